/-! THE REFERENCE: a game -/
section GMR
variable {m : Nat} {M0 : Mem} {T : TD} {S : SC} {r : Option RD}
theorem rq_nxt {M : Mem} (h : RQ m M0 M T S r none) : RQ m M0 (sI M (m + 1) 4 (nI (sT S + 1))) T (nxt S) r none ∧ ∀ a, 30 ≤ a → a ≤ 34 → mI (sI M (m + 1) 4 (nI (sT S + 1))) (m + a) = mI M (m + a) := by
  obtain ⟨q, hS, hr, hv⟩ := h
  refine ⟨⟨q.w1 (Or.inl rfl) _, ⟨⟨?_, ?_⟩, fun j hj => ?_, fun s hs => ?_⟩, ru_w hr _ (by omega) (Or.inr (by decide)), ?_⟩, fun a a1 a2 => sI_row (by omega)⟩
  · rw [mI_sI, if_pos ⟨rfl, rfl⟩]; rfl
  · rw [mI_sI, if_neg (by omega)]; exact hS.1.2
  · rw [sI_row (by omega)]; exact hS.2.1 j hj
  · rw [sI_row (by omega), sI_row (by omega)]; exact hS.2.2 s hs
  · unfold ROv
    rw [sI_row (by omega)]
    exact hv
theorem rq_tel {M : Mem} (h : RQ m M0 M T S r none) {s j : Nat} (hw : wts S s = true) (hs5 : s < tN T) : RQ m M0 (telM M m T S s j) T (telS T S s j) r none ∧ ∀ a, 30 ≤ a → a ≤ 34 → mI (telM M m T S s j) (m + a) = mI M (m + a) := by
  obtain ⟨q, hS, hr, hv⟩ := h
  have g := telM_G M m T S s j
  exact ⟨⟨g.QF q, telM_S hS hw hs5, g.ru hr, g.ov hv⟩, g.SX.2.2⟩
/-- how a play ends -/
def GPe (m : Nat) (M0 M : Mem) (T : TD) (S : SC) (p q n x : Nat) (v : Int32) (M' : Mem) : Prop := v = Int32.ofInt (gV T p q S n n x) ∧ RB m M0 M' ∧ mI M' (m + 32) = mI M (m + 32)
theorem p_end {M M1 : Mem} {S1 : SC} (hR0 : RIs (mS M0) (mR M0) m) (h : RQ m M0 M1 T S1 r none) (h32 : mI M1 (m + 32) = mI M (m + 32)) {p q n x : Nat} {v : Int32} (hv : v = Int32.ofInt (gV T p q S n n x)) : WP (f_X10_playOf_J161 m v M1) (GPe m M0 M T S p q n x) := by
  have hR := h.1.RI hR0
  unfold f_X10_playOf_J161
  repeat (first | ((with_reducible apply WP.ce); case h => (simp (disch := omega) only []; with_reducible rfl)) | ((with_reducible apply WP.bd); case h => (simp (disch := omega) only [e_gR, e_gI, e_aI, e_aL, e_oO, e_pI, e_wI, e_wL, Option.map_some, mS_sL, mR_sL, mI_sL, mS_sI, mR_sI, mL_sI, n_cl, ro_m hR]; with_reducible rfl)) | rw [nm_eq] | rw [ckZ_n1] | rw [ckZ_n0])
  refine WP.cw (q_back hR0 h) (fun _ M2 g => ?_)
  exact WP.ret ⟨hv, g.1, (g.2.2.2 32 (by omega) (by omega)).trans h32⟩
theorem p_fail {M M1 : Mem} {S1 : SC} (hR0 : RIs (mS M0) (mR M0) m) (h : RQ m M0 M1 T S1 r none) (h32 : mI M1 (m + 32) = mI M (m + 32)) {p q n x : Nat} (hv : gV T p q S n n x = -100000) : WP (f_X10_playOf_J139 m (nI p) (nI q) (nI 0) M1) (GPe m M0 M T S p q n x) := by
  unfold f_X10_playOf_J139
  exact WP.it rfl (p_end hR0 h h32 (by rw [hv]; rfl))
theorem p_done {M M1 : Mem} {S1 : SC} (hk : TOk T) (hR0 : RIs (mS M0) (mR M0) m) (hT0 : RT M0 m T) (h : RQ m M0 M1 T S1 r none) (hs1 : SOk S1) (h32 : mI M1 (m + 32) = mI M (m + 32)) {p q n x : Nat} (hp : p < tN T) (hq : q < tN T) (hrun : grun T p q S n x = some S1) : WP (f_X10_playOf_J139 m (nI p) (nI q) (nI 1) M1) (GPe m M0 M T S p q n x) := by
  have hR := h.1.RI hR0
  have hT := h.1.T hT0
  have a1 := r_earns hR hT hk h.2.1 hs1 hp
  have a2 := r_earns hR hT hk h.2.1 hs1 hq
  unfold f_X10_playOf_J139
  refine WP.ie (by decide) ?_
  repeat (first | ((with_reducible apply WP.ce); case h => (simp (disch := omega) only [a1, a2]; with_reducible rfl)) | ((with_reducible apply WP.bd); case h => (simp (disch := omega) only [e_gR, e_gI, e_aI, e_aL, e_oO, e_pI, e_wI, e_wL, Option.map_some, mS_sL, mR_sL, mI_sL, mS_sI, mR_sI, mL_sI, n_cl, ro_m hR]; with_reducible rfl)) | rw [nm_eq] | rw [ckZ_n1] | rw [ckZ_n0])
  refine p_end hR0 h h32 ?_
  unfold gV
  rw [hrun, Nat.sub_self]
  show nI (ern T S1 p) - nI (ern T S1 q) = Int32.ofInt (gE T p q S1 + sg n 0)
  have e : gE T p q S1 + sg n 0 = (ern T S1 p : Int) - (ern T S1 q : Int) := by unfold gE sg; split <;> omega
  rw [e, Int32.ofInt_sub, ofI_nat, ofI_nat]
theorem grun_none {p q x b : Nat} (hb : b = tJ T + 1) {n k : Nat} (h : grun T p q S k (x / b ^ (n - k)) = none) (hkn : k ≤ n) : grun T p q S n x = none := by
  obtain ⟨d, hd⟩ : ∃ d, n = k + d := ⟨n - k, by omega⟩
  subst hd
  rw [show k + d - k = d from by omega] at h
  clear hkn
  induction d generalizing x with
  | zero => rw [Nat.pow_zero, Nat.div_one] at h; exact h
  | succ d ih =>
    show (grun T p q S (k + d) (x / (tJ T + 1))).bind _ = none
    rw [← hb, ih (x := x / b) (by rw [Nat.div_div_eq_div_mul, Nat.mul_comm, ← Nat.pow_succ]; exact h)]
    rfl
theorem p_loop {M : Mem} (hk : TOk T) (hR0 : RIs (mS M0) (mR M0) m) (hT0 : RT M0 m T) {p q n x : Nat} (hp : p < tN T) (hq : q < tN T) (hn : n ≤ 3) (hx : x < 10000) (hS0 : sT S ≤ 999) :
    ∀ d k f (M1 : Mem) (S1 : SC), k + d = n → grun T p q S k (x / (tJ T + 1) ^ d) = some S1 → SOk S1 → sT S1 = sT S + k → RQ m M0 M1 T S1 r none → mI M1 (m + 32) = mI M (m + 32) → WP (f_X10_playOf_L10 m (f + d + 1) (nI p) (nI q) (nI n) (nI x) (nI ((tJ T + 1) ^ d)) (nI 1) (nI k) M1) (GPe m M0 M T S p q n x) := by
  have h8 := hk.1.2.2.1
  have h5 := hk.1.2.2.2
  intro d
  induction d with
  | zero =>
    intro k f M1 S1 hkn hrun hS1 hT1 h h32
    have e : k = n := by omega
    subst e
    rw [Nat.pow_zero, Nat.div_one] at hrun
    rw [f_X10_playOf_L10]
    exact WP.it (by rw [n_le (by omega) (by omega)]; omega) (p_done hk hR0 hT0 h hS1 h32 hp hq hrun)
  | succ d ih =>
    intro k f M1 S1 hkn hrun hS1 hT1 h h32
    have hR := h.1.RI hR0
    have hT := h.1.T hT0
    have t2 := hT.1.2.2.1
    have pw : (tJ T + 1) ^ d ≤ 729 := by
      calc (tJ T + 1) ^ d ≤ 9 ^ d := Nat.pow_le_pow_left (by omega) d
        _ ≤ 9 ^ 3 := Nat.pow_le_pow_right (by decide) (by omega)
        _ = 729 := by decide
    have pp : 0 < (tJ T + 1) ^ d := Nat.pow_pos (by omega)
    have pw2 : (tJ T + 1) ^ (d + 1) ≤ 6561 := by
      rw [Nat.pow_succ]
      calc (tJ T + 1) ^ d * (tJ T + 1) ≤ 729 * 9 := Nat.mul_le_mul pw (by omega)
        _ = 6561 := by decide
    have v3 : nI ((tJ T + 1) ^ (d + 1)) / (nI (tJ T) + nI 1) = nI ((tJ T + 1) ^ d) := by
      rw [n_add, n_div (by omega) (by omega), Nat.pow_succ, Nat.mul_div_cancel _ (by omega)]
    have hy : x / (tJ T + 1) ^ d ≤ x := Nat.div_le_self _ _
    obtain ⟨y, hyy⟩ : ∃ y, y = x / (tJ T + 1) ^ d := ⟨_, rfl⟩
    rw [← hyy] at hy
    have v6 : ((nI x / nI ((tJ T + 1) ^ d)) - (nI x / nI ((tJ T + 1) ^ d)) / (nI (tJ T) + nI 1) * (nI (tJ T) + nI 1)) - nI 1 = eP (ixo (y % (tJ T + 1))) := by
      rw [n_div (by omega) (by omega), n_add, ← hyy, n_md (by omega) (by omega), ixo_e]
    have eyd : y / (tJ T + 1) = x / (tJ T + 1) ^ (d + 1) := by rw [hyy, Nat.div_div_eq_div_mul, ← Nat.pow_succ]
    obtain ⟨i, hi⟩ : ∃ i, i = y % (tJ T + 1) := ⟨_, rfl⟩
    have hi1 : i < tJ T + 1 := by rw [hi]; exact Nat.mod_lt _ (by omega)
    obtain ⟨s, hs⟩ : ∃ s, s = mvr p q k := ⟨_, rfl⟩
    have hs5 : s < tN T := by rw [hs]; unfold mvr; split <;> assumption
    have nx : grun T p q S (k + 1) y = if gok S1 s (ixo i) then some (gnx T S1 s (ixo i)) else none := by
      rw [grun, eyd, hrun, hi, hs]; rfl
    have tail : gok S1 s (ixo i) = true → ∀ (M2 : Mem) (S2 : SC), nxt S2 = gnx T S1 s (ixo i) → sT S2 = sT S1 → SOk S2 → RQ m M0 M2 T S2 r none → mI M2 (m + 32) = mI M (m + 32) → WP (f_X10_playOf_J123 (f_X10_playOf_L10 m (f + d + 1)) m (nI p) (nI q) (nI n) (nI x) (nI ((tJ T + 1) ^ d)) (nI 1) (nI k) M2) (GPe m M0 M T S p q n x) := by
      intro ho M2 S2 en et hs2 h2 g32
      have hR2 := h2.1.RI hR0
      have e4 := h2.2.1.1.1
      obtain ⟨h3, g3⟩ := rq_nxt h2
      unfold f_X10_playOf_J123
      repeat (first | ((with_reducible apply WP.ce); case h => (simp (disch := omega) only []; with_reducible rfl)) | ((with_reducible apply WP.bd); case h => (simp (disch := omega) only [e_gR, e_gI, e_aI, e_aL, e_oO, e_pI, e_wI, e_wL, Option.map_some, mS_sL, mR_sL, mI_sL, mS_sI, mR_sI, mL_sI, n_cl, ro_m hR2, rr_scalar hR2, rx_scalar hR2, e4]; with_reducible rfl)) | rw [nm_eq] | rw [ckZ_n1] | rw [ckZ_n0])
      rw [n_add, n_add]
      refine ih (k + 1) f _ (gnx T S1 s (ixo i)) (by omega) (by rw [← hyy, nx, ho, if_pos rfl]) (by rw [← en]; exact nxt_ok hs2 (by omega)) (by rw [← en]; show sT S2 + 1 = _; omega) (by rw [← en]; exact h3) ((g3 32 (by omega) (by omega)).trans g32)
    have no : gok S1 s (ixo i) = false → WP (f_X10_playOf_J123 (f_X10_playOf_L10 m (f + d + 1)) m (nI p) (nI q) (nI n) (nI x) (nI ((tJ T + 1) ^ d)) (nI 0) (nI k) M1) (GPe m M0 M T S p q n x) := by
      intro ho
      have e4 := h.2.1.1.1
      obtain ⟨h3, g3⟩ := rq_nxt h
      have en : grun T p q S n x = none := by
        refine grun_none (b := tJ T + 1) rfl (k := k + 1) ?_ (by omega)
        rw [show n - (k + 1) = d from by omega, ← hyy, nx, ho, if_neg (by decide)]
      have ev : gV T p q S n n x = -100000 := by unfold gV; rw [en]; rfl
      unfold f_X10_playOf_J123
      repeat (first | ((with_reducible apply WP.ce); case h => (simp (disch := omega) only []; with_reducible rfl)) | ((with_reducible apply WP.bd); case h => (simp (disch := omega) only [e_gR, e_gI, e_aI, e_aL, e_oO, e_pI, e_wI, e_wL, Option.map_some, mS_sL, mR_sL, mI_sL, mS_sI, mR_sI, mL_sI, n_cl, ro_m hR, rr_scalar hR, rx_scalar hR, e4]; with_reducible rfl)) | rw [nm_eq] | rw [ckZ_n1] | rw [ckZ_n0])
      rw [n_add, n_add, f_X10_playOf_L10]
      have fin := p_fail (M := M) (p := p) (q := q) (n := n) (x := x) (S := S) hR0 h3 ((g3 32 (by omega) (by omega)).trans h32) ev
      by_cases e : n ≤ k + 1
      · exact WP.it (by rw [n_le (by omega) (by omega)]; exact e) fin
      · exact WP.ie (by rw [n_le (by omega) (by omega)]; exact e) (WP.it rfl fin)
    have key : WP (f_X10_playOf_J33 (f_X10_playOf_L10 m (f + d + 1)) m (nI p) (nI q) (nI n) (nI x) (nI ((tJ T + 1) ^ (d + 1))) (nI k) (nI s) M1) (GPe m M0 M T S p q n x) := by
      unfold f_X10_playOf_J33
      repeat (first | ((with_reducible apply WP.ce); case h => (simp (disch := omega) only []; with_reducible rfl)) | ((with_reducible apply WP.bd); case h => (simp (disch := omega) only [e_gR, e_gI, e_aI, e_aL, e_oO, e_pI, e_wI, e_wL, Option.map_some, mS_sL, mR_sL, mI_sL, mS_sI, mR_sI, mL_sI, n_cl, ro_m hR, rr_scalar hR, rx_scalar hR, t2]; with_reducible rfl)) | rw [nm_eq] | rw [ckZ_n1] | rw [ckZ_n0])
      refine WP.ie (by rw [n_add, nIz (by omega)]; omega) ?_
      rw [v3]
      refine WP.ie (by rw [nIz (by omega)]; omega) ?_
      repeat (first | ((with_reducible apply WP.ce); case h => (simp (disch := omega) only []; with_reducible rfl)) | ((with_reducible apply WP.bd); case h => (simp (disch := omega) only [e_gR, e_gI, e_aI, e_aL, e_oO, e_pI, e_wI, e_wL, Option.map_some, mS_sL, mR_sL, mI_sL, mS_sI, mR_sI, mL_sI, n_cl, ro_m hR, rr_scalar hR, rx_scalar hR, t2]; with_reducible rfl)) | rw [nm_eq] | rw [ckZ_n1] | rw [ckZ_n0])
      refine WP.ie (by rw [n_add, nIz (by omega)]; omega) ?_
      rw [v6, ← hi]
      repeat (first | ((with_reducible apply WP.ce); case h => (simp (disch := omega) only []; with_reducible rfl)) | ((with_reducible apply WP.bd); case h => (simp (disch := omega) only [e_gR, e_gI, e_aI, e_aL, e_oO, e_pI, e_wI, e_wL, Option.map_some, mS_sL, mR_sL, mI_sL, mS_sI, mR_sI, mL_sI, n_cl, ro_m hR]; with_reducible rfl)) | rw [nm_eq] | rw [ckZ_n1] | rw [ckZ_n0])
      unfold f_X10_playOf_J96 f_X10_playOf_J100 f_X10_playOf_J101
      cases hii : i with
      | zero =>
        have ho : gok S1 s (ixo i) = true := by rw [hii]; rfl
        refine WP.it rfl ?_
        refine WP.ie (by decide) ?_
        refine WP.it rfl ?_
        exact tail ho M1 S1 (by rw [hii]; rfl) rfl hS1 h h32
      | succ j =>
        have ex : ixo i = some j := by rw [hii, ixo_s]
        rw [ixo_s]
        have a1 := r_waits hR hT hk h.2.1 hS1 hs5
        have ek := (h.2.1.2.2 s hs5).1
        refine WP.ie (nm1 (a := j) (by omega)) ?_
        repeat (first | ((with_reducible apply WP.ce); case h => (simp (disch := omega) only [a1]; with_reducible rfl)) | ((with_reducible apply WP.bd); case h => (simp (disch := omega) only [e_gR, e_gI, e_aI, e_aL, e_oO, e_pI, e_wI, e_wL, Option.map_some, mS_sL, mR_sL, mI_sL, mS_sI, mR_sI, mL_sI, n_cl, ro_m hR]; with_reducible rfl)) | rw [nm_eq] | rw [ckZ_n1] | rw [ckZ_n0])
        cases hw : wts S1 s with
        | false =>
          refine WP.it rfl (WP.it rfl (no ?_))
          rw [ex]; show (wts S1 s && _) = false; rw [hw]; rfl
        | true =>
          refine WP.ie (show ¬ bI true = 0 by decide) ?_
          have hW := hS1.2.2.1 s
          have a2 := has_eq (x := sW S1 s) (j := j) (by omega) (by omega) M1
          have ej : eP (some j) = nI j := rfl
          rw [ej]
          repeat (first | ((with_reducible apply WP.ce); case h => (simp (disch := omega) only [a2]; with_reducible rfl)) | ((with_reducible apply WP.bd); case h => (simp (disch := omega) only [e_gR, e_gI, e_aI, e_aL, e_oO, e_pI, e_wI, e_wL, Option.map_some, mS_sL, mR_sL, mI_sL, mS_sI, mR_sI, mL_sI, n_cl, ro_m hR, rr_knows hR, rx_knows hR, ek]; with_reducible rfl)) | rw [nm_eq] | rw [ckZ_n1] | rw [ckZ_n0])
          cases hb : (sW S1 s).testBit j with
          | false =>
            refine WP.it rfl (WP.it rfl (no ?_))
            rw [ex]; show (wts S1 s && (sW S1 s).testBit j) = false; rw [hw, hb]; rfl
          | true =>
            have ho : gok S1 s (ixo i) = true := by rw [ex]; show (wts S1 s && (sW S1 s).testBit j) = true; rw [hw, hb]; rfl
            refine WP.ie (show ¬ bI true = 0 by decide) ?_
            refine WP.ie (by decide) ?_
            refine WP.ie (nm1 (a := j) (by omega)) ?_
            have a3 := r_tells hR hT hk h.2.1 hS1 hs5 (j := j) (by omega) hw
            obtain ⟨h3, g3⟩ := rq_tel h (j := j) hw hs5
            repeat (first | ((with_reducible apply WP.ce); case h => (simp (disch := omega) only [a3]; with_reducible rfl)) | ((with_reducible apply WP.bd); case h => (simp (disch := omega) only [e_gR, e_gI, e_aI, e_aL, e_oO, e_pI, e_wI, e_wL, Option.map_some, mS_sL, mR_sL, mI_sL, mS_sI, mR_sI, mL_sI, n_cl, ro_m hR]; with_reducible rfl)) | rw [nm_eq] | rw [ckZ_n1] | rw [ckZ_n0])
            exact tail ho _ (telS T S1 s j) (by rw [ex]; rfl) rfl (telS_ok hS1 s j) h3 ((g3 32 (by omega) (by omega)).trans h32)
    rw [show f + (d + 1) + 1 = (f + d + 1) + 1 from by omega, f_X10_playOf_L10]
    refine WP.ie (by rw [n_le (by omega) (by omega)]; omega) ?_
    refine WP.ie (by decide) ?_
    refine WP.ie (by decide) ?_
    rw [n_md (by omega) (by decide)]
    by_cases e2 : k % 2 = 0
    · refine WP.it (by rw [e2]; rfl) ?_
      rw [show s = p from by rw [hs]; exact if_pos e2] at key
      exact key
    · refine WP.ie (by rw [nIz (by omega)]; exact e2) ?_
      rw [show s = q from by rw [hs]; exact if_neg e2] at key
      exact key
theorem x_play {M : Mem} (hk : TOk T) (hs0 : SOk S) (hR0 : RIs (mS M0) (mR M0) m) (hT0 : RT M0 m T) (hSM : RS M0 m T S) (hrM : RRu M0 m r) {p q n x : Nat} (hp : p < tN T) (hq : q < tN T) (hn : n ≤ 3) (hx : x < (tJ T + 1) ^ n) (hS0 : sT S ≤ 999) (h : RB m M0 M) : WP (f_X10_playOf m (nI p) (nI q) (nI n) (nI x) (nI ((tJ T + 1) ^ n)) M) (GPe m M0 M T S p q n x) := by
  have h8 := hk.1.2.2.1
  have pw : (tJ T + 1) ^ n ≤ 729 := by
    calc (tJ T + 1) ^ n ≤ 9 ^ n := Nat.pow_le_pow_left (by omega) n
      _ ≤ 9 ^ 3 := Nat.pow_le_pow_right (by decide) (by omega)
      _ = 729 := by decide
  obtain ⟨f, hf⟩ := FUd n (by omega)
  rw [f_X10_playOf, hf]
  exact p_loop hk hR0 hT0 hp hq hn (by omega) hS0 n 0 f M S (by omega) rfl hs0 (by omega) (h.rq hk hSM hrM) rfl
theorem x_best {M : Mem} (hR : RIs (mS M) (mR M) m) {P : Nat → Int} {fr b : Nat} (hb : 0 < b) (hfb : fr + b ≤ 729) (hP : ∀ d, d < b → mI M (m + 32) (fr + d) = Int32.ofInt (P d)) (hB : ∀ d, -100000 ≤ P d ∧ P d ≤ 100000) (w : Bool) : WP (f_X10_bestAt m (nI fr) (nI b) (bI w) M) (fun v M' => v = nI (fr + bix P w (b - 1)) ∧ M' = M) := by
  have lp : ∀ e d f, d + 1 + e = b → WP (f_X10_bestAt_L8 m (f + e + 1) (nI fr) (nI b) (bI w) (nI (fr + bix P w d)) (nI (fr + (d + 1))) M) (fun v M' => v = nI (fr + bix P w (b - 1)) ∧ M' = M) := by
    intro e
    induction e with
    | zero =>
      intro d f hd
      rw [f_X10_bestAt_L8]
      refine WP.it (by rw [n_add, n_le (by omega) (by omega)]; omega) (WP.ret ⟨?_, rfl⟩)
      rw [show b - 1 = d from by omega]
    | succ e ih =>
      intro d f hd
      have e1 := hP (d + 1) (by omega)
      have hl := bix_le P w d
      have e2 := hP (bix P w d) (by omega)
      have b1 := hB (d + 1)
      have b2 := hB (bix P w d)
      have go : ∀ i, bix P w (d + 1) = i → WP (f_X10_bestAt_J74 (f_X10_bestAt_L8 m (f + e + 1)) m (nI fr) (nI b) (bI w) (nI (fr + i)) (nI (fr + (d + 1))) M) (fun v M' => v = nI (fr + bix P w (b - 1)) ∧ M' = M) := by
        intro i hi
        unfold f_X10_bestAt_J74
        rw [n_add, ← hi]
        exact ih (d + 1) f (by omega)
      rw [show f + (e + 1) + 1 = (f + e + 1) + 1 from by omega, f_X10_bestAt_L8]
      refine WP.ie (by rw [n_add, n_le (by omega) (by omega)]; omega) ?_
      repeat (first | ((with_reducible apply WP.ce); case h => (simp (disch := omega) only []; with_reducible rfl)) | ((with_reducible apply WP.bd); case h => (simp (disch := omega) only [e_gR, e_gI, e_aI, e_aL, e_oO, e_pI, e_wI, e_wL, Option.map_some, mS_sL, mR_sL, mI_sL, mS_sI, mR_sI, mL_sI, n_cl, ro_m hR, rr_plays hR, rx_plays hR, e1]; with_reducible rfl)) | rw [nm_eq] | rw [ckZ_n1] | rw [ckZ_n0])
      by_cases c1 : P (d + 1) = -100000
      · refine WP.it (by rw [c1]; rfl) (go _ ?_)
        rw [bix, if_neg (fun z => z.1 c1)]
      · refine WP.ie (by show ¬ Int32.ofInt (P (d + 1)) = Int32.ofInt (-100000); rw [ofI_inj (by omega) (by omega) (by omega) (by omega)]; exact c1) ?_
        unfold f_X10_bestAt_J70
        cases w with
        | false =>
          refine WP.it rfl ?_
          repeat (first | ((with_reducible apply WP.ce); case h => (simp (disch := omega) only []; with_reducible rfl)) | ((with_reducible apply WP.bd); case h => (simp (disch := omega) only [e_gR, e_gI, e_aI, e_aL, e_oO, e_pI, e_wI, e_wL, Option.map_some, mS_sL, mR_sL, mI_sL, mS_sI, mR_sI, mL_sI, n_cl, ro_m hR, rr_plays hR, rx_plays hR, e1, e2]; with_reducible rfl)) | rw [nm_eq] | rw [ckZ_n1] | rw [ckZ_n0])
          by_cases c2 : P (d + 1) < P (bix P false d)
          · refine WP.ie (by rw [ofI_le (by omega) (by omega) (by omega) (by omega)]; omega) (go _ ?_)
            rw [bix]; exact if_pos ⟨c1, c2⟩
          · refine WP.it (by rw [ofI_le (by omega) (by omega) (by omega) (by omega)]; omega) (go _ ?_)
            rw [bix]; exact if_neg (fun z => c2 z.2)
        | true =>
          refine WP.ie (show ¬ bI true = 0 by decide) ?_
          repeat (first | ((with_reducible apply WP.ce); case h => (simp (disch := omega) only []; with_reducible rfl)) | ((with_reducible apply WP.bd); case h => (simp (disch := omega) only [e_gR, e_gI, e_aI, e_aL, e_oO, e_pI, e_wI, e_wL, Option.map_some, mS_sL, mR_sL, mI_sL, mS_sI, mR_sI, mL_sI, n_cl, ro_m hR, rr_plays hR, rx_plays hR, e1, e2]; with_reducible rfl)) | rw [nm_eq] | rw [ckZ_n1] | rw [ckZ_n0])
          by_cases c2 : P (bix P true d) < P (d + 1)
          · refine WP.ie (by rw [ofI_le (by omega) (by omega) (by omega) (by omega)]; omega) (go _ ?_)
            rw [bix]; exact if_pos ⟨c1, c2⟩
          · refine WP.it (by rw [ofI_le (by omega) (by omega) (by omega) (by omega)]; omega) (go _ ?_)
            rw [bix]; exact if_neg (fun z => c2 z.2)
  unfold f_X10_bestAt
  rw [nm_eq, n_add]
  obtain ⟨f, hf⟩ := FUd (b - 1) (by omega)
  rw [hf]
  exact lp (b - 1) 0 f (by omega)
/-- the plays of all beginnings of k turns -/
def GPl (m : Nat) (M : Mem) (T : TD) (S : SC) (p q n k : Nat) : Prop := ∀ i, i < (tJ T + 1) ^ k → mI M (m + 32) i = Int32.ofInt (gV T p q S n k i)
theorem x_fold (hk : TOk T) (hR0 : RIs (mS M0) (mR M0) m) {p q n k w : Nat} (hpq : p ≠ q) (hn : n ≤ 3) (hkn : k < n) {K : Int32 → Int32 → Int32 → Int32 → Mem → Option (Int32 × Mem)} {Q : Int32 → Mem → Prop}
    (hK : ∀ M2, RB m M0 M2 → GPl m M2 T S p q n k → WP (K (nI w) (nI (tJ T + 1)) (nI ((tJ T + 1) ^ k)) (nI k + -1) M2) Q) :
    ∀ e y f (M1 : Mem), y + e = (tJ T + 1) ^ k → RB m M0 M1 → (∀ i, i < y → mI M1 (m + 32) i = Int32.ofInt (gV T p q S n k i)) → (∀ i, y ≤ i → i < (tJ T + 1) ^ (k + 1) → mI M1 (m + 32) i = Int32.ofInt (gV T p q S n (k + 1) i)) →
      WP (f_X10_game_L141 K m (f + e + 1) (nI w) (nI (tJ T + 1)) (nI ((tJ T + 1) ^ k)) (nI k) (nI y) M1) Q := by
  have h8 := hk.1.2.2.1
  have pw1 : (tJ T + 1) ^ (k + 1) ≤ 729 := by
    calc (tJ T + 1) ^ (k + 1) ≤ 9 ^ (k + 1) := Nat.pow_le_pow_left (by omega) (k + 1)
      _ ≤ 9 ^ 3 := Nat.pow_le_pow_right (by decide) (by omega)
      _ = 729 := by decide
  have pe : (tJ T + 1) ^ (k + 1) = (tJ T + 1) * (tJ T + 1) ^ k := by rw [Nat.pow_succ, Nat.mul_comm]
  have pw : (tJ T + 1) ^ k ≤ 729 := by
    have : 1 * (tJ T + 1) ^ k ≤ (tJ T + 1) * (tJ T + 1) ^ k := Nat.mul_le_mul_right _ (by omega)
    omega
  intro e
  induction e with
  | zero =>
    intro y f M1 hy hB h1 h2
    rw [f_X10_game_L141]
    exact WP.it (by rw [n_le (by omega) (by omega)]; omega) (hK M1 hB (fun i hi => h1 i (by omega)))
  | succ e ih =>
    intro y f M1 hy hB h1 h2
    have hR := hB.1.RI hR0
    have yb : (tJ T + 1) * y + (tJ T + 1) ≤ (tJ T + 1) ^ (k + 1) := by
      rw [pe, ← Nat.mul_succ]
      exact Nat.mul_le_mul_left _ (by omega)
    have ym : y ≤ (tJ T + 1) * y := Nat.le_mul_of_pos_left y (by omega)
    obtain ⟨P, hP⟩ : ∃ P : Nat → Int, P = fun d => gV T p q S n (k + 1) ((tJ T + 1) * y + d) := ⟨_, rfl⟩
    have hl := bix_le P (decide (k % 2 = 0)) (tJ T)
    have b1 := x_best hR (P := P) (fr := (tJ T + 1) * y) (b := tJ T + 1) (by omega) (by omega) (fun d hd => by rw [hP]; exact h2 _ (by omega) (by omega)) (fun d => by rw [hP]; show -100000 ≤ gV T p q S n (k + 1) ((tJ T + 1) * y + d) ∧ gV T p q S n (k + 1) ((tJ T + 1) * y + d) ≤ 100000; rcases gV_b hk p q S hn (k + 1) ((tJ T + 1) * y + d) with z | z <;> omega) (decide (k % 2 = 0))
    have ev := (gV_fold hk hpq (S := S) hn hkn y).1
    rw [← hP] at ev
    have go : WP (f_X10_game_J178 K (f_X10_game_L141 K m (f + e + 1)) m (nI w) (nI (tJ T + 1)) (nI ((tJ T + 1) ^ k)) (nI k) (nI y) (bI (decide (k % 2 = 0))) (nI (tJ T + 1)) (nI (tJ T + 1) * nI y) (some m) (some (m + 32)) (nI y) (some (m + 32)) M1) Q := by
      unfold f_X10_game_J178
      repeat (first | ((with_reducible apply WP.ce); case h => (simp (disch := omega) only []; with_reducible rfl)) | ((with_reducible apply WP.bd); case h => (simp (disch := omega) only [e_gR, e_gI, e_aI, e_aL, e_oO, e_pI, e_wI, e_wL, Option.map_some, mS_sL, mR_sL, mI_sL, mS_sI, mR_sI, mL_sI, n_cl, ro_m hR]; with_reducible rfl)) | rw [nm_eq] | rw [ckZ_n1] | rw [ckZ_n0])
      rw [n_mul]
      refine WP.cw b1 (fun v M2 c => ?_)
      obtain ⟨rfl, rfl⟩ := c
      rw [show tJ T + 1 - 1 = tJ T from rfl]
      have e2 := h2 ((tJ T + 1) * y + bix P (decide (k % 2 = 0)) (tJ T)) (by omega) (by omega)
      rw [ev] at e2
      obtain ⟨i, hi⟩ : ∃ i, i = (tJ T + 1) * y + bix P (decide (k % 2 = 0)) (tJ T) := ⟨_, rfl⟩
      have hi2 : i < 729 := by omega
      rw [← hi] at e2 ⊢
      repeat (first | ((with_reducible apply WP.ce); case h => (simp (disch := omega) only []; with_reducible rfl)) | ((with_reducible apply WP.bd); case h => (simp (disch := omega) only [e_gR, e_gI, e_aI, e_aL, e_oO, e_pI, e_wI, e_wL, Option.map_some, mS_sL, mR_sL, mI_sL, mS_sI, mR_sI, mL_sI, n_cl, rx_plays hR, e2]; with_reducible rfl)) | rw [nm_eq] | rw [ckZ_n1] | rw [ckZ_n0])
      rw [n_add]
      refine ih (y + 1) f _ (by omega) (hB.w (by omega) _ _) (fun i hi => ?_) (fun i hi hi2 => ?_)
      · rw [mI_sI]
        by_cases c : i = y
        · rw [if_pos ⟨rfl, c⟩, c]
        · rw [if_neg (fun z => c z.2)]; exact h1 i (by omega)
      · rw [mI_sI, if_neg (by omega)]
        exact h2 i (by omega) hi2
    rw [show f + (e + 1) + 1 = (f + e + 1) + 1 from by omega, f_X10_game_L141]
    refine WP.ie (by rw [n_le (by omega) (by omega)]; omega) ?_
    repeat (first | ((with_reducible apply WP.ce); case h => (simp (disch := omega) only []; with_reducible rfl)) | ((with_reducible apply WP.bd); case h => (simp (disch := omega) only [e_gR, e_gI, e_aI, e_aL, e_oO, e_pI, e_wI, e_wL, Option.map_some, mS_sL, mR_sL, mI_sL, mS_sI, mR_sI, mL_sI, n_cl, ro_m hR, rr_plays hR]; with_reducible rfl)) | rw [nm_eq] | rw [ckZ_n1] | rw [ckZ_n0])
    refine WP.ie (by decide) ?_
    rw [n_md (by omega) (by decide)]
    by_cases e2 : k % 2 = 0
    · refine WP.it (by rw [e2]; rfl) ?_
      rw [decide_eq_true e2] at go
      exact go
    · refine WP.ie (by rw [nIz (by omega)]; exact e2) ?_
      rw [decide_eq_false e2] at go
      exact go
theorem x_lev (hk : TOk T) (hR0 : RIs (mS M0) (mR M0) m) {p q n w : Nat} (hpq : p ≠ q) (hn : n ≤ 3) (hw1 : w ≤ 1) (hwp : wts S p = true) (hwq : wts S q = true) : ∀ k f (M1 : Mem), k < n → RB m M0 M1 → GPl m M1 T S p q n (k + 1) → WP (f_X10_game_L126 m (f + k + 1) (nI w) (nI (tJ T + 1)) (nI ((tJ T + 1) ^ (k + 1))) (nI k) M1) (fun v M' => v = gameA T S p q n w ∧ RA m M0 M') := by
  have h8 := hk.1.2.2.1
  intro k
  induction k with
  | zero =>
    intro f M1 hkn hB hG
    have hR := hB.1.RI hR0
    have p1 : (tJ T + 1) ^ (0 + 1) = tJ T + 1 := by rw [Nat.zero_add, Nat.pow_one]
    unfold GPl at hG
    rw [p1] at hG
    obtain ⟨P, hP⟩ : ∃ P : Nat → Int, P = fun d => gV T p q S n 1 ((tJ T + 1) * 0 + d) := ⟨_, rfl⟩
    have hPd : ∀ d, P d = gV T p q S n 1 d := fun d => by rw [hP]; show gV T p q S n 1 ((tJ T + 1) * 0 + d) = _; rw [Nat.mul_zero, Nat.zero_add]
    have hl := bix_le P true (tJ T)
    have b1 := x_best hR (P := P) (fr := 0) (b := tJ T + 1) (by omega) (by omega) (fun d hd => by rw [Nat.zero_add, hPd]; exact hG _ hd) (fun d => by rw [hPd]; rcases gV_b hk p q S hn 1 d with z | z <;> omega) true
    have hf := gV_fold hk hpq (S := S) hn hkn 0
    have ed : decide (0 % 2 = 0) = true := rfl
    rw [← hP, ed] at hf
    have e0 : gV T p q S n 0 0 = (gw T n p q S).1 := by
      show gE T p q S + sg 0 (gw T (n - 0) p q S).1 = _
      have a1 := (ern_tel (T := T) (j := 0) hwp).2
      have a2 := (ern_tel (T := T) (j := 0) hwq).2
      unfold gE sg
      rw [a1, a2, if_pos rfl, Nat.sub_zero]
      omega
    have ei : bix P true (tJ T) = (gw T n p q S).2 := hf.2 S rfl
    have ev := hf.1
    have ev : gV T p q S n (0 + 1) ((tJ T + 1) * 0 + bix P true (tJ T)) = gV T p q S n 0 0 := ev
    rw [e0, show (tJ T + 1) * 0 + bix P true (tJ T) = bix P true (tJ T) from by omega] at ev
    have eG := hG (bix P true (tJ T)) (by omega)
    rw [ev] at eG
    rw [f_X10_game_L126]
    refine WP.it (by decide) ?_
    repeat (first | ((with_reducible apply WP.ce); case h => (simp (disch := omega) only []; with_reducible rfl)) | ((with_reducible apply WP.bd); case h => (simp (disch := omega) only [e_gR, e_gI, e_aI, e_aL, e_oO, e_pI, e_wI, e_wL, Option.map_some, mS_sL, mR_sL, mI_sL, mS_sI, mR_sI, mL_sI, n_cl, ro_m hR]; with_reducible rfl)) | rw [nm_eq] | rw [ckZ_n1] | rw [ckZ_n0])
    refine WP.cw b1 (fun v M2 c => ?_)
    obtain ⟨rfl, rfl⟩ := c
    rw [show tJ T + 1 - 1 = tJ T from rfl, Nat.zero_add]
    unfold f_X10_game_J224 gameA
    by_cases c : w = 0
    · rw [if_pos c]
      refine WP.it (by rw [c]; rfl) ?_
      repeat (first | ((with_reducible apply WP.ce); case h => (simp (disch := omega) only []; with_reducible rfl)) | ((with_reducible apply WP.bd); case h => (simp (disch := omega) only [e_gR, e_gI, e_aI, e_aL, e_oO, e_pI, e_wI, e_wL, Option.map_some, mS_sL, mR_sL, mI_sL, mS_sI, mR_sI, mL_sI, n_cl, ro_m hR, rr_plays hR, rx_plays hR, eG]; with_reducible rfl)) | rw [nm_eq] | rw [ckZ_n1] | rw [ckZ_n0])
      exact WP.ret ⟨rfl, Or.inr hB⟩
    · rw [if_neg c]
      refine WP.ie (by rw [nIz (by omega)]; exact c) ?_
      exact WP.ret ⟨by rw [ixo_e, ei], Or.inr hB⟩
  | succ k ih =>
    intro f M1 hkn hB hG
    have hR := hB.1.RI hR0
    have pw : (tJ T + 1) ^ (k + 1 + 1) ≤ 729 := by
      calc (tJ T + 1) ^ (k + 1 + 1) ≤ 9 ^ (k + 1 + 1) := Nat.pow_le_pow_left (by omega) (k + 1 + 1)
        _ ≤ 9 ^ 3 := Nat.pow_le_pow_right (by decide) (by omega)
        _ = 729 := by decide
    have pw' : (tJ T + 1) ^ (k + 1) ≤ 729 := by
      calc (tJ T + 1) ^ (k + 1) ≤ 9 ^ (k + 1) := Nat.pow_le_pow_left (by omega) (k + 1)
        _ ≤ 9 ^ 3 := Nat.pow_le_pow_right (by decide) (by omega)
        _ = 729 := by decide
    have v5 : nI ((tJ T + 1) ^ (k + 1 + 1)) / nI (tJ T + 1) = nI ((tJ T + 1) ^ (k + 1)) := by
      rw [n_div (by omega) (by omega), Nat.pow_succ, Nat.mul_div_cancel _ (by omega)]
    rw [show f + (k + 1) + 1 = (f + k + 1) + 1 from by omega, f_X10_game_L126]
    refine WP.ie (by show ¬ nI (k + 1) ≤ nI 0; rw [n_le (by omega) (by omega)]; omega) ?_
    refine WP.ie (by rw [nIz (by omega)]; omega) ?_
    rw [nm_eq, v5]
    obtain ⟨f2, hf2⟩ := FUd ((tJ T + 1) ^ (k + 1)) (by omega)
    rw [hf2]
    refine x_fold hk hR0 hpq hn hkn (fun M2 hB2 hG2 => ?_) ((tJ T + 1) ^ (k + 1)) 0 f2 M1 (by omega) hB (fun i hi => absurd hi (Nat.not_lt_zero i)) (fun i _ hi => hG i hi)
    rw [show nI (k + 1) + -1 = nI k from by rw [show (-1 : Int32) = - nI 1 from rfl, ← Int32.sub_eq_add_neg, n_sub (by omega)]; rfl]
    exact ih f M2 (by omega) hB2 hG2
theorem x_game (h : RE m M0 T S r) (a b c d : Int32) : WP (f_X10_game m a b c d M0) (fun v M => v = q_game T S a b c d ∧ RA m M0 M) := by
  obtain ⟨⟨hR, hT, hS, hr, hv⟩, hk, hs, hs9⟩ := h
  have h8 := hk.1.2.2.1
  have h5 := hk.1.2.2.2
  have a1 := r_waitsI hR hT hk hS hs a
  have a2 := r_waitsI hR hT hk hS hs b
  have a3 := in_13 c M0
  have a4 := in_01 d M0
  unfold f_X10_game f_X10_game_J44 q_game
  repeat (first | ((with_reducible apply WP.ce); case h => (simp (disch := omega) only [a1]; with_reducible rfl)) | ((with_reducible apply WP.bd); case h => (simp (disch := omega) only [e_gR, e_gI, e_aI, e_aL, e_oO, e_pI, e_wI, e_wL, Option.map_some, mS_sL, mR_sL, mI_sL, mS_sI, mR_sI, mL_sI, n_cl, ro_m hR]; with_reducible rfl)) | rw [nm_eq] | rw [ckZ_n1] | rw [ckZ_n0])
  cases ha : wtI T S a with
  | false => exact WP.it rfl (WP.ret ⟨rfl, Or.inl rfl⟩)
  | true =>
    refine WP.ie (show ¬ bI true = 0 by decide) ?_
    repeat (first | ((with_reducible apply WP.ce); case h => (simp (disch := omega) only [a2]; with_reducible rfl)) | ((with_reducible apply WP.bd); case h => (simp (disch := omega) only [e_gR, e_gI, e_aI, e_aL, e_oO, e_pI, e_wI, e_wL, Option.map_some, mS_sL, mR_sL, mI_sL, mS_sI, mR_sI, mL_sI, n_cl, ro_m hR]; with_reducible rfl)) | rw [nm_eq] | rw [ckZ_n1] | rw [ckZ_n0])
    cases hb : wtI T S b with
    | false => exact WP.it rfl (WP.ret ⟨rfl, Or.inl rfl⟩)
    | true =>
      refine WP.ie (show ¬ bI true = 0 by decide) ?_
      by_cases hab : a = b
      · refine WP.it hab (WP.ret ⟨?_, Or.inl rfl⟩)
        rw [decide_eq_false (fun z => z hab)]; rfl
      · refine WP.ie hab ?_
        rw [decide_eq_true hab]
        repeat (first | ((with_reducible apply WP.ce); case h => (simp (disch := omega) only [a3]; with_reducible rfl)) | ((with_reducible apply WP.bd); case h => (simp (disch := omega) only [e_gR, e_gI, e_aI, e_aL, e_oO, e_pI, e_wI, e_wL, Option.map_some, mS_sL, mR_sL, mI_sL, mS_sI, mR_sI, mL_sI, n_cl, ro_m hR]; with_reducible rfl)) | rw [nm_eq] | rw [ckZ_n1] | rw [ckZ_n0])
        cases hc : inR c 1 3 with
        | false => exact WP.it rfl (WP.ret ⟨rfl, Or.inl rfl⟩)
        | true =>
          refine WP.ie (show ¬ bI true = 0 by decide) ?_
          repeat (first | ((with_reducible apply WP.ce); case h => (simp (disch := omega) only [a4]; with_reducible rfl)) | ((with_reducible apply WP.bd); case h => (simp (disch := omega) only [e_gR, e_gI, e_aI, e_aL, e_oO, e_pI, e_wI, e_wL, Option.map_some, mS_sL, mR_sL, mI_sL, mS_sI, mR_sI, mL_sI, n_cl, ro_m hR]; with_reducible rfl)) | rw [nm_eq] | rw [ckZ_n1] | rw [ckZ_n0])
          cases hd : inR d 0 1 with
          | false => exact WP.it rfl (WP.ret ⟨rfl, Or.inl rfl⟩)
          | true =>
            refine WP.ie (show ¬ bI true = 0 by decide) ?_
            rw [show (true && true && true && true && true) = true from rfl, if_pos rfl]
            obtain ⟨n, rfl, n1, n2, n3⟩ := inR_t hc (by decide)
            obtain ⟨w, rfl, w1, w2, w3⟩ := inR_t hd (by decide)
            obtain ⟨p, rfl, hp1, hwp⟩ := wtI_t hk ha
            obtain ⟨q, rfl, hq1, hwq⟩ := wtI_t hk hb
            have hpq : p ≠ q := fun z => hab (by rw [z])
            rw [n_cl n3, n_cl w3, n_cl (by omega), n_cl (by omega)]
            have t2 := hT.1.2.2.1
            repeat (first | ((with_reducible apply WP.ce); case h => (simp (disch := omega) only []; with_reducible rfl)) | ((with_reducible apply WP.bd); case h => (simp (disch := omega) only [e_gR, e_gI, e_aI, e_aL, e_oO, e_pI, e_wI, e_wL, Option.map_some, mS_sL, mR_sL, mI_sL, mS_sI, mR_sI, mL_sI, n_cl, ro_m hR, rr_scalar hR, rx_scalar hR, t2]; with_reducible rfl)) | rw [nm_eq] | rw [ckZ_n1] | rw [ckZ_n0])
            rw [n_add]
            have pw : ∀ k, k ≤ 3 → (tJ T + 1) ^ k ≤ 729 := fun k hk3 => by
              calc (tJ T + 1) ^ k ≤ 9 ^ k := Nat.pow_le_pow_left (by omega) k
                _ ≤ 9 ^ 3 := Nat.pow_le_pow_right (by decide) hk3
                _ = 729 := by decide
            have pwn := pw n (by omega)
            have pl : ∀ e x f (M1 : Mem), x + e = (tJ T + 1) ^ n → RB m M0 M1 → (∀ i, i < x → mI M1 (m + 32) i = Int32.ofInt (gV T p q S n n i)) → WP (f_X10_game_L90 m (f + e + 1) (nI p) (nI q) (nI n) (nI w) (nI (tJ T + 1)) (nI ((tJ T + 1) ^ n)) (nI x) M1) (fun v M => v = gameA T S p q n w ∧ RA m M0 M) := by
              intro e
              induction e with
              | zero =>
                intro x f M1 hx hB hG
                have ex : x = (tJ T + 1) ^ n := by omega
                rw [f_X10_game_L90]
                refine WP.it (by rw [n_le (by omega) (by omega)]; omega) ?_
                rw [nm_eq, n_sub (by omega)]
                obtain ⟨k, rfl⟩ : ∃ k, n = k + 1 := ⟨n - 1, by omega⟩
                obtain ⟨f2, hf2⟩ := FUd k (by omega)
                rw [hf2, show k + 1 - 1 = k from rfl]
                exact x_lev hk hR hpq (by omega) (by omega) hwp hwq k f2 M1 (by omega) hB (fun i hi => hG i (by omega))
              | succ e ih =>
                intro x f M1 hx hB hG
                have hR1 := hB.1.RI hR
                rw [show f + (e + 1) + 1 = (f + e + 1) + 1 from by omega, f_X10_game_L90]
                refine WP.ie (by rw [n_le (by omega) (by omega)]; omega) ?_
                repeat (first | ((with_reducible apply WP.ce); case h => (simp (disch := omega) only []; with_reducible rfl)) | ((with_reducible apply WP.bd); case h => (simp (disch := omega) only [e_gR, e_gI, e_aI, e_aL, e_oO, e_pI, e_wI, e_wL, Option.map_some, mS_sL, mR_sL, mI_sL, mS_sI, mR_sI, mL_sI, n_cl, ro_m hR1, rr_plays hR1]; with_reducible rfl)) | rw [nm_eq] | rw [ckZ_n1] | rw [ckZ_n0])
                refine WP.cw (x_play hk hs hR hT hS hr hp1 hq1 (by omega) (x := x) (by omega) hs9 hB) (fun v M2 g => ?_)
                obtain ⟨rfl, hB2, g32⟩ := g
                have hR2 := hB2.1.RI hR
                repeat (first | ((with_reducible apply WP.ce); case h => (simp (disch := omega) only []; with_reducible rfl)) | ((with_reducible apply WP.bd); case h => (simp (disch := omega) only [e_gR, e_gI, e_aI, e_aL, e_oO, e_pI, e_wI, e_wL, Option.map_some, mS_sL, mR_sL, mI_sL, mS_sI, mR_sI, mL_sI, n_cl, rx_plays hR2]; with_reducible rfl)) | rw [nm_eq] | rw [ckZ_n1] | rw [ckZ_n0])
                rw [n_add]
                refine ih (x + 1) f _ (by omega) (hB2.w (by omega) _ _) (fun i hi => ?_)
                rw [mI_sI]
                by_cases c : i = x
                · rw [if_pos ⟨rfl, c⟩, c]
                · rw [if_neg (fun z => c z.2), g32]; exact hG i (by omega)
            have lp : ∀ d k f, k + d = n → WP (f_X10_game_L64 m (f + d + 1) (nI p) (nI q) (nI n) (nI w) (nI (tJ T + 1)) (nI ((tJ T + 1) ^ k)) (nI k) M0) (fun v M => v = gameA T S p q n w ∧ RA m M0 M) := by
              intro d
              induction d with
              | zero =>
                intro k f hkn
                have e : k = n := by omega
                rw [f_X10_game_L64]
                refine WP.it (by rw [n_le (by omega) (by omega)]; omega) ?_
                repeat (first | ((with_reducible apply WP.ce); case h => (simp (disch := omega) only []; with_reducible rfl)) | ((with_reducible apply WP.bd); case h => (simp (disch := omega) only [e_gR, e_gI, e_aI, e_aL, e_oO, e_pI, e_wI, e_wL, Option.map_some, mS_sL, mR_sL, mI_sL, mS_sI, mR_sI, mL_sI, n_cl, ro_m hR]; with_reducible rfl)) | rw [nm_eq] | rw [ckZ_n1] | rw [ckZ_n0])
                refine WP.cw (q_keeps hR hv) (fun _ M1 g => ?_)
                obtain ⟨f2, hf2⟩ := FUd ((tJ T + 1) ^ n) (by omega)
                rw [e, hf2]
                exact pl ((tJ T + 1) ^ n) 0 f2 M1 (by omega) g.1 (fun i hi => absurd hi (Nat.not_lt_zero i))
              | succ d ih =>
                intro k f hkn
                rw [show f + (d + 1) + 1 = (f + d + 1) + 1 from by omega, f_X10_game_L64]
                refine WP.ie (by rw [n_le (by omega) (by omega)]; omega) ?_
                rw [nm_eq, n_mul, n_add]
                exact ih (k + 1) f (by omega)
            obtain ⟨f, hf⟩ := FUd n (by omega)
            rw [hf]
            exact lp n 0 f (by omega)
end GMR
