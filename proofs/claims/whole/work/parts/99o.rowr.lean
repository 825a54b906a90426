/-! THE REFERENCE: a row tried -/
theorem n_div {a b : Nat} (ha : a < 2 ^ 31) (hb : b < 2 ^ 31) : nI a / nI b = nI (a / b) := by
  have h1 := Nat.div_le_self a b
  rw [fa_eq, Int32.toInt_div, nI_toInt ha, nI_toInt hb, nI_toInt (by omega), ← Int.ofNat_tdiv]
  obtain ⟨k, hk⟩ : ∃ k, k = a / b := ⟨_, rfl⟩
  rw [← hk] at h1 ⊢
  exact Int.bmod_eq_of_le_mul_two (by omega) (by omega)
def dgt (b n x q : Nat) : Nat := x / b ^ (n - 1 - q) % b
def dgo (b n x q : Nat) : Option Nat := if dgt b n x q = 0 then none else some (dgt b n x q - 1)
theorem dgo_e {b n x q : Nat} : nI (dgt b n x q) - nI 1 = eP (dgo b n x q) := by
  unfold dgo
  by_cases h : dgt b n x q = 0
  · rw [if_pos h, h]; decide
  · rw [if_neg h, n_sub (by omega)]; rfl
def rstep (T : TD) (r : Option RD) (s : Nat) (c : Option Nat) (S : SC) : Option SC := if c.elim true (fun j => wts S s && (sW S s).testBit j) then some (tide1 T r (some (s, c)) S) else none
def rrun (T : TD) (r : Option RD) (s n x : Nat) (S : SC) : Nat → Option SC
  | 0 => some S
  | q + 1 => (rrun T r s n x S q).bind (rstep T r s (dgo (tJ T + 1) n x q))
def pbr (T : TD) (r : Option RD) (s n x : Nat) (S : SC) : Nat := ((rrun T r s n x S n).bind (fun S' => sP S' s)).getD 100000
theorem rrun_none {T : TD} {r : Option RD} {s n x : Nat} {S : SC} {q : Nat} (h : rrun T r s n x S q = none) : ∀ d, rrun T r s n x S (q + d) = none
  | 0 => h
  | d + 1 => by
    show (rrun T r s n x S (q + d)).bind _ = none
    rw [rrun_none h d]; rfl
section RWR
variable {m : Nat} {M0 : Mem} {T : TD} {S : SC} {r : Option RD}
theorem q_ov {M : Mem} (q : QF m M0 M) (hS : RS M m T S) (hr : RRu M m r) {k : Nat} (hk : k = 38 ∨ k = 39) (v : Int32) : QF m M0 (sI M m k v) ∧ RS (sI M m k v) m T S ∧ RRu (sI M m k v) m r := by
  refine ⟨⟨q.1, fun a ha => ?_, fun j j1 j2 j3 j4 j5 => ?_, fun j j1 j2 j3 j4 => ?_, fun i hi => by rw [sI_row (by omega)]; exact q.2.2.2.2.1 i hi, ?_⟩, ?_, hr.of (fun a a1 a2 => sI_row (by omega)) (by rw [sI_row (by omega)])⟩
  · by_cases e : a = m
    · omega
    · rw [sI_row e]; exact q.2.1 a ha
  · rw [sI_row (by omega)]; exact q.2.2.1 j j1 j2 j3 j4 j5
  · rw [mI_sI, if_neg (by omega)]; exact q.2.2.2.1 j j1 j2 j3 j4
  · unfold KPq
    rw [sI_row (by omega)]
    exact q.2.2.2.2.2
  · unfold RS
    rw [sI_row (by omega), sI_row (by omega), sI_row (by omega), sI_row (by omega)]
    exact hS
/-- the row at work -/
def RWk (m : Nat) (M0 M M1 : Mem) (T : TD) (S : SC) (r : Option RD) (s n x q : Nat) : Prop := (QF m M0 M1 ∧ RS M1 m T S ∧ RRu M1 m r ∧ mI M1 m 38 = nI s) ∧ mI M1 (m + 31) = mI M (m + 31) ∧ ∀ i, i < q → mI M1 (m + 30) i = eP (dgo (tJ T + 1) n x i)
/-- how a row's trial ends -/
def RWe (m : Nat) (M0 M : Mem) (T : TD) (S : SC) (r : Option RD) (s n x : Nat) (v : Int32) (M' : Mem) : Prop := v = nI (pbr T r s n x S) ∧ RB m M0 M' ∧ mI M' (m + 31) = mI M (m + 31) ∧ (pbr T r s n x S < 100000 → ∀ i, i < n → mI M' (m + 30) i = eP (dgo (tJ T + 1) n x i))
theorem w_end {M M1 : Mem} {S1 : SC} (hR0 : RIs (mS M0) (mR M0) m) (hq : QF m M0 M1) (hS : RS M1 m T S1) (hr : RRu M1 m r) (h38 : mI M1 m 38 = -1) (h31 : mI M1 (m + 31) = mI M (m + 31)) {s n x : Nat} {v : Int32} (hv : v = nI (pbr T r s n x S)) (h30 : pbr T r s n x S < 100000 → ∀ i, i < n → mI M1 (m + 30) i = eP (dgo (tJ T + 1) n x i)) : WP (f_X10_passesByRow_J156 m v M1) (RWe m M0 M T S r s n x) := by
  have hR := hq.RI hR0
  unfold f_X10_passesByRow_J156
  repeat (first | ((with_reducible apply WP.ce); case h => (simp (disch := omega) only []; with_reducible rfl)) | ((with_reducible apply WP.bd); case h => (simp (disch := omega) only [e_gR, e_gI, e_aI, e_aL, e_oO, e_pI, e_wI, e_wL, Option.map_some, mS_sL, mR_sL, mI_sL, mS_sI, mR_sI, mL_sI, n_cl, ro_m hR]; with_reducible rfl)) | rw [nm_eq] | rw [ckZ_n1] | rw [ckZ_n0])
  refine WP.cw (q_back hR0 (show RQ m M0 M1 T S1 r none from ⟨hq, hS, hr, h38⟩)) (fun _ M2 g => ?_)
  exact WP.ret ⟨hv, g.1, (g.2.2.2 31 (by omega) (by omega)).trans h31, fun z i hi => by rw [g.2.2.2 30 (by omega) (by omega)]; exact h30 z i hi⟩
/-- a row that may not be told -/
theorem w_fail {M M1 : Mem} {S1 : SC} (hR0 : RIs (mS M0) (mR M0) m) (hq : QF m M0 M1) (hS : RS M1 m T S1) (hr : RRu M1 m r) (h31 : mI M1 (m + 31) = mI M (m + 31)) {s n x : Nat} (hp : pbr T r s n x S = 100000) : WP (f_X10_passesByRow_J124 m (nI s) (nI 0) M1) (RWe m M0 M T S r s n x) := by
  have hR := hq.RI hR0
  obtain ⟨q1, q2, q3⟩ := q_ov hq hS hr (Or.inl rfl) (-1)
  unfold f_X10_passesByRow_J124 f_X10_passesByRow_J153
  repeat (first | ((with_reducible apply WP.ce); case h => (simp (disch := omega) only []; with_reducible rfl)) | ((with_reducible apply WP.bd); case h => (simp (disch := omega) only [e_gR, e_gI, e_aI, e_aL, e_oO, e_pI, e_wI, e_wL, Option.map_some, mS_sL, mR_sL, mI_sL, mS_sI, mR_sI, mL_sI, n_cl, ro_m hR]; with_reducible rfl)) | rw [nm_eq] | rw [ckZ_n1] | rw [ckZ_n0])
  refine WP.it rfl ?_
  exact w_end hR0 q1 q2 q3 (by rw [mI_sI, if_pos ⟨rfl, rfl⟩]) (by rw [sI_row (by omega)]; exact h31) (by rw [hp]) (fun z => by omega)
/-- a row told to its end -/
theorem w_done {M M1 : Mem} {S1 : SC} (hR0 : RIs (mS M0) (mR M0) m) {s n x : Nat} (hk : TOk T) (hs : s < tN T) (hrun : rrun T r s n x S n = some S1) (hS1 : SOk S1) (h : RWk m M0 M M1 T S1 r s n x n) : WP (f_X10_passesByRow_J124 m (nI s) (nI 1) M1) (RWe m M0 M T S r s n x) := by
  obtain ⟨⟨hq, hS, hr, h38⟩, h31, h30⟩ := h
  have h5 := hk.1.2.2.2
  obtain ⟨q1, q2, q3⟩ := q_ov hq hS hr (Or.inl rfl) (-1)
  have ep : pbr T r s n x S = (sP S1 s).getD 100000 := by unfold pbr; rw [hrun]; rfl
  obtain ⟨M2, hM2⟩ : ∃ M2, M2 = sI M1 m 38 (-1) := ⟨_, rfl⟩
  rw [← hM2] at q1 q2 q3
  have hR := hq.RI hR0
  have hR2 := q1.RI hR0
  have g38 : mI M2 m 38 = -1 := by rw [hM2, mI_sI, if_pos ⟨rfl, rfl⟩]
  have g31 : mI M2 (m + 31) = mI M (m + 31) := by rw [hM2, sI_row (by omega)]; exact h31
  have g30 : ∀ i, i < n → mI M2 (m + 30) i = eP (dgo (tJ T + 1) n x i) := fun i hi => by rw [hM2, sI_row (by omega)]; exact h30 i hi
  have pv := (q2.2.2 s hs).2
  unfold f_X10_passesByRow_J124 f_X10_passesByRow_J153
  repeat (first | ((with_reducible apply WP.ce); case h => (simp (disch := omega) only []; with_reducible rfl)) | ((with_reducible apply WP.bd); case h => (simp (disch := omega) only [e_gR, e_gI, e_aI, e_aL, e_oO, e_pI, e_wI, e_wL, Option.map_some, mS_sL, mR_sL, mI_sL, mS_sI, mR_sI, mL_sI, n_cl, ro_m hR, ← hM2]; with_reducible rfl)) | rw [nm_eq] | rw [ckZ_n1] | rw [ckZ_n0])
  refine WP.ie (by decide) ?_
  repeat (first | ((with_reducible apply WP.ce); case h => (simp (disch := omega) only []; with_reducible rfl)) | ((with_reducible apply WP.bd); case h => (simp (disch := omega) only [e_gR, e_gI, e_aI, e_aL, e_oO, e_pI, e_wI, e_wL, Option.map_some, mS_sL, mR_sL, mI_sL, mS_sI, mR_sI, mL_sI, n_cl, ro_m hR2, rr_passed hR2, rx_passed hR2, pv]; with_reducible rfl)) | rw [nm_eq] | rw [ckZ_n1] | rw [ckZ_n0])
  cases hp : sP S1 s with
  | none =>
    rw [hp] at ep
    exact WP.it rfl (w_end hR0 q1 q2 q3 g38 g31 (by rw [ep]; rfl) (fun _ => g30))
  | some t =>
    have ht := hS1.2.2.2 s t hp
    have ht2 := hS1.1
    rw [hp] at ep pv
    refine WP.ie (nm1 (a := t) (by omega)) ?_
    repeat (first | ((with_reducible apply WP.ce); case h => (simp (disch := omega) only []; with_reducible rfl)) | ((with_reducible apply WP.bd); case h => (simp (disch := omega) only [e_gR, e_gI, e_aI, e_aL, e_oO, e_pI, e_wI, e_wL, Option.map_some, mS_sL, mR_sL, mI_sL, mS_sI, mR_sI, mL_sI, n_cl, ro_m hR2, rr_passed hR2, rx_passed hR2, pv]; with_reducible rfl)) | rw [nm_eq] | rw [ckZ_n1] | rw [ckZ_n0])
    exact w_end hR0 q1 q2 q3 g38 g31 (by rw [ep]; rfl) (fun _ => g30)
theorem w_loop {M : Mem} (hk : TOk T) (hR0 : RIs (mS M0) (mR M0) m) (hT0 : RT M0 m T) {s n x : Nat} (hs : s < tN T) (hn : n ≤ 4) (hx : x < 10000) (hS0 : sT S ≤ 999) :
    ∀ d q f (M1 : Mem) (S1 : SC), q + d = n → rrun T r s n x S q = some S1 → SOk S1 → sT S1 = sT S + q → RWk m M0 M M1 T S1 r s n x q → WP (f_X10_passesByRow_L15 m (f + d + 1) (nI s) (nI n) (nI x) (nI ((tJ T + 1) ^ d)) (nI 1) (nI q) M1) (RWe m M0 M T S r s n x) := by
  have h8 := hk.1.2.2.1
  have h5 := hk.1.2.2.2
  intro d
  induction d with
  | zero =>
    intro q f M1 S1 hq hrun hS1 hT1 h
    have e : q = n := by omega
    subst e
    rw [f_X10_passesByRow_L15]
    exact WP.it (by rw [n_le (by omega) (by omega)]; omega) (w_done hR0 hk hs hrun hS1 h)
  | succ d ih =>
    intro q f M1 S1 hq hrun hS1 hT1 h
    obtain ⟨⟨qf, hS, hr, h38⟩, h31, h30⟩ := h
    have hR := qf.RI hR0
    have hT := qf.T hT0
    have t2 := hT.1.2.2.1
    have pw : (tJ T + 1) ^ d ≤ 6561 := by
      calc (tJ T + 1) ^ d ≤ 9 ^ d := Nat.pow_le_pow_left (by omega) d
        _ ≤ 9 ^ 4 := Nat.pow_le_pow_right (by decide) (by omega)
        _ = 6561 := by decide
    have pp : 0 < (tJ T + 1) ^ d := Nat.pow_pos (by omega)
    have pw2 : (tJ T + 1) ^ (d + 1) ≤ 59049 := by
      rw [Nat.pow_succ]
      calc (tJ T + 1) ^ d * (tJ T + 1) ≤ 6561 * 9 := Nat.mul_le_mul pw (by omega)
        _ = 59049 := by decide
    have v3 : nI ((tJ T + 1) ^ (d + 1)) / (nI (tJ T) + nI 1) = nI ((tJ T + 1) ^ d) := by
      rw [n_add, n_div (by omega) (by omega), Nat.pow_succ, Nat.mul_div_cancel _ (by omega)]
    have ed : dgt (tJ T + 1) n x q = x / (tJ T + 1) ^ d % (tJ T + 1) := by
      unfold dgt
      rw [show n - 1 - q = d from by omega]
    have hy : x / (tJ T + 1) ^ d ≤ x := Nat.div_le_self _ _
    have v39 : ((nI x / nI ((tJ T + 1) ^ d)) - (nI x / nI ((tJ T + 1) ^ d)) / (nI (tJ T) + nI 1) * (nI (tJ T) + nI 1)) - nI 1 = eP (dgo (tJ T + 1) n x q) := by
      rw [← dgo_e, ed, n_div (by omega) (by omega), n_add, n_div (by omega) (by omega), n_mul, n_sub (Nat.div_mul_le_self _ _)]
      congr 2
      have := Nat.div_add_mod (x / (tJ T + 1) ^ d) (tJ T + 1)
      rw [Nat.mul_comm] at this
      omega
    obtain ⟨c, hc⟩ : ∃ c, c = dgo (tJ T + 1) n x q := ⟨_, rfl⟩
    have hcj : ∀ j, c = some j → j < tJ T := fun j e => by
      rw [hc] at e
      unfold dgo at e
      have hm : dgt (tJ T + 1) n x q < tJ T + 1 := by rw [ed]; exact Nat.mod_lt _ (by omega)
      split at e
      · cases e
      · cases e; omega
    obtain ⟨M2, hM2⟩ : ∃ M2, M2 = sI M1 m 39 (eP c) := ⟨_, rfl⟩
    obtain ⟨q1, q2, q3⟩ := q_ov qf hS hr (Or.inr rfl) (eP c)
    rw [← hM2] at q1 q2 q3
    have hR2 := q1.RI hR0
    have g39 : mI M2 m 39 = eP c := by rw [hM2, mI_sI, if_pos ⟨rfl, rfl⟩]
    have g38 : mI M2 m 38 = nI s := by rw [hM2, mI_sI, if_neg (by omega)]; exact h38
    obtain ⟨M3, hM3⟩ : ∃ M3, M3 = sI M2 (m + 30) q (eP c) := ⟨_, rfl⟩
    have rq2 : RQ m M0 M2 T S1 r (some (s, c)) := ⟨q1, q2, q3, (⟨g38, g39⟩ : mI M2 m 38 = nI s ∧ mI M2 m 39 = eP c)⟩
    have rq3 : RQ m M0 M3 T S1 r (some (s, c)) := by rw [hM3]; exact rq2.w (by omega) _ _
    have hR3 := rq3.1.RI hR0
    have k39 : mI M3 m 39 = eP c := rq3.2.2.2.2
    have k31 : mI M3 (m + 31) = mI M (m + 31) := by rw [hM3, sI_row (by omega), hM2, sI_row (by omega)]; exact h31
    have k30 : ∀ i, i < q + 1 → mI M3 (m + 30) i = eP (dgo (tJ T + 1) n x i) := fun i hi => by
      rw [hM3, mI_sI]
      by_cases e : i = q
      · rw [if_pos ⟨rfl, e⟩, hc, e]
      · rw [if_neg (by omega), hM2, sI_row (by omega)]; exact h30 i (by omega)
    have nx : rrun T r s n x S (q + 1) = rstep T r s c S1 := by
      show (rrun T r s n x S q).bind _ = _
      rw [hrun, hc]; rfl
    have go : (c.elim true (fun j => wts S1 s && (sW S1 s).testBit j)) = true → WP (f_X10_passesByRow_J106 (f_X10_passesByRow_L15 m (f + d + 1)) m (nI s) (nI n) (nI x) (nI ((tJ T + 1) ^ d)) (nI q) (nI 1) M3) (RWe m M0 M T S r s n x) := by
      intro hl
      have es : rstep T r s c S1 = some (tide1 T r (some (s, c)) S1) := by unfold rstep; rw [hl, if_pos rfl]
      unfold f_X10_passesByRow_J106 f_X10_passesByRow_J118
      refine WP.ie (by decide) ?_
      repeat (first | ((with_reducible apply WP.ce); case h => (simp (disch := omega) only []; with_reducible rfl)) | ((with_reducible apply WP.bd); case h => (simp (disch := omega) only [e_gR, e_gI, e_aI, e_aL, e_oO, e_pI, e_wI, e_wL, Option.map_some, mS_sL, mR_sL, mI_sL, mS_sI, mR_sI, mL_sI, n_cl, ro_m hR3]; with_reducible rfl)) | rw [nm_eq] | rw [ckZ_n1] | rw [ckZ_n0])
      refine WP.cw (q_goes hk hS1 (fun y hy j hj => by cases hy; exact hcj j hj) (fun y hy => by cases hy; show s < 5; omega) hR0 hT0 rq3) (fun v M4 g => ?_)
      obtain ⟨-, g1, g2, -⟩ := g
      rw [n_add]
      refine ih (q + 1) f M4 _ (by omega) (by rw [nx, es]) (tide1_ok hS1 (by omega)) (by rw [tide1_T]; omega) ⟨⟨g1.1, g1.2.1, g1.2.2.1, g1.2.2.2.1⟩, (g2.2.2 31 (by omega) (by omega)).trans k31, fun i hi => by rw [g2.2.2 30 (by omega) (by omega)]; exact k30 i hi⟩
    have no : (c.elim true (fun j => wts S1 s && (sW S1 s).testBit j)) = false → WP (f_X10_passesByRow_J106 (f_X10_passesByRow_L15 m (f + d + 1)) m (nI s) (nI n) (nI x) (nI ((tJ T + 1) ^ d)) (nI q) (nI 0) M3) (RWe m M0 M T S r s n x) := by
      intro hl
      have es : rstep T r s c S1 = none := by unfold rstep; rw [hl, if_neg (by decide)]
      have en : rrun T r s n x S n = none := by
        have := rrun_none (nx.trans es) (n - (q + 1))
        rw [show q + 1 + (n - (q + 1)) = n from by omega] at this
        exact this
      have ep : pbr T r s n x S = 100000 := by unfold pbr; rw [en]; rfl
      unfold f_X10_passesByRow_J106 f_X10_passesByRow_J118
      refine WP.it rfl ?_
      rw [n_add, f_X10_passesByRow_L15]
      by_cases e : n ≤ q + 1
      · exact WP.it (by rw [n_le (by omega) (by omega)]; exact e) (w_fail hR0 rq3.1 rq3.2.1 rq3.2.2.1 k31 ep)
      · exact WP.ie (by rw [n_le (by omega) (by omega)]; exact e) (WP.it rfl (w_fail hR0 rq3.1 rq3.2.1 rq3.2.2.1 k31 ep))
    rw [show f + (d + 1) + 1 = (f + d + 1) + 1 from by omega, f_X10_passesByRow_L15]
    refine WP.ie (by rw [n_le (by omega) (by omega)]; omega) ?_
    refine WP.ie (by decide) ?_
    repeat (first | ((with_reducible apply WP.ce); case h => (simp (disch := omega) only []; with_reducible rfl)) | ((with_reducible apply WP.bd); case h => (simp (disch := omega) only [e_gR, e_gI, e_aI, e_aL, e_oO, e_pI, e_wI, e_wL, Option.map_some, mS_sL, mR_sL, mI_sL, mS_sI, mR_sI, mL_sI, n_cl, ro_m hR, rr_scalar hR, rx_scalar hR, t2]; with_reducible rfl)) | rw [nm_eq] | rw [ckZ_n1] | rw [ckZ_n0])
    refine WP.ie (by rw [n_add, nIz (by omega)]; omega) ?_
    rw [v3]
    refine WP.ie (by rw [nIz (by omega)]; omega) ?_
    repeat (first | ((with_reducible apply WP.ce); case h => (simp (disch := omega) only []; with_reducible rfl)) | ((with_reducible apply WP.bd); case h => (simp (disch := omega) only [e_gR, e_gI, e_aI, e_aL, e_oO, e_pI, e_wI, e_wL, Option.map_some, mS_sL, mR_sL, mI_sL, mS_sI, mR_sI, mL_sI, n_cl, ro_m hR, rr_scalar hR, rx_scalar hR, t2]; with_reducible rfl)) | rw [nm_eq] | rw [ckZ_n1] | rw [ckZ_n0])
    refine WP.ie (by rw [n_add, nIz (by omega)]; omega) ?_
    rw [v39, ← hc]
    repeat (first | ((with_reducible apply WP.ce); case h => (simp (disch := omega) only []; with_reducible rfl)) | ((with_reducible apply WP.bd); case h => (simp (disch := omega) only [e_gR, e_gI, e_aI, e_aL, e_oO, e_pI, e_wI, e_wL, Option.map_some, mS_sL, mR_sL, mI_sL, mS_sI, mR_sI, mL_sI, n_cl, ro_m hR, ← hM2]; with_reducible rfl)) | rw [nm_eq] | rw [ckZ_n1] | rw [ckZ_n0])
    repeat (first | ((with_reducible apply WP.ce); case h => (simp (disch := omega) only []; with_reducible rfl)) | ((with_reducible apply WP.bd); case h => (simp (disch := omega) only [e_gR, e_gI, e_aI, e_aL, e_oO, e_pI, e_wI, e_wL, Option.map_some, mS_sL, mR_sL, mI_sL, mS_sI, mR_sI, mL_sI, n_cl, ro_m hR2, rr_tried hR2, rx_tried hR2, g39, ← hM3]; with_reducible rfl)) | rw [nm_eq] | rw [ckZ_n1] | rw [ckZ_n0])
    repeat (first | ((with_reducible apply WP.ce); case h => (simp (disch := omega) only []; with_reducible rfl)) | ((with_reducible apply WP.bd); case h => (simp (disch := omega) only [e_gR, e_gI, e_aI, e_aL, e_oO, e_pI, e_wI, e_wL, Option.map_some, mS_sL, mR_sL, mI_sL, mS_sI, mR_sI, mL_sI, n_cl, ro_m hR3, k39]; with_reducible rfl)) | rw [nm_eq] | rw [ckZ_n1] | rw [ckZ_n0])
    unfold f_X10_passesByRow_J101 f_X10_passesByRow_J105
    cases hcc : c with
    | none =>
      refine WP.it rfl ?_
      exact go (by rw [hcc]; rfl)
    | some j =>
      have hj := hcj j hcc
      rw [hcc] at k39
      have a1 := r_waits hR3 (rq3.1.T hT0) hk rq3.2.1 hS1 hs
      have ek := (rq3.2.1.2.2 s hs).1
      refine WP.ie (nm1 (a := j) (by omega)) ?_
      repeat (first | ((with_reducible apply WP.ce); case h => (simp (disch := omega) only [a1]; with_reducible rfl)) | ((with_reducible apply WP.bd); case h => (simp (disch := omega) only [e_gR, e_gI, e_aI, e_aL, e_oO, e_pI, e_wI, e_wL, Option.map_some, mS_sL, mR_sL, mI_sL, mS_sI, mR_sI, mL_sI, n_cl, ro_m hR3]; with_reducible rfl)) | rw [nm_eq] | rw [ckZ_n1] | rw [ckZ_n0])
      cases hw : wts S1 s with
      | false => exact WP.it rfl (no (by rw [hcc]; show (wts S1 s && _) = false; rw [hw]; rfl))
      | true =>
        refine WP.ie (show ¬ bI true = 0 by decide) ?_
        have hW := hS1.2.2.1 s
        have a2 := has_eq (x := sW S1 s) (j := j) (by omega) (by omega) M3
        have k39' : mI M3 m 39 = nI j := k39
        repeat (first | ((with_reducible apply WP.ce); case h => (simp (disch := omega) only [a2]; with_reducible rfl)) | ((with_reducible apply WP.bd); case h => (simp (disch := omega) only [e_gR, e_gI, e_aI, e_aL, e_oO, e_pI, e_wI, e_wL, Option.map_some, mS_sL, mR_sL, mI_sL, mS_sI, mR_sI, mL_sI, n_cl, ro_m hR3, rr_knows hR3, rx_knows hR3, ek, k39']; with_reducible rfl)) | rw [nm_eq] | rw [ckZ_n1] | rw [ckZ_n0])
        cases hb : (sW S1 s).testBit j with
        | false => exact WP.it rfl (no (by rw [hcc]; show (wts S1 s && (sW S1 s).testBit j) = false; rw [hw, hb]; rfl))
        | true => exact WP.ie (show ¬ bI true = 0 by decide) (go (by rw [hcc]; show (wts S1 s && (sW S1 s).testBit j) = true; rw [hw, hb]; rfl))
theorem x_pbr {M : Mem} (hk : TOk T) (hs0 : SOk S) (hR0 : RIs (mS M0) (mR M0) m) (hT0 : RT M0 m T) (hSM : RS M0 m T S) (hrM : RRu M0 m r) {s n x : Nat} (hs : s < tN T) (hn : n ≤ 4) (hx : x < 10000) (hS0 : sT S ≤ 999) (h : RB m M0 M) : WP (f_X10_passesByRow m (nI s) (nI n) (nI x) (nI ((tJ T + 1) ^ n)) M) (RWe m M0 M T S r s n x) := by
  have rq := h.rq hk hSM hrM
  have hR := rq.1.RI hR0
  obtain ⟨q1, q2, q3⟩ := q_ov rq.1 rq.2.1 rq.2.2.1 (Or.inl rfl) (nI s)
  unfold f_X10_passesByRow
  repeat (first | ((with_reducible apply WP.ce); case h => (simp (disch := omega) only []; with_reducible rfl)) | ((with_reducible apply WP.bd); case h => (simp (disch := omega) only [e_gR, e_gI, e_aI, e_aL, e_oO, e_pI, e_wI, e_wL, Option.map_some, mS_sL, mR_sL, mI_sL, mS_sI, mR_sI, mL_sI, n_cl, ro_m hR]; with_reducible rfl)) | rw [nm_eq] | rw [ckZ_n1] | rw [ckZ_n0])
  obtain ⟨f, hf⟩ := FUd n (by omega)
  rw [hf]
  exact w_loop hk hR0 hT0 hs hn hx hS0 n 0 f _ S (by omega) rfl hs0 (by omega) ⟨⟨q1, q2, q3, by rw [mI_sI, if_pos ⟨rfl, rfl⟩]⟩, by rw [sI_row (by omega)], fun i hi => absurd hi (Nat.not_lt_zero i)⟩
end RWR
