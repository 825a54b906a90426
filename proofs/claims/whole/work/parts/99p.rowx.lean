/-! THE REFERENCE: row -/
def bst (f : Nat → Nat) : Nat → Nat × Nat
  | 0 => (100000, 0)
  | x + 1 => if f x < (bst f x).1 then (f x, x) else bst f x
def rowA (T : TD) (r : Option RD) (S : SC) (s n w : Nat) : Int32 :=
  if (bst (fun x => pbr T r s n x S) ((tJ T + 1) ^ n)).1 = 100000 then -2
  else if w = 0 then nI (bst (fun x => pbr T r s n x S) ((tJ T + 1) ^ n)).1
  else if n < w then -2 else eP (dgo (tJ T + 1) n (bst (fun x => pbr T r s n x S) ((tJ T + 1) ^ n)).2 (w - 1))
def q_row (T : TD) (r : Option RD) (S : SC) (a b c : Int32) : Int32 := if wtI T S a && inR b 1 4 && inR c 0 4 then rowA T r S a.toNatClampNeg b.toNatClampNeg c.toNatClampNeg else -3
theorem rrun_ok {T : TD} {r : Option RD} {s n x : Nat} {S : SC} (hs : SOk S) : ∀ q S', sT S + q ≤ 100000 → rrun T r s n x S q = some S' → SOk S' ∧ sT S' = sT S + q
  | 0, S', _, h => by cases h; exact ⟨hs, rfl⟩
  | q + 1, S', hb, h => by
    have h : (rrun T r s n x S q).bind (rstep T r s (dgo (tJ T + 1) n x q)) = some S' := h
    cases e : rrun T r s n x S q with
    | none => rw [e] at h; cases h
    | some S1 =>
      rw [e] at h
      obtain ⟨h1, h2⟩ := rrun_ok hs q S1 (by omega) e
      have h : rstep T r s (dgo (tJ T + 1) n x q) S1 = some S' := h
      unfold rstep at h
      split at h
      · cases h
        exact ⟨tide1_ok h1 (by omega), by rw [tide1_T]; omega⟩
      · cases h
theorem pbr_le {T : TD} {r : Option RD} {s n x : Nat} {S : SC} (hs : SOk S) (hn : sT S + n ≤ 100000) : pbr T r s n x S ≤ 100000 := by
  unfold pbr
  cases e : rrun T r s n x S n with
  | none => exact Nat.le_refl _
  | some S1 =>
    obtain ⟨h1, h2⟩ := rrun_ok hs n S1 hn e
    show (sP S1 s).getD 100000 ≤ 100000
    cases e2 : sP S1 s with
    | none => exact Nat.le_refl _
    | some t =>
      have := h1.2.2.2 s t e2
      show t ≤ 100000
      omega
theorem bst_le {f : Nat → Nat} : ∀ x, (bst f x).1 ≤ 100000
  | 0 => Nat.le_refl _
  | x + 1 => by
    rw [bst]
    have := bst_le (f := f) x
    split
    · show f x ≤ 100000; omega
    · exact this
section RWX
variable {m : Nat} {M0 : Mem} {T : TD} {S : SC} {r : Option RD}
theorem RB.row {M M' : Mem} (h : RB m M0 M) (hS : mS M' = mS M ∧ mR M' = mR M) (hI : ∀ a, a ≠ m + 31 → mI M' a = mI M a) : RB m M0 M' := by
  obtain ⟨q, b, h38⟩ := h
  refine ⟨⟨⟨hS.1.trans q.1.1, hS.2.trans q.1.2⟩, fun a ha => ?_, fun k k1 k2 k3 k4 k5 => ?_, fun k k1 k2 k3 k4 => ?_, fun i hi => ?_, ?_⟩, ?_, ?_⟩
  · rw [hI a (by omega)]; exact q.2.1 a ha
  · rw [hI _ (by omega)]; exact q.2.2.1 k k1 k2 k3 k4 k5
  · rw [hI _ (by omega)]; exact q.2.2.2.1 k k1 k2 k3 k4
  · rw [hI _ (by omega)]; exact q.2.2.2.2.1 i hi
  · unfold KPq
    rw [hI (m + 35) (by omega)]
    exact q.2.2.2.2.2
  · unfold BK
    rw [hI (m + 1) (by omega), hI (m + 5) (by omega), hI (m + 6) (by omega), hI (m + 7) (by omega)]
    exact b
  · rw [hI m (by omega)]; exact h38
theorem x_rowL (hk : TOk T) (hs0 : SOk S) (hR0 : RIs (mS M0) (mR M0) m) (hT0 : RT M0 m T) (hSM : RS M0 m T S) (hrM : RRu M0 m r) {s n w : Nat} (hs : s < tN T) (hn : n ≤ 4) (hw : w ≤ 4) (hS0 : sT S ≤ 999) :
    ∀ d x f (M : Mem), x + d = (tJ T + 1) ^ n → RB m M0 M → ((bst (fun x => pbr T r s n x S) x).1 < 100000 → ∀ i, i < n → mI M (m + 31) i = eP (dgo (tJ T + 1) n (bst (fun x => pbr T r s n x S) x).2 i)) →
      WP (f_X10_row_L78 m (f + d + 1) (nI s) (nI n) (nI w) (nI ((tJ T + 1) ^ n)) (nI (bst (fun x => pbr T r s n x S) x).1) (nI x) M) (fun v M' => v = rowA T r S s n w ∧ RA m M0 M') := by
  have h8 := hk.1.2.2.1
  have pw : (tJ T + 1) ^ n ≤ 6561 := by
    calc (tJ T + 1) ^ n ≤ 9 ^ n := Nat.pow_le_pow_left (by omega) n
      _ ≤ 9 ^ 4 := Nat.pow_le_pow_right (by decide) (by omega)
      _ = 6561 := by decide
  intro d
  induction d with
  | zero =>
    intro x f M hx hB hr
    have e : x = (tJ T + 1) ^ n := by omega
    have hb := bst_le (f := fun x => pbr T r s n x S) x
    have hR := hB.1.RI hR0
    rw [f_X10_row_L78]
    refine WP.it (by rw [n_le (by omega) (by omega)]; omega) ?_
    unfold f_X10_row_J163 rowA
    rw [← e]
    obtain ⟨p, hp⟩ : ∃ p, p = bst (fun x => pbr T r s n x S) x := ⟨_, rfl⟩
    rw [← hp] at hb hr ⊢
    by_cases c1 : p.1 = 100000
    · rw [if_pos c1, c1]
      exact WP.it rfl (WP.ret ⟨rfl, Or.inr hB⟩)
    · rw [if_neg c1]
      refine WP.ie (by rw [n_eq (by omega) (by decide)]; exact c1) ?_
      by_cases c2 : w = 0
      · rw [if_pos c2]
        exact WP.it (by rw [c2]; rfl) (WP.ret ⟨rfl, Or.inr hB⟩)
      · rw [if_neg c2]
        refine WP.ie (by rw [nIz (by omega)]; exact c2) ?_
        by_cases c3 : n < w
        · rw [if_pos c3]
          exact WP.it (by rw [n_lt (by omega) (by omega)]; exact c3) (WP.ret ⟨rfl, Or.inr hB⟩)
        · rw [if_neg c3]
          refine WP.ie (by rw [n_lt (by omega) (by omega)]; exact c3) ?_
          have e1 := hr (by omega) (w - 1) (by omega)
          repeat (first | ((with_reducible apply WP.ce); case h => (simp (disch := omega) only []; with_reducible rfl)) | ((with_reducible apply WP.bd); case h => (simp (disch := omega) only [e_gR, e_gI, e_aI, e_aL, e_oO, e_pI, e_wI, e_wL, Option.map_some, mS_sL, mR_sL, mI_sL, mS_sI, mR_sI, mL_sI, n_cl, ro_m hR, rr_bestRow hR, n_sub, rx_bestRow hR, e1]; with_reducible rfl)) | rw [nm_eq] | rw [ckZ_n1] | rw [ckZ_n0])
          exact WP.ret ⟨rfl, Or.inr hB⟩
  | succ d ih =>
    intro x f M hx hB hr
    have hb := bst_le (f := fun x => pbr T r s n x S) x
    have hR := hB.1.RI hR0
    have hpl := pbr_le (T := T) (r := r) (s := s) (n := n) (x := x) hs0 (by omega)
    rw [show f + (d + 1) + 1 = (f + d + 1) + 1 from by omega, f_X10_row_L78]
    refine WP.ie (by rw [n_le (by omega) (by omega)]; omega) ?_
    repeat (first | ((with_reducible apply WP.ce); case h => (simp (disch := omega) only []; with_reducible rfl)) | ((with_reducible apply WP.bd); case h => (simp (disch := omega) only [e_gR, e_gI, e_aI, e_aL, e_oO, e_pI, e_wI, e_wL, Option.map_some, mS_sL, mR_sL, mI_sL, mS_sI, mR_sI, mL_sI, n_cl, ro_m hR]; with_reducible rfl)) | rw [nm_eq] | rw [ckZ_n1] | rw [ckZ_n0])
    refine WP.cw (x_pbr hk hs0 hR0 hT0 hSM hrM hs hn (x := x) (by omega) hS0 hB) (fun v M1 c => ?_)
    obtain ⟨rfl, hB1, h31, h30⟩ := c
    have hR1 := hB1.1.RI hR0
    unfold f_X10_row_J119
    by_cases c1 : pbr T r s n x S < (bst (fun x => pbr T r s n x S) x).1
    · have eb : bst (fun x => pbr T r s n x S) (x + 1) = (pbr T r s n x S, x) := by rw [bst, if_pos c1]
      refine WP.ie (by rw [n_le (by omega) (by omega)]; omega) ?_
      have a1 := r_copies (rl_tried hR1) (fun i hi => rx_tried hR1 hi) (fun i hi => rx_bestRow hR1 hi) (by omega : m + 30 ≠ m + 31) (by decide)
      obtain ⟨M2, hM2⟩ : ∃ M2, M2 = sIr M1 (m + 31) (cpR (mI M1 (m + 31)) (mI M1 (m + 30)) 0 4) := ⟨_, rfl⟩
      rw [← hM2] at a1
      repeat (first | ((with_reducible apply WP.ce); case h => (simp (disch := omega) only [a1]; with_reducible rfl)) | ((with_reducible apply WP.bd); case h => (simp (disch := omega) only [e_gR, e_gI, e_aI, e_aL, e_oO, e_pI, e_wI, e_wL, Option.map_some, mS_sL, mR_sL, mI_sL, mS_sI, mR_sI, mL_sI, n_cl, ro_m hR1, rr_tried hR1, rr_bestRow hR1]; with_reducible rfl)) | rw [nm_eq] | rw [ckZ_n1] | rw [ckZ_n0])
      rw [n_add]
      have := ih (x + 1) f M2 (by omega) (hB1.row ⟨by rw [hM2]; rfl, by rw [hM2]; rfl⟩ (fun a ha => by rw [hM2, mI_sIr_o _ _ ha])) (by
        rw [eb]
        intro _ i hi
        rw [hM2, mI_sIr_s, cpR_z _ _ (by omega)]
        exact h30 (by omega) i hi)
      rw [eb] at this
      exact this
    · have eb : bst (fun x => pbr T r s n x S) (x + 1) = bst (fun x => pbr T r s n x S) x := by rw [bst, if_neg c1]
      refine WP.it (by rw [n_le (by omega) (by omega)]; omega) ?_
      rw [n_add]
      have := ih (x + 1) f M1 (by omega) hB1 (by rw [eb, h31]; exact hr)
      rw [eb] at this
      exact this
theorem x_row (h : RE m M0 T S r) (a b c : Int32) : WP (f_X10_row m a b c M0) (fun v M => v = q_row T r S a b c ∧ RA m M0 M) := by
  obtain ⟨⟨hR, hT, hS, hr, hv⟩, hk, hs, hs9⟩ := h
  have h8 := hk.1.2.2.1
  have a1 := r_waitsI hR hT hk hS hs a
  have a2 := in_14 b M0
  have a3 := in_04 c M0
  unfold f_X10_row f_X10_row_J32 q_row
  repeat (first | ((with_reducible apply WP.ce); case h => (simp (disch := omega) only [a1]; with_reducible rfl)) | ((with_reducible apply WP.bd); case h => (simp (disch := omega) only [e_gR, e_gI, e_aI, e_aL, e_oO, e_pI, e_wI, e_wL, Option.map_some, mS_sL, mR_sL, mI_sL, mS_sI, mR_sI, mL_sI, n_cl, ro_m hR]; with_reducible rfl)) | rw [nm_eq] | rw [ckZ_n1] | rw [ckZ_n0])
  cases ha : wtI T S a with
  | false => exact WP.it rfl (WP.ret ⟨rfl, Or.inl rfl⟩)
  | true =>
    refine WP.ie (show ¬ bI true = 0 by decide) ?_
    repeat (first | ((with_reducible apply WP.ce); case h => (simp (disch := omega) only [a2]; with_reducible rfl)) | ((with_reducible apply WP.bd); case h => (simp (disch := omega) only [e_gR, e_gI, e_aI, e_aL, e_oO, e_pI, e_wI, e_wL, Option.map_some, mS_sL, mR_sL, mI_sL, mS_sI, mR_sI, mL_sI, n_cl, ro_m hR]; with_reducible rfl)) | rw [nm_eq] | rw [ckZ_n1] | rw [ckZ_n0])
    cases hb : inR b 1 4 with
    | false => exact WP.it rfl (WP.ret ⟨rfl, Or.inl rfl⟩)
    | true =>
      refine WP.ie (show ¬ bI true = 0 by decide) ?_
      repeat (first | ((with_reducible apply WP.ce); case h => (simp (disch := omega) only [a3]; with_reducible rfl)) | ((with_reducible apply WP.bd); case h => (simp (disch := omega) only [e_gR, e_gI, e_aI, e_aL, e_oO, e_pI, e_wI, e_wL, Option.map_some, mS_sL, mR_sL, mI_sL, mS_sI, mR_sI, mL_sI, n_cl, ro_m hR]; with_reducible rfl)) | rw [nm_eq] | rw [ckZ_n1] | rw [ckZ_n0])
      cases hc : inR c 0 4 with
      | false => exact WP.it rfl (WP.ret ⟨rfl, Or.inl rfl⟩)
      | true =>
        refine WP.ie (show ¬ bI true = 0 by decide) ?_
        rw [show (true && true && true) = true from rfl, if_pos rfl]
        obtain ⟨n, rfl, n1, n2, n3⟩ := inR_t hb (by decide)
        obtain ⟨w, rfl, w1, w2, w3⟩ := inR_t hc (by decide)
        obtain ⟨s, rfl, hs1, hw1⟩ := wtI_t hk ha
        have h5 := hk.1.2.2.2
        rw [n_cl n3, n_cl w3, n_cl (by omega)]
        have t2 := hT.1.2.2.1
        have lp : ∀ d k f, k + d = n → WP (f_X10_row_L41 m (f + d + 1) (nI s) (nI n) (nI w) (nI ((tJ T + 1) ^ k)) (nI k) M0) (fun v M => v = rowA T r S s n w ∧ RA m M0 M) := by
          intro d
          induction d with
          | zero =>
            intro k f hkn
            have e : k = n := by omega
            rw [f_X10_row_L41]
            refine WP.it (by rw [n_le (by omega) (by omega)]; omega) ?_
            repeat (first | ((with_reducible apply WP.ce); case h => (simp (disch := omega) only []; with_reducible rfl)) | ((with_reducible apply WP.bd); case h => (simp (disch := omega) only [e_gR, e_gI, e_aI, e_aL, e_oO, e_pI, e_wI, e_wL, Option.map_some, mS_sL, mR_sL, mI_sL, mS_sI, mR_sI, mL_sI, n_cl, ro_m hR]; with_reducible rfl)) | rw [nm_eq] | rw [ckZ_n1] | rw [ckZ_n0])
            refine WP.cw (q_keeps hR hv) (fun _ M1 g => ?_)
            have pw : (tJ T + 1) ^ n ≤ 6561 := by
              calc (tJ T + 1) ^ n ≤ 9 ^ n := Nat.pow_le_pow_left (by omega) n
                _ ≤ 9 ^ 4 := Nat.pow_le_pow_right (by decide) (by omega)
                _ = 6561 := by decide
            obtain ⟨f2, hf2⟩ := FUd ((tJ T + 1) ^ n) (by omega)
            rw [e, hf2]
            exact x_rowL hk hs hR hT hS hr hs1 (by omega) (by omega) hs9 ((tJ T + 1) ^ n) 0 f2 M1 (by omega) g.1 (fun z => absurd z (by show ¬ (100000 < 100000); omega))
          | succ d ih =>
            intro k f hkn
            rw [show f + (d + 1) + 1 = (f + d + 1) + 1 from by omega, f_X10_row_L41]
            refine WP.ie (by rw [n_le (by omega) (by omega)]; omega) ?_
            repeat (first | ((with_reducible apply WP.ce); case h => (simp (disch := omega) only []; with_reducible rfl)) | ((with_reducible apply WP.bd); case h => (simp (disch := omega) only [e_gR, e_gI, e_aI, e_aL, e_oO, e_pI, e_wI, e_wL, Option.map_some, mS_sL, mR_sL, mI_sL, mS_sI, mR_sI, mL_sI, n_cl, ro_m hR, rr_scalar hR, rx_scalar hR, t2]; with_reducible rfl)) | rw [nm_eq] | rw [ckZ_n1] | rw [ckZ_n0])
            rw [n_add, n_mul, n_add]
            exact ih (k + 1) f (by omega)
        obtain ⟨f, hf⟩ := FUd n (by omega)
        rw [hf]
        exact lp n 0 f (by omega)
end RWX
