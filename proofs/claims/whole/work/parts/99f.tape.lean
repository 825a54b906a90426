/-! THE CLASS: numbers and separators taken -/
theorem tkV_lt {t : TP} (h4 : TOk2 t) (p : Nat) : tkV t p ≤ 100000 := by
  unfold tkV
  split
  · split
    · rename_i h
      exact Nat.le_of_lt (dgV_lt t (bk t p))
    · omega
  · omega
/-- the tape's fields alone change -/
def FQ (M M' : Mem) : Prop := mS M' = mS M ∧ mR M' = mR M ∧ (∀ a, a ≠ 1 → mI M' a = mI M a) ∧ mI M' 1 1 = mI M 1 1
theorem FTk.FQ {M M' : Mem} (h : FTk M M') : FQ M M' := ⟨h.1, h.2.1, h.2.2.1, h.2.2.2.1⟩
theorem FQ.rf (M : Mem) : FQ M M := ⟨rfl, rfl, fun _ _ => rfl, rfl⟩
theorem FQ.tr {M1 M2 M3 : Mem} (h1 : FQ M1 M2) (h2 : FQ M2 M3) : FQ M1 M3 := ⟨h2.1.trans h1.1, h2.2.1.trans h1.2.1, fun a h => (h2.2.2.1 a h).trans (h1.2.2.1 a h), h2.2.2.2.trans h1.2.2.2⟩
theorem FQ.CI {M M' : Mem} (h : FQ M M') (hC : CIs (mS M) (mR M)) : CIs (mS M') (mR M') := by rw [h.1, h.2.1]; exact hC
theorem FQ.tp {M M' : Mem} {t : TP} (h : FQ M M') (ht : CTp M t) : CTp M' t := ⟨h.2.2.2.trans ht.1, by rw [h.2.2.1 2 (by decide)]; exact ht.2⟩
theorem FQ.w (M : Mem) (v : Int32) : FQ M (sI M 1 2 v) := ⟨rfl, rfl, fun a h => sI_row h, by rw [mI_sI, if_neg (by omega)]⟩
section CTN
variable {M : Mem} {t : TP}
theorem c_failAt (hC : CIs (mS M) (mR M)) (h2 : mI M 1 2 = nI 0) (s c : Nat) : f_X7_failAt 1 (nI s) (nI c) M = some (nI 0, sI M 1 2 (nI (1 + 8 * s + c))) := by
  unfold f_X7_failAt f_X7_failAt_J19
  repeat (first | ((with_reducible apply clt_t); case h => (simp (disch := omega) only [hC]; with_reducible rfl)) | ((with_reducible apply bnd_t); case h => (simp (disch := omega) only [e_gR, e_gI, e_aI, e_aL, e_oO, e_pI, e_wI, e_wL, Option.map_some, mS_sL, mR_sL, mI_sL, mS_sI, mR_sI, mL_sI, n_cl, cob_1 hC, h2]; with_reducible rfl)) | rw [nm_eq])
  refine (ite_t (rfl : nI 0 = 0) _ _).trans ?_
  repeat (first | ((with_reducible apply clt_t); case h => (simp (disch := omega) only [hC]; with_reducible rfl)) | ((with_reducible apply bnd_t); case h => (simp (disch := omega) only [e_gR, e_gI, e_aI, e_aL, e_oO, e_pI, e_wI, e_wL, Option.map_some, mS_sL, mR_sL, mI_sL, mS_sI, mR_sI, mL_sI, n_cl, cob_1 hC]; with_reducible rfl)) | rw [nm_eq])
  rw [n_mul, n_add, n_add, ckZ_n0]
theorem c_take (hC : CIs (mS M) (mR M)) (ht : CTp M t) (h4 : TOk2 t) {p lo N : Nat} (hp : p ≤ t.1) (hk : TK M t p) (h2 : mI M 1 2 = nI 0) (hlo : lo ≤ 1000) (hN : N ≤ 1000) {hi : Int32} (hhi : hi.toInt = (N : Int) - 1) :
    WP (f_X7_takeNumber 1 (nI lo) hi M) (fun v M' => FQ M M' ∧ ((nmF t p lo N = 0 ∧ v = nI (tkV t p) ∧ TK M' t (tkE t p) ∧ mI M' 1 2 = nI 0) ∨ (nmF t p lo N ≠ 0 ∧ v = -1 ∧ mI M' 1 2 = nI (nmF t p lo N)))) := by
  obtain ⟨k3, k4, k5, k6, k7, k8⟩ := hk
  have hV := tkV_lt h4 p
  have hkl : tkK t p ≤ 3 := by
    unfold tkK
    split
    · omega
    · split
      · omega
      · split <;> omega
  have fa : ∀ c, WP (cl (f_X7_failAt 1 (nI (bk t p)) (nI c) M) fun r2 M => some ((-1 : Int32), M)) (fun v M' => FQ M M' ∧ v = -1 ∧ mI M' 1 2 = nI (1 + 8 * bk t p + c)) := fun c =>
    WP.ce (c_failAt hC h2 _ _) (WP.ret ⟨FQ.w M _, rfl, by rw [mI_sI, if_pos ⟨rfl, rfl⟩]⟩)
  have j36 : ¬ (lo ≤ tkV t p ∧ tkV t p < N) → tkK t p = 1 → WP (f_X7_takeNumber_J36 1 M) (fun v M' => FQ M M' ∧ ((nmF t p lo N = 0 ∧ v = nI (tkV t p) ∧ TK M' t (tkE t p) ∧ mI M' 1 2 = nI 0) ∨ (nmF t p lo N ≠ 0 ∧ v = -1 ∧ mI M' 1 2 = nI (nmF t p lo N)))) := fun hn h1 => by
    have nf : nmF t p lo N = 1 + 8 * bk t p + 1 := by unfold nmF; rw [if_pos h1, if_neg hn]
    unfold f_X7_takeNumber_J36
    repeat (first | ((with_reducible apply WP.ce); case h => (simp (disch := omega) only []; with_reducible rfl)) | ((with_reducible apply WP.bd); case h => (simp (disch := omega) only [e_gR, e_gI, e_aI, e_aL, e_oO, e_pI, e_wI, e_wL, Option.map_some, mS_sL, mR_sL, mI_sL, mS_sI, mR_sI, mL_sI, n_cl, cob_1 hC, k4]; with_reducible rfl)) | rw [nm_eq] | rw [ckZ_n1] | rw [ckZ_n0])
    rw [nf]
    exact WP.mono (fa 1) (fun v M' c => ⟨c.1, Or.inr ⟨by omega, c.2⟩⟩)
  unfold f_X7_takeNumber
  repeat (first | ((with_reducible apply WP.ce); case h => (simp (disch := omega) only []; with_reducible rfl)) | ((with_reducible apply WP.bd); case h => (simp (disch := omega) only [e_gR, e_gI, e_aI, e_aL, e_oO, e_pI, e_wI, e_wL, Option.map_some, mS_sL, mR_sL, mI_sL, mS_sI, mR_sI, mL_sI, n_cl, cob_1 hC, k3]; with_reducible rfl)) | rw [nm_eq] | rw [ckZ_n1] | rw [ckZ_n0])
  by_cases h1 : tkK t p = 1
  · refine WP.it (by rw [h1]) ?_
    repeat (first | ((with_reducible apply WP.ce); case h => (simp (disch := omega) only []; with_reducible rfl)) | ((with_reducible apply WP.bd); case h => (simp (disch := omega) only [e_gR, e_gI, e_aI, e_aL, e_oO, e_pI, e_wI, e_wL, Option.map_some, mS_sL, mR_sL, mI_sL, mS_sI, mR_sI, mL_sI, n_cl, cob_1 hC, k5]; with_reducible rfl)) | rw [nm_eq] | rw [ckZ_n1] | rw [ckZ_n0])
    by_cases c1 : tkV t p < lo
    · exact WP.it (by rw [n_lt (by omega) (by omega)]; exact c1) (j36 (by omega) h1)
    · refine WP.ie (by rw [n_lt (by omega) (by omega)]; exact c1) ?_
      repeat (first | ((with_reducible apply WP.ce); case h => (simp (disch := omega) only []; with_reducible rfl)) | ((with_reducible apply WP.bd); case h => (simp (disch := omega) only [e_gR, e_gI, e_aI, e_aL, e_oO, e_pI, e_wI, e_wL, Option.map_some, mS_sL, mR_sL, mI_sL, mS_sI, mR_sI, mL_sI, n_cl, cob_1 hC, k5]; with_reducible rfl)) | rw [nm_eq] | rw [ckZ_n1] | rw [ckZ_n0])
      have ec : (nI (tkV t p) ≤ hi) = (tkV t p < N) := by
        rw [Int32.le_iff_toInt_le, hhi, nI_toInt (by omega), eq_iff_iff]
        omega
      by_cases c2 : tkV t p < N
      · refine WP.it (by rw [ec]; exact c2) ?_
        repeat (first | ((with_reducible apply WP.ce); case h => (simp (disch := omega) only []; with_reducible rfl)) | ((with_reducible apply WP.bd); case h => (simp (disch := omega) only [e_gR, e_gI, e_aI, e_aL, e_oO, e_pI, e_wI, e_wL, Option.map_some, mS_sL, mR_sL, mI_sL, mS_sI, mR_sI, mL_sI, n_cl, cob_1 hC, k5]; with_reducible rfl)) | rw [nm_eq] | rw [ckZ_n1] | rw [ckZ_n0])
        refine WP.cw (c_next hC ht h4 (tkE_le hp).1 k8) (fun _ M1 c => ?_)
        exact WP.ret ⟨c.1.FQ, Or.inl ⟨by unfold nmF; rw [if_pos h1, if_pos (by omega)], rfl, c.2, c.1.2.2.2.2.1.trans h2⟩⟩
      · exact WP.ie (by rw [ec]; exact c2) (j36 (by omega) h1)
  · refine WP.ie (by rw [n_eq (by omega) (by decide)]; exact h1) ?_
    have nf : nmF t p lo N = 1 + 8 * bk t p := by unfold nmF; rw [if_neg h1]
    repeat (first | ((with_reducible apply WP.ce); case h => (simp (disch := omega) only []; with_reducible rfl)) | ((with_reducible apply WP.bd); case h => (simp (disch := omega) only [e_gR, e_gI, e_aI, e_aL, e_oO, e_pI, e_wI, e_wL, Option.map_some, mS_sL, mR_sL, mI_sL, mS_sI, mR_sI, mL_sI, n_cl, cob_1 hC, k4]; with_reducible rfl)) | rw [nm_eq] | rw [ckZ_n1] | rw [ckZ_n0])
    rw [nf]
    exact WP.mono (fa 0) (fun v M' c => ⟨c.1, Or.inr ⟨by omega, c.2⟩⟩)
theorem c_sep (hC : CIs (mS M) (mR M)) (ht : CTp M t) (h4 : TOk2 t) {p : Nat} (hp : p ≤ t.1) (hk : TK M t p) (h2 : mI M 1 2 = nI 0) :
    WP (f_X7_takesSeparator 1 M) (fun v M' => FQ M M' ∧ mI M' 1 2 = nI (gof t p) ∧ v = bI (decide (tkG t p = nI 59)) ∧ (tkG t p = nI 59 → TK M' t (tkE t p))) := by
  obtain ⟨k3, k4, k5, k6, k7, k8⟩ := hk
  have hkl : tkK t p ≤ 3 := by
    unfold tkK
    split
    · omega
    · split
      · omega
      · split <;> omega
  unfold f_X7_takesSeparator f_X7_takesSeparator_J38 f_X7_takesSeparator_J39
  repeat (first | ((with_reducible apply WP.ce); case h => (simp (disch := omega) only []; with_reducible rfl)) | ((with_reducible apply WP.bd); case h => (simp (disch := omega) only [e_gR, e_gI, e_aI, e_aL, e_oO, e_pI, e_wI, e_wL, Option.map_some, mS_sL, mR_sL, mI_sL, mS_sI, mR_sI, mL_sI, n_cl, cob_1 hC, k7]; with_reducible rfl)) | rw [nm_eq] | rw [ckZ_n1] | rw [ckZ_n0])
  by_cases s : tkG t p = nI 59
  · refine WP.it s ?_
    repeat (first | ((with_reducible apply WP.ce); case h => (simp (disch := omega) only []; with_reducible rfl)) | ((with_reducible apply WP.bd); case h => (simp (disch := omega) only [e_gR, e_gI, e_aI, e_aL, e_oO, e_pI, e_wI, e_wL, Option.map_some, mS_sL, mR_sL, mI_sL, mS_sI, mR_sI, mL_sI, n_cl, cob_1 hC]; with_reducible rfl)) | rw [nm_eq] | rw [ckZ_n1] | rw [ckZ_n0])
    refine WP.cw (c_next hC ht h4 (tkE_le hp).1 k8) (fun _ M1 c => ?_)
    rw [decide_eq_true s]
    rw [ckZ_n1]
    exact WP.ret ⟨c.1.FQ, by unfold gof; rw [if_pos s]; exact c.1.2.2.2.2.1.trans h2, rfl, fun _ => c.2⟩
  · refine WP.ie s ?_
    rw [decide_eq_false s]
    repeat (first | ((with_reducible apply WP.ce); case h => (simp (disch := omega) only []; with_reducible rfl)) | ((with_reducible apply WP.bd); case h => (simp (disch := omega) only [e_gR, e_gI, e_aI, e_aL, e_oO, e_pI, e_wI, e_wL, Option.map_some, mS_sL, mR_sL, mI_sL, mS_sI, mR_sI, mL_sI, n_cl, cob_1 hC, k3]; with_reducible rfl)) | rw [nm_eq] | rw [ckZ_n1] | rw [ckZ_n0])
    by_cases e : tkK t p = 0
    · refine WP.it (by rw [e]; rfl) ?_
      exact WP.ret ⟨FQ.rf M, by unfold gof; rw [if_neg s, if_pos e]; exact h2, rfl, fun z => absurd z s⟩
    · refine WP.ie (by rw [nIz (by omega)]; exact e) ?_
      have a1 := c_failAt hC h2 (bk t p) 0
      repeat (first | ((with_reducible apply WP.ce); case h => (simp (disch := omega) only [a1]; with_reducible rfl)) | ((with_reducible apply WP.bd); case h => (simp (disch := omega) only [e_gR, e_gI, e_aI, e_aL, e_oO, e_pI, e_wI, e_wL, Option.map_some, mS_sL, mR_sL, mI_sL, mS_sI, mR_sI, mL_sI, n_cl, cob_1 hC, k4]; with_reducible rfl)) | rw [nm_eq] | rw [ckZ_n1] | rw [ckZ_n0])
      refine WP.it rfl ?_
      exact WP.ret ⟨FQ.w M _, by rw [mI_sI, if_pos ⟨rfl, rfl⟩]; unfold gof; rw [if_neg s, if_neg e]; rfl, rfl, fun z => absurd z s⟩
end CTN
