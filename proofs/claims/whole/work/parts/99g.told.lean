/-! THE CLASS: a bar's rows filled -/
/-- the table of what is alike, bit by bit -/
def NrP (M : Mem) (P : Nat → Nat → Nat → Prop) : Prop := ∀ k, 1 ≤ k → k ≤ 3 → ∀ j, j < 8 → ∃ x, mI M 9 (8 * k + j) = nI x ∧ x < 256 ∧ ∀ i, i < 8 → (x.testBit i = true ↔ P k j i)
/-- a bar while it is read -/
def CR (M : Mem) (T : TD) : Prop := ((∃ b : Bool, mI M 4 0 = bI b) ∧ mI M 4 1 = nI (tF T) ∧ mI M 4 2 = nI (tK T) ∧ mI M 4 3 = nI (tJ T) ∧ mI M 4 4 = nI (tN T)) ∧ (∀ i, i < 3 * tJ T → mI M 5 i = nI (tP T i)) ∧ (∀ s, s < tN T → mI M 6 s = nI (tC T s) ∧ mI M 7 s = nI (tE T s)) ∧ (∀ s, s < 5 → mI M 8 s = nI (tW T s)) ∧ NrP M (fun k j i => (j < tJ T ∧ i < tJ T) ∧ k ≤ alk T j i)
/-- the reader's rows alone change -/
def FR (M M' : Mem) : Prop := mS M' = mS M ∧ mR M' = mR M ∧ (∀ a, a < 4 ∨ 9 < a → mI M' a = mI M a) ∧ mL M' = mL M
theorem FR.rf (M : Mem) : FR M M := ⟨rfl, rfl, fun _ _ => rfl, rfl⟩
theorem FR.tr {M1 M2 M3 : Mem} (h1 : FR M1 M2) (h2 : FR M2 M3) : FR M1 M3 := ⟨h2.1.trans h1.1, h2.2.1.trans h1.2.1, fun a h => (h2.2.2.1 a h).trans (h1.2.2.1 a h), h2.2.2.2.trans h1.2.2.2⟩
theorem FR.CI {M M' : Mem} (h : FR M M') (hC : CIs (mS M) (mR M)) : CIs (mS M') (mR M') := by rw [h.1, h.2.1]; exact hC
theorem FR.w (M : Mem) {a : Nat} (ha : 4 ≤ a ∧ a ≤ 9) (k : Nat) (v : Int32) : FR M (sI M a k v) := ⟨rfl, rfl, fun b h => sI_row (by omega), rfl⟩
theorem NrP.of {M M' : Mem} {P Q : Nat → Nat → Nat → Prop} (h : NrP M P) (e : mI M' 9 = mI M 9) (hq : ∀ k j i, 1 ≤ k → k ≤ 3 → j < 8 → i < 8 → (P k j i ↔ Q k j i)) : NrP M' Q := fun k k1 k2 j hj => by
  obtain ⟨x, x1, x2, x3⟩ := h k k1 k2 j hj
  exact ⟨x, by rw [e]; exact x1, x2, fun i hi => (x3 i hi).trans (hq k j i k1 k2 hj hi)⟩
/-- one bit is set -/
theorem NrP.st {M : Mem} {P : Nat → Nat → Nat → Prop} (h : NrP M P) {k j i : Nat} (k1 : 1 ≤ k) (k2 : k ≤ 3) (hj : j < 8) (hi : i < 8) : NrP (sI M 9 (8 * k + j) (mI M 9 (8 * k + j) ||| (nI 1 <<< (nI i &&& 31)))) (fun k' j' i' => P k' j' i' ∨ (k' = k ∧ j' = j ∧ i' = i)) := by
  intro k' q1 q2 j' hj'
  obtain ⟨x, x1, x2, x3⟩ := h k' q1 q2 j' hj'
  by_cases e : 8 * k' + j' = 8 * k + j
  · have ek : k' = k := by omega
    have ej : j' = j := by omega
    subst ek
    subst ej
    refine ⟨x ||| 2 ^ i, ?_, or_256 x2 ?_, fun i' hi' => ?_⟩
    · rw [mI_sI, if_pos ⟨rfl, rfl⟩, x1, n_shl (by omega), n_or]
    · calc 2 ^ i ≤ 2 ^ 7 := Nat.pow_le_pow_right (by decide) (by omega)
        _ < 256 := by decide
    · rw [Nat.testBit_or, Nat.testBit_two_pow, Bool.or_eq_true, decide_eq_true_iff, x3 i' hi']
      constructor
      · rintro (z | z)
        · exact Or.inl z
        · exact Or.inr ⟨rfl, rfl, z.symm⟩
      · rintro (z | ⟨-, -, z⟩)
        · exact Or.inl z
        · exact Or.inr z.symm
  · refine ⟨x, by rw [mI_sI, if_neg (fun z => e z.2)]; exact x1, x2, fun i' hi' => (x3 i' hi').trans ⟨Or.inl, fun z => ?_⟩⟩
    rcases z with z | ⟨z1, z2, -⟩
    · exact z
    · exact absurd (by rw [z1, z2]) e
theorem alk_sym (T : TD) (a b : Nat) : alk T a b = alk T b a := by
  unfold alk
  rw [decide_eq_decide.mpr (eq_comm (a := tP T (3 * a))), decide_eq_decide.mpr (eq_comm (a := tP T (3 * a + 1))), decide_eq_decide.mpr (eq_comm (a := tP T (3 * a + 2)))]
theorem alk_J {T : TD} {a b c j i : Nat} (hj : j < tJ T) (hi : i < tJ T) : alk (tdJ T a b c) j i = alk T j i := by
  have e : ∀ x, x < 3 * tJ T → tP (tdJ T a b c) x = tP T x := fun x hx => by
    show fset (fset (fset (tP T) (3 * tJ T) a) (3 * tJ T + 1) b) (3 * tJ T + 2) c x = _
    rw [fset_o _ _ (by omega), fset_o _ _ (by omega), fset_o _ _ (by omega)]
  unfold alk
  rw [e _ (by omega), e _ (by omega), e _ (by omega), e _ (by omega), e _ (by omega), e _ (by omega)]
section CTL
variable {M : Mem} {T : TD}
theorem c_alk (hI : ITold (mS M) (mR M) 4) {n : Nat} {P : Nat → Nat} (hn : n ≤ 8) (hp : ∀ i, i < 3 * n → mI M 5 i = nI (P i)) (hq : ∀ i, P i < 10) {j i : Nat} (hj : j < n) (hi : i < n) : f_X8_partsAlike 4 (nI j) (nI i) M = some (nI (alk ((0, 0, n, 0), P, fun _ => 0, fun _ => 0, fun _ => 0) j i), M) := by
  have p : ∀ i, i < 3 * n → mI M (4 + 1) i = nI (P i) := hp
  have e0 : (nI (P (3 * j)) = nI (P (3 * i))) = (P (3 * j) = P (3 * i)) := n_eq (by have := hq (3 * j); omega) (by have := hq (3 * i); omega)
  have e1 : (nI (P (3 * j + 1)) = nI (P (3 * i + 1))) = (P (3 * j + 1) = P (3 * i + 1)) := n_eq (by have := hq (3 * j + 1); omega) (by have := hq (3 * i + 1); omega)
  have e2 : (nI (P (3 * j + 2)) = nI (P (3 * i + 2))) = (P (3 * j + 2) = P (3 * i + 2)) := n_eq (by have := hq (3 * j + 2); omega) (by have := hq (3 * i + 2); omega)
  have a1 : f_X8_countAlike 4 (nI j) (nI (P (3 * i))) (nI (P (3 * i + 1))) (nI (P (3 * i + 2))) M = some (nI (b2 (decide (P (3 * j) = P (3 * i))) + b2 (decide (P (3 * j + 1) = P (3 * i + 1))) + b2 (decide (P (3 * j + 2) = P (3 * i + 2)))), M) := by
    unfold f_X8_countAlike
    repeat (first | refine (cl_ok (by (simp only [hI]; with_reducible rfl)) _).trans ?_ | refine (bind_ok (by (simp (disch := omega) only [e_gR, e_gI, e_aI, e_aL, e_oO, e_pI, e_wI, e_wL, Option.map_some, mS_sL, mR_sL, mI_sL, mS_sI, mR_sI, mL_sI, n_cl, told_o hI, told_r_part hI, told_x_part hI, n_mul, n_add, p]; with_reducible rfl)) _).trans ?_ | rw [nm_eq])
    simp only [e0]
    rw [ite_b2 (P (3 * j) = P (3 * i)) (fun x => f_X8_countAlike_J17 4 (nI j) (nI (P (3 * i + 1))) (nI (P (3 * i + 2))) x M)]
    unfold f_X8_countAlike_J17
    repeat (first | refine (cl_ok (by (simp only [hI]; with_reducible rfl)) _).trans ?_ | refine (bind_ok (by (simp (disch := omega) only [e_gR, e_gI, e_aI, e_aL, e_oO, e_pI, e_wI, e_wL, Option.map_some, mS_sL, mR_sL, mI_sL, mS_sI, mR_sI, mL_sI, n_cl, told_o hI, told_r_part hI, told_x_part hI, n_mul, n_add, p]; with_reducible rfl)) _).trans ?_ | rw [nm_eq])
    simp only [e1]
    rw [ite_b2 (P (3 * j + 1) = P (3 * i + 1)) (fun x => f_X8_countAlike_J36 4 (nI j) (nI (P (3 * i + 2))) x (nI (b2 (decide (P (3 * j) = P (3 * i))))) M)]
    unfold f_X8_countAlike_J36
    repeat (first | refine (cl_ok (by (simp only [hI]; with_reducible rfl)) _).trans ?_ | refine (bind_ok (by (simp (disch := omega) only [e_gR, e_gI, e_aI, e_aL, e_oO, e_pI, e_wI, e_wL, Option.map_some, mS_sL, mR_sL, mI_sL, mS_sI, mR_sI, mL_sI, n_cl, told_o hI, told_r_part hI, told_x_part hI, n_mul, n_add, p]; with_reducible rfl)) _).trans ?_ | rw [nm_eq])
    simp only [e2]
    rw [ite_b2 (P (3 * j + 2) = P (3 * i + 2)) (fun x => f_X8_countAlike_J57 4 x (nI (b2 (decide (P (3 * j) = P (3 * i)))) + nI (b2 (decide (P (3 * j + 1) = P (3 * i + 1))))) M)]
    unfold f_X8_countAlike_J57
    rw [n_add, n_add]
  unfold f_X8_partsAlike
  repeat (first | refine (cl_ok (by (simp only [a1]; with_reducible rfl)) _).trans ?_ | refine (bind_ok (by (simp (disch := omega) only [e_gR, e_gI, e_aI, e_aL, e_oO, e_pI, e_wI, e_wL, Option.map_some, mS_sL, mR_sL, mI_sL, mS_sI, mR_sI, mL_sI, n_cl, told_o hI, told_r_part hI, told_x_part hI, n_mul, n_add, p]; with_reducible rfl)) _).trans ?_ | rw [nm_eq])
  rfl
theorem c_addShip (hI : ITold (mS M) (mR M) 4) (hT : CR M T) (hn : tN T < 5) (a b : Nat) : WP (f_X8_addShip 4 (nI a) (nI b) M) (fun _ M' => FR M M' ∧ CR M' (tdS T a b)) := by
  obtain ⟨⟨⟨b0, t0⟩, t1, t2, t3, t4⟩, p, q, w, nr⟩ := hT
  unfold f_X8_addShip
  repeat (first | ((with_reducible apply WP.ce); case h => (simp (disch := omega) only []; with_reducible rfl)) | ((with_reducible apply WP.bd); case h => (simp (disch := omega) only [e_gR, e_gI, e_aI, e_aL, e_oO, e_pI, e_wI, e_wL, Option.map_some, mS_sL, mR_sL, mI_sL, mS_sI, mR_sI, mL_sI, n_cl, told_o hI, told_r_cargo hI, told_x_cargo hI, t4, Nat.reduceAdd]; with_reducible rfl)) | rw [nm_eq] | rw [ckZ_n1] | rw [ckZ_n0])
  have s1 : mI (sI M 6 (tN T) (nI a)) 4 4 = nI (tN T) := by rw [sI_row (by decide)]; exact t4
  repeat (first | ((with_reducible apply WP.ce); case h => (simp (disch := omega) only []; with_reducible rfl)) | ((with_reducible apply WP.bd); case h => (simp (disch := omega) only [e_gR, e_gI, e_aI, e_aL, e_oO, e_pI, e_wI, e_wL, Option.map_some, mS_sL, mR_sL, mI_sL, mS_sI, mR_sI, mL_sI, n_cl, told_o hI, told_r_keeps hI, told_x_keeps hI, s1, Nat.reduceAdd]; with_reducible rfl)) | rw [nm_eq] | rw [ckZ_n1] | rw [ckZ_n0])
  have s2 : mI (sI (sI M 6 (tN T) (nI a)) 7 (tN T) (nI b)) 4 4 = nI (tN T) := by rw [sI_row (by decide)]; exact s1
  repeat (first | ((with_reducible apply WP.ce); case h => (simp (disch := omega) only []; with_reducible rfl)) | ((with_reducible apply WP.bd); case h => (simp (disch := omega) only [e_gR, e_gI, e_aI, e_aL, e_oO, e_pI, e_wI, e_wL, Option.map_some, mS_sL, mR_sL, mI_sL, mS_sI, mR_sI, mL_sI, n_cl, told_o hI, s2]; with_reducible rfl)) | rw [nm_eq] | rw [ckZ_n1] | rw [ckZ_n0])
  rw [s2, n_add]
  obtain ⟨N, hN⟩ : ∃ N, N = sI (sI (sI M 6 (tN T) (nI a)) 7 (tN T) (nI b)) 4 4 (nI (tN T + 1)) := ⟨_, rfl⟩
  rw [← hN]
  have r : ∀ x, x ≠ 4 → x ≠ 6 → x ≠ 7 → mI N x = mI M x := fun x h4 h6 h7 => by rw [hN, sI_row h4, sI_row h7, sI_row h6]
  have f : ∀ k, k ≠ 4 → mI N 4 k = mI M 4 k := fun k hk => by rw [hN, mI_sI, if_neg (by omega), sI_row (by decide), sI_row (by decide)]
  refine WP.ret ⟨by rw [hN]; exact ((FR.w M (by omega) _ _).tr (FR.w _ (by omega) _ _)).tr (FR.w _ (by omega) _ _), ⟨⟨b0, (f 0 (by decide)).trans t0⟩, (f 1 (by decide)).trans t1, (f 2 (by decide)).trans t2, (f 3 (by decide)).trans t3, ?_⟩, ?_, fun s hs => ?_, ?_, nr.of (r 9 (by decide) (by decide) (by decide)) (fun _ _ _ _ _ _ _ => Iff.rfl)⟩
  · rw [hN, mI_sI, if_pos ⟨rfl, rfl⟩]; rfl
  · rw [r 5 (by decide) (by decide) (by decide)]; exact p
  · have hs : s < tN T + 1 := hs
    show mI N 6 s = nI (fset (tC T) (tN T) a s) ∧ mI N 7 s = nI (fset (tE T) (tN T) b s)
    have e6 : mI N 6 = upd (mI M 6) (tN T) (nI a) := by rw [hN, sI_row (by decide), sI_row (by decide), mI_sI_s]
    have e7 : mI N 7 = upd (mI M 7) (tN T) (nI b) := by rw [hN, sI_row (by decide), mI_sI_s, sI_row (by decide)]
    rw [e6, e7]
    by_cases e : s = tN T
    · rw [e, upd_s, upd_s, fset_s, fset_s]; exact ⟨rfl, rfl⟩
    · rw [upd_o _ _ e, upd_o _ _ e, fset_o _ _ e, fset_o _ _ e]; exact q s (by omega)
  · rw [r 8 (by decide) (by decide) (by decide)]; exact w
theorem c_clear (hC : CIs (mS M) (mR M)) : WP (f_X8_clear 4 M) (fun _ M' => FR M M' ∧ CR M' tdZ) := by
  have hI := ci_told4 hC
  obtain ⟨N, hN⟩ : ∃ N, N = sI (sI (sI (sI (sI M 4 0 (nI 0)) 4 1 (nI 0)) 4 2 (nI 0)) 4 3 (nI 0)) 4 4 (nI 0) := ⟨_, rfl⟩
  have fN : FR M N := by rw [hN]; exact ((((FR.w M (by omega) _ _).tr (FR.w _ (by omega) _ _)).tr (FR.w _ (by omega) _ _)).tr (FR.w _ (by omega) _ _)).tr (FR.w _ (by omega) _ _)
  have hC1 := fN.CI hC
  have hI1 := ci_told4 hC1
  have a1 := j_fill (v := nI 0) (told_n_knows hI1) (fun i hi => told_x_knows hI1 hi) (by decide)
  obtain ⟨N2, hN2⟩ : ∃ N2, N2 = sIr N 8 (flR (mI N 8) (nI 0) 5) := ⟨_, rfl⟩
  have a1 : f_J7_fill_53178 (some 8) (nI 0) N = some ((), N2) := by rw [hN2]; exact a1
  have fN2 : FR M N2 := fN.tr ⟨by rw [hN2]; rfl, by rw [hN2]; rfl, fun a ha => by rw [hN2, mI_sIr_o _ _ (by omega)], by rw [hN2]; rfl⟩
  have hC2 := fN2.CI hC
  have hI2 := ci_told4 hC2
  have a2 := j_fill (v := nI 0) (told_n_near hI2) (fun i hi => told_x_near hI2 hi) (by decide)
  obtain ⟨N3, hN3⟩ : ∃ N3, N3 = sIr N2 9 (flR (mI N2 9) (nI 0) 32) := ⟨_, rfl⟩
  have a2 : f_J7_fill_53178 (some 9) (nI 0) N2 = some ((), N3) := by rw [hN3]; exact a2
  unfold f_X8_clear
  repeat (first | ((with_reducible apply WP.ce); case h => (simp (disch := omega) only []; with_reducible rfl)) | ((with_reducible apply WP.bd); case h => (simp (disch := omega) only [e_gR, e_gI, e_aI, e_aL, e_oO, e_pI, e_wI, e_wL, Option.map_some, mS_sL, mR_sL, mI_sL, mS_sI, mR_sI, mL_sI, n_cl, told_o hI, ← hN]; with_reducible rfl)) | rw [nm_eq] | rw [ckZ_n1] | rw [ckZ_n0])
  repeat (first | ((with_reducible apply WP.ce); case h => (simp (disch := omega) only [a1]; with_reducible rfl)) | ((with_reducible apply WP.bd); case h => (simp (disch := omega) only [e_gR, e_gI, e_aI, e_aL, e_oO, e_pI, e_wI, e_wL, Option.map_some, mS_sL, mR_sL, mI_sL, mS_sI, mR_sI, mL_sI, n_cl, told_o hI1, told_r_knows hI1, Nat.reduceAdd]; with_reducible rfl)) | rw [nm_eq] | rw [ckZ_n1] | rw [ckZ_n0])
  repeat (first | ((with_reducible apply WP.ce); case h => (simp (disch := omega) only [a2]; with_reducible rfl)) | ((with_reducible apply WP.bd); case h => (simp (disch := omega) only [e_gR, e_gI, e_aI, e_aL, e_oO, e_pI, e_wI, e_wL, Option.map_some, mS_sL, mR_sL, mI_sL, mS_sI, mR_sI, mL_sI, n_cl, told_o hI2, told_r_near hI2, Nat.reduceAdd]; with_reducible rfl)) | rw [nm_eq] | rw [ckZ_n1] | rw [ckZ_n0])
  have g : ∀ k, k < 5 → mI N3 4 k = nI 0 := fun k hk => by
    rw [hN3, mI_sIr_o _ _ (by decide), hN2, mI_sIr_o _ _ (by decide), hN]
    simp only [mI_sI, true_and]
    repeat' split
    all_goals first | rfl | omega
  refine WP.ret ⟨fN2.tr ⟨by rw [hN3]; rfl, by rw [hN3]; rfl, fun a ha => by rw [hN3, mI_sIr_o _ _ (by omega)], by rw [hN3]; rfl⟩, ⟨⟨false, g 0 (by decide)⟩, g 1 (by decide), g 2 (by decide), g 3 (by decide), g 4 (by decide)⟩, fun i hi => absurd hi (Nat.not_lt_zero i), fun i hi => absurd hi (Nat.not_lt_zero i), fun s hs => ?_, fun k k1 k2 j hj => ⟨0, ?_, by decide, fun i hi => ?_⟩⟩
  · rw [hN3, mI_sIr_o _ _ (by decide), hN2, mI_sIr_s, flR_i _ _ hs]; rfl
  · rw [hN3, mI_sIr_s, flR_i _ _ (by omega)]
  · rw [Nat.zero_testBit]
    exact ⟨fun z => absurd z (by decide), fun z => absurd z.1.1 (Nat.not_lt_zero j)⟩
end CTL
