/-! THE CLASS: clauses of a rule -/
section CLC
variable {M : Mem} {t : TP} {p c w : Nat} {C : CDs}
theorem getD_ap {A B : CDs} {j : Nat} (h : j < A.length) : (A ++ B).getD j (0, 0) = A.getD j (0, 0) := by rw [List.getD_eq_getElem?_getD, List.getD_eq_getElem?_getD, List.getElem?_append_left h]
theorem getD_ar {A B : CDs} (j : Nat) : (A ++ B).getD (A.length + j) (0, 0) = B.getD j (0, 0) := by rw [List.getD_eq_getElem?_getD, List.getD_eq_getElem?_getD, List.getElem?_append_right (by omega), Nat.add_sub_cancel_left]
theorem y_putE (hC : CIs (mS M) (mR M)) {L : Nat} (h3 : mI M 10 3 = nI L) (hl : L < 400) {x : Nat × Nat} (hx : cok x) : f_X5_put 10 (nI x.1) (nI x.2) M = some (nI 1, sI (sI M 11 L (nI (cwd x))) 10 3 (nI (L + 1))) := by
  have cn := cn_code hC
  obtain ⟨M1, hM1⟩ : ∃ M1, M1 = sI M 11 L (nI (cwd x)) := ⟨_, rfl⟩
  have hC1 : CIs (mS M1) (mR M1) := by rw [hM1]; exact hC
  have e3 : mI M1 10 3 = nI L := by rw [hM1, sI_row (by decide)]; exact h3
  unfold f_X5_put f_X5_put_J37
  repeat (first | ((with_reducible apply clt_t); case h => (simp (disch := omega) only [hC]; with_reducible rfl)) | ((with_reducible apply bnd_t); case h => (simp (disch := omega) only [e_gR, e_gI, e_aI, e_aL, e_oO, e_pI, e_wI, e_wL, Option.map_some, mS_sL, mR_sL, mI_sL, mS_sI, mR_sI, mL_sI, n_cl, cob_10 hC, h3, cr_code hC, e_lnA, cn]; with_reducible rfl)) | rw [nm_eq])
  rw [if_neg (by rw [n_le (by decide) (by omega)]; omega), cwd_m hx]
  repeat (first | ((with_reducible apply clt_t); case h => (simp (disch := omega) only [hC]; with_reducible rfl)) | ((with_reducible apply bnd_t); case h => (simp (disch := omega) only [e_gR, e_gI, e_aI, e_aL, e_oO, e_pI, e_wI, e_wL, Option.map_some, mS_sL, mR_sL, mI_sL, mS_sI, mR_sI, mL_sI, n_cl, cob_10 hC, h3, cr_code hC, cx_code hC, ← hM1]; with_reducible rfl)) | rw [nm_eq])
  repeat (first | ((with_reducible apply clt_t); case h => (simp (disch := omega) only [hC]; with_reducible rfl)) | ((with_reducible apply bnd_t); case h => (simp (disch := omega) only [e_gR, e_gI, e_aI, e_aL, e_oO, e_pI, e_wI, e_wL, Option.map_some, mS_sL, mR_sL, mI_sL, mS_sI, mR_sI, mL_sI, n_cl, cob_10 hC1, e3, n_add]; with_reducible rfl)) | rw [nm_eq])
  rw [ckZ_n1, ← hM1]
/-- the test is moved ahead of the sum -/
theorem y_move {S T : CDs} (h : CSt M t p c (C ++ S ++ T) w) (hl : (C ++ S ++ T).length < 400) (hs : S.length ≤ 120) : WP (f_X5_moveTestAhead 10 (nI C.length) (nI (C ++ S).length) M) (fun _ M' => FK M M' ∧ CSt M' t p c (C ++ (T ++ (5, S.length + 1) :: S)) w) := by
  obtain ⟨⟨hC, ht, hk, h2⟩, ⟨h10, h11⟩, ⟨h12, h13⟩, h14⟩ := h
  have len : (C ++ S ++ T).length = C.length + S.length + T.length := by rw [List.length_append, List.length_append]
  have lenCS : (C ++ S).length = C.length + S.length := List.length_append
  rw [len] at hl h12
  have cS : ∀ j, j < S.length → mI M 11 (C.length + j) = nI (cwd (S.getD j (0, 0))) := fun j hj => by
    rw [h13 _ (by rw [len]; omega), getD_ap (by rw [lenCS]; omega), getD_ar]
  have cT : ∀ j, j < T.length → mI M 11 (C.length + S.length + j) = nI (cwd (T.getD j (0, 0))) := fun j hj => by
    rw [h13 _ (by rw [len]; omega), ← lenCS, getD_ar]
  have cC : ∀ j, j < C.length → mI M 11 j = nI (cwd (C.getD j (0, 0))) := fun j hj => by
    rw [h13 _ (by rw [len]; omega), getD_ap (by rw [lenCS]; omega), getD_ap hj]
  have a1 := cpy_ok (M := M) (a0 := 11) (a1 := 12) (sp := C.length) (dp := 0) (n := S.length) (cl_code hC) (cl_spare hC) (by decide) (by decide) (by omega) (by omega) (by decide) (by decide)
  obtain ⟨M1, hM1⟩ : ∃ M1, M1 = sIr M 12 (va_cpy (mI M 11) (mI M 12) C.length 0 S.length) := ⟨_, rfl⟩
  rw [← hM1] at a1
  have hC1 : CIs (mS M1) (mR M1) := by rw [hM1]; exact hC
  have s1 : ∀ j, j < S.length → mI M1 12 j = nI (cwd (S.getD j (0, 0))) := fun j hj => by
    have := va_in (mI M 11) (mI M 12) (sp := C.length) (dp := 0) hj
    rw [Nat.zero_add] at this
    rw [hM1, mI_sIr_s, this, cS j hj]
  have r1 : ∀ a, a ≠ 12 → mI M1 a = mI M a := fun a ha => by rw [hM1, mI_sIr_o _ _ ha]
  have e3 : mI M1 10 3 = nI (C.length + S.length + T.length) := by rw [r1 10 (by decide)]; exact h12
  have a2 := cpy_ok (M := M1) (a0 := 11) (a1 := 11) (sp := C.length + S.length) (dp := C.length) (n := T.length) (cl_code hC1) (cl_code hC1) (by decide) (by decide) (by omega) (by omega) (by decide) (by decide)
  obtain ⟨M2, hM2⟩ : ∃ M2, M2 = sIr M1 11 (va_cpy (mI M1 11) (mI M1 11) (C.length + S.length) C.length T.length) := ⟨_, rfl⟩
  rw [← hM2] at a2
  have hC2 : CIs (mS M2) (mR M2) := by rw [hM2]; exact hC1
  have r2 : ∀ a, a ≠ 11 → mI M2 a = mI M1 a := fun a ha => by rw [hM2, mI_sIr_o _ _ ha]
  have e32 : mI M2 10 3 = nI (C.length + S.length + T.length) := by rw [r2 10 (by decide)]; exact e3
  have t2 : ∀ j, j < T.length → mI M2 11 (C.length + j) = nI (cwd (T.getD j (0, 0))) := fun j hj => by
    rw [hM2, mI_sIr_s, va_in _ _ hj, r1 11 (by decide), cT j hj]
  have c2 : ∀ j, j < C.length → mI M2 11 j = nI (cwd (C.getD j (0, 0))) := fun j hj => by
    rw [hM2, mI_sIr_s, va_out _ _ (Or.inl hj), r1 11 (by decide), cC j hj]
  obtain ⟨M3, hM3⟩ : ∃ M3, M3 = sI M2 10 3 (nI (C.length + T.length)) := ⟨_, rfl⟩
  have hC3 : CIs (mS M3) (mR M3) := by rw [hM3]; exact hC2
  have e33 : mI M3 10 3 = nI (C.length + T.length) := by rw [hM3, mI_sI, if_pos ⟨rfl, rfl⟩]
  have a3 := y_putE (x := (5, S.length + 1)) hC3 e33 (by omega) ⟨by show 5 ≤ 16; decide, by show S.length + 1 < 2 ^ 20; omega⟩
  obtain ⟨M4, hM4⟩ : ∃ M4, M4 = sI (sI M3 11 (C.length + T.length) (nI (cwd (5, S.length + 1)))) 10 3 (nI (C.length + T.length + 1)) := ⟨_, rfl⟩
  rw [← hM4] at a3
  have a3 : f_X5_put 10 (nI 5) (nI (S.length + 1)) M3 = some (nI 1, M4) := a3
  have hC4 : CIs (mS M4) (mR M4) := by rw [hM4]; exact hC3
  have e34 : mI M4 10 3 = nI (C.length + T.length + 1) := by rw [hM4, mI_sI, if_pos ⟨rfl, rfl⟩]
  have r4 : mI M4 12 = mI M1 12 := by rw [hM4, sI_row (by decide), sI_row (by decide), hM3, sI_row (by decide), r2 12 (by decide)]
  have q4 : ∀ j, mI M4 11 j = if j = C.length + T.length then nI (cwd (5, S.length + 1)) else mI M2 11 j := fun j => by
    rw [hM4, sI_row (by decide), mI_sI]
    by_cases z : j = C.length + T.length
    · rw [if_pos ⟨rfl, z⟩, if_pos z]
    · rw [if_neg (fun x => z x.2), if_neg z, hM3, sI_row (by decide)]
  have a4 := cpy_ok (M := M4) (a0 := 12) (a1 := 11) (sp := 0) (dp := C.length + T.length + 1) (n := S.length) (cl_spare hC4) (cl_code hC4) (by decide) (by decide) (by omega) (by omega) (by decide) (by decide)
  obtain ⟨M5, hM5⟩ : ∃ M5, M5 = sIr M4 11 (va_cpy (mI M4 12) (mI M4 11) 0 (C.length + T.length + 1) S.length) := ⟨_, rfl⟩
  rw [← hM5] at a4
  have hC5 : CIs (mS M5) (mR M5) := by rw [hM5]; exact hC4
  have r5 : ∀ a, a ≠ 11 → mI M5 a = mI M4 a := fun a ha => by rw [hM5, mI_sIr_o _ _ ha]
  have e35 : mI M5 10 3 = nI (C.length + T.length + 1) := by rw [r5 10 (by decide)]; exact e34
  unfold f_X5_moveTestAhead
  rw [nm_eq, lenCS, n_sub (by omega), show C.length + S.length - C.length = S.length by omega]
  refine WP.ie (by show ¬ (nI S.length < nI 0); rw [n_lt (by omega) (by decide)]; omega) ?_
  repeat (first | ((with_reducible apply WP.ce); case h => (simp (disch := omega) only []; with_reducible rfl)) | ((with_reducible apply WP.bd); case h => (simp (disch := omega) only [e_gR, e_gI, e_aI, e_aL, e_oO, e_pI, e_wI, e_wL, Option.map_some, mS_sL, mR_sL, mI_sL, mS_sI, mR_sI, mL_sI, n_cl, cob_10 hC, cr_code hC, h12, e_lnA, cn_code hC]; with_reducible rfl)) | rw [nm_eq] | rw [ckZ_n1] | rw [ckZ_n0])
  refine WP.it (by rw [n_lt (by omega) (by decide)]; exact hl) ?_
  repeat (first | ((with_reducible apply WP.ce); case h => (simp (disch := omega) only []; with_reducible rfl)) | ((with_reducible apply WP.bd); case h => (simp (disch := omega) only [e_gR, e_gI, e_aI, e_aL, e_oO, e_pI, e_wI, e_wL, Option.map_some, mS_sL, mR_sL, mI_sL, mS_sI, mR_sI, mL_sI, n_cl, cob_10 hC, cr_code hC, cr_spare hC, a1]; with_reducible rfl)) | rw [nm_eq] | rw [ckZ_n1] | rw [ckZ_n0])
  repeat (first | ((with_reducible apply WP.ce); case h => (simp (disch := omega) only []; with_reducible rfl)) | ((with_reducible apply WP.bd); case h => (simp (disch := omega) only [e_gR, e_gI, e_aI, e_aL, e_oO, e_pI, e_wI, e_wL, Option.map_some, mS_sL, mR_sL, mI_sL, mS_sI, mR_sI, mL_sI, n_cl, cob_10 hC1, cr_code hC1, e3]; with_reducible rfl)) | rw [nm_eq] | rw [ckZ_n1] | rw [ckZ_n0])
  rw [n_sub (by omega), show C.length + S.length + T.length - (C.length + S.length) = T.length by omega]
  repeat (first | ((with_reducible apply WP.ce); case h => (simp (disch := omega) only []; with_reducible rfl)) | ((with_reducible apply WP.bd); case h => (simp (disch := omega) only [e_gR, e_gI, e_aI, e_aL, e_oO, e_pI, e_wI, e_wL, Option.map_some, mS_sL, mR_sL, mI_sL, mS_sI, mR_sI, mL_sI, n_cl, a2]; with_reducible rfl)) | rw [nm_eq] | rw [ckZ_n1] | rw [ckZ_n0])
  repeat (first | ((with_reducible apply WP.ce); case h => (simp (disch := omega) only []; with_reducible rfl)) | ((with_reducible apply WP.bd); case h => (simp (disch := omega) only [e_gR, e_gI, e_aI, e_aL, e_oO, e_pI, e_wI, e_wL, Option.map_some, mS_sL, mR_sL, mI_sL, mS_sI, mR_sI, mL_sI, n_cl, cob_10 hC2, e32]; with_reducible rfl)) | rw [nm_eq] | rw [ckZ_n1] | rw [ckZ_n0])
  rw [n_sub (by omega), show C.length + S.length + T.length - S.length = C.length + T.length by omega, ← hM3]
  rw [n_add]
  repeat (first | ((with_reducible apply WP.ce); case h => (simp (disch := omega) only [a3]; with_reducible rfl)) | ((with_reducible apply WP.bd); case h => (simp (disch := omega) only [e_gR, e_gI, e_aI, e_aL, e_oO, e_pI, e_wI, e_wL, Option.map_some, mS_sL, mR_sL, mI_sL, mS_sI, mR_sI, mL_sI, n_cl, cob_10 hC3]; with_reducible rfl)) | rw [nm_eq] | rw [ckZ_n1] | rw [ckZ_n0])
  repeat (first | ((with_reducible apply WP.ce); case h => (simp (disch := omega) only []; with_reducible rfl)) | ((with_reducible apply WP.bd); case h => (simp (disch := omega) only [e_gR, e_gI, e_aI, e_aL, e_oO, e_pI, e_wI, e_wL, Option.map_some, mS_sL, mR_sL, mI_sL, mS_sI, mR_sI, mL_sI, n_cl, cob_10 hC4, cr_code hC4, cr_spare hC4, e34, a4]; with_reducible rfl)) | rw [nm_eq] | rw [ckZ_n1] | rw [ckZ_n0])
  repeat (first | ((with_reducible apply WP.ce); case h => (simp (disch := omega) only []; with_reducible rfl)) | ((with_reducible apply WP.bd); case h => (simp (disch := omega) only [e_gR, e_gI, e_aI, e_aL, e_oO, e_pI, e_wI, e_wL, Option.map_some, mS_sL, mR_sL, mI_sL, mS_sI, mR_sI, mL_sI, n_cl, cob_10 hC5, e35, n_add]; with_reducible rfl)) | rw [nm_eq] | rw [ckZ_n1] | rw [ckZ_n0])
  obtain ⟨M6, hM6⟩ : ∃ M6, M6 = sI M5 10 3 (nI (C.length + T.length + 1 + S.length)) := ⟨_, rfl⟩
  rw [← hM6]
  have rO : ∀ a, a ≠ 10 → a ≠ 11 → a ≠ 12 → mI M6 a = mI M a := fun a b1 b2 b3 => by rw [hM6, sI_row b1, r5 a b2, hM4, sI_row b1, sI_row b2, hM3, sI_row b1, r2 a b2, r1 a b3]
  have rF : ∀ k, k ≠ 3 → mI M6 10 k = mI M 10 k := fun k hk3 => by rw [hM6, mI_sI, if_neg (by omega), r5 10 (by decide), hM4, mI_sI, if_neg (by omega), sI_row (by decide), hM3, mI_sI, if_neg (by omega), r2 10 (by decide), r1 10 (by decide)]
  have lenN : (C ++ (T ++ (5, S.length + 1) :: S)).length = C.length + (T.length + (S.length + 1)) := by rw [List.length_append, List.length_append]; rfl
  refine WP.ret ⟨⟨by rw [hM6, hM5, hM4, hM3, hM2, hM1]; rfl, by rw [hM6, hM5, hM4, hM3, hM2, hM1]; rfl, fun a b1 b2 b3 b4 => rO a b2 b3 b4, by rw [rO 1 (by decide) (by decide) (by decide)]⟩, ⟨by rw [hM6]; exact hC5, ⟨by rw [rO 1 (by decide) (by decide) (by decide)]; exact ht.1, by rw [rO 2 (by decide) (by decide) (by decide)]; exact ht.2⟩, hk.of (rO 1 (by decide) (by decide) (by decide)) (by rw [hM6, hM5, hM4, hM3, hM2, hM1]; rfl), by rw [rO 1 (by decide) (by decide) (by decide)]; exact h2⟩, ⟨by rw [rF 4 (by decide)]; exact h10, by rw [rF 5 (by decide)]; exact h11⟩, ⟨by rw [hM6, mI_sI, if_pos ⟨rfl, rfl⟩, lenN]; congr 1; omega, fun j hj => ?_⟩, fun x hx => ?_⟩
  · rw [lenN] at hj
    have e6 : mI M6 11 j = va_cpy (mI M4 12) (mI M4 11) 0 (C.length + T.length + 1) S.length j := by rw [hM6, sI_row (by decide), hM5, mI_sIr_s]
    rw [e6]
    by_cases c1 : j < C.length
    · rw [va_out _ _ (Or.inl (by omega)), q4, if_neg (by omega), c2 j c1, getD_ap c1]
    · obtain ⟨j1, rfl⟩ : ∃ j1, j = C.length + j1 := ⟨j - C.length, by omega⟩
      rw [getD_ar]
      by_cases c3 : j1 < T.length
      · rw [va_out _ _ (Or.inl (by omega)), q4, if_neg (by omega), t2 j1 c3, getD_ap c3]
      · obtain ⟨j2, rfl⟩ : ∃ j2, j1 = T.length + j2 := ⟨j1 - T.length, by omega⟩
        rw [getD_ar]
        cases j2 with
        | zero => rw [va_out _ _ (Or.inl (by omega)), q4, if_pos (by omega)]; rfl
        | succ j3 =>
          have := va_in (mI M4 12) (mI M4 11) (sp := 0) (dp := C.length + T.length + 1) (n := S.length) (i := j3) (by omega)
          rw [show C.length + (T.length + (j3 + 1)) = C.length + T.length + 1 + j3 by omega, this, Nat.zero_add, r4, s1 j3 (by omega)]
          rfl
  · have mem : ∀ y, y ∈ C ∨ y ∈ S ∨ y ∈ T → cok y := fun y hy => h14 y (by
      rcases hy with z | z | z
      · exact List.mem_append.mpr (Or.inl (List.mem_append.mpr (Or.inl z)))
      · exact List.mem_append.mpr (Or.inl (List.mem_append.mpr (Or.inr z)))
      · exact List.mem_append.mpr (Or.inr z))
    rcases List.mem_append.mp hx with z | z
    · exact mem x (Or.inl z)
    · rcases List.mem_append.mp z with z | z
      · exact mem x (Or.inr (Or.inr z))
      · rcases List.mem_cons.mp z with z | z
        · rw [z]; exact ⟨by show 5 ≤ 16; decide, by show S.length + 1 < 2 ^ 20; omega⟩
        · exact mem x (Or.inr (Or.inl z))
/-- a clause's code -/
def Cls (F : CDs) (x : CLs) : Prop := ∀ (C : CDs) (i : Nat) (v : Nat → Int64), (∀ j, j < F.length → C[i + j]? = F[j]?) → ∃ n, n ≤ F.length ∧ ∀ d, xr C v (n + d) i [] = if x.1.elim true (fun q => q v) then some (x.2 v) else xr C v d (i + F.length) []
theorem xr_g {C : CDs} {v : Nat → Int64} {i d w : Nat} {y : Int64} {st : List Int64} (h : C[i]? = some (6, w)) : xr C v (1 + d) i (y :: st) = some y := by
  rw [Nat.add_comm, xr, xst_6 h]; rfl
theorem Cls.nst {S : CDs} {s : RD} (h : Cp S 3 (fun v => [s v])) : Cls (S ++ [(6, 0)]) (none, s) := fun C i v hC => by
  have len : (S ++ [(6, 0)]).length = S.length + 1 := by rw [List.length_append]; rfl
  obtain ⟨n1, l1, e1⟩ := h C i v [] (fun j hj => (hC j (by rw [len]; omega)).trans (List.getElem?_append_left hj)) (by decide)
  have hx : C[i + S.length]? = some (6, 0) := by
    rw [hC S.length (by rw [len]; omega), List.getElem?_append_right (Nat.le_refl _), Nat.sub_self]; rfl
  refine ⟨n1 + 1, by rw [len]; omega, fun d => ?_⟩
  rw [Nat.add_assoc, e1]
  exact xr_g hx
theorem Cls.tst {S T : CDs} {s : RD} {q : QD} (h1 : Cp S 3 (fun v => [s v])) (h2 : Cp T 4 (fun v => [bL (q v)])) : Cls (T ++ (5, S.length + 1) :: S ++ [(6, 0)]) (some q, s) := fun C i v hC => by
  have len : (T ++ (5, S.length + 1) :: S ++ [(6, 0)]).length = T.length + (S.length + 1) + 1 := by rw [List.length_append, List.length_append]; rfl
  have atP : ∀ j x, (T ++ (5, S.length + 1) :: S ++ [(6, 0)])[j]? = some x → j < T.length + (S.length + 1) + 1 → C[i + j]? = some x := fun j x e hj => (hC j (by rw [len]; exact hj)).trans e
  obtain ⟨n1, l1, e1⟩ := h2 C i v [] (fun j hj => (hC j (by rw [len]; omega)).trans (by rw [List.append_assoc]; exact List.getElem?_append_left hj)) (by decide)
  have e1 : ∀ d, xr C v (n1 + d) i [] = xr C v d (i + T.length) [bL (q v)] := e1
  have hx : C[i + T.length]? = some (5, S.length + 1) := atP T.length _ (by rw [List.append_assoc, List.getElem?_append_right (Nat.le_refl _), Nat.sub_self]; rfl) (by omega)
  have hg : C[i + T.length + 1 + S.length]? = some (6, 0) := by
    have := atP (T.length + (S.length + 1)) (6, 0) (by
      rw [List.getElem?_append_right (by rw [List.length_append]; show T.length + (S.length + 1) ≤ _; omega)]
      have : T.length + (S.length + 1) - (T ++ (5, S.length + 1) :: S).length = 0 := by rw [List.length_append]; show T.length + (S.length + 1) - (T.length + (S.length + 1)) = 0; omega
      rw [this]; rfl) (by omega)
    rw [show i + T.length + 1 + S.length = i + (T.length + (S.length + 1)) by omega]
    exact this
  cases hq : q v with
  | false =>
    refine ⟨n1 + 1, by rw [len]; omega, fun d => ?_⟩
    rw [Nat.add_assoc, e1, hq, xr_s (xst_5 hx), len]
    show xr C v d (i + T.length + (S.length + 1) + 1) [] = (if q v then _ else _)
    rw [hq, show i + T.length + (S.length + 1) + 1 = i + (T.length + (S.length + 1) + 1) by omega]; rfl
  | true =>
    obtain ⟨n2, l2, e2⟩ := h1 C (i + T.length + 1) v [] (fun j hj => by
      rw [show i + T.length + 1 + j = i + (T.length + (1 + j)) by omega]
      rw [hC (T.length + (1 + j)) (by rw [len]; omega), List.append_assoc, List.getElem?_append_right (by omega), show T.length + (1 + j) - T.length = j + 1 by omega]
      show (S ++ [(6, 0)])[j]? = S[j]?
      exact List.getElem?_append_left hj) (by decide)
    have e2 : ∀ d, xr C v (n2 + d) (i + T.length + 1) [] = xr C v d (i + T.length + 1 + S.length) [s v] := e2
    refine ⟨n1 + (1 + (n2 + 1)), by rw [len]; omega, fun d => ?_⟩
    rw [show n1 + (1 + (n2 + 1)) + d = n1 + (1 + (n2 + (1 + d))) by omega, e1, hq, xr_s (xst_5 hx)]
    show xr C v (n2 + (1 + d)) (i + T.length + 1) [] = (if q v then _ else _)
    rw [e2, xr_g hg, hq]; rfl
/-- how a clause ends -/
def CLc (M : Mem) (t : TP) (p c : Nat) (C : CDs) (w : Nat) (r : Nat × Nat × Nat × CLs) (v : Int32) (M' : Mem) : Prop := FK M M' ∧ ((r.1 = 0 ∧ v = nI 1 ∧ ∃ F w', CSt M' t r.2.1 r.2.2.1 (C ++ F) w' ∧ Cls F r.2.2.2 ∧ (wsb w w' ∧ dpd w' r.2.2.2.2 ∧ ∀ q, r.2.2.2.1 = some q → dpd w' q) ∧ (0 < F.length ∧ F.length + p + 3 ≤ r.2.1)) ∨ (r.1 ≠ 0 ∧ v = nI 0 ∧ CFl M' r.1))
theorem y_clauseR (h4 : TOk2 t) (hp : p ≤ t.1) (hc : c ≤ 60) (hl : C.length ≤ p) {n : Nat} (hn : n ≤ 12) (h : CSt M t p c C w) : WP (f_X5_readClause 10 (nI n) M) (CLc M t p c C w (clP t p c n)) := by
  have hL := h4.1
  have hC := h.1.1
  have kw := h.1.2.2.1.2.2.2.1
  have k4 := h.1.2.2.1.2.1
  have bad : ∀ (f : Nat) (M' : Mem), FK M M' → CFl M' f → (clP t p c n).1 = f → WP (some (nI 0, M')) (CLc M t p c C w (clP t p c n)) := fun f M' fr hf hr => WP.ret ⟨fr, Or.inr ⟨by rw [hr]; exact hf.1, rfl, by rw [hr]; exact hf⟩⟩
  unfold f_X5_readClause
  repeat (first | ((with_reducible apply WP.ce); case h => (simp (disch := omega) only []; with_reducible rfl)) | ((with_reducible apply WP.bd); case h => (simp (disch := omega) only [e_gR, e_gI, e_aI, e_aL, e_oO, e_pI, e_wI, e_wL, Option.map_some, mS_sL, mR_sL, mI_sL, mS_sI, mR_sI, mL_sI, n_cl, cob_10 hC, cr_10_tape hC, cob_1 hC, e_gL, kw]; with_reducible rfl)) | rw [nm_eq] | rw [ckZ_n1] | rw [ckZ_n0])
  by_cases hw : lts t (bk t p) = w_tell
  · have hE : tkE t p = bk t p + 4 := (tkE_w (by decide) hw).2
    have hm := wk_mv (by decide) hp hw
    have hge := bk_ge t p
    refine WP.it (by rw [tw_tell h4]; exact hw) ?_
    by_cases h12 : n = 12
    · refine WP.ie (by rw [n_lt (by omega) (by decide)]; omega) ?_
      repeat (first | ((with_reducible apply WP.ce); case h => (simp (disch := omega) only []; with_reducible rfl)) | ((with_reducible apply WP.bd); case h => (simp (disch := omega) only [e_gR, e_gI, e_aI, e_aL, e_oO, e_pI, e_wI, e_wL, Option.map_some, mS_sL, mR_sL, mI_sL, mS_sI, mR_sI, mL_sI, n_cl, cob_10 hC, cr_10_tape hC, cob_1 hC, k4]; with_reducible rfl)) | rw [nm_eq] | rw [ckZ_n1] | rw [ckZ_n0])
      refine WP.cw (y_fail h (by omega) (bk t p) 4) (fun v M' g => ?_)
      obtain ⟨rfl, g1, g2⟩ := g
      rw [ckZ_n0]
      exact bad _ M' g1 g2 (by unfold clP; rw [if_pos hw, if_pos h12])
    · refine WP.it (by rw [n_lt (by omega) (by decide)]; omega) ?_
      repeat (first | ((with_reducible apply WP.ce); case h => (simp (disch := omega) only []; with_reducible rfl)) | ((with_reducible apply WP.bd); case h => (simp (disch := omega) only [e_gR, e_gI, e_aI, e_aL, e_oO, e_pI, e_wI, e_wL, Option.map_some, mS_sL, mR_sL, mI_sL, mS_sI, mR_sI, mL_sI, n_cl, cob_10 hC, cr_10_tape hC, cob_1 hC]; with_reducible rfl)) | rw [nm_eq] | rw [ckZ_n1] | rw [ckZ_n0])
      refine WP.cw (y_next h4 hp h) (fun _ M1 n1 => ?_)
      obtain ⟨n1, n2⟩ := n1
      have hC1 := n2.1.1
      have kl := n2.2.2.1.1
      repeat (first | ((with_reducible apply WP.ce); case h => (simp (disch := omega) only []; with_reducible rfl)) | ((with_reducible apply WP.bd); case h => (simp (disch := omega) only [e_gR, e_gI, e_aI, e_aL, e_oO, e_pI, e_wI, e_wL, Option.map_some, mS_sL, mR_sL, mI_sL, mS_sI, mR_sI, mL_sI, n_cl, cob_10 hC1, kl]; with_reducible rfl)) | rw [nm_eq] | rw [ckZ_n1] | rw [ckZ_n0])
      obtain ⟨z1, z2⟩ := smP_ok h4 (p := tkE t p) (c := c) hm.2
      refine WP.cw (y_sum h4 hm.2 hc (by omega) n2) (fun v M2 u => ?_)
      obtain ⟨u1, u2⟩ := u
      have fr2 := n1.tr u1
      rcases u2 with ⟨s0, rfl, S, w1, v1, v2, v3, v4, v5, v6⟩ | ⟨s0, rfl, v1⟩
      · obtain ⟨⟨y1, y2⟩, ⟨y3, y4⟩, y5⟩ := z2 s0
        obtain ⟨r1, hr1⟩ : ∃ r1, r1 = smP t (tkE t p) c := ⟨_, rfl⟩
        rw [← hr1] at s0 v1 v2 v4 v5 v6 y1 y2 y3 y4 y5
        have hC2 := v1.1.1
        have kw2 := v1.1.2.2.1.2.2.2.1
        have kl2 := v1.2.2.1.1
        have lenS : (C ++ S).length = C.length + S.length := List.length_append
        refine WP.ie (by decide) ?_
        repeat (first | ((with_reducible apply WP.ce); case h => (simp (disch := omega) only []; with_reducible rfl)) | ((with_reducible apply WP.bd); case h => (simp (disch := omega) only [e_gR, e_gI, e_aI, e_aL, e_oO, e_pI, e_wI, e_wL, Option.map_some, mS_sL, mR_sL, mI_sL, mS_sI, mR_sI, mL_sI, n_cl, cob_10 hC2, cr_10_tape hC2, cob_1 hC2, e_gL, kw2]; with_reducible rfl)) | rw [nm_eq] | rw [ckZ_n1] | rw [ckZ_n0])
        by_cases hif : lts t (bk t r1.2.1) = w_if
        · have hE2 : tkE t r1.2.1 = bk t r1.2.1 + 2 := (tkE_w (by decide) hif).2
          have hm2 := wk_mv (by decide) y2 hif
          have hge2 := bk_ge t r1.2.1
          refine WP.it (by rw [tw_if h4]; exact hif) ?_
          repeat (first | ((with_reducible apply WP.ce); case h => (simp (disch := omega) only []; with_reducible rfl)) | ((with_reducible apply WP.bd); case h => (simp (disch := omega) only [e_gR, e_gI, e_aI, e_aL, e_oO, e_pI, e_wI, e_wL, Option.map_some, mS_sL, mR_sL, mI_sL, mS_sI, mR_sI, mL_sI, n_cl, cob_10 hC2, cr_10_tape hC2, cob_1 hC2, kl2]; with_reducible rfl)) | rw [nm_eq] | rw [ckZ_n1] | rw [ckZ_n0])
          refine WP.cw (y_next h4 y2 v1) (fun _ M3 n3 => ?_)
          obtain ⟨n3, n4⟩ := n3
          have hC3 := n4.1.1
          repeat (first | ((with_reducible apply WP.ce); case h => (simp (disch := omega) only []; with_reducible rfl)) | ((with_reducible apply WP.bd); case h => (simp (disch := omega) only [e_gR, e_gI, e_aI, e_aL, e_oO, e_pI, e_wI, e_wL, Option.map_some, mS_sL, mR_sL, mI_sL, mS_sI, mR_sI, mL_sI, n_cl, cob_10 hC3]; with_reducible rfl)) | rw [nm_eq] | rw [ckZ_n1] | rw [ckZ_n0])
          have okr := tsR_ok h4 t.1 (none, tkE t r1.2.1, r1.2.2.1, []) (Nat.sub_le _ _) hm2.2 y4
          refine WP.cw (y_test h4 hm2.2 y4 (by rw [lenS]; omega) n4) (fun v M4 q => ?_)
          obtain ⟨q1, q2⟩ := q
          have fr4 := (fr2.tr n3).tr q1
          have ec : clP t p c n = ((tsR t (none, tkE t r1.2.1, r1.2.2.1, [])).1, (tsR t (none, tkE t r1.2.1, r1.2.2.1, [])).2.1, (tsR t (none, tkE t r1.2.1, r1.2.2.1, [])).2.2.1, some (tsR t (none, tkE t r1.2.1, r1.2.2.1, [])).2.2.2, r1.2.2.2) := by
            unfold clP
            rw [if_pos hw, if_neg h12, ← hr1, if_pos s0, if_pos hif]
          rcases q2 with ⟨rfl, D, p2, c2, T, w2, o1, o2, o3, ⟨o4, o5⟩, ⟨o6, o7⟩, ⟨o8, o8'⟩, o9, oa, oo⟩ | ⟨q3, rfl, q4⟩
          · have eS : tsS t (some D, p2, c2, []) = .inl (0, p2, c2, D) := by
              unfold tsS
              dsimp only
              rw [if_neg oa, if_neg oo]
              rfl
            have er : tsR t (none, tkE t r1.2.1, r1.2.2.1, []) = (0, p2, c2, D) := o1.trans (tsR_l h4 (show ((some D, p2, c2, []) : TSt).2.1 ≤ t.1 from o7) eS)
            rw [er] at ec
            have hC4 := o2.1.1
            refine WP.ie (by decide) ?_
            repeat (first | ((with_reducible apply WP.ce); case h => (simp (disch := omega) only []; with_reducible rfl)) | ((with_reducible apply WP.bd); case h => (simp (disch := omega) only [e_gR, e_gI, e_aI, e_aL, e_oO, e_pI, e_wI, e_wL, Option.map_some, mS_sL, mR_sL, mI_sL, mS_sI, mR_sI, mL_sI, n_cl, cob_10 hC4]; with_reducible rfl)) | rw [nm_eq] | rw [ckZ_n1] | rw [ckZ_n0])
            refine WP.cw (y_move o2 (by rw [List.length_append, lenS]; omega) (by omega)) (fun _ M5 x => ?_)
            obtain ⟨x1, x2⟩ := x
            have hC5 := x2.1.1
            have lenT : (T ++ (5, S.length + 1) :: S).length = T.length + (S.length + 1) := by rw [List.length_append]; rfl
            unfold f_X5_readClause_J115
            repeat (first | ((with_reducible apply WP.ce); case h => (simp (disch := omega) only []; with_reducible rfl)) | ((with_reducible apply WP.bd); case h => (simp (disch := omega) only [e_gR, e_gI, e_aI, e_aL, e_oO, e_pI, e_wI, e_wL, Option.map_some, mS_sL, mR_sL, mI_sL, mS_sI, mR_sI, mL_sI, n_cl, cob_10 hC5]; with_reducible rfl)) | rw [nm_eq] | rw [ckZ_n1] | rw [ckZ_n0])
            refine WP.cw (y_put x2 (x := (6, 0)) (by rw [List.length_append, lenT]; omega) ⟨by decide, by decide⟩) (fun v M6 y => ?_)
            obtain ⟨rfl, yy1, yy2⟩ := y
            rw [List.append_assoc] at yy2
            rw [ckZ_n1, ec]
            exact WP.ret ⟨(fr4.tr x1).tr yy1, Or.inl ⟨rfl, rfl, _, w2, yy2, Cls.tst v2 o3, ⟨v3.tr o4, v4.up o4, fun q hq => by cases hq; exact o5⟩, ⟨by rw [List.length_append, lenT]; show 0 < T.length + (S.length + 1) + 1; omega, by rw [List.length_append, lenT]; show T.length + (S.length + 1) + 1 + p + 3 ≤ p2; omega⟩⟩⟩
          · refine WP.it rfl ?_
            rw [ckZ_n0]
            exact bad _ M4 fr4 q4 (by rw [ec])
        · refine WP.ie (by rw [tw_if h4]; exact hif) ?_
          have ec : clP t p c n = (0, r1.2.1, r1.2.2.1, none, r1.2.2.2) := by
            unfold clP
            rw [if_pos hw, if_neg h12, ← hr1, if_pos s0, if_neg hif]
          unfold f_X5_readClause_J115
          repeat (first | ((with_reducible apply WP.ce); case h => (simp (disch := omega) only []; with_reducible rfl)) | ((with_reducible apply WP.bd); case h => (simp (disch := omega) only [e_gR, e_gI, e_aI, e_aL, e_oO, e_pI, e_wI, e_wL, Option.map_some, mS_sL, mR_sL, mI_sL, mS_sI, mR_sI, mL_sI, n_cl, cob_10 hC2]; with_reducible rfl)) | rw [nm_eq] | rw [ckZ_n1] | rw [ckZ_n0])
          refine WP.cw (y_put v1 (x := (6, 0)) (by rw [lenS]; omega) ⟨by decide, by decide⟩) (fun v M6 y => ?_)
          obtain ⟨rfl, yy1, yy2⟩ := y
          rw [List.append_assoc] at yy2
          rw [ckZ_n1, ec]
          exact WP.ret ⟨fr2.tr yy1, Or.inl ⟨rfl, rfl, _, w1, yy2, Cls.nst v2, ⟨v3, v4, fun q hq => by cases hq⟩, ⟨by rw [List.length_append]; show 0 < S.length + 1; omega, by rw [List.length_append]; show S.length + 1 + p + 3 ≤ r1.2.1; omega⟩⟩⟩
      · refine WP.it rfl ?_
        rw [ckZ_n0]
        exact bad _ M2 fr2 v1 (by unfold clP; rw [if_pos hw, if_neg h12, if_neg s0])
  · refine WP.ie (by rw [tw_tell h4]; exact hw) ?_
    repeat (first | ((with_reducible apply WP.ce); case h => (simp (disch := omega) only []; with_reducible rfl)) | ((with_reducible apply WP.bd); case h => (simp (disch := omega) only [e_gR, e_gI, e_aI, e_aL, e_oO, e_pI, e_wI, e_wL, Option.map_some, mS_sL, mR_sL, mI_sL, mS_sI, mR_sI, mL_sI, n_cl, cob_10 hC, cr_10_tape hC, cob_1 hC, k4]; with_reducible rfl)) | rw [nm_eq] | rw [ckZ_n1] | rw [ckZ_n0])
    refine WP.cw (y_fail h (by omega) (bk t p) 0) (fun v M' g => ?_)
    obtain ⟨rfl, g1, g2⟩ := g
    rw [ckZ_n0]
    exact bad _ M' g1 g2 (by unfold clP; exact congrArg Prod.fst (if_neg hw))
end CLC
