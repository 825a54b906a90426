/-! THE CLASS: a book copied, a book made -/
theorem c_bookCopy {M : Mem} {p q c : Nat} {B : BD} (hp : IBook (mS M) (mR M) p) (hq : IBook (mS M) (mR M) q) (hd : p + 14 < q ∨ q + 14 < p) (hk : BOk c B) (h : CBk M p B) : WP (f_X2_copyFrom q (some p) M) (fun _ M' => (mS M' = mS M ∧ mR M' = mR M) ∧ (∀ a, a < q ∨ q + 14 < a → mI M' a = mI M a) ∧ CBk M' q B) := by
  have cp : ∀ (N : Mem) (x y n : Nat), lenOf (mS N) 0 x = n → lenOf (mS N) 0 y = n → 0 < n → n < 2 ^ 31 → cpy N (some x) (nI 0) (some y) (nI 0) (nI n) = some (sIr N y (va_cpy (mI N x) (mI N y) 0 0 n)) := fun N x y n h1 h2 h3 h4 => cpy_ok (l0 := n) (l1 := n) h1 h2 h3 h3 (by omega) (by omega) h4 h4
  unfold f_X2_copyFrom
  repeat (first | ((with_reducible apply WP.ce); case h => (simp (disch := omega) only []; with_reducible rfl)) | ((with_reducible apply WP.bd); case h => (simp (disch := omega) only [e_gR, e_gI, e_aI, e_aL, e_oO, e_pI, e_wI, e_wL, Option.map_some, mS_sL, mR_sL, mI_sL, mS_sI, mR_sI, mL_sI, n_cl, book_o hp, book_o hq, book_r_told hp, book_r_told hq, told_o (book_i_1 hq)]; with_reducible rfl)) | rw [nm_eq] | rw [ckZ_n1] | rw [ckZ_n0])
  refine WP.cw (c_toldCopy (book_i_1 hp) (book_i_1 hq) (by omega) ⟨_, h.1.1.1⟩) (fun _ M1 c1 => ?_)
  obtain ⟨⟨s1, t1⟩, i1, f0, f1, f2, f3, f4, f5⟩ := c1
  have p1 : IBook (mS M1) (mR M1) p := by rw [s1, t1]; exact hp
  have q1 : IBook (mS M1) (mR M1) q := by rw [s1, t1]; exact hq
  repeat (first | ((with_reducible apply WP.ce); case h => (simp (disch := omega) only []; with_reducible rfl)) | ((with_reducible apply WP.bd); case h => (simp (disch := omega) only [e_gR, e_gI, e_aI, e_aL, e_oO, e_pI, e_wI, e_wL, Option.map_some, mS_sL, mR_sL, mI_sL, mS_sI, mR_sI, mL_sI, n_cl, book_o p1, book_o q1, book_r_scene p1, book_r_scene q1, scene_o (book_i_7 q1)]; with_reducible rfl)) | rw [nm_eq] | rw [ckZ_n1] | rw [ckZ_n0])
  refine WP.cw (c_copyFrom (book_i_7 p1) (book_i_7 q1) (by omega)) (fun _ M2 c2 => ?_)
  obtain ⟨⟨s2, t2, i2, -⟩, g0, g1, g2, g3⟩ := c2
  have p2 : IBook (mS M2) (mR M2) p := by rw [s2, t2]; exact p1
  have q2 : IBook (mS M2) (mR M2) q := by rw [s2, t2]; exact q1
  repeat (first | ((with_reducible apply WP.ce); case h => (simp (disch := omega) only []; with_reducible rfl)) | ((with_reducible apply WP.bd); case h => (simp (disch := omega) only [e_gR, e_gI, e_aI, e_aL, e_oO, e_pI, e_wI, e_wL, Option.map_some, mS_sL, mR_sL, mI_sL, mS_sI, mR_sI, mL_sI, n_cl, book_o p2, book_o q2, book_r_noteTide p2, book_r_noteTide q2]; with_reducible rfl)) | rw [nm_eq] | rw [ckZ_n1] | rw [ckZ_n0])
  refine WP.bd (cp M2 _ _ 10 (book_l_noteTide p2) (book_l_noteTide q2) (by decide) (by decide)) ?_
  obtain ⟨M3, hM3⟩ : ∃ M3, M3 = sIr M2 (q + 11) (va_cpy (mI M2 (p + 11)) (mI M2 (q + 11)) 0 0 10) := ⟨_, rfl⟩
  rw [← hM3]
  have p3 : IBook (mS M3) (mR M3) p := by rw [hM3]; exact p2
  have q3 : IBook (mS M3) (mR M3) q := by rw [hM3]; exact q2
  have i3 : ∀ a, a ≠ q + 11 → mI M3 a = mI M2 a := fun a ha => by rw [hM3, mI_sIr_o _ _ ha]
  repeat (first | ((with_reducible apply WP.ce); case h => (simp (disch := omega) only []; with_reducible rfl)) | ((with_reducible apply WP.bd); case h => (simp (disch := omega) only [e_gR, e_gI, e_aI, e_aL, e_oO, e_pI, e_wI, e_wL, Option.map_some, mS_sL, mR_sL, mI_sL, mS_sI, mR_sI, mL_sI, n_cl, book_o p3, book_o q3, book_r_noteShip p3, book_r_noteShip q3]; with_reducible rfl)) | rw [nm_eq] | rw [ckZ_n1] | rw [ckZ_n0])
  refine WP.bd (cp M3 _ _ 10 (book_l_noteShip p3) (book_l_noteShip q3) (by decide) (by decide)) ?_
  obtain ⟨M4, hM4⟩ : ∃ M4, M4 = sIr M3 (q + 12) (va_cpy (mI M3 (p + 12)) (mI M3 (q + 12)) 0 0 10) := ⟨_, rfl⟩
  rw [← hM4]
  have p4 : IBook (mS M4) (mR M4) p := by rw [hM4]; exact p3
  have q4 : IBook (mS M4) (mR M4) q := by rw [hM4]; exact q3
  have i4 : ∀ a, a ≠ q + 12 → mI M4 a = mI M3 a := fun a ha => by rw [hM4, mI_sIr_o _ _ ha]
  repeat (first | ((with_reducible apply WP.ce); case h => (simp (disch := omega) only []; with_reducible rfl)) | ((with_reducible apply WP.bd); case h => (simp (disch := omega) only [e_gR, e_gI, e_aI, e_aL, e_oO, e_pI, e_wI, e_wL, Option.map_some, mS_sL, mR_sL, mI_sL, mS_sI, mR_sI, mL_sI, n_cl, book_o p4, book_o q4, book_r_noteJoke p4, book_r_noteJoke q4]; with_reducible rfl)) | rw [nm_eq] | rw [ckZ_n1] | rw [ckZ_n0])
  refine WP.bd (cp M4 _ _ 10 (book_l_noteJoke p4) (book_l_noteJoke q4) (by decide) (by decide)) ?_
  obtain ⟨M5, hM5⟩ : ∃ M5, M5 = sIr M4 (q + 13) (va_cpy (mI M4 (p + 13)) (mI M4 (q + 13)) 0 0 10) := ⟨_, rfl⟩
  rw [← hM5]
  have p5 : IBook (mS M5) (mR M5) p := by rw [hM5]; exact p4
  have q5 : IBook (mS M5) (mR M5) q := by rw [hM5]; exact q4
  have i5 : ∀ a, a ≠ q + 13 → mI M5 a = mI M4 a := fun a ha => by rw [hM5, mI_sIr_o _ _ ha]
  repeat (first | ((with_reducible apply WP.ce); case h => (simp (disch := omega) only []; with_reducible rfl)) | ((with_reducible apply WP.bd); case h => (simp (disch := omega) only [e_gR, e_gI, e_aI, e_aL, e_oO, e_pI, e_wI, e_wL, Option.map_some, mS_sL, mR_sL, mI_sL, mS_sI, mR_sI, mL_sI, n_cl, book_o p5, book_o q5, book_r_past p5, book_r_past q5, e_lnA, book_n_past q5]; with_reducible rfl)) | rw [nm_eq] | rw [ckZ_n1] | rw [ckZ_n0])
  refine WP.bd (cp M5 _ _ 380 (book_l_past p5) (book_l_past q5) (by decide) (by decide)) ?_
  obtain ⟨M6, hM6⟩ : ∃ M6, M6 = sIr M5 (q + 14) (va_cpy (mI M5 (p + 14)) (mI M5 (q + 14)) 0 0 380) := ⟨_, rfl⟩
  rw [← hM6]
  have p6 : IBook (mS M6) (mR M6) p := by rw [hM6]; exact p5
  have q6 : IBook (mS M6) (mR M6) q := by rw [hM6]; exact q5
  have i6 : ∀ a, a ≠ q + 14 → mI M6 a = mI M5 a := fun a ha => by rw [hM6, mI_sIr_o _ _ ha]
  have pp : ∀ a, (p ≤ a ∧ a ≤ p + 14) → mI M6 a = mI M a := fun a ha => by rw [i6 _ (by omega), i5 _ (by omega), i4 _ (by omega), i3 _ (by omega), i2 _ (by omega) (by omega) (by omega) (by omega), i1 _ (by omega)]
  obtain ⟨M7, hM7⟩ : ∃ M7, M7 = sI M6 q 5 (mI M p 5) := ⟨_, rfl⟩
  have p7 : IBook (mS M7) (mR M7) p := by rw [hM7]; exact p6
  have q7 : IBook (mS M7) (mR M7) q := by rw [hM7]; exact q6
  obtain ⟨M8, hM8⟩ : ∃ M8, M8 = sI M7 q 6 (mI M p 6) := ⟨_, rfl⟩
  have p8 : IBook (mS M8) (mR M8) p := by rw [hM8]; exact p7
  have q8 : IBook (mS M8) (mR M8) q := by rw [hM8]; exact q7
  obtain ⟨M9, hM9⟩ : ∃ M9, M9 = sI M8 q 7 (mI M p 7) := ⟨_, rfl⟩
  have p9 : IBook (mS M9) (mR M9) p := by rw [hM9]; exact p8
  have q9 : IBook (mS M9) (mR M9) q := by rw [hM9]; exact q8
  obtain ⟨M10, hM10⟩ : ∃ M10, M10 = sI M9 q 8 (mI M p 8) := ⟨_, rfl⟩
  have p10 : IBook (mS M10) (mR M10) p := by rw [hM10]; exact p9
  have q10 : IBook (mS M10) (mR M10) q := by rw [hM10]; exact q9
  have v6 : mI M6 p = mI M p := pp p (by omega)
  have v7 : mI M7 p = mI M p := by rw [hM7, sI_row (by omega)]; exact v6
  have v8 : mI M8 p = mI M p := by rw [hM8, sI_row (by omega)]; exact v7
  have v9 : mI M9 p = mI M p := by rw [hM9, sI_row (by omega)]; exact v8
  have v10 : mI M10 p = mI M p := by rw [hM10, sI_row (by omega)]; exact v9
  repeat (first | ((with_reducible apply WP.ce); case h => (simp (disch := omega) only []; with_reducible rfl)) | ((with_reducible apply WP.bd); case h => (simp (disch := omega) only [e_gR, e_gI, e_aI, e_aL, e_oO, e_pI, e_wI, e_wL, Option.map_some, mS_sL, mR_sL, mI_sL, mS_sI, mR_sI, mL_sI, n_cl, book_o p6, book_o q6, v6, ← hM7]; with_reducible rfl)) | rw [nm_eq] | rw [ckZ_n1] | rw [ckZ_n0])
  repeat (first | ((with_reducible apply WP.ce); case h => (simp (disch := omega) only []; with_reducible rfl)) | ((with_reducible apply WP.bd); case h => (simp (disch := omega) only [e_gR, e_gI, e_aI, e_aL, e_oO, e_pI, e_wI, e_wL, Option.map_some, mS_sL, mR_sL, mI_sL, mS_sI, mR_sI, mL_sI, n_cl, book_o p7, book_o q7, v7, ← hM8]; with_reducible rfl)) | rw [nm_eq] | rw [ckZ_n1] | rw [ckZ_n0])
  repeat (first | ((with_reducible apply WP.ce); case h => (simp (disch := omega) only []; with_reducible rfl)) | ((with_reducible apply WP.bd); case h => (simp (disch := omega) only [e_gR, e_gI, e_aI, e_aL, e_oO, e_pI, e_wI, e_wL, Option.map_some, mS_sL, mR_sL, mI_sL, mS_sI, mR_sI, mL_sI, n_cl, book_o p8, book_o q8, v8, ← hM9]; with_reducible rfl)) | rw [nm_eq] | rw [ckZ_n1] | rw [ckZ_n0])
  repeat (first | ((with_reducible apply WP.ce); case h => (simp (disch := omega) only []; with_reducible rfl)) | ((with_reducible apply WP.bd); case h => (simp (disch := omega) only [e_gR, e_gI, e_aI, e_aL, e_oO, e_pI, e_wI, e_wL, Option.map_some, mS_sL, mR_sL, mI_sL, mS_sI, mR_sI, mL_sI, n_cl, book_o p9, book_o q9, v9, ← hM10]; with_reducible rfl)) | rw [nm_eq] | rw [ckZ_n1] | rw [ckZ_n0])
  repeat (first | ((with_reducible apply WP.ce); case h => (simp (disch := omega) only []; with_reducible rfl)) | ((with_reducible apply WP.bd); case h => (simp (disch := omega) only [e_gR, e_gI, e_aI, e_aL, e_oO, e_pI, e_wI, e_wL, Option.map_some, mS_sL, mR_sL, mI_sL, mS_sI, mR_sI, mL_sI, n_cl, book_o p10, book_o q10, v10]; with_reducible rfl)) | rw [nm_eq] | rw [ckZ_n1] | rw [ckZ_n0])
  have rr : ∀ a, a ≠ q → mI (sI M10 q 10 (mI M p 10)) a = mI M6 a := fun a ha => by rw [sI_row ha, hM10, sI_row ha, hM9, sI_row ha, hM8, sI_row ha, hM7, sI_row ha]
  refine WP.ret ⟨⟨?_, ?_⟩, fun a ha => ?_, CBk.cg hk h (fun i hi => ?_) (fun i hi => ?_) (fun i hi => ?_) (fun i hi => ?_) (fun i hi => ?_) (fun i hi => ?_) ?_ (fun i hi => ?_) (fun i hi => ?_) (fun i hi => ?_) (fun i hi => ?_) (fun i hi => ?_) (fun i hi => ?_) (fun i hi => ?_) (fun k hk2 => ?_)⟩
  · rw [mS_sI, hM10, hM9, hM8, hM7, hM6, hM5, hM4, hM3]; exact s2.trans s1
  · rw [mR_sI, hM10, hM9, hM8, hM7, hM6, hM5, hM4, hM3]; exact t2.trans t1
  · rw [rr _ (by omega), i6 _ (by omega), i5 _ (by omega), i4 _ (by omega), i3 _ (by omega), i2 _ (by omega) (by omega) (by omega) (by omega), i1 _ (by omega)]
  · rw [rr _ (by omega), i6 _ (by omega), i5 _ (by omega), i4 _ (by omega), i3 _ (by omega), i2 _ (by omega) (by omega) (by omega) (by omega), f0 i hi]
  · rw [rr _ (by omega), i6 _ (by omega), i5 _ (by omega), i4 _ (by omega), i3 _ (by omega), i2 _ (by omega) (by omega) (by omega) (by omega)]; exact f1 i hi
  · rw [rr _ (by omega), i6 _ (by omega), i5 _ (by omega), i4 _ (by omega), i3 _ (by omega), i2 _ (by omega) (by omega) (by omega) (by omega)]; exact f2 i hi
  · rw [rr _ (by omega), i6 _ (by omega), i5 _ (by omega), i4 _ (by omega), i3 _ (by omega), i2 _ (by omega) (by omega) (by omega) (by omega)]; exact f3 i hi
  · rw [rr _ (by omega), i6 _ (by omega), i5 _ (by omega), i4 _ (by omega), i3 _ (by omega), i2 _ (by omega) (by omega) (by omega) (by omega)]; exact f4 i hi
  · rw [rr _ (by omega), i6 _ (by omega), i5 _ (by omega), i4 _ (by omega), i3 _ (by omega), i2 _ (by omega) (by omega) (by omega) (by omega)]; exact f5 i hi
  · rw [rr _ (by omega), i6 _ (by omega), i5 _ (by omega), i4 _ (by omega), i3 _ (by omega), g0, i1 _ (by omega)]
  · rw [rr _ (by omega), i6 _ (by omega), i5 _ (by omega), i4 _ (by omega), i3 _ (by omega), show q + 8 = q + 7 + 1 by omega, g1 i hi, i1 _ (by omega)]
  · rw [rr _ (by omega), i6 _ (by omega), i5 _ (by omega), i4 _ (by omega), i3 _ (by omega), show q + 9 = q + 7 + 2 by omega, g2 i hi, i1 _ (by omega)]
  · rw [rr _ (by omega), i6 _ (by omega), i5 _ (by omega), i4 _ (by omega), i3 _ (by omega), show q + 10 = q + 7 + 3 by omega, g3 i hi, i1 _ (by omega)]
  · rw [rr _ (by omega), i6 _ (by omega), i5 _ (by omega), i4 _ (by omega), hM3, mI_sIr_s, va_cpy_z _ _ hi, i2 _ (by omega) (by omega) (by omega) (by omega), i1 _ (by omega)]
  · rw [rr _ (by omega), i6 _ (by omega), i5 _ (by omega), hM4, mI_sIr_s, va_cpy_z _ _ hi, i3 _ (by omega), i2 _ (by omega) (by omega) (by omega) (by omega), i1 _ (by omega)]
  · rw [rr _ (by omega), i6 _ (by omega), hM5, mI_sIr_s, va_cpy_z _ _ hi, i4 _ (by omega), i3 _ (by omega), i2 _ (by omega) (by omega) (by omega) (by omega), i1 _ (by omega)]
  · rw [rr _ (by omega), hM6, mI_sIr_s, va_cpy_z _ _ hi, i5 _ (by omega), i4 _ (by omega), i3 _ (by omega), i2 _ (by omega) (by omega) (by omega) (by omega), i1 _ (by omega)]
  · rw [mI_sI]
    by_cases e10 : k = 10
    · rw [if_pos ⟨rfl, e10⟩, e10]
    · rw [if_neg (by omega), hM10, mI_sI]
      by_cases e8 : k = 8
      · rw [if_pos ⟨rfl, e8⟩, e8]
      · rw [if_neg (by omega), hM9, mI_sI]
        by_cases e7 : k = 7
        · rw [if_pos ⟨rfl, e7⟩, e7]
        · rw [if_neg (by omega), hM8, mI_sI]
          by_cases e6 : k = 6
          · rw [if_pos ⟨rfl, e6⟩, e6]
          · rw [if_neg (by omega), hM7, mI_sI, if_pos ⟨rfl, by omega⟩, show k = 5 by omega]
/-! new cells -/
theorem cls_app (S L : List Shp) (j : Nat) : clsOf (S ++ L) (S.length + j) = clsOf L j := by
  unfold clsOf
  rw [List.getElem?_append_right (by omega), Nat.add_sub_cancel_left]
theorem len_app (S L : List Shp) (t j : Nat) : lenOf (S ++ L) t (S.length + j) = lenOf L t j := by
  unfold lenOf
  rw [List.getElem?_append_right (by omega), Nat.add_sub_cancel_left]
def NS (M0 M : Mem) (L : List Shp) (D : List (Nat × Nat × Nat)) : Prop := mS M = mS M0 ++ L ∧ (∀ a, a < (mS M0).length → mI M a = mI M0 a ∧ mR M a = mR M0 a ∧ mL M a = mL M0 a) ∧ ∀ q ∈ D, q.1 < L.length ∧ mR M ((mS M0).length + q.1) q.2.1 = some ((mS M0).length + q.2.2)
theorem NS.len {M0 M : Mem} {L : List Shp} {D : List (Nat × Nat × Nat)} (h : NS M0 M L D) : (mS M).length = (mS M0).length + L.length := by rw [h.1, List.length_append]
theorem NS.nw {M0 M : Mem} {L : List Shp} {D : List (Nat × Nat × Nat)} (h : NS M0 M L D) (sh : Shp) : NS M0 (nw M sh) (L ++ [sh]) D := by
  have hl := h.len
  have hl' : M.1.length = (mS M0).length + L.length := hl
  refine ⟨?_, fun a ha => ?_, fun q hq => ?_⟩
  · show mS M ++ [sh] = _
    rw [h.1, List.append_assoc]
  · obtain ⟨h1, h2, h3⟩ := h.2.1 a ha
    have hn : a ≠ M.1.length := by omega
    exact ⟨(rowU_n _ _ hn).trans h1, (rowU_n _ _ hn).trans h2, (rowU_n _ _ hn).trans h3⟩
  · obtain ⟨h1, h2⟩ := h.2.2 q hq
    have hn : (mS M0).length + q.1 ≠ M.1.length := by omega
    refine ⟨by rw [List.length_append]; show q.1 < L.length + 1; omega, ?_⟩
    show rowU M.2.2.2 M.1.length (fun _ => none) ((mS M0).length + q.1) q.2.1 = _
    rw [rowU_n _ _ hn]
    exact h2
theorem NS.sR {M0 M : Mem} {L : List Shp} {D : List (Nat × Nat × Nat)} (h : NS M0 M L D) {a k v : Nat} (ha : a < L.length) (hD : ∀ q ∈ D, ¬ (q.1 = a ∧ q.2.1 = k)) : NS M0 (sR M ((mS M0).length + a) k (some ((mS M0).length + v))) L ((a, k, v) :: D) := by
  refine ⟨h.1, fun b hb => ?_, fun q hq => ?_⟩
  · obtain ⟨h1, h2, h3⟩ := h.2.1 b hb
    refine ⟨h1, ?_, h3⟩
    funext j
    rw [mR_sR, if_neg (by omega), h2]
  · rcases List.mem_cons.mp hq with hq | hq
    · subst hq
      exact ⟨ha, by rw [mR_sR, if_pos ⟨rfl, rfl⟩]⟩
    · obtain ⟨h1, h2⟩ := h.2.2 q hq
      have := hD q hq
      refine ⟨h1, ?_⟩
      rw [mR_sR, if_neg (fun z => this ⟨by omega, z.2⟩)]
      exact h2
theorem NS.sIr {M0 M : Mem} {L : List Shp} {D : List (Nat × Nat × Nat)} (h : NS M0 M L D) (a : Nat) (g : Nat → Int32) : NS M0 (sIr M ((mS M0).length + a) g) L D := by
  refine ⟨h.1, fun b hb => ?_, h.2.2⟩
  obtain ⟨h1, h2, h3⟩ := h.2.1 b hb
  exact ⟨by rw [mI_sIr_o _ _ (by omega)]; exact h1, h2, h3⟩
theorem NS.sI {M0 M : Mem} {L : List Shp} {D : List (Nat × Nat × Nat)} (h : NS M0 M L D) (a k : Nat) (v : Int32) : NS M0 (sI M ((mS M0).length + a) k v) L D := h.sIr a _
theorem WP.no {β : Type} {M : Mem} {ci a : Nat} {K : Nat → Mem → Option (β × Mem)} {Q : β → Mem → Prop} (hl : (mS M).length = a) (k : WP (K a (nw M (.inl ci))) Q) : WP (newO M ci K) Q := by
  unfold newO
  rw [hl]
  exact k
theorem WP.na {β : Type} {M : Mem} {t n a : Nat} {K : Nat → Mem → Option (β × Mem)} {Q : β → Mem → Prop} (hn : n ≤ 1000) (hl : (mS M).length = a) (k : WP (K a (nw M (.inr (t, n)))) Q) : WP (newA M t (nI n) K) Q := by
  unfold newA
  rw [n_cl (by omega), hl]
  refine WP.ie ?_ k
  intro z
  rcases z with z | z
  · exact nI_pos (by omega) z
  · omega
theorem NS.o {M0 M : Mem} {L : List Shp} {D : List (Nat × Nat × Nat)} (h : NS M0 M L D) {a ci : Nat} (hc : clsOf L a = ci + 1) : oS (mS M) ci (some ((mS M0).length + a)) = some ((mS M0).length + a) := oS_ok (by rw [h.1, cls_app]; exact hc)
theorem NS.ln {M0 M : Mem} {L : List Shp} {D : List (Nat × Nat × Nat)} (h : NS M0 M L D) {a n : Nat} (hc : lenOf L 0 a = n) (hn : 0 < n) : lnS (mS M) (some ((mS M0).length + a)) = some (nI n) := lnS_ok (t := 0) (by rw [h.1, len_app]; exact hc) hn (by decide)
theorem NS.ix {M0 M : Mem} {L : List Shp} {D : List (Nat × Nat × Nat)} (h : NS M0 M L D) {a n : Nat} (hc : lenOf L 0 a = n) (hn : n ≤ 1000) : ∀ i, i < n → ixS (mS M) 0 (some ((mS M0).length + a)) (nI i) = some ((mS M0).length + a) := fun i hi => ixS_ok (by rw [h.1, len_app, hc]; exact hi) (by omega)
theorem y_told {M0 M : Mem} {L : List Shp} {D : List (Nat × Nat × Nat)} (h : NS M0 M L D) {a b : Nat} (hb : L.length = b) (ha : a < b) (hc : clsOf L a = 9) (hD : ∀ q ∈ D, q.1 ≠ a) : WP (f_X8_init ((mS M0).length + a) M) (fun _ M' => NS M0 M' (L ++ [.inr (0, 24)] ++ [.inr (0, 5)] ++ [.inr (0, 5)] ++ [.inr (0, 5)] ++ [.inr (0, 32)]) ((a, 9, b + 4) :: (a, 8, b + 3) :: (a, 7, b + 2) :: (a, 6, b + 1) :: (a, 5, b) :: D)) := by
  have cl1 : ∀ (K : List Shp), clsOf (L ++ K) a = 9 := fun K => by
    rw [← hc]
    unfold clsOf
    rw [List.getElem?_append_left (by omega)]
  unfold f_X8_init
  refine WP.na (by decide) h.len ?_
  have h1 := h.nw (.inr (0, 24))
  repeat (first | ((with_reducible apply WP.ce); case h => (simp (disch := omega) only []; with_reducible rfl)) | ((with_reducible apply WP.bd); case h => (simp (disch := omega) only [e_gR, e_gI, e_aI, e_aL, e_oO, e_pI, e_wI, e_wL, Option.map_some, mS_sL, mR_sL, mI_sL, mS_sI, mR_sI, mL_sI, n_cl, e_pR, h1.o (cl1 _)]; with_reducible rfl)) | rw [nm_eq] | rw [ckZ_n1] | rw [ckZ_n0])
  have h1' := h1.sR (a := a) (k := 5) (v := b) (by rw [List.length_append]; omega) (fun q hq z => hD q hq z.1)
  rw [hb]
  refine WP.na (a := (mS M0).length + (b + 1)) (by decide) (h1'.len.trans (by rw [List.length_append, hb]; rfl)) ?_
  have h2 := h1'.nw (.inr (0, 5))
  repeat (first | ((with_reducible apply WP.ce); case h => (simp (disch := omega) only []; with_reducible rfl)) | ((with_reducible apply WP.bd); case h => (simp (disch := omega) only [e_gR, e_gI, e_aI, e_aL, e_oO, e_pI, e_wI, e_wL, Option.map_some, mS_sL, mR_sL, mI_sL, mS_sI, mR_sI, mL_sI, n_cl, e_pR, h2.o (by rw [List.append_assoc]; exact cl1 _)]; with_reducible rfl)) | rw [nm_eq] | rw [ckZ_n1] | rw [ckZ_n0])
  have h2' := h2.sR (a := a) (k := 6) (v := b + 1) (by rw [List.length_append, List.length_append]; omega) (fun q hq z => by
    rcases List.mem_cons.mp hq with e | e
    · rw [e] at z; exact absurd z.2 (by simp)
    · exact hD q e z.1)
  refine WP.na (a := (mS M0).length + (b + 2)) (by decide) (h2'.len.trans (by rw [List.length_append, List.length_append, hb]; rfl)) ?_
  have h3 := h2'.nw (.inr (0, 5))
  repeat (first | ((with_reducible apply WP.ce); case h => (simp (disch := omega) only []; with_reducible rfl)) | ((with_reducible apply WP.bd); case h => (simp (disch := omega) only [e_gR, e_gI, e_aI, e_aL, e_oO, e_pI, e_wI, e_wL, Option.map_some, mS_sL, mR_sL, mI_sL, mS_sI, mR_sI, mL_sI, n_cl, e_pR, h3.o (by rw [List.append_assoc, List.append_assoc]; exact cl1 _)]; with_reducible rfl)) | rw [nm_eq] | rw [ckZ_n1] | rw [ckZ_n0])
  have h3' := h3.sR (a := a) (k := 7) (v := b + 2) (by rw [List.length_append, List.length_append, List.length_append]; omega) (fun q hq z => by
    rcases List.mem_cons.mp hq with e | e
    · rw [e] at z; exact absurd z.2 (by simp)
    · rcases List.mem_cons.mp e with e | e
      · rw [e] at z; exact absurd z.2 (by simp)
      · exact hD q e z.1)
  refine WP.na (a := (mS M0).length + (b + 3)) (by decide) (h3'.len.trans (by rw [List.length_append, List.length_append, List.length_append, hb]; rfl)) ?_
  have h4 := h3'.nw (.inr (0, 5))
  repeat (first | ((with_reducible apply WP.ce); case h => (simp (disch := omega) only []; with_reducible rfl)) | ((with_reducible apply WP.bd); case h => (simp (disch := omega) only [e_gR, e_gI, e_aI, e_aL, e_oO, e_pI, e_wI, e_wL, Option.map_some, mS_sL, mR_sL, mI_sL, mS_sI, mR_sI, mL_sI, n_cl, e_pR, h4.o (by rw [List.append_assoc, List.append_assoc, List.append_assoc]; exact cl1 _)]; with_reducible rfl)) | rw [nm_eq] | rw [ckZ_n1] | rw [ckZ_n0])
  have h4' := h4.sR (a := a) (k := 8) (v := b + 3) (by rw [List.length_append, List.length_append, List.length_append, List.length_append]; omega) (fun q hq z => by
    rcases List.mem_cons.mp hq with e | e
    · rw [e] at z; exact absurd z.2 (by simp)
    · rcases List.mem_cons.mp e with e | e
      · rw [e] at z; exact absurd z.2 (by simp)
      · rcases List.mem_cons.mp e with e | e
        · rw [e] at z; exact absurd z.2 (by simp)
        · exact hD q e z.1)
  refine WP.na (a := (mS M0).length + (b + 4)) (by decide) (h4'.len.trans (by rw [List.length_append, List.length_append, List.length_append, List.length_append, hb]; rfl)) ?_
  have h5 := h4'.nw (.inr (0, 32))
  repeat (first | ((with_reducible apply WP.ce); case h => (simp (disch := omega) only []; with_reducible rfl)) | ((with_reducible apply WP.bd); case h => (simp (disch := omega) only [e_gR, e_gI, e_aI, e_aL, e_oO, e_pI, e_wI, e_wL, Option.map_some, mS_sL, mR_sL, mI_sL, mS_sI, mR_sI, mL_sI, n_cl, e_pR, h5.o (by rw [List.append_assoc, List.append_assoc, List.append_assoc, List.append_assoc]; exact cl1 _)]; with_reducible rfl)) | rw [nm_eq] | rw [ckZ_n1] | rw [ckZ_n0])
  have h5' := h5.sR (a := a) (k := 9) (v := b + 4) (by rw [List.length_append, List.length_append, List.length_append, List.length_append, List.length_append]; omega) (fun q hq z => by
    rcases List.mem_cons.mp hq with e | e
    · rw [e] at z; exact absurd z.2 (by simp)
    · rcases List.mem_cons.mp e with e | e
      · rw [e] at z; exact absurd z.2 (by simp)
      · rcases List.mem_cons.mp e with e | e
        · rw [e] at z; exact absurd z.2 (by simp)
        · rcases List.mem_cons.mp e with e | e
          · rw [e] at z; exact absurd z.2 (by simp)
          · exact hD q e z.1)
  exact WP.ret h5'
