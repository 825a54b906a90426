/-! THE CLASS: a book made; image, back -/
theorem y_scene {M0 M : Mem} {L : List Shp} {D : List (Nat × Nat × Nat)} (h : NS M0 M L D) {a b : Nat} (hb : L.length = b) (ha : a < b) (hc : clsOf L a = 7) (hD : ∀ q ∈ D, q.1 ≠ a) : WP (f_X6_init ((mS M0).length + a) M) (fun _ M' => NS M0 M' (L ++ [.inr (0, 8)] ++ [.inr (0, 5)] ++ [.inr (0, 5)]) ((a, 3, b + 2) :: (a, 2, b + 1) :: (a, 1, b) :: D)) := by
  have cl1 : ∀ (K : List Shp), clsOf (L ++ K) a = 7 := fun K => by
    rw [← hc]
    unfold clsOf
    rw [List.getElem?_append_left (by omega)]
  have ln1 : ∀ (K : List Shp) (j : Nat), lenOf (L ++ K) 0 (b + j) = lenOf K 0 j := fun K j => by rw [← hb]; exact len_app L K 0 j
  unfold f_X6_init
  refine WP.na (by decide) h.len ?_
  have h1 := h.nw (.inr (0, 8))
  repeat (first | ((with_reducible apply WP.ce); case h => (simp (disch := omega) only []; with_reducible rfl)) | ((with_reducible apply WP.bd); case h => (simp (disch := omega) only [e_gR, e_gI, e_aI, e_aL, e_oO, e_pI, e_wI, e_wL, Option.map_some, mS_sL, mR_sL, mI_sL, mS_sI, mR_sI, mL_sI, n_cl, e_pR, h1.o (cl1 _)]; with_reducible rfl)) | rw [nm_eq] | rw [ckZ_n1] | rw [ckZ_n0])
  have h1' := h1.sR (a := a) (k := 1) (v := b) (by rw [List.length_append]; omega) (fun q hq z => hD q hq z.1)
  rw [hb]
  refine WP.na (a := (mS M0).length + (b + 1)) (by decide) (h1'.len.trans (by rw [List.length_append, hb]; rfl)) ?_
  have h2 := h1'.nw (.inr (0, 5))
  repeat (first | ((with_reducible apply WP.ce); case h => (simp (disch := omega) only []; with_reducible rfl)) | ((with_reducible apply WP.bd); case h => (simp (disch := omega) only [e_gR, e_gI, e_aI, e_aL, e_oO, e_pI, e_wI, e_wL, Option.map_some, mS_sL, mR_sL, mI_sL, mS_sI, mR_sI, mL_sI, n_cl, e_pR, h2.o (by rw [List.append_assoc]; exact cl1 _)]; with_reducible rfl)) | rw [nm_eq] | rw [ckZ_n1] | rw [ckZ_n0])
  have h2' := h2.sR (a := a) (k := 2) (v := b + 1) (by rw [List.length_append, List.length_append]; omega) (fun q hq z => by
    rcases List.mem_cons.mp hq with e | e
    · rw [e] at z; exact absurd z.2 (by simp)
    · exact hD q e z.1)
  refine WP.na (a := (mS M0).length + (b + 2)) (by decide) (h2'.len.trans (by rw [List.length_append, List.length_append, hb]; rfl)) ?_
  have h3 := h2'.nw (.inr (0, 5))
  repeat (first | ((with_reducible apply WP.ce); case h => (simp (disch := omega) only []; with_reducible rfl)) | ((with_reducible apply WP.bd); case h => (simp (disch := omega) only [e_gR, e_gI, e_aI, e_aL, e_oO, e_pI, e_wI, e_wL, Option.map_some, mS_sL, mR_sL, mI_sL, mS_sI, mR_sI, mL_sI, n_cl, e_pR, h3.o (by rw [List.append_assoc, List.append_assoc]; exact cl1 _)]; with_reducible rfl)) | rw [nm_eq] | rw [ckZ_n1] | rw [ckZ_n0])
  have h3' := h3.sR (a := a) (k := 3) (v := b + 2) (by rw [List.length_append, List.length_append, List.length_append]; omega) (fun q hq z => by
    rcases List.mem_cons.mp hq with e | e
    · rw [e] at z; exact absurd z.2 (by simp)
    · rcases List.mem_cons.mp e with e | e
      · rw [e] at z; exact absurd z.2 (by simp)
      · exact hD q e z.1)
  obtain ⟨M3, hM3⟩ : ∃ M3, M3 = sR (nw (sR (nw (sR (nw M (.inr (0, 8))) ((mS M0).length + a) 1 (some ((mS M0).length + b))) (.inr (0, 5))) ((mS M0).length + a) 2 (some ((mS M0).length + (b + 1)))) (.inr (0, 5))) ((mS M0).length + a) 3 (some ((mS M0).length + (b + 2))) := ⟨_, rfl⟩
  rw [← hM3] at h3' ⊢
  have o3 := h3'.o (a := a) (ci := 6) (by rw [List.append_assoc, List.append_assoc]; exact cl1 _)
  have r1 : mR M3 ((mS M0).length + a) 1 = some ((mS M0).length + b) := (h3'.2.2 (a, 1, b) (by simp)).2
  have l8 : lenOf (L ++ [Sum.inr (0, 8)] ++ [Sum.inr (0, 5)] ++ [Sum.inr (0, 5)]) 0 b = 8 := by
    rw [List.append_assoc, List.append_assoc]
    exact ln1 _ 0
  have l5 : lenOf (L ++ [Sum.inr (0, 8)] ++ [Sum.inr (0, 5)] ++ [Sum.inr (0, 5)]) 0 (b + 2) = 5 := by
    rw [List.append_assoc, List.append_assoc]
    exact ln1 _ 2
  have a1 := j_fill (v := -100000) (h3'.ln l8 (by decide)) (h3'.ix l8 (by decide)) (by decide)
  have h4 := h3'.sIr b (flR (mI M3 ((mS M0).length + b)) (-100000) 8)
  obtain ⟨M4, hM4⟩ : ∃ M4, M4 = sIr M3 ((mS M0).length + b) (flR (mI M3 ((mS M0).length + b)) (-100000) 8) := ⟨_, rfl⟩
  rw [← hM4] at a1 h4
  have o4 := h4.o (a := a) (ci := 6) (by rw [List.append_assoc, List.append_assoc]; exact cl1 _)
  have r3 : mR M4 ((mS M0).length + a) 3 = some ((mS M0).length + (b + 2)) := (h4.2.2 (a, 3, b + 2) (by simp)).2
  have a2 := j_fill (v := -1) (h4.ln l5 (by decide)) (h4.ix l5 (by decide)) (by decide)
  repeat (first | ((with_reducible apply WP.ce); case h => (simp (disch := omega) only [a1]; with_reducible rfl)) | ((with_reducible apply WP.bd); case h => (simp (disch := omega) only [e_gR, e_gI, e_aI, e_aL, e_oO, e_pI, e_wI, e_wL, Option.map_some, mS_sL, mR_sL, mI_sL, mS_sI, mR_sI, mL_sI, n_cl, o3, r1]; with_reducible rfl)) | rw [nm_eq] | rw [ckZ_n1] | rw [ckZ_n0])
  repeat (first | ((with_reducible apply WP.ce); case h => (simp (disch := omega) only [a2]; with_reducible rfl)) | ((with_reducible apply WP.bd); case h => (simp (disch := omega) only [e_gR, e_gI, e_aI, e_aL, e_oO, e_pI, e_wI, e_wL, Option.map_some, mS_sL, mR_sL, mI_sL, mS_sI, mR_sI, mL_sI, n_cl, o4, r3]; with_reducible rfl)) | rw [nm_eq] | rw [ckZ_n1] | rw [ckZ_n0])
  exact WP.ret (h4.sIr (b + 2) _)
def bkL : List Shp := [.inl 2, .inl 8, .inr (0, 24), .inr (0, 5), .inr (0, 5), .inr (0, 5), .inr (0, 32), .inl 6, .inr (0, 8), .inr (0, 5), .inr (0, 5), .inr (0, 10), .inr (0, 10), .inr (0, 10), .inr (0, 380)]
def bkD : List (Nat × Nat × Nat) := [(0, 2, 11), (0, 3, 12), (0, 4, 13), (0, 9, 14), (0, 0, 1), (0, 1, 7), (1, 5, 2), (1, 6, 3), (1, 7, 4), (1, 8, 5), (1, 9, 6), (7, 1, 8), (7, 2, 9), (7, 3, 10)]
theorem NS.bk {M0 M : Mem} {D : List (Nat × Nat × Nat)} (h : NS M0 M bkL D) (hD : ∀ q ∈ bkD, q ∈ D) : IBook (mS M) (mR M) (mS M0).length := by
  have fr : ∀ a k v, (a, k, v) ∈ bkD → mR M ((mS M0).length + a) k = some ((mS M0).length + v) := fun a k v hm => (h.2.2 (a, k, v) (hD _ hm)).2
  have sh : ∀ j, lenOf (mS M) 0 ((mS M0).length + j) = lenOf bkL 0 j := fun j => by rw [h.1]; exact len_app _ _ 0 j
  have cs : ∀ j, clsOf (mS M) ((mS M0).length + j) = clsOf bkL j := fun j => by rw [h.1]; exact cls_app _ _ j
  refine ⟨cs 0, ⟨fr 0 2 11 (by decide), sh 11⟩, ⟨fr 0 3 12 (by decide), sh 12⟩, ⟨fr 0 4 13 (by decide), sh 13⟩, ⟨fr 0 9 14 (by decide), sh 14⟩, fr 0 0 1 (by decide), fr 0 1 7 (by decide), ?_, ?_⟩
  · exact ⟨cs 1, ⟨fr 1 5 2 (by decide), sh 2⟩, ⟨fr 1 6 3 (by decide), sh 3⟩, ⟨fr 1 7 4 (by decide), sh 4⟩, ⟨fr 1 8 5 (by decide), sh 5⟩, ⟨fr 1 9 6 (by decide), sh 6⟩⟩
  · exact ⟨cs 7, ⟨fr 7 1 8 (by decide), sh 8⟩, ⟨fr 7 2 9 (by decide), sh 9⟩, ⟨fr 7 3 10 (by decide), sh 10⟩⟩
theorem y_book (M0 : Mem) : WP (f_X2_init (mS M0).length (nw M0 (.inl 2))) (fun _ M' => mS M' = mS M0 ++ bkL ∧ (∀ a, a < (mS M0).length → mI M' a = mI M0 a ∧ mR M' a = mR M0 a ∧ mL M' a = mL M0 a) ∧ IBook (mS M') (mR M') (mS M0).length) := by
  have h0 : NS M0 M0 [] [] := ⟨(List.append_nil _).symm, fun a _ => ⟨rfl, rfl, rfl⟩, fun q hq => by cases hq⟩
  have h1 := h0.nw (.inl 2)
  have e0 : f_X2_init (mS M0).length (nw M0 (.inl 2)) = f_X2_init ((mS M0).length + 0) (nw M0 (.inl 2)) := rfl
  rw [e0]
  unfold f_X2_init
  refine WP.no (a := (mS M0).length + 1) h1.len ?_
  have h2 := h1.nw (.inl 8)
  refine WP.cw (y_told h2 (a := 1) (b := 2) rfl (by decide) rfl (by simp)) (fun _ M2 c2 => ?_)
  repeat (first | ((with_reducible apply WP.ce); case h => (simp (disch := omega) only []; with_reducible rfl)) | ((with_reducible apply WP.bd); case h => (simp (disch := omega) only [e_gR, e_gI, e_aI, e_aL, e_oO, e_pI, e_wI, e_wL, Option.map_some, mS_sL, mR_sL, mI_sL, mS_sI, mR_sI, mL_sI, n_cl, e_pR, c2.o (a := 0) (ci := 2) rfl]; with_reducible rfl)) | rw [nm_eq] | rw [ckZ_n1] | rw [ckZ_n0])
  have h3 := c2.sR (a := 0) (k := 0) (v := 1) (by decide) (by simp)
  refine WP.no (a := (mS M0).length + 7) h3.len ?_
  have h4 := h3.nw (.inl 6)
  refine WP.cw (y_scene h4 (a := 7) (b := 8) rfl (by decide) rfl (by simp)) (fun _ M5 c5 => ?_)
  repeat (first | ((with_reducible apply WP.ce); case h => (simp (disch := omega) only []; with_reducible rfl)) | ((with_reducible apply WP.bd); case h => (simp (disch := omega) only [e_gR, e_gI, e_aI, e_aL, e_oO, e_pI, e_wI, e_wL, Option.map_some, mS_sL, mR_sL, mI_sL, mS_sI, mR_sI, mL_sI, n_cl, e_pR, c5.o (a := 0) (ci := 2) rfl]; with_reducible rfl)) | rw [nm_eq] | rw [ckZ_n1] | rw [ckZ_n0])
  have h6 := c5.sR (a := 0) (k := 1) (v := 7) (by decide) (by simp)
  refine WP.na (a := (mS M0).length + 11) (by decide) h6.len ?_
  have h7 := h6.nw (.inr (0, 10))
  repeat (first | ((with_reducible apply WP.ce); case h => (simp (disch := omega) only []; with_reducible rfl)) | ((with_reducible apply WP.bd); case h => (simp (disch := omega) only [e_gR, e_gI, e_aI, e_aL, e_oO, e_pI, e_wI, e_wL, Option.map_some, mS_sL, mR_sL, mI_sL, mS_sI, mR_sI, mL_sI, n_cl, e_pR, h7.o (a := 0) (ci := 2) rfl]; with_reducible rfl)) | rw [nm_eq] | rw [ckZ_n1] | rw [ckZ_n0])
  have h7' := h7.sR (a := 0) (k := 2) (v := 11) (by decide) (by simp)
  refine WP.na (a := (mS M0).length + 12) (by decide) h7'.len ?_
  have h8 := h7'.nw (.inr (0, 10))
  repeat (first | ((with_reducible apply WP.ce); case h => (simp (disch := omega) only []; with_reducible rfl)) | ((with_reducible apply WP.bd); case h => (simp (disch := omega) only [e_gR, e_gI, e_aI, e_aL, e_oO, e_pI, e_wI, e_wL, Option.map_some, mS_sL, mR_sL, mI_sL, mS_sI, mR_sI, mL_sI, n_cl, e_pR, h8.o (a := 0) (ci := 2) rfl]; with_reducible rfl)) | rw [nm_eq] | rw [ckZ_n1] | rw [ckZ_n0])
  have h8' := h8.sR (a := 0) (k := 3) (v := 12) (by decide) (by simp)
  refine WP.na (a := (mS M0).length + 13) (by decide) h8'.len ?_
  have h9 := h8'.nw (.inr (0, 10))
  repeat (first | ((with_reducible apply WP.ce); case h => (simp (disch := omega) only []; with_reducible rfl)) | ((with_reducible apply WP.bd); case h => (simp (disch := omega) only [e_gR, e_gI, e_aI, e_aL, e_oO, e_pI, e_wI, e_wL, Option.map_some, mS_sL, mR_sL, mI_sL, mS_sI, mR_sI, mL_sI, n_cl, e_pR, h9.o (a := 0) (ci := 2) rfl]; with_reducible rfl)) | rw [nm_eq] | rw [ckZ_n1] | rw [ckZ_n0])
  have h9' := h9.sR (a := 0) (k := 4) (v := 13) (by decide) (by simp)
  have h9i := h9'.sI 0 8 (-1)
  repeat (first | ((with_reducible apply WP.ce); case h => (simp (disch := omega) only []; with_reducible rfl)) | ((with_reducible apply WP.bd); case h => (simp (disch := omega) only [e_gR, e_gI, e_aI, e_aL, e_oO, e_pI, e_wI, e_wL, Option.map_some, mS_sL, mR_sL, mI_sL, mS_sI, mR_sI, mL_sI, n_cl, h9'.o (a := 0) (ci := 2) rfl]; with_reducible rfl)) | rw [nm_eq] | rw [ckZ_n1] | rw [ckZ_n0])
  refine WP.na (a := (mS M0).length + 14) (by decide) h9i.len ?_
  have h10 := h9i.nw (.inr (0, 380))
  repeat (first | ((with_reducible apply WP.ce); case h => (simp (disch := omega) only []; with_reducible rfl)) | ((with_reducible apply WP.bd); case h => (simp (disch := omega) only [e_gR, e_gI, e_aI, e_aL, e_oO, e_pI, e_wI, e_wL, Option.map_some, mS_sL, mR_sL, mI_sL, mS_sI, mR_sI, mL_sI, n_cl, e_pR, h10.o (a := 0) (ci := 2) rfl]; with_reducible rfl)) | rw [nm_eq] | rw [ckZ_n1] | rw [ckZ_n0])
  have h10' := h10.sR (a := 0) (k := 9) (v := 14) (by decide) (by simp)
  refine WP.ret ⟨h10'.1, h10'.2.1, ?_⟩
  exact NS.bk h10' (by simp [bkD])
