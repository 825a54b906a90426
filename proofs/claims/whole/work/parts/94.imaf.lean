/-! THE CLASS: image, back -/
variable {O : Mem}
theorem bk_in {S : List Shp} {R : Nat → Nat → Option Nat} {a : Nat} (h : IBook S R a) {j : Nat} (hj : j ≤ 14) : (clsOf S (a + j) = 3 → j = 0) ∧ clsOf S (a + j) ≠ 5 := by
  obtain ⟨h0, ⟨-, h11⟩, ⟨-, h12⟩, ⟨-, h13⟩, ⟨-, h14⟩, -, -, ⟨h1, ⟨-, h2⟩, ⟨-, h3⟩, ⟨-, h4⟩, ⟨-, h5⟩, ⟨-, h6⟩⟩, ⟨h7, ⟨-, h8⟩, ⟨-, h9⟩, ⟨-, h10⟩⟩⟩ := h
  have z : ∀ b n, lenOf S 0 b = n → 0 < n → clsOf S b = 0 := fun b n hl hn => by
    have := lenOf_at (S := S) (t := 0) (a := b) (by omega)
    unfold clsOf
    rw [this]; rfl
  rcases (show j = 0 ∨ j = 1 ∨ j = 2 ∨ j = 3 ∨ j = 4 ∨ j = 5 ∨ j = 6 ∨ j = 7 ∨ j = 8 ∨ j = 9 ∨ j = 10 ∨ j = 11 ∨ j = 12 ∨ j = 13 ∨ j = 14 by omega) with rfl | rfl | rfl | rfl | rfl | rfl | rfl | rfl | rfl | rfl | rfl | rfl | rfl | rfl | rfl
  · refine ⟨fun _ => rfl, ?_⟩
    rw [Nat.add_zero, h0]; decide
  · rw [h1]; exact ⟨fun h => absurd h (by decide), by decide⟩
  · rw [z _ _ h2 (by decide)]; exact ⟨fun h => absurd h (by decide), by decide⟩
  · rw [z _ _ h3 (by decide)]; exact ⟨fun h => absurd h (by decide), by decide⟩
  · rw [z _ _ h4 (by decide)]; exact ⟨fun h => absurd h (by decide), by decide⟩
  · rw [z _ _ h5 (by decide)]; exact ⟨fun h => absurd h (by decide), by decide⟩
  · rw [z _ _ h6 (by decide)]; exact ⟨fun h => absurd h (by decide), by decide⟩
  · rw [h7]; exact ⟨fun h => absurd h (by decide), by decide⟩
  · rw [z _ _ h8 (by decide)]; exact ⟨fun h => absurd h (by decide), by decide⟩
  · rw [z _ _ h9 (by decide)]; exact ⟨fun h => absurd h (by decide), by decide⟩
  · rw [z _ _ h10 (by decide)]; exact ⟨fun h => absurd h (by decide), by decide⟩
  · rw [z _ _ h11 (by decide)]; exact ⟨fun h => absurd h (by decide), by decide⟩
  · rw [z _ _ h12 (by decide)]; exact ⟨fun h => absurd h (by decide), by decide⟩
  · rw [z _ _ h13 (by decide)]; exact ⟨fun h => absurd h (by decide), by decide⟩
  · rw [z _ _ h14 (by decide)]; exact ⟨fun h => absurd h (by decide), by decide⟩
/-- two books don't meet; nor does a rule meet a book -/
theorem bk_dis {S : List Shp} {R : Nat → Nat → Option Nat} {a b : Nat} (ha : IBook S R a) (hb : IBook S R b) (hn : a ≠ b) : a + 14 < b ∨ b + 14 < a := by
  rcases Nat.lt_or_ge (a + 14) b with h | h
  · exact Or.inl h
  · rcases Nat.lt_or_ge (b + 14) a with h2 | h2
    · exact Or.inr h2
    · exfalso
      rcases Nat.lt_or_ge a b with h3 | h3
      · have := (bk_in ha (j := b - a) (by omega)).1
        rw [show a + (b - a) = b by omega] at this
        have := this hb.1
        omega
      · have := (bk_in hb (j := a - b) (by omega)).1
        rw [show b + (a - b) = a by omega] at this
        have := this ha.1
        omega
theorem bk_rl {S : List Shp} {R : Nat → Nat → Option Nat} {a b n : Nat} (ha : IBook S R a) (hb : IRule S R b n) : (b < a ∨ a + 14 < b) ∧ (b + 1 < a ∨ a + 14 < b + 1) := by
  have h0 : b < a ∨ a + 14 < b := by
    rcases Nat.lt_or_ge b a with h | h
    · exact Or.inl h
    · rcases Nat.lt_or_ge (a + 14) b with h2 | h2
      · exact Or.inr h2
      · exfalso
        have := (bk_in ha (j := b - a) (by omega)).2
        rw [show a + (b - a) = b by omega] at this
        exact this hb.1
  refine ⟨h0, ?_⟩
  rcases h0 with h | h
  · by_cases e : b + 1 = a
    · exfalso
      have h1 := hb.2.1.2
      have h2 := ha.1
      rw [e] at h1
      unfold clsOf at h2
      rw [h1] at h2
      cases h2
    · omega
  · omega
theorem lt_cls {S : List Shp} {a c : Nat} (h : clsOf S a = c + 1) : a < S.length := by
  unfold clsOf at h
  rcases Nat.lt_or_ge a S.length with h2 | h2
  · exact h2
  · rw [List.getElem?_eq_none h2] at h; cases h
theorem y_back {M : Mem} {G : GD} (h : CG O M G) (hk : GOk G) (x : Int32) : WP (f_X9_back 0 x M) (fun v M' => v = (a_back G x).1 ∧ CG O M' (a_back G x).2) := by
  have hC := h.1
  unfold f_X9_back f_X9_back_J18 a_back
  refine WP.ce (c_isWithin x (by decide) (by decide) M) ?_
  refine WP.gd (fun g => WP.ret (by rw [show inR x 0 3 = false from g]; exact ⟨rfl, h⟩)) (fun g => ?_)
  have g' : inR x 0 3 = true := g
  rw [g']
  obtain ⟨k, rfl, -, k2, k3⟩ := inR_t g' (by decide)
  have k4 : k < 4 := by omega
  have i1 := h.2.2.2.2.1.1 k k4
  rw [n_cl k3]
  cases hi : zM G k with
  | none =>
    rw [hi] at i1
    have i1 : mR M 29 k = none := i1
    repeat (first | ((with_reducible apply WP.ce); case h => (simp (disch := omega) only []; with_reducible rfl)) | ((with_reducible apply WP.bd); case h => (simp (disch := omega) only [e_gR, e_gI, e_aI, e_aL, e_oO, e_pI, e_wI, e_wL, Option.map_some, mS_sL, mR_sL, mI_sL, mS_sI, mR_sI, mL_sI, n_cl, cob_0 hC, cr_images hC, e_aR, cx_images hC, i1]; with_reducible rfl)) | rw [nm_eq] | rw [ckZ_n1] | rw [ckZ_n0])
    exact WP.it rfl (WP.ret ⟨rfl, h⟩)
  | some B =>
    rw [hi] at i1
    obtain ⟨a, ⟨a1, a2⟩, a3, a4⟩ := i1
    repeat (first | ((with_reducible apply WP.ce); case h => (simp (disch := omega) only []; with_reducible rfl)) | ((with_reducible apply WP.bd); case h => (simp (disch := omega) only [e_gR, e_gI, e_aI, e_aL, e_oO, e_pI, e_wI, e_wL, Option.map_some, mS_sL, mR_sL, mI_sL, mS_sI, mR_sI, mL_sI, n_cl, cob_0 hC, cr_images hC, e_aR, cx_images hC, a1]; with_reducible rfl)) | rw [nm_eq] | rw [ckZ_n1] | rw [ckZ_n0])
    refine WP.ie (fun z => by cases z) ?_
    repeat (first | ((with_reducible apply WP.ce); case h => (simp (disch := omega) only []; with_reducible rfl)) | ((with_reducible apply WP.bd); case h => (simp (disch := omega) only [e_gR, e_gI, e_aI, e_aL, e_oO, e_pI, e_wI, e_wL, Option.map_some, mS_sL, mR_sL, mI_sL, mS_sI, mR_sI, mL_sI, n_cl, cob_0 hC, cr_0_book hC, cr_images hC, e_aR, cx_images hC, a1, book_o (ci_book hC)]; with_reducible rfl)) | rw [nm_eq] | rw [ckZ_n1] | rw [ckZ_n0])
    refine WP.cw (c_bookCopy a3 (ci_book hC) (by omega) (hk.2.2.2.2 k B hi) a4) (fun _ M1 c1 => ?_)
    obtain ⟨⟨s1, t1⟩, i1, b1⟩ := c1
    have hC1 : CIs (mS M1) (mR M1) := by rw [s1, t1]; exact hC
    have e0 : mI M1 21 0 = nI (sT (bS B)) := b1.2.1.1
    repeat (first | ((with_reducible apply WP.ce); case h => (simp (disch := omega) only []; with_reducible rfl)) | ((with_reducible apply WP.bd); case h => (simp (disch := omega) only [e_gR, e_gI, e_aI, e_aL, e_oO, e_pI, e_wI, e_wL, Option.map_some, mS_sL, mR_sL, mI_sL, mS_sI, mR_sI, mL_sI, n_cl, cob_0 hC1, cr_0_book hC1, book_o (ci_book hC1), book_r_scene (ci_book hC1), Nat.reduceAdd, scene_o (ci_scene hC1), e0]; with_reducible rfl)) | rw [nm_eq] | rw [ckZ_n1] | rw [ckZ_n0])
    refine WP.ret ⟨rfl, hC1, b1, ⟨h.2.2.1.1, by rw [i1 0 (by omega)]; exact h.2.2.1.2.1, fun i hi2 => ?_⟩, ⟨by rw [i1 1 (by omega)]; exact h.2.2.2.1.1, by rw [i1 2 (by omega)]; exact h.2.2.2.1.2⟩, ⟨fun j hj => ?_, fun j j' b hj hj' e1 e2 => h.2.2.2.2.1.2 j j' b hj hj' (by rw [← t1]; exact e1) (by rw [← t1]; exact e2)⟩, h.2.2.2.2.2.1.of s1, h.2.2.2.2.2.2.up (fun a a1 a2 => ⟨by rw [s1], by rw [t1], i1 a (by omega)⟩)⟩
    · obtain ⟨b, ⟨q1, q2⟩, q3⟩ := h.2.2.1.2.2 i hi2
      exact ⟨b, ⟨by rw [t1]; exact q1, q2⟩, q3.of (fun i _ => by rw [s1]) (fun k => by rw [t1]) (i1 b (by omega)) (i1 (b + 1) (by omega))⟩
    · have := h.2.2.2.2.1.1 j hj
      show (zM G j).elim (mR M1 29 j = none) (fun B => ∃ a, (mR M1 29 j = some a ∧ 103 ≤ a) ∧ IBook (mS M1) (mR M1) a ∧ CBk M1 a B)
      cases hij : zM G j with
      | none =>
        rw [hij] at this
        show mR M1 29 j = none
        rw [t1]; exact this
      | some B2 =>
        rw [hij] at this
        obtain ⟨b, ⟨q1, q2⟩, q3, q4⟩ := this
        exact ⟨b, ⟨by rw [t1]; exact q1, q2⟩, by rw [s1, t1]; exact q3, q4.of (fun i _ => i1 _ (by omega))⟩
/-- copied into an image that is there -/
theorem y_imageJ {M : Mem} {G : GD} (h : CG O M G) (hk : GOk G) {im : Nat → Option BD} {k a : Nat} (k4 : k < 4) (hm : ∀ j, j < 4 → j ≠ k → (zM G j).elim (mR M 29 j = none) (fun B => ∃ a, (mR M 29 j = some a ∧ 103 ≤ a) ∧ IBook (mS M) (mR M) a ∧ CBk M a B)) (hu : ∀ j j' a, j < 4 → j' < 4 → mR M 29 j = some a → mR M 29 j' = some a → j = j') (ha : mR M 29 k = some a) (h103 : 103 ≤ a) (hb : IBook (mS M) (mR M) a) (hsz : SZ M (fset (zM G) k (some (zB G))) (zC G)) :
    WP (f_X9_image_J33 0 (nI k) M) (fun v M' => v = nI (sT (bS (zB G))) ∧ CG O M' (G.1, G.2.1, G.2.2.1, fset (zM G) k (some (zB G)))) := by
  have hC := h.1
  unfold f_X9_image_J33
  repeat (first | ((with_reducible apply WP.ce); case h => (simp (disch := omega) only []; with_reducible rfl)) | ((with_reducible apply WP.bd); case h => (simp (disch := omega) only [e_gR, e_gI, e_aI, e_aL, e_oO, e_pI, e_wI, e_wL, Option.map_some, mS_sL, mR_sL, mI_sL, mS_sI, mR_sI, mL_sI, n_cl, cob_0 hC, cr_images hC, e_aR, cx_images hC, ha, cr_0_book hC, book_o hb]; with_reducible rfl)) | rw [nm_eq] | rw [ckZ_n1] | rw [ckZ_n0])
  refine WP.cw (c_bookCopy (ci_book hC) hb (by omega) hk.1 h.2.1) (fun _ M1 c1 => ?_)
  obtain ⟨⟨s1, t1⟩, i1, b1⟩ := c1
  have hC1 : CIs (mS M1) (mR M1) := by rw [s1, t1]; exact hC
  have e0 : mI M1 21 0 = nI (sT (bS (zB G))) := by rw [i1 21 (by omega)]; exact h.cc.1
  repeat (first | ((with_reducible apply WP.ce); case h => (simp (disch := omega) only []; with_reducible rfl)) | ((with_reducible apply WP.bd); case h => (simp (disch := omega) only [e_gR, e_gI, e_aI, e_aL, e_oO, e_pI, e_wI, e_wL, Option.map_some, mS_sL, mR_sL, mI_sL, mS_sI, mR_sI, mL_sI, n_cl, cob_0 hC1, cr_0_book hC1, book_o (ci_book hC1), book_r_scene (ci_book hC1), Nat.reduceAdd, scene_o (ci_scene hC1), e0]; with_reducible rfl)) | rw [nm_eq] | rw [ckZ_n1] | rw [ckZ_n0])
  refine WP.ret ⟨rfl, hC1, h.2.1.of (fun i hi => i1 _ (by omega)), ⟨h.2.2.1.1, by rw [i1 0 (by omega)]; exact h.2.2.1.2.1, fun i hi2 => ?_⟩, ⟨by rw [i1 1 (by omega)]; exact h.2.2.2.1.1, by rw [i1 2 (by omega)]; exact h.2.2.2.1.2⟩, ⟨fun j hj => ?_, fun j j' b hj hj' e1 e2 => hu j j' b hj hj' (by rw [← t1]; exact e1) (by rw [← t1]; exact e2)⟩, hsz.of s1, h.2.2.2.2.2.2.up (fun a a1 a2 => ⟨by rw [s1], by rw [t1], i1 a (by omega)⟩)⟩
  · obtain ⟨b, ⟨q1, q2⟩, q3⟩ := h.2.2.1.2.2 i hi2
    have q3' := q3
    obtain ⟨n, q4, -⟩ := q3
    have dd := bk_rl hb q4
    exact ⟨b, ⟨by rw [t1]; exact q1, q2⟩, q3'.of (fun i _ => by rw [s1]) (fun k => by rw [t1]) (i1 b (by omega)) (i1 (b + 1) (by omega))⟩
  · have ez : zM (G.1, G.2.1, G.2.2.1, fset (zM G) k (some (zB G))) j = fset (zM G) k (some (zB G)) j := rfl
    rw [ez]
    by_cases e : j = k
    · rw [e, fset_s]
      exact ⟨a, ⟨by rw [t1]; exact ha, h103⟩, by rw [s1, t1]; exact hb, b1⟩
    · rw [fset_o _ _ e]
      have := hm j hj e
      cases hij : zM G j with
      | none =>
        rw [hij] at this
        show mR M1 29 j = none
        rw [t1]; exact this
      | some B2 =>
        rw [hij] at this
        obtain ⟨b, ⟨q1, q2⟩, q3, q4⟩ := this
        have hne : a ≠ b := fun z => e (hu j k b hj k4 q1 (by rw [← z]; exact ha))
        have dd := bk_dis hb q3 hne
        exact ⟨b, ⟨by rw [t1]; exact q1, q2⟩, by rw [s1, t1]; exact q3, q4.of (fun i hi => i1 _ (by omega))⟩
theorem ctb_set {p q : Nat → Bool} {k : Nat} (hp : p k = false) (hq : q k = true) (ho : ∀ i, i ≠ k → q i = p i) : ∀ n, k < n → ctb q n = ctb p n + 1
  | 0, h => absurd h (Nat.not_lt_zero k)
  | n + 1, h => by
    rw [ctb, ctb]
    by_cases e : k = n
    · subst e
      rw [hp, hq, if_pos rfl, if_neg (by decide), ctb_cong (fun i hi => ho i (by omega))]
    · rw [ctb_set hp hq ho n (by omega), ho n (fun z => e z.symm)]; omega
theorem y_image {M : Mem} {G : GD} (h : CG O M G) (hk : GOk G) (x : Int32) : WP (f_X9_image 0 x M) (fun v M' => v = (a_image G x).1 ∧ CG O M' (a_image G x).2) := by
  have hC := h.1
  have hl : 103 ≤ (mS M).length := h.2.2.2.2.2.1.1
  unfold f_X9_image a_image
  refine WP.ce (c_isWithin x (by decide) (by decide) M) ?_
  refine WP.gd (fun g => WP.ret (by rw [show inR x 0 3 = false from g]; exact ⟨rfl, h⟩)) (fun g => ?_)
  have g' : inR x 0 3 = true := g
  rw [g']
  obtain ⟨k, rfl, -, k2, k3⟩ := inR_t g' (by decide)
  have k4 : k < 4 := by omega
  have i1 := h.2.2.2.2.1.1 k k4
  rw [n_cl k3]
  cases hi : zM G k with
  | some B =>
    rw [hi] at i1
    obtain ⟨a, ⟨a1, a2⟩, a3, a4⟩ := i1
    repeat (first | ((with_reducible apply WP.ce); case h => (simp (disch := omega) only []; with_reducible rfl)) | ((with_reducible apply WP.bd); case h => (simp (disch := omega) only [e_gR, e_gI, e_aI, e_aL, e_oO, e_pI, e_wI, e_wL, Option.map_some, mS_sL, mR_sL, mI_sL, mS_sI, mR_sI, mL_sI, n_cl, cob_0 hC, cr_images hC, e_aR, cx_images hC, a1]; with_reducible rfl)) | rw [nm_eq] | rw [ckZ_n1] | rw [ckZ_n0])
    refine WP.ie (fun z => by cases z) ?_
    exact y_imageJ (im := zM G) h hk k4 (fun j hj _ => h.2.2.2.2.1.1 j hj) h.2.2.2.2.1.2 a1 a2 a3 (by
      have e : cnI (fset (zM G) k (some (zB G))) = cnI (zM G) := ctb_cong (fun i _ => by
        by_cases e : i = k
        · rw [e, fset_s, hi]; rfl
        · rw [fset_o _ _ e])
      unfold SZ
      rw [e]
      exact h.2.2.2.2.2.1)
  | none =>
    rw [hi] at i1
    have i1 : mR M 29 k = none := i1
    repeat (first | ((with_reducible apply WP.ce); case h => (simp (disch := omega) only []; with_reducible rfl)) | ((with_reducible apply WP.bd); case h => (simp (disch := omega) only [e_gR, e_gI, e_aI, e_aL, e_oO, e_pI, e_wI, e_wL, Option.map_some, mS_sL, mR_sL, mI_sL, mS_sI, mR_sI, mL_sI, n_cl, cob_0 hC, cr_images hC, e_aR, cx_images hC, i1]; with_reducible rfl)) | rw [nm_eq] | rw [ckZ_n1] | rw [ckZ_n0])
    refine WP.it rfl ?_
    repeat (first | ((with_reducible apply WP.ce); case h => (simp (disch := omega) only []; with_reducible rfl)) | ((with_reducible apply WP.bd); case h => (simp (disch := omega) only [e_gR, e_gI, e_aI, e_aL, e_oO, e_pI, e_wI, e_wL, Option.map_some, mS_sL, mR_sL, mI_sL, mS_sI, mR_sI, mL_sI, n_cl, cob_0 hC, cr_images hC]; with_reducible rfl)) | rw [nm_eq] | rw [ckZ_n1] | rw [ckZ_n0])
    refine WP.no (a := (mS M).length) rfl ?_
    refine WP.cw (y_book M) (fun _ M1 c1 => ?_)
    obtain ⟨s1, r1, b1⟩ := c1
    have gs : ∀ a, a < (mS M).length → (mS M1)[a]? = (mS M)[a]? := fun a ha => by rw [s1, List.getElem?_append_left ha]
    have hC1 : CIs (mS M1) (mR M1) := hC.of (fun a ha => gs a (by omega)) (fun a k ha _ _ _ => by rw [(r1 a (by omega)).2.1])
    obtain ⟨M2, hM2⟩ : ∃ M2, M2 = sR M1 29 k (some (mS M).length) := ⟨_, rfl⟩
    have s2 : mS M2 = mS M1 := by rw [hM2]; rfl
    have t2 : ∀ b j, b ≠ 29 → mR M2 b j = mR M1 b j := fun b j hb => by rw [hM2, mR_sR, if_neg (by omega)]
    have hC2 : CIs (mS M2) (mR M2) := hC1.of (fun a _ => by rw [s2]) (fun a k _ _ h29 _ => t2 a k h29)
    have b2 : IBook (mS M2) (mR M2) (mS M).length := b1.of (fun i _ => by rw [s2]) (fun i k _ => t2 _ _ (by omega))
    have wr : wR M1 5 2 (some 29) (nI k) (some (mS M).length) = some M2 := by
      unfold wR
      have x1 : ixA M1 5 (some 29) (nI k) = some 29 := by
        have := cx_images hC1 (i := k) (by omega)
        exact this
      rw [x1]
      have o1 : oO M1 2 (some (mS M).length) = some (mS M).length := book_o b1
      show (if some (mS M).length = none ∨ oO M1 2 (some (mS M).length) = some (mS M).length then some (sR M1 29 (nI k).toNatClampNeg (some (mS M).length)) else none) = some M2
      rw [if_pos (Or.inr o1), n_cl k3, hM2]
    refine WP.bd wr ?_
    have i2 : ∀ a, a < (mS M).length → mI M2 a = mI M a := fun a ha => by rw [hM2]; exact (r1 a ha).1
    have rr : ∀ a j, a < (mS M).length → a ≠ 29 → mR M2 a j = mR M a j := fun a j ha hn => by rw [t2 a j hn, (r1 a ha).2.1]
    have r29 : ∀ j, j ≠ k → mR M2 29 j = mR M 29 j := fun j hj => by rw [hM2, mR_sR, if_neg (by omega), (r1 29 (by omega)).2.1]
    have k29 : mR M2 29 k = some (mS M).length := by rw [hM2, mR_sR, if_pos ⟨rfl, rfl⟩]
    have old : ∀ {a B}, IBook (mS M) (mR M) a → CBk M a B → 103 ≤ a → a < (mS M).length ∧ a + 14 < (mS M).length ∧ IBook (mS M2) (mR M2) a ∧ CBk M2 a B := by
      intro a B q3 q4 q2
      have l0 := lt_cls q3.1
      have l14 : a + 14 < (mS M).length := by
        have := lenOf_at (S := mS M) (t := 0) (a := a + 14) (by rw [q3.2.2.2.2.1.2]; decide)
        exact (List.getElem?_eq_some_iff.mp this).1
      exact ⟨l0, l14, q3.of (fun i hi => by rw [s2]; exact gs _ (by omega)) (fun i k hi => rr _ _ (by omega) (by omega)), q4.of (fun i hi => i2 _ (by omega))⟩
    -- all but the images, as they were
    have h2 : CG O M2 (G.1, G.2.1, G.2.2.1, fun _ => none) → True := fun _ => trivial
    refine WP.mono (?_ : WP (f_X9_image_J33 0 (nI k) M2) (fun v M' => v = nI (sT (bS (zB G))) ∧ CG O M' (G.1, G.2.1, G.2.2.1, fset (zM G) k (some (zB G))))) (fun v M' c => c)
    have hm : ∀ j, j < 4 → j ≠ k → (zM G j).elim (mR M2 29 j = none) (fun B => ∃ a, (mR M2 29 j = some a ∧ 103 ≤ a) ∧ IBook (mS M2) (mR M2) a ∧ CBk M2 a B) := by
      intro j hj hn
      have := h.2.2.2.2.1.1 j hj
      cases hij : zM G j with
      | none =>
        rw [hij] at this
        show mR M2 29 j = none
        rw [r29 j hn]; exact this
      | some B2 =>
        rw [hij] at this
        obtain ⟨b, ⟨q1, q2⟩, q3, q4⟩ := this
        obtain ⟨-, -, o3, o4⟩ := old q3 q4 q2
        exact ⟨b, ⟨by rw [r29 j hn]; exact q1, q2⟩, o3, o4⟩
    have hu : ∀ j j' a, j < 4 → j' < 4 → mR M2 29 j = some a → mR M2 29 j' = some a → j = j' := by
      intro j j' a hj hj' e1 e2
      have lt : ∀ i, i < 4 → i ≠ k → mR M2 29 i = some a → a < (mS M).length := by
        intro i hi4 hn e
        rw [r29 i hn] at e
        have := h.2.2.2.2.1.1 i hi4
        cases hij : zM G i with
        | none => rw [hij] at this; rw [show mR M 29 i = none from this] at e; cases e
        | some B2 =>
          rw [hij] at this
          obtain ⟨b, ⟨q1, q2⟩, q3, q4⟩ := this
          rw [q1] at e
          cases e
          exact lt_cls q3.1
      by_cases c1 : j = k
      · by_cases c2 : j' = k
        · omega
        · rw [c1, k29] at e1
          cases e1
          exact absurd (lt j' hj' c2 e2) (Nat.lt_irrefl _)
      · by_cases c2 : j' = k
        · rw [c2, k29] at e2
          cases e2
          exact absurd (lt j hj c1 e1) (Nat.lt_irrefl _)
        · rw [r29 j c1] at e1
          rw [r29 j' c2] at e2
          exact h.2.2.2.2.1.2 j j' a hj hj' e1 e2
    -- the book, the rules, the tape stand there
    have hB2 : CBk M2 14 (zB G) := h.2.1.of (fun i hi => i2 _ (by omega))
    have hW2 : CW M2 (zC G) (zW G) := by
      refine ⟨h.2.2.1.1, by rw [i2 0 (by omega)]; exact h.2.2.1.2.1, fun i hi2 => ?_⟩
      obtain ⟨b, ⟨q1, q2⟩, q3⟩ := h.2.2.1.2.2 i hi2
      have q3' := q3
      obtain ⟨n, q4, -⟩ := q3
      have lb : b + 2 < (mS M).length := by
        have := lenOf_at (S := mS M) (t := 3) (a := b + 2) (by rw [q4.2.2.2]; decide)
        exact (List.getElem?_eq_some_iff.mp this).1
      exact ⟨b, ⟨by rw [rr 13 i (by omega) (by decide)]; exact q1, q2⟩, q3'.of (fun i hi => by rw [s2]; exact gs _ (by omega)) (fun k => rr b k (by omega) (by omega)) (i2 b (by omega)) (i2 (b + 1) (by omega))⟩
    have hT2 : mI M2 1 1 = nI (zL G) ∧ ∀ i, i < zL G → mI M2 2 i = nI (zY G i) := ⟨by rw [i2 1 (by omega)]; exact h.2.2.2.1.1, by rw [i2 2 (by omega)]; exact h.2.2.2.1.2⟩
    -- with the new book's image as it stands no image is told: copy at once
    unfold f_X9_image_J33
    repeat (first | ((with_reducible apply WP.ce); case h => (simp (disch := omega) only []; with_reducible rfl)) | ((with_reducible apply WP.bd); case h => (simp (disch := omega) only [e_gR, e_gI, e_aI, e_aL, e_oO, e_pI, e_wI, e_wL, Option.map_some, mS_sL, mR_sL, mI_sL, mS_sI, mR_sI, mL_sI, n_cl, cob_0 hC2, cr_images hC2, e_aR, cx_images hC2, k29, cr_0_book hC2, book_o b2]; with_reducible rfl)) | rw [nm_eq] | rw [ckZ_n1] | rw [ckZ_n0])
    refine WP.cw (c_bookCopy (ci_book hC2) b2 (by omega) hk.1 hB2) (fun _ M3 c3 => ?_)
    obtain ⟨⟨s3, t3⟩, i3, b3⟩ := c3
    have hC3 : CIs (mS M3) (mR M3) := by rw [s3, t3]; exact hC2
    have e0 : mI M3 21 0 = nI (sT (bS (zB G))) := by rw [i3 21 (by omega), i2 21 (by omega)]; exact h.cc.1
    repeat (first | ((with_reducible apply WP.ce); case h => (simp (disch := omega) only []; with_reducible rfl)) | ((with_reducible apply WP.bd); case h => (simp (disch := omega) only [e_gR, e_gI, e_aI, e_aL, e_oO, e_pI, e_wI, e_wL, Option.map_some, mS_sL, mR_sL, mI_sL, mS_sI, mR_sI, mL_sI, n_cl, cob_0 hC3, cr_0_book hC3, book_o (ci_book hC3), book_r_scene (ci_book hC3), Nat.reduceAdd, scene_o (ci_scene hC3), e0]; with_reducible rfl)) | rw [nm_eq] | rw [ckZ_n1] | rw [ckZ_n0])
    refine WP.ret ⟨rfl, hC3, hB2.of (fun i hi => i3 _ (by omega)), ⟨hW2.1, by rw [i3 0 (by omega)]; exact hW2.2.1, fun i hi2 => ?_⟩, ⟨by rw [i3 1 (by omega)]; exact hT2.1, by rw [i3 2 (by omega)]; exact hT2.2⟩, ⟨fun j hj => ?_, fun j j' b hj hj' e1 e2 => hu j j' b hj hj' (by rw [← t3]; exact e1) (by rw [← t3]; exact e2)⟩, ?_, h.2.2.2.2.2.2.up (fun a a1 a2 => ⟨by rw [s3, s2]; exact gs a (by omega), funext (fun j => by rw [t3]; exact rr a j (by omega) (by omega)), by rw [i3 a (by omega)]; exact i2 a (by omega)⟩)⟩
    · obtain ⟨b, ⟨q1, q2⟩, q3⟩ := hW2.2.2 i hi2
      have q3' := q3
      obtain ⟨n, q4, -⟩ := q3
      have dd := bk_rl b2 q4
      exact ⟨b, ⟨by rw [t3]; exact q1, q2⟩, q3'.of (fun i _ => by rw [s3]) (fun k => by rw [t3]) (i3 b (by omega)) (i3 (b + 1) (by omega))⟩
    · have ez : zM (G.1, G.2.1, G.2.2.1, fset (zM G) k (some (zB G))) j = fset (zM G) k (some (zB G)) j := rfl
      rw [ez]
      by_cases e : j = k
      · rw [e, fset_s]
        exact ⟨(mS M).length, ⟨by rw [t3]; exact k29, hl⟩, by rw [s3, t3]; exact b2, b3⟩
      · rw [fset_o _ _ e]
        have := hm j hj e
        cases hij : zM G j with
        | none =>
          rw [hij] at this
          show mR M3 29 j = none
          rw [t3]; exact this
        | some B2 =>
          rw [hij] at this
          obtain ⟨b, ⟨q1, q2⟩, q3, q4⟩ := this
          have hne : (mS M).length ≠ b := fun z => e (hu j k b hj k4 q1 (by rw [← z]; exact k29))
          have dd := bk_dis b2 q3 hne
          exact ⟨b, ⟨by rw [t3]; exact q1, q2⟩, by rw [s3, t3]; exact q3, q4.of (fun i hi => i3 _ (by omega))⟩
    · obtain ⟨z1, z2, z3⟩ := h.2.2.2.2.2.1
      have e : cnI (fset (zM G) k (some (zB G))) = cnI (zM G) + 1 := ctb_set (k := k) (by rw [hi]; rfl) (by rw [fset_s]; rfl) (fun i hn => by rw [fset_o _ _ hn]) 4 k4
      have es : mS M3 = mS M ++ bkL := by rw [s3, s2, s1]
      show 103 ≤ (mS M3).length ∧ (mS M3).length ≤ 103 + 15 * cnI (fset (zM G) k (some (zB G))) + 3 * zC G ∧ us M3 ≤ 20000 + 600 * cnI (fset (zM G) k (some (zB G))) + 500 * zC G
      have eu : us M3 = us M + 524 := by
        unfold us
        rw [es, List.map_append, List.sum_append]
        rfl
      rw [e, eu, es, List.length_append]
      have : bkL.length = 15 := rfl
      omega
