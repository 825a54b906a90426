/-! THE CLASS: tide, say, trade, coin, dull, undo -/
variable {O : Mem}
theorem PF.sc {M M' : Mem} {G : GD} (p : PF 21 M M') (h : CG O M G) {S : SC} (h1 : CC M' 21 (bT (zB G)) S) : CG O M' (wB G (bT (zB G), S, bN (zB G), bP (zB G), bX (zB G), bF (zB G))) :=
  h.sc p.1 (fun a k hn => p.2.1 a k (fun e z => hn ⟨e, Or.inr z⟩)) (fun a ha => p.2.2.1 a (by omega) (by omega) (by omega) (by omega) (by omega) (by omega)) h1
section YACT
variable {M : Mem} {G : GD}
theorem y_tide (h : CG O M G) (hk : GOk G) : WP (f_X9_tide 0 M) (fun v M' => v = (a_tide (zR G) (zB G)).1 ∧ CG O M' (wB G (a_tide (zR G) (zB G)).2)) := by
  have hC := h.1
  have hs := hk.1.2.1
  have h9 := hk.1.2.2.1
  unfold f_X9_tide f_X9_tide_J29 a_tide
  repeat (first | ((with_reducible apply WP.ce); case h => (simp (disch := omega) only []; with_reducible rfl)) | ((with_reducible apply WP.bd); case h => (simp (disch := omega) only [e_gR, e_gI, e_aI, e_aL, e_oO, e_pI, e_wI, e_wL, Option.map_some, mS_sL, mR_sL, mI_sL, mS_sI, mR_sI, mL_sI, n_cl, cob_0 hC, cr_0_book hC, book_o (ci_book hC), book_r_told (ci_book hC), book_r_scene (ci_book hC), told_o (ci_told hC), scene_o (ci_scene hC), Nat.reduceAdd, c_there h.ct]; with_reducible rfl)) | rw [nm_eq] | rw [ckZ_n1] | rw [ckZ_n0])
  refine WP.gd (fun g1 => WP.ret (by rw [g1]; exact ⟨rfl, h⟩)) (fun g1 => ?_)
  repeat (first | ((with_reducible apply WP.ce); case h => (simp (disch := omega) only []; with_reducible rfl)) | ((with_reducible apply WP.bd); case h => (simp (disch := omega) only [e_gR, e_gI, e_aI, e_aL, e_oO, e_pI, e_wI, e_wL, Option.map_some, mS_sL, mR_sL, mI_sL, mS_sI, mR_sI, mL_sI, n_cl, cob_0 hC, cr_0_book hC, book_o (ci_book hC), book_r_told (ci_book hC), book_r_scene (ci_book hC), told_o (ci_told hC), scene_o (ci_scene hC), Nat.reduceAdd, h.cc.1]; with_reducible rfl)) | rw [nm_eq] | rw [ckZ_n1] | rw [ckZ_n0])
  by_cases h99 : sT (bS (zB G)) = 999
  · refine WP.ie (by rw [n_lt (by omega) (by omega)]; omega) (WP.ret ?_)
    rw [g1, decide_eq_true h99]; exact ⟨rfl, h⟩
  · refine WP.it (by rw [n_lt (by omega) (by omega)]; omega) ?_
    rw [g1, decide_eq_false h99]
    repeat (first | ((with_reducible apply WP.ce); case h => (simp (disch := omega) only []; with_reducible rfl)) | ((with_reducible apply WP.bd); case h => (simp (disch := omega) only [e_gR, e_gI, e_aI, e_aL, e_oO, e_pI, e_wI, e_wL, Option.map_some, mS_sL, mR_sL, mI_sL, mS_sI, mR_sI, mL_sI, n_cl, cob_0 hC, cr_0_book hC, book_o (ci_book hC)]; with_reducible rfl)) | rw [nm_eq] | rw [ckZ_n1] | rw [ckZ_n0])
    refine WP.cw (y_keep h hk) (fun _ M1 h1 => ?_)
    have hk1 := hk.b (bPu_ok hk.1)
    have hC1 := h1.1
    have f1 : mI M1 14 8 = eP (bF (zB G)) := h1.2.1.2.2.2.2.2
    obtain ⟨x, x1, x2⟩ := c_ruleAt (h1.ce hk1) (p := bF (zB G)) hk.1.2.2.2.2.2.2
    obtain ⟨M2, hM2⟩ : ∃ M2, M2 = sR M1 30 0 x := ⟨_, rfl⟩
    have p1 : AF M1 M2 := by
      rw [hM2]
      exact ⟨rfl, fun a k hn => by rw [mR_sR, if_neg (fun z => hn ⟨z.1, Or.inl z.2⟩)], fun a _ => rfl, fun a _ => rfl⟩
    have h2 := h1.qu p1
    have hC2 := h2.1
    repeat (first | ((with_reducible apply WP.ce); case h => (simp (disch := omega) only [x1]; with_reducible rfl)) | ((with_reducible apply WP.bd); case h => (simp (disch := omega) only [e_gR, e_gI, e_aI, e_aL, e_oO, e_pI, e_wI, e_wL, Option.map_some, mS_sL, mR_sL, mI_sL, mS_sI, mR_sI, mL_sI, n_cl, cob_0 hC1, cr_0_pilot hC1, cr_0_book hC1, book_o (ci_book hC1), f1]; with_reducible rfl)) | rw [nm_eq] | rw [ckZ_n1] | rw [ckZ_n0])
    repeat (first | ((with_reducible apply WP.ce); case h => (simp (disch := omega) only []; with_reducible rfl)) | ((with_reducible apply WP.bd); case h => (simp (disch := omega) only [e_gR, e_gI, e_aI, e_aL, e_oO, e_pI, e_wI, e_wL, Option.map_some, mS_sL, mR_sL, mI_sL, mS_sI, mR_sI, mL_sI, n_cl, e_pR, cob_30 hC1, ← hM2]; with_reducible rfl)) | rw [nm_eq] | rw [ckZ_n1] | rw [ckZ_n0])
    repeat (first | ((with_reducible apply WP.ce); case h => (simp (disch := omega) only []; with_reducible rfl)) | ((with_reducible apply WP.bd); case h => (simp (disch := omega) only [e_gR, e_gI, e_aI, e_aL, e_oO, e_pI, e_wI, e_wL, Option.map_some, mS_sL, mR_sL, mI_sL, mS_sI, mR_sI, mL_sI, n_cl, cob_0 hC2, cr_0_pilot hC2, cr_0_book hC2, book_o (ci_book hC2), book_r_scene (ci_book hC2), Nat.reduceAdd, cob_30 hC2]; with_reducible rfl)) | rw [nm_eq] | rw [ckZ_n1] | rw [ckZ_n0])
    have hr : CRu M2 (zR G) := by
      have e : mR M2 30 0 = x := by rw [hM2, mR_sR, if_pos ⟨rfl, rfl⟩]
      unfold zR
      cases hro : bF (zB G) with
      | none => rw [hro] at x2; exact e.trans x2
      | some i =>
        rw [hro] at x2
        obtain ⟨a, ⟨a1, a2⟩, a3⟩ := x2
        exact ⟨a, ⟨e.trans a1, a2⟩, p1.rl a2 a3⟩
    have hT2 : CT M2 15 (bT (zB G)) := h2.ct
    have hS2 : CC M2 21 (bT (zB G)) (bS (zB G)) := h2.cc
    refine WP.cw (c_oneTide hC2 hT2 hk.1.1 (Or.inl rfl) (ci_scene hC2) hS2 hs hr) (fun v M3 c3 => ?_)
    obtain ⟨rfl, c4, c5, -⟩ := c3
    exact WP.ret ⟨rfl, c4.sc h2 c5⟩
theorem y_say (h : CG O M G) (hk : GOk G) (x y : Int32) : WP (f_X9_say 0 x y M) (fun v M' => v = (a_say (zB G) x y).1 ∧ CG O M' (wB G (a_say (zB G) x y).2)) := by
  have hC := h.1
  have hs := hk.1.2.1
  have h9 := hk.1.2.2.1
  have k1 := hk.1.1.1.2.2.1
  have k2 := hk.1.1.1.2.2.2
  unfold f_X9_say f_X9_say_J31 f_X9_say_J71 a_say
  repeat (first | ((with_reducible apply WP.ce); case h => (simp (disch := omega) only [c_isWaiting hC h.ct hk.1.1 h.cc hs]; with_reducible rfl)) | ((with_reducible apply WP.bd); case h => (simp (disch := omega) only [e_gR, e_gI, e_aI, e_aL, e_oO, e_pI, e_wI, e_wL, Option.map_some, mS_sL, mR_sL, mI_sL, mS_sI, mR_sI, mL_sI, n_cl, cob_0 hC]; with_reducible rfl)) | rw [nm_eq] | rw [ckZ_n1] | rw [ckZ_n0])
  refine WP.gd (fun g1 => WP.ret (by rw [g1]; exact ⟨rfl, h⟩)) (fun g1 => ?_)
  repeat (first | ((with_reducible apply WP.ce); case h => (simp (disch := omega) only [c_isJoke hC h.ct hk.1.1]; with_reducible rfl)) | ((with_reducible apply WP.bd); case h => (simp (disch := omega) only [e_gR, e_gI, e_aI, e_aL, e_oO, e_pI, e_wI, e_wL, Option.map_some, mS_sL, mR_sL, mI_sL, mS_sI, mR_sI, mL_sI, n_cl, cob_0 hC]; with_reducible rfl)) | rw [nm_eq] | rw [ckZ_n1] | rw [ckZ_n0])
  refine WP.gd (fun g2 => WP.ret (by rw [g1, g2]; exact ⟨rfl, h⟩)) (fun g2 => ?_)
  obtain ⟨s, rfl, s1, s2, s3⟩ := wtI_t2 hk.1.1 g1
  obtain ⟨j, j1, rfl⟩ := ixB_t (by omega) g2
  have a0 := c_isKnown hk.1.1 (ci_scene hC) h.cc hs s1 (by omega : j < 8)
  rw [s3, n_cl (by omega : j < 2 ^ 31), g1, g2]
  repeat (first | ((with_reducible apply WP.ce); case h => (simp (disch := omega) only [a0]; with_reducible rfl)) | ((with_reducible apply WP.bd); case h => (simp (disch := omega) only [e_gR, e_gI, e_aI, e_aL, e_oO, e_pI, e_wI, e_wL, Option.map_some, mS_sL, mR_sL, mI_sL, mS_sI, mR_sI, mL_sI, n_cl, cob_0 hC, cr_0_book hC, book_o (ci_book hC), book_r_told (ci_book hC), book_r_scene (ci_book hC), told_o (ci_told hC), scene_o (ci_scene hC), Nat.reduceAdd]; with_reducible rfl)) | rw [nm_eq] | rw [ckZ_n1] | rw [ckZ_n0])
  refine WP.gd (fun g3 => WP.ret (by rw [g3]; exact ⟨rfl, h⟩)) (fun g3 => ?_)
  rw [g3]
  repeat (first | ((with_reducible apply WP.ce); case h => (simp (disch := omega) only []; with_reducible rfl)) | ((with_reducible apply WP.bd); case h => (simp (disch := omega) only [e_gR, e_gI, e_aI, e_aL, e_oO, e_pI, e_wI, e_wL, Option.map_some, mS_sL, mR_sL, mI_sL, mS_sI, mR_sI, mL_sI, n_cl, cob_0 hC, cr_0_book hC, book_o (ci_book hC)]; with_reducible rfl)) | rw [nm_eq] | rw [ckZ_n1] | rw [ckZ_n0])
  refine WP.cw (y_keep h hk) (fun _ M1 h1 => ?_)
  have hk1 := hk.b (bPu_ok hk.1)
  have hC1 := h1.1
  have hT1 : CT M1 15 (bT (zB G)) := h1.ct
  have hS1 : CC M1 21 (bT (zB G)) (bS (zB G)) := h1.cc
  repeat (first | ((with_reducible apply WP.ce); case h => (simp (disch := omega) only []; with_reducible rfl)) | ((with_reducible apply WP.bd); case h => (simp (disch := omega) only [e_gR, e_gI, e_aI, e_aL, e_oO, e_pI, e_wI, e_wL, Option.map_some, mS_sL, mR_sL, mI_sL, mS_sI, mR_sI, mL_sI, n_cl, cob_0 hC1, cr_0_pilot hC1, cr_0_book hC1, book_o (ci_book hC1), book_r_scene (ci_book hC1), Nat.reduceAdd, cob_30 hC1]; with_reducible rfl)) | rw [nm_eq] | rw [ckZ_n1] | rw [ckZ_n0])
  refine WP.cw (c_meet hC1 hT1 hk.1.1 (Or.inl rfl) (ci_scene hC1) hS1 hs) (fun _ M2 c2 => ?_)
  obtain ⟨p2, pm, -⟩ := c2
  have h2 := h1.qu p2.AG.1
  have hC2 := h2.1
  have hT2 : CT M2 15 (bT (zB G)) := h2.ct
  have hS2 : CC M2 21 (bT (zB G)) (bS (zB G)) := h2.cc
  have a1 := c_hears hC2 hT2 hk.1.1 (Or.inl rfl) (ci_scene hC2) hS2 hs pm s1 j1
  repeat (first | ((with_reducible apply WP.ce); case h => (simp (disch := omega) only [a1]; with_reducible rfl)) | ((with_reducible apply WP.bd); case h => (simp (disch := omega) only [e_gR, e_gI, e_aI, e_aL, e_oO, e_pI, e_wI, e_wL, Option.map_some, mS_sL, mR_sL, mI_sL, mS_sI, mR_sI, mL_sI, n_cl, cob_0 hC2, cr_0_pilot hC2, cob_30 hC2]; with_reducible rfl)) | rw [nm_eq] | rw [ckZ_n1] | rw [ckZ_n0])
  have fin : ∀ v, v = nI (b2 (isN (bT (zB G)) (bS (zB G)) j)) → WP (some (v, hrM M2 21 (bT (zB G)) (bS (zB G)) s j)) (fun v M' => v = (if (true && true && true) = true then (nI (b2 (isN (bT (zB G)) (bS (zB G)) j)), bAc (zB G) (telS (bT (zB G)) (bS (zB G)) s j)) else (-1, zB G)).1 ∧ CG O M' (wB G (if (true && true && true) = true then (nI (b2 (isN (bT (zB G)) (bS (zB G)) j)), bAc (zB G) (telS (bT (zB G)) (bS (zB G)) s j)) else (-1, zB G)).2)) :=
    fun v hv => WP.ret ⟨hv, (hrM_PF M2 21 _ _ s j).sc h2 (hrM_C (Or.inl rfl) hS2 s j)⟩
  refine WP.gd (fun e => fin _ ?_) (fun e => fin _ ?_)
  · rw [e]; rfl
  · rw [e]; rfl
theorem y_trade (h : CG O M G) (hk : GOk G) (x y : Int32) : WP (f_X9_trade 0 x y M) (fun v M' => v = (a_trade (zB G) x y).1 ∧ CG O M' (wB G (a_trade (zB G) x y).2)) := by
  have hC := h.1
  have hs := hk.1.2.1
  have k2 := hk.1.1.1.2.2.2
  unfold f_X9_trade f_X9_trade_J43 a_trade
  repeat (first | ((with_reducible apply WP.ce); case h => (simp (disch := omega) only [c_isWaiting hC h.ct hk.1.1 h.cc hs]; with_reducible rfl)) | ((with_reducible apply WP.bd); case h => (simp (disch := omega) only [e_gR, e_gI, e_aI, e_aL, e_oO, e_pI, e_wI, e_wL, Option.map_some, mS_sL, mR_sL, mI_sL, mS_sI, mR_sI, mL_sI, n_cl, cob_0 hC]; with_reducible rfl)) | rw [nm_eq] | rw [ckZ_n1] | rw [ckZ_n0])
  refine WP.gd (fun g1 => WP.ret (by rw [g1]; exact ⟨rfl, h⟩)) (fun g1 => ?_)
  repeat (first | ((with_reducible apply WP.ce); case h => (simp (disch := omega) only [c_isWaiting hC h.ct hk.1.1 h.cc hs]; with_reducible rfl)) | ((with_reducible apply WP.bd); case h => (simp (disch := omega) only [e_gR, e_gI, e_aI, e_aL, e_oO, e_pI, e_wI, e_wL, Option.map_some, mS_sL, mR_sL, mI_sL, mS_sI, mR_sI, mL_sI, n_cl, cob_0 hC]; with_reducible rfl)) | rw [nm_eq] | rw [ckZ_n1] | rw [ckZ_n0])
  refine WP.gd (fun g2 => WP.ret (by rw [g1, g2]; exact ⟨rfl, h⟩)) (fun g2 => ?_)
  obtain ⟨a, rfl, a1, a2, a3⟩ := wtI_t2 hk.1.1 g1
  obtain ⟨b, rfl, b1, b2, b3⟩ := wtI_t2 hk.1.1 g2
  have hwa : mI M 23 a = nI (sW (bS (zB G)) a) := (h.cc.2.2 a a1).1
  have hwb : mI M 23 b = nI (sW (bS (zB G)) b) := (h.cc.2.2 b b1).1
  have xa : ixS (mS M) 0 (some 23) (nI a) = some 23 := scene_x_knows (ci_scene hC) (by omega)
  have xb : ixS (mS M) 0 (some 23) (nI b) = some 23 := scene_x_knows (ci_scene hC) (by omega)
  have la := hs.2.2.1 a
  have lb := hs.2.2.1 b
  rw [a3, b3, g1, g2]
  repeat (first | ((with_reducible apply WP.ce); case h => (simp (disch := omega) only []; with_reducible rfl)) | ((with_reducible apply WP.bd); case h => (simp (disch := omega) only [e_gR, e_gI, e_aI, e_aL, e_oO, e_pI, e_wI, e_wL, Option.map_some, mS_sL, mR_sL, mI_sL, mS_sI, mR_sI, mL_sI, n_cl, cob_0 hC, cr_0_book hC, book_o (ci_book hC), book_r_told (ci_book hC), book_r_scene (ci_book hC), told_o (ci_told hC), scene_o (ci_scene hC), Nat.reduceAdd, scene_r_knows (ci_scene hC), xa, xb, hwa, hwb]; with_reducible rfl)) | rw [nm_eq] | rw [ckZ_n1] | rw [ckZ_n0])
  by_cases hc : sW (bS (zB G)) a = sW (bS (zB G)) b
  · refine WP.it (by rw [hc]) (WP.ret ?_)
    rw [decide_eq_true hc]; exact ⟨rfl, h⟩
  · refine WP.ie (by rw [n_eq (by omega) (by omega)]; exact hc) ?_
    rw [decide_eq_false hc]
    repeat (first | ((with_reducible apply WP.ce); case h => (simp (disch := omega) only []; with_reducible rfl)) | ((with_reducible apply WP.bd); case h => (simp (disch := omega) only [e_gR, e_gI, e_aI, e_aL, e_oO, e_pI, e_wI, e_wL, Option.map_some, mS_sL, mR_sL, mI_sL, mS_sI, mR_sI, mL_sI, n_cl, cob_0 hC, cr_0_book hC, book_o (ci_book hC)]; with_reducible rfl)) | rw [nm_eq] | rw [ckZ_n1] | rw [ckZ_n0])
    refine WP.cw (y_keep h hk) (fun _ M1 h1 => ?_)
    have hC1 := h1.1
    have hS1 : CC M1 21 (bT (zB G)) (bS (zB G)) := h1.cc
    have s1 := c_share hk.1.1 (ci_scene hC1) hS1 a1 b1
    repeat (first | ((with_reducible apply WP.ce); case h => (simp (disch := omega) only [s1]; with_reducible rfl)) | ((with_reducible apply WP.bd); case h => (simp (disch := omega) only [e_gR, e_gI, e_aI, e_aL, e_oO, e_pI, e_wI, e_wL, Option.map_some, mS_sL, mR_sL, mI_sL, mS_sI, mR_sI, mL_sI, n_cl, cob_0 hC1, cr_0_book hC1, book_o (ci_book hC1), book_r_scene (ci_book hC1), Nat.reduceAdd, scene_o (ci_scene hC1)]; with_reducible rfl)) | rw [nm_eq] | rw [ckZ_n1] | rw [ckZ_n0])
    exact WP.ret ⟨rfl, h1.sc (M' := sI (sI M1 (21 + 2) a (nI (sW (bS (zB G)) a ||| sW (bS (zB G)) b))) (21 + 2) b (nI (sW (bS (zB G)) a ||| sW (bS (zB G)) b))) rfl (fun _ _ _ => rfl) (fun c hc2 => by rw [sI_row (by omega), sI_row (by omega)]) (CC_shr hS1 a b)⟩
theorem CC_coi {M : Mem} {q : Nat} {T : TD} {S : SC} (hS : CC M q T S) (s j : Nat) : CC (sI M (q + 2) s (nI (sW S s ||| 2 ^ j))) q T (coiS S s j) := by
  refine ⟨by rw [sI_row (by omega)]; exact hS.1, fun i hi => by rw [sI_row (by omega)]; exact hS.2.1 i hi, fun i hi => ⟨?_, by rw [sI_row (by omega)]; exact (hS.2.2 i hi).2⟩⟩
  show _ = nI (fset (sW S) s (sW S s ||| 2 ^ j) i)
  rw [mI_sI]
  by_cases ea : i = s
  · rw [if_pos ⟨rfl, ea⟩, ea, fset_s]
  · rw [if_neg (by omega), fset_o _ _ ea]; exact (hS.2.2 i hi).1
theorem y_coin (h : CG O M G) (hk : GOk G) (x y : Int32) : WP (f_X9_coin 0 x y M) (fun v M' => v = (a_coin (zB G) x y).1 ∧ CG O M' (wB G (a_coin (zB G) x y).2)) := by
  have hC := h.1
  have hs := hk.1.2.1
  have k1 := hk.1.1.1.2.2.1
  have k2 := hk.1.1.1.2.2.2
  unfold f_X9_coin f_X9_coin_J31 a_coin
  repeat (first | ((with_reducible apply WP.ce); case h => (simp (disch := omega) only [c_isWaiting hC h.ct hk.1.1 h.cc hs]; with_reducible rfl)) | ((with_reducible apply WP.bd); case h => (simp (disch := omega) only [e_gR, e_gI, e_aI, e_aL, e_oO, e_pI, e_wI, e_wL, Option.map_some, mS_sL, mR_sL, mI_sL, mS_sI, mR_sI, mL_sI, n_cl, cob_0 hC]; with_reducible rfl)) | rw [nm_eq] | rw [ckZ_n1] | rw [ckZ_n0])
  refine WP.gd (fun g1 => WP.ret (by rw [g1]; exact ⟨rfl, h⟩)) (fun g1 => ?_)
  repeat (first | ((with_reducible apply WP.ce); case h => (simp (disch := omega) only [c_isJoke hC h.ct hk.1.1]; with_reducible rfl)) | ((with_reducible apply WP.bd); case h => (simp (disch := omega) only [e_gR, e_gI, e_aI, e_aL, e_oO, e_pI, e_wI, e_wL, Option.map_some, mS_sL, mR_sL, mI_sL, mS_sI, mR_sI, mL_sI, n_cl, cob_0 hC]; with_reducible rfl)) | rw [nm_eq] | rw [ckZ_n1] | rw [ckZ_n0])
  refine WP.gd (fun g2 => WP.ret (by rw [g1, g2]; exact ⟨rfl, h⟩)) (fun g2 => ?_)
  obtain ⟨s, rfl, s1, s2, s3⟩ := wtI_t2 hk.1.1 g1
  obtain ⟨j, j1, rfl⟩ := ixB_t (by omega) g2
  have a0 := c_isKnown hk.1.1 (ci_scene hC) h.cc hs s1 (by omega : j < 8)
  rw [s3, n_cl (by omega : j < 2 ^ 31), g1, g2]
  repeat (first | ((with_reducible apply WP.ce); case h => (simp (disch := omega) only [a0]; with_reducible rfl)) | ((with_reducible apply WP.bd); case h => (simp (disch := omega) only [e_gR, e_gI, e_aI, e_aL, e_oO, e_pI, e_wI, e_wL, Option.map_some, mS_sL, mR_sL, mI_sL, mS_sI, mR_sI, mL_sI, n_cl, cob_0 hC, cr_0_book hC, book_o (ci_book hC), book_r_told (ci_book hC), book_r_scene (ci_book hC), told_o (ci_told hC), scene_o (ci_scene hC), Nat.reduceAdd]; with_reducible rfl)) | rw [nm_eq] | rw [ckZ_n1] | rw [ckZ_n0])
  refine WP.gd (fun g3 => ?_) (fun g3 => WP.ret (by rw [g3]; exact ⟨rfl, h⟩))
  rw [g3]
  repeat (first | ((with_reducible apply WP.ce); case h => (simp (disch := omega) only []; with_reducible rfl)) | ((with_reducible apply WP.bd); case h => (simp (disch := omega) only [e_gR, e_gI, e_aI, e_aL, e_oO, e_pI, e_wI, e_wL, Option.map_some, mS_sL, mR_sL, mI_sL, mS_sI, mR_sI, mL_sI, n_cl, cob_0 hC, cr_0_book hC, book_o (ci_book hC)]; with_reducible rfl)) | rw [nm_eq] | rw [ckZ_n1] | rw [ckZ_n0])
  refine WP.cw (y_keep h hk) (fun _ M1 h1 => ?_)
  have hC1 := h1.1
  have hS1 : CC M1 21 (bT (zB G)) (bS (zB G)) := h1.cc
  have va : mI M1 23 s = nI (sW (bS (zB G)) s) := (hS1.2.2 s s1).1
  have x1 : ixS (mS M1) 0 (some 23) (nI s) = some 23 := scene_x_knows (ci_scene hC1) (by omega)
  obtain ⟨M2, hM2⟩ : ∃ M2, M2 = sI M1 23 s (nI (sW (bS (zB G)) s ||| 2 ^ j)) := ⟨_, rfl⟩
  have hC2 : CIs (mS M2) (mR M2) := by rw [hM2]; exact hC1
  have v2 : mI M2 23 s = nI (sW (bS (zB G)) s ||| 2 ^ j) := by rw [hM2, mI_sI, if_pos ⟨rfl, rfl⟩]
  have x2 : ixS (mS M2) 0 (some 23) (nI s) = some 23 := scene_x_knows (ci_scene hC2) (by omega)
  repeat (first | ((with_reducible apply WP.ce); case h => (simp (disch := omega) only []; with_reducible rfl)) | ((with_reducible apply WP.bd); case h => (simp (disch := omega) only [e_gR, e_gI, e_aI, e_aL, e_oO, e_pI, e_wI, e_wL, Option.map_some, mS_sL, mR_sL, mI_sL, mS_sI, mR_sI, mL_sI, n_cl, cob_0 hC1, cr_0_book hC1, book_o (ci_book hC1), book_r_scene (ci_book hC1), Nat.reduceAdd, scene_o (ci_scene hC1), scene_r_knows (ci_scene hC1), x1, va, n_shl, n_or, ← hM2]; with_reducible rfl)) | rw [nm_eq] | rw [ckZ_n1] | rw [ckZ_n0])
  repeat (first | ((with_reducible apply WP.ce); case h => (simp (disch := omega) only []; with_reducible rfl)) | ((with_reducible apply WP.bd); case h => (simp (disch := omega) only [e_gR, e_gI, e_aI, e_aL, e_oO, e_pI, e_wI, e_wL, Option.map_some, mS_sL, mR_sL, mI_sL, mS_sI, mR_sI, mL_sI, n_cl, cob_0 hC2, cr_0_book hC2, book_o (ci_book hC2), book_r_scene (ci_book hC2), Nat.reduceAdd, scene_o (ci_scene hC2), scene_r_knows (ci_scene hC2), x2, v2]; with_reducible rfl)) | rw [nm_eq] | rw [ckZ_n1] | rw [ckZ_n0])
  exact WP.ret ⟨rfl, h1.sc (by rw [hM2]; rfl) (fun _ _ _ => by rw [hM2]; rfl) (fun c hc2 => by rw [hM2, sI_row (by omega)]) (by rw [hM2]; exact CC_coi hS1 s j)⟩
theorem y_dull (h : CG O M G) (hk : GOk G) (y : Int32) : WP (f_X9_dull 0 y M) (fun v M' => v = (a_dull (zB G) y).1 ∧ CG O M' (wB G (a_dull (zB G) y).2)) := by
  have hC := h.1
  have hs := hk.1.2.1
  have k1 := hk.1.1.1.2.2.1
  have hml := mem_lt hk.1.1 (bS (zB G))
  unfold f_X9_dull f_X9_dull_J32 a_dull
  repeat (first | ((with_reducible apply WP.ce); case h => (simp (disch := omega) only [c_isJoke hC h.ct hk.1.1]; with_reducible rfl)) | ((with_reducible apply WP.bd); case h => (simp (disch := omega) only [e_gR, e_gI, e_aI, e_aL, e_oO, e_pI, e_wI, e_wL, Option.map_some, mS_sL, mR_sL, mI_sL, mS_sI, mR_sI, mL_sI, n_cl, cob_0 hC]; with_reducible rfl)) | rw [nm_eq] | rw [ckZ_n1] | rw [ckZ_n0])
  refine WP.gd (fun g1 => WP.ret (by rw [g1]; exact ⟨rfl, h⟩)) (fun g1 => ?_)
  obtain ⟨j, j1, rfl⟩ := ixB_t (by omega) g1
  rw [n_cl (by omega : j < 2 ^ 31), g1]
  have a0 := c_remembered (ci_told hC) h.ct hk.1.1 (ci_scene hC) h.cc hs
  repeat (first | ((with_reducible apply WP.ce); case h => (simp (disch := omega) only [a0]; with_reducible rfl)) | ((with_reducible apply WP.bd); case h => (simp (disch := omega) only [e_gR, e_gI, e_aI, e_aL, e_oO, e_pI, e_wI, e_wL, Option.map_some, mS_sL, mR_sL, mI_sL, mS_sI, mR_sI, mL_sI, n_cl, cob_0 hC, cr_0_book hC, book_o (ci_book hC), book_r_told (ci_book hC), book_r_scene (ci_book hC), told_o (ci_told hC), scene_o (ci_scene hC), Nat.reduceAdd]; with_reducible rfl)) | rw [nm_eq] | rw [ckZ_n1] | rw [ckZ_n0])
  rw [n_bit (by omega) (by omega), mem_bit j1]
  cases g2 : rem (bT (zB G)) (bS (zB G)) j with
  | false => exact WP.it (by decide) (WP.ret ⟨rfl, h⟩)
  | true =>
    refine WP.ie (by decide) ?_
    repeat (first | ((with_reducible apply WP.ce); case h => (simp (disch := omega) only []; with_reducible rfl)) | ((with_reducible apply WP.bd); case h => (simp (disch := omega) only [e_gR, e_gI, e_aI, e_aL, e_oO, e_pI, e_wI, e_wL, Option.map_some, mS_sL, mR_sL, mI_sL, mS_sI, mR_sI, mL_sI, n_cl, cob_0 hC, cr_0_book hC, book_o (ci_book hC)]; with_reducible rfl)) | rw [nm_eq] | rw [ckZ_n1] | rw [ckZ_n0])
    refine WP.cw (y_keep h hk) (fun _ M1 h1 => ?_)
    have hC1 := h1.1
    have hS1 : CC M1 21 (bT (zB G)) (bS (zB G)) := h1.cc
    have a1 := c_since hk.1.1 (ci_scene hC1) hS1 hs j1
    have x1 : ixS (mS M1) 0 (some 22) (nI j) = some 22 := scene_x_heard (ci_scene hC1) (by omega)
    repeat (first | ((with_reducible apply WP.ce); case h => (simp (disch := omega) only [a1]; with_reducible rfl)) | ((with_reducible apply WP.bd); case h => (simp (disch := omega) only [e_gR, e_gI, e_aI, e_aL, e_oO, e_pI, e_wI, e_wL, Option.map_some, mS_sL, mR_sL, mI_sL, mS_sI, mR_sI, mL_sI, n_cl, cob_0 hC1, cr_0_book hC1, book_o (ci_book hC1), book_r_scene (ci_book hC1), Nat.reduceAdd, scene_o (ci_scene hC1), scene_r_heard (ci_scene hC1), x1]; with_reducible rfl)) | rw [nm_eq] | rw [ckZ_n1] | rw [ckZ_n0])
    exact WP.ret ⟨rfl, h1.sc (M' := sI M1 (21 + 1) j (-100000)) rfl (fun _ _ _ => rfl) (fun c hc2 => by rw [sI_row (by omega)]) (CC_dul hS1 j)⟩
theorem y_undo (h : CG O M G) (hk : GOk G) : WP (f_X9_undo 0 M) (fun v M' => v = (a_undo (zB G)).1 ∧ CG O M' (wB G (a_undo (zB G)).2)) := by
  have hC := h.1
  obtain ⟨p0, hd, p1, p2, p3⟩ := h.cp
  have k1 := hk.1.1.1.2.2.1
  have k2 := hk.1.1.1.2.2.2
  have hP := hk.1.2.2.2.2.1.1
  unfold f_X9_undo f_X9_undo_J22 a_undo
  repeat (first | ((with_reducible apply WP.ce); case h => (simp (disch := omega) only []; with_reducible rfl)) | ((with_reducible apply WP.bd); case h => (simp (disch := omega) only [e_gR, e_gI, e_aI, e_aL, e_oO, e_pI, e_wI, e_wL, Option.map_some, mS_sL, mR_sL, mI_sL, mS_sI, mR_sI, mL_sI, n_cl, cob_0 hC, cr_0_book hC, book_o (ci_book hC)]; with_reducible rfl)) | rw [nm_eq] | rw [ckZ_n1] | rw [ckZ_n0])
  have main : WP (f_X2_undoAct 14 M) (fun v M' => if (bP (zB G)).1 = 0 then v = nI 0 ∧ M' = M else v = nI 1 ∧ CG O M' (wB G (bT (zB G), (bP (zB G)).2 ((bP (zB G)).1 - 1), bN (zB G), ((bP (zB G)).1 - 1, (bP (zB G)).2), bX (zB G), bF (zB G)))) := by
    unfold f_X2_undoAct
    repeat (first | ((with_reducible apply WP.ce); case h => (simp (disch := omega) only []; with_reducible rfl)) | ((with_reducible apply WP.bd); case h => (simp (disch := omega) only [e_gR, e_gI, e_aI, e_aL, e_oO, e_pI, e_wI, e_wL, Option.map_some, mS_sL, mR_sL, mI_sL, mS_sI, mR_sI, mL_sI, n_cl, book_o (ci_book hC), p0]; with_reducible rfl)) | rw [nm_eq] | rw [ckZ_n1] | rw [ckZ_n0])
    by_cases hc : (bP (zB G)).1 = 0
    · refine WP.it (by rw [hc]; rfl) ?_
      try rw [ckZ_n0]
      exact WP.ret (by rw [if_pos hc]; exact ⟨rfl, rfl⟩)
    · refine WP.ie (by rw [nIz (by omega)]; exact hc) ?_
      obtain ⟨M1, hM1⟩ : ∃ M1, M1 = sI M 14 6 (nI ((bP (zB G)).1 - 1)) := ⟨_, rfl⟩
      have hC1 : CIs (mS M1) (mR M1) := by rw [hM1]; exact hC
      have g10 : mI M1 14 10 = nI hd := by rw [hM1, mI_sI, if_neg (by omega)]; exact p2
      repeat (first | ((with_reducible apply WP.ce); case h => (simp (disch := omega) only []; with_reducible rfl)) | ((with_reducible apply WP.bd); case h => (simp (disch := omega) only [e_gR, e_gI, e_aI, e_aL, e_oO, e_pI, e_wI, e_wL, Option.map_some, mS_sL, mR_sL, mI_sL, mS_sI, mR_sI, mL_sI, n_cl, book_o (ci_book hC), p0, n_sub, ← hM1]; with_reducible rfl)) | rw [nm_eq] | rw [ckZ_n1] | rw [ckZ_n0])
      repeat (first | ((with_reducible apply WP.ce); case h => (simp (disch := omega) only []; with_reducible rfl)) | ((with_reducible apply WP.bd); case h => (simp (disch := omega) only [e_gR, e_gI, e_aI, e_aL, e_oO, e_pI, e_wI, e_wL, Option.map_some, mS_sL, mR_sL, mI_sL, mS_sI, mR_sI, mL_sI, n_cl, book_o (ci_book hC1), g10]; with_reducible rfl)) | rw [nm_eq] | rw [ckZ_n1] | rw [ckZ_n0])
      refine WP.ie (by decide) ?_
      rw [n_add, n_sub (by omega), pk_rem (by omega) (by decide) (by decide)]
      obtain ⟨M2, hM2⟩ : ∃ M2, M2 = sI M1 14 10 (nI ((hd + 20 - 1) % 20)) := ⟨_, rfl⟩
      have hC2 : CIs (mS M2) (mR M2) := by rw [hM2]; exact hC1
      have g10b : mI M2 14 10 = nI ((hd + 20 - 1) % 20) := by rw [hM2, mI_sI, if_pos ⟨rfl, rfl⟩]
      have hb : lenOf (mS M2) 0 28 = 380 := book_l_past (ci_book hC2)
      repeat (first | ((with_reducible apply WP.ce); case h => (simp (disch := omega) only []; with_reducible rfl)) | ((with_reducible apply WP.bd); case h => (simp (disch := omega) only [e_gR, e_gI, e_aI, e_aL, e_oO, e_pI, e_wI, e_wL, Option.map_some, mS_sL, mR_sL, mI_sL, mS_sI, mR_sI, mL_sI, n_cl, book_o (ci_book hC1), ← hM2]; with_reducible rfl)) | rw [nm_eq] | rw [ckZ_n1] | rw [ckZ_n0])
      repeat (first | ((with_reducible apply WP.ce); case h => (simp (disch := omega) only []; with_reducible rfl)) | ((with_reducible apply WP.bd); case h => (simp (disch := omega) only [e_gR, e_gI, e_aI, e_aL, e_oO, e_pI, e_wI, e_wL, Option.map_some, mS_sL, mR_sL, mI_sL, mS_sI, mR_sI, mL_sI, n_cl, book_o (ci_book hC2), book_r_scene (ci_book hC2), book_r_past (ci_book hC2), g10b, Nat.reduceAdd, scene_o (ci_scene hC2)]; with_reducible rfl)) | rw [nm_eq] | rw [ckZ_n1] | rw [ckZ_n0])
      rw [n_mul]
      refine WP.cw (c_restore (ci_scene hC2) hb (by omega) (by omega)) (fun _ M3 c => ?_)
      obtain ⟨c1, c2, c3, c4⟩ := c
      try rw [ckZ_n1]
      have rows2 : ∀ a, a ≠ 14 → mI M2 a = mI M a := fun a a1 => by rw [hM2, sI_row a1, hM1, sI_row a1]
      have rows : ∀ a, a ≠ 14 → a ≠ 21 → a ≠ 22 → a ≠ 23 → a ≠ 24 → mI M3 a = mI M a := fun a a1 a2 a3 a4 a5 => by rw [c1.2.2.1 a a2 a3 a4 a5, rows2 a a1]
      have r14 : ∀ k, k ≠ 6 → k ≠ 10 → mI M3 14 k = mI M 14 k := fun k h1 h2 => by rw [c1.2.2.1 14 (by omega) (by omega) (by omega) (by omega), hM2, mI_sI, if_neg (by omega), hM1, mI_sI, if_neg (by omega)]
      refine WP.ret ?_
      rw [if_neg hc]
      obtain ⟨q0, q1, q2⟩ := p3 ((bP (zB G)).1 - 1) (by omega)
      have esl : (hd + 20 - (bP (zB G)).1 + ((bP (zB G)).1 - 1)) % 20 = (hd + 20 - 1) % 20 := by omega
      rw [esl] at q0 q1 q2
      rw [rows2 28 (by omega), Nat.mul_comm] at c2 c3 c4
      refine ⟨rfl, h.up ⟨by rw [c1.1, hM2, hM1]; rfl, fun a k _ => by rw [c1.2.1, hM2, hM1]; rfl, fun a ha => rows a (by omega) (by omega) (by omega) (by omega) (by omega)⟩ ⟨c2.trans q0, fun j hj => (c3 j (by omega)).trans (q1 j hj), fun s hs => ⟨(c4 s (by omega)).1.trans (q2 s hs).1, (c4 s (by omega)).2.trans (q2 s hs).2⟩⟩ ?_ ?_ (by rw [r14 7 (by decide) (by decide)]; exact h.2.1.2.2.2.2.1) (by rw [r14 8 (by decide) (by decide)]; exact h.2.1.2.2.2.2.2)⟩
      · unfold CNb
        rw [r14 5 (by decide) (by decide), rows (14 + 11) (by omega) (by omega) (by omega) (by omega) (by omega), rows (14 + 12) (by omega) (by omega) (by omega) (by omega) (by omega), rows (14 + 13) (by omega) (by omega) (by omega) (by omega) (by omega)]
        exact h.cn
      · refine ⟨?_, (hd + 20 - 1) % 20, by omega, ?_, fun i hi => ?_⟩
        · rw [c1.2.2.1 14 (by omega) (by omega) (by omega) (by omega), hM2, mI_sI, if_neg (by omega), hM1, mI_sI, if_pos ⟨rfl, rfl⟩]
        · rw [c1.2.2.1 14 (by omega) (by omega) (by omega) (by omega)]; exact g10b
        · have hi : i < (bP (zB G)).1 - 1 := hi
          rw [rows (14 + 14) (by omega) (by omega) (by omega) (by omega) (by omega)]
          show CRec (fun k => mI M (14 + 14) (19 * (((hd + 20 - 1) % 20 + 20 - ((bP (zB G)).1 - 1) + i) % 20) + k)) (bT (zB G)) ((bP (zB G)).2 i)
          rw [show ((hd + 20 - 1) % 20 + 20 - ((bP (zB G)).1 - 1) + i) % 20 = (hd + 20 - (bP (zB G)).1 + i) % 20 by omega]
          exact p3 i (by omega)
  refine WP.cw main (fun v M1 c => ?_)
  by_cases hc : (bP (zB G)).1 = 0
  · rw [if_pos hc] at c
    rw [if_pos hc, c.1, c.2]
    exact WP.it (by rfl) (WP.ret ⟨rfl, h⟩)
  · rw [if_neg hc] at c
    rw [if_neg hc, c.1]
    have hC1 := c.2.1
    have e6 : mI M1 14 6 = nI ((bP (zB G)).1 - 1) := c.2.cp.1
    refine WP.ie (by decide) ?_
    repeat (first | ((with_reducible apply WP.ce); case h => (simp (disch := omega) only []; with_reducible rfl)) | ((with_reducible apply WP.bd); case h => (simp (disch := omega) only [e_gR, e_gI, e_aI, e_aL, e_oO, e_pI, e_wI, e_wL, Option.map_some, mS_sL, mR_sL, mI_sL, mS_sI, mR_sI, mL_sI, n_cl, cob_0 hC1, cr_0_book hC1, book_o (ci_book hC1), e6]; with_reducible rfl)) | rw [nm_eq] | rw [ckZ_n1] | rw [ckZ_n0])
    exact WP.ret ⟨rfl, c.2⟩
end YACT
