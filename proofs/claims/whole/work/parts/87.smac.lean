/-! THE CLASS: force, seed, note, count -/
variable {O : Mem}
section YSM
variable {M : Mem} {G : GD}
/-- one field of the book alone changes -/
theorem CG.w14 (h : CG O M G) {k : Nat} {v : Int32} {D : ND} {x : Nat} {fo : Option Nat} (hk6 : k ≠ 6) (hk10 : k ≠ 10) (h2 : CNb (sI M 14 k v) 14 D) (h4 : mI (sI M 14 k v) 14 7 = nI x) (h5 : mI (sI M 14 k v) 14 8 = eP fo) : CG O (sI M 14 k v) (wB G (bT (zB G), bS (zB G), D, bP (zB G), x, fo)) := by
  refine h.up (CFw M (by omega) _ _) (h.cc.of (fun i hi => sI_row (by omega))) h2 ?_ h4 h5
  unfold CPb
  rw [mI_sI, if_neg (by omega), mI_sI, if_neg (by omega), sI_row (by omega)]
  exact h.cp
theorem CNb.w14 {M : Mem} {D : ND} (h : CNb M 14 D) {k : Nat} {v : Int32} (hk5 : k ≠ 5) : CNb (sI M 14 k v) 14 D := by
  unfold CNb
  rw [mI_sI, if_neg (by omega), sI_row (by omega), sI_row (by omega), sI_row (by omega)]
  exact h
theorem y_force (h : CG O M G) (hk : GOk G) (x : Int32) : WP (f_X9_force 0 x M) (fun v M' => v = (a_force (zC G) (zB G) x).1 ∧ CG O M' (wB G (a_force (zC G) (zB G) x).2)) := by
  have hC := h.1
  have e8 := h.2.1.2.2.2.2.2
  unfold f_X9_force a_force
  repeat (first | ((with_reducible apply WP.ce); case h => (simp (disch := omega) only [c_isRule (h.ce hk)]; with_reducible rfl)) | ((with_reducible apply WP.bd); case h => (simp (disch := omega) only [e_gR, e_gI, e_aI, e_aL, e_oO, e_pI, e_wI, e_wL, Option.map_some, mS_sL, mR_sL, mI_sL, mS_sI, mR_sI, mL_sI, n_cl, cob_0 hC]; with_reducible rfl)) | rw [nm_eq] | rw [ckZ_n1] | rw [ckZ_n0])
  refine WP.gd (fun g => WP.ret (by rw [g]; exact ⟨rfl, h⟩)) (fun g => ?_)
  rw [g]
  obtain ⟨e1, e2⟩ := rlB_t (by have := hk.2.2.2.1; omega) g
  repeat (first | ((with_reducible apply WP.ce); case h => (simp (disch := omega) only []; with_reducible rfl)) | ((with_reducible apply WP.bd); case h => (simp (disch := omega) only [e_gR, e_gI, e_aI, e_aL, e_oO, e_pI, e_wI, e_wL, Option.map_some, mS_sL, mR_sL, mI_sL, mS_sI, mR_sI, mL_sI, n_cl, cob_0 hC, cr_0_book hC, book_o (ci_book hC), e8]; with_reducible rfl)) | rw [nm_eq] | rw [ckZ_n1] | rw [ckZ_n0])
  exact WP.ret ⟨rfl, h.w14 (by decide) (by decide) (h.cn.w14 (by decide)) (by rw [mI_sI, if_neg (by omega)]; exact h.2.1.2.2.2.2.1) (by rw [mI_sI, if_pos ⟨rfl, rfl⟩]; exact e1)⟩
theorem y_seed (h : CG O M G) (x : Int32) : WP (f_X9_seed 0 x M) (fun v M' => v = (a_seed (zB G) x).1 ∧ CG O M' (wB G (a_seed (zB G) x).2)) := by
  have hC := h.1
  have e7 := h.2.1.2.2.2.2.1
  have z0 : (0 : Int32).toInt = 0 := by decide
  unfold f_X9_seed a_seed
  by_cases g : 0 ≤ x.toInt
  · refine WP.it (by rw [fa_le, z0]; exact g) ?_
    rw [decide_eq_true g]
    have ex : x = nI x.toNatClampNeg := by
      have hl := Int32.toInt_lt x
      have e5 : x = nI x.toInt.toNat := by rw [fa_eq, nI_toInt (by omega)]; omega
      exact e5
    repeat (first | ((with_reducible apply WP.ce); case h => (simp (disch := omega) only []; with_reducible rfl)) | ((with_reducible apply WP.bd); case h => (simp (disch := omega) only [e_gR, e_gI, e_aI, e_aL, e_oO, e_pI, e_wI, e_wL, Option.map_some, mS_sL, mR_sL, mI_sL, mS_sI, mR_sI, mL_sI, n_cl, cob_0 hC, cr_0_book hC, book_o (ci_book hC), e7]; with_reducible rfl)) | rw [nm_eq] | rw [ckZ_n1] | rw [ckZ_n0])
    exact WP.ret ⟨rfl, h.w14 (by decide) (by decide) (h.cn.w14 (by decide)) (by rw [mI_sI, if_pos ⟨rfl, rfl⟩]; exact ex) (by rw [mI_sI, if_neg (by omega)]; exact h.2.1.2.2.2.2.2)⟩
  · refine WP.ie (by rw [fa_le, z0]; exact g) (WP.ret ?_)
    rw [decide_eq_false g]; exact ⟨rfl, h⟩
theorem y_note (h : CG O M G) (hk : GOk G) (x y z : Int32) : WP (f_X9_note 0 x y z M) (fun v M' => v = (a_note (zB G) x y z).1 ∧ CG O M' (wB G (a_note (zB G) x y z).2)) := by
  have hC := h.1
  have k1 := hk.1.1.1.2.2.1
  have k2 := hk.1.1.1.2.2.2
  obtain ⟨n1, n2⟩ := hk.1.2.2.2.1
  obtain ⟨c0, c1⟩ := h.cn
  unfold f_X9_note f_X9_note_J46 f_X9_note_J50 a_note
  by_cases x1 : x = -1
  · refine WP.it x1 ?_
    rw [if_pos x1]
    repeat (first | ((with_reducible apply WP.ce); case h => (simp (disch := omega) only []; with_reducible rfl)) | ((with_reducible apply WP.bd); case h => (simp (disch := omega) only [e_gR, e_gI, e_aI, e_aL, e_oO, e_pI, e_wI, e_wL, Option.map_some, mS_sL, mR_sL, mI_sL, mS_sI, mR_sI, mL_sI, n_cl, cob_0 hC, cr_0_book hC, book_o (ci_book hC)]; with_reducible rfl)) | rw [nm_eq] | rw [ckZ_n1] | rw [ckZ_n0])
    exact WP.ret ⟨rfl, h.w14 (by decide) (by decide) ⟨by rw [mI_sI, if_pos ⟨rfl, rfl⟩]; rfl, fun i hi => absurd hi (Nat.not_lt_zero i)⟩ (by rw [mI_sI, if_neg (by omega)]; exact h.2.1.2.2.2.2.1) (by rw [mI_sI, if_neg (by omega)]; exact h.2.1.2.2.2.2.2)⟩
  · refine WP.ie x1 ?_
    rw [if_neg x1]
    have no : (inR x 0 60 && ixB y (tN (bT (zB G))) && (decide (z = -1) || ixB z (tJ (bT (zB G))))) = false → WP (f_X9_note_J51 0 x y z (nI 0) M) (fun v M' => v = (if (inR x 0 60 && ixB y (tN (bT (zB G))) && (decide (z = -1) || ixB z (tJ (bT (zB G)))) && !(decide (nC (bN (zB G)) = 10))) = true then (nI (nC (bN (zB G)) + 1), (bT (zB G), bS (zB G), adN (bN (zB G)) x.toNatClampNeg y.toNatClampNeg (rlO z), bP (zB G), bX (zB G), bF (zB G))) else (-2, zB G)).1 ∧ CG O M' (wB G (if (inR x 0 60 && ixB y (tN (bT (zB G))) && (decide (z = -1) || ixB z (tJ (bT (zB G)))) && !(decide (nC (bN (zB G)) = 10))) = true then (nI (nC (bN (zB G)) + 1), (bT (zB G), bS (zB G), adN (bN (zB G)) x.toNatClampNeg y.toNatClampNeg (rlO z), bP (zB G), bX (zB G), bF (zB G))) else (-2, zB G)).2)) := by
      intro g
      unfold f_X9_note_J51 f_X9_note_J70
      refine WP.it (by rfl) (WP.ret ?_)
      rw [g]; exact ⟨rfl, h⟩
    have yes : (inR x 0 60 && ixB y (tN (bT (zB G))) && (decide (z = -1) || ixB z (tJ (bT (zB G))))) = true → WP (f_X9_note_J51 0 x y z (nI 1) M) (fun v M' => v = (if (inR x 0 60 && ixB y (tN (bT (zB G))) && (decide (z = -1) || ixB z (tJ (bT (zB G)))) && !(decide (nC (bN (zB G)) = 10))) = true then (nI (nC (bN (zB G)) + 1), (bT (zB G), bS (zB G), adN (bN (zB G)) x.toNatClampNeg y.toNatClampNeg (rlO z), bP (zB G), bX (zB G), bF (zB G))) else (-2, zB G)).1 ∧ CG O M' (wB G (if (inR x 0 60 && ixB y (tN (bT (zB G))) && (decide (z = -1) || ixB z (tJ (bT (zB G)))) && !(decide (nC (bN (zB G)) = 10))) = true then (nI (nC (bN (zB G)) + 1), (bT (zB G), bS (zB G), adN (bN (zB G)) x.toNatClampNeg y.toNatClampNeg (rlO z), bP (zB G), bX (zB G), bF (zB G))) else (-2, zB G)).2)) := by
      intro g
      rw [g]
      have g0 := Bool.and_eq_true_iff.mp g
      have g00 := Bool.and_eq_true_iff.mp g0.1
      unfold f_X9_note_J51 f_X9_note_J70
      refine WP.ie (by decide) ?_
      repeat (first | ((with_reducible apply WP.ce); case h => (simp (disch := omega) only []; with_reducible rfl)) | ((with_reducible apply WP.bd); case h => (simp (disch := omega) only [e_gR, e_gI, e_aI, e_aL, e_oO, e_pI, e_wI, e_wL, Option.map_some, mS_sL, mR_sL, mI_sL, mS_sI, mR_sI, mL_sI, n_cl, cob_0 hC, cr_0_book hC, book_o (ci_book hC), c0]; with_reducible rfl)) | rw [nm_eq] | rw [ckZ_n1] | rw [ckZ_n0])
      by_cases hc : nC (bN (zB G)) = 10
      · refine WP.ie (by rw [n_lt (by omega) (by omega)]; omega) (WP.ret ?_)
        rw [decide_eq_true hc]; exact ⟨rfl, h⟩
      · refine WP.it (by rw [n_lt (by omega) (by omega)]; omega) ?_
        rw [decide_eq_false hc]
        obtain ⟨n, rfl, -, nn, n3⟩ := inR_t g00.1 (by decide)
        obtain ⟨s, s1, rfl⟩ := ixB_t (by omega) g00.2
        rw [n_cl n3, n_cl (by omega : s < 2 ^ 31)]
        have ez : z = eP (rlO z) ∧ ∀ j, rlO z = some j → j < tJ (bT (zB G)) := by
          refine rlB_t (by omega) ?_
          unfold rlB
          apply decide_eq_true
          rcases Bool.or_eq_true_iff.mp g0.2 with g | g
          · have := of_decide_eq_true g
            rw [this]
            have hm : (-1 : Int32).toInt = -1 := by decide
            omega
          · have := of_decide_eq_true g
            omega
        have xa : ixS (mS M) 0 (some (14 + 11)) (nI (nC (bN (zB G)))) = some (14 + 11) := book_x_noteTide (ci_book hC) (by omega)
        have xb : ixS (mS M) 0 (some (14 + 12)) (nI (nC (bN (zB G)))) = some (14 + 12) := book_x_noteShip (ci_book hC) (by omega)
        have xc : ixS (mS M) 0 (some (14 + 13)) (nI (nC (bN (zB G)))) = some (14 + 13) := book_x_noteJoke (ci_book hC) (by omega)
        obtain ⟨M1, hM1⟩ : ∃ M1, M1 = sI M (14 + 11) (nC (bN (zB G))) (nI n) := ⟨_, rfl⟩
        have hC1 : CIs (mS M1) (mR M1) := by rw [hM1]; exact hC
        have d1 : mI M1 14 5 = nI (nC (bN (zB G))) := by rw [hM1, sI_row (by omega)]; exact c0
        have xb1 : ixS (mS M1) 0 (some (14 + 12)) (nI (nC (bN (zB G)))) = some (14 + 12) := by rw [hM1]; exact xb
        obtain ⟨M2, hM2⟩ : ∃ M2, M2 = sI M1 (14 + 12) (nC (bN (zB G))) (nI s) := ⟨_, rfl⟩
        have hC2 : CIs (mS M2) (mR M2) := by rw [hM2]; exact hC1
        have d2 : mI M2 14 5 = nI (nC (bN (zB G))) := by rw [hM2, sI_row (by omega)]; exact d1
        have xc2 : ixS (mS M2) 0 (some (14 + 13)) (nI (nC (bN (zB G)))) = some (14 + 13) := by rw [hM2, hM1]; exact xc
        obtain ⟨M3, hM3⟩ : ∃ M3, M3 = sI M2 (14 + 13) (nC (bN (zB G))) z := ⟨_, rfl⟩
        have hC3 : CIs (mS M3) (mR M3) := by rw [hM3]; exact hC2
        have d3 : mI M3 14 5 = nI (nC (bN (zB G))) := by rw [hM3, sI_row (by omega)]; exact d2
        have ad : f_X2_addNote 14 (nI n) (nI s) z M = some ((), sI M3 14 5 (nI (nC (bN (zB G)) + 1))) := by
          unfold f_X2_addNote
          repeat (first | ((with_reducible apply clt_t); case h => (simp (disch := omega) only [hC]; with_reducible rfl)) | ((with_reducible apply bnd_t); case h => (simp (disch := omega) only [e_gR, e_gI, e_aI, e_aL, e_oO, e_pI, e_wI, e_wL, Option.map_some, mS_sL, mR_sL, mI_sL, mS_sI, mR_sI, mL_sI, n_cl, book_o (ci_book hC), book_r_noteTide (ci_book hC), c0, xa, ← hM1]; with_reducible rfl)) | rw [nm_eq])
          repeat (first | ((with_reducible apply clt_t); case h => (simp (disch := omega) only [hC]; with_reducible rfl)) | ((with_reducible apply bnd_t); case h => (simp (disch := omega) only [e_gR, e_gI, e_aI, e_aL, e_oO, e_pI, e_wI, e_wL, Option.map_some, mS_sL, mR_sL, mI_sL, mS_sI, mR_sI, mL_sI, n_cl, book_o (ci_book hC1), book_r_noteShip (ci_book hC1), d1, xb1, ← hM2]; with_reducible rfl)) | rw [nm_eq])
          repeat (first | ((with_reducible apply clt_t); case h => (simp (disch := omega) only [hC]; with_reducible rfl)) | ((with_reducible apply bnd_t); case h => (simp (disch := omega) only [e_gR, e_gI, e_aI, e_aL, e_oO, e_pI, e_wI, e_wL, Option.map_some, mS_sL, mR_sL, mI_sL, mS_sI, mR_sI, mL_sI, n_cl, book_o (ci_book hC2), book_r_noteJoke (ci_book hC2), d2, xc2, ← hM3]; with_reducible rfl)) | rw [nm_eq])
          repeat (first | ((with_reducible apply clt_t); case h => (simp (disch := omega) only [hC]; with_reducible rfl)) | ((with_reducible apply bnd_t); case h => (simp (disch := omega) only [e_gR, e_gI, e_aI, e_aL, e_oO, e_pI, e_wI, e_wL, Option.map_some, mS_sL, mR_sL, mI_sL, mS_sI, mR_sI, mL_sI, n_cl, book_o (ci_book hC3), d3, n_add]; with_reducible rfl)) | rw [nm_eq])
          rfl
        repeat (first | ((with_reducible apply WP.ce); case h => (simp (disch := omega) only [ad]; with_reducible rfl)) | ((with_reducible apply WP.bd); case h => (simp (disch := omega) only [e_gR, e_gI, e_aI, e_aL, e_oO, e_pI, e_wI, e_wL, Option.map_some, mS_sL, mR_sL, mI_sL, mS_sI, mR_sI, mL_sI, n_cl, cob_0 hC, cr_0_book hC, book_o (ci_book hC)]; with_reducible rfl)) | rw [nm_eq] | rw [ckZ_n1] | rw [ckZ_n0])
        have hC4 : CIs (mS (sI M3 14 5 (nI (nC (bN (zB G)) + 1)))) (mR (sI M3 14 5 (nI (nC (bN (zB G)) + 1)))) := hC3
        have d4 : mI (sI M3 14 5 (nI (nC (bN (zB G)) + 1))) 14 5 = nI (nC (bN (zB G)) + 1) := by rw [mI_sI, if_pos ⟨rfl, rfl⟩]
        repeat (first | ((with_reducible apply WP.ce); case h => (simp (disch := omega) only []; with_reducible rfl)) | ((with_reducible apply WP.bd); case h => (simp (disch := omega) only [e_gR, e_gI, e_aI, e_aL, e_oO, e_pI, e_wI, e_wL, Option.map_some, mS_sL, mR_sL, mI_sL, mS_sI, mR_sI, mL_sI, n_cl, cob_0 hC3, cr_0_book hC3, book_o (ci_book hC3), d4]; with_reducible rfl)) | rw [nm_eq] | rw [ckZ_n1] | rw [ckZ_n0])
        have r14 : ∀ k, k ≠ 5 → mI (sI M3 14 5 (nI (nC (bN (zB G)) + 1))) 14 k = mI M 14 k := fun k hk5 => by rw [mI_sI, if_neg (by omega), hM3, sI_row (by omega), hM2, sI_row (by omega), hM1, sI_row (by omega)]
        have rows : ∀ a, a ≠ 14 → a ≠ 25 → a ≠ 26 → a ≠ 27 → mI (sI M3 14 5 (nI (nC (bN (zB G)) + 1))) a = mI M a := fun a a0 a1 a2 a3 => by rw [sI_row a0, hM3, sI_row (by omega), hM2, sI_row (by omega), hM1, sI_row (by omega)]
        have q25 : mI (sI M3 14 5 (nI (nC (bN (zB G)) + 1))) (14 + 11) = upd (mI M (14 + 11)) (nC (bN (zB G))) (nI n) := by rw [sI_row (by omega), hM3, sI_row (by omega), hM2, sI_row (by omega), hM1, mI_sI_s]
        have q26 : mI (sI M3 14 5 (nI (nC (bN (zB G)) + 1))) (14 + 12) = upd (mI M (14 + 12)) (nC (bN (zB G))) (nI s) := by rw [sI_row (by omega), hM3, sI_row (by omega), hM2, mI_sI_s, hM1, sI_row (by omega)]
        have q27 : mI (sI M3 14 5 (nI (nC (bN (zB G)) + 1))) (14 + 13) = upd (mI M (14 + 13)) (nC (bN (zB G))) z := by rw [sI_row (by omega), hM3, mI_sI_s, hM2, sI_row (by omega), hM1, sI_row (by omega)]
        refine WP.ret ⟨rfl, h.up (M' := sI M3 14 5 (nI (nC (bN (zB G)) + 1))) ⟨by rw [hM3, hM2, hM1]; rfl, fun _ _ _ => by rw [hM3, hM2, hM1]; rfl, fun a ha => rows a (by omega) (by omega) (by omega) (by omega)⟩ (h.cc.of (fun i hi => rows _ (by omega) (by omega) (by omega) (by omega))) ⟨d4, fun i hi => ?_⟩ ?_ (by rw [r14 7 (by decide)]; exact h.2.1.2.2.2.2.1) (by rw [r14 8 (by decide)]; exact h.2.1.2.2.2.2.2)⟩
        · have hi : i < nC (bN (zB G)) + 1 := hi
          rw [q25, q26, q27]
          show _ = nI (fset (nT (bN (zB G))) (nC (bN (zB G))) n i) ∧ _ = nI (fset (nS (bN (zB G))) (nC (bN (zB G))) s i) ∧ _ = eP (fset (nJ (bN (zB G))) (nC (bN (zB G))) (rlO z) i)
          by_cases ei : i = nC (bN (zB G))
          · rw [ei, upd_s, upd_s, upd_s, fset_s, fset_s, fset_s]
            exact ⟨rfl, rfl, ez.1⟩
          · rw [upd_o _ _ ei, upd_o _ _ ei, upd_o _ _ ei, fset_o _ _ ei, fset_o _ _ ei, fset_o _ _ ei]
            exact c1 i (by omega)
        · unfold CPb
          rw [r14 6 (by decide), r14 10 (by decide), rows (14 + 14) (by omega) (by omega) (by omega) (by omega)]
          exact h.cp
    refine WP.ce (c_isWithin x (by decide) (by decide) M) ?_
    refine WP.gd (fun g1 => no (by rw [show inR x 0 60 = false from g1]; rfl)) (fun g1 => ?_)
    have g1' : inR x 0 60 = true := g1
    repeat (first | ((with_reducible apply WP.ce); case h => (simp (disch := omega) only [c_isShip hC h.ct hk.1.1]; with_reducible rfl)) | ((with_reducible apply WP.bd); case h => (simp (disch := omega) only [e_gR, e_gI, e_aI, e_aL, e_oO, e_pI, e_wI, e_wL, Option.map_some, mS_sL, mR_sL, mI_sL, mS_sI, mR_sI, mL_sI, n_cl, cob_0 hC]; with_reducible rfl)) | rw [nm_eq] | rw [ckZ_n1] | rw [ckZ_n0])
    refine WP.gd (fun g2 => no (by rw [g2, g1']; rfl)) (fun g2 => ?_)
    by_cases z1 : z = -1
    · exact WP.it z1 (yes (by rw [g1', g2, decide_eq_true z1]; rfl))
    · refine WP.ie z1 ?_
      repeat (first | ((with_reducible apply WP.ce); case h => (simp (disch := omega) only [c_isJoke hC h.ct hk.1.1]; with_reducible rfl)) | ((with_reducible apply WP.bd); case h => (simp (disch := omega) only [e_gR, e_gI, e_aI, e_aL, e_oO, e_pI, e_wI, e_wL, Option.map_some, mS_sL, mR_sL, mI_sL, mS_sI, mR_sI, mL_sI, n_cl, cob_0 hC]; with_reducible rfl)) | rw [nm_eq] | rw [ckZ_n1] | rw [ckZ_n0])
      refine WP.gd (fun g3 => no (by rw [g1', g2, g3, decide_eq_false z1]; rfl)) (fun g3 => yes (by rw [g1', g2, g3, Bool.or_true]; rfl))
theorem y_count (h : CG O M G) (hk : GOk G) (x : Int32) : f_X9_count 0 x M = some (q_count G x, M) := by
  have hC := h.1
  have hs := hk.1.2.1
  have e08 := h.2.2.1.2.1
  have e17 := h.2.2.2.1.1
  obtain ⟨⟨⟨-, a0, a1, a2, a3⟩, -⟩, ⟨b0, -⟩, ⟨c0, -⟩, ⟨p0, -⟩, x0, f0⟩ := h.2.1
  have a0 : mI M 15 1 = nI (tF (bT (zB G))) := a0
  have a1 : mI M 15 2 = nI (tK (bT (zB G))) := a1
  have a2 : mI M 15 3 = nI (tJ (bT (zB G))) := a2
  have a3 : mI M 15 4 = nI (tN (bT (zB G))) := a3
  have b0 : mI M 21 0 = nI (sT (bS (zB G))) := b0
  have w1 := c_earned (ci_told hC) h.ct hk.1.1 (ci_scene hC) h.cc hs
  have w2 := c_waiting (ci_told hC) h.ct hk.1.1 (ci_scene hC) h.cc hs
  have w3 := c_remembered (ci_told hC) h.ct hk.1.1 (ci_scene hC) h.cc hs
  unfold f_X9_count q_count
  by_cases hw : inR x 0 13 = true
  · obtain ⟨k, rfl, -, h2, h3⟩ := inR_t hw (by decide)
    rw [hw, n_cl h3, if_pos rfl]
    rcases (show k = 0 ∨ k = 1 ∨ k = 2 ∨ k = 3 ∨ k = 4 ∨ k = 5 ∨ k = 6 ∨ k = 7 ∨ k = 8 ∨ k = 9 ∨ k = 10 ∨ k = 11 ∨ k = 12 ∨ k = 13 by omega) with rfl | rfl | rfl | rfl | rfl | rfl | rfl | rfl | rfl | rfl | rfl | rfl | rfl | rfl <;> rw [tsw_i rfl (by decide)] <;> simp only [List.getD_cons_zero, List.getD_cons_succ] <;> (repeat (first | refine (cl_ok (by (simp only [w1, w2, w3]; with_reducible rfl)) _).trans ?_ | refine (bind_ok (by (simp (disch := omega) only [e_gR, e_gI, e_aI, e_aL, e_oO, e_pI, e_wI, e_wL, Option.map_some, mS_sL, mR_sL, mI_sL, mS_sI, mR_sI, mL_sI, n_cl, cob_0 hC, cr_0_book hC, book_o (ci_book hC), book_r_told (ci_book hC), book_r_scene (ci_book hC), told_o (ci_told hC), scene_o (ci_scene hC), Nat.reduceAdd, cr_0_tape hC, cob_1 hC, a0, a1, a2, a3, b0, c0, p0, x0, f0, e08, e17]; with_reducible rfl)) _).trans ?_ | rw [nm_eq])) <;> rfl
  · have hw : inR x 0 13 = false := by simpa using hw
    rw [tsw_o (n := 13) rfl hw, hw]; rfl
end YSM
