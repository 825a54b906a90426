/-! THE CLASS: forget, barter -/
theorem nle_m1 {n : Nat} (h : n < 2 ^ 31) : ¬ (nI n ≤ (-1 : Int32)) := by
  have h2 : (-1 : Int32).toInt = -1 := by decide
  rw [fa_le, nI_toInt h, h2]
  omega
theorem CC_dul {M : Mem} {q : Nat} {T : TD} {S : SC} (hS : CC M q T S) (j : Nat) : CC (sI M (q + 1) j (-100000)) q T (dulS S j) := by
  refine ⟨by rw [sI_row (by omega)]; exact hS.1, fun k hk => ?_, fun s h => by rw [sI_row (by omega), sI_row (by omega)]; exact hS.2.2 s h⟩
  rw [mI_sI_s]
  show _ = eH (-100000) (fset (sH S) j none k)
  by_cases hkj : k = j
  · subst hkj; rw [upd_s, fset_s]; rfl
  · rw [upd_o _ _ hkj, fset_o _ _ hkj]; exact hS.2.1 k hk
theorem c_forJ84 {M0 M : Mem} {T : TD} {S0 S : SC} {r : Option RD} (h : CA M0 T S0 r) (g : AG M0 M) (hs : SOk S) (hS : CC M 39 T S) {n : Nat} (hn : n ≤ 100) (h9 : sT S ≤ 999) {A F mm l3 : Int32} (hA : mI M 37 0 = A) (hF : mI M 37 1 = F) {k27 : Int32 → Int32 → Int32 → Mem → Option (Unit × Mem)} {Q : Unit → Mem → Prop}
    (k : ∀ M', AG M0 M' → mI M' 37 0 = (if nI (ernA T (tides T r S n)) ≤ A then A else nI (ernA T (tides T r S n))) → mI M' 37 1 = (if nI (ernA T (tides T r S n)) ≤ A then F else l3) → WP (k27 (nI n) mm (l3 + nI 1) M') Q) : WP (f_X0_findForgotten_J84 k27 37 (nI n) mm l3 M) Q := by
  obtain ⟨⟨hC, hT, hS0, hr⟩, hk, -⟩ := h.of g
  unfold f_X0_findForgotten_J84
  repeat (first | ((with_reducible apply WP.ce); case h => (simp (disch := omega) only []; with_reducible rfl)) | ((with_reducible apply WP.bd); case h => (simp (disch := omega) only [e_gR, e_gI, e_aI, e_aL, e_oO, e_pI, e_wI, e_wL, Option.map_some, mS_sL, mR_sL, mI_sL, mS_sI, mR_sI, mL_sI, n_cl, cob_37 hC, cr_37_pilot hC, cr_37_work hC, cob_30 hC]; with_reducible rfl)) | rw [nm_eq] | rw [ckZ_n1] | rw [ckZ_n0])
  refine WP.cw (c_goOn1 hC hT hk QOk39 (ci_work hC) hS hs hr (n := n) (by omega) (by omega)) (fun _ M1 c => ?_)
  have g1 := g.tr (c.1.AG (by omega))
  obtain ⟨⟨hC1, hT1, -⟩, -⟩ := h.of g1
  have e37 : mI M1 37 = mI M 37 := c.1.2.2.1 37 (by omega) (by omega) (by omega) (by omega) (by omega) (by omega)
  have hA1 : mI M1 37 0 = A := by rw [e37]; exact hA
  have hF1 : mI M1 37 1 = F := by rw [e37]; exact hF
  have a1 := c_earned (ci_told hC1) hT1 hk (ci_work hC1) c.2 (tides_ok hs n (by omega))
  repeat (first | ((with_reducible apply WP.ce); case h => (simp (disch := omega) only [a1]; with_reducible rfl)) | ((with_reducible apply WP.bd); case h => (simp (disch := omega) only [e_gR, e_gI, e_aI, e_aL, e_oO, e_pI, e_wI, e_wL, Option.map_some, mS_sL, mR_sL, mI_sL, mS_sI, mR_sI, mL_sI, n_cl, cob_37 hC1, cr_37_told hC1, cr_37_work hC1, told_o (ci_told hC1), hA1]; with_reducible rfl)) | rw [nm_eq] | rw [ckZ_n1] | rw [ckZ_n0])
  unfold f_X0_findForgotten_J130
  by_cases hc : nI (ernA T (tides T r S n)) ≤ A
  · refine WP.it hc ?_
    exact k M1 g1 (by rw [if_pos hc]; exact hA1) (by rw [if_pos hc]; exact hF1)
  · refine WP.ie hc ?_
    repeat (first | ((with_reducible apply WP.ce); case h => (simp (disch := omega) only []; with_reducible rfl)) | ((with_reducible apply WP.bd); case h => (simp (disch := omega) only [e_gR, e_gI, e_aI, e_aL, e_oO, e_pI, e_wI, e_wL, Option.map_some, mS_sL, mR_sL, mI_sL, mS_sI, mR_sI, mL_sI, n_cl, cob_37 hC1]; with_reducible rfl)) | rw [nm_eq] | rw [ckZ_n1] | rw [ckZ_n0])
    refine k _ (g1.tr ((AFw M1 (by omega) _ _).tr (AFw _ (by omega) _ _))) ?_ ?_
    · rw [if_neg hc, mI_sI, if_neg (by omega), mI_sI, if_pos ⟨rfl, rfl⟩]
    · rw [if_neg hc, mI_sI, if_pos ⟨rfl, rfl⟩]
theorem c_forL {M0 : Mem} {T : TD} {S : SC} {r : Option RD} (h : CA M0 T S r) {n : Nat} (hn : n ≤ 60) : ∀ d j f (M : Mem) (st : Option Nat × Nat), j + d = tJ T → AG M0 M → mI M 37 0 = nI st.2 → mI M 37 1 = eP st.1 → st.2 ≤ 500 →
    WP (f_X0_findForgotten_L27 37 (f + d + 1) (nI n) (nI (mem T S)) (nI j) M) (fun _ M' => AG M0 M' ∧ mI M' 37 0 = nI (fgt T r S n st j d).2 ∧ mI M' 37 1 = eP (fgt T r S n st j d).1) := by
  intro d
  induction d with
  | zero =>
    intro j f M st hj g hA hF h5
    obtain ⟨⟨hC, hT, hS, hr⟩, hk, hs, h9⟩ := h.of g
    have h1 := hk.1.2.2.1
    rw [f_X0_findForgotten_L27]
    repeat (first | ((with_reducible apply WP.ce); case h => (simp (disch := omega) only []; with_reducible rfl)) | ((with_reducible apply WP.bd); case h => (simp (disch := omega) only [e_gR, e_gI, e_aI, e_aL, e_oO, e_pI, e_wI, e_wL, Option.map_some, mS_sL, mR_sL, mI_sL, mS_sI, mR_sI, mL_sI, n_cl, cob_37 hC, cr_37_told hC, told_o (ci_told hC), hT.1.2.2.2.1]; with_reducible rfl)) | rw [nm_eq] | rw [ckZ_n1] | rw [ckZ_n0])
    exact WP.it (by rw [n_le (by omega) (by omega)]; omega) (WP.ret ⟨g, hA, hF⟩)
  | succ d ih =>
    intro j f M st hj g hA hF h5
    obtain ⟨⟨hC, hT, hS, hr⟩, hk, hs, h9⟩ := h.of g
    have h1 := hk.1.2.2.1
    have hml := mem_lt hk S
    rw [show f + (d + 1) + 1 = (f + d + 1) + 1 from by omega, f_X0_findForgotten_L27]
    repeat (first | ((with_reducible apply WP.ce); case h => (simp (disch := omega) only []; with_reducible rfl)) | ((with_reducible apply WP.bd); case h => (simp (disch := omega) only [e_gR, e_gI, e_aI, e_aL, e_oO, e_pI, e_wI, e_wL, Option.map_some, mS_sL, mR_sL, mI_sL, mS_sI, mR_sI, mL_sI, n_cl, cob_37 hC, cr_37_told hC, told_o (ci_told hC), hT.1.2.2.2.1]; with_reducible rfl)) | rw [nm_eq] | rw [ckZ_n1] | rw [ckZ_n0])
    refine WP.ie (by rw [n_le (by omega) (by omega)]; omega) ?_
    refine WP.ie (by rw [nI_m1 (by omega)]; exact fun h => h) ?_
    rw [n_bit (by omega) (by omega), mem_bit (by omega), fgt]
    cases hr2 : rem T S j with
    | false =>
      refine WP.it (by decide) ?_
      unfold f_X0_findForgotten_J130
      rw [n_add]
      exact ih (j + 1) f M st (by omega) g hA hF h5
    | true =>
      refine WP.ie (by decide) ?_
      unfold f_X0_findForgotten_J54
      repeat (first | ((with_reducible apply WP.ce); case h => (simp (disch := omega) only []; with_reducible rfl)) | ((with_reducible apply WP.bd); case h => (simp (disch := omega) only [e_gR, e_gI, e_aI, e_aL, e_oO, e_pI, e_wI, e_wL, Option.map_some, mS_sL, mR_sL, mI_sL, mS_sI, mR_sI, mL_sI, n_cl, cob_37 hC, cr_37_work hC, cr_37_book hC, book_o (ci_book hC), book_r_scene (ci_book hC), scene_o (ci_work hC), Nat.reduceAdd]; with_reducible rfl)) | rw [nm_eq] | rw [ckZ_n1] | rw [ckZ_n0])
      refine WP.cw (c_copy hk (ci_scene hC) (ci_work hC) (by omega) hS) (fun _ M1 c => ?_)
      have g1 := g.tr (c.1.AG (by omega))
      obtain ⟨⟨hC1, -⟩, -⟩ := h.of g1
      refine WP.ie (by rw [nI_m1 (by omega)]; exact fun h => h) ?_
      repeat (first | ((with_reducible apply WP.ce); case h => (simp (disch := omega) only []; with_reducible rfl)) | ((with_reducible apply WP.bd); case h => (simp (disch := omega) only [e_gR, e_gI, e_aI, e_aL, e_oO, e_pI, e_wI, e_wL, Option.map_some, mS_sL, mR_sL, mI_sL, mS_sI, mR_sI, mL_sI, n_cl, cob_37 hC1, cr_37_work hC1, scene_o (ci_work hC1), scene_r_heard (ci_work hC1), scene_x_heard (ci_work hC1), Nat.reduceAdd]; with_reducible rfl)) | rw [nm_eq] | rw [ckZ_n1] | rw [ckZ_n0])
      have e37 : mI (sI M1 (39 + 1) j (-100000)) 37 = mI M 37 := by rw [sI_row (by omega)]; exact c.1.2.2.1 37 (by omega) (by omega) (by omega) (by omega)
      have he := ernA_le hk (tides T r (dulS S j) n)
      refine c_forJ84 h (g1.tr (AFw M1 (by omega) _ _)) (dulS_ok hs j) (CC_dul c.2 j) (by omega) h9 (A := nI st.2) (F := eP st.1) (by rw [e37]; exact hA) (by rw [e37]; exact hF) (fun M2 g2 hA2 hF2 => ?_)
      rw [n_add]
      simp only [if_true]
      by_cases hc : st.2 < ernA T (tides T r (dulS S j) n)
      · have hc2 : ¬ nI (ernA T (tides T r (dulS S j) n)) ≤ nI st.2 := by rw [n_le (by omega) (by omega)]; omega
        rw [if_neg hc2] at hA2 hF2
        rw [if_pos hc]
        exact ih (j + 1) f M2 (some j, ernA T (tides T r (dulS S j) n)) (by omega) g2 hA2 hF2 he
      · have hc2 : nI (ernA T (tides T r (dulS S j) n)) ≤ nI st.2 := by rw [n_le (by omega) (by omega)]; omega
        rw [if_pos hc2] at hA2 hF2
        rw [if_neg hc]
        exact ih (j + 1) f M2 st (by omega) g2 hA2 hF2 h5
theorem c_findForgotten {M : Mem} {T : TD} {S : SC} {r : Option RD} (h : CA M T S r) {n : Nat} (hn : n ≤ 60) : WP (f_X0_findForgotten 37 (nI n) M) (fun _ M' => AG M M' ∧ mI M' 37 0 = nI (fgt T r S n (none, ernA T (tides T r S n)) 0 (tJ T)).2 ∧ mI M' 37 1 = eP (fgt T r S n (none, ernA T (tides T r S n)) 0 (tJ T)).1) := by
  have h0 := h
  obtain ⟨⟨hC, hT, hS, hr⟩, hk, hs, h9⟩ := h
  have h1 := hk.1.2.2.1
  have he := ernA_le hk (tides T r S n)
  obtain ⟨M1, hM1⟩ : ∃ M1, M1 = sI (sI M 37 1 (-1)) 37 0 (-1) := ⟨_, rfl⟩
  have g1 : AG M M1 := by rw [hM1]; exact (AFw M (by omega) _ _).tr (AFw _ (by omega) _ _)
  obtain ⟨⟨hC1, hT1, hS1, hr1⟩, -⟩ := h0.of g1
  have a1 := c_remembered (ci_told hC) hT hk (ci_scene hC) hS hs
  unfold f_X0_findForgotten
  repeat (first | ((with_reducible apply WP.ce); case h => (simp (disch := omega) only [a1]; with_reducible rfl)) | ((with_reducible apply WP.bd); case h => (simp (disch := omega) only [e_gR, e_gI, e_aI, e_aL, e_oO, e_pI, e_wI, e_wL, Option.map_some, mS_sL, mR_sL, mI_sL, mS_sI, mR_sI, mL_sI, n_cl, cob_37 hC, cr_37_told hC, cr_37_book hC, book_o (ci_book hC), book_r_scene (ci_book hC), told_o (ci_told hC), Nat.reduceAdd, ← hM1]; with_reducible rfl)) | rw [nm_eq] | rw [ckZ_n1] | rw [ckZ_n0])
  obtain ⟨f, hf⟩ := FUd (tJ T + 1) (by omega)
  rw [hf, show f + (tJ T + 1) + 1 = (f + tJ T + 1) + 1 by omega, f_X0_findForgotten_L27]
  repeat (first | ((with_reducible apply WP.ce); case h => (simp (disch := omega) only []; with_reducible rfl)) | ((with_reducible apply WP.bd); case h => (simp (disch := omega) only [e_gR, e_gI, e_aI, e_aL, e_oO, e_pI, e_wI, e_wL, Option.map_some, mS_sL, mR_sL, mI_sL, mS_sI, mR_sI, mL_sI, n_cl, cob_37 hC1, cr_37_told hC1, told_o (ci_told hC1), hT1.1.2.2.2.1]; with_reducible rfl)) | rw [nm_eq] | rw [ckZ_n1] | rw [ckZ_n0])
  refine WP.ie (nle_m1 (by omega)) ?_
  refine WP.it (show (-1 : Int32) = -1 from rfl) ?_
  unfold f_X0_findForgotten_J54
  repeat (first | ((with_reducible apply WP.ce); case h => (simp (disch := omega) only []; with_reducible rfl)) | ((with_reducible apply WP.bd); case h => (simp (disch := omega) only [e_gR, e_gI, e_aI, e_aL, e_oO, e_pI, e_wI, e_wL, Option.map_some, mS_sL, mR_sL, mI_sL, mS_sI, mR_sI, mL_sI, n_cl, cob_37 hC1, cr_37_work hC1, cr_37_book hC1, book_o (ci_book hC1), book_r_scene (ci_book hC1), scene_o (ci_work hC1), Nat.reduceAdd]; with_reducible rfl)) | rw [nm_eq] | rw [ckZ_n1] | rw [ckZ_n0])
  refine WP.cw (c_copy hk (ci_scene hC1) (ci_work hC1) (by omega) hS1) (fun _ M2 c => ?_)
  refine WP.it (show (-1 : Int32) = -1 from rfl) ?_
  have e37 : mI M2 37 = mI M1 37 := c.1.2.2.1 37 (by omega) (by omega) (by omega) (by omega)
  refine c_forJ84 h0 (g1.tr (c.1.AG (by omega))) hs c.2 (n := n) (by omega) h9 (A := -1) (F := -1) (by rw [e37, hM1, mI_sI, if_pos ⟨rfl, rfl⟩]) (by rw [e37, hM1, mI_sI, if_neg (by omega), mI_sI, if_pos ⟨rfl, rfl⟩]) (fun M3 g3 hA3 hF3 => ?_)
  rw [if_neg (nle_m1 (by omega))] at hA3 hF3
  rw [show (-1 : Int32) + nI 1 = nI 0 by decide]
  exact c_forL h0 hn (tJ T) 0 f M3 (none, ernA T (tides T r S n)) (by omega) g3 hA3 hF3 he
theorem y_forget {M : Mem} {T : TD} {S : SC} {c : Nat} {W : Nat → RD} {fo : Option Nat} (h : CE M T S c W fo) (n what : Int32) : WP (f_X9_forget 0 n what M) (fun v M' => v = q_forget T (fo.map W) S n what ∧ AF M M') := by
  have h0 := h
  obtain ⟨⟨hC, hT, hS, hw, hf⟩, hk, hs, h9, hfo⟩ := h
  unfold f_X9_forget f_X9_forget_J32 f_X9_forget_J64
  repeat (first | ((with_reducible apply WP.ce); case h => (simp (disch := omega) only []; with_reducible rfl)) | ((with_reducible apply WP.bd); case h => (simp (disch := omega) only [e_gR, e_gI, e_aI, e_aL, e_oO, e_pI, e_wI, e_wL, Option.map_some, mS_sL, mR_sL, mI_sL, mS_sI, mR_sI, mL_sI, n_cl, cob_0 hC, cr_0_book hC, book_o (ci_book hC), book_r_told (ci_book hC), told_o (ci_told hC), Nat.reduceAdd, c_there hT]; with_reducible rfl)) | rw [nm_eq] | rw [ckZ_n1] | rw [ckZ_n0])
  refine WP.gd (fun g1 => WP.ret ⟨by unfold q_forget; rw [g1]; rfl, AF.rf M⟩) (fun g1 => ?_)
  repeat (first | ((with_reducible apply WP.ce); case h => (simp (disch := omega) only [c_isWithin]; with_reducible rfl)) | ((with_reducible apply WP.bd); case h => (simp (disch := omega) only [e_gR, e_gI, e_aI, e_aL, e_oO, e_pI, e_wI, e_wL, Option.map_some, mS_sL, mR_sL, mI_sL, mS_sI, mR_sI, mL_sI, n_cl, cob_0 hC]; with_reducible rfl)) | rw [nm_eq] | rw [ckZ_n1] | rw [ckZ_n0])
  refine WP.gd (fun g2 => WP.ret ⟨by unfold q_forget; rw [g1, show inR n 1 60 = false from g2]; rfl, AF.rf M⟩) (fun g2 => ?_)
  repeat (first | ((with_reducible apply WP.ce); case h => (simp (disch := omega) only [c_isWithin]; with_reducible rfl)) | ((with_reducible apply WP.bd); case h => (simp (disch := omega) only [e_gR, e_gI, e_aI, e_aL, e_oO, e_pI, e_wI, e_wL, Option.map_some, mS_sL, mR_sL, mI_sL, mS_sI, mR_sI, mL_sI, n_cl, cob_0 hC]; with_reducible rfl)) | rw [nm_eq] | rw [ckZ_n1] | rw [ckZ_n0])
  refine WP.gd (fun g3 => WP.ret ⟨by unfold q_forget; rw [g1, show inR n 1 60 = true from g2, show inR what 0 1 = false from g3]; rfl, AF.rf M⟩) (fun g3 => ?_)
  have g2' : inR n 1 60 = true := g2
  obtain ⟨k, rfl, k1, k2, k3⟩ := inR_t g2' (by decide)
  have q : q_forget T (fo.map W) S (nI k) what = (if what = 0 then eP (fgt T (fo.map W) S k (none, ernA T (tides T (fo.map W) S k)) 0 (tJ T)).1 else nI (fgt T (fo.map W) S k (none, ernA T (tides T (fo.map W) S k)) 0 (tJ T)).2) := by
    unfold q_forget
    rw [g1, g2', show inR what 0 1 = true from g3, n_cl k3]
    rfl
  rw [q]
  repeat (first | ((with_reducible apply WP.ce); case h => (simp (disch := omega) only []; with_reducible rfl)) | ((with_reducible apply WP.bd); case h => (simp (disch := omega) only [e_gR, e_gI, e_aI, e_aL, e_oO, e_pI, e_wI, e_wL, Option.map_some, mS_sL, mR_sL, mI_sL, mS_sI, mR_sI, mL_sI, n_cl, cob_0 hC]; with_reducible rfl)) | rw [nm_eq] | rw [ckZ_n1] | rw [ckZ_n0])
  refine WP.cw (c_asking h0) (fun v M1 c1 => ?_)
  obtain ⟨rfl, a1, a2⟩ := c1
  have hC1 := a2.1.1
  repeat (first | ((with_reducible apply WP.ce); case h => (simp (disch := omega) only []; with_reducible rfl)) | ((with_reducible apply WP.bd); case h => (simp (disch := omega) only [e_gR, e_gI, e_aI, e_aL, e_oO, e_pI, e_wI, e_wL, Option.map_some, mS_sL, mR_sL, mI_sL, mS_sI, mR_sI, mL_sI, n_cl, cob_37 hC1]; with_reducible rfl)) | rw [nm_eq] | rw [ckZ_n1] | rw [ckZ_n0])
  refine WP.cw (c_findForgotten a2 (n := k) (by omega)) (fun v M2 c2 => ?_)
  obtain ⟨b1, b2, b3⟩ := c2
  obtain ⟨⟨hC2, -⟩, -⟩ := a2.of b1
  have fr := a1.tr b1.1
  by_cases w0 : what = 0
  · refine WP.it w0 ?_
    repeat (first | ((with_reducible apply WP.ce); case h => (simp (disch := omega) only []; with_reducible rfl)) | ((with_reducible apply WP.bd); case h => (simp (disch := omega) only [e_gR, e_gI, e_aI, e_aL, e_oO, e_pI, e_wI, e_wL, Option.map_some, mS_sL, mR_sL, mI_sL, mS_sI, mR_sI, mL_sI, n_cl, cob_0 hC2, cr_0_asker hC2, cob_37 hC2, b3]; with_reducible rfl)) | rw [nm_eq] | rw [ckZ_n1] | rw [ckZ_n0])
    exact WP.ret ⟨by rw [if_pos w0], fr⟩
  · refine WP.ie w0 ?_
    repeat (first | ((with_reducible apply WP.ce); case h => (simp (disch := omega) only []; with_reducible rfl)) | ((with_reducible apply WP.bd); case h => (simp (disch := omega) only [e_gR, e_gI, e_aI, e_aL, e_oO, e_pI, e_wI, e_wL, Option.map_some, mS_sL, mR_sL, mI_sL, mS_sI, mR_sI, mL_sI, n_cl, cob_0 hC2, cr_0_asker hC2, cob_37 hC2, b2]; with_reducible rfl)) | rw [nm_eq] | rw [ckZ_n1] | rw [ckZ_n0])
    exact WP.ret ⟨by rw [if_neg w0], fr⟩
/-! barter -/
theorem c_share {M : Mem} {q : Nat} {T : TD} {S : SC} (hk : TOk T) (hJ : IScene (mS M) (mR M) q) (hS : CC M q T S) {a b : Nat} (ha : a < tN T) (hb : b < tN T) : f_X6_share q (nI a) (nI b) M = some (nI (sW S a ||| sW S b), sI (sI M (q + 2) a (nI (sW S a ||| sW S b))) (q + 2) b (nI (sW S a ||| sW S b))) := by
  have h2 := hk.1.2.2.2
  have e1 := (hS.2.2 a ha).1
  have e2 := (hS.2.2 b hb).1
  unfold f_X6_share
  repeat (first | refine (cl_ok (by (simp only [hk]; with_reducible rfl)) _).trans ?_ | refine (bind_ok (by (simp (disch := omega) only [e_gR, e_gI, e_aI, e_aL, e_oO, e_pI, e_wI, e_wL, Option.map_some, mS_sL, mR_sL, mI_sL, mS_sI, mR_sI, mL_sI, n_cl, scene_o hJ, scene_r_knows hJ, scene_x_knows hJ, e1, e2, n_or]; with_reducible rfl)) _).trans ?_ | rw [nm_eq])
  rw [n_or]
theorem CC_shr {M : Mem} {q : Nat} {T : TD} {S : SC} (hS : CC M q T S) (a b : Nat) : CC (sI (sI M (q + 2) a (nI (sW S a ||| sW S b))) (q + 2) b (nI (sW S a ||| sW S b))) q T (shrS S a b) := by
  refine ⟨by rw [sI_row (by omega), sI_row (by omega)]; exact hS.1, fun k hk => by rw [sI_row (by omega), sI_row (by omega)]; exact hS.2.1 k hk, fun k hk => ⟨?_, by rw [sI_row (by omega), sI_row (by omega)]; exact (hS.2.2 k hk).2⟩⟩
  show _ = nI (if k = a ∨ k = b then sW S a ||| sW S b else sW S k)
  rw [mI_sI, mI_sI]
  by_cases hb : k = b
  · rw [if_pos ⟨rfl, hb⟩, if_pos (Or.inr hb)]
  · rw [if_neg (by omega)]
    by_cases ha : k = a
    · rw [if_pos ⟨rfl, ha⟩, if_pos (Or.inl ha)]
    · rw [if_neg (by omega), if_neg (by omega)]; exact (hS.2.2 k hk).1
def BTm (M : Mem) (st : Option (Nat × Nat) × Nat) : Prop := mI M 37 0 = nI st.2 ∧ mI M 37 1 = bt1 st ∧ mI M 37 2 = bt2 st
theorem c_trI {M0 : Mem} {T : TD} {S : SC} {r : Option RD} (h : CA M0 T S r) {n : Nat} (hn : n ≤ 60) {a : Nat} (ha : a < tN T) {k43 : Int32 → Int32 → Int32 → Mem → Option (Unit × Mem)} {Q : Unit → Mem → Prop} :
    ∀ d b f (M : Mem) (st : Option (Nat × Nat) × Nat), b + d = tN T → a < b → AG M0 M → BTm M st → st.2 ≤ 500 →
    (∀ M', AG M0 M' → BTm M' (btI T r S n a st b d) → (btI T r S n a st b d).2 ≤ 500 → WP (k43 (nI n) (nI (wtm T S)) (nI (a + 1)) M') Q) →
    WP (f_X0_findTraders_L59 k43 37 (f + d + 1) (nI n) (nI (wtm T S)) (nI a) (nI b) M) Q := by
  intro d
  induction d with
  | zero =>
    intro b f M st hj hab g hB h5 K
    obtain ⟨⟨hC, hT, hS, hr⟩, hk, hs, h9⟩ := h.of g
    have h2 := hk.1.2.2.2
    rw [f_X0_findTraders_L59]
    repeat (first | ((with_reducible apply WP.ce); case h => (simp (disch := omega) only []; with_reducible rfl)) | ((with_reducible apply WP.bd); case h => (simp (disch := omega) only [e_gR, e_gI, e_aI, e_aL, e_oO, e_pI, e_wI, e_wL, Option.map_some, mS_sL, mR_sL, mI_sL, mS_sI, mR_sI, mL_sI, n_cl, cob_37 hC, cr_37_told hC, told_o (ci_told hC), hT.1.2.2.2.2]; with_reducible rfl)) | rw [nm_eq] | rw [ckZ_n1] | rw [ckZ_n0])
    refine WP.it (by rw [n_le (by omega) (by omega)]; omega) ?_
    rw [n_add]
    exact K M g hB h5
  | succ d ih =>
    intro b f M st hj hab g hB h5 K
    obtain ⟨⟨hC, hT, hS, hr⟩, hk, hs, h9⟩ := h.of g
    have h2 := hk.1.2.2.2
    have hwl := wtm_lt hk S
    rw [show f + (d + 1) + 1 = (f + d + 1) + 1 from by omega, f_X0_findTraders_L59]
    repeat (first | ((with_reducible apply WP.ce); case h => (simp (disch := omega) only []; with_reducible rfl)) | ((with_reducible apply WP.bd); case h => (simp (disch := omega) only [e_gR, e_gI, e_aI, e_aL, e_oO, e_pI, e_wI, e_wL, Option.map_some, mS_sL, mR_sL, mI_sL, mS_sI, mR_sI, mL_sI, n_cl, cob_37 hC, cr_37_told hC, told_o (ci_told hC), hT.1.2.2.2.2]; with_reducible rfl)) | rw [nm_eq] | rw [ckZ_n1] | rw [ckZ_n0])
    refine WP.ie (by rw [n_le (by omega) (by omega)]; omega) ?_
    rw [n_bits2 (by omega) (by omega) (by omega) (by omega), wtm_bit (by omega), wtm_bit (by omega)]
    rw [btI] at K
    unfold f_X0_findTraders_J164
    rw [n_add]
    cases hw : (wts S a && wts S b) with
    | false =>
      refine WP.it (by decide) ?_
      have e : btS T r S n a b st = st := by unfold btS; rw [hw]; rfl
      rw [e] at K
      exact ih (b + 1) f M st (by omega) (by omega) g hB h5 K
    | true =>
      refine WP.ie (by decide) ?_
      repeat (first | ((with_reducible apply WP.ce); case h => (simp (disch := omega) only []; with_reducible rfl)) | ((with_reducible apply WP.bd); case h => (simp (disch := omega) only [e_gR, e_gI, e_aI, e_aL, e_oO, e_pI, e_wI, e_wL, Option.map_some, mS_sL, mR_sL, mI_sL, mS_sI, mR_sI, mL_sI, n_cl, cob_37 hC, cr_37_work hC, cr_37_book hC, book_o (ci_book hC), book_r_scene (ci_book hC), scene_o (ci_work hC), Nat.reduceAdd]; with_reducible rfl)) | rw [nm_eq] | rw [ckZ_n1] | rw [ckZ_n0])
      refine WP.cw (c_copy hk (ci_scene hC) (ci_work hC) (by omega) hS) (fun _ M1 c => ?_)
      have g1 := g.tr (c.1.AG (by omega))
      obtain ⟨⟨hC1, -⟩, -⟩ := h.of g1
      have a1 := c_share hk (ci_work hC1) c.2 (a := a) (b := b) (by omega) (by omega)
      obtain ⟨M2, hM2⟩ : ∃ M2, M2 = sI (sI M1 (39 + 2) a (nI (sW S a ||| sW S b))) (39 + 2) b (nI (sW S a ||| sW S b)) := ⟨_, rfl⟩
      have hS2 : CC M2 39 T (shrS S a b) := by rw [hM2]; exact CC_shr c.2 a b
      have g2 : AG M0 M2 := g1.tr (by rw [hM2]; exact (AFw M1 (by omega) _ _).tr (AFw _ (by omega) _ _))
      obtain ⟨⟨hC2, hT2, -, hr2⟩, -⟩ := h.of g2
      rw [← hM2] at a1
      repeat (first | ((with_reducible apply WP.ce); case h => (simp (disch := omega) only [a1]; with_reducible rfl)) | ((with_reducible apply WP.bd); case h => (simp (disch := omega) only [e_gR, e_gI, e_aI, e_aL, e_oO, e_pI, e_wI, e_wL, Option.map_some, mS_sL, mR_sL, mI_sL, mS_sI, mR_sI, mL_sI, n_cl, cob_37 hC1, cr_37_work hC1, scene_o (ci_work hC1)]; with_reducible rfl)) | rw [nm_eq] | rw [ckZ_n1] | rw [ckZ_n0])
      repeat (first | ((with_reducible apply WP.ce); case h => (simp (disch := omega) only []; with_reducible rfl)) | ((with_reducible apply WP.bd); case h => (simp (disch := omega) only [e_gR, e_gI, e_aI, e_aL, e_oO, e_pI, e_wI, e_wL, Option.map_some, mS_sL, mR_sL, mI_sL, mS_sI, mR_sI, mL_sI, n_cl, cob_37 hC2, cr_37_work hC2, cr_37_pilot hC2, cob_30 hC2]; with_reducible rfl)) | rw [nm_eq] | rw [ckZ_n1] | rw [ckZ_n0])
      refine WP.cw (c_goOn1 hC2 hT2 hk QOk39 (ci_work hC2) hS2 (shrS_ok hs a b) hr2 (n := n) (by omega) (by show sT S + n ≤ _; omega)) (fun _ M3 c3 => ?_)
      have g3 := g2.tr (c3.1.AG (by omega))
      obtain ⟨⟨hC3, hT3, -⟩, -⟩ := h.of g3
      have e37 : mI M3 37 = mI M 37 := by
        rw [c3.1.2.2.1 37 (by omega) (by omega) (by omega) (by omega) (by omega) (by omega), hM2, sI_row (by omega), sI_row (by omega)]
        exact c.1.2.2.1 37 (by omega) (by omega) (by omega) (by omega)
      have hB3 : BTm M3 st := by unfold BTm; rw [e37]; exact hB
      have he := ernA_le hk (tides T r (shrS S a b) n)
      have a3 := c_earned (ci_told hC3) hT3 hk (ci_work hC3) c3.2 (tides_ok (shrS_ok hs a b) n (by show sT S + n ≤ _; omega))
      have b3 := hB3.1
      repeat (first | ((with_reducible apply WP.ce); case h => (simp (disch := omega) only [a3]; with_reducible rfl)) | ((with_reducible apply WP.bd); case h => (simp (disch := omega) only [e_gR, e_gI, e_aI, e_aL, e_oO, e_pI, e_wI, e_wL, Option.map_some, mS_sL, mR_sL, mI_sL, mS_sI, mR_sI, mL_sI, n_cl, cob_37 hC3, cr_37_told hC3, cr_37_work hC3, told_o (ci_told hC3), b3]; with_reducible rfl)) | rw [nm_eq] | rw [ckZ_n1] | rw [ckZ_n0])
      by_cases c1 : st.2 < ernA T (tides T r (shrS S a b) n)
      · refine WP.ie (by rw [n_le (by omega) (by omega)]; omega) ?_
        have e : btS T r S n a b st = (some (a, b), ernA T (tides T r (shrS S a b) n)) := by unfold btS; rw [hw, if_pos c1]; rfl
        rw [e] at K
        repeat (first | ((with_reducible apply WP.ce); case h => (simp (disch := omega) only []; with_reducible rfl)) | ((with_reducible apply WP.bd); case h => (simp (disch := omega) only [e_gR, e_gI, e_aI, e_aL, e_oO, e_pI, e_wI, e_wL, Option.map_some, mS_sL, mR_sL, mI_sL, mS_sI, mR_sI, mL_sI, n_cl, cob_37 hC3]; with_reducible rfl)) | rw [nm_eq] | rw [ckZ_n1] | rw [ckZ_n0])
        refine ih (b + 1) f _ (some (a, b), ernA T (tides T r (shrS S a b) n)) (by omega) (by omega) (g3.tr (((AFw M3 (by omega) _ _).tr (AFw _ (by omega) _ _)).tr (AFw _ (by omega) _ _))) ⟨?_, ?_, ?_⟩ he K
        · rw [mI_sI, if_neg (by omega), mI_sI, if_neg (by omega), mI_sI, if_pos ⟨rfl, rfl⟩]
        · rw [mI_sI, if_neg (by omega), mI_sI, if_pos ⟨rfl, rfl⟩]; rfl
        · rw [mI_sI, if_pos ⟨rfl, rfl⟩]; rfl
      · refine WP.it (by rw [n_le (by omega) (by omega)]; omega) ?_
        have e : btS T r S n a b st = st := by unfold btS; rw [hw, if_neg c1]; rfl
        rw [e] at K
        exact ih (b + 1) f M3 st (by omega) (by omega) g3 hB3 h5 K
theorem c_trO {M0 : Mem} {T : TD} {S : SC} {r : Option RD} (h : CA M0 T S r) {n : Nat} (hn : n ≤ 60) :
    ∀ d a f (M : Mem) (st : Option (Nat × Nat) × Nat), a + d = tN T → AG M0 M → BTm M st → st.2 ≤ 500 → WP (f_X0_findTraders_L43 37 (f + d + 1) (nI n) (nI (wtm T S)) (nI a) M) (fun _ M' => AG M0 M' ∧ BTm M' (btO T r S n st a d)) := by
  intro d
  induction d with
  | zero =>
    intro a f M st hj g hB h5
    obtain ⟨⟨hC, hT, hS, hr⟩, hk, hs, h9⟩ := h.of g
    have h2 := hk.1.2.2.2
    rw [f_X0_findTraders_L43]
    repeat (first | ((with_reducible apply WP.ce); case h => (simp (disch := omega) only []; with_reducible rfl)) | ((with_reducible apply WP.bd); case h => (simp (disch := omega) only [e_gR, e_gI, e_aI, e_aL, e_oO, e_pI, e_wI, e_wL, Option.map_some, mS_sL, mR_sL, mI_sL, mS_sI, mR_sI, mL_sI, n_cl, cob_37 hC, cr_37_told hC, told_o (ci_told hC), hT.1.2.2.2.2]; with_reducible rfl)) | rw [nm_eq] | rw [ckZ_n1] | rw [ckZ_n0])
    exact WP.it (by rw [n_le (by omega) (by omega)]; omega) (WP.ret ⟨g, hB⟩)
  | succ d ih =>
    intro a f M st hj g hB h5
    obtain ⟨⟨hC, hT, hS, hr⟩, hk, hs, h9⟩ := h.of g
    have h2 := hk.1.2.2.2
    rw [show f + (d + 1) + 1 = (f + d + 1) + 1 from by omega, f_X0_findTraders_L43]
    repeat (first | ((with_reducible apply WP.ce); case h => (simp (disch := omega) only []; with_reducible rfl)) | ((with_reducible apply WP.bd); case h => (simp (disch := omega) only [e_gR, e_gI, e_aI, e_aL, e_oO, e_pI, e_wI, e_wL, Option.map_some, mS_sL, mR_sL, mI_sL, mS_sI, mR_sI, mL_sI, n_cl, cob_37 hC, cr_37_told hC, told_o (ci_told hC), hT.1.2.2.2.2]; with_reducible rfl)) | rw [nm_eq] | rw [ckZ_n1] | rw [ckZ_n0])
    refine WP.ie (by rw [n_le (by omega) (by omega)]; omega) ?_
    simp only [nm_eq, n_add]
    obtain ⟨f2, hf⟩ := FUd d (by omega)
    rw [hf, btO]
    exact c_trI h hn (by omega) d (a + 1) f2 M st (by omega) (by omega) g hB h5 (fun M' g' hB' h5' => ih (a + 1) f M' _ (by omega) g' hB' h5')
theorem c_findTraders {M : Mem} {T : TD} {S : SC} {r : Option RD} (h : CA M T S r) {n : Nat} (hn : n ≤ 60) : WP (f_X0_findTraders 37 (nI n) M) (fun _ M' => AG M M' ∧ BTm M' (q_bt T r S n)) := by
  have h0 := h
  obtain ⟨⟨hC, hT, hS, hr⟩, hk, hs, h9⟩ := h
  have h2 := hk.1.2.2.2
  have he := ernA_le hk (tides T r S n)
  obtain ⟨M1, hM1⟩ : ∃ M1, M1 = sI (sI M 37 1 (-1)) 37 2 (-1) := ⟨_, rfl⟩
  have g1 : AG M M1 := by rw [hM1]; exact (AFw M (by omega) _ _).tr (AFw _ (by omega) _ _)
  obtain ⟨⟨hC1, hT1, hS1, hr1⟩, -⟩ := h0.of g1
  have a1 := c_waiting (ci_told hC) hT hk (ci_scene hC) hS hs
  unfold f_X0_findTraders
  repeat (first | ((with_reducible apply WP.ce); case h => (simp (disch := omega) only [a1]; with_reducible rfl)) | ((with_reducible apply WP.bd); case h => (simp (disch := omega) only [e_gR, e_gI, e_aI, e_aL, e_oO, e_pI, e_wI, e_wL, Option.map_some, mS_sL, mR_sL, mI_sL, mS_sI, mR_sI, mL_sI, n_cl, cob_37 hC, cr_37_told hC, cr_37_book hC, book_o (ci_book hC), book_r_scene (ci_book hC), told_o (ci_told hC), Nat.reduceAdd, ← hM1]; with_reducible rfl)) | rw [nm_eq] | rw [ckZ_n1] | rw [ckZ_n0])
  repeat (first | ((with_reducible apply WP.ce); case h => (simp (disch := omega) only []; with_reducible rfl)) | ((with_reducible apply WP.bd); case h => (simp (disch := omega) only [e_gR, e_gI, e_aI, e_aL, e_oO, e_pI, e_wI, e_wL, Option.map_some, mS_sL, mR_sL, mI_sL, mS_sI, mR_sI, mL_sI, n_cl, cob_37 hC1, cr_37_told hC1]; with_reducible rfl)) | rw [nm_eq] | rw [ckZ_n1] | rw [ckZ_n0])
  -- what is earned as it is
  have e37 : ∀ M2, AG M1 M2 → True := fun _ _ => trivial
  refine WP.cw (P := fun v M2 => v = some 39 ∧ (AG M1 M2 ∧ mI M2 37 = mI M1 37) ∧ CC M2 39 T (tides T r S n)) ?_ (fun v M2 c => ?_)
  · unfold f_X0_later
    repeat (first | ((with_reducible apply WP.ce); case h => (simp (disch := omega) only []; with_reducible rfl)) | ((with_reducible apply WP.bd); case h => (simp (disch := omega) only [e_gR, e_gI, e_aI, e_aL, e_oO, e_pI, e_wI, e_wL, Option.map_some, mS_sL, mR_sL, mI_sL, mS_sI, mR_sI, mL_sI, n_cl, cob_37 hC1, cr_37_work hC1, cr_37_book hC1, book_o (ci_book hC1), book_r_scene (ci_book hC1), scene_o (ci_work hC1), Nat.reduceAdd]; with_reducible rfl)) | rw [nm_eq] | rw [ckZ_n1] | rw [ckZ_n0])
    refine WP.cw (c_copy hk (ci_scene hC1) (ci_work hC1) (by omega) hS1) (fun _ M2 c => ?_)
    have g2 := c.1.AG (by omega)
    obtain ⟨⟨hC2, hT2, hS2, hr2⟩, -⟩ := h0.of (g1.tr g2)
    repeat (first | ((with_reducible apply WP.ce); case h => (simp (disch := omega) only []; with_reducible rfl)) | ((with_reducible apply WP.bd); case h => (simp (disch := omega) only [e_gR, e_gI, e_aI, e_aL, e_oO, e_pI, e_wI, e_wL, Option.map_some, mS_sL, mR_sL, mI_sL, mS_sI, mR_sI, mL_sI, n_cl, cob_37 hC2, cr_37_work hC2, cr_37_pilot hC2, cob_30 hC2]; with_reducible rfl)) | rw [nm_eq] | rw [ckZ_n1] | rw [ckZ_n0])
    refine WP.cw (c_goOn1 hC2 hT2 hk QOk39 (ci_work hC2) c.2 hs hr2 (n := n) (by omega) (by omega)) (fun _ M3 d => ?_)
    have g3 := g2.tr (d.1.AG (by omega))
    obtain ⟨⟨hC3, -⟩, -⟩ := h0.of (g1.tr g3)
    repeat (first | ((with_reducible apply WP.ce); case h => (simp (disch := omega) only []; with_reducible rfl)) | ((with_reducible apply WP.bd); case h => (simp (disch := omega) only [e_gR, e_gI, e_aI, e_aL, e_oO, e_pI, e_wI, e_wL, Option.map_some, mS_sL, mR_sL, mI_sL, mS_sI, mR_sI, mL_sI, n_cl, cob_37 hC3, cr_37_work hC3]; with_reducible rfl)) | rw [nm_eq] | rw [ckZ_n1] | rw [ckZ_n0])
    refine WP.ret ⟨rfl, ⟨g3, ?_⟩, d.2⟩
    rw [d.1.2.2.1 37 (by omega) (by omega) (by omega) (by omega) (by omega) (by omega)]
    exact c.1.2.2.1 37 (by omega) (by omega) (by omega) (by omega)
  obtain ⟨rfl, ⟨c1, c2⟩, c3⟩ := c
  have g2 := g1.tr c1
  obtain ⟨⟨hC2, hT2, hS2, hr2⟩, -⟩ := h0.of g2
  have a2 := c_earned (ci_told hC2) hT2 hk (ci_work hC2) c3 (tides_ok hs n (by omega))
  repeat (first | ((with_reducible apply WP.ce); case h => (simp (disch := omega) only [a2]; with_reducible rfl)) | ((with_reducible apply WP.bd); case h => (simp (disch := omega) only [e_gR, e_gI, e_aI, e_aL, e_oO, e_pI, e_wI, e_wL, Option.map_some, mS_sL, mR_sL, mI_sL, mS_sI, mR_sI, mL_sI, n_cl, cob_37 hC2, told_o (ci_told hC2)]; with_reducible rfl)) | rw [nm_eq] | rw [ckZ_n1] | rw [ckZ_n0])
  obtain ⟨f, hf⟩ := FUd (tN T) (by omega)
  rw [hf]
  refine c_trO h0 hn (tN T) 0 f _ (none, ernA T (tides T r S n)) (by omega) (g2.tr (AFw M2 (by omega) _ _)) ⟨?_, ?_, ?_⟩ he
  · rw [mI_sI, if_pos ⟨rfl, rfl⟩]
  · rw [mI_sI, if_neg (by omega), c2, hM1, mI_sI, if_neg (by omega), mI_sI, if_pos ⟨rfl, rfl⟩]; rfl
  · rw [mI_sI, if_neg (by omega), c2, hM1, mI_sI, if_pos ⟨rfl, rfl⟩]; rfl
theorem y_barter {M : Mem} {T : TD} {S : SC} {c : Nat} {W : Nat → RD} {fo : Option Nat} (h : CE M T S c W fo) (n what : Int32) : WP (f_X9_barter 0 n what M) (fun v M' => v = q_barter T (fo.map W) S n what ∧ AF M M') := by
  have h0 := h
  obtain ⟨⟨hC, hT, hS, hw, hf⟩, hk, hs, h9, hfo⟩ := h
  unfold f_X9_barter f_X9_barter_J32 f_X9_barter_J77
  repeat (first | ((with_reducible apply WP.ce); case h => (simp (disch := omega) only []; with_reducible rfl)) | ((with_reducible apply WP.bd); case h => (simp (disch := omega) only [e_gR, e_gI, e_aI, e_aL, e_oO, e_pI, e_wI, e_wL, Option.map_some, mS_sL, mR_sL, mI_sL, mS_sI, mR_sI, mL_sI, n_cl, cob_0 hC, cr_0_book hC, book_o (ci_book hC), book_r_told (ci_book hC), told_o (ci_told hC), Nat.reduceAdd, c_there hT]; with_reducible rfl)) | rw [nm_eq] | rw [ckZ_n1] | rw [ckZ_n0])
  refine WP.gd (fun g1 => WP.ret ⟨by unfold q_barter; rw [g1]; rfl, AF.rf M⟩) (fun g1 => ?_)
  repeat (first | ((with_reducible apply WP.ce); case h => (simp (disch := omega) only [c_isWithin]; with_reducible rfl)) | ((with_reducible apply WP.bd); case h => (simp (disch := omega) only [e_gR, e_gI, e_aI, e_aL, e_oO, e_pI, e_wI, e_wL, Option.map_some, mS_sL, mR_sL, mI_sL, mS_sI, mR_sI, mL_sI, n_cl, cob_0 hC]; with_reducible rfl)) | rw [nm_eq] | rw [ckZ_n1] | rw [ckZ_n0])
  refine WP.gd (fun g2 => WP.ret ⟨by unfold q_barter; rw [g1, show inR n 1 60 = false from g2]; rfl, AF.rf M⟩) (fun g2 => ?_)
  repeat (first | ((with_reducible apply WP.ce); case h => (simp (disch := omega) only [c_isWithin]; with_reducible rfl)) | ((with_reducible apply WP.bd); case h => (simp (disch := omega) only [e_gR, e_gI, e_aI, e_aL, e_oO, e_pI, e_wI, e_wL, Option.map_some, mS_sL, mR_sL, mI_sL, mS_sI, mR_sI, mL_sI, n_cl, cob_0 hC]; with_reducible rfl)) | rw [nm_eq] | rw [ckZ_n1] | rw [ckZ_n0])
  refine WP.gd (fun g3 => WP.ret ⟨by unfold q_barter; rw [g1, show inR n 1 60 = true from g2, show inR what 0 2 = false from g3]; rfl, AF.rf M⟩) (fun g3 => ?_)
  have g2' : inR n 1 60 = true := g2
  have g3' : inR what 0 2 = true := g3
  obtain ⟨k, rfl, k1, k2, k3⟩ := inR_t g2' (by decide)
  have q : q_barter T (fo.map W) S (nI k) what = btA what (q_bt T (fo.map W) S k) := by
    unfold q_barter
    rw [g1, g2', g3', n_cl k3]
    rfl
  rw [q]
  repeat (first | ((with_reducible apply WP.ce); case h => (simp (disch := omega) only []; with_reducible rfl)) | ((with_reducible apply WP.bd); case h => (simp (disch := omega) only [e_gR, e_gI, e_aI, e_aL, e_oO, e_pI, e_wI, e_wL, Option.map_some, mS_sL, mR_sL, mI_sL, mS_sI, mR_sI, mL_sI, n_cl, cob_0 hC]; with_reducible rfl)) | rw [nm_eq] | rw [ckZ_n1] | rw [ckZ_n0])
  refine WP.cw (c_asking h0) (fun v M1 c1 => ?_)
  obtain ⟨rfl, a1, a2⟩ := c1
  have hC1 := a2.1.1
  repeat (first | ((with_reducible apply WP.ce); case h => (simp (disch := omega) only []; with_reducible rfl)) | ((with_reducible apply WP.bd); case h => (simp (disch := omega) only [e_gR, e_gI, e_aI, e_aL, e_oO, e_pI, e_wI, e_wL, Option.map_some, mS_sL, mR_sL, mI_sL, mS_sI, mR_sI, mL_sI, n_cl, cob_37 hC1]; with_reducible rfl)) | rw [nm_eq] | rw [ckZ_n1] | rw [ckZ_n0])
  refine WP.cw (c_findTraders a2 (n := k) (by omega)) (fun v M2 c2 => ?_)
  obtain ⟨b1, b2, b3, b4⟩ := c2
  obtain ⟨⟨hC2, -⟩, -⟩ := a2.of b1
  have fr := a1.tr b1.1
  unfold btA
  by_cases w2 : what = nI 2
  · refine WP.it w2 ?_
    repeat (first | ((with_reducible apply WP.ce); case h => (simp (disch := omega) only []; with_reducible rfl)) | ((with_reducible apply WP.bd); case h => (simp (disch := omega) only [e_gR, e_gI, e_aI, e_aL, e_oO, e_pI, e_wI, e_wL, Option.map_some, mS_sL, mR_sL, mI_sL, mS_sI, mR_sI, mL_sI, n_cl, cob_0 hC2, cr_0_asker hC2, cob_37 hC2, b2]; with_reducible rfl)) | rw [nm_eq] | rw [ckZ_n1] | rw [ckZ_n0])
    exact WP.ret ⟨by rw [if_neg (by rw [w2]; decide), if_neg (by rw [w2]; decide)], fr⟩
  · refine WP.ie w2 ?_
    by_cases w0 : what = 0
    · refine WP.it w0 ?_
      repeat (first | ((with_reducible apply WP.ce); case h => (simp (disch := omega) only []; with_reducible rfl)) | ((with_reducible apply WP.bd); case h => (simp (disch := omega) only [e_gR, e_gI, e_aI, e_aL, e_oO, e_pI, e_wI, e_wL, Option.map_some, mS_sL, mR_sL, mI_sL, mS_sI, mR_sI, mL_sI, n_cl, cob_0 hC2, cr_0_asker hC2, cob_37 hC2, b3]; with_reducible rfl)) | rw [nm_eq] | rw [ckZ_n1] | rw [ckZ_n0])
      exact WP.ret ⟨by rw [if_pos w0], fr⟩
    · refine WP.ie w0 ?_
      repeat (first | ((with_reducible apply WP.ce); case h => (simp (disch := omega) only []; with_reducible rfl)) | ((with_reducible apply WP.bd); case h => (simp (disch := omega) only [e_gR, e_gI, e_aI, e_aL, e_oO, e_pI, e_wI, e_wL, Option.map_some, mS_sL, mR_sL, mI_sL, mS_sI, mR_sI, mL_sI, n_cl, cob_0 hC2, cr_0_asker hC2, cob_37 hC2, b4]; with_reducible rfl)) | rw [nm_eq] | rw [ckZ_n1] | rw [ckZ_n0])
      rw [inR02] at g3'
      have w1 : what = nI 1 := by simpa [w0, w2] using g3'
      exact WP.ret ⟨by rw [if_neg w0, if_pos w1], fr⟩
