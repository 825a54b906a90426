/-! THE CLASS: ahead, over, order, forget, barter -/
theorem c_there {M : Mem} {T : TD} (hT : CT M 15 T) : mI M 15 0 = bI (isB T) := hT.1.1
theorem inR02 (x : Int32) : inR x 0 2 = (decide (x = 0) || decide (x = nI 1) || decide (x = nI 2)) := by
  unfold inR
  have h0 : (0 : Int32).toInt = 0 := by decide
  have h1 : (nI 1).toInt = 1 := by decide
  have h2 : (nI 2).toInt = 2 := by decide
  have e0 : (x = 0) = (x.toInt = 0) := by rw [eq_iff_iff, fa_eq, h0]
  have e1 : (x = nI 1) = (x.toInt = 1) := by rw [eq_iff_iff, fa_eq, h1]
  have e2 : (x = nI 2) = (x.toInt = 2) := by rw [eq_iff_iff, fa_eq, h2]
  simp only [e0, e1, e2]
  rw [← Bool.decide_or, ← Bool.decide_or, decide_eq_decide]
  omega
theorem y_ahead {M : Mem} {T : TD} {S : SC} {c : Nat} {W : Nat → RD} {fo : Option Nat} (h : CE M T S c W fo) (s n what : Int32) : WP (f_X9_ahead 0 s n what M) (fun v M' => v = q_ahead T (fo.map W) S s n what ∧ AF M M') := by
  have h0 := h
  obtain ⟨⟨hC, hT, hS, hw, hf⟩, hk, hs, h9, hfo⟩ := h
  have h2 := hk.1.2.2.2
  have main : isB T = true → inR n 0 100 = true → ∀ b : Bool, (b = true → what = 0 ∧ ixB s (tN T) = true) → (b = false → what = nI 1 ∨ what = nI 2) → WP (f_X9_ahead_J60 0 s n what (bI b) M) (fun v M' => v = q_ahead T (fo.map W) S s n what ∧ AF M M') := by
    intro g1 g2 b g3 g4
    obtain ⟨k, rfl, -, k2, k3⟩ := inR_t g2 (by decide)
    have hw2 : (inR what 0 2 && (!(decide (what = 0)) || ixB s (tN T))) = true := by
      rw [inR02]
      cases b with
      | true =>
        obtain ⟨e1, e2⟩ := g3 rfl
        rw [e2]
        simp [e1]
      | false =>
        rcases g4 rfl with e | e
        · have : ¬ (nI 1 = 0) := by decide
          simp [e, this]
        · have : ¬ (nI 2 = 0) := by decide
          simp [e, this]
    have q : q_ahead T (fo.map W) S s (nI k) what = (if what = 0 then eP (sP (tides T (fo.map W) S k) s.toNatClampNeg) else if what = nI 1 then nI (ernA T (tides T (fo.map W) S k)) else nI (tN T - wtc T (tides T (fo.map W) S k))) := by
      unfold q_ahead
      rw [g1, Bool.true_and, hw2, g2, n_cl k3]
      rfl
    rw [q]
    unfold f_X9_ahead_J60
    repeat (first | ((with_reducible apply WP.ce); case h => (simp (disch := omega) only []; with_reducible rfl)) | ((with_reducible apply WP.bd); case h => (simp (disch := omega) only [e_gR, e_gI, e_aI, e_aL, e_oO, e_pI, e_wI, e_wL, Option.map_some, mS_sL, mR_sL, mI_sL, mS_sI, mR_sI, mL_sI, n_cl, cob_0 hC]; with_reducible rfl)) | rw [nm_eq] | rw [ckZ_n1] | rw [ckZ_n0])
    refine WP.cw (c_asking h0) (fun v M1 c1 => ?_)
    obtain ⟨rfl, a1, a2⟩ := c1
    have hC1 := a2.1.1
    repeat (first | ((with_reducible apply WP.ce); case h => (simp (disch := omega) only []; with_reducible rfl)) | ((with_reducible apply WP.bd); case h => (simp (disch := omega) only [e_gR, e_gI, e_aI, e_aL, e_oO, e_pI, e_wI, e_wL, Option.map_some, mS_sL, mR_sL, mI_sL, mS_sI, mR_sI, mL_sI, n_cl, cob_37 hC1]; with_reducible rfl)) | rw [nm_eq] | rw [ckZ_n1] | rw [ckZ_n0])
    refine WP.cw (c_later a2 (n := k) (by omega)) (fun v M2 c2 => ?_)
    obtain ⟨rfl, b1, b2⟩ := c2
    obtain ⟨⟨hC2, hT2, -, -⟩, -⟩ := a2.of b1
    have hs2 : SOk (tides T (fo.map W) S k) := tides_ok hs k (by omega)
    have fr : AF M M2 := a1.tr b1.1
    refine WP.gd (fun e => ?_) (fun e => ?_)
    · have g5 := g4 e
      have w0 : ¬ what = 0 := by rcases g5 with z | z <;> rw [z] <;> decide
      rw [if_neg w0]
      unfold f_X9_ahead_J115
      by_cases w1 : what = nI 1
      · refine WP.it w1 ?_
        rw [if_pos w1]
        repeat (first | ((with_reducible apply WP.ce); case h => (simp (disch := omega) only [c_earned (ci_told hC2) hT2 hk (ci_work hC2) b2 hs2]; with_reducible rfl)) | ((with_reducible apply WP.bd); case h => (simp (disch := omega) only [e_gR, e_gI, e_aI, e_aL, e_oO, e_pI, e_wI, e_wL, Option.map_some, mS_sL, mR_sL, mI_sL, mS_sI, mR_sI, mL_sI, n_cl, cob_0 hC2, cr_0_book hC2, book_o (ci_book hC2), book_r_told (ci_book hC2), told_o (ci_told hC2), Nat.reduceAdd]; with_reducible rfl)) | rw [nm_eq] | rw [ckZ_n1] | rw [ckZ_n0])
        exact WP.ret ⟨rfl, fr⟩
      · refine WP.ie w1 ?_
        rw [if_neg w1]
        repeat (first | ((with_reducible apply WP.ce); case h => (simp (disch := omega) only [c_passed (ci_told hC2) hT2 hk (ci_work hC2) b2 hs2]; with_reducible rfl)) | ((with_reducible apply WP.bd); case h => (simp (disch := omega) only [e_gR, e_gI, e_aI, e_aL, e_oO, e_pI, e_wI, e_wL, Option.map_some, mS_sL, mR_sL, mI_sL, mS_sI, mR_sI, mL_sI, n_cl, cob_0 hC2, cr_0_book hC2, book_o (ci_book hC2), book_r_told (ci_book hC2), told_o (ci_told hC2), Nat.reduceAdd]; with_reducible rfl)) | rw [nm_eq] | rw [ckZ_n1] | rw [ckZ_n0])
        exact WP.ret ⟨rfl, fr⟩
    · obtain ⟨w0, hx⟩ := g3 e
      rw [if_pos w0]
      obtain ⟨j, j1, rfl⟩ := ixB_t (by omega) hx
      rw [n_cl (by omega)]
      repeat (first | ((with_reducible apply WP.ce); case h => (simp (disch := omega) only []; with_reducible rfl)) | ((with_reducible apply WP.bd); case h => (simp (disch := omega) only [e_gR, e_gI, e_aI, e_aL, e_oO, e_pI, e_wI, e_wL, Option.map_some, mS_sL, mR_sL, mI_sL, mS_sI, mR_sI, mL_sI, n_cl, scene_o (ci_work hC2), scene_r_passed (ci_work hC2), scene_x_passed (ci_work hC2), (b2.2.2 j j1).2, Nat.reduceAdd]; with_reducible rfl)) | rw [nm_eq] | rw [ckZ_n1] | rw [ckZ_n0])
      exact WP.ret ⟨rfl, fr⟩
  have no : (isB T && inR what 0 2 && (!(decide (what = 0)) || ixB s (tN T)) && inR n 0 100) = false → q_ahead T (fo.map W) S s n what = -2 := by
    intro e
    unfold q_ahead
    rw [e]
    rfl
  have j17 : ∀ b : Bool, (b = true → what = 0 ∧ ixB s (tN T) = true) → (b = false → what = 0 → ixB s (tN T) = false) → WP (f_X9_ahead_J17 0 s n what (bI b) M) (fun v M' => v = q_ahead T (fo.map W) S s n what ∧ AF M M') := by
    intro b g3 g4
    unfold f_X9_ahead_J17 f_X9_ahead_J57
    repeat (first | ((with_reducible apply WP.ce); case h => (simp (disch := omega) only []; with_reducible rfl)) | ((with_reducible apply WP.bd); case h => (simp (disch := omega) only [e_gR, e_gI, e_aI, e_aL, e_oO, e_pI, e_wI, e_wL, Option.map_some, mS_sL, mR_sL, mI_sL, mS_sI, mR_sI, mL_sI, n_cl, cob_0 hC, cr_0_book hC, book_o (ci_book hC), book_r_told (ci_book hC), told_o (ci_told hC), Nat.reduceAdd, c_there hT]; with_reducible rfl)) | rw [nm_eq] | rw [ckZ_n1] | rw [ckZ_n0])
    refine WP.gd (fun g1 => WP.ret ⟨(no (by rw [g1]; rfl)).symm, AF.rf M⟩) (fun g1 => ?_)
    repeat (first | ((with_reducible apply WP.ce); case h => (simp (disch := omega) only [c_isWithin]; with_reducible rfl)) | ((with_reducible apply WP.bd); case h => (simp (disch := omega) only [e_gR, e_gI, e_aI, e_aL, e_oO, e_pI, e_wI, e_wL, Option.map_some, mS_sL, mR_sL, mI_sL, mS_sI, mR_sI, mL_sI, n_cl, c_there hT]; with_reducible rfl)) | rw [nm_eq] | rw [ckZ_n1] | rw [ckZ_n0])
    refine WP.gd (fun g2 => WP.ret ⟨(no (by rw [show inR n 0 100 = false from g2]; simp)).symm, AF.rf M⟩) (fun g2 => ?_)
    refine WP.gd (fun e => ?_) (fun e => main g1 g2 b g3 (fun z => by rw [z] at e; cases e))
    subst e
    by_cases w1 : what = nI 1
    · exact WP.it w1 (main g1 g2 false g3 (fun _ => Or.inl w1))
    · refine WP.ie w1 ?_
      by_cases w2 : what = nI 2
      · exact WP.it w2 (main g1 g2 false g3 (fun _ => Or.inr w2))
      · refine WP.ie w2 (WP.ret ⟨(no ?_).symm, AF.rf M⟩)
        rw [inR02]
        by_cases w0 : what = 0
        · rw [g4 rfl w0]
          simp [w0]
        · simp [w0, w1, w2]
  unfold f_X9_ahead f_X9_ahead_J16
  by_cases w0 : what = 0
  · refine WP.it w0 ?_
    repeat (first | ((with_reducible apply WP.ce); case h => (simp (disch := omega) only [c_isShip hC hT hk]; with_reducible rfl)) | ((with_reducible apply WP.bd); case h => (simp (disch := omega) only [e_gR, e_gI, e_aI, e_aL, e_oO, e_pI, e_wI, e_wL, Option.map_some, mS_sL, mR_sL, mI_sL, mS_sI, mR_sI, mL_sI, n_cl, cob_0 hC]; with_reducible rfl)) | rw [nm_eq] | rw [ckZ_n1] | rw [ckZ_n0])
    refine WP.gd (fun g => j17 false (fun z => by cases z) (fun _ _ => g)) (fun g => j17 true (fun _ => ⟨w0, g⟩) (fun z => by cases z))
  · exact WP.ie w0 (j17 false (fun z => by cases z) (fun _ z => absurd z w0))
/-! over -/
theorem c_findL {T : TD} {S : SC} {r : Option RD} {M0 : Mem} (h : CA M0 T S r) {s : Nat} (hs5 : s < tN T) : ∀ d k f (M : Mem), k + d = 100 → AG M0 M → CC M 39 T (tides T r S k) →
    WP (f_X0_findPassing_L16 37 (f + d + 1) (nI s) (nI k) M) (fun v M' => AG M0 M' ∧ (ovr T r S s d k).elim (v = nI 0) (fun k => v = nI 1 ∧ mI M' 37 0 = nI (sT S + k) ∧ mI M' 37 1 = eP (tolds T r none (tides T r S k) s))) := by
  have h2 := h.2.1.1.2.2.2
  intro d
  induction d with
  | zero =>
    intro k f M hkd g hS
    rw [f_X0_findPassing_L16]
    refine WP.it (by rw [n_le (by omega) (by omega)]; omega) ?_
    exact WP.ret ⟨g, rfl⟩
  | succ d ih =>
    intro k f M hkd g hS
    obtain ⟨⟨hC, hT, hS0, hr⟩, hk, hs, h9⟩ := h.of g
    have t0 := hS.1
    have hsk : SOk (tides T r S k) := tides_ok hs k (by omega)
    have hp := psm_lt hk r none (tides T r S k)
    obtain ⟨M1, hM1⟩ : ∃ M1, M1 = sI M 37 0 (nI (sT (tides T r S k))) := ⟨_, rfl⟩
    have g1 : AG M M1 := by rw [hM1]; exact AFw M (by omega) _ _
    have hS1 : CC M1 39 T (tides T r S k) := hS.of (fun i hi => by rw [hM1, sI_row (by omega)])
    obtain ⟨⟨hC1, hT1, -, hr1⟩, -⟩ := h.of (g.tr g1)
    rw [show f + (d + 1) + 1 = (f + d + 1) + 1 from by omega, f_X0_findPassing_L16]
    refine WP.ie (by rw [n_le (by omega) (by omega)]; omega) ?_
    repeat (first | ((with_reducible apply WP.ce); case h => (simp (disch := omega) only []; with_reducible rfl)) | ((with_reducible apply WP.bd); case h => (simp (disch := omega) only [e_gR, e_gI, e_aI, e_aL, e_oO, e_pI, e_wI, e_wL, Option.map_some, mS_sL, mR_sL, mI_sL, mS_sI, mR_sI, mL_sI, n_cl, cob_37 hC, cr_37_work hC, scene_o (ci_work hC), t0, ← hM1]; with_reducible rfl)) | rw [nm_eq] | rw [ckZ_n1] | rw [ckZ_n0])
    repeat (first | ((with_reducible apply WP.ce); case h => (simp (disch := omega) only []; with_reducible rfl)) | ((with_reducible apply WP.bd); case h => (simp (disch := omega) only [e_gR, e_gI, e_aI, e_aL, e_oO, e_pI, e_wI, e_wL, Option.map_some, mS_sL, mR_sL, mI_sL, mS_sI, mR_sI, mL_sI, n_cl, cob_37 hC1, cr_37_pilot hC1, cr_37_work hC1, cob_30 hC1]; with_reducible rfl)) | rw [nm_eq] | rw [ckZ_n1] | rw [ckZ_n0])
    refine WP.cw (c_oneTide hC1 hT1 hk QOk39 (ci_work hC1) hS1 hsk hr1) (fun v M2 c => ?_)
    obtain ⟨rfl, c2, c3, c4⟩ := c
    have g2 := (g.tr g1).tr (c2.AG (by omega))
    obtain ⟨⟨hC2, -⟩, -⟩ := h.of g2
    rw [n_bit (by omega) (by omega), ovr]
    cases hb : (psm T r none (tides T r S k)).testBit s with
    | false =>
      refine WP.it (by decide) ?_
      rw [n_add]
      exact ih (k + 1) f M2 (by omega) g2 c3
    | true =>
      refine WP.ie (by decide) ?_
      repeat (first | ((with_reducible apply WP.ce); case h => (simp (disch := omega) only []; with_reducible rfl)) | ((with_reducible apply WP.bd); case h => (simp (disch := omega) only [e_gR, e_gI, e_aI, e_aL, e_oO, e_pI, e_wI, e_wL, Option.map_some, mS_sL, mR_sL, mI_sL, mS_sI, mR_sI, mL_sI, n_cl, cob_37 hC2, cr_37_pilot hC2, cob_30 hC2, cr_said hC2, cx_said hC2, c4 s hs5]; with_reducible rfl)) | rw [nm_eq] | rw [ckZ_n1] | rw [ckZ_n0])
      refine WP.ret ⟨g2.tr (AFw M2 (by omega) _ _), rfl, ?_, by rw [mI_sI, if_pos ⟨rfl, rfl⟩]⟩
      rw [mI_sI, if_neg (by omega), c2.2.2.1 37 (by omega) (by omega) (by omega) (by omega) (by omega) (by omega), hM1, mI_sI, if_pos ⟨rfl, rfl⟩, tides_T]
theorem c_findPassing {T : TD} {S : SC} {r : Option RD} {M : Mem} (h : CA M T S r) {s : Nat} (hs5 : s < tN T) : WP (f_X0_findPassing 37 (nI s) M) (fun v M' => AG M M' ∧ (ovr T r S s 100 0).elim (v = nI 0) (fun k => v = nI 1 ∧ mI M' 37 0 = nI (sT S + k) ∧ mI M' 37 1 = eP (tolds T r none (tides T r S k) s))) := by
  have h0 := h
  obtain ⟨⟨hC, hT, hS, hr⟩, hk, hs, h9⟩ := h
  unfold f_X0_findPassing
  repeat (first | ((with_reducible apply WP.ce); case h => (simp (disch := omega) only []; with_reducible rfl)) | ((with_reducible apply WP.bd); case h => (simp (disch := omega) only [e_gR, e_gI, e_aI, e_aL, e_oO, e_pI, e_wI, e_wL, Option.map_some, mS_sL, mR_sL, mI_sL, mS_sI, mR_sI, mL_sI, n_cl, cob_37 hC, cr_37_work hC, cr_37_book hC, book_o (ci_book hC), book_r_scene (ci_book hC), scene_o (ci_work hC), Nat.reduceAdd]; with_reducible rfl)) | rw [nm_eq] | rw [ckZ_n1] | rw [ckZ_n0])
  refine WP.cw (c_copy hk (ci_scene hC) (ci_work hC) (by omega) hS) (fun _ M1 c => ?_)
  obtain ⟨f, hf⟩ := FUd 100 (by omega)
  rw [hf]
  exact c_findL h0 hs5 100 0 f M1 (by omega) (c.1.AG (by omega)) c.2
theorem y_over {M : Mem} {T : TD} {S : SC} {c : Nat} {W : Nat → RD} {fo : Option Nat} (h : CE M T S c W fo) (x what : Int32) : WP (f_X9_over 0 x what M) (fun v M' => v = q_over T (fo.map W) S x what ∧ AF M M') := by
  have h0 := h
  obtain ⟨⟨hC, hT, hS, hw, hf⟩, hk, hs, h9, hfo⟩ := h
  have h2 := hk.1.2.2.2
  unfold f_X9_over f_X9_over_J17 f_X9_over_J54
  repeat (first | ((with_reducible apply WP.ce); case h => (simp (disch := omega) only [c_isWaiting hC hT hk hS hs]; with_reducible rfl)) | ((with_reducible apply WP.bd); case h => (simp (disch := omega) only [e_gR, e_gI, e_aI, e_aL, e_oO, e_pI, e_wI, e_wL, Option.map_some, mS_sL, mR_sL, mI_sL, mS_sI, mR_sI, mL_sI, n_cl, cob_0 hC]; with_reducible rfl)) | rw [nm_eq] | rw [ckZ_n1] | rw [ckZ_n0])
  refine WP.gd (fun g1 => WP.ret ⟨by unfold q_over; rw [g1]; rfl, AF.rf M⟩) (fun g1 => ?_)
  repeat (first | ((with_reducible apply WP.ce); case h => (simp (disch := omega) only [c_isWithin]; with_reducible rfl)) | ((with_reducible apply WP.bd); case h => (simp (disch := omega) only [e_gR, e_gI, e_aI, e_aL, e_oO, e_pI, e_wI, e_wL, Option.map_some, mS_sL, mR_sL, mI_sL, mS_sI, mR_sI, mL_sI, n_cl, cob_0 hC]; with_reducible rfl)) | rw [nm_eq] | rw [ckZ_n1] | rw [ckZ_n0])
  refine WP.gd (fun g2 => WP.ret ⟨by unfold q_over; rw [g1, show inR what 0 1 = false from g2]; rfl, AF.rf M⟩) (fun g2 => ?_)
  obtain ⟨s, rfl, hs5, hwt⟩ := wtI_t hk g1
  have q : q_over T (fo.map W) S (nI s) what = (ovr T (fo.map W) S s 100 0).elim (-2) (fun k => if what = 0 then nI (sT S + k) else eP (tolds T (fo.map W) none (tides T (fo.map W) S k) s)) := by
    unfold q_over
    rw [g1, show inR what 0 1 = true from g2, n_cl (by omega)]
    rfl
  rw [q]
  repeat (first | ((with_reducible apply WP.ce); case h => (simp (disch := omega) only []; with_reducible rfl)) | ((with_reducible apply WP.bd); case h => (simp (disch := omega) only [e_gR, e_gI, e_aI, e_aL, e_oO, e_pI, e_wI, e_wL, Option.map_some, mS_sL, mR_sL, mI_sL, mS_sI, mR_sI, mL_sI, n_cl, cob_0 hC]; with_reducible rfl)) | rw [nm_eq] | rw [ckZ_n1] | rw [ckZ_n0])
  refine WP.cw (c_asking h0) (fun v M1 c1 => ?_)
  obtain ⟨rfl, a1, a2⟩ := c1
  have hC1 := a2.1.1
  repeat (first | ((with_reducible apply WP.ce); case h => (simp (disch := omega) only []; with_reducible rfl)) | ((with_reducible apply WP.bd); case h => (simp (disch := omega) only [e_gR, e_gI, e_aI, e_aL, e_oO, e_pI, e_wI, e_wL, Option.map_some, mS_sL, mR_sL, mI_sL, mS_sI, mR_sI, mL_sI, n_cl, cob_37 hC1]; with_reducible rfl)) | rw [nm_eq] | rw [ckZ_n1] | rw [ckZ_n0])
  refine WP.cw (c_findPassing a2 hs5) (fun v M2 c2 => ?_)
  obtain ⟨b1, b2⟩ := c2
  obtain ⟨⟨hC2, -⟩, -⟩ := a2.of b1
  have fr := a1.tr b1.1
  cases ho : ovr T (fo.map W) S s 100 0 with
  | none =>
    rw [ho] at b2
    have b2 : v = nI 0 := b2
    subst b2
    exact WP.it rfl (WP.ret ⟨rfl, fr⟩)
  | some k =>
    rw [ho] at b2
    obtain ⟨rfl, b3, b4⟩ := b2
    refine WP.ie (by decide) ?_
    by_cases w0 : what = 0
    · refine WP.it w0 ?_
      repeat (first | ((with_reducible apply WP.ce); case h => (simp (disch := omega) only []; with_reducible rfl)) | ((with_reducible apply WP.bd); case h => (simp (disch := omega) only [e_gR, e_gI, e_aI, e_aL, e_oO, e_pI, e_wI, e_wL, Option.map_some, mS_sL, mR_sL, mI_sL, mS_sI, mR_sI, mL_sI, n_cl, cob_0 hC2, cr_0_asker hC2, cob_37 hC2, b3]; with_reducible rfl)) | rw [nm_eq] | rw [ckZ_n1] | rw [ckZ_n0])
      exact WP.ret ⟨by simp [w0], fr⟩
    · refine WP.ie w0 ?_
      repeat (first | ((with_reducible apply WP.ce); case h => (simp (disch := omega) only []; with_reducible rfl)) | ((with_reducible apply WP.bd); case h => (simp (disch := omega) only [e_gR, e_gI, e_aI, e_aL, e_oO, e_pI, e_wI, e_wL, Option.map_some, mS_sL, mR_sL, mI_sL, mS_sI, mR_sI, mL_sI, n_cl, cob_0 hC2, cr_0_asker hC2, cob_37 hC2, b4]; with_reducible rfl)) | rw [nm_eq] | rw [ckZ_n1] | rw [ckZ_n0])
      exact WP.ret ⟨by simp [w0], fr⟩
/-! order -/
theorem c_passingOf {M : Mem} {q : Nat} {T : TD} {S : SC} (hk : TOk T) (hJ : IScene (mS M) (mR M) q) (hS : CC M q T S) (hs : SOk S) {s : Nat} (h : s < tN T) : f_X0_passingOf (some q) (nI s) M = some (nI (eF 2147483647 (sP S s)), M) := by
  have h2 := hk.1.2.2.2
  have hp := (hS.2.2 s h).2
  have hb := sP_lt hs s
  unfold f_X0_passingOf f_X0_passingOf_J21
  repeat (first | refine (cl_ok (by (simp only [hp]; with_reducible rfl)) _).trans ?_ | refine (bind_ok (by (simp (disch := omega) only [e_gR, e_gI, e_aI, e_aL, e_oO, e_pI, e_wI, e_wL, Option.map_some, mS_sL, mR_sL, mI_sL, mS_sI, mR_sI, mL_sI, n_cl, scene_o hJ, scene_r_passed hJ, scene_x_passed hJ, hp]; with_reducible rfl)) _).trans ?_ | rw [nm_eq])
  simp only [eP_none hb]
  cases hh : sP S s with
  | none => rfl
  | some t =>
    have hp2 : mI M (q + 3) s = nI t := by rw [hp, hh]; rfl
    simp only [Option.isNone, Bool.false_eq_true, if_false]
    repeat (first | refine (cl_ok (by (simp only [hp]; with_reducible rfl)) _).trans ?_ | refine (bind_ok (by (simp (disch := omega) only [e_gR, e_gI, e_aI, e_aL, e_oO, e_pI, e_wI, e_wL, Option.map_some, mS_sL, mR_sL, mI_sL, mS_sI, mR_sI, mL_sI, n_cl, scene_o hJ, scene_r_passed hJ, scene_x_passed hJ, hp2]; with_reducible rfl)) _).trans ?_ | rw [nm_eq])
    rfl
theorem c_placeL {T : TD} {S0 S : SC} {r : Option RD} {M : Mem} (h : CA M T S0 r) (hs : SOk S) (hS : CC M 39 T S) {s : Nat} (hs5 : s < tN T) : ∀ d k f, k + d = tN T → f_X0_placeOf_L12 37 (f + d + 1) (nI s) (some 39) (nI (ctb (fun k => bef (sP S) k s) k)) (nI k) M = some (nI (ctb (fun k => bef (sP S) k s) (tN T)), M) := by
  obtain ⟨⟨hC, hT, hS0, hr⟩, hk, -⟩ := h
  have h2 := hk.1.2.2.2
  have hb : ∀ k t, sP S k = some t → t < 2147483647 := fun k t ht => by have := hs.2.2.2 k t ht; have := hs.1; omega
  have hF : ∀ k, eF 2147483647 (sP S k) ≤ 2147483647 := fun k => by
    unfold eF
    cases hh : sP S k with
    | none => exact Nat.le_refl _
    | some t => exact Nat.le_of_lt (hb k t hh)
  intro d
  induction d with
  | zero =>
    intro k f hkd
    have hkd : k = tN T := by omega
    subst hkd
    rw [f_X0_placeOf_L12]
    repeat (first | refine (cl_ok (by (simp only [hk]; with_reducible rfl)) _).trans ?_ | refine (bind_ok (by (simp (disch := omega) only [e_gR, e_gI, e_aI, e_aL, e_oO, e_pI, e_wI, e_wL, Option.map_some, mS_sL, mR_sL, mI_sL, mS_sI, mR_sI, mL_sI, n_cl, cob_37 hC, cr_37_told hC, told_o (ci_told hC), hT.1.2.2.2.2]; with_reducible rfl)) _).trans ?_ | rw [nm_eq])
    rw [if_pos (by rw [n_le (by omega) (by omega)]; omega)]
  | succ d ih =>
    intro k f hkd
    have e := ih (k + 1) f (by omega)
    rw [ctb, bef_F (c := 2147483647) (hb k) (hb s)] at e
    have f1 := hF k
    have f2 := hF s
    have a1 := c_passingOf hk (ci_work hC) hS hs (s := k) (by omega)
    have a2 := c_passingOf hk (ci_work hC) hS hs (s := s) hs5
    rw [show f + (d + 1) + 1 = (f + d + 1) + 1 from by omega, f_X0_placeOf_L12]
    repeat (first | refine (cl_ok (by (simp only [a1]; with_reducible rfl)) _).trans ?_ | refine (bind_ok (by (simp (disch := omega) only [e_gR, e_gI, e_aI, e_aL, e_oO, e_pI, e_wI, e_wL, Option.map_some, mS_sL, mR_sL, mI_sL, mS_sI, mR_sI, mL_sI, n_cl, cob_37 hC, cr_37_told hC, told_o (ci_told hC), hT.1.2.2.2.2]; with_reducible rfl)) _).trans ?_ | rw [nm_eq])
    rw [if_neg (by rw [n_le (by omega) (by omega)]; omega)]
    repeat (first | refine (cl_ok (by (simp only [a1, a2]; with_reducible rfl)) _).trans ?_ | refine (bind_ok (by (simp (disch := omega) only [e_gR, e_gI, e_aI, e_aL, e_oO, e_pI, e_wI, e_wL, Option.map_some, mS_sL, mR_sL, mI_sL, mS_sI, mR_sI, mL_sI, n_cl, cob_37 hC]; with_reducible rfl)) _).trans ?_ | rw [nm_eq])
    unfold f_X0_placeOf_J59 f_X0_placeOf_J62
    simp only [n_add]
    by_cases c1 : eF 2147483647 (sP S k) < eF 2147483647 (sP S s)
    · rw [if_pos (by rw [n_lt (by omega) (by omega)]; exact c1)]
      simp only [c1, decide_true, Bool.true_or, if_true] at e
      exact e
    · rw [if_neg (by rw [n_lt (by omega) (by omega)]; exact c1)]
      by_cases c2 : eF 2147483647 (sP S k) = eF 2147483647 (sP S s)
      · rw [if_pos (by rw [c2])]
        by_cases c3 : k < s
        · rw [if_neg (by rw [n_le (by omega) (by omega)]; omega)]
          simp only [c2, c3, Nat.lt_irrefl, decide_true, decide_false, Bool.false_or, Bool.and_self, if_true] at e
          exact e
        · rw [if_pos (by rw [n_le (by omega) (by omega)]; omega)]
          simp only [c2, c3, decide_true, decide_false, Bool.and_false, Nat.lt_irrefl, Bool.or_self, Bool.false_eq_true, if_false] at e
          exact e
      · rw [if_neg (by rw [n_eq (by omega) (by omega)]; exact c2)]
        simp only [c1, c2, decide_false, Bool.false_and, Bool.or_self, Bool.false_eq_true, if_false] at e
        exact e
theorem y_order {M : Mem} {T : TD} {S : SC} {c : Nat} {W : Nat → RD} {fo : Option Nat} (h : CE M T S c W fo) (x : Int32) : WP (f_X9_order 0 x M) (fun v M' => v = q_order T (fo.map W) S x ∧ AF M M') := by
  have h0 := h
  obtain ⟨⟨hC, hT, hS, hw, hf⟩, hk, hs, h9, hfo⟩ := h
  have h2 := hk.1.2.2.2
  unfold f_X9_order
  repeat (first | ((with_reducible apply WP.ce); case h => (simp (disch := omega) only [c_isShip hC hT hk]; with_reducible rfl)) | ((with_reducible apply WP.bd); case h => (simp (disch := omega) only [e_gR, e_gI, e_aI, e_aL, e_oO, e_pI, e_wI, e_wL, Option.map_some, mS_sL, mR_sL, mI_sL, mS_sI, mR_sI, mL_sI, n_cl, cob_0 hC]; with_reducible rfl)) | rw [nm_eq] | rw [ckZ_n1] | rw [ckZ_n0])
  refine WP.gd (fun g1 => WP.ret ⟨by unfold q_order; rw [g1]; rfl, AF.rf M⟩) (fun g1 => ?_)
  have g1' := g1
  obtain ⟨s, hs5, rfl⟩ := ixB_t (by omega) g1
  repeat (first | ((with_reducible apply WP.ce); case h => (simp (disch := omega) only []; with_reducible rfl)) | ((with_reducible apply WP.bd); case h => (simp (disch := omega) only [e_gR, e_gI, e_aI, e_aL, e_oO, e_pI, e_wI, e_wL, Option.map_some, mS_sL, mR_sL, mI_sL, mS_sI, mR_sI, mL_sI, n_cl, cob_0 hC]; with_reducible rfl)) | rw [nm_eq] | rw [ckZ_n1] | rw [ckZ_n0])
  refine WP.cw (c_asking h0) (fun v M1 c1 => ?_)
  obtain ⟨rfl, a1, a2⟩ := c1
  have hC1 := a2.1.1
  repeat (first | ((with_reducible apply WP.ce); case h => (simp (disch := omega) only []; with_reducible rfl)) | ((with_reducible apply WP.bd); case h => (simp (disch := omega) only [e_gR, e_gI, e_aI, e_aL, e_oO, e_pI, e_wI, e_wL, Option.map_some, mS_sL, mR_sL, mI_sL, mS_sI, mR_sI, mL_sI, n_cl, cob_37 hC1]; with_reducible rfl)) | rw [nm_eq] | rw [ckZ_n1] | rw [ckZ_n0])
  unfold f_X0_placeOf
  refine WP.cw (P := fun v M' => v = q_order T (fo.map W) S (nI s) ∧ AF M M') ?_ (fun v M2 c2 => WP.ret c2)
  repeat (first | ((with_reducible apply WP.ce); case h => (simp (disch := omega) only []; with_reducible rfl)) | ((with_reducible apply WP.bd); case h => (simp (disch := omega) only [e_gR, e_gI, e_aI, e_aL, e_oO, e_pI, e_wI, e_wL, Option.map_some, mS_sL, mR_sL, mI_sL, mS_sI, mR_sI, mL_sI, n_cl, cob_37 hC1]; with_reducible rfl)) | rw [nm_eq] | rw [ckZ_n1] | rw [ckZ_n0])
  refine WP.cw (c_later a2 (n := 100) (by omega)) (fun v M2 c2 => ?_)
  obtain ⟨rfl, b1, b2⟩ := c2
  obtain ⟨f, hf2⟩ := FUd (tN T) (by omega)
  rw [hf2]
  refine WP.of (c_placeL (a2.of b1) (tides_ok hs 100 (by omega)) b2 hs5 (tN T) 0 f (by omega)) ⟨?_, a1.tr b1.1⟩
  unfold q_order
  rw [g1', n_cl (by omega)]
  rfl
