/-! THE CLASS: ruled, look, their loops -/
theorem nar_b (b : Bool) : vp_nar .boolean (bI b) = bI b := by cases b <;> rfl
def rdC (F : Nat → Bool) (k : Nat) : Int32 := (fs F k).elim (-1) (fun i => eP (rkO i))
/-- what has been tried, of none and the rules -/
def TRm (M : Mem) (T : TD) (W : Nat → RD) (D : ND) (n1 k : Nat) : Prop := mI M 37 0 = nI (ctb (FT T W D) k) ∧ mI M 37 1 = rdC (FT T W D) k ∧ (∀ i, i < k → mI M 44 i = bI (FT T W D i)) ∧ ∀ n, n1 = n + 1 → ∀ i s, i < k → FT T W D i = true → s < tN T → mI M 45 (5 * i + s) = eP (VT T W n i s)
theorem c_tryL {M0 : Mem} {T : TD} {S : SC} {c : Nat} {W : Nat → RD} {fo : Option Nat} {D : ND} (h : CE M0 T S c W fo) (hN0 : CNb M0 14 D) (hD : NOk T D) {n1 : Nat} (hn : n1 ≤ 61) :
    ∀ d k f (M : Mem), k + d = c + 1 → AF M0 M → TRm M T W D n1 k →
    WP (f_X0_tryRules_L13 37 (f + d + 1) (some 13) (nI c) (eP (rkO n1)) (eP (rkO k)) M) (fun _ M' => AF M0 M' ∧ TRm M' T W D n1 (c + 1)) := by
  have h6 := h.1.2.2.2.1.1
  intro d
  induction d with
  | zero =>
    intro k f M hkd g ht
    have hkd : k = c + 1 := by omega
    subst hkd
    rw [f_X0_tryRules_L13]
    exact WP.it (by rw [le_rk h6 (by omega)]; omega) (WP.ret ⟨g, ht⟩)
  | succ d ih =>
    intro k f M hkd g ht
    have hE := h.of g
    obtain ⟨⟨hC, hT, hS, hw, hf⟩, hk, hs, h9, hfo⟩ := hE
    have h2 := hk.1.2.2.2
    rw [show f + (d + 1) + 1 = (f + d + 1) + 1 from by omega, f_X0_tryRules_L13]
    refine WP.ie (by rw [le_rk h6 (by omega)]; omega) ?_
    have on : ∀ x, (rkO k).elim (x = none) (fun i => ∃ a, (x = some a ∧ 103 ≤ a) ∧ CRl M a (W i)) → WP (f_X0_tryRules_J37 (f_X0_tryRules_L13 37 (f + d + 1)) 37 (some 13) (nI c) (eP (rkO n1)) (eP (rkO k)) x (some 30) M) (fun _ M' => AF M0 M' ∧ TRm M' T W D n1 (c + 1)) := by
      intro x hx
      obtain ⟨M1, hM1⟩ : ∃ M1, M1 = sR M 30 0 x := ⟨_, rfl⟩
      have p1 : AF M M1 := by
        rw [hM1]
        exact ⟨rfl, fun a k hn => by rw [mR_sR, if_neg (fun z => hn ⟨z.1, Or.inl z.2⟩)], fun a _ => rfl, fun a _ => rfl⟩
      have hA : CA M1 T S (rk W k) := by
        refine ⟨⟨p1.CI hC, p1.T hT, p1.S hS, ?_⟩, hk, hs, h9⟩
        have e : mR M1 30 0 = x := by rw [hM1, mR_sR, if_pos ⟨rfl, rfl⟩]
        unfold rk
        cases hro : rkO k with
        | none => rw [hro] at hx; exact e.trans hx
        | some i =>
          rw [hro] at hx
          obtain ⟨a, ⟨a1, a2⟩, a3⟩ := hx
          exact ⟨a, ⟨e.trans a1, a2⟩, p1.rl a2 a3⟩
      have hC1 := hA.1.1
      have e37 : mI M1 37 = mI M 37 := by rw [hM1]; rfl
      have e44 : mI M1 44 = mI M 44 := by rw [hM1]; rfl
      have e45 : mI M1 45 = mI M 45 := by rw [hM1]; rfl
      unfold f_X0_tryRules_J37
      repeat (first | ((with_reducible apply WP.ce); case h => (simp (disch := omega) only []; with_reducible rfl)) | ((with_reducible apply WP.bd); case h => (simp (disch := omega) only [e_gR, e_gI, e_aI, e_aL, e_oO, e_pI, e_wI, e_wL, Option.map_some, mS_sL, mR_sL, mI_sL, mS_sI, mR_sI, mL_sI, n_cl, e_pR, cob_30 hC, ← hM1]; with_reducible rfl)) | rw [nm_eq] | rw [ckZ_n1] | rw [ckZ_n0])
      repeat (first | ((with_reducible apply WP.ce); case h => (simp (disch := omega) only []; with_reducible rfl)) | ((with_reducible apply WP.bd); case h => (simp (disch := omega) only [e_gR, e_gI, e_aI, e_aL, e_oO, e_pI, e_wI, e_wL, Option.map_some, mS_sL, mR_sL, mI_sL, mS_sI, mR_sI, mL_sI, n_cl, cob_37 hC1]; with_reducible rfl)) | rw [nm_eq] | rw [ckZ_n1] | rw [ckZ_n0])
      rw [eP_rk1, n_mul]
      refine WP.cw (c_allNotes hA ((g.tr p1).N hN0) hD hn (a := k * 5) (by omega)) (fun v M2 c2 => ?_)
      obtain ⟨rfl, c3, c4⟩ := c2
      have hC2 := (hA.of c3.1).1.1
      have g2 : AF M0 M2 := (g.tr p1).tr c3.1.1
      obtain ⟨M3, hM3⟩ : ∃ M3, M3 = sI M2 44 k (bI (fit T (rk W k) D)) := ⟨_, rfl⟩
      have g3 : AF M0 M3 := g2.tr (by rw [hM3]; exact (AFw M2 (by omega) _ _).1)
      have hC3 := (h.of g3).1.1
      have x1 : ixS (mS M2) 2 (some 44) (nI k) = some 44 := cx_isSo hC2 (by omega)
      rw [nar_b]
      repeat (first | ((with_reducible apply WP.ce); case h => (simp (disch := omega) only []; with_reducible rfl)) | ((with_reducible apply WP.bd); case h => (simp (disch := omega) only [e_gR, e_gI, e_aI, e_aL, e_oO, e_pI, e_wI, e_wL, Option.map_some, mS_sL, mR_sL, mI_sL, mS_sI, mR_sI, mL_sI, n_cl, cob_37 hC2, cr_isSo hC2, x1, ← hM3]; with_reducible rfl)) | rw [nm_eq] | rw [ckZ_n1] | rw [ckZ_n0])
      have f37 : mI M3 37 = mI M 37 := by rw [hM3, sI_row (by omega), c3.2.1, e37]
      have t44 : ∀ i, i < k + 1 → mI M3 44 i = bI (FT T W D i) := by
        intro i hi
        rw [hM3, mI_sI]
        by_cases e : i = k
        · rw [if_pos ⟨rfl, e⟩, e]; rfl
        · rw [if_neg (by omega), c3.2.2.1, e44]; exact ht.2.2.1 i (by omega)
      have t45 : ∀ n, n1 = n + 1 → ∀ i s, i < k + 1 → FT T W D i = true → s < tN T → mI M3 45 (5 * i + s) = eP (VT T W n i s) := by
        intro n hn2 i s hi hF hs5
        rw [hM3, sI_row (by omega)]
        by_cases e : i = k
        · subst e
          rw [Nat.mul_comm]
          exact c4 hF n hn2 s hs5
        · rw [c3.2.2.2 _ (by omega), e45]
          exact ht.2.2.2 n hn2 i s (by omega) hF hs5
      have hcl := ctb_le (FT T W D) k
      unfold f_X0_tryRules_J99
      rw [eP_rk]
      refine WP.gd (fun e => ?_) (fun e => ?_)
      · have e' : FT T W D k = false := e
        refine ih (k + 1) f M3 (by omega) g3 ⟨by rw [f37, ctb_f e']; exact ht.1, ?_, t44, t45⟩
        rw [f37]
        have : fs (FT T W D) (k + 1) = fs (FT T W D) k := by
          rw [fs, e']
          cases fs (FT T W D) k <;> rfl
        unfold rdC
        rw [this]
        exact ht.2.1
      · have e' : FT T W D k = true := e
        have a0 : mI M3 37 0 = nI (ctb (FT T W D) k) := by rw [f37]; exact ht.1
        have a1 : mI M3 37 1 = rdC (FT T W D) k := by rw [f37]; exact ht.2.1
        have wr : ∀ v, v = rdC (FT T W D) (k + 1) → WP (f_X0_tryRules_J86 (f_X0_tryRules_L13 37 (f + d + 1)) 37 (some 13) (nI c) (eP (rkO n1)) (eP (rkO k)) v (some 37) M3) (fun _ M' => AF M0 M' ∧ TRm M' T W D n1 (c + 1)) := by
          intro v hv
          obtain ⟨M4, hM4⟩ : ∃ M4, M4 = sI M3 37 1 v := ⟨_, rfl⟩
          have g4 : AF M0 M4 := g3.tr (by rw [hM4]; exact (AFw M3 (by omega) _ _).1)
          have hC4 := (h.of g4).1.1
          have b0 : mI M4 37 0 = nI (ctb (FT T W D) k) := by rw [hM4, mI_sI, if_neg (by omega)]; exact a0
          unfold f_X0_tryRules_J86 f_X0_tryRules_J99
          repeat (first | ((with_reducible apply WP.ce); case h => (simp (disch := omega) only []; with_reducible rfl)) | ((with_reducible apply WP.bd); case h => (simp (disch := omega) only [e_gR, e_gI, e_aI, e_aL, e_oO, e_pI, e_wI, e_wL, Option.map_some, mS_sL, mR_sL, mI_sL, mS_sI, mR_sI, mL_sI, n_cl, cob_37 hC3, ← hM4]; with_reducible rfl)) | rw [nm_eq] | rw [ckZ_n1] | rw [ckZ_n0])
          repeat (first | ((with_reducible apply WP.ce); case h => (simp (disch := omega) only []; with_reducible rfl)) | ((with_reducible apply WP.bd); case h => (simp (disch := omega) only [e_gR, e_gI, e_aI, e_aL, e_oO, e_pI, e_wI, e_wL, Option.map_some, mS_sL, mR_sL, mI_sL, mS_sI, mR_sI, mL_sI, n_cl, cob_37 hC4, b0]; with_reducible rfl)) | rw [nm_eq] | rw [ckZ_n1] | rw [ckZ_n0])
          rw [eP_rk, n_add]
          refine ih (k + 1) f _ (by omega) (g4.tr (AFw M4 (by omega) _ _).1) ⟨?_, ?_, fun i hi => ?_, fun n hn2 i s hi hF hs5 => ?_⟩
          · rw [mI_sI, if_pos ⟨rfl, rfl⟩, ctb_t e']
          · rw [mI_sI, if_neg (by omega), hM4, mI_sI, if_pos ⟨rfl, rfl⟩]; exact hv
          · rw [sI_row (by omega), hM4, sI_row (by omega)]; exact t44 i hi
          · rw [sI_row (by omega), hM4, sI_row (by omega)]; exact t45 n hn2 i s hi hF hs5
        repeat (first | ((with_reducible apply WP.ce); case h => (simp (disch := omega) only []; with_reducible rfl)) | ((with_reducible apply WP.bd); case h => (simp (disch := omega) only [e_gR, e_gI, e_aI, e_aL, e_oO, e_pI, e_wI, e_wL, Option.map_some, mS_sL, mR_sL, mI_sL, mS_sI, mR_sI, mL_sI, n_cl, cob_37 hC3, a0]; with_reducible rfl)) | rw [nm_eq] | rw [ckZ_n1] | rw [ckZ_n0])
        by_cases z : ctb (FT T W D) k = 0
        · refine WP.it (by rw [z]; rfl) (wr _ ?_)
          unfold rdC; rw [fs_st e', if_pos z]; rfl
        · refine WP.ie (by rw [nIz (by omega)]; exact z) ?_
          repeat (first | ((with_reducible apply WP.ce); case h => (simp (disch := omega) only []; with_reducible rfl)) | ((with_reducible apply WP.bd); case h => (simp (disch := omega) only [e_gR, e_gI, e_aI, e_aL, e_oO, e_pI, e_wI, e_wL, Option.map_some, mS_sL, mR_sL, mI_sL, mS_sI, mR_sI, mL_sI, n_cl, cob_37 hC3, a1]; with_reducible rfl)) | rw [nm_eq] | rw [ckZ_n1] | rw [ckZ_n0])
          refine wr _ ?_
          unfold rdC; rw [fs_st e', if_neg z]
    repeat (first | ((with_reducible apply WP.ce); case h => (simp (disch := omega) only []; with_reducible rfl)) | ((with_reducible apply WP.bd); case h => (simp (disch := omega) only [e_gR, e_gI, e_aI, e_aL, e_oO, e_pI, e_wI, e_wL, Option.map_some, mS_sL, mR_sL, mI_sL, mS_sI, mR_sI, mL_sI, n_cl, cob_37 hC, cr_37_pilot hC]; with_reducible rfl)) | rw [nm_eq] | rw [ckZ_n1] | rw [ckZ_n0])
    cases k with
    | zero => exact WP.it (show (-1 : Int32) = -1 from rfl) (on none rfl)
    | succ i =>
      have e0 : eP (rkO (i + 1)) = nI i := rfl
      rw [e0]
      refine WP.ie (by rw [nI_m1 (by omega)]; exact fun h => h) ?_
      obtain ⟨a, ⟨a1, a2⟩, a3⟩ := hw.2.2 i (by omega)
      repeat (first | ((with_reducible apply WP.ce); case h => (simp (disch := omega) only []; with_reducible rfl)) | ((with_reducible apply WP.bd); case h => (simp (disch := omega) only [e_gR, e_gI, e_aI, e_aL, e_oO, e_pI, e_wI, e_wL, Option.map_some, mS_sL, mR_sL, mI_sL, mS_sI, mR_sI, mL_sI, n_cl, e_aR, cx_rules hC, a1]; with_reducible rfl)) | rw [nm_eq] | rw [ckZ_n1] | rw [ckZ_n0])
      exact on (some a) ⟨a, ⟨rfl, a2⟩, a3⟩
theorem c_try {M : Mem} {T : TD} {S : SC} {c : Nat} {W : Nat → RD} {fo : Option Nat} {D : ND} (h : CE M T S c W fo) (hN0 : CNb M 14 D) (hD : NOk T D) {n1 : Nat} (hn : n1 ≤ 61) :
    WP (f_X0_tryRules 37 (some 13) (nI c) (eP (rkO n1)) M) (fun _ M' => AF M M' ∧ TRm M' T W D n1 (c + 1)) := by
  have hC := h.1.1
  have h6 := h.1.2.2.2.1.1
  unfold f_X0_tryRules
  repeat (first | ((with_reducible apply WP.ce); case h => (simp (disch := omega) only []; with_reducible rfl)) | ((with_reducible apply WP.bd); case h => (simp (disch := omega) only [e_gR, e_gI, e_aI, e_aL, e_oO, e_pI, e_wI, e_wL, Option.map_some, mS_sL, mR_sL, mI_sL, mS_sI, mR_sI, mL_sI, n_cl, cob_37 hC]; with_reducible rfl)) | rw [nm_eq] | rw [ckZ_n1] | rw [ckZ_n0])
  obtain ⟨f, hf⟩ := FUd (c + 1) (by omega)
  rw [hf]
  refine c_tryL h hN0 hD hn (c + 1) 0 f _ (by omega) ((AFw M (by omega) _ _).1.tr (AFw _ (by omega) _ _).1) ⟨?_, ?_, fun i hi => absurd hi (Nat.not_lt_zero i), fun n _ i s hi => absurd hi (Nat.not_lt_zero i)⟩
  · rw [mI_sI, if_neg (by omega), mI_sI, if_pos ⟨rfl, rfl⟩]; rfl
  · rw [mI_sI, if_pos ⟨rfl, rfl⟩]; rfl
theorem y_ruled {M : Mem} {T : TD} {S : SC} {c : Nat} {W : Nat → RD} {fo : Option Nat} {D : ND} (h : CE M T S c W fo) (hN0 : CNb M 14 D) (hD : NOk T D) (w : Int32) : WP (f_X9_ruled 0 w M) (fun v M' => v = q_ruled T c W D w ∧ AF M M') := by
  have h0 := h
  obtain ⟨⟨hC, hT, hS, hw, hf⟩, hk, hs, h9, hfo⟩ := h
  have h6 := hw.1
  unfold f_X9_ruled f_X9_ruled_J22 f_X9_ruled_J75
  repeat (first | ((with_reducible apply WP.ce); case h => (simp (disch := omega) only []; with_reducible rfl)) | ((with_reducible apply WP.bd); case h => (simp (disch := omega) only [e_gR, e_gI, e_aI, e_aL, e_oO, e_pI, e_wI, e_wL, Option.map_some, mS_sL, mR_sL, mI_sL, mS_sI, mR_sI, mL_sI, n_cl, cob_0 hC, cr_0_book hC, book_o (ci_book hC), book_r_told (ci_book hC), book_r_scene (ci_book hC), told_o (ci_told hC), scene_o (ci_scene hC), Nat.reduceAdd, c_there hT]; with_reducible rfl)) | rw [nm_eq] | rw [ckZ_n1] | rw [ckZ_n0])
  refine WP.gd (fun g1 => WP.ret ⟨by unfold q_ruled; rw [g1]; rfl, AF.rf M⟩) (fun g1 => ?_)
  repeat (first | ((with_reducible apply WP.ce); case h => (simp (disch := omega) only [c_isWithin]; with_reducible rfl)) | ((with_reducible apply WP.bd); case h => (simp (disch := omega) only [e_gR, e_gI, e_aI, e_aL, e_oO, e_pI, e_wI, e_wL, Option.map_some, mS_sL, mR_sL, mI_sL, mS_sI, mR_sI, mL_sI, n_cl, cob_0 hC]; with_reducible rfl)) | rw [nm_eq] | rw [ckZ_n1] | rw [ckZ_n0])
  refine WP.gd (fun g2 => WP.ret ⟨by unfold q_ruled; rw [g1, show inR w 0 1 = false from g2]; rfl, AF.rf M⟩) (fun g2 => ?_)
  have q : q_ruled T c W D w = (if w = 0 then nI (ctb (FT T W D) (c + 1)) else rdA (FT T W D) (c + 1)) := by
    unfold q_ruled
    rw [g1, show inR w 0 1 = true from g2]
    rfl
  rw [q]
  repeat (first | ((with_reducible apply WP.ce); case h => (simp (disch := omega) only []; with_reducible rfl)) | ((with_reducible apply WP.bd); case h => (simp (disch := omega) only [e_gR, e_gI, e_aI, e_aL, e_oO, e_pI, e_wI, e_wL, Option.map_some, mS_sL, mR_sL, mI_sL, mS_sI, mR_sI, mL_sI, n_cl, cob_0 hC, cr_0_asker hC, cr_rules hC, hw.2.1, cob_37 hC]; with_reducible rfl)) | rw [nm_eq] | rw [ckZ_n1] | rw [ckZ_n0])
  refine WP.cw (c_try h0 hN0 hD (n1 := 0) (by omega)) (fun _ M2 c2 => ?_)
  obtain ⟨fr, t0, t1, -⟩ := c2
  have hC2 := (h0.of fr).1.1
  have hcl := ctb_le (FT T W D) (c + 1)
  by_cases w0 : w = 0
  · refine WP.it w0 ?_
    repeat (first | ((with_reducible apply WP.ce); case h => (simp (disch := omega) only []; with_reducible rfl)) | ((with_reducible apply WP.bd); case h => (simp (disch := omega) only [e_gR, e_gI, e_aI, e_aL, e_oO, e_pI, e_wI, e_wL, Option.map_some, mS_sL, mR_sL, mI_sL, mS_sI, mR_sI, mL_sI, n_cl, cob_0 hC2, cr_0_asker hC2, cob_37 hC2, t0]; with_reducible rfl)) | rw [nm_eq] | rw [ckZ_n1] | rw [ckZ_n0])
    exact WP.ret ⟨by rw [if_pos w0], fr⟩
  · refine WP.ie w0 ?_
    rw [if_neg w0]
    repeat (first | ((with_reducible apply WP.ce); case h => (simp (disch := omega) only []; with_reducible rfl)) | ((with_reducible apply WP.bd); case h => (simp (disch := omega) only [e_gR, e_gI, e_aI, e_aL, e_oO, e_pI, e_wI, e_wL, Option.map_some, mS_sL, mR_sL, mI_sL, mS_sI, mR_sI, mL_sI, n_cl, cob_0 hC2, cr_0_asker hC2, cob_37 hC2, t0]; with_reducible rfl)) | rw [nm_eq] | rw [ckZ_n1] | rw [ckZ_n0])
    have ef := ctb_fs (FT T W D) (c + 1)
    by_cases z : ctb (FT T W D) (c + 1) = 0
    · refine WP.it (by rw [z]; rfl) (WP.ret ⟨?_, fr⟩)
      rw [ef] at z
      unfold rdA; rw [z]; rfl
    · refine WP.ie (by rw [nIz (by omega)]; exact z) ?_
      repeat (first | ((with_reducible apply WP.ce); case h => (simp (disch := omega) only []; with_reducible rfl)) | ((with_reducible apply WP.bd); case h => (simp (disch := omega) only [e_gR, e_gI, e_aI, e_aL, e_oO, e_pI, e_wI, e_wL, Option.map_some, mS_sL, mR_sL, mI_sL, mS_sI, mR_sI, mL_sI, n_cl, cob_0 hC2, cr_0_asker hC2, cob_37 hC2, t1]; with_reducible rfl)) | rw [nm_eq] | rw [ckZ_n1] | rw [ckZ_n0])
      refine WP.ret ⟨?_, fr⟩
      rw [ef] at z
      unfold rdA rdC
      cases hfs : fs (FT T W D) (c + 1) with
      | none => exact absurd hfs z
      | some x => rfl
theorem c_tellAs {M : Mem} {F : Nat → Bool} {V : Nat → Nat → Option Nat} {ns c s k : Nat} (hC : CIs (mS M) (mR M)) (h6 : c ≤ 6) (hs : s < ns) (hns : ns ≤ 5) (hk : k < c + 1) (hV : ∀ i t x, V i t = some x → x < 2 ^ 31) (h44 : ∀ i, i < c + 1 → mI M 44 i = bI (F i)) (h45 : ∀ i s, i < c + 1 → F i = true → s < ns → mI M 45 (5 * i + s) = eP (V i s)) :
    f_X0_howManyTellAs 37 (nI k) (nI c) (nI s) M = some (nI (if F k then sam F V (c + 1) k s else 0), M) := by
  have xk : ixS (mS M) 2 (some 44) (nI k) = some 44 := cx_isSo hC (by omega)
  have vk := h44 k hk
  cases hFk : F k with
  | false =>
    obtain ⟨f, hf⟩ := FUd 0 (by omega)
    rw [f_X0_howManyTellAs, hf, f_X0_howManyTellAs_L6]
    rw [hFk] at vk
    repeat (first | ((with_reducible apply clt_t); case h => (simp (disch := omega) only [hC]; with_reducible rfl)) | ((with_reducible apply bnd_t); case h => (simp (disch := omega) only [e_gR, e_gI, e_aI, e_aL, e_oO, e_pI, e_wI, e_wL, Option.map_some, mS_sL, mR_sL, mI_sL, mS_sI, mR_sI, mL_sI, n_cl, cob_37 hC, cr_isSo hC, xk, vk]; with_reducible rfl)) | rw [nm_eq])
    rw [if_pos (by rfl)]
    rfl
  | true =>
    rw [hFk] at vk
    have lp : ∀ d i f, i + d = c + 1 → f_X0_howManyTellAs_L6 37 (f + d + 1) (nI k) (nI c) (nI s) (nI (sam F V i k s)) (nI i) M = some (nI (sam F V (c + 1) k s), M) := by
      intro d
      induction d with
      | zero =>
        intro i f hi
        have hi : i = c + 1 := by omega
        subst hi
        rw [f_X0_howManyTellAs_L6]
        repeat (first | ((with_reducible apply clt_t); case h => (simp (disch := omega) only [hC]; with_reducible rfl)) | ((with_reducible apply bnd_t); case h => (simp (disch := omega) only [e_gR, e_gI, e_aI, e_aL, e_oO, e_pI, e_wI, e_wL, Option.map_some, mS_sL, mR_sL, mI_sL, mS_sI, mR_sI, mL_sI, n_cl, cob_37 hC, cr_isSo hC, xk, vk]; with_reducible rfl)) | rw [nm_eq])
        rw [if_neg (by decide), if_pos (by rw [n_lt (by omega) (by omega)]; omega)]
        rfl
      | succ d ih =>
        intro i f hi
        have xi : ixS (mS M) 2 (some 44) (nI i) = some 44 := cx_isSo hC (by omega)
        have vi := h44 i (by omega)
        have ih2 := ih (i + 1) f (by omega)
        rw [show f + (d + 1) + 1 = (f + d + 1) + 1 from by omega, f_X0_howManyTellAs_L6]
        repeat (first | ((with_reducible apply clt_t); case h => (simp (disch := omega) only [hC]; with_reducible rfl)) | ((with_reducible apply bnd_t); case h => (simp (disch := omega) only [e_gR, e_gI, e_aI, e_aL, e_oO, e_pI, e_wI, e_wL, Option.map_some, mS_sL, mR_sL, mI_sL, mS_sI, mR_sI, mL_sI, n_cl, cob_37 hC, cr_isSo hC, xk, vk]; with_reducible rfl)) | rw [nm_eq])
        rw [if_neg (by decide), if_neg (by rw [n_lt (by omega) (by omega)]; omega)]
        repeat (first | ((with_reducible apply clt_t); case h => (simp (disch := omega) only [hC]; with_reducible rfl)) | ((with_reducible apply bnd_t); case h => (simp (disch := omega) only [e_gR, e_gI, e_aI, e_aL, e_oO, e_pI, e_wI, e_wL, Option.map_some, mS_sL, mR_sL, mI_sL, mS_sI, mR_sI, mL_sI, n_cl, cob_37 hC, cr_isSo hC, xi, vi]; with_reducible rfl)) | rw [nm_eq])
        unfold f_X0_howManyTellAs_J58
        rw [n_add]
        cases hF : F i with
        | false =>
          rw [if_pos (by rfl)]
          have e1 : sam F V (i + 1) k s = sam F V i k s := ctb_f (by show (F i && _) = false; rw [hF, Bool.false_and])
          rw [e1] at ih2
          exact ih2
        | true =>
          rw [if_neg (by decide)]
          have v1 := h45 i s (by omega) hF hs
          have v2 := h45 k s hk hFk hs
          rw [Nat.mul_comm] at v1 v2
          repeat (first | ((with_reducible apply clt_t); case h => (simp (disch := omega) only [hC]; with_reducible rfl)) | ((with_reducible apply bnd_t); case h => (simp (disch := omega) only [e_gR, e_gI, e_aI, e_aL, e_oO, e_pI, e_wI, e_wL, Option.map_some, mS_sL, mR_sL, mI_sL, mS_sI, mR_sI, mL_sI, n_cl, cob_37 hC, cr_tells hC, n_mul, n_add, cx_tells hC, v1, v2]; with_reducible rfl)) | rw [nm_eq])
          rw [n_add]
          have ee := eP_inj (a := V i s) (b := V k s) (hV i s) (hV k s)
          by_cases hc : V i s = V k s
          · rw [if_pos (by rw [ee]; exact hc)]
            have e1 : sam F V (i + 1) k s = sam F V i k s + 1 := ctb_t (by show (F i && decide (V i s = V k s)) = true; rw [hF, decide_eq_true hc]; rfl)
            rw [e1] at ih2
            exact ih2
          · rw [if_neg (by rw [ee]; exact hc)]
            have e1 : sam F V (i + 1) k s = sam F V i k s := ctb_f (by show (F i && decide (V i s = V k s)) = false; rw [decide_eq_false hc, Bool.and_false])
            rw [e1] at ih2
            exact ih2
    obtain ⟨f, hf⟩ := FUd (c + 1) (by omega)
    rw [f_X0_howManyTellAs, hf]
    exact lp (c + 1) 0 f (by omega)
def PAm (M : Mem) (F : Nat → Bool) (V : Nat → Nat → Option Nat) (N s : Nat) : Prop := mI M 37 0 = (if s = 0 then nI 2147483647 else nI (mst F V N (lkS F V N s))) ∧ mI M 37 1 = (if s = 0 then -1 else nI (lkS F V N s))
theorem c_partingL {M0 : Mem} {T : TD} {S : SC} {c : Nat} {W : Nat → RD} {fo : Option Nat} (h : CE M0 T S c W fo) {F : Nat → Bool} {V : Nat → Nat → Option Nat} (hV : ∀ i t x, V i t = some x → x < 2 ^ 31) (h44 : ∀ i, i < c + 1 → mI M0 44 i = bI (F i)) (h45 : ∀ i s, i < c + 1 → F i = true → s < tN T → mI M0 45 (5 * i + s) = eP (V i s)) :
    ∀ d s f (M : Mem), s + d = tN T → AF M0 M → mI M 44 = mI M0 44 → mI M 45 = mI M0 45 → PAm M F V (c + 1) s →
    WP (f_X0_findParting_L13 37 (f + d + 1) (nI c) (nI s) M) (fun _ M' => AF M0 M' ∧ PAm M' F V (c + 1) (tN T)) := by
  have h6 := h.1.2.2.2.1.1
  intro d
  induction d with
  | zero =>
    intro s f M hsd g e44 e45 hp
    obtain ⟨⟨hC, hT, hS, hw, hf⟩, hk, hs, h9, hfo⟩ := h.of g
    have h2 := hk.1.2.2.2
    have hsd : s = tN T := by omega
    subst hsd
    rw [f_X0_findParting_L13]
    repeat (first | ((with_reducible apply WP.ce); case h => (simp (disch := omega) only []; with_reducible rfl)) | ((with_reducible apply WP.bd); case h => (simp (disch := omega) only [e_gR, e_gI, e_aI, e_aL, e_oO, e_pI, e_wI, e_wL, Option.map_some, mS_sL, mR_sL, mI_sL, mS_sI, mR_sI, mL_sI, n_cl, cob_37 hC, cr_37_told hC, told_o (ci_told hC), hT.1.2.2.2.2]; with_reducible rfl)) | rw [nm_eq] | rw [ckZ_n1] | rw [ckZ_n0])
    exact WP.it (by rw [n_le (by omega) (by omega)]; omega) (WP.ret ⟨g, hp⟩)
  | succ d ih =>
    intro s f M hsd g e44 e45 hp
    obtain ⟨⟨hC, hT, hS, hw, hf⟩, hk, hs, h9, hfo⟩ := h.of g
    have h2 := hk.1.2.2.2
    rw [show f + (d + 1) + 1 = (f + d + 1) + 1 from by omega, f_X0_findParting_L13]
    repeat (first | ((with_reducible apply WP.ce); case h => (simp (disch := omega) only []; with_reducible rfl)) | ((with_reducible apply WP.bd); case h => (simp (disch := omega) only [e_gR, e_gI, e_aI, e_aL, e_oO, e_pI, e_wI, e_wL, Option.map_some, mS_sL, mR_sL, mI_sL, mS_sI, mR_sI, mL_sI, n_cl, cob_37 hC, cr_37_told hC, told_o (ci_told hC), hT.1.2.2.2.2]; with_reducible rfl)) | rw [nm_eq] | rw [ckZ_n1] | rw [ckZ_n0])
    refine WP.ie (by rw [n_le (by omega) (by omega)]; omega) ?_
    have lp : ∀ dd k f2, k + dd = c + 1 → WP (f_X0_findParting_L29 (f_X0_findParting_L13 37 (f + d + 1)) 37 (f2 + dd + 1) (nI c) (nI s) (nI (mxn (fun k => if F k then sam F V (c + 1) k s else 0) k)) (nI k) M) (fun _ M' => AF M0 M' ∧ PAm M' F V (c + 1) (tN T)) := by
      intro dd
      induction dd with
      | zero =>
        intro k f2 hkd
        have hkd : k = c + 1 := by omega
        subst hkd
        have hm := mst_le F V (c + 1) s
        have hm2 := mst_le F V (c + 1) (lkS F V (c + 1) s)
        have em : mxn (fun k => if F k then sam F V (c + 1) k s else 0) (c + 1) = mst F V (c + 1) s := rfl
        rw [em, f_X0_findParting_L29]
        refine WP.it (by rw [n_lt (by omega) (by omega)]; omega) ?_
        repeat (first | ((with_reducible apply WP.ce); case h => (simp (disch := omega) only []; with_reducible rfl)) | ((with_reducible apply WP.bd); case h => (simp (disch := omega) only [e_gR, e_gI, e_aI, e_aL, e_oO, e_pI, e_wI, e_wL, Option.map_some, mS_sL, mR_sL, mI_sL, mS_sI, mR_sI, mL_sI, n_cl, cob_37 hC, hp.1]; with_reducible rfl)) | rw [nm_eq] | rw [ckZ_n1] | rw [ckZ_n0])
        unfold f_X0_findParting_J72
        rw [n_add]
        have set : (s = 0 ∨ mst F V (c + 1) s < mst F V (c + 1) (lkS F V (c + 1) s)) → WP (f_X0_findParting_L13 37 (f + d + 1) (nI c) (nI (s + 1)) (sI (sI M 37 0 (nI (mst F V (c + 1) s))) 37 1 (nI s))) (fun _ M' => AF M0 M' ∧ PAm M' F V (c + 1) (tN T)) := by
          intro hc
          have el : lkS F V (c + 1) (s + 1) = s := by
            rw [lkS]
            by_cases h3 : mst F V (c + 1) s < mst F V (c + 1) (lkS F V (c + 1) s)
            · rw [if_pos h3]
            · rw [if_neg h3]
              rcases hc with hc | hc
              · subst hc; rfl
              · exact absurd hc h3
          refine ih (s + 1) f _ (by omega) (g.tr ((AFw M (by omega) _ _).1.tr (AFw _ (by omega) _ _).1)) (by rw [sI_row (by omega), sI_row (by omega)]; exact e44) (by rw [sI_row (by omega), sI_row (by omega)]; exact e45) ⟨?_, ?_⟩
          · rw [mI_sI, if_neg (by omega), mI_sI, if_pos ⟨rfl, rfl⟩, if_neg (by omega), el]
          · rw [mI_sI, if_pos ⟨rfl, rfl⟩, if_neg (by omega), el]
        by_cases z : s = 0
        · refine WP.ie ?_ ?_
          · rw [if_pos z, n_le (by decide) (by omega)]; omega
          · repeat (first | ((with_reducible apply WP.ce); case h => (simp (disch := omega) only []; with_reducible rfl)) | ((with_reducible apply WP.bd); case h => (simp (disch := omega) only [e_gR, e_gI, e_aI, e_aL, e_oO, e_pI, e_wI, e_wL, Option.map_some, mS_sL, mR_sL, mI_sL, mS_sI, mR_sI, mL_sI, n_cl, cob_37 hC]; with_reducible rfl)) | rw [nm_eq] | rw [ckZ_n1] | rw [ckZ_n0])
            exact set (Or.inl z)
        · rw [if_neg z]
          by_cases hc : mst F V (c + 1) s < mst F V (c + 1) (lkS F V (c + 1) s)
          · refine WP.ie (by rw [n_le (by omega) (by omega)]; omega) ?_
            repeat (first | ((with_reducible apply WP.ce); case h => (simp (disch := omega) only []; with_reducible rfl)) | ((with_reducible apply WP.bd); case h => (simp (disch := omega) only [e_gR, e_gI, e_aI, e_aL, e_oO, e_pI, e_wI, e_wL, Option.map_some, mS_sL, mR_sL, mI_sL, mS_sI, mR_sI, mL_sI, n_cl, cob_37 hC]; with_reducible rfl)) | rw [nm_eq] | rw [ckZ_n1] | rw [ckZ_n0])
            exact set (Or.inr hc)
          · refine WP.it (by rw [n_le (by omega) (by omega)]; omega) ?_
            have el : lkS F V (c + 1) (s + 1) = lkS F V (c + 1) s := by rw [lkS, if_neg hc]
            refine ih (s + 1) f M (by omega) g e44 e45 ⟨?_, ?_⟩
            · rw [hp.1, if_neg z, if_neg (by omega), el]
            · rw [hp.2, if_neg z, if_neg (by omega), el]
      | succ dd ih2 =>
        intro k f2 hkd
        have a1 := c_tellAs (F := F) (V := V) (ns := tN T) (s := s) (k := k) hC h6 (by omega) h2 (by omega) hV (fun i hi => by rw [e44]; exact h44 i hi) (fun i s hi hF hs5 => by rw [e45]; exact h45 i s hi hF hs5)
        have b1 : mxn (fun k => if F k then sam F V (c + 1) k s else 0) k ≤ c + 1 := mxn_le (fun i _ => by
          by_cases h : F i = true
          · simp only [h, if_true]; exact sam_le F V (c + 1) i s
          · simp [h])
        have b2 : (if F k then sam F V (c + 1) k s else 0) ≤ c + 1 := by
          by_cases h : F k = true
          · rw [if_pos h]; exact sam_le F V (c + 1) k s
          · rw [if_neg h]; omega
        rw [show f2 + (dd + 1) + 1 = (f2 + dd + 1) + 1 from by omega, f_X0_findParting_L29]
        refine WP.ie (by rw [n_lt (by omega) (by omega)]; omega) ?_
        repeat (first | ((with_reducible apply WP.ce); case h => (simp (disch := omega) only [a1]; with_reducible rfl)) | ((with_reducible apply WP.bd); case h => (simp (disch := omega) only [e_gR, e_gI, e_aI, e_aL, e_oO, e_pI, e_wI, e_wL, Option.map_some, mS_sL, mR_sL, mI_sL, mS_sI, mR_sI, mL_sI, n_cl, cob_37 hC]; with_reducible rfl)) | rw [nm_eq] | rw [ckZ_n1] | rw [ckZ_n0])
        rw [n_add]
        have e := ih2 (k + 1) f2 (by omega)
        rw [mxn] at e
        by_cases hc : mxn (fun k => if F k then sam F V (c + 1) k s else 0) k < (if F k then sam F V (c + 1) k s else 0)
        · rw [if_pos hc] at e
          rw [if_pos (by rw [n_lt (by omega) (by omega)]; exact hc)]
          exact e
        · rw [if_neg hc] at e
          rw [if_neg (by rw [n_lt (by omega) (by omega)]; exact hc)]
          exact e
    obtain ⟨f2, hf2⟩ := FUd (c + 1) (by omega)
    rw [hf2]
    exact lp (c + 1) 0 f2 (by omega)
theorem y_look {M : Mem} {T : TD} {S : SC} {c : Nat} {W : Nat → RD} {fo : Option Nat} {D : ND} (h : CE M T S c W fo) (hN0 : CNb M 14 D) (hD : NOk T D) (n w : Int32) : WP (f_X9_look 0 n w M) (fun v M' => v = q_look T c W D n w ∧ AF M M') := by
  have h0 := h
  obtain ⟨⟨hC, hT, hS, hw, hf⟩, hk, hs, h9, hfo⟩ := h
  have h6 := hw.1
  have h1 := hk.1.2.2.1
  have h2 := hk.1.2.2.2
  unfold f_X9_look f_X9_look_J32 f_X9_look_J73 f_X9_look_J108
  repeat (first | ((with_reducible apply WP.ce); case h => (simp (disch := omega) only []; with_reducible rfl)) | ((with_reducible apply WP.bd); case h => (simp (disch := omega) only [e_gR, e_gI, e_aI, e_aL, e_oO, e_pI, e_wI, e_wL, Option.map_some, mS_sL, mR_sL, mI_sL, mS_sI, mR_sI, mL_sI, n_cl, cob_0 hC, cr_0_book hC, book_o (ci_book hC), book_r_told (ci_book hC), book_r_scene (ci_book hC), told_o (ci_told hC), scene_o (ci_scene hC), Nat.reduceAdd, c_there hT]; with_reducible rfl)) | rw [nm_eq] | rw [ckZ_n1] | rw [ckZ_n0])
  refine WP.gd (fun g1 => WP.ret ⟨by unfold q_look; rw [g1]; rfl, AF.rf M⟩) (fun g1 => ?_)
  repeat (first | ((with_reducible apply WP.ce); case h => (simp (disch := omega) only [c_isWithin]; with_reducible rfl)) | ((with_reducible apply WP.bd); case h => (simp (disch := omega) only [e_gR, e_gI, e_aI, e_aL, e_oO, e_pI, e_wI, e_wL, Option.map_some, mS_sL, mR_sL, mI_sL, mS_sI, mR_sI, mL_sI, n_cl, cob_0 hC]; with_reducible rfl)) | rw [nm_eq] | rw [ckZ_n1] | rw [ckZ_n0])
  refine WP.gd (fun g2 => WP.ret ⟨by unfold q_look; rw [g1, show inR n 0 60 = false from g2]; rfl, AF.rf M⟩) (fun g2 => ?_)
  repeat (first | ((with_reducible apply WP.ce); case h => (simp (disch := omega) only [c_isWithin]; with_reducible rfl)) | ((with_reducible apply WP.bd); case h => (simp (disch := omega) only [e_gR, e_gI, e_aI, e_aL, e_oO, e_pI, e_wI, e_wL, Option.map_some, mS_sL, mR_sL, mI_sL, mS_sI, mR_sI, mL_sI, n_cl, cob_0 hC]; with_reducible rfl)) | rw [nm_eq] | rw [ckZ_n1] | rw [ckZ_n0])
  refine WP.gd (fun g3 => WP.ret ⟨by unfold q_look; rw [g1, show inR n 0 60 = true from g2, show inR w 0 1 = false from g3]; rfl, AF.rf M⟩) (fun g3 => ?_)
  have g2' : inR n 0 60 = true := g2
  have g3' : inR w 0 1 = true := g3
  obtain ⟨k, rfl, k1, k2, k3⟩ := inR_t g2' (by decide)
  have q : q_look T c W D (nI k) w = (if ctb (FT T W D) (c + 1) = 0 ∨ tN T = 0 then -2 else if w = 0 then nI (lkS (FT T W D) (VT T W k) (c + 1) (tN T)) else nI (mst (FT T W D) (VT T W k) (c + 1) (lkS (FT T W D) (VT T W k) (c + 1) (tN T)))) := by
    unfold q_look
    rw [g1, g2', g3', n_cl k3]
    rfl
  rw [q]
  repeat (first | ((with_reducible apply WP.ce); case h => (simp (disch := omega) only []; with_reducible rfl)) | ((with_reducible apply WP.bd); case h => (simp (disch := omega) only [e_gR, e_gI, e_aI, e_aL, e_oO, e_pI, e_wI, e_wL, Option.map_some, mS_sL, mR_sL, mI_sL, mS_sI, mR_sI, mL_sI, n_cl, cob_0 hC, cr_0_asker hC, cr_rules hC, hw.2.1, cob_37 hC]; with_reducible rfl)) | rw [nm_eq] | rw [ckZ_n1] | rw [ckZ_n0])
  refine WP.cw (c_try h0 hN0 hD (n1 := k + 1) (by omega)) (fun _ M2 c2 => ?_)
  obtain ⟨fr, t0, t1, t2, t3⟩ := c2
  have hE2 := h0.of fr
  have hC2 := hE2.1.1
  have hT2 := hE2.1.2.1
  have hw2 := hE2.1.2.2.2.1
  have hcl := ctb_le (FT T W D) (c + 1)
  repeat (first | ((with_reducible apply WP.ce); case h => (simp (disch := omega) only []; with_reducible rfl)) | ((with_reducible apply WP.bd); case h => (simp (disch := omega) only [e_gR, e_gI, e_aI, e_aL, e_oO, e_pI, e_wI, e_wL, Option.map_some, mS_sL, mR_sL, mI_sL, mS_sI, mR_sI, mL_sI, n_cl, cob_0 hC2, cr_0_asker hC2, cob_37 hC2, t0]; with_reducible rfl)) | rw [nm_eq] | rw [ckZ_n1] | rw [ckZ_n0])
  by_cases z : ctb (FT T W D) (c + 1) = 0
  · exact WP.it (by rw [z]; rfl) (WP.ret ⟨by rw [if_pos (Or.inl z)], fr⟩)
  · refine WP.ie (by rw [nIz (by omega)]; exact z) ?_
    repeat (first | ((with_reducible apply WP.ce); case h => (simp (disch := omega) only []; with_reducible rfl)) | ((with_reducible apply WP.bd); case h => (simp (disch := omega) only [e_gR, e_gI, e_aI, e_aL, e_oO, e_pI, e_wI, e_wL, Option.map_some, mS_sL, mR_sL, mI_sL, mS_sI, mR_sI, mL_sI, n_cl, cob_0 hC2, cr_0_book hC2, book_o (ci_book hC2), book_r_told (ci_book hC2), told_o (ci_told hC2), Nat.reduceAdd, hT2.1.2.2.2.2]; with_reducible rfl)) | rw [nm_eq] | rw [ckZ_n1] | rw [ckZ_n0])
    by_cases z2 : tN T = 0
    · exact WP.it (by rw [z2]; rfl) (WP.ret ⟨by rw [if_pos (Or.inr z2)], fr⟩)
    · refine WP.ie (by rw [nIz (by omega)]; exact z2) ?_
      rw [if_neg (by omega)]
      repeat (first | ((with_reducible apply WP.ce); case h => (simp (disch := omega) only []; with_reducible rfl)) | ((with_reducible apply WP.bd); case h => (simp (disch := omega) only [e_gR, e_gI, e_aI, e_aL, e_oO, e_pI, e_wI, e_wL, Option.map_some, mS_sL, mR_sL, mI_sL, mS_sI, mR_sI, mL_sI, n_cl, cob_0 hC2, cr_0_asker hC2, hw2.2.1, cob_37 hC2]; with_reducible rfl)) | rw [nm_eq] | rw [ckZ_n1] | rw [ckZ_n0])
      have fp : WP (f_X0_findParting 37 (nI c) M2) (fun _ M' => AF M2 M' ∧ PAm M' (FT T W D) (VT T W k) (c + 1) (tN T)) := by
        unfold f_X0_findParting
        repeat (first | ((with_reducible apply WP.ce); case h => (simp (disch := omega) only []; with_reducible rfl)) | ((with_reducible apply WP.bd); case h => (simp (disch := omega) only [e_gR, e_gI, e_aI, e_aL, e_oO, e_pI, e_wI, e_wL, Option.map_some, mS_sL, mR_sL, mI_sL, mS_sI, mR_sI, mL_sI, n_cl, cob_37 hC2]; with_reducible rfl)) | rw [nm_eq] | rw [ckZ_n1] | rw [ckZ_n0])
        obtain ⟨f, hf⟩ := FUd (tN T) (by omega)
        rw [hf]
        refine c_partingL hE2 (fun i t x hx => by have := tl_lt hx; omega) t2 (fun i s hi hF hs5 => t3 k rfl i s hi hF hs5) (tN T) 0 f _ (by omega) ((AFw M2 (by omega) _ _).1.tr (AFw _ (by omega) _ _).1) (by rw [sI_row (by omega), sI_row (by omega)]) (by rw [sI_row (by omega), sI_row (by omega)]) ⟨?_, ?_⟩
        · rw [mI_sI, if_pos ⟨rfl, rfl⟩]; rfl
        · rw [mI_sI, if_neg (by omega), mI_sI, if_pos ⟨rfl, rfl⟩]; rfl
      refine WP.cw fp (fun _ M3 c3 => ?_)
      obtain ⟨fr3, p0, p1⟩ := c3
      have hC3 := (hE2.of fr3).1.1
      rw [if_neg z2] at p0 p1
      by_cases w0 : w = 0
      · refine WP.it w0 ?_
        repeat (first | ((with_reducible apply WP.ce); case h => (simp (disch := omega) only []; with_reducible rfl)) | ((with_reducible apply WP.bd); case h => (simp (disch := omega) only [e_gR, e_gI, e_aI, e_aL, e_oO, e_pI, e_wI, e_wL, Option.map_some, mS_sL, mR_sL, mI_sL, mS_sI, mR_sI, mL_sI, n_cl, cob_0 hC3, cr_0_asker hC3, cob_37 hC3, p1]; with_reducible rfl)) | rw [nm_eq] | rw [ckZ_n1] | rw [ckZ_n0])
        exact WP.ret ⟨by rw [if_pos w0], fr.tr fr3⟩
      · refine WP.ie w0 ?_
        repeat (first | ((with_reducible apply WP.ce); case h => (simp (disch := omega) only []; with_reducible rfl)) | ((with_reducible apply WP.bd); case h => (simp (disch := omega) only [e_gR, e_gI, e_aI, e_aL, e_oO, e_pI, e_wI, e_wL, Option.map_some, mS_sL, mR_sL, mI_sL, mS_sI, mR_sI, mL_sI, n_cl, cob_0 hC3, cr_0_asker hC3, cob_37 hC3, p0]; with_reducible rfl)) | rw [nm_eq] | rw [ckZ_n1] | rw [ckZ_n0])
        exact WP.ret ⟨by rw [if_neg w0], fr.tr fr3⟩
