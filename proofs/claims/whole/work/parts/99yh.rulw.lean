/-! THE REFERENCE: a whole test -/
/-- how a test ends -/
def TSe (m i e : Nat) (M : Mem) (t : TP) (b : Nat) (r : TRs) (M' : Mem) : Prop := FTs m i e M M' ∧ mI M' m 19 = nI r.1 ∧ (∃ p', p' ≤ t.1 + 1 ∧ mI M' m 18 = nI p') ∧ (r.1 = 0 → (mI M' m 18 = nI (bk t r.2.1) ∧ mI M' m 24 = nI r.2.2.1 ∧ mI M' m 23 = nI 0) ∧ ∃ F, mI M' m 22 = nI (e + F.length) ∧ FG M' m i e F ∧ (∀ x ∈ F, eok x) ∧ (∀ v st, evl v F st = some (bL (r.2.2.2 v) :: st)) ∧ 2 * F.length + b ≤ r.2.1 + 2 * r.2.2.1 ∧ 0 < F.length)
section RTW
variable {m i e b q : Nat} {M M1 : Mem} {t : TP}
theorem x_tsF (hR : RIs (mS M) (mR M) m) {r : TRs} (hr : r.1 < 10000) (h : FTL m i e M M1 t r.1) (n : Nat) (l1 l2 : Int32) : WP (f_X10_test_L9 m (n + 1) l1 l2 M1) (fun _ M' => TSe m i e M t b r M') := by
  have hR1 := h.2.1.RI hR
  have h19 := h.2.2.1
  have fin : WP (f_X10_test_J202 m M1) (fun _ M' => TSe m i e M t b r M') := by
    unfold f_X10_test_J202
    exact WP.ret ⟨h.2.1, h19, h.2.2.2, fun z => absurd z h.1⟩
  rw [f_X10_test_L9]
  by_cases c : l2 = 0
  · exact WP.it c fin
  · refine WP.ie c ?_
    repeat (first | ((with_reducible apply WP.ce); case h => (simp (disch := omega) only []; with_reducible rfl)) | ((with_reducible apply WP.bd); case h => (simp (disch := omega) only [e_gR, e_gI, e_aI, e_aL, e_oO, e_pI, e_wI, e_wL, Option.map_some, mS_sL, mR_sL, mI_sL, mS_sI, mR_sI, mL_sI, n_cl, ro_m hR1, h19]; with_reducible rfl)) | rw [nm_eq] | rw [ckZ_n1] | rw [ckZ_n0])
    exact WP.ie (by rw [nIz (by omega)]; exact h.1) fin
/-- a bracket is closed -/
theorem RTS.cls {D : QD} {p c : Nat} {x : QD} {stk : STK} {F : List (Nat × Nat)} (h : RTS m i e M M1 t b (bk t p) (some D, p, c, (12, x) :: stk) F) (hE : tkE t p = bk t p + 1 ∧ tkE t p ≤ t.1) : RTS m i e M (sI (sI (sI M1 m 18 (nI (tkE t p))) m 25 (nI stk.length)) m 23 (nI (dph stk))) t b (tkE t p) (some D, tkE t p, c, stk) F := by
  obtain ⟨fr, ⟨⟨g19, g18, g22⟩, g24, g23, g25, go⟩, ⟨hG, hO⟩, hv, ⟨hq, hp, hc⟩, ⟨hw, hdp, hl⟩, hbd⟩ := h
  have kk : ∀ j, j ≠ 18 → j ≠ 25 → j ≠ 23 → mI (sI (sI (sI M1 m 18 (nI (tkE t p))) m 25 (nI stk.length)) m 23 (nI (dph stk))) m j = mI M1 m j := fun j j1 j2 j3 => by rw [mI_sI, if_neg (by omega), mI_sI, if_neg (by omega), mI_sI, if_neg (by omega)]
  have hl : stk.length + 1 ≤ p := hl
  have hbd : 2 * (F.length + (0 + nbr stk)) + b ≤ p + 2 * c := hbd
  have hdp : 1 + dph stk ≤ 10 := hdp
  have hge := bk_ge t p
  refine ⟨fr.tr (((FTs.ws M1 (Or.inl rfl) _ : FTs m i e M1 (sI M1 m 18 (nI (tkE t p)))).tr (FTs.ws _ (by omega) _) (Nat.le_refl _)).tr (FTs.ws _ (by omega) _) (Nat.le_refl _)) (Nat.le_refl _), ⟨⟨by rw [kk 19 (by decide) (by decide) (by decide)]; exact g19, by rw [mI_sI, if_neg (by omega), mI_sI, if_neg (by omega), mI_sI, if_pos ⟨rfl, rfl⟩], by rw [kk 22 (by decide) (by decide) (by decide)]; exact g22⟩, by rw [kk 24 (by decide) (by decide) (by decide)]; exact g24, by rw [mI_sI, if_pos ⟨rfl, rfl⟩], by rw [mI_sI, if_neg (by omega), mI_sI, if_pos ⟨rfl, rfl⟩], fun j hj => ?_⟩, ⟨fun j hj => ?_, hO⟩, fun v st => hv v st, ⟨⟨hE.2, rfl⟩, hE.2, hc⟩, ⟨hw.1, by show dph stk ≤ 10; omega, by show stk.length ≤ tkE t p; omega⟩, by show 2 * (F.length + nbr stk) + b ≤ tkE t p + 2 * c; omega⟩
  · have hj : j < stk.length := hj
    have := go j (by show j < stk.length + 1; omega)
    have this : mI M1 (m + 24) j = nI (((12, x) :: stk).getD (stk.length + 1 - 1 - j) (0, fun _ => false)).1 := this
    rw [show stk.length + 1 - 1 - j = (stk.length - 1 - j) + 1 by omega] at this
    rw [sI_row (by omega), sI_row (by omega), sI_row (by omega)]
    exact this
  · rw [sI_row (by omega), sI_row (by omega), sI_row (by omega), sI_row (by omega), sI_row (by omega), sI_row (by omega)]
    exact hG j hj
theorem x_testS (h4 : TOk2 t) (hi : i < 6) (hb : 2 * e ≤ b) (hR : RIs (mS M) (mR M) m) (ht : RTp M m t) (h20 : mI M m 20 = nI i) (h26 : mI M m 26 = nI 11) {s : TSt} {F : List (Nat × Nat)} (h : RTS m i e M M1 t b q s F) (n : Nat)
    (K : ∀ s' M' F' q', tsS t s = .inr s' → RTS m i e M M' t b q' s' F' → WP (f_X10_test_L9 m (n + 1) (nI (if s'.1.isSome then 0 else 1)) (nI 1) M') (fun _ M' => TSe m i e M t b (tsR t s) M')) :
    WP (f_X10_test_L9 m (n + 2) (nI (if s.1.isSome then 0 else 1)) (nI 1) M1) (fun _ M' => TSe m i e M t b (tsR t s) M') := by
  have hL := h4.1
  have hR1 := h.1.RI hR
  have hp := h.2.2.2.2.1.2.1
  have g19 := h.2.1.1.1
  have flt : ∀ (r : TRs) (M' : Mem) (l1 l2 : Int32), tsS t s = .inl r → FTL m i e M M' t r.1 → WP (f_X10_test_L9 m (n + 1) l1 l2 M') (fun _ M' => TSe m i e M t b (tsR t s) M') := fun r M' l1 l2 hs hf => by
    rw [tsR_l h4 hp hs]
    exact x_tsF hR (tsS_r h4 hp hs).1 hf n l1 l2
  obtain ⟨o, p, c, stk⟩ := s
  have hp : p ≤ t.1 := hp
  have hbk := bk_le hp
  have hge := bk_ge t p
  cases o with
  | none =>
    show WP (f_X10_test_L9 m (n + 2) (nI 1) (nI 1) M1) _
    rw [f_X10_test_L9]
    refine WP.ie (by decide) ?_
    repeat (first | ((with_reducible apply WP.ce); case h => (simp (disch := omega) only []; with_reducible rfl)) | ((with_reducible apply WP.bd); case h => (simp (disch := omega) only [e_gR, e_gI, e_aI, e_aL, e_oO, e_pI, e_wI, e_wL, Option.map_some, mS_sL, mR_sL, mI_sL, mS_sI, mR_sI, mL_sI, n_cl, ro_m hR1, g19]; with_reducible rfl)) | rw [nm_eq] | rw [ckZ_n1] | rw [ckZ_n0])
    refine WP.it rfl ?_
    refine WP.ie (by decide) ?_
    repeat (first | ((with_reducible apply WP.ce); case h => (simp (disch := omega) only []; with_reducible rfl)) | ((with_reducible apply WP.bd); case h => (simp (disch := omega) only [e_gR, e_gI, e_aI, e_aL, e_oO, e_pI, e_wI, e_wL, Option.map_some, mS_sL, mR_sL, mI_sL, mS_sI, mR_sI, mL_sI, n_cl, ro_m hR1]; with_reducible rfl)) | rw [nm_eq] | rw [ckZ_n1] | rw [ckZ_n0])
    refine WP.cw (x_fact h4 hi hb hR ht h20 h26 h) (fun v M2 c2 => ?_)
    unfold f_X10_test_J36
    rcases c2 with ⟨s', F', q', c3, c4, rfl⟩ | ⟨r, w, c3, c4, rfl⟩
    · have := K s' M2 F' q' c3 c4
      cases hs : s'.1.isSome with
      | false =>
        rw [hs] at this
        exact WP.it rfl this
      | true =>
        rw [hs] at this
        exact WP.ie (show ¬ bI true = 0 by decide) this
    · cases w with
      | false => exact WP.it rfl (flt r M2 _ _ c3 c4)
      | true => exact WP.ie (show ¬ bI true = 0 by decide) (flt r M2 _ _ c3 c4)
  | some D =>
    show WP (f_X10_test_L9 m (n + 2) (nI 0) (nI 1) M1) _
    rw [f_X10_test_L9]
    refine WP.ie (by decide) ?_
    repeat (first | ((with_reducible apply WP.ce); case h => (simp (disch := omega) only []; with_reducible rfl)) | ((with_reducible apply WP.bd); case h => (simp (disch := omega) only [e_gR, e_gI, e_aI, e_aL, e_oO, e_pI, e_wI, e_wL, Option.map_some, mS_sL, mR_sL, mI_sL, mS_sI, mR_sI, mL_sI, n_cl, ro_m hR1, g19]; with_reducible rfl)) | rw [nm_eq] | rw [ckZ_n1] | rw [ckZ_n0])
    refine WP.it rfl ?_
    refine WP.it rfl ?_
    repeat (first | ((with_reducible apply WP.ce); case h => (simp (disch := omega) only []; with_reducible rfl)) | ((with_reducible apply WP.bd); case h => (simp (disch := omega) only [e_gR, e_gI, e_aI, e_aL, e_oO, e_pI, e_wI, e_wL, Option.map_some, mS_sL, mR_sL, mI_sL, mS_sI, mR_sI, mL_sI, n_cl, ro_m hR1]; with_reducible rfl)) | rw [nm_eq] | rw [ckZ_n1] | rw [ckZ_n0])
    refine WP.cw (x_answers h4 hi hR ht h20 h26 hb (Or.inl rfl) h) (fun _ M2 c2 => ?_)
    obtain ⟨F2, h2⟩ := c2
    have hR2 := h2.1.RI hR
    repeat (first | ((with_reducible apply WP.ce); case h => (simp (disch := omega) only []; with_reducible rfl)) | ((with_reducible apply WP.bd); case h => (simp (disch := omega) only [e_gR, e_gI, e_aI, e_aL, e_oO, e_pI, e_wI, e_wL, Option.map_some, mS_sL, mR_sL, mI_sL, mS_sI, mR_sI, mL_sI, n_cl, ro_m hR2]; with_reducible rfl)) | rw [nm_eq] | rw [ckZ_n1] | rw [ckZ_n0])
    refine WP.cw (h2.bkM h4 hR ht) (fun _ M3 h3 => ?_)
    have h3 : RTS m i e M M3 t b (bk t p) (some (popk 9 stk D).2, p, c, (popk 9 stk D).1) F2 := h3
    have hR3 := h3.1.RI hR
    have ht3 := h3.1.tp ht
    have w0 := h.2.2.2.2.2.1.1
    have w0 : Wf stk := w0
    obtain ⟨w1, w2⟩ := popk_wf (k := 9) (by decide) stk D w0
    have g18 := h3.2.1.1.2.1
    have a1 := r_stood hR3 ht3 h4 g18 (by omega) sw_and
    have a2 := r_stood hR3 ht3 h4 g18 (by omega) sw_or
    repeat (first | ((with_reducible apply WP.ce); case h => (simp (disch := omega) only [a1, a2]; with_reducible rfl)) | ((with_reducible apply WP.bd); case h => (simp (disch := omega) only [e_gR, e_gI, e_aI, e_aL, e_oO, e_pI, e_wI, e_wL, Option.map_some, mS_sL, mR_sL, mI_sL, mS_sI, mR_sI, mL_sI, n_cl, ro_m hR3]; with_reducible rfl)) | rw [nm_eq] | rw [ckZ_n1] | rw [ckZ_n0])
    refine WP.cw (x_answers h4 hi hR ht h20 h26 hb (Or.inr (Or.inl rfl)) h3) (fun _ M4 c4 => ?_)
    obtain ⟨F4, h5⟩ := c4
    have eS : tsS t (some D, p, c, stk) = (if lts t (bk t p) = w_and then .inr (none, tkE t p, c, (10, (popk 10 (popk 9 stk D).1 (popk 9 stk D).2).2) :: (popk 10 (popk 9 stk D).1 (popk 9 stk D).2).1)
        else if lts t (bk t p) = w_or then .inr (none, tkE t p, c, (11, (popk 11 (popk 10 (popk 9 stk D).1 (popk 9 stk D).2).1 (popk 10 (popk 9 stk D).1 (popk 9 stk D).2).2).2) :: (popk 11 (popk 10 (popk 9 stk D).1 (popk 9 stk D).2).1 (popk 10 (popk 9 stk D).1 (popk 9 stk D).2).2).1)
        else tsE t p c (popk 11 (popk 10 (popk 9 stk D).1 (popk 9 stk D).2).1 (popk 10 (popk 9 stk D).1 (popk 9 stk D).2).2)) := rfl
    obtain ⟨w3, w4⟩ := popk_wf (k := 10) (by decide) (popk 9 stk D).1 (popk 9 stk D).2 w1
    have w5 := popk_10 (D := (popk 9 stk D).2) w1 w2
    obtain ⟨s2, D2, e2⟩ : ∃ s2 D2, popk 10 (popk 9 stk D).1 (popk 9 stk D).2 = (s2, D2) := ⟨_, _, rfl⟩
    rw [e2] at h5 eS w3 w4 w5
    have h5 : RTS m i e M M4 t b (bk t p) (some D2, p, c, s2) F4 := h5
    have w3 : Wf s2 := w3
    have w4 : tpk s2 ≠ 10 := w4
    have w5 : tpk s2 ≠ 9 := w5
    obtain ⟨w6, w7⟩ := popk_wf (k := 11) (by decide) s2 D2 w3
    obtain ⟨w8, w9⟩ := popk_11 (D := D2) w3 w5 w4
    have hR4 := h5.1.RI hR
    -- one more waits
    have opnW : ∀ (k : Nat) (D' : QD) (s' : STK) (F' : List (Nat × Nat)) (N : Mem) (l3 : Int32) (y : Nat), RTS m i e M N t b (bk t p) (some D', p, c, s') F' → (k = 10 ∨ k = 11) → tpk s' ≠ 9 ∧ tpk s' ≠ 10 → (k = 11 → tpk s' ≠ 11) → 2 ≤ y → tkE t p = bk t p + y → tkE t p ≤ t.1 → (if l3 = 0 then (2 : Nat) else 3) = y → tsS t (some D, p, c, stk) = .inr (none, tkE t p, c, (k, D') :: s') →
        WP (f_X10_test_J105 (f_X10_test_L9 m (n + 1)) m (nI 1) l3 (nI k) (some m) N) (fun _ M' => TSe m i e M t b (tsR t (some D, p, c, stk)) M') := by
      intro k D' s' F' N l3 y hN hk1 hk2 hk3 hy hE1 hE2 hl3 hst
      have hRN := hN.1.RI hR
      have n25 : mI N m 25 = nI s'.length := hN.2.1.2.2.2.1
      have n18 := hN.2.1.1.2.1
      have nl : s'.length ≤ p := hN.2.2.2.2.2.1.2.2
      have a3 := r_psh (k := k) hRN (n := s'.length) (by omega) n25
      have a4 : f_X10_opens m (nI k) N = some ((), psM N m s'.length k) := by
        unfold f_X10_opens
        rw [if_neg (by rw [n_eq (by omega) (by decide)]; omega), if_neg (by rw [n_eq (by omega) (by decide)]; omega)]
        exact a3
      have nx := hN.psh (k := k) hk1 hk2 hk3 ⟨by omega, hE2⟩
      obtain ⟨N1, hN1⟩ : ∃ N1, N1 = psM N m s'.length k := ⟨_, rfl⟩
      rw [← hN1] at a4 nx
      have hRN1 : RIs (mS N1) (mR N1) m := by rw [hN1]; exact hRN
      have m18 : mI N1 m 18 = nI (bk t p) := by rw [hN1, psM_m, if_neg (by decide)]; exact n18
      have kk := K _ _ _ _ hst nx
      unfold f_X10_test_J105 f_X10_test_J122 f_X10_test_J199
      repeat (first | ((with_reducible apply WP.ce); case h => (simp (disch := omega) only [a4]; with_reducible rfl)) | ((with_reducible apply WP.bd); case h => (simp (disch := omega) only [e_gR, e_gI, e_aI, e_aL, e_oO, e_pI, e_wI, e_wL, Option.map_some, mS_sL, mR_sL, mI_sL, mS_sI, mR_sI, mL_sI, n_cl, ro_m hRN]; with_reducible rfl)) | rw [nm_eq] | rw [ckZ_n1] | rw [ckZ_n0])
      repeat (first | ((with_reducible apply WP.ce); case h => (simp (disch := omega) only []; with_reducible rfl)) | ((with_reducible apply WP.bd); case h => (simp (disch := omega) only [e_gR, e_gI, e_aI, e_aL, e_oO, e_pI, e_wI, e_wL, Option.map_some, mS_sL, mR_sL, mI_sL, mS_sI, mR_sI, mL_sI, n_cl, ro_m hRN1, m18]; with_reducible rfl)) | rw [nm_eq] | rw [ckZ_n1] | rw [ckZ_n0])
      by_cases c3 : l3 = 0
      · rw [if_pos c3] at hl3
        refine WP.it c3 ?_
        repeat (first | ((with_reducible apply WP.ce); case h => (simp (disch := omega) only []; with_reducible rfl)) | ((with_reducible apply WP.bd); case h => (simp (disch := omega) only [e_gR, e_gI, e_aI, e_aL, e_oO, e_pI, e_wI, e_wL, Option.map_some, mS_sL, mR_sL, mI_sL, mS_sI, mR_sI, mL_sI, n_cl, ro_m hRN1, n_add]; with_reducible rfl)) | rw [nm_eq] | rw [ckZ_n1] | rw [ckZ_n0])
        rw [show bk t p + 2 = tkE t p by omega]
        exact kk
      · rw [if_neg c3] at hl3
        refine WP.ie c3 ?_
        repeat (first | ((with_reducible apply WP.ce); case h => (simp (disch := omega) only []; with_reducible rfl)) | ((with_reducible apply WP.bd); case h => (simp (disch := omega) only [e_gR, e_gI, e_aI, e_aL, e_oO, e_pI, e_wI, e_wL, Option.map_some, mS_sL, mR_sL, mI_sL, mS_sI, mR_sI, mL_sI, n_cl, ro_m hRN1, n_add]; with_reducible rfl)) | rw [nm_eq] | rw [ckZ_n1] | rw [ckZ_n0])
        rw [show bk t p + 3 = tkE t p by omega]
        exact kk
    by_cases ha : lts t (bk t p) = w_and
    · have ho : ¬ lts t (bk t p) = w_or := fun z => by rw [ha] at z; exact absurd z (by decide)
      have ew := tkE_w (by decide) ha
      have hE : tkE t p = bk t p + 3 := ew.2
      have hm := wk_mv (by decide) hp ha
      rw [if_pos ha] at eS
      rw [decide_eq_true ha, decide_eq_false ho]
      refine WP.ie (show ¬ bI true = 0 by decide) ?_
      unfold f_X10_test_J82 f_X10_test_J93
      refine WP.it rfl ?_
      refine WP.ie (show ¬ bI true = 0 by decide) ?_
      exact opnW 10 D2 s2 F4 M4 (bI true) 3 h5 (Or.inl rfl) ⟨w5, w4⟩ (fun z => by omega) (by decide) hE hm.2 rfl eS
    · rw [if_neg ha] at eS
      rw [decide_eq_false ha]
      refine WP.it rfl ?_
      by_cases ho : lts t (bk t p) = w_or
      · have ew := tkE_w (by decide) ho
        have hE : tkE t p = bk t p + 2 := ew.2
        have hm := wk_mv (by decide) hp ho
        rw [if_pos ho] at eS
        rw [decide_eq_true ho]
        refine WP.ie (show ¬ bI true = 0 by decide) ?_
        unfold f_X10_test_J82 f_X10_test_J93
        refine WP.ie (show ¬ bI true = 0 by decide) ?_
        repeat (first | ((with_reducible apply WP.ce); case h => (simp (disch := omega) only []; with_reducible rfl)) | ((with_reducible apply WP.bd); case h => (simp (disch := omega) only [e_gR, e_gI, e_aI, e_aL, e_oO, e_pI, e_wI, e_wL, Option.map_some, mS_sL, mR_sL, mI_sL, mS_sI, mR_sI, mL_sI, n_cl, ro_m hR4]; with_reducible rfl)) | rw [nm_eq] | rw [ckZ_n1] | rw [ckZ_n0])
        refine WP.cw (x_answers h4 hi hR ht h20 h26 hb (Or.inr (Or.inr rfl)) h5) (fun _ M5 c5 => ?_)
        obtain ⟨F5, h6⟩ := c5
        refine WP.it rfl ?_
        exact opnW 11 _ _ F5 M5 (bI false) 2 h6 (Or.inr rfl) ⟨w8, w9⟩ (fun _ => w7) (by decide) hE hm.2 rfl eS
      · rw [if_neg ho] at eS
        rw [decide_eq_false ho]
        refine WP.it rfl ?_
        repeat (first | ((with_reducible apply WP.ce); case h => (simp (disch := omega) only []; with_reducible rfl)) | ((with_reducible apply WP.bd); case h => (simp (disch := omega) only [e_gR, e_gI, e_aI, e_aL, e_oO, e_pI, e_wI, e_wL, Option.map_some, mS_sL, mR_sL, mI_sL, mS_sI, mR_sI, mL_sI, n_cl, ro_m hR4]; with_reducible rfl)) | rw [nm_eq] | rw [ckZ_n1] | rw [ckZ_n0])
        refine WP.cw (x_answers h4 hi hR ht h20 h26 hb (Or.inr (Or.inr rfl)) h5) (fun _ M5 c5 => ?_)
        obtain ⟨F5, h6⟩ := c5
        obtain ⟨s3, D3, e3⟩ : ∃ s3 D3, popk 11 s2 D2 = (s3, D3) := ⟨_, _, rfl⟩
        rw [show (popk 11 ((s2, D2) : STK × QD).1 ((s2, D2) : STK × QD).2) = popk 11 s2 D2 from rfl] at eS
        rw [e3] at h6 eS w6 w7 w8 w9
        have h6 : RTS m i e M M5 t b (bk t p) (some D3, p, c, s3) F5 := h6
        have hR5 := h6.1.RI hR
        have ht5 := h6.1.tp ht
        have a3 := x_top h4 hR h6
        have g18' := h6.2.1.1.2.1
        have g19' := h6.2.1.1.1
        repeat (first | ((with_reducible apply WP.ce); case h => (simp (disch := omega) only [a3]; with_reducible rfl)) | ((with_reducible apply WP.bd); case h => (simp (disch := omega) only [e_gR, e_gI, e_aI, e_aL, e_oO, e_pI, e_wI, e_wL, Option.map_some, mS_sL, mR_sL, mI_sL, mS_sI, mR_sI, mL_sI, n_cl, ro_m hR5]; with_reducible rfl)) | rw [nm_eq] | rw [ckZ_n1] | rw [ckZ_n0])
        cases s3 with
        | nil =>
          refine WP.ie (show ¬ (-1 : Int32) = nI 12 by decide) ?_
          unfold f_X10_test_J199
          have eS : tsS t (some D, p, c, stk) = .inl (0, p, c, D3) := eS
          rw [tsR_l h4 (show ((some D, p, c, stk) : TSt).2.1 ≤ t.1 from hp) eS, f_X10_test_L9]
          refine WP.it rfl ?_
          unfold f_X10_test_J202
          obtain ⟨fr, ⟨⟨z19, z18, z22⟩, z24, z23, z25, go⟩, ⟨hG, hO⟩, hv, ⟨hq, -, hc⟩, ⟨hw, hdp, hl⟩, hbd⟩ := h6
          have hF0 : 0 < F5.length := by
            cases F5 with
            | nil => have := hv (fun _ => 0) []; cases this
            | cons a l => show 0 < l.length + 1; omega
          exact WP.ret ⟨fr, z19, ⟨bk t p, by omega, z18⟩, fun _ => ⟨⟨z18, z24, z23⟩, F5, z22, hG, hO, hv, hbd, hF0⟩⟩
        | cons x s4 =>
          obtain ⟨xk, xD⟩ := x
          have x12 : xk = 12 := by
            have := w6.2.1
            have w7 : xk ≠ 11 := w7
            have w8 : xk ≠ 9 := w8
            have w9 : xk ≠ 10 := w9
            have this : xk = 9 ∨ xk = 10 ∨ xk = 11 ∨ xk = 12 := this
            omega
          subst x12
          have g25' : mI M5 m 25 = nI (s4.length + 1) := h6.2.1.2.2.2.1
          have g23' : mI M5 m 23 = nI (1 + dph s4) := h6.2.1.2.2.1
          have sl : s4.length + 1 ≤ p := h6.2.2.2.2.2.1.2.2
          have sd : 1 + dph s4 ≤ 10 := h6.2.2.2.2.2.1.2.1
          refine WP.it (by rw [if_neg (by show ¬ s4.length + 1 = 0; omega)]; rfl) ?_
          have a4 := r_sign hR5 ht5 h4 g18' (by omega)
          repeat (first | ((with_reducible apply WP.ce); case h => (simp (disch := omega) only [a4]; with_reducible rfl)) | ((with_reducible apply WP.bd); case h => (simp (disch := omega) only [e_gR, e_gI, e_aI, e_aL, e_oO, e_pI, e_wI, e_wL, Option.map_some, mS_sL, mR_sL, mI_sL, mS_sI, mR_sI, mL_sI, n_cl, ro_m hR5]; with_reducible rfl)) | rw [nm_eq] | rw [ckZ_n1] | rw [ckZ_n0])
          have j164 : ∀ N : Mem, RIs (mS N) (mR N) m → mI N m 18 = nI (bk t p) → mI N m 25 = nI (s4.length + 1) → mI N m 23 = nI (1 + dph s4) → f_X10_test_J164 (f_X10_test_L9 m (n + 1)) m (nI 0) (nI 1) N = f_X10_test_L9 m (n + 1) (nI 0) (nI 1) (sI (sI (sI N m 18 (nI (bk t p + 1))) m 25 (nI s4.length)) m 23 (nI (dph s4))) := fun N hRN n18 n25 n23 => by
            obtain ⟨N1, hN1⟩ : ∃ N1, N1 = sI N m 18 (nI (bk t p + 1)) := ⟨_, rfl⟩
            have hRN1 : RIs (mS N1) (mR N1) m := by rw [hN1]; exact hRN
            have m25 : mI N1 m 25 = nI (s4.length + 1) := by rw [hN1, mI_sI, if_neg (by omega)]; exact n25
            obtain ⟨N2, hN2⟩ : ∃ N2, N2 = sI N1 m 25 (nI s4.length) := ⟨_, rfl⟩
            have hRN2 : RIs (mS N2) (mR N2) m := by rw [hN2]; exact hRN1
            have m23 : mI N2 m 23 = nI (1 + dph s4) := by rw [hN2, mI_sI, if_neg (by omega), hN1, mI_sI, if_neg (by omega)]; exact n23
            unfold f_X10_test_J164 f_X10_test_J199
            repeat (first | ((with_reducible apply clt_t); case h => (simp (disch := omega) only [hR]; with_reducible rfl)) | ((with_reducible apply bnd_t); case h => (simp (disch := omega) only [e_gR, e_gI, e_aI, e_aL, e_oO, e_pI, e_wI, e_wL, Option.map_some, mS_sL, mR_sL, mI_sL, mS_sI, mR_sI, mL_sI, n_cl, ro_m hRN, n18, n_add, ← hN1]; with_reducible rfl)) | rw [nm_eq])
            repeat (first | ((with_reducible apply clt_t); case h => (simp (disch := omega) only [hR]; with_reducible rfl)) | ((with_reducible apply bnd_t); case h => (simp (disch := omega) only [e_gR, e_gI, e_aI, e_aL, e_oO, e_pI, e_wI, e_wL, Option.map_some, mS_sL, mR_sL, mI_sL, mS_sI, mR_sI, mL_sI, n_cl, ro_m hRN1, m25]; with_reducible rfl)) | rw [nm_eq])
            rw [n_sub (by omega), show s4.length + 1 - 1 = s4.length from rfl, ← hN2]
            repeat (first | ((with_reducible apply clt_t); case h => (simp (disch := omega) only [hR]; with_reducible rfl)) | ((with_reducible apply bnd_t); case h => (simp (disch := omega) only [e_gR, e_gI, e_aI, e_aL, e_oO, e_pI, e_wI, e_wL, Option.map_some, mS_sL, mR_sL, mI_sL, mS_sI, mR_sI, mL_sI, n_cl, ro_m hRN2]; with_reducible rfl)) | rw [nm_eq])
            rw [m23, n_sub (by omega), show 1 + dph s4 - 1 = dph s4 by omega, ← hN1, ← hN2]
          by_cases hg : tkG t p = nI 93
          · have hE := tkE_sg h4 sg_93 hg
            have hm := gk_mv (by decide) hp hg
            have eS : tsS t (some D, p, c, stk) = .inr (some D3, tkE t p, c, s4) := by
              rw [eS]
              show (if tkG t p = nI 93 then _ else _) = _
              rw [if_pos hg]
            refine WP.it (by rw [tk_sn h4 _ sg_93]; exact hg) ?_
            rw [j164 M5 hR5 g18' g25' g23', ← hE]
            exact K _ _ _ _ eS (h6.cls ⟨hE, hm.2⟩)
          · have eS : tsS t (some D, p, c, stk) = .inl (1 + 8 * bk t p, p, c, fun _ => false) := by
              rw [eS]
              show (if tkG t p = nI 93 then _ else _) = _
              rw [if_neg hg]
            refine WP.ie (by rw [tk_sn h4 _ sg_93]; exact hg) ?_
            have a5 := r_fails hR5 (fa := 0) (s := bk t p) (c := 0) (by decide) (by omega) (by decide) g19'
            obtain ⟨M6, hM6⟩ : ∃ M6, M6 = sI M5 m 19 (nI (ft1 0 (bk t p) 0)) := ⟨_, rfl⟩
            rw [← hM6] at a5
            have hR6 : RIs (mS M6) (mR M6) m := by rw [hM6]; exact hR5
            have kk : ∀ j, j ≠ 19 → mI M6 m j = mI M5 m j := fun j hj => by rw [hM6, mI_sI, if_neg (by omega)]
            repeat (first | ((with_reducible apply WP.ce); case h => (simp (disch := omega) only [a5]; with_reducible rfl)) | ((with_reducible apply WP.bd); case h => (simp (disch := omega) only [e_gR, e_gI, e_aI, e_aL, e_oO, e_pI, e_wI, e_wL, Option.map_some, mS_sL, mR_sL, mI_sL, mS_sI, mR_sI, mL_sI, n_cl, ro_m hR5, g18']; with_reducible rfl)) | rw [nm_eq] | rw [ckZ_n1] | rw [ckZ_n0])
            rw [j164 M6 hR6 (by rw [kk 18 (by decide)]; exact g18') (by rw [kk 25 (by decide)]; exact g25') (by rw [kk 23 (by decide)]; exact g23')]
            refine flt _ _ _ _ eS ⟨by show 1 + 8 * bk t p ≠ 0; omega, ?_, ?_, bk t p + 1, by omega, ?_⟩
            · exact h6.1.tr (((((by rw [hM6]; exact FTs.ws M5 (Or.inr (Or.inl rfl)) _ : FTs m i e M5 M6)).tr (FTs.ws M6 (Or.inl rfl) _) (Nat.le_refl _)).tr (FTs.ws _ (by omega) _) (Nat.le_refl _)).tr (FTs.ws _ (by omega) _) (Nat.le_refl _)) (Nat.le_refl _)
            · rw [mI_sI, if_neg (by omega), mI_sI, if_neg (by omega), mI_sI, if_neg (by omega), hM6, mI_sI, if_pos ⟨rfl, rfl⟩]; rfl
            · rw [mI_sI, if_neg (by omega), mI_sI, if_neg (by omega), mI_sI, if_pos ⟨rfl, rfl⟩]
theorem x_testL (h4 : TOk2 t) (hi : i < 6) (hb : 2 * e ≤ b) (hR : RIs (mS M) (mR M) m) (ht : RTp M m t) (h20 : mI M m 20 = nI i) (h26 : mI M m 26 = nI 11) : ∀ d f (s : TSt) (M1 : Mem) (F : List (Nat × Nat)) (q : Nat), t.1 - s.2.1 ≤ d → RTS m i e M M1 t b q s F → WP (f_X10_test_L9 m (f + d + 2) (nI (if s.1.isSome then 0 else 1)) (nI 1) M1) (fun _ M' => TSe m i e M t b (tsR t s) M') := by
  intro d
  induction d with
  | zero =>
    intro f s M1 F q hd h
    refine x_testS h4 hi hb hR ht h20 h26 h f (fun s' M' F' q' hs h' => ?_)
    have := tsS_mv h4 h.2.2.2.2.1.2.1 hs
    omega
  | succ d ih =>
    intro f s M1 F q hd h
    rw [show f + (d + 1) + 2 = (f + d + 1) + 2 by omega]
    refine x_testS h4 hi hb hR ht h20 h26 h (f + d + 1) (fun s' M' F' q' hs h' => ?_)
    have := tsS_mv h4 h.2.2.2.2.1.2.1 hs
    rw [tsR_r h4 h.2.2.2.2.1.2.1 hs]
    exact ih f s' M' F' q' (by omega) h'
theorem x_test (h4 : TOk2 t) (hi : i < 6) {p c : Nat} (hb : 2 * e ≤ p + 2 * c) (hR : RIs (mS M) (mR M) m) (ht : RTp M m t) (h20 : mI M m 20 = nI i) (h26 : mI M m 26 = nI 11) (hp : p ≤ t.1) (hc : c ≤ 60) (g19 : mI M m 19 = nI 0) (g18 : mI M m 18 = nI p) (g22 : mI M m 22 = nI e) (g24 : mI M m 24 = nI c) (g23 : mI M m 23 = nI 0) :
    WP (f_X10_test m M) (fun _ M' => TSe m i e M t (p + 2 * c) (tsR t (none, p, c, [])) M') := by
  have hL := h4.1
  obtain ⟨M1, hM1⟩ : ∃ M1, M1 = sI M m 25 (nI 0) := ⟨_, rfl⟩
  have kk : ∀ j, j ≠ 25 → mI M1 m j = mI M m j := fun j hj => by rw [hM1, mI_sI, if_neg (by omega)]
  unfold f_X10_test
  repeat (first | ((with_reducible apply WP.ce); case h => (simp (disch := omega) only []; with_reducible rfl)) | ((with_reducible apply WP.bd); case h => (simp (disch := omega) only [e_gR, e_gI, e_aI, e_aL, e_oO, e_pI, e_wI, e_wL, Option.map_some, mS_sL, mR_sL, mI_sL, mS_sI, mR_sI, mL_sI, n_cl, ro_m hR, ← hM1]; with_reducible rfl)) | rw [nm_eq] | rw [ckZ_n1] | rw [ckZ_n0])
  obtain ⟨f, hf⟩ : ∃ f, FU = f + 400 + 2 := ⟨100000 - 402, by unfold FU; omega⟩
  rw [hf]
  exact x_testL h4 hi hb hR ht h20 h26 400 f (none, p, c, []) M1 [] p (by show t.1 - p ≤ 400; omega) ⟨by rw [hM1]; exact FTs.ws M (by omega) _, ⟨⟨by rw [kk 19 (by decide)]; exact g19, by rw [kk 18 (by decide)]; exact g18, by rw [kk 22 (by decide)]; exact g22⟩, by rw [kk 24 (by decide)]; exact g24, by rw [kk 23 (by decide)]; exact g23, by rw [hM1, mI_sI, if_pos ⟨rfl, rfl⟩]; rfl, fun j hj => absurd hj (Nat.not_lt_zero j)⟩, ⟨fun j hj => absurd hj (Nat.not_lt_zero j), fun x hx => by cases hx⟩, fun v st => rfl, ⟨⟨hp, rfl⟩, hp, hc⟩, ⟨trivial, by show 0 ≤ 10; decide, Nat.zero_le _⟩, by show 2 * (0 + 0) + (p + 2 * c) ≤ p + 2 * c; omega⟩
end RTW
