/-! THE CLASS: what a ship tells by a rule; the turns; a tide -/
theorem PY.rl {M M' : Mem} {a : Nat} {w : RD} (h : PY M M') (ha : 103 ≤ a) (hr : CRl M a w) : CRl M' a w := hr.of (fun i _ => by rw [h.1]) (fun k => by rw [h.2.1]) (h.2.2.1 a (by omega)) (h.2.2.1 (a + 1) (by omega))
theorem c_pickL {q : Nat} {T : TD} {S : SC} (hk : TOk T) (hq : QOk q) (hs : SOk S) {w : RD} {a s : Nat} (ha : 103 ≤ a) (h5 : s < tN T) : ∀ d i n (M : Mem), i + d = tJ T → CIs (mS M) (mR M) → CT M 15 T → IScene (mS M) (mR M) q → CC M q T S → PM M q T S → mR M 30 0 = some a → CRl M a w → VS M T S s →
    WP (f_X3_pick_L36 30 (n + d + 1) (nI (sW S s)) (eP (chs (lks T (some w) S s) (fun j => (sW S s).testBit j) i).1) (chs (lks T (some w) S s) (fun j => (sW S s).testBit j) i).2 (nI i) M) (fun v M' => v = eP (pick T (some w) S s) ∧ PY M M') := by
  have h1 := hk.1.2.2.1
  have h2 := hk.1.2.2.2
  have hw := hs.2.2.1 s
  intro d
  induction d with
  | zero =>
    intro i n M hi hC hT hJ hS hp hr hl hv
    rw [f_X3_pick_L36]
    repeat (first | ((with_reducible apply WP.ce); case h => (simp (disch := omega) only []; with_reducible rfl)) | ((with_reducible apply WP.bd); case h => (simp (disch := omega) only [e_gR, e_gI, e_aI, e_aL, e_oO, e_pI, e_wI, e_wL, Option.map_some, mS_sL, mR_sL, mI_sL, mS_sI, mR_sI, mL_sI, n_cl, cob_30 hC, cr_30_told hC, told_o (ci_told hC), hT.1.2.2.2.1]; with_reducible rfl)) | rw [nm_eq] | rw [ckZ_n1] | rw [ckZ_n0])
    refine WP.it (by rw [n_le (by omega) (by omega)]; omega) (WP.ret ⟨?_, PY.rf M⟩)
    rw [show i = tJ T by omega]
    rfl
  | succ d ih =>
    intro i n M hi hC hT hJ hS hp hr hl hv
    rw [show n + (d + 1) + 1 = (n + d + 1) + 1 from by omega, f_X3_pick_L36]
    repeat (first | ((with_reducible apply WP.ce); case h => (simp (disch := omega) only []; with_reducible rfl)) | ((with_reducible apply WP.bd); case h => (simp (disch := omega) only [e_gR, e_gI, e_aI, e_aL, e_oO, e_pI, e_wI, e_wL, Option.map_some, mS_sL, mR_sL, mI_sL, mS_sI, mR_sI, mL_sI, n_cl, cob_30 hC, cr_30_told hC, told_o (ci_told hC), hT.1.2.2.2.1]; with_reducible rfl)) | rw [nm_eq] | rw [ckZ_n1] | rw [ckZ_n0])
    refine WP.ie (by rw [n_le (by omega) (by omega)]; omega) ?_
    rw [n_bit (by omega) (by omega)]
    cases hb : (sW S s).testBit i with
    | false =>
      refine WP.it (by decide) ?_
      unfold f_X3_pick_J91
      rw [n_add]
      have e := ih (i + 1) n M (by omega) hC hT hJ hS hp hr hl hv
      rw [chs] at e
      simp only [hb, Bool.false_and, Bool.false_eq_true, if_false] at e
      exact e
    | true =>
      refine WP.ie (by decide) ?_
      have hl0 := hl
      obtain ⟨nn, i1, ⟨tm, lk, kn, ⟨f0, f1, f2⟩, g0, g1, g2⟩, i3⟩ := hl0
      repeat (first | ((with_reducible apply WP.ce); case h => (simp (disch := omega) only []; with_reducible rfl)) | ((with_reducible apply WP.bd); case h => (simp (disch := omega) only [e_gR, e_gI, e_aI, e_aL, e_oO, e_pI, e_wI, e_wL, Option.map_some, mS_sL, mR_sL, mI_sL, mS_sI, mR_sI, mL_sI, n_cl, cob_30 hC]; with_reducible rfl)) | rw [nm_eq] | rw [ckZ_n1] | rw [ckZ_n0])
      refine WP.cw (c_lookAtJoke hC hT hk hq hJ hS hs hp hr ha i1.1 f1 f2 (j := i) (by omega) hv) (fun _ M1 c => ?_)
      obtain ⟨p1, v1, j1⟩ := c
      have hC1 := p1.CI hC
      have hr1 : mR M1 30 0 = some a := by rw [p1.2.1]; exact hr
      have ho1 : oS (mS M1) 4 (some a) = some a := oS_ok (by rw [p1.1]; exact i1.1)
      obtain ⟨g, hg⟩ := i3 M1 (by rw [p1.1, p1.2.1]; exact i1) (p1.2.2.1 _ (by omega)) (cl_values hC1)
      rw [c_wd hk hs h5 (by omega) v1 j1 g1 g2] at hg
      have p2 : PY M1 (sLr M1 (a + 2) g) := ⟨rfl, rfl, fun _ _ => rfl, fun b hb => rowU_n _ _ (by omega)⟩
      have p := p1.tr p2
      repeat (first | ((with_reducible apply WP.ce); case h => (simp (disch := omega) only [hg]; with_reducible rfl)) | ((with_reducible apply WP.bd); case h => (simp (disch := omega) only [e_gR, e_gI, e_aI, e_aL, e_oO, e_pI, e_wI, e_wL, Option.map_some, mS_sL, mR_sL, mI_sL, mS_sI, mR_sI, mL_sI, n_cl, cob_30 hC1, cr_values hC1, hr1, ho1]; with_reducible rfl)) | rw [nm_eq] | rw [ckZ_n1] | rw [ckZ_n0])
      unfold f_X3_pick_J91
      simp only [lgc_le, n_add]
      have e := ih (i + 1) n (sLr M1 (a + 2) g) (by omega) (p.CI hC) (p.X.T hT) (p.J hJ) (p.X.C hq hS) (p.P hp) (by rw [p.2.1]; exact hr) (p.rl ha hl) v1
      rw [chs] at e
      by_cases hc : (chs (lks T (some w) S s) (fun j => (sW S s).testBit j) i).2 < lks T (some w) S s i
      · refine WP.ie (fun h => h hc) ?_
        simp only [hb, hc, decide_true, Bool.and_true, if_true] at e
        exact WP.mono e (fun v M' c => ⟨c.1, p.tr c.2⟩)
      · refine WP.it hc ?_
        simp only [hb, hc, decide_false, Bool.and_false, Bool.false_eq_true, if_false] at e
        exact WP.mono e (fun v M' c => ⟨c.1, p.tr c.2⟩)
theorem c_pick {M : Mem} {q : Nat} {T : TD} {S : SC} (hC : CIs (mS M) (mR M)) (hT : CT M 15 T) (hk : TOk T) (hq : QOk q) (hJ : IScene (mS M) (mR M) q) (hS : CC M q T S) (hs : SOk S) (hp : PM M q T S) {r : Option RD} (hr : CRu M r) {s : Nat} (h5 : s < tN T) : WP (f_X3_pick 30 (nI s) M) (fun v M' => v = eP (pick T r S s) ∧ PY M M') := by
  have h1 := hk.1.2.2.1
  have h2 := hk.1.2.2.2
  unfold f_X3_pick
  cases r with
  | none =>
    have hr : mR M 30 0 = none := hr
    have a1 := c_leastNew hC hT hk hq hJ hS hs hp h5
    repeat (first | ((with_reducible apply WP.ce); case h => (simp (disch := omega) only []; with_reducible rfl)) | ((with_reducible apply WP.bd); case h => (simp (disch := omega) only [e_gR, e_gI, e_aI, e_aL, e_oO, e_pI, e_wI, e_wL, Option.map_some, mS_sL, mR_sL, mI_sL, mS_sI, mR_sI, mL_sI, n_cl, cob_30 hC, hr]; with_reducible rfl)) | rw [nm_eq] | rw [ckZ_n1] | rw [ckZ_n0])
    refine WP.it (show (none : Option Nat) = none from rfl) ?_
    repeat (first | ((with_reducible apply WP.ce); case h => (simp (disch := omega) only [a1]; with_reducible rfl)) | ((with_reducible apply WP.bd); case h => (simp (disch := omega) only [e_gR, e_gI, e_aI, e_aL, e_oO, e_pI, e_wI, e_wL, Option.map_some, mS_sL, mR_sL, mI_sL, mS_sI, mR_sI, mL_sI, n_cl, cob_30 hC]; with_reducible rfl)) | rw [nm_eq] | rw [ckZ_n1] | rw [ckZ_n0])
    exact WP.ret ⟨by rw [pick_none], PY.rf M⟩
  | some w =>
    obtain ⟨a, ⟨a1, a2⟩, a3⟩ := hr
    repeat (first | ((with_reducible apply WP.ce); case h => (simp (disch := omega) only []; with_reducible rfl)) | ((with_reducible apply WP.bd); case h => (simp (disch := omega) only [e_gR, e_gI, e_aI, e_aL, e_oO, e_pI, e_wI, e_wL, Option.map_some, mS_sL, mR_sL, mI_sL, mS_sI, mR_sI, mL_sI, n_cl, cob_30 hC, a1]; with_reducible rfl)) | rw [nm_eq] | rw [ckZ_n1] | rw [ckZ_n0])
    refine WP.ie (show ¬ (some a = (none : Option Nat)) from fun h => by cases h) ?_
    repeat (first | ((with_reducible apply WP.ce); case h => (simp (disch := omega) only []; with_reducible rfl)) | ((with_reducible apply WP.bd); case h => (simp (disch := omega) only [e_gR, e_gI, e_aI, e_aL, e_oO, e_pI, e_wI, e_wL, Option.map_some, mS_sL, mR_sL, mI_sL, mS_sI, mR_sI, mL_sI, n_cl, cob_30 hC]; with_reducible rfl)) | rw [nm_eq] | rw [ckZ_n1] | rw [ckZ_n0])
    refine WP.cw (c_lookAtShip hC hT hk hq hJ hS hs hp h5) (fun _ M1 c => ?_)
    have hC1 := c.1.CI hC
    have hS1 := c.1.X.C hq hS
    have hJ1 := c.1.J hJ
    have hp1 := c.1.P hp
    repeat (first | ((with_reducible apply WP.ce); case h => (simp (disch := omega) only []; with_reducible rfl)) | ((with_reducible apply WP.bd); case h => (simp (disch := omega) only [e_gR, e_gI, e_aI, e_aL, e_oO, e_pI, e_wI, e_wL, Option.map_some, mS_sL, mR_sL, mI_sL, mS_sI, mR_sI, mL_sI, n_cl, cob_30 hC1, hp1.1, scene_o hJ1, scene_r_knows hJ1, scene_x_knows hJ1, (hS1.2.2 s h5).1]; with_reducible rfl)) | rw [nm_eq] | rw [ckZ_n1] | rw [ckZ_n0])
    obtain ⟨n, hn⟩ := FUd (tJ T) (by omega)
    rw [hn]
    exact WP.mono (c_pickL hk hq hs a2 h5 (tJ T) 0 n M1 (by omega) hC1 (c.1.X.T hT) hJ1 hS1 hp1 (by rw [c.1.2.1]; exact a1) (c.1.rl a2 a3) c.2) (fun v M' g => ⟨g.1, c.1.tr g.2⟩)
theorem tld_lt {T : TD} {r : Option RD} {ov : Option (Nat × Option Nat)} (ho : OvOk T ov) {S : SC} {s j : Nat} (hc : tld T r ov S s = some j) : j < tJ T ∧ wts S s = true := by
  unfold tld at hc
  by_cases hw : wts S s = true
  · rw [if_pos hw] at hc; exact ⟨cho_lt ho hc, hw⟩
  · rw [if_neg hw] at hc; cases hc
theorem c_J39 {M : Mem} {q : Nat} {T : TD} {S : SC} (hC : CIs (mS M) (mR M)) (hT : CT M 15 T) (hk : TOk T) (hq : QOk q) (hJ : IScene (mS M) (mR M) q) (hS : CC M q T S) (hs : SOk S) (hp : PM M q T S) {r : Option RD} {i : Nat} (hi : i < tN T) {qt : Bool} (h7 : mI M 30 7 = bI qt) {b stop : Nat} {k5 : Int32 → Int32 → Int32 → Mem → Option (Int32 × Mem)} {Q : Int32 → Mem → Prop}
    (k : ∀ M', PF q M M' → CC M' q T (trn T r none S i) → PM M' q T (trn T r none S i) → mI M' 30 7 = bI (qt && (tld T r none S i).isNone) → mI M' 31 = upd (mI M 31) i (eP (tld T r none S i)) → WP (k5 (nI stop) (nI (b ||| (if pss T r none S i then 2 ^ i else 0))) (nI (i + 1)) M') Q) :
    WP (f_X3_turns_J39 k5 30 (nI stop) (nI b) (nI i) (eP (tld T r none S i)) (nI i) (some 31) M) Q := by
  have h1 := hk.1.2.2.1
  have h2 := hk.1.2.2.2
  obtain ⟨M1, hM1⟩ : ∃ M1, M1 = sI M 31 i (eP (tld T r none S i)) := ⟨_, rfl⟩
  have p1 : PX M M1 := by rw [hM1]; exact PXw _ (by omega) _ _
  have hC1 := p1.CI hC
  have hS1 := p1.C hq hS
  have hJ1 := (p1.PF q).J hq hJ
  have hv : mI M1 31 i = eP (tld T r none S i) := by rw [hM1, mI_sI_s, upd_s]
  have e30 : mI M1 30 = mI M 30 := by rw [hM1, sI_row (by decide)]
  have eR : mR M1 = mR M := by rw [hM1]; rfl
  have hp1 : PM M1 q T S := by unfold PM; rw [e30, eR]; exact hp
  unfold f_X3_turns_J39
  repeat (first | ((with_reducible apply WP.ce); case h => (simp (disch := omega) only []; with_reducible rfl)) | ((with_reducible apply WP.bd); case h => (simp (disch := omega) only [e_gR, e_gI, e_aI, e_aL, e_oO, e_pI, e_wI, e_wL, Option.map_some, mS_sL, mR_sL, mI_sL, mS_sI, mR_sI, mL_sI, n_cl, cx_said hC, ← hM1]; with_reducible rfl)) | rw [nm_eq] | rw [ckZ_n1] | rw [ckZ_n0])
  repeat (first | ((with_reducible apply WP.ce); case h => (simp (disch := omega) only []; with_reducible rfl)) | ((with_reducible apply WP.bd); case h => (simp (disch := omega) only [e_gR, e_gI, e_aI, e_aL, e_oO, e_pI, e_wI, e_wL, Option.map_some, mS_sL, mR_sL, mI_sL, mS_sI, mR_sI, mL_sI, n_cl, cob_30 hC1, cr_said hC1, cx_said hC1, hv]; with_reducible rfl)) | rw [nm_eq] | rw [ckZ_n1] | rw [ckZ_n0])
  unfold f_X3_turns_J74
  rw [n_add]
  cases hc : tld T r none S i with
  | none =>
    refine WP.it rfl ?_
    have e := k M1 (p1.PF q) (by unfold trn; rw [hc]; exact hS1) (by unfold trn; rw [hc]; exact hp1) (by rw [e30, hc, h7]; simp) (by rw [hM1, mI_sI_s])
    unfold pss at e
    rw [hc] at e
    simp only [Option.elim, Bool.false_eq_true, if_false, Nat.or_zero] at e
    exact e
  | some j =>
    obtain ⟨hj, hw⟩ := tld_lt (OvN T) hc
    have hv2 : mI M1 31 i = nI j := by rw [hv, hc]; rfl
    refine WP.ie (by show ¬ nI j = -1; rw [nI_m1 (by omega)]; exact fun h => h) ?_
    have a1 := c_hears hC1 (p1.T hT) hk hq hJ1 hS1 hs hp1 hi hj
    obtain ⟨b1, b2', b3⟩ := hrM_P hk hq hp1 (s := i) hj
    repeat (first | ((with_reducible apply WP.ce); case h => (simp (disch := omega) only [a1]; with_reducible rfl)) | ((with_reducible apply WP.bd); case h => (simp (disch := omega) only [e_gR, e_gI, e_aI, e_aL, e_oO, e_pI, e_wI, e_wL, Option.map_some, mS_sL, mR_sL, mI_sL, mS_sI, mR_sI, mL_sI, n_cl, cob_30 hC1, cr_said hC1, cx_said hC1, hv2]; with_reducible rfl)) | rw [nm_eq] | rw [ckZ_n1] | rw [ckZ_n0])
    have e := k (hrM M1 q T S i j) ((p1.PF q).tr (hrM_PF M1 q T S i j)) (by unfold trn; rw [hc]; exact hrM_C hq hS1 i j) (by unfold trn; rw [hc]; exact b1) (by rw [b2', hc]; simp) (by rw [b3, hM1, mI_sI_s])
    unfold pss at e
    rw [hc] at e
    simp only [Option.elim] at e
    cases hn : isN T S j with
    | false =>
      simp only [hn, Bool.false_eq_true, if_false, Nat.or_zero] at e
      exact WP.it rfl e
    | true =>
      simp only [hn, if_true] at e
      refine WP.ie (by decide) ?_
      simp (disch := omega) only [nm_eq, n_shl, n_or]
      exact e
/-- nobody tells -/
def qtr (T : TD) (r : Option RD) (Sc : Nat → SC) : Nat → Nat → Bool
  | _, 0 => true
  | i, d + 1 => (tld T r none (Sc i) i).isNone && qtr T r Sc (i + 1) d
theorem c_turnsL {q : Nat} {T : TD} (hk : TOk T) (hq : QOk q) {r : Option RD} {Sc : Nat → SC} (hSc : ∀ i, SOk (Sc i)) {stop : Nat} (hst : stop ≤ tN T) : ∀ d i n b qt (M : Mem), i + d = stop → (∀ k, i ≤ k → k < stop → Sc (k + 1) = trn T r none (Sc k) k) → CIs (mS M) (mR M) → CT M 15 T → IScene (mS M) (mR M) q → CC M q T (Sc i) → PM M q T (Sc i) → CRu M r → mI M 30 7 = bI qt →
    WP (f_X3_turns_L5 30 (n + d + 1) (nI stop) (nI b) (nI i) M) (fun v M' => (∃ b', v = nI b' ∧ (b = bmk (fun s => pss T r none (Sc s) s) i → b' = bmk (fun s => pss T r none (Sc s) s) stop)) ∧ PF q M M' ∧ CC M' q T (Sc stop) ∧ PM M' q T (Sc stop) ∧ mI M' 30 7 = bI (qt && qtr T r Sc i d) ∧ (∀ s, s < i → mI M' 31 s = mI M 31 s) ∧ (∀ s, i ≤ s → s < stop → mI M' 31 s = eP (tld T r none (Sc s) s))) := by
  have h2 := hk.1.2.2.2
  intro d
  induction d with
  | zero =>
    intro i n b qt M hi hch hC hT hJ hS hp hr h7
    have hi : i = stop := by omega
    subst hi
    rw [f_X3_turns_L5]
    refine WP.it (by rw [n_le (by omega) (by omega)]; omega) (WP.ret ⟨⟨b, rfl, fun e => e⟩, PF.rf q M, hS, hp, by rw [h7, qtr, Bool.and_true], fun _ _ => rfl, fun s h1 h2 => absurd h1 (by omega)⟩)
  | succ d ih =>
    intro i n b qt M hi hch hC hT hJ hS hp hr h7
    have hit : i < tN T := by omega
    have hwl := wtm_lt hk (Sc i)
    rw [show n + (d + 1) + 1 = (n + d + 1) + 1 from by omega, f_X3_turns_L5]
    refine WP.ie (by rw [n_le (by omega) (by omega)]; omega) ?_
    repeat (first | ((with_reducible apply WP.ce); case h => (simp (disch := omega) only []; with_reducible rfl)) | ((with_reducible apply WP.bd); case h => (simp (disch := omega) only [e_gR, e_gI, e_aI, e_aL, e_oO, e_pI, e_wI, e_wL, Option.map_some, mS_sL, mR_sL, mI_sL, mS_sI, mR_sI, mL_sI, n_cl, cob_30 hC, cr_said hC, hp.2.2]; with_reducible rfl)) | rw [nm_eq] | rw [ckZ_n1] | rw [ckZ_n0])
    have go : ∀ M1, PY M M1 → WP (f_X3_turns_J39 (f_X3_turns_L5 30 (n + d + 1)) 30 (nI stop) (nI b) (nI i) (eP (tld T r none (Sc i) i)) (nI i) (some 31) M1) (fun v M' => (∃ b', v = nI b' ∧ (b = bmk (fun s => pss T r none (Sc s) s) i → b' = bmk (fun s => pss T r none (Sc s) s) stop)) ∧ PF q M M' ∧ CC M' q T (Sc stop) ∧ PM M' q T (Sc stop) ∧ mI M' 30 7 = bI (qt && qtr T r Sc i (d + 1)) ∧ (∀ s, s < i → mI M' 31 s = mI M 31 s) ∧ (∀ s, i ≤ s → s < stop → mI M' 31 s = eP (tld T r none (Sc s) s))) := by
      intro M1 p1
      have pf1 := p1.X.PF q
      refine c_J39 (p1.CI hC) (p1.X.T hT) hk hq (p1.J hJ) (p1.X.C hq hS) (hSc i) (p1.P hp) (r := r) hit (qt := qt) (by rw [p1.2.2.1 30 (by decide)]; exact h7) (fun M2 pf hS2 hp2 h72 hsd => ?_)
      have pf2 := pf1.tr pf
      have hn := hch i (by omega) (by omega)
      rw [← hn] at hS2 hp2
      refine WP.mono (ih (i + 1) n _ _ M2 (by omega) (fun k k1 k2 => hch k (by omega) k2) (pf2.CI hC) (pf2.T hq hT) (pf2.J hq hJ) hS2 hp2 (pf2.ru hq hr) h72) (fun v M' c => ?_)
      obtain ⟨⟨b', c1, c2⟩, c3, c4, c5, c6, c7, c8⟩ := c
      refine ⟨⟨b', c1, fun e => c2 (by rw [bmk, ← e])⟩, pf2.tr c3, c4, c5, by rw [c6, qtr, Bool.and_assoc], fun s hs => ?_, fun s s1 s2 => ?_⟩
      · rw [c7 s (by omega), hsd, upd_o _ _ (by omega), p1.2.2.1 31 (by decide)]
      · by_cases hsi : s = i
        · subst hsi
          rw [c7 s (by omega), hsd, upd_s]
        · exact c8 s (by omega) s2
    rw [n_bit (by omega) (by omega), wtm_bit hit]
    cases hw : wts (Sc i) i with
    | false =>
      refine WP.it (by decide) ?_
      have e := go M (PY.rf M)
      have e2 : tld T r none (Sc i) i = none := by unfold tld; rw [hw]; rfl
      rw [e2] at e
      exact e
    | true =>
      refine WP.ie (by decide) ?_
      repeat (first | ((with_reducible apply WP.ce); case h => (simp (disch := omega) only []; with_reducible rfl)) | ((with_reducible apply WP.bd); case h => (simp (disch := omega) only [e_gR, e_gI, e_aI, e_aL, e_oO, e_pI, e_wI, e_wL, Option.map_some, mS_sL, mR_sL, mI_sL, mS_sI, mR_sI, mL_sI, n_cl, cob_30 hC]; with_reducible rfl)) | rw [nm_eq] | rw [ckZ_n1] | rw [ckZ_n0])
      refine WP.cw (c_pick hC hT hk hq hJ hS (hSc i) hp hr hit) (fun v M1 c => ?_)
      rw [c.1]
      have e := go M1 c.2
      have e2 : tld T r none (Sc i) i = pick T r (Sc i) i := by unfold tld; rw [hw]; rfl
      rw [e2] at e
      exact e
theorem c_turns {M : Mem} {q : Nat} {T : TD} (hk : TOk T) (hq : QOk q) {r : Option RD} {Sc : Nat → SC} (hSc : ∀ i, SOk (Sc i)) {i stop qt} (hi : i ≤ stop) (hst : stop ≤ tN T) (hch : ∀ k, i ≤ k → k < stop → Sc (k + 1) = trn T r none (Sc k) k) (hC : CIs (mS M) (mR M)) (hT : CT M 15 T) (hJ : IScene (mS M) (mR M) q) (hS : CC M q T (Sc i)) (hp : PM M q T (Sc i)) (hr : CRu M r) (h7 : mI M 30 7 = bI qt) :
    WP (f_X3_turns 30 (nI i) (nI stop) M) (fun v M' => (i = 0 → v = nI (bmk (fun s => pss T r none (Sc s) s) stop)) ∧ PF q M M' ∧ CC M' q T (Sc stop) ∧ PM M' q T (Sc stop) ∧ mI M' 30 7 = bI (qt && qtr T r Sc i (stop - i)) ∧ (∀ s, i ≤ s → s < stop → mI M' 31 s = eP (tld T r none (Sc s) s))) := by
  have h2 := hk.1.2.2.2
  obtain ⟨n, hn⟩ := FUd (stop - i) (by omega)
  rw [f_X3_turns, hn]
  refine WP.mono (c_turnsL hk hq hSc hst (stop - i) i n 0 qt M (by omega) hch hC hT hJ hS hp hr h7) (fun v M' c => ?_)
  obtain ⟨⟨b', c1, c2⟩, c3, c4, c5, c6, c7, c8⟩ := c
  exact ⟨fun e => by subst e; rw [c1, c2 rfl], c3, c4, c5, c6, c8⟩
theorem CC_nxt {M : Mem} {q : Nat} {T : TD} {S : SC} (hS : CC M q T S) : CC (sI M q 0 (nI (sT S + 1))) q T (nxt S) := by
  refine ⟨by rw [mI_sI, if_pos ⟨rfl, rfl⟩]; rfl, fun j hj => by rw [sI_row (by omega)]; exact hS.2.1 j hj, fun s h => by rw [sI_row (by omega), sI_row (by omega)]; exact hS.2.2 s h⟩
theorem PFw (M : Mem) (q k : Nat) (v : Int32) : PF q M (sI M q k v) := ⟨rfl, fun _ _ _ => rfl, fun a h _ _ _ _ _ => sI_row h, fun _ _ => rfl⟩
theorem c_oneTide {M : Mem} {q : Nat} {T : TD} {S : SC} (hC : CIs (mS M) (mR M)) (hT : CT M 15 T) (hk : TOk T) (hq : QOk q) (hJ : IScene (mS M) (mR M) q) (hS : CC M q T S) (hs : SOk S) {r : Option RD} (hr : CRu M r) : WP (f_X3_oneTide 30 (some q) M) (fun v M' => v = nI (psm T r none S) ∧ PF q M M' ∧ CC M' q T (tide1 T r none S) ∧ (∀ s, s < tN T → mI M' 31 s = eP (tolds T r none S s))) := by
  have h2 := hk.1.2.2.2
  have hq0 := hq
  unfold QOk at hq0
  unfold f_X3_oneTide
  repeat (first | ((with_reducible apply WP.ce); case h => (simp (disch := omega) only []; with_reducible rfl)) | ((with_reducible apply WP.bd); case h => (simp (disch := omega) only [e_gR, e_gI, e_aI, e_aL, e_oO, e_pI, e_wI, e_wL, Option.map_some, mS_sL, mR_sL, mI_sL, mS_sI, mR_sI, mL_sI, n_cl, cob_30 hC]; with_reducible rfl)) | rw [nm_eq] | rw [ckZ_n1] | rw [ckZ_n0])
  refine WP.cw (c_meet hC hT hk hq hJ hS hs) (fun _ M1 c => ?_)
  obtain ⟨c1, c2, c3⟩ := c
  have hC1 := c1.CI hC
  have hT1 := c1.T hT
  repeat (first | ((with_reducible apply WP.ce); case h => (simp (disch := omega) only []; with_reducible rfl)) | ((with_reducible apply WP.bd); case h => (simp (disch := omega) only [e_gR, e_gI, e_aI, e_aL, e_oO, e_pI, e_wI, e_wL, Option.map_some, mS_sL, mR_sL, mI_sL, mS_sI, mR_sI, mL_sI, n_cl, cob_30 hC1, cr_30_told hC1, told_o (ci_told hC1), hT1.1.2.2.2.2]; with_reducible rfl)) | rw [nm_eq] | rw [ckZ_n1] | rw [ckZ_n0])
  refine WP.cw (c_turns (Sc := trns T r none S) (i := 0) (stop := tN T) (qt := true) hk hq (fun i => trns_ok hs i) (by omega) (by omega) (fun k _ _ => rfl) hC1 hT1 ((c1.PF q).J hq hJ) (c1.C hq hS) c2 ((c1.PF q).ru hq hr) c3) (fun v M2 d => ?_)
  obtain ⟨d1, d2, d3, d4, d5, d6⟩ := d
  have pf := (c1.PF q).tr d2
  have hJ2 := pf.J hq hJ
  have t0 := d3.1
  repeat (first | ((with_reducible apply WP.ce); case h => (simp (disch := omega) only []; with_reducible rfl)) | ((with_reducible apply WP.bd); case h => (simp (disch := omega) only [e_gR, e_gI, e_aI, e_aL, e_oO, e_pI, e_wI, e_wL, Option.map_some, mS_sL, mR_sL, mI_sL, mS_sI, mR_sI, mL_sI, n_cl, scene_o hJ2, t0, n_add]; with_reducible rfl)) | rw [nm_eq] | rw [ckZ_n1] | rw [ckZ_n0])
  refine WP.ret ⟨d1 rfl, pf.tr (PFw M2 q _ _), CC_nxt d3, fun s h => ?_⟩
  rw [sI_row (by omega)]
  exact d6 s (by omega) h
