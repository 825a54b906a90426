/-! THE CLASS: what questions may change; scenes copied; what is given -/
def AF (M M' : Mem) : Prop := mS M' = mS M ∧ (∀ a k, ¬ (a = 30 ∧ (k = 0 ∨ k = 4)) → mR M' a k = mR M a k) ∧ (∀ a, a < 30 ∨ 65 < a → mI M' a = mI M a) ∧ (∀ a, a < 103 → mL M' a = mL M a)
def AG (M M' : Mem) : Prop := AF M M' ∧ mR M' 30 0 = mR M 30 0
theorem AF.rf (M : Mem) : AF M M := ⟨rfl, fun _ _ _ => rfl, fun _ _ => rfl, fun _ _ => rfl⟩
theorem AF.tr {M1 M2 M3 : Mem} (h1 : AF M1 M2) (h2 : AF M2 M3) : AF M1 M3 := ⟨h2.1.trans h1.1, fun a k h => (h2.2.1 a k h).trans (h1.2.1 a k h), fun a h => (h2.2.2.1 a h).trans (h1.2.2.1 a h), fun a h => (h2.2.2.2 a h).trans (h1.2.2.2 a h)⟩
theorem AG.rf (M : Mem) : AG M M := ⟨AF.rf M, rfl⟩
theorem AG.tr {M1 M2 M3 : Mem} (h1 : AG M1 M2) (h2 : AG M2 M3) : AG M1 M3 := ⟨h1.1.tr h2.1, h2.2.trans h1.2⟩
theorem PF.AG {q : Nat} {M M' : Mem} (h : PF q M M') (hq : 33 ≤ q ∧ q ≤ 62) : AG M M' := ⟨⟨h.1, fun a k hn => h.2.1 a k (fun e z => hn ⟨e, Or.inr z⟩), fun a ha => h.2.2.1 a (by omega) (by omega) (by omega) (by omega) (by omega) (by omega), h.2.2.2⟩, h.2.1 30 0 (fun _ => by decide)⟩
theorem PX.AG {M M' : Mem} (h : PX M M') : AG M M' := (h.PF 39).AG (by omega)
theorem AF.CI {M M' : Mem} (h : AF M M') (hC : CIs (mS M) (mR M)) : CIs (mS M') (mR M') := hC.of (fun a _ => by rw [h.1]) (fun a k _ _ _ hn => h.2.1 a k hn)
theorem AF.T {M M' : Mem} {T : TD} (h : AF M M') (hT : CT M 15 T) : CT M' 15 T := hT.of (fun i hi => h.2.2.1 _ (by omega))
theorem AF.S {M M' : Mem} {T : TD} {S : SC} (h : AF M M') (hS : CC M 21 T S) : CC M' 21 T S := hS.of (fun i hi => h.2.2.1 _ (by omega))
theorem AF.rl {M M' : Mem} {a : Nat} {w : RD} (h : AF M M') (ha : 103 ≤ a) (hr : CRl M a w) : CRl M' a w := hr.of (fun i _ => by rw [h.1]) (fun k => h.2.1 a k (by omega)) (h.2.2.1 a (by omega)) (h.2.2.1 (a + 1) (by omega))
theorem AG.ru {M M' : Mem} {r : Option RD} (h : AG M M') (hr : CRu M r) : CRu M' r := hr.of h.1.1 (fun a k e => by
  rcases e with ⟨rfl, rfl⟩ | e
  · exact h.2
  · exact h.1.2.1 a k (by omega)) (fun a ha => h.1.2.2.1 a (by omega))
/-- the class while a question is asked -/
def CA (M : Mem) (T : TD) (S : SC) (r : Option RD) : Prop := (CIs (mS M) (mR M) ∧ CT M 15 T ∧ CC M 21 T S ∧ CRu M r) ∧ TOk T ∧ SOk S ∧ sT S ≤ 999
theorem CA.of {M M' : Mem} {T : TD} {S : SC} {r : Option RD} (h : CA M T S r) (g : AG M M') : CA M' T S r := ⟨⟨g.1.CI h.1.1, g.1.T h.1.2.1, g.1.S h.1.2.2.1, g.ru h.1.2.2.2⟩, h.2⟩
/-- the class between calls, as far as a question asks -/
def CW (M : Mem) (c : Nat) (W : Nat → RD) : Prop := c ≤ 6 ∧ mI M 0 8 = nI c ∧ ∀ i, i < c → ∃ a, (mR M 13 i = some a ∧ 103 ≤ a) ∧ CRl M a (W i)
def CE (M : Mem) (T : TD) (S : SC) (c : Nat) (W : Nat → RD) (fo : Option Nat) : Prop := (CIs (mS M) (mR M) ∧ CT M 15 T ∧ CC M 21 T S ∧ CW M c W ∧ mI M 14 8 = eP fo) ∧ TOk T ∧ SOk S ∧ sT S ≤ 999 ∧ ∀ i, fo = some i → i < c
theorem AF.W {M M' : Mem} {c : Nat} {W : Nat → RD} (h : AF M M') (hw : CW M c W) : CW M' c W := ⟨hw.1, by rw [h.2.2.1 0 (by omega)]; exact hw.2.1, fun i hi => by
  obtain ⟨a, ⟨a1, a2⟩, a3⟩ := hw.2.2 i hi
  exact ⟨a, ⟨(h.2.1 13 i (by omega)).trans a1, a2⟩, h.rl a2 a3⟩⟩
theorem CE.of {M M' : Mem} {T : TD} {S : SC} {c : Nat} {W : Nat → RD} {fo : Option Nat} (h : CE M T S c W fo) (g : AF M M') : CE M' T S c W fo := ⟨⟨g.CI h.1.1, g.T h.1.2.1, g.S h.1.2.2.1, g.W h.1.2.2.2.1, by rw [g.2.2.1 14 (by omega)]; exact h.1.2.2.2.2⟩, h.2⟩
theorem eP_neg {p : Option Nat} (hp : ∀ t, p = some t → t < 2 ^ 31) : (eP p < 0) = (p = none) := by
  cases p with
  | none => simp [eP]
  | some t =>
    have h := hp t rfl
    have h0 : (0 : Int32).toInt = 0 := by decide
    simp only [eP, Option.elim, eq_iff_iff]
    rw [fa_lt, nI_toInt h, h0]
    constructor
    · intro e; omega
    · intro e; cases e
theorem AFw (M : Mem) {a : Nat} (ha : 30 ≤ a ∧ a ≤ 65) (k : Nat) (v : Int32) : AG M (sI M a k v) := ⟨⟨rfl, fun _ _ _ => rfl, fun b hb => sI_row (by omega), fun _ _ => rfl⟩, rfl⟩
theorem c_ruleAt {M : Mem} {T : TD} {S : SC} {c : Nat} {W : Nat → RD} {fo : Option Nat} (h : CE M T S c W fo) {p : Option Nat} (hp : ∀ i, p = some i → i < c) : ∃ x, f_X9_ruleAt 0 (eP p) M = some (x, M) ∧ p.elim (x = none) (fun i => ∃ a, (x = some a ∧ 103 ≤ a) ∧ CRl M a (W i)) := by
  obtain ⟨⟨hC, hT, hS, hw, hf⟩, hk, hs, h9, hfo⟩ := h
  have h6 := hw.1
  unfold f_X9_ruleAt
  have e1 := eP_neg (p := p) (fun t ht => by have := hp t ht; omega)
  cases p with
  | none => exact ⟨none, by rw [if_pos (by rw [e1])]; rfl, rfl⟩
  | some i =>
    have hi := hp i rfl
    obtain ⟨a, ⟨a1, a2⟩, a3⟩ := hw.2.2 i hi
    refine ⟨some a, ?_, a, ⟨rfl, a2⟩, a3⟩
    rw [if_neg (by rw [e1]; intro z; cases z)]
    show Option.bind _ _ = _
    have e0 : eP (some i) = nI i := rfl
    rw [e0]
    repeat (first | refine (cl_ok (by (simp only [e1]; with_reducible rfl)) _).trans ?_ | refine (bind_ok (by (simp (disch := omega) only [e_gR, e_gI, e_aI, e_aL, e_oO, e_pI, e_wI, e_wL, Option.map_some, mS_sL, mR_sL, mI_sL, mS_sI, mR_sI, mL_sI, n_cl, cob_0 hC, hw.2.1]; with_reducible rfl)) _).trans ?_ | rw [nm_eq])
    rw [if_neg (by rw [n_le (by omega) (by omega)]; omega)]
    repeat (first | refine (cl_ok (by (simp only [e1]; with_reducible rfl)) _).trans ?_ | refine (bind_ok (by (simp (disch := omega) only [e_gR, e_gI, e_aI, e_aL, e_oO, e_pI, e_wI, e_wL, Option.map_some, mS_sL, mR_sL, mI_sL, mS_sI, mR_sI, mL_sI, n_cl, cob_0 hC, cr_rules hC, e_aR, cx_rules hC, a1]; with_reducible rfl)) _).trans ?_ | rw [nm_eq])
    rfl
theorem c_asking {M : Mem} {T : TD} {S : SC} {c : Nat} {W : Nat → RD} {fo : Option Nat} (h : CE M T S c W fo) : WP (f_X9_asking 0 M) (fun v M' => v = some 37 ∧ AF M M' ∧ CA M' T S (fo.map W)) := by
  have h0 := h
  obtain ⟨⟨hC, hT, hS, hw, hf⟩, hk, hs, h9, hfo⟩ := h
  obtain ⟨x, x1, x2⟩ := c_ruleAt h0 hfo
  obtain ⟨M1, hM1⟩ : ∃ M1, M1 = sR M 30 0 x := ⟨_, rfl⟩
  have p1 : AF M M1 := by
    rw [hM1]
    exact ⟨rfl, fun a k hn => by rw [mR_sR, if_neg (fun z => hn ⟨z.1, Or.inl z.2⟩)], fun a _ => rfl, fun a _ => rfl⟩
  have hC1 := p1.CI hC
  unfold f_X9_asking
  repeat (first | ((with_reducible apply WP.ce); case h => (simp (disch := omega) only [x1]; with_reducible rfl)) | ((with_reducible apply WP.bd); case h => (simp (disch := omega) only [e_gR, e_gI, e_aI, e_aL, e_oO, e_pI, e_wI, e_wL, Option.map_some, mS_sL, mR_sL, mI_sL, mS_sI, mR_sI, mL_sI, n_cl, cob_0 hC, cr_0_pilot hC, cr_0_book hC, book_o (ci_book hC), hf]; with_reducible rfl)) | rw [nm_eq] | rw [ckZ_n1] | rw [ckZ_n0])
  repeat (first | ((with_reducible apply WP.ce); case h => (simp (disch := omega) only []; with_reducible rfl)) | ((with_reducible apply WP.bd); case h => (simp (disch := omega) only [e_gR, e_gI, e_aI, e_aL, e_oO, e_pI, e_wI, e_wL, Option.map_some, mS_sL, mR_sL, mI_sL, mS_sI, mR_sI, mL_sI, n_cl, e_pR, cob_30 hC, ← hM1]; with_reducible rfl)) | rw [nm_eq] | rw [ckZ_n1] | rw [ckZ_n0])
  repeat (first | ((with_reducible apply WP.ce); case h => (simp (disch := omega) only []; with_reducible rfl)) | ((with_reducible apply WP.bd); case h => (simp (disch := omega) only [e_gR, e_gI, e_aI, e_aL, e_oO, e_pI, e_wI, e_wL, Option.map_some, mS_sL, mR_sL, mI_sL, mS_sI, mR_sI, mL_sI, n_cl, cob_0 hC1, cr_0_asker hC1]; with_reducible rfl)) | rw [nm_eq] | rw [ckZ_n1] | rw [ckZ_n0])
  refine WP.ret ⟨rfl, p1, ⟨hC1, p1.T hT, p1.S hS, ?_⟩, hk, hs, h9⟩
  have e : mR M1 30 0 = x := by rw [hM1, mR_sR, if_pos ⟨rfl, rfl⟩]
  cases fo with
  | none => exact e.trans x2
  | some i =>
    obtain ⟨a, ⟨a1, a2⟩, a3⟩ := x2
    exact ⟨a, ⟨e.trans a1, a2⟩, p1.rl a2 a3⟩
/-! what is given -/
theorem c_isWithin (x : Int32) {lo hi : Nat} (h1 : lo < 2 ^ 31) (h2 : hi < 2 ^ 31) (M : Mem) : f_X9_isWithin x (nI lo) (nI hi) M = some (bI (inR x lo hi), M) := by
  unfold f_X9_isWithin f_X9_isWithin_J14 f_X9_isWithin_J15
  rw [ckZ_n0, ckZ_n1]
  unfold inR
  have e1 : (x < nI lo) = (x.toInt < (lo : Int)) := by rw [eq_iff_iff, fa_lt, nI_toInt h1]
  have e2 : (nI hi < x) = ((hi : Int) < x.toInt) := by rw [eq_iff_iff, fa_lt, nI_toInt h2]
  simp only [e1, e2]
  by_cases c1 : x.toInt < (lo : Int)
  · rw [if_pos c1, decide_eq_false (by omega)]; rfl
  · rw [if_neg c1]
    by_cases c2 : (hi : Int) < x.toInt
    · rw [if_pos c2, decide_eq_false (by omega)]; rfl
    · rw [if_neg c2, decide_eq_true (by omega)]; rfl
theorem ix_split (x : Int32) {n : Nat} (hn : n < 2 ^ 31) : (x < 0 → ixB x n = false) ∧ (¬ x < 0 → (nI n ≤ x) = (ixB x n = false)) := by
  have h0 : (0 : Int32).toInt = 0 := by decide
  constructor
  · intro h
    rw [fa_lt, h0] at h
    unfold ixB
    exact decide_eq_false (by omega)
  · intro h
    rw [fa_lt, h0] at h
    unfold ixB
    rw [eq_iff_iff, fa_le, nI_toInt hn, decide_eq_false_iff_not]
    omega
theorem c_isShip {M : Mem} {T : TD} (hC : CIs (mS M) (mR M)) (hT : CT M 15 T) (hk : TOk T) (x : Int32) : f_X9_isShip 0 x M = some (bI (ixB x (tN T)), M) := by
  have h2 := hk.1.2.2.2
  obtain ⟨s1, s2⟩ := ix_split x (n := tN T) (by omega)
  unfold f_X9_isShip f_X9_isShip_J22 f_X9_isShip_J23
  rw [ckZ_n0, ckZ_n1]
  by_cases h : x < 0
  · rw [if_pos h, s1 h]; rfl
  · rw [if_neg h]
    repeat (first | refine (cl_ok (by (simp only [hk]; with_reducible rfl)) _).trans ?_ | refine (bind_ok (by (simp (disch := omega) only [e_gR, e_gI, e_aI, e_aL, e_oO, e_pI, e_wI, e_wL, Option.map_some, mS_sL, mR_sL, mI_sL, mS_sI, mR_sI, mL_sI, n_cl, cob_0 hC, cr_0_book hC, book_o (ci_book hC), book_r_told (ci_book hC), told_o (ci_told hC), hT.1.2.2.2.2, Nat.reduceAdd]; with_reducible rfl)) _).trans ?_ | rw [nm_eq])
    simp only [s2 h]
    cases ixB x (tN T) <;> rfl
theorem c_isJoke {M : Mem} {T : TD} (hC : CIs (mS M) (mR M)) (hT : CT M 15 T) (hk : TOk T) (x : Int32) : f_X9_isJoke 0 x M = some (bI (ixB x (tJ T)), M) := by
  have h2 := hk.1.2.2.1
  obtain ⟨s1, s2⟩ := ix_split x (n := tJ T) (by omega)
  unfold f_X9_isJoke f_X9_isJoke_J22 f_X9_isJoke_J23
  rw [ckZ_n0, ckZ_n1]
  by_cases h : x < 0
  · rw [if_pos h, s1 h]; rfl
  · rw [if_neg h]
    repeat (first | refine (cl_ok (by (simp only [hk]; with_reducible rfl)) _).trans ?_ | refine (bind_ok (by (simp (disch := omega) only [e_gR, e_gI, e_aI, e_aL, e_oO, e_pI, e_wI, e_wL, Option.map_some, mS_sL, mR_sL, mI_sL, mS_sI, mR_sI, mL_sI, n_cl, cob_0 hC, cr_0_book hC, book_o (ci_book hC), book_r_told (ci_book hC), told_o (ci_told hC), hT.1.2.2.2.1, Nat.reduceAdd]; with_reducible rfl)) _).trans ?_ | rw [nm_eq])
    simp only [s2 h]
    cases ixB x (tJ T) <;> rfl
theorem c_isWaiting {M : Mem} {T : TD} {S : SC} (hC : CIs (mS M) (mR M)) (hT : CT M 15 T) (hk : TOk T) (hS : CC M 21 T S) (hs : SOk S) (x : Int32) : f_X9_isWaiting 0 x M = some (bI (wtI T S x), M) := by
  have h2 := hk.1.2.2.2
  have a1 := c_isShip hC hT hk x
  unfold f_X9_isWaiting f_X9_isWaiting_J28 f_X9_isWaiting_J29
  simp only [ckZ_n0, ckZ_n1]
  repeat (first | refine (cl_ok (by (simp only [a1]; with_reducible rfl)) _).trans ?_ | refine (bind_ok (by (simp (disch := omega) only [e_gR, e_gI, e_aI, e_aL, e_oO, e_pI, e_wI, e_wL, Option.map_some, mS_sL, mR_sL, mI_sL, mS_sI, mR_sI, mL_sI, n_cl, cob_0 hC]; with_reducible rfl)) _).trans ?_ | rw [nm_eq])
  unfold wtI
  cases hx : ixB x (tN T) with
  | false => rw [if_pos (show bI false = 0 from rfl)]; rfl
  | true =>
    rw [if_neg (show ¬ bI true = 0 by decide)]
    obtain ⟨j, j1, rfl⟩ := ixB_t (by omega) hx
    have hp := (hS.2.2 j j1).2
    have hb := sP_lt hs j
    repeat (first | refine (cl_ok (by (simp only [hk]; with_reducible rfl)) _).trans ?_ | refine (bind_ok (by (simp (disch := omega) only [e_gR, e_gI, e_aI, e_aL, e_oO, e_pI, e_wI, e_wL, Option.map_some, mS_sL, mR_sL, mI_sL, mS_sI, mR_sI, mL_sI, n_cl, cob_0 hC, cr_0_book hC, book_o (ci_book hC), book_r_scene (ci_book hC), scene_o (ci_scene hC), scene_r_passed (ci_scene hC), scene_x_passed (ci_scene hC), hp, Nat.reduceAdd]; with_reducible rfl)) _).trans ?_ | rw [nm_eq])
    rw [n_cl (by omega)]
    simp only [eP_none hb]
    show (if wts S j = true then _ else _) = _
    cases wts S j <;> rfl
/-! scenes copied -/
def SF (q : Nat) (M M' : Mem) : Prop := mS M' = mS M ∧ mR M' = mR M ∧ (∀ a, a ≠ q → a ≠ q + 1 → a ≠ q + 2 → a ≠ q + 3 → mI M' a = mI M a) ∧ mL M' = mL M
theorem SF.AG {q : Nat} {M M' : Mem} (h : SF q M M') (hq : 33 ≤ q ∧ q ≤ 62) : AG M M' := ⟨⟨h.1, fun _ _ _ => by rw [h.2.1], fun a ha => h.2.2.1 a (by omega) (by omega) (by omega) (by omega), fun _ _ => by rw [h.2.2.2]⟩, by rw [h.2.1]⟩
theorem SF.tr {q : Nat} {M1 M2 M3 : Mem} (h1 : SF q M1 M2) (h2 : SF q M2 M3) : SF q M1 M3 := ⟨h2.1.trans h1.1, h2.2.1.trans h1.2.1, fun a a1 a2 a3 a4 => (h2.2.2.1 a a1 a2 a3 a4).trans (h1.2.2.1 a a1 a2 a3 a4), h2.2.2.2.trans h1.2.2.2⟩
theorem SF.w (M : Mem) {q a : Nat} (ha : q ≤ a ∧ a ≤ q + 3) (k : Nat) (v : Int32) : SF q M (sI M a k v) := ⟨rfl, rfl, fun b _ _ _ _ => sI_row (by omega), rfl⟩
theorem cpy_ok {M : Mem} {a0 a1 sp dp n l0 l1 : Nat} (h0 : lenOf (mS M) 0 a0 = l0) (h1 : lenOf (mS M) 0 a1 = l1) (z0 : 0 < l0) (z1 : 0 < l1) (b0 : sp + n ≤ l0) (b1 : dp + n ≤ l1) (c0 : l0 < 2 ^ 31) (c1 : l1 < 2 ^ 31) : cpy M (some a0) (nI sp) (some a1) (nI dp) (nI n) = some (sIr M a1 (va_cpy (mI M a0) (mI M a1) sp dp n)) := by
  have e0 := lenOf_at (S := mS M) (t := 0) (a := a0) (by omega)
  have e1 := lenOf_at (S := mS M) (t := 0) (a := a1) (by omega)
  rw [h0] at e0
  rw [h1] at e1
  have n1 := nI_pos (n := sp) (by omega)
  have n2 := nI_pos (n := dp) (by omega)
  have n3 := nI_pos (n := n) (by omega)
  unfold cpy aln
  simp only [Option.bind_some, e0, e1, Sum.elim_inr, if_true]
  rw [n_cl (by omega), n_cl (by omega), n_cl (by omega), if_neg]
  rintro ((z | z | z) | z | z)
  · exact n1 z
  · exact n2 z
  · exact n3 z
  · omega
  · omega
theorem mI_sIr_s (M : Mem) (a : Nat) (g : Nat → Int32) : mI (sIr M a g) a = g := rowU_s _ _ _
theorem mI_sIr_o (M : Mem) {a b : Nat} (g : Nat → Int32) (h : b ≠ a) : mI (sIr M a g) b = mI M b := rowU_n _ _ h
theorem va_cpy_z (f g : Nat → Int32) {n i : Nat} (h : i < n) : va_cpy f g 0 0 n i = f i := by
  unfold va_cpy
  rw [if_pos (by omega)]
  congr 1
  omega
theorem c_copyFrom {M : Mem} {p q : Nat} (hp : IScene (mS M) (mR M) p) (hJ : IScene (mS M) (mR M) q) (hd : p + 3 < q ∨ q + 3 < p) : WP (f_X6_copyFrom q (some p) M) (fun _ M' => SF q M M' ∧ mI M' q 0 = mI M p 0 ∧ (∀ i, i < 8 → mI M' (q + 1) i = mI M (p + 1) i) ∧ (∀ i, i < 5 → mI M' (q + 2) i = mI M (p + 2) i) ∧ (∀ i, i < 5 → mI M' (q + 3) i = mI M (p + 3) i)) := by
  unfold f_X6_copyFrom
  repeat (first | ((with_reducible apply WP.ce); case h => (simp (disch := omega) only []; with_reducible rfl)) | ((with_reducible apply WP.bd); case h => (simp (disch := omega) only [e_gR, e_gI, e_aI, e_aL, e_oO, e_pI, e_wI, e_wL, Option.map_some, mS_sL, mR_sL, mI_sL, mS_sI, mR_sI, mL_sI, n_cl, scene_o hp, scene_o hJ, scene_r_heard hp, scene_r_heard hJ]; with_reducible rfl)) | rw [nm_eq] | rw [ckZ_n1] | rw [ckZ_n0])
  refine WP.bd (cpy_ok (l0 := 8) (l1 := 8) (scene_l_heard hp) (scene_l_heard hJ) (by decide) (by decide) (by decide) (by decide) (by decide) (by decide)) ?_
  repeat (first | ((with_reducible apply WP.ce); case h => (simp (disch := omega) only []; with_reducible rfl)) | ((with_reducible apply WP.bd); case h => (simp (disch := omega) only [e_gR, e_gI, e_aI, e_aL, e_oO, e_pI, e_wI, e_wL, Option.map_some, mS_sL, mR_sL, mI_sL, mS_sI, mR_sI, mL_sI, n_cl, scene_o hp, scene_o hJ, scene_r_knows hp, scene_r_knows hJ, mS_sIr, mR_sIr]; with_reducible rfl)) | rw [nm_eq] | rw [ckZ_n1] | rw [ckZ_n0])
  refine WP.bd (cpy_ok (l0 := 5) (l1 := 5) (scene_l_knows hp) (scene_l_knows hJ) (by decide) (by decide) (by decide) (by decide) (by decide) (by decide)) ?_
  repeat (first | ((with_reducible apply WP.ce); case h => (simp (disch := omega) only []; with_reducible rfl)) | ((with_reducible apply WP.bd); case h => (simp (disch := omega) only [e_gR, e_gI, e_aI, e_aL, e_oO, e_pI, e_wI, e_wL, Option.map_some, mS_sL, mR_sL, mI_sL, mS_sI, mR_sI, mL_sI, n_cl, scene_o hp, scene_o hJ, scene_r_passed hp, scene_r_passed hJ, mS_sIr, mR_sIr]; with_reducible rfl)) | rw [nm_eq] | rw [ckZ_n1] | rw [ckZ_n0])
  refine WP.bd (cpy_ok (l0 := 5) (l1 := 5) (scene_l_passed hp) (scene_l_passed hJ) (by decide) (by decide) (by decide) (by decide) (by decide) (by decide)) ?_
  refine WP.ret ⟨⟨rfl, rfl, fun a a1 a2 a3 a4 => ?_, rfl⟩, ?_, fun i hi => ?_, fun i hi => ?_, fun i hi => ?_⟩
  · rw [mI_sIr_o _ _ a4, mI_sIr_o _ _ a3, mI_sIr_o _ _ a2, sI_row a1]
  · rw [mI_sIr_o _ _ (by omega), mI_sIr_o _ _ (by omega), mI_sIr_o _ _ (by omega), mI_sI, if_pos ⟨rfl, rfl⟩]
  · rw [mI_sIr_o _ _ (by omega), mI_sIr_o _ _ (by omega), mI_sIr_s, va_cpy_z _ _ hi, sI_row (by omega)]
  · rw [mI_sIr_o _ _ (by omega), mI_sIr_s, va_cpy_z _ _ hi, mI_sIr_o _ _ (by omega), sI_row (by omega)]
  · rw [mI_sIr_s, va_cpy_z _ _ hi, mI_sIr_o _ _ (by omega), mI_sIr_o _ _ (by omega), sI_row (by omega)]
theorem c_copy {M : Mem} {p q : Nat} {T : TD} {S : SC} (hk : TOk T) (hp : IScene (mS M) (mR M) p) (hJ : IScene (mS M) (mR M) q) (hd : p + 3 < q ∨ q + 3 < p) (hS : CC M p T S) : WP (f_X6_copyFrom q (some p) M) (fun _ M' => SF q M M' ∧ CC M' q T S) := by
  have h1 := hk.1.2.2.1
  have h2 := hk.1.2.2.2
  refine WP.mono (c_copyFrom hp hJ hd) (fun _ M' c => ⟨c.1, ?_, fun j hj => ?_, fun s h => ⟨?_, ?_⟩⟩)
  · rw [c.2.1]; exact hS.1
  · rw [c.2.2.1 j (by omega)]; exact hS.2.1 j hj
  · rw [c.2.2.2.1 s (by omega)]; exact (hS.2.2 s h).1
  · rw [c.2.2.2.2 s (by omega)]; exact (hS.2.2 s h).2
theorem QOk39 : QOk 39 := Or.inr ⟨by decide, by decide⟩
theorem c_later {M : Mem} {T : TD} {S : SC} {r : Option RD} (h : CA M T S r) {n : Nat} (hn : n ≤ 100) : WP (f_X0_later 37 (nI n) M) (fun v M' => v = some 39 ∧ AG M M' ∧ CC M' 39 T (tides T r S n)) := by
  have h0 := h
  obtain ⟨⟨hC, hT, hS, hr⟩, hk, hs, h9⟩ := h
  unfold f_X0_later
  repeat (first | ((with_reducible apply WP.ce); case h => (simp (disch := omega) only []; with_reducible rfl)) | ((with_reducible apply WP.bd); case h => (simp (disch := omega) only [e_gR, e_gI, e_aI, e_aL, e_oO, e_pI, e_wI, e_wL, Option.map_some, mS_sL, mR_sL, mI_sL, mS_sI, mR_sI, mL_sI, n_cl, cob_37 hC, cr_37_work hC, cr_37_book hC, book_o (ci_book hC), book_r_scene (ci_book hC), scene_o (ci_work hC), Nat.reduceAdd]; with_reducible rfl)) | rw [nm_eq] | rw [ckZ_n1] | rw [ckZ_n0])
  refine WP.cw (c_copy hk (ci_scene hC) (ci_work hC) (by omega) hS) (fun _ M1 c => ?_)
  have g1 := c.1.AG (by omega)
  obtain ⟨⟨hC1, hT1, hS1, hr1⟩, -⟩ := h0.of g1
  repeat (first | ((with_reducible apply WP.ce); case h => (simp (disch := omega) only []; with_reducible rfl)) | ((with_reducible apply WP.bd); case h => (simp (disch := omega) only [e_gR, e_gI, e_aI, e_aL, e_oO, e_pI, e_wI, e_wL, Option.map_some, mS_sL, mR_sL, mI_sL, mS_sI, mR_sI, mL_sI, n_cl, cob_37 hC1, cr_37_work hC1, cr_37_pilot hC1, cob_30 hC1]; with_reducible rfl)) | rw [nm_eq] | rw [ckZ_n1] | rw [ckZ_n0])
  refine WP.cw (c_goOn1 hC1 hT1 hk QOk39 (ci_work hC1) c.2 hs hr1 (n := n) (by omega) (by omega)) (fun _ M2 d => ?_)
  have g2 := g1.tr (d.1.AG (by omega))
  obtain ⟨⟨hC2, -⟩, -⟩ := h0.of g2
  repeat (first | ((with_reducible apply WP.ce); case h => (simp (disch := omega) only []; with_reducible rfl)) | ((with_reducible apply WP.bd); case h => (simp (disch := omega) only [e_gR, e_gI, e_aI, e_aL, e_oO, e_pI, e_wI, e_wL, Option.map_some, mS_sL, mR_sL, mI_sL, mS_sI, mR_sI, mL_sI, n_cl, cob_37 hC2, cr_37_work hC2]; with_reducible rfl)) | rw [nm_eq] | rw [ckZ_n1] | rw [ckZ_n0])
  exact WP.ret ⟨rfl, g2, d.2⟩
