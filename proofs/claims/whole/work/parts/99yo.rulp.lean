/-! THE CLASS: tests within tests -/
section CTT
variable {M : Mem} {t : TP} {p c w : Nat} {C : CDs}
theorem ts_not (h4 : TOk2 t) (hp : p ≤ t.1) {D x : QD} {stk : STK} : tsR t (some D, p, c, (9, x) :: stk) = tsR t (some (fun v => !D v), p, c, stk) := by
  have e : tsS t (some D, p, c, (9, x) :: stk) = tsS t (some (fun v => !D v), p, c, stk) := by
    unfold tsS
    dsimp only
    have : popk 9 ((9, x) :: stk) D = popk 9 stk (fun v => !D v) := popk_c
    rw [this]
  rw [tsR_st h4 (show ((some D, p, c, (9, x) :: stk) : TSt).2.1 ≤ t.1 from hp), tsR_st h4 (show ((some (fun v => !D v), p, c, stk) : TSt).2.1 ≤ t.1 from hp), e]
theorem ts_and (h4 : TOk2 t) (hp : p ≤ t.1) {A D : QD} {stk : STK} (h9 : tpk stk ≠ 9) (h10 : tpk stk ≠ 10) : tsR t (some D, p, c, (10, A) :: stk) = tsR t (some (fun v => A v && D v), p, c, stk) := by
  have e : tsS t (some D, p, c, (10, A) :: stk) = tsS t (some (fun v => A v && D v), p, c, stk) := by
    unfold tsS
    dsimp only
    have e1 : popk 9 ((10, A) :: stk) D = ((10, A) :: stk, D) := popk_n (by show (10 : Nat) ≠ 9; decide)
    have e2 : popk 9 stk (fun v => A v && D v) = (stk, fun v => A v && D v) := popk_n h9
    have e3 : popk 10 ((10, A) :: stk) D = popk 10 stk (fun v => A v && D v) := popk_c
    rw [e1, e2]
    dsimp only
    rw [e3]
  rw [tsR_st h4 (show ((some D, p, c, (10, A) :: stk) : TSt).2.1 ≤ t.1 from hp), tsR_st h4 (show ((some (fun v => A v && D v), p, c, stk) : TSt).2.1 ≤ t.1 from hp), e]
theorem ts_or (h4 : TOk2 t) (hp : p ≤ t.1) {A D : QD} {stk : STK} (h9 : tpk stk ≠ 9) (h10 : tpk stk ≠ 10) (hn : ¬ lts t (bk t p) = w_and) : tsR t (some D, p, c, (11, A) :: stk) = tsR t (some (fun v => A v || D v), p, c, stk) := by
  have e : tsS t (some D, p, c, (11, A) :: stk) = tsS t (some (fun v => A v || D v), p, c, stk) := by
    unfold tsS
    dsimp only
    have e1 : popk 9 ((11, A) :: stk) D = ((11, A) :: stk, D) := popk_n (by show (11 : Nat) ≠ 9; decide)
    have e2 : popk 9 stk (fun v => A v || D v) = (stk, fun v => A v || D v) := popk_n h9
    have e3 : popk 10 ((11, A) :: stk) D = ((11, A) :: stk, D) := popk_n (by show (11 : Nat) ≠ 10; decide)
    have e4 : popk 10 stk (fun v => A v || D v) = (stk, fun v => A v || D v) := popk_n h10
    have e5 : popk 11 ((11, A) :: stk) D = popk 11 stk (fun v => A v || D v) := popk_c
    rw [if_neg hn, if_neg hn, e1, e2]
    dsimp only
    rw [e3, e4]
    dsimp only
    rw [e5]
  rw [tsR_st h4 (show ((some D, p, c, (11, A) :: stk) : TSt).2.1 ≤ t.1 from hp), tsR_st h4 (show ((some (fun v => A v || D v), p, c, stk) : TSt).2.1 ≤ t.1 from hp), e]
/-- an and opens -/
theorem ts_a (h4 : TOk2 t) (hp : p ≤ t.1) {D : QD} {stk : STK} (h9 : tpk stk ≠ 9) (h10 : tpk stk ≠ 10) (ha : lts t (bk t p) = w_and) : tsR t (some D, p, c, stk) = tsR t (none, tkE t p, c, (10, D) :: stk) := by
  refine tsR_r h4 (show ((some D, p, c, stk) : TSt).2.1 ≤ t.1 from hp) ?_
  unfold tsS
  dsimp only
  rw [if_pos ha, popk_n h9]
  dsimp only
  rw [popk_n h10]
/-- an or opens -/
theorem ts_o (h4 : TOk2 t) (hp : p ≤ t.1) {D : QD} {stk : STK} (h9 : tpk stk ≠ 9) (h10 : tpk stk ≠ 10) (h11 : tpk stk ≠ 11) (ho : lts t (bk t p) = w_or) : tsR t (some D, p, c, stk) = tsR t (none, tkE t p, c, (11, D) :: stk) := by
  refine tsR_r h4 (show ((some D, p, c, stk) : TSt).2.1 ≤ t.1 from hp) ?_
  unfold tsS
  dsimp only
  rw [if_neg (by rw [ho]; decide), if_pos ho, popk_n h9]
  dsimp only
  rw [popk_n h10]
  dsimp only
  rw [popk_n h11]
/-- what stands ahead of a test's last part -/
def orK (O : Option QD) (stk : STK) : STK := O.elim stk (fun o => (11, o) :: stk)
def orC (O : Option (QD × CDs)) (Z : CDs) : CDs := O.elim Z (fun o => o.2 ++ (4, 0) :: Z)
def orW (C : CDs) (O : Option (QD × CDs)) : Int32 := O.elim (-1) (fun o => nI (C ++ o.2).length)
/-- a test at work -/
def CTL (M M' : Mem) (t : TP) (p c : Nat) (C : CDs) (w : Nat) (stk : STK) (O : Option (QD × CDs)) (P : QD) (p1 c1 : Nat) (Z : CDs) : Prop := FK M M' ∧ tsR t (none, p, c, stk) = tsR t (some P, p1, c1, orK (O.map Prod.fst) stk) ∧ ∃ w', CSt M' t p1 c1 (C ++ orC O Z) w' ∧ Cp Z 4 (fun v => [bL (P v)]) ∧ (wsb w w' ∧ dpd w' P ∧ ∀ o, O = some o → dpd w' o.1 ∧ Cp o.2 4 (fun v => [bL (o.1 v)])) ∧ (p < p1 ∧ p1 ≤ t.1) ∧ (c ≤ c1 ∧ c1 ≤ 60) ∧ (orC O Z).length + p ≤ p1
theorem orK_t (O : Option QD) {stk : STK} (h9 : tpk stk ≠ 9) (h10 : tpk stk ≠ 10) : tpk (orK O stk) ≠ 9 ∧ tpk (orK O stk) ≠ 10 := by
  cases O with
  | none => exact ⟨h9, h10⟩
  | some o => exact ⟨by show (11 : Nat) ≠ 9; decide, by show (11 : Nat) ≠ 10; decide⟩
theorem orK_d (O : Option QD) (stk : STK) : dph (orK O stk) = dph stk := by
  cases O with
  | none => rfl
  | some o => show (if 11 = 9 ∨ 11 = 12 then 1 else 0) + dph stk = dph stk; rw [if_neg (by decide), Nat.zero_add]
theorem orW_b {C : CDs} {O : Option (QD × CDs)} {Z : CDs} (h : (C ++ orC O Z).length < 400) : orW C O = -1 ∨ ∃ j, j < 400 ∧ orW C O = nI j := by
  cases O with
  | none => exact Or.inl rfl
  | some o =>
    refine Or.inr ⟨(C ++ o.2).length, ?_, rfl⟩
    have h : (C ++ (o.2 ++ (4, 0) :: Z)).length < 400 := h
    rw [List.length_append, List.length_append] at h
    rw [List.length_append]
    omega
/-- an or that waits lands -/
theorem y_lnd (h4 : TOk2 t) {M1 : Mem} {O : Option (QD × CDs)} {P : QD} {p1 c1 w' : Nat} {Z : CDs} (hl : (C ++ orC O Z).length ≤ 400) (h : CSt M1 t p1 c1 (C ++ orC O Z) w') (hZ : Cp Z 4 (fun v => [bL (P v)])) (hP : dpd w' P) (hO : ∀ o, O = some o → dpd w' o.1 ∧ Cp o.2 4 (fun v => [bL (o.1 v)])) :
    WP (f_X5_land 10 (orW C O) M1) (fun _ M2 => FK M1 M2 ∧ ∃ F, CSt M2 t p1 c1 (C ++ F) w' ∧ F.length = (orC O Z).length ∧ Cp F 4 (fun v => [bL ((O.elim P (fun o => fun v => o.1 v || P v)) v)]) ∧ dpd w' (O.elim P (fun o => fun v => o.1 v || P v))) := by
  cases O with
  | none => exact WP.of (y_landN M1) ⟨FK.rf M1, Z, h, rfl, hZ, hP⟩
  | some o =>
    obtain ⟨oD, Y⟩ := o
    obtain ⟨d1, d2⟩ := hO (oD, Y) rfl
    have d1 : dpd w' oD := d1
    have h : CSt M1 t p1 c1 (C ++ (Y ++ (4, 0) :: Z)) w' := h
    have hl : (C ++ (Y ++ (4, 0) :: Z)).length ≤ 400 := hl
    rw [← List.append_assoc] at h hl
    refine WP.mono (y_land (k := 4) (by decide) hl h) (fun _ M2 g => ⟨g.1, Y ++ (4, Z.length) :: Z, ?_, ?_, Cp.or d2 hZ, fun a b e => ?_⟩)
    · have := g.2
      rw [List.append_assoc] at this
      exact this
    · show _ = (Y ++ (4, 0) :: Z).length
      rw [List.length_append, List.length_append]; rfl
    · show (oD a || P a) = (oD b || P b)
      rw [d1 a b e, hP a b e]
theorem y_ttF {M1 : Mem} (hC : CIs (mS M) (mR M)) (f1 : FK M M1) {stk : STK} (h : CFl M1 (tsR t (none, p, c, stk)).1) (g : Nat → Int32 → Mem → Option (Int32 × Mem)) (n : Nat) (l1 l4 : Int32) {l2 : Int32} (hl : l2 = -1 ∨ ∃ j, j < 400 ∧ l2 = nI j) : WP (f_X5_readTest_L11 g 10 (n + 1) l1 l2 (nI 0) l4 M1) (TTc M t p c C w stk) := by
  have hC1 := f1.CI hC
  have fin : WP (f_X5_readTest_J139 g 10 l2 (nI 0) M1) (TTc M t p c C w stk) := by
    unfold f_X5_readTest_J139
    repeat (first | ((with_reducible apply WP.ce); case h => (simp (disch := omega) only []; with_reducible rfl)) | ((with_reducible apply WP.bd); case h => (simp (disch := omega) only [e_gR, e_gI, e_aI, e_aL, e_oO, e_pI, e_wI, e_wL, Option.map_some, mS_sL, mR_sL, mI_sL, mS_sI, mR_sI, mL_sI, n_cl, cob_10 hC1]; with_reducible rfl)) | rw [nm_eq] | rw [ckZ_n1] | rw [ckZ_n0])
    refine WP.cw (y_landW hC1 h hl) (fun _ M2 g => ?_)
    rw [ckZ_n0]
    exact WP.ret ⟨f1.tr g.1, Or.inr ⟨h.1, rfl, g.2⟩⟩
  rw [f_X5_readTest_L11]
  by_cases c0 : nI 400 ≤ l4
  · exact WP.it c0 fin
  · exact WP.ie c0 (WP.it rfl fin)
/-- readers of facts and tests, as deep as their fuel goes -/
def PFc (t : TP) (gF : Nat → Int32 → Mem → Option (Int32 × Mem)) (d : Nat) : Prop := ∀ (M : Mem) (p c w : Nat) (C : CDs) (stk : STK), dph stk = d → p ≤ t.1 → c ≤ 60 → C.length ≤ p → CSt M t p c C w → WP (gF 10 (nI d) M) (FCc M t p c C w stk)
def PTc (t : TP) (gT : Nat → Int32 → Mem → Option (Int32 × Mem)) (d : Nat) : Prop := ∀ (M : Mem) (p c w : Nat) (C : CDs) (stk : STK), dph stk = d → (tpk stk ≠ 9 ∧ tpk stk ≠ 10 ∧ tpk stk ≠ 11) → p ≤ t.1 → c ≤ 60 → C.length ≤ p → CSt M t p c C w → WP (gT 10 (nI d) M) (TTc M t p c C w stk)
theorem y_testL (h4 : TOk2 t) (hC : CIs (mS M) (mR M)) (hl : C.length ≤ p) {gF : Nat → Int32 → Mem → Option (Int32 × Mem)} {stk : STK} (hF : PFc t gF (dph stk)) (h9 : tpk stk ≠ 9) (h10 : tpk stk ≠ 10) (h11 : tpk stk ≠ 11) : ∀ d f (O : Option (QD × CDs)) (P : QD) (p1 c1 : Nat) (Z : CDs) (M1 : Mem) (l4 : Nat), t.1 - p1 ≤ d → CTL M M1 t p c C w stk O P p1 c1 Z → l4 ≤ p1 → WP (f_X5_readTest_L11 gF 10 (f + d + 2) (nI (dph stk)) (orW C O) (nI 1) (nI l4) M1) (TTc M t p c C w stk) := by
  have hL := h4.1
  -- the end
  have fin : ∀ (O : Option (QD × CDs)) (P : QD) (p1 c1 : Nat) (Z : CDs) (M1 : Mem), CTL M M1 t p c C w stk O P p1 c1 Z → ¬ lts t (bk t p1) = w_and → ¬ lts t (bk t p1) = w_or → WP (f_X5_readTest_J139 gF 10 (orW C O) (nI 1) M1) (TTc M t p c C w stk) := by
    intro O P p1 c1 Z M1 h ha ho
    obtain ⟨f1, e1, w', g1, g2, ⟨g3, g4, g5⟩, ⟨g6, g7⟩, g8, g9⟩ := h
    have hC1 := f1.CI hC
    unfold f_X5_readTest_J139
    repeat (first | ((with_reducible apply WP.ce); case h => (simp (disch := omega) only []; with_reducible rfl)) | ((with_reducible apply WP.bd); case h => (simp (disch := omega) only [e_gR, e_gI, e_aI, e_aL, e_oO, e_pI, e_wI, e_wL, Option.map_some, mS_sL, mR_sL, mI_sL, mS_sI, mR_sI, mL_sI, n_cl, cob_10 hC1]; with_reducible rfl)) | rw [nm_eq] | rw [ckZ_n1] | rw [ckZ_n0])
    refine WP.cw (y_lnd h4 (by rw [List.length_append]; omega) g1 g2 g4 g5) (fun _ M2 u => ?_)
    obtain ⟨u1, F, u2, u3, u4, u5⟩ := u
    rw [ckZ_n1]
    refine WP.ret ⟨f1.tr u1, Or.inl ⟨rfl, O.elim P (fun o => fun v => o.1 v || P v), p1, c1, F, w', ?_, u2, u4, ⟨g3, u5⟩, ⟨g6, g7⟩, g8, by rw [u3]; exact g9, ha, ho⟩⟩
    rw [e1]
    cases O with
    | none => rfl
    | some o => exact ts_or h4 g7 h9 h10 ha
  have finL : ∀ (n : Nat) (l4 : Int32) (O : Option (QD × CDs)) (P : QD) (p1 c1 : Nat) (Z : CDs) (M1 : Mem), CTL M M1 t p c C w stk O P p1 c1 Z → ¬ lts t (bk t p1) = w_and → ¬ lts t (bk t p1) = w_or → WP (f_X5_readTest_L11 gF 10 (n + 1) (nI (dph stk)) (orW C O) (nI 1) l4 M1) (TTc M t p c C w stk) := by
    intro n l4 O P p1 c1 Z M1 h ha ho
    have h0 := h
    obtain ⟨f1, e1, w', g1, -⟩ := h
    have hC1 := f1.CI hC
    have kw := g1.1.2.2.1.2.2.2.1
    rw [f_X5_readTest_L11]
    by_cases c0 : nI 400 ≤ l4
    · exact WP.it c0 (fin O P p1 c1 Z M1 h0 ha ho)
    · refine WP.ie c0 (WP.ie (by decide) ?_)
      repeat (first | ((with_reducible apply WP.ce); case h => (simp (disch := omega) only []; with_reducible rfl)) | ((with_reducible apply WP.bd); case h => (simp (disch := omega) only [e_gR, e_gI, e_aI, e_aL, e_oO, e_pI, e_wI, e_wL, Option.map_some, mS_sL, mR_sL, mI_sL, mS_sI, mR_sI, mL_sI, n_cl, cob_10 hC1, cr_10_tape hC1, cob_1 hC1, e_gL, kw]; with_reducible rfl)) | rw [nm_eq] | rw [ckZ_n1] | rw [ckZ_n0])
      refine WP.ie (by rw [tw_and h4]; exact ha) ?_
      repeat (first | ((with_reducible apply WP.ce); case h => (simp (disch := omega) only []; with_reducible rfl)) | ((with_reducible apply WP.bd); case h => (simp (disch := omega) only [e_gR, e_gI, e_aI, e_aL, e_oO, e_pI, e_wI, e_wL, Option.map_some, mS_sL, mR_sL, mI_sL, mS_sI, mR_sI, mL_sI, n_cl, cob_10 hC1, cr_10_tape hC1, cob_1 hC1, e_gL, kw]; with_reducible rfl)) | rw [nm_eq] | rw [ckZ_n1] | rw [ckZ_n0])
      exact WP.ie (by rw [tw_or h4]; exact ho) (fin O P p1 c1 Z M1 h0 ha ho)
  intro d
  induction d with
  | zero =>
    intro f O P p1 c1 Z M1 l4 hd h hl4
    have g7 := h.2.2.choose_spec.2.2.2.1.2
    have no : ∀ wd : List Nat, 0 < wd.length → ¬ lts t (bk t p1) = wd := fun wd hw z => by
      have := wk_mv hw g7 z; omega
    exact finL (f + 1) (nI l4) O P p1 c1 Z M1 h (no w_and (by decide)) (no w_or (by decide))
  | succ d ih =>
    intro f O P p1 c1 Z M1 l4 hd h hl4
    by_cases hao : lts t (bk t p1) = w_and ∨ lts t (bk t p1) = w_or
    · have h0 := h
      obtain ⟨f1, e1, w', g1, g2, ⟨g3, g4, g5⟩, ⟨g6, g7⟩, ⟨g8, g8'⟩, g9⟩ := h
      have hC1 := f1.CI hC
      have kw := g1.1.2.2.1.2.2.2.1
      have hmv : p1 + 2 ≤ tkE t p1 ∧ tkE t p1 ≤ t.1 := by
        have hge := bk_ge t p1
        rcases hao with z | z
        · have q1 := (tkE_w (by decide) z).2
          have q2 := (wk_mv (by decide) g7 z).2
          have q1 : tkE t p1 = bk t p1 + 3 := q1
          omega
        · have q1 := (tkE_w (by decide) z).2
          have q2 := (wk_mv (by decide) g7 z).2
          have q1 : tkE t p1 = bk t p1 + 2 := q1
          omega
      have lenC : (C ++ orC O Z).length = C.length + (orC O Z).length := List.length_append
      have wb := orW_b (C := C) (O := O) (Z := Z) (by rw [lenC]; omega)
      have ot := orK_t (O.map Prod.fst) h9 h10
      rw [show f + (d + 1) + 2 = (f + d + 2) + 1 by omega, f_X5_readTest_L11]
      refine WP.ie (by rw [n_le (by decide) (by omega)]; omega) (WP.ie (by decide) ?_)
      repeat (first | ((with_reducible apply WP.ce); case h => (simp (disch := omega) only []; with_reducible rfl)) | ((with_reducible apply WP.bd); case h => (simp (disch := omega) only [e_gR, e_gI, e_aI, e_aL, e_oO, e_pI, e_wI, e_wL, Option.map_some, mS_sL, mR_sL, mI_sL, mS_sI, mR_sI, mL_sI, n_cl, cob_10 hC1, cr_10_tape hC1, cob_1 hC1, e_gL, kw]; with_reducible rfl)) | rw [nm_eq] | rw [ckZ_n1] | rw [ckZ_n0])
      by_cases ha : lts t (bk t p1) = w_and
      · refine WP.it (by rw [tw_and h4]; exact ha) ?_
        unfold f_X5_readTest_J51
        repeat (first | ((with_reducible apply WP.ce); case h => (simp (disch := omega) only []; with_reducible rfl)) | ((with_reducible apply WP.bd); case h => (simp (disch := omega) only [e_gR, e_gI, e_aI, e_aL, e_oO, e_pI, e_wI, e_wL, Option.map_some, mS_sL, mR_sL, mI_sL, mS_sI, mR_sI, mL_sI, n_cl, cob_10 hC1, cr_10_tape hC1, cob_1 hC1, e_gL, kw]; with_reducible rfl)) | rw [nm_eq] | rw [ckZ_n1] | rw [ckZ_n0])
        refine WP.it (by rw [tw_and h4]; exact ha) ?_
        unfold f_X5_readTest_J70 f_X5_readTest_J87
        refine WP.ie (by decide) ?_
        have kl := g1.2.2.1.1
        repeat (first | ((with_reducible apply WP.ce); case h => (simp (disch := omega) only []; with_reducible rfl)) | ((with_reducible apply WP.bd); case h => (simp (disch := omega) only [e_gR, e_gI, e_aI, e_aL, e_oO, e_pI, e_wI, e_wL, Option.map_some, mS_sL, mR_sL, mI_sL, mS_sI, mR_sI, mL_sI, n_cl, cob_10 hC1, kl]; with_reducible rfl)) | rw [nm_eq] | rw [ckZ_n1] | rw [ckZ_n0])
        refine WP.ie (by decide) ?_
        unfold f_X5_readTest_J104 f_X5_readTest_J133
        repeat (first | ((with_reducible apply WP.ce); case h => (simp (disch := omega) only []; with_reducible rfl)) | ((with_reducible apply WP.bd); case h => (simp (disch := omega) only [e_gR, e_gI, e_aI, e_aL, e_oO, e_pI, e_wI, e_wL, Option.map_some, mS_sL, mR_sL, mI_sL, mS_sI, mR_sI, mL_sI, n_cl, cob_10 hC1]; with_reducible rfl)) | rw [nm_eq] | rw [ckZ_n1] | rw [ckZ_n0])
        refine WP.cw (y_put g1 (x := (3, 0)) (by rw [lenC]; omega) ⟨by decide, by decide⟩) (fun v M2 u => ?_)
        obtain ⟨-, u1, u2⟩ := u
        have hC2 := u2.1.1
        repeat (first | ((with_reducible apply WP.ce); case h => (simp (disch := omega) only []; with_reducible rfl)) | ((with_reducible apply WP.bd); case h => (simp (disch := omega) only [e_gR, e_gI, e_aI, e_aL, e_oO, e_pI, e_wI, e_wL, Option.map_some, mS_sL, mR_sL, mI_sL, mS_sI, mR_sI, mL_sI, n_cl, cob_10 hC2, cr_10_tape hC2, cob_1 hC2]; with_reducible rfl)) | rw [nm_eq] | rw [ckZ_n1] | rw [ckZ_n0])
        refine WP.cw (y_next h4 g7 u2) (fun _ M3 n3 => ?_)
        obtain ⟨n1, n2⟩ := n3
        have hC3 := n2.1.1
        repeat (first | ((with_reducible apply WP.ce); case h => (simp (disch := omega) only []; with_reducible rfl)) | ((with_reducible apply WP.bd); case h => (simp (disch := omega) only [e_gR, e_gI, e_aI, e_aL, e_oO, e_pI, e_wI, e_wL, Option.map_some, mS_sL, mR_sL, mI_sL, mS_sI, mR_sI, mL_sI, n_cl, cob_10 hC3]; with_reducible rfl)) | rw [nm_eq] | rw [ckZ_n1] | rw [ckZ_n0])
        have lenP : ((C ++ orC O Z) ++ [(3, 0)]).length = C.length + (orC O Z).length + 1 := by rw [List.length_append, lenC]; rfl
        have ek : tsR t (some P, p1, c1, orK (O.map Prod.fst) stk) = tsR t (none, tkE t p1, c1, (10, P) :: orK (O.map Prod.fst) stk) := ts_a h4 g7 ot.1 ot.2 ha
        have hdp : dph ((10, P) :: orK (O.map Prod.fst) stk) = dph stk := by
          show (if 10 = 9 ∨ 10 = 12 then 1 else 0) + dph (orK (O.map Prod.fst) stk) = dph stk
          rw [if_neg (by decide), Nat.zero_add, orK_d]
        refine WP.cw (hF M3 (tkE t p1) c1 w' ((C ++ orC O Z) ++ [(3, 0)]) _ hdp hmv.2 g8' (by rw [lenP]; omega) n2) (fun v M4 q => ?_)
        obtain ⟨q1, q2⟩ := q
        have fr4 := ((f1.tr u1).tr n1).tr q1
        refine WP.ie (by decide) ?_
        rcases q2 with ⟨rfl, E, p2, c2, G, w2, o1, o2, o3, ⟨o4, o5⟩, ⟨o6, o7⟩, ⟨o8, o8'⟩, o9⟩ | ⟨q3, rfl, q4⟩
        · have hC4 := o2.1.1
          repeat (first | ((with_reducible apply WP.ce); case h => (simp (disch := omega) only []; with_reducible rfl)) | ((with_reducible apply WP.bd); case h => (simp (disch := omega) only [e_gR, e_gI, e_aI, e_aL, e_oO, e_pI, e_wI, e_wL, Option.map_some, mS_sL, mR_sL, mI_sL, mS_sI, mR_sI, mL_sI, n_cl, cob_10 hC4]; with_reducible rfl)) | rw [nm_eq] | rw [ckZ_n1] | rw [ckZ_n0])
          have elist : (C ++ orC O Z) ++ [(3, 0)] ++ G = (C ++ orC O Z) ++ (3, 0) :: G := by rw [List.append_assoc]; rfl
          rw [elist] at o2
          refine WP.cw (y_land (C := C ++ orC O Z) (k := 3) (by decide) (by rw [List.length_append, lenC]; show C.length + (orC O Z).length + (G.length + 1) ≤ 400; omega) o2) (fun _ M5 y => ?_)
          obtain ⟨y1, y2⟩ := y
          rw [n_add]
          have ez : C ++ orC O Z ++ (3, G.length) :: G = C ++ orC O (Z ++ (3, G.length) :: G) := by
            cases O with
            | none => rw [List.append_assoc]; rfl
            | some o => show C ++ (o.2 ++ (4, 0) :: Z) ++ _ = C ++ (o.2 ++ (4, 0) :: (Z ++ _)); rw [List.append_assoc, List.append_assoc]; rfl
          have el : (orC O (Z ++ (3, G.length) :: G)).length = (orC O Z).length + (G.length + 1) := by
            cases O with
            | none => show (Z ++ _).length = _; rw [List.length_append]; rfl
            | some o => show (o.2 ++ (4, 0) :: (Z ++ _)).length = (o.2 ++ (4, 0) :: Z).length + _; rw [List.length_append, List.length_append, List.length_cons, List.length_cons, List.length_append]; show o.2.length + (Z.length + (G.length + 1) + 1) = o.2.length + (Z.length + 1) + (G.length + 1); omega
          rw [ez] at y2
          exact ih f O (fun v => P v && E v) p2 c2 (Z ++ (3, G.length) :: G) M5 (l4 + 1) (by omega) ⟨fr4.tr y1, by rw [e1, ek, o1]; exact ts_and h4 o7 ot.1 ot.2, w2, y2, Cp.and g2 o3, ⟨g3.tr o4, fun a b e => by
            show (P a && E a) = (P b && E b)
            rw [(g4.up o4) a b e, o5 a b e], fun o ho => ⟨(g5 o ho).1.up o4, (g5 o ho).2⟩⟩, ⟨by omega, o7⟩, ⟨by omega, o8'⟩, by rw [el]; omega⟩ (by omega)
        · have hC4 := fr4.CI hC
          rw [← ek, ← e1] at q4
          repeat (first | ((with_reducible apply WP.ce); case h => (simp (disch := omega) only []; with_reducible rfl)) | ((with_reducible apply WP.bd); case h => (simp (disch := omega) only [e_gR, e_gI, e_aI, e_aL, e_oO, e_pI, e_wI, e_wL, Option.map_some, mS_sL, mR_sL, mI_sL, mS_sI, mR_sI, mL_sI, n_cl, cob_10 hC4]; with_reducible rfl)) | rw [nm_eq] | rw [ckZ_n1] | rw [ckZ_n0])
          refine WP.cw (y_landF hC4 q4 (j := (C ++ orC O Z).length) (by rw [lenC]; omega)) (fun _ M5 y => ?_)
          rw [n_add]
          exact y_ttF hC (fr4.tr y.1) y.2 gF (f + d + 1) _ _ wb
      · have ho : lts t (bk t p1) = w_or := hao.resolve_left ha
        refine WP.ie (by rw [tw_and h4]; exact ha) ?_
        repeat (first | ((with_reducible apply WP.ce); case h => (simp (disch := omega) only []; with_reducible rfl)) | ((with_reducible apply WP.bd); case h => (simp (disch := omega) only [e_gR, e_gI, e_aI, e_aL, e_oO, e_pI, e_wI, e_wL, Option.map_some, mS_sL, mR_sL, mI_sL, mS_sI, mR_sI, mL_sI, n_cl, cob_10 hC1, cr_10_tape hC1, cob_1 hC1, e_gL, kw]; with_reducible rfl)) | rw [nm_eq] | rw [ckZ_n1] | rw [ckZ_n0])
        refine WP.it (by rw [tw_or h4]; exact ho) ?_
        unfold f_X5_readTest_J51
        repeat (first | ((with_reducible apply WP.ce); case h => (simp (disch := omega) only []; with_reducible rfl)) | ((with_reducible apply WP.bd); case h => (simp (disch := omega) only [e_gR, e_gI, e_aI, e_aL, e_oO, e_pI, e_wI, e_wL, Option.map_some, mS_sL, mR_sL, mI_sL, mS_sI, mR_sI, mL_sI, n_cl, cob_10 hC1, cr_10_tape hC1, cob_1 hC1, e_gL, kw]; with_reducible rfl)) | rw [nm_eq] | rw [ckZ_n1] | rw [ckZ_n0])
        refine WP.ie (by rw [tw_and h4]; exact ha) ?_
        unfold f_X5_readTest_J70 f_X5_readTest_J87
        refine WP.it rfl ?_
        repeat (first | ((with_reducible apply WP.ce); case h => (simp (disch := omega) only []; with_reducible rfl)) | ((with_reducible apply WP.bd); case h => (simp (disch := omega) only [e_gR, e_gI, e_aI, e_aL, e_oO, e_pI, e_wI, e_wL, Option.map_some, mS_sL, mR_sL, mI_sL, mS_sI, mR_sI, mL_sI, n_cl, cob_10 hC1]; with_reducible rfl)) | rw [nm_eq] | rw [ckZ_n1] | rw [ckZ_n0])
        refine WP.cw (y_lnd h4 (by rw [lenC]; omega) g1 g2 g4 g5) (fun _ M2 u => ?_)
        obtain ⟨u1, F, u2, u3, u4, u5⟩ := u
        have hC2 := u2.1.1
        have kl := u2.2.2.1.1
        obtain ⟨Q, hQ⟩ : ∃ Q : QD, Q = O.elim P (fun o => fun v => o.1 v || P v) := ⟨_, rfl⟩
        rw [← hQ] at u4 u5
        have ek : tsR t (some P, p1, c1, orK (O.map Prod.fst) stk) = tsR t (none, tkE t p1, c1, (11, Q) :: stk) := by
          rw [hQ]
          cases O with
          | none => exact ts_o h4 g7 h9 h10 h11 ho
          | some o => exact (ts_or h4 g7 h9 h10 ha).trans (ts_o h4 g7 h9 h10 h11 ho)
        repeat (first | ((with_reducible apply WP.ce); case h => (simp (disch := omega) only []; with_reducible rfl)) | ((with_reducible apply WP.bd); case h => (simp (disch := omega) only [e_gR, e_gI, e_aI, e_aL, e_oO, e_pI, e_wI, e_wL, Option.map_some, mS_sL, mR_sL, mI_sL, mS_sI, mR_sI, mL_sI, n_cl, cob_10 hC2, kl]; with_reducible rfl)) | rw [nm_eq] | rw [ckZ_n1] | rw [ckZ_n0])
        refine WP.it rfl ?_
        unfold f_X5_readTest_J104 f_X5_readTest_J133
        repeat (first | ((with_reducible apply WP.ce); case h => (simp (disch := omega) only []; with_reducible rfl)) | ((with_reducible apply WP.bd); case h => (simp (disch := omega) only [e_gR, e_gI, e_aI, e_aL, e_oO, e_pI, e_wI, e_wL, Option.map_some, mS_sL, mR_sL, mI_sL, mS_sI, mR_sI, mL_sI, n_cl, cob_10 hC2]; with_reducible rfl)) | rw [nm_eq] | rw [ckZ_n1] | rw [ckZ_n0])
        have lenF : (C ++ F).length = C.length + F.length := List.length_append
        refine WP.cw (y_put u2 (x := (4, 0)) (by rw [lenF]; omega) ⟨by decide, by decide⟩) (fun v M3 x => ?_)
        obtain ⟨-, x1, x2⟩ := x
        have hC3 := x2.1.1
        repeat (first | ((with_reducible apply WP.ce); case h => (simp (disch := omega) only []; with_reducible rfl)) | ((with_reducible apply WP.bd); case h => (simp (disch := omega) only [e_gR, e_gI, e_aI, e_aL, e_oO, e_pI, e_wI, e_wL, Option.map_some, mS_sL, mR_sL, mI_sL, mS_sI, mR_sI, mL_sI, n_cl, cob_10 hC3, cr_10_tape hC3, cob_1 hC3]; with_reducible rfl)) | rw [nm_eq] | rw [ckZ_n1] | rw [ckZ_n0])
        refine WP.cw (y_next h4 g7 x2) (fun _ M4 n3 => ?_)
        obtain ⟨n1, n2⟩ := n3
        have hC4 := n2.1.1
        repeat (first | ((with_reducible apply WP.ce); case h => (simp (disch := omega) only []; with_reducible rfl)) | ((with_reducible apply WP.bd); case h => (simp (disch := omega) only [e_gR, e_gI, e_aI, e_aL, e_oO, e_pI, e_wI, e_wL, Option.map_some, mS_sL, mR_sL, mI_sL, mS_sI, mR_sI, mL_sI, n_cl, cob_10 hC4]; with_reducible rfl)) | rw [nm_eq] | rw [ckZ_n1] | rw [ckZ_n0])
        have lenP : ((C ++ F) ++ [(4, 0)]).length = C.length + F.length + 1 := by rw [List.length_append, lenF]; rfl
        have hdp : dph ((11, Q) :: stk) = dph stk := by
          show (if 11 = 9 ∨ 11 = 12 then 1 else 0) + dph stk = dph stk
          rw [if_neg (by decide), Nat.zero_add]
        refine WP.cw (hF M4 (tkE t p1) c1 w' ((C ++ F) ++ [(4, 0)]) _ hdp hmv.2 g8' (by rw [lenP]; omega) n2) (fun v M5 q => ?_)
        obtain ⟨q1, q2⟩ := q
        have fr5 := (((f1.tr u1).tr x1).tr n1).tr q1
        refine WP.it rfl ?_
        rw [n_add]
        rcases q2 with ⟨rfl, E, p2, c2, G, w2, o1, o2, o3, ⟨o4, o5⟩, ⟨o6, o7⟩, ⟨o8, o8'⟩, o9⟩ | ⟨q3, rfl, q4⟩
        · have elist : (C ++ F) ++ [(4, 0)] ++ G = C ++ orC (some (Q, F)) G := by rw [List.append_assoc, List.append_assoc]; rfl
          rw [elist] at o2
          have el : (orC (some (Q, F)) G).length = F.length + (G.length + 1) := by show (F ++ (4, 0) :: G).length = _; rw [List.length_append]; rfl
          exact ih f (some (Q, F)) E p2 c2 G M5 (l4 + 1) (by omega) ⟨fr5, by rw [e1, ek]; exact o1, w2, o2, o3, ⟨g3.tr o4, o5, fun o ho => by cases ho; exact ⟨u5.up o4, u4⟩⟩, ⟨by omega, o7⟩, ⟨by omega, o8'⟩, by rw [el]; omega⟩ (by omega)
        · rw [← ek, ← e1] at q4
          exact y_ttF hC fr5 q4 gF (f + d + 1) _ _ (Or.inr ⟨(C ++ F).length, by rw [lenF]; omega, rfl⟩)
    · rw [show f + (d + 1) + 2 = (f + d + 2) + 1 by omega]
      exact finL (f + d + 2) (nI l4) O P p1 c1 Z M1 h (fun z => hao (Or.inl z)) (fun z => hao (Or.inr z))
theorem y_test1 (h4 : TOk2 t) {gF : Nat → Int32 → Mem → Option (Int32 × Mem)} {d : Nat} (hF : PFc t gF d) : PTc t (fun this l1 M => fb_X5_readTest gF this l1 M) d := by
  intro M p c w C stk hd ht hp hc hl h
  have hL := h4.1
  have hC := h.1.1
  subst hd
  show WP (fb_X5_readTest gF 10 (nI (dph stk)) M) _
  unfold fb_X5_readTest
  repeat (first | ((with_reducible apply WP.ce); case h => (simp (disch := omega) only []; with_reducible rfl)) | ((with_reducible apply WP.bd); case h => (simp (disch := omega) only [e_gR, e_gI, e_aI, e_aL, e_oO, e_pI, e_wI, e_wL, Option.map_some, mS_sL, mR_sL, mI_sL, mS_sI, mR_sI, mL_sI, n_cl, cob_10 hC]; with_reducible rfl)) | rw [nm_eq] | rw [ckZ_n1] | rw [ckZ_n0])
  refine WP.cw (hF M p c w C stk rfl hp hc hl h) (fun v M1 q => ?_)
  obtain ⟨q1, q2⟩ := q
  rcases q2 with ⟨rfl, E, p2, c2, G, w2, o1, o2, o3, ⟨o4, o5⟩, ⟨o6, o7⟩, o8, o9⟩ | ⟨q3, rfl, q4⟩
  · obtain ⟨f, hf⟩ : ∃ f, FU = f + 400 + 2 := ⟨100000 - 402, by unfold FU; omega⟩
    rw [hf]
    exact y_testL h4 hC hl hF ht.1 ht.2.1 ht.2.2 400 f none E p2 c2 G M1 0 (by omega) ⟨q1, o1, w2, o2, o3, ⟨o4, o5, fun o ho => by cases ho⟩, ⟨o6, o7⟩, o8, o9⟩ (Nat.zero_le _)
  · obtain ⟨f, hf⟩ := FUd 0 (by omega)
    rw [hf]
    exact y_ttF hC q1 q4 gF _ _ _ (Or.inl rfl)
theorem y_fact1 (h4 : TOk2 t) {gT gF : Nat → Int32 → Mem → Option (Int32 × Mem)} {d : Nat} (hd10 : d ≤ 10) (hT : d < 10 → PTc t gT (d + 1)) (hF : d < 10 → PFc t gF (d + 1)) : PFc t (fun this l1 M => fb_X5_readFact gT gF this l1 M) d := by
  intro M p c w C stk hd hp hc hl h
  have hL := h4.1
  have hC := h.1.1
  have kw := h.1.2.2.1.2.2.2.1
  have kg := h.1.2.2.1.2.2.2.2.1
  have k4 := h.1.2.2.1.2.1
  have hp0 : ((none, p, c, stk) : TSt).2.1 ≤ t.1 := hp
  show WP (fb_X5_readFact gT gF 10 (nI d) M) _
  -- too deep
  have deep : d = 10 → (lts t (bk t p) = w_not ∨ (¬ lts t (bk t p) = w_not ∧ tkG t p = nI 91)) → ∀ l2 l3 : Int32, WP (f_X5_readFact_J46 gT gF 10 (nI d) l2 l3 M) (FCc M t p c C w stk) := by
    intro hd' hcs l2 l3
    have eS : tsS t (none, p, c, stk) = .inl (1 + 8 * bk t p + 2, p, c, fun _ => false) := by
      unfold tsS
      dsimp only
      rcases hcs with z | ⟨z1, z2⟩
      · rw [if_pos z, if_neg (by omega)]
      · rw [if_neg z1, if_pos z2, if_neg (by omega)]
    have er := tsR_l h4 hp0 eS
    unfold f_X5_readFact_J46
    refine WP.ie (by rw [n_lt (by omega) (by decide)]; omega) ?_
    repeat (first | ((with_reducible apply WP.ce); case h => (simp (disch := omega) only []; with_reducible rfl)) | ((with_reducible apply WP.bd); case h => (simp (disch := omega) only [e_gR, e_gI, e_aI, e_aL, e_oO, e_pI, e_wI, e_wL, Option.map_some, mS_sL, mR_sL, mI_sL, mS_sI, mR_sI, mL_sI, n_cl, cob_10 hC, cr_10_tape hC, cob_1 hC, k4]; with_reducible rfl)) | rw [nm_eq] | rw [ckZ_n1] | rw [ckZ_n0])
    refine WP.cw (y_fail h (by omega) (bk t p) 2) (fun v M' g => ?_)
    obtain ⟨rfl, g1, g2⟩ := g
    rw [ckZ_n0]
    exact WP.ret ⟨g1, Or.inr ⟨by rw [er]; show 1 + 8 * bk t p + 2 ≠ 0; omega, rfl, by rw [er]; exact g2⟩⟩
  unfold fb_X5_readFact
  repeat (first | ((with_reducible apply WP.ce); case h => (simp (disch := omega) only []; with_reducible rfl)) | ((with_reducible apply WP.bd); case h => (simp (disch := omega) only [e_gR, e_gI, e_aI, e_aL, e_oO, e_pI, e_wI, e_wL, Option.map_some, mS_sL, mR_sL, mI_sL, mS_sI, mR_sI, mL_sI, n_cl, cob_10 hC, cr_10_tape hC, cob_1 hC, e_gL, kw]; with_reducible rfl)) | rw [nm_eq] | rw [ckZ_n1] | rw [ckZ_n0])
  by_cases hn : lts t (bk t p) = w_not
  · have ew := tkE_w (by decide) hn
    have hE : tkE t p = bk t p + 3 := ew.2
    have hm := wk_mv (by decide) hp hn
    have hge := bk_ge t p
    have ng : ¬ tkG t p = nI 91 := fun z => by have := tkG_k (by decide) z; have := ew.1; omega
    refine WP.it (by rw [tw_not h4]; exact hn) ?_
    unfold f_X5_readFact_J19
    repeat (first | ((with_reducible apply WP.ce); case h => (simp (disch := omega) only []; with_reducible rfl)) | ((with_reducible apply WP.bd); case h => (simp (disch := omega) only [e_gR, e_gI, e_aI, e_aL, e_oO, e_pI, e_wI, e_wL, Option.map_some, mS_sL, mR_sL, mI_sL, mS_sI, mR_sI, mL_sI, n_cl, cob_10 hC, cr_10_tape hC, cob_1 hC, kg]; with_reducible rfl)) | rw [nm_eq] | rw [ckZ_n1] | rw [ckZ_n0])
    refine WP.ie ng ?_
    unfold f_X5_readFact_J37
    refine WP.ie (by decide) ?_
    by_cases hdd : d = 10
    · exact deep hdd (Or.inl hn) _ _
    · have hlt : d < 10 := by omega
      have eS : tsS t (none, p, c, stk) = .inr (none, tkE t p, c, (9, fun _ => false) :: stk) := by
        unfold tsS
        dsimp only
        rw [if_pos hn, if_pos (by omega)]
      have er := tsR_r h4 hp0 eS
      unfold f_X5_readFact_J46 f_X5_readFact_J68 f_X5_readFact_J102 f_X5_readFact_J103
      refine WP.it (by rw [n_lt (by omega) (by decide)]; exact hlt) (WP.ie (by decide) ?_)
      repeat (first | ((with_reducible apply WP.ce); case h => (simp (disch := omega) only []; with_reducible rfl)) | ((with_reducible apply WP.bd); case h => (simp (disch := omega) only [e_gR, e_gI, e_aI, e_aL, e_oO, e_pI, e_wI, e_wL, Option.map_some, mS_sL, mR_sL, mI_sL, mS_sI, mR_sI, mL_sI, n_cl, cob_10 hC, cr_10_tape hC, cob_1 hC]; with_reducible rfl)) | rw [nm_eq] | rw [ckZ_n1] | rw [ckZ_n0])
      refine WP.cw (y_next h4 hp h) (fun _ M1 n1 => ?_)
      obtain ⟨n1, n2⟩ := n1
      have hC1 := n2.1.1
      repeat (first | ((with_reducible apply WP.ce); case h => (simp (disch := omega) only []; with_reducible rfl)) | ((with_reducible apply WP.bd); case h => (simp (disch := omega) only [e_gR, e_gI, e_aI, e_aL, e_oO, e_pI, e_wI, e_wL, Option.map_some, mS_sL, mR_sL, mI_sL, mS_sI, mR_sI, mL_sI, n_cl, cob_10 hC1]; with_reducible rfl)) | rw [nm_eq] | rw [ckZ_n1] | rw [ckZ_n0])
      rw [n_add]
      refine WP.cw (hF hlt M1 (tkE t p) c w C ((9, fun _ => false) :: stk) (by show (if 9 = 9 ∨ 9 = 12 then 1 else 0) + dph stk = d + 1; rw [if_pos (by decide)]; omega) hm.2 hc (by omega) n2) (fun v M2 q => ?_)
      obtain ⟨q1, q2⟩ := q
      rcases q2 with ⟨rfl, E, p2, c2, G, w2, o1, o2, o3, ⟨o4, o5⟩, ⟨o6, o7⟩, o8, o9⟩ | ⟨q3, rfl, q4⟩
      · have hC2 := o2.1.1
        refine WP.ie (by decide) ?_
        repeat (first | ((with_reducible apply WP.ce); case h => (simp (disch := omega) only []; with_reducible rfl)) | ((with_reducible apply WP.bd); case h => (simp (disch := omega) only [e_gR, e_gI, e_aI, e_aL, e_oO, e_pI, e_wI, e_wL, Option.map_some, mS_sL, mR_sL, mI_sL, mS_sI, mR_sI, mL_sI, n_cl, cob_10 hC2]; with_reducible rfl)) | rw [nm_eq] | rw [ckZ_n1] | rw [ckZ_n0])
        refine WP.cw (y_put o2 (x := (2, 0)) (by rw [List.length_append]; omega) ⟨by decide, by decide⟩) (fun v M3 u => ?_)
        obtain ⟨rfl, u1, u2⟩ := u
        rw [List.append_assoc] at u2
        refine WP.ie (by decide) ?_
        rw [ckZ_n1]
        refine WP.ret ⟨(n1.tr q1).tr u1, Or.inl ⟨rfl, fun v => !E v, p2, c2, G ++ [(2, 0)], w2, ?_, u2, o3.ntt, ⟨o4, fun a b e => by show (!E a) = (!E b); rw [o5 a b e]⟩, ⟨by omega, o7⟩, o8, by rw [List.length_append]; show G.length + 1 + p ≤ p2; omega⟩⟩
        rw [er, o1]
        exact ts_not h4 o7
      · rw [← er] at q3 q4
        refine WP.it rfl ?_
        rw [ckZ_n0]
        exact WP.ret ⟨n1.tr q1, Or.inr ⟨q3, rfl, q4⟩⟩
  · refine WP.ie (by rw [tw_not h4]; exact hn) ?_
    unfold f_X5_readFact_J19
    repeat (first | ((with_reducible apply WP.ce); case h => (simp (disch := omega) only []; with_reducible rfl)) | ((with_reducible apply WP.bd); case h => (simp (disch := omega) only [e_gR, e_gI, e_aI, e_aL, e_oO, e_pI, e_wI, e_wL, Option.map_some, mS_sL, mR_sL, mI_sL, mS_sI, mR_sI, mL_sI, n_cl, cob_10 hC, cr_10_tape hC, cob_1 hC, kg]; with_reducible rfl)) | rw [nm_eq] | rw [ckZ_n1] | rw [ckZ_n0])
    by_cases hg : tkG t p = nI 91
    · have hm := gk_mv (by decide) hp hg
      refine WP.it hg ?_
      unfold f_X5_readFact_J37
      refine WP.it rfl (WP.ie (by decide) ?_)
      by_cases hdd : d = 10
      · exact deep hdd (Or.inr ⟨hn, hg⟩) _ _
      · have hlt : d < 10 := by omega
        have eS : tsS t (none, p, c, stk) = .inr (none, tkE t p, c, (12, fun _ => false) :: stk) := by
          unfold tsS
          dsimp only
          rw [if_neg hn, if_pos hg, if_pos (by omega)]
        have er := tsR_r h4 hp0 eS
        unfold f_X5_readFact_J46 f_X5_readFact_J68
        refine WP.it (by rw [n_lt (by omega) (by decide)]; exact hlt) (WP.it rfl (WP.ie (by decide) ?_))
        repeat (first | ((with_reducible apply WP.ce); case h => (simp (disch := omega) only []; with_reducible rfl)) | ((with_reducible apply WP.bd); case h => (simp (disch := omega) only [e_gR, e_gI, e_aI, e_aL, e_oO, e_pI, e_wI, e_wL, Option.map_some, mS_sL, mR_sL, mI_sL, mS_sI, mR_sI, mL_sI, n_cl, cob_10 hC, cr_10_tape hC, cob_1 hC]; with_reducible rfl)) | rw [nm_eq] | rw [ckZ_n1] | rw [ckZ_n0])
        refine WP.cw (y_next h4 hp h) (fun _ M1 n1 => ?_)
        obtain ⟨n1, n2⟩ := n1
        have hC1 := n2.1.1
        repeat (first | ((with_reducible apply WP.ce); case h => (simp (disch := omega) only []; with_reducible rfl)) | ((with_reducible apply WP.bd); case h => (simp (disch := omega) only [e_gR, e_gI, e_aI, e_aL, e_oO, e_pI, e_wI, e_wL, Option.map_some, mS_sL, mR_sL, mI_sL, mS_sI, mR_sI, mL_sI, n_cl, cob_10 hC1]; with_reducible rfl)) | rw [nm_eq] | rw [ckZ_n1] | rw [ckZ_n0])
        rw [n_add]
        refine WP.cw (hT hlt M1 (tkE t p) c w C ((12, fun _ => false) :: stk) (by show (if 12 = 9 ∨ 12 = 12 then 1 else 0) + dph stk = d + 1; rw [if_pos (by decide)]; omega) ⟨by show (12 : Nat) ≠ 9; decide, by show (12 : Nat) ≠ 10; decide, by show (12 : Nat) ≠ 11; decide⟩ hm.2 hc (by omega) n2) (fun v M2 q => ?_)
        obtain ⟨q1, q2⟩ := q
        rcases q2 with ⟨rfl, E, p2, c2, G, w2, o1, o2, o3, ⟨o4, o5⟩, ⟨o6, o7⟩, o8, o9, oa, oo⟩ | ⟨q3, rfl, q4⟩
        · have hC2 := o2.1.1
          have kg2 := o2.1.2.2.1.2.2.2.2.1
          have k42 := o2.1.2.2.1.2.1
          refine WP.ie (by decide) ?_
          repeat (first | ((with_reducible apply WP.ce); case h => (simp (disch := omega) only []; with_reducible rfl)) | ((with_reducible apply WP.bd); case h => (simp (disch := omega) only [e_gR, e_gI, e_aI, e_aL, e_oO, e_pI, e_wI, e_wL, Option.map_some, mS_sL, mR_sL, mI_sL, mS_sI, mR_sI, mL_sI, n_cl, cob_10 hC2, cr_10_tape hC2, cob_1 hC2, kg2]; with_reducible rfl)) | rw [nm_eq] | rw [ckZ_n1] | rw [ckZ_n0])
          have eS2 : tsS t (some E, p2, c2, (12, fun _ => false) :: stk) = (if tkG t p2 = nI 93 then .inr (some E, tkE t p2, c2, stk) else .inl (1 + 8 * bk t p2, p2, c2, fun _ => false)) := by
            unfold tsS
            dsimp only
            have e9 : popk 9 ((12, fun _ => false) :: stk) E = ((12, fun _ => false) :: stk, E) := popk_n (by show (12 : Nat) ≠ 9; decide)
            have e10 : popk 10 ((12, fun _ => false) :: stk) E = ((12, fun _ => false) :: stk, E) := popk_n (by show (12 : Nat) ≠ 10; decide)
            have e11 : popk 11 ((12, fun _ => false) :: stk) E = ((12, fun _ => false) :: stk, E) := popk_n (by show (12 : Nat) ≠ 11; decide)
            rw [if_neg oa, if_neg oo, e9]
            dsimp only
            rw [e10]
            dsimp only
            rw [e11]
            rfl
          have hp2 : ((some E, p2, c2, (12, fun _ => false) :: stk) : TSt).2.1 ≤ t.1 := o7
          by_cases h93 : tkG t p2 = nI 93
          · have hm2 := gk_mv (by decide) o7 h93
            rw [if_pos h93] at eS2
            refine WP.it h93 ?_
            repeat (first | ((with_reducible apply WP.ce); case h => (simp (disch := omega) only []; with_reducible rfl)) | ((with_reducible apply WP.bd); case h => (simp (disch := omega) only [e_gR, e_gI, e_aI, e_aL, e_oO, e_pI, e_wI, e_wL, Option.map_some, mS_sL, mR_sL, mI_sL, mS_sI, mR_sI, mL_sI, n_cl, cob_10 hC2, cr_10_tape hC2, cob_1 hC2]; with_reducible rfl)) | rw [nm_eq] | rw [ckZ_n1] | rw [ckZ_n0])
            refine WP.cw (y_next h4 o7 o2) (fun _ M3 n3 => ?_)
            rw [ckZ_n1]
            exact WP.ret ⟨(n1.tr q1).tr n3.1, Or.inl ⟨rfl, E, tkE t p2, c2, G, w2, by rw [er, o1]; exact tsR_r h4 hp2 eS2, n3.2, o3, ⟨o4, o5⟩, ⟨by omega, hm2.2⟩, o8, by omega⟩⟩
          · rw [if_neg h93] at eS2
            have er2 : tsR t (none, p, c, stk) = (1 + 8 * bk t p2, p2, c2, fun _ => false) := by rw [er, o1]; exact tsR_l h4 hp2 eS2
            refine WP.ie h93 ?_
            repeat (first | ((with_reducible apply WP.ce); case h => (simp (disch := omega) only []; with_reducible rfl)) | ((with_reducible apply WP.bd); case h => (simp (disch := omega) only [e_gR, e_gI, e_aI, e_aL, e_oO, e_pI, e_wI, e_wL, Option.map_some, mS_sL, mR_sL, mI_sL, mS_sI, mR_sI, mL_sI, n_cl, cob_10 hC2, cr_10_tape hC2, cob_1 hC2, k42]; with_reducible rfl)) | rw [nm_eq] | rw [ckZ_n1] | rw [ckZ_n0])
            refine WP.cw (y_fail o2 (by rw [List.length_append]; omega) (bk t p2) 0) (fun v M' g => ?_)
            obtain ⟨rfl, g1, g2⟩ := g
            rw [ckZ_n0]
            exact WP.ret ⟨(n1.tr q1).tr g1, Or.inr ⟨by rw [er2]; show 1 + 8 * bk t p2 ≠ 0; omega, rfl, by rw [er2]; exact g2⟩⟩
        · rw [← er] at q3 q4
          refine WP.it rfl ?_
          rw [ckZ_n0]
          exact WP.ret ⟨n1.tr q1, Or.inr ⟨q3, rfl, q4⟩⟩
    · refine WP.ie hg ?_
      unfold f_X5_readFact_J37
      refine WP.it rfl (WP.it rfl ?_)
      exact y_cmp h4 hp hc hl stk hn hg h gT gF _
theorem y_both (h4 : TOk2 t) : ∀ N d, d ≤ 10 → (2 * (10 - d) + 2 ≤ N → PTc t (fn_X5_readTest N).1 d) ∧ (2 * (10 - d) + 1 ≤ N → PFc t (fn_X5_readTest N).2 d)
  | 0, d, hd => ⟨fun z => by omega, fun z => by omega⟩
  | N + 1, d, hd => by
    refine ⟨fun z => ?_, fun z => ?_⟩
    · exact y_test1 h4 ((y_both h4 N d hd).2 (by omega))
    · exact y_fact1 h4 hd (fun hl => (y_both h4 N (d + 1) (by omega)).1 (by omega)) (fun hl => (y_both h4 N (d + 1) (by omega)).2 (by omega))
theorem y_test (h4 : TOk2 t) (hp : p ≤ t.1) (hc : c ≤ 60) (hl : C.length ≤ p) (h : CSt M t p c C w) : WP (f_X5_readTest 10 (nI 0) M) (TTc M t p c C w []) := (y_both h4 40 0 (by decide)).1 (by decide) M p c w C [] rfl ⟨by decide, by decide, by decide⟩ hp hc hl h
end CTT
