/-! THE CLASS: stretches of code -/
def Cp (F : CDs) (k : Nat) (P : (Nat → Int64) → List Int64) : Prop := ∀ (C : CDs) (i : Nat) (v : Nat → Int64) (st : List Int64), (∀ j, j < F.length → C[i + j]? = F[j]?) → st.length + k ≤ 8 → ∃ n, n ≤ F.length ∧ ∀ d, xr C v (n + d) i st = xr C v d (i + F.length) (P v ++ st)
theorem xr_s {C : CDs} {v : Nat → Int64} {i i' d : Nat} {st st' : List Int64} (h : xst C v i st = some (.inr (i', st'))) : xr C v (1 + d) i st = xr C v d i' st' := by
  rw [Nat.add_comm, xr, h]; rfl
theorem Cp.nl (k : Nat) : Cp [] k (fun _ => []) := fun C i v st _ _ => ⟨0, Nat.le_refl _, fun d => by rw [Nat.zero_add]; rfl⟩
theorem Cp.app {F G : CDs} {k k' K : Nat} {P Q : (Nat → Int64) → List Int64} (h1 : Cp F k P) (h2 : Cp G k' Q) (hk : k ≤ K) (hq : ∀ v, (P v).length + k' ≤ K) : Cp (F ++ G) K (fun v => Q v ++ P v) := fun C i v st hC hs => by
  have hqv := hq v
  obtain ⟨n1, l1, e1⟩ := h1 C i v st (fun j hj => (hC j (by rw [List.length_append]; omega)).trans (List.getElem?_append_left hj)) (by omega)
  obtain ⟨n2, l2, e2⟩ := h2 C (i + F.length) v (P v ++ st) (fun j hj => by
    have := hC (F.length + j) (by rw [List.length_append]; omega)
    rw [List.getElem?_append_right (by omega), show F.length + j - F.length = j by omega] at this
    rw [Nat.add_assoc]; exact this) (by rw [List.length_append]; omega)
  refine ⟨n1 + n2, by rw [List.length_append]; omega, fun d => ?_⟩
  rw [Nat.add_assoc, e1, e2, List.length_append, Nat.add_assoc, List.append_assoc]
theorem Cp.sn {F : CDs} {k : Nat} {P Q : (Nat → Int64) → List Int64} {x : Nat × Nat} (h : Cp F k P) (hx : ∀ (C : CDs) (v : Nat → Int64) (i : Nat) (st : List Int64), st.length + k ≤ 8 → C[i]? = some x → xst C v i (P v ++ st) = some (.inr (i + 1, Q v ++ st))) : Cp (F ++ [x]) k Q := fun C i v st hC hs => by
  obtain ⟨n1, l1, e1⟩ := h C i v st (fun j hj => (hC j (by rw [List.length_append]; omega)).trans (List.getElem?_append_left hj)) hs
  have hxx : C[i + F.length]? = some x := by
    rw [hC F.length (by rw [List.length_append]; show F.length < F.length + 1; omega), List.getElem?_append_right (Nat.le_refl _), Nat.sub_self]; rfl
  refine ⟨n1 + 1, by rw [List.length_append]; show n1 + 1 ≤ F.length + 1; omega, fun d => ?_⟩
  rw [Nat.add_assoc, e1, xr_s (hx C v _ st hs hxx), List.length_append]
  rfl
theorem xst_n {C : CDs} {v : Nat → Int64} {i w : Nat} {st : List Int64} (h : C[i]? = some (0, w)) (hs : st.length < 8) : xst C v i st = some (.inr (i + 1, Int32.toInt64 (nI w) :: st)) := by
  unfold xst
  rw [h]
  show (if 0 = 0 then (if st.length < 8 then _ else _) else _) = _
  rw [if_pos rfl, if_pos hs]
theorem xst_w {C : CDs} {v : Nat → Int64} {i w : Nat} {st : List Int64} (h : C[i]? = some (1, w)) (hs : st.length < 8) (hw : w < 11) : xst C v i st = some (.inr (i + 1, v w :: st)) := by
  unfold xst
  rw [h]
  show (if 1 = 0 then _ else if 1 = 1 then (if st.length < 8 ∧ w < 11 then _ else _) else _) = _
  rw [if_neg (by decide), if_pos rfl, if_pos ⟨hs, hw⟩]
theorem xst_2 {C : CDs} {v : Nat → Int64} {i w : Nat} {y : Int64} {st : List Int64} (h : C[i]? = some (2, w)) : xst C v i (y :: st) = some (.inr (i + 1, (1 - y) :: st)) := by
  unfold xst
  rw [h]; rfl
theorem xst_3 {C : CDs} {v : Nat → Int64} {i w : Nat} {y : Int64} {st : List Int64} (h : C[i]? = some (3, w)) : xst C v i (y :: st) = some (.inr (if y = 0 then (i + w + 1, y :: st) else (i + 1, st))) := by
  unfold xst
  rw [h]; rfl
theorem xst_4 {C : CDs} {v : Nat → Int64} {i w : Nat} {y : Int64} {st : List Int64} (h : C[i]? = some (4, w)) : xst C v i (y :: st) = some (.inr (if y = 0 then (i + 1, st) else (i + w + 1, y :: st))) := by
  unfold xst
  rw [h]; rfl
theorem xst_5 {C : CDs} {v : Nat → Int64} {i w : Nat} {y : Int64} {st : List Int64} (h : C[i]? = some (5, w)) : xst C v i (y :: st) = some (.inr (if y = 0 then (i + w + 1, st) else (i + 1, st))) := by
  unfold xst
  rw [h]; rfl
theorem xst_6 {C : CDs} {v : Nat → Int64} {i w : Nat} {y : Int64} {st : List Int64} (h : C[i]? = some (6, w)) : xst C v i (y :: st) = some (.inl y) := by
  unfold xst
  rw [h]; rfl
theorem xst_j {C : CDs} {v : Nat → Int64} {i w k : Nat} {y z : Int64} {st : List Int64} (h : C[i]? = some (k, w)) (hk : 7 ≤ k) : xst C v i (y :: z :: st) = some (.inr (i + 1, jnd k z y :: st)) := by
  unfold xst
  rw [h]
  dsimp only
  rw [if_neg (by omega), if_neg (by omega), if_neg (by omega), if_neg (by omega), if_neg (by omega), if_neg (by omega), if_neg (by omega)]
theorem Cp.num (n : Nat) : Cp [(0, n)] 1 (fun _ => [Int32.toInt64 (nI n)]) := Cp.sn (F := []) (Cp.nl 1) (fun C v i st hs h => xst_n h (by show st.length < 8; omega))
theorem Cp.wrd {w : Nat} (hw : w < 11) : Cp [(1, w)] 1 (fun v => [v w]) := Cp.sn (F := []) (Cp.nl 1) (fun C v i st hs h => xst_w h (by show st.length < 8; omega) hw)
theorem Cp.mono {F : CDs} {k k' : Nat} {P : (Nat → Int64) → List Int64} (h : Cp F k P) (hk : k ≤ k') : Cp F k' P := fun C i v st hC hs => h C i v st hC (by omega)
theorem Cp.jon {F : CDs} {k o : Nat} {X Y : RD} {R : (Nat → Int64) → List Int64} (h : Cp F k (fun v => Y v :: X v :: R v)) (ho : 7 ≤ o) : Cp (F ++ [(o, 0)]) k (fun v => jnd o (X v) (Y v) :: R v) := h.sn (fun C v i st hs hx => xst_j hx ho)
theorem Cp.ntt {F : CDs} {k : Nat} {D : QD} (h : Cp F k (fun v => [bL (D v)])) : Cp (F ++ [(2, 0)]) k (fun v => [bL (!D v)]) := h.sn (fun C v i st hs hx => by
  show xst C v i (bL (D v) :: st) = _
  rw [xst_2 hx, bL_not]; rfl)
theorem Cp.and {F G : CDs} {k : Nat} {D E : QD} (h1 : Cp F k (fun v => [bL (D v)])) (h2 : Cp G k (fun v => [bL (E v)])) : Cp (F ++ (3, G.length) :: G) k (fun v => [bL (D v && E v)]) := fun C i v st hC hs => by
  have len : (F ++ (3, G.length) :: G).length = F.length + (G.length + 1) := by rw [List.length_append]; rfl
  obtain ⟨n1, l1, e1⟩ := h1 C i v st (fun j hj => (hC j (by rw [len]; omega)).trans (List.getElem?_append_left hj)) hs
  have hx : C[i + F.length]? = some (3, G.length) := by
    rw [hC F.length (by rw [len]; omega), List.getElem?_append_right (Nat.le_refl _), Nat.sub_self]; rfl
  have e1 : ∀ d, xr C v (n1 + d) i st = xr C v d (i + F.length) (bL (D v) :: st) := e1
  cases hD : D v with
  | false =>
    refine ⟨n1 + 1, by rw [len]; omega, fun d => ?_⟩
    show xr C v (n1 + 1 + d) i st = xr C v d (i + (F ++ (3, G.length) :: G).length) (bL (D v && E v) :: st)
    rw [Nat.add_assoc, e1, hD, xr_s (xst_3 hx), len]
    show xr C v d (i + F.length + G.length + 1) (bL false :: st) = xr C v d (i + (F.length + (G.length + 1))) (bL (false && E v) :: st)
    rw [Bool.false_and, show i + F.length + G.length + 1 = i + (F.length + (G.length + 1)) by omega]
  | true =>
    obtain ⟨n2, l2, e2⟩ := h2 C (i + F.length + 1) v st (fun j hj => by
      have := hC (F.length + (1 + j)) (by rw [len]; omega)
      rw [List.getElem?_append_right (by omega), show F.length + (1 + j) - F.length = j + 1 by omega] at this
      rw [show i + F.length + 1 + j = i + (F.length + (1 + j)) by omega]; exact this) hs
    refine ⟨n1 + (1 + n2), by rw [len]; omega, fun d => ?_⟩
    show xr C v (n1 + (1 + n2) + d) i st = xr C v d (i + (F ++ (3, G.length) :: G).length) (bL (D v && E v) :: st)
    rw [show n1 + (1 + n2) + d = n1 + (1 + (n2 + d)) by omega, e1, hD, xr_s (xst_3 hx), len]
    show xr C v (n2 + d) (i + F.length + 1) st = _
    have e2 : ∀ d, xr C v (n2 + d) (i + F.length + 1) st = xr C v d (i + F.length + 1 + G.length) (bL (E v) :: st) := e2
    rw [e2, Bool.true_and, show i + F.length + 1 + G.length = i + (F.length + (G.length + 1)) by omega]
theorem Cp.or {F G : CDs} {k : Nat} {D E : QD} (h1 : Cp F k (fun v => [bL (D v)])) (h2 : Cp G k (fun v => [bL (E v)])) : Cp (F ++ (4, G.length) :: G) k (fun v => [bL (D v || E v)]) := fun C i v st hC hs => by
  have len : (F ++ (4, G.length) :: G).length = F.length + (G.length + 1) := by rw [List.length_append]; rfl
  obtain ⟨n1, l1, e1⟩ := h1 C i v st (fun j hj => (hC j (by rw [len]; omega)).trans (List.getElem?_append_left hj)) hs
  have hx : C[i + F.length]? = some (4, G.length) := by
    rw [hC F.length (by rw [len]; omega), List.getElem?_append_right (Nat.le_refl _), Nat.sub_self]; rfl
  have e1 : ∀ d, xr C v (n1 + d) i st = xr C v d (i + F.length) (bL (D v) :: st) := e1
  cases hD : D v with
  | true =>
    refine ⟨n1 + 1, by rw [len]; omega, fun d => ?_⟩
    show xr C v (n1 + 1 + d) i st = xr C v d (i + (F ++ (4, G.length) :: G).length) (bL (D v || E v) :: st)
    rw [Nat.add_assoc, e1, hD, xr_s (xst_4 hx), len]
    show xr C v d (i + F.length + G.length + 1) (bL true :: st) = xr C v d (i + (F.length + (G.length + 1))) (bL (true || E v) :: st)
    rw [Bool.true_or, show i + F.length + G.length + 1 = i + (F.length + (G.length + 1)) by omega]
  | false =>
    obtain ⟨n2, l2, e2⟩ := h2 C (i + F.length + 1) v st (fun j hj => by
      have := hC (F.length + (1 + j)) (by rw [len]; omega)
      rw [List.getElem?_append_right (by omega), show F.length + (1 + j) - F.length = j + 1 by omega] at this
      rw [show i + F.length + 1 + j = i + (F.length + (1 + j)) by omega]; exact this) hs
    refine ⟨n1 + (1 + n2), by rw [len]; omega, fun d => ?_⟩
    show xr C v (n1 + (1 + n2) + d) i st = xr C v d (i + (F ++ (4, G.length) :: G).length) (bL (D v || E v) :: st)
    rw [show n1 + (1 + n2) + d = n1 + (1 + (n2 + d)) by omega, e1, hD, xr_s (xst_4 hx), len]
    show xr C v (n2 + d) (i + F.length + 1) st = _
    have e2 : ∀ d, xr C v (n2 + d) (i + F.length + 1) st = xr C v d (i + F.length + 1 + G.length) (bL (E v) :: st) := e2
    rw [e2, Bool.false_or, show i + F.length + 1 + G.length = i + (F.length + (G.length + 1)) by omega]
/-! which words count -/
def dpd {α : Type} (w : Nat) (D : (Nat → Int64) → α) : Prop := ∀ v v' : Nat → Int64, (∀ k, w.testBit k = true → v k = v' k) → D v = D v'
def wsb (w w' : Nat) : Prop := ∀ k, w.testBit k = true → w'.testBit k = true
theorem wsb.rf (w : Nat) : wsb w w := fun _ h => h
theorem wsb.tr {w1 w2 w3 : Nat} (h1 : wsb w1 w2) (h2 : wsb w2 w3) : wsb w1 w3 := fun k h => h2 k (h1 k h)
theorem dpd.up {α : Type} {w w' : Nat} {D : (Nat → Int64) → α} (h : dpd w D) (hs : wsb w w') : dpd w' D := fun v v' e => h v v' (fun k hk => e k (hs k hk))
theorem wsb_or (w k : Nat) : wsb w (w ||| 2 ^ k) := fun j h => by rw [Nat.testBit_or, h]; rfl
theorem dpd_w (w k : Nat) : dpd (w ||| 2 ^ k) (fun v => v k) := fun v v' e => e k (by rw [Nat.testBit_or, Nat.testBit_two_pow_self, Bool.or_true])
/-! the class's reader -/
def CdM (M : Mem) (C : CDs) : Prop := mI M 10 3 = nI C.length ∧ ∀ j, j < C.length → mI M 11 j = nI (cwd (C.getD j (0, 0)))
def FK (M M' : Mem) : Prop := mS M' = mS M ∧ mR M' = mR M ∧ (∀ a, a ≠ 1 → a ≠ 10 → a ≠ 11 → a ≠ 12 → mI M' a = mI M a) ∧ mI M' 1 1 = mI M 1 1
theorem FK.rf (M : Mem) : FK M M := ⟨rfl, rfl, fun _ _ _ _ _ => rfl, rfl⟩
theorem FK.tr {M1 M2 M3 : Mem} (h1 : FK M1 M2) (h2 : FK M2 M3) : FK M1 M3 := ⟨h2.1.trans h1.1, h2.2.1.trans h1.2.1, fun a a1 a2 a3 a4 => (h2.2.2.1 a a1 a2 a3 a4).trans (h1.2.2.1 a a1 a2 a3 a4), h2.2.2.2.trans h1.2.2.2⟩
theorem FK.CI {M M' : Mem} (h : FK M M') (hC : CIs (mS M) (mR M)) : CIs (mS M') (mR M') := by rw [h.1, h.2.1]; exact hC
theorem FQ.FK {M M' : Mem} (h : FQ M M') : FK M M' := ⟨h.1, h.2.1, fun a a1 _ _ _ => h.2.2.1 a a1, h.2.2.2⟩
theorem FK.wx (M : Mem) {a : Nat} (ha : a = 10 ∨ a = 11 ∨ a = 12) (k : Nat) (v : Int32) : FK M (sI M a k v) := ⟨rfl, rfl, fun b b1 b2 b3 b4 => sI_row (by omega), by rw [sI_row (by omega)]⟩
/-- reading, no fault so far -/
def CSt (M : Mem) (t : TP) (p c : Nat) (C : CDs) (w : Nat) : Prop := (CIs (mS M) (mR M) ∧ CTp M t ∧ TK M t p ∧ mI M 1 2 = nI 0) ∧ (mI M 10 4 = nI c ∧ mI M 10 5 = nI w) ∧ CdM M C ∧ ∀ x ∈ C, cok x
/-- reading, a fault found -/
def CFl (M : Mem) (f : Nat) : Prop := f ≠ 0 ∧ mI M 1 2 = nI f ∧ ∃ L, L ≤ 400 ∧ mI M 10 3 = nI L
section CRD
variable {M : Mem} {t : TP} {p c w : Nat} {C : CDs}
theorem y_next (h4 : TOk2 t) (hp : p ≤ t.1) (h : CSt M t p c C w) : WP (f_X7_next 1 M) (fun _ M' => FK M M' ∧ CSt M' t (tkE t p) c C w) := by
  obtain ⟨⟨hC, ht, hk, h2⟩, ⟨h10, h11⟩, ⟨h12, h13⟩, h14⟩ := h
  refine WP.mono (c_next hC ht h4 (tkE_le hp).1 hk.2.2.2.2.2) (fun _ M' g => ?_)
  obtain ⟨g1, g2⟩ := g
  have r10 := g1.2.2.1 10 (by decide)
  have r11 := g1.2.2.1 11 (by decide)
  exact ⟨FQ.FK g1.FQ, ⟨g1.CI hC, g1.tp ht, g2, g1.2.2.2.2.1.trans h2⟩, ⟨by rw [r10]; exact h10, by rw [r10]; exact h11⟩, ⟨by rw [r10]; exact h12, by rw [r11]; exact h13⟩, h14⟩
theorem y_put (h : CSt M t p c C w) {x : Nat × Nat} (hl : C.length < 400) (hx : cok x) : WP (f_X5_put 10 (nI x.1) (nI x.2) M) (fun v M' => v = nI 1 ∧ FK M M' ∧ CSt M' t p c (C ++ [x]) w) := by
  obtain ⟨⟨hC, ht, hk, h2⟩, ⟨h10, h11⟩, ⟨h12, h13⟩, h14⟩ := h
  have cn := cn_code hC
  obtain ⟨M1, hM1⟩ : ∃ M1, M1 = sI M 11 C.length (nI (cwd x)) := ⟨_, rfl⟩
  have hC1 : CIs (mS M1) (mR M1) := by rw [hM1]; exact hC
  have e3 : mI M1 10 3 = nI C.length := by rw [hM1, sI_row (by decide)]; exact h12
  unfold f_X5_put f_X5_put_J37
  repeat (first | ((with_reducible apply WP.ce); case h => (simp (disch := omega) only []; with_reducible rfl)) | ((with_reducible apply WP.bd); case h => (simp (disch := omega) only [e_gR, e_gI, e_aI, e_aL, e_oO, e_pI, e_wI, e_wL, Option.map_some, mS_sL, mR_sL, mI_sL, mS_sI, mR_sI, mL_sI, n_cl, cob_10 hC, h12, cr_code hC, e_lnA, cn]; with_reducible rfl)) | rw [nm_eq] | rw [ckZ_n1] | rw [ckZ_n0])
  refine WP.ie (by rw [n_le (by decide) (by omega)]; omega) ?_
  rw [cwd_m hx]
  repeat (first | ((with_reducible apply WP.ce); case h => (simp (disch := omega) only []; with_reducible rfl)) | ((with_reducible apply WP.bd); case h => (simp (disch := omega) only [e_gR, e_gI, e_aI, e_aL, e_oO, e_pI, e_wI, e_wL, Option.map_some, mS_sL, mR_sL, mI_sL, mS_sI, mR_sI, mL_sI, n_cl, cob_10 hC, h12, cr_code hC, cx_code hC, ← hM1]; with_reducible rfl)) | rw [nm_eq] | rw [ckZ_n1] | rw [ckZ_n0])
  repeat (first | ((with_reducible apply WP.ce); case h => (simp (disch := omega) only []; with_reducible rfl)) | ((with_reducible apply WP.bd); case h => (simp (disch := omega) only [e_gR, e_gI, e_aI, e_aL, e_oO, e_pI, e_wI, e_wL, Option.map_some, mS_sL, mR_sL, mI_sL, mS_sI, mR_sI, mL_sI, n_cl, cob_10 hC1, e3, n_add]; with_reducible rfl)) | rw [nm_eq] | rw [ckZ_n1] | rw [ckZ_n0])
  have len : (C ++ [x]).length = C.length + 1 := by rw [List.length_append]; rfl
  refine WP.ret ⟨rfl, (by rw [hM1]; exact FK.wx M (Or.inr (Or.inl rfl)) _ _ : FK M M1).tr (FK.wx M1 (Or.inl rfl) _ _), ⟨hC1, ?_, hk.of (by rw [sI_row (by decide), hM1, sI_row (by decide)]) (by rw [hM1]; rfl), by rw [sI_row (by decide), hM1, sI_row (by decide)]; exact h2⟩, ⟨?_, ?_⟩, ⟨by rw [mI_sI, if_pos ⟨rfl, rfl⟩, len], fun j hj => ?_⟩, fun y hy => ?_⟩
  · exact ⟨by rw [sI_row (by decide), hM1, sI_row (by decide)]; exact ht.1, by rw [sI_row (by decide), hM1, sI_row (by decide)]; exact ht.2⟩
  · rw [mI_sI, if_neg (by decide), hM1, sI_row (by decide)]; exact h10
  · rw [mI_sI, if_neg (by decide), hM1, sI_row (by decide)]; exact h11
  · rw [len] at hj
    rw [sI_row (by decide), hM1, mI_sI]
    by_cases ej : j = C.length
    · rw [if_pos ⟨rfl, ej⟩, ej, List.getD_eq_getElem?_getD, List.getElem?_append_right (Nat.le_refl _), Nat.sub_self]; rfl
    · rw [if_neg (fun z => ej z.2), List.getD_eq_getElem?_getD, List.getElem?_append_left (by omega), ← List.getD_eq_getElem?_getD]
      exact h13 j (by omega)
  · rcases List.mem_append.mp hy with z | z
    · exact h14 y z
    · rw [List.mem_singleton.mp z]; exact hx
theorem y_putF (hC : CIs (mS M) (mR M)) {f : Nat} (h : CFl M f) (l1 l2 : Int32) : WP (f_X5_put 10 l1 l2 M) (fun v M' => v = nI 1 ∧ FK M M' ∧ CFl M' f) := by
  obtain ⟨h0, h1, L, h2, h3⟩ := h
  have cn := cn_code hC
  unfold f_X5_put f_X5_put_J37
  repeat (first | ((with_reducible apply WP.ce); case h => (simp (disch := omega) only []; with_reducible rfl)) | ((with_reducible apply WP.bd); case h => (simp (disch := omega) only [e_gR, e_gI, e_aI, e_aL, e_oO, e_pI, e_wI, e_wL, Option.map_some, mS_sL, mR_sL, mI_sL, mS_sI, mR_sI, mL_sI, n_cl, cob_10 hC, h3, cr_code hC, e_lnA, cn]; with_reducible rfl)) | rw [nm_eq] | rw [ckZ_n1] | rw [ckZ_n0])
  by_cases hL : L = 400
  · refine WP.it (by rw [n_le (by decide) (by omega)]; omega) ?_
    repeat (first | ((with_reducible apply WP.ce); case h => (simp (disch := omega) only []; with_reducible rfl)) | ((with_reducible apply WP.bd); case h => (simp (disch := omega) only [e_gR, e_gI, e_aI, e_aL, e_oO, e_pI, e_wI, e_wL, Option.map_some, mS_sL, mR_sL, mI_sL, mS_sI, mR_sI, mL_sI, n_cl, cob_10 hC]; with_reducible rfl)) | rw [nm_eq] | rw [ckZ_n1] | rw [ckZ_n0])
    exact WP.ret ⟨rfl, FK.rf M, h0, h1, L, h2, h3⟩
  · refine WP.ie (by rw [n_le (by decide) (by omega)]; omega) ?_
    obtain ⟨y, hy⟩ : ∃ y, y = (l1 <<< (nI 20 &&& 31)) ||| l2 := ⟨_, rfl⟩
    rw [← hy]
    obtain ⟨M1, hM1⟩ : ∃ M1, M1 = sI M 11 L y := ⟨_, rfl⟩
    have hC1 : CIs (mS M1) (mR M1) := by rw [hM1]; exact hC
    have e3 : mI M1 10 3 = nI L := by rw [hM1, sI_row (by decide)]; exact h3
    repeat (first | ((with_reducible apply WP.ce); case h => (simp (disch := omega) only []; with_reducible rfl)) | ((with_reducible apply WP.bd); case h => (simp (disch := omega) only [e_gR, e_gI, e_aI, e_aL, e_oO, e_pI, e_wI, e_wL, Option.map_some, mS_sL, mR_sL, mI_sL, mS_sI, mR_sI, mL_sI, n_cl, cob_10 hC, h3, cr_code hC, cx_code hC, ← hM1]; with_reducible rfl)) | rw [nm_eq] | rw [ckZ_n1] | rw [ckZ_n0])
    repeat (first | ((with_reducible apply WP.ce); case h => (simp (disch := omega) only []; with_reducible rfl)) | ((with_reducible apply WP.bd); case h => (simp (disch := omega) only [e_gR, e_gI, e_aI, e_aL, e_oO, e_pI, e_wI, e_wL, Option.map_some, mS_sL, mR_sL, mI_sL, mS_sI, mR_sI, mL_sI, n_cl, cob_10 hC1, e3, n_add]; with_reducible rfl)) | rw [nm_eq] | rw [ckZ_n1] | rw [ckZ_n0])
    exact WP.ret ⟨rfl, (by rw [hM1]; exact FK.wx M (Or.inr (Or.inl rfl)) _ _ : FK M M1).tr (FK.wx M1 (Or.inl rfl) _ _), h0, by rw [sI_row (by decide), hM1, sI_row (by decide)]; exact h1, L + 1, by omega, by rw [mI_sI, if_pos ⟨rfl, rfl⟩]⟩
theorem y_fail (h : CSt M t p c C w) (hl : C.length ≤ 400) (s x : Nat) : WP (f_X7_failAt 1 (nI s) (nI x) M) (fun v M' => v = nI 0 ∧ FK M M' ∧ CFl M' (1 + 8 * s + x)) := by
  refine WP.of (c_failAt h.1.1 h.1.2.2.2 s x) ⟨rfl, FQ.FK (FQ.w M _), by omega, by rw [mI_sI, if_pos ⟨rfl, rfl⟩], C.length, hl, by rw [sI_row (by decide)]; exact h.2.2.1.1⟩
theorem wrd_ok : ∀ k, k < 11 → WRD.getD k 0 = lN (cdL (wLs.getD k []) (wLs.getD k []).length) ∧ (cdL (wLs.getD k []) (wLs.getD k []).length < 2 ^ 63 ∧ 0 < cdL (wLs.getD k []) (wLs.getD k []).length) ∧ ∀ i, i < (wLs.getD k []).length → 1 ≤ (wLs.getD k []).getD i 0 ∧ (wLs.getD k []).getD i 0 < 256 := by decide +kernel
theorem y_word (h4 : TOk2 t) (h : CSt M t p c C w) : f_X5_wordFound 10 M = some (if wdk t p < 11 then nI (wdk t p) else -1, M) := by
  have hC := h.1.1
  have hw := h.1.2.2.1.2.2.2.1
  have lp : ∀ d k f, k + d = 11 → fs (wdB t p) k = none → f_X5_wordFound_L2 10 (f + d + 1) (nI k) M = some (if wdk t p < 11 then nI (wdk t p) else -1, M) := by
    intro d
    induction d with
    | zero =>
      intro k f hk hn
      have k11 : k = 11 := by omega
      subst k11
      have ew : wdk t p = 11 := by unfold wdk; rw [hn]; rfl
      rw [f_X5_wordFound_L2, if_pos (by decide), ew, if_neg (by decide)]
    | succ d ih =>
      intro k f hk hn
      have hk11 : k < 11 := by omega
      obtain ⟨o1, o2, o3⟩ := wrd_ok k hk11
      have e1 : kWord (nI k) = some (WRD.getD k 0) := by
        unfold kWord
        rw [n_cl (by omega), if_neg (fun z => by rcases z with z | z; exact nI_pos (by omega) z; omega)]
      rw [show f + (d + 1) + 1 = (f + d + 1) + 1 from by omega, f_X5_wordFound_L2, if_neg (by rw [n_le (by decide) (by omega)]; omega)]
      repeat (first | ((with_reducible apply clt_t); case h => (simp (disch := omega) only [hC]; with_reducible rfl)) | ((with_reducible apply bnd_t); case h => (simp (disch := omega) only [e_gR, e_gI, e_aI, e_aL, e_oO, e_pI, e_wI, e_wL, Option.map_some, mS_sL, mR_sL, mI_sL, mS_sI, mR_sI, mL_sI, n_cl, cob_10 hC, cr_10_tape hC, cob_1 hC, e_gL, hw, e1]; with_reducible rfl)) | rw [nm_eq])
      have eq : (lg_cmp (tkW t p) (WRD.getD k 0) = 0) = (lts t (bk t p) = wLs.getD k []) := by
        rw [lgc_eq, tw_eq h4 p (wLs_ok k hk11) o3 o1 o2]
      by_cases hB : lts t (bk t p) = wLs.getD k []
      · have ew : wdk t p = k := by unfold wdk; rw [fs_up _ hn (decide_eq_true hB) 11 hk11]; rfl
        rw [if_pos (by rw [eq]; exact hB), ew, if_pos hk11]
      · rw [if_neg (by rw [eq]; exact hB), n_add]
        exact ih (k + 1) f (by omega) (fs_no _ hn (decide_eq_false hB))
  obtain ⟨f, hf⟩ := FUd 11 (by omega)
  rw [f_X5_wordFound, hf]
  exact lp 11 0 f rfl rfl
/-- how a value ends -/
def VLc (M : Mem) (t : TP) (p c : Nat) (C : CDs) (w : Nat) (v : Int32) (M' : Mem) : Prop := FK M M' ∧ ((vlF t p c = 0 ∧ v = nI 1 ∧ ∃ x w', CSt M' t (tkE t p) (c + 1) (C ++ [x]) w' ∧ Cp [x] 1 (fun v => [vlD t p v]) ∧ wsb w w' ∧ dpd w' (vlD t p)) ∨ (vlF t p c ≠ 0 ∧ v = nI 0 ∧ CFl M' (vlF t p c)))
theorem y_value (h4 : TOk2 t) (hp : p ≤ t.1) (hc : c ≤ 60) (hl : C.length ≤ p) (h : CSt M t p c C w) : WP (f_X5_readValue 10 M) (fun v M' => VLc M t p c C w v M') := by
  have h0 := h
  have hL := h4.1
  obtain ⟨⟨hC, ht, hk, h2⟩, ⟨h10, h11⟩, ⟨h12, h13⟩, h14⟩ := h
  have k3 := hk.1
  have k4 := hk.2.1
  have k5 := hk.2.2.1
  have hV := tkV_lt h4 p
  have a1 := y_word h4 h0
  -- a fault
  have bad : ∀ x : Nat, vlF t p c = 1 + 8 * bk t p + x → WP (cl (f_X7_failAt 1 (nI (bk t p)) (nI x) M) fun r M => ckZ r (some (r, M))) (fun v M' => VLc M t p c C w v M') := fun x hx => by
    refine WP.cw (y_fail h0 (by omega) (bk t p) x) (fun v M' g => ?_)
    obtain ⟨rfl, g1, g2⟩ := g
    rw [ckZ_n0]
    exact WP.ret ⟨g1, Or.inr ⟨by rw [hx]; omega, rfl, by rw [hx]; exact g2⟩⟩
  -- counted
  have cnt : ∀ l1 : Int32, vlF t p c = (if c < 60 then 0 else 1 + 8 * bk t p + 3) → ((tkK t p = 1 ∧ l1 = -1 ∧ dgs t (bk t p) ≤ 5) ∨ (tkK t p ≠ 1 ∧ wdk t p < 11 ∧ l1 = nI (wdk t p))) → WP (f_X5_readValue_J76 10 l1 M) (fun v M' => VLc M t p c C w v M') := by
    intro l1 hf hcs
    obtain ⟨M1, hM1⟩ : ∃ M1, M1 = sI M 10 4 (nI (c + 1)) := ⟨_, rfl⟩
    have hC1 : CIs (mS M1) (mR M1) := by rw [hM1]; exact hC
    have e4 : mI M1 10 4 = nI (c + 1) := by rw [hM1, mI_sI, if_pos ⟨rfl, rfl⟩]
    have r1 : ∀ a, a ≠ 10 → mI M1 a = mI M a := fun a ha => by rw [hM1, sI_row ha]
    have s1 : CSt M1 t p (c + 1) C w := ⟨⟨hC1, ⟨by rw [r1 1 (by decide)]; exact ht.1, by rw [r1 2 (by decide)]; exact ht.2⟩, hk.of (r1 1 (by decide)) (by rw [hM1]; rfl), by rw [r1 1 (by decide)]; exact h2⟩, ⟨e4, by rw [hM1, mI_sI, if_neg (by decide)]; exact h11⟩, ⟨by rw [hM1, mI_sI, if_neg (by decide)]; exact h12, by rw [r1 11 (by decide)]; exact h13⟩, h14⟩
    have f1 : FK M M1 := by rw [hM1]; exact FK.wx M (Or.inl rfl) _ _
    have a2 : f_X5_counts 10 M = some (bI (decide (c < 60)), M1) := by
      unfold f_X5_counts f_X5_counts_J24
      repeat (first | ((with_reducible apply clt_t); case h => (simp (disch := omega) only [hC]; with_reducible rfl)) | ((with_reducible apply bnd_t); case h => (simp (disch := omega) only [e_gR, e_gI, e_aI, e_aL, e_oO, e_pI, e_wI, e_wL, Option.map_some, mS_sL, mR_sL, mI_sL, mS_sI, mR_sI, mL_sI, n_cl, cob_10 hC, h10, n_add, ← hM1]; with_reducible rfl)) | rw [nm_eq])
      repeat (first | ((with_reducible apply clt_t); case h => (simp (disch := omega) only [hC]; with_reducible rfl)) | ((with_reducible apply bnd_t); case h => (simp (disch := omega) only [e_gR, e_gI, e_aI, e_aL, e_oO, e_pI, e_wI, e_wL, Option.map_some, mS_sL, mR_sL, mI_sL, mS_sI, mR_sI, mL_sI, n_cl, cob_10 hC1, e4]; with_reducible rfl)) | rw [nm_eq])
      by_cases c6 : c < 60
      · rw [if_neg (by rw [n_lt (by decide) (by omega)]; omega), ckZ_n1, decide_eq_true c6]; rfl
      · rw [if_pos (by rw [n_lt (by decide) (by omega)]; omega), ckZ_n0, decide_eq_false c6]; rfl
    have b4 : mI M1 1 4 = nI (bk t p) := by rw [r1 1 (by decide)]; exact k4
    have b5 : mI M1 1 5 = nI (tkV t p) := by rw [r1 1 (by decide)]; exact k5
    unfold f_X5_readValue_J76 f_X5_readValue_J139
    repeat (first | ((with_reducible apply WP.ce); case h => (simp (disch := omega) only [a2]; with_reducible rfl)) | ((with_reducible apply WP.bd); case h => (simp (disch := omega) only [e_gR, e_gI, e_aI, e_aL, e_oO, e_pI, e_wI, e_wL, Option.map_some, mS_sL, mR_sL, mI_sL, mS_sI, mR_sI, mL_sI, n_cl, cob_10 hC]; with_reducible rfl)) | rw [nm_eq] | rw [ckZ_n1] | rw [ckZ_n0])
    by_cases c6 : c < 60
    · rw [if_pos c6] at hf
      have hmv := vl_mv hp hf
      rw [decide_eq_true c6]
      refine WP.ie (show ¬ bI true = 0 by decide) ?_
      rcases hcs with ⟨q1, rfl, q3⟩ | ⟨q1, q2, rfl⟩
      · refine WP.it rfl ?_
        have hV5 : tkV t p < 100000 := by unfold tkV; rw [if_pos q1, if_pos q3]; exact dgV_lt _ _
        repeat (first | ((with_reducible apply WP.ce); case h => (simp (disch := omega) only []; with_reducible rfl)) | ((with_reducible apply WP.bd); case h => (simp (disch := omega) only [e_gR, e_gI, e_aI, e_aL, e_oO, e_pI, e_wI, e_wL, Option.map_some, mS_sL, mR_sL, mI_sL, mS_sI, mR_sI, mL_sI, n_cl, cob_10 hC1, cr_10_tape hC1, cob_1 hC1, b5]; with_reducible rfl)) | rw [nm_eq] | rw [ckZ_n1] | rw [ckZ_n0])
        refine WP.cw (y_put s1 (x := (0, tkV t p)) (by omega) ⟨by show 0 ≤ 16; decide, by show tkV t p < 2 ^ 20; omega⟩) (fun v M2 g => ?_)
        obtain ⟨rfl, g1, g2⟩ := g
        have hC2 := g2.1.1
        repeat (first | ((with_reducible apply WP.ce); case h => (simp (disch := omega) only []; with_reducible rfl)) | ((with_reducible apply WP.bd); case h => (simp (disch := omega) only [e_gR, e_gI, e_aI, e_aL, e_oO, e_pI, e_wI, e_wL, Option.map_some, mS_sL, mR_sL, mI_sL, mS_sI, mR_sI, mL_sI, n_cl, cob_10 hC2, cr_10_tape hC2, cob_1 hC2]; with_reducible rfl)) | rw [nm_eq] | rw [ckZ_n1] | rw [ckZ_n0])
        refine WP.cw (y_next h4 hp g2) (fun _ M3 g3 => ?_)
        rw [ckZ_n1]
        refine WP.ret ⟨(f1.tr g1).tr g3.1, Or.inl ⟨hf, rfl, (0, tkV t p), w, g3.2, ?_, wsb.rf w, ?_⟩⟩
        · unfold vlD
          rw [if_pos q1]
          exact Cp.num _
        · unfold vlD
          rw [if_pos q1]
          exact fun _ _ _ => rfl
      · refine WP.ie (nm1 (a := wdk t p) (by omega)) ?_
        repeat (first | ((with_reducible apply WP.ce); case h => (simp (disch := omega) only []; with_reducible rfl)) | ((with_reducible apply WP.bd); case h => (simp (disch := omega) only [e_gR, e_gI, e_aI, e_aL, e_oO, e_pI, e_wI, e_wL, Option.map_some, mS_sL, mR_sL, mI_sL, mS_sI, mR_sI, mL_sI, n_cl, cob_10 hC1]; with_reducible rfl)) | rw [nm_eq] | rw [ckZ_n1] | rw [ckZ_n0])
        refine WP.cw (y_put s1 (x := (1, wdk t p)) (by omega) ⟨by show 1 ≤ 16; decide, by show wdk t p < 2 ^ 20; omega⟩) (fun v M2 g => ?_)
        obtain ⟨rfl, g1, g2⟩ := g
        have g2' := g2
        obtain ⟨⟨hC2, ht2, hk2, z2⟩, ⟨z10, z11⟩, ⟨z12, z13⟩, z14⟩ := g2
        obtain ⟨M3, hM3⟩ : ∃ M3, M3 = sI M2 10 5 (nI (w ||| 2 ^ wdk t p)) := ⟨_, rfl⟩
        have hC3 : CIs (mS M3) (mR M3) := by rw [hM3]; exact hC2
        have r3 : ∀ a, a ≠ 10 → mI M3 a = mI M2 a := fun a ha => by rw [hM3, sI_row ha]
        have s3 : CSt M3 t p (c + 1) (C ++ [(1, wdk t p)]) (w ||| 2 ^ wdk t p) := ⟨⟨hC3, ⟨by rw [r3 1 (by decide)]; exact ht2.1, by rw [r3 2 (by decide)]; exact ht2.2⟩, hk2.of (r3 1 (by decide)) (by rw [hM3]; rfl), by rw [r3 1 (by decide)]; exact z2⟩, ⟨by rw [hM3, mI_sI, if_neg (by decide)]; exact z10, by rw [hM3, mI_sI, if_pos ⟨rfl, rfl⟩]⟩, ⟨by rw [hM3, mI_sI, if_neg (by decide)]; exact z12, by rw [r3 11 (by decide)]; exact z13⟩, z14⟩
        repeat (first | ((with_reducible apply WP.ce); case h => (simp (disch := omega) only []; with_reducible rfl)) | ((with_reducible apply WP.bd); case h => (simp (disch := omega) only [e_gR, e_gI, e_aI, e_aL, e_oO, e_pI, e_wI, e_wL, Option.map_some, mS_sL, mR_sL, mI_sL, mS_sI, mR_sI, mL_sI, n_cl, cob_10 hC2, z11, cr_10_tape hC2, cob_1 hC2]; with_reducible rfl)) | rw [nm_eq] | rw [ckZ_n1] | rw [ckZ_n0])
        rw [n_shl (by omega), n_or, ← hM3]
        refine WP.cw (y_next h4 hp s3) (fun _ M4 g3 => ?_)
        rw [ckZ_n1]
        refine WP.ret ⟨((f1.tr g1).tr (by rw [hM3]; exact FK.wx M2 (Or.inl rfl) _ _ : FK M2 M3)).tr g3.1, Or.inl ⟨hf, rfl, (1, wdk t p), w ||| 2 ^ wdk t p, g3.2, ?_, wsb_or _ _, ?_⟩⟩
        · unfold vlD
          rw [if_neg q1]
          exact Cp.wrd q2
        · unfold vlD
          rw [if_neg q1]
          exact dpd_w _ _
    · rw [if_neg c6] at hf
      rw [decide_eq_false c6]
      refine WP.it rfl ?_
      repeat (first | ((with_reducible apply WP.ce); case h => (simp (disch := omega) only []; with_reducible rfl)) | ((with_reducible apply WP.bd); case h => (simp (disch := omega) only [e_gR, e_gI, e_aI, e_aL, e_oO, e_pI, e_wI, e_wL, Option.map_some, mS_sL, mR_sL, mI_sL, mS_sI, mR_sI, mL_sI, n_cl, cob_10 hC1, cr_10_tape hC1, cob_1 hC1, b4]; with_reducible rfl)) | rw [nm_eq] | rw [ckZ_n1] | rw [ckZ_n0])
      refine WP.cw (y_fail s1 (by omega) (bk t p) 3) (fun v M' g => ?_)
      obtain ⟨rfl, g1, g2⟩ := g
      rw [ckZ_n0]
      exact WP.ret ⟨f1.tr g1, Or.inr ⟨by rw [hf]; omega, rfl, by rw [hf]; exact g2⟩⟩
  have j39 : (tkK t p = 1 → dgs t (bk t p) ≤ 5) → WP (f_X5_readValue_J39 10 M) (fun v M' => VLc M t p c C w v M') := by
    intro h5
    unfold f_X5_readValue_J39
    repeat (first | ((with_reducible apply WP.ce); case h => (simp (disch := omega) only [a1]; with_reducible rfl)) | ((with_reducible apply WP.bd); case h => (simp (disch := omega) only [e_gR, e_gI, e_aI, e_aL, e_oO, e_pI, e_wI, e_wL, Option.map_some, mS_sL, mR_sL, mI_sL, mS_sI, mR_sI, mL_sI, n_cl, cob_10 hC]; with_reducible rfl)) | rw [nm_eq] | rw [ckZ_n1] | rw [ckZ_n0])
    repeat (first | ((with_reducible apply WP.ce); case h => (simp (disch := omega) only []; with_reducible rfl)) | ((with_reducible apply WP.bd); case h => (simp (disch := omega) only [e_gR, e_gI, e_aI, e_aL, e_oO, e_pI, e_wI, e_wL, Option.map_some, mS_sL, mR_sL, mI_sL, mS_sI, mR_sI, mL_sI, n_cl, cob_10 hC, cr_10_tape hC, cob_1 hC, k3]; with_reducible rfl)) | rw [nm_eq] | rw [ckZ_n1] | rw [ckZ_n0])
    by_cases q1 : tkK t p = 1
    · have ew : wdk t p = 11 := by
        rcases Nat.lt_or_ge (wdk t p) 11 with z | z
        · have := (tkE_w (wLs_ok _ z).1 (wdk_k z)).1; omega
        · have := wdk_le t p; omega
      have el : (if wdk t p < 11 then nI (wdk t p) else (-1 : Int32)) = -1 := by rw [ew]; rfl
      rw [el]
      refine WP.it (by rw [q1]) ?_
      exact cnt _ (by unfold vlF; rw [if_pos q1, if_pos (h5 q1)]) (Or.inl ⟨q1, rfl, h5 q1⟩)
    · have k3l : tkK t p ≤ 3 := by unfold tkK; split <;> (try split) <;> (try split) <;> decide
      refine WP.ie (by rw [n_eq (by omega) (by decide)]; exact q1) ?_
      by_cases q2 : wdk t p < 11
      · rw [if_pos q2]
        refine WP.ie (nm1 (by omega)) ?_
        exact cnt _ (by unfold vlF; rw [if_neg q1, if_pos q2]) (Or.inr ⟨q1, q2, rfl⟩)
      · rw [if_neg q2]
        refine WP.it rfl ?_
        repeat (first | ((with_reducible apply WP.ce); case h => (simp (disch := omega) only []; with_reducible rfl)) | ((with_reducible apply WP.bd); case h => (simp (disch := omega) only [e_gR, e_gI, e_aI, e_aL, e_oO, e_pI, e_wI, e_wL, Option.map_some, mS_sL, mR_sL, mI_sL, mS_sI, mR_sI, mL_sI, n_cl, cob_10 hC, cr_10_tape hC, cob_1 hC, k4]; with_reducible rfl)) | rw [nm_eq] | rw [ckZ_n1] | rw [ckZ_n0])
        exact bad 0 (by unfold vlF; rw [if_neg q1, if_neg q2]; rfl)
  unfold f_X5_readValue
  repeat (first | ((with_reducible apply WP.ce); case h => (simp (disch := omega) only []; with_reducible rfl)) | ((with_reducible apply WP.bd); case h => (simp (disch := omega) only [e_gR, e_gI, e_aI, e_aL, e_oO, e_pI, e_wI, e_wL, Option.map_some, mS_sL, mR_sL, mI_sL, mS_sI, mR_sI, mL_sI, n_cl, cob_10 hC, cr_10_tape hC, cob_1 hC, k3]; with_reducible rfl)) | rw [nm_eq] | rw [ckZ_n1] | rw [ckZ_n0])
  by_cases q1 : tkK t p = 1
  · refine WP.it (by rw [q1]) ?_
    repeat (first | ((with_reducible apply WP.ce); case h => (simp (disch := omega) only []; with_reducible rfl)) | ((with_reducible apply WP.bd); case h => (simp (disch := omega) only [e_gR, e_gI, e_aI, e_aL, e_oO, e_pI, e_wI, e_wL, Option.map_some, mS_sL, mR_sL, mI_sL, mS_sI, mR_sI, mL_sI, n_cl, cob_10 hC, cr_10_tape hC, cob_1 hC, k5]; with_reducible rfl)) | rw [nm_eq] | rw [ckZ_n1] | rw [ckZ_n0])
    by_cases h5 : dgs t (bk t p) ≤ 5
    · have hV5 : tkV t p < 100000 := by unfold tkV; rw [if_pos q1, if_pos h5]; exact dgV_lt _ _
      exact WP.ie (by rw [n_eq (by omega) (by decide)]; omega) (j39 (fun _ => h5))
    · have hV5 : tkV t p = 100000 := by unfold tkV; rw [if_pos q1, if_neg h5]
      refine WP.it (by rw [hV5]) ?_
      repeat (first | ((with_reducible apply WP.ce); case h => (simp (disch := omega) only []; with_reducible rfl)) | ((with_reducible apply WP.bd); case h => (simp (disch := omega) only [e_gR, e_gI, e_aI, e_aL, e_oO, e_pI, e_wI, e_wL, Option.map_some, mS_sL, mR_sL, mI_sL, mS_sI, mR_sI, mL_sI, n_cl, cob_10 hC, cr_10_tape hC, cob_1 hC, k4]; with_reducible rfl)) | rw [nm_eq] | rw [ckZ_n1] | rw [ckZ_n0])
      exact bad 1 (by unfold vlF; rw [if_pos q1, if_neg h5])
  · have k3l : tkK t p ≤ 3 := by unfold tkK; split <;> (try split) <;> (try split) <;> decide
    exact WP.ie (by rw [n_eq (by omega) (by decide)]; exact q1) (j39 (fun z => absurd z q1))
end CRD
