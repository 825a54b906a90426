/-! THE REFERENCE: what entries come to -/
theorem tsw_j {α : Type} {k lo : Nat} {os : List (Option (α × Mem))} {o : Option (α × Mem)} (h0 : lo ≤ k) (h1 : k < lo + os.length) (hk : k < 2 ^ 31) : tsw (nI k) (lo : Int) os o = os.getD (k - lo) none := by
  unfold tsw
  rw [nI_toInt hk, if_neg (by omega), show ((k : Int) - (lo : Int)).toNat = k - lo by omega]
theorem tsw_n {α : Type} {k lo : Nat} {os : List (Option (α × Mem))} {o : Option (α × Mem)} (h0 : k < lo ∨ lo + os.length ≤ k) (hk : k < 2 ^ 31) : tsw (nI k) (lo : Int) os o = o := by
  unfold tsw
  rw [nI_toInt hk, if_pos (by omega)]
def bth (k : Nat) (x y : Int64) : Int64 := if k = 4 ∨ k = 5 ∨ k = 6 ∨ k = 7 ∨ k = 8 then bL (cpr k x y) else if k = 10 then x &&& y else if k = 11 then x ||| y else opr k x y
def eok (x : Nat × Nat) : Prop := (x.1 = 0 ∨ x.1 = 1 ∨ x.1 = 9 ∨ (x.1 = 2 ∨ x.1 = 3 ∨ x.1 = 4 ∨ x.1 = 5 ∨ x.1 = 6 ∨ x.1 = 7 ∨ x.1 = 8 ∨ x.1 = 10 ∨ x.1 = 11 ∨ x.1 = 13 ∨ x.1 = 14 ∨ x.1 = 15)) ∧ x.2 < 100000 ∧ (x.1 = 1 → x.2 < 11)
theorem r_truth (b : Bool) (M : Mem) : f_X10_truth (bI b) M = some (bL b, M) := by cases b <;> rfl
theorem r_both {k : Nat} (hk : k = 2 ∨ k = 3 ∨ k = 4 ∨ k = 5 ∨ k = 6 ∨ k = 7 ∨ k = 8 ∨ k = 10 ∨ k = 11 ∨ k = 13 ∨ k = 14 ∨ k = 15) (x y : Int64) (M : Mem) : f_X10_both (nI k) x y M = some (bth k x y, M) := by
  unfold f_X10_both
  rcases hk with rfl | rfl | rfl | rfl | rfl | rfl | rfl | rfl | rfl | rfl | rfl | rfl
  · exact tsw_j (lo := 2) (by decide) (by show 2 < 2 + 14; decide) (by decide)
  · exact tsw_j (lo := 2) (by decide) (by show 3 < 2 + 14; decide) (by decide)
  · refine (tsw_j (lo := 2) (by decide) (by show 4 < 2 + 14; decide) (by decide)).trans ?_
    show (if 0 ≤ lg_cmp x y then f_X10_both_J123 (nI 0) M else f_X10_both_J123 (nI 1) M) = some (bL (!decide (0 ≤ lg_cmp x y)), M)
    by_cases h : 0 ≤ lg_cmp x y
    · rw [if_pos h, decide_eq_true h]; rfl
    · rw [if_neg h, decide_eq_false h]; rfl
  · refine (tsw_j (lo := 2) (by decide) (by show 5 < 2 + 14; decide) (by decide)).trans ?_
    show (if 0 < lg_cmp x y then f_X10_both_J138 (nI 0) M else f_X10_both_J138 (nI 1) M) = some (bL (!decide (0 < lg_cmp x y)), M)
    by_cases h : 0 < lg_cmp x y
    · rw [if_pos h, decide_eq_true h]; rfl
    · rw [if_neg h, decide_eq_false h]; rfl
  · refine (tsw_j (lo := 2) (by decide) (by show 6 < 2 + 14; decide) (by decide)).trans ?_
    show (if lg_cmp x y = 0 then f_X10_both_J153 (nI 1) M else f_X10_both_J153 (nI 0) M) = some (bL (decide (lg_cmp x y = 0)), M)
    by_cases h : lg_cmp x y = 0
    · rw [if_pos h, decide_eq_true h]; rfl
    · rw [if_neg h, decide_eq_false h]; rfl
  · refine (tsw_j (lo := 2) (by decide) (by show 7 < 2 + 14; decide) (by decide)).trans ?_
    show (if lg_cmp x y < 0 then f_X10_both_J168 (nI 0) M else f_X10_both_J168 (nI 1) M) = some (bL (!decide (lg_cmp x y < 0)), M)
    by_cases h : lg_cmp x y < 0
    · rw [if_pos h, decide_eq_true h]; rfl
    · rw [if_neg h, decide_eq_false h]; rfl
  · refine (tsw_j (lo := 2) (by decide) (by show 8 < 2 + 14; decide) (by decide)).trans ?_
    show (if lg_cmp x y ≤ 0 then f_X10_both_J183 (nI 0) M else f_X10_both_J183 (nI 1) M) = some (bL (!decide (lg_cmp x y ≤ 0)), M)
    by_cases h : lg_cmp x y ≤ 0
    · rw [if_pos h, decide_eq_true h]; rfl
    · rw [if_neg h, decide_eq_false h]; rfl
  · exact tsw_j (lo := 2) (by decide) (by show 10 < 2 + 14; decide) (by decide)
  · exact tsw_j (lo := 2) (by decide) (by show 11 < 2 + 14; decide) (by decide)
  · exact tsw_j (lo := 2) (by decide) (by show 13 < 2 + 14; decide) (by decide)
  · refine (tsw_j (lo := 2) (by decide) (by show 14 < 2 + 14; decide) (by decide)).trans ?_
    show (if lg_cmp y 0 = 0 then f_X10_both_J97 0 M else if y = 0 then none else f_X10_both_J97 (x / y) M) = some ((if y = 0 then 0 else x / y), M)
    by_cases h : y = 0
    · rw [if_pos (by rw [lgc_eq]; exact h), if_pos h]; rfl
    · rw [if_neg (by rw [lgc_eq]; exact h), if_neg h, if_neg h]; rfl
  · refine (tsw_j (lo := 2) (by decide) (by show 15 < 2 + 14; decide) (by decide)).trans ?_
    show (if lg_cmp y 0 = 0 then f_X10_both_J111 0 M else if y = 0 then none else f_X10_both_J111 (x - x / y * y) M) = some ((if y = 0 then 0 else x - x / y * y), M)
    by_cases h : y = 0
    · rw [if_pos (by rw [lgc_eq]; exact h), if_pos h]; rfl
    · rw [if_neg (by rw [lgc_eq]; exact h), if_neg h, if_neg h]; rfl
/-- one entry -/
def ent1 (v : Nat → Int64) (x : Nat × Nat) (st : List Int64) : Option (List Int64) :=
  if x.1 = 0 then some (Int32.toInt64 (nI x.2) :: st) else if x.1 = 1 then some (v x.2 :: st)
  else if x.1 = 9 then (match st with | a :: s => some ((1 - a) :: s) | [] => none)
  else (match st with | b :: a :: s => some (bth x.1 a b :: s) | _ => none)
def evl (v : Nat → Int64) : List (Nat × Nat) → List Int64 → Option (List Int64)
  | [], st => some st
  | x :: F, st => (ent1 v x st).bind (evl v F)
theorem evl_app (v : Nat → Int64) : ∀ (F G : List (Nat × Nat)) st, evl v (F ++ G) st = (evl v F st).bind (evl v G)
  | [], G, st => rfl
  | x :: F, G, st => by
    show (ent1 v x st).bind (evl v (F ++ G)) = ((ent1 v x st).bind (evl v F)).bind (evl v G)
    cases ent1 v x st with
    | none => rfl
    | some st' => exact evl_app v F G st'
/-- entries lie in a rule's row -/
def FG (M : Mem) (m i a : Nat) (F : List (Nat × Nat)) : Prop := ∀ j, j < F.length → mI M (m + 18) (300 * i + a + j) = nI (F.getD j (0, 0)).1 ∧ mI M (m + 19) (300 * i + a + j) = nI (F.getD j (0, 0)).2
def SMg (st : List Int64) (g : Nat → Int64) : Prop := ∀ i, i < st.length → g i = st.getD (st.length - 1 - i) 0
theorem SMg.push {st : List Int64} {g : Nat → Int64} (h : SMg st g) (x : Int64) : SMg (x :: st) (vp_updL g st.length x) := fun i hi => by
  have hi : i < st.length + 1 := hi
  show (if i = st.length then x else g i) = (x :: st).getD (st.length + 1 - 1 - i) 0
  by_cases e : i = st.length
  · rw [if_pos e, show st.length + 1 - 1 - i = 0 by omega]; rfl
  · rw [if_neg e, show st.length + 1 - 1 - i = (st.length - 1 - i) + 1 by omega, h i (by omega)]; rfl
theorem SMg.top {a : Int64} {st : List Int64} {g : Nat → Int64} (h : SMg (a :: st) g) : g st.length = a := by
  rw [h st.length (by show st.length < st.length + 1; omega), show (a :: st).length - 1 - st.length = 0 by show st.length + 1 - 1 - st.length = 0; omega]; rfl
theorem SMg.pop {a : Int64} {st : List Int64} {g : Nat → Int64} (h : SMg (a :: st) g) : SMg st g := fun i hi => by
  rw [h i (by show i < st.length + 1; omega), show (a :: st).length - 1 - i = (st.length - 1 - i) + 1 by show st.length + 1 - 1 - i = _; omega]; rfl
theorem sL_sLr (M : Mem) (a k : Nat) (g : Nat → Int64) (x : Int64) : sL (sLr M a g) a k x = sLr M a (vp_updL g k x) := by
  show (M.1, M.2.1, rowU (rowU M.2.2.1 a g) a (vp_updL (rowU M.2.2.1 a g a) k x), M.2.2.2) = (M.1, M.2.1, rowU M.2.2.1 a (vp_updL g k x), M.2.2.2)
  have e : rowU (rowU M.2.2.1 a g) a (vp_updL (rowU M.2.2.1 a g a) k x) = rowU M.2.2.1 a (vp_updL g k x) := by
    funext q
    by_cases h : q = a
    · rw [h, rowU_s, rowU_s, rowU_s]
    · rw [rowU_n _ _ h, rowU_n _ _ h, rowU_n _ _ h]
  rw [e]
theorem mL_sLr_s (M : Mem) (a : Nat) (g : Nat → Int64) : mL (sLr M a g) a = g := rowU_s _ _ _
theorem mL_sLr_o (M : Mem) {a b : Nat} (g : Nat → Int64) (h : b ≠ a) : mL (sLr M a g) b = mL M b := rowU_n _ _ h
theorem i_m1 {n : Nat} (h : 0 < n) : nI n + (-1 : Int32) = nI (n - 1) := by rw [show (-1 : Int32) = - nI 1 from rfl, ← Int32.sub_eq_add_neg, n_sub (by omega)]
section RANS
variable {M : Mem} {m i : Nat}
theorem FG.hd {a : Nat} {x : Nat × Nat} {F : List (Nat × Nat)} (h : FG M m i a (x :: F)) : mI M (m + 18) (300 * i + a) = nI x.1 ∧ mI M (m + 19) (300 * i + a) = nI x.2 := h 0 (by show 0 < F.length + 1; omega)
theorem FG.tl {a : Nat} {x : Nat × Nat} {F : List (Nat × Nat)} (h : FG M m i a (x :: F)) : FG M m i (a + 1) F := fun j hj => by
  have := h (j + 1) (by show j + 1 < F.length + 1; omega)
  rw [show 300 * i + a + (j + 1) = 300 * i + (a + 1) + j by omega] at this
  exact this
/-- how a question of the entries ends -/
def ANe (M : Mem) (m : Nat) (x : Int64) (v : Int64) (M' : Mem) : Prop := v = x ∧ ∃ g, M' = sLr M (m + 26) g
theorem x_ansL (hR : RIs (mS M) (mR M) m) (hi : i < 6) {u : Nat} (hu : u ≤ 300) : ∀ (F : List (Nat × Nat)) (k f : Nat) (st st' : List Int64) (g : Nat → Int64), k + F.length = u → FG M m i k F → (∀ x ∈ F, eok x) → st.length + F.length ≤ 300 → evl (fun k => if k < 11 then mL M (m + 25) k else 0) F st = some st' → SMg st g → 0 < st'.length →
    WP (f_X10_answer_L6 m (f + F.length + 1) (nI i) (nI u) (nI st.length) (nI k) (sLr M (m + 26) g)) (ANe M m (st'.getD (st'.length - 1) 0)) := by
  intro F
  induction F with
  | nil =>
    intro k f st st' g hk hF ho hl he hs h0
    have he : some st = some st' := he
    cases he
    have hk : k = u := hk
    have hl : st.length ≤ 300 := hl
    rw [f_X10_answer_L6]
    refine WP.it (by rw [n_le (by omega) (by omega)]; omega) ?_
    have e0 := hs 0 h0
    rw [show st.length - 1 - 0 = st.length - 1 by omega] at e0
    repeat (first | ((with_reducible apply WP.ce); case h => (simp (disch := omega) only [hR]; with_reducible rfl)) | ((with_reducible apply WP.bd); case h => (simp (disch := omega) only [e_gR, e_gI, e_aI, e_aL, e_oO, e_pI, e_wI, e_wL, Option.map_some, mS_sL, mR_sL, mI_sL, mS_sI, mR_sI, mL_sI, n_cl, mS_sLr, mR_sLr, ro_m hR, rr_stack hR, rx_stack hR, mL_sLr_s, e0]; with_reducible rfl)) | rw [nm_eq] | rw [ckZ_n1] | rw [ckZ_n0])
    exact WP.ret ⟨rfl, g, rfl⟩
  | cons x F ih =>
    intro k f st st' g hk hF ho hl he hs h0
    have hlen : (x :: F).length = F.length + 1 := rfl
    rw [hlen] at hk hl
    obtain ⟨e1, e2⟩ := hF.hd
    obtain ⟨ho1, ho2, ho3⟩ := ho x List.mem_cons_self
    have hoF : ∀ y ∈ F, eok y := fun y hy => ho y (List.mem_cons_of_mem _ hy)
    obtain ⟨k1, k2⟩ := x
    have ho2 : k2 < 100000 := ho2
    have e1 : mI M (m + 18) (300 * i + k) = nI k1 := e1
    have e2 : mI M (m + 19) (300 * i + k) = nI k2 := e2
    have he : (ent1 (fun k => if k < 11 then mL M (m + 25) k else 0) (k1, k2) st).bind (evl (fun k => if k < 11 then mL M (m + 25) k else 0) F) = some st' := he
    rw [hlen, show f + (F.length + 1) + 1 = (f + F.length + 1) + 1 by omega, f_X10_answer_L6]
    refine WP.ie (by rw [n_le (by omega) (by omega)]; omega) ?_
    rw [n_mul, n_add]
    repeat (first | ((with_reducible apply WP.ce); case h => (simp (disch := omega) only [hR]; with_reducible rfl)) | ((with_reducible apply WP.bd); case h => (simp (disch := omega) only [e_gR, e_gI, e_aI, e_aL, e_oO, e_pI, e_wI, e_wL, Option.map_some, mS_sL, mR_sL, mI_sL, mS_sI, mR_sI, mL_sI, n_cl, mS_sLr, mR_sLr, mI_sLr, ro_m hR, rr_sort hR, rx_sort hR, rr_number hR, rx_number hR, e1, e2]; with_reducible rfl)) | rw [nm_eq] | rw [ckZ_n1] | rw [ckZ_n0])
    unfold f_X10_answer_J53 f_X10_answer_J77 f_X10_answer_J147
    rcases ho1 with h | h | h | h
    · have h : k1 = 0 := h
      subst h
      have he : evl (fun k => if k < 11 then mL M (m + 25) k else 0) F (Int32.toInt64 (nI k2) :: st) = some st' := he
      have hg := ih (k + 1) f _ st' _ (by omega) hF.tl hoF (by show st.length + 1 + F.length ≤ 300; omega) he (hs.push _) h0
      refine WP.it rfl ?_
      repeat (first | ((with_reducible apply WP.ce); case h => (simp (disch := omega) only [hR]; with_reducible rfl)) | ((with_reducible apply WP.bd); case h => (simp (disch := omega) only [e_gR, e_gI, e_aI, e_aL, e_oO, e_pI, e_wI, e_wL, Option.map_some, mS_sL, mR_sL, mI_sL, mS_sI, mR_sI, mL_sI, n_cl, mS_sLr, mR_sLr, ro_m hR, rr_stack hR]; with_reducible rfl)) | rw [nm_eq] | rw [ckZ_n1] | rw [ckZ_n0])
      refine WP.it rfl ?_
      repeat (first | ((with_reducible apply WP.ce); case h => (simp (disch := omega) only [hR]; with_reducible rfl)) | ((with_reducible apply WP.bd); case h => (simp (disch := omega) only [e_gR, e_gI, e_aI, e_aL, e_oO, e_pI, e_wI, e_wL, Option.map_some, mS_sL, mR_sL, mI_sL, mS_sI, mR_sI, mL_sI, n_cl, mS_sLr, mR_sLr, rx_stack hR, sL_sLr]; with_reducible rfl)) | rw [nm_eq] | rw [ckZ_n1] | rw [ckZ_n0])
      rw [n_add, n_add]
      exact hg
    · have h : k1 = 1 := h
      subst h
      have h11 := ho3 rfl
      have h11 : k2 < 11 := h11
      have he : evl (fun k => if k < 11 then mL M (m + 25) k else 0) F ((if k2 < 11 then mL M (m + 25) k2 else 0) :: st) = some st' := he
      rw [if_pos h11] at he
      have hg := ih (k + 1) f _ st' _ (by omega) hF.tl hoF (by show st.length + 1 + F.length ≤ 300; omega) he (hs.push _) h0
      refine WP.ie (by decide) ?_
      refine WP.it rfl ?_
      repeat (first | ((with_reducible apply WP.ce); case h => (simp (disch := omega) only [hR]; with_reducible rfl)) | ((with_reducible apply WP.bd); case h => (simp (disch := omega) only [e_gR, e_gI, e_aI, e_aL, e_oO, e_pI, e_wI, e_wL, Option.map_some, mS_sL, mR_sL, mI_sL, mS_sI, mR_sI, mL_sI, n_cl, mS_sLr, mR_sLr, ro_m hR, rr_stack hR]; with_reducible rfl)) | rw [nm_eq] | rw [ckZ_n1] | rw [ckZ_n0])
      refine WP.ie (by decide) ?_
      have e25 : mL (sLr M (m + 26) g) (m + 25) = mL M (m + 25) := mL_sLr_o M g (by omega)
      repeat (first | ((with_reducible apply WP.ce); case h => (simp (disch := omega) only [hR]; with_reducible rfl)) | ((with_reducible apply WP.bd); case h => (simp (disch := omega) only [e_gR, e_gI, e_aI, e_aL, e_oO, e_pI, e_wI, e_wL, Option.map_some, mS_sL, mR_sL, mI_sL, mS_sI, mR_sI, mL_sI, n_cl, mS_sLr, mR_sLr, ro_m hR, rr_asked hR, rx_asked hR, e25, rx_stack hR, sL_sLr]; with_reducible rfl)) | rw [nm_eq] | rw [ckZ_n1] | rw [ckZ_n0])
      rw [n_add, n_add]
      exact hg
    · have h : k1 = 9 := h
      subst h
      cases st with
      | nil => cases he
      | cons a s =>
        have he : evl (fun k => if k < 11 then mL M (m + 25) k else 0) F ((1 - a) :: s) = some st' := he
        have hls : (a :: s).length = s.length + 1 := rfl
        rw [hls] at hl ⊢
        have hg := ih (k + 1) f _ st' _ (by omega) hF.tl hoF (by show s.length + 1 + F.length ≤ 300; omega) he (hs.pop.push _) h0
        have et := hs.top
        refine WP.ie (by decide) ?_
        refine WP.ie (by decide) ?_
        refine WP.it rfl ?_
        rw [n_sub (by omega), show s.length + 1 - 1 = s.length by omega]
        repeat (first | ((with_reducible apply WP.ce); case h => (simp (disch := omega) only [hR]; with_reducible rfl)) | ((with_reducible apply WP.bd); case h => (simp (disch := omega) only [e_gR, e_gI, e_aI, e_aL, e_oO, e_pI, e_wI, e_wL, Option.map_some, mS_sL, mR_sL, mI_sL, mS_sI, mR_sI, mL_sI, n_cl, mS_sLr, mR_sLr, ro_m hR, rr_stack hR, rx_stack hR, mL_sLr_s, et, sL_sLr]; with_reducible rfl)) | rw [nm_eq] | rw [ckZ_n1] | rw [ckZ_n0])
        rw [n_add]
        exact hg
    · have h : k1 = 2 ∨ k1 = 3 ∨ k1 = 4 ∨ k1 = 5 ∨ k1 = 6 ∨ k1 = 7 ∨ k1 = 8 ∨ k1 = 10 ∨ k1 = 11 ∨ k1 = 13 ∨ k1 = 14 ∨ k1 = 15 := h
      have en : ∀ b a s, ent1 (fun k => if k < 11 then mL M (m + 25) k else 0) (k1, k2) (b :: a :: s) = some (bth k1 a b :: s) := fun b a s => by
        unfold ent1
        rw [if_neg (by show ¬ k1 = 0; omega), if_neg (by show ¬ k1 = 1; omega), if_neg (by show ¬ k1 = 9; omega)]
      have en1 : ∀ b, ent1 (fun k => if k < 11 then mL M (m + 25) k else 0) (k1, k2) [b] = none := fun b => by
        unfold ent1
        rw [if_neg (by show ¬ k1 = 0; omega), if_neg (by show ¬ k1 = 1; omega), if_neg (by show ¬ k1 = 9; omega)]
      have en0 : ent1 (fun k => if k < 11 then mL M (m + 25) k else 0) (k1, k2) [] = none := by
        unfold ent1
        rw [if_neg (by show ¬ k1 = 0; omega), if_neg (by show ¬ k1 = 1; omega), if_neg (by show ¬ k1 = 9; omega)]
      cases st with
      | nil => rw [en0] at he; cases he
      | cons b s =>
        cases s with
        | nil => rw [en1] at he; cases he
        | cons a s =>
          rw [en] at he
          have he : evl (fun k => if k < 11 then mL M (m + 25) k else 0) F (bth k1 a b :: s) = some st' := he
          have hls : (b :: a :: s).length = s.length + 2 := rfl
          rw [hls] at hl ⊢
          have hg := ih (k + 1) f _ st' _ (by omega) hF.tl hoF (by show s.length + 1 + F.length ≤ 300; omega) he (hs.pop.pop.push _) h0
          have et : g (s.length + 1) = b := hs.top
          have et2 := hs.pop.top
          have a1 := r_both h a b (sLr M (m + 26) g)
          refine WP.ie (by show ¬ nI k1 = nI 0; rw [n_eq (by omega) (by omega)]; omega) ?_
          refine WP.ie (by rw [n_eq (by omega) (by omega)]; omega) ?_
          refine WP.ie (by rw [n_eq (by omega) (by omega)]; omega) ?_
          rw [i_m1 (by omega), n_sub (by omega), show s.length + 2 - 1 = s.length + 1 by omega, show s.length + 1 - 1 = s.length by omega]
          repeat (first | ((with_reducible apply WP.ce); case h => (simp (disch := omega) only [a1]; with_reducible rfl)) | ((with_reducible apply WP.bd); case h => (simp (disch := omega) only [e_gR, e_gI, e_aI, e_aL, e_oO, e_pI, e_wI, e_wL, Option.map_some, mS_sL, mR_sL, mI_sL, mS_sI, mR_sI, mL_sI, n_cl, mS_sLr, mR_sLr, ro_m hR, rr_stack hR, rx_stack hR, mL_sLr_s, et, et2, sL_sLr]; with_reducible rfl)) | rw [nm_eq] | rw [ckZ_n1] | rw [ckZ_n0])
          rw [n_add]
          exact hg
/-- a stretch of entries that comes to one number -/
def AN (M : Mem) (m i a b : Nat) (D : RD) : Prop := ∃ F, b = a + F.length ∧ b ≤ 300 ∧ FG M m i a F ∧ (∀ x ∈ F, eok x) ∧ ∀ v, evl v F [] = some [D v]
theorem x_ans (hR : RIs (mS M) (mR M) m) (hi : i < 6) {a b : Nat} {D : RD} (h : AN M m i a b D) (g : Nat → Int64) : WP (f_X10_answer m (nI i) (nI a) (nI b) (sLr M (m + 26) g)) (ANe M m (D (fun k => if k < 11 then mL M (m + 25) k else 0))) := by
  obtain ⟨F, h1, h2, h3, h4, h5⟩ := h
  obtain ⟨f, hf⟩ := FUd F.length (by omega)
  rw [f_X10_answer, hf]
  exact x_ansL hR hi h2 F a f [] _ g h1.symm h3 h4 (by show 0 + F.length ≤ 300; omega) (h5 _) (fun i hi => absurd hi (Nat.not_lt_zero i)) (by show 0 < 1; decide)
/-- a clause as the reference has it -/
def ACl (M : Mem) (m i n B : Nat) (x : CLs) : Prop := ∃ a b e, (mI M (m + 21) (12 * i + n) = nI a ∧ mI M (m + 22) (12 * i + n) = nI b ∧ mI M (m + 23) (12 * i + n) = nI e) ∧ (e ≤ B ∧ b ≤ e) ∧ AN M m i a b x.2 ∧ x.1.elim (e = b) (fun q => b < e ∧ AN M m i b e (fun v => bL (q v)))
def ARl (M : Mem) (m i : Nat) (L : List CLs) : Prop := L.length ≤ 12 ∧ mI M (m + 20) i = nI L.length ∧ ∀ n, n < L.length → ACl M m i n 300 (L.getD n (none, fun _ => 0))
theorem FG.of {M' : Mem} {a : Nat} {F : List (Nat × Nat)} (h : FG M m i a F) (hb : a + F.length ≤ 300) (r : RSl m i M M') : FG M' m i a F := fun j hj => by
  have := r.1 (a + j) (by omega)
  rw [show 300 * i + (a + j) = 300 * i + a + j by omega] at this
  rw [this.1, this.2]
  exact h j hj
theorem AN.of {M' : Mem} {a b : Nat} {D : RD} (h : AN M m i a b D) (r : RSl m i M M') : AN M' m i a b D := by
  obtain ⟨F, h1, h2, h3, h4, h5⟩ := h
  exact ⟨F, h1, h2, h3.of (by omega) r, h4, h5⟩
theorem ACl.up {n B C : Nat} {x : CLs} (h : ACl M m i n B x) (hb : B ≤ C) : ACl M m i n C x := by
  obtain ⟨a, b, e, h1, h2, h3⟩ := h
  exact ⟨a, b, e, h1, ⟨Nat.le_trans h2.1 hb, h2.2⟩, h3⟩
theorem ACl.of {M' : Mem} {n B : Nat} {x : CLs} (h : ACl M m i n B x) (hn : n < 12) (r : RSl m i M M') : ACl M' m i n B x := by
  obtain ⟨a, b, e, h1, h2, h3, h4⟩ := h
  have q := r.2.2 n hn
  refine ⟨a, b, e, by rw [q.1, q.2.1, q.2.2]; exact h1, h2, h3.of r, ?_⟩
  obtain ⟨o, s⟩ := x
  cases o with
  | none => exact h4
  | some qd => exact ⟨h4.1, h4.2.of r⟩
theorem ARl.of {M' : Mem} {L : List CLs} (h : ARl M m i L) (r : RSl m i M M') : ARl M' m i L := by
  have h12 := h.1
  exact ⟨h.1, r.2.1.trans h.2.1, fun n hn => (h.2.2 n hn).of (by omega) r⟩
theorem x_wantL (hR : RIs (mS M) (mR M) m) (hi : i < 6) : ∀ (L : List CLs) (n f : Nat) (g : Nat → Int64), n + L.length ≤ 12 → mI M (m + 20) i = nI (n + L.length) → (∀ j, j < L.length → ACl M m i (n + j) 300 (L.getD j (none, fun _ => 0))) →
    WP (f_X10_wanted_L13 m (f + L.length + 1) (nI i) (nI (12 * i + n)) (sLr M (m + 26) g)) (ANe M m (rlD L (fun k => if k < 11 then mL M (m + 25) k else 0))) := by
  intro L
  induction L with
  | nil =>
    intro n f g hn hc hL
    have hc : mI M (m + 20) i = nI n := hc
    have hn : n ≤ 12 := hn
    rw [f_X10_wanted_L13, n_mul]
    repeat (first | ((with_reducible apply WP.ce); case h => (simp (disch := omega) only [hR]; with_reducible rfl)) | ((with_reducible apply WP.bd); case h => (simp (disch := omega) only [e_gR, e_gI, e_aI, e_aL, e_oO, e_pI, e_wI, e_wL, Option.map_some, mS_sL, mR_sL, mI_sL, mS_sI, mR_sI, mL_sI, n_cl, mS_sLr, mR_sLr, mI_sLr, ro_m hR, rr_clauses hR, rx_clauses hR, hc]; with_reducible rfl)) | rw [nm_eq] | rw [ckZ_n1] | rw [ckZ_n0])
    rw [n_add]
    exact WP.it (by rw [n_le (by omega) (by omega)]; omega) (WP.ret ⟨rfl, g, rfl⟩)
  | cons x L ih =>
    intro n f g hn hc hL
    have hlen : (x :: L).length = L.length + 1 := rfl
    rw [hlen] at hn hc ⊢
    obtain ⟨a, b, e, ⟨q1, q2, q3⟩, ⟨q4, q5⟩, q6, q7⟩ := hL 0 (by show 0 < L.length + 1; omega)
    have q1 : mI M (m + 21) (12 * i + n) = nI a := q1
    have q2 : mI M (m + 22) (12 * i + n) = nI b := q2
    have q3 : mI M (m + 23) (12 * i + n) = nI e := q3
    have q6 : AN M m i a b x.2 := q6
    have q7 : x.1.elim (e = b) (fun q => b < e ∧ AN M m i b e (fun v => bL (q v))) := q7
    have give : ∀ g, WP (f_X10_wanted_J65 m (nI i) (nI (12 * i + n)) (sLr M (m + 26) g)) (ANe M m (x.2 (fun k => if k < 11 then mL M (m + 25) k else 0))) := fun g => by
      unfold f_X10_wanted_J65
      repeat (first | ((with_reducible apply WP.ce); case h => (simp (disch := omega) only [hR]; with_reducible rfl)) | ((with_reducible apply WP.bd); case h => (simp (disch := omega) only [e_gR, e_gI, e_aI, e_aL, e_oO, e_pI, e_wI, e_wL, Option.map_some, mS_sL, mR_sL, mI_sL, mS_sI, mR_sI, mL_sI, n_cl, mS_sLr, mR_sLr, mI_sLr, ro_m hR, rr_sumAt hR, rx_sumAt hR, q1, rr_testAt hR, rx_testAt hR, q2]; with_reducible rfl)) | rw [nm_eq] | rw [ckZ_n1] | rw [ckZ_n0])
      exact WP.cw (x_ans hR hi q6 g) (fun v M' c => WP.ret c)
    rw [show f + (L.length + 1) + 1 = (f + L.length + 1) + 1 by omega, f_X10_wanted_L13, n_mul]
    repeat (first | ((with_reducible apply WP.ce); case h => (simp (disch := omega) only [hR]; with_reducible rfl)) | ((with_reducible apply WP.bd); case h => (simp (disch := omega) only [e_gR, e_gI, e_aI, e_aL, e_oO, e_pI, e_wI, e_wL, Option.map_some, mS_sL, mR_sL, mI_sL, mS_sI, mR_sI, mL_sI, n_cl, mS_sLr, mR_sLr, mI_sLr, ro_m hR, rr_clauses hR, rx_clauses hR, hc]; with_reducible rfl)) | rw [nm_eq] | rw [ckZ_n1] | rw [ckZ_n0])
    rw [n_add]
    refine WP.ie (by rw [n_le (by omega) (by omega)]; omega) ?_
    repeat (first | ((with_reducible apply WP.ce); case h => (simp (disch := omega) only [hR]; with_reducible rfl)) | ((with_reducible apply WP.bd); case h => (simp (disch := omega) only [e_gR, e_gI, e_aI, e_aL, e_oO, e_pI, e_wI, e_wL, Option.map_some, mS_sL, mR_sL, mI_sL, mS_sI, mR_sI, mL_sI, n_cl, mS_sLr, mR_sLr, mI_sLr, ro_m hR, rr_testAt hR, rx_testAt hR, q2, rr_endAt hR, rx_endAt hR, q3]; with_reducible rfl)) | rw [nm_eq] | rw [ckZ_n1] | rw [ckZ_n0])
    obtain ⟨o, s⟩ := x
    cases o with
    | none =>
      have q7 : e = b := q7
      exact WP.it (by rw [q7]) (give g)
    | some qd =>
      have q7 : b < e ∧ AN M m i b e (fun v => bL (qd v)) := q7
      refine WP.ie (by rw [n_eq (by omega) (by omega)]; omega) ?_
      repeat (first | ((with_reducible apply WP.ce); case h => (simp (disch := omega) only [hR]; with_reducible rfl)) | ((with_reducible apply WP.bd); case h => (simp (disch := omega) only [e_gR, e_gI, e_aI, e_aL, e_oO, e_pI, e_wI, e_wL, Option.map_some, mS_sL, mR_sL, mI_sL, mS_sI, mR_sI, mL_sI, n_cl, mS_sLr, mR_sLr, mI_sLr, ro_m hR, rr_testAt hR, rx_testAt hR, q2, rr_endAt hR, rx_endAt hR, q3]; with_reducible rfl)) | rw [nm_eq] | rw [ckZ_n1] | rw [ckZ_n0])
      refine WP.cw (x_ans hR hi q7.2 g) (fun v M1 c => ?_)
      obtain ⟨rfl, g1, rfl⟩ := c
      cases hq : qd (fun k => if k < 11 then mL M (m + 25) k else 0) with
      | true =>
        refine WP.it (by rw [lgc_eq]; rfl) ?_
        have : rlD ((some qd, s) :: L) (fun k => if k < 11 then mL M (m + 25) k else 0) = s (fun k => if k < 11 then mL M (m + 25) k else 0) := by
          show (if qd _ then _ else _) = _
          rw [hq]; rfl
        rw [this]
        exact give g1
      | false =>
        refine WP.ie (by rw [lgc_eq]; decide) ?_
        rw [n_add]
        have : rlD ((some qd, s) :: L) (fun k => if k < 11 then mL M (m + 25) k else 0) = rlD L (fun k => if k < 11 then mL M (m + 25) k else 0) := by
          show (if qd _ then _ else _) = _
          rw [hq]; rfl
        rw [this]
        exact ih (n + 1) f g1 (by omega) (by rw [hc]; congr 1; omega) (fun j hj => by
          have := hL (j + 1) (by show j + 1 < L.length + 1; omega)
          rw [show n + (j + 1) = n + 1 + j by omega] at this
          exact this)
theorem sLr_self (M : Mem) (a : Nat) : sLr M a (mL M a) = M := by
  show (M.1, M.2.1, rowU M.2.2.1 a (M.2.2.1 a), M.2.2.2) = M
  have : rowU M.2.2.1 a (M.2.2.1 a) = M.2.2.1 := by
    funext q
    by_cases h : q = a
    · rw [h, rowU_s]
    · rw [rowU_n _ _ h]
  rw [this]
theorem x_wanted (hR : RIs (mS M) (mR M) m) (hi : i < 6) {L : List CLs} (h : ARl M m i L) (h8 : mI M (m + 1) 8 = nI i) : ∃ g, f_X10_wanted m M = some (rlD L (fun k => if k < 11 then mL M (m + 25) k else 0), sLr M (m + 26) g) := by
  have h12 := h.1
  obtain ⟨f, hf⟩ := FUd L.length (by omega)
  have hw := x_wantL hR hi L 0 f (mL M (m + 26)) (by omega) (by rw [Nat.zero_add]; exact h.2.1) (fun j hj => by rw [Nat.zero_add]; exact h.2.2 j hj)
  rw [sLr_self, Nat.add_zero, ← hf] at hw
  have hw2 : WP (f_X10_wanted m M) (ANe M m (rlD L (fun k => if k < 11 then mL M (m + 25) k else 0))) := by
    unfold f_X10_wanted
    repeat (first | ((with_reducible apply WP.ce); case h => (simp (disch := omega) only [hR]; with_reducible rfl)) | ((with_reducible apply WP.bd); case h => (simp (disch := omega) only [e_gR, e_gI, e_aI, e_aL, e_oO, e_pI, e_wI, e_wL, Option.map_some, mS_sL, mR_sL, mI_sL, mS_sI, mR_sI, mL_sI, n_cl, ro_m hR, rr_scalar hR, rx_scalar hR, h8]; with_reducible rfl)) | rw [nm_eq] | rw [ckZ_n1] | rw [ckZ_n0])
    rw [n_mul]
    exact hw
  obtain ⟨v, M', e, rfl, g, rfl⟩ := hw2
  exact ⟨g, e⟩
end RANS
