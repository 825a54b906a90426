/-! THE CLASS: what a rule's code comes to -/
def jnd (k : Nat) (x y : Int64) : Int64 := if k = 7 then opr 2 x y else if k = 8 then opr 3 x y else if k = 9 then opr 13 x y else if k = 10 then opr 14 x y else if k = 11 then opr 15 x y else if k = 12 then bL (cpr 4 x y) else if k = 13 then bL (cpr 5 x y) else if k = 14 then bL (cpr 6 x y) else if k = 15 then bL (cpr 7 x y) else bL (cpr 8 x y)
theorem c_joined {k : Nat} (hk : 7 ≤ k ∧ k ≤ 16) (x y : Int64) (M : Mem) : f_X4_joined (nI k) x y M = some (jnd k x y, M) := by
  unfold f_X4_joined
  rcases (show k = 7 ∨ k = 8 ∨ k = 9 ∨ k = 10 ∨ k = 11 ∨ k = 12 ∨ k = 13 ∨ k = 14 ∨ k = 15 ∨ k = 16 by omega) with rfl | rfl | rfl | rfl | rfl | rfl | rfl | rfl | rfl | rfl
  · exact tsw_j (lo := 7) (by decide) (by show 7 < 7 + 9; decide) (by decide)
  · exact tsw_j (lo := 7) (by decide) (by show 8 < 7 + 9; decide) (by decide)
  · exact tsw_j (lo := 7) (by decide) (by show 9 < 7 + 9; decide) (by decide)
  · refine (tsw_j (lo := 7) (by decide) (by show 10 < 7 + 9; decide) (by decide)).trans ?_
    show (if lg_cmp y 0 = 0 then f_X4_joined_J77 0 M else if y = 0 then none else f_X4_joined_J77 (x / y) M) = some ((if y = 0 then 0 else x / y), M)
    by_cases h : y = 0
    · rw [if_pos (by rw [lgc_eq]; exact h), if_pos h]; rfl
    · rw [if_neg (by rw [lgc_eq]; exact h), if_neg h, if_neg h]; rfl
  · refine (tsw_j (lo := 7) (by decide) (by show 11 < 7 + 9; decide) (by decide)).trans ?_
    show (if lg_cmp y 0 = 0 then f_X4_joined_J91 0 M else if y = 0 then none else f_X4_joined_J91 (x - x / y * y) M) = some ((if y = 0 then 0 else x - x / y * y), M)
    by_cases h : y = 0
    · rw [if_pos (by rw [lgc_eq]; exact h), if_pos h]; rfl
    · rw [if_neg (by rw [lgc_eq]; exact h), if_neg h, if_neg h]; rfl
  · refine (tsw_j (lo := 7) (by decide) (by show 12 < 7 + 9; decide) (by decide)).trans ?_
    show (if 0 ≤ lg_cmp x y then f_X4_joined_J103 0 M else f_X4_joined_J103 1 M) = some (bL (!decide (0 ≤ lg_cmp x y)), M)
    by_cases h : 0 ≤ lg_cmp x y
    · rw [if_pos h, decide_eq_true h]; rfl
    · rw [if_neg h, decide_eq_false h]; rfl
  · refine (tsw_j (lo := 7) (by decide) (by show 13 < 7 + 9; decide) (by decide)).trans ?_
    show (if 0 < lg_cmp x y then f_X4_joined_J115 0 M else f_X4_joined_J115 1 M) = some (bL (!decide (0 < lg_cmp x y)), M)
    by_cases h : 0 < lg_cmp x y
    · rw [if_pos h, decide_eq_true h]; rfl
    · rw [if_neg h, decide_eq_false h]; rfl
  · refine (tsw_j (lo := 7) (by decide) (by show 14 < 7 + 9; decide) (by decide)).trans ?_
    show (if lg_cmp x y = 0 then f_X4_joined_J127 1 M else f_X4_joined_J127 0 M) = some (bL (decide (lg_cmp x y = 0)), M)
    by_cases h : lg_cmp x y = 0
    · rw [if_pos h, decide_eq_true h]; rfl
    · rw [if_neg h, decide_eq_false h]; rfl
  · refine (tsw_j (lo := 7) (by decide) (by show 15 < 7 + 9; decide) (by decide)).trans ?_
    show (if lg_cmp x y < 0 then f_X4_joined_J139 0 M else f_X4_joined_J139 1 M) = some (bL (!decide (lg_cmp x y < 0)), M)
    by_cases h : lg_cmp x y < 0
    · rw [if_pos h, decide_eq_true h]; rfl
    · rw [if_neg h, decide_eq_false h]; rfl
  · refine (tsw_n (lo := 7) (Or.inr (by show 7 + 9 ≤ 16; decide)) (by decide)).trans ?_
    show (if lg_cmp x y ≤ 0 then f_X4_joined_J151 0 M else f_X4_joined_J151 1 M) = some (bL (!decide (lg_cmp x y ≤ 0)), M)
    by_cases h : lg_cmp x y ≤ 0
    · rw [if_pos h, decide_eq_true h]; rfl
    · rw [if_neg h, decide_eq_false h]; rfl
abbrev CDs : Type := List (Nat × Nat)
/-- a step as a number -/
def cwd (x : Nat × Nat) : Nat := 2 ^ 20 * x.1 + x.2
def cok (x : Nat × Nat) : Prop := x.1 ≤ 16 ∧ x.2 < 2 ^ 20
theorem cwd_s {x : Nat × Nat} (h : cok x) : nI (cwd x) >>> (nI 20 &&& 31) = nI x.1 ∧ nI (cwd x) &&& nI 1048575 = nI x.2 := by
  obtain ⟨h1, h2⟩ := h
  have hl : cwd x < 2 ^ 31 := by unfold cwd; omega
  refine ⟨?_, ?_⟩
  · rw [n_shr hl (by decide)]
    congr 1
    unfold cwd
    rw [Nat.mul_add_div (by decide), Nat.div_eq_of_lt h2, Nat.add_zero]
  · rw [n_and]
    congr 1
    have : cwd x &&& 1048575 = cwd x % 2 ^ 20 := Nat.and_two_pow_sub_one_eq_mod _ 20
    rw [this]
    unfold cwd
    rw [Nat.mul_add_mod, Nat.mod_eq_of_lt h2]
theorem cwd_p : ∀ k, k ≤ 16 → nI k <<< (nI 20 &&& 31) = nI (2 ^ 20 * k) := by decide +kernel
theorem cwd_m {x : Nat × Nat} (h : cok x) : (nI x.1 <<< (nI 20 &&& 31)) ||| nI x.2 = nI (cwd x) := by
  rw [cwd_p _ h.1, n_or]
  congr 1
  unfold cwd
  rw [Nat.two_pow_add_eq_or_of_lt h.2]
theorem cwd_l {k d : Nat} (hd : d < 2 ^ 20) : nI (cwd (k, 0)) ||| nI d = nI (cwd (k, d)) := by
  rw [n_or]
  congr 1
  show (2 ^ 20 * k + 0) ||| d = 2 ^ 20 * k + d
  rw [Nat.add_zero, Nat.two_pow_add_eq_or_of_lt hd]
/-- one step of a code -/
def xst (C : CDs) (v : Nat → Int64) (i : Nat) (st : List Int64) : Option (Int64 ⊕ (Nat × List Int64)) :=
  match C[i]? with
  | none => some (.inl 0)
  | some x =>
    if x.1 = 0 then (if st.length < 8 then some (.inr (i + 1, Int32.toInt64 (nI x.2) :: st)) else none)
    else if x.1 = 1 then (if st.length < 8 ∧ x.2 < 11 then some (.inr (i + 1, v x.2 :: st)) else none)
    else match st with
      | [] => none
      | y :: s =>
        if x.1 = 2 then some (.inr (i + 1, (1 - y) :: s))
        else if x.1 = 3 then some (.inr (if y = 0 then (i + x.2 + 1, y :: s) else (i + 1, s)))
        else if x.1 = 4 then some (.inr (if y = 0 then (i + 1, s) else (i + x.2 + 1, y :: s)))
        else if x.1 = 5 then some (.inr (if y = 0 then (i + x.2 + 1, s) else (i + 1, s)))
        else if x.1 = 6 then some (.inl y)
        else match s with
          | [] => none
          | z :: s' => some (.inr (i + 1, jnd x.1 z y :: s'))
def xr (C : CDs) (v : Nat → Int64) : Nat → Nat → List Int64 → Option Int64
  | 0, _, _ => none
  | n + 1, i, st => (xst C v i st).bind (fun r => Sum.elim some (fun q => xr C v n q.1 q.2) r)
def tpI (n : Nat) : Int32 := nI n - nI 1
theorem tpI_p (n : Nat) : tpI n + nI 1 = nI n := by unfold tpI; rw [Int32.sub_add_cancel]
theorem tpI_s (n : Nat) : tpI (n + 1) = nI n := by unfold tpI; rw [n_sub (by omega)]; rfl
theorem tpI_m (n : Nat) : tpI (n + 1) + (-1 : Int32) = tpI n := by
  rw [tpI_s]
  unfold tpI
  rw [Int32.sub_eq_add_neg]; rfl
theorem nI_m (n : Nat) : nI n + (-1 : Int32) = tpI n := by
  unfold tpI
  rw [Int32.sub_eq_add_neg]; rfl
section CWR
variable {M : Mem} {a : Nat} {C : CDs}
theorem rule_o {S : List Shp} {R : Nat → Nat → Option Nat} {n : Nat} (h : IRule S R a n) : oS S 4 (some a) = some a := oS_ok h.1
theorem rule_n {S : List Shp} {R : Nat → Nat → Option Nat} {n : Nat} (h : IRule S R a n) : lnS S (some (a + 1)) = some (nI n) := by
  unfold lnS
  rw [Option.bind_some, h.2.1.2]; rfl
theorem rule_x {S : List Shp} {R : Nat → Nat → Option Nat} {n i : Nat} (h : IRule S R a n) (hi : i < n) (hn : n < 2 ^ 31) : ixS S 0 (some (a + 1)) (nI i) = some (a + 1) := by
  refine ixS_ok ?_ (by omega)
  unfold lenOf
  rw [h.2.1.2]
  exact hi
theorem rule_k {S : List Shp} {R : Nat → Nat → Option Nat} {n i : Nat} (h : IRule S R a n) (hi : i < 8) : ixS S 3 (some (a + 2)) (nI i) = some (a + 2) := ixS_ok (by rw [h.2.2.2]; exact hi) (by omega)
theorem tpI_8 : ∀ n, n < 8 → ¬ (nI 8 - nI 1 ≤ tpI n) := by decide +kernel
/-- the class looks at each step ahead of doing it -/
theorem y_fits {n k w len : Nat} (hI : IRule (mS M) (mR M) a n) (hk : k ≤ 16) (hw : w < 2 ^ 20) (hl : len ≤ 8) (h1 : k ≤ 1 → len < 8 ∧ (k = 0 ∨ w < 11)) (h2 : 2 ≤ k → 1 ≤ len) (h7 : 7 ≤ k → 2 ≤ len) : f_X4_fits a (nI k) (nI w) (tpI len) M = some (nI 1, M) := by
  unfold f_X4_fits f_X4_fits_J44 f_X4_fits_J26 f_X4_fits_J30 f_X4_fits_J31 f_X4_fits_J52
  by_cases c : 1 < k
  · rw [if_pos (by rw [n_lt (by decide) (by omega)]; exact c)]
    obtain ⟨l, rfl⟩ : ∃ l, len = l + 1 := ⟨len - 1, by have := h2 c; omega⟩
    rw [tpI_s]
    by_cases c7 : k < 7
    · rw [if_pos (by rw [n_lt (by omega) (by decide)]; exact c7), if_neg (by rw [n_lt (by omega) (by decide)]; omega), ckZ_n1]
    · rw [if_neg (by rw [n_lt (by omega) (by decide)]; exact c7), if_neg (by rw [n_lt (by omega) (by decide)]; have := h7 (by omega); omega), ckZ_n1]
  · rw [if_neg (by rw [n_lt (by decide) (by omega)]; exact c)]
    obtain ⟨c8, cw⟩ := h1 (by omega)
    have e2 := hI.2.2.1
    have ln : lnS (mS M) (some (a + 2)) = some (nI 8) := lnS_ok hI.2.2.2 (by decide) (by decide)
    repeat (first | ((with_reducible apply clt_t); case h => (simp (disch := omega) only []; with_reducible rfl)) | ((with_reducible apply bnd_t); case h => (simp (disch := omega) only [e_gR, e_gI, e_aI, e_aL, e_oO, e_pI, e_wI, e_wL, Option.map_some, mS_sL, mR_sL, mI_sL, mS_sI, mR_sI, mL_sI, n_cl, rule_o hI, e2, e_lnA, ln]; with_reducible rfl)) | rw [nm_eq])
    rw [if_neg (tpI_8 _ c8)]
    by_cases k0 : k = 0
    · subst k0
      rw [if_pos (show nI 0 = 0 from rfl), ckZ_n1]
    · rw [if_neg (by show ¬ (nI k = nI 0); rw [n_eq (by omega) (by decide)]; exact k0), if_neg (by rw [n_le (by decide) (by omega)]; omega), ckZ_n1]
theorem xst_fit {v : Nat → Int64} {i : Nat} {st : List Int64} {x : Nat × Nat} (e0 : C[i]? = some x) (hn : xst C v i st ≠ none) : (x.1 ≤ 1 → st.length < 8 ∧ (x.1 = 0 ∨ x.2 < 11)) ∧ (2 ≤ x.1 → 1 ≤ st.length) ∧ (7 ≤ x.1 → 2 ≤ st.length) := by
  unfold xst at hn
  rw [e0] at hn
  dsimp only at hn
  by_cases c0 : x.1 = 0
  · rw [if_pos c0] at hn
    by_cases c8 : st.length < 8
    · exact ⟨fun _ => ⟨c8, Or.inl c0⟩, fun z => absurd z (by omega), fun z => absurd z (by omega)⟩
    · rw [if_neg c8] at hn; exact absurd rfl hn
  · rw [if_neg c0] at hn
    by_cases c1 : x.1 = 1
    · rw [if_pos c1] at hn
      by_cases c8 : st.length < 8 ∧ x.2 < 11
      · exact ⟨fun _ => ⟨c8.1, Or.inr c8.2⟩, fun z => absurd z (by omega), fun z => absurd z (by omega)⟩
      · rw [if_neg c8] at hn; exact absurd rfl hn
    · rw [if_neg c1] at hn
      cases st with
      | nil => exact absurd rfl hn
      | cons y s =>
        refine ⟨fun z => absurd z (by omega), fun _ => (by show 1 ≤ s.length + 1; omega), fun z => ?_⟩
        dsimp only at hn
        rw [if_neg (by omega), if_neg (by omega), if_neg (by omega), if_neg (by omega), if_neg (by omega)] at hn
        cases s with
        | nil => exact absurd rfl hn
        | cons z s => show 2 ≤ s.length + 1 + 1; omega
theorem y_worL (hI : IRule (mS M) (mR M) a C.length) (hl : C.length ≤ 400) (hc : ∀ x ∈ C, cok x) (hm : ∀ j, j < C.length → mI M (a + 1) j = nI (cwd (C.getD j (0, 0)))) (h32 : lenOf (mS M) 0 32 = 11) {r : Int64} : ∀ n i f (st : List Int64) (g : Nat → Int64), xr C (fun k => if k < 11 then Int32.toInt64 (mI M 32 k) else 0) n i st = some r → i < 2 ^ 30 → st.length ≤ 8 → SMg st g →
    WP (f_X4_worth_L16 a (f + n) (some 32) (some (a + 1)) (some (a + 2)) (tpI st.length) (nI i) (sLr M (a + 2) g)) (fun w M' => w = r ∧ ∃ g', M' = sLr M (a + 2) g') := by
  intro n
  induction n with
  | zero => intro i f st g h; cases h
  | succ n ih =>
    intro i f st g h hi hs8 hg
    have ln := rule_n hI
    rw [show f + (n + 1) = (f + n) + 1 by omega, f_X4_worth_L16]
    repeat (first | ((with_reducible apply WP.ce); case h => (simp (disch := omega) only []; with_reducible rfl)) | ((with_reducible apply WP.bd); case h => (simp (disch := omega) only [e_gR, e_gI, e_aI, e_aL, e_oO, e_pI, e_wI, e_wL, Option.map_some, mS_sL, mR_sL, mI_sL, mS_sI, mR_sI, mL_sI, n_cl, e_lnA, mS_sLr, ln]; with_reducible rfl)) | rw [nm_eq] | rw [ckZ_n1] | rw [ckZ_n0])
    rw [xr] at h
    by_cases hlt : i < C.length
    · have e0 : C[i]? = some (C.getD i (0, 0)) := by rw [List.getD_eq_getElem?_getD, List.getElem?_eq_getElem hlt]; rfl
      obtain ⟨x, hx⟩ : ∃ x, x = C.getD i (0, 0) := ⟨_, rfl⟩
      have hcx : cok x := hc x (by rw [hx, List.getD_eq_getElem?_getD, List.getElem?_eq_getElem hlt]; exact List.getElem_mem hlt)
      have em := hm i hlt
      rw [← hx] at e0 em
      obtain ⟨s1, s2⟩ := cwd_s hcx
      have ix := rule_x hI hlt (by omega)
      refine WP.ie (by rw [n_le (by omega) (by omega)]; omega) ?_
      repeat (first | ((with_reducible apply WP.ce); case h => (simp (disch := omega) only []; with_reducible rfl)) | ((with_reducible apply WP.bd); case h => (simp (disch := omega) only [e_gR, e_gI, e_aI, e_aL, e_oO, e_pI, e_wI, e_wL, Option.map_some, mS_sL, mR_sL, mI_sL, mS_sI, mR_sI, mL_sI, n_cl, mS_sLr, mI_sLr, ix, em]; with_reducible rfl)) | rw [nm_eq] | rw [ckZ_n1] | rw [ckZ_n0])
      rw [s1]
      repeat (first | ((with_reducible apply WP.ce); case h => (simp (disch := omega) only []; with_reducible rfl)) | ((with_reducible apply WP.bd); case h => (simp (disch := omega) only [e_gR, e_gI, e_aI, e_aL, e_oO, e_pI, e_wI, e_wL, Option.map_some, mS_sL, mR_sL, mI_sL, mS_sI, mR_sI, mL_sI, n_cl, mS_sLr, mI_sLr, ix, em]; with_reducible rfl)) | rw [nm_eq] | rw [ckZ_n1] | rw [ckZ_n0])
      rw [s2]
      have hft := xst_fit e0 (fun z => by rw [z] at h; cases h)
      obtain ⟨k, w⟩ := x
      have hk : k ≤ 16 := hcx.1
      have hw : w < 2 ^ 20 := hcx.2
      have afit := y_fits (M := sLr M (a + 2) g) hI hk hw hs8 hft.1 hft.2.1 hft.2.2
      have afit : f_X4_fits a (nI (k, w).1) (nI (k, w).2) (tpI st.length) (sLr M (a + 2) g) = some (nI 1, sLr M (a + 2) g) := afit
      repeat (first | ((with_reducible apply WP.ce); case h => (simp (disch := omega) only [afit]; with_reducible rfl)) | ((with_reducible apply WP.bd); case h => (simp (disch := omega) only [e_gR, e_gI, e_aI, e_aL, e_oO, e_pI, e_wI, e_wL, Option.map_some, mS_sL, mR_sL, mI_sL, mS_sI, mR_sI, mL_sI, n_cl, mS_sLr, rule_o hI]; with_reducible rfl)) | rw [nm_eq] | rw [ckZ_n1] | rw [ckZ_n0])
      refine WP.ie (by decide) ?_
      show WP (tsw (nI k) 0 _ _) _
      unfold f_X4_worth_J240 f_X4_worth_J207
      unfold xst at h
      rw [e0] at h
      dsimp only at h
      rcases (show k = 0 ∨ k = 1 ∨ k = 2 ∨ k = 3 ∨ k = 4 ∨ k = 5 ∨ k = 6 ∨ (7 ≤ k) by omega) with rfl | rfl | rfl | rfl | rfl | rfl | rfl | hk7
      · rw [tsw_i (k := 0) rfl (by decide)]
        rw [if_pos rfl] at h
        by_cases h8 : st.length < 8
        · rw [if_pos h8] at h
          have h : xr C _ n (i + 1) (Int32.toInt64 (nI w) :: st) = some r := h
          have := ih (i + 1) f _ _ h (by omega) (by show st.length + 1 ≤ 8; omega) (hg.push _)
          have kx := rule_k hI h8
          show WP ((wL (sLr M (a + 2) g) (some (a + 2)) (tpI st.length + nI 1) (Int32.toInt64 (nI w))).bind fun M => f_X4_worth_L16 a (f + n) (some 32) (some (a + 1)) (some (a + 2)) (tpI st.length + nI 1) (nI i + nI 1) M) _
          rw [tpI_p, n_add]
          repeat (first | ((with_reducible apply WP.ce); case h => (simp (disch := omega) only []; with_reducible rfl)) | ((with_reducible apply WP.bd); case h => (simp (disch := omega) only [e_gR, e_gI, e_aI, e_aL, e_oO, e_pI, e_wI, e_wL, Option.map_some, mS_sL, mR_sL, mI_sL, mS_sI, mR_sI, mL_sI, n_cl, mS_sLr, kx, sL_sLr]; with_reducible rfl)) | rw [nm_eq] | rw [ckZ_n1] | rw [ckZ_n0])
          rw [show nI st.length = tpI (st.length + 1) from (tpI_s _).symm]
          exact this
        · rw [if_neg h8] at h; cases h
      · rw [tsw_i (k := 1) rfl (by decide)]
        rw [if_neg (by decide), if_pos rfl] at h
        by_cases h8 : st.length < 8 ∧ w < 11
        · rw [if_pos h8] at h
          have h : xr C _ n (i + 1) ((if w < 11 then Int32.toInt64 (mI M 32 w) else 0) :: st) = some r := h
          rw [if_pos h8.2] at h
          have := ih (i + 1) f _ _ h (by omega) (by show st.length + 1 ≤ 8; omega) (hg.push _)
          have kx := rule_k hI h8.1
          have vx : ixS (mS M) 0 (some 32) (nI w) = some 32 := ixS_ok (by rw [h32]; exact h8.2) (by omega)
          show WP ((aI (sLr M (a + 2) g) 0 (some 32) (nI w)).bind fun e9 => (wL (sLr M (a + 2) g) (some (a + 2)) (tpI st.length + nI 1) (Int32.toInt64 e9)).bind fun M => f_X4_worth_L16 a (f + n) (some 32) (some (a + 1)) (some (a + 2)) (tpI st.length + nI 1) (nI i + nI 1) M) _
          rw [tpI_p, n_add]
          repeat (first | ((with_reducible apply WP.ce); case h => (simp (disch := omega) only []; with_reducible rfl)) | ((with_reducible apply WP.bd); case h => (simp (disch := omega) only [e_gR, e_gI, e_aI, e_aL, e_oO, e_pI, e_wI, e_wL, Option.map_some, mS_sL, mR_sL, mI_sL, mS_sI, mR_sI, mL_sI, n_cl, mS_sLr, mI_sLr, vx, kx, sL_sLr]; with_reducible rfl)) | rw [nm_eq] | rw [ckZ_n1] | rw [ckZ_n0])
          rw [show nI st.length = tpI (st.length + 1) from (tpI_s _).symm]
          exact this
        · rw [if_neg h8] at h; cases h
      · rw [tsw_i (k := 2) rfl (by decide)]
        rw [if_neg (by decide), if_neg (by decide)] at h
        cases st with
        | nil => cases h
        | cons y s =>
          have h : xr C _ n (i + 1) ((1 - y) :: s) = some r := h
          have hs8 : s.length + 1 ≤ 8 := hs8
          have := ih (i + 1) f _ _ h (by omega) hs8 (hg.pop.push _)
          have kx := rule_k hI (show s.length < 8 by omega)
          have et := hg.top
          show WP ((aL (sLr M (a + 2) g) (some (a + 2)) (tpI (s.length + 1))).bind fun e10 => (wL (sLr M (a + 2) g) (some (a + 2)) (tpI (s.length + 1)) ((1 : Int64) - e10)).bind fun M => f_X4_worth_L16 a (f + n) (some 32) (some (a + 1)) (some (a + 2)) (tpI (s.length + 1)) (nI i + nI 1) M) _
          have this : WP (f_X4_worth_L16 a (f + n) (some 32) (some (a + 1)) (some (a + 2)) (tpI (s.length + 1)) (nI (i + 1)) (sLr M (a + 2) (vp_updL g s.length (1 - y)))) (fun w M' => w = r ∧ ∃ g', M' = sLr M (a + 2) g') := this
          rw [tpI_s] at this ⊢
          rw [n_add]
          repeat (first | ((with_reducible apply WP.ce); case h => (simp (disch := omega) only []; with_reducible rfl)) | ((with_reducible apply WP.bd); case h => (simp (disch := omega) only [e_gR, e_gI, e_aI, e_aL, e_oO, e_pI, e_wI, e_wL, Option.map_some, mS_sL, mR_sL, mI_sL, mS_sI, mR_sI, mL_sI, n_cl, mS_sLr, kx, mL_sLr_s, et, sL_sLr]; with_reducible rfl)) | rw [nm_eq] | rw [ckZ_n1] | rw [ckZ_n0])
          exact this
      · rw [tsw_i (k := 3) rfl (by decide)]
        rw [if_neg (by decide), if_neg (by decide)] at h
        cases st with
        | nil => cases h
        | cons y s =>
          have h : xr C _ n (if y = 0 then (i + w + 1, y :: s) else (i + 1, s)).1 (if y = 0 then (i + w + 1, y :: s) else (i + 1, s)).2 = some r := h
          have hs8 : s.length + 1 ≤ 8 := hs8
          have kx := rule_k hI (show s.length < 8 by omega)
          have et := hg.top
          show WP ((aL (sLr M (a + 2) g) (some (a + 2)) (tpI (s.length + 1))).bind fun e11 => if lg_cmp e11 0 = 0 then nm (nI i + nI w) fun v12 => f_X4_worth_L16 a (f + n) (some 32) (some (a + 1)) (some (a + 2)) (tpI (s.length + 1)) (v12 + nI 1) (sLr M (a + 2) g) else f_X4_worth_L16 a (f + n) (some 32) (some (a + 1)) (some (a + 2)) (tpI (s.length + 1) + (-1 : Int32)) (nI i + nI 1) (sLr M (a + 2) g)) _
          rw [tpI_m, tpI_s, n_add, n_add]
          repeat (first | ((with_reducible apply WP.ce); case h => (simp (disch := omega) only []; with_reducible rfl)) | ((with_reducible apply WP.bd); case h => (simp (disch := omega) only [e_gR, e_gI, e_aI, e_aL, e_oO, e_pI, e_wI, e_wL, Option.map_some, mS_sL, mR_sL, mI_sL, mS_sI, mR_sI, mL_sI, n_cl, mS_sLr, kx, mL_sLr_s, et]; with_reducible rfl)) | rw [nm_eq] | rw [ckZ_n1] | rw [ckZ_n0])
          by_cases hy : y = 0
          · rw [if_pos hy] at h
            refine WP.it (by rw [lgc_eq]; exact hy) ?_
            rw [n_add]
            have := ih (i + w + 1) f (y :: s) g h (by omega) hs8 hg
            have this : WP (f_X4_worth_L16 a (f + n) (some 32) (some (a + 1)) (some (a + 2)) (tpI (s.length + 1)) (nI (i + w + 1)) (sLr M (a + 2) g)) (fun w M' => w = r ∧ ∃ g', M' = sLr M (a + 2) g') := this
            rw [tpI_s] at this
            exact this
          · rw [if_neg hy] at h
            refine WP.ie (by rw [lgc_eq]; exact hy) ?_
            exact ih (i + 1) f s g h (by omega) (by omega) hg.pop
      · rw [tsw_i (k := 4) rfl (by decide)]
        rw [if_neg (by decide), if_neg (by decide)] at h
        cases st with
        | nil => cases h
        | cons y s =>
          have h : xr C _ n (if y = 0 then (i + 1, s) else (i + w + 1, y :: s)).1 (if y = 0 then (i + 1, s) else (i + w + 1, y :: s)).2 = some r := h
          have hs8 : s.length + 1 ≤ 8 := hs8
          have kx := rule_k hI (show s.length < 8 by omega)
          have et := hg.top
          show WP ((aL (sLr M (a + 2) g) (some (a + 2)) (tpI (s.length + 1))).bind fun e11 => if lg_cmp e11 0 = 0 then f_X4_worth_L16 a (f + n) (some 32) (some (a + 1)) (some (a + 2)) (tpI (s.length + 1) + (-1 : Int32)) (nI i + nI 1) (sLr M (a + 2) g) else nm (nI i + nI w) fun v12 => f_X4_worth_L16 a (f + n) (some 32) (some (a + 1)) (some (a + 2)) (tpI (s.length + 1)) (v12 + nI 1) (sLr M (a + 2) g)) _
          rw [tpI_m, tpI_s, n_add, n_add]
          repeat (first | ((with_reducible apply WP.ce); case h => (simp (disch := omega) only []; with_reducible rfl)) | ((with_reducible apply WP.bd); case h => (simp (disch := omega) only [e_gR, e_gI, e_aI, e_aL, e_oO, e_pI, e_wI, e_wL, Option.map_some, mS_sL, mR_sL, mI_sL, mS_sI, mR_sI, mL_sI, n_cl, mS_sLr, kx, mL_sLr_s, et]; with_reducible rfl)) | rw [nm_eq] | rw [ckZ_n1] | rw [ckZ_n0])
          by_cases hy : y = 0
          · rw [if_pos hy] at h
            refine WP.it (by rw [lgc_eq]; exact hy) ?_
            exact ih (i + 1) f s g h (by omega) (by omega) hg.pop
          · rw [if_neg hy] at h
            refine WP.ie (by rw [lgc_eq]; exact hy) ?_
            rw [n_add]
            have := ih (i + w + 1) f (y :: s) g h (by omega) hs8 hg
            have this : WP (f_X4_worth_L16 a (f + n) (some 32) (some (a + 1)) (some (a + 2)) (tpI (s.length + 1)) (nI (i + w + 1)) (sLr M (a + 2) g)) (fun w M' => w = r ∧ ∃ g', M' = sLr M (a + 2) g') := this
            rw [tpI_s] at this
            exact this
      · rw [tsw_i (k := 5) rfl (by decide)]
        rw [if_neg (by decide), if_neg (by decide)] at h
        cases st with
        | nil => cases h
        | cons y s =>
          have h : xr C _ n (if y = 0 then (i + w + 1, s) else (i + 1, s)).1 (if y = 0 then (i + w + 1, s) else (i + 1, s)).2 = some r := h
          have hs8 : s.length + 1 ≤ 8 := hs8
          have kx := rule_k hI (show s.length < 8 by omega)
          have et := hg.top
          show WP ((aL (sLr M (a + 2) g) (some (a + 2)) (tpI (s.length + 1))).bind fun e11 => if lg_cmp e11 0 = 0 then nm (nI i + nI w) fun v12 => f_X4_worth_L16 a (f + n) (some 32) (some (a + 1)) (some (a + 2)) (tpI (s.length + 1) + (-1 : Int32)) (v12 + nI 1) (sLr M (a + 2) g) else f_X4_worth_L16 a (f + n) (some 32) (some (a + 1)) (some (a + 2)) (tpI (s.length + 1) + (-1 : Int32)) (nI i + nI 1) (sLr M (a + 2) g)) _
          rw [tpI_m, tpI_s, n_add, n_add]
          repeat (first | ((with_reducible apply WP.ce); case h => (simp (disch := omega) only []; with_reducible rfl)) | ((with_reducible apply WP.bd); case h => (simp (disch := omega) only [e_gR, e_gI, e_aI, e_aL, e_oO, e_pI, e_wI, e_wL, Option.map_some, mS_sL, mR_sL, mI_sL, mS_sI, mR_sI, mL_sI, n_cl, mS_sLr, kx, mL_sLr_s, et]; with_reducible rfl)) | rw [nm_eq] | rw [ckZ_n1] | rw [ckZ_n0])
          by_cases hy : y = 0
          · rw [if_pos hy] at h
            refine WP.it (by rw [lgc_eq]; exact hy) ?_
            rw [n_add]
            exact ih (i + w + 1) f s g h (by omega) (by omega) hg.pop
          · rw [if_neg hy] at h
            refine WP.ie (by rw [lgc_eq]; exact hy) ?_
            exact ih (i + 1) f s g h (by omega) (by omega) hg.pop
      · rw [tsw_i (k := 6) rfl (by decide)]
        rw [if_neg (by decide), if_neg (by decide)] at h
        cases st with
        | nil => cases h
        | cons y s =>
          have h : some y = some r := h
          cases h
          have hs8 : s.length + 1 ≤ 8 := hs8
          have kx := rule_k hI (show s.length < 8 by omega)
          have et := hg.top
          show WP ((aL (sLr M (a + 2) g) (some (a + 2)) (tpI (s.length + 1))).bind fun e17 => some (e17, sLr M (a + 2) g)) _
          rw [tpI_s]
          repeat (first | ((with_reducible apply WP.ce); case h => (simp (disch := omega) only []; with_reducible rfl)) | ((with_reducible apply WP.bd); case h => (simp (disch := omega) only [e_gR, e_gI, e_aI, e_aL, e_oO, e_pI, e_wI, e_wL, Option.map_some, mS_sL, mR_sL, mI_sL, mS_sI, mR_sI, mL_sI, n_cl, mS_sLr, kx, mL_sLr_s, et]; with_reducible rfl)) | rw [nm_eq] | rw [ckZ_n1] | rw [ckZ_n0])
          exact WP.ret ⟨rfl, g, rfl⟩
      · rw [if_neg (by omega), if_neg (by omega)] at h
        cases st with
        | nil => cases h
        | cons y s =>
          dsimp only at h
          rw [if_neg (by omega), if_neg (by omega), if_neg (by omega), if_neg (by omega), if_neg (by omega)] at h
          cases s with
          | nil => cases h
          | cons z s =>
            have h : xr C _ n (i + 1) (jnd k z y :: s) = some r := h
            have hs8 : s.length + 1 + 1 ≤ 8 := hs8
            have := ih (i + 1) f _ _ h (by omega) (by show s.length + 1 ≤ 8; omega) (hg.pop.pop.push _)
            have kx := rule_k hI (show s.length < 8 by omega)
            have kx1 := rule_k hI (show s.length + 1 < 8 by omega)
            have et : g (s.length + 1) = y := hg.top
            have et2 := hg.pop.top
            have a1 := c_joined (k := k) ⟨hk7, hk⟩ z y (sLr M (a + 2) g)
            have tz : ∀ (os : List (Option (Int64 × Mem))) (o : Option (Int64 × Mem)), os.length = 7 → tsw (nI k) 0 os o = o := fun os o ho => tsw_n (lo := 0) (Or.inr (by omega)) (by omega)
            rw [tz _ _ rfl]
            show WP ((aL (sLr M (a + 2) g) (some (a + 2)) (tpI (s.length + 1 + 1) + (-1 : Int32))).bind fun e6 => (aL (sLr M (a + 2) g) (some (a + 2)) (tpI (s.length + 1 + 1) + (-1 : Int32) + nI 1)).bind fun e7 => cl (f_X4_joined (nI k) e6 e7 (sLr M (a + 2) g)) fun r8 M => (wL M (some (a + 2)) (tpI (s.length + 1 + 1) + (-1 : Int32)) r8).bind fun M => f_X4_worth_L16 a (f + n) (some 32) (some (a + 1)) (some (a + 2)) (tpI (s.length + 1 + 1) + (-1 : Int32)) (nI i + nI 1) M) _
            have this : WP (f_X4_worth_L16 a (f + n) (some 32) (some (a + 1)) (some (a + 2)) (tpI (s.length + 1)) (nI (i + 1)) (sLr M (a + 2) (vp_updL g s.length (jnd k z y)))) (fun w M' => w = r ∧ ∃ g', M' = sLr M (a + 2) g') := this
            rw [tpI_s] at this
            rw [tpI_m, tpI_s, n_add, n_add]
            repeat (first | ((with_reducible apply WP.ce); case h => (simp (disch := omega) only [a1]; with_reducible rfl)) | ((with_reducible apply WP.bd); case h => (simp (disch := omega) only [e_gR, e_gI, e_aI, e_aL, e_oO, e_pI, e_wI, e_wL, Option.map_some, mS_sL, mR_sL, mI_sL, mS_sI, mR_sI, mL_sI, n_cl, mS_sLr, kx, kx1, mL_sLr_s, et, et2, sL_sLr]; with_reducible rfl)) | rw [nm_eq] | rw [ckZ_n1] | rw [ckZ_n0])
            exact this
    · refine WP.it (by rw [n_le (by omega) (by omega)]; omega) ?_
      have e0 : C[i]? = none := List.getElem?_eq_none (by omega)
      unfold xst at h
      rw [e0] at h
      have h : some (0 : Int64) = some r := h
      cases h
      exact WP.ret ⟨rfl, g, rfl⟩
theorem y_worth (hI : IRule (mS M) (mR M) a C.length) (hl : C.length ≤ 400) (hc : ∀ x ∈ C, cok x) (hm : ∀ j, j < C.length → mI M (a + 1) j = nI (cwd (C.getD j (0, 0)))) (h32 : lenOf (mS M) 0 32 = 11) {r : Int64} {n : Nat} (hn : n ≤ 1000) (h : xr C (fun k => if k < 11 then Int32.toInt64 (mI M 32 k) else 0) n 0 [] = some r) : ∃ g, f_X4_worth a (some 32) M = some (r, sLr M (a + 2) g) := by
  have e1 := hI.2.1.1
  have e2 := hI.2.2.1
  have hw : WP (f_X4_worth a (some 32) M) (fun w M' => w = r ∧ ∃ g', M' = sLr M (a + 2) g') := by
    unfold f_X4_worth
    repeat (first | ((with_reducible apply WP.ce); case h => (simp (disch := omega) only []; with_reducible rfl)) | ((with_reducible apply WP.bd); case h => (simp (disch := omega) only [e_gR, e_gI, e_aI, e_aL, e_oO, e_pI, e_wI, e_wL, Option.map_some, mS_sL, mR_sL, mI_sL, mS_sI, mR_sI, mL_sI, n_cl, rule_o hI, e1, e2]; with_reducible rfl)) | rw [nm_eq] | rw [ckZ_n1] | rw [ckZ_n0])
    obtain ⟨f, hf⟩ : ∃ f, FU = f + n := ⟨100000 - n, by unfold FU; omega⟩
    have := y_worL hI hl hc hm h32 n 0 f [] (mL M (a + 2)) h (by decide) (by decide) (fun i hi => absurd hi (Nat.not_lt_zero i))
    rw [sLr_self] at this
    rw [hf]
    exact this
  obtain ⟨v, M', e, rfl, g, rfl⟩ := hw
  exact ⟨g, e⟩
end CWR
