/-! THE CLASS: its told bars and scenes -/
def CT (M : Mem) (t : Nat) (T : TD) : Prop := (mI M t 0 = bI (decide (0 < tF T)) ∧ mI M t 1 = nI (tF T) ∧ mI M t 2 = nI (tK T) ∧ mI M t 3 = nI (tJ T) ∧ mI M t 4 = nI (tN T)) ∧ (∀ i, i < 3 * tJ T → mI M (t + 1) i = nI (tP T i)) ∧ (∀ s, s < tN T → mI M (t + 2) s = nI (tC T s) ∧ mI M (t + 3) s = nI (tE T s) ∧ mI M (t + 4) s = nI (tW T s)) ∧ (∀ k, 1 ≤ k → k ≤ 3 → ∀ j, j < tJ T → mI M (t + 5) (8 * k + j) = nI (bmk (fun i => decide (k ≤ alk T j i)) (tJ T)))
def CC (M : Mem) (q : Nat) (T : TD) (S : SC) : Prop := mI M q 0 = nI (sT S) ∧ (∀ j, j < tJ T → mI M (q + 1) j = eH (-100000) (sH S j)) ∧ (∀ s, s < tN T → mI M (q + 2) s = nI (sW S s) ∧ mI M (q + 3) s = eP (sP S s))
def mem (T : TD) (S : SC) : Nat := bmk (rem T S) (tJ T)
theorem bmk_lt8 {p : Nat → Bool} {n : Nat} (h : n ≤ 8) : bmk p n < 256 := by
  have h1 := bmk_lt p n
  have h2 : 2 ^ n ≤ 2 ^ 8 := Nat.pow_le_pow_right (by decide) h
  omega
theorem mem_lt {T : TD} (hk : TOk T) (S : SC) : mem T S < 256 := bmk_lt8 hk.1.2.2.1
theorem and_z {p q : Nat → Bool} {n : Nat} : (bmk p n &&& bmk q n = 0) ↔ ∀ i, i < n → ¬ (p i = true ∧ q i = true) := by
  constructor
  · intro h i hi hc
    have h1 : (bmk p n &&& bmk q n).testBit i = true := by rw [Nat.testBit_and, bmk_bit, bmk_bit]; simp [hi, hc.1, hc.2]
    rw [h, Nat.zero_testBit] at h1
    cases h1
  · intro h
    apply Nat.eq_of_testBit_eq
    intro i
    rw [Nat.testBit_and, bmk_bit, bmk_bit, Nat.zero_testBit]
    by_cases hi : i < n
    · have := h i hi
      cases hp : p i <;> cases hq : q i <;> simp_all
    · simp [hi]
theorem nIz {n : Nat} (h : n < 2 ^ 31) : (nI n = 0) = (n = 0) := n_eq (b := 0) h (by decide)
/-- new, by the rows of what is near -/
theorem near_new (T : TD) (S : SC) (j : Nat) {k : Nat} (hk : 0 < k) : (bmk (fun i => decide (k ≤ alk T j i)) (tJ T) &&& mem T S = 0) ↔ lkO T S j < k := by
  unfold mem lkO
  rw [and_z, mxn_lt hk]
  constructor
  · intro h i hi
    have := h i hi
    by_cases hr : rem T S i = true
    · rw [if_pos hr]
      by_cases h2 : k ≤ alk T j i
      · exact absurd ⟨decide_eq_true h2, hr⟩ this
      · omega
    · rw [if_neg hr]; exact hk
  · intro h i hi hc
    have := h i hi
    rw [if_pos hc.2] at this
    have := of_decide_eq_true hc.1
    omega
theorem tF_pos {T : TD} (hk : TOk T) (h : 0 < tJ T ∨ 0 < tN T) : 0 < tF T ∧ 0 < tK T := by
  have h1 := hk.2.1
  have h2 := hk.2.2.1
  have : 0 < tF T := by
    rcases Nat.eq_zero_or_pos (tF T) with z | z
    · have := h1 z; omega
    · exact z
  exact ⟨this, h2 this⟩
theorem c_isNew {M : Mem} {t : Nat} {T : TD} (hI : ITold (mS M) (mR M) t) (hT : CT M t T) (hk : TOk T) (S : SC) {j : Nat} (h : j < tJ T) : f_X8_isNew t (nI j) (nI (mem T S)) M = some (bI (isN T S j), M) := by
  have h1 := hk.1.2.1
  have h2 := hk.1.2.2.1
  have h3 := tF_pos hk (Or.inl (by omega))
  have hn := hT.2.2.2 (tK T) h3.2 h1 j h
  have hb : (bmk (fun i => decide (tK T ≤ alk T j i)) (tJ T) &&& mem T S) < 2 ^ 31 := Nat.lt_of_le_of_lt Nat.and_le_right (Nat.lt_trans (mem_lt hk S) (by decide))
  simp (disch := omega) only [f_X8_isNew, f_X8_isNew_J24, e_gR, e_gI, e_aI, e_aL, e_oO, e_pI, e_wI, e_wL, told_o hI, Option.map_some, Option.bind_some, cl_some, nm_eq, ckZ_b, ckZ_n0, ckZ_n1, told_r_near hI, told_x_near hI, hT.1.2.2.1, n_mul, n_add, n_cl, hn, n_and, nIz hb, near_new T S j h3.2]
  unfold isN
  by_cases hc : lkO T S j < tK T
  · rw [if_pos hc, decide_eq_true hc]; rfl
  · rw [if_neg hc, decide_eq_false hc]; rfl
theorem c_mostAlike {M : Mem} {t : Nat} {T : TD} (hI : ITold (mS M) (mR M) t) (hT : CT M t T) (hk : TOk T) (S : SC) {j : Nat} (h : j < tJ T) : f_X8_mostAlike t (nI j) (nI (mem T S)) M = some (nI (lkO T S j), M) := by
  have h2 := hk.1.2.2.1
  have hl := lkO_le T S j
  have g1 := hT.2.2.2 1 (by decide) (by decide) j h
  have g2 := hT.2.2.2 2 (by decide) (by decide) j h
  have g3 := hT.2.2.2 3 (by decide) (by decide) j h
  have hb : ∀ x, (x &&& mem T S) < 2 ^ 31 := fun x => Nat.lt_of_le_of_lt Nat.and_le_right (Nat.lt_trans (mem_lt hk S) (by decide))
  simp only [Nat.reduceMul] at g1 g2 g3
  simp (disch := omega) only [f_X8_mostAlike, f_X8_mostAlike_J51, e_gR, e_gI, e_aI, e_aL, e_oO, e_pI, e_wI, e_wL, told_o hI, Option.map_some, Option.bind_some, cl_some, nm_eq, ckZ_b, ckZ_n0, ckZ_n1, told_r_near hI, told_x_near hI, n_add, n_cl, g1, g2, g3, n_and, nIz (hb _), near_new T S j (k := 3) (by decide), near_new T S j (k := 2) (by decide), near_new T S j (k := 1) (by decide)]
  by_cases c3 : lkO T S j < 3
  · rw [if_pos c3]
    by_cases c2 : lkO T S j < 2
    · rw [if_pos c2]
      by_cases c1 : lkO T S j < 1
      · rw [if_pos c1, show lkO T S j = 0 by omega]
      · rw [if_neg c1, show lkO T S j = 1 by omega]
    · rw [if_neg c2, show lkO T S j = 2 by omega]
  · rw [if_neg c3, show lkO T S j = 3 by omega]
theorem c_remL {M : Mem} {t : Nat} {T : TD} (hI : ITold (mS M) (mR M) t) (hT : CT M t T) (hk : TOk T) {q : Nat} {S : SC} (hJ : IScene (mS M) (mR M) q) (hS : CC M q T S) (hs : SOk S) : ∀ d i n, i + d = tJ T → f_X8_remembered_L4 t (n + d + 1) (some q) (nI (bmk (rem T S) i)) (nI i) M = some (nI (mem T S), M) := by
  have hj := hk.1.2.2.1
  intro d
  induction d with
  | zero =>
    intro i n hi
    rw [f_X8_remembered_L4]
    simp (disch := omega) only [e_gR, e_gI, e_aI, e_aL, e_oO, e_pI, e_wI, e_wL, told_o hI, Option.map_some, Option.bind_some, cl_some, nm_eq, ckZ_b, ckZ_n0, ckZ_n1, hT.1.2.2.2.1, n_le]
    rw [if_pos (by omega), show i = tJ T by omega]
    rfl
  | succ d ih =>
    intro i n hi
    rw [show n + (d + 1) + 1 = (n + d + 1) + 1 from by omega, f_X8_remembered_L4]
    have e := ih (i + 1) n (by omega)
    rw [bmk] at e
    simp (disch := omega) only [e_gR, e_gI, e_aI, e_aL, e_oO, e_pI, e_wI, e_wL, told_o hI, Option.map_some, Option.bind_some, cl_some, nm_eq, ckZ_b, ckZ_n0, ckZ_n1, scene_o hJ, scene_r_heard hJ, scene_x_heard hJ, hT.1.2.2.2.1, hT.1.2.1, n_le, n_cl, hS.1, hS.2.1 i (by omega), f_X8_remembered_J36, n_shl, n_or, n_add]
    rw [if_neg (by omega)]
    simp only [rem_cmp (c := -100000) (cz := -100000) (by decide) (by decide) hk hs i]
    cases hw : rem T S i with
    | false => simp only [hw, if_true, Bool.false_eq_true, if_false, Nat.or_zero] at e ⊢; exact e
    | true => simp only [hw, if_true, Bool.true_eq_false, if_false] at e ⊢; exact e
theorem c_remembered {M : Mem} {t : Nat} {T : TD} (hI : ITold (mS M) (mR M) t) (hT : CT M t T) (hk : TOk T) {q : Nat} {S : SC} (hJ : IScene (mS M) (mR M) q) (hS : CC M q T S) (hs : SOk S) : f_X8_remembered t (some q) M = some (nI (mem T S), M) := by
  have hj := hk.1.2.2.1
  obtain ⟨n, hn⟩ := FUd (tJ T) (by omega)
  rw [f_X8_remembered, hn]
  exact c_remL hI hT hk hJ hS hs (tJ T) 0 n (by omega)
theorem sP_lt {S : SC} (hs : SOk S) (s : Nat) : ∀ x, sP S s = some x → x < 2 ^ 31 := fun x hx => by have := hs.2.2.2 s x hx; have := hs.1; omega
theorem c_waitL {M : Mem} {t : Nat} {T : TD} (hI : ITold (mS M) (mR M) t) (hT : CT M t T) (hk : TOk T) {q : Nat} {S : SC} (hJ : IScene (mS M) (mR M) q) (hS : CC M q T S) (hs : SOk S) : ∀ d i n, i + d = tN T → f_X8_waiting_L4 t (n + d + 1) (some q) (nI (bmk (wts S) i)) (nI i) M = some (nI (wtm T S), M) := by
  have hj := hk.1.2.2.2
  intro d
  induction d with
  | zero =>
    intro i n hi
    rw [f_X8_waiting_L4]
    simp (disch := omega) only [e_gR, e_gI, e_aI, e_aL, e_oO, e_pI, e_wI, e_wL, told_o hI, Option.map_some, Option.bind_some, cl_some, nm_eq, ckZ_b, ckZ_n0, ckZ_n1, hT.1.2.2.2.2, n_le]
    rw [if_pos (by omega), show i = tN T by omega]
    rfl
  | succ d ih =>
    intro i n hi
    rw [show n + (d + 1) + 1 = (n + d + 1) + 1 from by omega, f_X8_waiting_L4]
    have e := ih (i + 1) n (by omega)
    rw [bmk] at e
    simp (disch := omega) only [e_gR, e_gI, e_aI, e_aL, e_oO, e_pI, e_wI, e_wL, told_o hI, Option.map_some, Option.bind_some, cl_some, nm_eq, ckZ_b, ckZ_n0, ckZ_n1, scene_o hJ, scene_r_passed hJ, scene_x_passed hJ, hT.1.2.2.2.2, n_le, n_cl, (hS.2.2 i (by omega)).2, f_X8_waiting_J28, n_shl, n_or, n_add, eP_none (sP_lt hs i)]
    rw [if_neg (by omega)]
    rw [show (sP S i).isNone = wts S i from rfl]
    cases hw : wts S i with
    | false => simp only [hw, if_true, Bool.false_eq_true, if_false, Nat.or_zero] at e ⊢; exact e
    | true => simp only [hw, if_true, Bool.true_eq_false, if_false] at e ⊢; exact e
theorem c_waiting {M : Mem} {t : Nat} {T : TD} (hI : ITold (mS M) (mR M) t) (hT : CT M t T) (hk : TOk T) {q : Nat} {S : SC} (hJ : IScene (mS M) (mR M) q) (hS : CC M q T S) (hs : SOk S) : f_X8_waiting t (some q) M = some (nI (wtm T S), M) := by
  have hj := hk.1.2.2.2
  obtain ⟨n, hn⟩ := FUd (tN T) (by omega)
  rw [f_X8_waiting, hn]
  exact c_waitL hI hT hk hJ hS hs (tN T) 0 n (by omega)
/-! counting bits -/
def bcI (l0 : Int32) : Int32 := (f_J6_bitCount_0f7a4 l0 ([], fun _ _ => 0, fun _ _ => 0, fun _ _ => none)).elim 0 (fun q => q.1)
theorem bcI_eq (l0 : Int32) (M : Mem) : f_J6_bitCount_0f7a4 l0 M = some (bcI l0, M) := rfl
theorem bcI_all : ∀ x, x < 256 → bcI (nI x) = nI (ctb (fun i => x.testBit i) 16) := by decide +kernel
theorem c_bits {x : Nat} (hx : x < 256) (M : Mem) : f_J6_bitCount_0f7a4 (nI x) M = some (nI (ctb (fun i => x.testBit i) 16), M) := by rw [bcI_eq, bcI_all x hx]
theorem c_bitsW {T : TD} (hk : TOk T) (S : SC) (M : Mem) : f_J6_bitCount_0f7a4 (nI (wtm T S)) M = some (nI (wtc T S), M) := by
  have h1 := wtm_lt hk S
  have hj := hk.1.2.2.2
  rw [c_bits (by omega)]
  unfold wtm wtc
  rw [ctb_bmk _ (by omega)]
theorem c_passed {M : Mem} {t : Nat} {T : TD} (hI : ITold (mS M) (mR M) t) (hT : CT M t T) (hk : TOk T) {q : Nat} {S : SC} (hJ : IScene (mS M) (mR M) q) (hS : CC M q T S) (hs : SOk S) : f_X8_passed t (some q) M = some (nI (tN T - wtc T S), M) := by
  have hj := hk.1.2.2.2
  have h1 : wtc T S ≤ tN T := ctb_le _ _
  simp (disch := omega) only [f_X8_passed, e_gR, e_gI, e_aI, e_aL, e_oO, e_pI, e_wI, e_wL, told_o hI, Option.map_some, Option.bind_some, cl_some, nm_eq, ckZ_b, ckZ_n0, ckZ_n1, hT.1.2.2.2.2, c_waiting hI hT hk hJ hS hs, c_bitsW hk, n_sub]
theorem c_earnedBy {M : Mem} {t : Nat} {T : TD} (hI : ITold (mS M) (mR M) t) (hT : CT M t T) (hk : TOk T) {q : Nat} {S : SC} (hJ : IScene (mS M) (mR M) q) (hS : CC M q T S) (hs : SOk S) {s : Nat} (h : s < tN T) : f_X8_earnedBy t (nI s) (some q) M = some (nI (ern T S s), M) := by
  have hj := hk.1.2.2.2
  have hp := (hS.2.2 s h).2
  have hb := sP_lt hs s
  obtain ⟨hc, he, -⟩ := hT.2.2.1 s h
  have he2 := (hk.2.2.2.2 s).2.1
  simp (disch := omega) only [f_X8_earnedBy, f_X8_earnedBy_J31, f_X8_earnedBy_J32, e_gR, e_gI, e_aI, e_aL, e_oO, e_pI, e_wI, e_wL, told_o hI, Option.map_some, Option.bind_some, cl_some, nm_eq, ckZ_b, ckZ_n0, ckZ_n1, scene_o hJ, scene_r_passed hJ, scene_x_passed hJ, told_r_keeps hI, told_x_keeps hI, told_r_cargo hI, told_x_cargo hI, n_cl, hp, hc, he, eP_none hb]
  unfold ern
  cases hh : sP S s with
  | none => simp
  | some x =>
    have ht := hb x hh
    simp only [Option.isNone, Bool.false_eq_true, if_false, Option.elim, eP]
    simp (disch := omega) only [n_lt]
    by_cases h1 : tE T s < x
    · rw [if_pos h1, if_neg (by omega)]
    · rw [if_neg h1, if_pos (by omega)]
theorem c_earnL {M : Mem} {t : Nat} {T : TD} (hI : ITold (mS M) (mR M) t) (hT : CT M t T) (hk : TOk T) {q : Nat} {S : SC} (hJ : IScene (mS M) (mR M) q) (hS : CC M q T S) (hs : SOk S) : ∀ d i n, i + d = tN T → f_X8_earned_L4 t (n + d + 1) (some q) (nI (smn (ern T S) i)) (nI i) M = some (nI (ernA T S), M) := by
  have hj := hk.1.2.2.2
  intro d
  induction d with
  | zero =>
    intro i n hi
    rw [f_X8_earned_L4]
    simp (disch := omega) only [e_gR, e_gI, e_aI, e_aL, e_oO, e_pI, e_wI, e_wL, told_o hI, Option.map_some, Option.bind_some, cl_some, nm_eq, ckZ_b, ckZ_n0, ckZ_n1, hT.1.2.2.2.2, n_le]
    rw [if_pos (by omega), show i = tN T by omega]
    rfl
  | succ d ih =>
    intro i n hi
    rw [show n + (d + 1) + 1 = (n + d + 1) + 1 from by omega, f_X8_earned_L4]
    have e := ih (i + 1) n (by omega)
    rw [smn] at e
    simp (disch := omega) only [e_gR, e_gI, e_aI, e_aL, e_oO, e_pI, e_wI, e_wL, told_o hI, Option.map_some, Option.bind_some, cl_some, nm_eq, ckZ_b, ckZ_n0, ckZ_n1, hT.1.2.2.2.2, n_le, c_earnedBy hI hT hk hJ hS hs, n_add]
    rw [if_neg (by omega)]
    exact e
theorem c_earned {M : Mem} {t : Nat} {T : TD} (hI : ITold (mS M) (mR M) t) (hT : CT M t T) (hk : TOk T) {q : Nat} {S : SC} (hJ : IScene (mS M) (mR M) q) (hS : CC M q T S) (hs : SOk S) : f_X8_earned t (some q) M = some (nI (ernA T S), M) := by
  have hj := hk.1.2.2.2
  obtain ⟨n, hn⟩ := FUd (tN T) (by omega)
  rw [f_X8_earned, hn]
  exact c_earnL hI hT hk hJ hS hs (tN T) 0 n (by omega)
theorem c_since {M : Mem} {T : TD} (hk : TOk T) {q : Nat} {S : SC} (hJ : IScene (mS M) (mR M) q) (hS : CC M q T S) (hs : SOk S) {j : Nat} (h : j < tJ T) : f_X6_since q (nI j) M = some (nI (snc S j), M) := by
  have hj := hk.1.2.2.1
  simp (disch := omega) only [f_X6_since, f_X6_since_J24, e_gR, e_gI, e_aI, Option.map_some, Option.bind_some, nm_eq, scene_o hJ, scene_r_heard hJ, scene_x_heard hJ, n_cl, hS.1, hS.2.1 j h]
  have e1 := eH_sub (c := -100000) (cz := -100000) (by decide) (by decide) hs j
  have h99 : (nI 99).toInt = 99 := by decide
  have h0 := hs.1
  by_cases hc : nI 99 ≤ nI (sT S) - eH (-100000) (sH S j)
  · rw [if_pos hc]
    rw [fa_le, e1, h99] at hc
    congr 2
    unfold snc
    cases hh : sH S j with
    | none => rfl
    | some h =>
      have h1 := hs.2.1 j h hh
      rw [hh] at hc
      simp only [Option.elim] at hc ⊢
      by_cases h2 : 99 < ((sT S : Int) - h).toNat
      · rw [if_pos h2]
      · rw [if_neg h2]; congr 1; omega
  · rw [if_neg hc]
    rw [fa_le, e1, h99] at hc
    congr 2
    rw [fa_eq, e1]
    unfold snc
    cases hh : sH S j with
    | none => rw [hh] at hc; simp only [Option.elim] at hc; omega
    | some h =>
      have h1 := hs.2.1 j h hh
      rw [hh] at hc
      simp only [Option.elim] at hc ⊢
      rw [if_neg (by omega), nI_toInt (by omega)]
      omega
theorem c_isKnown {M : Mem} {T : TD} (hk : TOk T) {q : Nat} {S : SC} (hJ : IScene (mS M) (mR M) q) (hS : CC M q T S) (hs : SOk S) {s j : Nat} (h : s < tN T) (h8 : j < 8) : f_X6_isKnown q (nI s) (nI j) M = some (bI ((sW S s).testBit j), M) := by
  have hj := hk.1.2.2.2
  have hw := hs.2.2.1 s
  simp (disch := omega) only [f_X6_isKnown, f_X6_isKnown_J18, e_gR, e_gI, e_aI, Option.map_some, Option.bind_some, nm_eq, scene_o hJ, scene_r_knows hJ, scene_x_knows hJ, n_cl, (hS.2.2 s h).1, n_bit, ckZ_n0, ckZ_n1]
  cases (sW S s).testBit j <;> simp [b2, bI, nIz]
