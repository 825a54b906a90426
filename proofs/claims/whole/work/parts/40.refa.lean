/-! THE REFERENCE: its rows stand for a bar and a scene; its small methods -/
theorem fa_lt (a b : Int32) : a < b ↔ a.toInt < b.toInt := Int32.lt_iff_toInt_lt
theorem fa_le (a b : Int32) : a ≤ b ↔ a.toInt ≤ b.toInt := Int32.le_iff_toInt_le
theorem fa_eq (a b : Int32) : a = b ↔ a.toInt = b.toInt := Int32.toInt_inj.symm
theorem fa_lt64 (a b : Int64) : a < b ↔ a.toInt < b.toInt := Int64.lt_iff_toInt_lt
theorem fa_le64 (a b : Int64) : a ≤ b ↔ a.toInt ≤ b.toInt := Int64.le_iff_toInt_le
theorem fa_eq64 (a b : Int64) : a = b ↔ a.toInt = b.toInt := Int64.toInt_inj.symm
theorem fa_three64 (a b : Int64) : a < b ∨ a = b ∨ b < a := by
  rw [fa_lt64, fa_lt64, fa_eq64]
  omega
theorem lgc_lt (a b : Int64) : (lg_cmp a b < 0) = (a < b) := by
  unfold lg_cmp
  rcases fa_three64 a b with h | h | h
  · have h1 : ¬ a > b := by intro z; have := (fa_lt64 b a).mp z; have := (fa_lt64 a b).mp h; omega
    have h2 : ¬ a = b := by intro z; have := (fa_eq64 a b).mp z; have := (fa_lt64 a b).mp h; omega
    rw [if_neg h1, if_neg h2]
    exact propext ⟨fun _ => h, fun _ => by decide⟩
  · have h1 : ¬ a > b := by intro z; have := (fa_lt64 b a).mp z; have := (fa_eq64 a b).mp h; omega
    rw [if_neg h1, if_pos h]
    exact propext ⟨fun z => absurd z (by decide), fun z => by have := (fa_lt64 a b).mp z; have := (fa_eq64 a b).mp h; omega⟩
  · rw [if_pos h]
    exact propext ⟨fun z => absurd z (by decide), fun z => by have := (fa_lt64 a b).mp z; have := (fa_lt64 b a).mp h; omega⟩
theorem lgc_gt (a b : Int64) : (0 < lg_cmp a b) = (b < a) := by
  unfold lg_cmp
  rcases fa_three64 a b with h | h | h
  · have h1 : ¬ a > b := by intro z; have := (fa_lt64 b a).mp z; have := (fa_lt64 a b).mp h; omega
    have h2 : ¬ a = b := by intro z; have := (fa_eq64 a b).mp z; have := (fa_lt64 a b).mp h; omega
    rw [if_neg h1, if_neg h2]
    exact propext ⟨fun z => absurd z (by decide), fun z => absurd z h1⟩
  · have h1 : ¬ a > b := by intro z; have := (fa_lt64 b a).mp z; have := (fa_eq64 a b).mp h; omega
    rw [if_neg h1, if_pos h]
    exact propext ⟨fun z => absurd z (by decide), fun z => absurd z h1⟩
  · rw [if_pos h]
    exact propext ⟨fun _ => h, fun _ => by decide⟩
/-- a number that is one of n -/
def ixB (x : Int32) (n : Nat) : Bool := decide (0 ≤ x.toInt ∧ x.toInt < (n : Int))
theorem ixB_t {x : Int32} {n : Nat} (hn : n < 2 ^ 31) (h : ixB x n = true) : ∃ j, j < n ∧ x = nI j := by
  have h1 := of_decide_eq_true h
  refine ⟨x.toInt.toNat, by omega, ?_⟩
  rw [fa_eq, nI_toInt (by omega)]
  omega
theorem ixB_n {j n : Nat} (h : j < n) (hn : n < 2 ^ 31) : ixB (nI j) n = true := by
  unfold ixB
  rw [nI_toInt (by omega)]
  exact decide_eq_true (by omega)
theorem in_eq (a b c : Int64) (M : Mem) : f_X10_in a b c M = some (bI (decide (b ≤ a ∧ a ≤ c)), M) := by
  simp only [f_X10_in, f_X10_in_J17, f_X10_in_J18, lgc_lt, lgc_gt, ckZ_0, ckZ_1]
  by_cases h1 : a < b
  · have h2 : ¬ (b ≤ a ∧ a ≤ c) := fun h => by have := (fa_lt64 a b).mp h1; have := (fa_le64 b a).mp h.1; omega
    simp only [h1, if_true, h2, decide_false]
    rfl
  · by_cases h3 : c < a
    · have h2 : ¬ (b ≤ a ∧ a ≤ c) := fun h => by have := (fa_lt64 c a).mp h3; have := (fa_le64 a c).mp h.2; omega
      simp only [h1, if_false, h3, if_true, h2, decide_false]
      rfl
    · have h2 : b ≤ a ∧ a ≤ c := by
        rw [fa_lt64] at h1 h3
        rw [fa_le64, fa_le64]; omega
      simp only [h1, if_false, h3, h2]
      rfl
theorem toInt_pred (n : Nat) (hn : n < 2 ^ 30) : (nI n - 1).toInt = (n : Int) - 1 := by
  have h := pk_sub_toInt (a := n) (b := 1) (by omega) (by decide)
  exact h
theorem in_ix (x : Int32) (n : Nat) (hn : n < 2 ^ 30) (M : Mem) : f_X10_in (Int32.toInt64 x) 0 (Int32.toInt64 (nI n - 1)) M = some (bI (ixB x n), M) := by
  rw [in_eq]
  congr 3
  unfold ixB
  have h0 : (0 : Int64).toInt = 0 := by decide
  rw [decide_eq_decide, fa_le64, fa_le64, Int32.toInt_toInt64, Int32.toInt_toInt64, toInt_pred n hn, h0]
  omega
def RT (M : Mem) (m : Nat) (T : TD) : Prop := (mI M (m + 1) 0 = nI (tF T) ∧ mI M (m + 1) 1 = nI (tK T) ∧ mI M (m + 1) 2 = nI (tJ T) ∧ mI M (m + 1) 3 = nI (tN T)) ∧ (∀ i, i < 3 * tJ T → mI M (m + 2) i = nI (tP T i)) ∧ (∀ s, s < tN T → mI M (m + 3) s = nI (tC T s) ∧ mI M (m + 4) s = nI (tE T s) ∧ mI M (m + 11) s = nI (tW T s))
def RS (M : Mem) (m : Nat) (T : TD) (S : SC) : Prop := (mI M (m + 1) 4 = nI (sT S) ∧ mI M (m + 1) 5 = nI (ernA T S)) ∧ (∀ j, j < tJ T → mI M (m + 5) j = eH (-1000) (sH S j)) ∧ (∀ s, s < tN T → mI M (m + 6) s = nI (sW S s) ∧ mI M (m + 7) s = eP (sP S s))
theorem in_ix2 (x : Int32) (n : Nat) (hn : n < 2 ^ 30) (M : Mem) : f_X10_in (Int32.toInt64 x) 0 (Int32.toInt64 (nI n - nI 1)) M = some (bI (ixB x n), M) := in_ix x n hn M
theorem r_isJoke {M : Mem} {m : Nat} {T : TD} (hR : RIs (mS M) (mR M) m) (hT : RT M m T) (hk : TOk T) (x : Int32) : f_X10_isJoke m x M = some (bI (ixB x (tJ T)), M) := by
  have hj := hk.1.2.2.1
  simp (disch := omega) only [f_X10_isJoke, e_gR, e_gI, e_aI, e_aL, e_oO, e_pI, e_wI, e_wL, ro_m hR, Option.map_some, Option.bind_some, cl_some, nm_eq, ckZ_b, ckZ_n0, ckZ_n1, rr_scalar hR, rx_scalar hR, n_cl, hT.1.2.2.1, in_ix2]
theorem r_isShip {M : Mem} {m : Nat} {T : TD} (hR : RIs (mS M) (mR M) m) (hT : RT M m T) (hk : TOk T) (x : Int32) : f_X10_isShip m x M = some (bI (ixB x (tN T)), M) := by
  have hj := hk.1.2.2.2
  simp (disch := omega) only [f_X10_isShip, e_gR, e_gI, e_aI, e_aL, e_oO, e_pI, e_wI, e_wL, ro_m hR, Option.map_some, Option.bind_some, cl_some, nm_eq, ckZ_b, ckZ_n0, ckZ_n1, rr_scalar hR, rx_scalar hR, n_cl, hT.1.2.2.2, in_ix2]
theorem r_waitsN {M : Mem} {m : Nat} {T : TD} {S : SC} (hR : RIs (mS M) (mR M) m) (hT : RT M m T) (hk : TOk T) (hS : RS M m T S) (hs : SOk S) {x : Int32} (hx : ixB x (tN T) = false) : f_X10_waits m x M = some (bI false, M) := by
  simp (disch := omega) only [f_X10_waits, f_X10_waits_J22, f_X10_waits_J23, e_gR, e_gI, e_aI, e_aL, e_oO, e_pI, e_wI, e_wL, ro_m hR, Option.map_some, Option.bind_some, cl_some, nm_eq, ckZ_b, ckZ_n0, ckZ_n1, r_isShip hR hT hk, hx, bI_z, if_true]
  rfl
theorem r_waits {M : Mem} {m : Nat} {T : TD} {S : SC} (hR : RIs (mS M) (mR M) m) (hT : RT M m T) (hk : TOk T) (hS : RS M m T S) (hs : SOk S) {s : Nat} (h : s < tN T) : f_X10_waits m (nI s) M = some (bI (wts S s), M) := by
  have hj := hk.1.2.2.2
  have hx : ixB (nI s) (tN T) = true := ixB_n h (by omega)
  have hp := (hS.2.2 s h).2
  have hb : ∀ t, sP S s = some t → t < 2 ^ 31 := fun t ht => by have := hs.2.2.2 s t ht; have := hs.1; omega
  simp (disch := omega) only [f_X10_waits, f_X10_waits_J22, f_X10_waits_J23, e_gR, e_gI, e_aI, e_aL, e_oO, e_pI, e_wI, e_wL, ro_m hR, Option.map_some, Option.bind_some, cl_some, nm_eq, ckZ_b, ckZ_n0, ckZ_n1, r_isShip hR hT hk, hx, bI_z, rr_passed hR, rx_passed hR, n_cl, hp]
  simp only [eP_none hb]
  unfold wts
  cases sP S s <;> simp [bI]
theorem ofI_toInt {h : Int} (h1 : -200000 ≤ h) (h2 : h ≤ 200000) : (Int32.ofInt h).toInt = h := by
  rw [Int32.toInt_ofInt]
  have : h.bmod (2 ^ 32) = h := by
    rw [Int.bmod_eq_of_le] <;> omega
  exact this
theorem subI {x y : Int32} (h1 : -2147483648 ≤ x.toInt - y.toInt) (h2 : x.toInt - y.toInt < 2147483648) : (x - y).toInt = x.toInt - y.toInt := by
  rw [Int32.toInt_sub]
  rw [Int.bmod_eq_of_le] <;> omega
/-- what is left of the tides since it was heard -/
theorem eH_sub {c : Int32} {cz : Int} (hc : c.toInt = cz) (hz : -100000 ≤ cz ∧ cz ≤ 0) {S : SC} (hs : SOk S) (j : Nat) : (nI (sT S) - eH c (sH S j)).toInt = (sH S j).elim ((sT S : Int) - cz) (fun h => (sT S : Int) - h) := by
  have h0 := hs.1
  cases hh : sH S j with
  | none =>
    simp only [eH, Option.elim]
    rw [subI] <;> rw [hc, nI_toInt (by omega)] <;> omega
  | some h =>
    have h1 := hs.2.1 j h hh
    simp only [eH, Option.elim]
    rw [subI] <;> rw [ofI_toInt (by omega) (by omega), nI_toInt (by omega)] <;> omega
theorem rem_cmp {c : Int32} {cz : Int} (hc : c.toInt = cz) (hz : -100000 ≤ cz ∧ cz ≤ -100) {T : TD} {S : SC} (hk : TOk T) (hs : SOk S) (j : Nat) : (nI (tF T) ≤ nI (sT S) - eH c (sH S j)) = (rem T S j = false) := by
  have h1 := hk.1.1
  rw [eq_iff_iff, fa_le, eH_sub hc (by omega) hs j, nI_toInt (by omega)]
  unfold rem
  cases hh : sH S j with
  | none =>
    simp only [Option.elim, true_iff, iff_true]
    omega
  | some h => simp only [Option.elim, decide_eq_false_iff_not]; omega
theorem r_remembers {M : Mem} {m : Nat} {T : TD} {S : SC} (hR : RIs (mS M) (mR M) m) (hT : RT M m T) (hk : TOk T) (hS : RS M m T S) (hs : SOk S) {j : Nat} (h : j < tJ T) : f_X10_remembers m (nI j) M = some (bI (rem T S j), M) := by
  have hj := hk.1.2.2.1
  simp (disch := omega) only [f_X10_remembers, f_X10_remembers_J27, e_gR, e_gI, e_aI, e_aL, e_oO, e_pI, e_wI, e_wL, ro_m hR, Option.map_some, Option.bind_some, cl_some, nm_eq, ckZ_b, ckZ_n0, ckZ_n1, rr_scalar hR, rx_scalar hR, rr_heard hR, rx_heard hR, n_cl, hT.1.1, hS.1.1, hS.2.1 j h]
  simp only [rem_cmp (c := -1000) (cz := -1000) (by decide) (by decide) hk hs j]
  cases rem T S j <;> simp [bI]
theorem r_sinceOf {M : Mem} {m : Nat} {T : TD} {S : SC} (hR : RIs (mS M) (mR M) m) (hT : RT M m T) (hk : TOk T) (hS : RS M m T S) (hs : SOk S) {j : Nat} (h : j < tJ T) : f_X10_sinceOf m (nI j) M = some (nI (snc S j), M) := by
  have hj := hk.1.2.2.1
  simp (disch := omega) only [f_X10_sinceOf, f_X10_sinceOf_J26, e_gR, e_gI, e_aI, e_aL, e_oO, e_pI, e_wI, e_wL, ro_m hR, Option.map_some, Option.bind_some, cl_some, nm_eq, ckZ_b, ckZ_n0, ckZ_n1, rr_scalar hR, rx_scalar hR, rr_heard hR, rx_heard hR, n_cl, hS.1.1, hS.2.1 j h]
  have e1 := eH_sub (c := -1000) (cz := -1000) (by decide) (by decide) hs j
  have h99 : (nI 99).toInt = 99 := by decide
  have h0 := hs.1
  by_cases hc : nI (sT S) - eH (-1000) (sH S j) ≤ nI 99
  · rw [if_pos hc]
    rw [fa_le, e1, h99] at hc
    congr 2
    rw [fa_eq, e1]
    unfold snc
    cases hh : sH S j with
    | none => rw [hh] at hc; simp only [Option.elim] at hc; omega
    | some h =>
      have h1 := hs.2.1 j h hh
      rw [hh] at hc
      simp only [Option.elim] at hc ⊢
      rw [if_neg (by omega), nI_toInt (by omega)]
      omega
  · rw [if_neg hc]
    rw [fa_le, e1, h99] at hc
    congr 2
    unfold snc
    cases hh : sH S j with
    | none => rfl
    | some h =>
      have h1 := hs.2.1 j h hh
      rw [hh] at hc
      simp only [Option.elim] at hc ⊢
      rw [if_pos (by omega)]
theorem FU4 : ∃ k, FU = k + 1 + 1 + 1 + 1 := ⟨99996, rfl⟩
theorem r_alikeS {M : Mem} {m : Nat} {T : TD} (hR : RIs (mS M) (mR M) m) (hT : RT M m T) (hk : TOk T) {a b c i n : Nat} (ha : a < tJ T) (hb : b < tJ T) (hi : i < 3) : f_X10_alikeOf_L5 m (n + 1) (nI a) (nI b) (nI c) (nI i) M = f_X10_alikeOf_L5 m n (nI a) (nI b) (nI (c + b2 (decide (tP T (3 * a + i) = tP T (3 * b + i))))) (nI (i + 1)) M := by
  have hj := hk.1.2.2.1
  have p0 := hk.2.2.2.1
  have e : (nI (tP T (3 * a + i)) = nI (tP T (3 * b + i))) = (tP T (3 * a + i) = tP T (3 * b + i)) := n_eq (by have := p0 (3 * a + i); omega) (by have := p0 (3 * b + i); omega)
  rw [f_X10_alikeOf_L5]
  simp (disch := omega) only [f_X10_alikeOf_J42, e_gR, e_gI, e_aI, e_aL, e_oO, e_pI, e_wI, e_wL, ro_m hR, Option.map_some, Option.bind_some, cl_some, nm_eq, ckZ_b, ckZ_n0, ckZ_n1, rr_parts hR, rx_parts hR, n_cl, n_add, n_mul, n_le, hT.2.1, e]
  rw [if_neg (by omega)]
  by_cases h1 : tP T (3 * a + i) = tP T (3 * b + i)
  · simp only [h1, if_true, decide_true, b2]
  · simp only [h1, if_false, decide_false, b2, Bool.false_eq_true]
theorem r_alikeOf {M : Mem} {m : Nat} {T : TD} (hR : RIs (mS M) (mR M) m) (hT : RT M m T) (hk : TOk T) {a b : Nat} (ha : a < tJ T) (hb : b < tJ T) : f_X10_alikeOf m (nI a) (nI b) M = some (nI (alk T a b), M) := by
  obtain ⟨k, hk4⟩ := FU4
  rw [f_X10_alikeOf, hk4, r_alikeS hR hT hk ha hb (by omega), r_alikeS hR hT hk ha hb (by omega), r_alikeS hR hT hk ha hb (by omega), f_X10_alikeOf_L5]
  simp (disch := omega) only [n_le]
  simp only [Nat.le_refl, if_true, Nat.add_zero, Nat.zero_add, Nat.reduceAdd]
  rfl
theorem r_likeL {M : Mem} {m : Nat} {T : TD} {S : SC} (hR : RIs (mS M) (mR M) m) (hT : RT M m T) (hk : TOk T) (hS : RS M m T S) (hs : SOk S) {j : Nat} (h : j < tJ T) : ∀ d i n, i + d = tJ T → f_X10_likeOf_L4 m (n + d + 1) (nI j) (nI (mxn (fun k => if rem T S k then alk T j k else 0) i)) (nI i) M = some (nI (lkO T S j), M) := by
  have hj := hk.1.2.2.1
  intro d
  induction d with
  | zero =>
    intro i n hi
    rw [f_X10_likeOf_L4]
    simp (disch := omega) only [e_gR, e_gI, e_aI, e_aL, e_oO, e_pI, e_wI, e_wL, ro_m hR, Option.map_some, Option.bind_some, cl_some, nm_eq, ckZ_b, ckZ_n0, ckZ_n1, rr_scalar hR, rx_scalar hR, n_cl, hT.1.2.2.1, n_le]
    rw [if_pos (by omega)]
    unfold lkO
    rw [show i = tJ T by omega]
  | succ d ih =>
    intro i n hi
    have hb : ∀ x, mxn (fun k => if rem T S k then alk T j k else 0) x ≤ 3 := fun x => mxn_le (fun k _ => by by_cases hr : rem T S k = true <;> simp [hr, alk_le])
    have hb1 := hb i
    have ha := alk_le T j i
    rw [show n + (d + 1) + 1 = (n + d + 1) + 1 from by omega, f_X10_likeOf_L4]
    have e := ih (i + 1) n (by omega)
    rw [mxn] at e
    simp (disch := omega) only [e_gR, e_gI, e_aI, e_aL, e_oO, e_pI, e_wI, e_wL, ro_m hR, Option.map_some, Option.bind_some, cl_some, nm_eq, ckZ_b, ckZ_n0, ckZ_n1, rr_scalar hR, rx_scalar hR, n_cl, hT.1.2.2.1, n_le, r_remembers hR hT hk hS hs, bI_z, f_X10_likeOf_J32, f_X10_likeOf_J46, r_alikeOf hR hT hk, n_add]
    rw [if_neg (by omega)]
    cases hr : rem T S i with
    | false =>
      simp only [hr, if_true, Bool.false_eq_true, if_false, Nat.not_lt_zero] at e ⊢
      rw [if_pos (Nat.zero_le _)]
      exact e
    | true =>
      simp only [hr, if_true, Bool.true_eq_false, if_false] at e ⊢
      by_cases hc : alk T j i ≤ mxn (fun k => if rem T S k then alk T j k else 0) i
      · rw [if_pos hc]; rw [if_neg (by omega)] at e; exact e
      · rw [if_neg hc]; rw [if_pos (by omega)] at e; exact e
theorem FUd (d : Nat) (h : d < 100000) : ∃ n, FU = n + d + 1 := ⟨100000 - d - 1, by unfold FU; omega⟩
theorem r_likeOf {M : Mem} {m : Nat} {T : TD} {S : SC} (hR : RIs (mS M) (mR M) m) (hT : RT M m T) (hk : TOk T) (hS : RS M m T S) (hs : SOk S) {j : Nat} (h : j < tJ T) : f_X10_likeOf m (nI j) M = some (nI (lkO T S j), M) := by
  have hj := hk.1.2.2.1
  obtain ⟨n, hn⟩ := FUd (tJ T) (by omega)
  rw [f_X10_likeOf, hn]
  exact r_likeL hR hT hk hS hs h (tJ T) 0 n (by omega)
theorem lkO_le (T : TD) (S : SC) (j : Nat) : lkO T S j ≤ 3 := mxn_le (fun k _ => by by_cases hr : rem T S k = true <;> simp [hr, alk_le])
theorem r_isNew {M : Mem} {m : Nat} {T : TD} {S : SC} (hR : RIs (mS M) (mR M) m) (hT : RT M m T) (hk : TOk T) (hS : RS M m T S) (hs : SOk S) {j : Nat} (h : j < tJ T) : f_X10_isNew m (nI j) M = some (bI (isN T S j), M) := by
  have h1 := hk.1.2.1
  have h2 := lkO_le T S j
  simp (disch := omega) only [f_X10_isNew, f_X10_isNew_J19, e_gR, e_gI, e_aI, e_aL, e_oO, e_pI, e_wI, e_wL, ro_m hR, Option.map_some, Option.bind_some, cl_some, nm_eq, ckZ_b, ckZ_n0, ckZ_n1, rr_scalar hR, rx_scalar hR, n_cl, hT.1.2.1, r_likeOf hR hT hk hS hs, n_le]
  unfold isN
  by_cases hc : tK T ≤ lkO T S j
  · rw [if_pos hc, decide_eq_false (by omega)]; rfl
  · rw [if_neg hc, decide_eq_true (by omega)]; rfl
