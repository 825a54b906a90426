/-! bits -/
theorem sl31 : ∀ j, j < 32 → ((nI j &&& 31).toBitVec.smod 32).toNat = j := by decide +kernel
theorem n_shr {x j : Nat} (hx : x < 2 ^ 31) (hj : j < 32) : nI x >>> (nI j &&& 31) = nI (x / 2 ^ j) := pk_shrN hx _ j (sl31 j hj)
theorem n_shl {j : Nat} (hj : j < 31) : nI 1 <<< (nI j &&& 31) = nI (2 ^ j) := by
  have h := pk_shlN (n := 1) (nI j &&& 31) j (sl31 j (by omega)) (by rw [Nat.one_mul]; exact Nat.pow_lt_pow_right (by decide) (by omega))
  rw [h, Nat.one_mul]
theorem n_and (a b : Nat) : nI a &&& nI b = nI (a &&& b) := by
  apply Int32.toBitVec_inj.1
  show BitVec.ofNat 32 a &&& BitVec.ofNat 32 b = BitVec.ofNat 32 (a &&& b)
  apply BitVec.eq_of_getLsbD_eq
  intro i hi
  simp [hi]
theorem n_or (a b : Nat) : nI a ||| nI b = nI (a ||| b) := by
  apply Int32.toBitVec_inj.1
  show BitVec.ofNat 32 a ||| BitVec.ofNat 32 b = BitVec.ofNat 32 (a ||| b)
  apply BitVec.eq_of_getLsbD_eq
  intro i hi
  simp [hi]
theorem bit_b2 (x j : Nat) : x / 2 ^ j &&& 1 = b2 (x.testBit j) := by
  rw [Nat.and_one_is_mod, Nat.testBit_eq_decide_div_mod_eq]
  unfold b2
  by_cases h : x / 2 ^ j % 2 = 1
  · simp [h]; try omega
  · simp [h]; try omega
theorem n_bit {x j : Nat} (hx : x < 2 ^ 31) (hj : j < 32) : (nI x >>> (nI j &&& 31)) &&& nI 1 = nI (b2 (x.testBit j)) := by rw [n_shr hx hj, n_and, bit_b2]
theorem b2_eq1 (b : Bool) : (nI (b2 b) = nI 1) = (b = true) := by cases b <;> simp [b2] <;> decide
theorem has_eq {x j : Nat} (hx : x < 2 ^ 31) (hj : j < 32) (M : Mem) : f_X10_has (nI x) (nI j) M = some (bI (x.testBit j), M) := by
  simp (disch := omega) only [f_X10_has, f_X10_has_J14, n_bit, b2_eq1, ckZ_n0, ckZ_n1]
  cases x.testBit j <;> simp [bI]
theorem ctb_cut (p : Nat → Bool) (n : Nat) : ∀ N, n ≤ N → ctb (fun i => decide (i < n) && p i) N = ctb p n
  | 0, h => by have : n = 0 := by omega
               subst this; rfl
  | N + 1, h => by
    rcases Nat.lt_or_ge N n with h1 | h1
    · have : n = N + 1 := by omega
      subst this
      exact ctb_cong (fun i hi => by simp [hi])
    · rw [ctb, ctb_cut p n N h1]
      simp; omega
theorem ctb_bmk (p : Nat → Bool) {n N : Nat} (h : n ≤ N) : ctb (fun i => (bmk p n).testBit i) N = ctb p n := by
  rw [← ctb_cut p n N h]
  exact ctb_cong (fun i _ => bmk_bit p n i)
theorem bits_L {x : Nat} (hx : x < 2 ^ 31) (M : Mem) : ∀ d i n, i + d = 16 → f_X10_bits_L4 (n + d + 1) (nI x) (nI (ctb (fun i => x.testBit i) i)) (nI i) M = some (nI (ctb (fun i => x.testBit i) 16), M) := by
  intro d
  induction d with
  | zero =>
    intro i n hi
    rw [f_X10_bits_L4]
    simp (disch := omega) only [n_le]
    rw [if_pos (by omega), show i = 16 by omega]
  | succ d ih =>
    intro i n hi
    rw [show n + (d + 1) + 1 = (n + d + 1) + 1 from by omega, f_X10_bits_L4]
    have e := ih (i + 1) n (by omega)
    rw [ctb] at e
    simp (disch := omega) only [n_le, n_bit, n_add, nm_eq]
    rw [if_neg (by omega)]
    exact e
theorem r_bits {x : Nat} (hx : x < 2 ^ 31) (M : Mem) : f_X10_bits (nI x) M = some (nI (ctb (fun i => x.testBit i) 16), M) := by
  obtain ⟨n, hn⟩ := FUd 16 (by omega)
  rw [f_X10_bits, hn]
  exact bits_L hx M 16 0 n (by omega)
/-! who waits -/
theorem r_waitL {M : Mem} {m : Nat} {T : TD} {S : SC} (hR : RIs (mS M) (mR M) m) (hT : RT M m T) (hk : TOk T) (hS : RS M m T S) (hs : SOk S) : ∀ d i n, i + d = tN T → f_X10_waiting_L4 m (n + d + 1) (nI (bmk (wts S) i)) (nI i) M = some (nI (wtm T S), M) := by
  have hj := hk.1.2.2.2
  intro d
  induction d with
  | zero =>
    intro i n hi
    rw [f_X10_waiting_L4]
    simp (disch := omega) only [e_gR, e_gI, e_aI, e_aL, e_oO, e_pI, e_wI, e_wL, ro_m hR, Option.map_some, Option.bind_some, cl_some, nm_eq, ckZ_b, ckZ_n0, ckZ_n1, rr_scalar hR, rx_scalar hR, n_cl, hT.1.2.2.2, n_le]
    rw [if_pos (by omega), show i = tN T by omega]
    rfl
  | succ d ih =>
    intro i n hi
    rw [show n + (d + 1) + 1 = (n + d + 1) + 1 from by omega, f_X10_waiting_L4]
    have e := ih (i + 1) n (by omega)
    rw [bmk] at e
    simp (disch := omega) only [e_gR, e_gI, e_aI, e_aL, e_oO, e_pI, e_wI, e_wL, ro_m hR, Option.map_some, Option.bind_some, cl_some, nm_eq, ckZ_b, ckZ_n0, ckZ_n1, rr_scalar hR, rx_scalar hR, n_cl, hT.1.2.2.2, n_le, r_waits hR hT hk hS hs, bI_z, f_X10_waiting_J30, n_shl, n_or, n_add]
    rw [if_neg (by omega)]
    cases hw : wts S i with
    | false => simp only [hw, if_true, Bool.false_eq_true, if_false] at e ⊢; exact e
    | true => simp only [hw, if_true, Bool.true_eq_false, if_false] at e ⊢; exact e
theorem r_waiting {M : Mem} {m : Nat} {T : TD} {S : SC} (hR : RIs (mS M) (mR M) m) (hT : RT M m T) (hk : TOk T) (hS : RS M m T S) (hs : SOk S) : f_X10_waiting m M = some (nI (wtm T S), M) := by
  have hj := hk.1.2.2.2
  obtain ⟨n, hn⟩ := FUd (tN T) (by omega)
  rw [f_X10_waiting, hn]
  exact r_waitL hR hT hk hS hs (tN T) 0 n (by omega)
theorem wtm_lt {T : TD} (hk : TOk T) (S : SC) : wtm T S < 32 := by
  have h := bmk_lt (wts S) (tN T)
  have h2 : 2 ^ tN T ≤ 2 ^ 5 := Nat.pow_le_pow_right (by decide) hk.1.2.2.2
  unfold wtm
  omega
theorem r_bitsW {M : Mem} {m : Nat} {T : TD} {S : SC} (hR : RIs (mS M) (mR M) m) (hT : RT M m T) (hk : TOk T) (hS : RS M m T S) (hs : SOk S) : f_X10_bits (nI (wtm T S)) M = some (nI (wtc T S), M) := by
  have hw := wtm_lt hk S
  have hj := hk.1.2.2.2
  rw [r_bits (by omega)]
  unfold wtm wtc
  rw [ctb_bmk _ (by omega)]
theorem r_howMany {M : Mem} {m : Nat} {T : TD} {S : SC} (hR : RIs (mS M) (mR M) m) (hT : RT M m T) (hk : TOk T) (hS : RS M m T S) (hs : SOk S) : f_X10_howManyPassed m M = some (nI (tN T - wtc T S), M) := by
  have hj := hk.1.2.2.2
  have h1 : wtc T S ≤ tN T := ctb_le _ _
  simp (disch := omega) only [f_X10_howManyPassed, e_gR, e_gI, e_aI, e_aL, e_oO, e_pI, e_wI, e_wL, ro_m hR, Option.map_some, Option.bind_some, cl_some, nm_eq, ckZ_b, ckZ_n0, ckZ_n1, rr_scalar hR, rx_scalar hR, n_cl, hT.1.2.2.2, r_waiting hR hT hk hS hs, r_bitsW hR hT hk hS hs, n_sub]
theorem r_knownL {M : Mem} {m : Nat} {T : TD} {S : SC} (hR : RIs (mS M) (mR M) m) (hT : RT M m T) (hk : TOk T) (hS : RS M m T S) (hs : SOk S) {j : Nat} (hjj : j < 8) : ∀ d i n, i + d = tN T → f_X10_knownBy_L4 m (n + d + 1) (nI j) (nI (ctb (fun s => wts S s && (sW S s).testBit j) i)) (nI i) M = some (nI (knb T S j), M) := by
  have hj := hk.1.2.2.2
  intro d
  induction d with
  | zero =>
    intro i n hi
    rw [f_X10_knownBy_L4]
    simp (disch := omega) only [e_gR, e_gI, e_aI, e_aL, e_oO, e_pI, e_wI, e_wL, ro_m hR, Option.map_some, Option.bind_some, cl_some, nm_eq, ckZ_b, ckZ_n0, ckZ_n1, rr_scalar hR, rx_scalar hR, n_cl, hT.1.2.2.2, n_le]
    rw [if_pos (by omega), show i = tN T by omega]
    rfl
  | succ d ih =>
    intro i n hi
    rw [show n + (d + 1) + 1 = (n + d + 1) + 1 from by omega, f_X10_knownBy_L4]
    have e := ih (i + 1) n (by omega)
    rw [ctb] at e
    have hw2 := hs.2.2.1 i
    have hkn := (hS.2.2 i (by omega)).1
    simp (disch := omega) only [e_gR, e_gI, e_aI, e_aL, e_oO, e_pI, e_wI, e_wL, ro_m hR, Option.map_some, Option.bind_some, cl_some, nm_eq, ckZ_b, ckZ_n0, ckZ_n1, rr_scalar hR, rx_scalar hR, n_cl, hT.1.2.2.2, n_le, r_waits hR hT hk hS hs, bI_z, f_X10_knownBy_J40, f_X10_knownBy_J41, rr_knows hR, rx_knows hR, hkn, has_eq, n_add]
    rw [if_neg (by omega)]
    cases hw : wts S i with
    | false => simp only [hw, if_true, Bool.false_and, Bool.false_eq_true, if_false] at e ⊢; exact e
    | true =>
      simp only [hw, Bool.true_and, Bool.true_eq_false, if_false] at e ⊢
      cases hb : (sW S i).testBit j with
      | false => simp only [hb, if_true, Bool.false_eq_true, if_false] at e ⊢; exact e
      | true => simp only [hb, if_true, Bool.true_eq_false, if_false] at e ⊢; exact e
theorem r_knownBy {M : Mem} {m : Nat} {T : TD} {S : SC} (hR : RIs (mS M) (mR M) m) (hT : RT M m T) (hk : TOk T) (hS : RS M m T S) (hs : SOk S) {j : Nat} (hjj : j < 8) : f_X10_knownBy m (nI j) M = some (nI (knb T S j), M) := by
  have hj := hk.1.2.2.2
  obtain ⟨n, hn⟩ := FUd (tN T) (by omega)
  rw [f_X10_knownBy, hn]
  exact r_knownL hR hT hk hS hs hjj (tN T) 0 n (by omega)
theorem r_earns {M : Mem} {m : Nat} {T : TD} {S : SC} (hR : RIs (mS M) (mR M) m) (hT : RT M m T) (hk : TOk T) (hS : RS M m T S) (hs : SOk S) {s : Nat} (h : s < tN T) : f_X10_earns m (nI s) M = some (nI (ern T S s), M) := by
  have hj := hk.1.2.2.2
  have hp := (hS.2.2 s h).2
  have hb : ∀ t, sP S s = some t → t < 2 ^ 31 := fun t ht => by have := hs.2.2.2 s t ht; have := hs.1; omega
  obtain ⟨hc, he, -⟩ := hT.2.2 s h
  have he2 := (hk.2.2.2.2 s).2.1
  simp (disch := omega) only [f_X10_earns, f_X10_earns_J34, f_X10_earns_J35, e_gR, e_gI, e_aI, e_aL, e_oO, e_pI, e_wI, e_wL, ro_m hR, Option.map_some, Option.bind_some, cl_some, nm_eq, ckZ_b, ckZ_n0, ckZ_n1, rr_passed hR, rx_passed hR, rr_keeps hR, rx_keeps hR, rr_cargo hR, rx_cargo hR, n_cl, hp, hc, he, eP_none hb]
  unfold ern
  cases hh : sP S s with
  | none => simp
  | some t =>
    have ht := hb t hh
    simp only [Option.isNone, Bool.false_eq_true, if_false, Option.elim, eP]
    simp (disch := omega) only [n_lt]
    by_cases h1 : tE T s < t
    · rw [if_pos h1, if_neg (by omega)]
    · rw [if_neg h1, if_pos (by omega)]
