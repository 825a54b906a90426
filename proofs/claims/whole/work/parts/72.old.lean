/-! BOTH: old -/
def oldS (T : TD) (set : Nat) : SC := (0, fun j => if set.testBit j then some (-1) else none, tW T, fun _ => none)
theorem oldS_ok {T : TD} (hk : TOk T) (set : Nat) : SOk (oldS T set) := ⟨Nat.zero_le _, fun j h hh => (by
  have hh : (if set.testBit j then some (-1 : Int) else none) = some h := hh
  by_cases e : set.testBit j = true
  · rw [if_pos e] at hh; cases hh; show (-1 : Int) ≤ -1 ∧ (-1 : Int) ≤ ((0 : Nat) : Int); omega
  · rw [if_neg e] at hh; cases hh), fun s => (hk.2.2.2.2 s).2.2, fun s t ht => (by cases ht)⟩
theorem oldS_ern (T : TD) (set : Nat) : ernA T (oldS T set) = 0 := by
  have : ∀ n, smn (ern T (oldS T set)) n = 0 := by
    intro n
    induction n with
    | zero => rfl
    | succ n ih => rw [smn, ih]; rfl
  exact this _
/-- how many have passed by then -/
def psd (T : TD) (S : SC) : Nat := tN T - wtc T S
def olN (T : TD) (r : Option RD) (n many : Nat) (st : Nat × Nat × Nat) (set : Nat) : Nat × Nat × Nat := if psd T (tides T r (oldS T set) n) = many then (st.1 + 1, if st.1 = 0 then set else st.2.1, if st.1 = 0 then set else st.2.2 &&& set) else st
def olF (T : TD) (r : Option RD) (n many : Nat) : Nat → Nat → Nat × Nat × Nat → Nat × Nat × Nat
  | 0, _, st => st
  | d + 1, set, st => olF T r n many d (set + 1) (olN T r n many st set)
def olA (st : Nat × Nat × Nat) (w : Int32) : Int32 := if w = 0 then nI st.1 else if w = nI 1 then (if st.1 = 0 then -2 else nI st.2.1) else (if st.1 = 0 then nI 0 else nI st.2.2)
def rlB (x : Int32) (c : Nat) : Bool := decide (-1 ≤ x.toInt ∧ x.toInt < (c : Int))
def rlO (x : Int32) : Option Nat := if x = -1 then none else some x.toNatClampNeg
theorem rlB_t {x : Int32} {c : Nat} (hc : c < 2 ^ 31) (h : rlB x c = true) : x = eP (rlO x) ∧ ∀ i, rlO x = some i → i < c := by
  have h1 := of_decide_eq_true h
  have h2 : (-1 : Int32).toInt = -1 := by decide
  unfold rlO
  by_cases e : x = -1
  · rw [if_pos e]
    exact ⟨e, fun i hi => by cases hi⟩
  · rw [if_neg e]
    have h3 : x.toInt ≠ -1 := fun z => e (by rw [fa_eq, z, h2])
    have h4 : x = nI x.toInt.toNat := by rw [fa_eq, nI_toInt (by omega)]; omega
    have h5 : x.toNatClampNeg = x.toInt.toNat := by rw [h4, n_cl (by omega), nI_toInt (by omega)]; omega
    rw [h5]
    exact ⟨h4, fun i hi => by cases hi; omega⟩
def q_old (T : TD) (c : Nat) (W : Nat → RD) (x n many w : Int32) : Int32 :=
  if isB T && rlB x c && inR n 1 60 && inR many 0 5 && inR w 0 2 then olA (olF T ((rlO x).map W) n.toNatClampNeg many.toNatClampNeg (2 ^ tJ T) 0 (0, 0, 0)) w else -3
theorem pow8 {j : Nat} (h : j ≤ 8) : 2 ^ j ≤ 256 := Nat.pow_le_pow_right (n := 2) (by decide) h
theorem q_oldW {m : Nat} {M0 : Mem} {T : TD} {W : Nat → RD} (hk : TOk T) (hR0 : RIs (mS M0) (mR M0) m) (hT0 : RT M0 m T) {p : Option Nat} {set n : Nat} (hset : set < 256) (hn : n ≤ 60) {Q : Int32 → Mem → Prop} (K : ∀ M', RB m M0 M' → Q (nI (psd T (tides T (p.map W) (oldS T set) n))) M') :
    ∀ d j f (M : Mem), j + d = tJ T → QF m M0 M → (mI M (m + 1) 4 = nI 0 ∧ mI M (m + 1) 5 = nI 0) → (∀ i, i < j → mI M (m + 5) i = eH (-1000) (sH (oldS T set) i)) → (∀ s, s < tN T → mI M (m + 6) s = nI (tW T s) ∧ mI M (m + 7) s = -1) → RRu M m (p.map W) → ROv M m none →
    WP (f_X10_howManyBy_L15 m (f + d + 1) (nI set) (nI n) (nI j) M) Q := by
  have h1 := hk.1.2.2.1
  intro d
  induction d with
  | zero =>
    intro j f M hj q hs hh hw hr hv
    have hR := q.RI hR0
    have hT := q.T hT0
    have hj : j = tJ T := by omega
    subst hj
    have hS : RS M m T (oldS T set) := ⟨⟨hs.1, by rw [oldS_ern]; exact hs.2⟩, hh, hw⟩
    rw [f_X10_howManyBy_L15]
    repeat (first | ((with_reducible apply WP.ce); case h => (simp (disch := omega) only []; with_reducible rfl)) | ((with_reducible apply WP.bd); case h => (simp (disch := omega) only [e_gR, e_gI, e_aI, e_aL, e_oO, e_pI, e_wI, e_wL, Option.map_some, mS_sL, mR_sL, mI_sL, mS_sI, mR_sI, mL_sI, n_cl, ro_m hR, rr_scalar hR, rx_scalar hR, hT.1.2.2.1]; with_reducible rfl)) | rw [nm_eq] | rw [ckZ_n1] | rw [ckZ_n0])
    refine WP.it (by rw [n_le (by omega) (by omega)]; omega) ?_
    repeat (first | ((with_reducible apply WP.ce); case h => (simp (disch := omega) only []; with_reducible rfl)) | ((with_reducible apply WP.bd); case h => (simp (disch := omega) only [e_gR, e_gI, e_aI, e_aL, e_oO, e_pI, e_wI, e_wL, Option.map_some, mS_sL, mR_sL, mI_sL, mS_sI, mR_sI, mL_sI, n_cl, ro_m hR]; with_reducible rfl)) | rw [nm_eq] | rw [ckZ_n1] | rw [ckZ_n0])
    have h0 : sT (oldS T set) = 0 := rfl
    refine WP.cw (q_goFor hk hR0 hT0 (oldS_ok hk set) (n := n) (by omega) (by omega) ⟨q, hS, hr, hv⟩) (fun _ M2 c2 => ?_)
    have hR2 := c2.1.1.RI hR0
    repeat (first | ((with_reducible apply WP.ce); case h => (simp (disch := omega) only [r_howMany hR2 (c2.1.1.T hT0) hk c2.1.2.1 (tides_ok (oldS_ok hk set) n (by omega))]; with_reducible rfl)) | ((with_reducible apply WP.bd); case h => (simp (disch := omega) only [e_gR, e_gI, e_aI, e_aL, e_oO, e_pI, e_wI, e_wL, Option.map_some, mS_sL, mR_sL, mI_sL, mS_sI, mR_sI, mL_sI, n_cl, ro_m hR2]; with_reducible rfl)) | rw [nm_eq] | rw [ckZ_n1] | rw [ckZ_n0])
    exact WP.cw (q_back hR0 c2.1) (fun _ M3 c3 => WP.ret (K M3 c3.1))
  | succ d ih =>
    intro j f M hj q hs hh hw hr hv
    have hR := q.RI hR0
    have hT := q.T hT0
    rw [show f + (d + 1) + 1 = (f + d + 1) + 1 from by omega, f_X10_howManyBy_L15]
    repeat (first | ((with_reducible apply WP.ce); case h => (simp (disch := omega) only []; with_reducible rfl)) | ((with_reducible apply WP.bd); case h => (simp (disch := omega) only [e_gR, e_gI, e_aI, e_aL, e_oO, e_pI, e_wI, e_wL, Option.map_some, mS_sL, mR_sL, mI_sL, mS_sI, mR_sI, mL_sI, n_cl, ro_m hR, rr_scalar hR, rx_scalar hR, hT.1.2.2.1]; with_reducible rfl)) | rw [nm_eq] | rw [ckZ_n1] | rw [ckZ_n0])
    refine WP.ie (by rw [n_le (by omega) (by omega)]; omega) ?_
    have a1 := has_eq (x := set) (j := j) (by omega) (by omega) M
    have on : ∀ v, v = eH (-1000) (sH (oldS T set) j) → WP (f_X10_howManyBy_J48 (f_X10_howManyBy_L15 m (f + d + 1)) m (nI set) (nI n) (nI j) v (nI j) (some (m + 5)) M) Q := by
      intro v hv2
      unfold f_X10_howManyBy_J48
      repeat (first | ((with_reducible apply WP.ce); case h => (simp (disch := omega) only []; with_reducible rfl)) | ((with_reducible apply WP.bd); case h => (simp (disch := omega) only [e_gR, e_gI, e_aI, e_aL, e_oO, e_pI, e_wI, e_wL, Option.map_some, mS_sL, mR_sL, mI_sL, mS_sI, mR_sI, mL_sI, n_cl, rx_heard hR]; with_reducible rfl)) | rw [nm_eq] | rw [ckZ_n1] | rw [ckZ_n0])
      rw [n_add]
      refine ih (j + 1) f _ (by omega) (q.w (by omega) _ _) ?_ (fun i hi => ?_) ?_ (ru_w hr _ (by omega) (by omega)) ((SX.w M (by omega) (by omega) _ _).ov hv)
      · rw [sI_row (by omega)]; exact hs
      · rw [mI_sI_s]
        by_cases e : i = j
        · subst e; rw [upd_s]; exact hv2
        · rw [upd_o _ _ e]; exact hh i (by omega)
      · rw [sI_row (by omega), sI_row (by omega)]; exact hw
    repeat (first | ((with_reducible apply WP.ce); case h => (simp (disch := omega) only [a1]; with_reducible rfl)) | ((with_reducible apply WP.bd); case h => (simp (disch := omega) only [e_gR, e_gI, e_aI, e_aL, e_oO, e_pI, e_wI, e_wL, Option.map_some, mS_sL, mR_sL, mI_sL, mS_sI, mR_sI, mL_sI, n_cl, ro_m hR, rr_heard hR]; with_reducible rfl)) | rw [nm_eq] | rw [ckZ_n1] | rw [ckZ_n0])
    refine WP.gd (fun e => on _ ?_) (fun e => on _ ?_)
    · show _ = eH (-1000) (if set.testBit j then some (-1) else none)
      rw [e]; rfl
    · show _ = eH (-1000) (if set.testBit j then some (-1) else none)
      rw [e]; rfl
theorem q_howManyBy {m c : Nat} {M0 M : Mem} {T : TD} {W : Nat → RD} (hk : TOk T) (hR0 : RIs (mS M0) (mR M0) m) (hT0 : RT M0 m T) (hw : RWs M0 m c W) {p : Option Nat} (hp : ∀ i, p = some i → i < c) (hB : RB m M0 M) {set n : Nat} (hset : set < 256) (hn : n ≤ 60) : WP (f_X10_howManyBy m (nI set) (eP p) (nI n) M) (fun v M' => v = nI (psd T (tides T (p.map W) (oldS T set) n)) ∧ RB m M0 M') := by
  have h1 := hk.1.2.2.1
  have hR := hB.1.RI hR0
  have q1 := hB.1.w1 (k := 8) (by omega) (eP p)
  have hR1 := q1.RI hR0
  unfold f_X10_howManyBy
  repeat (first | ((with_reducible apply WP.ce); case h => (simp (disch := omega) only []; with_reducible rfl)) | ((with_reducible apply WP.bd); case h => (simp (disch := omega) only [e_gR, e_gI, e_aI, e_aL, e_oO, e_pI, e_wI, e_wL, Option.map_some, mS_sL, mR_sL, mI_sL, mS_sI, mR_sI, mL_sI, n_cl, ro_m hR, rr_scalar hR, rx_scalar hR]; with_reducible rfl)) | rw [nm_eq] | rw [ckZ_n1] | rw [ckZ_n0])
  refine WP.cw (q_begin hk hR0 hT0 hw hp q1 (by rw [sI_row (by omega)]; exact hB.2.2) (by rw [mI_sI, if_pos ⟨rfl, rfl⟩])) (fun _ M2 c2 => ?_)
  obtain ⟨f, hf⟩ := FUd (tJ T) (by omega)
  rw [hf]
  have s2 := c2.1.2.1
  refine q_oldW (W := W) (p := p) hk hR0 hT0 hset hn (fun M' h => ⟨rfl, h⟩) (tJ T) 0 f M2 (by omega) c2.1.1 ⟨s2.1.1, by rw [s2.1.2, bgS_ern]⟩ (fun i hi => absurd hi (Nat.not_lt_zero i)) (fun s hs => s2.2.2 s hs) c2.1.2.2.1 c2.1.2.2.2
theorem x_oldL {m c : Nat} {M0 : Mem} {T : TD} {W : Nat → RD} (hk : TOk T) (hR0 : RIs (mS M0) (mR M0) m) (hT0 : RT M0 m T) (hw : RWs M0 m c W) {p : Option Nat} (hp : ∀ i, p = some i → i < c) {n many : Nat} (hn : n ≤ 60) (hm : many ≤ 5) {w : Int32} :
    ∀ d set f (M : Mem) (st : Nat × Nat × Nat), set + d = 2 ^ tJ T → RB m M0 M → st.1 ≤ set →
    WP (f_X10_old_L82 m (f + d + 1) (eP p) (nI n) (nI many) w (nI st.1) (if st.1 = 0 then -2 else nI st.2.1) (if st.1 = 0 then nI 0 else nI st.2.2) (nI set) M) (fun v M' => v = olA (olF T (p.map W) n many d set st) w ∧ RB m M0 M') := by
  have h1 := hk.1.2.2.1
  have h8 := pow8 h1
  intro d
  induction d with
  | zero =>
    intro set f M st hs hB hc
    have hR := hB.1.RI hR0
    have hT := hB.1.T hT0
    rw [f_X10_old_L82]
    repeat (first | ((with_reducible apply WP.ce); case h => (simp (disch := omega) only []; with_reducible rfl)) | ((with_reducible apply WP.bd); case h => (simp (disch := omega) only [e_gR, e_gI, e_aI, e_aL, e_oO, e_pI, e_wI, e_wL, Option.map_some, mS_sL, mR_sL, mI_sL, mS_sI, mR_sI, mL_sI, n_cl, ro_m hR, rr_scalar hR, rx_scalar hR, hT.1.2.2.1]; with_reducible rfl)) | rw [nm_eq] | rw [ckZ_n1] | rw [ckZ_n0])
    refine WP.it (by rw [n_shl (by omega), n_le (by omega) (by omega)]; omega) ?_
    unfold f_X10_old_J170 olF olA
    by_cases w0 : w = 0
    · exact WP.it w0 (WP.ret ⟨by rw [if_pos w0], hB⟩)
    · refine WP.ie w0 ?_
      rw [if_neg w0]
      by_cases w1 : w = nI 1
      · exact WP.it w1 (WP.ret ⟨by rw [if_pos w1], hB⟩)
      · exact WP.ie w1 (WP.ret ⟨by rw [if_neg w1], hB⟩)
  | succ d ih =>
    intro set f M st hs hB hc
    have hR := hB.1.RI hR0
    have hT := hB.1.T hT0
    rw [show f + (d + 1) + 1 = (f + d + 1) + 1 from by omega, f_X10_old_L82]
    repeat (first | ((with_reducible apply WP.ce); case h => (simp (disch := omega) only []; with_reducible rfl)) | ((with_reducible apply WP.bd); case h => (simp (disch := omega) only [e_gR, e_gI, e_aI, e_aL, e_oO, e_pI, e_wI, e_wL, Option.map_some, mS_sL, mR_sL, mI_sL, mS_sI, mR_sI, mL_sI, n_cl, ro_m hR, rr_scalar hR, rx_scalar hR, hT.1.2.2.1]; with_reducible rfl)) | rw [nm_eq] | rw [ckZ_n1] | rw [ckZ_n0])
    refine WP.ie (by rw [n_shl (by omega), n_le (by omega) (by omega)]; omega) ?_
    repeat (first | ((with_reducible apply WP.ce); case h => (simp (disch := omega) only []; with_reducible rfl)) | ((with_reducible apply WP.bd); case h => (simp (disch := omega) only [e_gR, e_gI, e_aI, e_aL, e_oO, e_pI, e_wI, e_wL, Option.map_some, mS_sL, mR_sL, mI_sL, mS_sI, mR_sI, mL_sI, n_cl, ro_m hR]; with_reducible rfl)) | rw [nm_eq] | rw [ckZ_n1] | rw [ckZ_n0])
    refine WP.cw (q_howManyBy hk hR0 hT0 hw hp hB (set := set) (n := n) (by omega) hn) (fun v M1 c1 => ?_)
    obtain ⟨rfl, hB1⟩ := c1
    have hpl : psd T (tides T (p.map W) (oldS T set) n) ≤ 5 := by unfold psd; have := hk.1.2.2.2; omega
    rw [olF]
    unfold f_X10_old_J119 f_X10_old_J136 f_X10_old_J141
    rw [n_add]
    by_cases c2 : psd T (tides T (p.map W) (oldS T set) n) = many
    · refine WP.it (by rw [c2]) ?_
      rw [n_add]
      by_cases c3 : st.1 = 0
      · refine WP.it (by rw [c3]; rfl) ?_
        refine WP.it (by rw [c3]; rfl) ?_
        have e := ih (set + 1) f M1 (st.1 + 1, set, set) (by omega) hB1 (by show st.1 + 1 ≤ _; omega)
        have e2 : olN T (p.map W) n many st set = (st.1 + 1, set, set) := by unfold olN; rw [if_pos c2, if_pos c3, if_pos c3]
        rw [e2]
        simp only [Nat.add_eq_zero_iff, Nat.one_ne_zero, and_false, if_false] at e
        exact e
      · refine WP.ie (by rw [nIz (by omega)]; exact c3) ?_
        refine WP.ie (by rw [nIz (by omega)]; exact c3) ?_
        rw [if_neg c3, if_neg c3, n_and]
        have e := ih (set + 1) f M1 (st.1 + 1, st.2.1, st.2.2 &&& set) (by omega) hB1 (by show st.1 + 1 ≤ _; omega)
        have e2 : olN T (p.map W) n many st set = (st.1 + 1, st.2.1, st.2.2 &&& set) := by unfold olN; rw [if_pos c2, if_neg c3, if_neg c3]
        rw [e2]
        simp only [Nat.add_eq_zero_iff, Nat.one_ne_zero, and_false, if_false] at e
        exact e
    · refine WP.ie (by rw [n_eq (by omega) (by omega)]; exact c2) ?_
      have e2 : olN T (p.map W) n many st set = st := by unfold olN; rw [if_neg c2]
      rw [e2]
      try rw [n_add]
      exact ih (set + 1) f M1 st (by omega) hB1 (by omega)
theorem in_rule (x : Int32) {c : Nat} (hc : c ≤ 6) (M : Mem) : f_X10_in (Int32.toInt64 x) (-1) (Int32.toInt64 (nI c - nI 1)) M = some (bI (rlB x c), M) := by
  rw [in_eq]
  congr 3
  unfold rlB
  have h0 : (-1 : Int64).toInt = -1 := by decide
  have h1 : (nI c - nI 1).toInt = (c : Int) - 1 := pk_sub_toInt (by omega) (by decide)
  rw [decide_eq_decide, fa_le64, fa_le64, Int32.toInt_toInt64, Int32.toInt_toInt64, h1, h0]
  omega
theorem x_old {m c : Nat} {M0 : Mem} {T : TD} {S : SC} {r : Option RD} {W : Nat → RD} (h : RE m M0 T S r) (hw : RWs M0 m c W) (x l2 l3 l4 : Int32) : WP (f_X10_old m x l2 l3 l4 M0) (fun v M => v = q_old T c W x l2 l3 l4 ∧ RA m M0 M) := by
  obtain ⟨⟨hR, hT, hS, hr, hv⟩, hk, hs, h9⟩ := h
  have hc6 := hw.1
  have h8 := pow8 hk.1.2.2.1
  unfold f_X10_old f_X10_old_J62
  repeat (first | ((with_reducible apply WP.ce); case h => (simp (disch := omega) only [r_isBar hR hT hk]; with_reducible rfl)) | ((with_reducible apply WP.bd); case h => (simp (disch := omega) only [e_gR, e_gI, e_aI, e_aL, e_oO, e_pI, e_wI, e_wL, Option.map_some, mS_sL, mR_sL, mI_sL, mS_sI, mR_sI, mL_sI, n_cl, ro_m hR]; with_reducible rfl)) | rw [nm_eq] | rw [ckZ_n1] | rw [ckZ_n0])
  refine WP.gd (fun g1 => WP.ret ⟨by unfold q_old; rw [g1]; rfl, RA.rf m M0⟩) (fun g1 => ?_)
  repeat (first | ((with_reducible apply WP.ce); case h => (simp (disch := omega) only []; with_reducible rfl)) | ((with_reducible apply WP.bd); case h => (simp (disch := omega) only [e_gR, e_gI, e_aI, e_aL, e_oO, e_pI, e_wI, e_wL, Option.map_some, mS_sL, mR_sL, mI_sL, mS_sI, mR_sI, mL_sI, n_cl, ro_m hR, hw.2.1]; with_reducible rfl)) | rw [nm_eq] | rw [ckZ_n1] | rw [ckZ_n0])
  refine WP.ce (in_rule x hc6 M0) ?_
  refine WP.gd (fun g2 => WP.ret ⟨by unfold q_old; rw [g1, g2]; rfl, RA.rf m M0⟩) (fun g2 => ?_)
  repeat (first | ((with_reducible apply WP.ce); case h => (simp (disch := omega) only [in_160]; with_reducible rfl)) | ((with_reducible apply WP.bd); case h => (simp (disch := omega) only [e_gR, e_gI, e_aI, e_aL, e_oO, e_pI, e_wI, e_wL, Option.map_some, mS_sL, mR_sL, mI_sL, mS_sI, mR_sI, mL_sI, n_cl, ro_m hR]; with_reducible rfl)) | rw [nm_eq] | rw [ckZ_n1] | rw [ckZ_n0])
  refine WP.gd (fun g3 => WP.ret ⟨by unfold q_old; rw [g1, g2, g3]; rfl, RA.rf m M0⟩) (fun g3 => ?_)
  repeat (first | ((with_reducible apply WP.ce); case h => (simp (disch := omega) only [in_05]; with_reducible rfl)) | ((with_reducible apply WP.bd); case h => (simp (disch := omega) only [e_gR, e_gI, e_aI, e_aL, e_oO, e_pI, e_wI, e_wL, Option.map_some, mS_sL, mR_sL, mI_sL, mS_sI, mR_sI, mL_sI, n_cl, ro_m hR]; with_reducible rfl)) | rw [nm_eq] | rw [ckZ_n1] | rw [ckZ_n0])
  refine WP.gd (fun g4 => WP.ret ⟨by unfold q_old; rw [g1, g2, g3, g4]; rfl, RA.rf m M0⟩) (fun g4 => ?_)
  repeat (first | ((with_reducible apply WP.ce); case h => (simp (disch := omega) only [in_02]; with_reducible rfl)) | ((with_reducible apply WP.bd); case h => (simp (disch := omega) only [e_gR, e_gI, e_aI, e_aL, e_oO, e_pI, e_wI, e_wL, Option.map_some, mS_sL, mR_sL, mI_sL, mS_sI, mR_sI, mL_sI, n_cl, ro_m hR]; with_reducible rfl)) | rw [nm_eq] | rw [ckZ_n1] | rw [ckZ_n0])
  refine WP.gd (fun g5 => WP.ret ⟨by unfold q_old; rw [g1, g2, g3, g4, g5]; rfl, RA.rf m M0⟩) (fun g5 => ?_)
  repeat (first | ((with_reducible apply WP.ce); case h => (simp (disch := omega) only []; with_reducible rfl)) | ((with_reducible apply WP.bd); case h => (simp (disch := omega) only [e_gR, e_gI, e_aI, e_aL, e_oO, e_pI, e_wI, e_wL, Option.map_some, mS_sL, mR_sL, mI_sL, mS_sI, mR_sI, mL_sI, n_cl, ro_m hR]; with_reducible rfl)) | rw [nm_eq] | rw [ckZ_n1] | rw [ckZ_n0])
  refine WP.cw (q_keeps hR hv) (fun _ M1 c1 => ?_)
  obtain ⟨n, rfl, -, b2, b3⟩ := inR_t g3 (by decide)
  obtain ⟨many, rfl, -, d2, d3⟩ := inR_t g4 (by decide)
  obtain ⟨e1, e2⟩ := rlB_t (by omega) g2
  obtain ⟨f, hf⟩ := FUd (2 ^ tJ T) (by omega)
  have e := x_oldL hk hR hT hw e2 (n := n) (many := many) (by omega) (by omega) (w := l4) (2 ^ tJ T) 0 f M1 (0, 0, 0) (by omega) c1.1 (Nat.le_refl _)
  rw [← e1, ← hf] at e
  refine WP.mono e (fun v M c => ⟨?_, Or.inr c.2⟩)
  rw [c.1]
  unfold q_old
  rw [g1, g2, g3, g4, g5, n_cl b3, n_cl d3]
  rfl
