/-! THE CLASS: what a ship tells -/
def fs (p : Nat → Bool) : Nat → Option Nat
  | 0 => none
  | n + 1 => if (fs p n).isSome then fs p n else if p n then some n else none
theorem fs_up (p : Nat → Bool) {i : Nat} (h : fs p i = none) (hp : p i = true) : ∀ N, i < N → fs p N = some i
  | 0, h0 => absurd h0 (Nat.not_lt_zero i)
  | N + 1, h0 => by
    rw [fs]
    by_cases hi : i = N
    · subst hi; rw [h, hp]; rfl
    · rw [fs_up p h hp N (by omega)]; rfl
theorem fs_no (p : Nat → Bool) {i : Nat} (h : fs p i = none) (hp : p i = false) : fs p (i + 1) = none := by rw [fs, h, hp]; rfl
theorem fs_cong {p q : Nat → Bool} : ∀ {n : Nat}, (∀ i, i < n → p i = q i) → fs p n = fs q n
  | 0, _ => rfl
  | n + 1, h => by rw [fs, fs, fs_cong (fun i hi => h i (by omega)), h n (by omega)]
/-- the least new one that it knows -/
def lnw (T : TD) (S : SC) (s : Nat) : Option Nat := fs (fun j => (sW S s).testBit j && isN T S j) (tJ T)
theorem chs_01 (p kn : Nat → Bool) : ∀ n, chs (fun j => if p j then 1 else 0) kn n = (fs (fun j => kn j && p j) n, if (fs (fun j => kn j && p j) n).isSome then 1 else 0)
  | 0 => rfl
  | n + 1 => by
    rw [chs, chs_01 p kn n, fs]
    cases hf : fs (fun j => kn j && p j) n with
    | none =>
      cases hk : kn n with
      | false => simp
      | true =>
        cases hp : p n with
        | false => simp
        | true => simp
    | some i =>
      have e : ¬ ((1 : Int64) < (if p n then 1 else 0)) := by cases p n <;> decide
      simp only [Option.isSome, if_true, e, decide_false, Bool.and_false, Bool.false_eq_true, if_false]
theorem pick_none (T : TD) (S : SC) (s : Nat) : pick T none S s = lnw T S s := by
  unfold pick lnw
  show (chs (fun j => if isN T S j then 1 else 0) (fun j => (sW S s).testBit j) (tJ T)).1 = _
  rw [chs_01]
theorem b2_eq0 (b : Bool) : (nI (b2 b) = 0) = (b = false) := by cases b <;> simp [b2] <;> decide
theorem c_leastL {M : Mem} {q : Nat} {T : TD} {S : SC} (hC : CIs (mS M) (mR M)) (hT : CT M 15 T) (hk : TOk T) (hq : QOk q) (hJ : IScene (mS M) (mR M) q) (hS : CC M q T S) (hs : SOk S) (hp : PM M q T S) {s : Nat} (h5 : s < tN T) : ∀ d i n, i + d = tJ T → fs (fun j => (sW S s).testBit j && isN T S j) i = none → f_X3_leastNew_L12 30 (n + d + 1) (nI (sW S s)) (nI i) M = some (eP (lnw T S s), M) := by
  have h1 := hk.1.2.2.1
  have hw := hs.2.2.1 s
  intro d
  induction d with
  | zero =>
    intro i n hi hf
    rw [f_X3_leastNew_L12]
    simp (disch := omega) only [e_gR, e_gI, e_aI, e_aL, e_oO, e_pI, e_wI, e_wL, Option.map_some, Option.bind_some, cl_some, nm_eq, ckZ_b, ckZ_n0, ckZ_n1, cob_30 hC, cr_30_told hC, told_o (ci_told hC), hT.1.2.2.2.1, n_le]
    rw [if_pos (by omega)]
    unfold lnw
    rw [show tJ T = i by omega, hf]
    rfl
  | succ d ih =>
    intro i n hi hf
    have a1 := c_isNew (ci_told hC) hT hk S (j := i) (by omega)
    rw [show n + (d + 1) + 1 = (n + d + 1) + 1 from by omega, f_X3_leastNew_L12]
    simp (disch := omega) only [e_gR, e_gI, e_aI, e_aL, e_oO, e_pI, e_wI, e_wL, Option.map_some, Option.bind_some, cl_some, nm_eq, ckZ_b, ckZ_n0, ckZ_n1, cob_30 hC, cr_30_told hC, told_o (ci_told hC), hT.1.2.2.2.1, n_le, n_bit, b2_eq0, f_X3_leastNew_J48, hp.2.1, a1, bI_z, n_add]
    rw [if_neg (by omega)]
    cases hb : (sW S s).testBit i with
    | false =>
      rw [if_pos rfl]
      exact ih (i + 1) n (by omega) (fs_no _ hf (by simp [hb]))
    | true =>
      rw [if_neg (by decide)]
      cases hn : isN T S i with
      | false =>
        rw [if_pos rfl]
        exact ih (i + 1) n (by omega) (fs_no _ hf (by simp [hn]))
      | true =>
        rw [if_neg (by decide)]
        unfold lnw
        rw [fs_up _ hf (by simp [hb, hn]) (tJ T) (by omega)]
        rfl
theorem c_leastNew {M : Mem} {q : Nat} {T : TD} {S : SC} (hC : CIs (mS M) (mR M)) (hT : CT M 15 T) (hk : TOk T) (hq : QOk q) (hJ : IScene (mS M) (mR M) q) (hS : CC M q T S) (hs : SOk S) (hp : PM M q T S) {s : Nat} (h5 : s < tN T) : f_X3_leastNew 30 (nI s) M = some (eP (lnw T S s), M) := by
  have h1 := hk.1.2.2.1
  have h2 := hk.1.2.2.2
  obtain ⟨n, hn⟩ := FUd (tJ T) (by omega)
  simp (disch := omega) only [f_X3_leastNew, e_gR, e_gI, e_aI, e_aL, e_oO, e_pI, e_wI, e_wL, Option.map_some, Option.bind_some, cl_some, nm_eq, ckZ_b, ckZ_n0, ckZ_n1, cob_30 hC, hp.1, scene_o hJ, scene_r_knows hJ, scene_x_knows hJ, n_cl, (hS.2.2 s h5).1]
  rw [hn]
  exact c_leastL hC hT hk hq hJ hS hs hp h5 (tJ T) 0 n (by omega) rfl
/-! by a rule -/
theorem bits2 (w k s j : Nat) : (w / 2 ^ s &&& k / 2 ^ j) &&& 1 = b2 (w.testBit s && k.testBit j) := by
  rw [Nat.and_assoc, bit_b2]
  cases k.testBit j with
  | false => simp [b2]
  | true =>
    rw [Bool.and_true, show b2 true = 1 from rfl, bit_b2]
theorem n_bits2 {w k s j : Nat} (hw : w < 2 ^ 31) (hk : k < 2 ^ 31) (hs : s < 32) (hj : j < 32) : ((nI w >>> (nI s &&& 31)) &&& (nI k >>> (nI j &&& 31))) &&& nI 1 = nI (b2 (w.testBit s && k.testBit j)) := by
  rw [n_shr hw hs, n_shr hk hj, n_and, n_and, bits2]
theorem wtm_bit {T : TD} {S : SC} {s : Nat} (h : s < tN T) : (wtm T S).testBit s = wts S s := by
  unfold wtm
  rw [bmk_bit]
  simp [h]
theorem c_knowL {M : Mem} {q : Nat} {T : TD} {S : SC} (hC : CIs (mS M) (mR M)) (hT : CT M 15 T) (hk : TOk T) (hq : QOk q) (hJ : IScene (mS M) (mR M) q) (hS : CC M q T S) (hs : SOk S) (hp : PM M q T S) {j : Nat} (h8 : j < 8) : ∀ d i n, i + d = tN T → f_X3_howManyKnow_L4 30 (n + d + 1) (nI j) (nI (ctb (fun s => wts S s && (sW S s).testBit j) i)) (nI i) M = some (nI (knb T S j), M) := by
  have h2 := hk.1.2.2.2
  have hwl := wtm_lt hk S
  intro d
  induction d with
  | zero =>
    intro i n hi
    rw [f_X3_howManyKnow_L4]
    simp (disch := omega) only [e_gR, e_gI, e_aI, e_aL, e_oO, e_pI, e_wI, e_wL, Option.map_some, Option.bind_some, cl_some, nm_eq, ckZ_b, ckZ_n0, ckZ_n1, cob_30 hC, cr_30_told hC, told_o (ci_told hC), hT.1.2.2.2.2, n_le]
    rw [if_pos (by omega), show i = tN T by omega]
    rfl
  | succ d ih =>
    intro i n hi
    have hw := hs.2.2.1 i
    have e := ih (i + 1) n (by omega)
    rw [ctb, ← wtm_bit (T := T) (by omega)] at e
    rw [show n + (d + 1) + 1 = (n + d + 1) + 1 from by omega, f_X3_howManyKnow_L4]
    simp (disch := omega) only [e_gR, e_gI, e_aI, e_aL, e_oO, e_pI, e_wI, e_wL, Option.map_some, Option.bind_some, cl_some, nm_eq, ckZ_b, ckZ_n0, ckZ_n1, cob_30 hC, cr_30_told hC, told_o (ci_told hC), hT.1.2.2.2.2, n_le, hp.1, hp.2.2, scene_o hJ, scene_r_knows hJ, scene_x_knows hJ, n_cl, (hS.2.2 i (by omega)).1, n_bits2, n_add]
    rw [if_neg (by omega)]
    exact e
theorem c_howManyKnow {M : Mem} {q : Nat} {T : TD} {S : SC} (hC : CIs (mS M) (mR M)) (hT : CT M 15 T) (hk : TOk T) (hq : QOk q) (hJ : IScene (mS M) (mR M) q) (hS : CC M q T S) (hs : SOk S) (hp : PM M q T S) {j : Nat} (h8 : j < 8) : f_X3_howManyKnow 30 (nI j) M = some (nI (knb T S j), M) := by
  have h2 := hk.1.2.2.2
  obtain ⟨n, hn⟩ := FUd (tN T) (by omega)
  rw [f_X3_howManyKnow, hn]
  exact c_knowL hC hT hk hq hJ hS hs hp h8 (tN T) 0 n (by omega)
/-- the row of values changed alone, and rows of rules' piles -/
def PY (M M' : Mem) : Prop := mS M' = mS M ∧ mR M' = mR M ∧ (∀ a, a ≠ 32 → mI M' a = mI M a) ∧ (∀ a, a < 103 → mL M' a = mL M a)
theorem PY.rf (M : Mem) : PY M M := ⟨rfl, rfl, fun _ _ => rfl, fun _ _ => rfl⟩
theorem PY.tr {M1 M2 M3 : Mem} (h1 : PY M1 M2) (h2 : PY M2 M3) : PY M1 M3 := ⟨h2.1.trans h1.1, h2.2.1.trans h1.2.1, fun a b => (h2.2.2.1 a b).trans (h1.2.2.1 a b), fun a h => (h2.2.2.2 a h).trans (h1.2.2.2 a h)⟩
theorem PY.X {M M' : Mem} (h : PY M M') : PX M M' := ⟨h.1, fun a k _ => by rw [h.2.1], fun a _ _ c => h.2.2.1 a c, h.2.2.2⟩
theorem PY.w (M : Mem) (k : Nat) (v : Int32) : PY M (sI M 32 k v) := ⟨rfl, rfl, fun a h => sI_row h, fun _ _ => rfl⟩
theorem PY.P {M M' : Mem} {q : Nat} {T : TD} {S : SC} (h : PY M M') (hp : PM M q T S) : PM M' q T S := by
  unfold PM
  rw [h.2.1, h.2.2.1 30 (by decide)]
  exact hp
theorem PY.CI {M M' : Mem} (h : PY M M') (hC : CIs (mS M) (mR M)) : CIs (mS M') (mR M') := by rw [h.1, h.2.1]; exact hC
theorem PY.J {M M' : Mem} {q : Nat} (h : PY M M') (hC : IScene (mS M) (mR M) q) : IScene (mS M') (mR M') q := by rw [h.1, h.2.1]; exact hC
/-- what of a ship stands in the row of values -/
def VS (M : Mem) (T : TD) (S : SC) (s : Nat) : Prop := mI M 32 0 = nI s ∧ mI M 32 2 = nI (tC T s) ∧ mI M 32 3 = nI (tE T s) - nI (sT S) ∧ mI M 32 7 = nI (wtc T S) ∧ mI M 32 9 = nI (tN T - wtc T S) ∧ mI M 32 10 = nI (sT S)
theorem c_lookAtShip {M : Mem} {q : Nat} {T : TD} {S : SC} (hC : CIs (mS M) (mR M)) (hT : CT M 15 T) (hk : TOk T) (hq : QOk q) (hJ : IScene (mS M) (mR M) q) (hS : CC M q T S) (hs : SOk S) (hp : PM M q T S) {s : Nat} (h5 : s < tN T) : WP (f_X3_lookAtShip 30 (nI s) M) (fun _ M' => PY M M' ∧ VS M' T S s) := by
  have h2 := hk.1.2.2.2
  have hwc := wtc_le T S
  unfold QOk at hq
  have a1 := c_bitsW hk S M
  have t1 := hT.1.2.2.2.2
  have t2 := (hT.2.2.1 s h5).1
  have t3 := (hT.2.2.1 s h5).2.1
  have t4 := hS.1
  have q0 : q ≠ 32 := by omega
  unfold f_X3_lookAtShip
  repeat (first | refine WP.ce (by (simp (disch := omega) only [a1]; with_reducible rfl)) ?_ | refine WP.bd (by (simp (disch := omega) only [e_gR, e_gI, e_aI, e_aL, e_oO, e_pI, e_wI, e_wL, Option.map_some, mS_sL, mR_sL, mI_sL, mS_sI, mR_sI, mL_sI, n_cl, cob_30 hC, hp.2.2]; with_reducible rfl)) ?_ | rw [nm_eq])
  repeat (first | refine WP.ce (by (simp (disch := omega) only []; with_reducible rfl)) ?_ | refine WP.bd (by (simp (disch := omega) only [e_gR, e_gI, e_aI, e_aL, e_oO, e_pI, e_wI, e_wL, Option.map_some, mS_sL, mR_sL, mI_sL, mS_sI, mR_sI, mL_sI, n_cl, cob_30 hC, cr_values hC, cx_values hC, cr_30_told hC, told_o (ci_told hC), told_r_cargo (ci_told hC), told_x_cargo (ci_told hC), told_r_keeps (ci_told hC), told_x_keeps (ci_told hC), hp.1, scene_o hJ, sI_row, ne_eq, q0, not_false_eq_true, Nat.reduceAdd, Nat.reduceEqDiff, t1, t2, t3, t4, n_sub]; with_reducible rfl)) ?_ | rw [nm_eq])
  refine WP.ret ⟨((((((PY.w M _ _).tr (PY.w _ _ _)).tr (PY.w _ _ _)).tr (PY.w _ _ _)).tr (PY.w _ _ _)).tr (PY.w _ _ _)), ?_⟩
  unfold VS
  simp [mI_sI]
def VJ (M : Mem) (T : TD) (S : SC) (j : Nat) (lk kn : Bool) : Prop := mI M 32 1 = nI j ∧ mI M 32 5 = nI (b2 (isN T S j)) ∧ mI M 32 8 = nI (snc S j) ∧ mI M 32 4 = nI (if lk then lkO T S j else 0) ∧ mI M 32 6 = nI (if kn then knb T S j else 0)
theorem VS.w {M : Mem} {T : TD} {S : SC} {s k : Nat} (h : VS M T S s) (hk : k = 1 ∨ k = 4 ∨ k = 5 ∨ k = 6 ∨ k = 8) (v : Int32) : VS (sI M 32 k v) T S s := by
  unfold VS
  rw [mI_sI, mI_sI, mI_sI, mI_sI, mI_sI, mI_sI, if_neg (by omega), if_neg (by omega), if_neg (by omega), if_neg (by omega), if_neg (by omega), if_neg (by omega)]
  exact h
theorem c_lookJ79 {M : Mem} {q : Nat} {T : TD} {S : SC} (hC : CIs (mS M) (mR M)) (hT : CT M 15 T) (hk : TOk T) (hq : QOk q) (hJ : IScene (mS M) (mR M) q) (hS : CC M q T S) (hs : SOk S) (hp : PM M q T S) {a : Nat} {kn : Bool} (hr : mR M 30 0 = some a) (ha : 103 ≤ a) (ho : clsOf (mS M) a = 5) (hkn : mI M a 2 = bI kn) {j : Nat} (h8 : j < tJ T) (v : Int32) : f_X3_lookAtJoke_J79 30 (nI j) v (nI 4) (some 32) M = some ((), sI (sI M 32 4 v) 32 6 (nI (if kn then knb T S j else 0))) := by
  have h1 := hk.1.2.2.1
  obtain ⟨M1, hM1⟩ : ∃ M1, M1 = sI M 32 4 v := ⟨_, rfl⟩
  have p : PY M M1 := by rw [hM1]; exact PY.w _ _ _
  have hC1 := p.CI hC
  have a1 := c_howManyKnow hC1 (p.X.T hT) hk hq (p.J hJ) (p.X.C hq hS) hs (p.P hp) (j := j) (by omega)
  have hr1 : mR M1 30 0 = some a := by rw [p.2.1]; exact hr
  have ho1 : oS (mS M1) 4 (some a) = some a := oS_ok (by rw [p.1]; exact ho)
  have hk1 : mI M1 a 2 = bI kn := by rw [p.2.2.1 a (by omega)]; exact hkn
  unfold f_X3_lookAtJoke_J79
  repeat (first | refine (cl_ok (by (simp only [a1]; with_reducible rfl)) _).trans ?_ | refine (bind_ok (by (simp (disch := omega) only [e_gR, e_gI, e_aI, e_aL, e_oO, e_pI, e_wI, e_wL, Option.map_some, mS_sL, mR_sL, mI_sL, mS_sI, mR_sI, mL_sI, n_cl, cob_30 hC, cx_values hC, ← hM1]; with_reducible rfl)) _).trans ?_ | rw [nm_eq])
  repeat (first | refine (cl_ok (by (simp only [a1]; with_reducible rfl)) _).trans ?_ | refine (bind_ok (by (simp (disch := omega) only [e_gR, e_gI, e_aI, e_aL, e_oO, e_pI, e_wI, e_wL, Option.map_some, mS_sL, mR_sL, mI_sL, mS_sI, mR_sI, mL_sI, n_cl, cob_30 hC1, cr_values hC1, hr1, ho1, hk1]; with_reducible rfl)) _).trans ?_ | rw [nm_eq])
  rw [← hM1]
  cases kn with
  | false =>
    rw [if_pos (show bI false = 0 from rfl)]
    unfold f_X3_lookAtJoke_J105
    repeat (first | refine (cl_ok (by (simp only [a1]; with_reducible rfl)) _).trans ?_ | refine (bind_ok (by (simp (disch := omega) only [e_gR, e_gI, e_aI, e_aL, e_oO, e_pI, e_wI, e_wL, Option.map_some, mS_sL, mR_sL, mI_sL, mS_sI, mR_sI, mL_sI, n_cl, cx_values hC1]; with_reducible rfl)) _).trans ?_ | rw [nm_eq])
    rfl
  | true =>
    rw [if_neg (show ¬ bI true = 0 by decide)]
    repeat (first | refine (cl_ok (by (simp only [a1]; with_reducible rfl)) _).trans ?_ | refine (bind_ok (by (simp (disch := omega) only [e_gR, e_gI, e_aI, e_aL, e_oO, e_pI, e_wI, e_wL, Option.map_some, mS_sL, mR_sL, mI_sL, mS_sI, mR_sI, mL_sI, n_cl, cob_30 hC1]; with_reducible rfl)) _).trans ?_ | rw [nm_eq])
    unfold f_X3_lookAtJoke_J105
    repeat (first | refine (cl_ok (by (simp only [a1]; with_reducible rfl)) _).trans ?_ | refine (bind_ok (by (simp (disch := omega) only [e_gR, e_gI, e_aI, e_aL, e_oO, e_pI, e_wI, e_wL, Option.map_some, mS_sL, mR_sL, mI_sL, mS_sI, mR_sI, mL_sI, n_cl, cx_values hC1]; with_reducible rfl)) _).trans ?_ | rw [nm_eq])
    rfl
theorem c_lookJ32 {M : Mem} {q : Nat} {T : TD} {S : SC} (hC : CIs (mS M) (mR M)) (hT : CT M 15 T) (hk : TOk T) (hq : QOk q) (hJ : IScene (mS M) (mR M) q) (hS : CC M q T S) (hs : SOk S) (hp : PM M q T S) {a : Nat} {lk kn : Bool} (hr : mR M 30 0 = some a) (ha : 103 ≤ a) (ho : clsOf (mS M) a = 5) (hlk : mI M a 1 = bI lk) (hkn : mI M a 2 = bI kn) {j : Nat} (h8 : j < tJ T) (v : Int32) : f_X3_lookAtJoke_J32 30 (nI j) v (nI 5) (some 32) M = some ((), sI (sI (sI (sI M 32 5 v) 32 8 (nI (snc S j))) 32 4 (nI (if lk then lkO T S j else 0))) 32 6 (nI (if kn then knb T S j else 0))) := by
  have h1 := hk.1.2.2.1
  obtain ⟨M1, hM1⟩ : ∃ M1, M1 = sI M 32 5 v := ⟨_, rfl⟩
  have p1 : PY M M1 := by rw [hM1]; exact PY.w _ _ _
  have hC1 := p1.CI hC
  have a1 := c_since hk (p1.J hJ) (p1.X.C hq hS) hs h8
  obtain ⟨M2, hM2⟩ : ∃ M2, M2 = sI M1 32 8 (nI (snc S j)) := ⟨_, rfl⟩
  have p2 : PY M M2 := p1.tr (by rw [hM2]; exact PY.w _ _ _)
  have hC2 := p2.CI hC
  have hr2 : mR M2 30 0 = some a := by rw [p2.2.1]; exact hr
  have ho2 : oS (mS M2) 4 (some a) = some a := oS_ok (by rw [p2.1]; exact ho)
  have hl2 : mI M2 a 1 = bI lk := by rw [p2.2.2.1 a (by omega)]; exact hlk
  have hk2 : mI M2 a 2 = bI kn := by rw [p2.2.2.1 a (by omega)]; exact hkn
  have hp1 := p1.P hp
  have hp2 := p2.P hp
  have a2 := c_mostAlike (ci_told hC2) (p2.X.T hT) hk S h8
  have a3 := fun x => c_lookJ79 hC2 (p2.X.T hT) hk hq (p2.J hJ) (p2.X.C hq hS) hs hp2 hr2 ha (by rw [p2.1]; exact ho) hk2 h8 x
  unfold f_X3_lookAtJoke_J32
  repeat (first | refine (cl_ok (by (simp only [a1]; with_reducible rfl)) _).trans ?_ | refine (bind_ok (by (simp (disch := omega) only [e_gR, e_gI, e_aI, e_aL, e_oO, e_pI, e_wI, e_wL, Option.map_some, mS_sL, mR_sL, mI_sL, mS_sI, mR_sI, mL_sI, n_cl, cob_30 hC, cx_values hC, ← hM1]; with_reducible rfl)) _).trans ?_ | rw [nm_eq])
  repeat (first | refine (cl_ok (by (simp only [a1]; with_reducible rfl)) _).trans ?_ | refine (bind_ok (by (simp (disch := omega) only [e_gR, e_gI, e_aI, e_aL, e_oO, e_pI, e_wI, e_wL, Option.map_some, mS_sL, mR_sL, mI_sL, mS_sI, mR_sI, mL_sI, n_cl, cob_30 hC1, cr_values hC1, cx_values hC1, hp1.1, scene_o (p1.J hJ), ← hM2]; with_reducible rfl)) _).trans ?_ | rw [nm_eq])
  repeat (first | refine (cl_ok (by (simp only [a2]; with_reducible rfl)) _).trans ?_ | refine (bind_ok (by (simp (disch := omega) only [e_gR, e_gI, e_aI, e_aL, e_oO, e_pI, e_wI, e_wL, Option.map_some, mS_sL, mR_sL, mI_sL, mS_sI, mR_sI, mL_sI, n_cl, cob_30 hC2, cr_values hC2, hr2, ho2, hl2]; with_reducible rfl)) _).trans ?_ | rw [nm_eq])
  rw [← hM1, ← hM2]
  cases lk with
  | false =>
    rw [if_pos (show bI false = 0 from rfl)]
    exact a3 (nI 0)
  | true =>
    rw [if_neg (show ¬ bI true = 0 by decide)]
    repeat (first | refine (cl_ok (by (simp only [a2]; with_reducible rfl)) _).trans ?_ | refine (bind_ok (by (simp (disch := omega) only [e_gR, e_gI, e_aI, e_aL, e_oO, e_pI, e_wI, e_wL, Option.map_some, mS_sL, mR_sL, mI_sL, mS_sI, mR_sI, mL_sI, n_cl, cob_30 hC2, cr_30_told hC2, told_o (ci_told hC2), hp2.2.1]; with_reducible rfl)) _).trans ?_ | rw [nm_eq])
    exact a3 (nI (lkO T S j))
theorem c_lookAtJoke {M : Mem} {q : Nat} {T : TD} {S : SC} (hC : CIs (mS M) (mR M)) (hT : CT M 15 T) (hk : TOk T) (hq : QOk q) (hJ : IScene (mS M) (mR M) q) (hS : CC M q T S) (hs : SOk S) (hp : PM M q T S) {a : Nat} {lk kn : Bool} (hr : mR M 30 0 = some a) (ha : 103 ≤ a) (ho : clsOf (mS M) a = 5) (hlk : mI M a 1 = bI lk) (hkn : mI M a 2 = bI kn) {j s : Nat} (h8 : j < tJ T) (hv : VS M T S s) : WP (f_X3_lookAtJoke 30 (nI j) M) (fun _ M' => PY M M' ∧ VS M' T S s ∧ VJ M' T S j lk kn) := by
  have h1 := hk.1.2.2.1
  obtain ⟨M1, hM1⟩ : ∃ M1, M1 = sI M 32 1 (nI j) := ⟨_, rfl⟩
  have p1 : PY M M1 := by rw [hM1]; exact PY.w _ _ _
  have hC1 := p1.CI hC
  have hp1 := p1.P hp
  have a1 := c_isNew (ci_told hC1) (p1.X.T hT) hk S h8
  have a3 := fun x => c_lookJ32 hC1 (p1.X.T hT) hk hq (p1.J hJ) (p1.X.C hq hS) hs hp1 (by rw [p1.2.1]; exact hr) ha (by rw [p1.1]; exact ho) (by rw [p1.2.2.1 a (by omega)]; exact hlk) (by rw [p1.2.2.1 a (by omega)]; exact hkn) h8 x
  unfold f_X3_lookAtJoke
  repeat (first | refine WP.ce (by (simp (disch := omega) only [a1]; with_reducible rfl)) ?_ | refine WP.bd (by (simp (disch := omega) only [e_gR, e_gI, e_aI, e_aL, e_oO, e_pI, e_wI, e_wL, Option.map_some, mS_sL, mR_sL, mI_sL, mS_sI, mR_sI, mL_sI, n_cl, cob_30 hC, cr_values hC, cx_values hC, ← hM1]; with_reducible rfl)) ?_ | rw [nm_eq])
  repeat (first | refine WP.ce (by (simp (disch := omega) only [a1]; with_reducible rfl)) ?_ | refine WP.bd (by (simp (disch := omega) only [e_gR, e_gI, e_aI, e_aL, e_oO, e_pI, e_wI, e_wL, Option.map_some, mS_sL, mR_sL, mI_sL, mS_sI, mR_sI, mL_sI, n_cl, cob_30 hC1, cr_values hC1, cr_30_told hC1, told_o (ci_told hC1), hp1.2.1]; with_reducible rfl)) ?_ | rw [nm_eq])
  have fin : ∀ x, x = nI (b2 (isN T S j)) → PY M (sI (sI (sI (sI M1 32 5 x) 32 8 (nI (snc S j))) 32 4 (nI (if lk then lkO T S j else 0))) 32 6 (nI (if kn then knb T S j else 0))) ∧ VS (sI (sI (sI (sI M1 32 5 x) 32 8 (nI (snc S j))) 32 4 (nI (if lk then lkO T S j else 0))) 32 6 (nI (if kn then knb T S j else 0))) T S s ∧ VJ (sI (sI (sI (sI M1 32 5 x) 32 8 (nI (snc S j))) 32 4 (nI (if lk then lkO T S j else 0))) 32 6 (nI (if kn then knb T S j else 0))) T S j lk kn := by
    intro x hx
    refine ⟨p1.tr ((((PY.w _ _ _).tr (PY.w _ _ _)).tr (PY.w _ _ _)).tr (PY.w _ _ _)), ?_, ?_⟩
    · rw [hM1]
      exact ((((hv.w (by omega) _).w (by omega) _).w (by omega) _).w (by omega) _).w (by omega) _
    · rw [hM1]
      unfold VJ
      simp [mI_sI, hx]
  refine WP.gd (fun g => ?_) (fun g => ?_)
  · exact WP.of (a3 (nI 0)) (fin (nI 0) (by rw [g]; rfl))
  · exact WP.of (a3 (nI 1)) (fin (nI 1) (by rw [g]; rfl))
theorem c_wd {M : Mem} {T : TD} {S : SC} (hk : TOk T) (hs : SOk S) {s j : Nat} {lk kn : Bool} (h5 : s < tN T) (h8 : j < tJ T) (hv : VS M T S s) (hj : VJ M T S j lk kn) {w : RD} (hl : lk = false → ∀ v v' : Nat → Int64, (∀ k, k ≠ 4 → v k = v' k) → w v = w v') (hn : kn = false → ∀ v v' : Nat → Int64, (∀ k, k ≠ 6 → v k = v' k) → w v = w v') : w (fun k => if k < 11 then Int32.toInt64 (mI M 32 k) else 0) = w (wds T S s j) := by
  have h1 := hk.1.2.2.1
  have h2 := hk.1.2.2.2
  have h3 := lkO_le T S j
  have h4 := knb_le T S j
  have h5' := wtc_le T S
  have h6 := snc_le S j
  have h7 := hs.1
  have h8' := (hk.2.2.2.2 s).1
  have hb := b2_le (isN T S j)
  obtain ⟨v0, v2, v3, v7, v9, v10⟩ := hv
  obtain ⟨j1, j5, j8, j4, j6⟩ := hj
  have key : ∀ k, k ≠ 4 → k ≠ 6 → (if k < 11 then Int32.toInt64 (mI M 32 k) else 0) = wds T S s j k := by
    intro k k4 k6
    by_cases hk : k < 11
    · rw [if_pos hk]
      rcases (show k = 0 ∨ k = 1 ∨ k = 2 ∨ k = 3 ∨ k = 5 ∨ k = 7 ∨ k = 8 ∨ k = 9 ∨ k = 10 by omega) with rfl | rfl | rfl | rfl | rfl | rfl | rfl | rfl | rfl
      · rw [v0, toL (by omega)]; rfl
      · rw [j1, toL (by omega)]; rfl
      · rw [v2, toL (by omega)]; rfl
      · rw [v3]; rfl
      · rw [j5, toL (by omega)]; rfl
      · rw [v7, toL (by omega)]; rfl
      · rw [j8, toL (by omega)]; rfl
      · rw [v9, toL (by omega)]; rfl
      · rw [v10, toL (by omega)]; rfl
    · rw [if_neg hk]
      have h : (wdL T S s j)[k]? = none := List.getElem?_eq_none (by show 11 ≤ k; omega)
      unfold wds
      rw [List.getD, h]
      rfl
  have e4 : w (fun k => if k < 11 then Int32.toInt64 (mI M 32 k) else 0) = w (fun k => if k = 6 then (if k < 11 then Int32.toInt64 (mI M 32 k) else 0) else wds T S s j k) := by
    cases lk with
    | false =>
      refine hl rfl _ _ (fun k k4 => ?_)
      by_cases k6 : k = 6
      · rw [if_pos k6]
      · rw [if_neg k6]; exact key k k4 k6
    | true =>
      congr 1
      funext k
      by_cases k6 : k = 6
      · rw [if_pos k6]
      · rw [if_neg k6]
        by_cases k4 : k = 4
        · subst k4
          rw [if_pos (by omega), j4, if_pos rfl, toL (by omega)]
          rfl
        · exact key k k4 k6
  rw [e4]
  cases kn with
  | false =>
    refine hn rfl _ _ (fun k k6 => ?_)
    rw [if_neg k6]
  | true =>
    congr 1
    funext k
    by_cases k6 : k = 6
    · subst k6
      rw [if_pos rfl, if_pos (by omega), j6, if_pos rfl, toL (by omega)]
      rfl
    · rw [if_neg k6]
