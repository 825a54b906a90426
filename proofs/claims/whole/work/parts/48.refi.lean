/-! the reference while a question is asked -/
def RQ (m : Nat) (M0 M : Mem) (T : TD) (S : SC) (r : Option RD) (ov : Option (Nat × Option Nat)) : Prop := QF m M0 M ∧ RS M m T S ∧ RRu M m r ∧ ROv M m ov
theorem SX.ov {m : Nat} {M M' : Mem} {ov : Option (Nat × Option Nat)} (h : SX m M M') (hr : ROv M m ov) : ROv M' m ov := by
  unfold ROv
  rw [h.1, h.2.1]
  exact hr
theorem q_goes {m : Nat} {M0 M : Mem} {T : TD} {S : SC} (hk : TOk T) (hs : SOk S) {r : Option RD} {ov : Option (Nat × Option Nat)} (ho : OvOk T ov) (hq : ∀ q, ov = some q → q.1 < 5) (hR0 : RIs (mS M0) (mR M0) m) (hT0 : RT M0 m T) (h : RQ m M0 M T S r ov) :
    WP (f_X10_goes m M) (fun v M' => v = nI (psm T r ov S) ∧ RQ m M0 M' T (tide1 T r ov S) r ov ∧ SX m M M' ∧ ∀ s, s < tN T → mI M' (m + 27) s = eP (tolds T r ov S s)) :=
  WP.mono (g_goes hk hs ho hq (h.1.RI hR0) (h.1.T hT0) h.2.1 h.2.2.1 h.2.2.2) (fun v M' g => ⟨g.1, ⟨g.2.1.QF h.1, g.2.2.1, g.2.1.ru h.2.2.1, g.2.1.ov h.2.2.2⟩, g.2.1.SX, g.2.2.2⟩)
theorem OvN (T : TD) : OvOk T none := fun q h => by cases h
theorem OvN5 : ∀ q : Nat × Option Nat, none = some q → q.1 < 5 := fun q h => by cases h
theorem q_goForL {m : Nat} {M0 : Mem} {T : TD} (hk : TOk T) {r : Option RD} (hR0 : RIs (mS M0) (mR M0) m) (hT0 : RT M0 m T) {S : SC} (hs : SOk S) {n : Nat} (hn : n ≤ 1000) (hb : sT S + n ≤ 100000) :
    ∀ d k f (M : Mem), k + d = n → RQ m M0 M T (tides T r S k) r none → WP (f_X10_goFor_L2 m (f + d + 1) (nI n) (nI k) M) (fun _ M' => RQ m M0 M' T (tides T r S n) r none ∧ SX m M M') := by
  intro d
  induction d with
  | zero =>
    intro k f M hkn h
    have hkn : k = n := by omega
    subst hkn
    rw [f_X10_goFor_L2]
    refine WP.it (by rw [n_le (by omega) (by omega)]; omega) (WP.ret ⟨h, SX.rf m M⟩)
  | succ d ih =>
    intro k f M hkn h
    have hR := h.1.RI hR0
    rw [show f + (d + 1) + 1 = (f + d + 1) + 1 from by omega, f_X10_goFor_L2]
    refine WP.ie (by rw [n_le (by omega) (by omega)]; omega) ?_
    repeat (first | refine WP.ce (by (simp (disch := omega) only []; with_reducible rfl)) ?_ | refine WP.bd (by (simp (disch := omega) only [e_gR, e_gI, e_aI, e_aL, e_oO, e_pI, e_wI, e_wL, Option.map_some, mS_sL, mR_sL, mI_sL, mS_sI, mR_sI, mL_sI, n_cl, ro_m hR]; with_reducible rfl)) ?_ | rw [nm_eq])
    refine WP.cw (q_goes hk (tides_ok hs k (by omega)) (OvN T) OvN5 hR0 hT0 h) (fun v M1 g => ?_)
    rw [n_add]
    exact WP.mono (ih (k + 1) f M1 (by omega) g.2.1) (fun _ M2 g2 => ⟨g2.1, g.2.2.1.tr g2.2⟩)
theorem q_goFor {m : Nat} {M0 M : Mem} {T : TD} (hk : TOk T) {r : Option RD} (hR0 : RIs (mS M0) (mR M0) m) (hT0 : RT M0 m T) {S : SC} (hs : SOk S) {n : Nat} (hn : n ≤ 1000) (hb : sT S + n ≤ 100000) (h : RQ m M0 M T S r none) :
    WP (f_X10_goFor m (nI n) M) (fun _ M' => RQ m M0 M' T (tides T r S n) r none ∧ SX m M M') := by
  obtain ⟨f, hf⟩ := FUd n (by omega)
  rw [f_X10_goFor, hf]
  exact q_goForL hk hR0 hT0 hs hn hb n 0 f M (by omega) h
/-- back where the question began -/
def RB (m : Nat) (M0 M : Mem) : Prop := QF m M0 M ∧ BK m M0 M ∧ mI M m 38 = -1
theorem RB.rq {m : Nat} {M0 M : Mem} {T : TD} {S : SC} {r : Option RD} (hk : TOk T) (hS0 : RS M0 m T S) (hr0 : RRu M0 m r) (h : RB m M0 M) : RQ m M0 M T S r none :=
  ⟨h.1, h.2.1.S hk hS0, h.1.ru (h.2.1.1 8 (by decide)) hr0, h.2.2⟩
theorem q_keeps {m : Nat} {M0 : Mem} (hR0 : RIs (mS M0) (mR M0) m) (hv : ROv M0 m none) : WP (f_X10_keepsAll m M0) (fun _ M => RB m M0 M ∧ SX m M0 M) :=
  WP.mono (r_keepsAll hR0) (fun _ M h => ⟨⟨h.1, h.2.1, h.2.2.1.1.trans hv⟩, h.2.2.1⟩)
theorem q_back {m : Nat} {M0 M : Mem} {T : TD} {S : SC} {r : Option RD} (hR0 : RIs (mS M0) (mR M0) m) (h : RQ m M0 M T S r none) : WP (f_X10_laysBack m M) (fun _ M' => RB m M0 M' ∧ SX m M M') :=
  WP.mono (r_laysBack hR0 h.1) (fun _ M' g => ⟨⟨g.1, g.2.1, g.2.2.1.1.trans h.2.2.2⟩, g.2.2.1⟩)
theorem q_earnedIn {m : Nat} {M0 M : Mem} {T : TD} (hk : TOk T) {r : Option RD} (hR0 : RIs (mS M0) (mR M0) m) (hT0 : RT M0 m T) {S : SC} (hs : SOk S) {n : Nat} (hn : n ≤ 1000) (hb : sT S + n ≤ 100000) (h : RQ m M0 M T S r none) :
    WP (f_X10_earnedIn m (nI n) M) (fun v M' => v = nI (ernA T (tides T r S n)) ∧ RB m M0 M' ∧ SX m M M') := by
  have hR := h.1.RI hR0
  unfold f_X10_earnedIn
  repeat (first | refine WP.ce (by (simp (disch := omega) only []; with_reducible rfl)) ?_ | refine WP.bd (by (simp (disch := omega) only [e_gR, e_gI, e_aI, e_aL, e_oO, e_pI, e_wI, e_wL, Option.map_some, mS_sL, mR_sL, mI_sL, mS_sI, mR_sI, mL_sI, n_cl, ro_m hR]; with_reducible rfl)) ?_ | rw [nm_eq])
  refine WP.cw (q_goFor hk hR0 hT0 hs hn hb h) (fun _ M1 g => ?_)
  have hR1 := g.1.1.RI hR0
  repeat (first | refine WP.ce (by (simp (disch := omega) only []; with_reducible rfl)) ?_ | refine WP.bd (by (simp (disch := omega) only [e_gR, e_gI, e_aI, e_aL, e_oO, e_pI, e_wI, e_wL, Option.map_some, mS_sL, mR_sL, mI_sL, mS_sI, mR_sI, mL_sI, n_cl, ro_m hR1, rr_scalar hR1, rx_scalar hR1, g.1.2.1.1.2]; with_reducible rfl)) ?_ | rw [nm_eq])
  refine WP.cw (q_back hR0 g.1) (fun _ M2 g2 => ?_)
  exact WP.ret ⟨rfl, g2.1, g.2.tr g2.2⟩
/-! what is given -/
def inR (x : Int32) (lo hi : Int) : Bool := decide (lo ≤ x.toInt ∧ x.toInt ≤ hi)
theorem inR_t {x : Int32} {lo hi : Int} (h : inR x lo hi = true) (h0 : 0 ≤ lo) : ∃ n : Nat, x = nI n ∧ lo ≤ (n : Int) ∧ (n : Int) ≤ hi ∧ n < 2 ^ 31 := by
  have h1 := of_decide_eq_true h
  have h2 := Int32.toInt_lt x
  refine ⟨x.toInt.toNat, ?_, by omega, by omega, by omega⟩
  rw [fa_eq, nI_toInt (by omega)]
  omega
theorem in_R (x : Int32) (a b : Int64) (lo hi : Int) (ha : a.toInt = lo) (hb : b.toInt = hi) (M : Mem) : f_X10_in (Int32.toInt64 x) a b M = some (bI (inR x lo hi), M) := by
  rw [in_eq]
  congr 3
  unfold inR
  rw [decide_eq_decide, fa_le64, fa_le64, Int32.toInt_toInt64, ha, hb]
theorem in_01 (x : Int32) (M : Mem) : f_X10_in (Int32.toInt64 x) 0 1 M = some (bI (inR x 0 1), M) := in_R x 0 1 0 1 rfl rfl M
theorem in_02 (x : Int32) (M : Mem) : f_X10_in (Int32.toInt64 x) 0 2 M = some (bI (inR x 0 2), M) := in_R x 0 2 0 2 rfl rfl M
theorem in_04 (x : Int32) (M : Mem) : f_X10_in (Int32.toInt64 x) 0 4 M = some (bI (inR x 0 4), M) := in_R x 0 4 0 4 rfl rfl M
theorem in_05 (x : Int32) (M : Mem) : f_X10_in (Int32.toInt64 x) 0 5 M = some (bI (inR x 0 5), M) := in_R x 0 5 0 5 rfl rfl M
theorem in_03 (x : Int32) (M : Mem) : f_X10_in (Int32.toInt64 x) 0 3 M = some (bI (inR x 0 3), M) := in_R x 0 3 0 3 rfl rfl M
theorem in_13 (x : Int32) (M : Mem) : f_X10_in (Int32.toInt64 x) 1 3 M = some (bI (inR x 1 3), M) := in_R x 1 3 1 3 rfl rfl M
theorem in_14 (x : Int32) (M : Mem) : f_X10_in (Int32.toInt64 x) 1 4 M = some (bI (inR x 1 4), M) := in_R x 1 4 1 4 rfl rfl M
theorem in_110 (x : Int32) (M : Mem) : f_X10_in (Int32.toInt64 x) 1 10 M = some (bI (inR x 1 10), M) := in_R x 1 10 1 10 rfl rfl M
theorem in_160 (x : Int32) (M : Mem) : f_X10_in (Int32.toInt64 x) 1 60 M = some (bI (inR x 1 60), M) := in_R x 1 60 1 60 rfl rfl M
theorem in_060 (x : Int32) (M : Mem) : f_X10_in (Int32.toInt64 x) 0 60 M = some (bI (inR x 0 60), M) := in_R x 0 60 0 60 rfl rfl M
theorem in_0100 (x : Int32) (M : Mem) : f_X10_in (Int32.toInt64 x) 0 100 M = some (bI (inR x 0 100), M) := in_R x 0 100 0 100 rfl rfl M
theorem in_09999 (x : Int32) (M : Mem) : f_X10_in (Int32.toInt64 x) 0 9999 M = some (bI (inR x 0 9999), M) := in_R x 0 9999 0 9999 rfl rfl M
def isB (T : TD) : Bool := decide (0 < tF T)
theorem r_isBar {M : Mem} {m : Nat} {T : TD} (hR : RIs (mS M) (mR M) m) (hT : RT M m T) (hk : TOk T) : f_X10_isBar m M = some (bI (isB T), M) := by
  have h := hk.1.1
  simp (disch := omega) only [f_X10_isBar, f_X10_isBar_J14, e_gR, e_gI, e_aI, e_aL, e_oO, e_pI, e_wI, e_wL, ro_m hR, Option.map_some, Option.bind_some, cl_some, nm_eq, ckZ_b, ckZ_n0, ckZ_n1, rr_scalar hR, rx_scalar hR, n_cl, hT.1.1]
  unfold isB
  by_cases h0 : 0 < tF T
  · rw [if_neg (by have e : (0 : Int32) = nI 0 := rfl; rw [e, n_le (by omega) (by omega)]; omega), decide_eq_true h0]; rfl
  · rw [if_pos (by have e : (0 : Int32) = nI 0 := rfl; rw [e, n_le (by omega) (by omega)]; omega), decide_eq_false h0]; rfl
/-! questions: what comes of them -/
def q_ahead (T : TD) (r : Option RD) (S : SC) (s n what : Int32) : Int32 :=
  if isB T && inR what 0 2 && (!(decide (what = 0)) || ixB s (tN T)) && inR n 0 100 then
    (if what = 0 then eP (sP (tides T r S n.toNatClampNeg) s.toNatClampNeg) else if what = nI 1 then nI (ernA T (tides T r S n.toNatClampNeg)) else nI (tN T - wtc T (tides T r S n.toNatClampNeg)))
  else -2
/-- what holds of the reference between calls, as far as a question asks -/
def RE (m : Nat) (M0 : Mem) (T : TD) (S : SC) (r : Option RD) : Prop := (RIs (mS M0) (mR M0) m ∧ RT M0 m T ∧ RS M0 m T S ∧ RRu M0 m r ∧ ROv M0 m none) ∧ TOk T ∧ SOk S ∧ sT S ≤ 999
def RA (m : Nat) (M0 M : Mem) : Prop := M = M0 ∨ RB m M0 M
theorem RA.rf (m : Nat) (M : Mem) : RA m M M := Or.inl rfl
