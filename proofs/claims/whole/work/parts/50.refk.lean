/-! the reference's questions on tides -/
def wtI (T : TD) (S : SC) (x : Int32) : Bool := ixB x (tN T) && wts S x.toNatClampNeg
theorem r_waitsI {M : Mem} {m : Nat} {T : TD} {S : SC} (hR : RIs (mS M) (mR M) m) (hT : RT M m T) (hk : TOk T) (hS : RS M m T S) (hs : SOk S) (x : Int32) : f_X10_waits m x M = some (bI (wtI T S x), M) := by
  have h2 := hk.1.2.2.2
  unfold wtI
  cases hx : ixB x (tN T) with
  | false => exact r_waitsN hR hT hk hS hs hx
  | true =>
    obtain ⟨j, j1, rfl⟩ := ixB_t (by omega) hx
    rw [n_cl (by omega), r_waits hR hT hk hS hs j1]
    rfl
theorem wtI_t {T : TD} (hk : TOk T) {S : SC} {x : Int32} (h : wtI T S x = true) : ∃ s, x = nI s ∧ s < tN T ∧ wts S s = true := by
  have h2 := hk.1.2.2.2
  unfold wtI at h
  rw [Bool.and_eq_true] at h
  obtain ⟨j, j1, rfl⟩ := ixB_t (by omega) h.1
  rw [n_cl (by omega)] at h
  exact ⟨j, rfl, j1, h.2⟩
theorem psm_bit (T : TD) (r : Option RD) (ov : Option (Nat × Option Nat)) (S : SC) {s : Nat} (h : s < tN T) : (psm T r ov S).testBit s = pss T r ov (trns T r ov S s) s := by
  unfold psm
  rw [bmk_bit]
  simp [h]
theorem psm_lt {T : TD} (hk : TOk T) (r : Option RD) (ov : Option (Nat × Option Nat)) (S : SC) : psm T r ov S < 256 := by
  have h1 := bmk_lt (fun s => pss T r ov (trns T r ov S s) s) (tN T)
  have h2 : 2 ^ tN T ≤ 2 ^ 5 := Nat.pow_le_pow_right (by decide) hk.1.2.2.2
  unfold psm
  omega
theorem trn_Po {T : TD} {r : Option RD} {ov : Option (Nat × Option Nat)} {S : SC} {s i : Nat} (h : s ≠ i) : sP (trn T r ov S i) s = sP S s := by
  unfold trn
  cases tld T r ov S i with
  | none => rfl
  | some j =>
    show (if isN T S j then fset (sP S) i (some (sT S)) else sP S) s = _
    by_cases hn : isN T S j = true
    · rw [if_pos hn, fset_o _ _ h]
    · rw [if_neg hn]
theorem trns_Po {T : TD} {r : Option RD} {ov : Option (Nat × Option Nat)} {S : SC} {s : Nat} : ∀ n d, s < n → sP (trns T r ov S (n + d)) s = sP (trns T r ov S n) s
  | _, 0, _ => rfl
  | n, d + 1, h => by
    rw [show n + (d + 1) = (n + d) + 1 by omega, trns, trn_Po (by omega), trns_Po n d h]
theorem trns_Pn {T : TD} {r : Option RD} {ov : Option (Nat × Option Nat)} {S : SC} {s : Nat} : ∀ n, n ≤ s → sP (trns T r ov S n) s = sP S s
  | 0, _ => rfl
  | n + 1, h => by rw [trns, trn_Po (by omega), trns_Pn n (by omega)]
theorem tide1_P {T : TD} {r : Option RD} {ov : Option (Nat × Option Nat)} {S : SC} {s : Nat} (h : s < tN T) : sP (tide1 T r ov S) s = sP (trn T r ov (trns T r ov S s) s) s := by
  show sP (trns T r ov S (tN T)) s = _
  have e := trns_Po (T := T) (r := r) (ov := ov) (S := S) (s := s) (s + 1) (tN T - (s + 1)) (by omega)
  rw [show s + 1 + (tN T - (s + 1)) = tN T by omega] at e
  rw [e, trns]
theorem pss_P {T : TD} {r : Option RD} {ov : Option (Nat × Option Nat)} {S : SC} {s : Nat} (h : s < tN T) (hp : pss T r ov (trns T r ov S s) s = true) : sP (tide1 T r ov S) s = some (sT S) := by
  rw [tide1_P h]
  unfold pss at hp
  unfold trn
  cases hc : tld T r ov (trns T r ov S s) s with
  | none => rw [hc] at hp; cases hp
  | some j =>
    rw [hc] at hp
    have hp : isN T (trns T r ov S s) j = true := hp
    show (if isN T (trns T r ov S s) j then fset (sP (trns T r ov S s)) s (some (sT (trns T r ov S s))) else _) s = _
    rw [if_pos hp, fset_s, trns_T]
def ovr (T : TD) (r : Option RD) (S : SC) (s : Nat) : Nat → Nat → Option Nat
  | 0, _ => none
  | d + 1, k => if (psm T r none (tides T r S k)).testBit s then some k else ovr T r S s d (k + 1)
def q_over (T : TD) (r : Option RD) (S : SC) (x what : Int32) : Int32 :=
  if wtI T S x && inR what 0 1 then
    (ovr T r S x.toNatClampNeg 100 0).elim (-2) (fun k => if what = 0 then nI (sT S + k) else eP (tolds T r none (tides T r S k) x.toNatClampNeg))
  else -1
theorem x_overL {m : Nat} {M0 : Mem} {T : TD} {S : SC} {r : Option RD} (hR : RIs (mS M0) (mR M0) m) (hT : RT M0 m T) (hk : TOk T) (hs : SOk S) (h9 : sT S ≤ 999) {s : Nat} (hs5 : s < tN T) {what : Int32} :
    ∀ d k f (M : Mem), k + d = 100 → RQ m M0 M T (tides T r S k) r none → WP (f_X10_over_L30 m (f + d + 1) (nI s) what (-2) (nI k) M) (fun v M' => v = (ovr T r S s d k).elim (-2) (fun k => if what = 0 then nI (sT S + k) else eP (tolds T r none (tides T r S k) s)) ∧ RB m M0 M') := by
  have h2 := hk.1.2.2.2
  intro d
  induction d with
  | zero =>
    intro k f M hkd h
    rw [f_X10_over_L30]
    refine WP.it (by rw [n_le (by omega) (by omega)]; omega) ?_
    have hR1 := h.1.RI hR
    repeat (first | refine WP.ce (by (simp (disch := omega) only []; with_reducible rfl)) ?_ | refine WP.bd (by (simp (disch := omega) only [e_gR, e_gI, e_aI, e_aL, e_oO, e_pI, e_wI, e_wL, Option.map_some, mS_sL, mR_sL, mI_sL, mS_sI, mR_sI, mL_sI, n_cl, ro_m hR1]; with_reducible rfl)) ?_ | rw [nm_eq])
    exact WP.cw (q_back hR h) (fun _ M3 c3 => WP.ret ⟨rfl, c3.1⟩)
  | succ d ih =>
    intro k f M hkd h
    have hR1 := h.1.RI hR
    have hs1 : SOk (tides T r S k) := tides_ok hs k (by omega)
    have hp := psm_lt hk r none (tides T r S k)
    rw [show f + (d + 1) + 1 = (f + d + 1) + 1 from by omega, f_X10_over_L30]
    refine WP.ie (by rw [n_le (by omega) (by omega)]; omega) ?_
    refine WP.it rfl ?_
    repeat (first | refine WP.ce (by (simp (disch := omega) only []; with_reducible rfl)) ?_ | refine WP.bd (by (simp (disch := omega) only [e_gR, e_gI, e_aI, e_aL, e_oO, e_pI, e_wI, e_wL, Option.map_some, mS_sL, mR_sL, mI_sL, mS_sI, mR_sI, mL_sI, n_cl, ro_m hR1]; with_reducible rfl)) ?_ | rw [nm_eq])
    refine WP.cw (q_goes hk hs1 (OvN T) OvN5 hR hT h) (fun v M1 c => ?_)
    have hR2 := c.2.1.1.RI hR
    rw [c.1]
    refine WP.ce (has_eq (by omega) (by omega) M1) ?_
    have c2 : RQ m M0 M1 T (tides T r S (k + 1)) r none := c.2.1
    refine WP.gd (fun hb => ?_) (fun hb => ?_)
    · have e := ih (k + 1) f M1 (by omega) c2
      unfold f_X10_over_J74
      rw [n_add, ovr]
      simp only [hb, Bool.false_eq_true, if_false]
      exact e
    · rw [ovr, if_pos hb]
      simp only [Option.elim]
      have hp2 : sP (tides T r S (k + 1)) s = some (sT S + k) := by
        have := pss_P (S := tides T r S k) hs5 (by rw [← psm_bit T r none _ hs5]; exact hb)
        rw [tides_T] at this
        exact this
      have fin : ∀ x : Int32, x ≠ -2 → WP (f_X10_over_J73 (f_X10_over_L30 m (f + d + 1)) m (nI s) what (nI k) x M1) (fun v M' => v = x ∧ RB m M0 M') := by
        intro x hx
        unfold f_X10_over_J73 f_X10_over_J74
        rw [n_add, f_X10_over_L30]
        by_cases hk1 : k + 1 = 100
        · refine WP.it (by rw [n_le (by omega) (by omega)]; omega) ?_
          repeat (first | refine WP.ce (by (simp (disch := omega) only []; with_reducible rfl)) ?_ | refine WP.bd (by (simp (disch := omega) only [e_gR, e_gI, e_aI, e_aL, e_oO, e_pI, e_wI, e_wL, Option.map_some, mS_sL, mR_sL, mI_sL, mS_sI, mR_sI, mL_sI, n_cl, ro_m hR2]; with_reducible rfl)) ?_ | rw [nm_eq])
          exact WP.cw (q_back hR c2) (fun _ M3 c3 => WP.ret ⟨rfl, c3.1⟩)
        · refine WP.ie (by rw [n_le (by omega) (by omega)]; omega) ?_
          refine WP.ie hx ?_
          repeat (first | refine WP.ce (by (simp (disch := omega) only []; with_reducible rfl)) ?_ | refine WP.bd (by (simp (disch := omega) only [e_gR, e_gI, e_aI, e_aL, e_oO, e_pI, e_wI, e_wL, Option.map_some, mS_sL, mR_sL, mI_sL, mS_sI, mR_sI, mL_sI, n_cl, ro_m hR2]; with_reducible rfl)) ?_ | rw [nm_eq])
          exact WP.cw (q_back hR c2) (fun _ M3 c3 => WP.ret ⟨rfl, c3.1⟩)
      by_cases w0 : what = 0
      · refine WP.it w0 ?_
        rw [if_pos w0]
        repeat (first | refine WP.ce (by (simp (disch := omega) only []; with_reducible rfl)) ?_ | refine WP.bd (by (simp (disch := omega) only [e_gR, e_gI, e_aI, e_aL, e_oO, e_pI, e_wI, e_wL, Option.map_some, mS_sL, mR_sL, mI_sL, mS_sI, mR_sI, mL_sI, n_cl, ro_m hR2, rr_passed hR2, rx_passed hR2, (c2.2.1.2.2 s hs5).2, hp2]; with_reducible rfl)) ?_ | rw [nm_eq])
        refine fin (nI (sT S + k)) (fun z => ?_)
        have := congrArg Int32.toInt z
        rw [nI_toInt (by omega)] at this
        have h3 : (-2 : Int32).toInt = -2 := by decide
        omega
      · refine WP.ie w0 ?_
        rw [if_neg w0]
        repeat (first | refine WP.ce (by (simp (disch := omega) only []; with_reducible rfl)) ?_ | refine WP.bd (by (simp (disch := omega) only [e_gR, e_gI, e_aI, e_aL, e_oO, e_pI, e_wI, e_wL, Option.map_some, mS_sL, mR_sL, mI_sL, mS_sI, mR_sI, mL_sI, n_cl, ro_m hR2, rr_told hR2, rx_told hR2, c.2.2.2 s hs5]; with_reducible rfl)) ?_ | rw [nm_eq])
        refine fin (eP (tolds T r none (tides T r S k) s)) (fun z => ?_)
        have h3 : (-2 : Int32).toInt = -2 := by decide
        have h4 : (-1 : Int32).toInt = -1 := by decide
        have := congrArg Int32.toInt z
        cases hc : tolds T r none (tides T r S k) s with
        | none => rw [hc] at this; simp only [eP, Option.elim] at this; omega
        | some j =>
          rw [hc] at this
          simp only [eP, Option.elim] at this
          have hj : j < tJ T := by
            unfold tolds tld at hc
            by_cases hw : wts (trns T r none (tides T r S k) s) s = true
            · rw [if_pos hw] at hc; exact cho_lt (OvN T) hc
            · rw [if_neg hw] at hc; cases hc
          have h8 := hk.1.2.2.1
          rw [nI_toInt (by omega)] at this
          omega
theorem x_over {m : Nat} {M0 : Mem} {T : TD} {S : SC} {r : Option RD} (h : RE m M0 T S r) (x what : Int32) : WP (f_X10_over m x what M0) (fun v M => v = q_over T r S x what ∧ RA m M0 M) := by
  obtain ⟨⟨hR, hT, hS, hr, hv⟩, hk, hs, h9⟩ := h
  have h2 := hk.1.2.2.2
  unfold f_X10_over
  repeat (first | refine WP.ce (by (simp (disch := omega) only [r_waitsI hR hT hk hS hs]; with_reducible rfl)) ?_ | refine WP.bd (by (simp (disch := omega) only [e_gR, e_gI, e_aI, e_aL, e_oO, e_pI, e_wI, e_wL, Option.map_some, mS_sL, mR_sL, mI_sL, mS_sI, mR_sI, mL_sI, n_cl, ro_m hR]; with_reducible rfl)) ?_ | rw [nm_eq])
  refine WP.gd (fun g1 => WP.ret ⟨by unfold q_over; rw [g1]; rfl, RA.rf m M0⟩) (fun g1 => ?_)
  repeat (first | refine WP.ce (by (simp (disch := omega) only [in_01]; with_reducible rfl)) ?_ | refine WP.bd (by (simp (disch := omega) only [e_gR, e_gI, e_aI, e_aL, e_oO, e_pI, e_wI, e_wL, Option.map_some, mS_sL, mR_sL, mI_sL, mS_sI, mR_sI, mL_sI, n_cl, ro_m hR]; with_reducible rfl)) ?_ | rw [nm_eq])
  refine WP.gd (fun g2 => WP.ret ⟨by unfold q_over; rw [g1, g2]; rfl, RA.rf m M0⟩) (fun g2 => ?_)
  obtain ⟨s, rfl, hs5, hw⟩ := wtI_t hk g1
  repeat (first | refine WP.ce (by (simp (disch := omega) only []; with_reducible rfl)) ?_ | refine WP.bd (by (simp (disch := omega) only [e_gR, e_gI, e_aI, e_aL, e_oO, e_pI, e_wI, e_wL, Option.map_some, mS_sL, mR_sL, mI_sL, mS_sI, mR_sI, mL_sI, n_cl, ro_m hR]; with_reducible rfl)) ?_ | rw [nm_eq])
  refine WP.cw (q_keeps hR hv) (fun _ M1 c1 => ?_)
  obtain ⟨f, hf⟩ := FUd 100 (by omega)
  rw [hf]
  refine WP.mono (x_overL hR hT hk hs h9 hs5 100 0 f M1 (by omega) (c1.1.rq hk hS hr)) (fun v M c => ⟨?_, Or.inr c.2⟩)
  rw [c.1]
  unfold q_over
  rw [g1, g2, n_cl (by omega)]
  rfl
/-! order -/
def bef (p : Nat → Option Nat) (k s : Nat) : Bool := (p k).elim ((p s).elim (decide (k < s)) (fun _ => false)) (fun a => (p s).elim true (fun b => decide (a < b) || (decide (a = b) && decide (k < s))))
def q_order (T : TD) (r : Option RD) (S : SC) (x : Int32) : Int32 := if ixB x (tN T) then nI (ctb (fun k => bef (sP (tides T r S 100)) k x.toNatClampNeg) (tN T)) else -1
def eF (c : Nat) (p : Option Nat) : Nat := p.elim c id
theorem bef_F {p : Nat → Option Nat} {c k s : Nat} (hk : ∀ t, p k = some t → t < c) (hs : ∀ t, p s = some t → t < c) : bef p k s = (decide (eF c (p k) < eF c (p s)) || (decide (eF c (p k) = eF c (p s)) && decide (k < s))) := by
  unfold bef eF
  cases h1 : p k with
  | none =>
    cases h2 : p s with
    | none => simp
    | some b =>
      have := hs b h2
      have e1 : ¬ c < b := by omega
      have e2 : ¬ c = b := by omega
      simp [e1, e2]
  | some a =>
    have ha := hk a h1
    cases h2 : p s with
    | none => simp [ha]
    | some b => rfl
theorem x_orderL {m : Nat} {M0 M : Mem} {T : TD} {S : SC} {r : Option RD} (hR : RIs (mS M0) (mR M0) m) (hT : RT M0 m T) (hk : TOk T) (hs : SOk S) (h9 : sT S ≤ 2000) (h : RQ m M0 M T S r none) {s : Nat} (hs5 : s < tN T) :
    ∀ d k f, k + d = tN T → WP (f_X10_order_L48 m (f + d + 1) (nI s) (nI (eF 100000 (sP S s))) (nI (ctb (fun k => bef (sP S) k s) k)) (nI k) M) (fun v M' => v = nI (ctb (fun k => bef (sP S) k s) (tN T)) ∧ RB m M0 M') := by
  have h2 := hk.1.2.2.2
  have hR1 := h.1.RI hR
  have hT1 := h.1.T hT
  have hb : ∀ k t, sP S k = some t → t < 100000 := fun k t ht => by have := hs.2.2.2 k t ht; omega
  have hF : ∀ k, eF 100000 (sP S k) ≤ 100000 := fun k => by
    unfold eF
    cases hh : sP S k with
    | none => exact Nat.le_refl _
    | some t => exact Nat.le_of_lt (hb k t hh)
  intro d
  induction d with
  | zero =>
    intro k f hkd
    have hkd : k = tN T := by omega
    subst hkd
    rw [f_X10_order_L48]
    repeat (first | refine WP.ce (by (simp (disch := omega) only []; with_reducible rfl)) ?_ | refine WP.bd (by (simp (disch := omega) only [e_gR, e_gI, e_aI, e_aL, e_oO, e_pI, e_wI, e_wL, Option.map_some, mS_sL, mR_sL, mI_sL, mS_sI, mR_sI, mL_sI, n_cl, ro_m hR1, rr_scalar hR1, rx_scalar hR1, hT1.1.2.2.2]; with_reducible rfl)) ?_ | rw [nm_eq])
    refine WP.it (by rw [n_le (by omega) (by omega)]; omega) ?_
    repeat (first | refine WP.ce (by (simp (disch := omega) only []; with_reducible rfl)) ?_ | refine WP.bd (by (simp (disch := omega) only [e_gR, e_gI, e_aI, e_aL, e_oO, e_pI, e_wI, e_wL, Option.map_some, mS_sL, mR_sL, mI_sL, mS_sI, mR_sI, mL_sI, n_cl, ro_m hR1]; with_reducible rfl)) ?_ | rw [nm_eq])
    exact WP.cw (q_back hR h) (fun _ M3 c3 => WP.ret ⟨rfl, c3.1⟩)
  | succ d ih =>
    intro k f hkd
    have e := ih (k + 1) f (by omega)
    rw [ctb] at e
    have f1 := hF k
    have f2 := hF s
    rw [show f + (d + 1) + 1 = (f + d + 1) + 1 from by omega, f_X10_order_L48]
    repeat (first | refine WP.ce (by (simp (disch := omega) only []; with_reducible rfl)) ?_ | refine WP.bd (by (simp (disch := omega) only [e_gR, e_gI, e_aI, e_aL, e_oO, e_pI, e_wI, e_wL, Option.map_some, mS_sL, mR_sL, mI_sL, mS_sI, mR_sI, mL_sI, n_cl, ro_m hR1, rr_scalar hR1, rx_scalar hR1, hT1.1.2.2.2]; with_reducible rfl)) ?_ | rw [nm_eq])
    refine WP.ie (by rw [n_le (by omega) (by omega)]; omega) ?_
    have main : WP (f_X10_order_J83 (f_X10_order_L48 m (f + d + 1)) m (nI s) (nI (eF 100000 (sP S s))) (nI (ctb (fun k => bef (sP S) k s) k)) (nI k) (nI (eF 100000 (sP S k))) M) (fun v M' => v = nI (ctb (fun k => bef (sP S) k s) (tN T)) ∧ RB m M0 M') := by
      unfold f_X10_order_J83 f_X10_order_J104 f_X10_order_J108 f_X10_order_J109
      simp only [nm_eq, n_add]
      rw [bef_F (c := 100000) (hb k) (hb s)] at e
      by_cases c1 : eF 100000 (sP S k) < eF 100000 (sP S s)
      · refine WP.it (by rw [n_lt (by omega) (by omega)]; exact c1) ?_
        simp only [c1, decide_true, Bool.true_or, if_true] at e
        exact e
      · refine WP.ie (by rw [n_lt (by omega) (by omega)]; exact c1) ?_
        by_cases c2 : eF 100000 (sP S k) = eF 100000 (sP S s)
        · refine WP.it (by rw [c2]) ?_
          by_cases c3 : k < s
          · refine WP.ie (by rw [n_le (by omega) (by omega)]; omega) ?_
            simp only [c1, c2, c3, decide_true, decide_false, Bool.false_or, Bool.and_self, if_true] at e
            simp only [Nat.lt_irrefl, decide_false, Bool.false_or, if_true] at e
            exact e
          · refine WP.it (by rw [n_le (by omega) (by omega)]; omega) ?_
            simp only [c2, c3, decide_true, decide_false, Bool.and_false, Nat.lt_irrefl, Bool.or_self, Bool.false_eq_true, if_false] at e
            exact e
        · refine WP.ie (by rw [n_eq (by omega) (by omega)]; exact c2) ?_
          simp only [c1, c2, decide_false, Bool.false_and, Bool.or_self, Bool.false_eq_true, if_false] at e
          exact e
    repeat (first | refine WP.ce (by (simp (disch := omega) only []; with_reducible rfl)) ?_ | refine WP.bd (by (simp (disch := omega) only [e_gR, e_gI, e_aI, e_aL, e_oO, e_pI, e_wI, e_wL, Option.map_some, mS_sL, mR_sL, mI_sL, mS_sI, mR_sI, mL_sI, n_cl, ro_m hR1, rr_passed hR1, rx_passed hR1, (h.2.1.2.2 k (by omega)).2]; with_reducible rfl)) ?_ | rw [nm_eq])
    cases hh : sP S k with
    | none =>
      refine WP.it rfl ?_
      rw [hh] at main
      exact main
    | some t =>
      refine WP.ie (by show ¬ nI t = -1; rw [nI_m1 (by have := hb k t hh; omega)]; exact fun h => h) ?_
      have hp : mI M (m + 7) k = nI t := by rw [(h.2.1.2.2 k (by omega)).2, hh]; rfl
      repeat (first | refine WP.ce (by (simp (disch := omega) only []; with_reducible rfl)) ?_ | refine WP.bd (by (simp (disch := omega) only [e_gR, e_gI, e_aI, e_aL, e_oO, e_pI, e_wI, e_wL, Option.map_some, mS_sL, mR_sL, mI_sL, mS_sI, mR_sI, mL_sI, n_cl, ro_m hR1, rr_passed hR1, rx_passed hR1, hp]; with_reducible rfl)) ?_ | rw [nm_eq])
      rw [hh] at main
      exact main
theorem x_order {m : Nat} {M0 : Mem} {T : TD} {S : SC} {r : Option RD} (h : RE m M0 T S r) (x : Int32) : WP (f_X10_order m x M0) (fun v M => v = q_order T r S x ∧ RA m M0 M) := by
  obtain ⟨⟨hR, hT, hS, hr, hv⟩, hk, hs, h9⟩ := h
  have h2 := hk.1.2.2.2
  unfold f_X10_order
  repeat (first | refine WP.ce (by (simp (disch := omega) only [r_isShip hR hT hk]; with_reducible rfl)) ?_ | refine WP.bd (by (simp (disch := omega) only [e_gR, e_gI, e_aI, e_aL, e_oO, e_pI, e_wI, e_wL, Option.map_some, mS_sL, mR_sL, mI_sL, mS_sI, mR_sI, mL_sI, n_cl, ro_m hR]; with_reducible rfl)) ?_ | rw [nm_eq])
  refine WP.gd (fun g1 => WP.ret ⟨by unfold q_order; rw [g1]; rfl, RA.rf m M0⟩) (fun g1 => ?_)
  obtain ⟨s, hs5, rfl⟩ := ixB_t (by omega) g1
  repeat (first | refine WP.ce (by (simp (disch := omega) only []; with_reducible rfl)) ?_ | refine WP.bd (by (simp (disch := omega) only [e_gR, e_gI, e_aI, e_aL, e_oO, e_pI, e_wI, e_wL, Option.map_some, mS_sL, mR_sL, mI_sL, mS_sI, mR_sI, mL_sI, n_cl, ro_m hR]; with_reducible rfl)) ?_ | rw [nm_eq])
  refine WP.cw (q_keeps hR hv) (fun _ M1 c1 => ?_)
  have hR1 := c1.1.1.RI hR
  repeat (first | refine WP.ce (by (simp (disch := omega) only []; with_reducible rfl)) ?_ | refine WP.bd (by (simp (disch := omega) only [e_gR, e_gI, e_aI, e_aL, e_oO, e_pI, e_wI, e_wL, Option.map_some, mS_sL, mR_sL, mI_sL, mS_sI, mR_sI, mL_sI, n_cl, ro_m hR1]; with_reducible rfl)) ?_ | rw [nm_eq])
  refine WP.cw (q_goFor hk hR hT hs (n := 100) (by omega) (by omega) (c1.1.rq hk hS hr)) (fun _ M2 c2 => ?_)
  have hR2 := c2.1.1.RI hR
  have hs2 : SOk (tides T r S 100) := tides_ok hs 100 (by omega)
  have h92 : sT (tides T r S 100) ≤ 2000 := by rw [tides_T]; omega
  have q : q_order T r S (nI s) = nI (ctb (fun k => bef (sP (tides T r S 100)) k s) (tN T)) := by
    unfold q_order
    rw [g1, n_cl (by omega)]
    rfl
  rw [q]
  obtain ⟨f, hf⟩ := FUd (tN T) (by omega)
  have e := x_orderL hR hT hk hs2 h92 c2.1 hs5 (tN T) 0 f (by omega)
  rw [← hf] at e
  repeat (first | ((with_reducible apply WP.ce); case h => (simp (disch := omega) only []; with_reducible rfl)) | ((with_reducible apply WP.bd); case h => (simp (disch := omega) only [e_gR, e_gI, e_aI, e_aL, e_oO, e_pI, e_wI, e_wL, Option.map_some, mS_sL, mR_sL, mI_sL, mS_sI, mR_sI, mL_sI, n_cl, ro_m hR2, rr_passed hR2, rx_passed hR2, (c2.1.2.1.2.2 s hs5).2]; with_reducible rfl)) | rw [nm_eq])
  cases hh : sP (tides T r S 100) s with
  | none =>
    refine WP.it rfl ?_
    rw [hh] at e
    exact WP.mono e (fun v M c => ⟨c.1, Or.inr c.2⟩)
  | some t =>
    have ht : t < 100000 := by have := hs2.2.2.2 s t hh; omega
    refine WP.ie (by show ¬ nI t = -1; rw [nI_m1 (by omega)]; exact fun h => h) ?_
    have hp : mI M2 (m + 7) s = nI t := by rw [(c2.1.2.1.2.2 s hs5).2, hh]; rfl
    repeat (first | ((with_reducible apply WP.ce); case h => (simp (disch := omega) only []; with_reducible rfl)) | ((with_reducible apply WP.bd); case h => (simp (disch := omega) only [e_gR, e_gI, e_aI, e_aL, e_oO, e_pI, e_wI, e_wL, Option.map_some, mS_sL, mR_sL, mI_sL, mS_sI, mR_sI, mL_sI, n_cl, ro_m hR2, rr_passed hR2, rx_passed hR2, hp]; with_reducible rfl)) | rw [nm_eq])
    rw [hh] at e
    exact WP.mono e (fun v M c => ⟨c.1, Or.inr c.2⟩)
