/-! BOTH: school -/
def btc (x : Nat) : Nat := ctb (fun i => x.testBit i) 16
def tchS (T : TD) (S : SC) (set : Nat) : SC := (sT S, sH S, fun s => if decide (s < tN T) && wts S s then sW S s ||| set else sW S s, sP S)
theorem tchS_ok {T : TD} {S : SC} (hs : SOk S) {set : Nat} (h : set < 256) : SOk (tchS T S set) := by
  refine ⟨hs.1, hs.2.1, fun s => ?_, hs.2.2.2⟩
  show (if decide (s < tN T) && wts S s then sW S s ||| set else sW S s) < 256
  split
  · exact or_256 (hs.2.2.1 s) h
  · exact hs.2.2.1 s
def wrk (T : TD) (r : Option RD) (S : SC) (n set : Nat) : Bool := decide (wtm T (tides T r (tchS T S set) n) = 0)
def scN (T : TD) (r : Option RD) (S : SC) (n set : Nat) (b : Option Nat) : Option Nat := if b.elim true (fun x => decide (btc set < btc x)) && wrk T r S n set then some set else b
def scF (T : TD) (r : Option RD) (S : SC) (n : Nat) : Nat → Nat → Option Nat → Option Nat
  | 0, _, b => b
  | d + 1, set, b => scF T r S n d (set + 1) (scN T r S n set b)
def scA (b : Option Nat) (w : Int32) : Int32 := b.elim (-2) (fun x => if w = nI 1 then nI x else nI (btc x))
def q_school (T : TD) (r : Option RD) (S : SC) (n w : Int32) : Int32 :=
  if isB T && inR n 1 60 && inR w 0 1 then scA (scF T r S n.toNatClampNeg (2 ^ tJ T) 0 none) w else -1
def eM2 (b : Option Nat) : Int32 := b.elim (-2) nI
theorem nI_m2 {n : Nat} (h : n < 2 ^ 31) : (nI n = -2) = False := by
  rw [eq_iff_iff, fa_eq, nI_toInt h]
  have : (-2 : Int32).toInt = -2 := by decide
  constructor
  · intro z; omega
  · exact fun z => z.elim
theorem btc_le (x : Nat) : btc x ≤ 16 := ctb_le _ _
/-! the reference -/
theorem x_schI {m : Nat} {M0 : Mem} {T : TD} {S : SC} {r : Option RD} (h : RE m M0 T S r) {n set : Nat} (hn : n ≤ 60) (hset : set < 256) {w b : Int32} {k41 : Int32 → Int32 → Int32 → Int32 → Mem → Option (Int32 × Mem)} {Q : Int32 → Mem → Prop}
    (K : ∀ M', RB m M0 M' → WP (k41 (nI n) w (if wrk T r S n set then nI set else b) (nI (set + 1)) M') Q) :
    ∀ d s f (M : Mem), s + d = tN T → QF m M0 M → (mI M (m + 1) 4 = nI (sT S) ∧ mI M (m + 1) 5 = nI (ernA T S)) → (∀ j, j < tJ T → mI M (m + 5) j = eH (-1000) (sH S j)) → (∀ i, i < tN T → mI M (m + 6) i = nI (if i < s then sW (tchS T S set) i else sW S i) ∧ mI M (m + 7) i = eP (sP S i)) → RRu M m r → ROv M m none →
    WP (f_X10_school_L75 k41 m (f + d + 1) (nI n) w b (nI set) (nI s) M) Q := by
  obtain ⟨⟨hR0, hT0, hS0, hr0, hv0⟩, hk, hs, h9⟩ := h
  have h1 := hk.1.2.2.1
  have h2 := hk.1.2.2.2
  intro d
  induction d with
  | zero =>
    intro s f M hsd q hsc hh hw hr hv
    have hR := q.RI hR0
    have hT := q.T hT0
    have hsd : s = tN T := by omega
    subst hsd
    have hS : RS M m T (tchS T S set) := ⟨hsc, hh, fun i hi => ⟨by rw [(hw i hi).1, if_pos hi], (hw i hi).2⟩⟩
    rw [f_X10_school_L75]
    repeat (first | ((with_reducible apply WP.ce); case h => (simp (disch := omega) only []; with_reducible rfl)) | ((with_reducible apply WP.bd); case h => (simp (disch := omega) only [e_gR, e_gI, e_aI, e_aL, e_oO, e_pI, e_wI, e_wL, Option.map_some, mS_sL, mR_sL, mI_sL, mS_sI, mR_sI, mL_sI, n_cl, ro_m hR, rr_scalar hR, rx_scalar hR, hT.1.2.2.2]; with_reducible rfl)) | rw [nm_eq] | rw [ckZ_n1] | rw [ckZ_n0])
    refine WP.it (by rw [n_le (by omega) (by omega)]; omega) ?_
    repeat (first | ((with_reducible apply WP.ce); case h => (simp (disch := omega) only []; with_reducible rfl)) | ((with_reducible apply WP.bd); case h => (simp (disch := omega) only [e_gR, e_gI, e_aI, e_aL, e_oO, e_pI, e_wI, e_wL, Option.map_some, mS_sL, mR_sL, mI_sL, mS_sI, mR_sI, mL_sI, n_cl, ro_m hR]; with_reducible rfl)) | rw [nm_eq] | rw [ckZ_n1] | rw [ckZ_n0])
    have hok := tchS_ok (T := T) hs hset
    refine WP.cw (q_goFor hk hR0 hT0 hok (n := n) (by omega) (by show sT S + n ≤ _; omega) ⟨q, hS, hr, hv⟩) (fun _ M2 c2 => ?_)
    have hR2 := c2.1.1.RI hR0
    have hok2 := tides_ok (T := T) (r := r) hok n (by show sT S + n ≤ _; omega)
    have hwl := wtm_lt hk (tides T r (tchS T S set) n)
    repeat (first | ((with_reducible apply WP.ce); case h => (simp (disch := omega) only [r_waiting hR2 (c2.1.1.T hT0) hk c2.1.2.1 hok2]; with_reducible rfl)) | ((with_reducible apply WP.bd); case h => (simp (disch := omega) only [e_gR, e_gI, e_aI, e_aL, e_oO, e_pI, e_wI, e_wL, Option.map_some, mS_sL, mR_sL, mI_sL, mS_sI, mR_sI, mL_sI, n_cl, ro_m hR2]; with_reducible rfl)) | rw [nm_eq] | rw [ckZ_n1] | rw [ckZ_n0])
    unfold f_X10_school_J135 f_X10_school_J140
    by_cases hc : wtm T (tides T r (tchS T S set) n) = 0
    · have hwk : wrk T r S n set = true := decide_eq_true hc
      refine WP.it (by rw [hc]; rfl) ?_
      repeat (first | ((with_reducible apply WP.ce); case h => (simp (disch := omega) only []; with_reducible rfl)) | ((with_reducible apply WP.bd); case h => (simp (disch := omega) only [e_gR, e_gI, e_aI, e_aL, e_oO, e_pI, e_wI, e_wL, Option.map_some, mS_sL, mR_sL, mI_sL, mS_sI, mR_sI, mL_sI, n_cl, ro_m hR2]; with_reducible rfl)) | rw [nm_eq] | rw [ckZ_n1] | rw [ckZ_n0])
      refine WP.cw (q_back hR0 c2.1) (fun _ M3 c3 => ?_)
      have e := K M3 c3.1
      rw [if_pos hwk] at e
      rw [n_add]
      exact e
    · have hwk : wrk T r S n set = false := decide_eq_false hc
      refine WP.ie (by rw [nIz (by omega)]; exact hc) ?_
      repeat (first | ((with_reducible apply WP.ce); case h => (simp (disch := omega) only []; with_reducible rfl)) | ((with_reducible apply WP.bd); case h => (simp (disch := omega) only [e_gR, e_gI, e_aI, e_aL, e_oO, e_pI, e_wI, e_wL, Option.map_some, mS_sL, mR_sL, mI_sL, mS_sI, mR_sI, mL_sI, n_cl, ro_m hR2]; with_reducible rfl)) | rw [nm_eq] | rw [ckZ_n1] | rw [ckZ_n0])
      refine WP.cw (q_back hR0 c2.1) (fun _ M3 c3 => ?_)
      have e := K M3 c3.1
      rw [if_neg (by rw [hwk]; decide)] at e
      rw [n_add]
      exact e
  | succ d ih =>
    intro s f M hsd q hsc hh hw hr hv
    have hR := q.RI hR0
    have hT := q.T hT0
    have hw1 : mI M (m + 6) s = nI (sW S s) := by rw [(hw s (by omega)).1, if_neg (by omega)]
    have hp : mI M (m + 7) s = eP (sP S s) := (hw s (by omega)).2
    have a1 : f_X10_waits m (nI s) M = some (bI (wts S s), M) := by
      have hx : ixB (nI s) (tN T) = true := ixB_n (by omega) (by omega)
      have hb : ∀ t, sP S s = some t → t < 2 ^ 31 := sP_lt hs s
      simp (disch := omega) only [f_X10_waits, f_X10_waits_J22, f_X10_waits_J23, e_gR, e_gI, e_aI, e_aL, e_oO, e_pI, e_wI, e_wL, ro_m hR, Option.map_some, Option.bind_some, cl_some, nm_eq, ckZ_b, ckZ_n0, ckZ_n1, r_isShip hR hT hk, hx, bI_z, rr_passed hR, rx_passed hR, n_cl, hp]
      simp only [eP_none hb]
      unfold wts
      cases sP S s <;> simp [bI]
    rw [show f + (d + 1) + 1 = (f + d + 1) + 1 from by omega, f_X10_school_L75]
    repeat (first | ((with_reducible apply WP.ce); case h => (simp (disch := omega) only []; with_reducible rfl)) | ((with_reducible apply WP.bd); case h => (simp (disch := omega) only [e_gR, e_gI, e_aI, e_aL, e_oO, e_pI, e_wI, e_wL, Option.map_some, mS_sL, mR_sL, mI_sL, mS_sI, mR_sI, mL_sI, n_cl, ro_m hR, rr_scalar hR, rx_scalar hR, hT.1.2.2.2]; with_reducible rfl)) | rw [nm_eq] | rw [ckZ_n1] | rw [ckZ_n0])
    refine WP.ie (by rw [n_le (by omega) (by omega)]; omega) ?_
    have on : ∀ v : Nat, nI (sW S s) ||| nI v = nI (sW (tchS T S set) s) → WP (f_X10_school_J109 k41 (f_X10_school_L75 k41 m (f + d + 1)) m (nI n) w b (nI set) (nI s) (nI v) (nI (sW S s)) (nI s) (some (m + 6)) M) Q := by
      intro v hv2
      unfold f_X10_school_J109
      repeat (first | ((with_reducible apply WP.ce); case h => (simp (disch := omega) only []; with_reducible rfl)) | ((with_reducible apply WP.bd); case h => (simp (disch := omega) only [e_gR, e_gI, e_aI, e_aL, e_oO, e_pI, e_wI, e_wL, Option.map_some, mS_sL, mR_sL, mI_sL, mS_sI, mR_sI, mL_sI, n_cl, rx_knows hR]; with_reducible rfl)) | rw [nm_eq] | rw [ckZ_n1] | rw [ckZ_n0])
      rw [n_add, hv2]
      refine ih (s + 1) f _ (by omega) (q.w (by omega) _ _) ?_ ?_ (fun i hi => ⟨?_, ?_⟩) (ru_w hr _ (by omega) (by omega)) ((SX.w M (by omega) (by omega) _ _).ov hv)
      · rw [sI_row (by omega)]; exact hsc
      · rw [sI_row (by omega)]; exact hh
      · rw [mI_sI_s]
        by_cases e : i = s
        · subst e; rw [upd_s, if_pos (by omega)]
        · rw [upd_o _ _ e, (hw i hi).1]
          by_cases e2 : i < s
          · rw [if_pos e2, if_pos (by omega)]
          · rw [if_neg e2, if_neg (by omega)]
      · rw [sI_row (by omega)]; exact (hw i hi).2
    have ew : sW (tchS T S set) s = if wts S s then sW S s ||| set else sW S s := by
      show (if decide (s < tN T) && wts S s then sW S s ||| set else sW S s) = _
      rw [decide_eq_true (by omega), Bool.true_and]
    repeat (first | ((with_reducible apply WP.ce); case h => (simp (disch := omega) only [a1]; with_reducible rfl)) | ((with_reducible apply WP.bd); case h => (simp (disch := omega) only [e_gR, e_gI, e_aI, e_aL, e_oO, e_pI, e_wI, e_wL, Option.map_some, mS_sL, mR_sL, mI_sL, mS_sI, mR_sI, mL_sI, n_cl, ro_m hR, rr_knows hR, rx_knows hR, hw1]; with_reducible rfl)) | rw [nm_eq] | rw [ckZ_n1] | rw [ckZ_n0])
    refine WP.gd (fun e => ?_) (fun e => ?_)
    · refine on 0 ?_
      rw [n_or, ew, e, Nat.or_zero]; rfl
    · refine on set ?_
      rw [n_or, ew, e]; rfl
theorem x_schL {m : Nat} {M0 : Mem} {T : TD} {S : SC} {r : Option RD} (h : RE m M0 T S r) {n : Nat} (hn : n ≤ 60) {w : Int32} :
    ∀ d set f (M : Mem) (b : Option Nat), set + d = 2 ^ tJ T → RB m M0 M → (∀ x, b = some x → x < 256) →
    WP (f_X10_school_L41 m (f + d + 1) (nI n) w (eM2 b) (nI set) M) (fun v M' => v = scA (scF T r S n d set b) w ∧ RB m M0 M') := by
  have h0 := h
  obtain ⟨⟨hR0, hT0, hS0, hr0, hv0⟩, hk, hs, h9⟩ := h
  have h1 := hk.1.2.2.1
  have h2 := hk.1.2.2.2
  have h8 := pow8 h1
  intro d
  induction d with
  | zero =>
    intro set f M b hsd hB hb
    have hR := hB.1.RI hR0
    have hT := hB.1.T hT0
    rw [f_X10_school_L41]
    repeat (first | ((with_reducible apply WP.ce); case h => (simp (disch := omega) only []; with_reducible rfl)) | ((with_reducible apply WP.bd); case h => (simp (disch := omega) only [e_gR, e_gI, e_aI, e_aL, e_oO, e_pI, e_wI, e_wL, Option.map_some, mS_sL, mR_sL, mI_sL, mS_sI, mR_sI, mL_sI, n_cl, ro_m hR, rr_scalar hR, rx_scalar hR, hT.1.2.2.1]; with_reducible rfl)) | rw [nm_eq] | rw [ckZ_n1] | rw [ckZ_n0])
    refine WP.it (by rw [n_shl (by omega), n_le (by omega) (by omega)]; omega) ?_
    unfold f_X10_school_J157 f_X10_school_J165 scF scA
    cases b with
    | none => exact WP.it (show (-2 : Int32) = -2 from rfl) (WP.ret ⟨rfl, hB⟩)
    | some x =>
      have hx := hb x rfl
      have e0 : eM2 (some x) = nI x := rfl
      rw [e0]
      refine WP.ie (by rw [nI_m2 (by omega)]; exact fun h => h) ?_
      by_cases w1 : w = nI 1
      · exact WP.it w1 (WP.ret ⟨by show _ = if w = nI 1 then nI x else _; rw [if_pos w1], hB⟩)
      · refine WP.ie w1 ?_
        refine WP.ce (r_bits (x := x) (by omega) M) (WP.ret ⟨?_, hB⟩)
        show _ = if w = nI 1 then nI x else nI (btc x)
        rw [if_neg w1]; rfl
  | succ d ih =>
    intro set f M b hsd hB hb
    have hR := hB.1.RI hR0
    have hT := hB.1.T hT0
    have hQ := hB.rq hk hS0 hr0
    rw [show f + (d + 1) + 1 = (f + d + 1) + 1 from by omega, f_X10_school_L41]
    repeat (first | ((with_reducible apply WP.ce); case h => (simp (disch := omega) only []; with_reducible rfl)) | ((with_reducible apply WP.bd); case h => (simp (disch := omega) only [e_gR, e_gI, e_aI, e_aL, e_oO, e_pI, e_wI, e_wL, Option.map_some, mS_sL, mR_sL, mI_sL, mS_sI, mR_sI, mL_sI, n_cl, ro_m hR, rr_scalar hR, rx_scalar hR, hT.1.2.2.1]; with_reducible rfl)) | rw [nm_eq] | rw [ckZ_n1] | rw [ckZ_n0])
    refine WP.ie (by rw [n_shl (by omega), n_le (by omega) (by omega)]; omega) ?_
    have go : (b.elim true (fun x => decide (btc set < btc x))) = true → WP (f_X10_school_J72 (f_X10_school_L41 m (f + d + 1)) m (nI n) w (eM2 b) (nI set) M) (fun v M' => v = scA (scF T r S n (d + 1) set b) w ∧ RB m M0 M') := by
      intro hb1
      unfold f_X10_school_J72
      obtain ⟨f2, hf2⟩ := FUd (tN T) (by omega)
      rw [hf2]
      refine x_schI h0 hn (set := set) (by omega) (fun M' hB' => ?_) (tN T) 0 f2 M (by omega) hQ.1 hQ.2.1.1 hQ.2.1.2.1 (fun i hi => ⟨by rw [if_neg (by omega)]; exact (hQ.2.1.2.2 i hi).1, (hQ.2.1.2.2 i hi).2⟩) hQ.2.2.1 hQ.2.2.2
      have e := ih (set + 1) f M' (scN T r S n set b) (by omega) hB' (fun x hx => by
        unfold scN at hx
        split at hx
        · cases hx; omega
        · exact hb x hx)
      rw [scF]
      have e2 : eM2 (scN T r S n set b) = if wrk T r S n set then nI set else eM2 b := by
        unfold scN
        rw [hb1, Bool.true_and]
        split <;> rfl
      rw [e2] at e
      exact e
    cases b with
    | none => exact WP.it (show (-2 : Int32) = -2 from rfl) (go rfl)
    | some x =>
      have hx := hb x rfl
      have e0 : eM2 (some x) = nI x := rfl
      rw [e0] at go ⊢
      refine WP.ie (by rw [nI_m2 (by omega)]; exact fun h => h) ?_
      refine WP.ce (r_bits (x := set) (by omega) M) ?_
      refine WP.ce (r_bits (x := x) (by omega) M) ?_
      have c1 := btc_le set
      have c2 := btc_le x
      unfold btc at c1 c2
      by_cases hc : btc x ≤ btc set
      · refine WP.it (by rw [n_le (by omega) (by omega)]; exact hc) ?_
        unfold f_X10_school_J140
        rw [n_add, scF]
        have e2 : scN T r S n set (some x) = some x := by
          unfold scN
          have : (some x).elim true (fun x => decide (btc set < btc x)) = false := decide_eq_false (by omega)
          rw [this, Bool.false_and]; rfl
        rw [e2]
        exact ih (set + 1) f M (some x) (by omega) hB hb
      · refine WP.ie (by rw [n_le (by omega) (by omega)]; exact hc) (go ?_)
        exact decide_eq_true (by omega)
theorem x_school {m : Nat} {M0 : Mem} {T : TD} {S : SC} {r : Option RD} (h : RE m M0 T S r) (n w : Int32) : WP (f_X10_school m n w M0) (fun v M => v = q_school T r S n w ∧ RA m M0 M) := by
  have h0 := h
  obtain ⟨⟨hR, hT, hS, hr, hv⟩, hk, hs, h9⟩ := h
  have h8 := pow8 hk.1.2.2.1
  unfold f_X10_school f_X10_school_J29
  repeat (first | ((with_reducible apply WP.ce); case h => (simp (disch := omega) only [r_isBar hR hT hk]; with_reducible rfl)) | ((with_reducible apply WP.bd); case h => (simp (disch := omega) only [e_gR, e_gI, e_aI, e_aL, e_oO, e_pI, e_wI, e_wL, Option.map_some, mS_sL, mR_sL, mI_sL, mS_sI, mR_sI, mL_sI, n_cl, ro_m hR]; with_reducible rfl)) | rw [nm_eq] | rw [ckZ_n1] | rw [ckZ_n0])
  refine WP.gd (fun g1 => WP.ret ⟨by unfold q_school; rw [g1]; rfl, RA.rf m M0⟩) (fun g1 => ?_)
  repeat (first | ((with_reducible apply WP.ce); case h => (simp (disch := omega) only [in_160]; with_reducible rfl)) | ((with_reducible apply WP.bd); case h => (simp (disch := omega) only [e_gR, e_gI, e_aI, e_aL, e_oO, e_pI, e_wI, e_wL, Option.map_some, mS_sL, mR_sL, mI_sL, mS_sI, mR_sI, mL_sI, n_cl, ro_m hR]; with_reducible rfl)) | rw [nm_eq] | rw [ckZ_n1] | rw [ckZ_n0])
  refine WP.gd (fun g2 => WP.ret ⟨by unfold q_school; rw [g1, g2]; rfl, RA.rf m M0⟩) (fun g2 => ?_)
  repeat (first | ((with_reducible apply WP.ce); case h => (simp (disch := omega) only [in_01]; with_reducible rfl)) | ((with_reducible apply WP.bd); case h => (simp (disch := omega) only [e_gR, e_gI, e_aI, e_aL, e_oO, e_pI, e_wI, e_wL, Option.map_some, mS_sL, mR_sL, mI_sL, mS_sI, mR_sI, mL_sI, n_cl, ro_m hR]; with_reducible rfl)) | rw [nm_eq] | rw [ckZ_n1] | rw [ckZ_n0])
  refine WP.gd (fun g3 => WP.ret ⟨by unfold q_school; rw [g1, g2, g3]; rfl, RA.rf m M0⟩) (fun g3 => ?_)
  repeat (first | ((with_reducible apply WP.ce); case h => (simp (disch := omega) only []; with_reducible rfl)) | ((with_reducible apply WP.bd); case h => (simp (disch := omega) only [e_gR, e_gI, e_aI, e_aL, e_oO, e_pI, e_wI, e_wL, Option.map_some, mS_sL, mR_sL, mI_sL, mS_sI, mR_sI, mL_sI, n_cl, ro_m hR]; with_reducible rfl)) | rw [nm_eq] | rw [ckZ_n1] | rw [ckZ_n0])
  refine WP.cw (q_keeps hR hv) (fun _ M1 c1 => ?_)
  obtain ⟨k, rfl, -, k2, k3⟩ := inR_t g2 (by decide)
  obtain ⟨f, hf⟩ := FUd (2 ^ tJ T) (by omega)
  rw [hf]
  refine WP.mono (x_schL h0 (n := k) (by omega) (w := w) (2 ^ tJ T) 0 f M1 none (by omega) c1.1 (fun x hx => by cases hx)) (fun v M c => ⟨?_, Or.inr c.2⟩)
  rw [c.1]
  unfold q_school
  rw [g1, g2, g3, n_cl k3]
  rfl
