/-! NOTES; THE REFERENCE: ruled, look -/
abbrev ND : Type := Nat × (Nat → Nat) × (Nat → Nat) × (Nat → Option Nat)
def nC (D : ND) : Nat := D.1
def nT (D : ND) : Nat → Nat := D.2.1
def nS (D : ND) : Nat → Nat := D.2.2.1
def nJ (D : ND) : Nat → Option Nat := D.2.2.2
def NOk (T : TD) (D : ND) : Prop := nC D ≤ 10 ∧ ∀ i, i < nC D → nT D i ≤ 60 ∧ nS D i < tN T ∧ ∀ j, nJ D i = some j → j < tJ T
def RN (M : Mem) (m : Nat) (D : ND) : Prop := mI M (m + 1) 6 = nI (nC D) ∧ ∀ i, i < nC D → mI M (m + 8) i = nI (nT D i) ∧ mI M (m + 9) i = nI (nS D i) ∧ mI M (m + 10) i = eP (nJ D i)
def tl (T : TD) (r : Option RD) (n s : Nat) : Option Nat := tolds T r none (tides T r (bgS T) n) s
def ntB (T : TD) (r : Option RD) (D : ND) (i : Nat) : Bool := decide (tl T r (nT D i) (nS D i) = nJ D i)
def fit (T : TD) (r : Option RD) (D : ND) : Bool := (fs (fun i => !(ntB T r D i)) (nC D)).isNone
def rkO : Nat → Option Nat
  | 0 => none
  | k + 1 => some k
def rk (W : Nat → RD) (k : Nat) : Option RD := (rkO k).map W
theorem eP_inj {a b : Option Nat} (ha : ∀ t, a = some t → t < 2 ^ 31) (hb : ∀ t, b = some t → t < 2 ^ 31) : (eP a = eP b) = (a = b) := by
  cases a with
  | none =>
    cases b with
    | none => simp
    | some y =>
      have := nI_m1 (hb y rfl)
      rw [eq_iff_iff]
      exact ⟨fun h => (Eq.mp this h.symm).elim, fun h => by cases h⟩
  | some x =>
    cases b with
    | none =>
      have := nI_m1 (ha x rfl)
      rw [eq_iff_iff]
      exact ⟨fun h => (Eq.mp this h).elim, fun h => by cases h⟩
    | some y =>
      have := n_eq (ha x rfl) (hb y rfl)
      rw [eq_iff_iff]
      constructor
      · intro h
        have h : nI x = nI y := h
        rw [this] at h; rw [h]
      · intro h; rw [h]
theorem tl_lt {T : TD} {r : Option RD} {n s j : Nat} (h : tl T r n s = some j) : j < tJ T := (tld_lt (OvN T) h).1
theorem eP_rk (k : Nat) : eP (rkO k) + nI 1 = eP (rkO (k + 1)) := by
  cases k with
  | zero => decide
  | succ k => exact n_add k 1
theorem le_rk {c k : Nat} (hc : c ≤ 6) (hk : k ≤ 7) : (nI c ≤ eP (rkO k)) = (c + 1 ≤ k) := by
  cases k with
  | zero =>
    rw [eq_iff_iff]
    exact ⟨fun h => absurd h (nle_m1 (by omega)), fun h => by omega⟩
  | succ k =>
    show (nI c ≤ nI k) = _
    rw [n_le (by omega) (by omega), eq_iff_iff]
    omega
theorem rk_lt {c k : Nat} (h : k < c + 1) : ∀ i, rkO k = some i → i < c := by
  intro i hi
  cases k with
  | zero => cases hi
  | succ k => cases hi; omega
theorem RQ.w {m : Nat} {M0 M : Mem} {T : TD} {S : SC} {r : Option RD} {ov : Option (Nat × Option Nat)} (h : RQ m M0 M T S r ov) {a : Nat} (ha : m + 30 ≤ a ∧ a ≤ m + 34) (k : Nat) (v : Int32) : RQ m M0 (sI M a k v) T S r ov := by
  refine ⟨h.1.w (by omega) _ _, ?_, ru_w h.2.2.1 _ (by omega) (by omega), ?_⟩
  · unfold RS
    rw [sI_row (by omega), sI_row (by omega), sI_row (by omega), sI_row (by omega)]
    exact h.2.1
  · unfold ROv
    rw [sI_row (by omega)]
    exact h.2.2.2
theorem RB.w {m : Nat} {M0 M : Mem} (h : RB m M0 M) {a : Nat} (ha : m + 30 ≤ a ∧ a ≤ m + 34) (k : Nat) (v : Int32) : RB m M0 (sI M a k v) := by
  refine ⟨h.1.w (by omega) _ _, ?_, ?_⟩
  · unfold BK
    rw [sI_row (by omega), sI_row (by omega), sI_row (by omega), sI_row (by omega)]
    exact h.2.1
  · rw [sI_row (by omega)]; exact h.2.2
/-- what all tell, laid tide by tide -/
def LYn (m : Nat) (M : Mem) (T : TD) (r : Option RD) (N : Nat) : Prop := ∀ n s, n < N → s < tN T → mI M (m + 33) (5 * n + s) = eP (tl T r n s)
theorem x_couldN {m : Nat} {M0 M : Mem} {T : TD} {r : Option RD} {D : ND} (hk : TOk T) (hR0 : RIs (mS M0) (mR M0) m) (hB : RB m M0 M) (hN : RN M0 m D) (hD : NOk T D) (hL : LYn m M T r 61) :
    ∀ d i f, i + d = nC D → fs (fun i => !(ntB T r D i)) i = none → f_X10_couldRule_L66 m (f + d + 1) (nI i) M = some (bI (fit T r D), M) := by
  have h2 := hk.1.2.2.2
  have h1 := hk.1.2.2.1
  have hR := hB.1.RI hR0
  have h10 := hD.1
  have e6 : mI M (m + 1) 6 = nI (nC D) := by rw [hB.2.1.1 6 (by decide)]; exact hN.1
  have e8 : mI M (m + 8) = mI M0 (m + 8) := hB.1.2.1 _ (by omega)
  have e9 : mI M (m + 9) = mI M0 (m + 9) := hB.1.2.1 _ (by omega)
  have e10 : mI M (m + 10) = mI M0 (m + 10) := hB.1.2.1 _ (by omega)
  intro d
  induction d with
  | zero =>
    intro i f hi hf
    have hi : i = nC D := by omega
    subst hi
    rw [f_X10_couldRule_L66]
    repeat (first | ((with_reducible apply clt_t); case h => (simp (disch := omega) only [e6]; with_reducible rfl)) | ((with_reducible apply bnd_t); case h => (simp (disch := omega) only [e_gR, e_gI, e_aI, e_aL, e_oO, e_pI, e_wI, e_wL, Option.map_some, mS_sL, mR_sL, mI_sL, mS_sI, mR_sI, mL_sI, n_cl, ro_m hR, rr_scalar hR, rx_scalar hR, e6]; with_reducible rfl)) | rw [nm_eq])
    rw [if_pos (by rw [n_le (by omega) (by omega)]; omega)]
    unfold fit
    rw [hf]; rfl
  | succ d ih =>
    intro i f hi hf
    obtain ⟨n1, n2, n3⟩ := hN.2 i (by omega)
    obtain ⟨d1, d2, d3⟩ := hD.2 i (by omega)
    rw [← e8] at n1
    rw [← e9] at n2
    rw [← e10] at n3
    have hl := hL (nT D i) (nS D i) (by omega) d2
    rw [show f + (d + 1) + 1 = (f + d + 1) + 1 from by omega, f_X10_couldRule_L66]
    repeat (first | ((with_reducible apply clt_t); case h => (simp (disch := omega) only [e6]; with_reducible rfl)) | ((with_reducible apply bnd_t); case h => (simp (disch := omega) only [e_gR, e_gI, e_aI, e_aL, e_oO, e_pI, e_wI, e_wL, Option.map_some, mS_sL, mR_sL, mI_sL, mS_sI, mR_sI, mL_sI, n_cl, ro_m hR, rr_scalar hR, rx_scalar hR, e6]; with_reducible rfl)) | rw [nm_eq])
    rw [if_neg (by rw [n_le (by omega) (by omega)]; omega)]
    repeat (first | ((with_reducible apply clt_t); case h => (simp (disch := omega) only [e6]; with_reducible rfl)) | ((with_reducible apply bnd_t); case h => (simp (disch := omega) only [e_gR, e_gI, e_aI, e_aL, e_oO, e_pI, e_wI, e_wL, Option.map_some, mS_sL, mR_sL, mI_sL, mS_sI, mR_sI, mL_sI, n_cl, ro_m hR, rr_lay hR, rr_noteTide hR, rx_noteTide hR, rr_noteShip hR, rx_noteShip hR, rr_noteJoke hR, rx_noteJoke hR, n1, n2, n3, n_mul, n_add, rx_lay hR, hl]; with_reducible rfl)) | rw [nm_eq])
    have ee := eP_inj (a := tl T r (nT D i) (nS D i)) (b := nJ D i) (fun t ht => by have := tl_lt ht; omega) (fun t ht => by have := d3 t ht; omega)
    by_cases hc : tl T r (nT D i) (nS D i) = nJ D i
    · rw [if_pos (by rw [ee]; exact hc), n_add]
      exact ih (i + 1) f (by omega) (fs_no _ hf (by unfold ntB; rw [decide_eq_true hc]; rfl))
    · rw [if_neg (by rw [ee]; exact hc)]
      unfold fit
      rw [fs_up _ hf (by unfold ntB; rw [decide_eq_false hc]; rfl) (nC D) (by omega)]; rfl
theorem x_couldR {m c : Nat} {M0 M : Mem} {T : TD} {W : Nat → RD} {D : ND} (hk : TOk T) (hR0 : RIs (mS M0) (mR M0) m) (hT0 : RT M0 m T) (hw : RWs M0 m c W) (hN : RN M0 m D) (hD : NOk T D) {k : Nat} (hkc : k < c + 1) (hB : RB m M0 M) :
    WP (f_X10_couldRule m (eP (rkO k)) M) (fun v M' => v = bI (fit T (rk W k) D) ∧ RB m M0 M' ∧ LYn m M' T (rk W k) 61 ∧ mI M' (m + 34) = mI M (m + 34)) := by
  have h2 := hk.1.2.2.2
  have hR := hB.1.RI hR0
  have q1 := hB.1.w1 (k := 8) (by omega) (eP (rkO k))
  have hR1 := q1.RI hR0
  have h10 := hD.1
  -- the rows of a tide
  have row : ∀ (n : Nat) (hn : n ≤ 60) {k14 : Int32 → Mem → Option (Int32 × Mem)} {Q : Int32 → Mem → Prop} (S : SC), (∀ M', RQ m M0 M' T S (rk W k) none → LYn m M' T (rk W k) (n + 1) → mI M' (m + 34) = mI M (m + 34) → WP (k14 (nI (n + 1)) M') Q) →
      ∀ d s f (N : Mem), s + d = 5 → RQ m M0 N T S (rk W k) none → LYn m N T (rk W k) n → (∀ i, i < s → i < tN T → mI N (m + 33) (5 * n + i) = eP (tl T (rk W k) n i)) → (∀ i, i < tN T → mI N (m + 27) i = eP (tl T (rk W k) n i)) → mI N (m + 34) = mI M (m + 34) →
      WP (f_X10_couldRule_L27 k14 m (f + d + 1) (nI n) (nI s) N) Q := by
    intro n hn k14 Q S K d
    induction d with
    | zero =>
      intro s f N hs hq hl hr ht h34
      rw [f_X10_couldRule_L27]
      refine WP.it (by rw [n_le (by omega) (by omega)]; omega) ?_
      rw [n_add]
      refine K N hq (fun n' s' hn' hs' => ?_) h34
      by_cases e : n' < n
      · exact hl n' s' e hs'
      · have : n' = n := by omega
        subst this
        exact hr s' (by omega) hs'
    | succ d ih =>
      intro s f N hs hq hl hr ht h34
      have hRN := hq.1.RI hR0
      rw [show f + (d + 1) + 1 = (f + d + 1) + 1 from by omega, f_X10_couldRule_L27]
      refine WP.ie (by rw [n_le (by omega) (by omega)]; omega) ?_
      repeat (first | ((with_reducible apply WP.ce); case h => (simp (disch := omega) only []; with_reducible rfl)) | ((with_reducible apply WP.bd); case h => (simp (disch := omega) only [e_gR, e_gI, e_aI, e_aL, e_oO, e_pI, e_wI, e_wL, Option.map_some, mS_sL, mR_sL, mI_sL, mS_sI, mR_sI, mL_sI, n_cl, ro_m hRN, rr_lay hRN, rr_told hRN, rx_told hRN, n_mul, n_add, rx_lay hRN]; with_reducible rfl)) | rw [nm_eq] | rw [ckZ_n1] | rw [ckZ_n0])
      rw [n_add]
      refine ih (s + 1) f _ (by omega) (hq.w (by omega) _ _) (fun n' s' hn' hs' => ?_) (fun i hi hi5 => ?_) (fun i hi => ?_) (by rw [sI_row (by omega)]; exact h34)
      · rw [mI_sI, if_neg (by omega)]; exact hl n' s' hn' hs'
      · by_cases e : i = s
        · subst e; rw [mI_sI, if_pos ⟨rfl, rfl⟩]; exact ht i hi5
        · rw [mI_sI, if_neg (by omega)]; exact hr i (by omega) hi5
      · rw [sI_row (by omega)]; exact ht i hi
  have lp : ∀ d n f (N : Mem), n + d = 61 → RQ m M0 N T (tides T (rk W k) (bgS T) n) (rk W k) none → LYn m N T (rk W k) n → mI N (m + 34) = mI M (m + 34) → WP (f_X10_couldRule_L14 m (f + d + 1) (nI n) N) (fun v M' => v = bI (fit T (rk W k) D) ∧ RB m M0 M' ∧ LYn m M' T (rk W k) 61 ∧ mI M' (m + 34) = mI M (m + 34)) := by
    intro d
    induction d with
    | zero =>
      intro n f N hn hq hl h34
      have hRN := hq.1.RI hR0
      rw [f_X10_couldRule_L14]
      refine WP.it (by rw [n_lt (by omega) (by omega)]; omega) ?_
      repeat (first | ((with_reducible apply WP.ce); case h => (simp (disch := omega) only []; with_reducible rfl)) | ((with_reducible apply WP.bd); case h => (simp (disch := omega) only [e_gR, e_gI, e_aI, e_aL, e_oO, e_pI, e_wI, e_wL, Option.map_some, mS_sL, mR_sL, mI_sL, mS_sI, mR_sI, mL_sI, n_cl, ro_m hRN]; with_reducible rfl)) | rw [nm_eq] | rw [ckZ_n1] | rw [ckZ_n0])
      refine WP.cw (q_back hR0 hq) (fun _ M3 c3 => ?_)
      have hn : n = 61 := by omega
      subst hn
      have l3 : LYn m M3 T (rk W k) 61 := fun n s hn hs => by rw [c3.2.2.2 33 (by omega) (by omega)]; exact hl n s hn hs
      obtain ⟨f2, hf2⟩ := FUd (nC D) (by omega)
      rw [hf2]
      exact WP.of (x_couldN hk hR0 c3.1 hN hD l3 (nC D) 0 f2 (by omega) rfl) ⟨rfl, c3.1, l3, by rw [c3.2.2.2 34 (by omega) (by omega)]; exact h34⟩
    | succ d ih =>
      intro n f N hn hq hl h34
      have hRN := hq.1.RI hR0
      have z0 : sT (bgS T) = 0 := rfl
      rw [show f + (d + 1) + 1 = (f + d + 1) + 1 from by omega, f_X10_couldRule_L14]
      refine WP.ie (by rw [n_lt (by omega) (by omega)]; omega) ?_
      repeat (first | ((with_reducible apply WP.ce); case h => (simp (disch := omega) only []; with_reducible rfl)) | ((with_reducible apply WP.bd); case h => (simp (disch := omega) only [e_gR, e_gI, e_aI, e_aL, e_oO, e_pI, e_wI, e_wL, Option.map_some, mS_sL, mR_sL, mI_sL, mS_sI, mR_sI, mL_sI, n_cl, ro_m hRN]; with_reducible rfl)) | rw [nm_eq] | rw [ckZ_n1] | rw [ckZ_n0])
      refine WP.cw (q_goes hk (tides_ok (bgS_ok hk) n (by omega)) (OvN T) OvN5 hR0 hT0 hq) (fun v M1 c1 => ?_)
      obtain ⟨-, c2, c3, c4⟩ := c1
      obtain ⟨f2, hf2⟩ := FUd 5 (by omega)
      rw [hf2]
      refine row n (by omega) (tides T (rk W k) (bgS T) (n + 1)) (fun M' hq' hl' h34' => ih (n + 1) f M' (by omega) hq' hl' h34') 5 0 f2 M1 (by omega) c2 (fun n' s' hn' hs' => ?_) (fun i hi => absurd hi (Nat.not_lt_zero i)) c4 ?_
      · rw [c3.2.2 33 (by omega) (by omega)]; exact hl n' s' hn' hs'
      · rw [c3.2.2 34 (by omega) (by omega)]; exact h34
  unfold f_X10_couldRule
  repeat (first | ((with_reducible apply WP.ce); case h => (simp (disch := omega) only []; with_reducible rfl)) | ((with_reducible apply WP.bd); case h => (simp (disch := omega) only [e_gR, e_gI, e_aI, e_aL, e_oO, e_pI, e_wI, e_wL, Option.map_some, mS_sL, mR_sL, mI_sL, mS_sI, mR_sI, mL_sI, n_cl, ro_m hR, rr_scalar hR, rx_scalar hR]; with_reducible rfl)) | rw [nm_eq] | rw [ckZ_n1] | rw [ckZ_n0])
  refine WP.cw (q_begin hk hR0 hT0 hw (rk_lt hkc) q1 (by rw [sI_row (by omega)]; exact hB.2.2) (by rw [mI_sI, if_pos ⟨rfl, rfl⟩])) (fun _ M2 c2 => ?_)
  obtain ⟨f, hf⟩ := FUd 61 (by omega)
  rw [hf]
  exact lp 61 0 f M2 (by omega) c2.1 (fun n s hn => absurd hn (Nat.not_lt_zero n)) (by rw [c2.2.2.2 34 (by omega) (by omega), sI_row (by omega)])
theorem ctb_fs (p : Nat → Bool) : ∀ n, (ctb p n = 0) = (fs p n = none)
  | 0 => by simp [ctb, fs]
  | n + 1 => by
    have ih := ctb_fs p n
    rw [ctb, fs]
    cases hf : fs p n with
    | none =>
      have : ctb p n = 0 := by rw [ih]; exact hf
      rw [this]
      cases hp : p n <;> simp
    | some x =>
      have : ctb p n ≠ 0 := fun z => by rw [ih, hf] at z; cases z
      rw [eq_iff_iff]
      constructor
      · intro z; omega
      · intro z; simp at z
theorem fs_st {p : Nat → Bool} {n : Nat} (hp : p n = true) : fs p (n + 1) = if ctb p n = 0 then some n else fs p n := by
  have e := ctb_fs p n
  cases hf : fs p n with
  | none =>
    have : ctb p n = 0 := by rw [e]; exact hf
    rw [if_pos this, fs, hf, hp]; rfl
  | some x =>
    have : ctb p n ≠ 0 := fun z => by rw [e, hf] at z; cases z
    rw [if_neg this, fs, hf]; rfl
def rdA (F : Nat → Bool) (k : Nat) : Int32 := (fs F k).elim (-2) (fun i => eP (rkO i))
def FT (T : TD) (W : Nat → RD) (D : ND) : Nat → Bool := fun k => fit T (rk W k) D
def q_ruled (T : TD) (c : Nat) (W : Nat → RD) (D : ND) (w : Int32) : Int32 :=
  if isB T && inR w 0 1 then (if w = 0 then nI (ctb (FT T W D) (c + 1)) else rdA (FT T W D) (c + 1)) else -3
theorem x_ruledL {m c : Nat} {M0 : Mem} {T : TD} {W : Nat → RD} {D : ND} (hk : TOk T) (hR0 : RIs (mS M0) (mR M0) m) (hT0 : RT M0 m T) (hw : RWs M0 m c W) (hN : RN M0 m D) (hD : NOk T D) {w : Int32} :
    ∀ d k f (M : Mem), k + d = c + 1 → RB m M0 M → WP (f_X10_ruled_L32 m (f + d + 1) w (nI (ctb (FT T W D) k)) (rdA (FT T W D) k) (eP (rkO k)) M) (fun v M' => v = (if w = 0 then nI (ctb (FT T W D) (c + 1)) else rdA (FT T W D) (c + 1)) ∧ RB m M0 M') := by
  have h6 := hw.1
  intro d
  induction d with
  | zero =>
    intro k f M hkd hB
    have hR := hB.1.RI hR0
    have e21 := (hB.1.rws hw).2.1
    have hkd : k = c + 1 := by omega
    subst hkd
    rw [f_X10_ruled_L32]
    repeat (first | ((with_reducible apply WP.ce); case h => (simp (disch := omega) only []; with_reducible rfl)) | ((with_reducible apply WP.bd); case h => (simp (disch := omega) only [e_gR, e_gI, e_aI, e_aL, e_oO, e_pI, e_wI, e_wL, Option.map_some, mS_sL, mR_sL, mI_sL, mS_sI, mR_sI, mL_sI, n_cl, ro_m hR, e21]; with_reducible rfl)) | rw [nm_eq] | rw [ckZ_n1] | rw [ckZ_n0])
    refine WP.it (by rw [le_rk h6 (by omega)]; omega) ?_
    unfold f_X10_ruled_J79
    by_cases w0 : w = 0
    · exact WP.it w0 (WP.ret ⟨by rw [if_pos w0], hB⟩)
    · exact WP.ie w0 (WP.ret ⟨by rw [if_neg w0], hB⟩)
  | succ d ih =>
    intro k f M hkd hB
    have hR := hB.1.RI hR0
    have e21 := (hB.1.rws hw).2.1
    have hcl := ctb_le (FT T W D) k
    rw [show f + (d + 1) + 1 = (f + d + 1) + 1 from by omega, f_X10_ruled_L32]
    repeat (first | ((with_reducible apply WP.ce); case h => (simp (disch := omega) only []; with_reducible rfl)) | ((with_reducible apply WP.bd); case h => (simp (disch := omega) only [e_gR, e_gI, e_aI, e_aL, e_oO, e_pI, e_wI, e_wL, Option.map_some, mS_sL, mR_sL, mI_sL, mS_sI, mR_sI, mL_sI, n_cl, ro_m hR, e21]; with_reducible rfl)) | rw [nm_eq] | rw [ckZ_n1] | rw [ckZ_n0])
    refine WP.ie (by rw [le_rk h6 (by omega)]; omega) ?_
    repeat (first | ((with_reducible apply WP.ce); case h => (simp (disch := omega) only []; with_reducible rfl)) | ((with_reducible apply WP.bd); case h => (simp (disch := omega) only [e_gR, e_gI, e_aI, e_aL, e_oO, e_pI, e_wI, e_wL, Option.map_some, mS_sL, mR_sL, mI_sL, mS_sI, mR_sI, mL_sI, n_cl, ro_m hR]; with_reducible rfl)) | rw [nm_eq] | rw [ckZ_n1] | rw [ckZ_n0])
    refine WP.cw (x_couldR hk hR0 hT0 hw hN hD (k := k) (by omega) hB) (fun v M1 c1 => ?_)
    obtain ⟨rfl, c2, c3, c4⟩ := c1
    unfold f_X10_ruled_J60 f_X10_ruled_J64
    rw [eP_rk, n_add]
    refine WP.gd (fun g => ?_) (fun g => ?_)
    · have e := ih (k + 1) f M1 (by omega) c2
      have g' : FT T W D k = false := g
      have e1 : ctb (FT T W D) (k + 1) = ctb (FT T W D) k := by rw [ctb, g', if_neg (by decide)]; rfl
      have e2 : rdA (FT T W D) (k + 1) = rdA (FT T W D) k := by
        unfold rdA
        have : fs (FT T W D) (k + 1) = fs (FT T W D) k := by
          rw [fs, g']
          cases fs (FT T W D) k <;> rfl
        rw [this]
      rw [e1, e2] at e
      exact e
    · have e := ih (k + 1) f M1 (by omega) c2
      have g' : FT T W D k = true := g
      have e1 : ctb (FT T W D) (k + 1) = ctb (FT T W D) k + 1 := by rw [ctb, g', if_pos rfl]
      rw [e1] at e
      by_cases z : ctb (FT T W D) k = 0
      · refine WP.it (by rw [z]; rfl) ?_
        have e2 : rdA (FT T W D) (k + 1) = eP (rkO k) := by unfold rdA; rw [fs_st g', if_pos z]; rfl
        rw [e2] at e
        exact e
      · refine WP.ie (by rw [nIz (by omega)]; exact z) ?_
        have e2 : rdA (FT T W D) (k + 1) = rdA (FT T W D) k := by unfold rdA; rw [fs_st g', if_neg z]
        rw [e2] at e
        exact e
theorem x_ruled {m c : Nat} {M0 : Mem} {T : TD} {S : SC} {r : Option RD} {W : Nat → RD} {D : ND} (h : RE m M0 T S r) (hw : RWs M0 m c W) (hN : RN M0 m D) (hD : NOk T D) (w : Int32) : WP (f_X10_ruled m w M0) (fun v M => v = q_ruled T c W D w ∧ RA m M0 M) := by
  obtain ⟨⟨hR, hT, hS, hr, hv⟩, hk, hs, h9⟩ := h
  have h6 := hw.1
  unfold f_X10_ruled f_X10_ruled_J17
  repeat (first | ((with_reducible apply WP.ce); case h => (simp (disch := omega) only [r_isBar hR hT hk]; with_reducible rfl)) | ((with_reducible apply WP.bd); case h => (simp (disch := omega) only [e_gR, e_gI, e_aI, e_aL, e_oO, e_pI, e_wI, e_wL, Option.map_some, mS_sL, mR_sL, mI_sL, mS_sI, mR_sI, mL_sI, n_cl, ro_m hR]; with_reducible rfl)) | rw [nm_eq] | rw [ckZ_n1] | rw [ckZ_n0])
  refine WP.gd (fun g1 => WP.ret ⟨by unfold q_ruled; rw [g1]; rfl, RA.rf m M0⟩) (fun g1 => ?_)
  repeat (first | ((with_reducible apply WP.ce); case h => (simp (disch := omega) only [in_01]; with_reducible rfl)) | ((with_reducible apply WP.bd); case h => (simp (disch := omega) only [e_gR, e_gI, e_aI, e_aL, e_oO, e_pI, e_wI, e_wL, Option.map_some, mS_sL, mR_sL, mI_sL, mS_sI, mR_sI, mL_sI, n_cl, ro_m hR]; with_reducible rfl)) | rw [nm_eq] | rw [ckZ_n1] | rw [ckZ_n0])
  refine WP.gd (fun g2 => WP.ret ⟨by unfold q_ruled; rw [g1, g2]; rfl, RA.rf m M0⟩) (fun g2 => ?_)
  repeat (first | ((with_reducible apply WP.ce); case h => (simp (disch := omega) only []; with_reducible rfl)) | ((with_reducible apply WP.bd); case h => (simp (disch := omega) only [e_gR, e_gI, e_aI, e_aL, e_oO, e_pI, e_wI, e_wL, Option.map_some, mS_sL, mR_sL, mI_sL, mS_sI, mR_sI, mL_sI, n_cl, ro_m hR]; with_reducible rfl)) | rw [nm_eq] | rw [ckZ_n1] | rw [ckZ_n0])
  refine WP.cw (q_keeps hR hv) (fun _ M1 c1 => ?_)
  obtain ⟨f, hf⟩ := FUd (c + 1) (by omega)
  rw [hf]
  refine WP.mono (x_ruledL hk hR hT hw hN hD (w := w) (c + 1) 0 f M1 (by omega) c1.1) (fun v M c => ⟨?_, Or.inr c.2⟩)
  rw [c.1]
  unfold q_ruled
  rw [g1, g2]
  rfl
