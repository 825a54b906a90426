/-! THE REFERENCE: look -/
def sam (F : Nat → Bool) (V : Nat → Nat → Option Nat) (N k s : Nat) : Nat := ctb (fun i => F i && decide (V i s = V k s)) N
def mst (F : Nat → Bool) (V : Nat → Nat → Option Nat) (N s : Nat) : Nat := mxn (fun k => if F k then sam F V N k s else 0) N
def lkS (F : Nat → Bool) (V : Nat → Nat → Option Nat) (N : Nat) : Nat → Nat
  | 0 => 0
  | s + 1 => if mst F V N s < mst F V N (lkS F V N s) then s else lkS F V N s
theorem lkS_lt (F : Nat → Bool) (V : Nat → Nat → Option Nat) (N : Nat) : ∀ s, 0 < s → lkS F V N s < s
  | 0, h => absurd h (Nat.lt_irrefl 0)
  | s + 1, _ => by
    rw [lkS]
    split
    · omega
    · by_cases h : 0 < s
      · have := lkS_lt F V N s h; omega
      · have : s = 0 := by omega
        subst this
        show 0 < 1
        decide
theorem sam_le (F : Nat → Bool) (V : Nat → Nat → Option Nat) (N k s : Nat) : sam F V N k s ≤ N := ctb_le _ _
theorem mst_le (F : Nat → Bool) (V : Nat → Nat → Option Nat) (N s : Nat) : mst F V N s ≤ N := mxn_le (fun k _ => by
  by_cases h : F k = true
  · rw [if_pos h]; exact sam_le F V N k s
  · rw [if_neg h]; omega)
def VT (T : TD) (W : Nat → RD) (n : Nat) : Nat → Nat → Option Nat := fun k s => tl T (rk W k) n s
def q_look (T : TD) (c : Nat) (W : Nat → RD) (D : ND) (n w : Int32) : Int32 :=
  if isB T && inR n 0 60 && inR w 0 1 then
    (if ctb (FT T W D) (c + 1) = 0 ∨ tN T = 0 then -2
     else if w = 0 then nI (lkS (FT T W D) (VT T W n.toNatClampNeg) (c + 1) (tN T)) else nI (mst (FT T W D) (VT T W n.toNatClampNeg) (c + 1) (lkS (FT T W D) (VT T W n.toNatClampNeg) (c + 1) (tN T))))
  else -1
/-- of those that are so, what each tells, laid without gaps -/
def SHw (m : Nat) (M : Mem) (F : Nat → Bool) (V : Nat → Nat → Option Nat) (ns N : Nat) : Prop := ∀ k s, k < N → F k = true → s < ns → mI M (m + 34) (5 * ctb F k + s) = eP (V k s)
theorem ctb_f {p : Nat → Bool} {n : Nat} (h : p n = false) : ctb p (n + 1) = ctb p n := by rw [ctb, h, if_neg (by decide)]; rfl
theorem ctb_t {p : Nat → Bool} {n : Nat} (h : p n = true) : ctb p (n + 1) = ctb p n + 1 := by rw [ctb, h, if_pos rfl]
theorem ctb_up (p : Nat → Bool) (n : Nat) : ∀ d, ctb p n ≤ ctb p (n + d)
  | 0 => Nat.le_refl _
  | d + 1 => Nat.le_trans (ctb_up p n d) (by rw [← Nat.add_assoc, ctb]; omega)
theorem x_mostI {m : Nat} {M : Mem} {F : Nat → Bool} {V : Nat → Nat → Option Nat} {ns N s k : Nat} (hR : RIs (mS M) (mR M) m) (hN : N ≤ 7) (hs : s < ns) (hns : ns ≤ 5) (hk : k < N) (hFk : F k = true) (hV : ∀ i t x, V i t = some x → x < 2 ^ 31) (hsh : SHw m M F V ns N) {mx : Nat} (hmx : mx ≤ N) {k5 : Int32 → Int32 → Int32 → Int32 → Mem → Option (Int32 × Mem)} :
    ∀ d i f, i + d = N → f_X10_mostAlike_L17 k5 m (f + d + 1) (nI s) (nI (ctb F N)) (nI mx) (nI (ctb F k)) (nI (sam F V i k s)) (nI (ctb F i)) M = k5 (nI s) (nI (ctb F N)) (nI (if mx < sam F V N k s then sam F V N k s else mx)) (nI (ctb F k + 1)) M := by
  have hcN := ctb_le F N
  have hck := ctb_le F k
  intro d
  induction d with
  | zero =>
    intro i f hi
    have hi : i = N := by omega
    subst hi
    have h1 := sam_le F V i k s
    rw [f_X10_mostAlike_L17, if_pos (by rw [n_le (by omega) (by omega)]; omega)]
    unfold f_X10_mostAlike_J76
    rw [n_add]
    by_cases hc : mx < sam F V i k s
    · rw [if_neg (by rw [n_le (by omega) (by omega)]; omega), if_pos hc]
    · rw [if_pos (by rw [n_le (by omega) (by omega)]; omega), if_neg hc]
  | succ d ih =>
    intro i f hi
    have h1 : sam F V i k s ≤ i := ctb_le _ _
    cases hF : F i with
    | false =>
      have e := ih (i + 1) (f + 1) (by omega)
      have e1 : sam F V (i + 1) k s = sam F V i k s := ctb_f (by show (F i && _) = false; rw [hF, Bool.false_and])
      rw [e1, ctb_f hF] at e
      rw [show f + (d + 1) + 1 = f + 1 + d + 1 by omega]
      exact e
    | true =>
      have hci := ctb_le F i
      have hup := ctb_up F (i + 1) d
      rw [show i + 1 + d = N by omega, ctb_t hF] at hup
      have v1 := hsh i s (by omega) hF hs
      have v2 := hsh k s hk hFk hs
      have ih2 := ih (i + 1) f (by omega)
      rw [ctb_t hF] at ih2
      rw [show f + (d + 1) + 1 = (f + d + 1) + 1 from by omega, f_X10_mostAlike_L17, if_neg (by rw [n_le (by omega) (by omega)]; omega)]
      repeat (first | ((with_reducible apply clt_t); case h => (simp (disch := omega) only [hR]; with_reducible rfl)) | ((with_reducible apply bnd_t); case h => (simp (disch := omega) only [e_gR, e_gI, e_aI, e_aL, e_oO, e_pI, e_wI, e_wL, Option.map_some, mS_sL, mR_sL, mI_sL, mS_sI, mR_sI, mL_sI, n_cl, ro_m hR, rr_shows hR, n_mul, n_add, rx_shows hR, v1, v2]; with_reducible rfl)) | rw [nm_eq])
      unfold f_X10_mostAlike_J55
      rw [nm_eq, nm_eq, n_add, n_add, n_add]
      have ee := eP_inj (a := V i s) (b := V k s) (hV i s) (hV k s)
      by_cases hc : V i s = V k s
      · rw [if_pos (by rw [ee]; exact hc)]
        have e1 : sam F V (i + 1) k s = sam F V i k s + 1 := ctb_t (by show (F i && decide (V i s = V k s)) = true; rw [hF, decide_eq_true hc]; rfl)
        rw [e1] at ih2
        exact ih2
      · rw [if_neg (by rw [ee]; exact hc)]
        have e1 : sam F V (i + 1) k s = sam F V i k s := ctb_f (by show (F i && decide (V i s = V k s)) = false; rw [decide_eq_false hc, Bool.and_false])
        rw [e1] at ih2
        exact ih2
theorem x_most {m : Nat} {M : Mem} {F : Nat → Bool} {V : Nat → Nat → Option Nat} {ns N s : Nat} (hR : RIs (mS M) (mR M) m) (hN : N ≤ 7) (hs : s < ns) (hns : ns ≤ 5) (hV : ∀ i t x, V i t = some x → x < 2 ^ 31) (hsh : SHw m M F V ns N) : f_X10_mostAlike m (nI s) (nI (ctb F N)) M = some (nI (mst F V N s), M) := by
  have hcN := ctb_le F N
  have lp : ∀ d k f, k + d = N → f_X10_mostAlike_L5 m (f + d + 1) (nI s) (nI (ctb F N)) (nI (mxn (fun k => if F k then sam F V N k s else 0) k)) (nI (ctb F k)) M = some (nI (mst F V N s), M) := by
    intro d
    induction d with
    | zero =>
      intro k f hk
      have hk : k = N := by omega
      subst hk
      rw [f_X10_mostAlike_L5, if_pos (by rw [n_le (by omega) (by omega)]; omega)]
      rfl
    | succ d ih =>
      intro k f hk
      cases hF : F k with
      | false =>
        have e := ih (k + 1) (f + 1) (by omega)
        have e1 : mxn (fun k => if F k then sam F V N k s else 0) (k + 1) = mxn (fun k => if F k then sam F V N k s else 0) k := by
          rw [mxn, hF]
          rw [if_neg (by simp)]
        rw [e1, ctb_f hF] at e
        rw [show f + (d + 1) + 1 = f + 1 + d + 1 by omega]
        exact e
      | true =>
        have hck := ctb_le F k
        have hup := ctb_up F (k + 1) d
        rw [show k + 1 + d = N by omega, ctb_t hF] at hup
        have hmx : mxn (fun k => if F k then sam F V N k s else 0) k ≤ N := mxn_le (fun i _ => by
          by_cases h : F i = true
          · simp only [h, if_true]; exact sam_le F V N i s
          · simp [h])
        obtain ⟨f2, hf2⟩ := FUd N (by omega)
        have e := x_mostI hR hN hs hns (k := k) (by omega) hF hV hsh hmx (k5 := f_X10_mostAlike_L5 m (f + d + 1)) N 0 f2 (by omega)
        have ih2 := ih (k + 1) f (by omega)
        have e1 : mxn (fun k => if F k then sam F V N k s else 0) (k + 1) = if mxn (fun k => if F k then sam F V N k s else 0) k < sam F V N k s then sam F V N k s else mxn (fun k => if F k then sam F V N k s else 0) k := by
          rw [mxn, hF]; simp only [if_true]
        rw [e1, ctb_t hF] at ih2
        rw [show f + (d + 1) + 1 = (f + d + 1) + 1 from by omega, f_X10_mostAlike_L5, if_neg (by rw [n_le (by omega) (by omega)]; omega), hf2]
        exact e.trans ih2
  obtain ⟨f, hf⟩ := FUd N (by omega)
  rw [f_X10_mostAlike, hf]
  exact lp N 0 f (by omega)
theorem x_lookS {m c : Nat} {M0 M : Mem} {T : TD} {W : Nat → RD} {F : Nat → Bool} {V : Nat → Nat → Option Nat} (hk : TOk T) (hR0 : RIs (mS M0) (mR M0) m) (hT0 : RT M0 m T) (hw : RWs M0 m c W) (hB : RB m M0 M) (hV : ∀ i t x, V i t = some x → x < 2 ^ 31) (hsh : SHw m M F V (tN T) (c + 1)) {w : Int32} (h0 : 0 < tN T) :
    ∀ d s f, s + d = tN T → 0 < s → f_X10_look_L126 m (f + d + 1) w (nI (ctb F (c + 1))) (nI (lkS F V (c + 1) s)) (nI s) M = some (if w = 0 then nI (lkS F V (c + 1) (tN T)) else nI (mst F V (c + 1) (lkS F V (c + 1) (tN T))), M) := by
  have h6 := hw.1
  have h2 := hk.1.2.2.2
  have hR := hB.1.RI hR0
  have hT := hB.1.T hT0
  intro d
  induction d with
  | zero =>
    intro s f hs hs0
    have hs : s = tN T := by omega
    subst hs
    have hl := lkS_lt F V (c + 1) (tN T) h0
    have a1 := x_most hR (N := c + 1) (by omega) hl h2 hV hsh
    rw [f_X10_look_L126]
    repeat (first | ((with_reducible apply clt_t); case h => (simp (disch := omega) only [hR]; with_reducible rfl)) | ((with_reducible apply bnd_t); case h => (simp (disch := omega) only [e_gR, e_gI, e_aI, e_aL, e_oO, e_pI, e_wI, e_wL, Option.map_some, mS_sL, mR_sL, mI_sL, mS_sI, mR_sI, mL_sI, n_cl, ro_m hR, rr_scalar hR, rx_scalar hR, hT.1.2.2.2]; with_reducible rfl)) | rw [nm_eq])
    rw [if_pos (by rw [n_le (by omega) (by omega)]; omega)]
    unfold f_X10_look_J185
    by_cases w0 : w = 0
    · rw [if_pos w0, if_pos w0]
    · rw [if_neg w0, if_neg w0]
      repeat (first | ((with_reducible apply clt_t); case h => (simp (disch := omega) only [a1]; with_reducible rfl)) | ((with_reducible apply bnd_t); case h => (simp (disch := omega) only [e_gR, e_gI, e_aI, e_aL, e_oO, e_pI, e_wI, e_wL, Option.map_some, mS_sL, mR_sL, mI_sL, mS_sI, mR_sI, mL_sI, n_cl, ro_m hR]; with_reducible rfl)) | rw [nm_eq])
      rfl
  | succ d ih =>
    intro s f hs hs0
    have hl := lkS_lt F V (c + 1) s hs0
    have a1 := x_most hR (N := c + 1) (s := lkS F V (c + 1) s) (by omega) (by omega) h2 hV hsh
    have a2 := x_most hR (N := c + 1) (s := s) (by omega) (by omega) h2 hV hsh
    have m1 := mst_le F V (c + 1) s
    have m2 := mst_le F V (c + 1) (lkS F V (c + 1) s)
    have ih2 := ih (s + 1) f (by omega) (by omega)
    rw [lkS] at ih2
    rw [show f + (d + 1) + 1 = (f + d + 1) + 1 from by omega, f_X10_look_L126]
    repeat (first | ((with_reducible apply clt_t); case h => (simp (disch := omega) only [hR]; with_reducible rfl)) | ((with_reducible apply bnd_t); case h => (simp (disch := omega) only [e_gR, e_gI, e_aI, e_aL, e_oO, e_pI, e_wI, e_wL, Option.map_some, mS_sL, mR_sL, mI_sL, mS_sI, mR_sI, mL_sI, n_cl, ro_m hR, rr_scalar hR, rx_scalar hR, hT.1.2.2.2]; with_reducible rfl)) | rw [nm_eq])
    rw [if_neg (by rw [n_le (by omega) (by omega)]; omega)]
    repeat (first | ((with_reducible apply clt_t); case h => (simp (disch := omega) only [a2]; with_reducible rfl)) | ((with_reducible apply bnd_t); case h => (simp (disch := omega) only [e_gR, e_gI, e_aI, e_aL, e_oO, e_pI, e_wI, e_wL, Option.map_some, mS_sL, mR_sL, mI_sL, mS_sI, mR_sI, mL_sI, n_cl, ro_m hR]; with_reducible rfl)) | rw [nm_eq])
    repeat (first | ((with_reducible apply clt_t); case h => (simp (disch := omega) only [a1]; with_reducible rfl)) | ((with_reducible apply bnd_t); case h => (simp (disch := omega) only [e_gR, e_gI, e_aI, e_aL, e_oO, e_pI, e_wI, e_wL, Option.map_some, mS_sL, mR_sL, mI_sL, mS_sI, mR_sI, mL_sI, n_cl, ro_m hR]; with_reducible rfl)) | rw [nm_eq])
    unfold f_X10_look_J161
    rw [n_add]
    by_cases hc : mst F V (c + 1) s < mst F V (c + 1) (lkS F V (c + 1) s)
    · rw [if_neg (by rw [n_le (by omega) (by omega)]; omega)]
      rw [if_pos hc] at ih2
      exact ih2
    · rw [if_pos (by rw [n_le (by omega) (by omega)]; omega)]
      rw [if_neg hc] at ih2
      exact ih2
theorem x_lookL {m c : Nat} {M0 : Mem} {T : TD} {W : Nat → RD} {D : ND} (hk : TOk T) (hR0 : RIs (mS M0) (mR M0) m) (hT0 : RT M0 m T) (hw : RWs M0 m c W) (hN : RN M0 m D) (hD : NOk T D) {n : Nat} (hn : n ≤ 60) {w : Int32} :
    ∀ d k f (M : Mem), k + d = c + 1 → RB m M0 M → SHw m M (FT T W D) (VT T W n) (tN T) k → WP (f_X10_look_L40 m (f + d + 1) (nI n) w (nI (ctb (FT T W D) k)) (eP (rkO k)) M) (fun v M' => v = (if ctb (FT T W D) (c + 1) = 0 ∨ tN T = 0 then -2 else if w = 0 then nI (lkS (FT T W D) (VT T W n) (c + 1) (tN T)) else nI (mst (FT T W D) (VT T W n) (c + 1) (lkS (FT T W D) (VT T W n) (c + 1) (tN T)))) ∧ RB m M0 M') := by
  have h6 := hw.1
  have h1 := hk.1.2.2.1
  have h2 := hk.1.2.2.2
  have hV : ∀ i t x, VT T W n i t = some x → x < 2 ^ 31 := fun i t x hx => by have := tl_lt hx; omega
  intro d
  induction d with
  | zero =>
    intro k f M hkd hB hsh
    have hR := hB.1.RI hR0
    have hT := hB.1.T hT0
    have e21 := (hB.1.rws hw).2.1
    have hkd : k = c + 1 := by omega
    subst hkd
    have hcl := ctb_le (FT T W D) (c + 1)
    rw [f_X10_look_L40]
    repeat (first | ((with_reducible apply WP.ce); case h => (simp (disch := omega) only []; with_reducible rfl)) | ((with_reducible apply WP.bd); case h => (simp (disch := omega) only [e_gR, e_gI, e_aI, e_aL, e_oO, e_pI, e_wI, e_wL, Option.map_some, mS_sL, mR_sL, mI_sL, mS_sI, mR_sI, mL_sI, n_cl, ro_m hR, e21]; with_reducible rfl)) | rw [nm_eq] | rw [ckZ_n1] | rw [ckZ_n0])
    refine WP.it (by rw [le_rk h6 (by omega)]; omega) ?_
    unfold f_X10_look_J117
    by_cases z : ctb (FT T W D) (c + 1) = 0
    · exact WP.it (by rw [z]; rfl) (WP.ret ⟨by rw [if_pos (Or.inl z)], hB⟩)
    · refine WP.ie (by rw [nIz (by omega)]; exact z) ?_
      repeat (first | ((with_reducible apply WP.ce); case h => (simp (disch := omega) only []; with_reducible rfl)) | ((with_reducible apply WP.bd); case h => (simp (disch := omega) only [e_gR, e_gI, e_aI, e_aL, e_oO, e_pI, e_wI, e_wL, Option.map_some, mS_sL, mR_sL, mI_sL, mS_sI, mR_sI, mL_sI, n_cl, ro_m hR, rr_scalar hR, rx_scalar hR, hT.1.2.2.2]; with_reducible rfl)) | rw [nm_eq] | rw [ckZ_n1] | rw [ckZ_n0])
      by_cases z2 : tN T = 0
      · exact WP.it (by rw [z2]; rfl) (WP.ret ⟨by rw [if_pos (Or.inr z2)], hB⟩)
      · refine WP.ie (by rw [nIz (by omega)]; exact z2) ?_
        rw [if_neg (by omega)]
        obtain ⟨f2, hf2⟩ := FUd (tN T - 1) (by omega)
        rw [hf2]
        have e0 : lkS (FT T W D) (VT T W n) (c + 1) 1 = 0 := by have := lkS_lt (FT T W D) (VT T W n) (c + 1) 1 (by decide); omega
        have e := x_lookS hk hR0 hT0 hw hB hV hsh (w := w) (by omega) (tN T - 1) 1 f2 (by omega) (by decide)
        rw [e0] at e
        exact WP.of e ⟨rfl, hB⟩
  | succ d ih =>
    intro k f M hkd hB hsh
    have hR := hB.1.RI hR0
    have e21 := (hB.1.rws hw).2.1
    have hcl := ctb_le (FT T W D) k
    rw [show f + (d + 1) + 1 = (f + d + 1) + 1 from by omega, f_X10_look_L40]
    repeat (first | ((with_reducible apply WP.ce); case h => (simp (disch := omega) only []; with_reducible rfl)) | ((with_reducible apply WP.bd); case h => (simp (disch := omega) only [e_gR, e_gI, e_aI, e_aL, e_oO, e_pI, e_wI, e_wL, Option.map_some, mS_sL, mR_sL, mI_sL, mS_sI, mR_sI, mL_sI, n_cl, ro_m hR, e21]; with_reducible rfl)) | rw [nm_eq] | rw [ckZ_n1] | rw [ckZ_n0])
    refine WP.ie (by rw [le_rk h6 (by omega)]; omega) ?_
    repeat (first | ((with_reducible apply WP.ce); case h => (simp (disch := omega) only []; with_reducible rfl)) | ((with_reducible apply WP.bd); case h => (simp (disch := omega) only [e_gR, e_gI, e_aI, e_aL, e_oO, e_pI, e_wI, e_wL, Option.map_some, mS_sL, mR_sL, mI_sL, mS_sI, mR_sI, mL_sI, n_cl, ro_m hR]; with_reducible rfl)) | rw [nm_eq] | rw [ckZ_n1] | rw [ckZ_n0])
    refine WP.cw (x_couldR hk hR0 hT0 hw hN hD (k := k) (by omega) hB) (fun v M1 c1 => ?_)
    obtain ⟨rfl, c2, c3, c4⟩ := c1
    refine WP.gd (fun g => ?_) (fun g => ?_)
    · unfold f_X10_look_J98
      rw [eP_rk]
      have g' : FT T W D k = false := g
      have e := ih (k + 1) f M1 (by omega) c2 (fun k' s hk' hF hs => by
        rw [c4]
        refine hsh k' s ?_ hF hs
        by_cases e : k' = k
        · subst e; rw [g'] at hF; cases hF
        · omega)
      rw [ctb_f g'] at e
      exact e
    · have g' : FT T W D k = true := g
      have cp : ∀ dd s f2 (N : Mem), s + dd = 5 → RB m M0 N → LYn m N T (rk W k) 61 → SHw m N (FT T W D) (VT T W n) (tN T) k → (∀ i, i < s → i < tN T → mI N (m + 34) (5 * ctb (FT T W D) k + i) = eP (VT T W n k i)) → WP (f_X10_look_L61 (f_X10_look_L40 m (f + d + 1)) m (f2 + dd + 1) (nI n) w (nI (ctb (FT T W D) k)) (eP (rkO k)) (nI s) N) (fun v M' => v = (if ctb (FT T W D) (c + 1) = 0 ∨ tN T = 0 then -2 else if w = 0 then nI (lkS (FT T W D) (VT T W n) (c + 1) (tN T)) else nI (mst (FT T W D) (VT T W n) (c + 1) (lkS (FT T W D) (VT T W n) (c + 1) (tN T)))) ∧ RB m M0 M') := by
        intro dd
        induction dd with
        | zero =>
          intro s f2 N hs hBN hlN hsN hrN
          rw [f_X10_look_L61]
          refine WP.it (by rw [n_le (by omega) (by omega)]; omega) ?_
          unfold f_X10_look_J98
          rw [eP_rk, n_add]
          have e := ih (k + 1) f N (by omega) hBN (fun k' s' hk' hF hs' => by
            by_cases e : k' = k
            · subst e; exact hrN s' (by omega) hs'
            · exact hsN k' s' (by omega) hF hs')
          rw [ctb_t g'] at e
          exact e
        | succ dd ih2 =>
          intro s f2 N hs hBN hlN hsN hrN
          have hRN := hBN.1.RI hR0
          rw [show f2 + (dd + 1) + 1 = (f2 + dd + 1) + 1 from by omega, f_X10_look_L61]
          refine WP.ie (by rw [n_le (by omega) (by omega)]; omega) ?_
          repeat (first | ((with_reducible apply WP.ce); case h => (simp (disch := omega) only []; with_reducible rfl)) | ((with_reducible apply WP.bd); case h => (simp (disch := omega) only [e_gR, e_gI, e_aI, e_aL, e_oO, e_pI, e_wI, e_wL, Option.map_some, mS_sL, mR_sL, mI_sL, mS_sI, mR_sI, mL_sI, n_cl, ro_m hRN, rr_shows hRN, rr_lay hRN, n_mul, n_add, rx_lay hRN, rx_shows hRN]; with_reducible rfl)) | rw [nm_eq] | rw [ckZ_n1] | rw [ckZ_n0])
          rw [n_add]
          refine ih2 (s + 1) f2 _ (by omega) (hBN.w (by omega) _ _) (fun n' s' hn' hs' => ?_) (fun k' s' hk' hF hs' => ?_) (fun i hi hi5 => ?_)
          · rw [sI_row (by omega)]; exact hlN n' s' hn' hs'
          · have hlt : ctb (FT T W D) k' + 1 ≤ ctb (FT T W D) k := by
              have := ctb_up (FT T W D) (k' + 1) (k - (k' + 1))
              rw [show k' + 1 + (k - (k' + 1)) = k by omega, ctb_t hF] at this
              exact this
            rw [mI_sI, if_neg (by omega)]; exact hsN k' s' hk' hF hs'
          · by_cases e : i = s
            · subst e
              rw [mI_sI, if_pos ⟨rfl, rfl⟩]
              exact hlN n i (by omega) hi5
            · rw [mI_sI, if_neg (by omega)]; exact hrN i (by omega) hi5
      obtain ⟨f2, hf2⟩ := FUd 5 (by omega)
      rw [hf2]
      exact cp 5 0 f2 M1 (by omega) c2 c3 (fun k' s hk' hF hs => by rw [c4]; exact hsh k' s hk' hF hs) (fun i hi => absurd hi (Nat.not_lt_zero i))
theorem x_look {m c : Nat} {M0 : Mem} {T : TD} {S : SC} {r : Option RD} {W : Nat → RD} {D : ND} (h : RE m M0 T S r) (hw : RWs M0 m c W) (hN : RN M0 m D) (hD : NOk T D) (n w : Int32) : WP (f_X10_look m n w M0) (fun v M => v = q_look T c W D n w ∧ RA m M0 M) := by
  obtain ⟨⟨hR, hT, hS, hr, hv⟩, hk, hs, h9⟩ := h
  have h6 := hw.1
  unfold f_X10_look f_X10_look_J29
  repeat (first | ((with_reducible apply WP.ce); case h => (simp (disch := omega) only [r_isBar hR hT hk]; with_reducible rfl)) | ((with_reducible apply WP.bd); case h => (simp (disch := omega) only [e_gR, e_gI, e_aI, e_aL, e_oO, e_pI, e_wI, e_wL, Option.map_some, mS_sL, mR_sL, mI_sL, mS_sI, mR_sI, mL_sI, n_cl, ro_m hR]; with_reducible rfl)) | rw [nm_eq] | rw [ckZ_n1] | rw [ckZ_n0])
  refine WP.gd (fun g1 => WP.ret ⟨by unfold q_look; rw [g1]; rfl, RA.rf m M0⟩) (fun g1 => ?_)
  repeat (first | ((with_reducible apply WP.ce); case h => (simp (disch := omega) only [in_060]; with_reducible rfl)) | ((with_reducible apply WP.bd); case h => (simp (disch := omega) only [e_gR, e_gI, e_aI, e_aL, e_oO, e_pI, e_wI, e_wL, Option.map_some, mS_sL, mR_sL, mI_sL, mS_sI, mR_sI, mL_sI, n_cl, ro_m hR]; with_reducible rfl)) | rw [nm_eq] | rw [ckZ_n1] | rw [ckZ_n0])
  refine WP.gd (fun g2 => WP.ret ⟨by unfold q_look; rw [g1, g2]; rfl, RA.rf m M0⟩) (fun g2 => ?_)
  repeat (first | ((with_reducible apply WP.ce); case h => (simp (disch := omega) only [in_01]; with_reducible rfl)) | ((with_reducible apply WP.bd); case h => (simp (disch := omega) only [e_gR, e_gI, e_aI, e_aL, e_oO, e_pI, e_wI, e_wL, Option.map_some, mS_sL, mR_sL, mI_sL, mS_sI, mR_sI, mL_sI, n_cl, ro_m hR]; with_reducible rfl)) | rw [nm_eq] | rw [ckZ_n1] | rw [ckZ_n0])
  refine WP.gd (fun g3 => WP.ret ⟨by unfold q_look; rw [g1, g2, g3]; rfl, RA.rf m M0⟩) (fun g3 => ?_)
  repeat (first | ((with_reducible apply WP.ce); case h => (simp (disch := omega) only []; with_reducible rfl)) | ((with_reducible apply WP.bd); case h => (simp (disch := omega) only [e_gR, e_gI, e_aI, e_aL, e_oO, e_pI, e_wI, e_wL, Option.map_some, mS_sL, mR_sL, mI_sL, mS_sI, mR_sI, mL_sI, n_cl, ro_m hR]; with_reducible rfl)) | rw [nm_eq] | rw [ckZ_n1] | rw [ckZ_n0])
  refine WP.cw (q_keeps hR hv) (fun _ M1 c1 => ?_)
  obtain ⟨k, rfl, -, k2, k3⟩ := inR_t g2 (by decide)
  obtain ⟨f, hf⟩ := FUd (c + 1) (by omega)
  rw [hf]
  refine WP.mono (x_lookL hk hR hT hw hN hD (n := k) (by omega) (w := w) (c + 1) 0 f M1 (by omega) c1.1 (fun k' s hk' => absurd hk' (Nat.not_lt_zero k'))) (fun v M c => ⟨?_, Or.inr c.2⟩)
  rw [c.1]
  unfold q_look
  rw [g1, g2, g3, n_cl k3]
  rfl
