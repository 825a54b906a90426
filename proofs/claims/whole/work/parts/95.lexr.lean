/-! THE TEXT: runs of bytes; the reference reads it -/
def isBl (y : Nat) : Bool := decide (y = 32)
def isDg (y : Nat) : Bool := decide (48 ≤ y ∧ y ≤ 57)
def isLt (y : Nat) : Bool := decide (97 ≤ y ∧ y ≤ 122)
def ruN (c : Nat → Bool) (Y : Nat → Nat) : Nat → Nat → Nat
  | 0, p => p
  | d + 1, p => if c (Y p) then ruN c Y d (p + 1) else p
/-- as far as bytes of a kind go on -/
def ru (c : Nat → Bool) (t : TP) (p : Nat) : Nat := ruN c t.2 (t.1 - p) p
theorem ru_end {c : Nat → Bool} {t : TP} {p : Nat} (h : t.1 ≤ p) : ru c t p = p := by
  unfold ru
  rw [show t.1 - p = 0 by omega]; rfl
theorem ru_no {c : Nat → Bool} {t : TP} {p : Nat} (h : p < t.1) (hc : c (t.2 p) = false) : ru c t p = p := by
  unfold ru
  rw [show t.1 - p = (t.1 - p - 1) + 1 by omega, ruN, hc]; rfl
theorem ru_st {c : Nat → Bool} {t : TP} {p : Nat} (h : p < t.1) (hc : c (t.2 p) = true) : ru c t p = ru c t (p + 1) := by
  unfold ru
  rw [show t.1 - p = (t.1 - (p + 1)) + 1 by omega, ruN, hc]; rfl
theorem ruN_ge (c : Nat → Bool) (Y : Nat → Nat) : ∀ d p, p ≤ ruN c Y d p
  | 0, p => Nat.le_refl p
  | d + 1, p => by
    rw [ruN]
    split
    · exact Nat.le_trans (Nat.le_succ p) (ruN_ge c Y d (p + 1))
    · exact Nat.le_refl p
theorem ruN_le (c : Nat → Bool) (Y : Nat → Nat) : ∀ d p, ruN c Y d p ≤ p + d
  | 0, p => Nat.le_refl p
  | d + 1, p => by
    rw [ruN]
    split
    · have := ruN_le c Y d (p + 1); omega
    · omega
theorem ru_ge (c : Nat → Bool) (t : TP) (p : Nat) : p ≤ ru c t p := ruN_ge _ _ _ _
theorem ru_le (c : Nat → Bool) (t : TP) {p : Nat} (h : p ≤ t.1) : ru c t p ≤ t.1 := by
  have := ruN_le c t.2 (t.1 - p) p
  unfold ru
  omega
theorem ru_stop (c : Nat → Bool) (t : TP) {p : Nat} : ru c t p < t.1 → c (t.2 (ru c t p)) = false := by
  have : ∀ d p, p + d = t.1 → ruN c t.2 d p < t.1 → c (t.2 (ruN c t.2 d p)) = false := by
    intro d
    induction d with
    | zero => intro p hp h; rw [ruN] at h; omega
    | succ d ih =>
      intro p hp h
      rw [ruN] at h ⊢
      cases hc : c (t.2 p) with
      | true => rw [hc] at h; exact ih (p + 1) (by omega) h
      | false => rw [hc] at h; exact hc
  intro h
  rcases Nat.lt_or_ge p t.1 with hp | hp
  · exact this (t.1 - p) p (by omega) h
  · rw [ru_end hp] at h; omega
theorem ru_in (c : Nat → Bool) (t : TP) {p i : Nat} (h1 : p ≤ i) (h2 : i < ru c t p) : c (t.2 i) = true := by
  have : ∀ d p, p ≤ i → i < ruN c t.2 d p → c (t.2 i) = true := by
    intro d
    induction d with
    | zero => intro p h1 h2; rw [ruN] at h2; omega
    | succ d ih =>
      intro p h1 h2
      rw [ruN] at h2
      cases hc : c (t.2 p) with
      | true =>
        rw [hc] at h2
        by_cases e : p = i
        · rw [← e]; exact hc
        · exact ih (p + 1) (by omega) h2
      | false =>
        rw [hc] at h2
        have h2 : i < p := h2
        omega
  exact this _ p h1 h2
/-- behind the blanks -/
def bk (t : TP) (p : Nat) : Nat := ru isBl t p
def lts (t : TP) (p : Nat) : List Nat := (List.range (ru isLt t p - p)).map (fun i => t.2 (p + i))
theorem lts_len (t : TP) (p : Nat) : (lts t p).length = ru isLt t p - p := by unfold lts; simp
theorem lts_at (t : TP) (p : Nat) {i : Nat} (h : i < ru isLt t p - p) : (lts t p).getD i 0 = t.2 (p + i) := by
  unfold lts
  rw [List.getD_eq_getElem?_getD, List.getElem?_map, List.getElem?_range h]; rfl
theorem sI2 (M : Mem) (a k : Nat) (v w : Int32) : sI (sI M a k v) a k w = sI M a k w := by
  show sIr (sIr M a (upd (mI M a) k v)) a (upd (mI (sIr M a (upd (mI M a) k v)) a) k w) = sIr M a (upd (mI M a) k w)
  rw [mI_sIr_s]
  have e : upd (upd (mI M a) k v) k w = upd (mI M a) k w := by
    funext i
    by_cases h : i = k
    · rw [h, upd_s, upd_s]
    · rw [upd_o _ _ h, upd_o _ _ h, upd_o _ _ h]
  rw [e]
  show (M.1, rowU (rowU M.2.1 a _) a _, M.2.2.1, M.2.2.2) = (M.1, rowU M.2.1 a _, M.2.2.1, M.2.2.2)
  rw [rowU2]
theorem sI_id {M : Mem} {a k : Nat} {v : Int32} (h : mI M a k = v) : sI M a k v = M := by
  show sIr M a (upd (mI M a) k v) = M
  rw [← h, upd_self, sIr_self]
/-! the reference at a place of the text -/
theorem sb_and : ∀ y, y < 256 → sbI y &&& nI 255 = nI y := by decide +kernel
theorem sb_lt : ∀ y, y < 256 → (decide (sbI y < nI 97) || decide (nI 122 < sbI y)) = !(isLt y) := by decide +kernel
theorem sb_eq : ∀ y, y < 256 → ∀ c, c < 128 → (sbI y = nI c ↔ y = c) := by
  intro y hy c hc
  have h1 := sb_and y hy
  constructor
  · intro e
    rw [e, n_and, n_eq (Nat.lt_of_le_of_lt Nat.and_le_left (by omega)) (by omega)] at h1
    rw [← h1]
    have : c &&& 255 = c % 2 ^ 8 := Nat.and_two_pow_sub_one_eq_mod c 8
    rw [this]
    exact Nat.mod_eq_of_lt (by omega)
  · intro e
    subst e
    have : ∀ y, y < 128 → sbI y = nI y := by decide +kernel
    exact this y hc
def TOk2 (t : TP) : Prop := t.1 ≤ 400 ∧ ∀ i, t.2 i < 256
section RLX
variable {M : Mem} {m p : Nat} {t : TP} (hR : RIs (mS M) (mR M) m) (ht : RTp M m t) (h4 : TOk2 t) (hp : mI M m 18 = nI p) (hpl : p ≤ 402)
theorem RTp.w18 {M : Mem} {m : Nat} {t : TP} (h : RTp M m t) (v : Int32) : RTp (sI M m 18 v) m t := ⟨by rw [mI_sI, if_neg (by omega)]; exact h.1, by rw [sI_row (by omega)]; exact h.2⟩
def sgn (t : TP) (p : Nat) : Int32 := if p < t.1 then nI (t.2 p) else -1
theorem r_sign (hR : RIs (mS M) (mR M) m) (ht : RTp M m t) (h4 : TOk2 t) (hp : mI M m 18 = nI p) (hpl : p ≤ 402) : f_X10_sign m M = some (sgn t p, M) := by
  have hL := h4.1
  unfold f_X10_sign f_X10_sign_J28 sgn
  repeat (first | ((with_reducible apply clt_t); case h => (simp (disch := omega) only [hR]; with_reducible rfl)) | ((with_reducible apply bnd_t); case h => (simp (disch := omega) only [e_gR, e_gI, e_aI, e_aL, e_oO, e_pI, e_wI, e_wL, Option.map_some, mS_sL, mR_sL, mI_sL, mS_sI, mR_sI, mL_sI, n_cl, ro_m hR, hp, ht.1]; with_reducible rfl)) | rw [nm_eq])
  by_cases hc : p < t.1
  · rw [if_neg (by rw [n_le (by omega) (by omega)]; omega), if_pos hc]
    have v := ht.2 p hc
    repeat (first | ((with_reducible apply clt_t); case h => (simp (disch := omega) only [hR]; with_reducible rfl)) | ((with_reducible apply bnd_t); case h => (simp (disch := omega) only [e_gR, e_gI, e_aI, e_aL, e_oO, e_pI, e_wI, e_wL, Option.map_some, mS_sL, mR_sL, mI_sL, mS_sI, mR_sI, mL_sI, n_cl, ro_m hR, rr_tape hR, hp, rx_tape hR, v]; with_reducible rfl)) | rw [nm_eq])
    rw [sb_and _ (h4.2 p)]
  · rw [if_pos (by rw [n_le (by omega) (by omega)]; omega), if_neg hc]
theorem sgn_eq {t : TP} (h4 : TOk2 t) (p : Nat) {c : Nat} (hc : c < 256) : (sgn t p = nI c) = (p < t.1 ∧ t.2 p = c) := by
  have := h4.2 p
  unfold sgn
  rw [eq_iff_iff]
  by_cases h : p < t.1
  · rw [if_pos h, n_eq (by omega) (by omega)]
    exact ⟨fun e => ⟨h, e⟩, fun e => e.2⟩
  · rw [if_neg h]
    refine ⟨fun e => ?_, fun e => absurd e.1 h⟩
    exact (Eq.mp (nI_m1 (by omega)) e.symm).elim
theorem r_blanks (hR : RIs (mS M) (mR M) m) (ht : RTp M m t) (h4 : TOk2 t) (hp : mI M m 18 = nI p) (hpl : p ≤ 402) : f_X10_blanks m M = some ((), sI M m 18 (nI (bk t p))) := by
  have hL := h4.1
  have lp : ∀ d p f, p + d = (if p ≤ t.1 then t.1 else p) → p ≤ 402 → f_X10_blanks_L0 m (f + d + 1) (sI M m 18 (nI p)) = some ((), sI M m 18 (nI (bk t p))) := by
    intro d
    induction d with
    | zero =>
      intro p f hpd hpl
      have hge : t.1 ≤ p := by
        by_cases e : p ≤ t.1
        · rw [if_pos e] at hpd; omega
        · omega
      have a1 := r_sign (M := sI M m 18 (nI p)) hR (ht.w18 _) h4 (by rw [mI_sI, if_pos ⟨rfl, rfl⟩]) hpl
      rw [f_X10_blanks_L0]
      repeat (first | ((with_reducible apply clt_t); case h => (simp (disch := omega) only [a1]; with_reducible rfl)) | ((with_reducible apply bnd_t); case h => (simp (disch := omega) only [e_gR, e_gI, e_aI, e_aL, e_oO, e_pI, e_wI, e_wL, Option.map_some, mS_sL, mR_sL, mI_sL, mS_sI, mR_sI, mL_sI, n_cl, ro_m hR]; with_reducible rfl)) | rw [nm_eq])
      rw [if_neg (by rw [sgn_eq h4 p (by decide)]; omega)]
      unfold bk
      rw [ru_end hge]
    | succ d ih =>
      intro p f hpd hpl
      have hlt : p < t.1 := by
        by_cases e : p ≤ t.1
        · rw [if_pos e] at hpd; omega
        · rw [if_neg e] at hpd; omega
      have e18 : mI (sI M m 18 (nI p)) m 18 = nI p := by rw [mI_sI, if_pos ⟨rfl, rfl⟩]
      have a1 := r_sign (M := sI M m 18 (nI p)) hR (ht.w18 _) h4 e18 hpl
      rw [show f + (d + 1) + 1 = (f + d + 1) + 1 from by omega, f_X10_blanks_L0]
      repeat (first | ((with_reducible apply clt_t); case h => (simp (disch := omega) only [a1]; with_reducible rfl)) | ((with_reducible apply bnd_t); case h => (simp (disch := omega) only [e_gR, e_gI, e_aI, e_aL, e_oO, e_pI, e_wI, e_wL, Option.map_some, mS_sL, mR_sL, mI_sL, mS_sI, mR_sI, mL_sI, n_cl, ro_m hR]; with_reducible rfl)) | rw [nm_eq])
      by_cases hc : t.2 p = 32
      · rw [if_pos (by rw [sgn_eq h4 p (by decide)]; exact ⟨hlt, hc⟩)]
        repeat (first | ((with_reducible apply clt_t); case h => (simp (disch := omega) only [hR]; with_reducible rfl)) | ((with_reducible apply bnd_t); case h => (simp (disch := omega) only [e_gR, e_gI, e_aI, e_aL, e_oO, e_pI, e_wI, e_wL, Option.map_some, mS_sL, mR_sL, mI_sL, mS_sI, mR_sI, mL_sI, n_cl, ro_m hR, e18, n_add]; with_reducible rfl)) | rw [nm_eq])
        rw [sI2]
        have := ih (p + 1) f (by rw [if_pos (by omega)]; rw [if_pos (by omega)] at hpd; omega) (by omega)
        unfold bk at this ⊢
        rw [ru_st hlt (by unfold isBl; exact decide_eq_true hc)]
        exact this
      · rw [if_neg (by rw [sgn_eq h4 p (by decide)]; exact fun z => hc z.2)]
        unfold bk
        rw [ru_no hlt (by unfold isBl; exact decide_eq_false hc)]
  obtain ⟨f, hf⟩ := FUd ((if p ≤ t.1 then t.1 else p) - p) (by split <;> omega)
  have e := lp ((if p ≤ t.1 then t.1 else p) - p) p f (by split <;> omega) hpl
  rw [sI_id hp] at e
  rw [f_X10_blanks, hf]
  exact e
def dgB (t : TP) (p : Nat) : Bool := decide (p < t.1) && isDg (t.2 p)
theorem r_isDigit (hR : RIs (mS M) (mR M) m) (ht : RTp M m t) (h4 : TOk2 t) (hp : mI M m 18 = nI p) (hpl : p ≤ 402) : f_X10_isDigit m M = some (bI (dgB t p), M) := by
  have a1 := r_sign hR ht h4 hp hpl
  have a2 := in_R (sgn t p) 48 57 48 57 rfl rfl M
  unfold f_X10_isDigit
  repeat (first | ((with_reducible apply clt_t); case h => (simp (disch := omega) only [a1, a2]; with_reducible rfl)) | ((with_reducible apply bnd_t); case h => (simp (disch := omega) only [e_gR, e_gI, e_aI, e_aL, e_oO, e_pI, e_wI, e_wL, Option.map_some, mS_sL, mR_sL, mI_sL, mS_sI, mR_sI, mL_sI, n_cl, ro_m hR]; with_reducible rfl)) | rw [nm_eq])
  rw [ckZ_b]
  have : inR (sgn t p) 48 57 = dgB t p := by
    have := h4.2 p
    unfold inR sgn dgB isDg
    by_cases h : p < t.1
    · rw [if_pos h, nI_toInt (by omega), decide_eq_true h, Bool.true_and, decide_eq_decide]
      omega
    · rw [if_neg h, decide_eq_false h, Bool.false_and]
      have hm : (-1 : Int32).toInt = -1 := by decide
      rw [hm]
      rfl
  rw [this]
/-- a word of the reference's -/
def SW (u : UInt32) (w : List Nat) : Prop := (1 ≤ u.toNat ∧ u.toNat ≤ 18) ∧ (w.length ≤ 7 ∧ ∀ y ∈ w, y < 128) ∧ (∀ M, f_J0_length_8abf5 u M = some (nI w.length, M)) ∧ ∀ M i, i < w.length → f_J0_charAt_5068e u (nI i) M = some (nI (w.getD i 0), M)
theorem kT_ok {γ : Type} {u : UInt32} {w : List Nat} (h : SW u w) (o : Option γ) : kT u o = o := by
  unfold kT
  rw [if_pos h.1]
theorem r_stood (hR : RIs (mS M) (mR M) m) (ht : RTp M m t) (h4 : TOk2 t) (hp : mI M m 18 = nI p) (hpl : p ≤ 402) {u : UInt32} {w : List Nat} (hw : SW u w) : f_X10_stood m u M = some (bI (decide (lts t p = w)), M) := by
  have hL := h4.1
  have hw7 := hw.2.1.1
  -- the letters agree so far
  have l63 : ru isLt t p - p = w.length → ∀ d i f (b : Bool), i + d = w.length → (b = true ↔ ∀ j, j < i → t.2 (p + j) = w.getD j 0) → f_X10_stood_L63 m (f + d + 1) u (bI b) (nI i) M = some (bI (decide (lts t p = w)), M) := by
    intro hlen
    have hq : p ≤ t.1 ∨ w.length = 0 := by
      rcases Nat.lt_or_ge t.1 p with h | h
      · rw [ru_end (by omega)] at hlen; omega
      · exact Or.inl h
    have fin : ∀ b : Bool, (b = true ↔ ∀ j, j < w.length → t.2 (p + j) = w.getD j 0) → b = decide (lts t p = w) := by
      intro b hb
      have : (lts t p = w) ↔ ∀ j, j < w.length → t.2 (p + j) = w.getD j 0 := by
        constructor
        · intro e j hj
          rw [← lts_at t p (by omega), e]
        · intro e
          apply List.ext_getElem?
          intro j
          by_cases hj : j < w.length
          · have h1 : j < (lts t p).length := by rw [lts_len]; omega
            have h2 := lts_at t p (i := j) (by omega)
            rw [List.getD_eq_getElem?_getD, List.getElem?_eq_getElem h1] at h2
            have h3 := e j hj
            rw [List.getD_eq_getElem?_getD, List.getElem?_eq_getElem hj] at h3
            rw [List.getElem?_eq_getElem h1, List.getElem?_eq_getElem hj]
            congr 1
            have h2 : (lts t p)[j] = t.2 (p + j) := h2
            have h3 : t.2 (p + j) = w[j] := h3
            rw [h2, h3]
          · rw [List.getElem?_eq_none (by rw [lts_len]; omega), List.getElem?_eq_none (by omega)]
      cases b with
      | true => exact (decide_eq_true (this.mpr (hb.mp rfl))).symm
      | false => exact (decide_eq_false (fun z => by have := hb.mpr (this.mp z); cases this)).symm
    intro d
    induction d with
    | zero =>
      intro i f b hi hb
      have hi : i = w.length := by omega
      subst hi
      rw [f_X10_stood_L63, kT_ok hw]
      repeat (first | ((with_reducible apply clt_t); case h => (simp (disch := omega) only [hw.2.2.1]; with_reducible rfl)) | ((with_reducible apply bnd_t); case h => (simp (disch := omega) only [e_gR, e_gI, e_aI, e_aL, e_oO, e_pI, e_wI, e_wL, Option.map_some, mS_sL, mR_sL, mI_sL, mS_sI, mR_sI, mL_sI, n_cl, hR]; with_reducible rfl)) | rw [nm_eq])
      rw [if_pos (by rw [n_le (by omega) (by omega)]; omega)]
      unfold f_X10_stood_J109
      rw [ckZ_b, fin b hb]
    | succ d ih =>
      intro i f b hi hb
      have hrl := ru_le isLt t (p := p) (by omega)
      rw [show f + (d + 1) + 1 = (f + d + 1) + 1 from by omega, f_X10_stood_L63, kT_ok hw]
      repeat (first | ((with_reducible apply clt_t); case h => (simp (disch := omega) only [hw.2.2.1]; with_reducible rfl)) | ((with_reducible apply bnd_t); case h => (simp (disch := omega) only [e_gR, e_gI, e_aI, e_aL, e_oO, e_pI, e_wI, e_wL, Option.map_some, mS_sL, mR_sL, mI_sL, mS_sI, mR_sI, mL_sI, n_cl, hR]; with_reducible rfl)) | rw [nm_eq])
      rw [if_neg (by rw [n_le (by omega) (by omega)]; omega)]
      cases hbb : b with
      | false =>
        rw [if_pos (by rfl)]
        unfold f_X10_stood_J109
        have : decide (lts t p = w) = false := by
          refine (fin false ⟨fun z => absurd z (by decide), fun z => ?_⟩).symm
          have := hb.mpr (fun j hj => z j (by omega))
          rw [hbb] at this; cases this
        rw [this, ckZ_b]
      | true =>
        rw [if_neg (by decide)]
        have v := ht.2 (p + i) (by omega)
        have c := hw.2.2.2 M i (by omega)
        repeat (first | ((with_reducible apply clt_t); case h => (simp (disch := omega) only [hR]; with_reducible rfl)) | ((with_reducible apply bnd_t); case h => (simp (disch := omega) only [e_gR, e_gI, e_aI, e_aL, e_oO, e_pI, e_wI, e_wL, Option.map_some, mS_sL, mR_sL, mI_sL, mS_sI, mR_sI, mL_sI, n_cl, ro_m hR, rr_tape hR, hp, n_add, rx_tape hR, v]; with_reducible rfl)) | rw [nm_eq])
        rw [kT_ok hw]
        repeat (first | ((with_reducible apply clt_t); case h => (simp (disch := omega) only [c]; with_reducible rfl)) | ((with_reducible apply bnd_t); case h => (simp (disch := omega) only [e_gR, e_gI, e_aI, e_aL, e_oO, e_pI, e_wI, e_wL, Option.map_some, mS_sL, mR_sL, mI_sL, mS_sI, mR_sI, mL_sI, n_cl, hR]; with_reducible rfl)) | rw [nm_eq])
        have hy := h4.2 (p + i)
        have hwi : w.getD i 0 < 128 := by
          have hil : i < w.length := by omega
          rw [List.getD_eq_getElem?_getD, List.getElem?_eq_getElem hil]
          exact hw.2.1.2 _ (List.getElem_mem hil)
        have eq := sb_eq (t.2 (p + i)) hy (w.getD i 0) hwi
        unfold f_X10_stood_J102
        rw [n_add]
        by_cases hc : t.2 (p + i) = w.getD i 0
        · rw [if_pos (eq.mpr hc)]
          refine ih (i + 1) f true (by omega) ⟨fun _ j hj => ?_, fun _ => rfl⟩
          by_cases e : j = i
          · rw [e]; exact hc
          · exact hb.mp hbb j (by omega)
        · rw [if_neg (fun z => hc (eq.mp z))]
          exact ih (i + 1) f false (by omega) ⟨fun z => absurd z (by decide), fun z => absurd (z i (by omega)) hc⟩
  have j41 : p ≤ ru isLt t p → f_X10_stood_J41 m u (nI (ru isLt t p)) M = some (bI (decide (lts t p = w)), M) := by
    intro hge
    have hle : ru isLt t p ≤ 402 := by
      rcases Nat.lt_or_ge t.1 p with h | h
      · rw [ru_end (by omega)]; exact hpl
      · have := ru_le isLt t h; omega
    unfold f_X10_stood_J41 f_X10_stood_J59
    repeat (first | ((with_reducible apply clt_t); case h => (simp (disch := omega) only [hR]; with_reducible rfl)) | ((with_reducible apply bnd_t); case h => (simp (disch := omega) only [e_gR, e_gI, e_aI, e_aL, e_oO, e_pI, e_wI, e_wL, Option.map_some, mS_sL, mR_sL, mI_sL, mS_sI, mR_sI, mL_sI, n_cl, ro_m hR, hp]; with_reducible rfl)) | rw [nm_eq])
    rw [kT_ok hw]
    repeat (first | ((with_reducible apply clt_t); case h => (simp (disch := omega) only [hw.2.2.1]; with_reducible rfl)) | ((with_reducible apply bnd_t); case h => (simp (disch := omega) only [e_gR, e_gI, e_aI, e_aL, e_oO, e_pI, e_wI, e_wL, Option.map_some, mS_sL, mR_sL, mI_sL, mS_sI, mR_sI, mL_sI, n_cl, hR]; with_reducible rfl)) | rw [nm_eq])
    rw [n_sub hge]
    obtain ⟨f, hf⟩ := FUd w.length (by omega)
    rw [hf]
    by_cases hc : ru isLt t p - p = w.length
    · rw [if_pos (by rw [hc])]
      exact l63 hc w.length 0 f true (by omega) ⟨fun _ j hj => absurd hj (Nat.not_lt_zero j), fun _ => rfl⟩
    · rw [if_neg (by rw [n_eq (by omega) (by omega)]; exact hc)]
      have : decide (lts t p = w) = false := decide_eq_false (fun z => hc (by rw [← lts_len, z]))
      rw [this, show f + w.length + 1 = (f + w.length) + 1 from rfl, f_X10_stood_L63, kT_ok hw]
      repeat (first | ((with_reducible apply clt_t); case h => (simp (disch := omega) only [hw.2.2.1]; with_reducible rfl)) | ((with_reducible apply bnd_t); case h => (simp (disch := omega) only [e_gR, e_gI, e_aI, e_aL, e_oO, e_pI, e_wI, e_wL, Option.map_some, mS_sL, mR_sL, mI_sL, mS_sI, mR_sI, mL_sI, n_cl, hR]; with_reducible rfl)) | rw [nm_eq])
      by_cases h0 : w.length = 0
      · rw [if_pos (by rw [h0, n_le (by decide) (by decide)]; omega)]
        rfl
      · rw [if_neg (by rw [n_le (by omega) (by omega)]; omega), if_pos (by rfl)]
        rfl
  have l5 : ∀ d q f, q + d = (if q ≤ t.1 then t.1 else q) → q ≤ 402 → ru isLt t q = ru isLt t p → p ≤ q → f_X10_stood_L5 m (f + d + 1) u (nI q) M = some (bI (decide (lts t p = w)), M) := by
    intro d
    induction d with
    | zero =>
      intro q f hq hq4 hr hpq
      have hge : t.1 ≤ q := by
        by_cases e : q ≤ t.1
        · rw [if_pos e] at hq; omega
        · omega
      rw [f_X10_stood_L5]
      repeat (first | ((with_reducible apply clt_t); case h => (simp (disch := omega) only [hR]; with_reducible rfl)) | ((with_reducible apply bnd_t); case h => (simp (disch := omega) only [e_gR, e_gI, e_aI, e_aL, e_oO, e_pI, e_wI, e_wL, Option.map_some, mS_sL, mR_sL, mI_sL, mS_sI, mR_sI, mL_sI, n_cl, ro_m hR, ht.1]; with_reducible rfl)) | rw [nm_eq])
      rw [if_pos (by rw [n_le (by omega) (by omega)]; omega)]
      rw [ru_end hge] at hr
      rw [hr]
      exact j41 (by omega)
    | succ d ih =>
      intro q f hq hq4 hr hpq
      have hlt : q < t.1 := by
        by_cases e : q ≤ t.1
        · rw [if_pos e] at hq; omega
        · rw [if_neg e] at hq; omega
      have v := ht.2 q hlt
      have sl := sb_lt (t.2 q) (h4.2 q)
      rw [show f + (d + 1) + 1 = (f + d + 1) + 1 from by omega, f_X10_stood_L5]
      repeat (first | ((with_reducible apply clt_t); case h => (simp (disch := omega) only [hR]; with_reducible rfl)) | ((with_reducible apply bnd_t); case h => (simp (disch := omega) only [e_gR, e_gI, e_aI, e_aL, e_oO, e_pI, e_wI, e_wL, Option.map_some, mS_sL, mR_sL, mI_sL, mS_sI, mR_sI, mL_sI, n_cl, ro_m hR, ht.1]; with_reducible rfl)) | rw [nm_eq])
      rw [if_neg (by rw [n_le (by omega) (by omega)]; omega)]
      repeat (first | ((with_reducible apply clt_t); case h => (simp (disch := omega) only [hR]; with_reducible rfl)) | ((with_reducible apply bnd_t); case h => (simp (disch := omega) only [e_gR, e_gI, e_aI, e_aL, e_oO, e_pI, e_wI, e_wL, Option.map_some, mS_sL, mR_sL, mI_sL, mS_sI, mR_sI, mL_sI, n_cl, ro_m hR, rr_tape hR, rx_tape hR, v]; with_reducible rfl)) | rw [nm_eq])
      cases hl : isLt (t.2 q) with
      | true =>
        rw [hl] at sl
        have sl2 := Bool.or_eq_false_iff.mp sl
        rw [if_neg (of_decide_eq_false sl2.1)]
        repeat (first | ((with_reducible apply clt_t); case h => (simp (disch := omega) only [hR]; with_reducible rfl)) | ((with_reducible apply bnd_t); case h => (simp (disch := omega) only [e_gR, e_gI, e_aI, e_aL, e_oO, e_pI, e_wI, e_wL, Option.map_some, mS_sL, mR_sL, mI_sL, mS_sI, mR_sI, mL_sI, n_cl, ro_m hR, rr_tape hR, rx_tape hR, v]; with_reducible rfl)) | rw [nm_eq])
        rw [if_neg (of_decide_eq_false sl2.2), n_add]
        exact ih (q + 1) f (by rw [if_pos (by omega)]; rw [if_pos (by omega)] at hq; omega) (by omega) (by rw [← ru_st hlt hl]; exact hr) (by omega)
      | false =>
        rw [ru_no hlt hl] at hr
        have j := j41 (by omega)
        rw [← hr] at j
        rw [hl] at sl
        rcases Bool.or_eq_true_iff.mp sl with s | s
        · rw [if_pos (of_decide_eq_true s)]
          exact j
        · by_cases s0 : sbI (t.2 q) < nI 97
          · rw [if_pos s0]; exact j
          · rw [if_neg s0]
            repeat (first | ((with_reducible apply clt_t); case h => (simp (disch := omega) only [hR]; with_reducible rfl)) | ((with_reducible apply bnd_t); case h => (simp (disch := omega) only [e_gR, e_gI, e_aI, e_aL, e_oO, e_pI, e_wI, e_wL, Option.map_some, mS_sL, mR_sL, mI_sL, mS_sI, mR_sI, mL_sI, n_cl, ro_m hR, rr_tape hR, rx_tape hR, v]; with_reducible rfl)) | rw [nm_eq])
            rw [if_pos (of_decide_eq_true s)]
            exact j
  unfold f_X10_stood
  repeat (first | ((with_reducible apply clt_t); case h => (simp (disch := omega) only [hR]; with_reducible rfl)) | ((with_reducible apply bnd_t); case h => (simp (disch := omega) only [e_gR, e_gI, e_aI, e_aL, e_oO, e_pI, e_wI, e_wL, Option.map_some, mS_sL, mR_sL, mI_sL, mS_sI, mR_sI, mL_sI, n_cl, ro_m hR, hp]; with_reducible rfl)) | rw [nm_eq])
  obtain ⟨f, hf⟩ := FUd ((if p ≤ t.1 then t.1 else p) - p) (by split <;> omega)
  rw [hf]
  exact l5 ((if p ≤ t.1 then t.1 else p) - p) p f (by split <;> omega) hpl rfl (Nat.le_refl p)
end RLX
