/-! THE REFERENCE: numbers; its words -/
def dvl (t : TP) (s : Nat) : Nat → Nat
  | 0 => 0
  | k + 1 => 10 * dvl t s k + (t.2 (s + k) - 48)
theorem dvl_lt {t : TP} {s : Nat} : ∀ k, (∀ i, i < k → isDg (t.2 (s + i)) = true) → dvl t s k < 10 ^ k
  | 0, _ => by show 0 < 10 ^ 0; decide
  | k + 1, h => by
    have h1 := dvl_lt (t := t) (s := s) k (fun i hi => h i (by omega))
    have h2 := of_decide_eq_true (h k (by omega))
    rw [dvl, Nat.pow_succ]
    omega
def dgs (t : TP) (p : Nat) : Nat := ru isDg t p - p
def dgV (t : TP) (p : Nat) : Nat := dvl t p (if dgs t p ≤ 5 then dgs t p else 5)
theorem dg_in {t : TP} {p i : Nat} (h : i < dgs t p) : isDg (t.2 (p + i)) = true := ru_in isDg t (p := p) (by omega) (by unfold dgs at h; have := ru_ge isDg t p; omega)
theorem dgV_lt (t : TP) (p : Nat) : dgV t p < 100000 := by
  unfold dgV
  have h : (if dgs t p ≤ 5 then dgs t p else 5) ≤ dgs t p ∧ (if dgs t p ≤ 5 then dgs t p else 5) ≤ 5 := by split <;> omega
  have h1 := dvl_lt (t := t) (s := p) (if dgs t p ≤ 5 then dgs t p else 5) (fun i hi => dg_in (by omega))
  have h2 : 10 ^ (if dgs t p ≤ 5 then dgs t p else 5) ≤ 10 ^ 5 := Nat.pow_le_pow_right (by decide) h.2
  omega
/-- the first fault stays -/
def ft1 (fa s c : Nat) : Nat := if fa = 0 then 1 + 8 * s + c else fa
section RDG
variable {M : Mem} {m : Nat} {t : TP}
def wPF (M : Mem) (m p fa : Nat) : Mem := sI (sI M m 18 (nI p)) m 19 (nI fa)
theorem wPF_f (M : Mem) (m p fa k : Nat) : mI (wPF M m p fa) m k = if k = 19 then nI fa else if k = 18 then nI p else mI M m k := by
  unfold wPF
  rw [mI_sI, mI_sI]
  by_cases h1 : k = 19
  · rw [if_pos ⟨rfl, h1⟩, if_pos h1]
  · rw [if_neg (fun z => h1 z.2), if_neg h1]
    by_cases h2 : k = 18
    · rw [if_pos ⟨rfl, h2⟩, if_pos h2]
    · rw [if_neg (fun z => h2 z.2), if_neg h2]
theorem wPF_r (M : Mem) {m p fa a : Nat} (h : a ≠ m) : mI (wPF M m p fa) a = mI M a := by
  unfold wPF
  rw [sI_row h, sI_row h]
theorem r_fails (hR : RIs (mS M) (mR M) m) {fa s c : Nat} (hfa : fa < 10000) (hs : s ≤ 402) (hc : c < 8) (h19 : mI M m 19 = nI fa) : f_X10_fails m (nI c) (nI s) M = some ((), sI M m 19 (nI (ft1 fa s c))) := by
  unfold f_X10_fails f_X10_fails_J23 ft1
  repeat (first | ((with_reducible apply clt_t); case h => (simp (disch := omega) only [hR]; with_reducible rfl)) | ((with_reducible apply bnd_t); case h => (simp (disch := omega) only [e_gR, e_gI, e_aI, e_aL, e_oO, e_pI, e_wI, e_wL, Option.map_some, mS_sL, mR_sL, mI_sL, mS_sI, mR_sI, mL_sI, n_cl, ro_m hR, h19]; with_reducible rfl)) | rw [nm_eq])
  by_cases h : fa = 0
  · rw [if_pos (by rw [h]; rfl), if_pos h]
    repeat (first | ((with_reducible apply clt_t); case h => (simp (disch := omega) only [hR]; with_reducible rfl)) | ((with_reducible apply bnd_t); case h => (simp (disch := omega) only [e_gR, e_gI, e_aI, e_aL, e_oO, e_pI, e_wI, e_wL, Option.map_some, mS_sL, mR_sL, mI_sL, mS_sI, mR_sI, mL_sI, n_cl, ro_m hR]; with_reducible rfl)) | rw [nm_eq])
    rw [n_mul, n_add, n_add]
  · rw [if_neg (by rw [nIz (by omega)]; exact h), if_neg h]
    repeat (first | ((with_reducible apply clt_t); case h => (simp (disch := omega) only [hR]; with_reducible rfl)) | ((with_reducible apply bnd_t); case h => (simp (disch := omega) only [e_gR, e_gI, e_aI, e_aL, e_oO, e_pI, e_wI, e_wL, Option.map_some, mS_sL, mR_sL, mI_sL, mS_sI, mR_sI, mL_sI, n_cl, ro_m hR, h19]; with_reducible rfl)) | rw [nm_eq])
    rfl
theorem r_digits (hR : RIs (mS M) (mR M) m) (ht : RTp M m t) (h4 : TOk2 t) {p fa : Nat} (hp : mI M m 18 = nI p) (hpl : p ≤ 402) (h19 : mI M m 19 = nI fa) (hfa : fa < 10000) : f_X10_digits m (nI 99999) M = some (if dgB t p then nI (dgV t p) else nI 0, if dgB t p then wPF M m (ru isDg t p) (if dgs t p ≤ 5 then fa else ft1 fa p 1) else wPF M m p (ft1 fa p 0)) := by
  have hL := h4.1
  have a1 := r_isDigit hR ht h4 hp hpl
  unfold f_X10_digits
  repeat (first | ((with_reducible apply clt_t); case h => (simp (disch := omega) only [a1]; with_reducible rfl)) | ((with_reducible apply bnd_t); case h => (simp (disch := omega) only [e_gR, e_gI, e_aI, e_aL, e_oO, e_pI, e_wI, e_wL, Option.map_some, mS_sL, mR_sL, mI_sL, mS_sI, mR_sI, mL_sI, n_cl, ro_m hR]; with_reducible rfl)) | rw [nm_eq])
  cases hd : dgB t p with
  | false =>
    rw [if_pos (by rfl)]
    have a2 := r_fails hR hfa hpl (c := 0) (by decide) h19
    repeat (first | ((with_reducible apply clt_t); case h => (simp (disch := omega) only [a2]; with_reducible rfl)) | ((with_reducible apply bnd_t); case h => (simp (disch := omega) only [e_gR, e_gI, e_aI, e_aL, e_oO, e_pI, e_wI, e_wL, Option.map_some, mS_sL, mR_sL, mI_sL, mS_sI, mR_sI, mL_sI, n_cl, ro_m hR, hp]; with_reducible rfl)) | rw [nm_eq])
    have e : M = sI M m 18 (nI p) := (sI_id hp).symm
    unfold wPF
    rw [← e]
    rfl
  | true =>
    rw [if_neg (by decide)]
    have hlt : p < t.1 := of_decide_eq_true (Bool.and_eq_true_iff.mp hd).1
    have hrl := ru_le isDg t (p := p) (by omega)
    have hrg := ru_ge isDg t p
    repeat (first | ((with_reducible apply clt_t); case h => (simp (disch := omega) only [hR]; with_reducible rfl)) | ((with_reducible apply bnd_t); case h => (simp (disch := omega) only [e_gR, e_gI, e_aI, e_aL, e_oO, e_pI, e_wI, e_wL, Option.map_some, mS_sL, mR_sL, mI_sL, mS_sI, mR_sI, mL_sI, n_cl, ro_m hR, hp]; with_reducible rfl)) | rw [nm_eq])
    have lp : ∀ d q f, q + d = ru isDg t p → p ≤ q → f_X10_digits_L25 m (f + d + 1) (nI 99999) (nI p) (nI (dvl t p (if q - p ≤ 5 then q - p else 5))) (sI M m 18 (nI q)) = some (nI (dgV t p), wPF M m (ru isDg t p) (if dgs t p ≤ 5 then fa else ft1 fa p 1)) := by
      intro d
      induction d with
      | zero =>
        intro q f hq hpq
        have hq : q = ru isDg t p := by omega
        have e18 : mI (sI M m 18 (nI q)) m 18 = nI q := by rw [mI_sI, if_pos ⟨rfl, rfl⟩]
        have e19 : mI (sI M m 18 (nI q)) m 19 = nI fa := by rw [mI_sI, if_neg (by omega)]; exact h19
        have nd : dgB t q = false := by
          unfold dgB
          by_cases h : q < t.1
          · have := ru_stop isDg t (p := p) (by omega)
            rw [← hq] at this
            rw [this, Bool.and_false]
          · rw [decide_eq_false h, Bool.false_and]
        have b1 := r_isDigit (M := sI M m 18 (nI q)) hR (ht.w18 _) h4 e18 (by omega)
        rw [nd] at b1
        have dv : dvl t p (if q - p ≤ 5 then q - p else 5) = dgV t p := by unfold dgV dgs; rw [hq]
        have dl := dgV_lt t p
        rw [f_X10_digits_L25]
        repeat (first | ((with_reducible apply clt_t); case h => (simp (disch := omega) only [b1]; with_reducible rfl)) | ((with_reducible apply bnd_t); case h => (simp (disch := omega) only [e_gR, e_gI, e_aI, e_aL, e_oO, e_pI, e_wI, e_wL, Option.map_some, mS_sL, mR_sL, mI_sL, mS_sI, mR_sI, mL_sI, n_cl, ro_m hR]; with_reducible rfl)) | rw [nm_eq])
        rw [if_pos (by rfl), dv]
        repeat (first | ((with_reducible apply clt_t); case h => (simp (disch := omega) only [hR]; with_reducible rfl)) | ((with_reducible apply bnd_t); case h => (simp (disch := omega) only [e_gR, e_gI, e_aI, e_aL, e_oO, e_pI, e_wI, e_wL, Option.map_some, mS_sL, mR_sL, mI_sL, mS_sI, mR_sI, mL_sI, n_cl, ro_m hR, e18]; with_reducible rfl)) | rw [nm_eq])
        rw [n_sub hpq]
        have ds : q - p = dgs t p := by unfold dgs; rw [hq]
        unfold f_X10_digits_J87 f_X10_digits_J93
        by_cases h5 : dgs t p ≤ 5
        · rw [if_neg (by rw [n_lt (by omega) (by omega)]; omega), if_pos (by rw [n_le (by omega) (by omega)]; omega), if_pos h5]
          unfold wPF
          rw [← hq]
          rw [sI_id (M := sI M m 18 (nI q)) e19]
        · rw [if_pos (by rw [n_lt (by omega) (by omega)]; omega), if_neg h5]
          have b2 := r_fails (M := sI M m 18 (nI q)) hR hfa hpl (c := 1) (by decide) e19
          repeat (first | ((with_reducible apply clt_t); case h => (simp (disch := omega) only [b2]; with_reducible rfl)) | ((with_reducible apply bnd_t); case h => (simp (disch := omega) only [e_gR, e_gI, e_aI, e_aL, e_oO, e_pI, e_wI, e_wL, Option.map_some, mS_sL, mR_sL, mI_sL, mS_sI, mR_sI, mL_sI, n_cl, ro_m hR]; with_reducible rfl)) | rw [nm_eq])
          unfold wPF
          rw [← hq]
      | succ d ih =>
        intro q f hq hpq
        have e18 : mI (sI M m 18 (nI q)) m 18 = nI q := by rw [mI_sI, if_pos ⟨rfl, rfl⟩]
        have hin := ru_in isDg t (p := p) (i := q) hpq (by omega)
        have yd : dgB t q = true := by
          unfold dgB
          rw [hin, decide_eq_true (by omega)]; rfl
        have b1 := r_isDigit (M := sI M m 18 (nI q)) hR (ht.w18 _) h4 e18 (by omega)
        rw [yd] at b1
        have b2 := r_sign (M := sI M m 18 (nI q)) hR (ht.w18 _) h4 e18 (by omega)
        have sg : sgn t q = nI (t.2 q) := by unfold sgn; rw [if_pos (by omega)]
        rw [sg] at b2
        have hdg := of_decide_eq_true hin
        rw [show f + (d + 1) + 1 = (f + d + 1) + 1 from by omega, f_X10_digits_L25]
        repeat (first | ((with_reducible apply clt_t); case h => (simp (disch := omega) only [b1]; with_reducible rfl)) | ((with_reducible apply bnd_t); case h => (simp (disch := omega) only [e_gR, e_gI, e_aI, e_aL, e_oO, e_pI, e_wI, e_wL, Option.map_some, mS_sL, mR_sL, mI_sL, mS_sI, mR_sI, mL_sI, n_cl, ro_m hR]; with_reducible rfl)) | rw [nm_eq])
        rw [if_neg (by decide)]
        repeat (first | ((with_reducible apply clt_t); case h => (simp (disch := omega) only [hR]; with_reducible rfl)) | ((with_reducible apply bnd_t); case h => (simp (disch := omega) only [e_gR, e_gI, e_aI, e_aL, e_oO, e_pI, e_wI, e_wL, Option.map_some, mS_sL, mR_sL, mI_sL, mS_sI, mR_sI, mL_sI, n_cl, ro_m hR, e18]; with_reducible rfl)) | rw [nm_eq])
        rw [n_sub hpq]
        unfold f_X10_digits_J58
        have ih2 := ih (q + 1) f (by omega) (by omega)
        by_cases h5 : 5 ≤ q - p
        · rw [if_pos (by rw [n_le (by omega) (by omega)]; exact h5)]
          repeat (first | ((with_reducible apply clt_t); case h => (simp (disch := omega) only [hR]; with_reducible rfl)) | ((with_reducible apply bnd_t); case h => (simp (disch := omega) only [e_gR, e_gI, e_aI, e_aL, e_oO, e_pI, e_wI, e_wL, Option.map_some, mS_sL, mR_sL, mI_sL, mS_sI, mR_sI, mL_sI, n_cl, ro_m hR, e18, n_add]; with_reducible rfl)) | rw [nm_eq])
          rw [sI2]
          have e1 : (if q + 1 - p ≤ 5 then q + 1 - p else 5) = (if q - p ≤ 5 then q - p else 5) := by
            rw [if_neg (by omega)]
            split <;> omega
          rw [e1] at ih2
          exact ih2
        · rw [if_neg (by rw [n_le (by omega) (by omega)]; exact h5)]
          repeat (first | ((with_reducible apply clt_t); case h => (simp (disch := omega) only [b2]; with_reducible rfl)) | ((with_reducible apply bnd_t); case h => (simp (disch := omega) only [e_gR, e_gI, e_aI, e_aL, e_oO, e_pI, e_wI, e_wL, Option.map_some, mS_sL, mR_sL, mI_sL, mS_sI, mR_sI, mL_sI, n_cl, ro_m hR, e18, n_add]; with_reducible rfl)) | rw [nm_eq])
          rw [sI2]
          have e1 : (if q + 1 - p ≤ 5 then q + 1 - p else 5) = (q - p) + 1 := by rw [if_pos (by omega)]; omega
          have e2 : (if q - p ≤ 5 then q - p else 5) = q - p := by rw [if_pos (by omega)]
          rw [e1, dvl, show p + (q - p) = q by omega] at ih2
          rw [e2, n_mul, n_add, n_sub (by omega)]
          rw [show 10 * dvl t p (q - p) + t.2 q - 48 = 10 * dvl t p (q - p) + (t.2 q - 48) by omega]
          exact ih2
    obtain ⟨f, hf⟩ := FUd (ru isDg t p - p) (by omega)
    have e := lp (ru isDg t p - p) p f (by omega) (Nat.le_refl p)
    rw [sI_id hp, Nat.sub_self] at e
    rw [hf]
    exact e
end RDG
/-! its words: what the JDK's methods say of them, at any memory -/
def PMm {β : Type} (f : Mem → Option (β × Mem)) : Prop := ∀ M, f M = (f M0).map (fun q => (q.1, M))
theorem pm_coder (u : UInt32) : PMm (f_J0_coder_7d493 u) := fun M => by
  unfold f_J0_coder_7d493 f_J0_coder_7d493_J14 kT ckN
  repeat' split
  all_goals rfl
theorem pm_cl {β γ : Type} {f : Mem → Option (β × Mem)} {g : β → Mem → Option (γ × Mem)} (hf : PMm f) (hg : ∀ r, PMm (g r)) : PMm (fun M => cl (f M) g) := fun M => by
  show cl (f M) g = (cl (f M0) g).map _
  rw [hf M]
  cases h : f M0 with
  | none => rfl
  | some q =>
    have h0 := hf M0
    rw [h] at h0
    have e : q.2 = M0 := by
      have := Option.some.inj h0
      rw [this]
    show g q.1 M = (g q.1 q.2).map _
    rw [e]
    exact hg q.1 M
theorem pm_kT {β : Type} {u : UInt32} {f : Mem → Option (β × Mem)} (hf : PMm f) : PMm (fun M => kT u (f M)) := fun M => by
  show kT u (f M) = (kT u (f M0)).map _
  unfold kT
  split
  · exact hf M
  · rfl
theorem pm_bd {β γ : Type} {o : Option β} {f : β → Mem → Option (γ × Mem)} (hf : ∀ x, PMm (f x)) : PMm (fun M => o.bind (fun x => f x M)) := fun M => by
  show o.bind _ = (o.bind _).map _
  cases o with
  | none => rfl
  | some x => exact hf x M
theorem pm_some {β : Type} (x : β) : PMm (fun M => some (x, M)) := fun _ => rfl
theorem pm_length (u : UInt32) : PMm (f_J0_length_8abf5 u) := pm_kT (pm_bd (fun _ => pm_kT (pm_cl (pm_coder u) (fun _ => pm_some _))))
theorem pm_isLatin (u : UInt32) : PMm (f_J0_isLatin1_aae02 u) := fun M => by
  unfold f_J0_isLatin1_aae02 f_J0_isLatin1_aae02_J17 f_J0_isLatin1_aae02_J18 kT ckZ
  repeat' split
  all_goals rfl
theorem pm_ckN {β : Type} (ty : FieldType) (x : Int32) {f : Mem → Option (β × Mem)} (hf : PMm f) : PMm (fun M => ckN ty x (f M)) := fun M => by
  show ckN ty x (f M) = (ckN ty x (f M0)).map _
  unfold ckN
  split
  · exact hf M
  · rfl
theorem pm_check (a b : Int32) : PMm (f_J0_checkIndex_df160 a b) := pm_cl (fun M => by
  unfold f_J3_checkIndex_8e157
  repeat' split
  all_goals rfl) (fun _ => pm_some _)
theorem pm_char1 (u : UInt32) (i : Int32) : PMm (f_J1_charAt_3b067 u i) := pm_bd (fun _ => pm_cl (pm_check _ _) (fun _ => pm_bd (fun _ => pm_ckN _ _ (pm_some _))))
theorem pm_char (u : UInt32) (i : Int32) : PMm (f_J0_charAt_5068e u i) := pm_kT (pm_cl (pm_isLatin u) (fun r => fun M => by
  show (if r = 0 then _ else _) = (if r = 0 then _ else _ : Option (Int32 × Mem)).map _
  split
  · unfold kT
    split <;> rfl
  · exact pm_kT (pm_cl (pm_char1 _ _) (fun _ => pm_ckN _ _ (pm_some _))) M))
def chk (u : UInt32) (w : List Nat) : Bool := decide (1 ≤ u.toNat ∧ u.toNat ≤ 18) && decide (w.length ≤ 7) && w.all (fun y => decide (y < 128)) && decide ((f_J0_length_8abf5 u M0).map (fun q => q.1) = some (nI w.length)) && (List.range w.length).all (fun i => decide ((f_J0_charAt_5068e u (nI i) M0).map (fun q => q.1) = some (nI (w.getD i 0))))
theorem sw_of {u : UInt32} {w : List Nat} (h : chk u w = true) : SW u w := by
  unfold chk at h
  simp only [Bool.and_eq_true_iff, decide_eq_true_eq, List.all_eq_true, List.mem_range] at h
  obtain ⟨⟨⟨⟨h1, h2⟩, h3⟩, h4⟩, h5⟩ := h
  refine ⟨h1, ⟨h2, h3⟩, fun M => ?_, fun M i hi => ?_⟩
  · rw [pm_length u M]
    cases hq : f_J0_length_8abf5 u M0 with
    | none => rw [hq] at h4; cases h4
    | some q =>
      rw [hq] at h4
      have : q.1 = nI w.length := Option.some.inj h4
      show some (q.1, M) = _
      rw [this]
  · have h5 := h5 i hi
    rw [pm_char u (nI i) M]
    cases hq : f_J0_charAt_5068e u (nI i) M0 with
    | none => rw [hq] at h5; cases h5
    | some q =>
      rw [hq] at h5
      have : q.1 = nI (w.getD i 0) := Option.some.inj h5
      show some (q.1, M) = _
      rw [this]
def w_ship : List Nat := [115, 104, 105, 112]
theorem sw_ship : SW 1 w_ship := sw_of (by decide +kernel)
def w_joke : List Nat := [106, 111, 107, 101]
theorem sw_joke : SW 2 w_joke := sw_of (by decide +kernel)
def w_cargo : List Nat := [99, 97, 114, 103, 111]
theorem sw_cargo : SW 3 w_cargo := sw_of (by decide +kernel)
def w_keeps : List Nat := [107, 101, 101, 112, 115]
theorem sw_keeps : SW 4 w_keeps := sw_of (by decide +kernel)
def w_like : List Nat := [108, 105, 107, 101]
theorem sw_like : SW 5 w_like := sw_of (by decide +kernel)
def w_fresh : List Nat := [102, 114, 101, 115, 104]
theorem sw_fresh : SW 6 w_fresh := sw_of (by decide +kernel)
def w_known : List Nat := [107, 110, 111, 119, 110]
theorem sw_known : SW 7 w_known := sw_of (by decide +kernel)
def w_waiting : List Nat := [119, 97, 105, 116, 105, 110, 103]
theorem sw_waiting : SW 8 w_waiting := sw_of (by decide +kernel)
def w_since : List Nat := [115, 105, 110, 99, 101]
theorem sw_since : SW 9 w_since := sw_of (by decide +kernel)
def w_passed : List Nat := [112, 97, 115, 115, 101, 100]
theorem sw_passed : SW 10 w_passed := sw_of (by decide +kernel)
def w_tide : List Nat := [116, 105, 100, 101]
theorem sw_tide : SW 11 w_tide := sw_of (by decide +kernel)
def w_not : List Nat := [110, 111, 116]
theorem sw_not : SW 12 w_not := sw_of (by decide +kernel)
def w_and : List Nat := [97, 110, 100]
theorem sw_and : SW 13 w_and := sw_of (by decide +kernel)
def w_or : List Nat := [111, 114]
theorem sw_or : SW 14 w_or := sw_of (by decide +kernel)
def w_bar : List Nat := [98, 97, 114]
theorem sw_bar : SW 15 w_bar := sw_of (by decide +kernel)
def w_knows : List Nat := [107, 110, 111, 119, 115]
theorem sw_knows : SW 16 w_knows := sw_of (by decide +kernel)
def w_tell : List Nat := [116, 101, 108, 108]
theorem sw_tell : SW 17 w_tell := sw_of (by decide +kernel)
def w_if : List Nat := [105, 102]
theorem sw_if : SW 18 w_if := sw_of (by decide +kernel)
