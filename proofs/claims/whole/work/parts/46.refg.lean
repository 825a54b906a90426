/-! rows copied -/
def cpR (f g : Nat → Int32) (p n : Nat) : Nat → Int32 := fun i => if p ≤ i ∧ i < p + n then g (i - p) else f i
theorem cpR_0 (f g : Nat → Int32) (p : Nat) : cpR f g p 0 = f := by funext i; unfold cpR; rw [if_neg (by omega)]
theorem cpR_s (f g : Nat → Int32) (p k : Nat) : upd (cpR f g p k) (p + k) (g k) = cpR f g p (k + 1) := by
  funext i
  by_cases h : i = p + k
  · subst h; rw [upd_s]; unfold cpR; rw [if_pos (by omega), show p + k - p = k by omega]
  · rw [upd_o _ _ h]; unfold cpR
    by_cases h2 : p ≤ i ∧ i < p + k
    · rw [if_pos h2, if_pos (by omega)]
    · rw [if_neg h2, if_neg (by omega)]
theorem cpR_i (f g : Nat → Int32) {p n i : Nat} (h : i < n) : cpR f g p n (p + i) = g i := by unfold cpR; rw [if_pos (by omega), show p + i - p = i by omega]
theorem cpR_z (f g : Nat → Int32) {n i : Nat} (h : i < n) : cpR f g 0 n i = g i := by unfold cpR; rw [if_pos (by omega)]; rfl
theorem cpR_o (f g : Nat → Int32) {p n i : Nat} (h : i < p ∨ p + n ≤ i) : cpR f g p n i = f i := by unfold cpR; rw [if_neg (by omega)]
theorem cpR_self (f : Nat → Int32) (n : Nat) : cpR f f 0 n = f := by funext i; unfold cpR; split <;> rfl
theorem cpR_back (f : Nat → Int32) (p n : Nat) : cpR f (fun i => f (p + i)) p n = f := by
  funext i
  unfold cpR
  by_cases h : p ≤ i ∧ i < p + n
  · rw [if_pos h]; show f (p + (i - p)) = f i; congr 1; omega
  · rw [if_neg h]
/-- whole numbers changed in these rows alone -/
def FX (X : List Nat) (M M' : Mem) : Prop := mS M' = mS M ∧ mR M' = mR M ∧ ∀ a, a ∉ X → mI M' a = mI M a
theorem FX.rf (X : List Nat) (M : Mem) : FX X M M := ⟨rfl, rfl, fun _ _ => rfl⟩
theorem FX.tr {X : List Nat} {M1 M2 M3 : Mem} (h1 : FX X M1 M2) (h2 : FX X M2 M3) : FX X M1 M3 := ⟨h2.1.trans h1.1, h2.2.1.trans h1.2.1, fun a h => (h2.2.2 a h).trans (h1.2.2 a h)⟩
theorem FX.up {X Y : List Nat} {M M' : Mem} (h : FX X M M') (hs : ∀ a, a ∈ X → a ∈ Y) : FX Y M M' := ⟨h.1, h.2.1, fun a ha => h.2.2 a (fun z => ha (hs a z))⟩
theorem FX.RI {X : List Nat} {m : Nat} {M M' : Mem} (h : FX X M M') (hR : RIs (mS M) (mR M) m) : RIs (mS M') (mR M') m := by rw [h.1, h.2.1]; exact hR
theorem FX.sI {X : List Nat} {M M' : Mem} (h : FX X M M') {a : Nat} (ha : a ∈ X) (k : Nat) (v : Int32) : FX X M (sI M' a k v) := ⟨h.1, h.2.1, fun b hb => by
  rw [sI_row (fun z => hb (by rw [z]; exact ha))]; exact h.2.2 b hb⟩
theorem r_carL {m a n p : Nat} {M : Mem} (hR : RIs (mS M) (mR M) m) (hl : lnS (mS M) (some a) = some (nI n)) (hx : ∀ i, i < n → ixS (mS M) 0 (some a) (nI i) = some a) (ha : a ≠ m + 35) (ha2 : a ≠ m) (hn : n ≤ 400) (hp : p + n ≤ 3000) (h53 : mI M m 53 = nI 0) :
    ∀ d k f (M' : Mem), k + d = n → FX [m, m + 35] M M' → mI M' m = upd (mI M m) 52 (nI (p + k)) → mI M' (m + 35) = cpR (mI M (m + 35)) (mI M a) p k →
    WP (f_X10_carryRow_L2 m (f + d + 1) (some a) (nI k) M') (fun _ M2 => FX [m, m + 35] M M2 ∧ mI M2 m = upd (mI M m) 52 (nI (p + n)) ∧ mI M2 (m + 35) = cpR (mI M (m + 35)) (mI M a) p n) := by
  intro d
  induction d with
  | zero =>
    intro k f M' hk hF h1 h2
    have hk : k = n := by omega
    subst hk
    have hl' : lnS (mS M') (some a) = some (nI k) := by rw [hF.1]; exact hl
    rw [f_X10_carryRow_L2]
    repeat (first | refine WP.ce (by (simp (disch := omega) only []; with_reducible rfl)) ?_ | refine WP.bd (by (simp (disch := omega) only [e_gR, e_gI, e_aI, e_aL, e_oO, e_pI, e_wI, e_wL, Option.map_some, mS_sL, mR_sL, mI_sL, mS_sI, mR_sI, mL_sI, n_cl, e_lnA, hl']; with_reducible rfl)) ?_ | rw [nm_eq])
    refine WP.it (by rw [n_le (by omega) (by omega)]; omega) ?_
    exact WP.ret ⟨hF, h1, h2⟩
  | succ d ih =>
    intro k f M' hk hF h1 h2
    have hl' : lnS (mS M') (some a) = some (nI n) := by rw [hF.1]; exact hl
    have hx' : ixS (mS M') 0 (some a) (nI k) = some a := by rw [hF.1]; exact hx k (by omega)
    have hR' := hF.RI hR
    have g53 : mI M' m 53 = nI 0 := by rw [h1, upd_o _ _ (by decide)]; exact h53
    have g52 : mI M' m 52 = nI (p + k) := by rw [h1, upd_s]
    have ga : mI M' a k = mI M a k := by rw [hF.2.2 a (by simp [ha, ha2])]
    obtain ⟨M1, hM1⟩ : ∃ M1, M1 = sI M' (m + 35) (p + k) (mI M a k) := ⟨_, rfl⟩
    have hS1 : mS M1 = mS M' := by rw [hM1]; rfl
    have hR1 : RIs (mS M1) (mR M1) m := by rw [hM1]; exact hR'
    have k52 : mI M1 m 52 = nI (p + k) := by rw [hM1, sI_row (by omega)]; exact g52
    rw [show f + (d + 1) + 1 = (f + d + 1) + 1 from by omega, f_X10_carryRow_L2]
    repeat (first | refine WP.ce (by (simp (disch := omega) only []; with_reducible rfl)) ?_ | refine WP.bd (by (simp (disch := omega) only [e_gR, e_gI, e_aI, e_aL, e_oO, e_pI, e_wI, e_wL, Option.map_some, mS_sL, mR_sL, mI_sL, mS_sI, mR_sI, mL_sI, n_cl, e_lnA, hl']; with_reducible rfl)) ?_ | rw [nm_eq])
    refine WP.ie (by rw [n_le (by omega) (by omega)]; omega) ?_
    repeat (first | refine WP.ce (by (simp (disch := omega) only []; with_reducible rfl)) ?_ | refine WP.bd (by (simp (disch := omega) only [e_gR, e_gI, e_aI, e_aL, e_oO, e_pI, e_wI, e_wL, Option.map_some, mS_sL, mR_sL, mI_sL, mS_sI, mR_sI, mL_sI, n_cl, ro_m hR', g53]; with_reducible rfl)) ?_ | rw [nm_eq])
    unfold f_X10_carryRow_J42
    repeat (first | refine WP.ce (by (simp (disch := omega) only []; with_reducible rfl)) ?_ | refine WP.bd (by (simp (disch := omega) only [e_gR, e_gI, e_aI, e_aL, e_oO, e_pI, e_wI, e_wL, Option.map_some, mS_sL, mR_sL, mI_sL, mS_sI, mR_sI, mL_sI, n_cl, ro_m hR', rr_images hR', rx_images hR', g52, hx', ga, ← hM1]; with_reducible rfl)) ?_ | rw [nm_eq])
    repeat (first | refine WP.ce (by (simp (disch := omega) only []; with_reducible rfl)) ?_ | refine WP.bd (by (simp (disch := omega) only [e_gR, e_gI, e_aI, e_aL, e_oO, e_pI, e_wI, e_wL, Option.map_some, mS_sL, mR_sL, mI_sL, mS_sI, mR_sI, mL_sI, n_cl, ro_m hR1, k52, n_add]; with_reducible rfl)) ?_ | rw [nm_eq])
    rw [n_add]
    refine ih (k + 1) f _ (by omega) (FX.sI (by rw [hM1]; exact hF.sI (by simp) _ _) (by simp) _ _) ?_ ?_
    · rw [mI_sI_s, hM1, sI_row (by omega), h1]
      funext i
      by_cases hi : i = 52
      · subst hi; rw [upd_s, upd_s]; rw [Nat.add_assoc]
      · rw [upd_o _ _ hi, upd_o _ _ hi, upd_o _ _ hi]
    · rw [sI_row (by omega), hM1, mI_sI_s, h2, cpR_s]
theorem r_carF {m a n p : Nat} {M : Mem} (hR : RIs (mS M) (mR M) m) (hl : lnS (mS M) (some a) = some (nI n)) (hx : ∀ i, i < n → ixS (mS M) 0 (some a) (nI i) = some a) (ha : a ≠ m + 35) (ha2 : a ≠ m) (hn : n ≤ 400) (hp : p + n ≤ 3000) (h53 : mI M m 53 = nI 0) (h52 : mI M m 52 = nI p) :
    WP (f_X10_carryRow m (some a) M) (fun _ M2 => FX [m, m + 35] M M2 ∧ mI M2 m = upd (mI M m) 52 (nI (p + n)) ∧ mI M2 (m + 35) = cpR (mI M (m + 35)) (mI M a) p n) := by
  obtain ⟨f, hf⟩ := FUd n (by omega)
  rw [f_X10_carryRow, hf]
  refine r_carL hR hl hx ha ha2 hn hp h53 n 0 f M (by omega) (FX.rf _ M) ?_ (cpR_0 _ _ _).symm
  funext i
  by_cases hi : i = 52
  · subst hi; rw [upd_s]; exact h52
  · rw [upd_o _ _ hi]
theorem r_carBL {m a n p : Nat} {M : Mem} (hR : RIs (mS M) (mR M) m) (hl : lnS (mS M) (some a) = some (nI n)) (hx : ∀ i, i < n → ixS (mS M) 0 (some a) (nI i) = some a) (ha : a ≠ m + 35) (ha2 : a ≠ m) (hn : n ≤ 400) (hp : p + n ≤ 3000) (h53 : mI M m 53 = nI 1) :
    ∀ d k f (M' : Mem), k + d = n → FX [m, a] M M' → mI M' m = upd (mI M m) 52 (nI (p + k)) → mI M' a = cpR (mI M a) (fun i => mI M (m + 35) (p + i)) 0 k →
    WP (f_X10_carryRow_L2 m (f + d + 1) (some a) (nI k) M') (fun _ M2 => FX [m, a] M M2 ∧ mI M2 m = upd (mI M m) 52 (nI (p + n)) ∧ mI M2 a = cpR (mI M a) (fun i => mI M (m + 35) (p + i)) 0 n) := by
  intro d
  induction d with
  | zero =>
    intro k f M' hk hF h1 h2
    have hk : k = n := by omega
    subst hk
    have hl' : lnS (mS M') (some a) = some (nI k) := by rw [hF.1]; exact hl
    rw [f_X10_carryRow_L2]
    repeat (first | refine WP.ce (by (simp (disch := omega) only []; with_reducible rfl)) ?_ | refine WP.bd (by (simp (disch := omega) only [e_gR, e_gI, e_aI, e_aL, e_oO, e_pI, e_wI, e_wL, Option.map_some, mS_sL, mR_sL, mI_sL, mS_sI, mR_sI, mL_sI, n_cl, e_lnA, hl']; with_reducible rfl)) ?_ | rw [nm_eq])
    refine WP.it (by rw [n_le (by omega) (by omega)]; omega) ?_
    exact WP.ret ⟨hF, h1, h2⟩
  | succ d ih =>
    intro k f M' hk hF h1 h2
    have hl' : lnS (mS M') (some a) = some (nI n) := by rw [hF.1]; exact hl
    have hx' : ixS (mS M') 0 (some a) (nI k) = some a := by rw [hF.1]; exact hx k (by omega)
    have hR' := hF.RI hR
    have g53 : mI M' m 53 = nI 1 := by rw [h1, upd_o _ _ (by decide)]; exact h53
    have g52 : mI M' m 52 = nI (p + k) := by rw [h1, upd_s]
    have ga : mI M' (m + 35) (p + k) = mI M (m + 35) (p + k) := by rw [hF.2.2 (m + 35) (by simp; omega)]
    obtain ⟨M1, hM1⟩ : ∃ M1, M1 = sI M' a k (mI M (m + 35) (p + k)) := ⟨_, rfl⟩
    have hR1 : RIs (mS M1) (mR M1) m := by rw [hM1]; exact hR'
    have k52 : mI M1 m 52 = nI (p + k) := by rw [hM1, sI_row (by omega)]; exact g52
    rw [show f + (d + 1) + 1 = (f + d + 1) + 1 from by omega, f_X10_carryRow_L2]
    repeat (first | refine WP.ce (by (simp (disch := omega) only []; with_reducible rfl)) ?_ | refine WP.bd (by (simp (disch := omega) only [e_gR, e_gI, e_aI, e_aL, e_oO, e_pI, e_wI, e_wL, Option.map_some, mS_sL, mR_sL, mI_sL, mS_sI, mR_sI, mL_sI, n_cl, e_lnA, hl']; with_reducible rfl)) ?_ | rw [nm_eq])
    refine WP.ie (by rw [n_le (by omega) (by omega)]; omega) ?_
    repeat (first | refine WP.ce (by (simp (disch := omega) only []; with_reducible rfl)) ?_ | refine WP.bd (by (simp (disch := omega) only [e_gR, e_gI, e_aI, e_aL, e_oO, e_pI, e_wI, e_wL, Option.map_some, mS_sL, mR_sL, mI_sL, mS_sI, mR_sI, mL_sI, n_cl, ro_m hR', g53]; with_reducible rfl)) ?_ | rw [nm_eq])
    unfold f_X10_carryRow_J42
    repeat (first | refine WP.ce (by (simp (disch := omega) only []; with_reducible rfl)) ?_ | refine WP.bd (by (simp (disch := omega) only [e_gR, e_gI, e_aI, e_aL, e_oO, e_pI, e_wI, e_wL, Option.map_some, mS_sL, mR_sL, mI_sL, mS_sI, mR_sI, mL_sI, n_cl, ro_m hR', rr_images hR', rx_images hR', g52, hx', ga, ← hM1]; with_reducible rfl)) ?_ | rw [nm_eq])
    repeat (first | refine WP.ce (by (simp (disch := omega) only []; with_reducible rfl)) ?_ | refine WP.bd (by (simp (disch := omega) only [e_gR, e_gI, e_aI, e_aL, e_oO, e_pI, e_wI, e_wL, Option.map_some, mS_sL, mR_sL, mI_sL, mS_sI, mR_sI, mL_sI, n_cl, ro_m hR1, k52, n_add]; with_reducible rfl)) ?_ | rw [nm_eq])
    rw [n_add]
    refine ih (k + 1) f _ (by omega) (FX.sI (by rw [hM1]; exact hF.sI (by simp) _ _) (by simp) _ _) ?_ ?_
    · rw [mI_sI_s, hM1, sI_row (by omega), h1]
      funext i
      by_cases hi : i = 52
      · subst hi; rw [upd_s, upd_s]; rw [Nat.add_assoc]
      · rw [upd_o _ _ hi, upd_o _ _ hi, upd_o _ _ hi]
    · rw [sI_row ha2, hM1, mI_sI_s, h2]
      have e := cpR_s (mI M a) (fun i => mI M (m + 35) (p + i)) 0 k
      rw [Nat.zero_add] at e
      exact e
theorem r_carB {m a n p : Nat} {M : Mem} (hR : RIs (mS M) (mR M) m) (hl : lnS (mS M) (some a) = some (nI n)) (hx : ∀ i, i < n → ixS (mS M) 0 (some a) (nI i) = some a) (ha : a ≠ m + 35) (ha2 : a ≠ m) (hn : n ≤ 400) (hp : p + n ≤ 3000) (h53 : mI M m 53 = nI 1) (h52 : mI M m 52 = nI p) :
    WP (f_X10_carryRow m (some a) M) (fun _ M2 => FX [m, a] M M2 ∧ mI M2 m = upd (mI M m) 52 (nI (p + n)) ∧ mI M2 a = cpR (mI M a) (fun i => mI M (m + 35) (p + i)) 0 n) := by
  obtain ⟨f, hf⟩ := FUd n (by omega)
  rw [f_X10_carryRow, hf]
  refine r_carBL hR hl hx ha ha2 hn hp h53 n 0 f M (by omega) (FX.rf _ M) ?_ (cpR_0 _ _ _).symm
  funext i
  by_cases hi : i = 52
  · subst hi; rw [upd_s]; exact h52
  · rw [upd_o _ _ hi]
