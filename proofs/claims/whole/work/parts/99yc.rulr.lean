/-! THE REFERENCE: values and sums of a rule -/
def FE (m i e : Nat) (M M' : Mem) : Prop := mS M' = mS M ∧ mR M' = mR M ∧ (∀ a, a ≠ m → a < m + 18 ∨ m + 19 < a → mI M' a = mI M a) ∧ (∀ k, k ≠ 18 → k ≠ 19 → k ≠ 22 → k ≠ 24 → mI M' m k = mI M m k) ∧ ∀ j, j < 300 * i + e ∨ 300 * i + 300 ≤ j → mI M' (m + 18) j = mI M (m + 18) j ∧ mI M' (m + 19) j = mI M (m + 19) j
section RFE
variable {m i e e' : Nat} {M M1 M2 M3 M' : Mem}
theorem FE.rf (m i e : Nat) (M : Mem) : FE m i e M M := ⟨rfl, rfl, fun _ _ _ => rfl, fun _ _ _ _ _ => rfl, fun _ _ => ⟨rfl, rfl⟩⟩
theorem FE.tr (h1 : FE m i e M1 M2) (h2 : FE m i e' M2 M3) (he : e ≤ e') : FE m i e M1 M3 := ⟨h2.1.trans h1.1, h2.2.1.trans h1.2.1, fun a a1 a2 => (h2.2.2.1 a a1 a2).trans (h1.2.2.1 a a1 a2), fun k k1 k2 k3 k4 => (h2.2.2.2.1 k k1 k2 k3 k4).trans (h1.2.2.2.1 k k1 k2 k3 k4), fun j hj => ⟨(h2.2.2.2.2 j (by omega)).1.trans (h1.2.2.2.2 j hj).1, (h2.2.2.2.2 j (by omega)).2.trans (h1.2.2.2.2 j hj).2⟩⟩
theorem FE.RI (h : FE m i e M M') (hR : RIs (mS M) (mR M) m) : RIs (mS M') (mR M') m := by rw [h.1, h.2.1]; exact hR
theorem FE.tp {t : TP} (h : FE m i e M M') (ht : RTp M m t) : RTp M' m t := ⟨(h.2.2.2.1 17 (by decide) (by decide) (by decide) (by decide)).trans ht.1, by rw [h.2.2.1 (m + 17) (by omega) (by omega)]; exact ht.2⟩
theorem FE.ws (M : Mem) {k : Nat} (hk : k = 18 ∨ k = 19 ∨ k = 22 ∨ k = 24) (v : Int32) : FE m i e M (sI M m k v) := ⟨rfl, rfl, fun a h _ => sI_row h, fun j j1 j2 j3 j4 => by rw [mI_sI, if_neg (by omega)], fun j _ => by rw [sI_row (by omega), sI_row (by omega)]; exact ⟨rfl, rfl⟩⟩
theorem FM.FE (h : FM m M M') : FE m i e M M' := ⟨h.1, h.2.1, fun a a1 _ => h.2.2.1 a a1, fun k k1 k2 _ _ => h.2.2.2 k k1 k2, fun j _ => by rw [h.2.2.1 (m + 18) (by omega), h.2.2.1 (m + 19) (by omega)]; exact ⟨rfl, rfl⟩⟩
theorem FE.g {a : Nat} {F : List (Nat × Nat)} (h : FE m i e M M') (hF : FG M m i a F) (ha : a + F.length ≤ e) : FG M' m i a F := fun j hj => by
  have := h.2.2.2.2 (300 * i + a + j) (by omega)
  rw [this.1, this.2]
  exact hF j hj
def enM (M : Mem) (m i e k n : Nat) : Mem := sI (sI (sI M (m + 18) (300 * i + e) (nI k)) (m + 19) (300 * i + e) (nI n)) m 22 (nI (e + 1))
theorem enM_F (M : Mem) (k n : Nat) (he : e < 300) : FE m i e M (enM M m i e k n) := by
  refine ⟨rfl, rfl, fun a a1 a2 => ?_, fun j j1 j2 j3 j4 => ?_, fun j hj => ⟨?_, ?_⟩⟩
  · unfold enM; rw [sI_row a1, sI_row (by omega), sI_row (by omega)]
  · unfold enM; rw [mI_sI, if_neg (by omega), sI_row (by omega), sI_row (by omega)]
  · unfold enM; rw [sI_row (by omega), sI_row (by omega), mI_sI, if_neg (by omega)]
  · unfold enM; rw [sI_row (by omega), mI_sI, if_neg (by omega), sI_row (by omega)]
theorem enM_m (M : Mem) (k n j : Nat) : mI (enM M m i e k n) m j = if j = 22 then nI (e + 1) else mI M m j := by
  unfold enM
  rw [mI_sI]
  by_cases h : j = 22
  · rw [if_pos ⟨rfl, h⟩, if_pos h]
  · rw [if_neg (fun z => h z.2), if_neg h, sI_row (by omega), sI_row (by omega)]
theorem enM_g (M : Mem) (k n : Nat) : FG (enM M m i e k n) m i e [(k, n)] := fun j hj => by
  have hj : j < 1 := hj
  have : j = 0 := by omega
  subst this
  rw [Nat.add_zero]
  unfold enM
  refine ⟨?_, ?_⟩
  · rw [sI_row (by omega), sI_row (by omega), mI_sI, if_pos ⟨rfl, rfl⟩]; rfl
  · rw [sI_row (by omega), mI_sI, if_pos ⟨rfl, rfl⟩]; rfl
theorem FG.app {a : Nat} {F G : List (Nat × Nat)} (h1 : FG M m i a F) (h2 : FG M m i (a + F.length) G) : FG M m i a (F ++ G) := fun j hj => by
  rw [List.length_append] at hj
  by_cases c : j < F.length
  · have e : (F ++ G).getD j (0, 0) = F.getD j (0, 0) := by rw [List.getD_eq_getElem?_getD, List.getD_eq_getElem?_getD, List.getElem?_append_left c]
    rw [e]
    exact h1 j c
  · have e : (F ++ G).getD j (0, 0) = G.getD (j - F.length) (0, 0) := by rw [List.getD_eq_getElem?_getD, List.getD_eq_getElem?_getD, List.getElem?_append_right (by omega)]
    rw [e]
    have := h2 (j - F.length) (by omega)
    rw [show 300 * i + (a + F.length) + (j - F.length) = 300 * i + a + j by omega] at this
    exact this
theorem r_entry (hR : RIs (mS M) (mR M) m) {k n : Nat} (hi : i < 6) (he : e < 300) (h19 : mI M m 19 = nI 0) (h20 : mI M m 20 = nI i) (h22 : mI M m 22 = nI e) : f_X10_entry m (nI k) (nI n) M = some ((), enM M m i e k n) := by
  obtain ⟨M1, hM1⟩ : ∃ M1, M1 = sI M (m + 18) (300 * i + e) (nI k) := ⟨_, rfl⟩
  obtain ⟨M2, hM2⟩ : ∃ M2, M2 = sI M1 (m + 19) (300 * i + e) (nI n) := ⟨_, rfl⟩
  have hR1 : RIs (mS M1) (mR M1) m := by rw [hM1]; exact hR
  have hR2 : RIs (mS M2) (mR M2) m := by rw [hM2]; exact hR1
  have a20 : mI M1 m 20 = nI i := by rw [hM1, sI_row (by omega)]; exact h20
  have a22 : mI M1 m 22 = nI e := by rw [hM1, sI_row (by omega)]; exact h22
  have b22 : mI M2 m 22 = nI e := by rw [hM2, sI_row (by omega)]; exact a22
  unfold f_X10_entry f_X10_entry_J55
  repeat (first | ((with_reducible apply clt_t); case h => (simp (disch := omega) only [hR]; with_reducible rfl)) | ((with_reducible apply bnd_t); case h => (simp (disch := omega) only [e_gR, e_gI, e_aI, e_aL, e_oO, e_pI, e_wI, e_wL, Option.map_some, mS_sL, mR_sL, mI_sL, mS_sI, mR_sI, mL_sI, n_cl, ro_m hR, h19]; with_reducible rfl)) | rw [nm_eq])
  rw [if_pos (show nI 0 = 0 from rfl)]
  repeat (first | ((with_reducible apply clt_t); case h => (simp (disch := omega) only [hR]; with_reducible rfl)) | ((with_reducible apply bnd_t); case h => (simp (disch := omega) only [e_gR, e_gI, e_aI, e_aL, e_oO, e_pI, e_wI, e_wL, Option.map_some, mS_sL, mR_sL, mI_sL, mS_sI, mR_sI, mL_sI, n_cl, ro_m hR, rr_sort hR, h20, h22, n_mul, n_add, rx_sort hR, ← hM1]; with_reducible rfl)) | rw [nm_eq])
  repeat (first | ((with_reducible apply clt_t); case h => (simp (disch := omega) only [hR]; with_reducible rfl)) | ((with_reducible apply bnd_t); case h => (simp (disch := omega) only [e_gR, e_gI, e_aI, e_aL, e_oO, e_pI, e_wI, e_wL, Option.map_some, mS_sL, mR_sL, mI_sL, mS_sI, mR_sI, mL_sI, n_cl, ro_m hR1, rr_number hR1, a20, a22, n_mul, n_add, rx_number hR1, ← hM2]; with_reducible rfl)) | rw [nm_eq])
  repeat (first | ((with_reducible apply clt_t); case h => (simp (disch := omega) only [hR]; with_reducible rfl)) | ((with_reducible apply bnd_t); case h => (simp (disch := omega) only [e_gR, e_gI, e_aI, e_aL, e_oO, e_pI, e_wI, e_wL, Option.map_some, mS_sL, mR_sL, mI_sL, mS_sI, mR_sI, mL_sI, n_cl, ro_m hR2, b22, n_add]; with_reducible rfl)) | rw [nm_eq])
  unfold enM
  rw [← hM1, ← hM2]
theorem r_entry0 (hR : RIs (mS M) (mR M) m) {fa : Nat} (h0 : fa ≠ 0) (hfa : fa < 10000) (h19 : mI M m 19 = nI fa) (k n : Int32) : f_X10_entry m k n M = some ((), M) := by
  unfold f_X10_entry f_X10_entry_J55
  repeat (first | ((with_reducible apply clt_t); case h => (simp (disch := omega) only [hR]; with_reducible rfl)) | ((with_reducible apply bnd_t); case h => (simp (disch := omega) only [e_gR, e_gI, e_aI, e_aL, e_oO, e_pI, e_wI, e_wL, Option.map_some, mS_sL, mR_sL, mI_sL, mS_sI, mR_sI, mL_sI, n_cl, ro_m hR, h19]; with_reducible rfl)) | rw [nm_eq])
  rw [if_neg (by rw [nIz (by omega)]; exact h0)]
def cnM (M : Mem) (m f : Nat) : Mem := sI (sI M m 19 (nI f)) m 24 (mI M m 24 + nI 1)
theorem r_isCounted (hR : RIs (mS M) (mR M) m) {fa s : Nat} (hfa : fa < 10000) (hs : s ≤ 402) (h19 : mI M m 19 = nI fa) : f_X10_isCounted m (nI s) M = some ((), cnM M m (if mI M m 24 = nI 60 then ft1 fa s 3 else fa)) := by
  unfold f_X10_isCounted f_X10_isCounted_J15 cnM
  repeat (first | ((with_reducible apply clt_t); case h => (simp (disch := omega) only [hR]; with_reducible rfl)) | ((with_reducible apply bnd_t); case h => (simp (disch := omega) only [e_gR, e_gI, e_aI, e_aL, e_oO, e_pI, e_wI, e_wL, Option.map_some, mS_sL, mR_sL, mI_sL, mS_sI, mR_sI, mL_sI, n_cl, ro_m hR]; with_reducible rfl)) | rw [nm_eq])
  by_cases h : mI M m 24 = nI 60
  · rw [if_pos h, if_pos h]
    have a1 := r_fails hR (c := 3) hfa hs (by decide) h19
    obtain ⟨M1, hM1⟩ : ∃ M1, M1 = sI M m 19 (nI (ft1 fa s 3)) := ⟨_, rfl⟩
    rw [← hM1] at a1 ⊢
    have hR1 : RIs (mS M1) (mR M1) m := by rw [hM1]; exact hR
    have e24 : mI M1 m 24 = mI M m 24 := by rw [hM1, mI_sI, if_neg (by omega)]
    repeat (first | ((with_reducible apply clt_t); case h => (simp (disch := omega) only [a1]; with_reducible rfl)) | ((with_reducible apply bnd_t); case h => (simp (disch := omega) only [e_gR, e_gI, e_aI, e_aL, e_oO, e_pI, e_wI, e_wL, Option.map_some, mS_sL, mR_sL, mI_sL, mS_sI, mR_sI, mL_sI, n_cl, ro_m hR]; with_reducible rfl)) | rw [nm_eq])
    repeat (first | ((with_reducible apply clt_t); case h => (simp (disch := omega) only [hR]; with_reducible rfl)) | ((with_reducible apply bnd_t); case h => (simp (disch := omega) only [e_gR, e_gI, e_aI, e_aL, e_oO, e_pI, e_wI, e_wL, Option.map_some, mS_sL, mR_sL, mI_sL, mS_sI, mR_sI, mL_sI, n_cl, ro_m hR1, e24]; with_reducible rfl)) | rw [nm_eq])
    rfl
  · rw [if_neg h, if_neg h, sI_id h19]
    repeat (first | ((with_reducible apply clt_t); case h => (simp (disch := omega) only [hR]; with_reducible rfl)) | ((with_reducible apply bnd_t); case h => (simp (disch := omega) only [e_gR, e_gI, e_aI, e_aL, e_oO, e_pI, e_wI, e_wL, Option.map_some, mS_sL, mR_sL, mI_sL, mS_sI, mR_sI, mL_sI, n_cl, ro_m hR]; with_reducible rfl)) | rw [nm_eq])
    rfl
theorem cnM_F (M : Mem) (f : Nat) : FE m i e M (cnM M m f) := (FE.ws M (Or.inr (Or.inl rfl)) _).tr (FE.ws _ (Or.inr (Or.inr (Or.inr rfl))) _) (Nat.le_refl _)
theorem cnM_m (M : Mem) (f j : Nat) : mI (cnM M m f) m j = if j = 24 then mI M m 24 + nI 1 else if j = 19 then nI f else mI M m j := by
  unfold cnM
  rw [mI_sI]
  by_cases h : j = 24
  · rw [if_pos ⟨rfl, h⟩, if_pos h]
  · rw [if_neg (fun z => h z.2), if_neg h, mI_sI]
    by_cases h2 : j = 19
    · rw [if_pos ⟨rfl, h2⟩, if_pos h2]
    · rw [if_neg (fun z => h2 z.2), if_neg h2]
end RFE
def uW (k : Nat) : UInt32 := UInt32.ofNat (k + 1)
theorem uW_sw : ∀ k, k < 11 → SW (uW k) (wLs.getD k []) := by
  intro k hk
  rcases (show k = 0 ∨ k = 1 ∨ k = 2 ∨ k = 3 ∨ k = 4 ∨ k = 5 ∨ k = 6 ∨ k = 7 ∨ k = 8 ∨ k = 9 ∨ k = 10 by omega) with rfl | rfl | rfl | rfl | rfl | rfl | rfl | rfl | rfl | rfl | rfl
  · exact sw_ship
  · exact sw_joke
  · exact sw_cargo
  · exact sw_keeps
  · exact sw_like
  · exact sw_fresh
  · exact sw_known
  · exact sw_waiting
  · exact sw_since
  · exact sw_passed
  · exact sw_tide
theorem r_wordOf {k : Nat} (hk : k < 11) (M : Mem) : f_X10_wordOf (nI k) M = some (uW k, M) := by
  unfold f_X10_wordOf
  rcases (show k = 0 ∨ k = 1 ∨ k = 2 ∨ k = 3 ∨ k = 4 ∨ k = 5 ∨ k = 6 ∨ k = 7 ∨ k = 8 ∨ k = 9 ∨ k = 10 by omega) with rfl | rfl | rfl | rfl | rfl | rfl | rfl | rfl | rfl | rfl | rfl
  · exact tsw_j (lo := 0) (by decide) (by show 0 < 0 + 10; decide) (by decide)
  · exact tsw_j (lo := 0) (by decide) (by show 1 < 0 + 10; decide) (by decide)
  · exact tsw_j (lo := 0) (by decide) (by show 2 < 0 + 10; decide) (by decide)
  · exact tsw_j (lo := 0) (by decide) (by show 3 < 0 + 10; decide) (by decide)
  · exact tsw_j (lo := 0) (by decide) (by show 4 < 0 + 10; decide) (by decide)
  · exact tsw_j (lo := 0) (by decide) (by show 5 < 0 + 10; decide) (by decide)
  · exact tsw_j (lo := 0) (by decide) (by show 6 < 0 + 10; decide) (by decide)
  · exact tsw_j (lo := 0) (by decide) (by show 7 < 0 + 10; decide) (by decide)
  · exact tsw_j (lo := 0) (by decide) (by show 8 < 0 + 10; decide) (by decide)
  · exact tsw_j (lo := 0) (by decide) (by show 9 < 0 + 10; decide) (by decide)
  · exact tsw_n (lo := 0) (Or.inr (by show 0 + 10 ≤ 10; decide)) (by decide)
section RVL
variable {m i e c : Nat} {M : Mem} {t : TP}
/-- how a value ends -/
def VLe (m i e : Nat) (M : Mem) (t : TP) (p fa c : Nat) (M' : Mem) : Prop := FE m i e M M' ∧ mI M' m 19 = nI (if fa = 0 then vlF t p c else fa) ∧ (∃ p', p' ≤ t.1 ∧ mI M' m 18 = nI p') ∧ (fa = 0 → vlF t p c = 0 → (mI M' m 18 = nI (tkE t p) ∧ mI M' m 22 = nI (e + 1) ∧ mI M' m 24 = nI (c + 1)) ∧ ∃ x, eok x ∧ FG M' m i e [x] ∧ ∀ v st, ent1 v x st = some (vlD t p v :: st))
theorem vl_fin (hi : i < 6) (he : e < 300) {M2 : Mem} {p fa p' k n x : Nat} (hfa : fa < 10000) (hp' : p' ≤ t.1) (fr : FE m i e M M2) (hR : RIs (mS M2) (mR M2) m) (hx : x < 10000) (ex : x = if fa = 0 then vlF t p c else fa) (g19 : mI M2 m 19 = nI x) (g18 : mI M2 m 18 = nI p') (g20 : mI M2 m 20 = nI i) (g22 : x = 0 → mI M2 m 22 = nI e)
    (h0 : fa = 0 → vlF t p c = 0 → (p' = tkE t p ∧ mI M2 m 24 = nI (c + 1)) ∧ eok (k, n) ∧ ∀ v st, ent1 v (k, n) st = some (vlD t p v :: st)) : WP (f_X10_entry m (nI k) (nI n) M2) (fun _ M' => VLe m i e M t p fa c M') := by
  by_cases hx0 : x = 0
  · have a1 := r_entry (k := k) (n := n) hR hi he (by rw [g19, hx0]) g20 (g22 hx0)
    refine WP.of a1 ⟨fr.tr (enM_F M2 k n he) (Nat.le_refl _), by rw [enM_m, if_neg (by decide), g19, ex], ⟨p', hp', by rw [enM_m, if_neg (by decide), g18]⟩, fun z1 z2 => ?_⟩
    obtain ⟨⟨b1, b2⟩, b3, b4⟩ := h0 z1 z2
    exact ⟨⟨by rw [enM_m, if_neg (by decide), g18, b1], by rw [enM_m, if_pos rfl], by rw [enM_m, if_neg (by decide), b2]⟩, (k, n), b3, enM_g M2 k n, b4⟩
  · refine WP.of (r_entry0 hR hx0 hx g19 _ _) ⟨fr, by rw [g19, ex], ⟨p', hp', g18⟩, fun z1 z2 => ?_⟩
    exact absurd (by rw [ex, if_pos z1, z2]) hx0
theorem x_value (h4 : TOk2 t) (hi : i < 6) (he : e < 300) {p fa : Nat} (hpl : p ≤ t.1) (hfa : fa < 10000) (hR : RIs (mS M) (mR M) m) (ht : RTp M m t) (h18 : mI M m 18 = nI p) (h19 : mI M m 19 = nI fa) (h20 : mI M m 20 = nI i) (h26 : mI M m 26 = nI 11) (h0 : fa = 0 → mI M m 22 = nI e ∧ mI M m 24 = nI c ∧ c ≤ 60) : WP (f_X10_value m M) (fun _ M' => VLe m i e M t p fa c M') := by
  have hL := h4.1
  have hb : bk t p ≤ t.1 := bk_le hpl
  have a1 := r_blanks hR ht h4 h18 (by omega)
  obtain ⟨M1, hM1⟩ : ∃ M1, M1 = sI M m 18 (nI (bk t p)) := ⟨_, rfl⟩
  rw [← hM1] at a1
  have f1 : FM m M M1 := by rw [hM1]; exact FM.w m M (Or.inl rfl) _
  have hR1 := f1.RI hR
  have t1 := f1.tp ht
  have e18 : mI M1 m 18 = nI (bk t p) := by rw [hM1, mI_sI, if_pos ⟨rfl, rfl⟩]
  have ek : ∀ k, k ≠ 18 → mI M1 m k = mI M m k := fun k hk => by rw [hM1, mI_sI, if_neg (by omega)]
  have e19 : mI M1 m 19 = nI fa := by rw [ek 19 (by decide)]; exact h19
  have a2 := r_isDigit hR1 t1 h4 e18 (by omega)
  unfold f_X10_value
  repeat (first | ((with_reducible apply WP.ce); case h => (simp (disch := omega) only [a1]; with_reducible rfl)) | ((with_reducible apply WP.bd); case h => (simp (disch := omega) only [e_gR, e_gI, e_aI, e_aL, e_oO, e_pI, e_wI, e_wL, Option.map_some, mS_sL, mR_sL, mI_sL, mS_sI, mR_sI, mL_sI, n_cl, ro_m hR]; with_reducible rfl)) | rw [nm_eq] | rw [ckZ_n1] | rw [ckZ_n0])
  repeat (first | ((with_reducible apply WP.ce); case h => (simp (disch := omega) only [a2]; with_reducible rfl)) | ((with_reducible apply WP.bd); case h => (simp (disch := omega) only [e_gR, e_gI, e_aI, e_aL, e_oO, e_pI, e_wI, e_wL, Option.map_some, mS_sL, mR_sL, mI_sL, mS_sI, mR_sI, mL_sI, n_cl, ro_m hR1, e18]; with_reducible rfl)) | rw [nm_eq] | rw [ckZ_n1] | rw [ckZ_n0])
  cases hd : dgB t (bk t p) with
  | true =>
    have kk : tkK t p = 1 := by rw [tkK_1]; exact hd
    have hE : tkE t p = ru isDg t (bk t p) := by unfold tkE; rw [kk, if_neg (by decide), if_pos rfl]
    have hrd := ru_le isDg t hb
    have dl := dgV_lt t (bk t p)
    refine WP.ie (show ¬ bI true = 0 by decide) ?_
    have a3 := r_digits hR1 t1 h4 e18 (by omega) e19 hfa
    rw [hd, if_pos rfl, if_pos rfl] at a3
    obtain ⟨f2, hf2⟩ : ∃ f2, f2 = (if dgs t (bk t p) ≤ 5 then fa else ft1 fa (bk t p) 1) := ⟨_, rfl⟩
    have hf2l : f2 < 10000 := by rw [hf2]; unfold ft1; split <;> (try split) <;> omega
    rw [← hf2] at a3
    obtain ⟨M2, hM2⟩ : ∃ M2, M2 = wPF M1 m (ru isDg t (bk t p)) f2 := ⟨_, rfl⟩
    rw [← hM2] at a3
    have fr2 : FM m M M2 := f1.tr (by rw [hM2]; exact FM.wPF m M1 _ _)
    have hR2 := fr2.RI hR
    have gk : ∀ k, k ≠ 18 → k ≠ 19 → mI M2 m k = mI M m k := fun k k1 k2 => fr2.2.2.2 k k1 k2
    have g19 : mI M2 m 19 = nI f2 := by rw [hM2, wPF_f, if_pos rfl]
    have g18 : mI M2 m 18 = nI (ru isDg t (bk t p)) := by rw [hM2, wPF_f, if_neg (by decide), if_pos rfl]
    have a4 := r_isCounted hR2 (s := bk t p) hf2l (by omega) g19
    obtain ⟨f3, hf3⟩ : ∃ f3, f3 = (if mI M2 m 24 = nI 60 then ft1 f2 (bk t p) 3 else f2) := ⟨_, rfl⟩
    have hf3l : f3 < 10000 := by rw [hf3]; unfold ft1; split <;> (try split) <;> omega
    rw [← hf3] at a4
    have fr3 : FE m i e M (cnM M2 m f3) := (FM.FE fr2).tr (cnM_F M2 f3) (Nat.le_refl _)
    have hR3 := fr3.RI hR
    repeat (first | ((with_reducible apply WP.ce); case h => (simp (disch := omega) only [a3]; with_reducible rfl)) | ((with_reducible apply WP.bd); case h => (simp (disch := omega) only [e_gR, e_gI, e_aI, e_aL, e_oO, e_pI, e_wI, e_wL, Option.map_some, mS_sL, mR_sL, mI_sL, mS_sI, mR_sI, mL_sI, n_cl, ro_m hR1]; with_reducible rfl)) | rw [nm_eq] | rw [ckZ_n1] | rw [ckZ_n0])
    repeat (first | ((with_reducible apply WP.ce); case h => (simp (disch := omega) only [a4]; with_reducible rfl)) | ((with_reducible apply WP.bd); case h => (simp (disch := omega) only [e_gR, e_gI, e_aI, e_aL, e_oO, e_pI, e_wI, e_wL, Option.map_some, mS_sL, mR_sL, mI_sL, mS_sI, mR_sI, mL_sI, n_cl, ro_m hR2]; with_reducible rfl)) | rw [nm_eq] | rw [ckZ_n1] | rw [ckZ_n0])
    have o3 : oS (mS (cnM M2 m f3)) 10 (some m) = some m := ro_m hR3
    repeat (first | ((with_reducible apply WP.ce); case h => (simp (disch := omega) only []; with_reducible rfl)) | ((with_reducible apply WP.bd); case h => (simp (disch := omega) only [e_gR, e_gI, e_aI, e_aL, e_oO, e_pI, e_wI, e_wL, Option.map_some, mS_sL, mR_sL, mI_sL, mS_sI, mR_sI, mL_sI, n_cl, o3]; with_reducible rfl)) | rw [nm_eq] | rw [ckZ_n1] | rw [ckZ_n0])
    have ex : f3 = if fa = 0 then vlF t p c else fa := by
      by_cases z : fa = 0
      · rw [if_pos z, hf3, gk 24 (by decide) (by decide), (h0 z).2.1]
        have hc60 := (h0 z).2.2
        unfold vlF
        rw [if_pos kk, hf2]
        by_cases h5 : dgs t (bk t p) ≤ 5
        · rw [if_pos h5, if_pos h5]
          by_cases c6 : c < 60
          · rw [if_neg (by rw [n_eq (by omega) (by decide)]; omega), if_pos c6]; exact z
          · rw [if_pos (by rw [n_eq (by omega) (by decide)]; omega), if_neg c6]; unfold ft1; rw [if_pos z]
        · rw [if_neg h5, if_neg h5]
          have q1 : ft1 fa (bk t p) 1 = 1 + 8 * bk t p + 1 := by unfold ft1; rw [if_pos z]
          have q2 : ft1 (1 + 8 * bk t p + 1) (bk t p) 3 = 1 + 8 * bk t p + 1 := by unfold ft1; rw [if_neg (by omega)]
          rw [q1, q2]
          split <;> rfl
      · rw [if_neg z, hf3, hf2]
        unfold ft1
        rw [if_neg z]
        have : (if dgs t (bk t p) ≤ 5 then fa else fa) = fa := by split <;> rfl
        rw [this, if_neg z]
        split <;> rfl
    refine WP.cw (vl_fin (M := M) (k := 0) (n := dgV t (bk t p)) hi he hfa hrd fr3 hR3 hf3l ex (by rw [cnM_m, if_neg (by decide), if_pos rfl]) (by rw [cnM_m, if_neg (by decide), if_neg (by decide), g18]) (by rw [cnM_m, if_neg (by decide), if_neg (by decide), gk 20 (by decide) (by decide), h20]) ?_ ?_) (fun _ M' c => WP.ret c)
    · intro z
      have z0 : fa = 0 := by
        by_cases q : fa = 0
        · exact q
        · rw [ex, if_neg q] at z; exact z
      rw [cnM_m, if_neg (by decide), if_neg (by decide), gk 22 (by decide) (by decide)]
      exact (h0 z0).1
    · intro z1 z2
      have h5 : dgs t (bk t p) ≤ 5 := by
        unfold vlF at z2
        rw [if_pos kk] at z2
        split at z2
        · assumption
        · omega
      refine ⟨⟨hE.symm, ?_⟩, ⟨Or.inl rfl, dl, fun z => absurd z (show ¬ 0 = 1 by decide)⟩, fun v st => ?_⟩
      · rw [cnM_m, if_pos rfl, gk 24 (by decide) (by decide), (h0 z1).2.1, n_add]
      · show some (Int32.toInt64 (nI (dgV t (bk t p))) :: st) = some (vlD t p v :: st)
        unfold vlD
        rw [if_pos kk]
        have hV : tkV t p = dgV t (bk t p) := by unfold tkV; rw [if_pos kk, if_pos h5]
        rw [hV]
  | false =>
    have nk : tkK t p ≠ 1 := by rw [ne_eq, tkK_1, hd]; decide
    have e26 : mI M1 m 26 = nI 11 := by rw [ek 26 (by decide)]; exact h26
    refine WP.it rfl ?_
    have lp : ∀ d k f, k + d = 11 → fs (wdB t p) k = none → WP (f_X10_value_L37 m (f + d + 1) (nI (bk t p)) (nI k) M1) (fun _ M' => VLe m i e M t p fa c M') := by
      intro d
      induction d with
      | zero =>
        intro k f hk hn
        have k11 : k = 11 := by omega
        subst k11
        have ew : wdk t p = 11 := by unfold wdk; rw [hn]; rfl
        have ev : vlF t p c = 1 + 8 * bk t p := by unfold vlF; rw [if_neg nk, ew, if_neg (by decide)]
        have a3 := r_fails hR1 (s := bk t p) (c := 0) hfa (by omega) (by decide) e19
        rw [f_X10_value_L37]
        repeat (first | ((with_reducible apply WP.ce); case h => (simp (disch := omega) only []; with_reducible rfl)) | ((with_reducible apply WP.bd); case h => (simp (disch := omega) only [e_gR, e_gI, e_aI, e_aL, e_oO, e_pI, e_wI, e_wL, Option.map_some, mS_sL, mR_sL, mI_sL, mS_sI, mR_sI, mL_sI, n_cl, ro_m hR1, e26]; with_reducible rfl)) | rw [nm_eq] | rw [ckZ_n1] | rw [ckZ_n0])
        refine WP.it (by decide) ?_
        unfold f_X10_value_J62
        repeat (first | ((with_reducible apply WP.ce); case h => (simp (disch := omega) only []; with_reducible rfl)) | ((with_reducible apply WP.bd); case h => (simp (disch := omega) only [e_gR, e_gI, e_aI, e_aL, e_oO, e_pI, e_wI, e_wL, Option.map_some, mS_sL, mR_sL, mI_sL, mS_sI, mR_sI, mL_sI, n_cl, ro_m hR1, e26]; with_reducible rfl)) | rw [nm_eq] | rw [ckZ_n1] | rw [ckZ_n0])
        refine WP.it rfl ?_
        repeat (first | ((with_reducible apply WP.ce); case h => (simp (disch := omega) only [a3]; with_reducible rfl)) | ((with_reducible apply WP.bd); case h => (simp (disch := omega) only [e_gR, e_gI, e_aI, e_aL, e_oO, e_pI, e_wI, e_wL, Option.map_some, mS_sL, mR_sL, mI_sL, mS_sI, mR_sI, mL_sI, n_cl, ro_m hR1]; with_reducible rfl)) | rw [nm_eq] | rw [ckZ_n1] | rw [ckZ_n0])
        refine WP.ret ⟨(FM.FE f1).tr (FE.ws M1 (Or.inr (Or.inl rfl)) _) (Nat.le_refl _), ?_, ⟨bk t p, hb, by rw [mI_sI, if_neg (by omega)]; exact e18⟩, fun z1 z2 => by rw [ev] at z2; omega⟩
        rw [mI_sI, if_pos ⟨rfl, rfl⟩, ev]
        rfl
      | succ d ih =>
        intro k f hk hn
        have hk11 : k < 11 := by omega
        have sw := uW_sw k hk11
        have a3 := r_wordOf hk11 M1
        have a4 := r_stood hR1 t1 h4 e18 (by omega) sw
        rw [show f + (d + 1) + 1 = (f + d + 1) + 1 from by omega, f_X10_value_L37]
        repeat (first | ((with_reducible apply WP.ce); case h => (simp (disch := omega) only []; with_reducible rfl)) | ((with_reducible apply WP.bd); case h => (simp (disch := omega) only [e_gR, e_gI, e_aI, e_aL, e_oO, e_pI, e_wI, e_wL, Option.map_some, mS_sL, mR_sL, mI_sL, mS_sI, mR_sI, mL_sI, n_cl, ro_m hR1, e26]; with_reducible rfl)) | rw [nm_eq] | rw [ckZ_n1] | rw [ckZ_n0])
        refine WP.ie (by rw [n_le (by omega) (by omega)]; omega) ?_
        repeat (first | ((with_reducible apply WP.ce); case h => (simp (disch := omega) only [a3, a4]; with_reducible rfl)) | ((with_reducible apply WP.bd); case h => (simp (disch := omega) only [e_gR, e_gI, e_aI, e_aL, e_oO, e_pI, e_wI, e_wL, Option.map_some, mS_sL, mR_sL, mI_sL, mS_sI, mR_sI, mL_sI, n_cl, ro_m hR1]; with_reducible rfl)) | rw [nm_eq] | rw [ckZ_n1] | rw [ckZ_n0])
        cases hB : wdB t p k with
        | false =>
          have hB' : decide (lts t (bk t p) = wLs.getD k []) = false := hB
          rw [hB']
          refine WP.it rfl ?_
          rw [n_add]
          exact ih (k + 1) f (by omega) (fs_no _ hn hB)
        | true =>
          have hB' : decide (lts t (bk t p) = wLs.getD k []) = true := hB
          have hw : lts t (bk t p) = wLs.getD k [] := of_decide_eq_true hB'
          have ew : wdk t p = k := by unfold wdk; rw [fs_up _ hn hB 11 hk11]; rfl
          have hE := (tkE_w (wLs_ok k hk11).1 hw).2
          have hE2 := (tkE_le hpl).1
          rw [hB']
          refine WP.ie (show ¬ bI true = 0 by decide) ?_
          have a5 := r_isCounted hR1 (s := bk t p) hfa (by omega) e19
          obtain ⟨f3, hf3⟩ : ∃ f3, f3 = (if mI M1 m 24 = nI 60 then ft1 fa (bk t p) 3 else fa) := ⟨_, rfl⟩
          have hf3l : f3 < 10000 := by rw [hf3]; unfold ft1; split <;> (try split) <;> omega
          rw [← hf3] at a5
          obtain ⟨M2, hM2⟩ : ∃ M2, M2 = cnM M1 m f3 := ⟨_, rfl⟩
          rw [← hM2] at a5
          have fr2 : FE m i e M M2 := (FM.FE f1).tr (by rw [hM2]; exact cnM_F M1 f3) (Nat.le_refl _)
          have hR2 := fr2.RI hR
          have g18 : mI M2 m 18 = nI (bk t p) := by rw [hM2, cnM_m, if_neg (by decide), if_neg (by decide)]; exact e18
          have gk : ∀ k, k ≠ 18 → k ≠ 19 → k ≠ 24 → mI M2 m k = mI M m k := fun k k1 k2 k3 => by rw [hM2, cnM_m, if_neg k3, if_neg k2]; exact ek k k1
          have a6 := r_wordOf hk11 M2
          have a7 := sw.2.2.1 M2
          unfold f_X10_value_J62
          repeat (first | ((with_reducible apply WP.ce); case h => (simp (disch := omega) only []; with_reducible rfl)) | ((with_reducible apply WP.bd); case h => (simp (disch := omega) only [e_gR, e_gI, e_aI, e_aL, e_oO, e_pI, e_wI, e_wL, Option.map_some, mS_sL, mR_sL, mI_sL, mS_sI, mR_sI, mL_sI, n_cl, ro_m hR1, e26]; with_reducible rfl)) | rw [nm_eq] | rw [ckZ_n1] | rw [ckZ_n0])
          refine WP.ie (by rw [n_eq (by omega) (by omega)]; omega) ?_
          repeat (first | ((with_reducible apply WP.ce); case h => (simp (disch := omega) only [a5]; with_reducible rfl)) | ((with_reducible apply WP.bd); case h => (simp (disch := omega) only [e_gR, e_gI, e_aI, e_aL, e_oO, e_pI, e_wI, e_wL, Option.map_some, mS_sL, mR_sL, mI_sL, mS_sI, mR_sI, mL_sI, n_cl, ro_m hR1]; with_reducible rfl)) | rw [nm_eq] | rw [ckZ_n1] | rw [ckZ_n0])
          repeat (first | ((with_reducible apply WP.ce); case h => (simp (disch := omega) only [a6]; with_reducible rfl)) | ((with_reducible apply WP.bd); case h => (simp (disch := omega) only [e_gR, e_gI, e_aI, e_aL, e_oO, e_pI, e_wI, e_wL, Option.map_some, mS_sL, mR_sL, mI_sL, mS_sI, mR_sI, mL_sI, n_cl, ro_m hR2, g18]; with_reducible rfl)) | rw [nm_eq] | rw [ckZ_n1] | rw [ckZ_n0])
          rw [kT_ok sw]
          obtain ⟨M3, hM3⟩ : ∃ M3, M3 = sI M2 m 18 (nI (tkE t p)) := ⟨_, rfl⟩
          have fr3 : FE m i e M M3 := fr2.tr (by rw [hM3]; exact FE.ws M2 (Or.inl rfl) _) (Nat.le_refl _)
          have hR3 := fr3.RI hR
          have k3 : ∀ k, k ≠ 18 → mI M3 m k = mI M2 m k := fun k hk => by rw [hM3, mI_sI, if_neg (by omega)]
          repeat (first | ((with_reducible apply WP.ce); case h => (simp (disch := omega) only [a7]; with_reducible rfl)) | ((with_reducible apply WP.bd); case h => (simp (disch := omega) only [e_gR, e_gI, e_aI, e_aL, e_oO, e_pI, e_wI, e_wL, Option.map_some, mS_sL, mR_sL, mI_sL, mS_sI, mR_sI, mL_sI, n_cl, ro_m hR2, n_add, ← hE, ← hM3]; with_reducible rfl)) | rw [nm_eq] | rw [ckZ_n1] | rw [ckZ_n0])
          repeat (first | ((with_reducible apply WP.ce); case h => (simp (disch := omega) only []; with_reducible rfl)) | ((with_reducible apply WP.bd); case h => (simp (disch := omega) only [e_gR, e_gI, e_aI, e_aL, e_oO, e_pI, e_wI, e_wL, Option.map_some, mS_sL, mR_sL, mI_sL, mS_sI, mR_sI, mL_sI, n_cl, ro_m hR3]; with_reducible rfl)) | rw [nm_eq] | rw [ckZ_n1] | rw [ckZ_n0])
          have ex : f3 = if fa = 0 then vlF t p c else fa := by
            by_cases z : fa = 0
            · rw [if_pos z, hf3, ek 24 (by decide), (h0 z).2.1]
              have hc60 := (h0 z).2.2
              unfold vlF
              rw [if_neg nk, ew, if_pos hk11]
              by_cases c6 : c < 60
              · rw [if_neg (by rw [n_eq (by omega) (by decide)]; omega), if_pos c6]; exact z
              · rw [if_pos (by rw [n_eq (by omega) (by decide)]; omega), if_neg c6]; unfold ft1; rw [if_pos z]
            · rw [if_neg z, hf3]
              unfold ft1
              rw [if_neg z]
              split <;> rfl
          refine WP.cw (vl_fin (M := M) (k := 1) (n := k) hi he hfa hE2 fr3 hR3 hf3l ex (by rw [k3 19 (by decide), hM2, cnM_m, if_neg (by decide), if_pos rfl]) (by rw [hM3, mI_sI, if_pos ⟨rfl, rfl⟩]) (by rw [k3 20 (by decide), gk 20 (by decide) (by decide) (by decide), h20]) ?_ ?_) (fun _ M' c => WP.ret c)
          · intro z
            have z0 : fa = 0 := by
              by_cases q : fa = 0
              · exact q
              · rw [ex, if_neg q] at z; exact z
            rw [k3 22 (by decide), gk 22 (by decide) (by decide) (by decide)]
            exact (h0 z0).1
          · intro z1 z2
            refine ⟨⟨rfl, ?_⟩, ⟨Or.inr (Or.inl rfl), by show k < 100000; omega, fun _ => hk11⟩, fun v st => ?_⟩
            · rw [k3 24 (by decide), hM2, cnM_m, if_pos rfl, ek 24 (by decide), (h0 z1).2.1, n_add]
            · show some (v k :: st) = some (vlD t p v :: st)
              unfold vlD
              rw [if_neg nk, ew]
    obtain ⟨f, hf⟩ := FUd 11 (by omega)
    rw [hf]
    exact lp 11 0 f rfl rfl
end RVL
