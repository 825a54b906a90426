/-! BOTH: the tape: feed, end -/
variable {O : Mem}
theorem and255 (w : Int32) : ∃ y, y < 256 ∧ w &&& nI 255 = nI y := by
  refine ⟨(w.toBitVec &&& 255#32).toNat, ?_, ?_⟩
  · rw [BitVec.toNat_and]
    have : (255#32).toNat = 255 := by decide
    rw [this]
    exact Nat.lt_of_le_of_lt Nat.and_le_right (by decide)
  · apply Int32.toBitVec_inj.mp
    show w.toBitVec &&& (nI 255).toBitVec = _
    have e : (nI 255).toBitVec = 255#32 := by decide
    rw [e]
    show _ = (Int32.ofNat _).toBitVec
    simp
theorem byt8 (w : Int32) : Int32.toInt8 (w &&& nI 255) = Int32.toInt8 w := by
  apply Int8.toBitVec_inj.mp
  show (w.toBitVec &&& (nI 255).toBitVec).signExtend 8 = w.toBitVec.signExtend 8
  have e : (nI 255).toBitVec = 255#32 := by decide
  rw [e]
  apply BitVec.eq_of_getLsbD_eq
  intro i hi
  simp only [BitVec.getLsbD_signExtend, BitVec.getLsbD_and]
  have h8 : i < 32 := by omega
  have e2 : (255#32).getLsbD i = true := by
    have : ∀ i, i < 8 → (255#32).getLsbD i = true := by decide
    exact this i hi
  rw [if_pos h8, if_pos h8, e2, Bool.and_true]
def byI (x : Int32) (s : Nat) : Nat := ((x >>> (nI s &&& 31)) &&& nI 255).toNatClampNeg
theorem byI_e (x : Int32) (s : Nat) : (x >>> (nI s &&& 31)) &&& nI 255 = nI (byI x s) ∧ byI x s < 256 := by
  obtain ⟨y, h1, h2⟩ := and255 (x >>> (nI s &&& 31))
  unfold byI
  rw [h2, n_cl (by omega)]
  exact ⟨rfl, h1⟩
theorem nar8 (v : Int8) : vp_nar .byte v.toInt32 = v.toInt32 := by
  show (Int32.toInt8 v.toInt32).toInt32 = v.toInt32
  rw [Int8.toInt8_toInt32]
theorem byI_s (x : Int32) (s : Nat) : vp_nar .byte (Int32.toInt8 (x >>> (nI s &&& 31))).toInt32 = sbI (byI x s) := by
  rw [nar8]
  unfold sbI
  rw [← (byI_e x s).1, byt8]
abbrev TP : Type := Nat × (Nat → Nat)
def pu1 (t : TP) (y : Nat) : TP := (t.1 + 1, fset t.2 t.1 y)
def pu4 (t : TP) (x : Int32) : TP := pu1 (pu1 (pu1 (pu1 t (byI x 24)) (byI x 16)) (byI x 8)) (byI x 0)
def wT (G : GD) (t : TP) : GD := (G.1, t, G.2.2)
def RTp (M : Mem) (m : Nat) (t : TP) : Prop := mI M m 17 = nI t.1 ∧ ∀ i, i < t.1 → mI M (m + 17) i = sbI (t.2 i)
def CTp (M : Mem) (t : TP) : Prop := mI M 1 1 = nI t.1 ∧ ∀ i, i < t.1 → mI M 2 i = nI (t.2 i)
theorem RG.tp {m : Nat} {M M' : Mem} {G : GD} (h : RG O m M G) (hS : mS M' = mS M ∧ mR M' = mR M) (hm : ∀ k, k = 21 ∨ k = 26 ∨ k = 38 ∨ k = 42 → mI M' m k = mI M m k) (hI : ∀ a, (1 ≤ a ∧ a ≤ 11) ∨ (18 ≤ a ∧ a ≤ 23) ∨ a = 28 ∨ a = 35 ∨ a = 36 → mI M' (m + a) = mI M (m + a)) (hO : ∀ a, a < m ∨ m + 36 < a → mI M' a = mI M a) {t : TP} (ht : RTp M' m t) : RG O m M' (wT G t) := by
  obtain ⟨⟨h1, h2, h3, ho⟩, h4, h5, h6, h8⟩ := h
  refine ⟨⟨by rw [hS.1, hS.2]; exact h1, ?_, (hm 26 (by omega)).trans h3, ho.up hS hO⟩, ?_, h5.of (fun a a1 a2 => hI a (by omega)) (hm 21 (by omega)), ht, ?_⟩
  · exact (hm 38 (by omega)).trans h2
  · unfold RBk
    rw [hI 1 (by omega), hI 2 (by omega), hI 3 (by omega), hI 4 (by omega), hI 5 (by omega), hI 6 (by omega), hI 7 (by omega), hI 8 (by omega), hI 9 (by omega), hI 10 (by omega), hI 11 (by omega), hI 28 (by omega), hm 42 (by omega)]
    exact h4
  · rw [hI 36 (by omega), hI 35 (by omega)]
    exact h8
theorem CG.tp {M M' : Mem} {G : GD} (h : CG O M G) (hS : mS M' = mS M ∧ mR M' = mR M) (hI : ∀ a, a ≠ 1 → a ≠ 2 → mI M' a = mI M a) {t : TP} (ht : CTp M' t) : CG O M' (wT G t) := by
  obtain ⟨h1, h2, h3, h4, h5, h6, h7⟩ := h
  refine ⟨by rw [hS.1, hS.2]; exact h1, h2.of (fun i hi => hI _ (by omega) (by omega)), ⟨h3.1, by rw [hI 0 (by omega) (by omega)]; exact h3.2.1, fun i hi => ?_⟩, ht, ?_, h6.of hS.1, h7.up (fun a a1 a2 => ⟨by rw [hS.1], by rw [hS.2], hI a (by omega) (by omega)⟩)⟩
  · obtain ⟨a, ⟨a1, a2⟩, a3⟩ := h3.2.2 i hi
    exact ⟨a, ⟨by rw [hS.2]; exact a1, a2⟩, a3.of (fun i _ => by rw [hS.1]) (fun k => by rw [hS.2]) (hI a (by omega) (by omega)) (hI (a + 1) (by omega) (by omega))⟩
  · refine ⟨fun k hk => ?_, fun k k' a q1 q2 e1 e2 => h5.2 k k' a q1 q2 (by rw [← hS.2]; exact e1) (by rw [← hS.2]; exact e2)⟩
    have := h5.1 k hk
    have e : zM (wT G t) k = zM G k := rfl
    rw [e]
    cases hi : zM G k with
    | none =>
      rw [hi] at this
      show mR M' 29 k = none
      rw [hS.2]; exact this
    | some B =>
      rw [hi] at this
      obtain ⟨a, ⟨a1, a2⟩, a3, a4⟩ := this
      exact ⟨a, ⟨by rw [hS.2]; exact a1, a2⟩, by rw [hS.1, hS.2]; exact a3, a4.of (fun i _ => hI _ (by omega) (by omega))⟩
theorem m8 : nI 24 + (-8 : Int32) = nI 16 ∧ nI 16 + (-8 : Int32) = nI 8 ∧ nI 8 + (-8 : Int32) = nI 0 ∧ nI 0 + (-8 : Int32) < 0 := by decide
section TAP
variable {M : Mem} {G : GD}
theorem r_put1 {m : Nat} (hR : RIs (mS M) (mR M) m) {t : TP} (ht : RTp M m t) (hL : t.1 < 400) {s : Nat} (hs : s ≤ 24) (x : Int32) (n : Nat) : ∃ M', f_X10_put_L3 m (n + 1) x (nI s) M = f_X10_put_L3 m n x (nI s + (-8)) M' ∧ FX [m, m + 17] M M' ∧ (∀ k, k ≠ 17 → mI M' m k = mI M m k) ∧ RTp M' m (pu1 t (byI x s)) := by
  obtain ⟨M1, hM1⟩ : ∃ M1, M1 = sI M (m + 17) t.1 (sbI (byI x s)) := ⟨_, rfl⟩
  have hR1 : RIs (mS M1) (mR M1) m := by rw [hM1]; exact hR
  have e17 : mI M1 m 17 = nI t.1 := by rw [hM1, sI_row (by omega)]; exact ht.1
  refine ⟨sI M1 m 17 (nI (t.1 + 1)), ?_, FX.sI (by rw [hM1]; exact (FX.rf _ M).sI (by simp) _ _) (by simp) _ _, fun k hk => by rw [mI_sI, if_neg (by omega), hM1, sI_row (by omega)], ?_, fun i hi => ?_⟩
  · rw [f_X10_put_L3, if_neg (nI_pos (by omega))]
    repeat (first | ((with_reducible apply clt_t); case h => (simp (disch := omega) only [hR]; with_reducible rfl)) | ((with_reducible apply bnd_t); case h => (simp (disch := omega) only [e_gR, e_gI, e_aI, e_aL, e_oO, e_pI, e_wI, e_wL, Option.map_some, mS_sL, mR_sL, mI_sL, mS_sI, mR_sI, mL_sI, n_cl, ro_m hR, rr_tape hR, ht.1, rx_tape hR, byI_s, ← hM1]; with_reducible rfl)) | rw [nm_eq])
    repeat (first | ((with_reducible apply clt_t); case h => (simp (disch := omega) only [hR]; with_reducible rfl)) | ((with_reducible apply bnd_t); case h => (simp (disch := omega) only [e_gR, e_gI, e_aI, e_aL, e_oO, e_pI, e_wI, e_wL, Option.map_some, mS_sL, mR_sL, mI_sL, mS_sI, mR_sI, mL_sI, n_cl, ro_m hR1, e17, n_add]; with_reducible rfl)) | rw [nm_eq])
    rfl
  · rw [mI_sI, if_pos ⟨rfl, rfl⟩]; rfl
  · have hi : i < t.1 + 1 := hi
    show _ = sbI (fset t.2 t.1 (byI x s) i)
    rw [sI_row (by omega), hM1, mI_sI]
    by_cases e : i = t.1
    · rw [if_pos ⟨rfl, e⟩, e, fset_s]
    · rw [if_neg (by omega), fset_o _ _ e]; exact ht.2 i (by omega)
theorem r_put {m : Nat} (hR : RIs (mS M) (mR M) m) {t : TP} (ht : RTp M m t) (hL : t.1 + 4 ≤ 400) (x : Int32) : ∃ M', f_X10_put m x M = some ((), M') ∧ FX [m, m + 17] M M' ∧ (∀ k, k ≠ 17 → mI M' m k = mI M m k) ∧ RTp M' m (pu4 t x) := by
  obtain ⟨n, hn⟩ : ∃ n, FU = n + 5 := ⟨99995, rfl⟩
  obtain ⟨M1, a1, b1, c1, d1⟩ := r_put1 hR ht (by omega) (s := 24) (by omega) x (n + 4)
  obtain ⟨M2, a2, b2, c2, d2⟩ := r_put1 (b1.RI hR) d1 (by show t.1 + 1 < 400; omega) (s := 16) (by omega) x (n + 3)
  obtain ⟨M3, a3, b3, c3, d3⟩ := r_put1 (b2.RI (b1.RI hR)) d2 (by show t.1 + 1 + 1 < 400; omega) (s := 8) (by omega) x (n + 2)
  obtain ⟨M4, a4, b4, c4, d4⟩ := r_put1 (b3.RI (b2.RI (b1.RI hR))) d3 (by show t.1 + 1 + 1 + 1 < 400; omega) (s := 0) (by omega) x (n + 1)
  refine ⟨M4, ?_, ((b1.tr b2).tr b3).tr b4, fun k hk => by rw [c4 k hk, c3 k hk, c2 k hk, c1 k hk], d4⟩
  rw [f_X10_put, hn, a1, m8.1, a2, m8.2.1, a3, m8.2.2.1, a4, f_X10_put_L3, if_pos m8.2.2.2]
theorem c_put1 (hC : CIs (mS M) (mR M)) {t : TP} (ht : CTp M t) (hL : t.1 < 400) {s : Nat} (hs : s ≤ 24) (x : Int32) (n : Nat) : ∃ M', f_X7_put_L3 1 (n + 1) x (nI s) M = f_X7_put_L3 1 n x (nI s + (-8)) M' ∧ FX [1, 2] M M' ∧ CTp M' (pu1 t (byI x s)) := by
  obtain ⟨M1, hM1⟩ : ∃ M1, M1 = sI M 2 t.1 (nI (byI x s)) := ⟨_, rfl⟩
  have hC1 : CIs (mS M1) (mR M1) := by rw [hM1]; exact hC
  have e17 : mI M1 1 1 = nI t.1 := by rw [hM1, sI_row (by omega)]; exact ht.1
  have eb := (byI_e x s).1
  refine ⟨sI M1 1 1 (nI (t.1 + 1)), ?_, FX.sI (by rw [hM1]; exact (FX.rf _ M).sI (by simp) _ _) (by simp) _ _, ?_, fun i hi => ?_⟩
  · rw [f_X7_put_L3, if_neg (nI_pos (by omega))]
    repeat (first | ((with_reducible apply clt_t); case h => (simp (disch := omega) only [hC]; with_reducible rfl)) | ((with_reducible apply bnd_t); case h => (simp (disch := omega) only [e_gR, e_gI, e_aI, e_aL, e_oO, e_pI, e_wI, e_wL, Option.map_some, mS_sL, mR_sL, mI_sL, mS_sI, mR_sI, mL_sI, n_cl, cob_1 hC, ht.1]; with_reducible rfl)) | rw [nm_eq])
    rw [if_neg (by rw [n_le (by omega) (by omega)]; omega)]
    repeat (first | ((with_reducible apply clt_t); case h => (simp (disch := omega) only [hC]; with_reducible rfl)) | ((with_reducible apply bnd_t); case h => (simp (disch := omega) only [e_gR, e_gI, e_aI, e_aL, e_oO, e_pI, e_wI, e_wL, Option.map_some, mS_sL, mR_sL, mI_sL, mS_sI, mR_sI, mL_sI, n_cl, cob_1 hC, cr_bytes hC, ht.1, cx_bytes hC, eb, ← hM1]; with_reducible rfl)) | rw [nm_eq])
    repeat (first | ((with_reducible apply clt_t); case h => (simp (disch := omega) only [hC]; with_reducible rfl)) | ((with_reducible apply bnd_t); case h => (simp (disch := omega) only [e_gR, e_gI, e_aI, e_aL, e_oO, e_pI, e_wI, e_wL, Option.map_some, mS_sL, mR_sL, mI_sL, mS_sI, mR_sI, mL_sI, n_cl, cob_1 hC1, e17, n_add]; with_reducible rfl)) | rw [nm_eq])
    rfl
  · rw [mI_sI, if_pos ⟨rfl, rfl⟩]; rfl
  · have hi : i < t.1 + 1 := hi
    show _ = nI (fset t.2 t.1 (byI x s) i)
    rw [sI_row (by omega), hM1, mI_sI]
    by_cases e : i = t.1
    · rw [if_pos ⟨rfl, e⟩, e, fset_s]
    · rw [if_neg (by omega), fset_o _ _ e]; exact ht.2 i (by omega)
theorem FX.CI {X : List Nat} {M M' : Mem} (h : FX X M M') (hC : CIs (mS M) (mR M)) : CIs (mS M') (mR M') := by rw [h.1, h.2.1]; exact hC
theorem c_put (hC : CIs (mS M) (mR M)) {t : TP} (ht : CTp M t) (hL : t.1 + 4 ≤ 400) (x : Int32) : ∃ M', f_X7_put 1 x M = some ((), M') ∧ FX [1, 2] M M' ∧ CTp M' (pu4 t x) := by
  obtain ⟨n, hn⟩ : ∃ n, FU = n + 5 := ⟨99995, rfl⟩
  obtain ⟨M1, a1, b1, d1⟩ := c_put1 hC ht (by omega) (s := 24) (by omega) x (n + 4)
  obtain ⟨M2, a2, b2, d2⟩ := c_put1 (b1.CI hC) d1 (by show t.1 + 1 < 400; omega) (s := 16) (by omega) x (n + 3)
  obtain ⟨M3, a3, b3, d3⟩ := c_put1 (b2.CI (b1.CI hC)) d2 (by show t.1 + 1 + 1 < 400; omega) (s := 8) (by omega) x (n + 2)
  obtain ⟨M4, a4, b4, d4⟩ := c_put1 (b3.CI (b2.CI (b1.CI hC))) d3 (by show t.1 + 1 + 1 + 1 < 400; omega) (s := 0) (by omega) x (n + 1)
  refine ⟨M4, ?_, ((b1.tr b2).tr b3).tr b4, d4⟩
  rw [f_X7_put, hn, a1, m8.1, a2, m8.2.1, a3, m8.2.2.1, a4, f_X7_put_L3, if_pos m8.2.2.2]
  rfl
def zT (G : GD) : TP := G.2.1
def pu20 (t : TP) (x1 x2 x3 x4 x5 : Int32) : TP := pu4 (pu4 (pu4 (pu4 (pu4 t x1) x2) x3) x4) x5
def a_feed (G : GD) (x1 x2 x3 x4 x5 : Int32) : Int32 × GD := if zL G + 20 ≤ 400 then (nI (zL G + 20), wT G (pu20 (zT G) x1 x2 x3 x4 x5)) else (-1, G)
def a_end (G : GD) (x : Int32) : Int32 × GD := if ixB x (zL G + 1) then (x, wT G (x.toNatClampNeg, zY G)) else (-1, G)
theorem pu1_ok {t : TP} (h : ∀ i, t.2 i < 256) {y : Nat} (hy : y < 256) : ∀ i, (pu1 t y).2 i < 256 := fun i => by
  show fset t.2 t.1 y i < 256
  by_cases e : i = t.1
  · rw [e, fset_s]; exact hy
  · rw [fset_o _ _ e]; exact h i
theorem pu4_ok {t : TP} (h : ∀ i, t.2 i < 256) (x : Int32) : ∀ i, (pu4 t x).2 i < 256 := pu1_ok (pu1_ok (pu1_ok (pu1_ok h (byI_e x 24).2) (byI_e x 16).2) (byI_e x 8).2) (byI_e x 0).2
theorem pu4_l (t : TP) (x : Int32) : (pu4 t x).1 = t.1 + 4 := rfl
theorem a_feed_ok (hk : GOk G) (x1 x2 x3 x4 x5 : Int32) : GOk (a_feed G x1 x2 x3 x4 x5).2 := by
  unfold a_feed
  split
  · rename_i hc
    exact ⟨hk.1, by show zL G + 4 + 4 + 4 + 4 + 4 ≤ 400; omega, pu4_ok (pu4_ok (pu4_ok (pu4_ok (pu4_ok hk.2.2.1 x1) x2) x3) x4) x5, hk.2.2.2⟩
  · exact hk
theorem x_feed {m : Nat} (h : RG O m M G) (hk : GOk G) (x1 x2 x3 x4 x5 : Int32) : WP (f_X10_feed m x1 x2 x3 x4 x5 M) (fun v M' => v = (a_feed G x1 x2 x3 x4 x5).1 ∧ RG O m M' (a_feed G x1 x2 x3 x4 x5).2) := by
  have hR := h.1.1
  have hL := hk.2.1
  have ht : RTp M m (zT G) := h.2.2.2.1
  have e17 : mI M m 17 = nI (zL G) := ht.1
  unfold f_X10_feed a_feed
  repeat (first | ((with_reducible apply WP.ce); case h => (simp (disch := omega) only []; with_reducible rfl)) | ((with_reducible apply WP.bd); case h => (simp (disch := omega) only [e_gR, e_gI, e_aI, e_aL, e_oO, e_pI, e_wI, e_wL, Option.map_some, mS_sL, mR_sL, mI_sL, mS_sI, mR_sI, mL_sI, n_cl, ro_m hR, e17]; with_reducible rfl)) | rw [nm_eq] | rw [ckZ_n1] | rw [ckZ_n0])
  rw [n_add]
  by_cases hc : zL G + 20 ≤ 400
  · refine WP.it (by rw [n_le (by omega) (by omega)]; exact hc) ?_
    rw [if_pos hc]
    have hz : (zT G).1 = zL G := rfl
    obtain ⟨M1, a1, b1, c1, d1⟩ := r_put hR ht (by omega) x1
    obtain ⟨M2, a2, b2, c2, d2⟩ := r_put (b1.RI hR) d1 (by rw [pu4_l]; omega) x2
    obtain ⟨M3, a3, b3, c3, d3⟩ := r_put (b2.RI (b1.RI hR)) d2 (by rw [pu4_l, pu4_l]; omega) x3
    obtain ⟨M4, a4, b4, c4, d4⟩ := r_put (b3.RI (b2.RI (b1.RI hR))) d3 (by rw [pu4_l, pu4_l, pu4_l]; omega) x4
    obtain ⟨M5, a5, b5, c5, d5⟩ := r_put (b4.RI (b3.RI (b2.RI (b1.RI hR)))) d4 (by rw [pu4_l, pu4_l, pu4_l, pu4_l]; omega) x5
    have hR1 := b1.RI hR
    have hR2 := b2.RI hR1
    have hR3 := b3.RI hR2
    have hR4 := b4.RI hR3
    have hR5 := b5.RI hR4
    have e5 : mI M5 m 17 = nI (zL G + 20) := d5.1
    repeat (first | ((with_reducible apply WP.ce); case h => (simp (disch := omega) only [a1]; with_reducible rfl)) | ((with_reducible apply WP.bd); case h => (simp (disch := omega) only [e_gR, e_gI, e_aI, e_aL, e_oO, e_pI, e_wI, e_wL, Option.map_some, mS_sL, mR_sL, mI_sL, mS_sI, mR_sI, mL_sI, n_cl, ro_m hR]; with_reducible rfl)) | rw [nm_eq] | rw [ckZ_n1] | rw [ckZ_n0])
    repeat (first | ((with_reducible apply WP.ce); case h => (simp (disch := omega) only [a2]; with_reducible rfl)) | ((with_reducible apply WP.bd); case h => (simp (disch := omega) only [e_gR, e_gI, e_aI, e_aL, e_oO, e_pI, e_wI, e_wL, Option.map_some, mS_sL, mR_sL, mI_sL, mS_sI, mR_sI, mL_sI, n_cl, ro_m hR1]; with_reducible rfl)) | rw [nm_eq] | rw [ckZ_n1] | rw [ckZ_n0])
    repeat (first | ((with_reducible apply WP.ce); case h => (simp (disch := omega) only [a3]; with_reducible rfl)) | ((with_reducible apply WP.bd); case h => (simp (disch := omega) only [e_gR, e_gI, e_aI, e_aL, e_oO, e_pI, e_wI, e_wL, Option.map_some, mS_sL, mR_sL, mI_sL, mS_sI, mR_sI, mL_sI, n_cl, ro_m hR2]; with_reducible rfl)) | rw [nm_eq] | rw [ckZ_n1] | rw [ckZ_n0])
    repeat (first | ((with_reducible apply WP.ce); case h => (simp (disch := omega) only [a4]; with_reducible rfl)) | ((with_reducible apply WP.bd); case h => (simp (disch := omega) only [e_gR, e_gI, e_aI, e_aL, e_oO, e_pI, e_wI, e_wL, Option.map_some, mS_sL, mR_sL, mI_sL, mS_sI, mR_sI, mL_sI, n_cl, ro_m hR3]; with_reducible rfl)) | rw [nm_eq] | rw [ckZ_n1] | rw [ckZ_n0])
    repeat (first | ((with_reducible apply WP.ce); case h => (simp (disch := omega) only [a5]; with_reducible rfl)) | ((with_reducible apply WP.bd); case h => (simp (disch := omega) only [e_gR, e_gI, e_aI, e_aL, e_oO, e_pI, e_wI, e_wL, Option.map_some, mS_sL, mR_sL, mI_sL, mS_sI, mR_sI, mL_sI, n_cl, ro_m hR4]; with_reducible rfl)) | rw [nm_eq] | rw [ckZ_n1] | rw [ckZ_n0])
    repeat (first | ((with_reducible apply WP.ce); case h => (simp (disch := omega) only []; with_reducible rfl)) | ((with_reducible apply WP.bd); case h => (simp (disch := omega) only [e_gR, e_gI, e_aI, e_aL, e_oO, e_pI, e_wI, e_wL, Option.map_some, mS_sL, mR_sL, mI_sL, mS_sI, mR_sI, mL_sI, n_cl, ro_m hR5, e5]; with_reducible rfl)) | rw [nm_eq] | rw [ckZ_n1] | rw [ckZ_n0])
    have b := (((b1.tr b2).tr b3).tr b4).tr b5
    refine WP.ret ⟨rfl, h.tp ⟨b.1, b.2.1⟩ (fun k hk2 => ?_) (fun a ha => b.2.2 _ (by simp; omega)) (fun a ha => b.2.2 _ (by simp; omega)) d5⟩
    rw [c5 k (by omega), c4 k (by omega), c3 k (by omega), c2 k (by omega), c1 k (by omega)]
  · refine WP.ie (by rw [n_le (by omega) (by omega)]; exact hc) (WP.ret ?_)
    rw [if_neg hc]; exact ⟨rfl, h⟩
theorem y_feed (h : CG O M G) (hk : GOk G) (x1 x2 x3 x4 x5 : Int32) : WP (f_X9_feed 0 x1 x2 x3 x4 x5 M) (fun v M' => v = (a_feed G x1 x2 x3 x4 x5).1 ∧ CG O M' (a_feed G x1 x2 x3 x4 x5).2) := by
  have hC := h.1
  have hL := hk.2.1
  have ht : CTp M (zT G) := h.2.2.2.1
  have e17 : mI M 1 1 = nI (zL G) := ht.1
  unfold f_X9_feed a_feed
  repeat (first | ((with_reducible apply WP.ce); case h => (simp (disch := omega) only []; with_reducible rfl)) | ((with_reducible apply WP.bd); case h => (simp (disch := omega) only [e_gR, e_gI, e_aI, e_aL, e_oO, e_pI, e_wI, e_wL, Option.map_some, mS_sL, mR_sL, mI_sL, mS_sI, mR_sI, mL_sI, n_cl, cob_0 hC, cr_0_tape hC, cob_1 hC, e17]; with_reducible rfl)) | rw [nm_eq] | rw [ckZ_n1] | rw [ckZ_n0])
  rw [n_add]
  by_cases hc : zL G + 20 ≤ 400
  · refine WP.it (by rw [n_le (by omega) (by omega)]; exact hc) ?_
    rw [if_pos hc]
    have hz : (zT G).1 = zL G := rfl
    obtain ⟨M1, a1, b1, d1⟩ := c_put hC ht (by omega) x1
    have hC1 := b1.CI hC
    obtain ⟨M2, a2, b2, d2⟩ := c_put hC1 d1 (by rw [pu4_l]; omega) x2
    have hC2 := b2.CI hC1
    obtain ⟨M3, a3, b3, d3⟩ := c_put hC2 d2 (by rw [pu4_l, pu4_l]; omega) x3
    have hC3 := b3.CI hC2
    obtain ⟨M4, a4, b4, d4⟩ := c_put hC3 d3 (by rw [pu4_l, pu4_l, pu4_l]; omega) x4
    have hC4 := b4.CI hC3
    obtain ⟨M5, a5, b5, d5⟩ := c_put hC4 d4 (by rw [pu4_l, pu4_l, pu4_l, pu4_l]; omega) x5
    have hC5 := b5.CI hC4
    have e5 : mI M5 1 1 = nI (zL G + 20) := d5.1
    repeat (first | ((with_reducible apply WP.ce); case h => (simp (disch := omega) only [a1]; with_reducible rfl)) | ((with_reducible apply WP.bd); case h => (simp (disch := omega) only [e_gR, e_gI, e_aI, e_aL, e_oO, e_pI, e_wI, e_wL, Option.map_some, mS_sL, mR_sL, mI_sL, mS_sI, mR_sI, mL_sI, n_cl, cob_0 hC, cr_0_tape hC, cob_1 hC]; with_reducible rfl)) | rw [nm_eq] | rw [ckZ_n1] | rw [ckZ_n0])
    repeat (first | ((with_reducible apply WP.ce); case h => (simp (disch := omega) only [a2]; with_reducible rfl)) | ((with_reducible apply WP.bd); case h => (simp (disch := omega) only [e_gR, e_gI, e_aI, e_aL, e_oO, e_pI, e_wI, e_wL, Option.map_some, mS_sL, mR_sL, mI_sL, mS_sI, mR_sI, mL_sI, n_cl, cob_0 hC1, cr_0_tape hC1, cob_1 hC1]; with_reducible rfl)) | rw [nm_eq] | rw [ckZ_n1] | rw [ckZ_n0])
    repeat (first | ((with_reducible apply WP.ce); case h => (simp (disch := omega) only [a3]; with_reducible rfl)) | ((with_reducible apply WP.bd); case h => (simp (disch := omega) only [e_gR, e_gI, e_aI, e_aL, e_oO, e_pI, e_wI, e_wL, Option.map_some, mS_sL, mR_sL, mI_sL, mS_sI, mR_sI, mL_sI, n_cl, cob_0 hC2, cr_0_tape hC2, cob_1 hC2]; with_reducible rfl)) | rw [nm_eq] | rw [ckZ_n1] | rw [ckZ_n0])
    repeat (first | ((with_reducible apply WP.ce); case h => (simp (disch := omega) only [a4]; with_reducible rfl)) | ((with_reducible apply WP.bd); case h => (simp (disch := omega) only [e_gR, e_gI, e_aI, e_aL, e_oO, e_pI, e_wI, e_wL, Option.map_some, mS_sL, mR_sL, mI_sL, mS_sI, mR_sI, mL_sI, n_cl, cob_0 hC3, cr_0_tape hC3, cob_1 hC3]; with_reducible rfl)) | rw [nm_eq] | rw [ckZ_n1] | rw [ckZ_n0])
    repeat (first | ((with_reducible apply WP.ce); case h => (simp (disch := omega) only [a5]; with_reducible rfl)) | ((with_reducible apply WP.bd); case h => (simp (disch := omega) only [e_gR, e_gI, e_aI, e_aL, e_oO, e_pI, e_wI, e_wL, Option.map_some, mS_sL, mR_sL, mI_sL, mS_sI, mR_sI, mL_sI, n_cl, cob_0 hC4, cr_0_tape hC4, cob_1 hC4]; with_reducible rfl)) | rw [nm_eq] | rw [ckZ_n1] | rw [ckZ_n0])
    repeat (first | ((with_reducible apply WP.ce); case h => (simp (disch := omega) only []; with_reducible rfl)) | ((with_reducible apply WP.bd); case h => (simp (disch := omega) only [e_gR, e_gI, e_aI, e_aL, e_oO, e_pI, e_wI, e_wL, Option.map_some, mS_sL, mR_sL, mI_sL, mS_sI, mR_sI, mL_sI, n_cl, cob_0 hC5, cr_0_tape hC5, cob_1 hC5, e5]; with_reducible rfl)) | rw [nm_eq] | rw [ckZ_n1] | rw [ckZ_n0])
    have b := (((b1.tr b2).tr b3).tr b4).tr b5
    exact WP.ret ⟨rfl, h.tp ⟨b.1, b.2.1⟩ (fun a h1 h2 => b.2.2 _ (by simp; omega)) d5⟩
  · refine WP.ie (by rw [n_le (by omega) (by omega)]; exact hc) (WP.ret ?_)
    rw [if_neg hc]; exact ⟨rfl, h⟩
theorem a_end_ok (hk : GOk G) (x : Int32) : GOk (a_end G x).2 := by
  unfold a_end
  split
  · rename_i hc
    have hL := hk.2.1
    obtain ⟨j, j1, rfl⟩ := ixB_t (by omega) hc
    exact ⟨hk.1, by show (nI j).toNatClampNeg ≤ 400; rw [n_cl (by omega)]; omega, hk.2.2⟩
  · exact hk
theorem end_c {L : Nat} (hL : L ≤ 400) (x : Int32) : (x < 0 → ixB x (L + 1) = false) ∧ (¬ x < 0 → (x ≤ nI L) = (ixB x (L + 1) = true)) := by
  have z0 : (0 : Int32).toInt = 0 := by decide
  unfold ixB
  refine ⟨fun h => ?_, fun h => ?_⟩
  · rw [fa_lt, z0] at h
    exact decide_eq_false (by omega)
  · rw [fa_lt, z0] at h
    rw [eq_iff_iff, fa_le, nI_toInt (by omega), decide_eq_true_iff]
    omega
theorem x_end {m : Nat} (h : RG O m M G) (hk : GOk G) (x : Int32) : WP (f_X10_end m x M) (fun v M' => v = (a_end G x).1 ∧ RG O m M' (a_end G x).2) := by
  have hR := h.1.1
  have hL := hk.2.1
  have ht : RTp M m (zT G) := h.2.2.2.1
  have e17 : mI M m 17 = nI (zL G) := ht.1
  obtain ⟨z1, z2⟩ := end_c hL x
  unfold f_X10_end f_X10_end_J12 a_end
  by_cases hn : x < 0
  · refine WP.it hn (WP.ret ?_)
    rw [z1 hn]; exact ⟨rfl, h⟩
  · refine WP.ie hn ?_
    repeat (first | ((with_reducible apply WP.ce); case h => (simp (disch := omega) only []; with_reducible rfl)) | ((with_reducible apply WP.bd); case h => (simp (disch := omega) only [e_gR, e_gI, e_aI, e_aL, e_oO, e_pI, e_wI, e_wL, Option.map_some, mS_sL, mR_sL, mI_sL, mS_sI, mR_sI, mL_sI, n_cl, ro_m hR, e17]; with_reducible rfl)) | rw [nm_eq] | rw [ckZ_n1] | rw [ckZ_n0])
    cases hc : ixB x (zL G + 1) with
    | true =>
      refine WP.it (by rw [z2 hn]; exact hc) ?_
      obtain ⟨j, j1, rfl⟩ := ixB_t (by omega) hc
      repeat (first | ((with_reducible apply WP.ce); case h => (simp (disch := omega) only []; with_reducible rfl)) | ((with_reducible apply WP.bd); case h => (simp (disch := omega) only [e_gR, e_gI, e_aI, e_aL, e_oO, e_pI, e_wI, e_wL, Option.map_some, mS_sL, mR_sL, mI_sL, mS_sI, mR_sI, mL_sI, n_cl, ro_m hR]; with_reducible rfl)) | rw [nm_eq] | rw [ckZ_n1] | rw [ckZ_n0])
      refine WP.ret ⟨rfl, h.tp (M' := sI M m 17 (nI j)) ⟨rfl, rfl⟩ (fun k hk2 => by rw [mI_sI, if_neg (by omega)]) (fun a ha => sI_row (by omega)) (fun a ha => sI_row (by omega)) ⟨?_, fun i hi => ?_⟩⟩
      · rw [mI_sI, if_pos ⟨rfl, rfl⟩, n_cl (by omega)]
      · have hi : i < (nI j).toNatClampNeg := hi
        rw [n_cl (by omega)] at hi
        rw [sI_row (by omega)]; exact ht.2 i (by show i < zL G; omega)
    | false =>
      refine WP.ie (by rw [z2 hn, hc]; decide) (WP.ret ⟨rfl, h⟩)
theorem y_end (h : CG O M G) (hk : GOk G) (x : Int32) : WP (f_X9_end 0 x M) (fun v M' => v = (a_end G x).1 ∧ CG O M' (a_end G x).2) := by
  have hC := h.1
  have hL := hk.2.1
  have ht : CTp M (zT G) := h.2.2.2.1
  have e17 : mI M 1 1 = nI (zL G) := ht.1
  obtain ⟨z1, z2⟩ := end_c hL x
  unfold f_X9_end f_X9_end_J15 a_end
  by_cases hn : x < 0
  · refine WP.it hn (WP.ret ?_)
    rw [z1 hn]; exact ⟨rfl, h⟩
  · refine WP.ie hn ?_
    repeat (first | ((with_reducible apply WP.ce); case h => (simp (disch := omega) only []; with_reducible rfl)) | ((with_reducible apply WP.bd); case h => (simp (disch := omega) only [e_gR, e_gI, e_aI, e_aL, e_oO, e_pI, e_wI, e_wL, Option.map_some, mS_sL, mR_sL, mI_sL, mS_sI, mR_sI, mL_sI, n_cl, cob_0 hC, cr_0_tape hC, cob_1 hC, e17]; with_reducible rfl)) | rw [nm_eq] | rw [ckZ_n1] | rw [ckZ_n0])
    cases hc : ixB x (zL G + 1) with
    | true =>
      refine WP.it (by rw [z2 hn]; exact hc) ?_
      obtain ⟨j, j1, rfl⟩ := ixB_t (by omega) hc
      repeat (first | ((with_reducible apply WP.ce); case h => (simp (disch := omega) only []; with_reducible rfl)) | ((with_reducible apply WP.bd); case h => (simp (disch := omega) only [e_gR, e_gI, e_aI, e_aL, e_oO, e_pI, e_wI, e_wL, Option.map_some, mS_sL, mR_sL, mI_sL, mS_sI, mR_sI, mL_sI, n_cl, cob_0 hC, cr_0_tape hC, cob_1 hC]; with_reducible rfl)) | rw [nm_eq] | rw [ckZ_n1] | rw [ckZ_n0])
      refine WP.ret ⟨rfl, h.tp (M' := sI M 1 1 (nI j)) ⟨rfl, rfl⟩ (fun a h1 h2 => sI_row h1) ⟨?_, fun i hi => ?_⟩⟩
      · rw [mI_sI, if_pos ⟨rfl, rfl⟩, n_cl (by omega)]
      · have hi : i < (nI j).toNatClampNeg := hi
        rw [n_cl (by omega)] at hi
        rw [sI_row (by omega)]; exact ht.2 i (by show i < zL G; omega)
    | false =>
      refine WP.ie (by rw [z2 hn, hc]; decide) (WP.ret ⟨rfl, h⟩)
end TAP
