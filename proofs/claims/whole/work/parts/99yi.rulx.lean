/-! THE REFERENCE: clauses of a rule -/
/-- what a clause may change -/
def FCl (m i e n : Nat) (M M' : Mem) : Prop := mS M' = mS M ∧ mR M' = mR M ∧ (∀ a, a ≠ m → a < m + 18 ∨ a = m + 20 ∨ m + 24 < a → mI M' a = mI M a) ∧ (∀ k, k < 18 ∨ k = 20 ∨ k = 21 ∨ 25 < k → mI M' m k = mI M m k) ∧ (∀ j, j < 300 * i + e ∨ 300 * i + 300 ≤ j → mI M' (m + 18) j = mI M (m + 18) j ∧ mI M' (m + 19) j = mI M (m + 19) j) ∧ ∀ j, (j = 12 * i + n → 12 ≤ n) → mI M' (m + 21) j = mI M (m + 21) j ∧ mI M' (m + 22) j = mI M (m + 22) j ∧ mI M' (m + 23) j = mI M (m + 23) j
section RCL
variable {m i e n : Nat} {M M1 M2 M3 M' : Mem} {t : TP}
theorem FTs.FCl (h : FTs m i e M M') : FCl m i e n M M' := ⟨h.1, h.2.1, fun a a1 a2 => h.2.2.1 a a1 (by omega), h.2.2.2.1, h.2.2.2.2, fun j _ => by rw [h.2.2.1 (m + 21) (by omega) (by omega), h.2.2.1 (m + 22) (by omega) (by omega), h.2.2.1 (m + 23) (by omega) (by omega)]; exact ⟨rfl, rfl, rfl⟩⟩
theorem FCl.rf (m i e n : Nat) (M : Mem) : FCl m i e n M M := ⟨rfl, rfl, fun _ _ _ => rfl, fun _ _ => rfl, fun _ _ => ⟨rfl, rfl⟩, fun _ _ => ⟨rfl, rfl, rfl⟩⟩
theorem FCl.tr {e' : Nat} (h1 : FCl m i e n M1 M2) (h2 : FCl m i e' n M2 M3) (he : e ≤ e') : FCl m i e n M1 M3 := ⟨h2.1.trans h1.1, h2.2.1.trans h1.2.1, fun a a1 a2 => (h2.2.2.1 a a1 a2).trans (h1.2.2.1 a a1 a2), fun k k1 => (h2.2.2.2.1 k k1).trans (h1.2.2.2.1 k k1), fun j hj => ⟨(h2.2.2.2.2.1 j (by omega)).1.trans (h1.2.2.2.2.1 j hj).1, (h2.2.2.2.2.1 j (by omega)).2.trans (h1.2.2.2.2.1 j hj).2⟩, fun j hj => ⟨(h2.2.2.2.2.2 j hj).1.trans (h1.2.2.2.2.2 j hj).1, (h2.2.2.2.2.2 j hj).2.1.trans (h1.2.2.2.2.2 j hj).2.1, (h2.2.2.2.2.2 j hj).2.2.trans (h1.2.2.2.2.2 j hj).2.2⟩⟩
theorem FCl.RI (h : FCl m i e n M M') (hR : RIs (mS M) (mR M) m) : RIs (mS M') (mR M') m := by rw [h.1, h.2.1]; exact hR
theorem FCl.tp (h : FCl m i e n M M') (ht : RTp M m t) : RTp M' m t := ⟨(h.2.2.2.1 17 (by decide)).trans ht.1, by rw [h.2.2.1 (m + 17) (by omega) (by omega)]; exact ht.2⟩
theorem FCl.wc (M : Mem) {a : Nat} (hn : n < 12) (ha : m + 21 ≤ a ∧ a ≤ m + 23) (v : Int32) : FCl m i e n M (sI M a (12 * i + n) v) := by
  refine ⟨rfl, rfl, fun b b1 b2 => sI_row (by omega), fun k _ => by rw [sI_row (by omega)], fun j _ => by rw [sI_row (by omega), sI_row (by omega)]; exact ⟨rfl, rfl⟩, fun j hj => ⟨?_, ?_, ?_⟩⟩
  · rw [mI_sI, if_neg (fun z => by have := hj z.2; omega)]
  · rw [mI_sI, if_neg (fun z => by have := hj z.2; omega)]
  · rw [mI_sI, if_neg (fun z => by have := hj z.2; omega)]
theorem rc_of (f : FCl m i e n M M') (hR : RIs (mS M) (mR M) m) (ht : RTp M m t) (h20 : mI M m 20 = nI i) (h26 : mI M m 26 = nI 11) : RIs (mS M') (mR M') m ∧ RTp M' m t ∧ mI M' m 20 = nI i ∧ mI M' m 26 = nI 11 := ⟨f.RI hR, f.tp ht, by rw [f.2.2.2.1 20 (by decide)]; exact h20, by rw [f.2.2.2.1 26 (by decide)]; exact h26⟩
theorem FCl.fg {a : Nat} {F : List (Nat × Nat)} (h : FCl m i e n M M') (hF : FG M m i a F) (ha : a + F.length ≤ e) : FG M' m i a F := fun j hj => by
  have := h.2.2.2.2.1 (300 * i + a + j) (by omega)
  rw [this.1, this.2]
  exact hF j hj
/-- a word is taken, or not -/
theorem x_takes (h4 : TOk2 t) (hR : RIs (mS M) (mR M) m) (ht : RTp M m t) {p q : Nat} (hp : p ≤ t.1) (hq : q ≤ t.1 ∧ bk t q = bk t p) (g18 : mI M m 18 = nI q) : WP (f_X10_takes m (18 : UInt32) M) (fun v M' => FM m M M' ∧ (∀ k, k ≠ 18 → mI M' m k = mI M m k) ∧ v = bI (decide (lts t (bk t p) = w_if)) ∧ mI M' m 18 = nI (if lts t (bk t p) = w_if then tkE t p else bk t p)) := by
  have hL := h4.1
  have hbk := bk_le hp
  unfold f_X10_takes
  repeat (first | ((with_reducible apply WP.ce); case h => (simp (disch := omega) only []; with_reducible rfl)) | ((with_reducible apply WP.bd); case h => (simp (disch := omega) only [e_gR, e_gI, e_aI, e_aL, e_oO, e_pI, e_wI, e_wL, Option.map_some, mS_sL, mR_sL, mI_sL, mS_sI, mR_sI, mL_sI, n_cl, ro_m hR]; with_reducible rfl)) | rw [nm_eq] | rw [ckZ_n1] | rw [ckZ_n0])
  refine WP.cw (bkw h4 hR ht hq.1 g18) (fun _ M1 w => ?_)
  obtain ⟨w1, w2, w3⟩ := w
  rw [hq.2] at w2
  have hR1 := w1.RI hR
  have ht1 := w1.tp ht
  have a1 := r_stood hR1 ht1 h4 w2 (by omega) sw_if
  repeat (first | ((with_reducible apply WP.ce); case h => (simp (disch := omega) only [a1]; with_reducible rfl)) | ((with_reducible apply WP.bd); case h => (simp (disch := omega) only [e_gR, e_gI, e_aI, e_aL, e_oO, e_pI, e_wI, e_wL, Option.map_some, mS_sL, mR_sL, mI_sL, mS_sI, mR_sI, mL_sI, n_cl, ro_m hR1, w2]; with_reducible rfl)) | rw [nm_eq] | rw [ckZ_n1] | rw [ckZ_n0])
  unfold f_X10_takes_J27
  by_cases h : lts t (bk t p) = w_if
  · have ew := tkE_w (by decide) h
    have hE : tkE t p = bk t p + 2 := ew.2
    have a2 := sw_if.2.2.1 M1
    have a2 : f_J0_length_8abf5 18 M1 = some (nI 2, M1) := a2
    rw [decide_eq_true h, if_pos h]
    refine WP.ie (show ¬ bI true = 0 by decide) ?_
    rw [kT_ok sw_if]
    repeat (first | ((with_reducible apply WP.ce); case h => (simp (disch := omega) only [a2]; with_reducible rfl)) | ((with_reducible apply WP.bd); case h => (simp (disch := omega) only [e_gR, e_gI, e_aI, e_aL, e_oO, e_pI, e_wI, e_wL, Option.map_some, mS_sL, mR_sL, mI_sL, mS_sI, mR_sI, mL_sI, n_cl, ro_m hR1, n_add, ← hE]; with_reducible rfl)) | rw [nm_eq] | rw [ckZ_n1] | rw [ckZ_n0])
    rw [ckZ_b]
    exact WP.ret ⟨w1.tr (FM.w m M1 (Or.inl rfl) _), fun k hk => by rw [mI_sI, if_neg (by omega)]; exact w3 k hk, rfl, by rw [mI_sI, if_pos ⟨rfl, rfl⟩]⟩
  · rw [decide_eq_false h, if_neg h]
    refine WP.it rfl ?_
    repeat (first | ((with_reducible apply WP.ce); case h => (simp (disch := omega) only []; with_reducible rfl)) | ((with_reducible apply WP.bd); case h => (simp (disch := omega) only [e_gR, e_gI, e_aI, e_aL, e_oO, e_pI, e_wI, e_wL, Option.map_some, mS_sL, mR_sL, mI_sL, mS_sI, mR_sI, mL_sI, n_cl, ro_m hR1, n_add]; with_reducible rfl)) | rw [nm_eq] | rw [ckZ_n1] | rw [ckZ_n0])
    rw [ckZ_b]
    exact WP.ret ⟨w1.tr (FM.w m M1 (Or.inl rfl) _), fun k hk => by rw [mI_sI, if_neg (by omega)]; exact w3 k hk, rfl, by rw [mI_sI, if_pos ⟨rfl, rfl⟩]; rfl⟩
/-- how a clause ends -/
def CLe (m i e n : Nat) (M : Mem) (t : TP) (r : Nat × Nat × Nat × CLs) (M' : Mem) : Prop := FCl m i e n M M' ∧ mI M' m 19 = nI r.1 ∧ (∃ p', p' ≤ t.1 + 1 ∧ mI M' m 18 = nI p') ∧ (r.1 = 0 → (mI M' m 18 = nI (bk t r.2.1) ∧ mI M' m 24 = nI r.2.2.1 ∧ mI M' m 23 = nI 0) ∧ ∃ e', (e ≤ e' ∧ 2 * e' ≤ r.2.1 + 2 * r.2.2.1) ∧ mI M' m 22 = nI e' ∧ ACl M' m i n e' r.2.2.2)
theorem FG.cp {a : Nat} {F : List (Nat × Nat)} (hF : FG M m i a F) (h1 : mI M' (m + 18) = mI M (m + 18)) (h2 : mI M' (m + 19) = mI M (m + 19)) : FG M' m i a F := fun j hj => by
  rw [h1, h2]; exact hF j hj
theorem x_clause (h4 : TOk2 t) (hi : i < 6) {p c : Nat} (hn : n ≤ 12) (hb : 2 * e ≤ p + 2 * c) (hR : RIs (mS M) (mR M) m) (ht : RTp M m t) (h20 : mI M m 20 = nI i) (h26 : mI M m 26 = nI 11) (hp : p ≤ t.1) (hc : c ≤ 60) (g19 : mI M m 19 = nI 0) (g18 : mI M m 18 = nI p) (g22 : mI M m 22 = nI e) (g24 : mI M m 24 = nI c) (g23 : mI M m 23 = nI 0) : WP (f_X10_ruleClause m (nI n) M) (fun _ M' => CLe m i e n M t (clP t p c n) M') := by
  have hL := h4.1
  have hbk := bk_le hp
  unfold f_X10_ruleClause
  repeat (first | ((with_reducible apply WP.ce); case h => (simp (disch := omega) only []; with_reducible rfl)) | ((with_reducible apply WP.bd); case h => (simp (disch := omega) only [e_gR, e_gI, e_aI, e_aL, e_oO, e_pI, e_wI, e_wL, Option.map_some, mS_sL, mR_sL, mI_sL, mS_sI, mR_sI, mL_sI, n_cl, ro_m hR]; with_reducible rfl)) | rw [nm_eq] | rw [ckZ_n1] | rw [ckZ_n0])
  refine WP.cw (bkw h4 hR ht hp g18) (fun _ M1 w => ?_)
  obtain ⟨w1, w2, w3⟩ := w
  have hR1 := w1.RI hR
  have ht1 := w1.tp ht
  have fr1 : FCl m i e n M M1 := FTs.FCl (FE.FTs (FM.FE w1))
  have a1 := r_stood hR1 ht1 h4 w2 (by omega) sw_tell
  have k19 : mI M1 m 19 = nI 0 := by rw [w3 19 (by decide)]; exact g19
  have fail : ∀ x : Nat, x < 8 → clP t p c n = (1 + 8 * bk t p + x, 0, 0, none, fun _ => 0) → CLe m i e n M t (clP t p c n) (sI M1 m 19 (nI (ft1 0 (bk t p) x))) := fun x hx hr => by
    rw [hr]
    exact ⟨fr1.tr (FTs.FCl (FTs.ws M1 (Or.inr (Or.inl rfl)) _)) (Nat.le_refl _), by rw [mI_sI, if_pos ⟨rfl, rfl⟩]; rfl, ⟨bk t p, by omega, by rw [mI_sI, if_neg (by omega)]; exact w2⟩, fun z => by have z : 1 + 8 * bk t p + x = 0 := z; omega⟩
  repeat (first | ((with_reducible apply WP.ce); case h => (simp (disch := omega) only [a1]; with_reducible rfl)) | ((with_reducible apply WP.bd); case h => (simp (disch := omega) only [e_gR, e_gI, e_aI, e_aL, e_oO, e_pI, e_wI, e_wL, Option.map_some, mS_sL, mR_sL, mI_sL, mS_sI, mR_sI, mL_sI, n_cl, ro_m hR1, w2]; with_reducible rfl)) | rw [nm_eq] | rw [ckZ_n1] | rw [ckZ_n0])
  by_cases hw : lts t (bk t p) = w_tell
  · have ew := tkE_w (by decide) hw
    have hE : tkE t p = bk t p + 4 := ew.2
    have hm := wk_mv (by decide) hp hw
    have hge := bk_ge t p
    rw [decide_eq_true hw]
    refine WP.ie (show ¬ bI true = 0 by decide) ?_
    by_cases h12 : n = 12
    · refine WP.it (by rw [h12]) ?_
      have a2 := r_fails hR1 (fa := 0) (s := bk t p) (c := 4) (by decide) (by omega) (by decide) k19
      repeat (first | ((with_reducible apply WP.ce); case h => (simp (disch := omega) only [a2]; with_reducible rfl)) | ((with_reducible apply WP.bd); case h => (simp (disch := omega) only [e_gR, e_gI, e_aI, e_aL, e_oO, e_pI, e_wI, e_wL, Option.map_some, mS_sL, mR_sL, mI_sL, mS_sI, mR_sI, mL_sI, n_cl, ro_m hR1]; with_reducible rfl)) | rw [nm_eq] | rw [ckZ_n1] | rw [ckZ_n0])
      exact WP.ret (fail 4 (by decide) (by unfold clP; rw [if_pos hw, if_pos h12]))
    · refine WP.ie (by rw [n_eq (by omega) (by decide)]; exact h12) ?_
      obtain ⟨M2, hM2⟩ : ∃ M2, M2 = sI M1 m 18 (nI (tkE t p)) := ⟨_, rfl⟩
      have fr2 : FCl m i e n M M2 := fr1.tr (FTs.FCl (by rw [hM2]; exact FTs.ws M1 (Or.inl rfl) _ : FTs m i e M1 M2)) (Nat.le_refl _)
      obtain ⟨hR2, ht2, j20, j26⟩ := rc_of fr2 hR ht h20 h26
      have jk : ∀ k, k ≠ 18 → mI M2 m k = mI M m k := fun k hk => by rw [hM2, mI_sI, if_neg (by omega)]; exact w3 k hk
      have j22 : mI M2 m 22 = nI e := by rw [jk 22 (by decide)]; exact g22
      obtain ⟨M3, hM3⟩ : ∃ M3, M3 = sI M2 (m + 21) (12 * i + n) (nI e) := ⟨_, rfl⟩
      have fr3 : FCl m i e n M M3 := fr2.tr (by rw [hM3]; exact FCl.wc M2 (by omega) (by omega) _ : FCl m i e n M2 M3) (Nat.le_refl _)
      obtain ⟨hR3, ht3, l20, l26⟩ := rc_of fr3 hR ht h20 h26
      have lk : ∀ k, k ≠ 18 → mI M3 m k = mI M m k := fun k hk => by rw [hM3, sI_row (by omega)]; exact jk k hk
      have l18 : mI M3 m 18 = nI (tkE t p) := by rw [hM3, sI_row (by omega), hM2, mI_sI, if_pos ⟨rfl, rfl⟩]
      have l21 : mI M3 (m + 21) (12 * i + n) = nI e := by rw [hM3, mI_sI, if_pos ⟨rfl, rfl⟩]
      repeat (first | ((with_reducible apply WP.ce); case h => (simp (disch := omega) only []; with_reducible rfl)) | ((with_reducible apply WP.bd); case h => (simp (disch := omega) only [e_gR, e_gI, e_aI, e_aL, e_oO, e_pI, e_wI, e_wL, Option.map_some, mS_sL, mR_sL, mI_sL, mS_sI, mR_sI, mL_sI, n_cl, ro_m hR1, w2, n_add, ← hE, ← hM2]; with_reducible rfl)) | rw [nm_eq] | rw [ckZ_n1] | rw [ckZ_n0])
      repeat (first | ((with_reducible apply WP.ce); case h => (simp (disch := omega) only []; with_reducible rfl)) | ((with_reducible apply WP.bd); case h => (simp (disch := omega) only [e_gR, e_gI, e_aI, e_aL, e_oO, e_pI, e_wI, e_wL, Option.map_some, mS_sL, mR_sL, mI_sL, mS_sI, mR_sI, mL_sI, n_cl, ro_m hR2, j20, n_mul, n_add, rr_sumAt hR2, j22]; with_reducible rfl)) | rw [nm_eq] | rw [ckZ_n1] | rw [ckZ_n0])
      rw [n_mul, n_add]
      repeat (first | ((with_reducible apply WP.ce); case h => (simp (disch := omega) only []; with_reducible rfl)) | ((with_reducible apply WP.bd); case h => (simp (disch := omega) only [e_gR, e_gI, e_aI, e_aL, e_oO, e_pI, e_wI, e_wL, Option.map_some, mS_sL, mR_sL, mI_sL, mS_sI, mR_sI, mL_sI, n_cl, rx_sumAt hR2, ← hM3]; with_reducible rfl)) | rw [nm_eq] | rw [ckZ_n1] | rw [ckZ_n0])
      repeat (first | ((with_reducible apply WP.ce); case h => (simp (disch := omega) only []; with_reducible rfl)) | ((with_reducible apply WP.bd); case h => (simp (disch := omega) only [e_gR, e_gI, e_aI, e_aL, e_oO, e_pI, e_wI, e_wL, Option.map_some, mS_sL, mR_sL, mI_sL, mS_sI, mR_sI, mL_sI, n_cl, ro_m hR3]; with_reducible rfl)) | rw [nm_eq] | rw [ckZ_n1] | rw [ckZ_n0])
      obtain ⟨z1, z2⟩ := smP_ok h4 (p := tkE t p) (c := c) hm.2
      refine WP.cw (x_sum h4 hi (e := e) (p := tkE t p) (c := c) (by omega) hR3 ht3 l20 l26 hm.2 hc (by rw [lk 19 (by decide)]; exact g19) l18 (by rw [lk 22 (by decide)]; exact g22) (by rw [lk 24 (by decide)]; exact g24)) (fun _ M4 s => ?_)
      obtain ⟨s1, s2, ⟨p', s3, s4⟩, s5⟩ := s
      rw [if_pos rfl] at s2
      have fr4 : FCl m i e n M M4 := fr3.tr (FTs.FCl s1.FTs) (Nat.le_refl _)
      obtain ⟨hR4, ht4, o20, o26⟩ := rc_of fr4 hR ht h20 h26
      obtain ⟨E, hE4⟩ : ∃ E, E = mI M4 m 22 := ⟨_, rfl⟩
      obtain ⟨M5, hM5⟩ : ∃ M5, M5 = sI M4 (m + 22) (12 * i + n) E := ⟨_, rfl⟩
      have fr45 : ∀ e', FCl m i e' n M4 M5 := fun e' => by rw [hM5]; exact FCl.wc M4 (by omega) (by omega) _
      have fr5 : FCl m i e n M M5 := fr4.tr (fr45 e) (Nat.le_refl _)
      obtain ⟨hR5, ht5, q20, q26⟩ := rc_of fr5 hR ht h20 h26
      have qk : ∀ k, mI M5 m k = mI M4 m k := fun k => by rw [hM5, sI_row (by omega)]
      have q19 : mI M5 m 19 = nI (smP t (tkE t p) c).1 := by rw [qk]; exact s2
      have q22 : mI M5 (m + 22) (12 * i + n) = E := by rw [hM5, mI_sI, if_pos ⟨rfl, rfl⟩]
      have q21 : mI M5 (m + 21) (12 * i + n) = nI e := by rw [hM5, sI_row (by omega), s1.2.2.1 (m + 21) (by omega) (by omega)]; exact l21
      repeat (first | ((with_reducible apply WP.ce); case h => (simp (disch := omega) only []; with_reducible rfl)) | ((with_reducible apply WP.bd); case h => (simp (disch := omega) only [e_gR, e_gI, e_aI, e_aL, e_oO, e_pI, e_wI, e_wL, Option.map_some, mS_sL, mR_sL, mI_sL, mS_sI, mR_sI, mL_sI, n_cl, ro_m hR4, rr_testAt hR4, ← hE4]; with_reducible rfl)) | rw [nm_eq] | rw [ckZ_n1] | rw [ckZ_n0])
      repeat (first | ((with_reducible apply WP.ce); case h => (simp (disch := omega) only []; with_reducible rfl)) | ((with_reducible apply WP.bd); case h => (simp (disch := omega) only [e_gR, e_gI, e_aI, e_aL, e_oO, e_pI, e_wI, e_wL, Option.map_some, mS_sL, mR_sL, mI_sL, mS_sI, mR_sI, mL_sI, n_cl, rx_testAt hR4, ← hM5]; with_reducible rfl)) | rw [nm_eq] | rw [ckZ_n1] | rw [ckZ_n0])
      repeat (first | ((with_reducible apply WP.ce); case h => (simp (disch := omega) only []; with_reducible rfl)) | ((with_reducible apply WP.bd); case h => (simp (disch := omega) only [e_gR, e_gI, e_aI, e_aL, e_oO, e_pI, e_wI, e_wL, Option.map_some, mS_sL, mR_sL, mI_sL, mS_sI, mR_sI, mL_sI, n_cl, ro_m hR5, q19]; with_reducible rfl)) | rw [nm_eq] | rw [ckZ_n1] | rw [ckZ_n0])
      -- the last row written
      have fin : ∀ N : Mem, RIs (mS N) (mR N) m → f_X10_ruleClause_J104 m (nI (12 * i + n)) N = some ((), sI N (m + 23) (12 * i + n) (mI N m 22)) := fun N hRN => by
        unfold f_X10_ruleClause_J104
        repeat (first | ((with_reducible apply clt_t); case h => (simp (disch := omega) only [hR]; with_reducible rfl)) | ((with_reducible apply bnd_t); case h => (simp (disch := omega) only [e_gR, e_gI, e_aI, e_aL, e_oO, e_pI, e_wI, e_wL, Option.map_some, mS_sL, mR_sL, mI_sL, mS_sI, mR_sI, mL_sI, n_cl, ro_m hRN, rr_endAt hRN, rx_endAt hRN]; with_reducible rfl)) | rw [nm_eq])
        rfl
      have bad : ∀ (N : Mem) (f : Nat), FCl m i e n M N → mI N m 19 = nI f → f ≠ 0 → (∃ p', p' ≤ t.1 + 1 ∧ mI N m 18 = nI p') → (clP t p c n).1 = f → CLe m i e n M t (clP t p c n) (sI N (m + 23) (12 * i + n) (mI N m 22)) := fun N f hN h19 h0 h18 hr => by
        refine ⟨hN.tr (FCl.wc N (by omega) (by omega) _) (Nat.le_refl _), by rw [sI_row (by omega), h19, hr], ?_, fun z => absurd (hr.symm.trans z) h0⟩
        obtain ⟨p2, p3, p4⟩ := h18
        exact ⟨p2, p3, by rw [sI_row (by omega)]; exact p4⟩
      by_cases hs0 : (smP t (tkE t p) c).1 = 0
      · obtain ⟨⟨r18, r24⟩, F, r22, rG, rO, rv, rb, rF⟩ := s5 rfl hs0
        obtain ⟨⟨y1, y2⟩, ⟨y3, y4⟩, y5⟩ := z2 hs0
        obtain ⟨r1, hr1⟩ : ∃ r1, r1 = smP t (tkE t p) c := ⟨_, rfl⟩
        rw [← hr1] at hs0 r18 r24 rv rb y1 y2 y3 y4 q19
        have he300 : e + F.length ≤ 300 := by omega
        refine WP.it (by rw [← hr1, hs0]; rfl) ?_
        repeat (first | ((with_reducible apply WP.ce); case h => (simp (disch := omega) only []; with_reducible rfl)) | ((with_reducible apply WP.bd); case h => (simp (disch := omega) only [e_gR, e_gI, e_aI, e_aL, e_oO, e_pI, e_wI, e_wL, Option.map_some, mS_sL, mR_sL, mI_sL, mS_sI, mR_sI, mL_sI, n_cl, ro_m hR5]; with_reducible rfl)) | rw [nm_eq] | rw [ckZ_n1] | rw [ckZ_n0])
        refine WP.cw (x_takes h4 hR5 ht5 (p := r1.2.1) (q := bk t r1.2.1) y2 ⟨bk_le y2, bk_bk y2⟩ (by rw [qk]; exact r18)) (fun v M6 u => ?_)
        obtain ⟨u1, u2, rfl, u4⟩ := u
        have fr6 : FCl m i e n M M6 := fr5.tr (FTs.FCl (FE.FTs (FM.FE u1))) (Nat.le_refl _)
        obtain ⟨hR6, ht6, v20, v26⟩ := rc_of fr6 hR ht h20 h26
        have E22 : E = nI (e + F.length) := by rw [hE4, r22]
        have v22 : mI M6 m 22 = nI (e + F.length) := by rw [u2 22 (by decide), qk]; exact r22
        have v21 : mI M6 (m + 21) (12 * i + n) = nI e ∧ mI M6 (m + 22) (12 * i + n) = nI (e + F.length) := by
          rw [u1.2.2.1 (m + 21) (by omega), u1.2.2.1 (m + 22) (by omega), q21, q22, E22]; exact ⟨rfl, rfl⟩
        have gF6 : FG M6 m i e F := FG.cp (M := M5) (FG.cp (M := M4) rG (by rw [hM5, sI_row (by omega)]) (by rw [hM5, sI_row (by omega)])) (u1.2.2.1 (m + 18) (by omega)) (u1.2.2.1 (m + 19) (by omega))
        by_cases hif : lts t (bk t r1.2.1) = w_if
        · have hm2 := wk_mv (by decide) y2 hif
          rw [decide_eq_true hif]
          rw [if_pos hif] at u4
          refine WP.ie (show ¬ bI true = 0 by decide) ?_
          repeat (first | ((with_reducible apply WP.ce); case h => (simp (disch := omega) only []; with_reducible rfl)) | ((with_reducible apply WP.bd); case h => (simp (disch := omega) only [e_gR, e_gI, e_aI, e_aL, e_oO, e_pI, e_wI, e_wL, Option.map_some, mS_sL, mR_sL, mI_sL, mS_sI, mR_sI, mL_sI, n_cl, ro_m hR6]; with_reducible rfl)) | rw [nm_eq] | rw [ckZ_n1] | rw [ckZ_n0])
          refine WP.cw (x_test h4 hi (e := e + F.length) (p := tkE t r1.2.1) (c := r1.2.2.1) (by omega) hR6 ht6 v20 v26 hm2.2 y4 (by rw [u2 19 (by decide), q19, hs0]) u4 v22 (by rw [u2 24 (by decide), qk]; exact r24) (by rw [u2 23 (by decide), qk, s1.2.2.2.1 23 (by decide) (by decide) (by decide) (by decide), lk 23 (by decide)]; exact g23)) (fun _ M7 x => ?_)
          obtain ⟨x1, x2, x3, x4⟩ := x
          have fr67 : FCl m i (e + F.length) n M6 M7 := FTs.FCl x1
          have fr7 : FCl m i e n M M7 := fr6.tr fr67 (by omega)
          have hR7 := fr7.RI hR
          have ec : clP t p c n = ((tsR t (none, tkE t r1.2.1, r1.2.2.1, [])).1, (tsR t (none, tkE t r1.2.1, r1.2.2.1, [])).2.1, (tsR t (none, tkE t r1.2.1, r1.2.2.1, [])).2.2.1, some (tsR t (none, tkE t r1.2.1, r1.2.2.1, [])).2.2.2, r1.2.2.2) := by
            unfold clP
            rw [if_pos hw, if_neg h12, ← hr1, if_pos hs0, if_pos hif]
          have okr := tsR_ok h4 t.1 (none, tkE t r1.2.1, r1.2.2.1, []) (Nat.sub_le _ _) hm2.2 y4
          obtain ⟨r2, hr2⟩ : ∃ r2, r2 = tsR t (none, tkE t r1.2.1, r1.2.2.1, []) := ⟨_, rfl⟩
          rw [← hr2] at x2 x4 ec okr
          refine WP.of (fin M7 hR7) ?_
          by_cases h0 : r2.1 = 0
          · obtain ⟨⟨t18, t24, t23⟩, G, t22, tG, tO, tv, tb, tF⟩ := x4 h0
            obtain ⟨⟨o1, o2⟩, o3, o4⟩ := okr.2 h0
            have o1 : tkE t r1.2.1 ≤ r2.2.1 := o1
            have e300 : e + F.length + G.length ≤ 300 := by omega
            obtain ⟨M8, hM8⟩ : ∃ M8, M8 = sI M7 (m + 23) (12 * i + n) (mI M7 m 22) := ⟨_, rfl⟩
            rw [← hM8, ec]
            have k8 : ∀ k, mI M8 m k = mI M7 m k := fun k => by rw [hM8, sI_row (by omega)]
            have c21 : mI M7 (m + 21) (12 * i + n) = nI e ∧ mI M7 (m + 22) (12 * i + n) = nI (e + F.length) := by
              rw [x1.2.2.1 (m + 21) (by omega) (by omega), x1.2.2.1 (m + 22) (by omega) (by omega)]; exact v21
            refine ⟨fr7.tr (by rw [hM8]; exact FCl.wc M7 (by omega) (by omega) _ : FCl m i e n M7 M8) (Nat.le_refl _), by rw [k8]; exact x2, ⟨_, by have := bk_le o2; show bk t r2.2.1 ≤ t.1 + 1; omega, by rw [k8]; exact t18⟩, fun _ => ⟨⟨by rw [k8]; exact t18, by rw [k8]; exact t24, by rw [k8]; exact t23⟩, e + F.length + G.length, ⟨by omega, by show 2 * (e + F.length + G.length) ≤ r2.2.1 + 2 * r2.2.2.1; omega⟩, by rw [k8]; exact t22, e, e + F.length, e + F.length + G.length, ⟨by rw [hM8, sI_row (by omega)]; exact c21.1, by rw [hM8, sI_row (by omega)]; exact c21.2, by rw [hM8, mI_sI, if_pos ⟨rfl, rfl⟩]; exact t22⟩, ⟨Nat.le_refl _, by omega⟩, ⟨F, rfl, he300, ?_, rO, fun v => rv v []⟩, ⟨by omega, ⟨G, rfl, e300, ?_, tO, fun v => tv v []⟩⟩⟩⟩
            · exact FG.cp (M := M7) (fr67.fg gF6 (Nat.le_refl _)) (by rw [hM8, sI_row (by omega)]) (by rw [hM8, sI_row (by omega)])
            · exact FG.cp (M := M7) tG (by rw [hM8, sI_row (by omega)]) (by rw [hM8, sI_row (by omega)])
          · exact bad M7 r2.1 fr7 x2 h0 x3 (by rw [ec])
        · rw [decide_eq_false hif]
          rw [if_neg hif] at u4
          refine WP.it rfl ?_
          have ec : clP t p c n = (0, r1.2.1, r1.2.2.1, none, r1.2.2.2) := by
            unfold clP
            rw [if_pos hw, if_neg h12, ← hr1, if_pos hs0, if_neg hif]
          refine WP.of (fin M6 hR6) ?_
          obtain ⟨M8, hM8⟩ : ∃ M8, M8 = sI M6 (m + 23) (12 * i + n) (mI M6 m 22) := ⟨_, rfl⟩
          rw [← hM8, ec]
          have k8 : ∀ k, mI M8 m k = mI M6 m k := fun k => by rw [hM8, sI_row (by omega)]
          refine ⟨fr6.tr (by rw [hM8]; exact FCl.wc M6 (by omega) (by omega) _ : FCl m i e n M6 M8) (Nat.le_refl _), by rw [k8, u2 19 (by decide), q19, hs0], ⟨_, by have := bk_le y2; show bk t r1.2.1 ≤ t.1 + 1; omega, by rw [k8]; exact u4⟩, fun _ => ⟨⟨by rw [k8]; exact u4, by rw [k8, u2 24 (by decide), qk]; exact r24, by rw [k8, u2 23 (by decide), qk, s1.2.2.2.1 23 (by decide) (by decide) (by decide) (by decide), lk 23 (by decide)]; exact g23⟩, e + F.length, ⟨by omega, by show 2 * (e + F.length) ≤ r1.2.1 + 2 * r1.2.2.1; omega⟩, by rw [k8]; exact v22, e, e + F.length, e + F.length, ⟨by rw [hM8, sI_row (by omega)]; exact v21.1, by rw [hM8, sI_row (by omega)]; exact v21.2, by rw [hM8, mI_sI, if_pos ⟨rfl, rfl⟩]; exact v22⟩, ⟨Nat.le_refl _, Nat.le_refl _⟩, ⟨F, rfl, he300, ?_, rO, fun v => rv v []⟩, rfl⟩⟩
          exact FG.cp (M := M6) gF6 (by rw [hM8, sI_row (by omega)]) (by rw [hM8, sI_row (by omega)])
      · refine WP.ie (by rw [nIz (by omega)]; exact hs0) ?_
        refine WP.of (fin M5 hR5) ?_
        exact bad M5 _ fr5 q19 hs0 ⟨p', by omega, by rw [qk]; exact s4⟩ (by unfold clP; rw [if_pos hw, if_neg h12, if_neg hs0])
  · rw [decide_eq_false hw]
    refine WP.it rfl ?_
    have a2 := r_fails hR1 (fa := 0) (s := bk t p) (c := 0) (by decide) (by omega) (by decide) k19
    repeat (first | ((with_reducible apply WP.ce); case h => (simp (disch := omega) only [a2]; with_reducible rfl)) | ((with_reducible apply WP.bd); case h => (simp (disch := omega) only [e_gR, e_gI, e_aI, e_aL, e_oO, e_pI, e_wI, e_wL, Option.map_some, mS_sL, mR_sL, mI_sL, mS_sI, mR_sI, mL_sI, n_cl, ro_m hR1]; with_reducible rfl)) | rw [nm_eq] | rw [ckZ_n1] | rw [ckZ_n0])
    exact WP.ret (fail 0 (by decide) (by unfold clP; exact if_neg hw))
end RCL
