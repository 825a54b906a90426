/-! THE REFERENCE: a rule -/
variable {O : Mem}
def FRl (m i : Nat) (M M' : Mem) : Prop := mS M' = mS M ∧ mR M' = mR M ∧ (∀ a, a ≠ m → a < m + 18 ∨ m + 24 < a → mI M' a = mI M a) ∧ (∀ k, k < 17 ∨ 25 < k → mI M' m k = mI M m k) ∧ ∀ j, j ≠ i → RSl m j M M'
section RRL
variable {m i e n : Nat} {M M1 M2 M3 M' : Mem} {t : TP}
theorem FCl.FRl (h : FCl m i e n M M') : FRl m i M M' := by
  refine ⟨h.1, h.2.1, fun a a1 a2 => h.2.2.1 a a1 (by omega), fun k hk => h.2.2.2.1 k (by omega), fun j hj => ⟨fun k hk => h.2.2.2.2.1 _ (by omega), by rw [h.2.2.1 (m + 20) (by omega) (by omega)], fun k hk => h.2.2.2.2.2 _ (fun z => by omega)⟩⟩
theorem FRl.tr (h1 : FRl m i M1 M2) (h2 : FRl m i M2 M3) : FRl m i M1 M3 := ⟨h2.1.trans h1.1, h2.2.1.trans h1.2.1, fun a a1 a2 => (h2.2.2.1 a a1 a2).trans (h1.2.2.1 a a1 a2), fun k k1 => (h2.2.2.2.1 k k1).trans (h1.2.2.2.1 k k1), fun j hj => (h1.2.2.2.2 j hj).tr (h2.2.2.2.2 j hj)⟩
theorem FM.FRl (h : FM m M M') : FRl m i M M' := ⟨h.1, h.2.1, fun a a1 _ => h.2.2.1 a a1, fun k hk => h.2.2.2 k (by omega) (by omega), fun j _ => RSl.rw (fun a a1 a2 => h.2.2.1 (m + a) (by omega))⟩
theorem FRl.ws (M : Mem) {k : Nat} (hk : 17 ≤ k ∧ k ≤ 25) (v : Int32) : FRl m i M (sI M m k v) := ⟨rfl, rfl, fun a a1 _ => sI_row a1, fun j hj => by rw [mI_sI, if_neg (by omega)], fun j _ => RSl.rw (fun a a1 a2 => sI_row (by omega))⟩
theorem FRl.wk (M : Mem) (v : Int32) : FRl m i M (sI M (m + 20) i v) := by
  refine ⟨rfl, rfl, fun a a1 a2 => sI_row (by omega), fun j hj => by rw [sI_row (by omega)], fun j hj => ⟨fun k hk => by rw [sI_row (by omega), sI_row (by omega)]; exact ⟨rfl, rfl⟩, by rw [mI_sI, if_neg (by omega)], fun k hk => by rw [sI_row (by omega), sI_row (by omega), sI_row (by omega)]; exact ⟨rfl, rfl, rfl⟩⟩⟩
theorem FRl.RI (h : FRl m i M M') (hR : RIs (mS M) (mR M) m) : RIs (mS M') (mR M') m := by rw [h.1, h.2.1]; exact hR
/-- behind a fault nothing goes on -/
theorem x_goesW (h4 : TOk2 t) {p fa : Nat} (hpl : p ≤ t.1 + 1) (h0 : fa ≠ 0) (hfa : fa < 10000) (hR : RIs (mS M) (mR M) m) (ht : RTp M m t) (hp : mI M m 18 = nI p) (h19 : mI M m 19 = nI fa) : WP (f_X10_goesOn m M) (fun v M' => FM m M M' ∧ mI M' m 19 = nI fa ∧ v = nI 0) := by
  have hL := h4.1
  have a1 := r_blanks hR ht h4 hp (by omega)
  obtain ⟨M1, hM1⟩ : ∃ M1, M1 = sI M m 18 (nI (bk t p)) := ⟨_, rfl⟩
  rw [← hM1] at a1
  have f1 : FM m M M1 := by rw [hM1]; exact FM.w m M (Or.inl rfl) _
  have hR1 := f1.RI hR
  have e18 : mI M1 m 18 = nI (bk t p) := by rw [hM1, mI_sI, if_pos ⟨rfl, rfl⟩]
  have e19 : mI M1 m 19 = nI fa := by rw [hM1, mI_sI, if_neg (by omega)]; exact h19
  unfold f_X10_goesOn f_X10_goesOn_J40 f_X10_goesOn_J62 f_X10_goesOn_J63
  repeat (first | ((with_reducible apply WP.ce); case h => (simp (disch := omega) only [a1]; with_reducible rfl)) | ((with_reducible apply WP.bd); case h => (simp (disch := omega) only [e_gR, e_gI, e_aI, e_aL, e_oO, e_pI, e_wI, e_wL, Option.map_some, mS_sL, mR_sL, mI_sL, mS_sI, mR_sI, mL_sI, n_cl, ro_m hR]; with_reducible rfl)) | rw [nm_eq] | rw [ckZ_n1] | rw [ckZ_n0])
  repeat (first | ((with_reducible apply WP.ce); case h => (simp (disch := omega) only []; with_reducible rfl)) | ((with_reducible apply WP.bd); case h => (simp (disch := omega) only [e_gR, e_gI, e_aI, e_aL, e_oO, e_pI, e_wI, e_wL, Option.map_some, mS_sL, mR_sL, mI_sL, mS_sI, mR_sI, mL_sI, n_cl, ro_m hR1, e19]; with_reducible rfl)) | rw [nm_eq] | rw [ckZ_n1] | rw [ckZ_n0])
  refine WP.ie (by rw [nIz (by omega)]; exact h0) ?_
  repeat (first | ((with_reducible apply WP.ce); case h => (simp (disch := omega) only []; with_reducible rfl)) | ((with_reducible apply WP.bd); case h => (simp (disch := omega) only [e_gR, e_gI, e_aI, e_aL, e_oO, e_pI, e_wI, e_wL, Option.map_some, mS_sL, mR_sL, mI_sL, mS_sI, mR_sI, mL_sI, n_cl, ro_m hR1, e19]; with_reducible rfl)) | rw [nm_eq] | rw [ckZ_n1] | rw [ckZ_n0])
  refine WP.ie (by rw [nIz (by omega)]; exact h0) ?_
  repeat (first | ((with_reducible apply WP.ce); case h => (simp (disch := omega) only []; with_reducible rfl)) | ((with_reducible apply WP.bd); case h => (simp (disch := omega) only [e_gR, e_gI, e_aI, e_aL, e_oO, e_pI, e_wI, e_wL, Option.map_some, mS_sL, mR_sL, mI_sL, mS_sI, mR_sI, mL_sI, n_cl, ro_m hR1, e18]; with_reducible rfl)) | rw [nm_eq] | rw [ckZ_n1] | rw [ckZ_n0])
  exact WP.ret ⟨f1.tr (FM.w m M1 (Or.inl rfl) _), by rw [mI_sI, if_neg (by omega)]; exact e19, rfl⟩
/-- how a rule ends -/
def RLe (m i : Nat) (M : Mem) (r : Nat × List CLs) (v : Int32) (M' : Mem) : Prop := FRl m i M M' ∧ v = (if r.1 = 0 then nI i else (-2 : Int32) - nI r.1) ∧ mI M' m 17 = nI 0 ∧ mI M' m 21 = nI (if r.1 = 0 then i + 1 else i) ∧ (r.1 = 0 → ARl M' m i r.2)
theorem x_ruleE (hi : i < 6) (hR : RIs (mS M) (mR M) m) (fr : FRl m i M M1) {fa : Nat} {L : List CLs} (hfa : fa < 10000) (h19 : mI M1 m 19 = nI fa) (h20 : mI M1 m 20 = nI i) (h21 : mI M1 m 21 = nI i) (hn : n ≤ 13) (hA : fa = 0 → L.length = n ∧ n ≤ 12 ∧ ∀ j, j < n → ACl M1 m i j 300 (L.getD j (none, fun _ => 0))) (f : Nat) : WP (f_X10_rule_L27 m (f + 1) (nI n) (nI 0) M1) (RLe m i M (fa, L)) := by
  have hR1 := fr.RI hR
  obtain ⟨M2, hM2⟩ : ∃ M2, M2 = sI M1 m 17 (nI 0) := ⟨_, rfl⟩
  have hR2 : RIs (mS M2) (mR M2) m := by rw [hM2]; exact hR1
  have k2 : ∀ k, k ≠ 17 → mI M2 m k = mI M1 m k := fun k hk => by rw [hM2, mI_sI, if_neg (by omega)]
  have e20 : mI M2 m 20 = nI i := by rw [k2 20 (by decide)]; exact h20
  obtain ⟨M3, hM3⟩ : ∃ M3, M3 = sI M2 (m + 20) i (nI n) := ⟨_, rfl⟩
  have hR3 : RIs (mS M3) (mR M3) m := by rw [hM3]; exact hR2
  have k3 : ∀ k, mI M3 m k = mI M2 m k := fun k => by rw [hM3, sI_row (by omega)]
  have e21 : mI M3 m 21 = nI i := by rw [k3, k2 21 (by decide)]; exact h21
  have e19 : mI M3 m 19 = nI fa := by rw [k3, k2 19 (by decide)]; exact h19
  have fr3 : FRl m i M M3 := (fr.tr (by rw [hM2]; exact FRl.ws M1 (by omega) _ : FRl m i M1 M2)).tr (by rw [hM3]; exact FRl.wk M2 _ : FRl m i M2 M3)
  have s3 : RSl m i M1 (sI M1 m 17 (nI 0)) := RSl.rw (fun a a1 a2 => sI_row (by omega))
  rw [f_X10_rule_L27]
  refine WP.it rfl ?_
  repeat (first | ((with_reducible apply WP.ce); case h => (simp (disch := omega) only []; with_reducible rfl)) | ((with_reducible apply WP.bd); case h => (simp (disch := omega) only [e_gR, e_gI, e_aI, e_aL, e_oO, e_pI, e_wI, e_wL, Option.map_some, mS_sL, mR_sL, mI_sL, mS_sI, mR_sI, mL_sI, n_cl, ro_m hR1, ← hM2]; with_reducible rfl)) | rw [nm_eq] | rw [ckZ_n1] | rw [ckZ_n0])
  repeat (first | ((with_reducible apply WP.ce); case h => (simp (disch := omega) only []; with_reducible rfl)) | ((with_reducible apply WP.bd); case h => (simp (disch := omega) only [e_gR, e_gI, e_aI, e_aL, e_oO, e_pI, e_wI, e_wL, Option.map_some, mS_sL, mR_sL, mI_sL, mS_sI, mR_sI, mL_sI, n_cl, ro_m hR2, rr_clauses hR2, e20, rx_clauses hR2, ← hM3]; with_reducible rfl)) | rw [nm_eq] | rw [ckZ_n1] | rw [ckZ_n0])
  repeat (first | ((with_reducible apply WP.ce); case h => (simp (disch := omega) only []; with_reducible rfl)) | ((with_reducible apply WP.bd); case h => (simp (disch := omega) only [e_gR, e_gI, e_aI, e_aL, e_oO, e_pI, e_wI, e_wL, Option.map_some, mS_sL, mR_sL, mI_sL, mS_sI, mR_sI, mL_sI, n_cl, ro_m hR3, e21, e19]; with_reducible rfl)) | rw [nm_eq] | rw [ckZ_n1] | rw [ckZ_n0])
  unfold f_X10_rule_J79 f_X10_rule_J106
  by_cases h0 : fa = 0
  · obtain ⟨l1, l2, l3⟩ := hA h0
    refine WP.it (by rw [h0]; rfl) ?_
    rw [n_add]
    obtain ⟨M4, hM4⟩ : ∃ M4, M4 = sI M3 m 21 (nI (i + 1)) := ⟨_, rfl⟩
    have hR4 : RIs (mS M4) (mR M4) m := by rw [hM4]; exact hR3
    have d19 : mI M4 m 19 = nI fa := by rw [hM4, mI_sI, if_neg (by omega)]; exact e19
    have d21 : mI M4 m 21 = nI (i + 1) := by rw [hM4, mI_sI, if_pos ⟨rfl, rfl⟩]
    repeat (first | ((with_reducible apply WP.ce); case h => (simp (disch := omega) only []; with_reducible rfl)) | ((with_reducible apply WP.bd); case h => (simp (disch := omega) only [e_gR, e_gI, e_aI, e_aL, e_oO, e_pI, e_wI, e_wL, Option.map_some, mS_sL, mR_sL, mI_sL, mS_sI, mR_sI, mL_sI, n_cl, ro_m hR3, ← hM4]; with_reducible rfl)) | rw [nm_eq] | rw [ckZ_n1] | rw [ckZ_n0])
    repeat (first | ((with_reducible apply WP.ce); case h => (simp (disch := omega) only []; with_reducible rfl)) | ((with_reducible apply WP.bd); case h => (simp (disch := omega) only [e_gR, e_gI, e_aI, e_aL, e_oO, e_pI, e_wI, e_wL, Option.map_some, mS_sL, mR_sL, mI_sL, mS_sI, mR_sI, mL_sI, n_cl, ro_m hR4, d19]; with_reducible rfl)) | rw [nm_eq] | rw [ckZ_n1] | rw [ckZ_n0])
    refine WP.it (by rw [h0]; decide) ?_
    repeat (first | ((with_reducible apply WP.ce); case h => (simp (disch := omega) only []; with_reducible rfl)) | ((with_reducible apply WP.bd); case h => (simp (disch := omega) only [e_gR, e_gI, e_aI, e_aL, e_oO, e_pI, e_wI, e_wL, Option.map_some, mS_sL, mR_sL, mI_sL, mS_sI, mR_sI, mL_sI, n_cl, ro_m hR4, d21]; with_reducible rfl)) | rw [nm_eq] | rw [ckZ_n1] | rw [ckZ_n0])
    rw [n_sub (by omega)]
    refine WP.ret ⟨fr3.tr (by rw [hM4]; exact FRl.ws M3 (by omega) _), by rw [if_pos h0]; rfl, by rw [hM4, mI_sI, if_neg (by omega), k3, hM2, mI_sI, if_pos ⟨rfl, rfl⟩], by rw [if_pos h0]; exact d21, fun _ => ⟨by show L.length ≤ 12; omega, ?_, fun j hj => ?_⟩⟩
    · show mI M4 (m + 20) i = nI L.length
      rw [hM4, sI_row (by omega), hM3, mI_sI, if_pos ⟨rfl, rfl⟩, l1]
    · have hj : j < L.length := hj
      obtain ⟨a, b, e', q1, q2, q3, q4⟩ := l3 j (by omega)
      have row : ∀ a', m + 18 ≤ a' → a' ≤ m + 23 → a' ≠ m + 20 → mI M4 a' = mI M1 a' := fun a' x1 x2 x3 => by rw [hM4, sI_row (by omega), hM3, sI_row (by omega), hM2, sI_row (by omega)]
      have an : ∀ {a b : Nat} {D : RD}, AN M1 m i a b D → AN M4 m i a b D := fun h => by
        obtain ⟨F, h1, h2, h3, h4, h5⟩ := h
        exact ⟨F, h1, h2, FG.cp h3 (row _ (by omega) (by omega) (by omega)) (row _ (by omega) (by omega) (by omega)), h4, h5⟩
      refine ⟨a, b, e', by rw [row _ (by omega) (by omega) (by omega), row _ (by omega) (by omega) (by omega), row _ (by omega) (by omega) (by omega)]; exact q1, q2, an q3, ?_⟩
      show Option.elim (L.getD j (none, fun _ => 0)).1 (e' = b) (fun q => b < e' ∧ AN M4 m i b e' (fun v => bL (q v)))
      cases ho : (L.getD j (none, fun _ => 0)).1 with
      | none => rw [ho] at q4; exact q4
      | some qd => rw [ho] at q4; exact ⟨q4.1, an q4.2⟩
  · refine WP.ie (by rw [nIz (by omega)]; exact h0) ?_
    rw [n_add, Nat.add_zero]
    obtain ⟨M4, hM4⟩ : ∃ M4, M4 = sI M3 m 21 (nI i) := ⟨_, rfl⟩
    have hR4 : RIs (mS M4) (mR M4) m := by rw [hM4]; exact hR3
    have d19 : mI M4 m 19 = nI fa := by rw [hM4, mI_sI, if_neg (by omega)]; exact e19
    repeat (first | ((with_reducible apply WP.ce); case h => (simp (disch := omega) only []; with_reducible rfl)) | ((with_reducible apply WP.bd); case h => (simp (disch := omega) only [e_gR, e_gI, e_aI, e_aL, e_oO, e_pI, e_wI, e_wL, Option.map_some, mS_sL, mR_sL, mI_sL, mS_sI, mR_sI, mL_sI, n_cl, ro_m hR3, ← hM4]; with_reducible rfl)) | rw [nm_eq] | rw [ckZ_n1] | rw [ckZ_n0])
    repeat (first | ((with_reducible apply WP.ce); case h => (simp (disch := omega) only []; with_reducible rfl)) | ((with_reducible apply WP.bd); case h => (simp (disch := omega) only [e_gR, e_gI, e_aI, e_aL, e_oO, e_pI, e_wI, e_wL, Option.map_some, mS_sL, mR_sL, mI_sL, mS_sI, mR_sI, mL_sI, n_cl, ro_m hR4, d19]; with_reducible rfl)) | rw [nm_eq] | rw [ckZ_n1] | rw [ckZ_n0])
    refine WP.ie (by show ¬ nI fa ≤ nI 0; rw [n_le (by omega) (by decide)]; omega) ?_
    repeat (first | ((with_reducible apply WP.ce); case h => (simp (disch := omega) only []; with_reducible rfl)) | ((with_reducible apply WP.bd); case h => (simp (disch := omega) only [e_gR, e_gI, e_aI, e_aL, e_oO, e_pI, e_wI, e_wL, Option.map_some, mS_sL, mR_sL, mI_sL, mS_sI, mR_sI, mL_sI, n_cl, ro_m hR4, d19]; with_reducible rfl)) | rw [nm_eq] | rw [ckZ_n1] | rw [ckZ_n0])
    exact WP.ret ⟨fr3.tr (by rw [hM4]; exact FRl.ws M3 (by omega) _), by rw [if_neg h0], by rw [hM4, mI_sI, if_neg (by omega), k3, hM2, mI_sI, if_pos ⟨rfl, rfl⟩], by rw [if_neg h0, hM4, mI_sI, if_pos ⟨rfl, rfl⟩], fun z => absurd z h0⟩
theorem getD_l {L : List CLs} {x : CLs} {j : Nat} (h : j < L.length) : (L ++ [x]).getD j (none, fun _ => 0) = L.getD j (none, fun _ => 0) := by rw [List.getD_eq_getElem?_getD, List.getD_eq_getElem?_getD, List.getElem?_append_left h]
theorem getD_e {L : List CLs} {x : CLs} : (L ++ [x]).getD L.length (none, fun _ => 0) = x := by rw [List.getD_eq_getElem?_getD, List.getElem?_append_right (Nat.le_refl _), Nat.sub_self]; rfl
theorem ACl.fr {x : CLs} {j : Nat} (h : ACl M m i j e x) (f : FCl m i e n M M') (hj : j ≠ n) : ACl M' m i j e x := by
  obtain ⟨a, b, e', h1, h2, h3, h4⟩ := h
  have q := f.2.2.2.2.2 (12 * i + j) (fun z => by omega)
  have an : ∀ {a b : Nat} {D : RD}, b ≤ e' → AN M m i a b D → AN M' m i a b D := fun hb h => by
    obtain ⟨F, h1, h2, h3, h4, h5⟩ := h
    exact ⟨F, h1, h2, f.fg h3 (by omega), h4, h5⟩
  refine ⟨a, b, e', by rw [q.1, q.2.1, q.2.2]; exact h1, h2, an h2.2 h3, ?_⟩
  obtain ⟨o, s⟩ := x
  cases o with
  | none => exact h4
  | some qd => exact ⟨h4.1, an (Nat.le_refl _) h4.2⟩
theorem x_ruleL (h4 : TOk2 t) (hi : i < 6) (hR : RIs (mS M) (mR M) m) : ∀ d n p c e f (L : List CLs) (M1 : Mem), n + d = 13 → n ≤ 12 → L.length = n → FRl m i M M1 → RTp M1 m t → p ≤ t.1 → c ≤ 60 → 2 * e ≤ p + 2 * c → (mI M1 m 18 = nI p ∧ mI M1 m 19 = nI 0 ∧ mI M1 m 20 = nI i ∧ mI M1 m 21 = nI i ∧ mI M1 m 22 = nI e ∧ mI M1 m 23 = nI 0 ∧ mI M1 m 24 = nI c ∧ mI M1 m 26 = nI 11) → (∀ j, j < n → ACl M1 m i j e (L.getD j (none, fun _ => 0))) →
    WP (f_X10_rule_L27 m (f + d + 1) (nI n) (nI 1) M1) (RLe m i M ((ruL t d n p c).1, L ++ (ruL t d n p c).2)) := by
  have hL := h4.1
  intro d
  induction d with
  | zero => intro n p c e f L M1 h1 h2; omega
  | succ d ih =>
    intro n p c e f L M1 hnd hn hLn fr ht hp hc hb hst hA
    obtain ⟨g18, g19, g20, g21, g22, g23, g24, g26⟩ := hst
    have hR1 := fr.RI hR
    rw [show f + (d + 1) + 1 = (f + d + 1) + 1 by omega, f_X10_rule_L27]
    refine WP.ie (by decide) ?_
    repeat (first | ((with_reducible apply WP.ce); case h => (simp (disch := omega) only []; with_reducible rfl)) | ((with_reducible apply WP.bd); case h => (simp (disch := omega) only [e_gR, e_gI, e_aI, e_aL, e_oO, e_pI, e_wI, e_wL, Option.map_some, mS_sL, mR_sL, mI_sL, mS_sI, mR_sI, mL_sI, n_cl, ro_m hR1]; with_reducible rfl)) | rw [nm_eq] | rw [ckZ_n1] | rw [ckZ_n0])
    refine WP.cw (x_clause h4 hi hn hb hR1 ht g20 g26 hp hc g19 g18 g22 g24 g23) (fun _ M2 k => ?_)
    obtain ⟨k1, k2, ⟨p2, k3, k4⟩, k5⟩ := k
    obtain ⟨z1, z2⟩ := clP_ok h4 (n := n) hp hc
    obtain ⟨hR2, ht2, j20, j26⟩ := rc_of k1 hR1 ht g20 g26
    have j21 : mI M2 m 21 = nI i := by rw [k1.2.2.2.1 21 (by decide)]; exact g21
    by_cases h0 : (clP t p c n).1 = 0
    · obtain ⟨⟨r18, r24, r23⟩, e', ⟨r1, r2⟩, r22, rA⟩ := k5 h0
      obtain ⟨⟨y1, y2⟩, ⟨y3, y4⟩, y5⟩ := z2 h0
      have fr2 : FRl m i M M2 := fr.tr k1.FRl
      obtain ⟨r, hr⟩ : ∃ r, r = clP t p c n := ⟨_, rfl⟩
      rw [← hr] at h0 k2 r18 r24 r2 rA y1 y2 y3 y4
      rw [h0] at k2
      obtain ⟨t1, t2, t3, t5, t6⟩ := tk_bk y2
      have hbb := bk_bk y2
      repeat (first | ((with_reducible apply WP.ce); case h => (simp (disch := omega) only []; with_reducible rfl)) | ((with_reducible apply WP.bd); case h => (simp (disch := omega) only [e_gR, e_gI, e_aI, e_aL, e_oO, e_pI, e_wI, e_wL, Option.map_some, mS_sL, mR_sL, mI_sL, mS_sI, mR_sI, mL_sI, n_cl, ro_m hR2]; with_reducible rfl)) | rw [nm_eq] | rw [ckZ_n1] | rw [ckZ_n0])
      refine WP.cw (x_goesOn h4 (bk_le y2) (fa := 0) (by decide) hR2 ht2 r18 k2) (fun v M3 w => ?_)
      obtain ⟨w1, w2, rfl, w4⟩ := w
      rw [if_pos rfl] at w2
      rw [t5, t2] at w4
      have w2 : mI M3 m 19 = nI (gof t r.2.1) := by
        rw [w2]
        unfold gof
        rw [t5, t1, hbb]
      rw [t5]
      have fr3 : FRl m i M M3 := fr2.tr (FM.FRl w1)
      have ht3 := w1.tp ht2
      have kk : ∀ k, k ≠ 18 → k ≠ 19 → mI M3 m k = mI M2 m k := w1.2.2.2
      have rows : ∀ a, a ≠ m → mI M3 a = mI M2 a := w1.2.2.1
      have s3 : RSl m i M2 M3 := RSl.rw (fun a a1 a2 => rows _ (by omega))
      have hA2 : ∀ j, j < n + 1 → ACl M3 m i j e' ((L ++ [r.2.2.2]).getD j (none, fun _ => 0)) := fun j hj => by
        by_cases ej : j = n
        · rw [ej, ← hLn, getD_e, hLn]
          exact rA.of (by omega) s3
        · rw [getD_l (by omega)]
          exact (((hA j (by omega)).fr k1 ej).up r1).of (by omega) s3
      rw [n_add]
      by_cases hg : tkG t r.2.1 = nI 59
      · have hgof : gof t r.2.1 = 0 := by unfold gof; rw [if_pos hg]
        have hmv := gk_mv (by decide) y2 hg
        rw [decide_eq_true hg]
        have er : ruL t (d + 1) n p c = ((ruL t d (n + 1) (tkE t r.2.1) r.2.2.1).1, r.2.2.2 :: (ruL t d (n + 1) (tkE t r.2.1) r.2.2.1).2) := by
          rw [ruL, ← hr, if_pos h0, if_pos hg]
        have := ih (n + 1) (tkE t r.2.1) r.2.2.1 e' f (L ++ [r.2.2.2]) M3 (by omega) (by omega) (by rw [List.length_append, hLn]; rfl) fr3 ht3 hmv.2 y4 (by omega) ⟨w4 rfl hg, by rw [w2, hgof], by rw [kk 20 (by decide) (by decide)]; exact j20, by rw [kk 21 (by decide) (by decide)]; exact j21, by rw [kk 22 (by decide) (by decide)]; exact r22, by rw [kk 23 (by decide) (by decide)]; exact r23, by rw [kk 24 (by decide) (by decide)]; exact r24, by rw [kk 26 (by decide) (by decide)]; exact j26⟩ hA2
        rw [er]
        rw [List.append_assoc] at this
        exact this
      · have er : ruL t (d + 1) n p c = (gof t r.2.1, [r.2.2.2]) := by
          rw [ruL, ← hr, if_pos h0, if_neg hg]
        rw [decide_eq_false hg, er]
        have fl := gof_lt h4 y2
        rw [show f + d + 1 = (f + d) + 1 from rfl]
        exact x_ruleE hi hR fr3 fl w2 (by rw [kk 20 (by decide) (by decide)]; exact j20) (by rw [kk 21 (by decide) (by decide)]; exact j21) (by omega) (fun _ => ⟨by rw [List.length_append, hLn]; rfl, by omega, fun j hj => (hA2 j hj).up (by omega)⟩) (f + d)
    · have fr2 : FRl m i M M2 := fr.tr k1.FRl
      have er : ruL t (d + 1) n p c = ((clP t p c n).1, []) := by rw [ruL, if_neg h0]
      repeat (first | ((with_reducible apply WP.ce); case h => (simp (disch := omega) only []; with_reducible rfl)) | ((with_reducible apply WP.bd); case h => (simp (disch := omega) only [e_gR, e_gI, e_aI, e_aL, e_oO, e_pI, e_wI, e_wL, Option.map_some, mS_sL, mR_sL, mI_sL, mS_sI, mR_sI, mL_sI, n_cl, ro_m hR2]; with_reducible rfl)) | rw [nm_eq] | rw [ckZ_n1] | rw [ckZ_n0])
      refine WP.cw (x_goesW h4 k3 h0 z1 hR2 ht2 k4 k2) (fun v M3 w => ?_)
      obtain ⟨w1, w2, rfl⟩ := w
      have kk : ∀ k, k ≠ 18 → k ≠ 19 → mI M3 m k = mI M2 m k := w1.2.2.2
      rw [n_add, er, List.append_nil]
      exact x_ruleE hi hR (fr2.tr (FM.FRl w1)) z1 w2 (by rw [kk 20 (by decide) (by decide)]; exact j20) (by rw [kk 21 (by decide) (by decide)]; exact j21) (by omega) (fun z => absurd z h0) (f + d)
/-- a rule read -/
def a_rule (G : GD) : Int32 × GD :=
  if zC G = 6 then (-1, G)
  else if (ruL (zT G) 13 0 0 0).1 = 0 then (nI (zC G), (zB G, (0, zY G), (zC G + 1, fset (zW G) (zC G) (rlD (ruL (zT G) 13 0 0 0).2)), zM G))
  else ((-2 : Int32) - nI (ruL (zT G) 13 0 0 0).1, (zB G, (0, zY G), (zC G, zW G), zM G))
theorem x_rule {G : GD} (h : RG O m M G) (hk : GOk G) : WP (f_X10_rule m M) (fun v M' => v = (a_rule G).1 ∧ RG O m M' (a_rule G).2) := by
  have hR := h.1.1
  have h4 : TOk2 (zT G) := ⟨hk.2.1, hk.2.2.1⟩
  have hc6 := hk.2.2.2.1
  have g21 : mI M m 21 = nI (zC G) := h.2.2.1.2.1
  have ht : RTp M m (zT G) := h.2.2.2.1
  unfold f_X10_rule a_rule
  repeat (first | ((with_reducible apply WP.ce); case h => (simp (disch := omega) only []; with_reducible rfl)) | ((with_reducible apply WP.bd); case h => (simp (disch := omega) only [e_gR, e_gI, e_aI, e_aL, e_oO, e_pI, e_wI, e_wL, Option.map_some, mS_sL, mR_sL, mI_sL, mS_sI, mR_sI, mL_sI, n_cl, ro_m hR, g21]; with_reducible rfl)) | rw [nm_eq] | rw [ckZ_n1] | rw [ckZ_n0])
  by_cases c6 : zC G = 6
  · rw [if_pos c6]
    exact WP.it (by rw [c6]) (WP.ret ⟨rfl, h⟩)
  · rw [if_neg c6]
    refine WP.ie (by rw [n_eq (by omega) (by decide)]; exact c6) ?_
    repeat (first | ((with_reducible apply WP.ce); case h => (simp (disch := omega) only []; with_reducible rfl)) | ((with_reducible apply WP.bd); case h => (simp (disch := omega) only [e_gR, e_gI, e_aI, e_aL, e_oO, e_pI, e_wI, e_wL, Option.map_some, mS_sL, mR_sL, mI_sL, mS_sI, mR_sI, mL_sI, n_cl, ro_m hR, g21]; with_reducible rfl)) | rw [nm_eq] | rw [ckZ_n1] | rw [ckZ_n0])
    obtain ⟨M1, hM1⟩ : ∃ M1, M1 = sI M m 20 (nI (zC G)) := ⟨_, rfl⟩
    rw [← hM1]
    have hR1 : RIs (mS M1) (mR M1) m := by rw [hM1]; exact hR
    obtain ⟨M2, hM2⟩ : ∃ M2, M2 = sI (sI (sI (sI (sI M1 m 18 (nI 0)) m 19 (nI 0)) m 22 (nI 0)) m 23 (nI 0)) m 24 (nI 0) := ⟨_, rfl⟩
    have a1 : f_X10_starts m M1 = some ((), M2) := by
      unfold f_X10_starts
      rw [hM2]
      repeat (first | ((with_reducible apply clt_t); case h => (simp (disch := omega) only [hR]; with_reducible rfl)) | ((with_reducible apply bnd_t); case h => (simp (disch := omega) only [e_gR, e_gI, e_aI, e_aL, e_oO, e_pI, e_wI, e_wL, Option.map_some, mS_sL, mR_sL, mI_sL, mS_sI, mR_sI, mL_sI, n_cl, ro_m hR1]; with_reducible rfl)) | rw [nm_eq])
      rfl
    have fr2 : FRl m (zC G) M M2 := by
      rw [hM2, hM1]
      exact ((((((FRl.ws M (by omega) _).tr (FRl.ws _ (by omega) _)).tr (FRl.ws _ (by omega) _)).tr (FRl.ws _ (by omega) _)).tr (FRl.ws _ (by omega) _)).tr (FRl.ws _ (by omega) _))
    have kk : ∀ k, k < 18 ∨ k = 21 ∨ 24 < k → mI M2 m k = mI M m k := fun k hk => by rw [hM2, mI_sI, if_neg (by omega), mI_sI, if_neg (by omega), mI_sI, if_neg (by omega), mI_sI, if_neg (by omega), mI_sI, if_neg (by omega), hM1, mI_sI, if_neg (by omega)]
    have b18 : mI M2 m 18 = nI 0 := by rw [hM2, mI_sI, if_neg (by omega), mI_sI, if_neg (by omega), mI_sI, if_neg (by omega), mI_sI, if_neg (by omega), mI_sI, if_pos ⟨rfl, rfl⟩]
    have b19 : mI M2 m 19 = nI 0 := by rw [hM2, mI_sI, if_neg (by omega), mI_sI, if_neg (by omega), mI_sI, if_neg (by omega), mI_sI, if_pos ⟨rfl, rfl⟩]
    have b20 : mI M2 m 20 = nI (zC G) := by rw [hM2, mI_sI, if_neg (by omega), mI_sI, if_neg (by omega), mI_sI, if_neg (by omega), mI_sI, if_neg (by omega), mI_sI, if_neg (by omega), hM1, mI_sI, if_pos ⟨rfl, rfl⟩]
    have b22 : mI M2 m 22 = nI 0 := by rw [hM2, mI_sI, if_neg (by omega), mI_sI, if_neg (by omega), mI_sI, if_pos ⟨rfl, rfl⟩]
    have b23 : mI M2 m 23 = nI 0 := by rw [hM2, mI_sI, if_neg (by omega), mI_sI, if_pos ⟨rfl, rfl⟩]
    have b24 : mI M2 m 24 = nI 0 := by rw [hM2, mI_sI, if_pos ⟨rfl, rfl⟩]
    repeat (first | ((with_reducible apply WP.ce); case h => (simp (disch := omega) only [a1]; with_reducible rfl)) | ((with_reducible apply WP.bd); case h => (simp (disch := omega) only [e_gR, e_gI, e_aI, e_aL, e_oO, e_pI, e_wI, e_wL, Option.map_some, mS_sL, mR_sL, mI_sL, mS_sI, mR_sI, mL_sI, n_cl, ro_m hR1]; with_reducible rfl)) | rw [nm_eq] | rw [ckZ_n1] | rw [ckZ_n0])
    obtain ⟨f, hf⟩ := FUd 13 (by omega)
    rw [hf]
    refine WP.mono (x_ruleL h4 (by omega) hR 13 0 0 0 0 f [] M2 rfl (by decide) rfl fr2 ⟨by rw [kk 17 (by omega)]; exact ht.1, by rw [fr2.2.2.1 (m + 17) (by omega) (by omega)]; exact ht.2⟩ (Nat.zero_le _) (by decide) (by decide) ⟨b18, b19, b20, by rw [kk 21 (by omega)]; exact g21, b22, b23, b24, by rw [kk 26 (by omega)]; exact h.1.2.2.1⟩ (fun j hj => absurd hj (Nat.not_lt_zero j))) (fun v M3 k => ?_)
    obtain ⟨r, hr⟩ : ∃ r, r = ruL (zT G) 13 0 0 0 := ⟨_, rfl⟩
    rw [← hr, List.nil_append] at k
    rw [← hr]
    obtain ⟨k1, rfl, k3, k4, k5⟩ := k
    obtain ⟨⟨q1, q2, q3, q4⟩, q5, q6, q7, q8⟩ := h
    have hR3 := k1.RI q1
    have row : ∀ a, a < 18 ∨ 24 < a → a ≠ 0 → mI M3 (m + a) = mI M (m + a) := fun a ha h0 => k1.2.2.1 (m + a) (by omega) (by omega)
    have core : ∀ c' W', RWs M3 m c' W' → RG O m M3 (zB G, (0, zY G), (c', W'), zM G) := fun c' W' hW => by
      refine ⟨⟨hR3, (k1.2.2.2.1 38 (by omega)).trans q2, (k1.2.2.2.1 26 (by omega)).trans q3, q4.up ⟨k1.1, k1.2.1⟩ (fun a ha => k1.2.2.1 a (by omega) (by omega))⟩, ?_, hW, ⟨k3, fun i hi => absurd hi (Nat.not_lt_zero i)⟩, ?_⟩
      · show RBk M3 m (zB G)
        unfold RBk
        rw [row 1 (by omega) (by decide), row 2 (by omega) (by decide), row 3 (by omega) (by decide), row 4 (by omega) (by decide), row 5 (by omega) (by decide), row 6 (by omega) (by decide), row 7 (by omega) (by decide), row 8 (by omega) (by decide), row 9 (by omega) (by decide), row 10 (by omega) (by decide), row 11 (by omega) (by decide), row 28 (by omega) (by decide), k1.2.2.2.1 42 (by omega)]
        exact q5
      · rw [row 36 (by omega) (by decide), row 35 (by omega) (by decide)]
        exact q8
    by_cases h0 : r.1 = 0
    · rw [if_pos h0, if_pos h0]
      rw [if_pos h0] at k4
      refine ⟨rfl, core _ _ ⟨by omega, k4, fun j hj M4 hR4 g1 g2 => ?_⟩⟩
      by_cases ej : j = zC G
      · subst ej
        rw [fset_s]
        exact x_wanted hR4 (by omega) ((k5 h0).of g1) g2
      · rw [fset_o _ _ ej]
        exact q6.2.2 j (by omega) M4 hR4 ((k1.2.2.2.2 j ej).tr g1) g2
    · rw [if_neg h0, if_neg h0]
      rw [if_neg h0] at k4
      refine ⟨rfl, core _ _ ⟨q6.1, k4, fun j hj M4 hR4 g1 g2 => q6.2.2 j hj M4 hR4 ((k1.2.2.2.2 j (by omega)).tr g1) g2⟩⟩
end RRL
