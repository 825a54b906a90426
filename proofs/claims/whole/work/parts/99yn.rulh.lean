/-! THE CLASS: facts and tests of a rule -/
theorem jnd_cmp {k : Nat} (h : k = 4 ∨ k = 5 ∨ k = 6 ∨ k = 7 ∨ k = 8) (x y : Int64) : jnd (k + 8) x y = bL (cpr k x y) := by
  rcases h with rfl | rfl | rfl | rfl | rfl <;> rfl
theorem lsw_e (x : Int32) (y : Int) (o z : Option (Int32 × Mem)) (l : List (Int × Option (Int32 × Mem))) : lsw x ((y, o) :: l) z = if x.toInt = y then o else lsw x l z := rfl
theorem y_cstep {t : TP} (h4 : TOk2 t) (p : Nat) (M : Mem) : f_X5_compareStep (tkG t p) M = some (if cmk t p = 0 then -1 else nI (cmk t p + 8), M) := by
  unfold f_X5_compareStep
  rw [lsw_e, lsw_e, lsw_e, lsw_e, lsw_e]
  rcases tkG_f h4 p with e | ⟨n, hn, e⟩
  · have s0 : cmk t p = 0 := by unfold cmk; rw [e]; rfl
    rw [e, s0, show (-1 : Int32).toInt = -1 from (by decide), if_neg (by decide), if_neg (by decide), if_neg (by decide), if_neg (by decide), if_neg (by decide)]; rfl
  · have lhs : ∀ x : Option (Int32 × Mem), (if (tkG t p).toInt = 60 then some (nI 12, M) else if (tkG t p).toInt = 61 then some (nI 14, M) else if (tkG t p).toInt = 62 then some (nI 16, M) else if (tkG t p).toInt = 316 then some (nI 13, M) else if (tkG t p).toInt = 318 then some (nI 15, M) else x) = (if n = 60 then some (nI 12, M) else if n = 61 then some (nI 14, M) else if n = 62 then some (nI 16, M) else if n = 316 then some (nI 13, M) else if n = 318 then some (nI 15, M) else x) := fun x => by
      rw [e, nI_toInt (by omega)]
      have q : ∀ (c : Nat) (y z : Option (Int32 × Mem)), (if (n : Int) = (c : Int) then y else z) = (if n = c then y else z) := fun c y z => by
        by_cases h : n = c
        · rw [if_pos (by omega), if_pos h]
        · rw [if_neg (by omega), if_neg h]
      rw [← q 60, ← q 61, ← q 62, ← q 316, ← q 318]; rfl
    rw [lhs]
    by_cases h1 : n = 60
    · have : cmk t p = 4 := by unfold cmk; rw [e, h1]; rfl
      rw [this, if_pos h1]; rfl
    · rw [if_neg h1]
      by_cases h2 : n = 61
      · have : cmk t p = 6 := by unfold cmk; rw [e, h2]; rfl
        rw [this, if_pos h2]; rfl
      · rw [if_neg h2]
        by_cases h3 : n = 62
        · have : cmk t p = 8 := by unfold cmk; rw [e, h3]; rfl
          rw [this, if_pos h3]; rfl
        · rw [if_neg h3]
          by_cases h5 : n = 316
          · have : cmk t p = 5 := by unfold cmk; rw [e, h5]; rfl
            rw [this, if_pos h5]; rfl
          · rw [if_neg h5]
            by_cases h6 : n = 318
            · have : cmk t p = 7 := by unfold cmk; rw [e, h6]; rfl
              rw [this, if_pos h6]; rfl
            · have ne : ∀ c, c = 60 ∨ c = 61 ∨ c = 62 ∨ c = 316 ∨ c = 318 → ¬ tkG t p = nI c := fun c hc z => by
                rw [e, n_eq (by omega) (by omega)] at z; omega
              have : cmk t p = 0 := by
                unfold cmk
                rw [if_neg (ne 60 (by omega)), if_neg (ne 316 (by omega)), if_neg (ne 61 (by omega)), if_neg (ne 318 (by omega)), if_neg (ne 62 (by omega))]
              rw [this, if_neg h6]; rfl
section CFC
variable {M : Mem} {t : TP} {p c w : Nat} {C : CDs}
theorem tw_not (h4 : TOk2 t) (p : Nat) : (lg_cmp (tkW t p) 7237492 = 0) = (lts t (bk t p) = w_not) := by
  rw [lgc_eq, tw_eq h4 p (w := w_not) (by decide) (by decide) (by decide +kernel) (by decide +kernel)]
theorem tw_and (h4 : TOk2 t) (p : Nat) : (lg_cmp (tkW t p) 6385252 = 0) = (lts t (bk t p) = w_and) := by
  rw [lgc_eq, tw_eq h4 p (w := w_and) (by decide) (by decide) (by decide +kernel) (by decide +kernel)]
theorem tw_or (h4 : TOk2 t) (p : Nat) : (lg_cmp (tkW t p) 28530 = 0) = (lts t (bk t p) = w_or) := by
  rw [lgc_eq, tw_eq h4 p (w := w_or) (by decide) (by decide) (by decide +kernel) (by decide +kernel)]
theorem tw_if (h4 : TOk2 t) (p : Nat) : (lg_cmp (tkW t p) 26982 = 0) = (lts t (bk t p) = w_if) := by
  rw [lgc_eq, tw_eq h4 p (w := w_if) (by decide) (by decide) (by decide +kernel) (by decide +kernel)]
theorem tw_tell (h4 : TOk2 t) (p : Nat) : (lg_cmp (tkW t p) 1952803948 = 0) = (lts t (bk t p) = w_tell) := by
  rw [lgc_eq, tw_eq h4 p (w := w_tell) (by decide) (by decide) (by decide +kernel) (by decide +kernel)]
theorem y_counts (hc : c ≤ 60) (h : CSt M t p c C w) : WP (f_X5_counts 10 M) (fun v M' => v = bI (decide (c < 60)) ∧ FK M M' ∧ CSt M' t p (c + 1) C w) := by
  obtain ⟨⟨hC, ht, hk, h2⟩, ⟨h10, h11⟩, ⟨h12, h13⟩, h14⟩ := h
  obtain ⟨M1, hM1⟩ : ∃ M1, M1 = sI M 10 4 (nI (c + 1)) := ⟨_, rfl⟩
  have hC1 : CIs (mS M1) (mR M1) := by rw [hM1]; exact hC
  have e4 : mI M1 10 4 = nI (c + 1) := by rw [hM1, mI_sI, if_pos ⟨rfl, rfl⟩]
  have r1 : ∀ a, a ≠ 10 → mI M1 a = mI M a := fun a ha => by rw [hM1, sI_row ha]
  have s1 : CSt M1 t p (c + 1) C w := ⟨⟨hC1, ⟨by rw [r1 1 (by decide)]; exact ht.1, by rw [r1 2 (by decide)]; exact ht.2⟩, hk.of (r1 1 (by decide)) (by rw [hM1]; rfl), by rw [r1 1 (by decide)]; exact h2⟩, ⟨e4, by rw [hM1, mI_sI, if_neg (by decide)]; exact h11⟩, ⟨by rw [hM1, mI_sI, if_neg (by decide)]; exact h12, by rw [r1 11 (by decide)]; exact h13⟩, h14⟩
  have f1 : FK M M1 := by rw [hM1]; exact FK.wx M (Or.inl rfl) _ _
  unfold f_X5_counts f_X5_counts_J24
  repeat (first | ((with_reducible apply WP.ce); case h => (simp (disch := omega) only []; with_reducible rfl)) | ((with_reducible apply WP.bd); case h => (simp (disch := omega) only [e_gR, e_gI, e_aI, e_aL, e_oO, e_pI, e_wI, e_wL, Option.map_some, mS_sL, mR_sL, mI_sL, mS_sI, mR_sI, mL_sI, n_cl, cob_10 hC, h10, n_add, ← hM1]; with_reducible rfl)) | rw [nm_eq] | rw [ckZ_n1] | rw [ckZ_n0])
  repeat (first | ((with_reducible apply WP.ce); case h => (simp (disch := omega) only []; with_reducible rfl)) | ((with_reducible apply WP.bd); case h => (simp (disch := omega) only [e_gR, e_gI, e_aI, e_aL, e_oO, e_pI, e_wI, e_wL, Option.map_some, mS_sL, mR_sL, mI_sL, mS_sI, mR_sI, mL_sI, n_cl, cob_10 hC1, e4]; with_reducible rfl)) | rw [nm_eq] | rw [ckZ_n1] | rw [ckZ_n0])
  by_cases c6 : c < 60
  · refine WP.ie (by rw [n_lt (by decide) (by omega)]; omega) ?_
    rw [decide_eq_true c6]
    exact WP.ret ⟨rfl, f1, s1⟩
  · refine WP.it (by rw [n_lt (by decide) (by omega)]; omega) ?_
    rw [decide_eq_false c6]
    exact WP.ret ⟨rfl, f1, s1⟩
theorem y_landN (M : Mem) : f_X5_land 10 (-1) M = some ((), M) := by
  unfold f_X5_land f_X5_land_J30
  rw [if_pos rfl]
theorem y_land {k : Nat} {G : CDs} (hk : k ≤ 16) (hl : (C ++ (k, 0) :: G).length ≤ 400) (h : CSt M t p c (C ++ (k, 0) :: G) w) : WP (f_X5_land 10 (nI C.length) M) (fun _ M' => FK M M' ∧ CSt M' t p c (C ++ (k, G.length) :: G) w) := by
  obtain ⟨⟨hC, ht, hkk, h2⟩, ⟨h10, h11⟩, ⟨h12, h13⟩, h14⟩ := h
  have len : (C ++ (k, 0) :: G).length = C.length + (G.length + 1) := by rw [List.length_append]; rfl
  have len2 : (C ++ (k, G.length) :: G).length = C.length + (G.length + 1) := by rw [List.length_append]; rfl
  rw [len] at h12 hl
  have g0 : (C ++ (k, 0) :: G).getD C.length (0, 0) = (k, 0) := by rw [List.getD_eq_getElem?_getD, List.getElem?_append_right (Nat.le_refl _), Nat.sub_self]; rfl
  have e0 := h13 C.length (by rw [len]; omega)
  rw [g0] at e0
  obtain ⟨M1, hM1⟩ : ∃ M1, M1 = sI M 11 C.length (nI (cwd (k, G.length))) := ⟨_, rfl⟩
  have hC1 : CIs (mS M1) (mR M1) := by rw [hM1]; exact hC
  have r1 : ∀ a, a ≠ 11 → mI M1 a = mI M a := fun a ha => by rw [hM1, sI_row ha]
  unfold f_X5_land f_X5_land_J30
  refine WP.ie (nm1 (by omega)) ?_
  repeat (first | ((with_reducible apply WP.ce); case h => (simp (disch := omega) only []; with_reducible rfl)) | ((with_reducible apply WP.bd); case h => (simp (disch := omega) only [e_gR, e_gI, e_aI, e_aL, e_oO, e_pI, e_wI, e_wL, Option.map_some, mS_sL, mR_sL, mI_sL, mS_sI, mR_sI, mL_sI, n_cl, cob_10 hC, h12]; with_reducible rfl)) | rw [nm_eq] | rw [ckZ_n1] | rw [ckZ_n0])
  refine WP.ie (by rw [n_le (by omega) (by omega)]; omega) ?_
  have ev : nI (cwd (k, 0)) ||| (nI (C.length + (G.length + 1)) - nI C.length - nI 1) = nI (cwd (k, G.length)) := by
    rw [n_sub (by omega), n_sub (by omega), show C.length + (G.length + 1) - C.length - 1 = G.length by omega, cwd_l (by omega)]
  repeat (first | ((with_reducible apply WP.ce); case h => (simp (disch := omega) only []; with_reducible rfl)) | ((with_reducible apply WP.bd); case h => (simp (disch := omega) only [e_gR, e_gI, e_aI, e_aL, e_oO, e_pI, e_wI, e_wL, Option.map_some, mS_sL, mR_sL, mI_sL, mS_sI, mR_sI, mL_sI, n_cl, cob_10 hC, cr_code hC, cx_code hC, e0, h12]; with_reducible rfl)) | rw [nm_eq] | rw [ckZ_n1] | rw [ckZ_n0])
  rw [ev, ← hM1]
  refine WP.ret ⟨by rw [hM1]; exact FK.wx M (Or.inr (Or.inl rfl)) _ _, ⟨hC1, ⟨by rw [r1 1 (by decide)]; exact ht.1, by rw [r1 2 (by decide)]; exact ht.2⟩, hkk.of (r1 1 (by decide)) (by rw [hM1]; rfl), by rw [r1 1 (by decide)]; exact h2⟩, ⟨by rw [r1 10 (by decide)]; exact h10, by rw [r1 10 (by decide)]; exact h11⟩, ⟨by rw [r1 10 (by decide), len2]; exact h12, fun j hj => ?_⟩, fun x hx => ?_⟩
  · rw [len2] at hj
    rw [hM1, mI_sI]
    by_cases ej : j = C.length
    · rw [if_pos ⟨rfl, ej⟩, ej, List.getD_eq_getElem?_getD, List.getElem?_append_right (Nat.le_refl _), Nat.sub_self]; rfl
    · rw [if_neg (fun z => ej z.2), h13 j (by rw [len]; omega)]
      congr 2
      by_cases cj : j < C.length
      · rw [List.getD_eq_getElem?_getD, List.getD_eq_getElem?_getD, List.getElem?_append_left cj, List.getElem?_append_left cj]
      · rw [List.getD_eq_getElem?_getD, List.getD_eq_getElem?_getD, List.getElem?_append_right (by omega), List.getElem?_append_right (by omega), show j - C.length = (j - C.length - 1) + 1 by omega]; rfl
  · rcases List.mem_append.mp hx with z | z
    · exact h14 x (List.mem_append.mpr (Or.inl z))
    · rcases List.mem_cons.mp z with z | z
      · rw [z]; exact ⟨hk, by show G.length < 2 ^ 20; omega⟩
      · exact h14 x (List.mem_append.mpr (Or.inr (List.mem_cons_of_mem _ z)))
theorem y_landF (hC : CIs (mS M) (mR M)) {f j : Nat} (h : CFl M f) (hj : j < 400) : WP (f_X5_land 10 (nI j) M) (fun _ M' => FK M M' ∧ CFl M' f) := by
  obtain ⟨h0, h1, L, h2, h3⟩ := h
  unfold f_X5_land f_X5_land_J30
  refine WP.ie (nm1 (by omega)) ?_
  repeat (first | ((with_reducible apply WP.ce); case h => (simp (disch := omega) only []; with_reducible rfl)) | ((with_reducible apply WP.bd); case h => (simp (disch := omega) only [e_gR, e_gI, e_aI, e_aL, e_oO, e_pI, e_wI, e_wL, Option.map_some, mS_sL, mR_sL, mI_sL, mS_sI, mR_sI, mL_sI, n_cl, cob_10 hC, h3]; with_reducible rfl)) | rw [nm_eq] | rw [ckZ_n1] | rw [ckZ_n0])
  by_cases c1 : L ≤ j
  · exact WP.it (by rw [n_le (by omega) (by omega)]; exact c1) (WP.ret ⟨FK.rf M, h0, h1, L, h2, h3⟩)
  · refine WP.ie (by rw [n_le (by omega) (by omega)]; exact c1) ?_
    repeat (first | ((with_reducible apply WP.ce); case h => (simp (disch := omega) only []; with_reducible rfl)) | ((with_reducible apply WP.bd); case h => (simp (disch := omega) only [e_gR, e_gI, e_aI, e_aL, e_oO, e_pI, e_wI, e_wL, Option.map_some, mS_sL, mR_sL, mI_sL, mS_sI, mR_sI, mL_sI, n_cl, cob_10 hC, cr_code hC, cx_code hC, h3]; with_reducible rfl)) | rw [nm_eq] | rw [ckZ_n1] | rw [ckZ_n0])
    exact WP.ret ⟨FK.wx M (Or.inr (Or.inl rfl)) _ _, h0, by rw [sI_row (by decide)]; exact h1, L, h2, by rw [sI_row (by decide)]; exact h3⟩
theorem y_landW (hC : CIs (mS M) (mR M)) {f : Nat} (h : CFl M f) {l : Int32} (hl : l = -1 ∨ ∃ j, j < 400 ∧ l = nI j) : WP (f_X5_land 10 l M) (fun _ M' => FK M M' ∧ CFl M' f) := by
  rcases hl with rfl | ⟨j, hj, rfl⟩
  · exact WP.of (y_landN M) ⟨FK.rf M, h⟩
  · exact y_landF hC h hj
/-- how a fact ends -/
def FCc (M : Mem) (t : TP) (p c : Nat) (C : CDs) (w : Nat) (stk : STK) (v : Int32) (M' : Mem) : Prop := FK M M' ∧ ((v = nI 1 ∧ ∃ D p' c' F w', tsR t (none, p, c, stk) = tsR t (some D, p', c', stk) ∧ CSt M' t p' c' (C ++ F) w' ∧ Cp F 4 (fun v => [bL (D v)]) ∧ (wsb w w' ∧ dpd w' D) ∧ (p < p' ∧ p' ≤ t.1) ∧ (c ≤ c' ∧ c' ≤ 60) ∧ F.length + p ≤ p') ∨ ((tsR t (none, p, c, stk)).1 ≠ 0 ∧ v = nI 0 ∧ CFl M' (tsR t (none, p, c, stk)).1))
/-- how a test ends -/
def TTc (M : Mem) (t : TP) (p c : Nat) (C : CDs) (w : Nat) (stk : STK) (v : Int32) (M' : Mem) : Prop := FK M M' ∧ ((v = nI 1 ∧ ∃ D p' c' F w', tsR t (none, p, c, stk) = tsR t (some D, p', c', stk) ∧ CSt M' t p' c' (C ++ F) w' ∧ Cp F 4 (fun v => [bL (D v)]) ∧ (wsb w w' ∧ dpd w' D) ∧ (p < p' ∧ p' ≤ t.1) ∧ (c ≤ c' ∧ c' ≤ 60) ∧ F.length + p ≤ p' ∧ ¬ lts t (bk t p') = w_and ∧ ¬ lts t (bk t p') = w_or) ∨ ((tsR t (none, p, c, stk)).1 ≠ 0 ∧ v = nI 0 ∧ CFl M' (tsR t (none, p, c, stk)).1))
/-- two sums compared -/
theorem y_cmp (h4 : TOk2 t) (hp : p ≤ t.1) (hc : c ≤ 60) (hl : C.length ≤ p) (stk : STK) (hn : ¬ lts t (bk t p) = w_not) (hg : ¬ tkG t p = nI 91) (h : CSt M t p c C w) (gT gF : Nat → Int32 → Mem → Option (Int32 × Mem)) (l1 : Int32) : WP (f_X5_readFact_J68 gT gF 10 l1 (nI 0) (nI 0) M) (FCc M t p c C w stk) := by
  have hL := h4.1
  have hC := h.1.1
  have hp0 : ((none, p, c, stk) : TSt).2.1 ≤ t.1 := hp
  obtain ⟨z1, z2⟩ := smP_ok h4 (c := c) hp
  have eS : tsS t (none, p, c, stk) = (if (cmP t p c).1 = 0 then .inr (some (cmP t p c).2.2.2, (cmP t p c).2.1, (cmP t p c).2.2.1, stk) else .inl (cmP t p c)) := by
    unfold tsS
    dsimp only
    rw [if_neg hn, if_neg hg]
  have bad : ∀ (f : Nat) (M' : Mem), FK M M' → CFl M' f → (cmP t p c).1 = f → WP (some (nI 0, M')) (FCc M t p c C w stk) := fun f M' fr hf hr => by
    have h0 : (cmP t p c).1 ≠ 0 := by rw [hr]; exact hf.1
    rw [if_neg h0] at eS
    have er := tsR_l h4 hp0 eS
    exact WP.ret ⟨fr, Or.inr ⟨by rw [er]; exact h0, rfl, by rw [er, hr]; exact hf⟩⟩
  unfold f_X5_readFact_J68 f_X5_readFact_J258 f_X5_readFact_J259
  refine WP.it rfl (WP.it rfl ?_)
  repeat (first | ((with_reducible apply WP.ce); case h => (simp (disch := omega) only []; with_reducible rfl)) | ((with_reducible apply WP.bd); case h => (simp (disch := omega) only [e_gR, e_gI, e_aI, e_aL, e_oO, e_pI, e_wI, e_wL, Option.map_some, mS_sL, mR_sL, mI_sL, mS_sI, mR_sI, mL_sI, n_cl, cob_10 hC]; with_reducible rfl)) | rw [nm_eq] | rw [ckZ_n1] | rw [ckZ_n0])
  refine WP.cw (y_sum h4 hp hc hl h) (fun v M1 u => ?_)
  obtain ⟨u1, u2⟩ := u
  rcases u2 with ⟨s0, rfl, F, w1, v1, v2, v3, v4, v5, v6⟩ | ⟨s0, rfl, v1⟩
  · obtain ⟨⟨y1, y2⟩, ⟨y3, y4⟩, y5⟩ := z2 s0
    obtain ⟨r1, hr1⟩ : ∃ r1, r1 = smP t p c := ⟨_, rfl⟩
    rw [← hr1] at s0 v1 v2 v4 v5 v6 y1 y2 y3 y4 y5
    have hC1 := v1.1.1
    have kg := v1.1.2.2.1.2.2.2.2.1
    have k4 := v1.1.2.2.1.2.1
    have a1 := y_cstep h4 r1.2.1 M1
    have hlF : (C ++ F).length = C.length + F.length := List.length_append
    refine WP.ie (by decide) ?_
    repeat (first | ((with_reducible apply WP.ce); case h => (simp (disch := omega) only [a1]; with_reducible rfl)) | ((with_reducible apply WP.bd); case h => (simp (disch := omega) only [e_gR, e_gI, e_aI, e_aL, e_oO, e_pI, e_wI, e_wL, Option.map_some, mS_sL, mR_sL, mI_sL, mS_sI, mR_sI, mL_sI, n_cl, cob_10 hC1, cr_10_tape hC1, cob_1 hC1, kg]; with_reducible rfl)) | rw [nm_eq] | rw [ckZ_n1] | rw [ckZ_n0])
    by_cases k0 : cmk t r1.2.1 = 0
    · rw [if_pos k0]
      refine WP.it rfl ?_
      repeat (first | ((with_reducible apply WP.ce); case h => (simp (disch := omega) only []; with_reducible rfl)) | ((with_reducible apply WP.bd); case h => (simp (disch := omega) only [e_gR, e_gI, e_aI, e_aL, e_oO, e_pI, e_wI, e_wL, Option.map_some, mS_sL, mR_sL, mI_sL, mS_sI, mR_sI, mL_sI, n_cl, cob_10 hC1, cr_10_tape hC1, cob_1 hC1, k4]; with_reducible rfl)) | rw [nm_eq] | rw [ckZ_n1] | rw [ckZ_n0])
      refine WP.cw (y_fail v1 (by omega) _ 0) (fun v M2 g => ?_)
      obtain ⟨rfl, g1, g2⟩ := g
      rw [ckZ_n0]
      exact bad _ M2 (u1.tr g1) g2 (by unfold cmP; rw [← hr1, if_pos s0, if_pos k0]; rfl)
    · rw [if_neg k0]
      have hk3 := cmk_k k0
      have hmv : r1.2.1 < tkE t r1.2.1 ∧ tkE t r1.2.1 ≤ t.1 := by
        have q1 := tkE_gt y2 (by omega : tkK t r1.2.1 ≠ 0)
        have q2 := tkE_le y2
        have := bk_ge t r1.2.1
        omega
      have hkk : cmk t r1.2.1 = 4 ∨ cmk t r1.2.1 = 5 ∨ cmk t r1.2.1 = 6 ∨ cmk t r1.2.1 = 7 ∨ cmk t r1.2.1 = 8 := by
        rcases cm_cs h4 r1.2.1 with z | z | z | z | z | z
        · exact Or.inl z.2.2.1
        · exact Or.inr (Or.inl z.2.2.1)
        · exact Or.inr (Or.inr (Or.inl z.2.1))
        · exact Or.inr (Or.inr (Or.inr (Or.inl z.2.2.1)))
        · exact Or.inr (Or.inr (Or.inr (Or.inr z.2.2.1)))
        · exact absurd z.2 k0
      obtain ⟨k, hk⟩ : ∃ k, k = cmk t r1.2.1 := ⟨_, rfl⟩
      rw [← hk] at hkk k0 ⊢
      refine WP.ie (nm1 (a := k + 8) (by omega)) ?_
      repeat (first | ((with_reducible apply WP.ce); case h => (simp (disch := omega) only []; with_reducible rfl)) | ((with_reducible apply WP.bd); case h => (simp (disch := omega) only [e_gR, e_gI, e_aI, e_aL, e_oO, e_pI, e_wI, e_wL, Option.map_some, mS_sL, mR_sL, mI_sL, mS_sI, mR_sI, mL_sI, n_cl, cob_10 hC1]; with_reducible rfl)) | rw [nm_eq] | rw [ckZ_n1] | rw [ckZ_n0])
      refine WP.cw (y_counts y4 v1) (fun v M2 g => ?_)
      obtain ⟨rfl, g1, g2⟩ := g
      have hC2 := g2.1.1
      have k4' := g2.1.2.2.1.2.1
      by_cases c6 : r1.2.2.1 < 60
      · rw [decide_eq_true c6]
        refine WP.ie (show ¬ bI true = 0 by decide) ?_
        repeat (first | ((with_reducible apply WP.ce); case h => (simp (disch := omega) only []; with_reducible rfl)) | ((with_reducible apply WP.bd); case h => (simp (disch := omega) only [e_gR, e_gI, e_aI, e_aL, e_oO, e_pI, e_wI, e_wL, Option.map_some, mS_sL, mR_sL, mI_sL, mS_sI, mR_sI, mL_sI, n_cl, cob_10 hC2, cr_10_tape hC2, cob_1 hC2]; with_reducible rfl)) | rw [nm_eq] | rw [ckZ_n1] | rw [ckZ_n0])
        refine WP.cw (y_next h4 y2 g2) (fun _ M3 n3 => ?_)
        obtain ⟨n1, n2⟩ := n3
        have hC3 := n2.1.1
        repeat (first | ((with_reducible apply WP.ce); case h => (simp (disch := omega) only []; with_reducible rfl)) | ((with_reducible apply WP.bd); case h => (simp (disch := omega) only [e_gR, e_gI, e_aI, e_aL, e_oO, e_pI, e_wI, e_wL, Option.map_some, mS_sL, mR_sL, mI_sL, mS_sI, mR_sI, mL_sI, n_cl, cob_10 hC3]; with_reducible rfl)) | rw [nm_eq] | rw [ckZ_n1] | rw [ckZ_n0])
        obtain ⟨x1, x2⟩ := smP_ok h4 (p := tkE t r1.2.1) (c := r1.2.2.1 + 1) hmv.2
        refine WP.cw (y_sum h4 hmv.2 (by omega) (by rw [hlF]; omega) n2) (fun v M4 q => ?_)
        obtain ⟨q1, q2⟩ := q
        have fr4 := ((u1.tr g1).tr n1).tr q1
        rcases q2 with ⟨t0, rfl, G, w2, o1, o2, o3, o4, o5, o6⟩ | ⟨t0, rfl, o1⟩
        · obtain ⟨⟨e1, e2⟩, ⟨e3, e4⟩, e5⟩ := x2 t0
          have ec : cmP t p c = (0, (smP t (tkE t r1.2.1) (r1.2.2.1 + 1)).2.1, (smP t (tkE t r1.2.1) (r1.2.2.1 + 1)).2.2.1, fun v => cpr k (r1.2.2.2 v) ((smP t (tkE t r1.2.1) (r1.2.2.1 + 1)).2.2.2 v)) := by
            unfold cmP
            rw [← hr1, if_pos s0, ← hk, if_neg k0, if_pos c6, if_pos t0]
          obtain ⟨r2, hr2⟩ : ∃ r2, r2 = smP t (tkE t r1.2.1) (r1.2.2.1 + 1) := ⟨_, rfl⟩
          rw [← hr2] at ec o1 o2 o4 o5 o6 e1 e2 e3 e4 e5
          have hC4 := o1.1.1
          refine WP.ie (by decide) ?_
          repeat (first | ((with_reducible apply WP.ce); case h => (simp (disch := omega) only []; with_reducible rfl)) | ((with_reducible apply WP.bd); case h => (simp (disch := omega) only [e_gR, e_gI, e_aI, e_aL, e_oO, e_pI, e_wI, e_wL, Option.map_some, mS_sL, mR_sL, mI_sL, mS_sI, mR_sI, mL_sI, n_cl, cob_10 hC4]; with_reducible rfl)) | rw [nm_eq] | rw [ckZ_n1] | rw [ckZ_n0])
          rw [List.append_assoc] at o1
          refine WP.cw (y_put o1 (x := (k + 8, 0)) (by rw [List.length_append, List.length_append]; omega) ⟨by show k + 8 ≤ 16; omega, by show 0 < 2 ^ 20; decide⟩) (fun v M5 y => ?_)
          obtain ⟨rfl, yy1, yy2⟩ := y
          rw [List.append_assoc] at yy2
          refine WP.ie (by decide) ?_
          rw [ckZ_n1]
          have eS2 : tsS t (none, p, c, stk) = .inr (some (fun v => cpr k (r1.2.2.2 v) (r2.2.2.2 v)), r2.2.1, r2.2.2.1, stk) := by
            rw [eS, ec, if_pos rfl]
          have len : ((F ++ G) ++ [(k + 8, 0)]).length = F.length + G.length + 1 := by rw [List.length_append, List.length_append]; rfl
          refine WP.ret ⟨fr4.tr yy1, Or.inl ⟨rfl, _, r2.2.1, r2.2.2.1, (F ++ G) ++ [(k + 8, 0)], w2, tsR_r h4 hp0 eS2, yy2, ?_, ⟨v3.tr o3, fun a b e => ?_⟩, ⟨by omega, e2⟩, ⟨by omega, e4⟩, by rw [len]; omega⟩⟩
          · have h1 : Cp (F ++ G) 4 (fun v => [r2.2.2.2 v, r1.2.2.2 v]) := v2.app o2 (by omega) (fun v => by show 1 + 3 ≤ 4; decide)
            have h2 := Cp.jon (o := k + 8) (R := fun _ => []) h1 (by omega)
            have e : (fun v => jnd (k + 8) (r1.2.2.2 v) (r2.2.2.2 v) :: ([] : List Int64)) = (fun v => [bL (cpr k (r1.2.2.2 v) (r2.2.2.2 v))]) := by
              funext v
              rw [jnd_cmp hkk]
            rw [e] at h2
            exact h2
          · show cpr k (r1.2.2.2 a) (r2.2.2.2 a) = cpr k (r1.2.2.2 b) (r2.2.2.2 b)
            rw [(v4.up o3) a b e, o4 a b e]
        · refine WP.it rfl ?_
          rw [ckZ_n0]
          exact bad _ M4 fr4 o1 (by unfold cmP; rw [← hr1, if_pos s0, ← hk, if_neg k0, if_pos c6, if_neg t0])
      · rw [decide_eq_false c6]
        refine WP.it rfl ?_
        repeat (first | ((with_reducible apply WP.ce); case h => (simp (disch := omega) only []; with_reducible rfl)) | ((with_reducible apply WP.bd); case h => (simp (disch := omega) only [e_gR, e_gI, e_aI, e_aL, e_oO, e_pI, e_wI, e_wL, Option.map_some, mS_sL, mR_sL, mI_sL, mS_sI, mR_sI, mL_sI, n_cl, cob_10 hC2, cr_10_tape hC2, cob_1 hC2, k4']; with_reducible rfl)) | rw [nm_eq] | rw [ckZ_n1] | rw [ckZ_n0])
        refine WP.cw (y_fail g2 (by omega) _ 3) (fun v M3 g => ?_)
        obtain ⟨rfl, q1, q2⟩ := g
        rw [ckZ_n0]
        exact bad _ M3 ((u1.tr g1).tr q1) q2 (by unfold cmP; rw [← hr1, if_pos s0, ← hk, if_neg k0, if_neg c6])
  · refine WP.it rfl ?_
    rw [ckZ_n0]
    exact bad _ M1 u1 v1 (by unfold cmP; rw [if_neg s0])
end CFC
