/-! THE REFERENCE: what acts change, laid by and taken back -/
theorem upd_self (f : Nat → Int32) (k : Nat) : upd f k (f k) = f := by
  funext i
  by_cases h : i = k
  · subst h; rw [upd_s]
  · rw [upd_o _ _ h]
def KSa (m : Nat) (M0 M : Mem) (q : Nat) (F : Nat → Int32) : Prop := FX [m, m + 28] M0 M ∧ mI M m = upd (upd (mI M0 m) 44 (nI 0)) 43 (nI q) ∧ mI M (m + 28) = F
theorem KSa.self {m : Nat} {M0 M : Mem} {q : Nat} {F : Nat → Int32} (h : KSa m M0 M q F) {a : Nat} (k : Nat) {v : Int32} (ha : a ≠ m) (ha2 : a ≠ m + 28) (hv : v = mI M0 a k) : KSa m M0 (sI M a k v) q F := by
  have ea : mI M a = mI M0 a := h.1.2.2 a (by simp; omega)
  refine ⟨⟨h.1.1, h.1.2.1, fun b hb => ?_⟩, by rw [sI_row (Ne.symm ha)]; exact h.2.1, by rw [sI_row (Ne.symm ha2)]; exact h.2.2⟩
  by_cases e : b = a
  · subst e
    rw [mI_sI_s, hv, ea, upd_self]
  · rw [sI_row e]; exact h.1.2.2 b hb
theorem KSa.mv {m : Nat} {M0 M : Mem} {q : Nat} {F : Nat → Int32} (hR : RIs (mS M0) (mR M0) m) (h : KSa m M0 M q F) (hq : q < 400) (v : Int32) : ∃ M', f_X10_moves m v M = some (v, M') ∧ KSa m M0 M' (q + 1) (upd F q v) := by
  have hR' := h.1.RI hR
  have g44 : mI M m 44 = nI 0 := by rw [h.2.1, upd_o _ _ (by decide), upd_s]
  have g43 : mI M m 43 = nI q := by rw [h.2.1, upd_s]
  obtain ⟨M1, hM1⟩ : ∃ M1, M1 = sI M (m + 28) q v := ⟨_, rfl⟩
  have hR1 : RIs (mS M1) (mR M1) m := by rw [hM1]; exact hR'
  have k43 : mI M1 m 43 = nI q := by rw [hM1, sI_row (by omega)]; exact g43
  refine ⟨sI M1 m 43 (nI (q + 1)), ?_, ?_⟩
  · unfold f_X10_moves f_X10_moves_J20
    repeat (first | ((with_reducible apply clt_t); case h => (simp (disch := omega) only [hR]; with_reducible rfl)) | ((with_reducible apply bnd_t); case h => (simp (disch := omega) only [e_gR, e_gI, e_aI, e_aL, e_oO, e_pI, e_wI, e_wL, Option.map_some, mS_sL, mR_sL, mI_sL, mS_sI, mR_sI, mL_sI, n_cl, ro_m hR', g44]; with_reducible rfl)) | rw [nm_eq])
    rw [if_pos (show nI 0 = 0 from rfl)]
    repeat (first | ((with_reducible apply clt_t); case h => (simp (disch := omega) only [hR]; with_reducible rfl)) | ((with_reducible apply bnd_t); case h => (simp (disch := omega) only [e_gR, e_gI, e_aI, e_aL, e_oO, e_pI, e_wI, e_wL, Option.map_some, mS_sL, mR_sL, mI_sL, mS_sI, mR_sI, mL_sI, n_cl, ro_m hR', rr_past hR', g43, rx_past hR', ← hM1]; with_reducible rfl)) | rw [nm_eq])
    repeat (first | ((with_reducible apply clt_t); case h => (simp (disch := omega) only [hR]; with_reducible rfl)) | ((with_reducible apply bnd_t); case h => (simp (disch := omega) only [e_gR, e_gI, e_aI, e_aL, e_oO, e_pI, e_wI, e_wL, Option.map_some, mS_sL, mR_sL, mI_sL, mS_sI, mR_sI, mL_sI, n_cl, ro_m hR1, k43, n_add]; with_reducible rfl)) | rw [nm_eq])
    rfl
  · refine ⟨FX.sI (by rw [hM1]; exact h.1.sI (by simp) _ _) (by simp) _ _, ?_, ?_⟩
    · rw [mI_sI_s, hM1, sI_row (by omega), h.2.1]
      funext i
      by_cases hi : i = 43
      · subst hi; rw [upd_s, upd_s]
      · rw [upd_o _ _ hi, upd_o _ _ hi, upd_o _ _ hi]
    · rw [sI_row (by omega), hM1, mI_sI_s, h.2.2]
theorem KSa.row {m : Nat} {M0 : Mem} (hR : RIs (mS M0) (mR M0) m) {a n q : Nat} (hl : lnS (mS M0) (some a) = some (nI n)) (hx : ∀ i, i < n → ixS (mS M0) 0 (some a) (nI i) = some a) (ha : a ≠ m) (ha2 : a ≠ m + 28) (hn : n ≤ 400) (hq : q + n ≤ 400) {F : Nat → Int32} {M : Mem} (h : KSa m M0 M q F) :
    WP (f_X10_movesRow m (some a) M) (fun _ M' => KSa m M0 M' (q + n) (cpR F (mI M0 a) q n)) := by
  have lp : ∀ d k f (M : Mem), k + d = n → KSa m M0 M (q + k) (cpR F (mI M0 a) q k) → WP (f_X10_movesRow_L2 m (f + d + 1) (some a) (nI k) M) (fun _ M' => KSa m M0 M' (q + n) (cpR F (mI M0 a) q n)) := by
    intro d
    induction d with
    | zero =>
      intro k f M hk h
      have hk : k = n := by omega
      subst hk
      have hl' : lnS (mS M) (some a) = some (nI k) := by rw [h.1.1]; exact hl
      rw [f_X10_movesRow_L2]
      repeat (first | refine WP.ce (by (simp (disch := omega) only []; with_reducible rfl)) ?_ | refine WP.bd (by (simp (disch := omega) only [e_gR, e_gI, e_aI, e_aL, e_oO, e_pI, e_wI, e_wL, Option.map_some, mS_sL, mR_sL, mI_sL, mS_sI, mR_sI, mL_sI, n_cl, e_lnA, hl']; with_reducible rfl)) ?_ | rw [nm_eq])
      exact WP.it (by rw [n_le (by omega) (by omega)]; omega) (WP.ret h)
    | succ d ih =>
      intro k f M hk h
      have hR' := h.1.RI hR
      have hl' : lnS (mS M) (some a) = some (nI n) := by rw [h.1.1]; exact hl
      have hx' : ixS (mS M) 0 (some a) (nI k) = some a := by rw [h.1.1]; exact hx k (by omega)
      have ea : mI M a = mI M0 a := h.1.2.2 a (by simp; omega)
      obtain ⟨M1, m1, m2⟩ := KSa.mv hR h (by omega) (mI M0 a k)
      have hx1 : ixS (mS M1) 0 (some a) (nI k) = some a := by rw [m2.1.1]; exact hx k (by omega)
      rw [show f + (d + 1) + 1 = (f + d + 1) + 1 from by omega, f_X10_movesRow_L2]
      repeat (first | refine WP.ce (by (simp (disch := omega) only []; with_reducible rfl)) ?_ | refine WP.bd (by (simp (disch := omega) only [e_gR, e_gI, e_aI, e_aL, e_oO, e_pI, e_wI, e_wL, Option.map_some, mS_sL, mR_sL, mI_sL, mS_sI, mR_sI, mL_sI, n_cl, e_lnA, hl']; with_reducible rfl)) ?_ | rw [nm_eq])
      refine WP.ie (by rw [n_le (by omega) (by omega)]; omega) ?_
      repeat (first | refine WP.ce (by (simp (disch := omega) only [m1]; with_reducible rfl)) ?_ | refine WP.bd (by (simp (disch := omega) only [e_gR, e_gI, e_aI, e_aL, e_oO, e_pI, e_wI, e_wL, Option.map_some, mS_sL, mR_sL, mI_sL, mS_sI, mR_sI, mL_sI, n_cl, ro_m hR', hx', ea]; with_reducible rfl)) ?_ | rw [nm_eq])
      repeat (first | refine WP.ce (by (simp (disch := omega) only []; with_reducible rfl)) ?_ | refine WP.bd (by (simp (disch := omega) only [e_gR, e_gI, e_aI, e_aL, e_oO, e_pI, e_wI, e_wL, Option.map_some, mS_sL, mR_sL, mI_sL, mS_sI, mR_sI, mL_sI, n_cl, hx1]; with_reducible rfl)) ?_ | rw [nm_eq])
      rw [n_add]
      refine ih (k + 1) f _ (by omega) ?_
      have e := (m2.self (a := a) k ha ha2 rfl)
      rw [cpR_s] at e
      exact e
  obtain ⟨f, hf⟩ := FUd n (by omega)
  rw [f_X10_movesRow, hf]
  exact lp n 0 f M (by omega) (by rw [cpR_0]; exact h)
theorem r_mvK {m : Nat} {M : Mem} (hR : RIs (mS M) (mR M) m) {i : Nat} (hi : i < 20) : WP (f_X10_movesAll m (nI i) (nI 0) M) (fun _ M' => FX [m, m + 28] M M' ∧ (∀ k, k ≠ 43 → k ≠ 44 → mI M' m k = mI M m k) ∧ (∀ k, k < 20 * i ∨ 20 * i + 20 ≤ k → mI M' (m + 28) k = mI M (m + 28) k) ∧ mI M' (m + 28) (20 * i) = mI M (m + 1) 4 ∧ mI M' (m + 28) (20 * i + 1) = mI M (m + 1) 5 ∧ (∀ j, j < 8 → mI M' (m + 28) (20 * i + 2 + j) = mI M (m + 5) j) ∧ (∀ s, s < 5 → mI M' (m + 28) (20 * i + 10 + s) = mI M (m + 6) s ∧ mI M' (m + 28) (20 * i + 15 + s) = mI M (m + 7) s)) := by
  have c0 : KSa m M (sI (sI M m 43 (nI (20 * i))) m 44 (nI 0)) (20 * i) (mI M (m + 28)) := by
    refine ⟨((FX.rf _ M).sI (by simp) _ _).sI (by simp) _ _, ?_, by rw [sI_row (by omega), sI_row (by omega)]⟩
    rw [mI_sI_s, mI_sI_s]
    funext k
    by_cases h1 : k = 44
    · subst h1; rw [upd_s, upd_o _ _ (by decide), upd_s]
    · rw [upd_o _ _ h1]
      by_cases h2 : k = 43
      · subst h2; rw [upd_s, upd_s]
      · rw [upd_o _ _ h2, upd_o _ _ h2, upd_o _ _ h1]
  obtain ⟨Ma, hMa⟩ : ∃ Ma, Ma = sI (sI M m 43 (nI (20 * i))) m 44 (nI 0) := ⟨_, rfl⟩
  rw [← hMa] at c0
  have hRa := c0.1.RI hR
  have ea : mI Ma (m + 1) = mI M (m + 1) := c0.1.2.2 _ (by simp)
  obtain ⟨M1, m1, k1⟩ := KSa.mv hR c0 (by omega) (mI M (m + 1) 4)
  have k1' := k1.self (a := m + 1) 4 (v := mI M (m + 1) 4) (by omega) (by omega) rfl
  have hR1 := k1.1.RI hR
  obtain ⟨M2, hM2⟩ : ∃ M2, M2 = sI M1 (m + 1) 4 (mI M (m + 1) 4) := ⟨_, rfl⟩
  rw [← hM2] at k1'
  have hR2 := k1'.1.RI hR
  have e2 : mI M2 (m + 1) = mI M (m + 1) := k1'.1.2.2 _ (by simp)
  obtain ⟨M3, m3, k3⟩ := KSa.mv hR k1' (by omega) (mI M (m + 1) 5)
  have k3' := k3.self (a := m + 1) 5 (v := mI M (m + 1) 5) (by omega) (by omega) rfl
  have hR3 := k3.1.RI hR
  obtain ⟨M4, hM4⟩ : ∃ M4, M4 = sI M3 (m + 1) 5 (mI M (m + 1) 5) := ⟨_, rfl⟩
  rw [← hM4] at k3'
  have hR4 := k3'.1.RI hR
  unfold f_X10_movesAll
  repeat (first | ((with_reducible apply WP.ce); case h => (simp (disch := omega) only []; with_reducible rfl)) | ((with_reducible apply WP.bd); case h => (simp (disch := omega) only [e_gR, e_gI, e_aI, e_aL, e_oO, e_pI, e_wI, e_wL, Option.map_some, mS_sL, mR_sL, mI_sL, mS_sI, mR_sI, mL_sI, n_cl, ro_m hR, n_mul, ← hMa]; with_reducible rfl)) | rw [nm_eq] | rw [ckZ_n1] | rw [ckZ_n0])
  repeat (first | ((with_reducible apply WP.ce); case h => (simp (disch := omega) only [m1]; with_reducible rfl)) | ((with_reducible apply WP.bd); case h => (simp (disch := omega) only [e_gR, e_gI, e_aI, e_aL, e_oO, e_pI, e_wI, e_wL, Option.map_some, mS_sL, mR_sL, mI_sL, mS_sI, mR_sI, mL_sI, n_cl, ro_m hRa, rr_scalar hRa, rx_scalar hRa, ea]; with_reducible rfl)) | rw [nm_eq] | rw [ckZ_n1] | rw [ckZ_n0])
  repeat (first | ((with_reducible apply WP.ce); case h => (simp (disch := omega) only []; with_reducible rfl)) | ((with_reducible apply WP.bd); case h => (simp (disch := omega) only [e_gR, e_gI, e_aI, e_aL, e_oO, e_pI, e_wI, e_wL, Option.map_some, mS_sL, mR_sL, mI_sL, mS_sI, mR_sI, mL_sI, n_cl, rx_scalar hR1, ← hM2]; with_reducible rfl)) | rw [nm_eq] | rw [ckZ_n1] | rw [ckZ_n0])
  repeat (first | ((with_reducible apply WP.ce); case h => (simp (disch := omega) only [m3]; with_reducible rfl)) | ((with_reducible apply WP.bd); case h => (simp (disch := omega) only [e_gR, e_gI, e_aI, e_aL, e_oO, e_pI, e_wI, e_wL, Option.map_some, mS_sL, mR_sL, mI_sL, mS_sI, mR_sI, mL_sI, n_cl, ro_m hR2, rr_scalar hR2, rx_scalar hR2, e2]; with_reducible rfl)) | rw [nm_eq] | rw [ckZ_n1] | rw [ckZ_n0])
  repeat (first | ((with_reducible apply WP.ce); case h => (simp (disch := omega) only []; with_reducible rfl)) | ((with_reducible apply WP.bd); case h => (simp (disch := omega) only [e_gR, e_gI, e_aI, e_aL, e_oO, e_pI, e_wI, e_wL, Option.map_some, mS_sL, mR_sL, mI_sL, mS_sI, mR_sI, mL_sI, n_cl, rx_scalar hR3, ← hM4]; with_reducible rfl)) | rw [nm_eq] | rw [ckZ_n1] | rw [ckZ_n0])
  repeat (first | ((with_reducible apply WP.ce); case h => (simp (disch := omega) only []; with_reducible rfl)) | ((with_reducible apply WP.bd); case h => (simp (disch := omega) only [e_gR, e_gI, e_aI, e_aL, e_oO, e_pI, e_wI, e_wL, Option.map_some, mS_sL, mR_sL, mI_sL, mS_sI, mR_sI, mL_sI, n_cl, ro_m hR4, rr_heard hR4]; with_reducible rfl)) | rw [nm_eq] | rw [ckZ_n1] | rw [ckZ_n0])
  refine WP.cw (KSa.row hR (rl_heard hR) (fun i hi => rx_heard hR hi) (by omega) (by omega) (by decide) (by omega) k3') (fun _ M5 k5 => ?_)
  have hR5 := k5.1.RI hR
  repeat (first | ((with_reducible apply WP.ce); case h => (simp (disch := omega) only []; with_reducible rfl)) | ((with_reducible apply WP.bd); case h => (simp (disch := omega) only [e_gR, e_gI, e_aI, e_aL, e_oO, e_pI, e_wI, e_wL, Option.map_some, mS_sL, mR_sL, mI_sL, mS_sI, mR_sI, mL_sI, n_cl, ro_m hR5, rr_knows hR5]; with_reducible rfl)) | rw [nm_eq] | rw [ckZ_n1] | rw [ckZ_n0])
  refine WP.cw (KSa.row hR (rl_knows hR) (fun i hi => rx_knows hR hi) (by omega) (by omega) (by decide) (by omega) k5) (fun _ M6 k6 => ?_)
  have hR6 := k6.1.RI hR
  repeat (first | ((with_reducible apply WP.ce); case h => (simp (disch := omega) only []; with_reducible rfl)) | ((with_reducible apply WP.bd); case h => (simp (disch := omega) only [e_gR, e_gI, e_aI, e_aL, e_oO, e_pI, e_wI, e_wL, Option.map_some, mS_sL, mR_sL, mI_sL, mS_sI, mR_sI, mL_sI, n_cl, ro_m hR6, rr_passed hR6]; with_reducible rfl)) | rw [nm_eq] | rw [ckZ_n1] | rw [ckZ_n0])
  refine WP.cw (KSa.row hR (rl_passed hR) (fun i hi => rx_passed hR hi) (by omega) (by omega) (by decide) (by omega) k6) (fun _ M7 k7 => ?_)
  have e := k7.2.2
  refine WP.ret ⟨k7.1, fun k h1 h2 => by rw [k7.2.1, upd_o _ _ h1, upd_o _ _ h2], fun k hk => ?_, ?_, ?_, fun j hj => ?_, fun s hs => ⟨?_, ?_⟩⟩
  · rw [e, cpR_o _ _ (by omega), cpR_o _ _ (by omega), cpR_o _ _ (by omega), upd_o _ _ (by omega), upd_o _ _ (by omega)]
  · rw [e, cpR_o _ _ (by omega), cpR_o _ _ (by omega), cpR_o _ _ (by omega), upd_o _ _ (by omega), upd_s]
  · rw [e, cpR_o _ _ (by omega), cpR_o _ _ (by omega), cpR_o _ _ (by omega), upd_s]
  · rw [e, cpR_o _ _ (by omega), cpR_o _ _ (by omega), show 20 * i + 2 + j = 20 * i + 1 + 1 + j by omega, cpR_i _ _ hj]
  · rw [e, cpR_o _ _ (by omega), show 20 * i + 10 + s = 20 * i + 1 + 1 + 8 + s by omega, cpR_i _ _ hs]
  · rw [e, show 20 * i + 15 + s = 20 * i + 1 + 1 + 8 + 5 + s by omega, cpR_i _ _ hs]
/-! taken back -/
def BS (m : Nat) (M0 M : Mem) (q : Nat) : Prop := FX [m, m + 1, m + 5, m + 6, m + 7] M0 M ∧ mI M m = upd (upd (mI M0 m) 44 (nI 1)) 43 (nI q)
theorem BS.mv {m : Nat} {M0 M : Mem} {q : Nat} (hR : RIs (mS M0) (mR M0) m) (h : BS m M0 M q) (hq : q < 400) (v : Int32) : ∃ M', f_X10_moves m v M = some (mI M0 (m + 28) q, M') ∧ BS m M0 M' (q + 1) ∧ ∀ b, b ≠ m → mI M' b = mI M b := by
  have hR' := h.1.RI hR
  have g44 : mI M m 44 = nI 1 := by rw [h.2, upd_o _ _ (by decide), upd_s]
  have g43 : mI M m 43 = nI q := by rw [h.2, upd_s]
  have e28 : mI M (m + 28) = mI M0 (m + 28) := h.1.2.2 _ (by simp)
  obtain ⟨M1, hM1⟩ : ∃ M1, M1 = sI M (m + 28) q (mI M0 (m + 28) q) := ⟨_, rfl⟩
  have hR1 : RIs (mS M1) (mR M1) m := by rw [hM1]; exact hR'
  have k43 : mI M1 m 43 = nI q := by rw [hM1, sI_row (by omega)]; exact g43
  have f1 : ∀ b, mI M1 b = mI M b := by
    intro b
    rw [hM1]
    by_cases e : b = m + 28
    · subst e; rw [mI_sI_s, ← e28, upd_self]
    · rw [sI_row e]
  refine ⟨sI M1 m 43 (nI (q + 1)), ?_, ⟨⟨by rw [hM1]; exact h.1.1, by rw [hM1]; exact h.1.2.1, fun b hb => ?_⟩, ?_⟩, fun b hb => by rw [sI_row hb]; exact f1 b⟩
  · unfold f_X10_moves f_X10_moves_J20
    repeat (first | ((with_reducible apply clt_t); case h => (simp (disch := omega) only [hR]; with_reducible rfl)) | ((with_reducible apply bnd_t); case h => (simp (disch := omega) only [e_gR, e_gI, e_aI, e_aL, e_oO, e_pI, e_wI, e_wL, Option.map_some, mS_sL, mR_sL, mI_sL, mS_sI, mR_sI, mL_sI, n_cl, ro_m hR', g44]; with_reducible rfl)) | rw [nm_eq])
    rw [if_neg (show ¬ nI 1 = 0 by decide)]
    repeat (first | ((with_reducible apply clt_t); case h => (simp (disch := omega) only [hR]; with_reducible rfl)) | ((with_reducible apply bnd_t); case h => (simp (disch := omega) only [e_gR, e_gI, e_aI, e_aL, e_oO, e_pI, e_wI, e_wL, Option.map_some, mS_sL, mR_sL, mI_sL, mS_sI, mR_sI, mL_sI, n_cl, ro_m hR', rr_past hR', g43, rx_past hR', e28, ← hM1]; with_reducible rfl)) | rw [nm_eq])
    repeat (first | ((with_reducible apply clt_t); case h => (simp (disch := omega) only [hR]; with_reducible rfl)) | ((with_reducible apply bnd_t); case h => (simp (disch := omega) only [e_gR, e_gI, e_aI, e_aL, e_oO, e_pI, e_wI, e_wL, Option.map_some, mS_sL, mR_sL, mI_sL, mS_sI, mR_sI, mL_sI, n_cl, ro_m hR1, k43, n_add]; with_reducible rfl)) | rw [nm_eq])
    rfl
  · rw [sI_row (fun e => hb (by rw [e]; simp)), f1]; exact h.1.2.2 b hb
  · rw [mI_sI_s, f1, h.2]
    funext i
    by_cases hi : i = 43
    · subst hi; rw [upd_s, upd_s]
    · rw [upd_o _ _ hi, upd_o _ _ hi, upd_o _ _ hi]
theorem BS.w {m : Nat} {M0 M : Mem} {q : Nat} (h : BS m M0 M q) {a : Nat} (ha : a = m + 1 ∨ a = m + 5 ∨ a = m + 6 ∨ a = m + 7) (k : Nat) (v : Int32) : BS m M0 (sI M a k v) q := ⟨h.1.sI (by simp; omega) _ _, by rw [sI_row (by omega)]; exact h.2⟩
theorem BS.row {m : Nat} {M0 : Mem} (hR : RIs (mS M0) (mR M0) m) {a n q : Nat} (hl : lnS (mS M0) (some a) = some (nI n)) (hx : ∀ i, i < n → ixS (mS M0) 0 (some a) (nI i) = some a) (ha : a = m + 5 ∨ a = m + 6 ∨ a = m + 7) (hn : n ≤ 400) (hq : q + n ≤ 400) {M : Mem} (h : BS m M0 M q) :
    WP (f_X10_movesRow m (some a) M) (fun _ M' => BS m M0 M' (q + n) ∧ (∀ i, i < n → mI M' a i = mI M0 (m + 28) (q + i)) ∧ ∀ b, b ≠ m → b ≠ a → mI M' b = mI M b) := by
  have lp : ∀ d k f (N : Mem), k + d = n → BS m M0 N (q + k) → (∀ i, i < k → mI N a i = mI M0 (m + 28) (q + i)) → (∀ b, b ≠ m → b ≠ a → mI N b = mI M b) → WP (f_X10_movesRow_L2 m (f + d + 1) (some a) (nI k) N) (fun _ M' => BS m M0 M' (q + n) ∧ (∀ i, i < n → mI M' a i = mI M0 (m + 28) (q + i)) ∧ ∀ b, b ≠ m → b ≠ a → mI M' b = mI M b) := by
    intro d
    induction d with
    | zero =>
      intro k f N hk h h1 h2
      have hk : k = n := by omega
      subst hk
      have hl' : lnS (mS N) (some a) = some (nI k) := by rw [h.1.1]; exact hl
      rw [f_X10_movesRow_L2]
      repeat (first | refine WP.ce (by (simp (disch := omega) only []; with_reducible rfl)) ?_ | refine WP.bd (by (simp (disch := omega) only [e_gR, e_gI, e_aI, e_aL, e_oO, e_pI, e_wI, e_wL, Option.map_some, mS_sL, mR_sL, mI_sL, mS_sI, mR_sI, mL_sI, n_cl, e_lnA, hl']; with_reducible rfl)) ?_ | rw [nm_eq])
      exact WP.it (by rw [n_le (by omega) (by omega)]; omega) (WP.ret ⟨h, h1, h2⟩)
    | succ d ih =>
      intro k f N hk h h1 h2
      have hR' := h.1.RI hR
      have hl' : lnS (mS N) (some a) = some (nI n) := by rw [h.1.1]; exact hl
      have hx' : ixS (mS N) 0 (some a) (nI k) = some a := by rw [h.1.1]; exact hx k (by omega)
      obtain ⟨M1, m1, m2, m3⟩ := BS.mv hR h (by omega) (mI N a k)
      have hx1 : ixS (mS M1) 0 (some a) (nI k) = some a := by rw [m2.1.1]; exact hx k (by omega)
      rw [show f + (d + 1) + 1 = (f + d + 1) + 1 from by omega, f_X10_movesRow_L2]
      repeat (first | refine WP.ce (by (simp (disch := omega) only []; with_reducible rfl)) ?_ | refine WP.bd (by (simp (disch := omega) only [e_gR, e_gI, e_aI, e_aL, e_oO, e_pI, e_wI, e_wL, Option.map_some, mS_sL, mR_sL, mI_sL, mS_sI, mR_sI, mL_sI, n_cl, e_lnA, hl']; with_reducible rfl)) ?_ | rw [nm_eq])
      refine WP.ie (by rw [n_le (by omega) (by omega)]; omega) ?_
      repeat (first | refine WP.ce (by (simp (disch := omega) only [m1]; with_reducible rfl)) ?_ | refine WP.bd (by (simp (disch := omega) only [e_gR, e_gI, e_aI, e_aL, e_oO, e_pI, e_wI, e_wL, Option.map_some, mS_sL, mR_sL, mI_sL, mS_sI, mR_sI, mL_sI, n_cl, ro_m hR', hx']; with_reducible rfl)) ?_ | rw [nm_eq])
      repeat (first | refine WP.ce (by (simp (disch := omega) only []; with_reducible rfl)) ?_ | refine WP.bd (by (simp (disch := omega) only [e_gR, e_gI, e_aI, e_aL, e_oO, e_pI, e_wI, e_wL, Option.map_some, mS_sL, mR_sL, mI_sL, mS_sI, mR_sI, mL_sI, n_cl, hx1]; with_reducible rfl)) ?_ | rw [nm_eq])
      rw [n_add]
      refine ih (k + 1) f _ (by omega) (m2.w (by omega) _ _) (fun i hi => ?_) (fun b b1 b2 => by rw [sI_row b2, m3 b b1]; exact h2 b b1 b2)
      rw [mI_sI_s]
      by_cases e : i = k
      · subst e; rw [upd_s]
      · rw [upd_o _ _ e, m3 a (by omega)]; exact h1 i (by omega)
  obtain ⟨f, hf⟩ := FUd n (by omega)
  rw [f_X10_movesRow, hf]
  exact lp n 0 f M (by omega) h (fun i hi => absurd hi (Nat.not_lt_zero i)) (fun _ _ _ => rfl)
theorem r_mvB {m : Nat} {M : Mem} (hR : RIs (mS M) (mR M) m) {i : Nat} (hi : i < 20) : WP (f_X10_movesAll m (nI i) (nI 1) M) (fun _ M' => FX [m, m + 1, m + 5, m + 6, m + 7] M M' ∧ (∀ k, k ≠ 43 → k ≠ 44 → mI M' m k = mI M m k) ∧ (∀ k, k ≠ 4 → k ≠ 5 → mI M' (m + 1) k = mI M (m + 1) k) ∧ mI M' (m + 1) 4 = mI M (m + 28) (20 * i) ∧ mI M' (m + 1) 5 = mI M (m + 28) (20 * i + 1) ∧ (∀ j, j < 8 → mI M' (m + 5) j = mI M (m + 28) (20 * i + 2 + j)) ∧ (∀ s, s < 5 → mI M' (m + 6) s = mI M (m + 28) (20 * i + 10 + s) ∧ mI M' (m + 7) s = mI M (m + 28) (20 * i + 15 + s))) := by
  have c0 : BS m M (sI (sI M m 43 (nI (20 * i))) m 44 (nI 1)) (20 * i) := by
    refine ⟨((FX.rf _ M).sI (by simp) _ _).sI (by simp) _ _, ?_⟩
    rw [mI_sI_s, mI_sI_s]
    funext k
    by_cases h1 : k = 44
    · subst h1; rw [upd_s, upd_o _ _ (by decide), upd_s]
    · rw [upd_o _ _ h1]
      by_cases h2 : k = 43
      · subst h2; rw [upd_s, upd_s]
      · rw [upd_o _ _ h2, upd_o _ _ h2, upd_o _ _ h1]
  obtain ⟨Ma, hMa⟩ : ∃ Ma, Ma = sI (sI M m 43 (nI (20 * i))) m 44 (nI 1) := ⟨_, rfl⟩
  rw [← hMa] at c0
  have hRa := c0.1.RI hR
  have ea : mI Ma (m + 1) = mI M (m + 1) := by rw [hMa, sI_row (by omega), sI_row (by omega)]
  obtain ⟨M1, m1, k1, f1⟩ := BS.mv hR c0 (by omega) (mI M (m + 1) 4)
  have k1' := k1.w (a := m + 1) (by omega) 4 (mI M (m + 28) (20 * i))
  have hR1 := k1.1.RI hR
  obtain ⟨M2, hM2⟩ : ∃ M2, M2 = sI M1 (m + 1) 4 (mI M (m + 28) (20 * i)) := ⟨_, rfl⟩
  rw [← hM2] at k1'
  have hR2 := k1'.1.RI hR
  obtain ⟨M3, m3, k3, f3⟩ := BS.mv hR k1' (by omega) (mI M2 (m + 1) 5)
  have k3' := k3.w (a := m + 1) (by omega) 5 (mI M (m + 28) (20 * i + 1))
  have hR3 := k3.1.RI hR
  obtain ⟨M4, hM4⟩ : ∃ M4, M4 = sI M3 (m + 1) 5 (mI M (m + 28) (20 * i + 1)) := ⟨_, rfl⟩
  rw [← hM4] at k3'
  have hR4 := k3'.1.RI hR
  have e4 : mI M4 (m + 1) = upd (upd (mI M (m + 1)) 4 (mI M (m + 28) (20 * i))) 5 (mI M (m + 28) (20 * i + 1)) := by
    rw [hM4, mI_sI_s, f3 _ (by omega), hM2, mI_sI_s, f1 _ (by omega), ea]
  unfold f_X10_movesAll
  repeat (first | ((with_reducible apply WP.ce); case h => (simp (disch := omega) only []; with_reducible rfl)) | ((with_reducible apply WP.bd); case h => (simp (disch := omega) only [e_gR, e_gI, e_aI, e_aL, e_oO, e_pI, e_wI, e_wL, Option.map_some, mS_sL, mR_sL, mI_sL, mS_sI, mR_sI, mL_sI, n_cl, ro_m hR, n_mul, ← hMa]; with_reducible rfl)) | rw [nm_eq] | rw [ckZ_n1] | rw [ckZ_n0])
  repeat (first | ((with_reducible apply WP.ce); case h => (simp (disch := omega) only [m1]; with_reducible rfl)) | ((with_reducible apply WP.bd); case h => (simp (disch := omega) only [e_gR, e_gI, e_aI, e_aL, e_oO, e_pI, e_wI, e_wL, Option.map_some, mS_sL, mR_sL, mI_sL, mS_sI, mR_sI, mL_sI, n_cl, ro_m hRa, rr_scalar hRa, rx_scalar hRa, ea]; with_reducible rfl)) | rw [nm_eq] | rw [ckZ_n1] | rw [ckZ_n0])
  repeat (first | ((with_reducible apply WP.ce); case h => (simp (disch := omega) only []; with_reducible rfl)) | ((with_reducible apply WP.bd); case h => (simp (disch := omega) only [e_gR, e_gI, e_aI, e_aL, e_oO, e_pI, e_wI, e_wL, Option.map_some, mS_sL, mR_sL, mI_sL, mS_sI, mR_sI, mL_sI, n_cl, rx_scalar hR1, ← hM2]; with_reducible rfl)) | rw [nm_eq] | rw [ckZ_n1] | rw [ckZ_n0])
  repeat (first | ((with_reducible apply WP.ce); case h => (simp (disch := omega) only [m3]; with_reducible rfl)) | ((with_reducible apply WP.bd); case h => (simp (disch := omega) only [e_gR, e_gI, e_aI, e_aL, e_oO, e_pI, e_wI, e_wL, Option.map_some, mS_sL, mR_sL, mI_sL, mS_sI, mR_sI, mL_sI, n_cl, ro_m hR2, rr_scalar hR2, rx_scalar hR2]; with_reducible rfl)) | rw [nm_eq] | rw [ckZ_n1] | rw [ckZ_n0])
  repeat (first | ((with_reducible apply WP.ce); case h => (simp (disch := omega) only []; with_reducible rfl)) | ((with_reducible apply WP.bd); case h => (simp (disch := omega) only [e_gR, e_gI, e_aI, e_aL, e_oO, e_pI, e_wI, e_wL, Option.map_some, mS_sL, mR_sL, mI_sL, mS_sI, mR_sI, mL_sI, n_cl, rx_scalar hR3, ← hM4]; with_reducible rfl)) | rw [nm_eq] | rw [ckZ_n1] | rw [ckZ_n0])
  repeat (first | ((with_reducible apply WP.ce); case h => (simp (disch := omega) only []; with_reducible rfl)) | ((with_reducible apply WP.bd); case h => (simp (disch := omega) only [e_gR, e_gI, e_aI, e_aL, e_oO, e_pI, e_wI, e_wL, Option.map_some, mS_sL, mR_sL, mI_sL, mS_sI, mR_sI, mL_sI, n_cl, ro_m hR4, rr_heard hR4]; with_reducible rfl)) | rw [nm_eq] | rw [ckZ_n1] | rw [ckZ_n0])
  refine WP.cw (BS.row hR (rl_heard hR) (fun i hi => rx_heard hR hi) (by omega) (by decide) (by omega) k3') (fun _ M5 k5 => ?_)
  have hR5 := k5.1.1.RI hR
  repeat (first | ((with_reducible apply WP.ce); case h => (simp (disch := omega) only []; with_reducible rfl)) | ((with_reducible apply WP.bd); case h => (simp (disch := omega) only [e_gR, e_gI, e_aI, e_aL, e_oO, e_pI, e_wI, e_wL, Option.map_some, mS_sL, mR_sL, mI_sL, mS_sI, mR_sI, mL_sI, n_cl, ro_m hR5, rr_knows hR5]; with_reducible rfl)) | rw [nm_eq] | rw [ckZ_n1] | rw [ckZ_n0])
  refine WP.cw (BS.row hR (rl_knows hR) (fun i hi => rx_knows hR hi) (by omega) (by decide) (by omega) k5.1) (fun _ M6 k6 => ?_)
  have hR6 := k6.1.1.RI hR
  repeat (first | ((with_reducible apply WP.ce); case h => (simp (disch := omega) only []; with_reducible rfl)) | ((with_reducible apply WP.bd); case h => (simp (disch := omega) only [e_gR, e_gI, e_aI, e_aL, e_oO, e_pI, e_wI, e_wL, Option.map_some, mS_sL, mR_sL, mI_sL, mS_sI, mR_sI, mL_sI, n_cl, ro_m hR6, rr_passed hR6]; with_reducible rfl)) | rw [nm_eq] | rw [ckZ_n1] | rw [ckZ_n0])
  refine WP.cw (BS.row hR (rl_passed hR) (fun i hi => rx_passed hR hi) (by omega) (by decide) (by omega) k6.1) (fun _ M7 k7 => ?_)
  have e7 : mI M7 (m + 1) = mI M4 (m + 1) := by rw [k7.2.2 _ (by omega) (by omega), k6.2.2 _ (by omega) (by omega), k5.2.2 _ (by omega) (by omega)]
  refine WP.ret ⟨k7.1.1, fun k h1 h2 => by rw [k7.1.2, upd_o _ _ h1, upd_o _ _ h2], fun k h1 h2 => ?_, ?_, ?_, fun j hj => ?_, fun s hs => ⟨?_, ?_⟩⟩
  · rw [e7, e4, upd_o _ _ h2, upd_o _ _ h1]
  · rw [e7, e4, upd_o _ _ (by decide), upd_s]
  · rw [e7, e4, upd_s]
  · rw [k7.2.2 _ (by omega) (by omega), k6.2.2 _ (by omega) (by omega), k5.2.1 j hj]
  · rw [k7.2.2 _ (by omega) (by omega), k6.2.1 s hs]
  · rw [k7.2.1 s hs]
