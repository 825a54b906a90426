/-! THE REFERENCE: a test, step by step -/
section RTU
variable {m i e b q : Nat} {M M1 : Mem} {t : TP}
def psM (M : Mem) (m n k : Nat) : Mem := sI (sI M (m + 24) n (nI k)) m 25 (nI (n + 1))
theorem r_psh {M' : Mem} (hR : RIs (mS M') (mR M') m) {n k : Nat} (hn : n < 402) (h25 : mI M' m 25 = nI n) : f_X10_opens_J40 m (nI k) M' = some ((), psM M' m n k) := by
  obtain ⟨M2, hM2⟩ : ∃ M2, M2 = sI M' (m + 24) n (nI k) := ⟨_, rfl⟩
  have hR2 : RIs (mS M2) (mR M2) m := by rw [hM2]; exact hR
  have g25 : mI M2 m 25 = nI n := by rw [hM2, sI_row (by omega)]; exact h25
  unfold f_X10_opens_J40
  repeat (first | ((with_reducible apply clt_t); case h => (simp (disch := omega) only [hR]; with_reducible rfl)) | ((with_reducible apply bnd_t); case h => (simp (disch := omega) only [e_gR, e_gI, e_aI, e_aL, e_oO, e_pI, e_wI, e_wL, Option.map_some, mS_sL, mR_sL, mI_sL, mS_sI, mR_sI, mL_sI, n_cl, ro_m hR, rr_open hR, h25, rx_open hR, ← hM2]; with_reducible rfl)) | rw [nm_eq])
  repeat (first | ((with_reducible apply clt_t); case h => (simp (disch := omega) only [hR]; with_reducible rfl)) | ((with_reducible apply bnd_t); case h => (simp (disch := omega) only [e_gR, e_gI, e_aI, e_aL, e_oO, e_pI, e_wI, e_wL, Option.map_some, mS_sL, mR_sL, mI_sL, mS_sI, mR_sI, mL_sI, n_cl, ro_m hR2, g25, n_add]; with_reducible rfl)) | rw [nm_eq])
  unfold psM
  rw [← hM2]
theorem psM_F (M' : Mem) (n k : Nat) : FTs m i e M' (psM M' m n k) := (FTs.wo M' n _).tr (FTs.ws _ (by omega) _) (Nat.le_refl _)
theorem psM_m (M' : Mem) (n k j : Nat) : mI (psM M' m n k) m j = if j = 25 then nI (n + 1) else mI M' m j := by
  unfold psM
  rw [mI_sI]
  by_cases h : j = 25
  · rw [if_pos ⟨rfl, h⟩, if_pos h]
  · rw [if_neg (fun z => h z.2), if_neg h, sI_row (by omega)]
theorem psM_o (M' : Mem) (n k j : Nat) : mI (psM M' m n k) (m + 24) j = if j = n then nI k else mI M' (m + 24) j := by
  unfold psM
  rw [sI_row (by omega), mI_sI]
  by_cases h : j = n
  · rw [if_pos ⟨rfl, h⟩, if_pos h]
  · rw [if_neg (fun z => h z.2), if_neg h]
theorem psM_g {M' : Mem} {n k a : Nat} {F : List (Nat × Nat)} (h : FG M' m i a F) : FG (psM M' m n k) m i a F := fun j hj => by
  unfold psM
  rw [sI_row (by omega), sI_row (by omega), sI_row (by omega), sI_row (by omega)]
  exact h j hj
/-- and, or: one waits -/
theorem RTS.psh {D : QD} {p c k : Nat} {stk : STK} {F : List (Nat × Nat)} (h : RTS m i e M M1 t b q (some D, p, c, stk) F) (hk : k = 10 ∨ k = 11) (h1 : tpk stk ≠ 9 ∧ tpk stk ≠ 10) (h2 : k = 11 → tpk stk ≠ 11) (hE : p + 2 ≤ tkE t p ∧ tkE t p ≤ t.1) : RTS m i e M (sI (psM M1 m stk.length k) m 18 (nI (tkE t p))) t b (tkE t p) (none, tkE t p, c, (k, D) :: stk) F := by
  obtain ⟨fr, ⟨⟨g19, g18, g22⟩, g24, g23, g25, go⟩, ⟨hG, hO⟩, hv, ⟨hq, hp, hc⟩, ⟨hw, hdp, hl⟩, hbd⟩ := h
  have kk : ∀ j, j ≠ 18 → j ≠ 25 → mI (sI (psM M1 m stk.length k) m 18 (nI (tkE t p))) m j = mI M1 m j := fun j j1 j2 => by rw [mI_sI, if_neg (by omega), psM_m, if_neg j2]
  have hl : stk.length ≤ p := hl
  have hbd : 2 * (F.length + nbr stk) + b ≤ p + 2 * c := hbd
  refine ⟨fr.tr ((psM_F M1 stk.length k).tr (FTs.ws _ (Or.inl rfl) _) (Nat.le_refl _) : FTs m i e M1 _) (Nat.le_refl _), ⟨⟨by rw [kk 19 (by decide) (by decide)]; exact g19, by rw [mI_sI, if_pos ⟨rfl, rfl⟩], by rw [kk 22 (by decide) (by decide)]; exact g22⟩, by rw [kk 24 (by decide) (by decide)]; exact g24, ?_, by rw [mI_sI, if_neg (by omega), psM_m, if_pos rfl]; rfl, fun j hj => ?_⟩, ⟨fun j hj => ?_, hO⟩, fun v st => ?_, ⟨⟨hE.2, rfl⟩, hE.2, hc⟩, ⟨⟨hw, by show k = 9 ∨ _; omega, fun _ => h1, fun z => ⟨h1.1, h1.2, h2 z⟩⟩, ?_, ?_⟩, ?_⟩
  · rw [kk 23 (by decide) (by decide), g23]
    show nI (dph stk) = nI ((if k = 9 ∨ k = 12 then 1 else 0) + dph stk)
    rw [if_neg (by omega), Nat.zero_add]
  · have hj : j < stk.length + 1 := hj
    rw [sI_row (by omega), psM_o]
    show _ = nI (((k, D) :: stk).getD (stk.length + 1 - 1 - j) (0, fun _ => false)).1
    by_cases c1 : j = stk.length
    · rw [if_pos c1, show stk.length + 1 - 1 - j = 0 by omega]; rfl
    · rw [if_neg c1, show stk.length + 1 - 1 - j = (stk.length - 1 - j) + 1 by omega]
      exact go j (by show j < stk.length; omega)
  · rw [sI_row (by omega), sI_row (by omega)]
    exact psM_g hG j hj
  · rw [hv v st]
    show some (bL (D v) :: (svl stk v ++ st)) = some (svl ((k, D) :: stk) v ++ st)
    have : svl ((k, D) :: stk) v = bL (D v) :: svl stk v := by rw [svl, if_pos hk]
    rw [this]; rfl
  · show (if k = 9 ∨ k = 12 then 1 else 0) + dph stk ≤ 10
    rw [if_neg (by omega), Nat.zero_add]; exact hdp
  · show stk.length + 1 ≤ tkE t p
    omega
  · show 2 * (F.length + ((if k = 12 then 0 else 1) + nbr stk)) + b ≤ tkE t p + 2 * c
    rw [if_neg (by omega)]
    omega
/-- not, bracket: one deeper -/
theorem RTS.dpr {p c k : Nat} {stk : STK} {F : List (Nat × Nat)} (h : RTS m i e M M1 t b q (none, p, c, stk) F) (hk : (k = 9 ∧ p + 2 ≤ tkE t p) ∨ k = 12) (hd : dph stk < 10) (hE : p < tkE t p ∧ tkE t p ≤ t.1) : RTS m i e M (sI (psM (sI M1 m 23 (nI (dph stk + 1))) m stk.length k) m 18 (nI (tkE t p))) t b (tkE t p) (none, tkE t p, c, (k, fun _ => false) :: stk) F := by
  obtain ⟨fr, ⟨⟨g19, g18, g22⟩, g24, g23, g25, go⟩, ⟨hG, hO⟩, hv, ⟨hq, hp, hc⟩, ⟨hw, hdp, hl⟩, hbd⟩ := h
  have kk : ∀ j, j ≠ 18 → j ≠ 25 → j ≠ 23 → mI (sI (psM (sI M1 m 23 (nI (dph stk + 1))) m stk.length k) m 18 (nI (tkE t p))) m j = mI M1 m j := fun j j1 j2 j3 => by rw [mI_sI, if_neg (by omega), psM_m, if_neg j2, mI_sI, if_neg (by omega)]
  have hl : stk.length ≤ p := hl
  have hbd : 2 * (F.length + nbr stk) + b ≤ p + 2 * c := hbd
  refine ⟨fr.tr ((((FTs.ws M1 (by omega) _ : FTs m i e M1 (sI M1 m 23 (nI (dph stk + 1)))).tr (psM_F _ stk.length k) (Nat.le_refl _))).tr (FTs.ws _ (Or.inl rfl) _) (Nat.le_refl _)) (Nat.le_refl _), ⟨⟨by rw [kk 19 (by decide) (by decide) (by decide)]; exact g19, by rw [mI_sI, if_pos ⟨rfl, rfl⟩], by rw [kk 22 (by decide) (by decide) (by decide)]; exact g22⟩, by rw [kk 24 (by decide) (by decide) (by decide)]; exact g24, ?_, by rw [mI_sI, if_neg (by omega), psM_m, if_pos rfl]; rfl, fun j hj => ?_⟩, ⟨fun j hj => ?_, hO⟩, fun v st => ?_, ⟨⟨hE.2, rfl⟩, hE.2, hc⟩, ⟨⟨hw, by show k = 9 ∨ _; omega, fun z => by have z : k = 10 := z; omega, fun z => by have z : k = 11 := z; omega⟩, ?_, ?_⟩, ?_⟩
  · rw [mI_sI, if_neg (by omega), psM_m, if_neg (by decide), mI_sI, if_pos ⟨rfl, rfl⟩]
    show nI (dph stk + 1) = nI ((if k = 9 ∨ k = 12 then 1 else 0) + dph stk)
    rw [if_pos (by omega), Nat.add_comm]
  · have hj : j < stk.length + 1 := hj
    rw [sI_row (by omega), psM_o]
    show _ = nI (((k, fun _ => false) :: stk).getD (stk.length + 1 - 1 - j) (0, fun _ => false)).1
    by_cases c1 : j = stk.length
    · rw [if_pos c1, show stk.length + 1 - 1 - j = 0 by omega]; rfl
    · rw [if_neg c1, show stk.length + 1 - 1 - j = (stk.length - 1 - j) + 1 by omega, sI_row (by omega)]
      exact go j (by show j < stk.length; omega)
  · rw [sI_row (by omega), sI_row (by omega)]
    refine psM_g (fun j hj => ?_) j hj
    rw [sI_row (by omega), sI_row (by omega)]
    exact hG j hj
  · rw [hv v st]
    show some (svl stk v ++ st) = some (svl ((k, fun _ => false) :: stk) v ++ st)
    have : svl ((k, fun _ => false) :: stk) v = svl stk v := by rw [svl, if_neg (by show ¬ (k = 10 ∨ k = 11); omega)]
    rw [this]
  · show (if k = 9 ∨ k = 12 then 1 else 0) + dph stk ≤ 10
    rw [if_pos (by omega)]; omega
  · show stk.length + 1 ≤ tkE t p
    omega
  · show 2 * (F.length + ((if k = 12 then 0 else 1) + nbr stk)) + b ≤ tkE t p + 2 * c
    split <;> omega
/-- the place is moved over blanks -/
theorem RTS.bkM (h4 : TOk2 t) (hR : RIs (mS M) (mR M) m) (ht : RTp M m t) {s : TSt} {F : List (Nat × Nat)} (h : RTS m i e M M1 t b q s F) : WP (f_X10_blanks m M1) (fun _ M2 => RTS m i e M M2 t b (bk t s.2.1) s F) := by
  have hR1 := h.1.RI hR
  have ht1 := h.1.tp ht
  obtain ⟨fr, ⟨⟨g19, g18, g22⟩, g24, g23, g25, go⟩, ⟨hG, hO⟩, hv, ⟨hq, hp, hc⟩, hw, hbd⟩ := h
  refine WP.mono (bkw h4 hR1 ht1 hq.1 g18) (fun _ M2 w => ?_)
  obtain ⟨w1, w2, w3⟩ := w
  refine ⟨fr.tr (FE.FTs (FM.FE w1)) (Nat.le_refl _), ⟨⟨by rw [w3 19 (by decide)]; exact g19, by rw [w2, hq.2], by rw [w3 22 (by decide)]; exact g22⟩, by rw [w3 24 (by decide)]; exact g24, by rw [w3 23 (by decide)]; exact g23, by rw [w3 25 (by decide)]; exact g25, fun j hj => by rw [w1.2.2.1 (m + 24) (by omega)]; exact go j hj⟩, ⟨fun j hj => by rw [w1.2.2.1 (m + 18) (by omega), w1.2.2.1 (m + 19) (by omega)]; exact hG j hj, hO⟩, hv, ⟨⟨bk_le hp, bk_bk hp⟩, hp, hc⟩, hw, hbd⟩
/-- opens, for a not or a bracket -/
theorem x_opens (h4 : TOk2 t) (hR : RIs (mS M) (mR M) m) {p c k : Nat} {stk : STK} {F : List (Nat × Nat)} (h : RTS m i e M M1 t b (bk t p) (none, p, c, stk) F) (hk : k = 9 ∨ k = 12) : WP (f_X10_opens m (nI k) M1) (fun _ M' => (dph stk < 10 ∧ M' = psM (sI M1 m 23 (nI (dph stk + 1))) m stk.length k) ∨ (dph stk = 10 ∧ FTL m i e M M' t (1 + 8 * bk t p + 2) ∧ mI M' m 18 = nI (bk t p))) := by
  have hL := h4.1
  have hR1 := h.1.RI hR
  obtain ⟨fr, ⟨⟨g19, g18, g22⟩, g24, g23, g25, go⟩, ⟨hG, hO⟩, hv, ⟨hq, hp, hc⟩, ⟨hw, hdp, hl⟩, hbd⟩ := h
  have g23 : mI M1 m 23 = nI (dph stk) := g23
  have g25 : mI M1 m 25 = nI stk.length := g25
  have hl : stk.length ≤ p := hl
  have hp : p ≤ t.1 := hp
  have hdp : dph stk ≤ 10 := hdp
  have hb := bk_le hp
  have j30 : ∀ N : Mem, RIs (mS N) (mR N) m → mI N m 23 = nI (dph stk) → mI N m 25 = nI stk.length → f_X10_opens_J30 m (nI k) N = some ((), psM (sI N m 23 (nI (dph stk + 1))) m stk.length k) := fun N hRN n23 n25 => by
    have a1 := r_psh (M' := sI N m 23 (nI (dph stk + 1))) (k := k) hRN (n := stk.length) (by omega) (by rw [mI_sI, if_neg (by omega)]; exact n25)
    unfold f_X10_opens_J30
    repeat (first | ((with_reducible apply clt_t); case h => (simp (disch := omega) only [hR]; with_reducible rfl)) | ((with_reducible apply bnd_t); case h => (simp (disch := omega) only [e_gR, e_gI, e_aI, e_aL, e_oO, e_pI, e_wI, e_wL, Option.map_some, mS_sL, mR_sL, mI_sL, mS_sI, mR_sI, mL_sI, n_cl, ro_m hRN, n23, n_add]; with_reducible rfl)) | rw [nm_eq])
    exact a1
  have j12 : WP (f_X10_opens_J12 m (nI k) M1) (fun _ M' => (dph stk < 10 ∧ M' = psM (sI M1 m 23 (nI (dph stk + 1))) m stk.length k) ∨ (dph stk = 10 ∧ FTL m i e M M' t (1 + 8 * bk t p + 2) ∧ mI M' m 18 = nI (bk t p))) := by
    unfold f_X10_opens_J12
    repeat (first | ((with_reducible apply WP.ce); case h => (simp (disch := omega) only []; with_reducible rfl)) | ((with_reducible apply WP.bd); case h => (simp (disch := omega) only [e_gR, e_gI, e_aI, e_aL, e_oO, e_pI, e_wI, e_wL, Option.map_some, mS_sL, mR_sL, mI_sL, mS_sI, mR_sI, mL_sI, n_cl, ro_m hR1, g23]; with_reducible rfl)) | rw [nm_eq] | rw [ckZ_n1] | rw [ckZ_n0])
    by_cases hd : dph stk < 10
    · refine WP.ie (by rw [n_eq (by omega) (by decide)]; omega) ?_
      exact WP.of (j30 M1 hR1 g23 g25) (Or.inl ⟨hd, rfl⟩)
    · refine WP.it (by rw [n_eq (by omega) (by decide)]; omega) ?_
      have a1 := r_fails hR1 (fa := 0) (s := bk t p) (c := 2) (by decide) (by omega) (by decide) g19
      obtain ⟨M2, hM2⟩ : ∃ M2, M2 = sI M1 m 19 (nI (ft1 0 (bk t p) 2)) := ⟨_, rfl⟩
      rw [← hM2] at a1
      have hR2 : RIs (mS M2) (mR M2) m := by rw [hM2]; exact hR1
      have kk : ∀ j, j ≠ 19 → mI M2 m j = mI M1 m j := fun j hj => by rw [hM2, mI_sI, if_neg (by omega)]
      repeat (first | ((with_reducible apply WP.ce); case h => (simp (disch := omega) only [a1]; with_reducible rfl)) | ((with_reducible apply WP.bd); case h => (simp (disch := omega) only [e_gR, e_gI, e_aI, e_aL, e_oO, e_pI, e_wI, e_wL, Option.map_some, mS_sL, mR_sL, mI_sL, mS_sI, mR_sI, mL_sI, n_cl, ro_m hR1, g18]; with_reducible rfl)) | rw [nm_eq] | rw [ckZ_n1] | rw [ckZ_n0])
      refine WP.of (j30 M2 hR2 (by rw [kk 23 (by decide)]; exact g23) (by rw [kk 25 (by decide)]; exact g25)) (Or.inr ⟨by omega, ⟨by omega, ?_, ?_, bk t p, by omega, ?_⟩, ?_⟩)
      · exact fr.tr (((by rw [hM2]; exact FTs.ws M1 (Or.inr (Or.inl rfl)) _ : FTs m i e M1 M2).tr (FTs.ws M2 (by omega) _) (Nat.le_refl _)).tr (psM_F _ stk.length k) (Nat.le_refl _)) (Nat.le_refl _)
      · rw [psM_m, if_neg (by decide), mI_sI, if_neg (by omega), hM2, mI_sI, if_pos ⟨rfl, rfl⟩]; rfl
      · rw [psM_m, if_neg (by decide), mI_sI, if_neg (by omega), kk 18 (by decide)]; exact g18
      · rw [psM_m, if_neg (by decide), mI_sI, if_neg (by omega), kk 18 (by decide)]; exact g18
  unfold f_X10_opens
  rcases hk with rfl | rfl
  · exact WP.it rfl j12
  · exact WP.ie (by decide) (WP.it rfl j12)
/-- a fact is wanted -/
theorem x_fact (h4 : TOk2 t) (hi : i < 6) (hb : 2 * e ≤ b) (hR : RIs (mS M) (mR M) m) (ht : RTp M m t) (h20 : mI M m 20 = nI i) (h26 : mI M m 26 = nI 11) {p c : Nat} {stk : STK} {F : List (Nat × Nat)} (h : RTS m i e M M1 t b q (none, p, c, stk) F) :
    WP (f_X10_fact m M1) (fun v M' => (∃ s' F' q', tsS t (none, p, c, stk) = .inr s' ∧ RTS m i e M M' t b q' s' F' ∧ v = bI s'.1.isSome) ∨ (∃ r w, tsS t (none, p, c, stk) = .inl r ∧ FTL m i e M M' t r.1 ∧ v = bI w)) := by
  have hL := h4.1
  have hR1 := h.1.RI hR
  have hp : p ≤ t.1 := h.2.2.2.2.1.2.1
  have hc : c ≤ 60 := h.2.2.2.2.1.2.2
  have hbk := bk_le hp
  unfold f_X10_fact
  repeat (first | ((with_reducible apply WP.ce); case h => (simp (disch := omega) only []; with_reducible rfl)) | ((with_reducible apply WP.bd); case h => (simp (disch := omega) only [e_gR, e_gI, e_aI, e_aL, e_oO, e_pI, e_wI, e_wL, Option.map_some, mS_sL, mR_sL, mI_sL, mS_sI, mR_sI, mL_sI, n_cl, ro_m hR1]; with_reducible rfl)) | rw [nm_eq] | rw [ckZ_n1] | rw [ckZ_n0])
  refine WP.cw (h.bkM h4 hR ht) (fun _ M2 h2 => ?_)
  have h2 : RTS m i e M M2 t b (bk t p) (none, p, c, stk) F := h2
  obtain ⟨hR2, ht2, k20, k26⟩ := rt_of h2.1 hR ht h20 h26
  have g18 := h2.2.1.1.2.1
  have a1 := r_stood hR2 ht2 h4 g18 (by omega) sw_not
  have a2 := r_sign hR2 ht2 h4 g18 (by omega)
  repeat (first | ((with_reducible apply WP.ce); case h => (simp (disch := omega) only [a1]; with_reducible rfl)) | ((with_reducible apply WP.bd); case h => (simp (disch := omega) only [e_gR, e_gI, e_aI, e_aL, e_oO, e_pI, e_wI, e_wL, Option.map_some, mS_sL, mR_sL, mI_sL, mS_sI, mR_sI, mL_sI, n_cl, ro_m hR2]; with_reducible rfl)) | rw [nm_eq] | rw [ckZ_n1] | rw [ckZ_n0])
  by_cases hn : lts t (bk t p) = w_not
  · have ew := tkE_w (by decide) hn
    have hE : tkE t p = bk t p + 3 := ew.2
    have hm := wk_mv (by decide) hp hn
    have hge := bk_ge t p
    rw [decide_eq_true hn]
    refine WP.ie (show ¬ bI true = 0 by decide) ?_
    repeat (first | ((with_reducible apply WP.ce); case h => (simp (disch := omega) only []; with_reducible rfl)) | ((with_reducible apply WP.bd); case h => (simp (disch := omega) only [e_gR, e_gI, e_aI, e_aL, e_oO, e_pI, e_wI, e_wL, Option.map_some, mS_sL, mR_sL, mI_sL, mS_sI, mR_sI, mL_sI, n_cl, ro_m hR2]; with_reducible rfl)) | rw [nm_eq] | rw [ckZ_n1] | rw [ckZ_n0])
    refine WP.cw (x_opens h4 hR h2 (Or.inl rfl)) (fun _ M3 q => ?_)
    rcases q with ⟨hd, rfl⟩ | ⟨hd, ⟨f0, f1, f2, f3⟩, f4⟩
    · obtain ⟨M3, hM3⟩ : ∃ M3, M3 = psM (sI M2 m 23 (nI (dph stk + 1))) m stk.length 9 := ⟨_, rfl⟩
      have h3 := h2.dpr (k := 9) (Or.inl ⟨rfl, by omega⟩) hd hm
      rw [← hM3] at h3 ⊢
      have hR3 : RIs (mS M3) (mR M3) m := by rw [hM3]; exact hR2
      have k18 : mI M3 m 18 = nI (bk t p) := by rw [hM3, psM_m, if_neg (by decide), mI_sI, if_neg (by omega)]; exact g18
      repeat (first | ((with_reducible apply WP.ce); case h => (simp (disch := omega) only []; with_reducible rfl)) | ((with_reducible apply WP.bd); case h => (simp (disch := omega) only [e_gR, e_gI, e_aI, e_aL, e_oO, e_pI, e_wI, e_wL, Option.map_some, mS_sL, mR_sL, mI_sL, mS_sI, mR_sI, mL_sI, n_cl, ro_m hR3, k18, n_add, ← hE]; with_reducible rfl)) | rw [nm_eq] | rw [ckZ_n1] | rw [ckZ_n0])
      refine WP.ret (Or.inl ⟨_, F, _, ?_, h3, rfl⟩)
      unfold tsS
      dsimp only
      rw [if_pos hn, if_pos hd]
    · have hR3 := f1.RI hR
      repeat (first | ((with_reducible apply WP.ce); case h => (simp (disch := omega) only []; with_reducible rfl)) | ((with_reducible apply WP.bd); case h => (simp (disch := omega) only [e_gR, e_gI, e_aI, e_aL, e_oO, e_pI, e_wI, e_wL, Option.map_some, mS_sL, mR_sL, mI_sL, mS_sI, mR_sI, mL_sI, n_cl, ro_m hR3, f4, n_add]; with_reducible rfl)) | rw [nm_eq] | rw [ckZ_n1] | rw [ckZ_n0])
      refine WP.ret (Or.inr ⟨(1 + 8 * bk t p + 2, p, c, fun _ => false), false, ?_, ⟨f0, f1.tr (FTs.ws M3 (Or.inl rfl) _) (Nat.le_refl _), by rw [mI_sI, if_neg (by omega)]; exact f2, bk t p + 3, by omega, by rw [mI_sI, if_pos ⟨rfl, rfl⟩]⟩, rfl⟩)
      unfold tsS
      dsimp only
      rw [if_pos hn, if_neg (by omega)]
  · rw [decide_eq_false hn]
    refine WP.it rfl ?_
    repeat (first | ((with_reducible apply WP.ce); case h => (simp (disch := omega) only [a2]; with_reducible rfl)) | ((with_reducible apply WP.bd); case h => (simp (disch := omega) only [e_gR, e_gI, e_aI, e_aL, e_oO, e_pI, e_wI, e_wL, Option.map_some, mS_sL, mR_sL, mI_sL, mS_sI, mR_sI, mL_sI, n_cl, ro_m hR2]; with_reducible rfl)) | rw [nm_eq] | rw [ckZ_n1] | rw [ckZ_n0])
    by_cases hg : tkG t p = nI 91
    · have hE := tkE_sg h4 sg_91 hg
      have hm := gk_mv (by decide) hp hg
      refine WP.it (by rw [tk_sn h4 _ sg_91]; exact hg) ?_
      repeat (first | ((with_reducible apply WP.ce); case h => (simp (disch := omega) only []; with_reducible rfl)) | ((with_reducible apply WP.bd); case h => (simp (disch := omega) only [e_gR, e_gI, e_aI, e_aL, e_oO, e_pI, e_wI, e_wL, Option.map_some, mS_sL, mR_sL, mI_sL, mS_sI, mR_sI, mL_sI, n_cl, ro_m hR2]; with_reducible rfl)) | rw [nm_eq] | rw [ckZ_n1] | rw [ckZ_n0])
      refine WP.cw (x_opens h4 hR h2 (Or.inr rfl)) (fun _ M3 q => ?_)
      rcases q with ⟨hd, rfl⟩ | ⟨hd, ⟨f0, f1, f2, f3⟩, f4⟩
      · obtain ⟨M3, hM3⟩ : ∃ M3, M3 = psM (sI M2 m 23 (nI (dph stk + 1))) m stk.length 12 := ⟨_, rfl⟩
        have h3 := h2.dpr (k := 12) (Or.inr rfl) hd hm
        rw [← hM3] at h3 ⊢
        have hR3 : RIs (mS M3) (mR M3) m := by rw [hM3]; exact hR2
        have k18 : mI M3 m 18 = nI (bk t p) := by rw [hM3, psM_m, if_neg (by decide), mI_sI, if_neg (by omega)]; exact g18
        repeat (first | ((with_reducible apply WP.ce); case h => (simp (disch := omega) only []; with_reducible rfl)) | ((with_reducible apply WP.bd); case h => (simp (disch := omega) only [e_gR, e_gI, e_aI, e_aL, e_oO, e_pI, e_wI, e_wL, Option.map_some, mS_sL, mR_sL, mI_sL, mS_sI, mR_sI, mL_sI, n_cl, ro_m hR3, k18, n_add, ← hE]; with_reducible rfl)) | rw [nm_eq] | rw [ckZ_n1] | rw [ckZ_n0])
        refine WP.ret (Or.inl ⟨_, F, _, ?_, h3, rfl⟩)
        unfold tsS
        dsimp only
        rw [if_neg hn, if_pos hg, if_pos hd]
      · have hR3 := f1.RI hR
        repeat (first | ((with_reducible apply WP.ce); case h => (simp (disch := omega) only []; with_reducible rfl)) | ((with_reducible apply WP.bd); case h => (simp (disch := omega) only [e_gR, e_gI, e_aI, e_aL, e_oO, e_pI, e_wI, e_wL, Option.map_some, mS_sL, mR_sL, mI_sL, mS_sI, mR_sI, mL_sI, n_cl, ro_m hR3, f4, n_add]; with_reducible rfl)) | rw [nm_eq] | rw [ckZ_n1] | rw [ckZ_n0])
        refine WP.ret (Or.inr ⟨(1 + 8 * bk t p + 2, p, c, fun _ => false), false, ?_, ⟨f0, f1.tr (FTs.ws M3 (Or.inl rfl) _) (Nat.le_refl _), by rw [mI_sI, if_neg (by omega)]; exact f2, bk t p + 1, by omega, by rw [mI_sI, if_pos ⟨rfl, rfl⟩]⟩, rfl⟩)
        unfold tsS
        dsimp only
        rw [if_neg hn, if_pos hg, if_neg (by omega)]
    · refine WP.ie (by rw [tk_sn h4 _ sg_91]; exact hg) ?_
      repeat (first | ((with_reducible apply WP.ce); case h => (simp (disch := omega) only []; with_reducible rfl)) | ((with_reducible apply WP.bd); case h => (simp (disch := omega) only [e_gR, e_gI, e_aI, e_aL, e_oO, e_pI, e_wI, e_wL, Option.map_some, mS_sL, mR_sL, mI_sL, mS_sI, mR_sI, mL_sI, n_cl, ro_m hR2]; with_reducible rfl)) | rw [nm_eq] | rw [ckZ_n1] | rw [ckZ_n0])
      obtain ⟨fr, ⟨⟨g19, -, g22⟩, g24, g23, g25, go⟩, ⟨hG, hO⟩, hv, -, ⟨hw, hdp, hl⟩, hbd⟩ := h2
      have hbd : 2 * (F.length + nbr stk) + b ≤ p + 2 * c := hbd
      have hge := bk_ge t p
      refine WP.cw (x_cmp h4 hi (e := e + F.length) (p := bk t p) (c := c) (by omega) hR2 ht2 k20 k26 hbk hc g19 g18 g22 g24) (fun _ M3 q => ?_)
      unfold cmR at q
      rw [cmP_bk hp] at q
      obtain ⟨q1, q2, ⟨p', q3, q4⟩, q5⟩ := q
      have q2 : mI M3 m 19 = nI (cmP t p c).1 := q2
      obtain ⟨z1, z2⟩ := cmP_ok h4 (c := c) hp
      have frM : FTs m i e M M3 := fr.tr q1.FTs (by omega)
      by_cases hc0 : (cmP t p c).1 = 0
      · obtain ⟨⟨r18, r24⟩, G, r22, rG, rO, rv, rb, rF⟩ := q5 rfl hc0
        obtain ⟨⟨y1, y2⟩, y3, y4⟩ := z2 hc0
        have r18 : mI M3 m 18 = nI (bk t (cmP t p c).2.1) := r18
        have rb : 2 * G.length + (bk t p + 2 * c) ≤ (cmP t p c).2.1 + 2 * (cmP t p c).2.2.1 := rb
        have len : (F ++ G).length = F.length + G.length := List.length_append
        have hl : stk.length ≤ p := hl
        have e1 : ∀ k, k ≠ 18 → k ≠ 19 → k ≠ 22 → k ≠ 24 → mI M3 m k = mI M2 m k := q1.2.2.2.1
        refine WP.ret (Or.inl ⟨(some (cmP t p c).2.2.2, (cmP t p c).2.1, (cmP t p c).2.2.1, stk), F ++ G, bk t (cmP t p c).2.1, ?_, ⟨frM, ⟨⟨by rw [q2, hc0], r18, by rw [r22, len, Nat.add_assoc]⟩, r24, by rw [e1 23 (by decide) (by decide) (by decide) (by decide)]; exact g23, by rw [e1 25 (by decide) (by decide) (by decide) (by decide)]; exact g25, fun j hj => by rw [q1.2.2.1 (m + 24) (by omega) (by omega)]; exact go j hj⟩, ⟨FG.app (q1.g hG (Nat.le_refl _)) rG, fun y hy => ?_⟩, fun v st => ?_, ⟨⟨bk_le y2, bk_bk y2⟩, y2, y4⟩, ⟨hw, hdp, by show stk.length ≤ (cmP t p c).2.1; omega⟩, ?_⟩, rfl⟩)
        · unfold tsS
          dsimp only
          rw [if_neg hn, if_neg hg, if_pos hc0]
        · rcases List.mem_append.mp hy with z | z
          · exact hO y z
          · exact rO y z
        · rw [evl_app, hv v st]
          exact rv v (svl stk v ++ st)
        · show 2 * ((F ++ G).length + nbr stk) + b ≤ (cmP t p c).2.1 + 2 * (cmP t p c).2.2.1
          rw [len]; omega
      · refine WP.ret (Or.inr ⟨cmP t p c, true, ?_, ⟨hc0, frM, q2, p', by omega, q4⟩, rfl⟩)
        unfold tsS
        dsimp only
        rw [if_neg hn, if_neg hg, if_neg hc0]
end RTU
