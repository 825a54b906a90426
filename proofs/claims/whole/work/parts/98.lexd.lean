/-! THE CLASS: next -/
section CNX
variable {M : Mem} {t : TP}
theorem c_nx2 (h4 : TOk2 t) {p s : Nat} (hbk : bk t p = s) (hs : s ≤ t.1) (hnd : ¬ (s < t.1 ∧ isDg (t.2 s) = true)) :
    ∀ d q f (M : Mem), q + d = ru isLt t s → s ≤ q → CIs (mS M) (mR M) → CTp M t → mI M 1 3 = nI (if q = s then 0 else 2) → mI M 1 8 = nI q → mI M 1 7 = -1 → mI M 1 4 = nI s → mI M 1 5 = nI 0 → mL M 1 6 = (if q - s ≤ 7 then lN (cdk t s (q - s)) else 0) →
    WP (f_X7_next_L165 1 (f + d + 1) M) (fun _ M' => FTk M M' ∧ TK M' t p) := by
  have hL := h4.1
  have hrl := ru_le isLt t hs
  have hrg := ru_ge isLt t s
  have k1 : tkK t p ≠ 1 := by
    unfold tkK
    rw [hbk]
    by_cases h : t.1 ≤ s
    · rw [if_pos h]; decide
    · rw [if_neg h]
      by_cases h2 : isDg (t.2 s) = true
      · exact absurd ⟨by omega, h2⟩ hnd
      · rw [if_neg h2]; split <;> decide
  intro d
  induction d with
  | zero =>
    intro q f M hq hsq hC ht h3 h8 h7 h00 h5 h6
    have hq : q = ru isLt t s := by omega
    have stop : q < t.1 → isLt (t.2 q) = false := fun h => by rw [hq]; exact ru_stop isLt t (by omega)
    have kq : q = s → (s < t.1 → isLt (t.2 s) = false) := fun e h => by rw [← e]; exact stop (by omega)
    have fin : WP (f_X7_next_J270 1 M) (fun _ M' => FTk M M' ∧ TK M' t p) := by
      have hk2 : (if q = s then 0 else 2) ≤ 2 := by split <;> omega
      refine WP.mono (c_nx3 hC ht h4 (s := s) (q := q) hs (by omega) hk2 h3 h8 h7 h00 h5 h6 (fun z => by
        by_cases e : q = s
        · exact e
        · rw [if_neg e] at z; cases z)) (fun _ M' c => ⟨c.1, ?_⟩)
      obtain ⟨-, c3, c4, c5, c6, c7, c8⟩ := c
      by_cases e : q = s
      · have kk : tkK t p = if t.1 ≤ s then 0 else 3 := by
          unfold tkK
          rw [hbk]
          by_cases h : t.1 ≤ s
          · rw [if_pos h, if_pos h]
          · rw [if_neg h, if_neg h, if_neg (fun z => hnd ⟨by omega, z⟩), if_neg (by rw [kq e (by omega)]; decide)]
        have k2 : tkK t p ≠ 2 := by rw [kk]; split <;> decide
        rw [if_pos e] at c3 c7 c8
        unfold TK
        rw [hbk]
        refine ⟨by rw [c3, if_pos rfl, kk], c4, ?_, ?_, ?_, ?_⟩
        · rw [c5]; unfold tkV; rw [if_neg k1]
        · rw [c6]; unfold tkW; rw [if_neg k2, e, Nat.sub_self, if_pos (by decide)]; rfl
        · rw [c7]
          unfold tkG
          rw [kk, hbk]
          by_cases h : t.1 ≤ s
          · rw [if_pos h, if_neg (by omega), if_neg (by decide)]
          · rw [if_neg h, if_pos ⟨rfl, by omega⟩, if_pos rfl]
        · rw [c8]
          unfold tkE
          rw [kk, hbk]
          by_cases h : t.1 ≤ s
          · rw [if_pos h, if_neg (by omega), if_pos rfl, e]
          · rw [if_neg h, if_pos ⟨rfl, by omega⟩]; rfl
      · have hlt : s < t.1 := by omega
        have hlet : isLt (t.2 s) = true := ru_in isLt t (Nat.le_refl s) (by omega)
        have kk : tkK t p = 2 := by
          unfold tkK
          rw [hbk, if_neg (by omega), if_neg (fun z => hnd ⟨hlt, z⟩), if_pos hlet]
        rw [if_neg e] at c3 c7 c8
        unfold TK
        rw [hbk]
        refine ⟨by rw [c3, if_neg (by decide), kk], c4, ?_, ?_, ?_, ?_⟩
        · rw [c5]; unfold tkV; rw [if_neg k1]
        · rw [c6]; unfold tkW; rw [if_pos kk, hbk, hq]
        · rw [c7, if_neg (by omega)]
          unfold tkG
          rw [kk, if_neg (by decide)]
        · rw [c8, if_neg (by omega)]
          unfold tkE
          rw [kk, if_neg (by decide), if_neg (by decide), if_pos rfl, hbk, hq]
    rw [f_X7_next_L165]
    repeat (first | ((with_reducible apply WP.ce); case h => (simp (disch := omega) only []; with_reducible rfl)) | ((with_reducible apply WP.bd); case h => (simp (disch := omega) only [e_gR, e_gI, e_aI, e_aL, e_oO, e_pI, e_wI, e_wL, Option.map_some, mS_sL, mR_sL, mI_sL, mS_sI, mR_sI, mL_sI, n_cl, cob_1 hC, h3]; with_reducible rfl)) | rw [nm_eq] | rw [ckZ_n1] | rw [ckZ_n0])
    refine WP.ie (by rw [n_eq (by split <;> omega) (by decide)]; split <;> omega) ?_
    repeat (first | ((with_reducible apply WP.ce); case h => (simp (disch := omega) only []; with_reducible rfl)) | ((with_reducible apply WP.bd); case h => (simp (disch := omega) only [e_gR, e_gI, e_aI, e_aL, e_oO, e_pI, e_wI, e_wL, Option.map_some, mS_sL, mR_sL, mI_sL, mS_sI, mR_sI, mL_sI, n_cl, cob_1 hC, h8, ht.1]; with_reducible rfl)) | rw [nm_eq] | rw [ckZ_n1] | rw [ckZ_n0])
    by_cases hl : t.1 ≤ q
    · exact WP.it (by rw [n_le (by omega) (by omega)]; exact hl) fin
    · refine WP.ie (by rw [n_le (by omega) (by omega)]; exact hl) ?_
      have v := ht.2 q (by omega)
      have hy := h4.2 q
      have nl := of_decide_eq_false (stop (by omega))
      repeat (first | ((with_reducible apply WP.ce); case h => (simp (disch := omega) only []; with_reducible rfl)) | ((with_reducible apply WP.bd); case h => (simp (disch := omega) only [e_gR, e_gI, e_aI, e_aL, e_oO, e_pI, e_wI, e_wL, Option.map_some, mS_sL, mR_sL, mI_sL, mS_sI, mR_sI, mL_sI, n_cl, cob_1 hC, cr_bytes hC, h8, cx_bytes hC, v]; with_reducible rfl)) | rw [nm_eq] | rw [ckZ_n1] | rw [ckZ_n0])
      by_cases c1 : t.2 q < 97
      · exact WP.it (by rw [n_lt (by omega) (by decide)]; exact c1) fin
      · refine WP.ie (by rw [n_lt (by omega) (by decide)]; exact c1) ?_
        repeat (first | ((with_reducible apply WP.ce); case h => (simp (disch := omega) only []; with_reducible rfl)) | ((with_reducible apply WP.bd); case h => (simp (disch := omega) only [e_gR, e_gI, e_aI, e_aL, e_oO, e_pI, e_wI, e_wL, Option.map_some, mS_sL, mR_sL, mI_sL, mS_sI, mR_sI, mL_sI, n_cl, cob_1 hC, cr_bytes hC, h8, cx_bytes hC, v]; with_reducible rfl)) | rw [nm_eq] | rw [ckZ_n1] | rw [ckZ_n0])
        exact WP.it (by rw [n_lt (by decide) (by omega)]; omega) fin
  | succ d ih =>
    intro q f M hq hsq hC ht h3 h8 h7 h00 h5 h6
    have hin := of_decide_eq_true (ru_in isLt t (p := s) (i := q) hsq (by omega))
    have v := ht.2 q (by omega)
    have hy := h4.2 q
    rw [show f + (d + 1) + 1 = (f + d + 1) + 1 from by omega, f_X7_next_L165]
    repeat (first | ((with_reducible apply WP.ce); case h => (simp (disch := omega) only []; with_reducible rfl)) | ((with_reducible apply WP.bd); case h => (simp (disch := omega) only [e_gR, e_gI, e_aI, e_aL, e_oO, e_pI, e_wI, e_wL, Option.map_some, mS_sL, mR_sL, mI_sL, mS_sI, mR_sI, mL_sI, n_cl, cob_1 hC, h3]; with_reducible rfl)) | rw [nm_eq] | rw [ckZ_n1] | rw [ckZ_n0])
    refine WP.ie (by rw [n_eq (by split <;> omega) (by decide)]; split <;> omega) ?_
    repeat (first | ((with_reducible apply WP.ce); case h => (simp (disch := omega) only []; with_reducible rfl)) | ((with_reducible apply WP.bd); case h => (simp (disch := omega) only [e_gR, e_gI, e_aI, e_aL, e_oO, e_pI, e_wI, e_wL, Option.map_some, mS_sL, mR_sL, mI_sL, mS_sI, mR_sI, mL_sI, n_cl, cob_1 hC, h8, ht.1]; with_reducible rfl)) | rw [nm_eq] | rw [ckZ_n1] | rw [ckZ_n0])
    refine WP.ie (by rw [n_le (by omega) (by omega)]; omega) ?_
    repeat (first | ((with_reducible apply WP.ce); case h => (simp (disch := omega) only []; with_reducible rfl)) | ((with_reducible apply WP.bd); case h => (simp (disch := omega) only [e_gR, e_gI, e_aI, e_aL, e_oO, e_pI, e_wI, e_wL, Option.map_some, mS_sL, mR_sL, mI_sL, mS_sI, mR_sI, mL_sI, n_cl, cob_1 hC, cr_bytes hC, h8, cx_bytes hC, v]; with_reducible rfl)) | rw [nm_eq] | rw [ckZ_n1] | rw [ckZ_n0])
    refine WP.ie (by rw [n_lt (by omega) (by decide)]; omega) ?_
    repeat (first | ((with_reducible apply WP.ce); case h => (simp (disch := omega) only []; with_reducible rfl)) | ((with_reducible apply WP.bd); case h => (simp (disch := omega) only [e_gR, e_gI, e_aI, e_aL, e_oO, e_pI, e_wI, e_wL, Option.map_some, mS_sL, mR_sL, mI_sL, mS_sI, mR_sI, mL_sI, n_cl, cob_1 hC, cr_bytes hC, h8, cx_bytes hC, v]; with_reducible rfl)) | rw [nm_eq] | rw [ckZ_n1] | rw [ckZ_n0])
    refine WP.ie (by rw [n_lt (by decide) (by omega)]; omega) ?_
    obtain ⟨M1, hM1⟩ : ∃ M1, M1 = sI M 1 3 (nI 2) := ⟨_, rfl⟩
    have f1 : FTk M M1 := by rw [hM1]; exact FTk.i M (by decide) _
    have hC1 := f1.CI hC
    have t1 := f1.tp ht
    have v1 := t1.2 q (by omega)
    have a3 : mI M1 1 3 = nI 2 := by rw [hM1, mI_s1, if_pos rfl]
    have a4 : mI M1 1 4 = nI s := by rw [hM1, mI_s1, if_neg (by decide)]; exact h00
    have a5 : mI M1 1 5 = nI 0 := by rw [hM1, mI_s1, if_neg (by decide)]; exact h5
    have a7 : mI M1 1 7 = -1 := by rw [hM1, mI_s1, if_neg (by decide)]; exact h7
    have a8 : mI M1 1 8 = nI q := by rw [hM1, mI_s1, if_neg (by decide)]; exact h8
    have a6 : mL M1 1 6 = (if q - s ≤ 7 then lN (cdk t s (q - s)) else 0) := by rw [hM1]; exact h6
    repeat (first | ((with_reducible apply WP.ce); case h => (simp (disch := omega) only []; with_reducible rfl)) | ((with_reducible apply WP.bd); case h => (simp (disch := omega) only [e_gR, e_gI, e_aI, e_aL, e_oO, e_pI, e_wI, e_wL, Option.map_some, mS_sL, mR_sL, mI_sL, mS_sI, mR_sI, mL_sI, n_cl, cob_1 hC, ← hM1]; with_reducible rfl)) | rw [nm_eq] | rw [ckZ_n1] | rw [ckZ_n0])
    repeat (first | ((with_reducible apply WP.ce); case h => (simp (disch := omega) only []; with_reducible rfl)) | ((with_reducible apply WP.bd); case h => (simp (disch := omega) only [e_gR, e_gI, e_aI, e_aL, e_oO, e_pI, e_wI, e_wL, Option.map_some, mS_sL, mR_sL, mI_sL, mS_sI, mR_sI, mL_sI, n_cl, cob_1 hC1, a8, a4]; with_reducible rfl)) | rw [nm_eq] | rw [ckZ_n1] | rw [ckZ_n0])
    rw [n_sub hsq]
    have on : ∀ w, w = (if q + 1 - s ≤ 7 then lN (cdk t s (q + 1 - s)) else 0) → WP (f_X7_next_J254 (f_X7_next_L165 1 (f + d + 1)) 1 w (some 1) M1) (fun _ M' => FTk M M' ∧ TK M' t p) := by
      intro w hw
      obtain ⟨M2, hM2⟩ : ∃ M2, M2 = sL M1 1 6 w := ⟨_, rfl⟩
      have f2 : FTk M M2 := f1.tr (by rw [hM2]; exact FTk.l M1 _ _)
      have hC2 := f2.CI hC
      have b8 : mI M2 1 8 = nI q := by rw [hM2]; exact a8
      unfold f_X7_next_J254
      repeat (first | ((with_reducible apply WP.ce); case h => (simp (disch := omega) only []; with_reducible rfl)) | ((with_reducible apply WP.bd); case h => (simp (disch := omega) only [e_gR, e_gI, e_aI, e_aL, e_oO, e_pI, e_wI, e_wL, Option.map_some, mS_sL, mR_sL, mI_sL, mS_sI, mR_sI, mL_sI, n_cl, e_pL, cob_1 hC1, ← hM2]; with_reducible rfl)) | rw [nm_eq] | rw [ckZ_n1] | rw [ckZ_n0])
      repeat (first | ((with_reducible apply WP.ce); case h => (simp (disch := omega) only []; with_reducible rfl)) | ((with_reducible apply WP.bd); case h => (simp (disch := omega) only [e_gR, e_gI, e_aI, e_aL, e_oO, e_pI, e_wI, e_wL, Option.map_some, mS_sL, mR_sL, mI_sL, mS_sI, mR_sI, mL_sI, n_cl, cob_1 hC2, b8, n_add]; with_reducible rfl)) | rw [nm_eq] | rw [ckZ_n1] | rw [ckZ_n0])
      have f3 := f2.tr (FTk.i M2 (k := 8) (by decide) (nI (q + 1)))
      refine WP.mono (ih (q + 1) f _ (by omega) (by omega) (f3.CI hC) (f3.tp ht) ?_ ?_ ?_ ?_ ?_ ?_) (fun _ M' c => ⟨f3.tr c.1, c.2⟩)
      · rw [mI_s1, if_neg (by decide), if_neg (by omega), hM2]; exact a3
      · rw [mI_s1, if_pos rfl]
      · rw [mI_s1, if_neg (by decide), hM2]; exact a7
      · rw [mI_s1, if_neg (by decide), hM2]; exact a4
      · rw [mI_s1, if_neg (by decide), hM2]; exact a5
      · rw [mL_sI, hM2, mL_s1, if_pos rfl]; exact hw
    by_cases h7k : 7 ≤ q - s
    · refine WP.it (by rw [n_le (by decide) (by omega)]; exact h7k) (on _ ?_)
      rw [if_neg (by omega)]
    · refine WP.ie (by rw [n_le (by decide) (by omega)]; exact h7k) ?_
      rw [if_pos (by omega)] at a6
      repeat (first | ((with_reducible apply WP.ce); case h => (simp (disch := omega) only []; with_reducible rfl)) | ((with_reducible apply WP.bd); case h => (simp (disch := omega) only [e_gR, e_gI, e_aI, e_aL, e_oO, e_pI, e_wI, e_wL, Option.map_some, mS_sL, mR_sL, mI_sL, mS_sI, mR_sI, mL_sI, n_cl, e_gL, cob_1 hC1, a6, cr_bytes hC1, a8, cx_bytes hC1, v1]; with_reducible rfl)) | rw [nm_eq] | rw [ckZ_n1] | rw [ckZ_n0])
      refine on _ ?_
      have hcl := cdk_lt h4 s (q - s)
      have hcp : 256 ^ (q - s) ≤ 256 ^ 6 := Nat.pow_le_pow_right (by decide) (by omega)
      rw [wd_st (Nat.lt_of_lt_of_le hcl (Nat.le_trans hcp (by decide))) hy, if_pos (by omega), show q + 1 - s = (q - s) + 1 by omega, cdk, show s + (q - s) = q by omega]
theorem c_nx1 (h4 : TOk2 t) {p s : Nat} (hbk : bk t p = s) (hs : s ≤ t.1) :
    ∀ d q f (M : Mem), q + d = ru isDg t s → s ≤ q → CIs (mS M) (mR M) → CTp M t → mI M 1 3 = nI (if q = s then 0 else 1) → mI M 1 8 = nI q → mI M 1 7 = -1 → mI M 1 4 = nI s → mI M 1 5 = nI (if q - s ≤ 5 then dvl t s (q - s) else 100000) → mL M 1 6 = 0 →
    WP (f_X7_next_L66 1 (f + d + 1) M) (fun _ M' => FTk M M' ∧ TK M' t p) := by
  have hL := h4.1
  have hrl := ru_le isDg t hs
  have hrg := ru_ge isDg t s
  intro d
  induction d with
  | zero =>
    intro q f M hq hsq hC ht h3 h8 h7 h00 h5 h6
    have hq : q = ru isDg t s := by omega
    have stop : q < t.1 → isDg (t.2 q) = false := fun h => by rw [hq]; exact ru_stop isDg t (by omega)
    have fin : WP (f_X7_next_L165 1 FU M) (fun _ M' => FTk M M' ∧ TK M' t p) := by
      by_cases e : q = s
      · have hnd : ¬ (s < t.1 ∧ isDg (t.2 s) = true) := fun z => by
          rw [← e] at z
          rw [stop z.1] at z
          cases z.2
        have hll := ru_le isLt t hs
        have hlg := ru_ge isLt t s
        obtain ⟨f2, hf2⟩ := FUd (ru isLt t s - s) (by omega)
        rw [hf2]
        rw [if_pos e] at h3
        rw [e] at h8
        rw [e, Nat.sub_self, if_pos (by decide)] at h5
        exact c_nx2 h4 hbk hs hnd (ru isLt t s - s) s f2 M (by omega) (Nat.le_refl s) hC ht (by rw [if_pos rfl]; exact h3) h8 h7 h00 h5 (by rw [Nat.sub_self, if_pos (by decide), h6]; rfl)
      · rw [if_neg e] at h3
        have hlt : s < t.1 := by omega
        have hdg : isDg (t.2 s) = true := ru_in isDg t (Nat.le_refl s) (by omega)
        have kk : tkK t p = 1 := by
          unfold tkK
          rw [hbk, if_neg (by omega), if_pos hdg]
        obtain ⟨f2, hf2⟩ := FUd 0 (by omega)
        rw [hf2, f_X7_next_L165]
        repeat (first | ((with_reducible apply WP.ce); case h => (simp (disch := omega) only []; with_reducible rfl)) | ((with_reducible apply WP.bd); case h => (simp (disch := omega) only [e_gR, e_gI, e_aI, e_aL, e_oO, e_pI, e_wI, e_wL, Option.map_some, mS_sL, mR_sL, mI_sL, mS_sI, mR_sI, mL_sI, n_cl, cob_1 hC, h3]; with_reducible rfl)) | rw [nm_eq] | rw [ckZ_n1] | rw [ckZ_n0])
        refine WP.it rfl ?_
        refine WP.mono (c_nx3 hC ht h4 (s := s) (q := q) (kd := 1) hs (by omega) (by decide) h3 h8 h7 h00 h5 h6 (fun z => by cases z)) (fun _ M' c => ⟨c.1, ?_⟩)
        obtain ⟨-, c3, c4, c5, c6, c7, c8⟩ := c
        unfold TK
        rw [hbk]
        refine ⟨by rw [c3, if_neg (by decide), kk], c4, ?_, ?_, ?_, ?_⟩
        · rw [c5]
          unfold tkV
          rw [if_pos kk, hbk]
          have ds : q - s = dgs t s := by unfold dgs; rw [hq]
          rw [ds]
          by_cases h : dgs t s ≤ 5
          · rw [if_pos h, if_pos h]
            unfold dgV
            rw [if_pos h]
          · rw [if_neg h, if_neg h]
        · rw [c6]; unfold tkW; rw [kk, if_neg (by decide)]
        · rw [c7, if_neg (by omega)]; unfold tkG; rw [kk, if_neg (by decide)]
        · rw [c8, if_neg (by omega)]; unfold tkE; rw [kk, if_neg (by decide), if_pos rfl, hbk, hq]
    rw [f_X7_next_L66]
    repeat (first | ((with_reducible apply WP.ce); case h => (simp (disch := omega) only []; with_reducible rfl)) | ((with_reducible apply WP.bd); case h => (simp (disch := omega) only [e_gR, e_gI, e_aI, e_aL, e_oO, e_pI, e_wI, e_wL, Option.map_some, mS_sL, mR_sL, mI_sL, mS_sI, mR_sI, mL_sI, n_cl, cob_1 hC, h8, ht.1]; with_reducible rfl)) | rw [nm_eq] | rw [ckZ_n1] | rw [ckZ_n0])
    by_cases hl : t.1 ≤ q
    · exact WP.it (by rw [n_le (by omega) (by omega)]; exact hl) fin
    · refine WP.ie (by rw [n_le (by omega) (by omega)]; exact hl) ?_
      have v := ht.2 q (by omega)
      have hy := h4.2 q
      have nl := of_decide_eq_false (stop (by omega))
      repeat (first | ((with_reducible apply WP.ce); case h => (simp (disch := omega) only []; with_reducible rfl)) | ((with_reducible apply WP.bd); case h => (simp (disch := omega) only [e_gR, e_gI, e_aI, e_aL, e_oO, e_pI, e_wI, e_wL, Option.map_some, mS_sL, mR_sL, mI_sL, mS_sI, mR_sI, mL_sI, n_cl, cob_1 hC, cr_bytes hC, h8, cx_bytes hC, v]; with_reducible rfl)) | rw [nm_eq] | rw [ckZ_n1] | rw [ckZ_n0])
      by_cases c1 : t.2 q < 48
      · exact WP.it (by rw [n_lt (by omega) (by decide)]; exact c1) fin
      · refine WP.ie (by rw [n_lt (by omega) (by decide)]; exact c1) ?_
        repeat (first | ((with_reducible apply WP.ce); case h => (simp (disch := omega) only []; with_reducible rfl)) | ((with_reducible apply WP.bd); case h => (simp (disch := omega) only [e_gR, e_gI, e_aI, e_aL, e_oO, e_pI, e_wI, e_wL, Option.map_some, mS_sL, mR_sL, mI_sL, mS_sI, mR_sI, mL_sI, n_cl, cob_1 hC, cr_bytes hC, h8, cx_bytes hC, v]; with_reducible rfl)) | rw [nm_eq] | rw [ckZ_n1] | rw [ckZ_n0])
        exact WP.it (by rw [n_lt (by decide) (by omega)]; omega) fin
  | succ d ih =>
    intro q f M hq hsq hC ht h3 h8 h7 h00 h5 h6
    have hin := of_decide_eq_true (ru_in isDg t (p := s) (i := q) hsq (by omega))
    have v := ht.2 q (by omega)
    have hy := h4.2 q
    rw [show f + (d + 1) + 1 = (f + d + 1) + 1 from by omega, f_X7_next_L66]
    repeat (first | ((with_reducible apply WP.ce); case h => (simp (disch := omega) only []; with_reducible rfl)) | ((with_reducible apply WP.bd); case h => (simp (disch := omega) only [e_gR, e_gI, e_aI, e_aL, e_oO, e_pI, e_wI, e_wL, Option.map_some, mS_sL, mR_sL, mI_sL, mS_sI, mR_sI, mL_sI, n_cl, cob_1 hC, h8, ht.1]; with_reducible rfl)) | rw [nm_eq] | rw [ckZ_n1] | rw [ckZ_n0])
    refine WP.ie (by rw [n_le (by omega) (by omega)]; omega) ?_
    repeat (first | ((with_reducible apply WP.ce); case h => (simp (disch := omega) only []; with_reducible rfl)) | ((with_reducible apply WP.bd); case h => (simp (disch := omega) only [e_gR, e_gI, e_aI, e_aL, e_oO, e_pI, e_wI, e_wL, Option.map_some, mS_sL, mR_sL, mI_sL, mS_sI, mR_sI, mL_sI, n_cl, cob_1 hC, cr_bytes hC, h8, cx_bytes hC, v]; with_reducible rfl)) | rw [nm_eq] | rw [ckZ_n1] | rw [ckZ_n0])
    refine WP.ie (by rw [n_lt (by omega) (by decide)]; omega) ?_
    repeat (first | ((with_reducible apply WP.ce); case h => (simp (disch := omega) only []; with_reducible rfl)) | ((with_reducible apply WP.bd); case h => (simp (disch := omega) only [e_gR, e_gI, e_aI, e_aL, e_oO, e_pI, e_wI, e_wL, Option.map_some, mS_sL, mR_sL, mI_sL, mS_sI, mR_sI, mL_sI, n_cl, cob_1 hC, cr_bytes hC, h8, cx_bytes hC, v]; with_reducible rfl)) | rw [nm_eq] | rw [ckZ_n1] | rw [ckZ_n0])
    refine WP.ie (by rw [n_lt (by decide) (by omega)]; omega) ?_
    obtain ⟨M1, hM1⟩ : ∃ M1, M1 = sI M 1 3 (nI 1) := ⟨_, rfl⟩
    have f1 : FTk M M1 := by rw [hM1]; exact FTk.i M (by decide) _
    have hC1 := f1.CI hC
    have t1 := f1.tp ht
    have v1 := t1.2 q (by omega)
    have a3 : mI M1 1 3 = nI 1 := by rw [hM1, mI_s1, if_pos rfl]
    have a4 : mI M1 1 4 = nI s := by rw [hM1, mI_s1, if_neg (by decide)]; exact h00
    have a5 : mI M1 1 5 = nI (if q - s ≤ 5 then dvl t s (q - s) else 100000) := by rw [hM1, mI_s1, if_neg (by decide)]; exact h5
    have a7 : mI M1 1 7 = -1 := by rw [hM1, mI_s1, if_neg (by decide)]; exact h7
    have a8 : mI M1 1 8 = nI q := by rw [hM1, mI_s1, if_neg (by decide)]; exact h8
    have a6 : mL M1 1 6 = 0 := by rw [hM1]; exact h6
    repeat (first | ((with_reducible apply WP.ce); case h => (simp (disch := omega) only []; with_reducible rfl)) | ((with_reducible apply WP.bd); case h => (simp (disch := omega) only [e_gR, e_gI, e_aI, e_aL, e_oO, e_pI, e_wI, e_wL, Option.map_some, mS_sL, mR_sL, mI_sL, mS_sI, mR_sI, mL_sI, n_cl, cob_1 hC, ← hM1]; with_reducible rfl)) | rw [nm_eq] | rw [ckZ_n1] | rw [ckZ_n0])
    repeat (first | ((with_reducible apply WP.ce); case h => (simp (disch := omega) only []; with_reducible rfl)) | ((with_reducible apply WP.bd); case h => (simp (disch := omega) only [e_gR, e_gI, e_aI, e_aL, e_oO, e_pI, e_wI, e_wL, Option.map_some, mS_sL, mR_sL, mI_sL, mS_sI, mR_sI, mL_sI, n_cl, cob_1 hC1, a8, a4]; with_reducible rfl)) | rw [nm_eq] | rw [ckZ_n1] | rw [ckZ_n0])
    rw [n_sub hsq]
    have on : ∀ w, w = nI (if q + 1 - s ≤ 5 then dvl t s (q + 1 - s) else 100000) → WP (f_X7_next_J149 (f_X7_next_L66 1 (f + d + 1)) 1 w (some 1) M1) (fun _ M' => FTk M M' ∧ TK M' t p) := by
      intro w hw
      obtain ⟨M2, hM2⟩ : ∃ M2, M2 = sI M1 1 5 w := ⟨_, rfl⟩
      have f2 : FTk M M2 := f1.tr (by rw [hM2]; exact FTk.i M1 (by decide) _)
      have hC2 := f2.CI hC
      have b8 : mI M2 1 8 = nI q := by rw [hM2, mI_s1, if_neg (by decide)]; exact a8
      unfold f_X7_next_J149
      repeat (first | ((with_reducible apply WP.ce); case h => (simp (disch := omega) only []; with_reducible rfl)) | ((with_reducible apply WP.bd); case h => (simp (disch := omega) only [e_gR, e_gI, e_aI, e_aL, e_oO, e_pI, e_wI, e_wL, Option.map_some, mS_sL, mR_sL, mI_sL, mS_sI, mR_sI, mL_sI, n_cl, cob_1 hC1, ← hM2]; with_reducible rfl)) | rw [nm_eq] | rw [ckZ_n1] | rw [ckZ_n0])
      repeat (first | ((with_reducible apply WP.ce); case h => (simp (disch := omega) only []; with_reducible rfl)) | ((with_reducible apply WP.bd); case h => (simp (disch := omega) only [e_gR, e_gI, e_aI, e_aL, e_oO, e_pI, e_wI, e_wL, Option.map_some, mS_sL, mR_sL, mI_sL, mS_sI, mR_sI, mL_sI, n_cl, cob_1 hC2, b8, n_add]; with_reducible rfl)) | rw [nm_eq] | rw [ckZ_n1] | rw [ckZ_n0])
      have f3 := f2.tr (FTk.i M2 (k := 8) (by decide) (nI (q + 1)))
      refine WP.mono (ih (q + 1) f _ (by omega) (by omega) (f3.CI hC) (f3.tp ht) ?_ ?_ ?_ ?_ ?_ ?_) (fun _ M' c => ⟨f3.tr c.1, c.2⟩)
      · rw [mI_s1, if_neg (by decide), if_neg (by omega), hM2, mI_s1, if_neg (by decide)]; exact a3
      · rw [mI_s1, if_pos rfl]
      · rw [mI_s1, if_neg (by decide), hM2, mI_s1, if_neg (by decide)]; exact a7
      · rw [mI_s1, if_neg (by decide), hM2, mI_s1, if_neg (by decide)]; exact a4
      · rw [mI_s1, if_neg (by decide), hM2, mI_s1, if_pos rfl]; exact hw
      · rw [mL_sI, hM2, mL_sI]; exact a6
    by_cases h7k : 5 ≤ q - s
    · refine WP.it (by rw [n_le (by decide) (by omega)]; exact h7k) (on _ ?_)
      rw [if_neg (by omega)]
    · refine WP.ie (by rw [n_le (by decide) (by omega)]; exact h7k) ?_
      rw [if_pos (by omega)] at a5
      repeat (first | ((with_reducible apply WP.ce); case h => (simp (disch := omega) only []; with_reducible rfl)) | ((with_reducible apply WP.bd); case h => (simp (disch := omega) only [e_gR, e_gI, e_aI, e_aL, e_oO, e_pI, e_wI, e_wL, Option.map_some, mS_sL, mR_sL, mI_sL, mS_sI, mR_sI, mL_sI, n_cl, cob_1 hC1, a5, cr_bytes hC1, a8, cx_bytes hC1, v1]; with_reducible rfl)) | rw [nm_eq] | rw [ckZ_n1] | rw [ckZ_n0])
      refine on _ ?_
      rw [n_mul, n_add, n_sub (by omega), if_pos (by omega), show q + 1 - s = (q - s) + 1 by omega, dvl, show s + (q - s) = q by omega]
      congr 1
      omega
theorem c_next (hC : CIs (mS M) (mR M)) (ht : CTp M t) (h4 : TOk2 t) {p : Nat} (hp : p ≤ t.1) (h8 : mI M 1 8 = nI p) : WP (f_X7_next 1 M) (fun _ M' => FTk M M' ∧ TK M' t p) := by
  have hL := h4.1
  have hbl := ru_le isBl t hp
  have hbg := ru_ge isBl t p
  have j38 : ∀ (N : Mem), CIs (mS N) (mR N) → CTp N t → mI N 1 8 = nI (bk t p) → WP (f_X7_next_J38 1 N) (fun _ M' => FTk N M' ∧ TK M' t p) := by
    intro N hN tN h8
    obtain ⟨M1, hM1⟩ : ∃ M1, M1 = sI N 1 3 (nI 0) := ⟨_, rfl⟩
    have f1 : FTk N M1 := by rw [hM1]; exact FTk.i N (by decide) _
    have hC1 := f1.CI hN
    have g8 : mI M1 1 8 = nI (bk t p) := by rw [hM1, mI_s1, if_neg (by decide)]; exact h8
    obtain ⟨M2, hM2⟩ : ∃ M2, M2 = sI (sI M1 1 4 (nI (bk t p))) 1 5 (nI 0) := ⟨_, rfl⟩
    have f2 : FTk N M2 := f1.tr (by rw [hM2]; exact (FTk.i M1 (by decide) _).tr (FTk.i _ (by decide) _))
    have hC2 := f2.CI hN
    obtain ⟨M3, hM3⟩ : ∃ M3, M3 = sL M2 1 6 0 := ⟨_, rfl⟩
    have f3 : FTk N M3 := f2.tr (by rw [hM3]; exact FTk.l M2 _ _)
    have hC3 := f3.CI hN
    have f4 : FTk N (sI M3 1 7 (-1)) := f3.tr (FTk.i M3 (by decide) _)
    unfold f_X7_next_J38
    repeat (first | ((with_reducible apply WP.ce); case h => (simp (disch := omega) only []; with_reducible rfl)) | ((with_reducible apply WP.bd); case h => (simp (disch := omega) only [e_gR, e_gI, e_aI, e_aL, e_oO, e_pI, e_wI, e_wL, Option.map_some, mS_sL, mR_sL, mI_sL, mS_sI, mR_sI, mL_sI, n_cl, cob_1 hN, ← hM1]; with_reducible rfl)) | rw [nm_eq] | rw [ckZ_n1] | rw [ckZ_n0])
    repeat (first | ((with_reducible apply WP.ce); case h => (simp (disch := omega) only []; with_reducible rfl)) | ((with_reducible apply WP.bd); case h => (simp (disch := omega) only [e_gR, e_gI, e_aI, e_aL, e_oO, e_pI, e_wI, e_wL, Option.map_some, mS_sL, mR_sL, mI_sL, mS_sI, mR_sI, mL_sI, n_cl, cob_1 hC1, g8, ← hM2]; with_reducible rfl)) | rw [nm_eq] | rw [ckZ_n1] | rw [ckZ_n0])
    repeat (first | ((with_reducible apply WP.ce); case h => (simp (disch := omega) only []; with_reducible rfl)) | ((with_reducible apply WP.bd); case h => (simp (disch := omega) only [e_gR, e_gI, e_aI, e_aL, e_oO, e_pI, e_wI, e_wL, Option.map_some, mS_sL, mR_sL, mI_sL, mS_sI, mR_sI, mL_sI, n_cl, e_pL, cob_1 hC2, ← hM3]; with_reducible rfl)) | rw [nm_eq] | rw [ckZ_n1] | rw [ckZ_n0])
    repeat (first | ((with_reducible apply WP.ce); case h => (simp (disch := omega) only []; with_reducible rfl)) | ((with_reducible apply WP.bd); case h => (simp (disch := omega) only [e_gR, e_gI, e_aI, e_aL, e_oO, e_pI, e_wI, e_wL, Option.map_some, mS_sL, mR_sL, mI_sL, mS_sI, mR_sI, mL_sI, n_cl, cob_1 hC3]; with_reducible rfl)) | rw [nm_eq] | rw [ckZ_n1] | rw [ckZ_n0])
    have hrl := ru_le isDg t (p := bk t p) hbl
    have hrg := ru_ge isDg t (bk t p)
    obtain ⟨f, hf⟩ := FUd (ru isDg t (bk t p) - bk t p) (by omega)
    rw [hf]
    refine WP.mono (c_nx1 h4 (p := p) rfl hbl (ru isDg t (bk t p) - bk t p) (bk t p) f _ (by omega) (Nat.le_refl _) (f4.CI hN) (f4.tp tN) ?_ ?_ ?_ ?_ ?_ ?_) (fun _ M' c => ⟨f4.tr c.1, c.2⟩)
    · rw [mI_s1, if_neg (by decide), if_pos rfl, hM3]
      show mI M2 1 3 = nI 0
      rw [hM2, mI_s1, if_neg (by decide), mI_s1, if_neg (by decide), hM1, mI_s1, if_pos rfl]
    · rw [mI_s1, if_neg (by decide), hM3]
      show mI M2 1 8 = _
      rw [hM2, mI_s1, if_neg (by decide), mI_s1, if_neg (by decide)]; exact g8
    · rw [mI_s1, if_pos rfl]
    · rw [mI_s1, if_neg (by decide), hM3]
      show mI M2 1 4 = _
      rw [hM2, mI_s1, if_neg (by decide), mI_s1, if_pos rfl]
    · rw [mI_s1, if_neg (by decide), hM3]
      show mI M2 1 5 = _
      rw [hM2, mI_s1, if_pos rfl, Nat.sub_self, if_pos (by decide)]; rfl
    · rw [mL_sI, hM3, mL_s1, if_pos rfl]
  have lp : ∀ d q f (N : Mem), q + d = bk t p → p ≤ q → CIs (mS N) (mR N) → CTp N t → mI N 1 8 = nI q → WP (f_X7_next_L0 1 (f + d + 1) N) (fun _ M' => FTk N M' ∧ TK M' t p) := by
    intro d
    induction d with
    | zero =>
      intro q f N hq hpq hN tN h8
      have hbk0 : bk t p ≤ t.1 := hbl
      have hq : q = bk t p := by omega
      have h8' : mI N 1 8 = nI (bk t p) := by rw [← hq]; exact h8
      rw [f_X7_next_L0]
      repeat (first | ((with_reducible apply WP.ce); case h => (simp (disch := omega) only []; with_reducible rfl)) | ((with_reducible apply WP.bd); case h => (simp (disch := omega) only [e_gR, e_gI, e_aI, e_aL, e_oO, e_pI, e_wI, e_wL, Option.map_some, mS_sL, mR_sL, mI_sL, mS_sI, mR_sI, mL_sI, n_cl, cob_1 hN, h8, tN.1]; with_reducible rfl)) | rw [nm_eq] | rw [ckZ_n1] | rw [ckZ_n0])
      by_cases hl : t.1 ≤ q
      · exact WP.it (by rw [n_le (by omega) (by omega)]; exact hl) (j38 N hN tN h8')
      · refine WP.ie (by rw [n_le (by omega) (by omega)]; exact hl) ?_
        have v := tN.2 q (by omega)
        have hy := h4.2 q
        have nb : isBl (t.2 q) = false := by rw [hq]; exact ru_stop isBl t (by show bk t p < t.1; omega)
        repeat (first | ((with_reducible apply WP.ce); case h => (simp (disch := omega) only []; with_reducible rfl)) | ((with_reducible apply WP.bd); case h => (simp (disch := omega) only [e_gR, e_gI, e_aI, e_aL, e_oO, e_pI, e_wI, e_wL, Option.map_some, mS_sL, mR_sL, mI_sL, mS_sI, mR_sI, mL_sI, n_cl, cob_1 hN, cr_bytes hN, h8, cx_bytes hN, v]; with_reducible rfl)) | rw [nm_eq] | rw [ckZ_n1] | rw [ckZ_n0])
        exact WP.ie (by rw [n_eq (by omega) (by decide)]; exact of_decide_eq_false nb) (j38 N hN tN h8')
    | succ d ih =>
      intro q f N hq hpq hN tN h8
      have hin := of_decide_eq_true (ru_in isBl t (p := p) (i := q) hpq (by show q < bk t p; omega))
      have hbk : bk t p ≤ t.1 := hbl
      have v := tN.2 q (by omega)
      rw [show f + (d + 1) + 1 = (f + d + 1) + 1 from by omega, f_X7_next_L0]
      repeat (first | ((with_reducible apply WP.ce); case h => (simp (disch := omega) only []; with_reducible rfl)) | ((with_reducible apply WP.bd); case h => (simp (disch := omega) only [e_gR, e_gI, e_aI, e_aL, e_oO, e_pI, e_wI, e_wL, Option.map_some, mS_sL, mR_sL, mI_sL, mS_sI, mR_sI, mL_sI, n_cl, cob_1 hN, h8, tN.1]; with_reducible rfl)) | rw [nm_eq] | rw [ckZ_n1] | rw [ckZ_n0])
      refine WP.ie (by rw [n_le (by omega) (by omega)]; omega) ?_
      repeat (first | ((with_reducible apply WP.ce); case h => (simp (disch := omega) only []; with_reducible rfl)) | ((with_reducible apply WP.bd); case h => (simp (disch := omega) only [e_gR, e_gI, e_aI, e_aL, e_oO, e_pI, e_wI, e_wL, Option.map_some, mS_sL, mR_sL, mI_sL, mS_sI, mR_sI, mL_sI, n_cl, cob_1 hN, cr_bytes hN, h8, cx_bytes hN, v]; with_reducible rfl)) | rw [nm_eq] | rw [ckZ_n1] | rw [ckZ_n0])
      refine WP.it (by rw [hin]) ?_
      repeat (first | ((with_reducible apply WP.ce); case h => (simp (disch := omega) only []; with_reducible rfl)) | ((with_reducible apply WP.bd); case h => (simp (disch := omega) only [e_gR, e_gI, e_aI, e_aL, e_oO, e_pI, e_wI, e_wL, Option.map_some, mS_sL, mR_sL, mI_sL, mS_sI, mR_sI, mL_sI, n_cl, cob_1 hN, h8, n_add]; with_reducible rfl)) | rw [nm_eq] | rw [ckZ_n1] | rw [ckZ_n0])
      have f1 := FTk.i N (k := 8) (by decide) (nI (q + 1))
      exact WP.mono (ih (q + 1) f _ (by omega) (by omega) (f1.CI hN) (f1.tp tN) (by rw [mI_s1, if_pos rfl])) (fun _ M' c => ⟨f1.tr c.1, c.2⟩)
  have hbk : bk t p ≤ t.1 := hbl
  obtain ⟨f, hf⟩ := FUd (bk t p - p) (by omega)
  rw [f_X7_next, hf]
  exact lp (bk t p - p) p f M (by have : p ≤ bk t p := hbg; omega) (Nat.le_refl p) hC ht h8
/-- the word that stands there -/
theorem lts_no {t : TP} {s : Nat} (h : ¬ (s < t.1 ∧ isLt (t.2 s) = true)) : lts t s = [] := by
  have : ru isLt t s = s := by
    by_cases h1 : s < t.1
    · refine ru_no h1 ?_
      cases hl : isLt (t.2 s) with
      | false => rfl
      | true => exact absurd ⟨h1, hl⟩ h
    · exact ru_end (by omega)
  unfold lts
  rw [this, Nat.sub_self]; rfl
theorem tw_eq (h4 : TOk2 t) (p : Nat) {w : List Nat} (hw : 0 < w.length ∧ w.length ≤ 7) (hy : ∀ i, i < w.length → 1 ≤ w.getD i 0 ∧ w.getD i 0 < 256) {c : Int64} (hc : c = lN (cdL w w.length)) (hcl : cdL w w.length < 2 ^ 63 ∧ 0 < cdL w w.length) : (tkW t p = c) = (lts t (bk t p) = w) := by
  rw [hc, eq_iff_iff]
  have z0 : (0 : Int64) = lN 0 := rfl
  unfold tkW
  by_cases hk : tkK t p = 2
  · rw [if_pos hk]
    have hlt : bk t p < t.1 ∧ isLt (t.2 (bk t p)) = true := by
      unfold tkK at hk
      by_cases h1 : t.1 ≤ bk t p
      · rw [if_pos h1] at hk; cases hk
      · rw [if_neg h1] at hk
        by_cases h2 : isDg (t.2 (bk t p)) = true
        · rw [if_pos h2] at hk; cases hk
        · rw [if_neg h2] at hk
          by_cases h3 : isLt (t.2 (bk t p)) = true
          · exact ⟨by omega, h3⟩
          · rw [if_neg h3] at hk; cases hk
    have hpos : ∀ i, i < ru isLt t (bk t p) - bk t p → 1 ≤ t.2 (bk t p + i) := fun i hi => by
      have := of_decide_eq_true (ru_in isLt t (p := bk t p) (i := bk t p + i) (by omega) (by omega))
      omega
    by_cases h7 : ru isLt t (bk t p) - bk t p ≤ 7
    · rw [if_pos h7]
      have hl := cdk_lt h4 (bk t p) (ru isLt t (bk t p) - bk t p)
      have hp7 : 256 ^ (ru isLt t (bk t p) - bk t p) ≤ 256 ^ 7 := Nat.pow_le_pow_right (by decide) h7
      have h63 : (256 : Nat) ^ 7 < 2 ^ 63 := by decide
      rw [lN_inj (by omega) hcl.1]
      constructor
      · intro e
        obtain ⟨e1, e2⟩ := cd_inj h4 _ _ hpos hy e
        apply List.ext_getElem?
        intro j
        by_cases hj : j < w.length
        · have h1 : j < (lts t (bk t p)).length := by rw [lts_len]; omega
          have h2 := lts_at t (bk t p) (i := j) (by omega)
          rw [List.getD_eq_getElem?_getD, List.getElem?_eq_getElem h1] at h2
          have h3 := e2 j (by omega)
          rw [List.getD_eq_getElem?_getD, List.getElem?_eq_getElem hj] at h3
          rw [List.getElem?_eq_getElem h1, List.getElem?_eq_getElem hj]
          congr 1
          have h2 : (lts t (bk t p))[j] = t.2 (bk t p + j) := h2
          have h3 : t.2 (bk t p + j) = w[j] := h3
          rw [h2, h3]
        · rw [List.getElem?_eq_none (by rw [lts_len]; omega), List.getElem?_eq_none (by omega)]
      · intro e
        have hlen : ru isLt t (bk t p) - bk t p = w.length := by rw [← lts_len, e]
        have : ∀ k, k ≤ w.length → cdk t (bk t p) k = cdL w k := by
          intro k
          induction k with
          | zero => intro _; rfl
          | succ k ih =>
            intro hk2
            rw [cdk, cdL, ih (by omega), ← lts_at t (bk t p) (by omega), e]
        rw [hlen]
        exact this _ (Nat.le_refl _)
    · rw [if_neg h7, z0, lN_inj (by decide) hcl.1]
      constructor
      · intro e; omega
      · intro e
        have hlen : ru isLt t (bk t p) - bk t p = w.length := by rw [← lts_len, e]
        omega
  · rw [if_neg hk, z0, lN_inj (by decide) hcl.1]
    constructor
    · intro e; omega
    · intro e
      exfalso
      have hlen : 0 < (lts t (bk t p)).length := by rw [e]; exact hw.1
      have hh : bk t p < t.1 ∧ isLt (t.2 (bk t p)) = true := by
        by_cases h : bk t p < t.1 ∧ isLt (t.2 (bk t p)) = true
        · exact h
        · rw [lts_no h] at hlen; cases hlen
      apply hk
      unfold tkK
      have nd : ¬ isDg (t.2 (bk t p)) = true := fun z => by
        have a1 := of_decide_eq_true z
        have a2 := of_decide_eq_true hh.2
        omega
      rw [if_neg (by omega), if_neg nd, if_pos hh.2]
end CNX
