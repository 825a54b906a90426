/-! THE CLASS: bar -/
variable {O : Mem}
theorem near_eq {T : TD} {x k j : Nat} (hn : tJ T ≤ 8) (hx : x < 256) (hj : j < tJ T) (h : ∀ i, i < 8 → (x.testBit i = true ↔ ((j < tJ T ∧ i < tJ T) ∧ k ≤ alk T j i))) : x = bmk (fun i => decide (k ≤ alk T j i)) (tJ T) := by
  apply Nat.eq_of_testBit_eq
  intro i
  rw [bmk_bit]
  by_cases hi : i < 8
  · have h1 := h i hi
    rw [Bool.eq_iff_iff, h1, Bool.and_eq_true, decide_eq_true_iff, decide_eq_true_iff]
    exact ⟨fun z => ⟨z.1.2, z.2⟩, fun z => ⟨⟨hj, z.1⟩, z.2⟩⟩
  · rw [decide_eq_false (by omega), Bool.false_and]
    exact Nat.testBit_lt_two_pow (Nat.lt_of_lt_of_le hx (Nat.pow_le_pow_right (n := 2) (by decide) (by omega : 8 ≤ i)))
section CBV
variable {M : Mem} {G : GD}
theorem y_open (hC : CIs (mS M) (mR M)) {T : TD} (hR : CR M T) (hb : BT2 1 T) : WP (f_X2_open 14 (some 4) M) (fun _ M' => (mS M' = mS M ∧ mR M' = mR M) ∧ (∀ a, a < 14 ∨ 24 < a → mI M' a = mI M a) ∧ (∀ k, k ≠ 5 → k ≠ 6 → mI M' 14 k = mI M 14 k) ∧ (mI M' 14 5 = nI 0 ∧ mI M' 14 6 = nI 0) ∧ CT M' 15 T ∧ CC M' 21 T (bgS T)) := by
  have hI := ci_told4 hC
  have hB := ci_book hC
  have hT := hb.T
  have hF := (hb.2 (by decide)).1
  obtain ⟨⟨⟨b0, t0⟩, t1, t2, t3, t4⟩, p, q, w, nr⟩ := hR
  have h8 := hT.1.2.2.1
  have h5 := hT.1.2.2.2
  unfold f_X2_open
  repeat (first | ((with_reducible apply WP.ce); case h => (simp (disch := omega) only []; with_reducible rfl)) | ((with_reducible apply WP.bd); case h => (simp (disch := omega) only [e_gR, e_gI, e_aI, e_aL, e_oO, e_pI, e_wI, e_wL, Option.map_some, mS_sL, mR_sL, mI_sL, mS_sI, mR_sI, mL_sI, n_cl, book_o hB, book_r_told hB, Nat.reduceAdd, told_o (ci_told hC)]; with_reducible rfl)) | rw [nm_eq] | rw [ckZ_n1] | rw [ckZ_n0])
  refine WP.cw (c_toldCopy hI (ci_told hC) (by omega) ⟨b0, t0⟩) (fun _ M1 c => ?_)
  obtain ⟨⟨s1, r1⟩, o1, c0, c1, c2, c3, c4, c5⟩ := c
  have hC1 : CIs (mS M1) (mR M1) := by rw [s1, r1]; exact hC
  have hB1 := ci_book hC1
  obtain ⟨M2, hM2⟩ : ∃ M2, M2 = sI M1 15 0 (nI 1) := ⟨_, rfl⟩
  have hC2 : CIs (mS M2) (mR M2) := by rw [hM2]; exact hC1
  have hB2 := ci_book hC2
  have T2 : CT M2 15 T := by
    have row : ∀ a, a ≠ 15 → mI M2 a = mI M1 a := fun a ha => by rw [hM2, sI_row ha]
    have f : ∀ k, k ≠ 0 → mI M2 15 k = mI M1 15 k := fun k hk => by rw [hM2, mI_sI, if_neg (by omega)]
    refine ⟨⟨?_, ?_, ?_, ?_, ?_⟩, fun i hi => ?_, fun s hs => ⟨?_, ?_, ?_⟩, fun k k1 k2 j hj => ?_⟩
    · rw [hM2, mI_sI, if_pos ⟨rfl, rfl⟩, decide_eq_true hF]; rfl
    · rw [f 1 (by decide), c0 1 (by decide)]; exact t1
    · rw [f 2 (by decide), c0 2 (by decide)]; exact t2
    · rw [f 3 (by decide), c0 3 (by decide)]; exact t3
    · rw [f 4 (by decide), c0 4 (by decide)]; exact t4
    · rw [row (15 + 1) (by decide), c1 i (by omega)]; exact p i hi
    · rw [row (15 + 2) (by decide), c2 s (by omega)]; exact (q s hs).1
    · rw [row (15 + 3) (by decide), c3 s (by omega)]; exact (q s hs).2
    · rw [row (15 + 4) (by decide), c4 s (by omega)]; exact w s (by omega)
    · obtain ⟨x, x1, x2, x3⟩ := nr k k1 k2 j (by omega)
      rw [row (15 + 5) (by decide), c5 (8 * k + j) (by omega)]
      show mI M 9 (8 * k + j) = _
      rw [x1, near_eq h8 x2 hj x3]
  repeat (first | ((with_reducible apply WP.ce); case h => (simp (disch := omega) only []; with_reducible rfl)) | ((with_reducible apply WP.bd); case h => (simp (disch := omega) only [e_gR, e_gI, e_aI, e_aL, e_oO, e_pI, e_wI, e_wL, Option.map_some, mS_sL, mR_sL, mI_sL, mS_sI, mR_sI, mL_sI, n_cl, book_o hB1, book_r_told hB1, Nat.reduceAdd, told_o (ci_told hC1), ← hM2]; with_reducible rfl)) | rw [nm_eq] | rw [ckZ_n1] | rw [ckZ_n0])
  repeat (first | ((with_reducible apply WP.ce); case h => (simp (disch := omega) only []; with_reducible rfl)) | ((with_reducible apply WP.bd); case h => (simp (disch := omega) only [e_gR, e_gI, e_aI, e_aL, e_oO, e_pI, e_wI, e_wL, Option.map_some, mS_sL, mR_sL, mI_sL, mS_sI, mR_sI, mL_sI, n_cl, book_o hB2, book_r_scene hB2, book_r_told hB2, Nat.reduceAdd, scene_o (ci_scene hC2)]; with_reducible rfl)) | rw [nm_eq] | rw [ckZ_n1] | rw [ckZ_n0])
  refine WP.cw (c_begin hT (ci_told hC2) T2 (ci_scene hC2) (by decide)) (fun _ M3 c => ?_)
  obtain ⟨⟨s3, r3, o3, -⟩, cc3⟩ := c
  have hC3 : CIs (mS M3) (mR M3) := by rw [s3, r3]; exact hC2
  repeat (first | ((with_reducible apply WP.ce); case h => (simp (disch := omega) only []; with_reducible rfl)) | ((with_reducible apply WP.bd); case h => (simp (disch := omega) only [e_gR, e_gI, e_aI, e_aL, e_oO, e_pI, e_wI, e_wL, Option.map_some, mS_sL, mR_sL, mI_sL, mS_sI, mR_sI, mL_sI, n_cl, book_o (ci_book hC3)]; with_reducible rfl)) | rw [nm_eq] | rw [ckZ_n1] | rw [ckZ_n0])
  obtain ⟨M4, hM4⟩ : ∃ M4, M4 = sI (sI M3 14 5 (nI 0)) 14 6 (nI 0) := ⟨_, rfl⟩
  rw [← hM4]
  have o4 : ∀ a, a ≠ 14 → mI M4 a = mI M3 a := fun a ha => by rw [hM4, sI_row ha, sI_row ha]
  refine WP.ret ⟨⟨?_, ?_⟩, fun a ha => ?_, fun k k5 k6 => ?_, ⟨?_, ?_⟩, T2.of (fun i hi => ?_), cc3.of (fun i hi => o4 _ (by omega))⟩
  · rw [hM4]; show mS M3 = _; rw [s3, hM2]; exact s1
  · rw [hM4]; show mR M3 = _; rw [r3, hM2]; exact r1
  · rw [o4 a (by omega), o3 a (by omega) (by omega) (by omega) (by omega), hM2, sI_row (by omega)]; exact o1 a (by omega)
  · rw [hM4, mI_sI, if_neg (by omega), mI_sI, if_neg (by omega), o3 14 (by omega) (by omega) (by omega) (by omega), hM2, sI_row (by omega), o1 14 (by omega)]
  · rw [hM4, mI_sI, if_neg (by omega), mI_sI, if_pos ⟨rfl, rfl⟩]
  · rw [hM4, mI_sI, if_pos ⟨rfl, rfl⟩]
  · rw [o4 _ (by omega), o3 _ (by omega) (by omega) (by omega) (by omega)]
theorem y_bar (h : CG O M G) (hk : GOk G) : WP (f_X9_bar 0 M) (fun v M' => v = (a_bar G).1 ∧ CG O M' (a_bar G).2) := by
  have hC := h.1
  have h4 : TOk2 (zT G) := ⟨hk.2.1, hk.2.2.1⟩
  have ht : CTp M (zT G) := h.2.2.2.1
  unfold f_X9_bar
  repeat (first | ((with_reducible apply WP.ce); case h => (simp (disch := omega) only []; with_reducible rfl)) | ((with_reducible apply WP.bd); case h => (simp (disch := omega) only [e_gR, e_gI, e_aI, e_aL, e_oO, e_pI, e_wI, e_wL, Option.map_some, mS_sL, mR_sL, mI_sL, mS_sI, mR_sI, mL_sI, n_cl, cob_0 hC, cr_0_barReader hC, cob_3 hC]; with_reducible rfl)) | rw [nm_eq] | rw [ckZ_n1] | rw [ckZ_n0])
  refine WP.cw (y_read hC ht h4) (fun v M1 c => ?_)
  obtain ⟨f1, rfl, l1, fin⟩ := c
  have hC1 := f1.CI hC
  obtain ⟨M2, hM2⟩ : ∃ M2, M2 = sI M1 1 1 (nI 0) := ⟨_, rfl⟩
  have hC2 : CIs (mS M2) (mR M2) := by rw [hM2]; exact hC1
  repeat (first | ((with_reducible apply WP.ce); case h => (simp (disch := omega) only []; with_reducible rfl)) | ((with_reducible apply WP.bd); case h => (simp (disch := omega) only [e_gR, e_gI, e_aI, e_aL, e_oO, e_pI, e_wI, e_wL, Option.map_some, mS_sL, mR_sL, mI_sL, mS_sI, mR_sI, mL_sI, n_cl, cob_0 hC1, cr_0_tape hC1, cob_1 hC1, ← hM2]; with_reducible rfl)) | rw [nm_eq] | rw [ckZ_n1] | rw [ckZ_n0])
  unfold a_bar
  obtain ⟨r, hr⟩ : ∃ r, r = brL (zT G) 41 0 0 tdZ := ⟨_, rfl⟩
  rw [← hr] at fin l1 ⊢
  have s2 : mS M2 = mS M ∧ mR M2 = mR M := ⟨by rw [hM2]; exact f1.1, by rw [hM2]; exact f1.2.1⟩
  have o2 : ∀ a, a = 0 ∨ a = 2 ∨ a = 3 ∨ 9 < a → mI M2 a = mI M a := fun a ha => by rw [hM2, sI_row (by omega)]; exact f1.2.2.1 a ha
  have z2 : mI M2 1 1 = nI 0 := by rw [hM2, mI_sI, if_pos ⟨rfl, rfl⟩]
  have gen : ∀ (N : Mem) (B : BD), (mS N = mS M ∧ mR N = mR M) → (∀ a, a = 0 ∨ a = 2 ∨ a = 3 ∨ (9 < a ∧ a < 14) ∨ 24 < a → mI N a = mI M a) → mI N 1 1 = nI 0 → CBk N 14 B → CG O N (wT (wB G B) (0, zY G)) := by
    intro N B hS hI h11 hB
    obtain ⟨g1, g2, g3, g4, g5, g6, g7⟩ := h
    refine ⟨by rw [hS.1, hS.2]; exact g1, hB, ⟨g3.1, by rw [hI 0 (by omega)]; exact g3.2.1, fun i hi => ?_⟩, ⟨h11, fun i hi => absurd hi (Nat.not_lt_zero i)⟩, ⟨fun k hk => ?_, fun k k' a q1 q2 e1 e2 => g5.2 k k' a q1 q2 (by rw [← hS.2]; exact e1) (by rw [← hS.2]; exact e2)⟩, g6.of hS.1, g7.up (fun a a1 a2 => ⟨by rw [hS.1], by rw [hS.2], hI a (by omega)⟩)⟩
    · obtain ⟨a, ⟨a1, a2⟩, a3⟩ := g3.2.2 i hi
      exact ⟨a, ⟨by rw [hS.2]; exact a1, a2⟩, a3.of (fun i _ => by rw [hS.1]) (fun k => by rw [hS.2]) (hI a (by omega)) (hI (a + 1) (by omega))⟩
    · have := g5.1 k hk
      show (zM G k).elim (mR N 29 k = none) (fun B => ∃ a, (mR N 29 k = some a ∧ 103 ≤ a) ∧ IBook (mS N) (mR N) a ∧ CBk N a B)
      cases hi : zM G k with
      | none =>
        rw [hi] at this
        show mR N 29 k = none
        rw [hS.2]; exact this
      | some B2 =>
        rw [hi] at this
        obtain ⟨a, ⟨a1, a2⟩, a3, a4⟩ := this
        exact ⟨a, ⟨by rw [hS.2]; exact a1, a2⟩, by rw [hS.1, hS.2]; exact a3, a4.of (fun i _ => hI _ (by omega))⟩
  by_cases z : r.1 = 0
  · rw [if_pos z, z]
    refine WP.it rfl ?_
    obtain ⟨R, hb⟩ := fin z
    have R2 : CR M2 r.2 := R.of (fun a a1 a2 => by rw [hM2, sI_row (by omega)])
    repeat (first | ((with_reducible apply WP.ce); case h => (simp (disch := omega) only []; with_reducible rfl)) | ((with_reducible apply WP.bd); case h => (simp (disch := omega) only [e_gR, e_gI, e_aI, e_aL, e_oO, e_pI, e_wI, e_wL, Option.map_some, mS_sL, mR_sL, mI_sL, mS_sI, mR_sI, mL_sI, n_cl, cob_0 hC2, cr_0_book hC2, cr_0_barReader hC2, cob_3 hC2, cr_3_told hC2, book_o (ci_book hC2)]; with_reducible rfl)) | rw [nm_eq] | rw [ckZ_n1] | rw [ckZ_n0])
    refine WP.cw (y_open hC2 R2 hb) (fun _ M3 c => ?_)
    obtain ⟨⟨s3, r3⟩, o3, k3, ⟨e5, e6⟩, T3, C3⟩ := c
    have hC3 : CIs (mS M3) (mR M3) := by rw [s3, r3]; exact hC2
    have t4 : mI M3 15 4 = nI (tN r.2) := T3.1.2.2.2.2
    repeat (first | ((with_reducible apply WP.ce); case h => (simp (disch := omega) only []; with_reducible rfl)) | ((with_reducible apply WP.bd); case h => (simp (disch := omega) only [e_gR, e_gI, e_aI, e_aL, e_oO, e_pI, e_wI, e_wL, Option.map_some, mS_sL, mR_sL, mI_sL, mS_sI, mR_sI, mL_sI, n_cl, cob_0 hC3, cr_0_book hC3, book_o (ci_book hC3), book_r_told (ci_book hC3), Nat.reduceAdd, told_o (ci_told hC3), t4]; with_reducible rfl)) | rw [nm_eq] | rw [ckZ_n1] | rw [ckZ_n0])
    have e14 : ∀ k, k ≠ 5 → k ≠ 6 → mI M3 14 k = mI M 14 k := fun k a b => by rw [k3 k a b, o2 14 (by omega)]
    refine WP.ret ⟨rfl, gen M3 _ ⟨s3.trans s2.1, r3.trans s2.2⟩ (fun a ha => by rw [o3 a (by omega), o2 a (by omega)]) (by rw [o3 1 (by omega)]; exact z2) ⟨T3, C3, ⟨e5, fun i hi => absurd hi (Nat.not_lt_zero i)⟩, ⟨e6, ?_⟩, ?_, ?_⟩⟩
    · obtain ⟨-, hd, d1, d2, -⟩ := h.cp
      exact ⟨hd, d1, by rw [e14 10 (by decide) (by decide)]; exact d2, fun i hi => absurd hi (Nat.not_lt_zero i)⟩
    · rw [e14 7 (by decide) (by decide)]; exact h.2.1.2.2.2.2.1
    · rw [e14 8 (by decide) (by decide)]; exact h.2.1.2.2.2.2.2
  · rw [if_neg z]
    refine WP.ie (by rw [nIz (by omega)]; exact z) ?_
    exact WP.ret ⟨rfl, gen M2 (zB G) s2 (fun a ha => o2 a (by omega)) z2 (h.2.1.of (fun i hi => o2 _ (by omega)))⟩
end CBV
theorem a_bar_ok {G : GD} (hk : GOk G) (h : (brL (zT G) 41 0 0 tdZ).1 = 0 → BT2 1 (brL (zT G) 41 0 0 tdZ).2) : GOk (a_bar G).2 := by
  unfold a_bar
  by_cases z : (brL (zT G) 41 0 0 tdZ).1 = 0
  · rw [if_pos z]
    have hT := (h z).T
    refine ⟨⟨hT, bgS_ok hT, Nat.zero_le _, ⟨Nat.zero_le _, fun i hi => absurd hi (Nat.not_lt_zero i)⟩, ⟨Nat.zero_le _, fun i hi => absurd hi (Nat.not_lt_zero i)⟩, hk.1.2.2.2.2.2.1, hk.1.2.2.2.2.2.2⟩, Nat.zero_le _, hk.2.2.1, hk.2.2.2⟩
  · rw [if_neg z]
    exact ⟨hk.1, Nat.zero_le _, hk.2.2⟩
theorem brL_ok {t : TP} : ∀ d n p (T : TD), n + d = 41 → BT2 n T → (brL t d n p T).1 = 0 → BT2 1 (brL t d n p T).2 := by
  intro d
  induction d with
  | zero => intro n p T _ _ z; rw [brL] at z; exact absurd z (by show ¬ (1 = 0); decide)
  | succ d ih =>
    intro n p T hn hT z
    rw [brL] at z ⊢
    by_cases c : (brC t p T n).1 = 0
    · rw [if_pos c] at z ⊢
      have hT1 := brC_ok hT c
      by_cases s : tkG t (brC t p T n).2.1 = nI 59
      · rw [if_pos s] at z ⊢
        exact ih _ _ _ (by omega) hT1 z
      · rw [if_neg s] at z ⊢
        by_cases e : tkK t (brC t p T n).2.1 = 0
        · rw [if_pos e] at z ⊢
          exact ⟨hT1.1, fun _ => hT1.2 (by omega)⟩
        · rw [if_neg e] at z
          have z : 1 + 8 * bk t (brC t p T n).2.1 = 0 := z
          omega
    · rw [if_neg c] at z
      exact absurd z c
theorem a_bar_k {G : GD} (hk : GOk G) : GOk (a_bar G).2 := a_bar_ok hk (brL_ok 41 0 0 tdZ rfl tdZ_ok)
