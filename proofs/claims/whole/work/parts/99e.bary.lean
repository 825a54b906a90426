/-! THE REFERENCE: bar -/
variable {O : Mem}
def barB (T : TD) (B : BD) : BD := (T, bgS T, (0, (bN B).2), (0, (bP B).2), bX B, bF B)
def a_bar (G : GD) : Int32 × GD :=
  if (brL (zT G) 41 0 0 tdZ).1 = 0 then (nI (tN (brL (zT G) 41 0 0 tdZ).2), wT (wB G (barB (brL (zT G) 41 0 0 tdZ).2 (zB G))) (0, zY G))
  else ((-2 : Int32) - nI (brL (zT G) 41 0 0 tdZ).1, wT G (0, zY G))
theorem tdZ_ok : BT2 0 tdZ := ⟨⟨⟨by decide, by decide, by decide, by decide⟩, fun _ => (by decide : 0 < 10), fun _ => ⟨(by decide : 0 < 100), (by decide : 0 ≤ 60), (by decide : 0 < 256)⟩, fun _ _ => rfl⟩, fun z => absurd z (by decide)⟩
theorem BT2.T {T : TD} (h : BT2 1 T) : TOk T := by
  obtain ⟨⟨a, b, c, -⟩, d⟩ := h
  have d := d (by decide)
  exact ⟨a, fun z => by omega, fun _ => d.2, b, c⟩
section RBY
variable {M : Mem} {m : Nat} {t : TP} {G : GD}
theorem x_readsAll (h4 : TOk2 t) (hR : RIs (mS M) (mR M) m) (ht : RTp M m t) :
    WP (f_X10_readsAll m M) (fun _ M' => FBt m M M' ∧ mI M' m 17 = nI 0 ∧ mI M' m 19 = nI (brL t 41 0 0 tdZ).1 ∧ (brL t 41 0 0 tdZ).1 < 10000 ∧ ((brL t 41 0 0 tdZ).1 = 0 → NT M' m (brL t 41 0 0 tdZ).2 ∧ BT2 1 (brL t 41 0 0 tdZ).2)) := by
  obtain ⟨M1, hM1⟩ : ∃ M1, M1 = sI (sI (sI (sI (sI M m 18 (nI 0)) m 19 (nI 0)) m 22 (nI 0)) m 23 (nI 0)) m 24 (nI 0) := ⟨_, rfl⟩
  have a1 : f_X10_starts m M = some ((), M1) := by
    unfold f_X10_starts
    rw [hM1]
    repeat (first | ((with_reducible apply clt_t); case h => (simp (disch := omega) only [hR]; with_reducible rfl)) | ((with_reducible apply bnd_t); case h => (simp (disch := omega) only [e_gR, e_gI, e_aI, e_aL, e_oO, e_pI, e_wI, e_wL, Option.map_some, mS_sL, mR_sL, mI_sL, mS_sI, mR_sI, mL_sI, n_cl, ro_m hR]; with_reducible rfl)) | rw [nm_eq])
    rfl
  have r1 : ∀ a, a ≠ m → mI M1 a = mI M a := fun a ha => by rw [hM1, sI_row ha, sI_row ha, sI_row ha, sI_row ha, sI_row ha]
  have k1 : ∀ k, k = 17 ∨ k = 21 ∨ k = 26 ∨ k = 38 ∨ k = 42 → mI M1 m k = mI M m k := fun k hk => by rw [hM1, mI_sI, if_neg (by omega), mI_sI, if_neg (by omega), mI_sI, if_neg (by omega), mI_sI, if_neg (by omega), mI_sI, if_neg (by omega)]
  have g18 : mI M1 m 18 = nI 0 := by rw [hM1, mI_sI, if_neg (by omega), mI_sI, if_neg (by omega), mI_sI, if_neg (by omega), mI_sI, if_neg (by omega), mI_sI, if_pos ⟨rfl, rfl⟩]
  have g19 : mI M1 m 19 = nI 0 := by rw [hM1, mI_sI, if_neg (by omega), mI_sI, if_neg (by omega), mI_sI, if_neg (by omega), mI_sI, if_pos ⟨rfl, rfl⟩]
  have f1 : FBt m M M1 := ⟨by rw [hM1]; rfl, by rw [hM1]; rfl, fun a a1 _ => r1 a a1, fun k hk => k1 k (by omega)⟩
  have ri : ∀ {N : Mem}, FBt m M N → RIs (mS N) (mR N) m := fun f => by rw [f.1, f.2.1]; exact hR
  have lp2 : ∀ d k f (N : Mem), k + d = 5 → FBt m M N → mI N m = mI M1 m → mI N (m + 17) = mI M (m + 17) → (∀ i, i < 4 → mI N (m + 12) i = nI 0) → (∀ i, i < k → mI N (m + 16) i = nI 0) → WP (f_X10_readsAll_L26 m (f + d + 1) (nI k) N) (fun _ M' => FBt m M M' ∧ mI M' m 17 = nI 0 ∧ mI M' m 19 = nI (brL t 41 0 0 tdZ).1 ∧ (brL t 41 0 0 tdZ).1 < 10000 ∧ ((brL t 41 0 0 tdZ).1 = 0 → NT M' m (brL t 41 0 0 tdZ).2 ∧ BT2 1 (brL t 41 0 0 tdZ).2)) := by
    intro d
    induction d with
    | zero =>
      intro k f N hk fN em e17 h12 h16
      rw [f_X10_readsAll_L26]
      refine WP.it (by rw [n_le (by omega) (by omega)]; omega) ?_
      obtain ⟨f2, hf2⟩ := FUd 41 (by omega)
      rw [hf2]
      refine WP.mono (x_readL h4 41 0 0 f2 tdZ N rfl (by decide) tdZ_ok (Nat.zero_le _) (ri fN) ⟨by rw [em, k1 17 (by omega)]; exact ht.1, by rw [e17]; exact ht.2⟩ (by rw [em]; exact g18) (by rw [em]; exact g19) ?_) (fun _ M' c => ⟨fN.tr c.1, c.2⟩)
      exact ⟨⟨h12 0 (by decide), h12 1 (by decide), h12 2 (by decide), h12 3 (by decide)⟩, fun i hi => absurd hi (Nat.not_lt_zero i), fun i hi => absurd hi (Nat.not_lt_zero i), fun s hs => h16 s (by omega)⟩
    | succ d ih =>
      intro k f N hk fN em e17 h12 h16
      have hRN := ri fN
      rw [show f + (d + 1) + 1 = (f + d + 1) + 1 from by omega, f_X10_readsAll_L26]
      refine WP.ie (by rw [n_le (by omega) (by omega)]; omega) ?_
      repeat (first | ((with_reducible apply WP.ce); case h => (simp (disch := omega) only []; with_reducible rfl)) | ((with_reducible apply WP.bd); case h => (simp (disch := omega) only [e_gR, e_gI, e_aI, e_aL, e_oO, e_pI, e_wI, e_wL, Option.map_some, mS_sL, mR_sL, mI_sL, mS_sI, mR_sI, mL_sI, n_cl, ro_m hRN, rr_newKnows hRN, rx_newKnows hRN, rr_newCargo hRN, rx_newCargo hRN]; with_reducible rfl)) | rw [nm_eq] | rw [ckZ_n1] | rw [ckZ_n0])
      rw [n_add]
      refine ih (k + 1) f _ (by omega) (fN.tr ⟨rfl, rfl, fun a a1 a2 => by rw [sI_row (by omega), sI_row (by omega)], fun k hk => by rw [sI_row (by omega), sI_row (by omega)]⟩) (by rw [sI_row (by omega), sI_row (by omega)]; exact em) (by rw [sI_row (by omega), sI_row (by omega)]; exact e17) (fun i hi => by rw [sI_row (by omega), sI_row (by omega)]; exact h12 i hi) (fun i hi => ?_)
      rw [sI_row (by omega), mI_sI]
      by_cases e : i = k
      · rw [if_pos ⟨rfl, e⟩]
      · rw [if_neg (by omega)]; exact h16 i (by omega)
  have lp1 : ∀ d k f (N : Mem), k + d = 4 → FBt m M N → mI N m = mI M1 m → mI N (m + 17) = mI M (m + 17) → (∀ i, i < k → mI N (m + 12) i = nI 0) → WP (f_X10_readsAll_L6 m (f + d + 1) (nI k) N) (fun _ M' => FBt m M M' ∧ mI M' m 17 = nI 0 ∧ mI M' m 19 = nI (brL t 41 0 0 tdZ).1 ∧ (brL t 41 0 0 tdZ).1 < 10000 ∧ ((brL t 41 0 0 tdZ).1 = 0 → NT M' m (brL t 41 0 0 tdZ).2 ∧ BT2 1 (brL t 41 0 0 tdZ).2)) := by
    intro d
    induction d with
    | zero =>
      intro k f N hk fN em e17 h12
      rw [f_X10_readsAll_L6]
      refine WP.it (by rw [n_le (by omega) (by omega)]; omega) ?_
      obtain ⟨f2, hf2⟩ := FUd 5 (by omega)
      rw [hf2]
      exact lp2 5 0 f2 N rfl fN em e17 (fun i hi => h12 i (by omega)) (fun i hi => absurd hi (Nat.not_lt_zero i))
    | succ d ih =>
      intro k f N hk fN em e17 h12
      have hRN := ri fN
      rw [show f + (d + 1) + 1 = (f + d + 1) + 1 from by omega, f_X10_readsAll_L6]
      refine WP.ie (by rw [n_le (by omega) (by omega)]; omega) ?_
      repeat (first | ((with_reducible apply WP.ce); case h => (simp (disch := omega) only []; with_reducible rfl)) | ((with_reducible apply WP.bd); case h => (simp (disch := omega) only [e_gR, e_gI, e_aI, e_aL, e_oO, e_pI, e_wI, e_wL, Option.map_some, mS_sL, mR_sL, mI_sL, mS_sI, mR_sI, mL_sI, n_cl, ro_m hRN, rr_newScalar hRN, rx_newScalar hRN]; with_reducible rfl)) | rw [nm_eq] | rw [ckZ_n1] | rw [ckZ_n0])
      rw [n_add]
      refine ih (k + 1) f _ (by omega) (fN.tr ⟨rfl, rfl, fun a a1 a2 => by rw [sI_row (by omega)], fun k hk => by rw [sI_row (by omega)]⟩) (by rw [sI_row (by omega)]; exact em) (by rw [sI_row (by omega)]; exact e17) (fun i hi => ?_)
      rw [mI_sI]
      by_cases e : i = k
      · rw [if_pos ⟨rfl, e⟩]
      · rw [if_neg (by omega)]; exact h12 i (by omega)
  unfold f_X10_readsAll
  repeat (first | ((with_reducible apply WP.ce); case h => (simp (disch := omega) only [a1]; with_reducible rfl)) | ((with_reducible apply WP.bd); case h => (simp (disch := omega) only [e_gR, e_gI, e_aI, e_aL, e_oO, e_pI, e_wI, e_wL, Option.map_some, mS_sL, mR_sL, mI_sL, mS_sI, mR_sI, mL_sI, n_cl, ro_m hR]; with_reducible rfl)) | rw [nm_eq] | rw [ckZ_n1] | rw [ckZ_n0])
  obtain ⟨f, hf⟩ := FUd 4 (by omega)
  rw [hf]
  exact lp1 4 0 f M1 rfl f1 rfl (r1 _ (by omega)) (fun i hi => absurd hi (Nat.not_lt_zero i))
theorem x_bar (h : RG O m M G) (hk : GOk G) : WP (f_X10_bar m M) (fun v M' => v = (a_bar G).1 ∧ RG O m M' (a_bar G).2) := by
  have hR := h.1.1
  have h4 : TOk2 (zT G) := ⟨hk.2.1, hk.2.2.1⟩
  unfold f_X10_bar
  repeat (first | ((with_reducible apply WP.ce); case h => (simp (disch := omega) only []; with_reducible rfl)) | ((with_reducible apply WP.bd); case h => (simp (disch := omega) only [e_gR, e_gI, e_aI, e_aL, e_oO, e_pI, e_wI, e_wL, Option.map_some, mS_sL, mR_sL, mI_sL, mS_sI, mR_sI, mL_sI, n_cl, ro_m hR]; with_reducible rfl)) | rw [nm_eq] | rw [ckZ_n1] | rw [ckZ_n0])
  refine WP.cw (x_readsAll h4 hR h.2.2.2.1) (fun _ M1 c => ?_)
  obtain ⟨f1, e17, e19, l19, fin⟩ := c
  have hR1 : RIs (mS M1) (mR M1) m := by rw [f1.1, f1.2.1]; exact hR
  repeat (first | ((with_reducible apply WP.ce); case h => (simp (disch := omega) only []; with_reducible rfl)) | ((with_reducible apply WP.bd); case h => (simp (disch := omega) only [e_gR, e_gI, e_aI, e_aL, e_oO, e_pI, e_wI, e_wL, Option.map_some, mS_sL, mR_sL, mI_sL, mS_sI, mR_sI, mL_sI, n_cl, ro_m hR1, e19]; with_reducible rfl)) | rw [nm_eq] | rw [ckZ_n1] | rw [ckZ_n0])
  unfold a_bar
  obtain ⟨r, hr⟩ : ∃ r, r = brL (zT G) 41 0 0 tdZ := ⟨_, rfl⟩
  rw [← hr] at fin l19 e19 ⊢
  by_cases z : r.1 = 0
  · rw [if_pos z]
    refine WP.it (by rw [z]; decide) ?_
    obtain ⟨⟨⟨n0, n1, n2, n3⟩, nP, nC, nW⟩, hT⟩ := fin z
    obtain ⟨⟨⟨q1, q2, q3, q4⟩, -⟩, -⟩ := hT
    have row : ∀ N : Mem, N = N → True := fun _ _ => trivial
    have lp : ∀ d k f (N : Mem), k + d = 4 → (mS N = mS M1 ∧ mR N = mR M1) → (∀ a, a ≠ m + 1 → mI N a = mI M1 a) → (∀ i, 4 ≤ i → mI N (m + 1) i = mI M1 (m + 1) i) → (∀ i, i < k → mI N (m + 1) i = mI M1 (m + 12) i) → WP (f_X10_bar_L21 m (f + d + 1) (nI k) N) (fun v M' => v = nI (tN r.2) ∧ RG O m M' (wT (wB G (barB r.2 (zB G))) (0, zY G))) := by
      intro d
      induction d with
      | zero =>
        intro k f N hkd hS rows hi4 hlo
        have hRN : RIs (mS N) (mR N) m := by rw [hS.1, hS.2]; exact hR1
        rw [f_X10_bar_L21]
        refine WP.it (by rw [n_le (by omega) (by omega)]; omega) ?_
        obtain ⟨N1, hN1⟩ : ∃ N1, N1 = sI N (m + 1) 6 (nI 0) := ⟨_, rfl⟩
        have hR2 : RIs (mS N1) (mR N1) m := by rw [hN1]; exact hRN
        have a2 := r_copies (rl_newParts hR2) (fun i hi => rx_newParts hR2 hi) (fun i hi => rx_parts hR2 hi) (by omega : m + 13 ≠ m + 2) (by decide)
        obtain ⟨N2, hN2⟩ : ∃ N2, N2 = sIr N1 (m + 2) (cpR (mI N1 (m + 2)) (mI N1 (m + 13)) 0 24) := ⟨_, rfl⟩
        rw [← hN2] at a2
        have hR3 : RIs (mS N2) (mR N2) m := by rw [hN2]; exact hR2
        have a3 := r_copies (rl_newCargo hR3) (fun i hi => rx_newCargo hR3 hi) (fun i hi => rx_cargo hR3 hi) (by omega : m + 14 ≠ m + 3) (by decide)
        obtain ⟨N3, hN3⟩ : ∃ N3, N3 = sIr N2 (m + 3) (cpR (mI N2 (m + 3)) (mI N2 (m + 14)) 0 5) := ⟨_, rfl⟩
        rw [← hN3] at a3
        have hR4 : RIs (mS N3) (mR N3) m := by rw [hN3]; exact hR3
        have a4 := r_copies (rl_newKeeps hR4) (fun i hi => rx_newKeeps hR4 hi) (fun i hi => rx_keeps hR4 hi) (by omega : m + 15 ≠ m + 4) (by decide)
        obtain ⟨N4, hN4⟩ : ∃ N4, N4 = sIr N3 (m + 4) (cpR (mI N3 (m + 4)) (mI N3 (m + 15)) 0 5) := ⟨_, rfl⟩
        rw [← hN4] at a4
        have hR5 : RIs (mS N4) (mR N4) m := by rw [hN4]; exact hR4
        have a5 := r_copies (rl_newKnows hR5) (fun i hi => rx_newKnows hR5 hi) (fun i hi => rx_toldKnows hR5 hi) (by omega : m + 16 ≠ m + 11) (by decide)
        obtain ⟨N5, hN5⟩ : ∃ N5, N5 = sIr N4 (m + 11) (cpR (mI N4 (m + 11)) (mI N4 (m + 16)) 0 5) := ⟨_, rfl⟩
        rw [← hN5] at a5
        have hR6 : RIs (mS N5) (mR N5) m := by rw [hN5]; exact hR5
        have o1 : ∀ a, a ≠ m + 1 → mI N1 a = mI M1 a := fun a b1 => by rw [hN1, sI_row b1]; exact rows a b1
        have o2 : ∀ a, a ≠ m + 1 → a ≠ m + 2 → mI N2 a = mI M1 a := fun a b1 b2 => by rw [hN2, mI_sIr_o _ _ b2]; exact o1 a b1
        have o3 : ∀ a, a ≠ m + 1 → a ≠ m + 2 → a ≠ m + 3 → mI N3 a = mI M1 a := fun a b1 b2 b3 => by rw [hN3, mI_sIr_o _ _ b3]; exact o2 a b1 b2
        have o4 : ∀ a, a ≠ m + 1 → a ≠ m + 2 → a ≠ m + 3 → a ≠ m + 4 → mI N4 a = mI M1 a := fun a b1 b2 b3 b4 => by rw [hN4, mI_sIr_o _ _ b4]; exact o3 a b1 b2 b3
        have o5 : ∀ a, a ≠ m + 1 → a ≠ m + 2 → a ≠ m + 3 → a ≠ m + 4 → a ≠ m + 11 → mI N5 a = mI M1 a := fun a b1 b2 b3 b4 b5 => by rw [hN5, mI_sIr_o _ _ b5]; exact o4 a b1 b2 b3 b4
        have s5 : mS N5 = mS M1 ∧ mR N5 = mR M1 := ⟨by rw [hN5, hN4, hN3, hN2, hN1]; exact hS.1, by rw [hN5, hN4, hN3, hN2, hN1]; exact hS.2⟩
        have p1 : mI N5 (m + 1) = mI N1 (m + 1) := by rw [hN5, mI_sIr_o _ _ (by omega), hN4, mI_sIr_o _ _ (by omega), hN3, mI_sIr_o _ _ (by omega), hN2, mI_sIr_o _ _ (by omega)]
        have p2 : ∀ i, i < 24 → mI N5 (m + 2) i = mI M1 (m + 13) i := fun i hi => by rw [hN5, mI_sIr_o _ _ (by omega), hN4, mI_sIr_o _ _ (by omega), hN3, mI_sIr_o _ _ (by omega), hN2, mI_sIr_s, cpR_z _ _ hi, o1 _ (by omega)]
        have p3 : ∀ i, i < 5 → mI N5 (m + 3) i = mI M1 (m + 14) i := fun i hi => by rw [hN5, mI_sIr_o _ _ (by omega), hN4, mI_sIr_o _ _ (by omega), hN3, mI_sIr_s, cpR_z _ _ hi, o2 _ (by omega) (by omega)]
        have p4 : ∀ i, i < 5 → mI N5 (m + 4) i = mI M1 (m + 15) i := fun i hi => by rw [hN5, mI_sIr_o _ _ (by omega), hN4, mI_sIr_s, cpR_z _ _ hi, o3 _ (by omega) (by omega) (by omega)]
        have p11 : ∀ i, i < 5 → mI N5 (m + 11) i = mI M1 (m + 16) i := fun i hi => by rw [hN5, mI_sIr_s, cpR_z _ _ hi, o4 _ (by omega) (by omega) (by omega) (by omega)]
        have l1 : ∀ i, i < 4 → mI N5 (m + 1) i = mI M1 (m + 12) i := fun i hi => by rw [p1, hN1, mI_sI, if_neg (by omega)]; exact hlo i (by omega)
        have l6 : mI N5 (m + 1) 6 = nI 0 := by rw [p1, hN1, mI_sI, if_pos ⟨rfl, rfl⟩]
        have l7 : ∀ i, 7 ≤ i → mI N5 (m + 1) i = mI M1 (m + 1) i := fun i hi => by rw [p1, hN1, mI_sI, if_neg (by omega)]; exact hi4 i (by omega)
        repeat (first | ((with_reducible apply WP.ce); case h => (simp (disch := omega) only []; with_reducible rfl)) | ((with_reducible apply WP.bd); case h => (simp (disch := omega) only [e_gR, e_gI, e_aI, e_aL, e_oO, e_pI, e_wI, e_wL, Option.map_some, mS_sL, mR_sL, mI_sL, mS_sI, mR_sI, mL_sI, n_cl, ro_m hRN, rr_scalar hRN, rx_scalar hRN, ← hN1]; with_reducible rfl)) | rw [nm_eq] | rw [ckZ_n1] | rw [ckZ_n0])
        repeat (first | ((with_reducible apply WP.ce); case h => (simp (disch := omega) only [a2]; with_reducible rfl)) | ((with_reducible apply WP.bd); case h => (simp (disch := omega) only [e_gR, e_gI, e_aI, e_aL, e_oO, e_pI, e_wI, e_wL, Option.map_some, mS_sL, mR_sL, mI_sL, mS_sI, mR_sI, mL_sI, n_cl, ro_m hR2, rr_newParts hR2, rr_parts hR2]; with_reducible rfl)) | rw [nm_eq] | rw [ckZ_n1] | rw [ckZ_n0])
        repeat (first | ((with_reducible apply WP.ce); case h => (simp (disch := omega) only [a3]; with_reducible rfl)) | ((with_reducible apply WP.bd); case h => (simp (disch := omega) only [e_gR, e_gI, e_aI, e_aL, e_oO, e_pI, e_wI, e_wL, Option.map_some, mS_sL, mR_sL, mI_sL, mS_sI, mR_sI, mL_sI, n_cl, ro_m hR3, rr_newCargo hR3, rr_cargo hR3]; with_reducible rfl)) | rw [nm_eq] | rw [ckZ_n1] | rw [ckZ_n0])
        repeat (first | ((with_reducible apply WP.ce); case h => (simp (disch := omega) only [a4]; with_reducible rfl)) | ((with_reducible apply WP.bd); case h => (simp (disch := omega) only [e_gR, e_gI, e_aI, e_aL, e_oO, e_pI, e_wI, e_wL, Option.map_some, mS_sL, mR_sL, mI_sL, mS_sI, mR_sI, mL_sI, n_cl, ro_m hR4, rr_newKeeps hR4, rr_keeps hR4]; with_reducible rfl)) | rw [nm_eq] | rw [ckZ_n1] | rw [ckZ_n0])
        repeat (first | ((with_reducible apply WP.ce); case h => (simp (disch := omega) only [a5]; with_reducible rfl)) | ((with_reducible apply WP.bd); case h => (simp (disch := omega) only [e_gR, e_gI, e_aI, e_aL, e_oO, e_pI, e_wI, e_wL, Option.map_some, mS_sL, mR_sL, mI_sL, mS_sI, mR_sI, mL_sI, n_cl, ro_m hR5, rr_newKnows hR5, rr_toldKnows hR5]; with_reducible rfl)) | rw [nm_eq] | rw [ckZ_n1] | rw [ckZ_n0])
        repeat (first | ((with_reducible apply WP.ce); case h => (simp (disch := omega) only []; with_reducible rfl)) | ((with_reducible apply WP.bd); case h => (simp (disch := omega) only [e_gR, e_gI, e_aI, e_aL, e_oO, e_pI, e_wI, e_wL, Option.map_some, mS_sL, mR_sL, mI_sL, mS_sI, mR_sI, mL_sI, n_cl, ro_m hR6]; with_reducible rfl)) | rw [nm_eq] | rw [ckZ_n1] | rw [ckZ_n0])
        refine WP.cw (r_begins hR6) (fun _ N6 c6 => ?_)
        obtain ⟨⟨b1, b2, -⟩, b3, b4, b5, b6, b7, b8, b9⟩ := c6
        have hR7 : RIs (mS N6) (mR N6) m := by rw [b1, b2]; exact hR6
        have e3 : mI N6 (m + 1) 3 = nI (tN r.2) := by rw [b4 3 (by decide) (by decide), l1 3 (by decide)]; exact n3
        obtain ⟨N7, hN7⟩ : ∃ N7, N7 = sI N6 m 42 (nI 0) := ⟨_, rfl⟩
        have hR8 : RIs (mS N7) (mR N7) m := by rw [hN7]; exact hR7
        have u : ∀ a, a ≠ m → mI N7 a = mI N6 a := fun a ha => by rw [hN7, sI_row ha]
        have e37 : mI N7 (m + 1) 3 = nI (tN r.2) := by rw [u _ (by omega)]; exact e3
        repeat (first | ((with_reducible apply WP.ce); case h => (simp (disch := omega) only []; with_reducible rfl)) | ((with_reducible apply WP.bd); case h => (simp (disch := omega) only [e_gR, e_gI, e_aI, e_aL, e_oO, e_pI, e_wI, e_wL, Option.map_some, mS_sL, mR_sL, mI_sL, mS_sI, mR_sI, mL_sI, n_cl, ro_m hR7, ← hN7]; with_reducible rfl)) | rw [nm_eq] | rw [ckZ_n1] | rw [ckZ_n0])
        repeat (first | ((with_reducible apply WP.ce); case h => (simp (disch := omega) only []; with_reducible rfl)) | ((with_reducible apply WP.bd); case h => (simp (disch := omega) only [e_gR, e_gI, e_aI, e_aL, e_oO, e_pI, e_wI, e_wL, Option.map_some, mS_sL, mR_sL, mI_sL, mS_sI, mR_sI, mL_sI, n_cl, ro_m hR8, rr_scalar hR8, rx_scalar hR8, e37]; with_reducible rfl)) | rw [nm_eq] | rw [ckZ_n1] | rw [ckZ_n0])
        have all : ∀ a, a ≠ m → a ≠ m + 1 → a ≠ m + 2 → a ≠ m + 3 → a ≠ m + 4 → a ≠ m + 5 → a ≠ m + 6 → a ≠ m + 7 → a ≠ m + 11 → mI N7 a = mI M1 a := fun a a0 a1 a2 a3 a4 a5 a6 a7 a11 => by
          rw [u a a0, b3 a a1 a5 a6 a7]; exact o5 a a1 a2 a3 a4 a11
        have allM : ∀ a, a ≠ m → a ≠ m + 1 → a ≠ m + 2 → a ≠ m + 3 → a ≠ m + 4 → a ≠ m + 5 → a ≠ m + 6 → a ≠ m + 7 → a ≠ m + 11 → a < m + 12 ∨ m + 16 < a → mI N7 a = mI M a := fun a a0 a1 a2 a3 a4 a5 a6 a7 a11 ho => by
          rw [all a a0 a1 a2 a3 a4 a5 a6 a7 a11, f1.2.2.1 a a0 ho]
        have fld : ∀ k, k ≠ 42 → mI N7 m k = mI M1 m k := fun k hk2 => by
          rw [hN7, mI_sI, if_neg (by omega), b3 m (by omega) (by omega) (by omega) (by omega)]
          rw [o5 m (by omega) (by omega) (by omega) (by omega) (by omega)]
        have sc : ∀ i, i < 4 → mI N7 (m + 1) i = mI M1 (m + 12) i := fun i hi => by rw [u _ (by omega), b4 i (by omega) (by omega)]; exact l1 i hi
        have s7 : mS N7 = mS M ∧ mR N7 = mR M := ⟨by rw [hN7]; exact (b1.trans s5.1).trans f1.1, by rw [hN7]; exact (b2.trans s5.2).trans f1.2.1⟩
        obtain ⟨⟨-, h2, h3, ho⟩, hb, h5, -, h8⟩ := h
        refine WP.ret ⟨rfl, ⟨hR8, ?_, ?_, ho.up s7 (fun a ha => allM a (by omega) (by omega) (by omega) (by omega) (by omega) (by omega) (by omega) (by omega) (by omega) (by omega))⟩, ?_, h5.of (fun a a1 a2 => allM _ (by omega) (by omega) (by omega) (by omega) (by omega) (by omega) (by omega) (by omega) (by omega) (by omega)) ((fld 21 (by decide)).trans (f1.2.2.2 21 (by omega))), ⟨(fld 17 (by decide)).trans e17, fun i hi => absurd hi (Nat.not_lt_zero i)⟩, ?_⟩
        · exact ((fld 38 (by decide)).trans (f1.2.2.2 38 (by omega))).trans h2
        · exact ((fld 26 (by decide)).trans (f1.2.2.2 26 (by omega))).trans h3
        · refine ⟨⟨⟨(sc 0 (by decide)).trans n0, (sc 1 (by decide)).trans n1, (sc 2 (by decide)).trans n2, (sc 3 (by decide)).trans n3⟩, fun i hi => ?_, fun s hs => ⟨?_, ?_, ?_⟩⟩, ⟨⟨?_, ?_⟩, fun j hj => ?_, fun s hs => ⟨?_, ?_⟩⟩, ⟨?_, fun i hi => absurd hi (Nat.not_lt_zero i)⟩, ⟨?_, ?_⟩, ?_, fun i hi => absurd hi (Nat.not_lt_zero i)⟩
          · have hi : i < 3 * tJ r.2 := hi
            rw [u _ (by omega), b3 _ (by omega) (by omega) (by omega) (by omega), p2 i (by omega)]; exact nP i hi
          · have hs : s < tN r.2 := hs
            rw [u _ (by omega), b3 _ (by omega) (by omega) (by omega) (by omega), p3 s (by omega)]; exact (nC s hs).1
          · have hs : s < tN r.2 := hs
            rw [u _ (by omega), b3 _ (by omega) (by omega) (by omega) (by omega), p4 s (by omega)]; exact (nC s hs).2
          · have hs : s < tN r.2 := hs
            rw [u _ (by omega), b3 _ (by omega) (by omega) (by omega) (by omega), p11 s (by omega)]; exact nW s (by omega)
          · rw [u _ (by omega)]; exact b5
          · rw [u _ (by omega)]
            show _ = nI (ernA r.2 (bgS r.2))
            rw [bgS_ern]; exact b6
          · have hj : j < tJ r.2 := hj
            rw [u _ (by omega), b7 j (by omega)]; rfl
          · have hs : s < tN r.2 := hs
            rw [u _ (by omega), b8 s (by omega), p11 s (by omega)]; exact nW s (by omega)
          · have hs : s < tN r.2 := hs
            rw [u _ (by omega), b9 s (by omega)]; rfl
          · rw [u _ (by omega), b4 6 (by decide) (by decide)]; exact l6
          · rw [u _ (by omega), b4 7 (by decide) (by decide), l7 7 (by decide), f1.2.2.1 _ (by omega) (by omega)]; exact hb.2.2.2.1.1
          · rw [u _ (by omega), b4 8 (by decide) (by decide), l7 8 (by decide), f1.2.2.1 _ (by omega) (by omega)]; exact hb.2.2.2.1.2
          · rw [hN7, mI_sI, if_pos ⟨rfl, rfl⟩]; rfl
        · rw [allM (m + 36) (by omega) (by omega) (by omega) (by omega) (by omega) (by omega) (by omega) (by omega) (by omega) (by omega), allM (m + 35) (by omega) (by omega) (by omega) (by omega) (by omega) (by omega) (by omega) (by omega) (by omega) (by omega)]
          exact h8
      | succ d ih =>
        intro k f N hkd hS rows hi4 hlo
        have hRN : RIs (mS N) (mR N) m := by rw [hS.1, hS.2]; exact hR1
        rw [show f + (d + 1) + 1 = (f + d + 1) + 1 from by omega, f_X10_bar_L21]
        refine WP.ie (by rw [n_le (by omega) (by omega)]; omega) ?_
        repeat (first | ((with_reducible apply WP.ce); case h => (simp (disch := omega) only []; with_reducible rfl)) | ((with_reducible apply WP.bd); case h => (simp (disch := omega) only [e_gR, e_gI, e_aI, e_aL, e_oO, e_pI, e_wI, e_wL, Option.map_some, mS_sL, mR_sL, mI_sL, mS_sI, mR_sI, mL_sI, n_cl, ro_m hRN, rr_scalar hRN, rr_newScalar hRN, rx_newScalar hRN, rx_scalar hRN]; with_reducible rfl)) | rw [nm_eq] | rw [ckZ_n1] | rw [ckZ_n0])
        rw [n_add]
        refine ih (k + 1) f _ (by omega) hS (fun a ha => by rw [sI_row ha]; exact rows a ha) (fun i hi => by rw [mI_sI, if_neg (by omega)]; exact hi4 i hi) (fun i hi => ?_)
        rw [mI_sI]
        by_cases e : i = k
        · rw [if_pos ⟨rfl, e⟩, e, rows _ (by omega)]
        · rw [if_neg (by omega)]; exact hlo i (by omega)
    obtain ⟨f, hf⟩ := FUd 4 (by omega)
    rw [hf]
    exact lp 4 0 f M1 rfl ⟨rfl, rfl⟩ (fun _ _ => rfl) (fun _ _ => rfl) (fun i hi => absurd hi (Nat.not_lt_zero i))
  · rw [if_neg z]
    refine WP.ie (by rw [show (0 : Int32) = nI 0 from rfl, n_le (by omega) (by omega)]; omega) ?_
    repeat (first | ((with_reducible apply WP.ce); case h => (simp (disch := omega) only []; with_reducible rfl)) | ((with_reducible apply WP.bd); case h => (simp (disch := omega) only [e_gR, e_gI, e_aI, e_aL, e_oO, e_pI, e_wI, e_wL, Option.map_some, mS_sL, mR_sL, mI_sL, mS_sI, mR_sI, mL_sI, n_cl, ro_m hR1, e19]; with_reducible rfl)) | rw [nm_eq] | rw [ckZ_n1] | rw [ckZ_n0])
    refine WP.ret ⟨rfl, h.tp ⟨f1.1, f1.2.1⟩ (fun k hk2 => f1.2.2.2 k hk2) (fun a ha => f1.2.2.1 _ (by omega) (by omega)) (fun a ha => f1.2.2.1 a (by omega) (by omega)) ⟨e17, fun i hi => absurd hi (Nat.not_lt_zero i)⟩⟩
end RBY
