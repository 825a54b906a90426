/-! THE CLASS: books copied -/
theorem c_toldCopy {M : Mem} {p q : Nat} (hp : ITold (mS M) (mR M) p) (hq : ITold (mS M) (mR M) q) (hd : p + 5 < q ∨ q + 5 < p) (h0 : ∃ b : Bool, mI M p 0 = bI b) : WP (f_X8_copyFrom q (some p) M) (fun _ M' => (mS M' = mS M ∧ mR M' = mR M) ∧ (∀ a, a < q ∨ q + 5 < a → mI M' a = mI M a) ∧ (∀ k, k < 5 → mI M' q k = mI M p k) ∧ (∀ i, i < 24 → mI M' (q + 1) i = mI M (p + 1) i) ∧ (∀ i, i < 5 → mI M' (q + 2) i = mI M (p + 2) i) ∧ (∀ i, i < 5 → mI M' (q + 3) i = mI M (p + 3) i) ∧ (∀ i, i < 5 → mI M' (q + 4) i = mI M (p + 4) i) ∧ (∀ i, i < 32 → mI M' (q + 5) i = mI M (p + 5) i)) := by
  obtain ⟨b, hb⟩ := h0
  obtain ⟨M1, hM1⟩ : ∃ M1, M1 = sI M q 0 (bI b) := ⟨_, rfl⟩
  have s1 : mS M1 = mS M := by rw [hM1]; rfl
  have t1 : mR M1 = mR M := by rw [hM1]; rfl
  have i1 : ∀ a, a ≠ q → mI M1 a = mI M a := fun a h => by rw [hM1, sI_row h]
  have p1 : ITold (mS M1) (mR M1) p := by rw [s1, t1]; exact hp
  have q1 : ITold (mS M1) (mR M1) q := by rw [s1, t1]; exact hq
  obtain ⟨M2, hM2⟩ : ∃ M2, M2 = sI M1 q 1 (mI M p 1) := ⟨_, rfl⟩
  have s2 : mS M2 = mS M := by rw [hM2]; exact s1
  have t2 : mR M2 = mR M := by rw [hM2]; exact t1
  have i2 : ∀ a, a ≠ q → mI M2 a = mI M a := fun a h => by rw [hM2, sI_row h, i1 a h]
  have p2 : ITold (mS M2) (mR M2) p := by rw [s2, t2]; exact hp
  have q2 : ITold (mS M2) (mR M2) q := by rw [s2, t2]; exact hq
  obtain ⟨M3, hM3⟩ : ∃ M3, M3 = sI M2 q 2 (mI M p 2) := ⟨_, rfl⟩
  have s3 : mS M3 = mS M := by rw [hM3]; exact s2
  have t3 : mR M3 = mR M := by rw [hM3]; exact t2
  have i3 : ∀ a, a ≠ q → mI M3 a = mI M a := fun a h => by rw [hM3, sI_row h, i2 a h]
  have p3 : ITold (mS M3) (mR M3) p := by rw [s3, t3]; exact hp
  have q3 : ITold (mS M3) (mR M3) q := by rw [s3, t3]; exact hq
  obtain ⟨M4, hM4⟩ : ∃ M4, M4 = sI M3 q 3 (mI M p 3) := ⟨_, rfl⟩
  have s4 : mS M4 = mS M := by rw [hM4]; exact s3
  have t4 : mR M4 = mR M := by rw [hM4]; exact t3
  have i4 : ∀ a, a ≠ q → mI M4 a = mI M a := fun a h => by rw [hM4, sI_row h, i3 a h]
  have p4 : ITold (mS M4) (mR M4) p := by rw [s4, t4]; exact hp
  have q4 : ITold (mS M4) (mR M4) q := by rw [s4, t4]; exact hq
  obtain ⟨M5, hM5⟩ : ∃ M5, M5 = sI M4 q 4 (mI M p 4) := ⟨_, rfl⟩
  have s5 : mS M5 = mS M := by rw [hM5]; exact s4
  have t5 : mR M5 = mR M := by rw [hM5]; exact t4
  have i5 : ∀ a, a ≠ q → mI M5 a = mI M a := fun a h => by rw [hM5, sI_row h, i4 a h]
  have p5 : ITold (mS M5) (mR M5) p := by rw [s5, t5]; exact hp
  have q5 : ITold (mS M5) (mR M5) q := by rw [s5, t5]; exact hq
  have f5 : ∀ k, k < 5 → mI M5 q k = mI M p k := fun k hk => by
    rw [hM5, mI_sI]
    by_cases e4 : k = 4
    · rw [if_pos ⟨rfl, e4⟩, e4]
    · rw [if_neg (by omega), hM4, mI_sI]
      by_cases e3 : k = 3
      · rw [if_pos ⟨rfl, e3⟩, e3]
      · rw [if_neg (by omega), hM3, mI_sI]
        by_cases e2 : k = 2
        · rw [if_pos ⟨rfl, e2⟩, e2]
        · rw [if_neg (by omega), hM2, mI_sI]
          by_cases e1 : k = 1
          · rw [if_pos ⟨rfl, e1⟩, e1]
          · rw [if_neg (by omega), hM1, mI_sI, if_pos ⟨rfl, by omega⟩, show k = 0 by omega, hb]
  unfold f_X8_copyFrom
  repeat (first | ((with_reducible apply WP.ce); case h => (simp (disch := omega) only []; with_reducible rfl)) | ((with_reducible apply WP.bd); case h => (simp (disch := omega) only [e_gR, e_gI, e_aI, e_aL, e_oO, e_pI, e_wI, e_wL, Option.map_some, mS_sL, mR_sL, mI_sL, mS_sI, mR_sI, mL_sI, n_cl, told_o hp, hb]; with_reducible rfl)) | rw [nm_eq] | rw [ckZ_n1] | rw [ckZ_n0])
  rw [ckZ_b]
  repeat (first | ((with_reducible apply WP.ce); case h => (simp (disch := omega) only []; with_reducible rfl)) | ((with_reducible apply WP.bd); case h => (simp (disch := omega) only [e_gR, e_gI, e_aI, e_aL, e_oO, e_pI, e_wI, e_wL, Option.map_some, mS_sL, mR_sL, mI_sL, mS_sI, mR_sI, mL_sI, n_cl, told_o hq, ← hM1]; with_reducible rfl)) | rw [nm_eq] | rw [ckZ_n1] | rw [ckZ_n0])
  repeat (first | ((with_reducible apply WP.ce); case h => (simp (disch := omega) only []; with_reducible rfl)) | ((with_reducible apply WP.bd); case h => (simp (disch := omega) only [e_gR, e_gI, e_aI, e_aL, e_oO, e_pI, e_wI, e_wL, Option.map_some, mS_sL, mR_sL, mI_sL, mS_sI, mR_sI, mL_sI, n_cl, told_o p1, told_o q1, i1 p (by omega), ← hM2]; with_reducible rfl)) | rw [nm_eq] | rw [ckZ_n1] | rw [ckZ_n0])
  repeat (first | ((with_reducible apply WP.ce); case h => (simp (disch := omega) only []; with_reducible rfl)) | ((with_reducible apply WP.bd); case h => (simp (disch := omega) only [e_gR, e_gI, e_aI, e_aL, e_oO, e_pI, e_wI, e_wL, Option.map_some, mS_sL, mR_sL, mI_sL, mS_sI, mR_sI, mL_sI, n_cl, told_o p2, told_o q2, i2 p (by omega), ← hM3]; with_reducible rfl)) | rw [nm_eq] | rw [ckZ_n1] | rw [ckZ_n0])
  repeat (first | ((with_reducible apply WP.ce); case h => (simp (disch := omega) only []; with_reducible rfl)) | ((with_reducible apply WP.bd); case h => (simp (disch := omega) only [e_gR, e_gI, e_aI, e_aL, e_oO, e_pI, e_wI, e_wL, Option.map_some, mS_sL, mR_sL, mI_sL, mS_sI, mR_sI, mL_sI, n_cl, told_o p3, told_o q3, i3 p (by omega), ← hM4]; with_reducible rfl)) | rw [nm_eq] | rw [ckZ_n1] | rw [ckZ_n0])
  repeat (first | ((with_reducible apply WP.ce); case h => (simp (disch := omega) only []; with_reducible rfl)) | ((with_reducible apply WP.bd); case h => (simp (disch := omega) only [e_gR, e_gI, e_aI, e_aL, e_oO, e_pI, e_wI, e_wL, Option.map_some, mS_sL, mR_sL, mI_sL, mS_sI, mR_sI, mL_sI, n_cl, told_o p4, told_o q4, i4 p (by omega), ← hM5]; with_reducible rfl)) | rw [nm_eq] | rw [ckZ_n1] | rw [ckZ_n0])
  repeat (first | ((with_reducible apply WP.ce); case h => (simp (disch := omega) only []; with_reducible rfl)) | ((with_reducible apply WP.bd); case h => (simp (disch := omega) only [e_gR, e_gI, e_aI, e_aL, e_oO, e_pI, e_wI, e_wL, Option.map_some, mS_sL, mR_sL, mI_sL, mS_sI, mR_sI, mL_sI, n_cl, told_o p5, told_o q5, told_r_part p5, told_r_part q5, e_lnA, told_n_part q5]; with_reducible rfl)) | rw [nm_eq] | rw [ckZ_n1] | rw [ckZ_n0])
  have cp : ∀ (N : Mem) (x y n : Nat), lenOf (mS N) 0 x = n → lenOf (mS N) 0 y = n → 0 < n → n < 2 ^ 31 → cpy N (some x) (nI 0) (some y) (nI 0) (nI n) = some (sIr N y (va_cpy (mI N x) (mI N y) 0 0 n)) := fun N x y n h1 h2 h3 h4 => cpy_ok (l0 := n) (l1 := n) h1 h2 h3 h3 (by omega) (by omega) h4 h4
  refine WP.bd (cp M5 _ _ 24 (told_l_part p5) (told_l_part q5) (by decide) (by decide)) ?_
  obtain ⟨M6, hM6⟩ : ∃ M6, M6 = sIr M5 (q + 1) (va_cpy (mI M5 (p + 1)) (mI M5 (q + 1)) 0 0 24) := ⟨_, rfl⟩
  rw [← hM6]
  have s6 : mS M6 = mS M := by rw [hM6]; exact s5
  have t6 : mR M6 = mR M := by rw [hM6]; exact t5
  have i6 : ∀ a, a ≠ q + 1 → mI M6 a = mI M5 a := fun a h => by rw [hM6, mI_sIr_o _ _ h]
  have j6 : ∀ i, i < 24 → mI M6 (q + 1) i = mI M (p + 1) i := fun i hi => by rw [hM6, mI_sIr_s, va_cpy_z _ _ hi, i5 _ (by omega)]
  have p6 : ITold (mS M6) (mR M6) p := by rw [s6, t6]; exact hp
  have q6 : ITold (mS M6) (mR M6) q := by rw [s6, t6]; exact hq
  repeat (first | ((with_reducible apply WP.ce); case h => (simp (disch := omega) only []; with_reducible rfl)) | ((with_reducible apply WP.bd); case h => (simp (disch := omega) only [e_gR, e_gI, e_aI, e_aL, e_oO, e_pI, e_wI, e_wL, Option.map_some, mS_sL, mR_sL, mI_sL, mS_sI, mR_sI, mL_sI, n_cl, told_o p6, told_o q6, told_r_cargo p6, told_r_cargo q6]; with_reducible rfl)) | rw [nm_eq] | rw [ckZ_n1] | rw [ckZ_n0])
  refine WP.bd (cp M6 _ _ 5 (told_l_cargo p6) (told_l_cargo q6) (by decide) (by decide)) ?_
  obtain ⟨M7, hM7⟩ : ∃ M7, M7 = sIr M6 (q + 2) (va_cpy (mI M6 (p + 2)) (mI M6 (q + 2)) 0 0 5) := ⟨_, rfl⟩
  rw [← hM7]
  have s7 : mS M7 = mS M := by rw [hM7]; exact s6
  have t7 : mR M7 = mR M := by rw [hM7]; exact t6
  have i7 : ∀ a, a ≠ q + 2 → mI M7 a = mI M6 a := fun a h => by rw [hM7, mI_sIr_o _ _ h]
  have j7 : ∀ i, i < 5 → mI M7 (q + 2) i = mI M (p + 2) i := fun i hi => by rw [hM7, mI_sIr_s, va_cpy_z _ _ hi, i6 _ (by omega), i5 _ (by omega)]
  have p7 : ITold (mS M7) (mR M7) p := by rw [s7, t7]; exact hp
  have q7 : ITold (mS M7) (mR M7) q := by rw [s7, t7]; exact hq
  repeat (first | ((with_reducible apply WP.ce); case h => (simp (disch := omega) only []; with_reducible rfl)) | ((with_reducible apply WP.bd); case h => (simp (disch := omega) only [e_gR, e_gI, e_aI, e_aL, e_oO, e_pI, e_wI, e_wL, Option.map_some, mS_sL, mR_sL, mI_sL, mS_sI, mR_sI, mL_sI, n_cl, told_o p7, told_o q7, told_r_keeps p7, told_r_keeps q7]; with_reducible rfl)) | rw [nm_eq] | rw [ckZ_n1] | rw [ckZ_n0])
  refine WP.bd (cp M7 _ _ 5 (told_l_keeps p7) (told_l_keeps q7) (by decide) (by decide)) ?_
  obtain ⟨M8, hM8⟩ : ∃ M8, M8 = sIr M7 (q + 3) (va_cpy (mI M7 (p + 3)) (mI M7 (q + 3)) 0 0 5) := ⟨_, rfl⟩
  rw [← hM8]
  have s8 : mS M8 = mS M := by rw [hM8]; exact s7
  have t8 : mR M8 = mR M := by rw [hM8]; exact t7
  have i8 : ∀ a, a ≠ q + 3 → mI M8 a = mI M7 a := fun a h => by rw [hM8, mI_sIr_o _ _ h]
  have j8 : ∀ i, i < 5 → mI M8 (q + 3) i = mI M (p + 3) i := fun i hi => by rw [hM8, mI_sIr_s, va_cpy_z _ _ hi, i7 _ (by omega), i6 _ (by omega), i5 _ (by omega)]
  have p8 : ITold (mS M8) (mR M8) p := by rw [s8, t8]; exact hp
  have q8 : ITold (mS M8) (mR M8) q := by rw [s8, t8]; exact hq
  repeat (first | ((with_reducible apply WP.ce); case h => (simp (disch := omega) only []; with_reducible rfl)) | ((with_reducible apply WP.bd); case h => (simp (disch := omega) only [e_gR, e_gI, e_aI, e_aL, e_oO, e_pI, e_wI, e_wL, Option.map_some, mS_sL, mR_sL, mI_sL, mS_sI, mR_sI, mL_sI, n_cl, told_o p8, told_o q8, told_r_knows p8, told_r_knows q8]; with_reducible rfl)) | rw [nm_eq] | rw [ckZ_n1] | rw [ckZ_n0])
  refine WP.bd (cp M8 _ _ 5 (told_l_knows p8) (told_l_knows q8) (by decide) (by decide)) ?_
  obtain ⟨M9, hM9⟩ : ∃ M9, M9 = sIr M8 (q + 4) (va_cpy (mI M8 (p + 4)) (mI M8 (q + 4)) 0 0 5) := ⟨_, rfl⟩
  rw [← hM9]
  have s9 : mS M9 = mS M := by rw [hM9]; exact s8
  have t9 : mR M9 = mR M := by rw [hM9]; exact t8
  have i9 : ∀ a, a ≠ q + 4 → mI M9 a = mI M8 a := fun a h => by rw [hM9, mI_sIr_o _ _ h]
  have j9 : ∀ i, i < 5 → mI M9 (q + 4) i = mI M (p + 4) i := fun i hi => by rw [hM9, mI_sIr_s, va_cpy_z _ _ hi, i8 _ (by omega), i7 _ (by omega), i6 _ (by omega), i5 _ (by omega)]
  have p9 : ITold (mS M9) (mR M9) p := by rw [s9, t9]; exact hp
  have q9 : ITold (mS M9) (mR M9) q := by rw [s9, t9]; exact hq
  repeat (first | ((with_reducible apply WP.ce); case h => (simp (disch := omega) only []; with_reducible rfl)) | ((with_reducible apply WP.bd); case h => (simp (disch := omega) only [e_gR, e_gI, e_aI, e_aL, e_oO, e_pI, e_wI, e_wL, Option.map_some, mS_sL, mR_sL, mI_sL, mS_sI, mR_sI, mL_sI, n_cl, told_o p9, told_o q9, told_r_near p9, told_r_near q9, e_lnA, told_n_near q9]; with_reducible rfl)) | rw [nm_eq] | rw [ckZ_n1] | rw [ckZ_n0])
  refine WP.bd (cp M9 _ _ 32 (told_l_near p9) (told_l_near q9) (by decide) (by decide)) ?_
  refine WP.ret ⟨⟨s9, t9⟩, fun a ha => ?_, fun k hk => ?_, fun i hi => ?_, fun i hi => ?_, fun i hi => ?_, fun i hi => ?_, fun i hi => ?_⟩
  · rw [mI_sIr_o _ _ (by omega), i9 _ (by omega), i8 _ (by omega), i7 _ (by omega), i6 _ (by omega), i5 _ (by omega)]
  · rw [mI_sIr_o _ _ (by omega), i9 _ (by omega), i8 _ (by omega), i7 _ (by omega), i6 _ (by omega), f5 k hk]
  · rw [mI_sIr_o _ _ (by omega), i9 _ (by omega), i8 _ (by omega), i7 _ (by omega), j6 i hi]
  · rw [mI_sIr_o _ _ (by omega), i9 _ (by omega), i8 _ (by omega), j7 i hi]
  · rw [mI_sIr_o _ _ (by omega), i9 _ (by omega), j8 i hi]
  · rw [mI_sIr_o _ _ (by omega), j9 i hi]
  · rw [mI_sIr_s, va_cpy_z _ _ hi, i9 _ (by omega), i8 _ (by omega), i7 _ (by omega), i6 _ (by omega), i5 _ (by omega)]
theorem CBk.cg {M M' : Mem} {p q c : Nat} {B : BD} (hk : BOk c B) (h : CBk M p B) (e1 : ∀ k, k < 5 → mI M' (q + 1) k = mI M (p + 1) k) (e2 : ∀ i, i < 24 → mI M' (q + 2) i = mI M (p + 2) i) (e3 : ∀ i, i < 5 → mI M' (q + 3) i = mI M (p + 3) i) (e4 : ∀ i, i < 5 → mI M' (q + 4) i = mI M (p + 4) i) (e5 : ∀ i, i < 5 → mI M' (q + 5) i = mI M (p + 5) i) (e6 : ∀ i, i < 32 → mI M' (q + 6) i = mI M (p + 6) i)
    (e7 : mI M' (q + 7) 0 = mI M (p + 7) 0) (e8 : ∀ i, i < 8 → mI M' (q + 8) i = mI M (p + 8) i) (e9 : ∀ i, i < 5 → mI M' (q + 9) i = mI M (p + 9) i) (e10 : ∀ i, i < 5 → mI M' (q + 10) i = mI M (p + 10) i) (e11 : ∀ i, i < 10 → mI M' (q + 11) i = mI M (p + 11) i) (e12 : ∀ i, i < 10 → mI M' (q + 12) i = mI M (p + 12) i) (e13 : ∀ i, i < 10 → mI M' (q + 13) i = mI M (p + 13) i) (e14 : ∀ i, i < 380 → mI M' (q + 14) i = mI M (p + 14) i) (e0 : ∀ k, k = 5 ∨ k = 6 ∨ k = 7 ∨ k = 8 ∨ k = 10 → mI M' q k = mI M p k) : CBk M' q B := by
  obtain ⟨⟨⟨a0, a1, a2, a3, a4⟩, a5, a6, a7⟩, ⟨b0, b1, b2⟩, ⟨c0, c1⟩, ⟨d0, hd, d1, d2, d3⟩, f7, f8⟩ := h
  obtain ⟨⟨⟨-, -, k1, k2⟩, -⟩, -, -, ⟨k3, -⟩, ⟨k4, -⟩, -⟩ := hk
  refine ⟨⟨⟨(e1 0 (by decide)).trans a0, (e1 1 (by decide)).trans a1, (e1 2 (by decide)).trans a2, (e1 3 (by decide)).trans a3, (e1 4 (by decide)).trans a4⟩, fun i hi => (e2 i (by omega)).trans (a5 i hi), fun s hs => ⟨(e3 s (by omega)).trans (a6 s hs).1, (e4 s (by omega)).trans (a6 s hs).2.1, (e5 s (by omega)).trans (a6 s hs).2.2⟩, fun k q1 q2 j hj => (e6 _ (by omega)).trans (a7 k q1 q2 j hj)⟩, ⟨e7.trans b0, fun j hj => (e8 j (by omega)).trans (b1 j hj), fun s hs => ⟨(e9 s (by omega)).trans (b2 s hs).1, (e10 s (by omega)).trans (b2 s hs).2⟩⟩, ⟨(e0 5 (by omega)).trans c0, fun i hi => ⟨(e11 i (by omega)).trans (c1 i hi).1, (e12 i (by omega)).trans (c1 i hi).2.1, (e13 i (by omega)).trans (c1 i hi).2.2⟩⟩, ⟨(e0 6 (by omega)).trans d0, hd, d1, (e0 10 (by omega)).trans d2, fun i hi => ?_⟩, (e0 7 (by omega)).trans f7, (e0 8 (by omega)).trans f8⟩
  obtain ⟨q0, q1, q2⟩ := d3 i hi
  have hl : (hd + 20 - (bP B).1 + i) % 20 < 20 := Nat.mod_lt _ (by decide)
  exact ⟨(e14 _ (by omega)).trans q0, fun j hj => (e14 _ (by omega)).trans (q1 j hj), fun s hs => ⟨(e14 _ (by omega)).trans (q2 s hs).1, (e14 _ (by omega)).trans (q2 s hs).2⟩⟩
