/-! THE CLASS: a joke is added -/
/-- the table with the new joke n told against those before q -/
def PqT (T T' : TD) (n q k j i : Nat) : Prop := ((j < n ∧ i < n) ∧ k ≤ alk T j i) ∨ (j < q ∧ i = n ∧ k ≤ alk T' j n) ∨ (j = n ∧ i < q ∧ k ≤ alk T' i n)
section CJK
variable {M : Mem} {T : TD}
theorem c_addJoke (hC : CIs (mS M) (mR M)) (hT : CR M T) (hk : BTk T) (hn : tJ T < 8) {a b c : Nat} (ha : a < 10) (hb : b < 10) (hc : c < 10) : WP (f_X8_addJoke 4 (nI a) (nI b) (nI c) M) (fun _ M' => FR M M' ∧ CR M' (tdJ T a b c)) := by
  have hI := ci_told4 hC
  obtain ⟨⟨⟨b0, t0⟩, t1, t2, t3, t4⟩, p, q, w, nr⟩ := hT
  obtain ⟨n, en⟩ : ∃ n, n = tJ T := ⟨_, rfl⟩
  rw [← en] at hn t3 p
  obtain ⟨T', hT'⟩ : ∃ T', T' = tdJ T a b c := ⟨_, rfl⟩
  obtain ⟨N, hN⟩ : ∃ N, N = sI (sI (sI M 5 (3 * n) (nI a)) 5 (3 * n + 1) (nI b)) 5 (3 * n + 2) (nI c) := ⟨_, rfl⟩
  obtain ⟨N1, hN1⟩ : ∃ N1, N1 = sI N 4 3 (nI (n + 1)) := ⟨_, rfl⟩
  have fN : FR M N := by rw [hN]; exact ((FR.w M (by omega) _ _).tr (FR.w _ (by omega) _ _)).tr (FR.w _ (by omega) _ _)
  have f1 : FR M N1 := fN.tr (by rw [hN1]; exact FR.w N (by omega) _ _)
  have hIN := ci_told4 (fN.CI hC)
  have s3 : mI N 4 3 = nI n := by rw [hN, sI_row (by decide), sI_row (by decide), sI_row (by decide)]; exact t3
  have r1 : ∀ x, x ≠ 4 → x ≠ 5 → mI N1 x = mI M x := fun x h4 h5 => by rw [hN1, sI_row h4, hN, sI_row h5, sI_row h5, sI_row h5]
  have g1 : ∀ k, k ≠ 3 → mI N1 4 k = mI M 4 k := fun k hk => by rw [hN1, mI_sI, if_neg (by omega), hN, sI_row (by decide), sI_row (by decide), sI_row (by decide)]
  have g3 : mI N1 4 3 = nI (n + 1) := by rw [hN1, mI_sI, if_pos ⟨rfl, rfl⟩]
  have eP : ∀ i, tP T' i = fset (fset (fset (tP T) (3 * n) a) (3 * n + 1) b) (3 * n + 2) c i := fun i => by rw [hT', en]; rfl
  have hP : ∀ i, i < 3 * (n + 1) → mI N1 5 i = nI (tP T' i) := fun i hi => by
    rw [hN1, sI_row (by decide), hN, eP i, mI_sI]
    by_cases e2 : i = 3 * n + 2
    · rw [if_pos ⟨rfl, e2⟩, e2, fset_s]
    · rw [if_neg (fun z => e2 z.2), fset_o _ _ e2, mI_sI]
      by_cases e1 : i = 3 * n + 1
      · rw [if_pos ⟨rfl, e1⟩, e1, fset_s]
      · rw [if_neg (fun z => e1 z.2), fset_o _ _ e1, mI_sI]
        by_cases e0 : i = 3 * n
        · rw [if_pos ⟨rfl, e0⟩, e0, fset_s]
        · rw [if_neg (fun z => e0 z.2), fset_o _ _ e0]; exact p i (by omega)
  have hq : ∀ i, tP T' i < 10 := fun i => by
    rw [eP i]
    by_cases e2 : i = 3 * n + 2
    · rw [e2, fset_s]; exact hc
    · rw [fset_o _ _ e2]
      by_cases e1 : i = 3 * n + 1
      · rw [e1, fset_s]; exact hb
      · rw [fset_o _ _ e1]
        by_cases e0 : i = 3 * n
        · rw [e0, fset_s]; exact ha
        · rw [fset_o _ _ e0]; exact hk.2.1 i
  have fin : ∀ L : Mem, (mS L = mS N1 ∧ mR L = mR N1 ∧ mL L = mL N1) → (∀ x, x ≠ 9 → mI L x = mI N1 x) → NrP L (PqT T T' n (n + 1)) → FR M L ∧ CR L T' := by
    intro L hS rows hnr
    refine ⟨f1.tr ⟨hS.1, hS.2.1, fun a ha => rows a (by omega), hS.2.2⟩, ⟨⟨b0, ?_⟩, ?_, ?_, ?_, ?_⟩, ?_, ?_, ?_, hnr.of rfl (fun k j i k1 k2 hj hi => ?_)⟩
    · rw [rows 4 (by decide), g1 0 (by decide)]; exact t0
    · rw [rows 4 (by decide), g1 1 (by decide), hT']; exact t1
    · rw [rows 4 (by decide), g1 2 (by decide), hT']; exact t2
    · rw [rows 4 (by decide), g3, hT', en]; rfl
    · rw [rows 4 (by decide), g1 4 (by decide), hT']; exact t4
    · have e : tJ T' = n + 1 := by rw [hT', en]; rfl
      rw [e, rows 5 (by decide)]; exact hP
    · rw [rows 6 (by decide), rows 7 (by decide), r1 6 (by decide) (by decide), r1 7 (by decide) (by decide), hT']; exact q
    · rw [rows 8 (by decide), r1 8 (by decide) (by decide), hT']; exact w
    · have e : tJ T' = n + 1 := by rw [hT', en]; rfl
      have ea : j < n → i < n → alk T' j i = alk T j i := fun h1 h2 => by rw [hT']; exact alk_J (by omega) (by omega)
      rw [e]
      unfold PqT
      constructor
      · rintro (⟨⟨z1, z2⟩, z3⟩ | ⟨z1, z2, z3⟩ | ⟨z1, z2, z3⟩)
        · exact ⟨⟨by omega, by omega⟩, by rw [ea z1 z2]; exact z3⟩
        · exact ⟨⟨by omega, by omega⟩, by rw [z2]; exact z3⟩
        · exact ⟨⟨by omega, by omega⟩, by rw [z1, alk_sym]; exact z3⟩
      · rintro ⟨⟨z1, z2⟩, z3⟩
        by_cases ei : i = n
        · exact Or.inr (Or.inl ⟨z1, ei, by rw [ei] at z3; exact z3⟩)
        · by_cases ej : j = n
          · exact Or.inr (Or.inr ⟨ej, z2, by rw [ej, alk_sym] at z3; exact z3⟩)
          · exact Or.inl ⟨⟨by omega, by omega⟩, by rw [← ea (by omega) (by omega)]; exact z3⟩
  have ri : ∀ {L : Mem}, (mS L = mS N1 ∧ mR L = mR N1 ∧ mL L = mL N1) → ITold (mS L) (mR L) 4 := fun h => by rw [h.1, h.2.1]; exact ci_told4 (f1.CI hC)
  have inner : ∀ (K : Int32 → Int32 → Mem → Option (Unit × Mem)) (z A : Nat), z ≤ n → A = alk T' z n → (∀ L : Mem, (mS L = mS N1 ∧ mR L = mR N1 ∧ mL L = mL N1) → (∀ x, x ≠ 9 → mI L x = mI N1 x) → NrP L (PqT T T' n (z + 1)) → WP (K (nI n) (nI (z + 1)) L) (fun _ M' => FR M M' ∧ CR M' T')) →
      ∀ d l f (L : Mem), l + d = A + 1 → 1 ≤ l → (mS L = mS N1 ∧ mR L = mR N1 ∧ mL L = mL N1) → (∀ x, x ≠ 9 → mI L x = mI N1 x) → NrP L (fun k j i => PqT T T' n z k j i ∨ (k < l ∧ ((j = z ∧ i = n) ∨ (j = n ∧ i = z)))) → WP (f_X8_addJoke_L75 K 4 (f + d + 1) (nI n) (nI z) (nI A) (nI l) L) (fun _ M' => FR M M' ∧ CR M' T') := by
    intro K z A hz hA hK d
    have hA3 : A ≤ 3 := by rw [hA]; exact alk_le T' z n
    induction d with
    | zero =>
      intro l f L hl l1 hS rows hnr
      rw [f_X8_addJoke_L75]
      refine WP.it (by rw [n_lt (by omega) (by omega)]; omega) ?_
      rw [n_add]
      refine hK L hS rows (hnr.of rfl (fun k j i k1 k2 hj hi => ?_))
      unfold PqT
      constructor
      · rintro ((z1 | ⟨z1, z2, z3⟩ | ⟨z1, z2, z3⟩) | ⟨z1, ⟨z2, z3⟩ | ⟨z2, z3⟩⟩)
        · exact Or.inl z1
        · exact Or.inr (Or.inl ⟨by omega, z2, z3⟩)
        · exact Or.inr (Or.inr ⟨z1, by omega, z3⟩)
        · exact Or.inr (Or.inl ⟨by omega, z3, by rw [z2]; omega⟩)
        · exact Or.inr (Or.inr ⟨z2, by omega, by rw [z3]; omega⟩)
      · rintro (z1 | ⟨z1, z2, z3⟩ | ⟨z1, z2, z3⟩)
        · exact Or.inl (Or.inl z1)
        · by_cases e : j = z
          · exact Or.inr ⟨by rw [e] at z3; omega, Or.inl ⟨e, z2⟩⟩
          · exact Or.inl (Or.inr (Or.inl ⟨by omega, z2, z3⟩))
        · by_cases e : i = z
          · exact Or.inr ⟨by rw [e] at z3; omega, Or.inr ⟨z1, e⟩⟩
          · exact Or.inl (Or.inr (Or.inr ⟨z1, by omega, z3⟩))
    | succ d ih =>
      intro l f L hl l1 hS rows hnr
      have hIL := ri hS
      rw [show f + (d + 1) + 1 = (f + d + 1) + 1 from by omega, f_X8_addJoke_L75]
      refine WP.ie (by rw [n_lt (by omega) (by omega)]; omega) ?_
      obtain ⟨L1, hL1⟩ : ∃ L1, L1 = sI L 9 (8 * l + z) (mI L 9 (8 * l + z) ||| (nI 1 <<< (nI n &&& 31))) := ⟨_, rfl⟩
      have hIL1 : ITold (mS L1) (mR L1) 4 := by rw [hL1]; exact hIL
      repeat (first | ((with_reducible apply WP.ce); case h => (simp (disch := omega) only []; with_reducible rfl)) | ((with_reducible apply WP.bd); case h => (simp (disch := omega) only [e_gR, e_gI, e_aI, e_aL, e_oO, e_pI, e_wI, e_wL, Option.map_some, mS_sL, mR_sL, mI_sL, mS_sI, mR_sI, mL_sI, n_cl, told_o hIL, told_r_near hIL, told_x_near hIL, n_mul, n_add, Nat.reduceAdd, ← hL1]; with_reducible rfl)) | rw [nm_eq] | rw [ckZ_n1] | rw [ckZ_n0])
      repeat (first | ((with_reducible apply WP.ce); case h => (simp (disch := omega) only []; with_reducible rfl)) | ((with_reducible apply WP.bd); case h => (simp (disch := omega) only [e_gR, e_gI, e_aI, e_aL, e_oO, e_pI, e_wI, e_wL, Option.map_some, mS_sL, mR_sL, mI_sL, mS_sI, mR_sI, mL_sI, n_cl, told_o hIL1, told_r_near hIL1, told_x_near hIL1, n_mul, n_add, Nat.reduceAdd]; with_reducible rfl)) | rw [nm_eq] | rw [ckZ_n1] | rw [ckZ_n0])
      rw [n_add]
      have h1 := hnr.st (k := l) (j := z) (i := n) l1 (by omega) (by omega) hn
      rw [← hL1] at h1
      have h2 := h1.st (k := l) (j := n) (i := z) l1 (by omega) hn (by omega)
      refine ih (l + 1) f _ (by omega) (by omega) ⟨by rw [hL1]; exact hS.1, by rw [hL1]; exact hS.2.1, by rw [hL1]; exact hS.2.2⟩ (fun x hx => by rw [sI_row hx, hL1, sI_row hx]; exact rows x hx) (h2.of rfl (fun k j i k1 k2 hj hi => ?_))
      constructor
      · rintro (((z1 | ⟨z1, z2⟩) | ⟨z1, z2, z3⟩) | ⟨z1, z2, z3⟩)
        · exact Or.inl z1
        · exact Or.inr ⟨by omega, z2⟩
        · exact Or.inr ⟨by omega, Or.inl ⟨z2, z3⟩⟩
        · exact Or.inr ⟨by omega, Or.inr ⟨z2, z3⟩⟩
      · rintro (z1 | ⟨z1, z2⟩)
        · exact Or.inl (Or.inl (Or.inl z1))
        · by_cases e : k = l
          · rcases z2 with z2 | z2
            · exact Or.inl (Or.inr ⟨e, z2.1, z2.2⟩)
            · exact Or.inr ⟨e, z2.1, z2.2⟩
          · exact Or.inl (Or.inl (Or.inr ⟨by omega, z2⟩))
  have outer : ∀ d z f (L : Mem), z + d = n + 1 → (mS L = mS N1 ∧ mR L = mR N1 ∧ mL L = mL N1) → (∀ x, x ≠ 9 → mI L x = mI N1 x) → NrP L (PqT T T' n z) → WP (f_X8_addJoke_L53 4 (f + d + 1) (nI n) (nI z) L) (fun _ M' => FR M M' ∧ CR M' T') := by
    intro d
    induction d with
    | zero =>
      intro z f L hz hS rows hnr
      have hIL := ri hS
      have e3 : mI L 4 3 = nI (n + 1) := by rw [rows 4 (by decide)]; exact g3
      rw [f_X8_addJoke_L53]
      repeat (first | ((with_reducible apply WP.ce); case h => (simp (disch := omega) only []; with_reducible rfl)) | ((with_reducible apply WP.bd); case h => (simp (disch := omega) only [e_gR, e_gI, e_aI, e_aL, e_oO, e_pI, e_wI, e_wL, Option.map_some, mS_sL, mR_sL, mI_sL, mS_sI, mR_sI, mL_sI, n_cl, told_o hIL, e3]; with_reducible rfl)) | rw [nm_eq] | rw [ckZ_n1] | rw [ckZ_n0])
      refine WP.it (by rw [n_le (by omega) (by omega)]; omega) (WP.ret (fin L hS rows ?_))
      have : z = n + 1 := by omega
      rw [← this]; exact hnr
    | succ d ih =>
      intro z f L hz hS rows hnr
      have hIL := ri hS
      have e3 : mI L 4 3 = nI (n + 1) := by rw [rows 4 (by decide)]; exact g3
      rw [show f + (d + 1) + 1 = (f + d + 1) + 1 from by omega, f_X8_addJoke_L53]
      repeat (first | ((with_reducible apply WP.ce); case h => (simp (disch := omega) only []; with_reducible rfl)) | ((with_reducible apply WP.bd); case h => (simp (disch := omega) only [e_gR, e_gI, e_aI, e_aL, e_oO, e_pI, e_wI, e_wL, Option.map_some, mS_sL, mR_sL, mI_sL, mS_sI, mR_sI, mL_sI, n_cl, told_o hIL, e3]; with_reducible rfl)) | rw [nm_eq] | rw [ckZ_n1] | rw [ckZ_n0])
      refine WP.ie (by rw [n_le (by omega) (by omega)]; omega) ?_
      have a1 := c_alk hIL (n := n + 1) (P := tP T') (by omega) (fun i hi => by rw [rows 5 (by decide)]; exact hP i hi) hq (j := z) (i := n) (by omega) (by omega)
      have a1 : f_X8_partsAlike 4 (nI z) (nI n) L = some (nI (alk T' z n), L) := a1
      have hA3 := alk_le T' z n
      repeat (first | ((with_reducible apply WP.ce); case h => (simp (disch := omega) only [a1]; with_reducible rfl)) | ((with_reducible apply WP.bd); case h => (simp (disch := omega) only [e_gR, e_gI, e_aI, e_aL, e_oO, e_pI, e_wI, e_wL, Option.map_some, mS_sL, mR_sL, mI_sL, mS_sI, mR_sI, mL_sI, n_cl, told_o hIL]; with_reducible rfl)) | rw [nm_eq] | rw [ckZ_n1] | rw [ckZ_n0])
      obtain ⟨f2, hf2⟩ := FUd (alk T' z n) (by omega)
      rw [hf2]
      exact inner (f_X8_addJoke_L53 4 (f + d + 1)) z (alk T' z n) (by omega) rfl (fun L2 q1 q2 q3 => ih (z + 1) f L2 (by omega) q1 q2 q3) (alk T' z n) 1 f2 L (by omega) (by decide) hS rows (hnr.of rfl (fun k j i k1 k2 hj hi => ⟨Or.inl, fun y => by
        rcases y with y | y
        · exact y
        · omega⟩))
  unfold f_X8_addJoke
  repeat (first | ((with_reducible apply WP.ce); case h => (simp (disch := omega) only []; with_reducible rfl)) | ((with_reducible apply WP.bd); case h => (simp (disch := omega) only [e_gR, e_gI, e_aI, e_aL, e_oO, e_pI, e_wI, e_wL, Option.map_some, mS_sL, mR_sL, mI_sL, mS_sI, mR_sI, mL_sI, n_cl, told_o hI, t3, told_r_part hI, told_x_part hI, n_mul, n_add, Nat.reduceAdd, ← hN]; with_reducible rfl)) | rw [nm_eq] | rw [ckZ_n1] | rw [ckZ_n0])
  repeat (first | ((with_reducible apply WP.ce); case h => (simp (disch := omega) only []; with_reducible rfl)) | ((with_reducible apply WP.bd); case h => (simp (disch := omega) only [e_gR, e_gI, e_aI, e_aL, e_oO, e_pI, e_wI, e_wL, Option.map_some, mS_sL, mR_sL, mI_sL, mS_sI, mR_sI, mL_sI, n_cl, told_o hIN, s3]; with_reducible rfl)) | rw [nm_eq] | rw [ckZ_n1] | rw [ckZ_n0])
  rw [n_add, ← hN1]
  rw [← hT']
  obtain ⟨f2, hf2⟩ := FUd (n + 1) (by omega)
  rw [hf2]
  refine outer (n + 1) 0 f2 N1 (by omega) ⟨rfl, rfl, rfl⟩ (fun _ _ => rfl) (nr.of (r1 9 (by decide) (by decide)) (fun k j i k1 k2 hj hi => ?_))
  rw [← en]
  unfold PqT
  constructor
  · intro z; exact Or.inl z
  · rintro (z | ⟨z, -⟩ | ⟨-, z, -⟩)
    · exact z
    · omega
    · omega
end CJK
