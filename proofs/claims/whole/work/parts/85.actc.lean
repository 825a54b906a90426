/-! THE CLASS: how it holds the state; acts -/
variable {O : Mem}
def CRec (g : Nat → Int32) (T : TD) (S : SC) : Prop := g 0 = nI (sT S) ∧ (∀ j, j < tJ T → g (1 + j) = eH (-100000) (sH S j)) ∧ (∀ s, s < tN T → g (9 + s) = nI (sW S s) ∧ g (14 + s) = eP (sP S s))
def CPb (M : Mem) (t : Nat) (T : TD) (P : PD) : Prop := mI M t 6 = nI P.1 ∧ ∃ hd, hd < 20 ∧ mI M t 10 = nI hd ∧ ∀ i, i < P.1 → CRec (fun k => mI M (t + 14) (19 * ((hd + 20 - P.1 + i) % 20) + k)) T (P.2 i)
def CBk (M : Mem) (t : Nat) (B : BD) : Prop := CT M (t + 1) (bT B) ∧ CC M (t + 7) (bT B) (bS B) ∧ CNb M t (bN B) ∧ CPb M t (bT B) (bP B) ∧ mI M t 7 = nI (bX B) ∧ mI M t 8 = eP (bF B)
def CIm (M : Mem) (im : Nat → Option BD) : Prop := (∀ k, k < 4 → (im k).elim (mR M 29 k = none) (fun B => ∃ a, (mR M 29 k = some a ∧ 103 ≤ a) ∧ IBook (mS M) (mR M) a ∧ CBk M a B)) ∧ ∀ k k' a, k < 4 → k' < 4 → mR M 29 k = some a → mR M 29 k' = some a → k = k'
def cnI (im : Nat → Option BD) : Nat := ctb (fun k => (im k).isSome) 4
/-- how many cells and slots there are -/
def SZ (M : Mem) (im : Nat → Option BD) (c : Nat) : Prop := 103 ≤ (mS M).length ∧ (mS M).length ≤ 103 + 15 * cnI im + 3 * c ∧ us M ≤ 20000 + 600 * cnI im + 500 * c
theorem SZ.of {M M' : Mem} {im : Nat → Option BD} {c : Nat} (h : SZ M im c) (e : mS M' = mS M) : SZ M' im c := by
  unfold SZ us
  rw [e]
  exact h
/-- the reference's cells are as in O -/
def OC (O M : Mem) : Prop := ∀ a, 66 ≤ a → a ≤ 102 → (mS M)[a]? = (mS O)[a]? ∧ mR M a = mR O a ∧ mI M a = mI O a
theorem OC.up {O M M' : Mem} (h : OC O M) (f : ∀ a, 66 ≤ a → a ≤ 102 → (mS M')[a]? = (mS M)[a]? ∧ mR M' a = mR M a ∧ mI M' a = mI M a) : OC O M' := fun a h1 h2 => ⟨(f a h1 h2).1.trans (h a h1 h2).1, (f a h1 h2).2.1.trans (h a h1 h2).2.1, (f a h1 h2).2.2.trans (h a h1 h2).2.2⟩
def CG (O M : Mem) (G : GD) : Prop := CIs (mS M) (mR M) ∧ CBk M 14 (zB G) ∧ CW M (zC G) (zW G) ∧ (mI M 1 1 = nI (zL G) ∧ ∀ i, i < zL G → mI M 2 i = nI (zY G i)) ∧ CIm M (zM G) ∧ SZ M (zM G) (zC G) ∧ OC O M
theorem CBk.of {M M' : Mem} {t : Nat} {B : BD} (h : CBk M t B) (e : ∀ i, i ≤ 14 → mI M' (t + i) = mI M (t + i)) : CBk M' t B := by
  obtain ⟨h1, h2, h3, h4, h5, h6⟩ := h
  have e0 := e 0 (by omega)
  rw [Nat.add_zero] at e0
  refine ⟨h1.of (fun i hi => by rw [Nat.add_assoc]; exact e _ (by omega)), h2.of (fun i hi => by rw [Nat.add_assoc]; exact e _ (by omega)), ?_, ?_, by rw [e0]; exact h5, by rw [e0]; exact h6⟩
  · unfold CNb
    rw [e0, e 11 (by omega), e 12 (by omega), e 13 (by omega)]
    exact h3
  · unfold CPb
    rw [e0, e 14 (by omega)]
    exact h4
/-- what no act changes -/
def CF (M M' : Mem) : Prop := mS M' = mS M ∧ (∀ a k, ¬ (a = 30 ∧ (k = 0 ∨ k = 4)) → mR M' a k = mR M a k) ∧ (∀ a, a < 14 ∨ (15 ≤ a ∧ a ≤ 20) ∨ 65 < a → mI M' a = mI M a)
theorem CF.rf (M : Mem) : CF M M := ⟨rfl, fun _ _ _ => rfl, fun _ _ => rfl⟩
theorem CF.tr {M1 M2 M3 : Mem} (h1 : CF M1 M2) (h2 : CF M2 M3) : CF M1 M3 := ⟨h2.1.trans h1.1, fun a k h => (h2.2.1 a k h).trans (h1.2.1 a k h), fun a h => (h2.2.2 a h).trans (h1.2.2 a h)⟩
theorem AF.CF {M M' : Mem} (h : AF M M') : CF M M' := ⟨h.1, h.2.1, fun a ha => h.2.2.1 a (by omega)⟩
theorem CF.CI {M M' : Mem} (h : CF M M') (hC : CIs (mS M) (mR M)) : CIs (mS M') (mR M') := hC.of (fun a _ => by rw [h.1]) (fun a k _ _ _ hn => h.2.1 a k hn)
theorem CFw (M : Mem) {a : Nat} (ha : a = 14 ∨ (21 ≤ a ∧ a ≤ 65)) (k : Nat) (v : Int32) : CF M (sI M a k v) := ⟨rfl, fun _ _ _ => rfl, fun b hb => sI_row (by omega)⟩
theorem CF.rl {M M' : Mem} {a : Nat} {w : RD} (h : CF M M') (ha : 103 ≤ a) (hr : CRl M a w) : CRl M' a w := hr.of (fun i _ => by rw [h.1]) (fun k => h.2.1 a k (by omega)) (h.2.2 a (by omega)) (h.2.2 (a + 1) (by omega))
theorem CF.W {M M' : Mem} {c : Nat} {W : Nat → RD} (h : CF M M') (hw : CW M c W) : CW M' c W := ⟨hw.1, by rw [h.2.2 0 (by omega)]; exact hw.2.1, fun i hi => by
  obtain ⟨a, ⟨a1, a2⟩, a3⟩ := hw.2.2 i hi
  exact ⟨a, ⟨by rw [h.2.1 13 i (by omega)]; exact a1, a2⟩, h.rl a2 a3⟩⟩
theorem IBook.fr {M M' : Mem} {a : Nat} (hS : mS M' = mS M) (hR : ∀ b k, 103 ≤ b → mR M' b k = mR M b k) (ha : 103 ≤ a) (h : IBook (mS M) (mR M) a) : IBook (mS M') (mR M') a := h.of (fun i _ => by rw [hS]) (fun i k _ => hR _ _ (by omega))
theorem CF.Im {M M' : Mem} {im : Nat → Option BD} (h : CF M M') (hm : CIm M im) : CIm M' im := by
  refine ⟨fun k hk => ?_, fun k k' a h1 h2 e1 e2 => hm.2 k k' a h1 h2 (by rw [← h.2.1 29 k (by omega)]; exact e1) (by rw [← h.2.1 29 k' (by omega)]; exact e2)⟩
  have := hm.1 k hk
  cases hi : im k with
  | none =>
    rw [hi] at this
    show mR M' 29 k = none
    rw [h.2.1 29 k (by omega)]; exact this
  | some B =>
    rw [hi] at this
    obtain ⟨a, ⟨a1, a2⟩, a3, a4⟩ := this
    exact ⟨a, ⟨by rw [h.2.1 29 k (by omega)]; exact a1, a2⟩, a3.fr h.1 (fun b k hb => h.2.1 b k (by omega)) a2, a4.of (fun i _ => h.2.2 _ (by omega))⟩
theorem CG.up {M M' : Mem} {G : GD} (h : CG O M G) (f : CF M M') {S : SC} {D : ND} {P : PD} {x : Nat} {fo : Option Nat} (h1 : CC M' 21 (bT (zB G)) S) (h2 : CNb M' 14 D) (h3 : CPb M' 14 (bT (zB G)) P) (h4 : mI M' 14 7 = nI x) (h5 : mI M' 14 8 = eP fo) : CG O M' (wB G (bT (zB G), S, D, P, x, fo)) :=
  ⟨f.CI h.1, ⟨h.2.1.1.of (fun i hi => f.2.2 _ (by omega)), h1, h2, h3, h4, h5⟩, f.W h.2.2.1, ⟨by rw [f.2.2 1 (by omega)]; exact h.2.2.2.1.1, by rw [f.2.2 2 (by omega)]; exact h.2.2.2.1.2⟩, f.Im h.2.2.2.2.1, h.2.2.2.2.2.1.of f.1, h.2.2.2.2.2.2.up (fun a h1 h2 => ⟨by rw [f.1], funext (fun k => f.2.1 a k (by omega)), f.2.2 a (by omega)⟩)⟩
theorem CG.ct {M : Mem} {G : GD} (h : CG O M G) : CT M 15 (bT (zB G)) := h.2.1.1
theorem CG.cc {M : Mem} {G : GD} (h : CG O M G) : CC M 21 (bT (zB G)) (bS (zB G)) := h.2.1.2.1
theorem CG.cn {M : Mem} {G : GD} (h : CG O M G) : CNb M 14 (bN (zB G)) := h.2.1.2.2.1
theorem CG.cp {M : Mem} {G : GD} (h : CG O M G) : CPb M 14 (bT (zB G)) (bP (zB G)) := h.2.1.2.2.2.1
theorem CG.ce {M : Mem} {G : GD} (h : CG O M G) (hk : GOk G) : CE M (bT (zB G)) (bS (zB G)) (zC G) (zW G) (bF (zB G)) := ⟨⟨h.1, h.ct, h.cc, h.2.2.1, h.2.1.2.2.2.2.2⟩, hk.1.1, hk.1.2.1, hk.1.2.2.1, hk.1.2.2.2.2.2.2⟩
theorem CPb.of {M M' : Mem} {t : Nat} {T : TD} {P : PD} (h : CPb M t T P) (e0 : mI M' t = mI M t) (e1 : mI M' (t + 14) = mI M (t + 14)) : CPb M' t T P := by
  unfold CPb
  rw [e0, e1]
  exact h
/-- a question leaves all as it was -/
theorem CG.qu {M M' : Mem} {G : GD} (h : CG O M G) (a : AF M M') : CG O M' G :=
  h.up a.CF (a.S h.cc) (a.N h.cn) (h.cp.of (a.2.2.1 14 (by omega)) (a.2.2.1 28 (by omega))) (by rw [a.2.2.1 14 (by omega)]; exact h.2.1.2.2.2.2.1) (by rw [a.2.2.1 14 (by omega)]; exact h.2.1.2.2.2.2.2)
/-- the scene alone changes -/
theorem CG.sc {M M' : Mem} {G : GD} (h : CG O M G) (hS : mS M' = mS M) (hR : ∀ a k, ¬ (a = 30 ∧ (k = 0 ∨ k = 4)) → mR M' a k = mR M a k) (hI : ∀ a, a < 21 ∨ (25 ≤ a ∧ a ≤ 29) ∨ 65 < a → mI M' a = mI M a) {S : SC} (h1 : CC M' 21 (bT (zB G)) S) : CG O M' (wB G (bT (zB G), S, bN (zB G), bP (zB G), bX (zB G), bF (zB G))) := by
  refine h.up ⟨hS, hR, fun a ha => hI a (by omega)⟩ h1 ?_ (h.cp.of (hI 14 (by omega)) (hI 28 (by omega))) (by rw [hI 14 (by omega)]; exact h.2.1.2.2.2.2.1) (by rw [hI 14 (by omega)]; exact h.2.1.2.2.2.2.2)
  unfold CNb
  rw [hI 14 (by omega), hI (14 + 11) (by omega), hI (14 + 12) (by omega), hI (14 + 13) (by omega)]
  exact h.cn
theorem va_in (f g : Nat → Int32) {sp dp n i : Nat} (h : i < n) : va_cpy f g sp dp n (dp + i) = f (sp + i) := by
  unfold va_cpy
  rw [if_pos (by omega)]
  congr 1
  omega
theorem va_out (f g : Nat → Int32) {sp dp n k : Nat} (h : k < dp ∨ dp + n ≤ k) : va_cpy f g sp dp n k = g k := by
  unfold va_cpy
  rw [if_neg (by omega)]
theorem c_store {M : Mem} {q b at_ : Nat} (hJ : IScene (mS M) (mR M) q) (hb : lenOf (mS M) 0 b = 380) (hq : b < q ∨ q + 3 < b) (ha : at_ + 19 ≤ 380) : WP (f_X6_store q (some b) (nI at_) M) (fun _ M' => (mS M' = mS M ∧ mR M' = mR M) ∧ (∀ a, a ≠ b → mI M' a = mI M a) ∧ (∀ k, k < at_ ∨ at_ + 19 ≤ k → mI M' b k = mI M b k) ∧ mI M' b at_ = mI M q 0 ∧ (∀ j, j < 8 → mI M' b (at_ + (1 + j)) = mI M (q + 1) j) ∧ ∀ s, s < 5 → mI M' b (at_ + (9 + s)) = mI M (q + 2) s ∧ mI M' b (at_ + (14 + s)) = mI M (q + 3) s) := by
  have x0 : ixS (mS M) 0 (some b) (nI at_) = some b := ixS_ok (by rw [hb]; omega) (by omega)
  obtain ⟨M1, hM1⟩ : ∃ M1, M1 = sI M b at_ (mI M q 0) := ⟨_, rfl⟩
  have s1 : mS M1 = mS M := by rw [hM1]; rfl
  have r1 : mR M1 = mR M := by rw [hM1]; rfl
  have hJ1 : IScene (mS M1) (mR M1) q := by rw [s1, r1]; exact hJ
  have hb1 : lenOf (mS M1) 0 b = 380 := by rw [s1]; exact hb
  have i1 : ∀ a, a ≠ b → mI M1 a = mI M a := fun a h => by rw [hM1, sI_row h]
  have j1 : mI M1 b = upd (mI M b) at_ (mI M q 0) := by rw [hM1, mI_sI_s]
  unfold f_X6_store
  repeat (first | ((with_reducible apply WP.ce); case h => (simp (disch := omega) only []; with_reducible rfl)) | ((with_reducible apply WP.bd); case h => (simp (disch := omega) only [e_gR, e_gI, e_aI, e_aL, e_oO, e_pI, e_wI, e_wL, Option.map_some, mS_sL, mR_sL, mI_sL, mS_sI, mR_sI, mL_sI, n_cl, scene_o hJ, x0, ← hM1]; with_reducible rfl)) | rw [nm_eq] | rw [ckZ_n1] | rw [ckZ_n0])
  repeat (first | ((with_reducible apply WP.ce); case h => (simp (disch := omega) only []; with_reducible rfl)) | ((with_reducible apply WP.bd); case h => (simp (disch := omega) only [e_gR, e_gI, e_aI, e_aL, e_oO, e_pI, e_wI, e_wL, Option.map_some, mS_sL, mR_sL, mI_sL, mS_sI, mR_sI, mL_sI, n_cl, scene_o hJ1, scene_r_heard hJ1, n_add]; with_reducible rfl)) | rw [nm_eq] | rw [ckZ_n1] | rw [ckZ_n0])
  rw [n_add]
  refine WP.bd (cpy_ok (l0 := 8) (l1 := 380) (scene_l_heard hJ1) hb1 (by decide) (by decide) (by decide) (by omega) (by decide) (by decide)) ?_
  obtain ⟨M2, hM2⟩ : ∃ M2, M2 = sIr M1 b (va_cpy (mI M1 (q + 1)) (mI M1 b) 0 (at_ + 1) 8) := ⟨_, rfl⟩
  have s2 : mS M2 = mS M := by rw [hM2]; exact s1
  have r2 : mR M2 = mR M := by rw [hM2]; exact r1
  have hJ2 : IScene (mS M2) (mR M2) q := by rw [s2, r2]; exact hJ
  have hb2 : lenOf (mS M2) 0 b = 380 := by rw [s2]; exact hb
  have i2 : ∀ a, a ≠ b → mI M2 a = mI M a := fun a h => by rw [hM2, mI_sIr_o _ _ h, i1 a h]
  have j2 : mI M2 b = va_cpy (mI M1 (q + 1)) (mI M1 b) 0 (at_ + 1) 8 := by rw [hM2, mI_sIr_s]
  rw [← hM2]
  repeat (first | ((with_reducible apply WP.ce); case h => (simp (disch := omega) only []; with_reducible rfl)) | ((with_reducible apply WP.bd); case h => (simp (disch := omega) only [e_gR, e_gI, e_aI, e_aL, e_oO, e_pI, e_wI, e_wL, Option.map_some, mS_sL, mR_sL, mI_sL, mS_sI, mR_sI, mL_sI, n_cl, scene_o hJ2, scene_r_knows hJ2]; with_reducible rfl)) | rw [nm_eq] | rw [ckZ_n1] | rw [ckZ_n0])
  rw [n_add]
  refine WP.bd (cpy_ok (l0 := 5) (l1 := 380) (scene_l_knows hJ2) hb2 (by decide) (by decide) (by decide) (by omega) (by decide) (by decide)) ?_
  obtain ⟨M3, hM3⟩ : ∃ M3, M3 = sIr M2 b (va_cpy (mI M2 (q + 2)) (mI M2 b) 0 (at_ + 1 + 8) 5) := ⟨_, rfl⟩
  have s3 : mS M3 = mS M := by rw [hM3]; exact s2
  have r3 : mR M3 = mR M := by rw [hM3]; exact r2
  have hJ3 : IScene (mS M3) (mR M3) q := by rw [s3, r3]; exact hJ
  have hb3 : lenOf (mS M3) 0 b = 380 := by rw [s3]; exact hb
  have i3 : ∀ a, a ≠ b → mI M3 a = mI M a := fun a h => by rw [hM3, mI_sIr_o _ _ h, i2 a h]
  have j3 : mI M3 b = va_cpy (mI M2 (q + 2)) (mI M2 b) 0 (at_ + 1 + 8) 5 := by rw [hM3, mI_sIr_s]
  rw [← hM3]
  repeat (first | ((with_reducible apply WP.ce); case h => (simp (disch := omega) only []; with_reducible rfl)) | ((with_reducible apply WP.bd); case h => (simp (disch := omega) only [e_gR, e_gI, e_aI, e_aL, e_oO, e_pI, e_wI, e_wL, Option.map_some, mS_sL, mR_sL, mI_sL, mS_sI, mR_sI, mL_sI, n_cl, scene_o hJ3, scene_r_passed hJ3]; with_reducible rfl)) | rw [nm_eq] | rw [ckZ_n1] | rw [ckZ_n0])
  rw [n_add]
  refine WP.bd (cpy_ok (l0 := 5) (l1 := 380) (scene_l_passed hJ3) hb3 (by decide) (by decide) (by decide) (by omega) (by decide) (by decide)) ?_
  refine WP.ret ⟨⟨s3, r3⟩, fun a h => by rw [mI_sIr_o _ _ h, i3 a h], fun k hk => ?_, ?_, fun j hj => ?_, fun s hs => ⟨?_, ?_⟩⟩
  · rw [mI_sIr_s, va_out _ _ (by omega), j3, va_out _ _ (by omega), j2, va_out _ _ (by omega), j1, upd_o _ _ (by omega)]
  · rw [mI_sIr_s, va_out _ _ (by omega), j3, va_out _ _ (by omega), j2, va_out _ _ (by omega), j1, upd_s]
  · rw [mI_sIr_s, va_out _ _ (by omega), j3, va_out _ _ (by omega), j2, ← Nat.add_assoc, va_in _ _ hj, Nat.zero_add, i1 _ (by omega)]
  · rw [mI_sIr_s, va_out _ _ (by omega), j3, show at_ + (9 + s) = at_ + 1 + 8 + s by omega, va_in _ _ hs, Nat.zero_add, i2 _ (by omega)]
  · rw [mI_sIr_s, show at_ + (14 + s) = at_ + 1 + 8 + 5 + s by omega, va_in _ _ hs, Nat.zero_add, i3 _ (by omega)]
theorem c_restore {M : Mem} {q b at_ : Nat} (hJ : IScene (mS M) (mR M) q) (hb : lenOf (mS M) 0 b = 380) (hq : b < q ∨ q + 3 < b) (ha : at_ + 19 ≤ 380) : WP (f_X6_restore q (some b) (nI at_) M) (fun _ M' => SF q M M' ∧ mI M' q 0 = mI M b at_ ∧ (∀ j, j < 8 → mI M' (q + 1) j = mI M b (at_ + (1 + j))) ∧ ∀ s, s < 5 → mI M' (q + 2) s = mI M b (at_ + (9 + s)) ∧ mI M' (q + 3) s = mI M b (at_ + (14 + s))) := by
  have x0 : ixS (mS M) 0 (some b) (nI at_) = some b := ixS_ok (by rw [hb]; omega) (by omega)
  obtain ⟨M1, hM1⟩ : ∃ M1, M1 = sI M q 0 (mI M b at_) := ⟨_, rfl⟩
  have s1 : mS M1 = mS M := by rw [hM1]; rfl
  have r1 : mR M1 = mR M := by rw [hM1]; rfl
  have hJ1 : IScene (mS M1) (mR M1) q := by rw [s1, r1]; exact hJ
  have hb1 : lenOf (mS M1) 0 b = 380 := by rw [s1]; exact hb
  have i1 : ∀ a, a ≠ q → mI M1 a = mI M a := fun a h => by rw [hM1, sI_row h]
  unfold f_X6_restore
  repeat (first | ((with_reducible apply WP.ce); case h => (simp (disch := omega) only []; with_reducible rfl)) | ((with_reducible apply WP.bd); case h => (simp (disch := omega) only [e_gR, e_gI, e_aI, e_aL, e_oO, e_pI, e_wI, e_wL, Option.map_some, mS_sL, mR_sL, mI_sL, mS_sI, mR_sI, mL_sI, n_cl, x0, scene_o hJ, ← hM1]; with_reducible rfl)) | rw [nm_eq] | rw [ckZ_n1] | rw [ckZ_n0])
  repeat (first | ((with_reducible apply WP.ce); case h => (simp (disch := omega) only []; with_reducible rfl)) | ((with_reducible apply WP.bd); case h => (simp (disch := omega) only [e_gR, e_gI, e_aI, e_aL, e_oO, e_pI, e_wI, e_wL, Option.map_some, mS_sL, mR_sL, mI_sL, mS_sI, mR_sI, mL_sI, n_cl, scene_o hJ1, scene_r_heard hJ1, n_add]; with_reducible rfl)) | rw [nm_eq] | rw [ckZ_n1] | rw [ckZ_n0])
  rw [n_add]
  refine WP.bd (cpy_ok (l0 := 380) (l1 := 8) hb1 (scene_l_heard hJ1) (by decide) (by decide) (by omega) (by decide) (by decide) (by decide)) ?_
  obtain ⟨M2, hM2⟩ : ∃ M2, M2 = sIr M1 (q + 1) (va_cpy (mI M1 b) (mI M1 (q + 1)) (at_ + 1) 0 8) := ⟨_, rfl⟩
  have s2 : mS M2 = mS M := by rw [hM2]; exact s1
  have r2 : mR M2 = mR M := by rw [hM2]; exact r1
  have hJ2 : IScene (mS M2) (mR M2) q := by rw [s2, r2]; exact hJ
  have hb2 : lenOf (mS M2) 0 b = 380 := by rw [s2]; exact hb
  have i2 : ∀ a, a ≠ q → a ≠ q + 1 → mI M2 a = mI M a := fun a h h2 => by rw [hM2, mI_sIr_o _ _ h2, i1 a h]
  rw [← hM2]
  repeat (first | ((with_reducible apply WP.ce); case h => (simp (disch := omega) only []; with_reducible rfl)) | ((with_reducible apply WP.bd); case h => (simp (disch := omega) only [e_gR, e_gI, e_aI, e_aL, e_oO, e_pI, e_wI, e_wL, Option.map_some, mS_sL, mR_sL, mI_sL, mS_sI, mR_sI, mL_sI, n_cl, scene_o hJ2, scene_r_knows hJ2]; with_reducible rfl)) | rw [nm_eq] | rw [ckZ_n1] | rw [ckZ_n0])
  rw [n_add]
  refine WP.bd (cpy_ok (l0 := 380) (l1 := 5) hb2 (scene_l_knows hJ2) (by decide) (by decide) (by omega) (by decide) (by decide) (by decide)) ?_
  obtain ⟨M3, hM3⟩ : ∃ M3, M3 = sIr M2 (q + 2) (va_cpy (mI M2 b) (mI M2 (q + 2)) (at_ + 1 + 8) 0 5) := ⟨_, rfl⟩
  have s3 : mS M3 = mS M := by rw [hM3]; exact s2
  have r3 : mR M3 = mR M := by rw [hM3]; exact r2
  have hJ3 : IScene (mS M3) (mR M3) q := by rw [s3, r3]; exact hJ
  have hb3 : lenOf (mS M3) 0 b = 380 := by rw [s3]; exact hb
  have i3 : ∀ a, a ≠ q → a ≠ q + 1 → a ≠ q + 2 → mI M3 a = mI M a := fun a h h2 h3 => by rw [hM3, mI_sIr_o _ _ h3, i2 a h h2]
  rw [← hM3]
  repeat (first | ((with_reducible apply WP.ce); case h => (simp (disch := omega) only []; with_reducible rfl)) | ((with_reducible apply WP.bd); case h => (simp (disch := omega) only [e_gR, e_gI, e_aI, e_aL, e_oO, e_pI, e_wI, e_wL, Option.map_some, mS_sL, mR_sL, mI_sL, mS_sI, mR_sI, mL_sI, n_cl, scene_o hJ3, scene_r_passed hJ3]; with_reducible rfl)) | rw [nm_eq] | rw [ckZ_n1] | rw [ckZ_n0])
  rw [n_add]
  refine WP.bd (cpy_ok (l0 := 380) (l1 := 5) hb3 (scene_l_passed hJ3) (by decide) (by decide) (by omega) (by decide) (by decide) (by decide)) ?_
  have z : ∀ (f g : Nat → Int32) (sp n i : Nat), i < n → va_cpy f g sp 0 n i = f (sp + i) := fun f g sp n i h => by
    have := va_in f g (sp := sp) (dp := 0) h
    rw [Nat.zero_add] at this
    exact this
  refine WP.ret ⟨⟨s3, r3, fun a h0 h1 h2 h3 => by rw [mI_sIr_o _ _ h3, i3 a h0 h1 h2], by rw [mL_sIr, hM3, mL_sIr, hM2, mL_sIr, hM1]; rfl⟩, ?_, fun j hj => ?_, fun s hs => ⟨?_, ?_⟩⟩
  · rw [mI_sIr_o _ _ (by omega), hM3, mI_sIr_o _ _ (by omega), hM2, mI_sIr_o _ _ (by omega), hM1, mI_sI, if_pos ⟨rfl, rfl⟩]
  · rw [mI_sIr_o _ _ (by omega), hM3, mI_sIr_o _ _ (by omega), hM2, mI_sIr_s, z _ _ _ _ _ hj, i1 _ (by omega), Nat.add_assoc]
  · rw [mI_sIr_o _ _ (by omega), hM3, mI_sIr_s, z _ _ _ _ _ hs, i2 _ (by omega) (by omega)]
    congr 1
    omega
  · rw [mI_sIr_s, z _ _ _ _ _ hs, i3 _ (by omega) (by omega) (by omega)]
    congr 1
    omega
theorem y_keep {M : Mem} {G : GD} (h : CG O M G) (hk : GOk G) : WP (f_X2_keepAct 14 M) (fun _ M' => CG O M' (wB G (bPu (zB G)))) := by
  have hC := h.1
  obtain ⟨p0, hd, p1, p2, p3⟩ := h.cp
  have hS := h.cc
  have k1 := hk.1.1.1.2.2.1
  have k2 := hk.1.1.1.2.2.2
  have hP := hk.1.2.2.2.2.1.1
  have hb : lenOf (mS M) 0 28 = 380 := book_l_past (ci_book hC)
  unfold f_X2_keepAct
  repeat (first | ((with_reducible apply WP.ce); case h => (simp (disch := omega) only []; with_reducible rfl)) | ((with_reducible apply WP.bd); case h => (simp (disch := omega) only [e_gR, e_gI, e_aI, e_aL, e_oO, e_pI, e_wI, e_wL, Option.map_some, mS_sL, mR_sL, mI_sL, mS_sI, mR_sI, mL_sI, n_cl, book_o (ci_book hC), book_r_scene (ci_book hC), book_r_past (ci_book hC), p2, Nat.reduceAdd, scene_o (ci_scene hC)]; with_reducible rfl)) | rw [nm_eq] | rw [ckZ_n1] | rw [ckZ_n0])
  rw [n_mul]
  refine WP.cw (c_store (ci_scene hC) hb (by omega) (by omega)) (fun _ M1 c => ?_)
  obtain ⟨⟨c1, c2⟩, c3, c4, c5, c6, c7⟩ := c
  have hC1 : CIs (mS M1) (mR M1) := by rw [c1, c2]; exact hC
  have g10 : mI M1 14 10 = nI hd := by rw [c3 14 (by omega)]; exact p2
  obtain ⟨M2, hM2⟩ : ∃ M2, M2 = sI M1 14 10 (nI ((hd + 1) % 20)) := ⟨_, rfl⟩
  have hC2 : CIs (mS M2) (mR M2) := by rw [hM2]; exact hC1
  have g6 : mI M2 14 6 = nI (bP (zB G)).1 := by rw [hM2, mI_sI, if_neg (by omega), c3 14 (by omega)]; exact p0
  repeat (first | ((with_reducible apply WP.ce); case h => (simp (disch := omega) only []; with_reducible rfl)) | ((with_reducible apply WP.bd); case h => (simp (disch := omega) only [e_gR, e_gI, e_aI, e_aL, e_oO, e_pI, e_wI, e_wL, Option.map_some, mS_sL, mR_sL, mI_sL, mS_sI, mR_sI, mL_sI, n_cl, book_o (ci_book hC1), g10]; with_reducible rfl)) | rw [nm_eq] | rw [ckZ_n1] | rw [ckZ_n0])
  refine WP.ie (by decide) ?_
  rw [n_add, pk_rem (by omega) (by decide) (by decide)]
  repeat (first | ((with_reducible apply WP.ce); case h => (simp (disch := omega) only []; with_reducible rfl)) | ((with_reducible apply WP.bd); case h => (simp (disch := omega) only [e_gR, e_gI, e_aI, e_aL, e_oO, e_pI, e_wI, e_wL, Option.map_some, mS_sL, mR_sL, mI_sL, mS_sI, mR_sI, mL_sI, n_cl, book_o (ci_book hC1), ← hM2]; with_reducible rfl)) | rw [nm_eq] | rw [ckZ_n1] | rw [ckZ_n0])
  repeat (first | ((with_reducible apply WP.ce); case h => (simp (disch := omega) only []; with_reducible rfl)) | ((with_reducible apply WP.bd); case h => (simp (disch := omega) only [e_gR, e_gI, e_aI, e_aL, e_oO, e_pI, e_wI, e_wL, Option.map_some, mS_sL, mR_sL, mI_sL, mS_sI, mR_sI, mL_sI, n_cl, book_o (ci_book hC2), g6]; with_reducible rfl)) | rw [nm_eq] | rw [ckZ_n1] | rw [ckZ_n0])
  rw [n_add]
  have em : (if nI ((bP (zB G)).1 + 1) < nI 20 then nI ((bP (zB G)).1 + 1) else nI 20) = nI (psh (bP (zB G)) (bS (zB G))).1 := by
    unfold psh
    by_cases e : (bP (zB G)).1 = 20
    · rw [if_pos e, if_neg (by rw [n_lt (by omega) (by omega)]; omega)]
    · rw [if_neg e]
      show _ = nI ((bP (zB G)).1 + 1)
      by_cases e2 : (bP (zB G)).1 + 1 < 20
      · rw [if_pos (by rw [n_lt (by omega) (by omega)]; exact e2)]
      · rw [if_neg (by rw [n_lt (by omega) (by omega)]; exact e2), show (bP (zB G)).1 + 1 = 20 by omega]
  rw [em]
  repeat (first | ((with_reducible apply WP.ce); case h => (simp (disch := omega) only []; with_reducible rfl)) | ((with_reducible apply WP.bd); case h => (simp (disch := omega) only [e_gR, e_gI, e_aI, e_aL, e_oO, e_pI, e_wI, e_wL, Option.map_some, mS_sL, mR_sL, mI_sL, mS_sI, mR_sI, mL_sI, n_cl, book_o (ci_book hC2)]; with_reducible rfl)) | rw [nm_eq] | rw [ckZ_n1] | rw [ckZ_n0])
  obtain ⟨M3, hM3⟩ : ∃ M3, M3 = sI M2 14 6 (nI (psh (bP (zB G)) (bS (zB G))).1) := ⟨_, rfl⟩
  rw [← hM3]
  have rows : ∀ a, a ≠ 14 → a ≠ 28 → mI M3 a = mI M a := fun a a1 a2 => by rw [hM3, sI_row a1, hM2, sI_row a1, c3 a a2]
  have r28 : mI M3 28 = mI M1 28 := by rw [hM3, sI_row (by omega), hM2, sI_row (by omega)]
  have r14 : ∀ k, k ≠ 6 → k ≠ 10 → mI M3 14 k = mI M 14 k := fun k h1 h2 => by rw [hM3, mI_sI, if_neg (by omega), hM2, mI_sI, if_neg (by omega), c3 14 (by omega)]
  have fr : CF M M3 := ⟨by rw [hM3, hM2]; exact c1, fun a k _ => by rw [hM3, hM2]; show mR M1 a k = _; rw [c2], fun a ha => rows a (by omega) (by omega)⟩
  refine WP.ret (h.up fr (hS.of (fun i hi => rows _ (by omega) (by omega))) ?_ ?_ (by rw [r14 7 (by decide) (by decide)]; exact h.2.1.2.2.2.2.1) (by rw [r14 8 (by decide) (by decide)]; exact h.2.1.2.2.2.2.2))
  · unfold CNb
    rw [r14 5 (by decide) (by decide), rows (14 + 11) (by omega) (by omega), rows (14 + 12) (by omega) (by omega), rows (14 + 13) (by omega) (by omega)]
    exact h.cn
  · refine ⟨by rw [hM3, mI_sI, if_pos ⟨rfl, rfl⟩], (hd + 1) % 20, by omega, by rw [hM3, mI_sI, if_neg (by omega), hM2, mI_sI, if_pos ⟨rfl, rfl⟩], fun i hi => ?_⟩
    have e28 : mI M3 (14 + 14) = mI M1 28 := r28
    rw [e28]
    -- the new record
    have new : CRec (fun k => mI M1 28 (19 * hd + k)) (bT (zB G)) (bS (zB G)) := by
      rw [Nat.mul_comm] at c5 c6 c7
      exact ⟨c5.trans hS.1, fun j hj => (c6 j (by omega)).trans (hS.2.1 j hj), fun s hs => ⟨(c7 s (by omega)).1.trans (hS.2.2 s hs).1, (c7 s (by omega)).2.trans (hS.2.2 s hs).2⟩⟩
    have old : ∀ (i sl : Nat), i < (bP (zB G)).1 → sl = (hd + 20 - (bP (zB G)).1 + i) % 20 → sl ≠ hd → CRec (fun k => mI M1 28 (19 * sl + k)) (bT (zB G)) ((bP (zB G)).2 i) := by
      intro i sl hi hsl hne
      have := p3 i hi
      rw [← hsl] at this
      obtain ⟨q0, q1, q2⟩ := this
      have hl : sl < 20 := by omega
      have g : ∀ k, k < 19 → mI M1 28 (19 * sl + k) = mI M (14 + 14) (19 * sl + k) := fun k hk3 => c4 _ (by omega)
      exact ⟨(g 0 (by omega)).trans q0, fun j hj => (g _ (by omega)).trans (q1 j hj), fun s hs => ⟨(g _ (by omega)).trans (q2 s hs).1, (g _ (by omega)).trans (q2 s hs).2⟩⟩
    revert hi
    unfold psh
    by_cases e : (bP (zB G)).1 = 20
    · rw [if_pos e]
      intro hi
      have hi : i < 20 := hi
      show CRec (fun k => mI M1 28 (19 * (((hd + 1) % 20 + 20 - 20 + i) % 20) + k)) (bT (zB G)) (if i = 19 then bS (zB G) else (bP (zB G)).2 (i + 1))
      by_cases e2 : i = 19
      · rw [if_pos e2, show ((hd + 1) % 20 + 20 - 20 + i) % 20 = hd by omega]; exact new
      · rw [if_neg e2]
        exact old (i + 1) _ (by omega) (by rw [e]; omega) (by omega)
    · rw [if_neg e]
      intro hi
      have hi : i < (bP (zB G)).1 + 1 := hi
      show CRec (fun k => mI M1 28 (19 * (((hd + 1) % 20 + 20 - ((bP (zB G)).1 + 1) + i) % 20) + k)) (bT (zB G)) (fset (bP (zB G)).2 (bP (zB G)).1 (bS (zB G)) i)
      by_cases e2 : i = (bP (zB G)).1
      · rw [e2, fset_s, show ((hd + 1) % 20 + 20 - ((bP (zB G)).1 + 1) + (bP (zB G)).1) % 20 = hd by omega]; exact new
      · rw [fset_o _ _ e2]
        exact old i _ (by omega) (by omega) (by omega)
