/-! THE CLASS: ruled, look -/
def CNb (M : Mem) (t : Nat) (D : ND) : Prop := mI M t 5 = nI (nC D) ∧ ∀ i, i < nC D → mI M (t + 11) i = nI (nT D i) ∧ mI M (t + 12) i = nI (nS D i) ∧ mI M (t + 13) i = eP (nJ D i)
theorem AF.N {M M' : Mem} {D : ND} (h : AF M M') (hN : CNb M 14 D) : CNb M' 14 D := by
  unfold CNb
  rw [h.2.2.1 14 (by omega), h.2.2.1 (14 + 11) (by omega), h.2.2.1 (14 + 12) (by omega), h.2.2.1 (14 + 13) (by omega)]
  exact hN
def ntH (D : ND) (g : Nat → Option Nat) (now i : Nat) : Bool := decide (nT D i = now) && !(decide (nJ D i = g (nS D i)))
theorem c_notesL {M : Mem} {T : TD} {D : ND} (hC : CIs (mS M) (mR M)) (hk : TOk T) (hN : CNb M 14 D) (hD : NOk T D) {g : Nat → Option Nat} (hg : ∀ s, s < tN T → mI M 31 s = eP (g s)) (hgl : ∀ s t, g s = some t → t < 2 ^ 31) {now : Nat} (hn : now ≤ 100) :
    ∀ d i f, i + d = nC D → fs (ntH D g now) i = none → f_X0_notesHold_L2 37 (f + d + 1) (nI now) (nI i) M = some (bI (fs (ntH D g now) (nC D)).isNone, M) := by
  have h2 := hk.1.2.2.2
  have h1 := hk.1.2.2.1
  have h10 := hD.1
  intro d
  induction d with
  | zero =>
    intro i f hi hf
    have hi : i = nC D := by omega
    subst hi
    rw [f_X0_notesHold_L2]
    repeat (first | ((with_reducible apply clt_t); case h => (simp (disch := omega) only [hC]; with_reducible rfl)) | ((with_reducible apply bnd_t); case h => (simp (disch := omega) only [e_gR, e_gI, e_aI, e_aL, e_oO, e_pI, e_wI, e_wL, Option.map_some, mS_sL, mR_sL, mI_sL, mS_sI, mR_sI, mL_sI, n_cl, cob_37 hC, cr_37_book hC, book_o (ci_book hC), hN.1]; with_reducible rfl)) | rw [nm_eq])
    rw [if_pos (by rw [n_le (by omega) (by omega)]; omega), hf]; rfl
  | succ d ih =>
    intro i f hi hf
    obtain ⟨n1, n2, n3⟩ := hN.2 i (by omega)
    obtain ⟨d1, d2, d3⟩ := hD.2 i (by omega)
    have g1 := hg (nS D i) d2
    have x1 : ixS (mS M) 0 (some (14 + 11)) (nI i) = some (14 + 11) := book_x_noteTide (ci_book hC) (by omega)
    have x2 : ixS (mS M) 0 (some (14 + 12)) (nI i) = some (14 + 12) := book_x_noteShip (ci_book hC) (by omega)
    have x3 : ixS (mS M) 0 (some (14 + 13)) (nI i) = some (14 + 13) := book_x_noteJoke (ci_book hC) (by omega)
    rw [show f + (d + 1) + 1 = (f + d + 1) + 1 from by omega, f_X0_notesHold_L2]
    repeat (first | ((with_reducible apply clt_t); case h => (simp (disch := omega) only [hC]; with_reducible rfl)) | ((with_reducible apply bnd_t); case h => (simp (disch := omega) only [e_gR, e_gI, e_aI, e_aL, e_oO, e_pI, e_wI, e_wL, Option.map_some, mS_sL, mR_sL, mI_sL, mS_sI, mR_sI, mL_sI, n_cl, cob_37 hC, cr_37_book hC, book_o (ci_book hC), hN.1]; with_reducible rfl)) | rw [nm_eq])
    rw [if_neg (by rw [n_le (by omega) (by omega)]; omega)]
    repeat (first | ((with_reducible apply clt_t); case h => (simp (disch := omega) only [hC]; with_reducible rfl)) | ((with_reducible apply bnd_t); case h => (simp (disch := omega) only [e_gR, e_gI, e_aI, e_aL, e_oO, e_pI, e_wI, e_wL, Option.map_some, mS_sL, mR_sL, mI_sL, mS_sI, mR_sI, mL_sI, n_cl, cob_37 hC, cr_37_book hC, book_o (ci_book hC), book_r_noteTide (ci_book hC), x1, n1]; with_reducible rfl)) | rw [nm_eq])
    unfold f_X0_notesHold_J57
    rw [n_add]
    by_cases c1 : nT D i = now
    · rw [if_pos (by rw [c1])]
      repeat (first | ((with_reducible apply clt_t); case h => (simp (disch := omega) only [hC]; with_reducible rfl)) | ((with_reducible apply bnd_t); case h => (simp (disch := omega) only [e_gR, e_gI, e_aI, e_aL, e_oO, e_pI, e_wI, e_wL, Option.map_some, mS_sL, mR_sL, mI_sL, mS_sI, mR_sI, mL_sI, n_cl, cob_37 hC, cr_37_book hC, book_o (ci_book hC), book_r_noteJoke (ci_book hC), x3, n3, cr_37_pilot hC, cob_30 hC, cr_said hC, book_r_noteShip (ci_book hC), x2, n2, cx_said hC, g1]; with_reducible rfl)) | rw [nm_eq])
      have ee := eP_inj (a := nJ D i) (b := g (nS D i)) (fun t ht => by have := d3 t ht; omega) (hgl (nS D i))
      by_cases c2 : nJ D i = g (nS D i)
      · rw [if_pos (by rw [ee]; exact c2)]
        exact ih (i + 1) f (by omega) (fs_no _ hf (by unfold ntH; rw [decide_eq_true c2]; simp))
      · rw [if_neg (by rw [ee]; exact c2), fs_up _ hf (by unfold ntH; rw [decide_eq_true c1, decide_eq_false c2]; rfl) (nC D) (by omega)]; rfl
    · rw [if_neg (by rw [n_eq (by omega) (by omega)]; exact c1)]
      exact ih (i + 1) f (by omega) (fs_no _ hf (by unfold ntH; rw [decide_eq_false c1]; rfl))
theorem lt_rk {L t : Nat} (hL : L ≤ 1000) (ht : t ≤ 1000) : (eP (rkO L) < nI t) = (L < t + 1) := by
  cases L with
  | zero =>
    rw [eq_iff_iff]
    refine ⟨fun _ => by omega, fun _ => ?_⟩
    show (-1 : Int32) < nI t
    rw [fa_lt, nI_toInt (by omega)]
    have : (-1 : Int32).toInt = -1 := by decide
    omega
  | succ L =>
    show (nI L < nI t) = _
    rw [n_lt (by omega) (by omega), eq_iff_iff]
    omega
theorem eP_rk1 (k : Nat) : eP (rkO k) + nI 1 = nI k := by
  cases k with
  | zero => decide
  | succ k => exact n_add k 1
def lsN (D : ND) (n1 : Nat) : Nat → Nat
  | 0 => n1
  | i + 1 => if lsN D n1 i < nT D i + 1 then nT D i + 1 else lsN D n1 i
theorem lsN_le {T : TD} {D : ND} (hD : NOk T D) {n1 : Nat} (hn : n1 ≤ 61) : ∀ i, i ≤ nC D → lsN D n1 i ≤ 61
  | 0, _ => hn
  | i + 1, h => by
    have h1 := lsN_le hD hn i (by omega)
    have h2 := (hD.2 i (by omega)).1
    rw [lsN]
    split <;> omega
theorem lsN_n1 (D : ND) (n1 : Nat) : ∀ i, n1 ≤ lsN D n1 i
  | 0 => Nat.le_refl _
  | i + 1 => by
    have h1 := lsN_n1 D n1 i
    rw [lsN]
    split <;> omega
theorem lsN_nt (D : ND) (n1 : Nat) {k : Nat} : ∀ i, k < i → nT D k < lsN D n1 i
  | 0, h => absurd h (Nat.not_lt_zero k)
  | i + 1, h => by
    rw [lsN]
    by_cases e : k = i
    · subst e; split <;> omega
    · have := lsN_nt D n1 (k := k) i (by omega)
      split <;> omega
theorem fit_t {T : TD} {r : Option RD} {D : ND} (h : ∀ i, i < nC D → ntB T r D i = true) : fit T r D = true := by
  unfold fit
  cases hf : fs (fun i => !(ntB T r D i)) (nC D) with
  | none => rfl
  | some x =>
    obtain ⟨x1, x2, x3⟩ := fs_some hf
    rw [h x x1] at x2; cases x2
theorem fit_f {T : TD} {r : Option RD} {D : ND} {i : Nat} (hi : i < nC D) (h : ntB T r D i = false) : fit T r D = false := by
  unfold fit
  cases hf : fs (fun i => !(ntB T r D i)) (nC D) with
  | none => have := fs_none hf i hi; rw [h] at this; cases this
  | some x => rfl
/-- besides the frame: what the asker found stays -/
def AK (a : Nat) (M M' : Mem) : Prop := AG M M' ∧ mI M' 37 = mI M 37 ∧ mI M' 44 = mI M 44 ∧ ∀ j, j < a ∨ a + 5 ≤ j → mI M' 45 j = mI M 45 j
theorem AK.tr {a : Nat} {M1 M2 M3 : Mem} (h1 : AK a M1 M2) (h2 : AK a M2 M3) : AK a M1 M3 := ⟨h1.1.tr h2.1, h2.2.1.trans h1.2.1, h2.2.2.1.trans h1.2.2.1, fun j hj => (h2.2.2.2 j hj).trans (h1.2.2.2 j hj)⟩
theorem AK.rf (a : Nat) (M : Mem) : AK a M M := ⟨AG.rf M, rfl, rfl, fun _ _ => rfl⟩
theorem PF.AK {M M' : Mem} (h : PF 39 M M') (a : Nat) : AK a M M' := ⟨h.AG (by omega), h.2.2.1 37 (by omega) (by omega) (by omega) (by omega) (by omega) (by omega), h.2.2.1 44 (by omega) (by omega) (by omega) (by omega) (by omega) (by omega), fun j _ => by rw [h.2.2.1 45 (by omega) (by omega) (by omega) (by omega) (by omega) (by omega)]⟩
theorem SF.AK {M M' : Mem} (h : SF 39 M M') (a : Nat) : AK a M M' := ⟨h.AG (by omega), h.2.2.1 37 (by omega) (by omega) (by omega) (by omega), h.2.2.1 44 (by omega) (by omega) (by omega) (by omega), fun j _ => by rw [h.2.2.1 45 (by omega) (by omega) (by omega) (by omega)]⟩
theorem c_allN {M0 : Mem} {T : TD} {S : SC} {r : Option RD} {D : ND} (h : CA M0 T S r) (hN0 : CNb M0 14 D) (hD : NOk T D) {n1 a : Nat} (hn : n1 ≤ 61) (ha : a + 5 ≤ 35) :
    ∀ d now f (M : Mem), now + d = lsN D n1 (nC D) → AK a M0 M → CC M 39 T (tides T r (bgS T) now) → (∀ i, i < nC D → nT D i < now → ntB T r D i = true) → (∀ n, n1 = n + 1 → n < now → ∀ s, s < tN T → mI M 45 (a + s) = eP (tl T r n s)) →
    WP (f_X0_allNotesHold_L52 37 (f + d + 1) (eP (rkO n1)) (nI a) (eP (rkO (lsN D n1 (nC D)))) (nI now) M) (fun v M' => v = bI (fit T r D) ∧ AK a M0 M' ∧ (fit T r D = true → ∀ n, n1 = n + 1 → ∀ s, s < tN T → mI M' 45 (a + s) = eP (tl T r n s))) := by
  have hL := lsN_le hD hn (nC D) (Nat.le_refl _)
  have hL1 := lsN_n1 D n1 (nC D)
  intro d
  induction d with
  | zero =>
    intro now f M hnd g hS9 hnt htl
    rw [f_X0_allNotesHold_L52]
    refine WP.it (by rw [lt_rk (by omega) (by omega)]; omega) ?_
    have hfit : fit T r D = true := fit_t (fun i hi => hnt i hi (by have := lsN_nt D n1 (k := i) (nC D) hi; omega))
    rw [hfit]
    exact WP.ret ⟨rfl, g, fun _ n hn2 => htl n hn2 (by omega)⟩
  | succ d ih =>
    intro now f M hnd g hS9 hnt htl
    obtain ⟨⟨hC, hT, hS, hr⟩, hk, hs, h9⟩ := h.of g.1
    have h1 := hk.1.2.2.1
    have h2 := hk.1.2.2.2
    have z0 : sT (bgS T) = 0 := rfl
    rw [show f + (d + 1) + 1 = (f + d + 1) + 1 from by omega, f_X0_allNotesHold_L52]
    refine WP.ie (by rw [lt_rk (by omega) (by omega)]; omega) ?_
    repeat (first | ((with_reducible apply WP.ce); case h => (simp (disch := omega) only []; with_reducible rfl)) | ((with_reducible apply WP.bd); case h => (simp (disch := omega) only [e_gR, e_gI, e_aI, e_aL, e_oO, e_pI, e_wI, e_wL, Option.map_some, mS_sL, mR_sL, mI_sL, mS_sI, mR_sI, mL_sI, n_cl, cob_37 hC, cr_37_pilot hC, cr_37_work hC, cob_30 hC]; with_reducible rfl)) | rw [nm_eq] | rw [ckZ_n1] | rw [ckZ_n0])
    refine WP.cw (c_oneTide hC hT hk QOk39 (ci_work hC) hS9 (tides_ok (bgS_ok hk) now (by omega)) hr) (fun v M1 c1 => ?_)
    obtain ⟨-, c2, c3, c4⟩ := c1
    have g1 := g.tr (c2.AK a)
    obtain ⟨⟨hC1, hT1, hS1, hr1⟩, -⟩ := h.of g1.1
    have c4' : ∀ s, s < tN T → mI M1 31 s = eP (tl T r now s) := c4
    obtain ⟨f2, hf2⟩ := FUd (nC D) (by have := hD.1; omega)
    have a1 := c_notesL hC1 hk (g1.1.1.N hN0) hD c4' (fun s t ht => by have := tl_lt ht; omega) (now := now) (by omega) (nC D) 0 f2 (by omega) rfl
    have a1' : f_X0_notesHold 37 (nI now) M1 = some (bI (fs (ntH D (fun s => tl T r now s) now) (nC D)).isNone, M1) := by rw [f_X0_notesHold, hf2]; exact a1
    repeat (first | ((with_reducible apply WP.ce); case h => (simp (disch := omega) only [a1']; with_reducible rfl)) | ((with_reducible apply WP.bd); case h => (simp (disch := omega) only [e_gR, e_gI, e_aI, e_aL, e_oO, e_pI, e_wI, e_wL, Option.map_some, mS_sL, mR_sL, mI_sL, mS_sI, mR_sI, mL_sI, n_cl, cob_37 hC1]; with_reducible rfl)) | rw [nm_eq] | rw [ckZ_n1] | rw [ckZ_n0])
    refine WP.gd (fun e => ?_) (fun e => ?_)
    · have hfit : fit T r D = false := by
        cases hf : fs (ntH D (fun s => tl T r now s) now) (nC D) with
        | none => rw [hf] at e; cases e
        | some x =>
          obtain ⟨x1, x2, x3⟩ := fs_some hf
          unfold ntH at x2
          have x4 := Bool.and_eq_true_iff.mp x2
          have x5 := of_decide_eq_true x4.1
          refine fit_f x1 ?_
          unfold ntB
          rw [x5]
          apply decide_eq_false
          intro z
          rw [decide_eq_true z.symm] at x4
          cases x4.2
      rw [hfit]
      repeat (first | ((with_reducible apply WP.ce); case h => (simp (disch := omega) only []; with_reducible rfl)) | ((with_reducible apply WP.bd); case h => (simp (disch := omega) only [e_gR, e_gI, e_aI, e_aL, e_oO, e_pI, e_wI, e_wL, Option.map_some, mS_sL, mR_sL, mI_sL, mS_sI, mR_sI, mL_sI, n_cl, hC1]; with_reducible rfl)) | rw [nm_eq] | rw [ckZ_n1] | rw [ckZ_n0])
      exact WP.ret ⟨rfl, g1, fun z => by cases z⟩
    · have hnt1 : ∀ i, i < nC D → nT D i < now + 1 → ntB T r D i = true := by
        intro i hi hlt
        by_cases e1 : nT D i < now
        · exact hnt i hi e1
        · have e2 : nT D i = now := by omega
          cases hf : fs (ntH D (fun s => tl T r now s) now) (nC D) with
          | some x => rw [hf] at e; cases e
          | none =>
            have := fs_none hf i hi
            unfold ntH at this
            rw [decide_eq_true e2, Bool.true_and] at this
            unfold ntB
            rw [e2]
            by_cases z : nJ D i = tl T r now (nS D i)
            · exact decide_eq_true z.symm
            · rw [decide_eq_false z] at this; cases this
      unfold f_X0_allNotesHold_J104
      rw [n_add]
      by_cases e3 : n1 = now + 1
      · refine WP.it (by rw [e3]; rfl) ?_
        repeat (first | ((with_reducible apply WP.ce); case h => (simp (disch := omega) only []; with_reducible rfl)) | ((with_reducible apply WP.bd); case h => (simp (disch := omega) only [e_gR, e_gI, e_aI, e_aL, e_oO, e_pI, e_wI, e_wL, Option.map_some, mS_sL, mR_sL, mI_sL, mS_sI, mR_sI, mL_sI, n_cl, cob_37 hC1, cr_37_pilot hC1, cob_30 hC1, cr_said hC1, cr_tells hC1]; with_reducible rfl)) | rw [nm_eq] | rw [ckZ_n1] | rw [ckZ_n0])
        refine WP.bd (cpy_ok (l0 := 5) (l1 := 35) (cl_said hC1) (cl_tells hC1) (by decide) (by decide) (by decide) (by omega) (by decide) (by decide)) ?_
        have v1 : ∀ i, i < 5 → va_cpy (mI M1 31) (mI M1 45) 0 a 5 (a + i) = mI M1 31 i := by
          intro i hi
          unfold va_cpy
          rw [if_pos (by omega)]
          congr 1
          omega
        have v2 : ∀ j, (j < a ∨ a + 5 ≤ j) → va_cpy (mI M1 31) (mI M1 45) 0 a 5 j = mI M1 45 j := by
          intro j hj
          unfold va_cpy
          rw [if_neg (by omega)]
        refine ih (now + 1) f _ (by omega) (g1.tr ⟨⟨⟨rfl, fun _ _ _ => rfl, fun b hb => mI_sIr_o _ _ (by omega), fun _ _ => rfl⟩, rfl⟩, mI_sIr_o _ _ (by omega), mI_sIr_o _ _ (by omega), fun j hj => by rw [mI_sIr_s]; exact v2 j hj⟩) (c3.of (fun i hi => mI_sIr_o _ _ (by omega))) hnt1 (fun n hn2 hlt s hs5 => ?_)
        have : n = now := by omega
        subst this
        rw [mI_sIr_s, v1 s (by omega)]
        exact c4' s hs5
      · refine WP.ie ?_ ?_
        · cases n1 with
          | zero =>
            show ¬ (nI now = -1)
            rw [nI_m1 (by omega)]; exact fun h => h
          | succ n1 =>
            show ¬ (nI now = nI n1)
            rw [n_eq (by omega) (by omega)]; omega
        · refine ih (now + 1) f M1 (by omega) g1 c3 hnt1 (fun n hn2 hlt s hs5 => ?_)
          rw [c2.2.2.1 45 (by omega) (by omega) (by omega) (by omega) (by omega) (by omega)]
          exact htl n hn2 (by omega) s hs5
theorem c_allNotes {M : Mem} {T : TD} {S : SC} {r : Option RD} {D : ND} (h : CA M T S r) (hN0 : CNb M 14 D) (hD : NOk T D) {n1 a : Nat} (hn : n1 ≤ 61) (ha : a + 5 ≤ 35) :
    WP (f_X0_allNotesHold 37 (eP (rkO n1)) (nI a) M) (fun v M' => v = bI (fit T r D) ∧ AK a M M' ∧ (fit T r D = true → ∀ n, n1 = n + 1 → ∀ s, s < tN T → mI M' 45 (a + s) = eP (tl T r n s))) := by
  have h0 := h
  obtain ⟨⟨hC, hT, hS, hr⟩, hk, hs, h9⟩ := h
  have h10 := hD.1
  have lp : ∀ d i f, i + d = nC D → WP (f_X0_allNotesHold_L5 37 (f + d + 1) (eP (rkO n1)) (nI a) (eP (rkO (lsN D n1 i))) (nI i) M) (fun v M' => v = bI (fit T r D) ∧ AK a M M' ∧ (fit T r D = true → ∀ n, n1 = n + 1 → ∀ s, s < tN T → mI M' 45 (a + s) = eP (tl T r n s))) := by
    intro d
    induction d with
    | zero =>
      intro i f hi
      have hi : i = nC D := by omega
      subst hi
      have hL := lsN_le hD hn (nC D) (Nat.le_refl _)
      rw [f_X0_allNotesHold_L5]
      repeat (first | ((with_reducible apply WP.ce); case h => (simp (disch := omega) only []; with_reducible rfl)) | ((with_reducible apply WP.bd); case h => (simp (disch := omega) only [e_gR, e_gI, e_aI, e_aL, e_oO, e_pI, e_wI, e_wL, Option.map_some, mS_sL, mR_sL, mI_sL, mS_sI, mR_sI, mL_sI, n_cl, cob_37 hC, cr_37_book hC, book_o (ci_book hC), hN0.1]; with_reducible rfl)) | rw [nm_eq] | rw [ckZ_n1] | rw [ckZ_n0])
      refine WP.it (by rw [n_le (by omega) (by omega)]; omega) ?_
      repeat (first | ((with_reducible apply WP.ce); case h => (simp (disch := omega) only []; with_reducible rfl)) | ((with_reducible apply WP.bd); case h => (simp (disch := omega) only [e_gR, e_gI, e_aI, e_aL, e_oO, e_pI, e_wI, e_wL, Option.map_some, mS_sL, mR_sL, mI_sL, mS_sI, mR_sI, mL_sI, n_cl, cob_37 hC, cr_37_work hC, cr_37_told hC, scene_o (ci_work hC)]; with_reducible rfl)) | rw [nm_eq] | rw [ckZ_n1] | rw [ckZ_n0])
      refine WP.cw (c_begin hk (ci_told hC) hT (ci_work hC) (by omega)) (fun _ M1 c => ?_)
      obtain ⟨f2, hf2⟩ := FUd (lsN D n1 (nC D)) (by omega)
      rw [hf2]
      exact c_allN h0 hN0 hD hn ha (lsN D n1 (nC D)) 0 f2 M1 (by omega) (c.1.AK a) c.2 (fun i _ hi => absurd hi (Nat.not_lt_zero _)) (fun n _ hn => absurd hn (Nat.not_lt_zero _))
    | succ d ih =>
      intro i f hi
      obtain ⟨k1, k2, k3⟩ := hN0.2 i (by omega)
      have hL := lsN_le hD hn i (by omega)
      have hd1 := (hD.2 i (by omega)).1
      have x1 : ixS (mS M) 0 (some (14 + 11)) (nI i) = some (14 + 11) := book_x_noteTide (ci_book hC) (by omega)
      rw [show f + (d + 1) + 1 = (f + d + 1) + 1 from by omega, f_X0_allNotesHold_L5]
      repeat (first | ((with_reducible apply WP.ce); case h => (simp (disch := omega) only []; with_reducible rfl)) | ((with_reducible apply WP.bd); case h => (simp (disch := omega) only [e_gR, e_gI, e_aI, e_aL, e_oO, e_pI, e_wI, e_wL, Option.map_some, mS_sL, mR_sL, mI_sL, mS_sI, mR_sI, mL_sI, n_cl, cob_37 hC, cr_37_book hC, book_o (ci_book hC), hN0.1]; with_reducible rfl)) | rw [nm_eq] | rw [ckZ_n1] | rw [ckZ_n0])
      refine WP.ie (by rw [n_le (by omega) (by omega)]; omega) ?_
      repeat (first | ((with_reducible apply WP.ce); case h => (simp (disch := omega) only []; with_reducible rfl)) | ((with_reducible apply WP.bd); case h => (simp (disch := omega) only [e_gR, e_gI, e_aI, e_aL, e_oO, e_pI, e_wI, e_wL, Option.map_some, mS_sL, mR_sL, mI_sL, mS_sI, mR_sI, mL_sI, n_cl, cob_37 hC, cr_37_book hC, book_o (ci_book hC), book_r_noteTide (ci_book hC), x1, k1]; with_reducible rfl)) | rw [nm_eq] | rw [ckZ_n1] | rw [ckZ_n0])
      rw [n_add]
      have e := ih (i + 1) f (by omega)
      rw [lsN] at e
      by_cases hc : lsN D n1 i < nT D i + 1
      · rw [if_pos hc] at e
        rw [if_pos (by rw [lt_rk (by omega) (by omega)]; exact hc)]
        exact e
      · rw [if_neg hc] at e
        rw [if_neg (by rw [lt_rk (by omega) (by omega)]; exact hc)]
        exact e
  obtain ⟨f, hf⟩ := FUd (nC D) (by omega)
  rw [f_X0_allNotesHold, hf]
  exact lp (nC D) 0 f (by omega)
