/-! THE CLASS: the clauses of a bar -/
def FC (M M' : Mem) : Prop := mS M' = mS M ∧ mR M' = mR M ∧ (∀ a, a = 0 ∨ a = 2 ∨ a = 3 ∨ 9 < a → mI M' a = mI M a) ∧ mI M' 1 1 = mI M 1 1
theorem FQ.FC {M M' : Mem} (h : FQ M M') : FC M M' := ⟨h.1, h.2.1, fun a ha => h.2.2.1 a (by omega), h.2.2.2⟩
theorem FR.FC {M M' : Mem} (h : FR M M') : FC M M' := ⟨h.1, h.2.1, fun a ha => h.2.2.1 a (by omega), by rw [h.2.2.1 1 (by omega)]⟩
theorem FC.rf (M : Mem) : FC M M := ⟨rfl, rfl, fun _ _ => rfl, rfl⟩
theorem FC.tr {M1 M2 M3 : Mem} (h1 : FC M1 M2) (h2 : FC M2 M3) : FC M1 M3 := ⟨h2.1.trans h1.1, h2.2.1.trans h1.2.1, fun a h => (h2.2.2.1 a h).trans (h1.2.2.1 a h), h2.2.2.2.trans h1.2.2.2⟩
theorem FC.CI {M M' : Mem} (h : FC M M') (hC : CIs (mS M) (mR M)) : CIs (mS M') (mR M') := by rw [h.1, h.2.1]; exact hC
theorem FC.tp {M M' : Mem} {t : TP} (h : FC M M') (ht : CTp M t) : CTp M' t := ⟨h.2.2.2.trans ht.1, by rw [h.2.2.1 2 (by omega)]; exact ht.2⟩
theorem TK.of {M M' : Mem} {t : TP} {p : Nat} (h : TK M t p) (e : mI M' 1 = mI M 1) (e2 : mL M' 1 = mL M 1) : TK M' t p := by
  unfold TK
  rw [e, e2]
  exact h
theorem FR.tk {M M' : Mem} {t : TP} {p : Nat} (f : FR M M') (h : TK M t p) : TK M' t p := h.of (f.2.2.1 1 (by omega)) (by rw [f.2.2.2])
theorem CR.of {M M' : Mem} {T : TD} (h : CR M T) (e : ∀ a, 4 ≤ a → a ≤ 9 → mI M' a = mI M a) : CR M' T := by
  obtain ⟨h1, h2, h3, h4, h5⟩ := h
  refine ⟨by rw [e 4 (by omega) (by omega)]; exact h1, by rw [e 5 (by omega) (by omega)]; exact h2, by rw [e 6 (by omega) (by omega), e 7 (by omega) (by omega)]; exact h3, by rw [e 8 (by omega) (by omega)]; exact h4, h5.of (e 9 (by omega) (by omega)) (fun _ _ _ _ _ _ _ => Iff.rfl)⟩
theorem FQ.cr {M M' : Mem} {T : TD} (f : FQ M M') (h : CR M T) : CR M' T := h.of (fun a a1 a2 => f.2.2.1 a (by omega))
/-- how a part of a clause ends -/
def RP (M : Mem) (t : TP) (r : Nat × Nat × TD) (v : Int32) (M' : Mem) : Prop := FC M M' ∧ ((r.1 = 0 ∧ v = nI 1 ∧ TK M' t r.2.1 ∧ mI M' 1 2 = nI 0 ∧ CR M' r.2.2) ∨ (r.1 ≠ 0 ∧ v = nI 0 ∧ mI M' 1 2 = nI r.1))
theorem RP.up {M M1 M' : Mem} {t : TP} {r : Nat × Nat × TD} {v : Int32} (h : RP M1 t r v M') (f : FC M M1) : RP M t r v M' := ⟨f.tr h.1, h.2⟩
theorem nm1 {a : Nat} (h : a < 2 ^ 31) : ¬ nI a = -1 := fun z => by
  have h1 := congrArg Int32.toInt z
  rw [nI_toInt h] at h1
  have h2 : (-1 : Int32).toInt = -1 := by decide
  omega
section CBZ
variable {M : Mem} {T : TD} {t : TP} {p : Nat}
theorem y_readShip (hC : CIs (mS M) (mR M)) (ht : CTp M t) (h4 : TOk2 t) (hp : p ≤ t.1) (hk : TK M t p) (h2 : mI M 1 2 = nI 0) (hT : CR M T) (hn : tN T < 5) : WP (f_X1_readShip 3 M) (RP M t (brP t p T 2)) := by
  have V1 := tkV_lt h4 p
  have V2 := tkV_lt h4 (tkE t p)
  have er : brP t p T 2 = (nm2 t p 0 100 0 61, tkE t (tkE t p), tdS T (tkV t p) (tkV t (tkE t p))) := rfl
  rw [er]
  have j : ∀ (N : Mem) (x : Int32), WP (f_X1_readShip_J30 3 x (-1) N) (fun v M' => M' = N ∧ v = nI 0) := fun N x => by
    unfold f_X1_readShip_J30
    refine WP.it rfl ?_
    rw [ckZ_n0]
    exact WP.ret ⟨rfl, rfl⟩
  unfold f_X1_readShip
  repeat (first | ((with_reducible apply WP.ce); case h => (simp (disch := omega) only []; with_reducible rfl)) | ((with_reducible apply WP.bd); case h => (simp (disch := omega) only [e_gR, e_gI, e_aI, e_aL, e_oO, e_pI, e_wI, e_wL, Option.map_some, mS_sL, mR_sL, mI_sL, mS_sI, mR_sI, mL_sI, n_cl, cob_3 hC, cr_3_tape hC, cob_1 hC]; with_reducible rfl)) | rw [nm_eq] | rw [ckZ_n1] | rw [ckZ_n0])
  refine WP.cw (c_take hC ht h4 (lo := 0) (N := 100) hp hk h2 (by decide) (by decide) (hi := nI 99) (by decide)) (fun v M1 c => ?_)
  obtain ⟨f1, c⟩ := c
  have hC1 := f1.CI hC
  rcases c with ⟨z1, rfl, k1, g1⟩ | ⟨z1, rfl, g1⟩
  · refine WP.ie (nm1 (by omega)) ?_
    repeat (first | ((with_reducible apply WP.ce); case h => (simp (disch := omega) only []; with_reducible rfl)) | ((with_reducible apply WP.bd); case h => (simp (disch := omega) only [e_gR, e_gI, e_aI, e_aL, e_oO, e_pI, e_wI, e_wL, Option.map_some, mS_sL, mR_sL, mI_sL, mS_sI, mR_sI, mL_sI, n_cl, cob_3 hC1, cr_3_tape hC1, cob_1 hC1]; with_reducible rfl)) | rw [nm_eq] | rw [ckZ_n1] | rw [ckZ_n0])
    refine WP.cw (c_take hC1 (f1.tp ht) h4 (lo := 0) (N := 61) (tkE_le hp).1 k1 g1 (by decide) (by decide) (hi := nI 60) (by decide)) (fun v M2 c => ?_)
    obtain ⟨f2, c⟩ := c
    have hC2 := f2.CI hC1
    have f12 := f1.tr f2
    have e : nm2 t p 0 100 0 61 = nmF t (tkE t p) 0 61 := by unfold nm2; rw [if_pos z1]
    rw [e]
    rcases c with ⟨z2, rfl, k2, g2⟩ | ⟨z2, rfl, g2⟩
    · unfold f_X1_readShip_J30
      refine WP.ie (nm1 (by omega)) ?_
      repeat (first | ((with_reducible apply WP.ce); case h => (simp (disch := omega) only []; with_reducible rfl)) | ((with_reducible apply WP.bd); case h => (simp (disch := omega) only [e_gR, e_gI, e_aI, e_aL, e_oO, e_pI, e_wI, e_wL, Option.map_some, mS_sL, mR_sL, mI_sL, mS_sI, mR_sI, mL_sI, n_cl, cob_3 hC2, cr_3_told hC2, told_o (ci_told4 hC2)]; with_reducible rfl)) | rw [nm_eq] | rw [ckZ_n1] | rw [ckZ_n0])
      refine WP.cw (c_addShip (ci_told4 hC2) (f12.cr hT) hn _ _) (fun _ M3 c3 => ?_)
      rw [ckZ_n1]
      exact WP.ret ⟨f12.FC.tr c3.1.FC, Or.inl ⟨z2, rfl, c3.1.tk k2, by rw [c3.1.2.2.1 1 (by omega)]; exact g2, c3.2⟩⟩
    · exact WP.mono (j M2 _) (fun v M' c => ⟨by rw [c.1]; exact f12.FC, Or.inr ⟨z2, c.2, by rw [c.1]; exact g2⟩⟩)
  · refine WP.it rfl ?_
    have e : nm2 t p 0 100 0 61 = nmF t p 0 100 := by unfold nm2; rw [if_neg z1]
    rw [e]
    exact WP.mono (j M1 _) (fun v M' c => ⟨by rw [c.1]; exact f1.FC, Or.inr ⟨z1, c.2, by rw [c.1]; exact g1⟩⟩)
theorem y_readBar (hC : CIs (mS M) (mR M)) (ht : CTp M t) (h4 : TOk2 t) (hp : p ≤ t.1) (hk : TK M t p) (h2 : mI M 1 2 = nI 0) (hT : CR M T) : WP (f_X1_readBar 3 M) (RP M t (brP t p T 0)) := by
  have V1 := tkV_lt h4 p
  have V2 := tkV_lt h4 (tkE t p)
  have er : brP t p T 0 = (nm2 t p 1 61 1 4, tkE t (tkE t p), tdB T (tkV t p) (tkV t (tkE t p))) := rfl
  rw [er]
  have j45 : ∀ (N : Mem) (x : Int32), CIs (mS N) (mR N) → WP (f_X1_readBar_J45 3 x (some 4) N) (fun v M' => M' = sI N 4 2 x ∧ v = if x = -1 then nI 0 else nI 1) := fun N x hN => by
    have hI := ci_told4 hN
    have g : mI (sI N 4 2 x) 4 2 = x := by rw [mI_sI, if_pos ⟨rfl, rfl⟩]
    unfold f_X1_readBar_J45 f_X1_readBar_J64
    repeat (first | ((with_reducible apply WP.ce); case h => (simp (disch := omega) only []; with_reducible rfl)) | ((with_reducible apply WP.bd); case h => (simp (disch := omega) only [e_gR, e_gI, e_aI, e_aL, e_oO, e_pI, e_wI, e_wL, Option.map_some, mS_sL, mR_sL, mI_sL, mS_sI, mR_sI, mL_sI, n_cl, cob_3 hN, cr_3_told hN, told_o hI, g]; with_reducible rfl)) | rw [nm_eq] | rw [ckZ_n1] | rw [ckZ_n0])
    by_cases e : x = -1
    · refine WP.it e ?_
      rw [if_pos e]
      exact WP.ret ⟨rfl, rfl⟩
    · refine WP.ie e ?_
      rw [if_neg e]
      exact WP.ret ⟨rfl, rfl⟩
  have fw : ∀ (N : Mem) (k : Nat) (x : Int32), FR N (sI N 4 k x) := fun N k x => FR.w N (by omega) _ _
  unfold f_X1_readBar
  repeat (first | ((with_reducible apply WP.ce); case h => (simp (disch := omega) only []; with_reducible rfl)) | ((with_reducible apply WP.bd); case h => (simp (disch := omega) only [e_gR, e_gI, e_aI, e_aL, e_oO, e_pI, e_wI, e_wL, Option.map_some, mS_sL, mR_sL, mI_sL, mS_sI, mR_sI, mL_sI, n_cl, cob_3 hC, cr_3_told hC, cr_3_tape hC, cob_1 hC]; with_reducible rfl)) | rw [nm_eq] | rw [ckZ_n1] | rw [ckZ_n0])
  refine WP.cw (c_take hC ht h4 (lo := 1) (N := 61) hp hk h2 (by decide) (by decide) (hi := nI 60) (by decide)) (fun v M1 c => ?_)
  obtain ⟨f1, c⟩ := c
  have hC1 := f1.CI hC
  obtain ⟨M2, hM2⟩ : ∃ M2, M2 = sI M1 4 1 v := ⟨_, rfl⟩
  have f2 : FR M1 M2 := by rw [hM2]; exact fw M1 1 v
  have hC2 := f2.CI hC1
  have g2 : mI M2 4 1 = v := by rw [hM2, mI_sI, if_pos ⟨rfl, rfl⟩]
  repeat (first | ((with_reducible apply WP.ce); case h => (simp (disch := omega) only []; with_reducible rfl)) | ((with_reducible apply WP.bd); case h => (simp (disch := omega) only [e_gR, e_gI, e_aI, e_aL, e_oO, e_pI, e_wI, e_wL, Option.map_some, mS_sL, mR_sL, mI_sL, mS_sI, mR_sI, mL_sI, n_cl, told_o (ci_told4 hC1), ← hM2]; with_reducible rfl)) | rw [nm_eq] | rw [ckZ_n1] | rw [ckZ_n0])
  repeat (first | ((with_reducible apply WP.ce); case h => (simp (disch := omega) only []; with_reducible rfl)) | ((with_reducible apply WP.bd); case h => (simp (disch := omega) only [e_gR, e_gI, e_aI, e_aL, e_oO, e_pI, e_wI, e_wL, Option.map_some, mS_sL, mR_sL, mI_sL, mS_sI, mR_sI, mL_sI, n_cl, cob_3 hC2, cr_3_told hC2, told_o (ci_told4 hC2), g2]; with_reducible rfl)) | rw [nm_eq] | rw [ckZ_n1] | rw [ckZ_n0])
  rcases c with ⟨z1, rfl, k1, g1⟩ | ⟨z1, rfl, g1⟩
  · refine WP.ie (nm1 (by omega)) ?_
    repeat (first | ((with_reducible apply WP.ce); case h => (simp (disch := omega) only []; with_reducible rfl)) | ((with_reducible apply WP.bd); case h => (simp (disch := omega) only [e_gR, e_gI, e_aI, e_aL, e_oO, e_pI, e_wI, e_wL, Option.map_some, mS_sL, mR_sL, mI_sL, mS_sI, mR_sI, mL_sI, n_cl, cob_3 hC2, cr_3_tape hC2, cob_1 hC2]; with_reducible rfl)) | rw [nm_eq] | rw [ckZ_n1] | rw [ckZ_n0])
    refine WP.cw (c_take hC2 (f2.FC.tp (f1.tp ht)) h4 (lo := 1) (N := 4) (tkE_le hp).1 (f2.tk k1) (by rw [f2.2.2.1 1 (by omega)]; exact g1) (by decide) (by decide) (hi := nI 3) (by decide)) (fun v M3 c => ?_)
    obtain ⟨f3, c⟩ := c
    have hC3 := f3.CI hC2
    have e : nm2 t p 1 61 1 4 = nmF t (tkE t p) 1 4 := by unfold nm2; rw [if_pos z1]
    rw [e]
    refine WP.mono (j45 M3 v hC3) (fun v' M' c' => ?_)
    obtain ⟨rfl, rfl⟩ := c'
    have f4 := fw M3 2 v
    refine ⟨(f1.FC.tr f2.FC).tr (f3.FC.tr f4.FC), ?_⟩
    rcases c with ⟨z2, rfl, k2, q2⟩ | ⟨z2, rfl, q2⟩
    · rw [if_neg (nm1 (by omega))]
      refine Or.inl ⟨z2, rfl, f4.tk k2, by rw [f4.2.2.1 1 (by omega)]; exact q2, ?_⟩
      obtain ⟨⟨⟨b0, t0⟩, t1, t2, t3, t4⟩, q, w, u, nr⟩ := f3.cr (T := tdB T (tkV t p) (tK T)) (M := M2) (by
        obtain ⟨⟨⟨b0, t0⟩, t1, t2, t3, t4⟩, q, w, u, nr⟩ := f1.cr hT
        have g : ∀ k, k ≠ 1 → mI M2 4 k = mI M1 4 k := fun k hk => by rw [hM2, mI_sI, if_neg (by omega)]
        have r : ∀ a, a ≠ 4 → mI M2 a = mI M1 a := fun a ha => by rw [hM2, sI_row ha]
        exact ⟨⟨⟨b0, (g 0 (by decide)).trans t0⟩, g2, (g 2 (by decide)).trans t2, (g 3 (by decide)).trans t3, (g 4 (by decide)).trans t4⟩, by rw [r 5 (by decide)]; exact q, by rw [r 6 (by decide), r 7 (by decide)]; exact w, by rw [r 8 (by decide)]; exact u, nr.of (r 9 (by decide)) (fun _ _ _ _ _ _ _ => Iff.rfl)⟩)
      have g : ∀ k, k ≠ 2 → mI (sI M3 4 2 (nI (tkV t (tkE t p)))) 4 k = mI M3 4 k := fun k hk => by rw [mI_sI, if_neg (by omega)]
      have r : ∀ a, a ≠ 4 → mI (sI M3 4 2 (nI (tkV t (tkE t p)))) a = mI M3 a := fun a ha => sI_row ha
      exact ⟨⟨⟨b0, (g 0 (by decide)).trans t0⟩, (g 1 (by decide)).trans t1, by rw [mI_sI, if_pos ⟨rfl, rfl⟩]; rfl, (g 3 (by decide)).trans t3, (g 4 (by decide)).trans t4⟩, by rw [r 5 (by decide)]; exact q, by rw [r 6 (by decide), r 7 (by decide)]; exact w, by rw [r 8 (by decide)]; exact u, nr.of (r 9 (by decide)) (fun _ _ _ _ _ _ _ => Iff.rfl)⟩
    · rw [if_pos rfl]
      exact Or.inr ⟨z2, rfl, by rw [f4.2.2.1 1 (by omega)]; exact q2⟩
  · refine WP.it rfl ?_
    have e : nm2 t p 1 61 1 4 = nmF t p 1 61 := by unfold nm2; rw [if_neg z1]
    rw [e]
    refine WP.mono (j45 M2 _ hC2) (fun v' M' c' => ?_)
    obtain ⟨rfl, rfl⟩ := c'
    have f4 := fw M2 2 (-1)
    rw [if_pos rfl]
    exact ⟨(f1.FC.tr f2.FC).tr f4.FC, Or.inr ⟨z1, rfl, by rw [f4.2.2.1 1 (by omega), f2.2.2.1 1 (by omega)]; exact g1⟩⟩
theorem y_readJoke (hC : CIs (mS M) (mR M)) (ht : CTp M t) (h4 : TOk2 t) (hp : p ≤ t.1) (hk : TK M t p) (h2 : mI M 1 2 = nI 0) (hT : CR M T) (hb : BTk T) (hn : tJ T < 8) : WP (f_X1_readJoke 3 M) (RP M t (brP t p T 1)) := by
  have V1 := tkV_lt h4 p
  have V2 := tkV_lt h4 (tkE t p)
  have V3 := tkV_lt h4 (tkE t (tkE t p))
  have er : brP t p T 1 = ((if nm2 t p 0 10 0 10 = 0 then nmF t (tkE t (tkE t p)) 0 10 else nm2 t p 0 10 0 10), tkE t (tkE t (tkE t p)), tdJ T (tkV t p) (tkV t (tkE t p)) (tkV t (tkE t (tkE t p)))) := rfl
  rw [er]
  have lt10 : ∀ {q : Nat}, nmF t q 0 10 = 0 → tkV t q < 10 := fun {q} z => by
    unfold nmF at z
    split at z
    · split at z
      · omega
      · omega
    · omega
  have j50 : ∀ (N : Mem) (x y : Int32), WP (f_X1_readJoke_J50 3 x y (-1) N) (fun v M' => M' = N ∧ v = nI 0) := fun N x y => by
    unfold f_X1_readJoke_J50
    refine WP.it rfl ?_
    rw [ckZ_n0]
    exact WP.ret ⟨rfl, rfl⟩
  have j30 : ∀ (N : Mem) (x : Int32), WP (f_X1_readJoke_J30 3 x (-1) N) (fun v M' => M' = N ∧ v = nI 0) := fun N x => by
    unfold f_X1_readJoke_J30
    exact WP.it rfl (j50 N _ _)
  unfold f_X1_readJoke
  repeat (first | ((with_reducible apply WP.ce); case h => (simp (disch := omega) only []; with_reducible rfl)) | ((with_reducible apply WP.bd); case h => (simp (disch := omega) only [e_gR, e_gI, e_aI, e_aL, e_oO, e_pI, e_wI, e_wL, Option.map_some, mS_sL, mR_sL, mI_sL, mS_sI, mR_sI, mL_sI, n_cl, cob_3 hC, cr_3_tape hC, cob_1 hC]; with_reducible rfl)) | rw [nm_eq] | rw [ckZ_n1] | rw [ckZ_n0])
  refine WP.cw (c_take hC ht h4 (lo := 0) (N := 10) hp hk h2 (by decide) (by decide) (hi := nI 9) (by decide)) (fun v M1 c => ?_)
  obtain ⟨f1, c⟩ := c
  have hC1 := f1.CI hC
  rcases c with ⟨z1, rfl, k1, g1⟩ | ⟨z1, rfl, g1⟩
  · refine WP.ie (nm1 (by omega)) ?_
    repeat (first | ((with_reducible apply WP.ce); case h => (simp (disch := omega) only []; with_reducible rfl)) | ((with_reducible apply WP.bd); case h => (simp (disch := omega) only [e_gR, e_gI, e_aI, e_aL, e_oO, e_pI, e_wI, e_wL, Option.map_some, mS_sL, mR_sL, mI_sL, mS_sI, mR_sI, mL_sI, n_cl, cob_3 hC1, cr_3_tape hC1, cob_1 hC1]; with_reducible rfl)) | rw [nm_eq] | rw [ckZ_n1] | rw [ckZ_n0])
    refine WP.cw (c_take hC1 (f1.tp ht) h4 (lo := 0) (N := 10) (tkE_le hp).1 k1 g1 (by decide) (by decide) (hi := nI 9) (by decide)) (fun v M2 c => ?_)
    obtain ⟨f2, c⟩ := c
    have hC2 := f2.CI hC1
    have f12 := f1.tr f2
    have e : nm2 t p 0 10 0 10 = nmF t (tkE t p) 0 10 := by unfold nm2; rw [if_pos z1]
    rw [e]
    rcases c with ⟨z2, rfl, k2, g2⟩ | ⟨z2, rfl, g2⟩
    · rw [if_pos z2]
      unfold f_X1_readJoke_J30
      refine WP.ie (nm1 (by omega)) ?_
      repeat (first | ((with_reducible apply WP.ce); case h => (simp (disch := omega) only []; with_reducible rfl)) | ((with_reducible apply WP.bd); case h => (simp (disch := omega) only [e_gR, e_gI, e_aI, e_aL, e_oO, e_pI, e_wI, e_wL, Option.map_some, mS_sL, mR_sL, mI_sL, mS_sI, mR_sI, mL_sI, n_cl, cob_3 hC2, cr_3_tape hC2, cob_1 hC2]; with_reducible rfl)) | rw [nm_eq] | rw [ckZ_n1] | rw [ckZ_n0])
      refine WP.cw (c_take hC2 (f12.tp ht) h4 (lo := 0) (N := 10) (tkE_le (tkE_le hp).1).1 k2 g2 (by decide) (by decide) (hi := nI 9) (by decide)) (fun v M3 c => ?_)
      obtain ⟨f3, c⟩ := c
      have hC3 := f3.CI hC2
      have f123 := f12.tr f3
      rcases c with ⟨z3, rfl, k3, g3⟩ | ⟨z3, rfl, g3⟩
      · unfold f_X1_readJoke_J50
        refine WP.ie (nm1 (by omega)) ?_
        repeat (first | ((with_reducible apply WP.ce); case h => (simp (disch := omega) only []; with_reducible rfl)) | ((with_reducible apply WP.bd); case h => (simp (disch := omega) only [e_gR, e_gI, e_aI, e_aL, e_oO, e_pI, e_wI, e_wL, Option.map_some, mS_sL, mR_sL, mI_sL, mS_sI, mR_sI, mL_sI, n_cl, cob_3 hC3, cr_3_told hC3, told_o (ci_told4 hC3)]; with_reducible rfl)) | rw [nm_eq] | rw [ckZ_n1] | rw [ckZ_n0])
        refine WP.cw (c_addJoke hC3 (f123.cr hT) hb hn (lt10 z1) (lt10 z2) (lt10 z3)) (fun _ M4 c4 => ?_)
        rw [ckZ_n1]
        exact WP.ret ⟨f123.FC.tr c4.1.FC, Or.inl ⟨z3, rfl, c4.1.tk k3, by rw [c4.1.2.2.1 1 (by omega)]; exact g3, c4.2⟩⟩
      · exact WP.mono (j50 M3 _ _) (fun v M' c => ⟨by rw [c.1]; exact f123.FC, Or.inr ⟨z3, c.2, by rw [c.1]; exact g3⟩⟩)
    · rw [if_neg z2]
      exact WP.mono (j30 M2 _) (fun v M' c => ⟨by rw [c.1]; exact f12.FC, Or.inr ⟨z2, c.2, by rw [c.1]; exact g2⟩⟩)
  · refine WP.it rfl ?_
    have e : nm2 t p 0 10 0 10 = nmF t p 0 10 := by unfold nm2; rw [if_neg z1]
    rw [e, if_neg z1]
    exact WP.mono (j30 M1 _) (fun v M' c => ⟨by rw [c.1]; exact f1.FC, Or.inr ⟨z1, c.2, by rw [c.1]; exact g1⟩⟩)
theorem y_readKnows (hC : CIs (mS M) (mR M)) (ht : CTp M t) (h4 : TOk2 t) (hp : p ≤ t.1) (hk : TK M t p) (h2 : mI M 1 2 = nI 0) (hT : CR M T) (hb : BTk T) : WP (f_X1_readKnows 3 M) (RP M t (brP t p T 3)) := by
  have V1 := tkV_lt h4 p
  have V2 := tkV_lt h4 (tkE t p)
  have h8 := hb.1.2.2.1
  have h5 := hb.1.2.2.2
  have er : brP t p T 3 = (nm2 t p 0 (tN T) 0 (tJ T), tkE t (tkE t p), tdW T (tkV t p) (tkV t (tkE t p))) := rfl
  rw [er]
  have ltN : ∀ {q n : Nat}, nmF t q 0 n = 0 → tkV t q < n := fun {q n} z => by
    unfold nmF at z
    split at z
    · split at z
      · omega
      · omega
    · omega
  have j : ∀ (N : Mem) (x : Int32), WP (f_X1_readKnows_J44 3 x (-1) N) (fun v M' => M' = N ∧ v = nI 0) := fun N x => by
    unfold f_X1_readKnows_J44
    refine WP.it rfl ?_
    rw [ckZ_n0]
    exact WP.ret ⟨rfl, rfl⟩
  have t4 := hT.1.2.2.2.2
  unfold f_X1_readKnows
  repeat (first | ((with_reducible apply WP.ce); case h => (simp (disch := omega) only []; with_reducible rfl)) | ((with_reducible apply WP.bd); case h => (simp (disch := omega) only [e_gR, e_gI, e_aI, e_aL, e_oO, e_pI, e_wI, e_wL, Option.map_some, mS_sL, mR_sL, mI_sL, mS_sI, mR_sI, mL_sI, n_cl, cob_3 hC, cr_3_tape hC, cr_3_told hC, told_o (ci_told4 hC), t4, cob_1 hC]; with_reducible rfl)) | rw [nm_eq] | rw [ckZ_n1] | rw [ckZ_n0])
  refine WP.cw (c_take hC ht h4 (lo := 0) (N := tN T) hp hk h2 (by decide) (by omega) (hiN (by omega))) (fun v M1 c => ?_)
  obtain ⟨f1, c⟩ := c
  have hC1 := f1.CI hC
  have hT1 := f1.cr hT
  have t3 := hT1.1.2.2.2.1
  rcases c with ⟨z1, rfl, k1, g1⟩ | ⟨z1, rfl, g1⟩
  · have l1 := ltN z1
    refine WP.ie (nm1 (by omega)) ?_
    repeat (first | ((with_reducible apply WP.ce); case h => (simp (disch := omega) only []; with_reducible rfl)) | ((with_reducible apply WP.bd); case h => (simp (disch := omega) only [e_gR, e_gI, e_aI, e_aL, e_oO, e_pI, e_wI, e_wL, Option.map_some, mS_sL, mR_sL, mI_sL, mS_sI, mR_sI, mL_sI, n_cl, cob_3 hC1, cr_3_tape hC1, cr_3_told hC1, told_o (ci_told4 hC1), t3, cob_1 hC1]; with_reducible rfl)) | rw [nm_eq] | rw [ckZ_n1] | rw [ckZ_n0])
    refine WP.cw (c_take hC1 (f1.tp ht) h4 (lo := 0) (N := tJ T) (tkE_le hp).1 k1 g1 (by decide) (by omega) (hiN (by omega))) (fun v M2 c => ?_)
    obtain ⟨f2, c⟩ := c
    have hC2 := f2.CI hC1
    have f12 := f1.tr f2
    have e : nm2 t p 0 (tN T) 0 (tJ T) = nmF t (tkE t p) 0 (tJ T) := by unfold nm2; rw [if_pos z1]
    rw [e]
    rcases c with ⟨z2, rfl, k2, g2⟩ | ⟨z2, rfl, g2⟩
    · have l2 := ltN z2
      have hI2 := ci_told4 hC2
      obtain ⟨⟨⟨b0, t0⟩, t1, t2, t3, t4⟩, q, w, u, nr⟩ := f12.cr hT
      have uu := u (tkV t p) (by omega)
      unfold f_X1_readKnows_J44
      refine WP.ie (nm1 (by omega)) ?_
      repeat (first | ((with_reducible apply WP.ce); case h => (simp (disch := omega) only []; with_reducible rfl)) | ((with_reducible apply WP.bd); case h => (simp (disch := omega) only [e_gR, e_gI, e_aI, e_aL, e_oO, e_pI, e_wI, e_wL, Option.map_some, mS_sL, mR_sL, mI_sL, mS_sI, mR_sI, mL_sI, n_cl, cob_3 hC2, cr_3_told hC2, told_o hI2, told_r_knows hI2, told_x_knows hI2, uu, Nat.reduceAdd]; with_reducible rfl)) | rw [nm_eq] | rw [ckZ_n1] | rw [ckZ_n0])
      rw [n_shl (by omega), n_or]
      have f3 := FR.w M2 (a := 8) (by omega) (tkV t p) (nI (tW T (tkV t p) ||| 2 ^ tkV t (tkE t p)))
      refine WP.ret ⟨f12.FC.tr f3.FC, Or.inl ⟨z2, rfl, f3.tk k2, by rw [f3.2.2.1 1 (by omega)]; exact g2, ?_⟩⟩
      have r : ∀ a, a ≠ 8 → mI (sI M2 8 (tkV t p) (nI (tW T (tkV t p) ||| 2 ^ tkV t (tkE t p)))) a = mI M2 a := fun a ha => sI_row ha
      refine ⟨by rw [r 4 (by decide)]; exact ⟨⟨b0, t0⟩, t1, t2, t3, t4⟩, by rw [r 5 (by decide)]; exact q, by rw [r 6 (by decide), r 7 (by decide)]; exact w, fun s hs => ?_, nr.of (r 9 (by decide)) (fun _ _ _ _ _ _ _ => Iff.rfl)⟩
      show _ = nI (fset (tW T) (tkV t p) (tW T (tkV t p) ||| 2 ^ tkV t (tkE t p)) s)
      rw [mI_sI]
      by_cases e : s = tkV t p
      · rw [if_pos ⟨rfl, e⟩, e, fset_s]
      · rw [if_neg (fun z => e z.2), fset_o _ _ e]; exact u s hs
    · exact WP.mono (j M2 _) (fun v M' c => ⟨by rw [c.1]; exact f12.FC, Or.inr ⟨z2, c.2, by rw [c.1]; exact g2⟩⟩)
  · refine WP.it rfl ?_
    have e : nm2 t p 0 (tN T) 0 (tJ T) = nmF t p 0 (tN T) := by unfold nm2; rw [if_neg z1]
    rw [e]
    exact WP.mono (j M1 _) (fun v M' c => ⟨by rw [c.1]; exact f1.FC, Or.inr ⟨z1, c.2, by rw [c.1]; exact g1⟩⟩)
end CBZ
