/-! THE REFERENCE: image, back -/
variable {O : Mem}
def a_image (G : GD) (x : Int32) : Int32 × GD := if inR x 0 3 then (nI (sT (bS (zB G))), (G.1, G.2.1, G.2.2.1, fset (zM G) x.toNatClampNeg (some (zB G)))) else (-1, G)
def a_back (G : GD) (x : Int32) : Int32 × GD := if inR x 0 3 then (zM G x.toNatClampNeg).elim (-1, G) (fun B => (nI (sT (bS B)), wB G B)) else (-1, G)
theorem a_image_ok {G : GD} (hk : GOk G) (x : Int32) : GOk (a_image G x).2 := by
  unfold a_image
  split
  · refine ⟨hk.1, hk.2.1, hk.2.2.1, hk.2.2.2.1, fun k B hB => ?_⟩
    have hB : fset (zM G) x.toNatClampNeg (some (zB G)) k = some B := hB
    by_cases e : k = x.toNatClampNeg
    · rw [e, fset_s] at hB
      cases hB
      exact hk.1
    · rw [fset_o _ _ e] at hB
      exact hk.2.2.2.2 k B hB
  · exact hk
theorem a_back_ok {G : GD} (hk : GOk G) (x : Int32) : GOk (a_back G x).2 := by
  unfold a_back
  split
  · cases hi : zM G x.toNatClampNeg with
    | none => exact hk
    | some B => exact hk.b (hk.2.2.2.2 _ B hi)
  · exact hk
def ISm (m base : Nat) (M0 M : Mem) (o : Nat) (D : List (Nat × Nat × Nat)) : Prop := FX [m, m + 29, m + 35] M0 M ∧ (∀ k, k ≠ 52 → k ≠ 53 → mI M m k = mI M0 m k) ∧ mI M m 53 = nI 0 ∧ mI M m 52 = nI (base + o) ∧ (∀ i, i < base ∨ base + o ≤ i → mI M (m + 35) i = mI M0 (m + 35) i) ∧ ∀ q ∈ D, q.2.1 + q.2.2 ≤ o ∧ ∀ i, i < q.2.2 → mI M (m + 35) (base + q.2.1 + i) = mI M0 (m + q.1) i
theorem ISm.st {m base : Nat} {M0 M : Mem} {o : Nat} {D : List (Nat × Nat × Nat)} (hR : RIs (mS M0) (mR M0) m) (h : ISm m base M0 M o D) {a n : Nat} (ha : a ≠ 0 ∧ a ≠ 29 ∧ a ≠ 35) (hl : lnS (mS M0) (some (m + a)) = some (nI n)) (hx : ∀ i, i < n → ixS (mS M0) 0 (some (m + a)) (nI i) = some (m + a)) (hn : n ≤ 400) (hp : base + o + n ≤ 3000) :
    WP (f_X10_carryRow m (some (m + a)) M) (fun _ M' => ISm m base M0 M' (o + n) ((a, o, n) :: D) ∧ ∀ i, i < base + o → mI M' (m + 35) i = mI M (m + 35) i) := by
  obtain ⟨h1, h2, h3, h4, h5, h6⟩ := h
  refine WP.mono (r_carF (p := base + o) (h1.RI hR) (by rw [h1.1]; exact hl) (by rw [h1.1]; exact hx) (by omega) (by omega) hn hp h3 h4) (fun _ M' g => ?_)
  obtain ⟨g1, g2, g3⟩ := g
  have ea : mI M (m + a) = mI M0 (m + a) := h1.2.2 _ (by simp; omega)
  have lo : ∀ i, i < base + o ∨ base + o + n ≤ i → mI M' (m + 35) i = mI M (m + 35) i := fun i hi => by rw [g3, cpR_o _ _ hi]
  refine ⟨⟨h1.tr (g1.up (by simp)), fun k k1 k2 => by rw [g2, upd_o _ _ k1]; exact h2 k k1 k2, by rw [g2, upd_o _ _ (by decide)]; exact h3, by rw [g2, upd_s, Nat.add_assoc], fun i hi => ?_, fun q hq => ?_⟩, fun i hi => lo i (Or.inl hi)⟩
  · rw [lo i (by omega)]; exact h5 i (by omega)
  · rcases List.mem_cons.mp hq with hq | hq
    · subst hq
      refine ⟨Nat.le_refl _, fun i hi => ?_⟩
      show mI M' (m + 35) (base + o + i) = mI M0 (m + a) i
      rw [g3, cpR_i _ _ hi, ea]
    · obtain ⟨q1, q2⟩ := h6 q hq
      exact ⟨by omega, fun i hi => by rw [lo _ (by omega)]; exact q2 i hi⟩
theorem x_carry {m : Nat} {M0 : Mem} (hR : RIs (mS M0) (mR M0) m) {k : Nat} (hk : k < 4) : WP (f_X10_carriesAll m (nI k) (nI 0) M0) (fun _ M => ISm m (600 * k) M0 M 497 [(28, 97, 400), (10, 87, 10), (9, 77, 10), (8, 67, 10), (11, 62, 5), (4, 57, 5), (3, 52, 5), (2, 28, 24), (7, 22, 5), (6, 17, 5), (5, 9, 8), (1, 0, 9)] ∧ mI M (m + 35) (600 * k + 27) = mI M0 m 42) := by
  obtain ⟨Ma, hMa⟩ : ∃ Ma, Ma = sI (sI M0 m 52 (nI (600 * k))) m 53 (nI 0) := ⟨_, rfl⟩
  have c0 : ISm m (600 * k) M0 Ma 0 [] := by
    rw [hMa]
    refine ⟨((FX.rf _ M0).sI (by simp) _ _).sI (by simp) _ _, fun j j1 j2 => by rw [mI_sI, if_neg (by omega), mI_sI, if_neg (by omega)], by rw [mI_sI, if_pos ⟨rfl, rfl⟩], by rw [mI_sI, if_neg (by omega), mI_sI, if_pos ⟨rfl, rfl⟩]; rfl, fun i _ => by rw [sI_row (by omega), sI_row (by omega)], fun q hq => by cases hq⟩
  have hRa := c0.1.RI hR
  unfold f_X10_carriesAll
  repeat (first | ((with_reducible apply WP.ce); case h => (simp (disch := omega) only []; with_reducible rfl)) | ((with_reducible apply WP.bd); case h => (simp (disch := omega) only [e_gR, e_gI, e_aI, e_aL, e_oO, e_pI, e_wI, e_wL, Option.map_some, mS_sL, mR_sL, mI_sL, mS_sI, mR_sI, mL_sI, n_cl, ro_m hR, n_mul, ← hMa]; with_reducible rfl)) | rw [nm_eq] | rw [ckZ_n1] | rw [ckZ_n0])
  repeat (first | ((with_reducible apply WP.ce); case h => (simp (disch := omega) only []; with_reducible rfl)) | ((with_reducible apply WP.bd); case h => (simp (disch := omega) only [e_gR, e_gI, e_aI, e_aL, e_oO, e_pI, e_wI, e_wL, Option.map_some, mS_sL, mR_sL, mI_sL, mS_sI, mR_sI, mL_sI, n_cl, ro_m hRa, rr_scalar hRa]; with_reducible rfl)) | rw [nm_eq] | rw [ckZ_n1] | rw [ckZ_n0])
  refine WP.cw (ISm.st hR c0 (a := 1) (by omega) (rl_scalar hR) (fun i hi => rx_scalar hR hi) (by decide) (by omega)) (fun _ M1 c1 => ?_)
  have hR1 := c1.1.1.RI hR
  repeat (first | ((with_reducible apply WP.ce); case h => (simp (disch := omega) only []; with_reducible rfl)) | ((with_reducible apply WP.bd); case h => (simp (disch := omega) only [e_gR, e_gI, e_aI, e_aL, e_oO, e_pI, e_wI, e_wL, Option.map_some, mS_sL, mR_sL, mI_sL, mS_sI, mR_sI, mL_sI, n_cl, ro_m hR1, rr_heard hR1]; with_reducible rfl)) | rw [nm_eq] | rw [ckZ_n1] | rw [ckZ_n0])
  refine WP.cw (ISm.st hR c1.1 (a := 5) (by omega) (rl_heard hR) (fun i hi => rx_heard hR hi) (by decide) (by omega)) (fun _ M2 c2 => ?_)
  have hR2 := c2.1.1.RI hR
  repeat (first | ((with_reducible apply WP.ce); case h => (simp (disch := omega) only []; with_reducible rfl)) | ((with_reducible apply WP.bd); case h => (simp (disch := omega) only [e_gR, e_gI, e_aI, e_aL, e_oO, e_pI, e_wI, e_wL, Option.map_some, mS_sL, mR_sL, mI_sL, mS_sI, mR_sI, mL_sI, n_cl, ro_m hR2, rr_knows hR2]; with_reducible rfl)) | rw [nm_eq] | rw [ckZ_n1] | rw [ckZ_n0])
  refine WP.cw (ISm.st hR c2.1 (a := 6) (by omega) (rl_knows hR) (fun i hi => rx_knows hR hi) (by decide) (by omega)) (fun _ M3 c3 => ?_)
  have hR3 := c3.1.1.RI hR
  repeat (first | ((with_reducible apply WP.ce); case h => (simp (disch := omega) only []; with_reducible rfl)) | ((with_reducible apply WP.bd); case h => (simp (disch := omega) only [e_gR, e_gI, e_aI, e_aL, e_oO, e_pI, e_wI, e_wL, Option.map_some, mS_sL, mR_sL, mI_sL, mS_sI, mR_sI, mL_sI, n_cl, ro_m hR3, rr_passed hR3]; with_reducible rfl)) | rw [nm_eq] | rw [ckZ_n1] | rw [ckZ_n0])
  refine WP.cw (ISm.st hR c3.1 (a := 7) (by omega) (rl_passed hR) (fun i hi => rx_passed hR hi) (by decide) (by omega)) (fun _ M4 c4 => ?_)
  have hR4 := c4.1.1.RI hR
  refine WP.ie (by rw [n_eq (by omega) (by omega)]; omega) ?_
  have e42 : mI M4 m 42 = mI M0 m 42 := c4.1.2.1 42 (by decide) (by decide)
  obtain ⟨M5, hM5⟩ : ∃ M5, M5 = sI M4 (m + 29) 0 (mI M0 m 42) := ⟨_, rfl⟩
  have hR5 : RIs (mS M5) (mR M5) m := by rw [hM5]; exact hR4
  have r5 : ∀ b, b ≠ m + 29 → mI M5 b = mI M4 b := fun b hb => by rw [hM5, sI_row hb]
  repeat (first | ((with_reducible apply WP.ce); case h => (simp (disch := omega) only []; with_reducible rfl)) | ((with_reducible apply WP.bd); case h => (simp (disch := omega) only [e_gR, e_gI, e_aI, e_aL, e_oO, e_pI, e_wI, e_wL, Option.map_some, mS_sL, mR_sL, mI_sL, mS_sI, mR_sI, mL_sI, n_cl, ro_m hR4, rr_pastOf hR4, e42, rx_pastOf hR4, ← hM5]; with_reducible rfl)) | rw [nm_eq] | rw [ckZ_n1] | rw [ckZ_n0])
  repeat (first | ((with_reducible apply WP.ce); case h => (simp (disch := omega) only []; with_reducible rfl)) | ((with_reducible apply WP.bd); case h => (simp (disch := omega) only [e_gR, e_gI, e_aI, e_aL, e_oO, e_pI, e_wI, e_wL, Option.map_some, mS_sL, mR_sL, mI_sL, mS_sI, mR_sI, mL_sI, n_cl, ro_m hR5, rr_pastOf hR5]; with_reducible rfl)) | rw [nm_eq] | rw [ckZ_n1] | rw [ckZ_n0])
  have g53 : mI M5 m 53 = nI 0 := by rw [r5 m (by omega)]; exact c4.1.2.2.1
  have g52 : mI M5 m 52 = nI (600 * k + 27) := by rw [r5 m (by omega)]; exact c4.1.2.2.2.1
  refine WP.cw (r_carF (a := m + 29) (n := 1) (p := 600 * k + 27) hR5 (rl_pastOf hR5) (fun i hi => rx_pastOf hR5 hi) (by omega) (by omega) (by decide) (by omega) g53 g52) (fun _ M6 c6 => ?_)
  obtain ⟨f1, f2, f3⟩ := c6
  have hR6 := f1.RI hR5
  have v29 : mI M6 (m + 29) 0 = mI M0 m 42 := by rw [f1.2.2 (m + 29) (by simp), hM5, mI_sI, if_pos ⟨rfl, rfl⟩]
  obtain ⟨M7, hM7⟩ : ∃ M7, M7 = sI M6 m 42 (mI M0 m 42) := ⟨_, rfl⟩
  have hR7 : RIs (mS M7) (mR M7) m := by rw [hM7]; exact hR6
  repeat (first | ((with_reducible apply WP.ce); case h => (simp (disch := omega) only []; with_reducible rfl)) | ((with_reducible apply WP.bd); case h => (simp (disch := omega) only [e_gR, e_gI, e_aI, e_aL, e_oO, e_pI, e_wI, e_wL, Option.map_some, mS_sL, mR_sL, mI_sL, mS_sI, mR_sI, mL_sI, n_cl, ro_m hR6, rr_pastOf hR6, rx_pastOf hR6, v29, ← hM7]; with_reducible rfl)) | rw [nm_eq] | rw [ckZ_n1] | rw [ckZ_n0])
  have lo6 : ∀ i, i < 600 * k + 27 ∨ 600 * k + 28 ≤ i → mI M7 (m + 35) i = mI M4 (m + 35) i := fun i hi => by rw [hM7, sI_row (by omega), f3, cpR_o _ _ (by omega), r5 _ (by omega)]
  have at27 : mI M7 (m + 35) (600 * k + 27) = mI M0 m 42 := by
    have e := cpR_i (mI M5 (m + 35)) (mI M5 (m + 29)) (p := 600 * k + 27) (n := 1) (i := 0) (by decide)
    rw [Nat.add_zero] at e
    rw [hM7, sI_row (by omega), f3, e, hM5, mI_sI, if_pos ⟨rfl, rfl⟩]
  have c7 : ISm m (600 * k) M0 M7 28 [(7, 22, 5), (6, 17, 5), (5, 9, 8), (1, 0, 9)] := by
    obtain ⟨h1, h2, h3, h4, h5, h6⟩ := c4.1
    refine ⟨?_, fun j j1 j2 => ?_, ?_, ?_, fun i hi => ?_, fun q hq => ?_⟩
    · refine ⟨by rw [hM7]; exact f1.1.trans (by rw [hM5]; exact h1.1), by rw [hM7]; exact f1.2.1.trans (by rw [hM5]; exact h1.2.1), fun b hb => ?_⟩
      have hb' : b ≠ m ∧ b ≠ m + 29 ∧ b ≠ m + 35 := by simpa using hb
      rw [hM7, sI_row hb'.1, f1.2.2 b (by simp; omega), r5 b hb'.2.1]
      exact h1.2.2 b hb
    · rw [hM7, mI_sI]
      by_cases e : j = 42
      · rw [if_pos ⟨rfl, e⟩, e]
      · rw [if_neg (by omega), f2, upd_o _ _ j1, r5 m (by omega)]; exact h2 j j1 j2
    · rw [hM7, mI_sI, if_neg (by omega), f2, upd_o _ _ (by decide)]; exact g53
    · rw [hM7, mI_sI, if_neg (by omega), f2, upd_s]
    · rw [lo6 i (by omega)]; exact h5 i (by omega)
    · obtain ⟨q1, q2⟩ := h6 q hq
      exact ⟨by omega, fun i hi => by rw [lo6 _ (by omega)]; exact q2 i hi⟩
  repeat (first | ((with_reducible apply WP.ce); case h => (simp (disch := omega) only []; with_reducible rfl)) | ((with_reducible apply WP.bd); case h => (simp (disch := omega) only [e_gR, e_gI, e_aI, e_aL, e_oO, e_pI, e_wI, e_wL, Option.map_some, mS_sL, mR_sL, mI_sL, mS_sI, mR_sI, mL_sI, n_cl, ro_m hR7, rr_parts hR7]; with_reducible rfl)) | rw [nm_eq] | rw [ckZ_n1] | rw [ckZ_n0])
  refine WP.cw (ISm.st hR c7 (a := 2) (by omega) (rl_parts hR) (fun i hi => rx_parts hR hi) (by decide) (by omega)) (fun _ M8 c8 => ?_)
  have hR8 := c8.1.1.RI hR
  repeat (first | ((with_reducible apply WP.ce); case h => (simp (disch := omega) only []; with_reducible rfl)) | ((with_reducible apply WP.bd); case h => (simp (disch := omega) only [e_gR, e_gI, e_aI, e_aL, e_oO, e_pI, e_wI, e_wL, Option.map_some, mS_sL, mR_sL, mI_sL, mS_sI, mR_sI, mL_sI, n_cl, ro_m hR8, rr_cargo hR8]; with_reducible rfl)) | rw [nm_eq] | rw [ckZ_n1] | rw [ckZ_n0])
  refine WP.cw (ISm.st hR c8.1 (a := 3) (by omega) (rl_cargo hR) (fun i hi => rx_cargo hR hi) (by decide) (by omega)) (fun _ M9 c9 => ?_)
  have hR9 := c9.1.1.RI hR
  repeat (first | ((with_reducible apply WP.ce); case h => (simp (disch := omega) only []; with_reducible rfl)) | ((with_reducible apply WP.bd); case h => (simp (disch := omega) only [e_gR, e_gI, e_aI, e_aL, e_oO, e_pI, e_wI, e_wL, Option.map_some, mS_sL, mR_sL, mI_sL, mS_sI, mR_sI, mL_sI, n_cl, ro_m hR9, rr_keeps hR9]; with_reducible rfl)) | rw [nm_eq] | rw [ckZ_n1] | rw [ckZ_n0])
  refine WP.cw (ISm.st hR c9.1 (a := 4) (by omega) (rl_keeps hR) (fun i hi => rx_keeps hR hi) (by decide) (by omega)) (fun _ M10 c10 => ?_)
  have hR10 := c10.1.1.RI hR
  repeat (first | ((with_reducible apply WP.ce); case h => (simp (disch := omega) only []; with_reducible rfl)) | ((with_reducible apply WP.bd); case h => (simp (disch := omega) only [e_gR, e_gI, e_aI, e_aL, e_oO, e_pI, e_wI, e_wL, Option.map_some, mS_sL, mR_sL, mI_sL, mS_sI, mR_sI, mL_sI, n_cl, ro_m hR10, rr_toldKnows hR10]; with_reducible rfl)) | rw [nm_eq] | rw [ckZ_n1] | rw [ckZ_n0])
  refine WP.cw (ISm.st hR c10.1 (a := 11) (by omega) (rl_toldKnows hR) (fun i hi => rx_toldKnows hR hi) (by decide) (by omega)) (fun _ M11 c11 => ?_)
  have hR11 := c11.1.1.RI hR
  repeat (first | ((with_reducible apply WP.ce); case h => (simp (disch := omega) only []; with_reducible rfl)) | ((with_reducible apply WP.bd); case h => (simp (disch := omega) only [e_gR, e_gI, e_aI, e_aL, e_oO, e_pI, e_wI, e_wL, Option.map_some, mS_sL, mR_sL, mI_sL, mS_sI, mR_sI, mL_sI, n_cl, ro_m hR11, rr_noteTide hR11]; with_reducible rfl)) | rw [nm_eq] | rw [ckZ_n1] | rw [ckZ_n0])
  refine WP.cw (ISm.st hR c11.1 (a := 8) (by omega) (rl_noteTide hR) (fun i hi => rx_noteTide hR hi) (by decide) (by omega)) (fun _ M12 c12 => ?_)
  have hR12 := c12.1.1.RI hR
  repeat (first | ((with_reducible apply WP.ce); case h => (simp (disch := omega) only []; with_reducible rfl)) | ((with_reducible apply WP.bd); case h => (simp (disch := omega) only [e_gR, e_gI, e_aI, e_aL, e_oO, e_pI, e_wI, e_wL, Option.map_some, mS_sL, mR_sL, mI_sL, mS_sI, mR_sI, mL_sI, n_cl, ro_m hR12, rr_noteShip hR12]; with_reducible rfl)) | rw [nm_eq] | rw [ckZ_n1] | rw [ckZ_n0])
  refine WP.cw (ISm.st hR c12.1 (a := 9) (by omega) (rl_noteShip hR) (fun i hi => rx_noteShip hR hi) (by decide) (by omega)) (fun _ M13 c13 => ?_)
  have hR13 := c13.1.1.RI hR
  repeat (first | ((with_reducible apply WP.ce); case h => (simp (disch := omega) only []; with_reducible rfl)) | ((with_reducible apply WP.bd); case h => (simp (disch := omega) only [e_gR, e_gI, e_aI, e_aL, e_oO, e_pI, e_wI, e_wL, Option.map_some, mS_sL, mR_sL, mI_sL, mS_sI, mR_sI, mL_sI, n_cl, ro_m hR13, rr_noteJoke hR13]; with_reducible rfl)) | rw [nm_eq] | rw [ckZ_n1] | rw [ckZ_n0])
  refine WP.cw (ISm.st hR c13.1 (a := 10) (by omega) (rl_noteJoke hR) (fun i hi => rx_noteJoke hR hi) (by decide) (by omega)) (fun _ M14 c14 => ?_)
  have hR14 := c14.1.1.RI hR
  repeat (first | ((with_reducible apply WP.ce); case h => (simp (disch := omega) only []; with_reducible rfl)) | ((with_reducible apply WP.bd); case h => (simp (disch := omega) only [e_gR, e_gI, e_aI, e_aL, e_oO, e_pI, e_wI, e_wL, Option.map_some, mS_sL, mR_sL, mI_sL, mS_sI, mR_sI, mL_sI, n_cl, ro_m hR14, rr_past hR14]; with_reducible rfl)) | rw [nm_eq] | rw [ckZ_n1] | rw [ckZ_n0])
  refine WP.cw (ISm.st hR c14.1 (a := 28) (by omega) (rl_past hR) (fun i hi => rx_past hR hi) (by decide) (by omega)) (fun _ M15 c15 => ?_)
  refine WP.ret ⟨c15.1, ?_⟩
  rw [c15.2 _ (by omega), c14.2 _ (by omega), c13.2 _ (by omega), c12.2 _ (by omega), c11.2 _ (by omega), c10.2 _ (by omega), c9.2 _ (by omega), c8.2 _ (by omega)]
  exact at27
theorem x_image {m : Nat} {M : Mem} {G : GD} (h : RG O m M G) (hk : GOk G) (x : Int32) : WP (f_X10_image m x M) (fun v M' => v = (a_image G x).1 ∧ RG O m M' (a_image G x).2) := by
  have hR := h.1.1
  unfold f_X10_image a_image
  repeat (first | ((with_reducible apply WP.ce); case h => (simp (disch := omega) only [in_03]; with_reducible rfl)) | ((with_reducible apply WP.bd); case h => (simp (disch := omega) only [e_gR, e_gI, e_aI, e_aL, e_oO, e_pI, e_wI, e_wL, Option.map_some, mS_sL, mR_sL, mI_sL, mS_sI, mR_sI, mL_sI, n_cl, ro_m hR]; with_reducible rfl)) | rw [nm_eq] | rw [ckZ_n1] | rw [ckZ_n0])
  refine WP.gd (fun g => WP.ret (by rw [g]; exact ⟨rfl, h⟩)) (fun g => ?_)
  rw [g]
  obtain ⟨k, rfl, -, k2, k3⟩ := inR_t g (by decide)
  have k4 : k < 4 := by omega
  obtain ⟨M1, hM1⟩ : ∃ M1, M1 = sI M (m + 36) k (nI 1) := ⟨_, rfl⟩
  have hR1 : RIs (mS M1) (mR M1) m := by rw [hM1]; exact hR
  have en : vp_nar .boolean (nI 1) = nI 1 := rfl
  repeat (first | ((with_reducible apply WP.ce); case h => (simp (disch := omega) only []; with_reducible rfl)) | ((with_reducible apply WP.bd); case h => (simp (disch := omega) only [e_gR, e_gI, e_aI, e_aL, e_oO, e_pI, e_wI, e_wL, Option.map_some, mS_sL, mR_sL, mI_sL, mS_sI, mR_sI, mL_sI, n_cl, ro_m hR, rr_isMade hR, rx_isMade hR, en, ← hM1]; with_reducible rfl)) | rw [nm_eq] | rw [ckZ_n1] | rw [ckZ_n0])
  repeat (first | ((with_reducible apply WP.ce); case h => (simp (disch := omega) only []; with_reducible rfl)) | ((with_reducible apply WP.bd); case h => (simp (disch := omega) only [e_gR, e_gI, e_aI, e_aL, e_oO, e_pI, e_wI, e_wL, Option.map_some, mS_sL, mR_sL, mI_sL, mS_sI, mR_sI, mL_sI, n_cl, ro_m hR1]; with_reducible rfl)) | rw [nm_eq] | rw [ckZ_n1] | rw [ckZ_n0])
  refine WP.cw (x_carry hR1 k4) (fun _ M2 c => ?_)
  obtain ⟨⟨c1, c2, c3, c4, c5, c6⟩, c7⟩ := c
  have hR2 := c1.RI hR1
  have r1 : ∀ a, a ≠ m + 36 → mI M1 a = mI M a := fun a ha => by rw [hM1, sI_row ha]
  have r2 : ∀ a, a ≠ m → a ≠ m + 29 → a ≠ m + 35 → mI M2 a = mI M1 a := fun a a1 a2 a3 => c1.2.2 a (by simp; omega)
  have e4 : mI M2 (m + 1) 4 = nI (sT (bS (zB G))) := by rw [r2 _ (by omega) (by omega) (by omega), r1 _ (by omega)]; exact h.rs.1.1
  repeat (first | ((with_reducible apply WP.ce); case h => (simp (disch := omega) only []; with_reducible rfl)) | ((with_reducible apply WP.bd); case h => (simp (disch := omega) only [e_gR, e_gI, e_aI, e_aL, e_oO, e_pI, e_wI, e_wL, Option.map_some, mS_sL, mR_sL, mI_sL, mS_sI, mR_sI, mL_sI, n_cl, ro_m hR2, rr_scalar hR2, rx_scalar hR2, e4]; with_reducible rfl)) | rw [nm_eq] | rw [ckZ_n1] | rw [ckZ_n0])
  rw [n_cl k3]
  have fm : ∀ j, j ≠ 52 → j ≠ 53 → mI M2 m j = mI M m j := fun j j1 j2 => by rw [c2 j j1 j2, r1 m (by omega)]
  have fa : ∀ a, a ≠ 0 → a ≠ 29 → a ≠ 35 → a ≠ 36 → mI M2 (m + a) = mI M (m + a) := fun a a0 a1 a2 a3 => by rw [r2 _ (by omega) (by omega) (by omega), r1 _ (by omega)]
  obtain ⟨⟨h1, h2, h3, ho⟩, h4, h5, ⟨h6, h7⟩, h8⟩ := h
  refine WP.ret ⟨rfl, ⟨by rw [c1.1, c1.2.1, hM1]; exact h1, ?_, (fm 26 (by decide) (by decide)).trans h3, ho.up ⟨by rw [c1.1, hM1]; rfl, by rw [c1.2.1, hM1]; rfl⟩ (fun a ha => by rw [r2 a (by omega) (by omega) (by omega), r1 a (by omega)])⟩, ?_, h5.of (fun a a1 a2 => fa a (by omega) (by omega) (by omega) (by omega)) (fm 21 (by decide) (by decide)), ⟨(fm 17 (by decide) (by decide)).trans h6, by rw [fa 17 (by omega) (by omega) (by omega) (by omega)]; exact h7⟩, fun j hj => ?_⟩
  · exact (fm 38 (by decide) (by decide)).trans h2
  · unfold RBk
    rw [fa 1 (by omega) (by omega) (by omega) (by omega), fa 2 (by omega) (by omega) (by omega) (by omega), fa 3 (by omega) (by omega) (by omega) (by omega), fa 4 (by omega) (by omega) (by omega) (by omega), fa 5 (by omega) (by omega) (by omega) (by omega), fa 6 (by omega) (by omega) (by omega) (by omega), fa 7 (by omega) (by omega) (by omega) (by omega), fa 8 (by omega) (by omega) (by omega) (by omega), fa 9 (by omega) (by omega) (by omega) (by omega), fa 10 (by omega) (by omega) (by omega) (by omega), fa 11 (by omega) (by omega) (by omega) (by omega), fa 28 (by omega) (by omega) (by omega) (by omega), fm 42 (by decide) (by decide)]
    exact h4
  · have e36 : mI M2 (m + 36) = upd (mI M (m + 36)) k (nI 1) := by rw [r2 _ (by omega) (by omega) (by omega), hM1, mI_sI_s]
    show mI M2 (m + 36) j = bI (fset (zM G) k (some (zB G)) j).isSome ∧ ∀ B, fset (zM G) k (some (zB G)) j = some B → RImf (fun i => mI M2 (m + 35) (600 * j + i)) B
    rw [e36]
    by_cases e : j = k
    · rw [e, upd_s, fset_s]
      refine ⟨rfl, fun B hB => ?_⟩
      cases hB
      have row : ∀ a o n, (a, o, n) ∈ [(28, 97, 400), (10, 87, 10), (9, 77, 10), (8, 67, 10), (11, 62, 5), (4, 57, 5), (3, 52, 5), (2, 28, 24), (7, 22, 5), (6, 17, 5), (5, 9, 8), (1, 0, 9)] → a ≠ 36 → ∀ i, i < n → mI M2 (m + 35) (600 * k + (o + i)) = mI M (m + a) i := fun a o n hm h36 i hi => by
        rw [← Nat.add_assoc, (c6 (a, o, n) hm).2 i hi]
        show mI M1 (m + a) i = _
        rw [r1 _ (by omega)]
      refine RBf.cg hk.1 h4 (fun i hi => ?_) (row 5 9 8 (by simp) (by decide)) (row 6 17 5 (by simp) (by decide)) (row 7 22 5 (by simp) (by decide)) (by show mI M2 (m + 35) (600 * k + 27) = _; rw [c7, r1 m (by omega)]) (row 2 28 24 (by simp) (by decide)) (row 3 52 5 (by simp) (by decide)) (row 4 57 5 (by simp) (by decide)) (row 11 62 5 (by simp) (by decide)) (row 8 67 10 (by simp) (by decide)) (row 9 77 10 (by simp) (by decide)) (row 10 87 10 (by simp) (by decide)) (row 28 97 400 (by simp) (by decide))
      have := row 1 0 9 (by simp) (by decide) i hi
      rw [Nat.zero_add] at this
      exact this
    · rw [upd_o _ _ e, fset_o _ _ e]
      refine ⟨(h8 j hj).1, fun B hB => RImf.cg (hk.2.2.2.2 j B hB) ((h8 j hj).2 B hB) (fun i hi => ?_)⟩
      show mI M2 (m + 35) (600 * j + i) = mI M (m + 35) (600 * j + i)
      rw [c5 _ (by omega), r1 _ (by omega)]
