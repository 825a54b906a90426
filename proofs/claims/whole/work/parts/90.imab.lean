/-! THE REFERENCE: back -/
variable {O : Mem}
def JSm (m base : Nat) (M0 M : Mem) (o : Nat) (D : List (Nat × Nat × Nat)) : Prop := (mS M = mS M0 ∧ mR M = mR M0) ∧ (∀ b, (b < m ∨ m + 11 < b) → b ≠ m + 28 → b ≠ m + 29 → mI M b = mI M0 b) ∧ (∀ k, k ≠ 42 → k ≠ 52 → k ≠ 53 → mI M m k = mI M0 m k) ∧ mI M m 53 = nI 1 ∧ mI M m 52 = nI (base + o) ∧ ∀ q ∈ D, ∀ i, i < q.2.2 → mI M (m + q.1) i = mI M0 (m + 35) (base + q.2.1 + i)
theorem JSm.st {m base : Nat} {M0 M : Mem} {o : Nat} {D : List (Nat × Nat × Nat)} (hR : RIs (mS M0) (mR M0) m) (h : JSm m base M0 M o D) {a n : Nat} (ha : (1 ≤ a ∧ a ≤ 11) ∨ a = 28 ∨ a = 29) (hD : ∀ q ∈ D, q.1 ≠ a) (hl : lnS (mS M0) (some (m + a)) = some (nI n)) (hx : ∀ i, i < n → ixS (mS M0) 0 (some (m + a)) (nI i) = some (m + a)) (hn : n ≤ 400) (hp : base + o + n ≤ 3000) (hD0 : ∀ q ∈ D, 1 ≤ q.1) :
    WP (f_X10_carryRow m (some (m + a)) M) (fun _ M' => JSm m base M0 M' (o + n) ((a, o, n) :: D) ∧ mI M' m 42 = mI M m 42) := by
  obtain ⟨⟨h0, h1⟩, h2, h3, h4, h5, h6⟩ := h
  have hRM : RIs (mS M) (mR M) m := by rw [h0, h1]; exact hR
  refine WP.mono (r_carB (p := base + o) hRM (by rw [h0]; exact hl) (by rw [h0]; exact hx) (by omega) (by omega) hn hp h4 h5) (fun _ M' g => ?_)
  obtain ⟨g1, g2, g3⟩ := g
  have e35 : mI M (m + 35) = mI M0 (m + 35) := h2 _ (by omega) (by omega) (by omega)
  refine ⟨⟨⟨g1.1.trans h0, g1.2.1.trans h1⟩, fun b b1 b2 b3 => ?_, fun k k0 k1 k2 => by rw [g2, upd_o _ _ k1]; exact h3 k k0 k1 k2, by rw [g2, upd_o _ _ (by decide)]; exact h4, by rw [g2, upd_s, Nat.add_assoc], fun q hq i hi => ?_⟩, by rw [g2, upd_o _ _ (by decide)]⟩
  · rw [g1.2.2 b (by simp; omega)]; exact h2 b b1 b2 b3
  · rcases List.mem_cons.mp hq with hq | hq
    · subst hq
      show mI M' (m + a) i = mI M0 (m + 35) (base + o + i)
      rw [g3, cpR_z _ _ hi, e35]
    · have q1 := hD q hq
      have q0 := hD0 q hq
      rw [g1.2.2 (m + q.1) (by simp; omega)]
      exact h6 q hq i hi
theorem x_carryB {m : Nat} {M0 : Mem} (hR : RIs (mS M0) (mR M0) m) {k : Nat} (hk : k < 4) : WP (f_X10_carriesAll m (nI k) (nI 1) M0) (fun _ M => JSm m (600 * k) M0 M 497 [(28, 97, 400), (10, 87, 10), (9, 77, 10), (8, 67, 10), (11, 62, 5), (4, 57, 5), (3, 52, 5), (2, 28, 24), (29, 27, 1), (7, 22, 5), (6, 17, 5), (5, 9, 8), (1, 0, 9)] ∧ mI M m 42 = mI M0 (m + 35) (600 * k + 27)) := by
  obtain ⟨Ma, hMa⟩ : ∃ Ma, Ma = sI (sI M0 m 52 (nI (600 * k))) m 53 (nI 1) := ⟨_, rfl⟩
  have c0 : JSm m (600 * k) M0 Ma 0 [] := by
    rw [hMa]
    refine ⟨⟨rfl, rfl⟩, fun b b1 b2 b3 => by rw [sI_row (by omega), sI_row (by omega)], fun j j0 j1 j2 => by rw [mI_sI, if_neg (by omega), mI_sI, if_neg (by omega)], by rw [mI_sI, if_pos ⟨rfl, rfl⟩], by rw [mI_sI, if_neg (by omega), mI_sI, if_pos ⟨rfl, rfl⟩]; rfl, fun q hq => by cases hq⟩
  have ri : ∀ {M : Mem} {o : Nat} {D : List (Nat × Nat × Nat)}, JSm m (600 * k) M0 M o D → RIs (mS M) (mR M) m := fun h => by rw [h.1.1, h.1.2]; exact hR
  have hRa := ri c0
  unfold f_X10_carriesAll
  repeat (first | ((with_reducible apply WP.ce); case h => (simp (disch := omega) only []; with_reducible rfl)) | ((with_reducible apply WP.bd); case h => (simp (disch := omega) only [e_gR, e_gI, e_aI, e_aL, e_oO, e_pI, e_wI, e_wL, Option.map_some, mS_sL, mR_sL, mI_sL, mS_sI, mR_sI, mL_sI, n_cl, ro_m hR, n_mul, ← hMa]; with_reducible rfl)) | rw [nm_eq] | rw [ckZ_n1] | rw [ckZ_n0])
  repeat (first | ((with_reducible apply WP.ce); case h => (simp (disch := omega) only []; with_reducible rfl)) | ((with_reducible apply WP.bd); case h => (simp (disch := omega) only [e_gR, e_gI, e_aI, e_aL, e_oO, e_pI, e_wI, e_wL, Option.map_some, mS_sL, mR_sL, mI_sL, mS_sI, mR_sI, mL_sI, n_cl, ro_m hRa, rr_scalar hRa]; with_reducible rfl)) | rw [nm_eq] | rw [ckZ_n1] | rw [ckZ_n0])
  refine WP.cw (JSm.st hR c0 (a := 1) (by omega) (by simp) (rl_scalar hR) (fun i hi => rx_scalar hR hi) (by decide) (by omega) (by simp)) (fun _ M1 c1 => ?_)
  have hR1 := ri c1.1
  repeat (first | ((with_reducible apply WP.ce); case h => (simp (disch := omega) only []; with_reducible rfl)) | ((with_reducible apply WP.bd); case h => (simp (disch := omega) only [e_gR, e_gI, e_aI, e_aL, e_oO, e_pI, e_wI, e_wL, Option.map_some, mS_sL, mR_sL, mI_sL, mS_sI, mR_sI, mL_sI, n_cl, ro_m hR1, rr_heard hR1]; with_reducible rfl)) | rw [nm_eq] | rw [ckZ_n1] | rw [ckZ_n0])
  refine WP.cw (JSm.st hR c1.1 (a := 5) (by omega) (by simp) (rl_heard hR) (fun i hi => rx_heard hR hi) (by decide) (by omega) (by simp)) (fun _ M2 c2 => ?_)
  have hR2 := ri c2.1
  repeat (first | ((with_reducible apply WP.ce); case h => (simp (disch := omega) only []; with_reducible rfl)) | ((with_reducible apply WP.bd); case h => (simp (disch := omega) only [e_gR, e_gI, e_aI, e_aL, e_oO, e_pI, e_wI, e_wL, Option.map_some, mS_sL, mR_sL, mI_sL, mS_sI, mR_sI, mL_sI, n_cl, ro_m hR2, rr_knows hR2]; with_reducible rfl)) | rw [nm_eq] | rw [ckZ_n1] | rw [ckZ_n0])
  refine WP.cw (JSm.st hR c2.1 (a := 6) (by omega) (by simp) (rl_knows hR) (fun i hi => rx_knows hR hi) (by decide) (by omega) (by simp)) (fun _ M3 c3 => ?_)
  have hR3 := ri c3.1
  repeat (first | ((with_reducible apply WP.ce); case h => (simp (disch := omega) only []; with_reducible rfl)) | ((with_reducible apply WP.bd); case h => (simp (disch := omega) only [e_gR, e_gI, e_aI, e_aL, e_oO, e_pI, e_wI, e_wL, Option.map_some, mS_sL, mR_sL, mI_sL, mS_sI, mR_sI, mL_sI, n_cl, ro_m hR3, rr_passed hR3]; with_reducible rfl)) | rw [nm_eq] | rw [ckZ_n1] | rw [ckZ_n0])
  refine WP.cw (JSm.st hR c3.1 (a := 7) (by omega) (by simp) (rl_passed hR) (fun i hi => rx_passed hR hi) (by decide) (by omega) (by simp)) (fun _ M4 c4 => ?_)
  have hR4 := ri c4.1
  refine WP.ie (by rw [n_eq (by omega) (by omega)]; omega) ?_
  obtain ⟨M5, hM5⟩ : ∃ M5, M5 = sI M4 (m + 29) 0 (mI M4 m 42) := ⟨_, rfl⟩
  have c5 : JSm m (600 * k) M0 M5 27 [(7, 22, 5), (6, 17, 5), (5, 9, 8), (1, 0, 9)] := by
    obtain ⟨⟨h0, h1⟩, h2, h3, h4, h5, h6⟩ := c4.1
    rw [hM5]
    refine ⟨⟨h0, h1⟩, fun b b1 b2 b3 => by rw [sI_row b3]; exact h2 b b1 b2 b3, fun j j0 j1 j2 => by rw [sI_row (by omega)]; exact h3 j j0 j1 j2, by rw [sI_row (by omega)]; exact h4, by rw [sI_row (by omega)]; exact h5, fun q hq i hi => ?_⟩
    have hq7 : q.1 ≤ 7 := by
      simp only [List.mem_cons, List.not_mem_nil, or_false] at hq
      rcases hq with rfl | rfl | rfl | rfl <;> decide
    rw [sI_row (by omega)]
    exact h6 q hq i hi
  have hR5 := ri c5
  repeat (first | ((with_reducible apply WP.ce); case h => (simp (disch := omega) only []; with_reducible rfl)) | ((with_reducible apply WP.bd); case h => (simp (disch := omega) only [e_gR, e_gI, e_aI, e_aL, e_oO, e_pI, e_wI, e_wL, Option.map_some, mS_sL, mR_sL, mI_sL, mS_sI, mR_sI, mL_sI, n_cl, ro_m hR4, rr_pastOf hR4, rx_pastOf hR4, ← hM5]; with_reducible rfl)) | rw [nm_eq] | rw [ckZ_n1] | rw [ckZ_n0])
  repeat (first | ((with_reducible apply WP.ce); case h => (simp (disch := omega) only []; with_reducible rfl)) | ((with_reducible apply WP.bd); case h => (simp (disch := omega) only [e_gR, e_gI, e_aI, e_aL, e_oO, e_pI, e_wI, e_wL, Option.map_some, mS_sL, mR_sL, mI_sL, mS_sI, mR_sI, mL_sI, n_cl, ro_m hR5, rr_pastOf hR5]; with_reducible rfl)) | rw [nm_eq] | rw [ckZ_n1] | rw [ckZ_n0])
  refine WP.cw (JSm.st hR c5 (a := 29) (by omega) (by simp) (rl_pastOf hR) (fun i hi => rx_pastOf hR hi) (by decide) (by omega) (by simp)) (fun _ M6 c6 => ?_)
  have hR6 := ri c6.1
  have v29 : mI M6 (m + 29) 0 = mI M0 (m + 35) (600 * k + 27) := c6.1.2.2.2.2.2 (29, 27, 1) (by simp) 0 (by decide)
  obtain ⟨M7, hM7⟩ : ∃ M7, M7 = sI M6 m 42 (mI M0 (m + 35) (600 * k + 27)) := ⟨_, rfl⟩
  have c7 : JSm m (600 * k) M0 M7 28 [(29, 27, 1), (7, 22, 5), (6, 17, 5), (5, 9, 8), (1, 0, 9)] := by
    obtain ⟨⟨h0, h1⟩, h2, h3, h4, h5, h6⟩ := c6.1
    rw [hM7]
    refine ⟨⟨h0, h1⟩, fun b b1 b2 b3 => by rw [sI_row (by omega)]; exact h2 b b1 b2 b3, fun j j0 j1 j2 => by rw [mI_sI, if_neg (by omega)]; exact h3 j j0 j1 j2, by rw [mI_sI, if_neg (by omega)]; exact h4, by rw [mI_sI, if_neg (by omega)]; exact h5, fun q hq i hi => ?_⟩
    have hq7 : 1 ≤ q.1 := by
      simp only [List.mem_cons, List.not_mem_nil, or_false] at hq
      rcases hq with rfl | rfl | rfl | rfl | rfl <;> decide
    rw [sI_row (by omega)]
    exact h6 q hq i hi
  have e42 : mI M7 m 42 = mI M0 (m + 35) (600 * k + 27) := by rw [hM7, mI_sI, if_pos ⟨rfl, rfl⟩]
  have hR7 := ri c7
  repeat (first | ((with_reducible apply WP.ce); case h => (simp (disch := omega) only []; with_reducible rfl)) | ((with_reducible apply WP.bd); case h => (simp (disch := omega) only [e_gR, e_gI, e_aI, e_aL, e_oO, e_pI, e_wI, e_wL, Option.map_some, mS_sL, mR_sL, mI_sL, mS_sI, mR_sI, mL_sI, n_cl, ro_m hR6, rr_pastOf hR6, rx_pastOf hR6, v29, ← hM7]; with_reducible rfl)) | rw [nm_eq] | rw [ckZ_n1] | rw [ckZ_n0])
  repeat (first | ((with_reducible apply WP.ce); case h => (simp (disch := omega) only []; with_reducible rfl)) | ((with_reducible apply WP.bd); case h => (simp (disch := omega) only [e_gR, e_gI, e_aI, e_aL, e_oO, e_pI, e_wI, e_wL, Option.map_some, mS_sL, mR_sL, mI_sL, mS_sI, mR_sI, mL_sI, n_cl, ro_m hR7, rr_parts hR7]; with_reducible rfl)) | rw [nm_eq] | rw [ckZ_n1] | rw [ckZ_n0])
  refine WP.cw (JSm.st hR c7 (a := 2) (by omega) (by simp) (rl_parts hR) (fun i hi => rx_parts hR hi) (by decide) (by omega) (by simp)) (fun _ M8 c8 => ?_)
  have hR8 := ri c8.1
  repeat (first | ((with_reducible apply WP.ce); case h => (simp (disch := omega) only []; with_reducible rfl)) | ((with_reducible apply WP.bd); case h => (simp (disch := omega) only [e_gR, e_gI, e_aI, e_aL, e_oO, e_pI, e_wI, e_wL, Option.map_some, mS_sL, mR_sL, mI_sL, mS_sI, mR_sI, mL_sI, n_cl, ro_m hR8, rr_cargo hR8]; with_reducible rfl)) | rw [nm_eq] | rw [ckZ_n1] | rw [ckZ_n0])
  refine WP.cw (JSm.st hR c8.1 (a := 3) (by omega) (by simp) (rl_cargo hR) (fun i hi => rx_cargo hR hi) (by decide) (by omega) (by simp)) (fun _ M9 c9 => ?_)
  have hR9 := ri c9.1
  repeat (first | ((with_reducible apply WP.ce); case h => (simp (disch := omega) only []; with_reducible rfl)) | ((with_reducible apply WP.bd); case h => (simp (disch := omega) only [e_gR, e_gI, e_aI, e_aL, e_oO, e_pI, e_wI, e_wL, Option.map_some, mS_sL, mR_sL, mI_sL, mS_sI, mR_sI, mL_sI, n_cl, ro_m hR9, rr_keeps hR9]; with_reducible rfl)) | rw [nm_eq] | rw [ckZ_n1] | rw [ckZ_n0])
  refine WP.cw (JSm.st hR c9.1 (a := 4) (by omega) (by simp) (rl_keeps hR) (fun i hi => rx_keeps hR hi) (by decide) (by omega) (by simp)) (fun _ M10 c10 => ?_)
  have hR10 := ri c10.1
  repeat (first | ((with_reducible apply WP.ce); case h => (simp (disch := omega) only []; with_reducible rfl)) | ((with_reducible apply WP.bd); case h => (simp (disch := omega) only [e_gR, e_gI, e_aI, e_aL, e_oO, e_pI, e_wI, e_wL, Option.map_some, mS_sL, mR_sL, mI_sL, mS_sI, mR_sI, mL_sI, n_cl, ro_m hR10, rr_toldKnows hR10]; with_reducible rfl)) | rw [nm_eq] | rw [ckZ_n1] | rw [ckZ_n0])
  refine WP.cw (JSm.st hR c10.1 (a := 11) (by omega) (by simp) (rl_toldKnows hR) (fun i hi => rx_toldKnows hR hi) (by decide) (by omega) (by simp)) (fun _ M11 c11 => ?_)
  have hR11 := ri c11.1
  repeat (first | ((with_reducible apply WP.ce); case h => (simp (disch := omega) only []; with_reducible rfl)) | ((with_reducible apply WP.bd); case h => (simp (disch := omega) only [e_gR, e_gI, e_aI, e_aL, e_oO, e_pI, e_wI, e_wL, Option.map_some, mS_sL, mR_sL, mI_sL, mS_sI, mR_sI, mL_sI, n_cl, ro_m hR11, rr_noteTide hR11]; with_reducible rfl)) | rw [nm_eq] | rw [ckZ_n1] | rw [ckZ_n0])
  refine WP.cw (JSm.st hR c11.1 (a := 8) (by omega) (by simp) (rl_noteTide hR) (fun i hi => rx_noteTide hR hi) (by decide) (by omega) (by simp)) (fun _ M12 c12 => ?_)
  have hR12 := ri c12.1
  repeat (first | ((with_reducible apply WP.ce); case h => (simp (disch := omega) only []; with_reducible rfl)) | ((with_reducible apply WP.bd); case h => (simp (disch := omega) only [e_gR, e_gI, e_aI, e_aL, e_oO, e_pI, e_wI, e_wL, Option.map_some, mS_sL, mR_sL, mI_sL, mS_sI, mR_sI, mL_sI, n_cl, ro_m hR12, rr_noteShip hR12]; with_reducible rfl)) | rw [nm_eq] | rw [ckZ_n1] | rw [ckZ_n0])
  refine WP.cw (JSm.st hR c12.1 (a := 9) (by omega) (by simp) (rl_noteShip hR) (fun i hi => rx_noteShip hR hi) (by decide) (by omega) (by simp)) (fun _ M13 c13 => ?_)
  have hR13 := ri c13.1
  repeat (first | ((with_reducible apply WP.ce); case h => (simp (disch := omega) only []; with_reducible rfl)) | ((with_reducible apply WP.bd); case h => (simp (disch := omega) only [e_gR, e_gI, e_aI, e_aL, e_oO, e_pI, e_wI, e_wL, Option.map_some, mS_sL, mR_sL, mI_sL, mS_sI, mR_sI, mL_sI, n_cl, ro_m hR13, rr_noteJoke hR13]; with_reducible rfl)) | rw [nm_eq] | rw [ckZ_n1] | rw [ckZ_n0])
  refine WP.cw (JSm.st hR c13.1 (a := 10) (by omega) (by simp) (rl_noteJoke hR) (fun i hi => rx_noteJoke hR hi) (by decide) (by omega) (by simp)) (fun _ M14 c14 => ?_)
  have hR14 := ri c14.1
  repeat (first | ((with_reducible apply WP.ce); case h => (simp (disch := omega) only []; with_reducible rfl)) | ((with_reducible apply WP.bd); case h => (simp (disch := omega) only [e_gR, e_gI, e_aI, e_aL, e_oO, e_pI, e_wI, e_wL, Option.map_some, mS_sL, mR_sL, mI_sL, mS_sI, mR_sI, mL_sI, n_cl, ro_m hR14, rr_past hR14]; with_reducible rfl)) | rw [nm_eq] | rw [ckZ_n1] | rw [ckZ_n0])
  refine WP.cw (JSm.st hR c14.1 (a := 28) (by omega) (by simp) (rl_past hR) (fun i hi => rx_past hR hi) (by decide) (by omega) (by simp)) (fun _ M15 c15 => ?_)
  refine WP.ret ⟨c15.1, ?_⟩
  rw [c15.2, c14.2, c13.2, c12.2, c11.2, c10.2, c9.2, c8.2]
  exact e42
theorem x_back {m : Nat} {M : Mem} {G : GD} (h : RG O m M G) (hk : GOk G) (x : Int32) : WP (f_X10_back m x M) (fun v M' => v = (a_back G x).1 ∧ RG O m M' (a_back G x).2) := by
  have hR := h.1.1
  unfold f_X10_back f_X10_back_J21 a_back
  repeat (first | ((with_reducible apply WP.ce); case h => (simp (disch := omega) only [in_03]; with_reducible rfl)) | ((with_reducible apply WP.bd); case h => (simp (disch := omega) only [e_gR, e_gI, e_aI, e_aL, e_oO, e_pI, e_wI, e_wL, Option.map_some, mS_sL, mR_sL, mI_sL, mS_sI, mR_sI, mL_sI, n_cl, ro_m hR]; with_reducible rfl)) | rw [nm_eq] | rw [ckZ_n1] | rw [ckZ_n0])
  refine WP.gd (fun g => WP.ret (by rw [g]; exact ⟨rfl, h⟩)) (fun g => ?_)
  rw [g]
  obtain ⟨k, rfl, -, k2, k3⟩ := inR_t g (by decide)
  have k4 : k < 4 := by omega
  obtain ⟨i1, i2⟩ := h.2.2.2.2 k k4
  repeat (first | ((with_reducible apply WP.ce); case h => (simp (disch := omega) only []; with_reducible rfl)) | ((with_reducible apply WP.bd); case h => (simp (disch := omega) only [e_gR, e_gI, e_aI, e_aL, e_oO, e_pI, e_wI, e_wL, Option.map_some, mS_sL, mR_sL, mI_sL, mS_sI, mR_sI, mL_sI, n_cl, ro_m hR, rr_isMade hR, rx_isMade hR, i1]; with_reducible rfl)) | rw [nm_eq] | rw [ckZ_n1] | rw [ckZ_n0])
  rw [n_cl k3]
  cases hi : zM G k with
  | none => exact WP.it rfl (WP.ret ⟨rfl, h⟩)
  | some B =>
    have hB := i2 B hi
    have hkB := hk.2.2.2.2 k B hi
    refine WP.ie (show ¬ bI true = 0 by decide) ?_
    repeat (first | ((with_reducible apply WP.ce); case h => (simp (disch := omega) only []; with_reducible rfl)) | ((with_reducible apply WP.bd); case h => (simp (disch := omega) only [e_gR, e_gI, e_aI, e_aL, e_oO, e_pI, e_wI, e_wL, Option.map_some, mS_sL, mR_sL, mI_sL, mS_sI, mR_sI, mL_sI, n_cl, ro_m hR]; with_reducible rfl)) | rw [nm_eq] | rw [ckZ_n1] | rw [ckZ_n0])
    refine WP.cw (x_carryB hR k4) (fun _ M2 c => ?_)
    obtain ⟨⟨⟨c0, c1⟩, c2, c3, c4, c5, c6⟩, c7⟩ := c
    have hR2 : RIs (mS M2) (mR M2) m := by rw [c0, c1]; exact hR
    have row : ∀ a o n, (a, o, n) ∈ [(28, 97, 400), (10, 87, 10), (9, 77, 10), (8, 67, 10), (11, 62, 5), (4, 57, 5), (3, 52, 5), (2, 28, 24), (29, 27, 1), (7, 22, 5), (6, 17, 5), (5, 9, 8), (1, 0, 9)] → ∀ i, i < n → mI M2 (m + a) i = mI M (m + 35) (600 * k + (o + i)) := fun a o n hm i hi => by
      rw [← Nat.add_assoc]; exact c6 (a, o, n) hm i hi
    have r1 : ∀ i, i < 9 → mI M2 (m + 1) i = mI M (m + 35) (600 * k + i) := fun i hi => by
      have := row 1 0 9 (by simp) i hi
      rw [Nat.zero_add] at this
      exact this
    have e4 : mI M2 (m + 1) 4 = nI (sT (bS B)) := by rw [r1 4 (by decide)]; exact hB.2.1.1.1
    repeat (first | ((with_reducible apply WP.ce); case h => (simp (disch := omega) only []; with_reducible rfl)) | ((with_reducible apply WP.bd); case h => (simp (disch := omega) only [e_gR, e_gI, e_aI, e_aL, e_oO, e_pI, e_wI, e_wL, Option.map_some, mS_sL, mR_sL, mI_sL, mS_sI, mR_sI, mL_sI, n_cl, ro_m hR2, rr_scalar hR2, rx_scalar hR2, e4]; with_reducible rfl)) | rw [nm_eq] | rw [ckZ_n1] | rw [ckZ_n0])
    refine WP.ret ⟨rfl, h.up hk ⟨⟨c0, c1⟩, fun a ha => c2 a (by omega) (by omega) (by omega), fun j hj => c3 j (by omega) (by omega) (by omega), fun a a1 a2 => c2 _ (by omega) (by omega) (by omega), c2 _ (by omega) (by omega) (by omega), fun i _ => by rw [c2 _ (by omega) (by omega) (by omega)]⟩ ?_⟩
    exact RBf.cg hkB hB r1 (row 5 9 8 (by simp)) (row 6 17 5 (by simp)) (row 7 22 5 (by simp)) c7 (row 2 28 24 (by simp)) (row 3 52 5 (by simp)) (row 4 57 5 (by simp)) (row 11 62 5 (by simp)) (row 8 67 10 (by simp)) (row 9 77 10 (by simp)) (row 10 87 10 (by simp)) (row 28 97 400 (by simp))
