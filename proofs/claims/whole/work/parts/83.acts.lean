/-! THE ACTS, and the reference's -/
variable {O : Mem}
def bAc (B : BD) (S : SC) : BD := (bT B, S, bN B, psh (bP B) (bS B), bX B, bF B)
theorem bAc_ok {c : Nat} {B : BD} (h : BOk c B) {S : SC} (hs : SOk S) (h9 : sT S ≤ 999) : BOk c (bAc B S) := ⟨h.1, hs, h9, h.2.2.2.1, psh_ok h.2.2.2.2.1.1 h.2.2.2.2.1.2 ⟨h.2.1, h.2.2.1⟩, h.2.2.2.2.2⟩
def a_tide (r : Option RD) (B : BD) : Int32 × BD := if isB (bT B) && !(decide (sT (bS B) = 999)) then (nI (psm (bT B) r none (bS B)), bAc B (tide1 (bT B) r none (bS B))) else (-1, B)
def a_say (B : BD) (x y : Int32) : Int32 × BD := if wtI (bT B) (bS B) x && ixB y (tJ (bT B)) && (sW (bS B) x.toNatClampNeg).testBit y.toNatClampNeg then (nI (b2 (isN (bT B) (bS B) y.toNatClampNeg)), bAc B (telS (bT B) (bS B) x.toNatClampNeg y.toNatClampNeg)) else (-1, B)
def a_trade (B : BD) (x y : Int32) : Int32 × BD := if wtI (bT B) (bS B) x && wtI (bT B) (bS B) y && !(decide (sW (bS B) x.toNatClampNeg = sW (bS B) y.toNatClampNeg)) then (nI (sW (bS B) x.toNatClampNeg ||| sW (bS B) y.toNatClampNeg), bAc B (shrS (bS B) x.toNatClampNeg y.toNatClampNeg)) else (-1, B)
def coiS (S : SC) (s j : Nat) : SC := (sT S, sH S, fset (sW S) s (sW S s ||| 2 ^ j), sP S)
def a_coin (B : BD) (x y : Int32) : Int32 × BD := if wtI (bT B) (bS B) x && ixB y (tJ (bT B)) && !((sW (bS B) x.toNatClampNeg).testBit y.toNatClampNeg) then (nI (sW (bS B) x.toNatClampNeg ||| 2 ^ y.toNatClampNeg), bAc B (coiS (bS B) x.toNatClampNeg y.toNatClampNeg)) else (-1, B)
def a_dull (B : BD) (y : Int32) : Int32 × BD := if ixB y (tJ (bT B)) && rem (bT B) (bS B) y.toNatClampNeg then (nI (snc (bS B) y.toNatClampNeg), bAc B (dulS (bS B) y.toNatClampNeg)) else (-1, B)
def a_undo (B : BD) : Int32 × BD := if (bP B).1 = 0 then (-2, B) else (nI ((bP B).1 - 1), (bT B, (bP B).2 ((bP B).1 - 1), bN B, ((bP B).1 - 1, (bP B).2), bX B, bF B))
def a_force (c : Nat) (B : BD) (x : Int32) : Int32 × BD := if rlB x c then (eP (bF B), (bT B, bS B, bN B, bP B, bX B, rlO x)) else (-2, B)
def a_seed (B : BD) (x : Int32) : Int32 × BD := if decide (0 ≤ x.toInt) then (nI (bX B), (bT B, bS B, bN B, bP B, x.toNatClampNeg, bF B)) else (-1, B)
def adN (D : ND) (n s : Nat) (j : Option Nat) : ND := (nC D + 1, fset (nT D) (nC D) n, fset (nS D) (nC D) s, fset (nJ D) (nC D) j)
def a_note (B : BD) (x y z : Int32) : Int32 × BD :=
  if x = -1 then (nI 0, (bT B, bS B, (0, (bN B).2), bP B, bX B, bF B))
  else if inR x 0 60 && ixB y (tN (bT B)) && (decide (z = -1) || ixB z (tJ (bT B))) && !(decide (nC (bN B) = 10)) then (nI (nC (bN B) + 1), (bT B, bS B, adN (bN B) x.toNatClampNeg y.toNatClampNeg (rlO z), bP B, bX B, bF B)) else (-2, B)
theorem coiS_ok {S : SC} (hs : SOk S) {s j : Nat} (hj : j < 8) : SOk (coiS S s j) := by
  refine ⟨hs.1, hs.2.1, fun i => ?_, hs.2.2.2⟩
  show fset (sW S) s (sW S s ||| 2 ^ j) i < 256
  by_cases e : i = s
  · subst e
    rw [fset_s]
    exact or_256 (hs.2.2.1 i) (by have := Nat.pow_lt_pow_right (a := 2) (by decide) hj; exact this)
  · rw [fset_o _ _ e]; exact hs.2.2.1 i
section XACT
variable {m : Nat} {M : Mem} {G : GD}
theorem x_tide (h : RG O m M G) (hk : GOk G) : WP (f_X10_tide m M) (fun v M' => v = (a_tide (zR G) (zB G)).1 ∧ RG O m M' (wB G (a_tide (zR G) (zB G)).2) ∧ GOk (wB G (a_tide (zR G) (zB G)).2)) := by
  have hR := h.1.1
  have hs := hk.1.2.1
  have h9 := hk.1.2.2.1
  unfold f_X10_tide f_X10_tide_J19 a_tide
  repeat (first | ((with_reducible apply WP.ce); case h => (simp (disch := omega) only [r_isBar hR h.rt hk.1.1]; with_reducible rfl)) | ((with_reducible apply WP.bd); case h => (simp (disch := omega) only [e_gR, e_gI, e_aI, e_aL, e_oO, e_pI, e_wI, e_wL, Option.map_some, mS_sL, mR_sL, mI_sL, mS_sI, mR_sI, mL_sI, n_cl, ro_m hR]; with_reducible rfl)) | rw [nm_eq] | rw [ckZ_n1] | rw [ckZ_n0])
  refine WP.gd (fun g1 => WP.ret (by rw [g1]; exact ⟨rfl, h, hk⟩)) (fun g1 => ?_)
  repeat (first | ((with_reducible apply WP.ce); case h => (simp (disch := omega) only []; with_reducible rfl)) | ((with_reducible apply WP.bd); case h => (simp (disch := omega) only [e_gR, e_gI, e_aI, e_aL, e_oO, e_pI, e_wI, e_wL, Option.map_some, mS_sL, mR_sL, mI_sL, mS_sI, mR_sI, mL_sI, n_cl, ro_m hR, rr_scalar hR, rx_scalar hR, h.rs.1.1]; with_reducible rfl)) | rw [nm_eq] | rw [ckZ_n1] | rw [ckZ_n0])
  by_cases h99 : sT (bS (zB G)) = 999
  · refine WP.it (by rw [h99]) (WP.ret ?_)
    rw [g1, decide_eq_true h99]; exact ⟨rfl, h, hk⟩
  · refine WP.ie (by rw [n_eq (by omega) (by omega)]; exact h99) ?_
    rw [g1, decide_eq_false h99]
    repeat (first | ((with_reducible apply WP.ce); case h => (simp (disch := omega) only []; with_reducible rfl)) | ((with_reducible apply WP.bd); case h => (simp (disch := omega) only [e_gR, e_gI, e_aI, e_aL, e_oO, e_pI, e_wI, e_wL, Option.map_some, mS_sL, mR_sL, mI_sL, mS_sI, mR_sI, mL_sI, n_cl, ro_m hR]; with_reducible rfl)) | rw [nm_eq] | rw [ckZ_n1] | rw [ckZ_n0])
    refine WP.cw (x_keep h hk) (fun _ M1 h1 => ?_)
    have hk1 := hk.b (bPu_ok hk.1)
    have re := h1.re hk1
    obtain ⟨⟨hR1, hT1, hS1, hr1, hv1⟩, -⟩ := re
    repeat (first | ((with_reducible apply WP.ce); case h => (simp (disch := omega) only []; with_reducible rfl)) | ((with_reducible apply WP.bd); case h => (simp (disch := omega) only [e_gR, e_gI, e_aI, e_aL, e_oO, e_pI, e_wI, e_wL, Option.map_some, mS_sL, mR_sL, mI_sL, mS_sI, mR_sI, mL_sI, n_cl, ro_m hR1]; with_reducible rfl)) | rw [nm_eq] | rw [ckZ_n1] | rw [ckZ_n0])
    refine WP.cw (g_goes hk.1.1 hs (OvN _) OvN5 hR1 hT1 hS1 hr1 hv1) (fun v M2 c2 => ?_)
    obtain ⟨rfl, c3, c4, c5⟩ := c2
    exact WP.ret ⟨rfl, h1.sc hk1 c3.GA c4, hk.b (bAc_ok hk.1 (tide1_ok hs (by omega)) (by rw [tide1_T]; omega))⟩
theorem wtI_t2 {T : TD} (hk : TOk T) {S : SC} {x : Int32} (h : wtI T S x = true) : ∃ s, x = nI s ∧ s < tN T ∧ wts S s = true ∧ (nI s).toNatClampNeg = s := by
  obtain ⟨s, e, h1, h2⟩ := wtI_t hk h
  exact ⟨s, e, h1, h2, n_cl (by have := hk.1.2.2.2; omega)⟩
theorem x_say (h : RG O m M G) (hk : GOk G) (x y : Int32) : WP (f_X10_say m x y M) (fun v M' => v = (a_say (zB G) x y).1 ∧ RG O m M' (wB G (a_say (zB G) x y).2) ∧ GOk (wB G (a_say (zB G) x y).2)) := by
  have hR := h.1.1
  have hs := hk.1.2.1
  have h9 := hk.1.2.2.1
  have k1 := hk.1.1.1.2.2.1
  have k2 := hk.1.1.1.2.2.2
  unfold f_X10_say f_X10_say_J29 f_X10_say_J49 a_say
  repeat (first | ((with_reducible apply WP.ce); case h => (simp (disch := omega) only [r_waitsI hR h.rt hk.1.1 h.rs hs]; with_reducible rfl)) | ((with_reducible apply WP.bd); case h => (simp (disch := omega) only [e_gR, e_gI, e_aI, e_aL, e_oO, e_pI, e_wI, e_wL, Option.map_some, mS_sL, mR_sL, mI_sL, mS_sI, mR_sI, mL_sI, n_cl, ro_m hR]; with_reducible rfl)) | rw [nm_eq] | rw [ckZ_n1] | rw [ckZ_n0])
  refine WP.gd (fun g1 => WP.ret (by rw [g1]; exact ⟨rfl, h, hk⟩)) (fun g1 => ?_)
  repeat (first | ((with_reducible apply WP.ce); case h => (simp (disch := omega) only [r_isJoke hR h.rt hk.1.1]; with_reducible rfl)) | ((with_reducible apply WP.bd); case h => (simp (disch := omega) only [e_gR, e_gI, e_aI, e_aL, e_oO, e_pI, e_wI, e_wL, Option.map_some, mS_sL, mR_sL, mI_sL, mS_sI, mR_sI, mL_sI, n_cl, ro_m hR]; with_reducible rfl)) | rw [nm_eq] | rw [ckZ_n1] | rw [ckZ_n0])
  refine WP.gd (fun g2 => WP.ret (by rw [g1, g2]; exact ⟨rfl, h, hk⟩)) (fun g2 => ?_)
  obtain ⟨s, rfl, s1, s2, s3⟩ := wtI_t2 hk.1.1 g1
  obtain ⟨j, j1, rfl⟩ := ixB_t (by omega) g2
  have hw := (h.rs.2.2 s s1).1
  have hwl := hs.2.2.1 s
  rw [s3, n_cl (by omega : j < 2 ^ 31), g1, g2]
  repeat (first | ((with_reducible apply WP.ce); case h => (simp (disch := omega) only [has_eq]; with_reducible rfl)) | ((with_reducible apply WP.bd); case h => (simp (disch := omega) only [e_gR, e_gI, e_aI, e_aL, e_oO, e_pI, e_wI, e_wL, Option.map_some, mS_sL, mR_sL, mI_sL, mS_sI, mR_sI, mL_sI, n_cl, ro_m hR, rr_knows hR, rx_knows hR, hw]; with_reducible rfl)) | rw [nm_eq] | rw [ckZ_n1] | rw [ckZ_n0])
  refine WP.gd (fun g3 => WP.ret (by rw [g3]; exact ⟨rfl, h, hk⟩)) (fun g3 => ?_)
  rw [g3]
  repeat (first | ((with_reducible apply WP.ce); case h => (simp (disch := omega) only []; with_reducible rfl)) | ((with_reducible apply WP.bd); case h => (simp (disch := omega) only [e_gR, e_gI, e_aI, e_aL, e_oO, e_pI, e_wI, e_wL, Option.map_some, mS_sL, mR_sL, mI_sL, mS_sI, mR_sI, mL_sI, n_cl, ro_m hR]; with_reducible rfl)) | rw [nm_eq] | rw [ckZ_n1] | rw [ckZ_n0])
  refine WP.cw (x_keep h hk) (fun _ M1 h1 => ?_)
  have hk1 := hk.b (bPu_ok hk.1)
  obtain ⟨⟨hR1, hT1, hS1, hr1, hv1⟩, -⟩ := h1.re hk1
  have hT1' : RT M1 m (bT (zB G)) := hT1
  have hS1' : RS M1 m (bT (zB G)) (bS (zB G)) := hS1
  have a1 := r_tells hR1 hT1' hk.1.1 hS1' hs s1 j1 s2
  repeat (first | ((with_reducible apply WP.ce); case h => (simp (disch := omega) only [a1]; with_reducible rfl)) | ((with_reducible apply WP.bd); case h => (simp (disch := omega) only [e_gR, e_gI, e_aI, e_aL, e_oO, e_pI, e_wI, e_wL, Option.map_some, mS_sL, mR_sL, mI_sL, mS_sI, mR_sI, mL_sI, n_cl, ro_m hR1]; with_reducible rfl)) | rw [nm_eq] | rw [ckZ_n1] | rw [ckZ_n0])
  have fin : ∀ v, v = nI (b2 (isN (bT (zB G)) (bS (zB G)) j)) → WP (some (v, telM M1 m (bT (zB G)) (bS (zB G)) s j)) (fun v M' => v = (if (true && true && true) = true then (nI (b2 (isN (bT (zB G)) (bS (zB G)) j)), bAc (zB G) (telS (bT (zB G)) (bS (zB G)) s j)) else (-1, zB G)).1 ∧ RG O m M' (wB G (if (true && true && true) = true then (nI (b2 (isN (bT (zB G)) (bS (zB G)) j)), bAc (zB G) (telS (bT (zB G)) (bS (zB G)) s j)) else (-1, zB G)).2) ∧ GOk (wB G (if (true && true && true) = true then (nI (b2 (isN (bT (zB G)) (bS (zB G)) j)), bAc (zB G) (telS (bT (zB G)) (bS (zB G)) s j)) else (-1, zB G)).2)) :=
    fun v hv => WP.ret ⟨hv, h1.sc hk1 (telM_G M1 m _ _ s j).GA (telM_S hS1' s2 s1), hk.b (bAc_ok hk.1 (telS_ok hs s j) h9)⟩
  refine WP.gd (fun e => fin _ ?_) (fun e => fin _ ?_)
  · rw [e]; rfl
  · rw [e]; rfl
theorem x_trade (h : RG O m M G) (hk : GOk G) (x y : Int32) : WP (f_X10_trade m x y M) (fun v M' => v = (a_trade (zB G) x y).1 ∧ RG O m M' (wB G (a_trade (zB G) x y).2) ∧ GOk (wB G (a_trade (zB G) x y).2)) := by
  have hR := h.1.1
  have hs := hk.1.2.1
  have h9 := hk.1.2.2.1
  have k2 := hk.1.1.1.2.2.2
  unfold f_X10_trade f_X10_trade_J31 a_trade
  repeat (first | ((with_reducible apply WP.ce); case h => (simp (disch := omega) only [r_waitsI hR h.rt hk.1.1 h.rs hs]; with_reducible rfl)) | ((with_reducible apply WP.bd); case h => (simp (disch := omega) only [e_gR, e_gI, e_aI, e_aL, e_oO, e_pI, e_wI, e_wL, Option.map_some, mS_sL, mR_sL, mI_sL, mS_sI, mR_sI, mL_sI, n_cl, ro_m hR]; with_reducible rfl)) | rw [nm_eq] | rw [ckZ_n1] | rw [ckZ_n0])
  refine WP.gd (fun g1 => WP.ret (by rw [g1]; exact ⟨rfl, h, hk⟩)) (fun g1 => ?_)
  repeat (first | ((with_reducible apply WP.ce); case h => (simp (disch := omega) only [r_waitsI hR h.rt hk.1.1 h.rs hs]; with_reducible rfl)) | ((with_reducible apply WP.bd); case h => (simp (disch := omega) only [e_gR, e_gI, e_aI, e_aL, e_oO, e_pI, e_wI, e_wL, Option.map_some, mS_sL, mR_sL, mI_sL, mS_sI, mR_sI, mL_sI, n_cl, ro_m hR]; with_reducible rfl)) | rw [nm_eq] | rw [ckZ_n1] | rw [ckZ_n0])
  refine WP.gd (fun g2 => WP.ret (by rw [g1, g2]; exact ⟨rfl, h, hk⟩)) (fun g2 => ?_)
  obtain ⟨a, rfl, a1, a2, a3⟩ := wtI_t2 hk.1.1 g1
  obtain ⟨b, rfl, b1, b2, b3⟩ := wtI_t2 hk.1.1 g2
  have hwa := (h.rs.2.2 a a1).1
  have hwb := (h.rs.2.2 b b1).1
  have la := hs.2.2.1 a
  have lb := hs.2.2.1 b
  rw [a3, b3, g1, g2]
  repeat (first | ((with_reducible apply WP.ce); case h => (simp (disch := omega) only []; with_reducible rfl)) | ((with_reducible apply WP.bd); case h => (simp (disch := omega) only [e_gR, e_gI, e_aI, e_aL, e_oO, e_pI, e_wI, e_wL, Option.map_some, mS_sL, mR_sL, mI_sL, mS_sI, mR_sI, mL_sI, n_cl, ro_m hR, rr_knows hR, rx_knows hR, hwa, hwb]; with_reducible rfl)) | rw [nm_eq] | rw [ckZ_n1] | rw [ckZ_n0])
  by_cases hc : sW (bS (zB G)) a = sW (bS (zB G)) b
  · refine WP.it (by rw [hc]) (WP.ret ?_)
    rw [decide_eq_true hc]; exact ⟨rfl, h, hk⟩
  · refine WP.ie (by rw [n_eq (by omega) (by omega)]; exact hc) ?_
    rw [decide_eq_false hc]
    repeat (first | ((with_reducible apply WP.ce); case h => (simp (disch := omega) only []; with_reducible rfl)) | ((with_reducible apply WP.bd); case h => (simp (disch := omega) only [e_gR, e_gI, e_aI, e_aL, e_oO, e_pI, e_wI, e_wL, Option.map_some, mS_sL, mR_sL, mI_sL, mS_sI, mR_sI, mL_sI, n_cl, ro_m hR]; with_reducible rfl)) | rw [nm_eq] | rw [ckZ_n1] | rw [ckZ_n0])
    refine WP.cw (x_keep h hk) (fun _ M1 h1 => ?_)
    have hk1 := hk.b (bPu_ok hk.1)
    have hR1 := h1.1.1
    have hS1 : RS M1 m (bT (zB G)) (bS (zB G)) := h1.rs
    have va := (hS1.2.2 a a1).1
    have vb := (hS1.2.2 b b1).1
    obtain ⟨M2, hM2⟩ : ∃ M2, M2 = sI M1 (m + 6) a (nI (sW (bS (zB G)) a ||| sW (bS (zB G)) b)) := ⟨_, rfl⟩
    have hR2 : RIs (mS M2) (mR M2) m := by rw [hM2]; exact hR1
    have v2 : mI M2 (m + 6) a = nI (sW (bS (zB G)) a ||| sW (bS (zB G)) b) := by rw [hM2, mI_sI, if_pos ⟨rfl, rfl⟩]
    obtain ⟨M3, hM3⟩ : ∃ M3, M3 = sI M2 (m + 6) b (nI (sW (bS (zB G)) a ||| sW (bS (zB G)) b)) := ⟨_, rfl⟩
    have hR3 : RIs (mS M3) (mR M3) m := by rw [hM3]; exact hR2
    have v3 : mI M3 (m + 6) a = nI (sW (bS (zB G)) a ||| sW (bS (zB G)) b) := by
      rw [hM3, mI_sI]
      split
      · rfl
      · exact v2
    repeat (first | ((with_reducible apply WP.ce); case h => (simp (disch := omega) only []; with_reducible rfl)) | ((with_reducible apply WP.bd); case h => (simp (disch := omega) only [e_gR, e_gI, e_aI, e_aL, e_oO, e_pI, e_wI, e_wL, Option.map_some, mS_sL, mR_sL, mI_sL, mS_sI, mR_sI, mL_sI, n_cl, ro_m hR1, rr_knows hR1, rx_knows hR1, va, vb, n_or, ← hM2]; with_reducible rfl)) | rw [nm_eq] | rw [ckZ_n1] | rw [ckZ_n0])
    repeat (first | ((with_reducible apply WP.ce); case h => (simp (disch := omega) only []; with_reducible rfl)) | ((with_reducible apply WP.bd); case h => (simp (disch := omega) only [e_gR, e_gI, e_aI, e_aL, e_oO, e_pI, e_wI, e_wL, Option.map_some, mS_sL, mR_sL, mI_sL, mS_sI, mR_sI, mL_sI, n_cl, ro_m hR2, rr_knows hR2, rx_knows hR2, v2, ← hM3]; with_reducible rfl)) | rw [nm_eq] | rw [ckZ_n1] | rw [ckZ_n0])
    repeat (first | ((with_reducible apply WP.ce); case h => (simp (disch := omega) only []; with_reducible rfl)) | ((with_reducible apply WP.bd); case h => (simp (disch := omega) only [e_gR, e_gI, e_aI, e_aL, e_oO, e_pI, e_wI, e_wL, Option.map_some, mS_sL, mR_sL, mI_sL, mS_sI, mR_sI, mL_sI, n_cl, ro_m hR3, rr_knows hR3, rx_knows hR3, v3]; with_reducible rfl)) | rw [nm_eq] | rw [ckZ_n1] | rw [ckZ_n0])
    refine WP.ret ⟨rfl, h1.sc hk1 (S := shrS (bS (zB G)) a b) (by rw [hM3, hM2]; exact (GA.w M1 (by omega) _ _).tr (GA.w _ (by omega) _ _)) ?_, hk.b (bAc_ok hk.1 (shrS_ok hs a b) h9)⟩
    show RS M3 m (bT (zB G)) (shrS (bS (zB G)) a b)
    refine ⟨?_, fun j hj => ?_, fun s hs5 => ⟨?_, ?_⟩⟩
    · rw [hM3, sI_row (by omega), hM2, sI_row (by omega)]; exact hS1.1
    · rw [hM3, sI_row (by omega), hM2, sI_row (by omega)]; exact hS1.2.1 j hj
    · show mI M3 (m + 6) s = nI (if s = a ∨ s = b then sW (bS (zB G)) a ||| sW (bS (zB G)) b else sW (bS (zB G)) s)
      rw [hM3, mI_sI]
      by_cases eb : s = b
      · rw [if_pos ⟨rfl, eb⟩, if_pos (Or.inr eb)]
      · rw [if_neg (by omega), hM2, mI_sI]
        by_cases ea : s = a
        · rw [if_pos ⟨rfl, ea⟩, if_pos (Or.inl ea)]
        · rw [if_neg (by omega), if_neg (by omega)]; exact (hS1.2.2 s hs5).1
    · rw [hM3, sI_row (by omega), hM2, sI_row (by omega)]; exact (hS1.2.2 s hs5).2
theorem x_coin (h : RG O m M G) (hk : GOk G) (x y : Int32) : WP (f_X10_coin m x y M) (fun v M' => v = (a_coin (zB G) x y).1 ∧ RG O m M' (wB G (a_coin (zB G) x y).2) ∧ GOk (wB G (a_coin (zB G) x y).2)) := by
  have hR := h.1.1
  have hs := hk.1.2.1
  have h9 := hk.1.2.2.1
  have k1 := hk.1.1.1.2.2.1
  have k2 := hk.1.1.1.2.2.2
  unfold f_X10_coin f_X10_coin_J29 a_coin
  repeat (first | ((with_reducible apply WP.ce); case h => (simp (disch := omega) only [r_waitsI hR h.rt hk.1.1 h.rs hs]; with_reducible rfl)) | ((with_reducible apply WP.bd); case h => (simp (disch := omega) only [e_gR, e_gI, e_aI, e_aL, e_oO, e_pI, e_wI, e_wL, Option.map_some, mS_sL, mR_sL, mI_sL, mS_sI, mR_sI, mL_sI, n_cl, ro_m hR]; with_reducible rfl)) | rw [nm_eq] | rw [ckZ_n1] | rw [ckZ_n0])
  refine WP.gd (fun g1 => WP.ret (by rw [g1]; exact ⟨rfl, h, hk⟩)) (fun g1 => ?_)
  repeat (first | ((with_reducible apply WP.ce); case h => (simp (disch := omega) only [r_isJoke hR h.rt hk.1.1]; with_reducible rfl)) | ((with_reducible apply WP.bd); case h => (simp (disch := omega) only [e_gR, e_gI, e_aI, e_aL, e_oO, e_pI, e_wI, e_wL, Option.map_some, mS_sL, mR_sL, mI_sL, mS_sI, mR_sI, mL_sI, n_cl, ro_m hR]; with_reducible rfl)) | rw [nm_eq] | rw [ckZ_n1] | rw [ckZ_n0])
  refine WP.gd (fun g2 => WP.ret (by rw [g1, g2]; exact ⟨rfl, h, hk⟩)) (fun g2 => ?_)
  obtain ⟨s, rfl, s1, s2, s3⟩ := wtI_t2 hk.1.1 g1
  obtain ⟨j, j1, rfl⟩ := ixB_t (by omega) g2
  have hw := (h.rs.2.2 s s1).1
  have hwl := hs.2.2.1 s
  rw [s3, n_cl (by omega : j < 2 ^ 31), g1, g2]
  repeat (first | ((with_reducible apply WP.ce); case h => (simp (disch := omega) only [has_eq]; with_reducible rfl)) | ((with_reducible apply WP.bd); case h => (simp (disch := omega) only [e_gR, e_gI, e_aI, e_aL, e_oO, e_pI, e_wI, e_wL, Option.map_some, mS_sL, mR_sL, mI_sL, mS_sI, mR_sI, mL_sI, n_cl, ro_m hR, rr_knows hR, rx_knows hR, hw]; with_reducible rfl)) | rw [nm_eq] | rw [ckZ_n1] | rw [ckZ_n0])
  refine WP.gd (fun g3 => ?_) (fun g3 => WP.ret (by rw [g3]; exact ⟨rfl, h, hk⟩))
  rw [g3]
  repeat (first | ((with_reducible apply WP.ce); case h => (simp (disch := omega) only []; with_reducible rfl)) | ((with_reducible apply WP.bd); case h => (simp (disch := omega) only [e_gR, e_gI, e_aI, e_aL, e_oO, e_pI, e_wI, e_wL, Option.map_some, mS_sL, mR_sL, mI_sL, mS_sI, mR_sI, mL_sI, n_cl, ro_m hR]; with_reducible rfl)) | rw [nm_eq] | rw [ckZ_n1] | rw [ckZ_n0])
  refine WP.cw (x_keep h hk) (fun _ M1 h1 => ?_)
  have hk1 := hk.b (bPu_ok hk.1)
  have hR1 := h1.1.1
  have hS1 : RS M1 m (bT (zB G)) (bS (zB G)) := h1.rs
  have va := (hS1.2.2 s s1).1
  obtain ⟨M2, hM2⟩ : ∃ M2, M2 = sI M1 (m + 6) s (nI (sW (bS (zB G)) s ||| 2 ^ j)) := ⟨_, rfl⟩
  have hR2 : RIs (mS M2) (mR M2) m := by rw [hM2]; exact hR1
  have v2 : mI M2 (m + 6) s = nI (sW (bS (zB G)) s ||| 2 ^ j) := by rw [hM2, mI_sI, if_pos ⟨rfl, rfl⟩]
  repeat (first | ((with_reducible apply WP.ce); case h => (simp (disch := omega) only []; with_reducible rfl)) | ((with_reducible apply WP.bd); case h => (simp (disch := omega) only [e_gR, e_gI, e_aI, e_aL, e_oO, e_pI, e_wI, e_wL, Option.map_some, mS_sL, mR_sL, mI_sL, mS_sI, mR_sI, mL_sI, n_cl, ro_m hR1, rr_knows hR1, rx_knows hR1, va, n_shl, n_or, ← hM2]; with_reducible rfl)) | rw [nm_eq] | rw [ckZ_n1] | rw [ckZ_n0])
  repeat (first | ((with_reducible apply WP.ce); case h => (simp (disch := omega) only []; with_reducible rfl)) | ((with_reducible apply WP.bd); case h => (simp (disch := omega) only [e_gR, e_gI, e_aI, e_aL, e_oO, e_pI, e_wI, e_wL, Option.map_some, mS_sL, mR_sL, mI_sL, mS_sI, mR_sI, mL_sI, n_cl, ro_m hR2, rr_knows hR2, rx_knows hR2, v2]; with_reducible rfl)) | rw [nm_eq] | rw [ckZ_n1] | rw [ckZ_n0])
  refine WP.ret ⟨rfl, h1.sc hk1 (S := coiS (bS (zB G)) s j) (by rw [hM2]; exact GA.w M1 (by omega) _ _) ?_, hk.b (bAc_ok hk.1 (coiS_ok hs (by omega)) h9)⟩
  show RS M2 m (bT (zB G)) (coiS (bS (zB G)) s j)
  refine ⟨?_, fun j hj => ?_, fun i hs5 => ⟨?_, ?_⟩⟩
  · rw [hM2, sI_row (by omega)]; exact hS1.1
  · rw [hM2, sI_row (by omega)]; exact hS1.2.1 j hj
  · show mI M2 (m + 6) i = nI (fset (sW (bS (zB G))) s (sW (bS (zB G)) s ||| 2 ^ j) i)
    rw [hM2, mI_sI]
    by_cases ea : i = s
    · rw [if_pos ⟨rfl, ea⟩, ea, fset_s]
    · rw [if_neg (by omega), fset_o _ _ ea]; exact (hS1.2.2 i hs5).1
  · rw [hM2, sI_row (by omega)]; exact (hS1.2.2 i hs5).2
theorem snc_rem {T : TD} {S : SC} (hk : TOk T) (hs : SOk S) {j : Nat} (hr : rem T S j = true) : ∃ h : Int, sH S j = some h ∧ 0 ≤ (sT S : Int) - h ∧ (sT S : Int) - h < 60 ∧ snc S j = ((sT S : Int) - h).toNat := by
  have h1 := hk.1.1
  unfold rem at hr
  cases hh : sH S j with
  | none => rw [hh] at hr; cases hr
  | some h =>
    rw [hh] at hr
    have hr : (sT S : Int) - h < (tF T : Int) := of_decide_eq_true hr
    have h2 := hs.2.1 j h hh
    refine ⟨h, rfl, by omega, by omega, ?_⟩
    unfold snc
    rw [hh]
    show (if 99 < ((sT S : Int) - h).toNat then 99 else ((sT S : Int) - h).toNat) = _
    rw [if_neg (by omega)]
theorem x_dull (h : RG O m M G) (hk : GOk G) (y : Int32) : WP (f_X10_dull m y M) (fun v M' => v = (a_dull (zB G) y).1 ∧ RG O m M' (wB G (a_dull (zB G) y).2) ∧ GOk (wB G (a_dull (zB G) y).2)) := by
  have hR := h.1.1
  have hs := hk.1.2.1
  have h9 := hk.1.2.2.1
  have k1 := hk.1.1.1.2.2.1
  unfold f_X10_dull f_X10_dull_J16 a_dull
  repeat (first | ((with_reducible apply WP.ce); case h => (simp (disch := omega) only [r_isJoke hR h.rt hk.1.1]; with_reducible rfl)) | ((with_reducible apply WP.bd); case h => (simp (disch := omega) only [e_gR, e_gI, e_aI, e_aL, e_oO, e_pI, e_wI, e_wL, Option.map_some, mS_sL, mR_sL, mI_sL, mS_sI, mR_sI, mL_sI, n_cl, ro_m hR]; with_reducible rfl)) | rw [nm_eq] | rw [ckZ_n1] | rw [ckZ_n0])
  refine WP.gd (fun g1 => WP.ret (by rw [g1]; exact ⟨rfl, h, hk⟩)) (fun g1 => ?_)
  obtain ⟨j, j1, rfl⟩ := ixB_t (by omega) g1
  rw [n_cl (by omega : j < 2 ^ 31), g1]
  repeat (first | ((with_reducible apply WP.ce); case h => (simp (disch := omega) only [r_remembers hR h.rt hk.1.1 h.rs hs]; with_reducible rfl)) | ((with_reducible apply WP.bd); case h => (simp (disch := omega) only [e_gR, e_gI, e_aI, e_aL, e_oO, e_pI, e_wI, e_wL, Option.map_some, mS_sL, mR_sL, mI_sL, mS_sI, mR_sI, mL_sI, n_cl, ro_m hR]; with_reducible rfl)) | rw [nm_eq] | rw [ckZ_n1] | rw [ckZ_n0])
  refine WP.gd (fun g2 => WP.ret (by rw [g2]; exact ⟨rfl, h, hk⟩)) (fun g2 => ?_)
  rw [g2]
  repeat (first | ((with_reducible apply WP.ce); case h => (simp (disch := omega) only []; with_reducible rfl)) | ((with_reducible apply WP.bd); case h => (simp (disch := omega) only [e_gR, e_gI, e_aI, e_aL, e_oO, e_pI, e_wI, e_wL, Option.map_some, mS_sL, mR_sL, mI_sL, mS_sI, mR_sI, mL_sI, n_cl, ro_m hR]; with_reducible rfl)) | rw [nm_eq] | rw [ckZ_n1] | rw [ckZ_n0])
  refine WP.cw (x_keep h hk) (fun _ M1 h1 => ?_)
  have hk1 := hk.b (bPu_ok hk.1)
  have hR1 := h1.1.1
  have hS1 : RS M1 m (bT (zB G)) (bS (zB G)) := h1.rs
  have va := hS1.2.1 j j1
  obtain ⟨hh, e1, e2, e3, e4⟩ := snc_rem hk.1.1 hs g2
  have ev : nI (sT (bS (zB G))) - eH (-1000) (sH (bS (zB G)) j) = nI (snc (bS (zB G)) j) := by
    have es := eH_sub (c := -1000) (cz := -1000) (by decide) (by decide) hs j
    rw [fa_eq, es, e1, e4, nI_toInt (by omega)]
    show (sT (bS (zB G)) : Int) - hh = _
    omega
  repeat (first | ((with_reducible apply WP.ce); case h => (simp (disch := omega) only []; with_reducible rfl)) | ((with_reducible apply WP.bd); case h => (simp (disch := omega) only [e_gR, e_gI, e_aI, e_aL, e_oO, e_pI, e_wI, e_wL, Option.map_some, mS_sL, mR_sL, mI_sL, mS_sI, mR_sI, mL_sI, n_cl, ro_m hR1, rr_scalar hR1, rx_scalar hR1, hS1.1.1, rr_heard hR1, rx_heard hR1, va]; with_reducible rfl)) | rw [nm_eq] | rw [ckZ_n1] | rw [ckZ_n0])
  refine WP.ret ⟨ev, h1.sc hk1 (S := dulS (bS (zB G)) j) (GA.w M1 (by omega) _ _) ?_, hk.b (bAc_ok hk.1 (dulS_ok hs j) h9)⟩
  show RS (sI M1 (m + 5) j (-1000)) m (bT (zB G)) (dulS (bS (zB G)) j)
  refine ⟨?_, fun i hi => ?_, fun i hs5 => ⟨?_, ?_⟩⟩
  · rw [sI_row (by omega)]; exact hS1.1
  · show _ = eH (-1000) (fset (sH (bS (zB G))) j none i)
    rw [mI_sI]
    by_cases ea : i = j
    · rw [if_pos ⟨rfl, ea⟩, ea, fset_s]; rfl
    · rw [if_neg (by omega), fset_o _ _ ea]; exact hS1.2.1 i hi
  · rw [sI_row (by omega)]; exact (hS1.2.2 i hs5).1
  · rw [sI_row (by omega)]; exact (hS1.2.2 i hs5).2
theorem x_undo (h : RG O m M G) (hk : GOk G) : WP (f_X10_undo m M) (fun v M' => v = (a_undo (zB G)).1 ∧ RG O m M' (wB G (a_undo (zB G)).2) ∧ GOk (wB G (a_undo (zB G)).2)) := by
  have hR := h.1.1
  obtain ⟨a, b, cc, d, e0, e1⟩ := h.2.1
  have h1 := hk.1.1.1.2.2.1
  have h2 := hk.1.1.1.2.2.2
  obtain ⟨p1, p2⟩ := hk.1.2.2.2.2.1
  unfold f_X10_undo a_undo
  repeat (first | ((with_reducible apply WP.ce); case h => (simp (disch := omega) only []; with_reducible rfl)) | ((with_reducible apply WP.bd); case h => (simp (disch := omega) only [e_gR, e_gI, e_aI, e_aL, e_oO, e_pI, e_wI, e_wL, Option.map_some, mS_sL, mR_sL, mI_sL, mS_sI, mR_sI, mL_sI, n_cl, ro_m hR, e0]; with_reducible rfl)) | rw [nm_eq] | rw [ckZ_n1] | rw [ckZ_n0])
  by_cases hc : (bP (zB G)).1 = 0
  · refine WP.it (by rw [hc]; rfl) (WP.ret ?_)
    rw [if_pos hc]; exact ⟨rfl, h, hk⟩
  · refine WP.ie (by rw [nIz (by omega)]; exact hc) ?_
    rw [if_neg hc]
    obtain ⟨M1, hM1⟩ : ∃ M1, M1 = sI M m 42 (nI ((bP (zB G)).1 - 1)) := ⟨_, rfl⟩
    have hR1 : RIs (mS M1) (mR M1) m := by rw [hM1]; exact hR
    have v1 : mI M1 m 42 = nI ((bP (zB G)).1 - 1) := by rw [hM1, mI_sI, if_pos ⟨rfl, rfl⟩]
    have r1 : ∀ a, a ≠ m → mI M1 a = mI M a := fun a ha => by rw [hM1, sI_row ha]
    repeat (first | ((with_reducible apply WP.ce); case h => (simp (disch := omega) only []; with_reducible rfl)) | ((with_reducible apply WP.bd); case h => (simp (disch := omega) only [e_gR, e_gI, e_aI, e_aL, e_oO, e_pI, e_wI, e_wL, Option.map_some, mS_sL, mR_sL, mI_sL, mS_sI, mR_sI, mL_sI, n_cl, ro_m hR, e0, n_sub, ← hM1]; with_reducible rfl)) | rw [nm_eq] | rw [ckZ_n1] | rw [ckZ_n0])
    repeat (first | ((with_reducible apply WP.ce); case h => (simp (disch := omega) only []; with_reducible rfl)) | ((with_reducible apply WP.bd); case h => (simp (disch := omega) only [e_gR, e_gI, e_aI, e_aL, e_oO, e_pI, e_wI, e_wL, Option.map_some, mS_sL, mR_sL, mI_sL, mS_sI, mR_sI, mL_sI, n_cl, ro_m hR1, v1]; with_reducible rfl)) | rw [nm_eq] | rw [ckZ_n1] | rw [ckZ_n0])
    refine WP.cw (r_mvB hR1 (i := (bP (zB G)).1 - 1) (by omega)) (fun _ M2 c => ?_)
    obtain ⟨c1, c2, c3, c4, c5, c6, c7⟩ := c
    have hR2 := c1.RI hR1
    have e42 : mI M2 m 42 = nI ((bP (zB G)).1 - 1) := (c2 42 (by decide) (by decide)).trans v1
    repeat (first | ((with_reducible apply WP.ce); case h => (simp (disch := omega) only []; with_reducible rfl)) | ((with_reducible apply WP.bd); case h => (simp (disch := omega) only [e_gR, e_gI, e_aI, e_aL, e_oO, e_pI, e_wI, e_wL, Option.map_some, mS_sL, mR_sL, mI_sL, mS_sI, mR_sI, mL_sI, n_cl, ro_m hR2, e42]; with_reducible rfl)) | rw [nm_eq] | rw [ckZ_n1] | rw [ckZ_n0])
    have rows : ∀ a, a ≠ m → a ≠ m + 1 → a ≠ m + 5 → a ≠ m + 6 → a ≠ m + 7 → mI M2 a = mI M a := fun a a1 a2 a3 a4 a5 => by
      rw [c1.2.2 a (by simp; omega), r1 a a1]
    rw [r1 (m + 28) (by omega)] at c4 c5 c6 c7
    obtain ⟨⟨f0, f1⟩, f2, f3⟩ := e1 ((bP (zB G)).1 - 1) (by omega)
    refine WP.ret ⟨rfl, h.up hk ⟨⟨c1.1.trans (by rw [hM1]; rfl), c1.2.1.trans (by rw [hM1]; rfl)⟩, fun a ha => rows a (by omega) (by omega) (by omega) (by omega) (by omega), fun k hk2 => ?_, fun a a1 a2 => rows _ (by omega) (by omega) (by omega) (by omega) (by omega), rows _ (by omega) (by omega) (by omega) (by omega) (by omega), fun i _ => by rw [rows _ (by omega) (by omega) (by omega) (by omega) (by omega)]⟩ ?_, hk.b ⟨hk.1.1, (p2 _ (by omega)).1, (p2 _ (by omega)).2, hk.1.2.2.2.1, ⟨by show (bP (zB G)).1 - 1 ≤ 20; omega, fun i hi => p2 i (by have hi : i < (bP (zB G)).1 - 1 := hi; omega)⟩, hk.1.2.2.2.2.2⟩⟩
    · rw [c2 k (by omega) (by omega), hM1, mI_sI, if_neg (by omega)]
    · have r11 : ∀ k, k ≠ 4 → k ≠ 5 → mI M2 (m + 1) k = mI M (m + 1) k := fun k k1 k2 => by rw [c3 k k1 k2, r1 _ (by omega)]
      unfold RBk RBf
      rw [rows (m + 2) (by omega) (by omega) (by omega) (by omega) (by omega), rows (m + 3) (by omega) (by omega) (by omega) (by omega) (by omega), rows (m + 4) (by omega) (by omega) (by omega) (by omega) (by omega), rows (m + 8) (by omega) (by omega) (by omega) (by omega) (by omega), rows (m + 9) (by omega) (by omega) (by omega) (by omega) (by omega), rows (m + 10) (by omega) (by omega) (by omega) (by omega) (by omega), rows (m + 11) (by omega) (by omega) (by omega) (by omega) (by omega), rows (m + 28) (by omega) (by omega) (by omega) (by omega) (by omega), r11 0 (by decide) (by decide), r11 1 (by decide) (by decide), r11 2 (by decide) (by decide), r11 3 (by decide) (by decide), r11 6 (by decide) (by decide), r11 7 (by decide) (by decide), r11 8 (by decide) (by decide)]
      refine ⟨a, ⟨⟨c4.trans f0, c5.trans f1⟩, fun j hj => ?_, fun s hs => ⟨?_, ?_⟩⟩, cc, d, e42, fun i hi => e1 i (by have hi : i < (bP (zB G)).1 - 1 := hi; omega)⟩
      · rw [c6 j (by have hj : j < tJ (bT (zB G)) := hj; omega), Nat.add_assoc]; exact f2 j hj
      · rw [(c7 s (by have hs : s < tN (bT (zB G)) := hs; omega)).1, Nat.add_assoc]; exact (f3 s hs).1
      · rw [(c7 s (by have hs : s < tN (bT (zB G)) := hs; omega)).2, Nat.add_assoc]; exact (f3 s hs).2
end XACT
