/-! THE REFERENCE: force, seed, note, count -/
variable {O : Mem}
def q_count (G : GD) (x : Int32) : Int32 :=
  if inR x 0 13 then ([nI (tF (bT (zB G))), nI (tK (bT (zB G))), nI (tJ (bT (zB G))), nI (tN (bT (zB G))), nI (zC G), eP (bF (zB G)), nI (sT (bS (zB G))), nI (ernA (bT (zB G)) (bS (zB G))), nI (wtm (bT (zB G)) (bS (zB G))), nI (mem (bT (zB G)) (bS (zB G))), nI (nC (bN (zB G))), nI (bP (zB G)).1, nI (bX (zB G)), nI (zL G)] : List Int32).getD x.toNatClampNeg 0 else -1
section XSM
variable {m : Nat} {M : Mem} {G : GD}
theorem RF0.n {m : Nat} (M : Mem) {a : Nat} (ha : a = m + 1 ∨ a = m + 8 ∨ a = m + 9 ∨ a = m + 10) (k : Nat) (v : Int32) : RF0 m M (sI M a k v) := ⟨⟨rfl, rfl⟩, fun b hb => sI_row (by omega), fun k _ => by rw [sI_row (by omega)], fun b b1 b2 => sI_row (by omega), sI_row (by omega), fun i _ => by rw [sI_row (by omega)]⟩
theorem RF0.tr {m : Nat} {M1 M2 M3 : Mem} (h1 : RF0 m M1 M2) (h2 : RF0 m M2 M3) : RF0 m M1 M3 := ⟨⟨h2.1.1.trans h1.1.1, h2.1.2.trans h1.1.2⟩, fun a ha => (h2.2.1 a ha).trans (h1.2.1 a ha), fun k hk => (h2.2.2.1 k hk).trans (h1.2.2.1 k hk), fun a a1 a2 => (h2.2.2.2.1 a a1 a2).trans (h1.2.2.2.1 a a1 a2), h2.2.2.2.2.1.trans h1.2.2.2.2.1, fun i hi => (h2.2.2.2.2.2 i hi).trans (h1.2.2.2.2.2 i hi)⟩
theorem RBk_w1 {m : Nat} {M : Mem} {k : Nat} {v : Int32} {B : BD} (h : RBf (upd (mI M (m + 1)) k v) (mI M (m + 5)) (mI M (m + 6)) (mI M (m + 7)) (mI M m 42) (mI M (m + 2)) (mI M (m + 3)) (mI M (m + 4)) (mI M (m + 11)) (mI M (m + 8)) (mI M (m + 9)) (mI M (m + 10)) (mI M (m + 28)) B) : RBk (sI M (m + 1) k v) m B := by
  have r : ∀ a, a ≠ m + 1 → mI (sI M (m + 1) k v) a = mI M a := fun a ha => sI_row ha
  unfold RBk
  rw [mI_sI_s, r (m + 5) (by omega), r (m + 6) (by omega), r (m + 7) (by omega), r m (by omega), r (m + 2) (by omega), r (m + 3) (by omega), r (m + 4) (by omega), r (m + 11) (by omega), r (m + 8) (by omega), r (m + 9) (by omega), r (m + 10) (by omega), r (m + 28) (by omega)]
  exact h
theorem x_force (h : RG O m M G) (hk : GOk G) (x : Int32) : WP (f_X10_force m x M) (fun v M' => v = (a_force (zC G) (zB G) x).1 ∧ RG O m M' (wB G (a_force (zC G) (zB G) x).2) ∧ GOk (wB G (a_force (zC G) (zB G) x).2)) := by
  have hR := h.1.1
  have e21 := h.2.2.1.2.1
  obtain ⟨a, b, cc, ⟨d0, d1⟩, e⟩ := h.2.1
  unfold f_X10_force a_force
  repeat (first | ((with_reducible apply WP.ce); case h => (simp (disch := omega) only []; with_reducible rfl)) | ((with_reducible apply WP.bd); case h => (simp (disch := omega) only [e_gR, e_gI, e_aI, e_aL, e_oO, e_pI, e_wI, e_wL, Option.map_some, mS_sL, mR_sL, mI_sL, mS_sI, mR_sI, mL_sI, n_cl, ro_m hR, e21]; with_reducible rfl)) | rw [nm_eq] | rw [ckZ_n1] | rw [ckZ_n0])
  refine WP.ce (in_rule x hk.2.2.2.1 M) ?_
  refine WP.gd (fun g => WP.ret (by rw [g]; exact ⟨rfl, h, hk⟩)) (fun g => ?_)
  rw [g]
  obtain ⟨e1, e2⟩ := rlB_t (by have := hk.2.2.2.1; omega) g
  repeat (first | ((with_reducible apply WP.ce); case h => (simp (disch := omega) only []; with_reducible rfl)) | ((with_reducible apply WP.bd); case h => (simp (disch := omega) only [e_gR, e_gI, e_aI, e_aL, e_oO, e_pI, e_wI, e_wL, Option.map_some, mS_sL, mR_sL, mI_sL, mS_sI, mR_sI, mL_sI, n_cl, ro_m hR, rr_scalar hR, rx_scalar hR, d1]; with_reducible rfl)) | rw [nm_eq] | rw [ckZ_n1] | rw [ckZ_n0])
  refine WP.ret ⟨rfl, h.up hk (RF0.n M (by omega) _ _) ?_, hk.b ⟨hk.1.1, hk.1.2.1, hk.1.2.2.1, hk.1.2.2.2.1, hk.1.2.2.2.2.1, hk.1.2.2.2.2.2.1, e2⟩⟩
  refine RBk_w1 ?_
  unfold RBf
  rw [upd_o _ _ (by decide), upd_o _ _ (by decide), upd_o _ _ (by decide), upd_o _ _ (by decide), upd_o _ _ (by decide), upd_o _ _ (by decide), upd_o _ _ (by decide), upd_o _ _ (by decide), upd_s]
  exact ⟨a, b, cc, ⟨d0, e1⟩, e⟩
theorem x_seed (h : RG O m M G) (hk : GOk G) (x : Int32) : WP (f_X10_seed m x M) (fun v M' => v = (a_seed (zB G) x).1 ∧ RG O m M' (wB G (a_seed (zB G) x).2) ∧ GOk (wB G (a_seed (zB G) x).2)) := by
  have hR := h.1.1
  obtain ⟨a, b, cc, ⟨d0, d1⟩, e⟩ := h.2.1
  have z0 : (0 : Int32).toInt = 0 := by decide
  unfold f_X10_seed a_seed
  by_cases g : 0 ≤ x.toInt
  · refine WP.it (by rw [fa_le, z0]; exact g) ?_
    rw [decide_eq_true g]
    have ex : x = nI x.toNatClampNeg := by
      have hl := Int32.toInt_lt x
      have e5 : x = nI x.toInt.toNat := by rw [fa_eq, nI_toInt (by omega)]; omega
      have : x.toNatClampNeg = x.toInt.toNat := by rw [e5, n_cl (by omega), nI_toInt (by omega)]; omega
      rw [this]; exact e5
    have hx : x.toNatClampNeg < 2 ^ 31 := by
      have hl := Int32.toInt_lt x
      show x.toInt.toNat < 2 ^ 31
      omega
    repeat (first | ((with_reducible apply WP.ce); case h => (simp (disch := omega) only []; with_reducible rfl)) | ((with_reducible apply WP.bd); case h => (simp (disch := omega) only [e_gR, e_gI, e_aI, e_aL, e_oO, e_pI, e_wI, e_wL, Option.map_some, mS_sL, mR_sL, mI_sL, mS_sI, mR_sI, mL_sI, n_cl, ro_m hR, rr_scalar hR, rx_scalar hR, d0]; with_reducible rfl)) | rw [nm_eq] | rw [ckZ_n1] | rw [ckZ_n0])
    refine WP.ret ⟨rfl, h.up hk (RF0.n M (by omega) _ _) ?_, hk.b ⟨hk.1.1, hk.1.2.1, hk.1.2.2.1, hk.1.2.2.2.1, hk.1.2.2.2.2.1, hx, hk.1.2.2.2.2.2.2⟩⟩
    refine RBk_w1 ?_
    unfold RBf
    rw [upd_o _ _ (by decide), upd_o _ _ (by decide), upd_o _ _ (by decide), upd_o _ _ (by decide), upd_o _ _ (by decide), upd_o _ _ (by decide), upd_o _ _ (by decide), upd_s, upd_o _ _ (by decide)]
    exact ⟨a, b, cc, ⟨ex, d1⟩, e⟩
  · refine WP.ie (by rw [fa_le, z0]; exact g) (WP.ret ?_)
    rw [decide_eq_false g]; exact ⟨rfl, h, hk⟩
theorem x_note (h : RG O m M G) (hk : GOk G) (x y z : Int32) : WP (f_X10_note m x y z M) (fun v M' => v = (a_note (zB G) x y z).1 ∧ RG O m M' (wB G (a_note (zB G) x y z).2) ∧ GOk (wB G (a_note (zB G) x y z).2)) := by
  have hR := h.1.1
  have k1 := hk.1.1.1.2.2.1
  have k2 := hk.1.1.1.2.2.2
  obtain ⟨n1, n2⟩ := hk.1.2.2.2.1
  obtain ⟨a, b, ⟨c0, c1⟩, d, e⟩ := h.2.1
  unfold f_X10_note f_X10_note_J57 f_X10_note_J64 a_note
  by_cases x1 : x = -1
  · refine WP.it x1 ?_
    rw [if_pos x1]
    repeat (first | ((with_reducible apply WP.ce); case h => (simp (disch := omega) only []; with_reducible rfl)) | ((with_reducible apply WP.bd); case h => (simp (disch := omega) only [e_gR, e_gI, e_aI, e_aL, e_oO, e_pI, e_wI, e_wL, Option.map_some, mS_sL, mR_sL, mI_sL, mS_sI, mR_sI, mL_sI, n_cl, ro_m hR, rr_scalar hR, rx_scalar hR]; with_reducible rfl)) | rw [nm_eq] | rw [ckZ_n1] | rw [ckZ_n0])
    refine WP.ret ⟨rfl, h.up hk (RF0.n M (by omega) _ _) ?_, hk.b ⟨hk.1.1, hk.1.2.1, hk.1.2.2.1, ⟨by show 0 ≤ 10; omega, fun i hi => absurd hi (Nat.not_lt_zero i)⟩, hk.1.2.2.2.2⟩⟩
    refine RBk_w1 ?_
    unfold RBf
    rw [upd_o _ _ (by decide), upd_o _ _ (by decide), upd_o _ _ (by decide), upd_o _ _ (by decide), upd_o _ _ (by decide), upd_o _ _ (by decide), upd_s, upd_o _ _ (by decide), upd_o _ _ (by decide)]
    exact ⟨a, b, ⟨rfl, fun i hi => absurd hi (Nat.not_lt_zero i)⟩, d, e⟩
  · refine WP.ie x1 ?_
    rw [if_neg x1]
    repeat (first | ((with_reducible apply WP.ce); case h => (simp (disch := omega) only [in_060]; with_reducible rfl)) | ((with_reducible apply WP.bd); case h => (simp (disch := omega) only [e_gR, e_gI, e_aI, e_aL, e_oO, e_pI, e_wI, e_wL, Option.map_some, mS_sL, mR_sL, mI_sL, mS_sI, mR_sI, mL_sI, n_cl, ro_m hR, rr_scalar hR, rx_scalar hR, c0]; with_reducible rfl)) | rw [nm_eq] | rw [ckZ_n1] | rw [ckZ_n0])
    refine WP.gd (fun g1 => WP.ret (by rw [g1]; exact ⟨rfl, h, hk⟩)) (fun g1 => ?_)
    rw [g1]
    repeat (first | ((with_reducible apply WP.ce); case h => (simp (disch := omega) only [r_isShip hR h.rt hk.1.1]; with_reducible rfl)) | ((with_reducible apply WP.bd); case h => (simp (disch := omega) only [e_gR, e_gI, e_aI, e_aL, e_oO, e_pI, e_wI, e_wL, Option.map_some, mS_sL, mR_sL, mI_sL, mS_sI, mR_sI, mL_sI, n_cl, ro_m hR]; with_reducible rfl)) | rw [nm_eq] | rw [ckZ_n1] | rw [ckZ_n0])
    refine WP.gd (fun g2 => WP.ret (by rw [g2]; exact ⟨rfl, h, hk⟩)) (fun g2 => ?_)
    rw [g2]
    obtain ⟨n, rfl, -, nn, n3⟩ := inR_t g1 (by decide)
    obtain ⟨s, s1, rfl⟩ := ixB_t (by omega) g2
    have on : (decide (z = -1) || ixB z (tJ (bT (zB G)))) = true → WP (if nI (nC (bN (zB G))) = nI 10 then some ((-2 : Int32), M) else (gR M 10 8 (some m)).bind fun noteTide1 => (wI M 0 noteTide1 (nI (nC (bN (zB G)))) (nI n)).bind fun M => (gR M 10 9 (some m)).bind fun noteShip2 => (wI M 0 noteShip2 (nI (nC (bN (zB G)))) (nI s)).bind fun M => (gR M 10 10 (some m)).bind fun noteJoke3 => (wI M 0 noteJoke3 (nI (nC (bN (zB G)))) z).bind fun M => (gR M 10 1 (some m)).bind fun scalar4 => (aI M 0 scalar4 (nI 6)).bind fun e5 => (wI M 0 scalar4 (nI 6) (e5 + nI 1)).bind fun M => some (nI (nC (bN (zB G))) + nI 1, M)) (fun v M' => v = (if (true && true && (decide (z = -1) || ixB z (tJ (bT (zB G)))) && !(decide (nC (bN (zB G)) = 10))) = true then (nI (nC (bN (zB G)) + 1), (bT (zB G), bS (zB G), adN (bN (zB G)) (nI n).toNatClampNeg (nI s).toNatClampNeg (rlO z), bP (zB G), bX (zB G), bF (zB G))) else (-2, zB G)).1 ∧ RG O m M' (wB G (if (true && true && (decide (z = -1) || ixB z (tJ (bT (zB G)))) && !(decide (nC (bN (zB G)) = 10))) = true then (nI (nC (bN (zB G)) + 1), (bT (zB G), bS (zB G), adN (bN (zB G)) (nI n).toNatClampNeg (nI s).toNatClampNeg (rlO z), bP (zB G), bX (zB G), bF (zB G))) else (-2, zB G)).2) ∧ GOk (wB G (if (true && true && (decide (z = -1) || ixB z (tJ (bT (zB G)))) && !(decide (nC (bN (zB G)) = 10))) = true then (nI (nC (bN (zB G)) + 1), (bT (zB G), bS (zB G), adN (bN (zB G)) (nI n).toNatClampNeg (nI s).toNatClampNeg (rlO z), bP (zB G), bX (zB G), bF (zB G))) else (-2, zB G)).2)) := by
      intro g3
      rw [g3]
      by_cases hc : nC (bN (zB G)) = 10
      · refine WP.it (by rw [hc]) (WP.ret ?_)
        rw [decide_eq_true hc]; exact ⟨rfl, h, hk⟩
      · refine WP.ie (by rw [n_eq (by omega) (by omega)]; exact hc) ?_
        rw [decide_eq_false hc, n_cl n3, n_cl (by omega : s < 2 ^ 31)]
        have ez : z = eP (rlO z) ∧ ∀ j, rlO z = some j → j < tJ (bT (zB G)) := by
          refine rlB_t (by omega) ?_
          unfold rlB
          apply decide_eq_true
          rcases Bool.or_eq_true_iff.mp g3 with g | g
          · have := of_decide_eq_true g
            rw [this]
            have hm : (-1 : Int32).toInt = -1 := by decide
            omega
          · have := of_decide_eq_true g
            omega
        obtain ⟨M1, hM1⟩ : ∃ M1, M1 = sI (sI (sI M (m + 8) (nC (bN (zB G))) (nI n)) (m + 9) (nC (bN (zB G))) (nI s)) (m + 10) (nC (bN (zB G))) z := ⟨_, rfl⟩
        have hR1 : RIs (mS M1) (mR M1) m := by rw [hM1]; exact hR
        have e6 : mI M1 (m + 1) 6 = nI (nC (bN (zB G))) := by rw [hM1, sI_row (by omega), sI_row (by omega), sI_row (by omega)]; exact c0
        repeat (first | ((with_reducible apply WP.ce); case h => (simp (disch := omega) only []; with_reducible rfl)) | ((with_reducible apply WP.bd); case h => (simp (disch := omega) only [e_gR, e_gI, e_aI, e_aL, e_oO, e_pI, e_wI, e_wL, Option.map_some, mS_sL, mR_sL, mI_sL, mS_sI, mR_sI, mL_sI, n_cl, ro_m hR, rr_noteTide hR, rx_noteTide hR, rr_noteShip hR, rx_noteShip hR, rr_noteJoke hR, rx_noteJoke hR, ← hM1]; with_reducible rfl)) | rw [nm_eq] | rw [ckZ_n1] | rw [ckZ_n0])
        repeat (first | ((with_reducible apply WP.ce); case h => (simp (disch := omega) only []; with_reducible rfl)) | ((with_reducible apply WP.bd); case h => (simp (disch := omega) only [e_gR, e_gI, e_aI, e_aL, e_oO, e_pI, e_wI, e_wL, Option.map_some, mS_sL, mR_sL, mI_sL, mS_sI, mR_sI, mL_sI, n_cl, ro_m hR1, rr_scalar hR1, rx_scalar hR1, e6]; with_reducible rfl)) | rw [nm_eq] | rw [ckZ_n1] | rw [ckZ_n0])
        rw [n_add]
        refine WP.ret ⟨rfl, h.up hk ?_ ?_, hk.b ⟨hk.1.1, hk.1.2.1, hk.1.2.2.1, ⟨by show nC (bN (zB G)) + 1 ≤ 10; omega, fun i hi => ?_⟩, hk.1.2.2.2.2⟩⟩
        · rw [hM1]
          exact (((RF0.n M (by omega) _ _).tr (RF0.n _ (by omega) _ _)).tr (RF0.n _ (by omega) _ _)).tr (RF0.n _ (by omega) _ _)
        · have q8 : mI M1 (m + 8) = upd (mI M (m + 8)) (nC (bN (zB G))) (nI n) := by rw [hM1, sI_row (by omega), sI_row (by omega), mI_sI_s]
          have q9 : mI M1 (m + 9) = upd (mI M (m + 9)) (nC (bN (zB G))) (nI s) := by rw [hM1, sI_row (by omega), mI_sI_s, sI_row (by omega)]
          have q10 : mI M1 (m + 10) = upd (mI M (m + 10)) (nC (bN (zB G))) z := by rw [hM1, mI_sI_s, sI_row (by omega), sI_row (by omega)]
          have qo : ∀ a, a ≠ m + 8 → a ≠ m + 9 → a ≠ m + 10 → mI M1 a = mI M a := fun a a1 a2 a3 => by rw [hM1, sI_row a3, sI_row a2, sI_row a1]
          refine RBk_w1 ?_
          unfold RBf
          rw [q8, q9, q10, qo (m + 1) (by omega) (by omega) (by omega), qo (m + 2) (by omega) (by omega) (by omega), qo (m + 3) (by omega) (by omega) (by omega), qo (m + 4) (by omega) (by omega) (by omega), qo (m + 5) (by omega) (by omega) (by omega), qo (m + 6) (by omega) (by omega) (by omega), qo (m + 7) (by omega) (by omega) (by omega), qo (m + 11) (by omega) (by omega) (by omega), qo (m + 28) (by omega) (by omega) (by omega), qo m (by omega) (by omega) (by omega)]
          rw [upd_o _ _ (by decide), upd_o _ _ (by decide), upd_o _ _ (by decide), upd_o _ _ (by decide), upd_o _ _ (by decide), upd_o _ _ (by decide), upd_s, upd_o _ _ (by decide), upd_o _ _ (by decide)]
          refine ⟨a, b, ⟨rfl, fun i hi => ?_⟩, d, e⟩
          have hi : i < nC (bN (zB G)) + 1 := hi
          show _ = nI (fset (nT (bN (zB G))) (nC (bN (zB G))) n i) ∧ _ = nI (fset (nS (bN (zB G))) (nC (bN (zB G))) s i) ∧ _ = eP (fset (nJ (bN (zB G))) (nC (bN (zB G))) (rlO z) i)
          by_cases ei : i = nC (bN (zB G))
          · rw [ei, upd_s, upd_s, upd_s, fset_s, fset_s, fset_s]
            exact ⟨rfl, rfl, ez.1⟩
          · rw [upd_o _ _ ei, upd_o _ _ ei, upd_o _ _ ei, fset_o _ _ ei, fset_o _ _ ei, fset_o _ _ ei]
            exact c1 i (by omega)
        · have hi : i < nC (bN (zB G)) + 1 := hi
          show fset (nT (bN (zB G))) (nC (bN (zB G))) n i ≤ 60 ∧ fset (nS (bN (zB G))) (nC (bN (zB G))) s i < tN (bT (zB G)) ∧ ∀ j, fset (nJ (bN (zB G))) (nC (bN (zB G))) (rlO z) i = some j → j < tJ (bT (zB G))
          by_cases ei : i = nC (bN (zB G))
          · rw [ei, fset_s, fset_s, fset_s]
            exact ⟨by omega, s1, ez.2⟩
          · rw [fset_o _ _ ei, fset_o _ _ ei, fset_o _ _ ei]
            exact n2 i (by omega)
    by_cases z1 : z = -1
    · refine WP.it z1 (on ?_)
      rw [decide_eq_true z1]; rfl
    · refine WP.ie z1 ?_
      repeat (first | ((with_reducible apply WP.ce); case h => (simp (disch := omega) only [r_isJoke hR h.rt hk.1.1]; with_reducible rfl)) | ((with_reducible apply WP.bd); case h => (simp (disch := omega) only [e_gR, e_gI, e_aI, e_aL, e_oO, e_pI, e_wI, e_wL, Option.map_some, mS_sL, mR_sL, mI_sL, mS_sI, mR_sI, mL_sI, n_cl, ro_m hR]; with_reducible rfl)) | rw [nm_eq] | rw [ckZ_n1] | rw [ckZ_n0])
      refine WP.gd (fun g3 => WP.ret ?_) (fun g3 => on ?_)
      · rw [decide_eq_false z1, g3]; exact ⟨rfl, h, hk⟩
      · rw [g3, Bool.or_true]
theorem x_memL {M : Mem} {m : Nat} {T : TD} {S : SC} (hR : RIs (mS M) (mR M) m) (hT : RT M m T) (hk : TOk T) (hS : RS M m T S) (hs : SOk S) : ∀ d i n, i + d = tJ T → f_X10_rememberedOnes_L4 m (n + d + 1) (nI (bmk (rem T S) i)) (nI i) M = some (nI (mem T S), M) := by
  have hj := hk.1.2.2.1
  intro d
  induction d with
  | zero =>
    intro i n hi
    rw [f_X10_rememberedOnes_L4]
    simp (disch := omega) only [e_gR, e_gI, e_aI, e_aL, e_oO, e_pI, e_wI, e_wL, ro_m hR, Option.map_some, Option.bind_some, cl_some, nm_eq, ckZ_b, ckZ_n0, ckZ_n1, rr_scalar hR, rx_scalar hR, n_cl, hT.1.2.2.1, n_le]
    rw [if_pos (by omega), show i = tJ T by omega]
    rfl
  | succ d ih =>
    intro i n hi
    have e := ih (i + 1) n (by omega)
    rw [bmk] at e
    rw [show n + (d + 1) + 1 = (n + d + 1) + 1 from by omega, f_X10_rememberedOnes_L4]
    repeat (first | ((with_reducible apply clt_t); case h => (simp (disch := omega) only [hR]; with_reducible rfl)) | ((with_reducible apply bnd_t); case h => (simp (disch := omega) only [e_gR, e_gI, e_aI, e_aL, e_oO, e_pI, e_wI, e_wL, Option.map_some, mS_sL, mR_sL, mI_sL, mS_sI, mR_sI, mL_sI, n_cl, ro_m hR, rr_scalar hR, rx_scalar hR, hT.1.2.2.1]; with_reducible rfl)) | rw [nm_eq])
    rw [if_neg (by rw [n_le (by omega) (by omega)]; omega)]
    have a1 := r_remembers hR hT hk hS hs (j := i) (by omega)
    repeat (first | ((with_reducible apply clt_t); case h => (simp (disch := omega) only [a1]; with_reducible rfl)) | ((with_reducible apply bnd_t); case h => (simp (disch := omega) only [e_gR, e_gI, e_aI, e_aL, e_oO, e_pI, e_wI, e_wL, Option.map_some, mS_sL, mR_sL, mI_sL, mS_sI, mR_sI, mL_sI, n_cl, ro_m hR]; with_reducible rfl)) | rw [nm_eq])
    unfold f_X10_rememberedOnes_J30
    cases hr : rem T S i with
    | false =>
      rw [if_pos (by rfl)]
      rw [hr, if_neg (by decide), Nat.or_zero] at e
      simp only [nm_eq, n_or, n_add, Nat.or_zero]
      exact e
    | true =>
      rw [if_neg (by decide)]
      rw [hr, if_pos rfl] at e
      simp (disch := omega) only [nm_eq, n_shl, n_or, n_add]
      exact e
theorem x_count (h : RG O m M G) (hk : GOk G) (x : Int32) : f_X10_count m x M = some (q_count G x, M) := by
  have hR := h.1.1
  have hs := hk.1.2.1
  have e21 := h.2.2.1.2.1
  have e17 := h.2.2.2.1.1
  obtain ⟨⟨⟨a0, a1, a2, a3⟩, -⟩, ⟨⟨b0, b1⟩, -⟩, ⟨c0, -⟩, ⟨d0, d1⟩, e0, -⟩ := h.2.1
  have w1 := r_waiting hR h.rt hk.1.1 h.rs hs
  have hj := hk.1.1.1.2.2.1
  obtain ⟨f, hf⟩ := FUd (tJ (bT (zB G))) (by omega)
  have w2 : f_X10_rememberedOnes m M = some (nI (mem (bT (zB G)) (bS (zB G))), M) := by
    rw [f_X10_rememberedOnes, hf]
    exact x_memL hR h.rt hk.1.1 h.rs hs (tJ (bT (zB G))) 0 f (by omega)
  unfold f_X10_count q_count
  by_cases hw : inR x 0 13 = true
  · obtain ⟨k, rfl, -, h2, h3⟩ := inR_t hw (by decide)
    rw [hw, n_cl h3, if_pos rfl]
    rcases (show k = 0 ∨ k = 1 ∨ k = 2 ∨ k = 3 ∨ k = 4 ∨ k = 5 ∨ k = 6 ∨ k = 7 ∨ k = 8 ∨ k = 9 ∨ k = 10 ∨ k = 11 ∨ k = 12 ∨ k = 13 by omega) with rfl | rfl | rfl | rfl | rfl | rfl | rfl | rfl | rfl | rfl | rfl | rfl | rfl | rfl <;> rw [tsw_i rfl (by decide)] <;> simp only [List.getD_cons_zero, List.getD_cons_succ] <;> (repeat (first | refine (cl_ok (by (simp only [w1, w2]; with_reducible rfl)) _).trans ?_ | refine (bind_ok (by (simp (disch := omega) only [e_gR, e_gI, e_aI, e_aL, e_oO, e_pI, e_wI, e_wL, Option.map_some, mS_sL, mR_sL, mI_sL, mS_sI, mR_sI, mL_sI, n_cl, ro_m hR, rr_scalar hR, rx_scalar hR, a0, a1, a2, a3, b0, b1, c0, d0, d1, e0, e21, e17]; with_reducible rfl)) _).trans ?_ | rw [nm_eq])) <;> rfl
  · have hw : inR x 0 13 = false := by simpa using hw
    rw [tsw_o (n := 13) rfl hw, hw]; rfl
end XSM
