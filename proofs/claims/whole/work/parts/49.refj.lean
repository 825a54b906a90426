theorem WP.gd {γ : Type} {b : Bool} {x y : Option (γ × Mem)} {Q : γ → Mem → Prop} (h0 : b = false → WP x Q) (h1 : b = true → WP y Q) : WP (if bI b = 0 then x else y) Q := by
  cases b with
  | false => exact WP.it rfl (h0 rfl)
  | true => exact WP.ie (by decide) (h1 rfl)
theorem x_ahead {m : Nat} {M0 : Mem} {T : TD} {S : SC} {r : Option RD} (h : RE m M0 T S r) (s n what : Int32) : WP (f_X10_ahead m s n what M0) (fun v M => v = q_ahead T r S s n what ∧ RA m M0 M) := by
  obtain ⟨⟨hR, hT, hS, hr, hv⟩, hk, hs, h9⟩ := h
  have h2 := hk.1.2.2.2
  have main : isB T = true → inR what 0 2 = true → (!(decide (what = 0)) || ixB s (tN T)) = true → WP (f_X10_ahead_J31 m s n what M0) (fun v M => v = q_ahead T r S s n what ∧ RA m M0 M) := by
    intro g1 g2 g3
    unfold f_X10_ahead_J31
    repeat (first | refine WP.ce (by (simp (disch := omega) only [in_0100]; with_reducible rfl)) ?_ | refine WP.bd (by (simp (disch := omega) only [e_gR, e_gI, e_aI, e_aL, e_oO, e_pI, e_wI, e_wL, Option.map_some, mS_sL, mR_sL, mI_sL, mS_sI, mR_sI, mL_sI, n_cl, ro_m hR]; with_reducible rfl)) ?_ | rw [nm_eq])
    refine WP.gd (fun g4 => ?_) (fun g4 => ?_)
    · exact WP.ret ⟨by unfold q_ahead; rw [g4]; simp, RA.rf m M0⟩
    · obtain ⟨k, e, -, k2, k3⟩ := inR_t g4 (by decide)
      have q : q_ahead T r S s n what = (if what = 0 then eP (sP (tides T r S k) s.toNatClampNeg) else if what = nI 1 then nI (ernA T (tides T r S k)) else nI (tN T - wtc T (tides T r S k))) := by
        unfold q_ahead
        rw [g1, g2, g3, g4, e, n_cl k3]
        rfl
      rw [q]
      subst e
      repeat (first | refine WP.ce (by (simp (disch := omega) only []; with_reducible rfl)) ?_ | refine WP.bd (by (simp (disch := omega) only [e_gR, e_gI, e_aI, e_aL, e_oO, e_pI, e_wI, e_wL, Option.map_some, mS_sL, mR_sL, mI_sL, mS_sI, mR_sI, mL_sI, n_cl, ro_m hR]; with_reducible rfl)) ?_ | rw [nm_eq])
      refine WP.cw (q_keeps hR hv) (fun _ M1 c1 => ?_)
      have hR1 := c1.1.1.RI hR
      repeat (first | refine WP.ce (by (simp (disch := omega) only []; with_reducible rfl)) ?_ | refine WP.bd (by (simp (disch := omega) only [e_gR, e_gI, e_aI, e_aL, e_oO, e_pI, e_wI, e_wL, Option.map_some, mS_sL, mR_sL, mI_sL, mS_sI, mR_sI, mL_sI, n_cl, ro_m hR1]; with_reducible rfl)) ?_ | rw [nm_eq])
      refine WP.cw (q_goFor hk hR hT hs (by omega) (by omega) (c1.1.rq hk hS hr)) (fun _ M2 c2 => ?_)
      have hR2 := c2.1.1.RI hR
      have hT2 := c2.1.1.T hT
      have hs2 : SOk (tides T r S k) := tides_ok hs k (by omega)
      by_cases w0 : what = 0
      · refine WP.it w0 ?_
        have g5 : ixB s (tN T) = true := by simpa [w0] using g3
        obtain ⟨j, j1, rfl⟩ := ixB_t (by omega) g5
        repeat (first | refine WP.ce (by (simp (disch := omega) only []; with_reducible rfl)) ?_ | refine WP.bd (by (simp (disch := omega) only [e_gR, e_gI, e_aI, e_aL, e_oO, e_pI, e_wI, e_wL, Option.map_some, mS_sL, mR_sL, mI_sL, mS_sI, mR_sI, mL_sI, n_cl, ro_m hR2, rr_passed hR2, rx_passed hR2, (c2.1.2.1.2.2 j j1).2]; with_reducible rfl)) ?_ | rw [nm_eq])
        refine WP.cw (q_back hR c2.1) (fun _ M3 c3 => WP.ret ⟨?_, Or.inr c3.1⟩)
        rw [if_pos w0, n_cl (by omega)]
      · refine WP.ie w0 ?_
        rw [if_neg w0]
        by_cases w1 : what = nI 1
        · refine WP.it w1 ?_
          rw [if_pos w1]
          repeat (first | refine WP.ce (by (simp (disch := omega) only []; with_reducible rfl)) ?_ | refine WP.bd (by (simp (disch := omega) only [e_gR, e_gI, e_aI, e_aL, e_oO, e_pI, e_wI, e_wL, Option.map_some, mS_sL, mR_sL, mI_sL, mS_sI, mR_sI, mL_sI, n_cl, ro_m hR2, rr_scalar hR2, rx_scalar hR2, c2.1.2.1.1.2]; with_reducible rfl)) ?_ | rw [nm_eq])
          exact WP.cw (q_back hR c2.1) (fun _ M3 c3 => WP.ret ⟨rfl, Or.inr c3.1⟩)
        · refine WP.ie w1 ?_
          rw [if_neg w1]
          repeat (first | refine WP.ce (by (simp (disch := omega) only [r_howMany hR2 hT2 hk c2.1.2.1 hs2]; with_reducible rfl)) ?_ | refine WP.bd (by (simp (disch := omega) only [e_gR, e_gI, e_aI, e_aL, e_oO, e_pI, e_wI, e_wL, Option.map_some, mS_sL, mR_sL, mI_sL, mS_sI, mR_sI, mL_sI, n_cl, ro_m hR2]; with_reducible rfl)) ?_ | rw [nm_eq])
          exact WP.cw (q_back hR c2.1) (fun _ M3 c3 => WP.ret ⟨rfl, Or.inr c3.1⟩)
  unfold f_X10_ahead
  repeat (first | refine WP.ce (by (simp (disch := omega) only [r_isBar hR hT hk]; with_reducible rfl)) ?_ | refine WP.bd (by (simp (disch := omega) only [e_gR, e_gI, e_aI, e_aL, e_oO, e_pI, e_wI, e_wL, Option.map_some, mS_sL, mR_sL, mI_sL, mS_sI, mR_sI, mL_sI, n_cl, ro_m hR]; with_reducible rfl)) ?_ | rw [nm_eq])
  refine WP.gd (fun g1 => WP.ret ⟨by unfold q_ahead; rw [g1]; rfl, RA.rf m M0⟩) (fun g1 => ?_)
  repeat (first | refine WP.ce (by (simp (disch := omega) only [in_02]; with_reducible rfl)) ?_ | refine WP.bd (by (simp (disch := omega) only [e_gR, e_gI, e_aI, e_aL, e_oO, e_pI, e_wI, e_wL, Option.map_some, mS_sL, mR_sL, mI_sL, mS_sI, mR_sI, mL_sI, n_cl, ro_m hR]; with_reducible rfl)) ?_ | rw [nm_eq])
  refine WP.gd (fun g2 => WP.ret ⟨by unfold q_ahead; rw [g2]; simp, RA.rf m M0⟩) (fun g2 => ?_)
  by_cases w0 : what = 0
  · refine WP.it w0 ?_
    repeat (first | refine WP.ce (by (simp (disch := omega) only [r_isShip hR hT hk]; with_reducible rfl)) ?_ | refine WP.bd (by (simp (disch := omega) only [e_gR, e_gI, e_aI, e_aL, e_oO, e_pI, e_wI, e_wL, Option.map_some, mS_sL, mR_sL, mI_sL, mS_sI, mR_sI, mL_sI, n_cl, ro_m hR]; with_reducible rfl)) ?_ | rw [nm_eq])
    refine WP.gd (fun g3 => WP.ret ⟨by unfold q_ahead; rw [g3]; simp [w0], RA.rf m M0⟩) (fun g3 => main g1 g2 (by rw [g3]; simp))
  · exact WP.ie w0 (main g1 g2 (by simp [w0]))
