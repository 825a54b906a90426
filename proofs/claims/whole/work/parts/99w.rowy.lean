/-! THE CLASS: row -/
section ROWY
variable {T : TD} {r : Option RD} {s : Nat}
theorem c_findRow {M : Mem} {S : SC} (h : CA M T S r) (hs : s < tN T) (hw : wts S s = true) {n : Nat} (hn : n ≤ 4) : WP (f_X0_findRow 37 (nI s) (nI n) M) (fun v M' => LFr 0 M M' ∧ v = (fro T r s S n).elim (-1) (fun p => nI p.1) ∧ ∀ k l, fro T r s S n = some (k, l) → ∀ i, i ≤ k → mI M' 38 i = eP (l.getD i none)) := by
  obtain ⟨⟨hC, hT, hS, hr⟩, hk, hs0, h9⟩ := h
  have lp : ∀ e k g (N : Mem), k + e = n → LFr 0 M N → (∀ k', k' < k → dfs T r s k' S = none) → WP (f_X0_findRow_L2 37 (g + e + 1) (nI s) (nI n) (nI k) N) (fun v M' => LFr 0 M M' ∧ v = (fro T r s S n).elim (-1) (fun p => nI p.1) ∧ ∀ k l, fro T r s S n = some (k, l) → ∀ i, i ≤ k → mI M' 38 i = eP (l.getD i none)) := by
    intro e
    induction e with
    | zero =>
      intro k g N hkn fN hno
      have en : fro T r s S n = none := fsm_all (fun i hi => hno i (by omega))
      rw [f_X0_findRow_L2]
      refine WP.it (by rw [n_le (by omega) (by omega)]; omega) (WP.ret ⟨fN, by rw [en]; rfl, fun k l hl => by rw [en] at hl; cases hl⟩)
    | succ e ih =>
      intro k g N hkn fN hno
      have hCN := fN.CI hC
      have hSN : CC N 21 T S := hS.of (fun i hi => fN.2.2.1 _ (by omega))
      rw [show g + (e + 1) + 1 = (g + e + 1) + 1 from by omega, f_X0_findRow_L2]
      refine WP.ie (by rw [n_le (by omega) (by omega)]; omega) ?_
      repeat (first | ((with_reducible apply WP.ce); case h => (simp (disch := omega) only []; with_reducible rfl)) | ((with_reducible apply WP.bd); case h => (simp (disch := omega) only [e_gR, e_gI, e_aI, e_aL, e_oO, e_pI, e_wI, e_wL, Option.map_some, mS_sL, mR_sL, mI_sL, mS_sI, mR_sI, mL_sI, n_cl, cob_37 hCN, cr_levels hCN, e_aR, cx_levels hCN, cr_lev hCN, cr_37_book hCN, book_o (ci_book hCN), book_r_scene (ci_book hCN), Nat.reduceAdd, Nat.reduceMul, scene_o (ci_lev hCN (show 0 < 5 by omega))]; with_reducible rfl)) | rw [nm_eq] | rw [ckZ_n1] | rw [ckZ_n0])
      refine WP.cw (c_copy hk (ci_scene hCN) (ci_lev hCN (show 0 < 5 by omega)) (by omega) hSN) (fun _ N1 c => ?_)
      obtain ⟨s1, c1⟩ := c
      have f1 : LFr 0 N N1 := s1.L ⟨by omega, by omega⟩
      have fM1 := fN.tr f1
      have hC1 := f1.CI hCN
      repeat (first | ((with_reducible apply WP.ce); case h => (simp (disch := omega) only []; with_reducible rfl)) | ((with_reducible apply WP.bd); case h => (simp (disch := omega) only [e_gR, e_gI, e_aI, e_aL, e_oO, e_pI, e_wI, e_wL, Option.map_some, mS_sL, mR_sL, mI_sL, mS_sI, mR_sI, mL_sI, n_cl, cob_37 hC1]; with_reducible rfl)) | rw [nm_eq] | rw [ckZ_n1] | rw [ckZ_n0])
      have hrun := c_rowF (r := r) hk hs (len := k) (by omega) k 0 (7 - k) N1 S (by omega) hC1 (fM1.T hT) (fM1.ru hr) c1 hs0 (by omega) hw hno
      rw [show 7 - k + k + 1 = 8 from by omega] at hrun
      refine WP.cw (P := RFe T r s k 0 S N1) hrun (fun v N2 c => ?_)
      obtain ⟨rfl, f2, ch⟩ := c
      have fM2 := fM1.tr f2
      cases hd : dfs T r s k S with
      | none =>
        refine WP.it rfl ?_
        rw [n_add]
        refine ih (k + 1) g N2 (by omega) fM2 (fun k' hk' => ?_)
        by_cases c : k' = k
        · rw [c]; exact hd
        · exact hno k' (by omega)
      | some l =>
        refine WP.ie (show ¬ bI true = 0 by decide) ?_
        have en : fro T r s S n = some (k, l) := fsm_fst hd hno (by omega)
        refine WP.ret ⟨fM2, by rw [en]; rfl, fun k' l' hl i hi => ?_⟩
        rw [en] at hl
        cases hl
        have := ch l hd i hi
        rw [Nat.zero_add] at this
        exact this
  obtain ⟨g, hg⟩ := FUd n (by omega)
  rw [f_X0_findRow, hg]
  exact lp n 0 g M (by omega) (LFr.rf 0 M) (fun k' hk' => absurd hk' (Nat.not_lt_zero k'))
theorem y_row {M : Mem} {S : SC} {c : Nat} {W : Nat → RD} {fo : Option Nat} (h : CE M T S c W fo) (a b d : Int32) : WP (f_X9_row 0 a b d M) (fun v M' => v = q_row T (fo.map W) S a b d ∧ AF M M') := by
  have h0 := h
  obtain ⟨⟨hC, hT, hS, hw, hf⟩, hk, hs, h9, hfo⟩ := h
  have h2 := hk.1.2.2.2
  unfold f_X9_row f_X9_row_J26
  repeat (first | ((with_reducible apply WP.ce); case h => (simp (disch := omega) only [c_isWaiting hC hT hk hS hs]; with_reducible rfl)) | ((with_reducible apply WP.bd); case h => (simp (disch := omega) only [e_gR, e_gI, e_aI, e_aL, e_oO, e_pI, e_wI, e_wL, Option.map_some, mS_sL, mR_sL, mI_sL, mS_sI, mR_sI, mL_sI, n_cl, cob_0 hC]; with_reducible rfl)) | rw [nm_eq] | rw [ckZ_n1] | rw [ckZ_n0])
  refine WP.gd (fun g1 => WP.ret ⟨by unfold q_row; rw [g1]; rfl, AF.rf M⟩) (fun g1 => ?_)
  repeat (first | ((with_reducible apply WP.ce); case h => (simp (disch := omega) only [c_isWithin]; with_reducible rfl)) | ((with_reducible apply WP.bd); case h => (simp (disch := omega) only [e_gR, e_gI, e_aI, e_aL, e_oO, e_pI, e_wI, e_wL, Option.map_some, mS_sL, mR_sL, mI_sL, mS_sI, mR_sI, mL_sI, n_cl, cob_0 hC]; with_reducible rfl)) | rw [nm_eq] | rw [ckZ_n1] | rw [ckZ_n0])
  refine WP.gd (fun g2 => WP.ret ⟨by unfold q_row; rw [g1, show inR b 1 4 = false from g2]; rfl, AF.rf M⟩) (fun g2 => ?_)
  repeat (first | ((with_reducible apply WP.ce); case h => (simp (disch := omega) only [c_isWithin]; with_reducible rfl)) | ((with_reducible apply WP.bd); case h => (simp (disch := omega) only [e_gR, e_gI, e_aI, e_aL, e_oO, e_pI, e_wI, e_wL, Option.map_some, mS_sL, mR_sL, mI_sL, mS_sI, mR_sI, mL_sI, n_cl, cob_0 hC]; with_reducible rfl)) | rw [nm_eq] | rw [ckZ_n1] | rw [ckZ_n0])
  refine WP.gd (fun g3 => WP.ret ⟨by unfold q_row; rw [g1, show inR b 1 4 = true from g2, show inR d 0 4 = false from g3]; rfl, AF.rf M⟩) (fun g3 => ?_)
  obtain ⟨s, rfl, hs5, hwt⟩ := wtI_t hk g1
  obtain ⟨n, rfl, n1, n2, n3⟩ := inR_t (show inR b 1 4 = true from g2) (by decide)
  obtain ⟨w, rfl, w1, w2, w3⟩ := inR_t (show inR d 0 4 = true from g3) (by decide)
  have q : q_row T (fo.map W) S (nI s) (nI n) (nI w) = rowA T (fo.map W) S s n w := by
    unfold q_row
    rw [g1, show inR (nI n) 1 4 = true from g2, show inR (nI w) 0 4 = true from g3, n_cl (by omega), n_cl n3, n_cl w3]
    rfl
  rw [q, rowA_eq hs5 hwt h9 (by omega) (by omega)]
  by_cases c1 : w ≤ n
  · refine WP.it (by rw [n_le (by omega) (by omega)]; exact c1) ?_
    repeat (first | ((with_reducible apply WP.ce); case h => (simp (disch := omega) only []; with_reducible rfl)) | ((with_reducible apply WP.bd); case h => (simp (disch := omega) only [e_gR, e_gI, e_aI, e_aL, e_oO, e_pI, e_wI, e_wL, Option.map_some, mS_sL, mR_sL, mI_sL, mS_sI, mR_sI, mL_sI, n_cl, cob_0 hC]; with_reducible rfl)) | rw [nm_eq] | rw [ckZ_n1] | rw [ckZ_n0])
    refine WP.cw (c_asking h0) (fun v M1 e1 => ?_)
    obtain ⟨rfl, a1, a2⟩ := e1
    have hC1 := a2.1.1
    repeat (first | ((with_reducible apply WP.ce); case h => (simp (disch := omega) only []; with_reducible rfl)) | ((with_reducible apply WP.bd); case h => (simp (disch := omega) only [e_gR, e_gI, e_aI, e_aL, e_oO, e_pI, e_wI, e_wL, Option.map_some, mS_sL, mR_sL, mI_sL, mS_sI, mR_sI, mL_sI, n_cl, cob_37 hC1]; with_reducible rfl)) | rw [nm_eq] | rw [ckZ_n1] | rw [ckZ_n0])
    refine WP.cw (c_findRow a2 hs5 hwt (n := n) (by omega)) (fun v M2 e2 => ?_)
    obtain ⟨f2, rfl, ch⟩ := e2
    have hC2 := f2.CI hC1
    have fr := a1.tr f2.AG.1
    unfold f_X9_row_J47 f_X9_row_J99
    cases e : fro T (fo.map W) s S n with
    | none => exact WP.it rfl (WP.ret ⟨rfl, fr⟩)
    | some p =>
      obtain ⟨k, l⟩ := p
      have hk4 : k < n := (fsm_some e).1
      refine WP.ie (nm1 (a := k) (by omega)) ?_
      show WP _ (fun v M' => v = (if w = 0 then nI (sT S + k) else if n < w then -2 else eP (if w - 1 ≤ k then l.getD (w - 1) none else none)) ∧ AF M M')
      by_cases c2 : w = 0
      · rw [if_pos c2]
        have t0 : mI M2 21 0 = nI (sT S) := by rw [f2.2.2.1 21 (by omega)]; exact a2.1.2.2.1.1
        refine WP.it (by rw [c2]; rfl) ?_
        repeat (first | ((with_reducible apply WP.ce); case h => (simp (disch := omega) only []; with_reducible rfl)) | ((with_reducible apply WP.bd); case h => (simp (disch := omega) only [e_gR, e_gI, e_aI, e_aL, e_oO, e_pI, e_wI, e_wL, Option.map_some, mS_sL, mR_sL, mI_sL, mS_sI, mR_sI, mL_sI, n_cl, cob_0 hC2, cr_0_book hC2, book_o (ci_book hC2), book_r_scene (ci_book hC2), Nat.reduceAdd, scene_o (ci_scene hC2), t0]; with_reducible rfl)) | rw [nm_eq] | rw [ckZ_n1] | rw [ckZ_n0])
        exact WP.ret ⟨by show nI (sT S) + nI k = _; rw [n_add], fr⟩
      · rw [if_neg c2, if_neg (show ¬ n < w by omega)]
        refine WP.ie (by rw [nIz (by omega)]; exact c2) ?_
        by_cases c3 : w - 1 ≤ k
        · rw [if_pos c3]
          refine WP.ie (by show ¬ nI k < nI w - nI 1; rw [n_sub (by omega), n_lt (by omega) (by omega)]; omega) ?_
          have e3 := ch k l e (w - 1) c3
          repeat (first | ((with_reducible apply WP.ce); case h => (simp (disch := omega) only []; with_reducible rfl)) | ((with_reducible apply WP.bd); case h => (simp (disch := omega) only [e_gR, e_gI, e_aI, e_aL, e_oO, e_pI, e_wI, e_wL, Option.map_some, mS_sL, mR_sL, mI_sL, mS_sI, mR_sI, mL_sI, n_cl, cob_0 hC2, cr_0_asker hC2, cob_37 hC2, cr_choice hC2, n_sub, cx_choice hC2, e3]; with_reducible rfl)) | rw [nm_eq] | rw [ckZ_n1] | rw [ckZ_n0])
          exact WP.ret ⟨rfl, fr⟩
        · rw [if_neg c3]
          exact WP.it (by show nI k < nI w - nI 1; rw [n_sub (by omega), n_lt (by omega) (by omega)]; omega) (WP.ret ⟨rfl, fr⟩)
  · refine WP.ie (by rw [n_le (by omega) (by omega)]; exact c1) ?_
    unfold f_X9_row_J47
    refine WP.it rfl (WP.ret ⟨?_, AF.rf M⟩)
    cases fro T (fo.map W) s S n with
    | none => rfl
    | some p =>
      show _ = if w = 0 then _ else if n < w then _ else _
      rw [if_neg (by omega), if_pos (by omega)]
end ROWY
theorem s_row {M : Mem} {G : GD} (h : ST M G) (a b c : Int32) : BO (f_X9_row 0 a b c) (f_X10_row 66 a b c) M := s_row_of (fun h a b d => y_row h a b d) h a b c
