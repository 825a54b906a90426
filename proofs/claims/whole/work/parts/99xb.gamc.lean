/-! THE CLASS: a game -/
section GMC
variable {T : TD}
/-- how a search for the worth ends -/
def GWe (T : TD) (d p a b : Nat) (S : SC) (M : Mem) (v : Int32) (M' : Mem) : Prop := v = Int32.ofInt (gw T d a b S).1 ∧ LFr p M M' ∧ (0 < d → mI M' 38 p = eP (ixo (gw T d a b S).2))
set_option maxHeartbeats 4000000 in
theorem c_gameW (hk : TOk T) {len : Nat} (hlen : len ≤ 3) : ∀ d p f a b (M : Mem) (S : SC), p + d = len → a < tN T → b < tN T → CIs (mS M) (mR M) → CT M 15 T → CC M (46 + 4 * p) T S → SOk S → sT S + d < 100000 → WP (fn_X0_gameWorth (f + d + 1) 37 (nI a) (nI b) (nI p) (nI len) M) (GWe T d p a b S M) := by
  have h8 := hk.1.2.2.1
  have h5 := hk.1.2.2.2
  intro d
  induction d with
  | zero =>
    intro p f a b M S hp ha hb hC hT hS hs0 hbd
    rw [fn_X0_gameWorth]
    unfold fb_X0_gameWorth f_X0_gameWorth_J11
    refine WP.it (by rw [n_le (by omega) (by omega)]; omega) (WP.ret ⟨rfl, LFr.rf p M, fun z => absurd z (Nat.lt_irrefl 0)⟩)
  | succ d ih =>
    intro p f a b M S hp ha hb hC hT hS hs0 hbd
    rw [show f + (d + 1) + 1 = (f + d + 1) + 1 from by omega, fn_X0_gameWorth]
    unfold fb_X0_gameWorth
    refine WP.ie (by rw [n_le (by omega) (by omega)]; omega) ?_
    refine WP.it (by rw [n_lt (by omega) (by omega)]; omega) ?_
    rw [n_add]
    repeat (first | ((with_reducible apply WP.ce); case h => (simp (disch := omega) only []; with_reducible rfl)) | ((with_reducible apply WP.bd); case h => (simp (disch := omega) only [e_gR, e_gI, e_aI, e_aL, e_oO, e_pI, e_wI, e_wL, Option.map_some, mS_sL, mR_sL, mI_sL, mS_sI, mR_sI, mL_sI, n_cl, cob_37 hC, cr_levels hC, e_aR, cx_levels hC, cr_lev hC]; with_reducible rfl)) | rw [nm_eq] | rw [ckZ_n1] | rw [ckZ_n0])
    have hq' : QOk (46 + 4 * (p + 1)) := Or.inr ⟨by omega, by omega⟩
    obtain ⟨ok, hok⟩ : ∃ ok : Nat → Bool, ok = fun i => gok S a (ixo i) := ⟨_, rfl⟩
    obtain ⟨g, hg⟩ : ∃ g : Nat → Int, g = fun i => (ggn T S a (ixo i) : Int) - (gw T d b a (gnx T S a (ixo i))).1 := ⟨_, rfl⟩
    have eg : gw T (d + 1) a b S = bsx ok g (tJ T) := by rw [gw, hok, hg]
    have gb : ∀ i, -1000 ≤ g i ∧ g i ≤ 1000 := fun i => by
      rw [hg]
      have h1 := gw_b hk d b a (gnx T S a (ixo i))
      have h2 := ggn_le hk S a (ixo i)
      have h3 : (d : Int) ≤ 3 := by omega
      show -1000 ≤ (ggn T S a (ixo i) : Int) - (gw T d b a (gnx T S a (ixo i))).1 ∧ (ggn T S a (ixo i) : Int) - (gw T d b a (gnx T S a (ixo i))).1 ≤ 1000
      omega
    have lp : ∀ e i fu (N : Mem) (l7 : Int32), i + e = tJ T + 1 → LFr p M N → CC N (46 + 4 * p) T S → ((i = 0 ∧ l7 = -2147483647) ∨ ∃ j, i = j + 1 ∧ l7 = Int32.ofInt (bsx ok g j).1 ∧ mI N 38 p = eP (ixo (bsx ok g j).2)) → WP (f_X0_gameWorth_L38 (fn_X0_gameWorth (f + d + 1)) 37 (fu + e + 1) (nI a) (nI b) (nI p) (nI len) (some (46 + 4 * p)) (some (46 + 4 * (p + 1))) l7 (eP (ixo i)) N) (GWe T (d + 1) p a b S M) := by
      intro e
      induction e with
      | zero =>
        intro i fu N l7 hi fN cN hinv
        have hCN := fN.CI hC
        have t3 : mI N 15 3 = nI (tJ T) := (fN.T hT).1.2.2.2.1
        have ei : i = tJ T + 1 := by omega
        rcases hinv with z | ⟨j, ej, e7, e38⟩
        · omega
        have ejj : j = tJ T := by omega
        subst ejj
        rw [f_X0_gameWorth_L38, ei, ixo_s]
        repeat (first | ((with_reducible apply WP.ce); case h => (simp (disch := omega) only []; with_reducible rfl)) | ((with_reducible apply WP.bd); case h => (simp (disch := omega) only [e_gR, e_gI, e_aI, e_aL, e_oO, e_pI, e_wI, e_wL, Option.map_some, mS_sL, mR_sL, mI_sL, mS_sI, mR_sI, mL_sI, n_cl, cob_37 hCN, cr_37_told hCN, told_o (ci_told hCN), t3]; with_reducible rfl)) | rw [nm_eq] | rw [ckZ_n1] | rw [ckZ_n0])
        refine WP.it (by show nI (tJ T) ≤ nI (tJ T); rw [n_le (by omega) (by omega)]; omega) ?_
        exact WP.ret ⟨by rw [eg]; exact e7, fN, fun _ => by rw [eg]; exact e38⟩
      | succ e ihe =>
        intro i fu N l7 hi fN cN hinv
        have hCN := fN.CI hC
        have hTN := fN.T hT
        have t3 : mI N 15 3 = nI (tJ T) := hTN.1.2.2.2.1
        rw [show fu + (e + 1) + 1 = (fu + e + 1) + 1 from by omega, f_X0_gameWorth_L38]
        repeat (first | ((with_reducible apply WP.ce); case h => (simp (disch := omega) only []; with_reducible rfl)) | ((with_reducible apply WP.bd); case h => (simp (disch := omega) only [e_gR, e_gI, e_aI, e_aL, e_oO, e_pI, e_wI, e_wL, Option.map_some, mS_sL, mR_sL, mI_sL, mS_sI, mR_sI, mL_sI, n_cl, cob_37 hCN, cr_37_told hCN, told_o (ci_told hCN), t3]; with_reducible rfl)) | rw [nm_eq] | rw [ckZ_n1] | rw [ckZ_n0])
        have skip : ok i = false → WP (f_X0_gameWorth_J181 (fn_X0_gameWorth (f + d + 1)) (f_X0_gameWorth_L38 (fn_X0_gameWorth (f + d + 1)) 37 (fu + e + 1)) 37 (nI a) (nI b) (nI p) (nI len) (some (46 + 4 * p)) (some (46 + 4 * (p + 1))) l7 (eP (ixo i)) N) (GWe T (d + 1) p a b S M) := fun ho => by
          unfold f_X0_gameWorth_J181
          rw [ixo_add]
          refine ihe (i + 1) fu N l7 (by omega) fN cN (Or.inr ⟨i, rfl, ?_⟩)
          rcases hinv with z | ⟨j, ej, e7, e38⟩
          · exfalso
            rw [hok, z.1] at ho
            cases ho
          · subst ej
            have eb : bsx ok g (j + 1) = bsx ok g j := by rw [bsx, ho, Bool.false_and, if_neg (by decide)]
            rw [eb]
            exact ⟨e7, e38⟩
        have rest : ok i = true → ∀ (N3 : Mem) (S2 : SC), nxt S2 = gnx T S a (ixo i) → sT S2 = sT S → SOk S2 → LFr p M N3 → CC N3 (46 + 4 * p) T S → mI N3 38 p = mI N 38 p → CC N3 (46 + 4 * (p + 1)) T S2 → WP (f_X0_gameWorth_J135 (fn_X0_gameWorth (f + d + 1)) (f_X0_gameWorth_L38 (fn_X0_gameWorth (f + d + 1)) 37 (fu + e + 1)) 37 (nI a) (nI b) (nI p) (nI len) (some (46 + 4 * p)) (some (46 + 4 * (p + 1))) l7 (eP (ixo i)) (nI (ggn T S a (ixo i))) N3) (GWe T (d + 1) p a b S M) := by
          intro ho N3 S2 en et hs2 f3 cp3 k3 c3
          have hC3 := f3.CI hC
          have e0 : mI N3 (46 + 4 * (p + 1)) 0 = nI (sT S2) := c3.1
          unfold f_X0_gameWorth_J135
          repeat (first | ((with_reducible apply WP.ce); case h => (simp (disch := omega) only []; with_reducible rfl)) | ((with_reducible apply WP.bd); case h => (simp (disch := omega) only [e_gR, e_gI, e_aI, e_aL, e_oO, e_pI, e_wI, e_wL, Option.map_some, mS_sL, mR_sL, mI_sL, mS_sI, mR_sI, mL_sI, n_cl, scene_o (ci_lev hC3 (show p + 1 < 5 by omega)), e0]; with_reducible rfl)) | rw [nm_eq] | rw [ckZ_n1] | rw [ckZ_n0])
          rw [n_add]
          have c5 := CC_nxt c3
          rw [en] at c5
          obtain ⟨N5, hN5⟩ : ∃ N5, N5 = sI N3 (46 + 4 * (p + 1)) 0 (nI (sT S2 + 1)) := ⟨_, rfl⟩
          rw [← hN5] at c5 ⊢
          have f5 : LFr p N3 N5 := by rw [hN5]; exact (PFw N3 _ _ _).L ⟨by omega, by omega⟩
          have hC5 := f5.CI hC3
          have cp5 : CC N5 (46 + 4 * p) T S := cp3.of (fun j hj => by rw [hN5, sI_row (by omega)])
          have k5 : mI N5 38 p = mI N 38 p := by rw [hN5, sI_row (by omega)]; exact k3
          have fM5 := f3.tr f5
          repeat (first | ((with_reducible apply WP.ce); case h => (simp (disch := omega) only []; with_reducible rfl)) | ((with_reducible apply WP.bd); case h => (simp (disch := omega) only [e_gR, e_gI, e_aI, e_aL, e_oO, e_pI, e_wI, e_wL, Option.map_some, mS_sL, mR_sL, mI_sL, mS_sI, mR_sI, mL_sI, n_cl, cob_37 hC5]; with_reducible rfl)) | rw [nm_eq] | rw [ckZ_n1] | rw [ckZ_n0])
          rw [n_add]
          refine WP.cw (ih (p + 1) f b a N5 _ (by omega) hb ha hC5 (fM5.T hT) c5 (by rw [← en]; exact nxt_ok hs2 (by omega)) (by rw [← en]; show sT S2 + 1 + d < 100000; omega)) (fun v N7 c => ?_)
          obtain ⟨rfl, f7, -⟩ := c
          have k7 : mI N7 38 p = mI N 38 p := (f7.2.2.2.2 p (by omega)).trans k5
          have cp7 := f7.C (Nat.lt_succ_self p) cp5
          have fM7 := fM5.tr f7.dn
          have hC7 := fM7.CI hC
          have ev : nI (ggn T S a (ixo i)) - Int32.ofInt (gw T d b a (gnx T S a (ixo i))).1 = Int32.ofInt (g i) := by rw [hg, ← ofI_nat, ← Int32.ofInt_sub]
          rw [nm_eq, ev]
          have b1 := gb i
          have take : bsx ok g i = (g i, i) → ¬ Int32.ofInt (g i) ≤ l7 → WP (if Int32.ofInt (g i) ≤ l7 then f_X0_gameWorth_J181 (fn_X0_gameWorth (f + d + 1)) (f_X0_gameWorth_L38 (fn_X0_gameWorth (f + d + 1)) 37 (fu + e + 1)) 37 (nI a) (nI b) (nI p) (nI len) (some (46 + 4 * p)) (some (46 + 4 * (p + 1))) l7 (eP (ixo i)) N7 else (gR N7 0 3 (some 37)).bind fun choice4 => (wI N7 0 choice4 (nI p) (eP (ixo i))).bind fun M => f_X0_gameWorth_J181 (fn_X0_gameWorth (f + d + 1)) (f_X0_gameWorth_L38 (fn_X0_gameWorth (f + d + 1)) 37 (fu + e + 1)) 37 (nI a) (nI b) (nI p) (nI len) (some (46 + 4 * p)) (some (46 + 4 * (p + 1))) (Int32.ofInt (g i)) (eP (ixo i)) M) (GWe T (d + 1) p a b S M) := by
            intro eb c
            refine WP.ie c ?_
            repeat (first | ((with_reducible apply WP.ce); case h => (simp (disch := omega) only []; with_reducible rfl)) | ((with_reducible apply WP.bd); case h => (simp (disch := omega) only [e_gR, e_gI, e_aI, e_aL, e_oO, e_pI, e_wI, e_wL, Option.map_some, mS_sL, mR_sL, mI_sL, mS_sI, mR_sI, mL_sI, n_cl, cob_37 hC7, cr_choice hC7, cx_choice hC7]; with_reducible rfl)) | rw [nm_eq] | rw [ckZ_n1] | rw [ckZ_n0])
            unfold f_X0_gameWorth_J181
            rw [ixo_add]
            refine ihe (i + 1) fu _ _ (by omega) (fM7.tr (LFr.w N7 _ (Nat.le_refl p))) (cp7.of (fun j hj => sI_row (by omega))) (Or.inr ⟨i, rfl, by rw [eb], by rw [eb, mI_sI, if_pos ⟨rfl, rfl⟩]⟩)
          rcases hinv with ⟨z1, z2⟩ | ⟨j, ej, e7, e38⟩
          · refine take (by rw [z1]; rfl) ?_
            rw [z2, Int32.le_iff_toInt_le, ofI_toInt (by omega) (by omega), show (-2147483647 : Int32).toInt = -2147483647 from (by decide)]
            omega
          · have bj := bsx_b gb (ok := ok) j
            have ele : (Int32.ofInt (g i) ≤ l7) = (g i ≤ (bsx ok g j).1) := by rw [e7, ofI_le (by omega) (by omega) (by omega) (by omega)]
            by_cases c : (bsx ok g j).1 < g i
            · refine take ?_ (by rw [ele]; omega)
              rw [ej] at c ho ⊢
              rw [bsx, ho, decide_eq_true c]; rfl
            · refine WP.it (by rw [ele]; omega) ?_
              unfold f_X0_gameWorth_J181
              rw [ixo_add]
              have eb : bsx ok g i = bsx ok g j := by
                rw [ej] at c ⊢
                rw [bsx, decide_eq_false c, Bool.and_false, if_neg (by decide)]
              exact ihe (i + 1) fu N7 l7 (by omega) fM7 cp7 (Or.inr ⟨i, rfl, by rw [eb]; exact e7, by rw [eb, k7]; exact e38⟩)
        have go : ok i = true → WP (f_X0_gameWorth_J81 (fn_X0_gameWorth (f + d + 1)) (f_X0_gameWorth_L38 (fn_X0_gameWorth (f + d + 1)) 37 (fu + e + 1)) 37 (nI a) (nI b) (nI p) (nI len) (some (46 + 4 * p)) (some (46 + 4 * (p + 1))) l7 (eP (ixo i)) N) (GWe T (d + 1) p a b S M) := by
          intro ho
          unfold f_X0_gameWorth_J81
          repeat (first | ((with_reducible apply WP.ce); case h => (simp (disch := omega) only []; with_reducible rfl)) | ((with_reducible apply WP.bd); case h => (simp (disch := omega) only [e_gR, e_gI, e_aI, e_aL, e_oO, e_pI, e_wI, e_wL, Option.map_some, mS_sL, mR_sL, mI_sL, mS_sI, mR_sI, mL_sI, n_cl, scene_o (ci_lev hCN (show p + 1 < 5 by omega))]; with_reducible rfl)) | rw [nm_eq] | rw [ckZ_n1] | rw [ckZ_n0])
          refine WP.cw (c_copy hk (ci_lev hCN (show p < 5 by omega)) (ci_lev hCN (show p + 1 < 5 by omega)) (by omega) cN) (fun _ N1 c => ?_)
          obtain ⟨s1, c1⟩ := c
          have f1 : LFr p N N1 := s1.L ⟨by omega, by omega⟩
          have hC1 := f1.CI hCN
          have hT1 := f1.T hTN
          have cp1 : CC N1 (46 + 4 * p) T S := cN.of (fun j hj => s1.2.2.1 _ (by omega) (by omega) (by omega) (by omega))
          have k1 : mI N1 38 p = mI N 38 p := by rw [s1.2.2.1 38 (by omega) (by omega) (by omega) (by omega)]
          cases i with
          | zero =>
            refine WP.it rfl ?_
            exact rest ho N1 S rfl rfl hs0 (fN.tr f1) cp1 k1 c1
          | succ j =>
            refine WP.ie (by rw [ixo_s]; exact nm1 (a := j) (by omega)) ?_
            repeat (first | ((with_reducible apply WP.ce); case h => (simp (disch := omega) only []; with_reducible rfl)) | ((with_reducible apply WP.bd); case h => (simp (disch := omega) only [e_gR, e_gI, e_aI, e_aL, e_oO, e_pI, e_wI, e_wL, Option.map_some, mS_sL, mR_sL, mI_sL, mS_sI, mR_sI, mL_sI, n_cl, cob_37 hC1, cr_37_pilot hC1, cob_30 hC1]; with_reducible rfl)) | rw [nm_eq] | rw [ckZ_n1] | rw [ckZ_n0])
            refine WP.cw (c_meet hC1 hT1 hk hq' (ci_lev hC1 (by omega)) c1 hs0) (fun _ N2 c => ?_)
            obtain ⟨x2, m2', b2⟩ := c
            have f2' : LFr p N1 N2 := x2.L
            have hC2' := f2'.CI hC1
            have c2' := x2.C hq' c1
            have cp2 : CC N2 (46 + 4 * p) T S := x2.C (Or.inr ⟨by omega, by omega⟩) cp1
            have fM2 := (fN.tr f1).tr f2'
            have k2 : mI N2 38 p = mI N 38 p := by rw [x2.2.2.1 38 (by omega) (by omega) (by omega)]; exact k1
            have a1 := c_hears hC2' (fM2.T hT) hk hq' (ci_lev hC2' (show p + 1 < 5 by omega)) c2' hs0 m2' (s := a) (j := j) ha (by omega)
            have ej : eP (ixo (j + 1)) = nI j := by rw [ixo_s]; rfl
            rw [ej]
            repeat (first | ((with_reducible apply WP.ce); case h => (simp (disch := omega) only [a1]; with_reducible rfl)) | ((with_reducible apply WP.bd); case h => (simp (disch := omega) only [e_gR, e_gI, e_aI, e_aL, e_oO, e_pI, e_wI, e_wL, Option.map_some, mS_sL, mR_sL, mI_sL, mS_sI, mR_sI, mL_sI, n_cl, cob_37 hC2', cr_37_pilot hC2', cob_30 hC2']; with_reducible rfl)) | rw [nm_eq] | rw [ckZ_n1] | rw [ckZ_n0])
            have pf := hrM_PF N2 (46 + 4 * (p + 1)) T S a j
            have c3 := hrM_C hq' c2' a j
            obtain ⟨N3, hN3⟩ : ∃ N3, N3 = hrM N2 (46 + 4 * (p + 1)) T S a j := ⟨_, rfl⟩
            rw [← hN3] at pf c3 ⊢
            have fM3 := fM2.tr (pf.L ⟨by omega, by omega⟩ : LFr p N2 N3)
            have hC3 := fM3.CI hC
            have cp3 : CC N3 (46 + 4 * p) T S := cp2.of (fun x hx => pf.2.2.1 _ (by omega) (by omega) (by omega) (by omega) (by omega) (by omega))
            have k3 : mI N3 38 p = mI N 38 p := by rw [pf.2.2.1 38 (by omega) (by omega) (by omega) (by omega) (by omega) (by omega)]; exact k2
            have fin := rest ho N3 (telS T S a j) (by rw [ixo_s]; rfl) rfl (telS_ok hs0 a j) fM3 cp3 k3 c3
            have egn : ggn T S a (ixo (j + 1)) = if isN T S j then ern T (telS T S a j) a else 0 := by rw [ixo_s]; rfl
            rw [egn, ej] at fin
            unfold f_X0_gameWorth_J133
            cases hn : isN T S j with
            | false =>
              rw [hn, if_neg (by decide)] at fin
              exact WP.it rfl fin
            | true =>
              rw [hn, if_pos rfl] at fin
              refine WP.ie (show ¬ bI true = 0 by decide) ?_
              have a2 := c_earnedBy (ci_told hC3) (fM3.T hT) hk (ci_lev hC3 (show p + 1 < 5 by omega)) c3 (telS_ok hs0 a j) ha
              repeat (first | ((with_reducible apply WP.ce); case h => (simp (disch := omega) only [a2]; with_reducible rfl)) | ((with_reducible apply WP.bd); case h => (simp (disch := omega) only [e_gR, e_gI, e_aI, e_aL, e_oO, e_pI, e_wI, e_wL, Option.map_some, mS_sL, mR_sL, mI_sL, mS_sI, mR_sI, mL_sI, n_cl, cob_37 hC3, cr_37_told hC3, told_o (ci_told hC3)]; with_reducible rfl)) | rw [nm_eq] | rw [ckZ_n1] | rw [ckZ_n0])
              exact fin
        cases i with
        | zero =>
          refine WP.ie (by show ¬ nI (tJ T) ≤ -1; rw [Int32.le_iff_toInt_le, nI_toInt (by omega), show (-1 : Int32).toInt = -1 from (by decide)]; omega) ?_
          exact WP.it rfl (go (by rw [hok]; rfl))
        | succ j =>
          have ej : eP (ixo (j + 1)) = nI j := by rw [ixo_s]; rfl
          have eo : ok (j + 1) = (wts S a && (sW S a).testBit j) := by rw [hok]; show gok S a (ixo (j + 1)) = _; rw [ixo_s]; rfl
          refine WP.ie (by rw [ej, n_le (by omega) (by omega)]; omega) ?_
          refine WP.ie (by rw [ej]; exact nm1 (by omega)) ?_
          have ep : mI N (46 + 4 * p + 3) a = eP (sP S a) := (cN.2.2 a ha).2
          repeat (first | ((with_reducible apply WP.ce); case h => (simp (disch := omega) only []; with_reducible rfl)) | ((with_reducible apply WP.bd); case h => (simp (disch := omega) only [e_gR, e_gI, e_aI, e_aL, e_oO, e_pI, e_wI, e_wL, Option.map_some, mS_sL, mR_sL, mI_sL, mS_sI, mR_sI, mL_sI, n_cl, scene_o (ci_lev hCN (show p < 5 by omega)), scene_r_passed (ci_lev hCN (show p < 5 by omega)), scene_x_passed (ci_lev hCN (show p < 5 by omega)), ep]; with_reducible rfl)) | rw [nm_eq] | rw [ckZ_n1] | rw [ckZ_n0])
          cases hw : sP S a with
          | none =>
            refine WP.it rfl ?_
            have a1 := c_isKnown hk (ci_lev hCN (show p < 5 by omega)) cN hs0 (s := a) (j := j) ha (by omega)
            have hwt : wts S a = true := by rw [wts_n]; exact hw
            rw [ej]
            repeat (first | ((with_reducible apply WP.ce); case h => (simp (disch := omega) only [a1]; with_reducible rfl)) | ((with_reducible apply WP.bd); case h => (simp (disch := omega) only [e_gR, e_gI, e_aI, e_aL, e_oO, e_pI, e_wI, e_wL, Option.map_some, mS_sL, mR_sL, mI_sL, mS_sI, mR_sI, mL_sI, n_cl, scene_o (ci_lev hCN (show p < 5 by omega))]; with_reducible rfl)) | rw [nm_eq] | rw [ckZ_n1] | rw [ckZ_n0])
            rw [← ej]
            cases hb2 : (sW S a).testBit j with
            | false => exact WP.it rfl (skip (by rw [eo, hb2, Bool.and_false]))
            | true => exact WP.ie (show ¬ bI true = 0 by decide) (go (by rw [eo, hb2, hwt]; rfl))
          | some t =>
            have ht := hs0.2.2.2 a t hw
            have ht2 := hs0.1
            refine WP.ie (nm1 (a := t) (by omega)) (skip ?_)
            rw [eo]
            unfold wts
            rw [hw]; rfl
    obtain ⟨fu, hfu⟩ := FUd (tJ T + 1) (by omega)
    rw [hfu]
    exact lp (tJ T + 1) 0 fu M _ (by omega) (LFr.rf p M) hS (Or.inl ⟨rfl, rfl⟩)
theorem y_game {M : Mem} {S : SC} {cc : Nat} {W : Nat → RD} {fo : Option Nat} (h : CE M T S cc W fo) (a b c d : Int32) : WP (f_X9_game 0 a b c d M) (fun v M' => v = q_game T S a b c d ∧ AF M M') := by
  obtain ⟨⟨hC, hT, hS, hw, hf⟩, hk, hs, h9, hfo⟩ := h
  have h8 := hk.1.2.2.1
  have h5 := hk.1.2.2.2
  unfold f_X9_game f_X9_game_J40
  by_cases hab : a = b
  · refine WP.it hab (WP.ret ⟨?_, AF.rf M⟩)
    unfold q_game
    rw [decide_eq_false (fun z => z hab), Bool.and_false]; rfl
  · refine WP.ie hab ?_
    repeat (first | ((with_reducible apply WP.ce); case h => (simp (disch := omega) only [c_isWaiting hC hT hk hS hs]; with_reducible rfl)) | ((with_reducible apply WP.bd); case h => (simp (disch := omega) only [e_gR, e_gI, e_aI, e_aL, e_oO, e_pI, e_wI, e_wL, Option.map_some, mS_sL, mR_sL, mI_sL, mS_sI, mR_sI, mL_sI, n_cl, cob_0 hC]; with_reducible rfl)) | rw [nm_eq] | rw [ckZ_n1] | rw [ckZ_n0])
    refine WP.gd (fun g1 => WP.ret ⟨by unfold q_game; rw [g1]; rfl, AF.rf M⟩) (fun g1 => ?_)
    repeat (first | ((with_reducible apply WP.ce); case h => (simp (disch := omega) only [c_isWaiting hC hT hk hS hs]; with_reducible rfl)) | ((with_reducible apply WP.bd); case h => (simp (disch := omega) only [e_gR, e_gI, e_aI, e_aL, e_oO, e_pI, e_wI, e_wL, Option.map_some, mS_sL, mR_sL, mI_sL, mS_sI, mR_sI, mL_sI, n_cl, cob_0 hC]; with_reducible rfl)) | rw [nm_eq] | rw [ckZ_n1] | rw [ckZ_n0])
    refine WP.gd (fun g2 => WP.ret ⟨by unfold q_game; rw [g2, Bool.and_false]; rfl, AF.rf M⟩) (fun g2 => ?_)
    repeat (first | ((with_reducible apply WP.ce); case h => (simp (disch := omega) only [c_isWithin]; with_reducible rfl)) | ((with_reducible apply WP.bd); case h => (simp (disch := omega) only [e_gR, e_gI, e_aI, e_aL, e_oO, e_pI, e_wI, e_wL, Option.map_some, mS_sL, mR_sL, mI_sL, mS_sI, mR_sI, mL_sI, n_cl, cob_0 hC]; with_reducible rfl)) | rw [nm_eq] | rw [ckZ_n1] | rw [ckZ_n0])
    refine WP.gd (fun g3 => WP.ret ⟨by unfold q_game; rw [show inR c 1 3 = false from g3, Bool.and_false]; rfl, AF.rf M⟩) (fun g3 => ?_)
    repeat (first | ((with_reducible apply WP.ce); case h => (simp (disch := omega) only [c_isWithin]; with_reducible rfl)) | ((with_reducible apply WP.bd); case h => (simp (disch := omega) only [e_gR, e_gI, e_aI, e_aL, e_oO, e_pI, e_wI, e_wL, Option.map_some, mS_sL, mR_sL, mI_sL, mS_sI, mR_sI, mL_sI, n_cl, cob_0 hC]; with_reducible rfl)) | rw [nm_eq] | rw [ckZ_n1] | rw [ckZ_n0])
    refine WP.gd (fun g4 => WP.ret ⟨by unfold q_game; rw [show inR d 0 1 = false from g4, Bool.and_false]; rfl, AF.rf M⟩) (fun g4 => ?_)
    obtain ⟨p, rfl, hp5, hpt⟩ := wtI_t hk g1
    obtain ⟨q, rfl, hq5, hqt⟩ := wtI_t hk g2
    obtain ⟨n, rfl, n1, n2, n3⟩ := inR_t (show inR c 1 3 = true from g3) (by decide)
    obtain ⟨w, rfl, w1, w2, w3⟩ := inR_t (show inR d 0 1 = true from g4) (by decide)
    have eq : q_game T S (nI p) (nI q) (nI n) (nI w) = gameA T S p q n w := by
      unfold q_game
      rw [g1, g2, decide_eq_true hab, show inR (nI n) 1 3 = true from g3, show inR (nI w) 0 1 = true from g4, n_cl (by omega), n_cl (by omega), n_cl n3, n_cl w3]
      rfl
    rw [eq]
    have pg : WP (f_X0_playGame 37 (nI p) (nI q) (nI n) M) (fun _ M' => AF M M' ∧ mI M' 37 0 = Int32.ofInt (gw T n p q S).1 ∧ mI M' 37 1 = eP (ixo (gw T n p q S).2)) := by
      unfold f_X0_playGame
      repeat (first | ((with_reducible apply WP.ce); case h => (simp (disch := omega) only []; with_reducible rfl)) | ((with_reducible apply WP.bd); case h => (simp (disch := omega) only [e_gR, e_gI, e_aI, e_aL, e_oO, e_pI, e_wI, e_wL, Option.map_some, mS_sL, mR_sL, mI_sL, mS_sI, mR_sI, mL_sI, n_cl, cob_37 hC, cr_levels hC, e_aR, cx_levels hC, cr_lev hC, cr_37_book hC, book_o (ci_book hC), book_r_scene (ci_book hC), Nat.reduceAdd, Nat.reduceMul, scene_o (ci_lev hC (show 0 < 5 by omega))]; with_reducible rfl)) | rw [nm_eq] | rw [ckZ_n1] | rw [ckZ_n0])
      refine WP.cw (c_copy hk (ci_scene hC) (ci_lev hC (show 0 < 5 by omega)) (by omega) hS) (fun _ N1 c => ?_)
      obtain ⟨s1, c1⟩ := c
      have f1 : LFr 0 M N1 := s1.L ⟨by omega, by omega⟩
      have hC1 := f1.CI hC
      repeat (first | ((with_reducible apply WP.ce); case h => (simp (disch := omega) only []; with_reducible rfl)) | ((with_reducible apply WP.bd); case h => (simp (disch := omega) only [e_gR, e_gI, e_aI, e_aL, e_oO, e_pI, e_wI, e_wL, Option.map_some, mS_sL, mR_sL, mI_sL, mS_sI, mR_sI, mL_sI, n_cl, cob_37 hC1]; with_reducible rfl)) | rw [nm_eq] | rw [ckZ_n1] | rw [ckZ_n0])
      have hrun := c_gameW hk (len := n) (by omega) n 0 (7 - n) p q N1 S (by omega) hp5 hq5 hC1 (f1.T hT) c1 hs (by omega)
      rw [show 7 - n + n + 1 = 8 from by omega] at hrun
      refine WP.cw (P := GWe T n 0 p q S N1) hrun (fun v N2 c => ?_)
      obtain ⟨rfl, f2, ch⟩ := c
      have fM2 := f1.tr f2
      have hC2 := fM2.CI hC
      have ch0 := ch (by omega)
      obtain ⟨N3, hN3⟩ : ∃ N3, N3 = sI N2 37 0 (Int32.ofInt (gw T n p q S).1) := ⟨_, rfl⟩
      have hC3 : CIs (mS N3) (mR N3) := by rw [hN3]; exact hC2
      have k3 : mI N3 38 0 = eP (ixo (gw T n p q S).2) := by rw [hN3, sI_row (by omega)]; exact ch0
      repeat (first | ((with_reducible apply WP.ce); case h => (simp (disch := omega) only []; with_reducible rfl)) | ((with_reducible apply WP.bd); case h => (simp (disch := omega) only [e_gR, e_gI, e_aI, e_aL, e_oO, e_pI, e_wI, e_wL, Option.map_some, mS_sL, mR_sL, mI_sL, mS_sI, mR_sI, mL_sI, n_cl, cob_37 hC2, ← hN3]; with_reducible rfl)) | rw [nm_eq] | rw [ckZ_n1] | rw [ckZ_n0])
      repeat (first | ((with_reducible apply WP.ce); case h => (simp (disch := omega) only []; with_reducible rfl)) | ((with_reducible apply WP.bd); case h => (simp (disch := omega) only [e_gR, e_gI, e_aI, e_aL, e_oO, e_pI, e_wI, e_wL, Option.map_some, mS_sL, mR_sL, mI_sL, mS_sI, mR_sI, mL_sI, n_cl, cob_37 hC3, cr_choice hC3, cx_choice hC3, k3]; with_reducible rfl)) | rw [nm_eq] | rw [ckZ_n1] | rw [ckZ_n0])
      refine WP.ret ⟨?_, ?_, ?_⟩
      · refine fM2.AG.1.tr ⟨by rw [hN3]; rfl, fun a k _ => by rw [hN3]; rfl, fun a ha => ?_, fun a _ => by rw [hN3]; rfl⟩
        rw [sI_row (by omega), hN3, sI_row (by omega)]
      · rw [mI_sI, if_neg (by decide), hN3, mI_sI, if_pos ⟨rfl, rfl⟩]
      · rw [mI_sI, if_pos ⟨rfl, rfl⟩]
    repeat (first | ((with_reducible apply WP.ce); case h => (simp (disch := omega) only []; with_reducible rfl)) | ((with_reducible apply WP.bd); case h => (simp (disch := omega) only [e_gR, e_gI, e_aI, e_aL, e_oO, e_pI, e_wI, e_wL, Option.map_some, mS_sL, mR_sL, mI_sL, mS_sI, mR_sI, mL_sI, n_cl, cob_0 hC, cr_0_asker hC, cob_37 hC]; with_reducible rfl)) | rw [nm_eq] | rw [ckZ_n1] | rw [ckZ_n0])
    refine WP.cw pg (fun _ M2 c => ?_)
    obtain ⟨fr, e0, e1⟩ := c
    have hC2 := fr.CI hC
    unfold f_X9_game_J76 gameA
    by_cases c : w = 0
    · rw [if_pos c]
      refine WP.it (by rw [c]; rfl) ?_
      repeat (first | ((with_reducible apply WP.ce); case h => (simp (disch := omega) only []; with_reducible rfl)) | ((with_reducible apply WP.bd); case h => (simp (disch := omega) only [e_gR, e_gI, e_aI, e_aL, e_oO, e_pI, e_wI, e_wL, Option.map_some, mS_sL, mR_sL, mI_sL, mS_sI, mR_sI, mL_sI, n_cl, cob_0 hC2, cr_0_asker hC2, cob_37 hC2, e0]; with_reducible rfl)) | rw [nm_eq] | rw [ckZ_n1] | rw [ckZ_n0])
      exact WP.ret ⟨rfl, fr⟩
    · rw [if_neg c]
      refine WP.ie (by rw [nIz (by omega)]; exact c) ?_
      repeat (first | ((with_reducible apply WP.ce); case h => (simp (disch := omega) only []; with_reducible rfl)) | ((with_reducible apply WP.bd); case h => (simp (disch := omega) only [e_gR, e_gI, e_aI, e_aL, e_oO, e_pI, e_wI, e_wL, Option.map_some, mS_sL, mR_sL, mI_sL, mS_sI, mR_sI, mL_sI, n_cl, cob_0 hC2, cr_0_asker hC2, cob_37 hC2, e1]; with_reducible rfl)) | rw [nm_eq] | rw [ckZ_n1] | rw [ckZ_n0])
      exact WP.ret ⟨rfl, fr⟩
end GMC
theorem s_game {M : Mem} {G : GD} (h : ST M G) (a b c d : Int32) : BO (f_X9_game 0 a b c d) (f_X10_game 66 a b c d) M := BO.q h (y_game (h.2.1.ce h.2.2) a b c d) (fun M1 g => x_game (g.re h.2.2) a b c d)
