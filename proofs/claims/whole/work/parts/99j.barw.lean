/-! THE CLASS: a bar read to its end -/
theorem lgc_eq (a b : Int64) : (lg_cmp a b = 0) = (a = b) := by
  unfold lg_cmp
  rcases fa_three64 a b with h | h | h
  · have h1 : ¬ a > b := by intro z; have := (fa_lt64 b a).mp z; have := (fa_lt64 a b).mp h; omega
    have h2 : ¬ a = b := by intro z; have := (fa_eq64 a b).mp z; have := (fa_lt64 a b).mp h; omega
    rw [if_neg h1, if_neg h2]
    exact propext ⟨fun z => absurd z (by decide), fun z => absurd z h2⟩
  · have h1 : ¬ a > b := by intro z; have := (fa_lt64 b a).mp z; have := (fa_eq64 a b).mp h; omega
    rw [if_neg h1, if_pos h]
    exact propext ⟨fun _ => h, fun _ => rfl⟩
  · rw [if_pos h]
    exact propext ⟨fun z => absurd z (by decide), fun z => by have := (fa_eq64 a b).mp z; have := (fa_lt64 b a).mp h; omega⟩
section CBW
variable {M : Mem} {T : TD} {t : TP}
theorem bw_0 (h4 : TOk2 t) (p : Nat) : (lg_cmp (tkW t p) 6447474 = 0) = (bwk t p = 0) := by
  rw [lgc_eq, tw_eq h4 p (w := w_bar) (by decide) (by decide) (by decide) (by decide)]
  unfold bwk
  by_cases h : lts t (bk t p) = w_bar
  · rw [if_pos h]; exact propext ⟨fun _ => rfl, fun _ => h⟩
  · rw [if_neg h]
    refine propext ⟨fun z => absurd z h, fun z => ?_⟩
    split at z
    · cases z
    · split at z
      · cases z
      · split at z <;> cases z
theorem bw_1 (h4 : TOk2 t) (p : Nat) : (lg_cmp (tkW t p) 1785686885 = 0) = (bwk t p = 1) := by
  rw [lgc_eq, tw_eq h4 p (w := w_joke) (by decide) (by decide) (by decide) (by decide)]
  unfold bwk
  by_cases h : lts t (bk t p) = w_joke
  · rw [h, if_neg (by decide), if_pos rfl]; exact propext ⟨fun _ => rfl, fun _ => rfl⟩
  · refine propext ⟨fun z => absurd z h, fun z => ?_⟩
    split at z
    · cases z
    · split at z
      · cases z
      · split at z <;> cases z
theorem bw_2 (h4 : TOk2 t) (p : Nat) : (lg_cmp (tkW t p) 1936222576 = 0) = (bwk t p = 2) := by
  rw [lgc_eq, tw_eq h4 p (w := w_ship) (by decide) (by decide) (by decide) (by decide)]
  unfold bwk
  by_cases h : lts t (bk t p) = w_ship
  · rw [h, if_neg (by decide), if_neg (by decide), if_pos rfl]; exact propext ⟨fun _ => rfl, fun _ => rfl⟩
  · refine propext ⟨fun z => absurd z h, fun z => ?_⟩
    split at z
    · cases z
    · split at z
      · cases z
      · split at z <;> cases z
theorem bw_3 (h4 : TOk2 t) (p : Nat) : (lg_cmp (tkW t p) 461414299507 = 0) = (bwk t p = 3) := by
  rw [lgc_eq, tw_eq h4 p (w := w_knows) (by decide) (by decide) (by decide) (by decide)]
  unfold bwk
  by_cases h : lts t (bk t p) = w_knows
  · rw [h, if_neg (by decide), if_neg (by decide), if_neg (by decide), if_pos rfl]; exact propext ⟨fun _ => rfl, fun _ => rfl⟩
  · refine propext ⟨fun z => absurd z h, fun z => ?_⟩
    split at z
    · cases z
    · split at z
      · cases z
      · split at z
        · cases z
        · cases z
theorem y_tooMuch (hC : CIs (mS M) (mR M)) (h4 : TOk2 t) (hT : CR M T) (hb : BTk T) {p n : Nat} (hn : n ≤ 40) : f_X1_isTooMuch 3 (tkW t p) (nI n) M = some (bI (bfl T n (bwk t p)), M) := by
  have h8 := hb.1.2.2.1
  have h5 := hb.1.2.2.2
  have t3 := hT.1.2.2.2.1
  have t4 := hT.1.2.2.2.2
  have hI := ci_told4 hC
  obtain ⟨k, hk⟩ : ∃ k, k = bwk t p := ⟨_, rfl⟩
  have e0 := bw_0 h4 p
  have e1 := bw_1 h4 p
  have e2 := bw_2 h4 p
  rw [← hk] at e0 e1 e2 ⊢
  have j70 : f_X1_isTooMuch_J70 3 M = some (bI true, M) := by unfold f_X1_isTooMuch_J70 f_X1_isTooMuch_J75; rw [ckZ_n1]; rfl
  have j74 : f_X1_isTooMuch_J74 3 M = some (bI false, M) := by unfold f_X1_isTooMuch_J74 f_X1_isTooMuch_J75; rw [ckZ_n0]; rfl
  have j51 : f_X1_isTooMuch_J51 3 (tkW t p) M = some (bI (decide (k = 2) && decide (tN T = 5)), M) := by
    unfold f_X1_isTooMuch_J51
    by_cases c : k = 2
    · rw [if_pos (by rw [e2]; exact c), decide_eq_true c, Bool.true_and]
      repeat (first | ((with_reducible apply clt_t); case h => (simp (disch := omega) only [hC]; with_reducible rfl)) | ((with_reducible apply bnd_t); case h => (simp (disch := omega) only [e_gR, e_gI, e_aI, e_aL, e_oO, e_pI, e_wI, e_wL, Option.map_some, mS_sL, mR_sL, mI_sL, mS_sI, mR_sI, mL_sI, n_cl, cob_3 hC, cr_3_told hC, told_o hI, t4]; with_reducible rfl)) | rw [nm_eq])
      by_cases c2 : tN T = 5
      · rw [if_neg (by rw [n_lt (by omega) (by decide)]; omega), decide_eq_true c2]; exact j70
      · rw [if_pos (by rw [n_lt (by omega) (by decide)]; omega), decide_eq_false c2]; exact j74
    · rw [if_neg (by rw [e2]; exact c), decide_eq_false c, Bool.false_and]; exact j74
  have j22 : ∀ x, f_X1_isTooMuch_J22 3 (tkW t p) (nI n) x x M = some (bI (decide (n = 40) || (decide (k = 1) && decide (tJ T = 8)) || (decide (k = 2) && decide (tN T = 5))), M) := fun x => by
    unfold f_X1_isTooMuch_J22
    rw [if_pos rfl]
    by_cases c : n = 40
    · rw [if_pos (by rw [n_le (by decide) (by omega)]; omega), decide_eq_true c]; exact j70
    · rw [if_neg (by rw [n_le (by decide) (by omega)]; omega), decide_eq_false c, Bool.false_or]
      by_cases c1 : k = 1
      · rw [if_pos (by rw [e1]; exact c1), decide_eq_true c1, Bool.true_and]
        repeat (first | ((with_reducible apply clt_t); case h => (simp (disch := omega) only [hC]; with_reducible rfl)) | ((with_reducible apply bnd_t); case h => (simp (disch := omega) only [e_gR, e_gI, e_aI, e_aL, e_oO, e_pI, e_wI, e_wL, Option.map_some, mS_sL, mR_sL, mI_sL, mS_sI, mR_sI, mL_sI, n_cl, cob_3 hC, cr_3_told hC, told_o hI, t3]; with_reducible rfl)) | rw [nm_eq])
        by_cases c2 : tJ T = 8
        · rw [if_pos (by rw [n_le (by decide) (by omega)]; omega), decide_eq_true c2]; exact j70
        · rw [if_neg (by rw [n_le (by decide) (by omega)]; omega), decide_eq_false c2, Bool.false_or]; exact j51
      · rw [if_neg (by rw [e1]; exact c1), decide_eq_false c1, Bool.false_and, Bool.false_or]; exact j51
  have j22n : ∀ x y, ¬ y = x → f_X1_isTooMuch_J22 3 (tkW t p) (nI n) x y M = some (bI true, M) := fun x y h => by
    unfold f_X1_isTooMuch_J22
    rw [if_neg h]; exact j70
  unfold f_X1_isTooMuch f_X1_isTooMuch_J13 bfl
  by_cases c0 : k = 0
  · rw [if_pos (by rw [e0]; exact c0), decide_eq_true c0]
    by_cases n0 : n = 0
    · rw [if_pos (by rw [n0]; rfl), decide_eq_true n0, j22]; simp
    · rw [if_neg (by rw [nIz (by omega)]; exact n0), decide_eq_false n0, j22n _ _ (by decide)]; simp
  · rw [if_neg (by rw [e0]; exact c0), decide_eq_false c0]
    by_cases n0 : n = 0
    · rw [if_pos (by rw [n0]; rfl), decide_eq_true n0, j22n _ _ (by decide)]; simp
    · rw [if_neg (by rw [nIz (by omega)]; exact n0), decide_eq_false n0, j22]; simp
theorem y_clause (hC : CIs (mS M) (mR M)) (ht : CTp M t) (h4 : TOk2 t) {p n : Nat} (hp : p ≤ t.1) (hk : TK M t p) (h2 : mI M 1 2 = nI 0) (hT : CR M T) (hb : BTk T) (hn : n ≤ 40) : WP (f_X1_readClause 3 (nI n) M) (RP M t (brC t p T n)) := by
  have k4 := hk.2.1
  have k6 := hk.2.2.2.1
  have k8 := hk.2.2.2.2.2
  have fail : ∀ c, f_X7_failAt 1 (nI (bk t p)) (nI c) M = some (nI 0, sI M 1 2 (nI (1 + 8 * bk t p + c))) := fun c => c_failAt hC h2 _ _
  have e0 := bw_0 h4 p
  have e1 := bw_1 h4 p
  have e2 := bw_2 h4 p
  have e3 := bw_3 h4 p
  have tm := y_tooMuch hC h4 hT hb (p := p) hn
  have hle := bwk_le t p
  have j56 : bwk t p ≠ 4 → WP (f_X1_readClause_J56 3 (nI n) (tkW t p) M) (RP M t (brC t p T n)) := by
    intro h
    unfold f_X1_readClause_J56 f_X1_readClause_J133
    repeat (first | ((with_reducible apply WP.ce); case h => (simp (disch := omega) only [tm]; with_reducible rfl)) | ((with_reducible apply WP.bd); case h => (simp (disch := omega) only [e_gR, e_gI, e_aI, e_aL, e_oO, e_pI, e_wI, e_wL, Option.map_some, mS_sL, mR_sL, mI_sL, mS_sI, mR_sI, mL_sI, n_cl, cob_3 hC]; with_reducible rfl)) | rw [nm_eq] | rw [ckZ_n1] | rw [ckZ_n0])
    cases hf : bfl T n (bwk t p) with
    | true =>
      have er : brC t p T n = (1 + 8 * bk t p + 4, p, T) := by unfold brC; rw [if_neg h, hf, if_pos rfl]
      rw [er]
      have f4 := fail 4
      refine WP.ie (show ¬ bI true = 0 by decide) ?_
      repeat (first | ((with_reducible apply WP.ce); case h => (simp (disch := omega) only [f4]; with_reducible rfl)) | ((with_reducible apply WP.bd); case h => (simp (disch := omega) only [e_gR, e_gI, e_aI, e_aL, e_oO, e_pI, e_wI, e_wL, Option.map_some, mS_sL, mR_sL, mI_sL, mS_sI, mR_sI, mL_sI, n_cl, cob_3 hC, cr_3_tape hC, cob_1 hC, k4]; with_reducible rfl)) | rw [nm_eq] | rw [ckZ_n1] | rw [ckZ_n0])
      exact WP.ret ⟨(FQ.w M _).FC, Or.inr ⟨by show 1 + 8 * bk t p + 4 ≠ 0; omega, rfl, by rw [mI_sI, if_pos ⟨rfl, rfl⟩]⟩⟩
    | false =>
      have er : brC t p T n = brP t (tkE t p) T (bwk t p) := by unfold brC; rw [if_neg h, hf, if_neg (by decide)]
      rw [er]
      refine WP.it rfl ?_
      repeat (first | ((with_reducible apply WP.ce); case h => (simp (disch := omega) only []; with_reducible rfl)) | ((with_reducible apply WP.bd); case h => (simp (disch := omega) only [e_gR, e_gI, e_aI, e_aL, e_oO, e_pI, e_wI, e_wL, Option.map_some, mS_sL, mR_sL, mI_sL, mS_sI, mR_sI, mL_sI, n_cl, cob_3 hC, cr_3_tape hC, cob_1 hC]; with_reducible rfl)) | rw [nm_eq] | rw [ckZ_n1] | rw [ckZ_n0])
      refine WP.cw (c_next hC ht h4 (tkE_le hp).1 k8) (fun _ M1 c => ?_)
      obtain ⟨f1, k1⟩ := c
      have hC1 := f1.CI hC
      have t1 := f1.tp ht
      have g1 : mI M1 1 2 = nI 0 := f1.2.2.2.2.1.trans h2
      have T1 := f1.FQ.cr hT
      have hpE := (tkE_le hp).1
      have ck : ∀ {X : Option (Int32 × Mem)} {r : Nat × Nat × TD}, WP X (RP M1 t r) → WP (cl X fun r10 M => ckZ r10 (some (r10, M))) (RP M t r) := fun {X r} hX => by
        refine WP.cw hX (fun v M' c => ?_)
        have c' := c.up f1.FQ.FC
        rcases c.2 with ⟨-, rfl, -⟩ | ⟨-, rfl, -⟩
        · rw [ckZ_n1]; exact WP.ret c'
        · rw [ckZ_n0]; exact WP.ret c'
      unfold bfl at hf
      by_cases c0 : bwk t p = 0
      · refine WP.it (by rw [e0]; exact c0) ?_
        repeat (first | ((with_reducible apply WP.ce); case h => (simp (disch := omega) only []; with_reducible rfl)) | ((with_reducible apply WP.bd); case h => (simp (disch := omega) only [e_gR, e_gI, e_aI, e_aL, e_oO, e_pI, e_wI, e_wL, Option.map_some, mS_sL, mR_sL, mI_sL, mS_sI, mR_sI, mL_sI, n_cl, cob_3 hC1]; with_reducible rfl)) | rw [nm_eq] | rw [ckZ_n1] | rw [ckZ_n0])
        rw [c0]
        exact ck (y_readBar hC1 t1 h4 hpE k1 g1 T1)
      · refine WP.ie (by rw [e0]; exact c0) ?_
        by_cases c1 : bwk t p = 1
        · refine WP.it (by rw [e1]; exact c1) ?_
          repeat (first | ((with_reducible apply WP.ce); case h => (simp (disch := omega) only []; with_reducible rfl)) | ((with_reducible apply WP.bd); case h => (simp (disch := omega) only [e_gR, e_gI, e_aI, e_aL, e_oO, e_pI, e_wI, e_wL, Option.map_some, mS_sL, mR_sL, mI_sL, mS_sI, mR_sI, mL_sI, n_cl, cob_3 hC1]; with_reducible rfl)) | rw [nm_eq] | rw [ckZ_n1] | rw [ckZ_n0])
          rw [c1] at hf ⊢
          have h8 := hb.1.2.2.1
          exact ck (y_readJoke hC1 t1 h4 hpE k1 g1 T1 hb (by
            rcases Nat.lt_or_ge (tJ T) 8 with z | z
            · exact z
            · have : tJ T = 8 := by omega
              rw [this] at hf
              simp at hf))
        · refine WP.ie (by rw [e1]; exact c1) ?_
          by_cases c2 : bwk t p = 2
          · refine WP.it (by rw [e2]; exact c2) ?_
            repeat (first | ((with_reducible apply WP.ce); case h => (simp (disch := omega) only []; with_reducible rfl)) | ((with_reducible apply WP.bd); case h => (simp (disch := omega) only [e_gR, e_gI, e_aI, e_aL, e_oO, e_pI, e_wI, e_wL, Option.map_some, mS_sL, mR_sL, mI_sL, mS_sI, mR_sI, mL_sI, n_cl, cob_3 hC1]; with_reducible rfl)) | rw [nm_eq] | rw [ckZ_n1] | rw [ckZ_n0])
            rw [c2] at hf ⊢
            have h5 := hb.1.2.2.2
            exact ck (y_readShip hC1 t1 h4 hpE k1 g1 T1 (by
              rcases Nat.lt_or_ge (tN T) 5 with z | z
              · exact z
              · have : tN T = 5 := by omega
                rw [this] at hf
                simp at hf))
          · refine WP.ie (by rw [e2]; exact c2) ?_
            have c3 : bwk t p = 3 := by omega
            repeat (first | ((with_reducible apply WP.ce); case h => (simp (disch := omega) only []; with_reducible rfl)) | ((with_reducible apply WP.bd); case h => (simp (disch := omega) only [e_gR, e_gI, e_aI, e_aL, e_oO, e_pI, e_wI, e_wL, Option.map_some, mS_sL, mR_sL, mI_sL, mS_sI, mR_sI, mL_sI, n_cl, cob_3 hC1]; with_reducible rfl)) | rw [nm_eq] | rw [ckZ_n1] | rw [ckZ_n0])
            rw [c3]
            exact ck (y_readKnows hC1 t1 h4 hpE k1 g1 T1 hb)
  unfold f_X1_readClause
  repeat (first | ((with_reducible apply WP.ce); case h => (simp (disch := omega) only []; with_reducible rfl)) | ((with_reducible apply WP.bd); case h => (simp (disch := omega) only [e_gR, e_gI, e_aI, e_aL, e_oO, e_pI, e_wI, e_wL, Option.map_some, mS_sL, mR_sL, mI_sL, mS_sI, mR_sI, mL_sI, n_cl, e_gL, cob_3 hC, cr_3_tape hC, cob_1 hC, k6]; with_reducible rfl)) | rw [nm_eq] | rw [ckZ_n1] | rw [ckZ_n0])
  by_cases c0 : bwk t p = 0
  · exact WP.it (by rw [e0]; exact c0) (j56 (by omega))
  · refine WP.ie (by rw [e0]; exact c0) ?_
    by_cases c1 : bwk t p = 1
    · exact WP.it (by rw [e1]; exact c1) (j56 (by omega))
    · refine WP.ie (by rw [e1]; exact c1) ?_
      by_cases c2 : bwk t p = 2
      · exact WP.it (by rw [e2]; exact c2) (j56 (by omega))
      · refine WP.ie (by rw [e2]; exact c2) ?_
        by_cases c3 : bwk t p = 3
        · exact WP.it (by rw [e3]; exact c3) (j56 (by omega))
        · refine WP.ie (by rw [e3]; exact c3) ?_
          have c4 : bwk t p = 4 := by omega
          have er : brC t p T n = (1 + 8 * bk t p, p, T) := by unfold brC; rw [if_pos c4]
          rw [er]
          have f0 := fail 0
          repeat (first | ((with_reducible apply WP.ce); case h => (simp (disch := omega) only [f0]; with_reducible rfl)) | ((with_reducible apply WP.bd); case h => (simp (disch := omega) only [e_gR, e_gI, e_aI, e_aL, e_oO, e_pI, e_wI, e_wL, Option.map_some, mS_sL, mR_sL, mI_sL, mS_sI, mR_sI, mL_sI, n_cl, cob_3 hC, cr_3_tape hC, cob_1 hC, k4]; with_reducible rfl)) | rw [nm_eq] | rw [ckZ_n1] | rw [ckZ_n0])
          exact WP.ret ⟨(FQ.w M _).FC, Or.inr ⟨by show 1 + 8 * bk t p ≠ 0; omega, rfl, by rw [mI_sI, if_pos ⟨rfl, rfl⟩]; rfl⟩⟩
theorem y_readL (h4 : TOk2 t) : ∀ d n p f (T : TD) (M : Mem), n + d = 41 → n ≤ 40 → BT2 n T → p ≤ t.1 → CIs (mS M) (mR M) → CTp M t → TK M t p → mI M 1 2 = nI 0 → CR M T →
    WP (f_X1_read_L18 3 (f + d + 1) (nI 1) (nI n) M) (fun v M' => FC M M' ∧ v = nI (brL t d n p T).1 ∧ (brL t d n p T).1 < 10000 ∧ ((brL t d n p T).1 = 0 → CR M' (brL t d n p T).2 ∧ BT2 1 (brL t d n p T).2)) := by
  have hL := h4.1
  intro d
  induction d with
  | zero => intro n p f T M hn h40; omega
  | succ d ih =>
    intro n p f T M hn h40 hT hpl hC ht hk h2 hR
    have hcl := brC_lt h4 (n := n) (T := T) hpl
    have stop : ∀ (N : Mem) (r : Nat × TD), FC M N → r = brL t (d + 1) n p T → mI N 1 2 = nI r.1 → r.1 < 10000 → (r.1 = 0 → CR N r.2 ∧ BT2 1 r.2) → WP (f_X1_read_J50 (f_X1_read_L18 3 (f + d + 1)) 3 (nI n) N) (fun v M' => FC M M' ∧ v = nI (brL t (d + 1) n p T).1 ∧ (brL t (d + 1) n p T).1 < 10000 ∧ ((brL t (d + 1) n p T).1 = 0 → CR M' (brL t (d + 1) n p T).2 ∧ BT2 1 (brL t (d + 1) n p T).2)) := by
      intro N r fN hr h1 h2 h3
      have hCN := fN.CI hC
      unfold f_X1_read_J50 f_X1_read_J51
      rw [f_X1_read_L18]
      refine WP.it rfl ?_
      unfold f_X1_read_J58
      repeat (first | ((with_reducible apply WP.ce); case h => (simp (disch := omega) only []; with_reducible rfl)) | ((with_reducible apply WP.bd); case h => (simp (disch := omega) only [e_gR, e_gI, e_aI, e_aL, e_oO, e_pI, e_wI, e_wL, Option.map_some, mS_sL, mR_sL, mI_sL, mS_sI, mR_sI, mL_sI, n_cl, cob_3 hCN, cr_3_tape hCN, cob_1 hCN, h1]; with_reducible rfl)) | rw [nm_eq] | rw [ckZ_n1] | rw [ckZ_n0])
      rw [← hr]
      exact WP.ret ⟨fN, rfl, h2, h3⟩
    rw [show f + (d + 1) + 1 = (f + d + 1) + 1 from by omega, f_X1_read_L18]
    refine WP.ie (by decide) ?_
    refine WP.ie (by rw [n_lt (by decide) (by omega)]; omega) ?_
    repeat (first | ((with_reducible apply WP.ce); case h => (simp (disch := omega) only []; with_reducible rfl)) | ((with_reducible apply WP.bd); case h => (simp (disch := omega) only [e_gR, e_gI, e_aI, e_aL, e_oO, e_pI, e_wI, e_wL, Option.map_some, mS_sL, mR_sL, mI_sL, mS_sI, mR_sI, mL_sI, n_cl, cob_3 hC]; with_reducible rfl)) | rw [nm_eq] | rw [ckZ_n1] | rw [ckZ_n0])
    refine WP.cw (y_clause hC ht h4 hpl hk h2 hR hT.1 h40) (fun v M1 c => ?_)
    obtain ⟨f1, c⟩ := c
    have hC1 := f1.CI hC
    rcases c with ⟨z, rfl, k1, g1, R1⟩ | ⟨z, rfl, g1⟩
    · refine WP.ie (by decide) ?_
      have hT1 := brC_ok hT z
      have n40 : n ≠ 40 := fun e => brC_40 t p T (by rw [e] at z; exact z)
      repeat (first | ((with_reducible apply WP.ce); case h => (simp (disch := omega) only []; with_reducible rfl)) | ((with_reducible apply WP.bd); case h => (simp (disch := omega) only [e_gR, e_gI, e_aI, e_aL, e_oO, e_pI, e_wI, e_wL, Option.map_some, mS_sL, mR_sL, mI_sL, mS_sI, mR_sI, mL_sI, n_cl, cob_3 hC1, cr_3_tape hC1, cob_1 hC1]; with_reducible rfl)) | rw [nm_eq] | rw [ckZ_n1] | rw [ckZ_n0])
      refine WP.cw (c_sep hC1 (f1.tp ht) h4 (brC_pos hpl) k1 g1) (fun v M2 c => ?_)
      obtain ⟨f2, g2, rfl, nx⟩ := c
      have f12 := f1.tr f2.FC
      by_cases s : tkG t (brC t p T n).2.1 = nI 59
      · rw [decide_eq_true s]
        refine WP.ie (show ¬ bI true = 0 by decide) ?_
        have eL : brL t (d + 1) n p T = brL t d (n + 1) (tkE t (brC t p T n).2.1) (brC t p T n).2.2 := by rw [brL, if_pos z, if_pos s]
        rw [eL]
        have g0 : gof t (brC t p T n).2.1 = 0 := by unfold gof; rw [if_pos s]
        rw [g0] at g2
        unfold f_X1_read_J51
        rw [n_add]
        exact WP.mono (ih (n + 1) _ f _ M2 (by omega) (by omega) hT1 (tkE_le (brC_pos hpl)).1 (f12.CI hC) (f12.tp ht) (nx s) g2 (f2.cr R1)) (fun v M' c => ⟨f12.tr c.1, c.2⟩)
      · rw [decide_eq_false s]
        refine WP.it rfl ?_
        by_cases e : tkK t (brC t p T n).2.1 = 0
        · have eL : brL t (d + 1) n p T = (0, (brC t p T n).2.2) := by rw [brL, if_pos z, if_neg s, if_pos e]
          have g0 : gof t (brC t p T n).2.1 = 0 := by unfold gof; rw [if_neg s, if_pos e]
          exact stop M2 _ f12 eL.symm (by rw [g2, g0]) (by show 0 < 10000; decide) (fun _ => ⟨f2.cr R1, ⟨hT1.1, fun _ => hT1.2 (by omega)⟩⟩)
        · have eL : brL t (d + 1) n p T = (1 + 8 * bk t (brC t p T n).2.1, (brC t p T n).2.2) := by rw [brL, if_pos z, if_neg s, if_neg e]
          have g0 : gof t (brC t p T n).2.1 = 1 + 8 * bk t (brC t p T n).2.1 := by unfold gof; rw [if_neg s, if_neg e]
          have hbb : bk t (brC t p T n).2.1 ≤ t.1 := ru_le isBl t (brC_pos hpl)
          refine stop M2 _ f12 eL.symm (by rw [g2, g0]) (by show 1 + 8 * bk t (brC t p T n).2.1 < 10000; omega) (fun q => ?_)
          have q : 1 + 8 * bk t (brC t p T n).2.1 = 0 := q
          omega
    · refine WP.it rfl ?_
      have eL : brL t (d + 1) n p T = ((brC t p T n).1, (brC t p T n).2.2) := by rw [brL, if_neg z]
      exact stop M1 _ f1 eL.symm g1 hcl (fun q => absurd q z)
theorem y_read (hC : CIs (mS M) (mR M)) (ht : CTp M t) (h4 : TOk2 t) : WP (f_X1_read 3 M) (fun v M' => FC M M' ∧ v = nI (brL t 41 0 0 tdZ).1 ∧ (brL t 41 0 0 tdZ).1 < 10000 ∧ ((brL t 41 0 0 tdZ).1 = 0 → CR M' (brL t 41 0 0 tdZ).2 ∧ BT2 1 (brL t 41 0 0 tdZ).2)) := by
  obtain ⟨M1, hM1⟩ : ∃ M1, M1 = sI (sI M 1 8 (nI 0)) 1 2 (nI 0) := ⟨_, rfl⟩
  have f1 : FQ M M1 := by rw [hM1]; exact (FTk.i M (by decide) _).FQ.tr (FQ.w _ _)
  have hC1 := f1.CI hC
  have g8 : mI M1 1 8 = nI 0 := by rw [hM1, mI_sI, if_neg (by omega), mI_sI, if_pos ⟨rfl, rfl⟩]
  have g2 : mI M1 1 2 = nI 0 := by rw [hM1, mI_sI, if_pos ⟨rfl, rfl⟩]
  have rw1 : WP (f_X7_rewind 1 M) (fun _ M' => FQ M M' ∧ TK M' t 0 ∧ mI M' 1 2 = nI 0) := by
    unfold f_X7_rewind
    repeat (first | ((with_reducible apply WP.ce); case h => (simp (disch := omega) only []; with_reducible rfl)) | ((with_reducible apply WP.bd); case h => (simp (disch := omega) only [e_gR, e_gI, e_aI, e_aL, e_oO, e_pI, e_wI, e_wL, Option.map_some, mS_sL, mR_sL, mI_sL, mS_sI, mR_sI, mL_sI, n_cl, cob_1 hC, ← hM1]; with_reducible rfl)) | rw [nm_eq] | rw [ckZ_n1] | rw [ckZ_n0])
    repeat (first | ((with_reducible apply WP.ce); case h => (simp (disch := omega) only []; with_reducible rfl)) | ((with_reducible apply WP.bd); case h => (simp (disch := omega) only [e_gR, e_gI, e_aI, e_aL, e_oO, e_pI, e_wI, e_wL, Option.map_some, mS_sL, mR_sL, mI_sL, mS_sI, mR_sI, mL_sI, n_cl, cob_1 hC1]; with_reducible rfl)) | rw [nm_eq] | rw [ckZ_n1] | rw [ckZ_n0])
    refine WP.cw (c_next hC1 (f1.tp ht) h4 (Nat.zero_le _) g8) (fun _ M2 c => ?_)
    exact WP.ret ⟨f1.tr c.1.FQ, c.2, c.1.2.2.2.2.1.trans g2⟩
  unfold f_X1_read
  repeat (first | ((with_reducible apply WP.ce); case h => (simp (disch := omega) only []; with_reducible rfl)) | ((with_reducible apply WP.bd); case h => (simp (disch := omega) only [e_gR, e_gI, e_aI, e_aL, e_oO, e_pI, e_wI, e_wL, Option.map_some, mS_sL, mR_sL, mI_sL, mS_sI, mR_sI, mL_sI, n_cl, cob_3 hC, cr_3_tape hC, cob_1 hC]; with_reducible rfl)) | rw [nm_eq] | rw [ckZ_n1] | rw [ckZ_n0])
  refine WP.cw rw1 (fun _ M2 c => ?_)
  obtain ⟨f2, k2, q2⟩ := c
  have hC2 := f2.CI hC
  repeat (first | ((with_reducible apply WP.ce); case h => (simp (disch := omega) only []; with_reducible rfl)) | ((with_reducible apply WP.bd); case h => (simp (disch := omega) only [e_gR, e_gI, e_aI, e_aL, e_oO, e_pI, e_wI, e_wL, Option.map_some, mS_sL, mR_sL, mI_sL, mS_sI, mR_sI, mL_sI, n_cl, cob_3 hC2, cr_3_told hC2, told_o (ci_told4 hC2)]; with_reducible rfl)) | rw [nm_eq] | rw [ckZ_n1] | rw [ckZ_n0])
  refine WP.cw (c_clear hC2) (fun _ M3 c => ?_)
  obtain ⟨f3, R3⟩ := c
  have f23 := f2.FC.tr f3.FC
  obtain ⟨f, hf⟩ := FUd 41 (by omega)
  rw [hf]
  exact WP.mono (y_readL h4 41 0 0 f tdZ M3 rfl (by decide) tdZ_ok (Nat.zero_le _) (f3.CI hC2) (f23.tp ht) (f3.tk k2) (by rw [f3.2.2.1 1 (by omega)]; exact q2) R3) (fun v M' c => ⟨f23.tr c.1, c.2⟩)
end CBW
