/-! THE CLASS: a row is sought, level by level -/
theorem ixo_add (i : Nat) : eP (ixo i) + nI 1 = eP (ixo (i + 1)) := by
  rw [ixo_s]
  cases i with
  | zero => decide
  | succ i => rw [ixo_s]; show nI i + nI 1 = nI (i + 1); rw [n_add]
theorem trn_on {T : TD} {r : Option RD} {s k : Nat} {c : Option Nat} {S : SC} (h : k ≠ s) : trn T r (some (s, c)) S k = trn T r none S k := by
  have : cho T r (some (s, c)) S k = cho T r none S k := by
    show ((if s = k then some c else none) : Option (Option Nat)).getD (pick T r S k) = _
    rw [if_neg (fun z => h z.symm)]; rfl
  unfold trn tld
  rw [this]
theorem trns_s1 {T : TD} {r : Option RD} {s : Nat} {c : Option Nat} {S : SC} (hw : wts S s = true) : trns T r (some (s, c)) S (s + 1) = c.elim (trns T r none S s) (fun j => telS T (trns T r none S s) s j) := by
  rw [trns, trns_ov s (Nat.le_refl s)]
  rw [wts_n] at hw
  have hu : sP (trns T r none S s) s = none := by rw [trns_Pn s (Nat.le_refl s)]; exact hw
  have ht : tld T r (some (s, c)) (trns T r none S s) s = c := by
    unfold tld
    rw [if_pos (by rw [wts_n]; exact hu)]
    show ((if s = s then some c else none) : Option (Option Nat)).getD _ = _
    rw [if_pos rfl]; rfl
  unfold trn
  rw [ht]
section ROWH
variable {T : TD} {r : Option RD} {s : Nat}
set_option maxHeartbeats 4000000 in
theorem c_rowF (hk : TOk T) (hs : s < tN T) {len : Nat} (hlen : len ≤ 3) : ∀ d p f (M : Mem) (S : SC), p + d = len → CIs (mS M) (mR M) → CT M 15 T → CRu M r → CC M (46 + 4 * p) T S → SOk S → sT S + d < 100000 → wts S s = true → (∀ k', k' < d → dfs T r s k' S = none) → WP (fn_X0_rowFound (f + d + 1) 37 (nI s) (nI p) (nI len) M) (RFe T r s d p S M) := by
  have h8 := hk.1.2.2.1
  have h5 := hk.1.2.2.2
  intro d
  induction d with
  | zero =>
    intro p f M S hp hC hT hr hS hs0 hb hw hnp
    rw [fn_X0_rowFound]
    unfold fb_X0_rowFound
    repeat (first | ((with_reducible apply WP.ce); case h => (simp (disch := omega) only []; with_reducible rfl)) | ((with_reducible apply WP.bd); case h => (simp (disch := omega) only [e_gR, e_gI, e_aI, e_aL, e_oO, e_pI, e_wI, e_wL, Option.map_some, mS_sL, mR_sL, mI_sL, mS_sI, mR_sI, mL_sI, n_cl, cob_37 hC, cr_levels hC, e_aR, cx_levels hC, cr_lev hC, cr_37_pilot hC, cob_30 hC]; with_reducible rfl)) | rw [nm_eq] | rw [ckZ_n1] | rw [ckZ_n0])
    refine c_rowHead hk (by omega) hs hC hT hr hS hs0 (fun v M2 f2 c2 m2 => ?_)
    refine WP.it (by rw [n_le (by omega) (by omega)]; omega) ?_
    exact c_rowEnd rfl hk (by omega) hs f2 (f2.CI hC) (f2.T hT) c2 (trns_ok hs0 s) m2
  | succ d ih =>
    intro p f M S hp hC hT hr hS hs0 hb hw hnp
    rw [show f + (d + 1) + 1 = (f + d + 1) + 1 from by omega, fn_X0_rowFound]
    unfold fb_X0_rowFound
    repeat (first | ((with_reducible apply WP.ce); case h => (simp (disch := omega) only []; with_reducible rfl)) | ((with_reducible apply WP.bd); case h => (simp (disch := omega) only [e_gR, e_gI, e_aI, e_aL, e_oO, e_pI, e_wI, e_wL, Option.map_some, mS_sL, mR_sL, mI_sL, mS_sI, mR_sI, mL_sI, n_cl, cob_37 hC, cr_levels hC, e_aR, cx_levels hC, cr_lev hC, cr_37_pilot hC, cob_30 hC]; with_reducible rfl)) | rw [nm_eq] | rw [ckZ_n1] | rw [ckZ_n0])
    refine c_rowHead hk (by omega) hs hC hT hr hS hs0 (fun v M2 f2 c2 m2 => ?_)
    have hC2 := f2.CI hC
    refine WP.ie (by rw [n_le (by omega) (by omega)]; omega) ?_
    repeat (first | ((with_reducible apply WP.ce); case h => (simp (disch := omega) only []; with_reducible rfl)) | ((with_reducible apply WP.bd); case h => (simp (disch := omega) only [e_gR, e_gI, e_aI, e_aL, e_oO, e_pI, e_wI, e_wL, Option.map_some, mS_sL, mR_sL, mI_sL, mS_sI, mR_sI, mL_sI, n_cl, cob_37 hC2, cr_choice hC2, e_lnA, cn_choice hC2]; with_reducible rfl)) | rw [nm_eq] | rw [ckZ_n1] | rw [ckZ_n0])
    refine WP.it (by rw [n_sub (by omega), n_lt (by omega) (by omega)]; omega) ?_
    rw [n_add]
    repeat (first | ((with_reducible apply WP.ce); case h => (simp (disch := omega) only []; with_reducible rfl)) | ((with_reducible apply WP.bd); case h => (simp (disch := omega) only [e_gR, e_gI, e_aI, e_aL, e_oO, e_pI, e_wI, e_wL, Option.map_some, mS_sL, mR_sL, mI_sL, mS_sI, mR_sI, mL_sI, n_cl, cob_37 hC2, cr_levels hC2, e_aR, cx_levels hC2, cr_lev hC2]; with_reducible rfl)) | rw [nm_eq] | rw [ckZ_n1] | rw [ckZ_n0])
    obtain ⟨U, hU⟩ : ∃ U, U = trns T r none S s := ⟨_, rfl⟩
    rw [← hU] at c2 m2
    have hsU : SOk U := by rw [hU]; exact trns_ok hs0 s
    have hWU : sW U = sW S := by rw [hU]; exact trns_W s
    have hq' : QOk (46 + 4 * (p + 1)) := Or.inr ⟨by omega, by omega⟩
    have lp : ∀ e i g (N : Mem), i + e = tJ T + 1 → LFr p M N → CC N (46 + 4 * p) T U → (∀ i', i' < i → (if okc S s (ixo i') then dfs T r s d (tide1 T r (some (s, ixo i')) S) else none) = none) → WP (f_X0_rowFound_L86 (fn_X0_rowFound (f + d + 1)) 37 (g + e + 1) (nI s) (nI p) (nI len) (some (46 + 4 * p)) (some (46 + 4 * (p + 1))) (eP (ixo i)) N) (RFe T r s (d + 1) p S M) := by
      intro e
      induction e with
      | zero =>
        intro i g N hi fN cN hno
        have hCN := fN.CI hC
        have t3 : mI N 15 3 = nI (tJ T) := (fN.T hT).1.2.2.2.1
        have ei : i = tJ T + 1 := by omega
        have en : dfs T r s (d + 1) S = none := by rw [dfs, fsm_all (fun j hj => hno j (by omega))]; rfl
        rw [f_X0_rowFound_L86, ei, ixo_s]
        repeat (first | ((with_reducible apply WP.ce); case h => (simp (disch := omega) only []; with_reducible rfl)) | ((with_reducible apply WP.bd); case h => (simp (disch := omega) only [e_gR, e_gI, e_aI, e_aL, e_oO, e_pI, e_wI, e_wL, Option.map_some, mS_sL, mR_sL, mI_sL, mS_sI, mR_sI, mL_sI, n_cl, cob_37 hCN, cr_37_told hCN, told_o (ci_told hCN), t3]; with_reducible rfl)) | rw [nm_eq] | rw [ckZ_n1] | rw [ckZ_n0])
        refine WP.it (by show nI (tJ T) ≤ nI (tJ T); rw [n_le (by omega) (by omega)]; omega) ?_
        exact WP.ret ⟨by rw [en]; rfl, fN, fun l hl => by rw [en] at hl; cases hl⟩
      | succ e ihe =>
        intro i g N hi fN cN hno
        have hCN := fN.CI hC
        have hTN := fN.T hT
        have hrN := fN.ru hr
        have t3 : mI N 15 3 = nI (tJ T) := hTN.1.2.2.2.1
        rw [show g + (e + 1) + 1 = (g + e + 1) + 1 from by omega, f_X0_rowFound_L86]
        repeat (first | ((with_reducible apply WP.ce); case h => (simp (disch := omega) only []; with_reducible rfl)) | ((with_reducible apply WP.bd); case h => (simp (disch := omega) only [e_gR, e_gI, e_aI, e_aL, e_oO, e_pI, e_wI, e_wL, Option.map_some, mS_sL, mR_sL, mI_sL, mS_sI, mR_sI, mL_sI, n_cl, cob_37 hCN, cr_37_told hCN, told_o (ci_told hCN), t3]; with_reducible rfl)) | rw [nm_eq] | rw [ckZ_n1] | rw [ckZ_n0])
        have skip : ∀ N', LFr p M N' → CC N' (46 + 4 * p) T U → (if okc S s (ixo i) then dfs T r s d (tide1 T r (some (s, ixo i)) S) else none) = none → WP (f_X0_rowFound_J202 (fn_X0_rowFound (f + d + 1)) (f_X0_rowFound_L86 (fn_X0_rowFound (f + d + 1)) 37 (g + e + 1)) 37 (nI s) (nI p) (nI len) (some (46 + 4 * p)) (some (46 + 4 * (p + 1))) (eP (ixo i)) N') (RFe T r s (d + 1) p S M) := fun N' fN' cN' hz => by
          unfold f_X0_rowFound_J202
          rw [ixo_add]
          refine ihe (i + 1) g N' (by omega) fN' cN' (fun i' hi' => ?_)
          by_cases c : i' = i
          · rw [c]; exact hz
          · exact hno i' (by omega)
        have rest : okc S s (ixo i) = true → ∀ N3, LFr p M N3 → CC N3 (46 + 4 * p) T U → CC N3 (46 + 4 * (p + 1)) T (trns T r (some (s, ixo i)) S (s + 1)) → PM N3 (46 + 4 * (p + 1)) T (trns T r (some (s, ixo i)) S (s + 1)) → (∃ b : Bool, mI N3 30 7 = bI b) → WP (f_X0_rowFound_J151 (fn_X0_rowFound (f + d + 1)) (f_X0_rowFound_L86 (fn_X0_rowFound (f + d + 1)) 37 (g + e + 1)) 37 (nI s) (nI p) (nI len) (some (46 + 4 * p)) (some (46 + 4 * (p + 1))) (eP (ixo i)) N3) (RFe T r s (d + 1) p S M) := by
          intro hok N3 f3 cp3 c3 m3 b3
          obtain ⟨qt, b3⟩ := b3
          have hC3 := f3.CI hC
          have t4 : mI N3 15 4 = nI (tN T) := (f3.T hT).1.2.2.2.2
          unfold f_X0_rowFound_J151
          repeat (first | ((with_reducible apply WP.ce); case h => (simp (disch := omega) only []; with_reducible rfl)) | ((with_reducible apply WP.bd); case h => (simp (disch := omega) only [e_gR, e_gI, e_aI, e_aL, e_oO, e_pI, e_wI, e_wL, Option.map_some, mS_sL, mR_sL, mI_sL, mS_sI, mR_sI, mL_sI, n_cl, cob_37 hC3, cr_37_pilot hC3, cr_37_told hC3, told_o (ci_told hC3), t4, cob_30 hC3]; with_reducible rfl)) | rw [nm_eq] | rw [ckZ_n1] | rw [ckZ_n0])
          rw [n_add]
          refine WP.cw (c_turns hk hq' (Sc := fun k => trns T r (some (s, ixo i)) S k) (fun k => trns_ok hs0 k) (i := s + 1) (stop := tN T) (by omega) (Nat.le_refl _) (fun k k1 k2 => trn_on (by omega)) hC3 (f3.T hT) (ci_lev hC3 (by omega)) c3 m3 (f3.ru hr) b3) (fun v N4 c => ?_)
          obtain ⟨-, p4, c4, -⟩ := c
          have f4 : LFr p N3 N4 := p4.L ⟨by omega, by omega⟩
          have hC4 := f4.CI hC3
          have e0 : mI N4 (46 + 4 * (p + 1)) 0 = nI (sT (trns T r (some (s, ixo i)) S (tN T))) := c4.1
          have cp4 : CC N4 (46 + 4 * p) T U := cp3.of (fun j hj => p4.2.2.1 _ (by omega) (by omega) (by omega) (by omega) (by omega) (by omega))
          repeat (first | ((with_reducible apply WP.ce); case h => (simp (disch := omega) only []; with_reducible rfl)) | ((with_reducible apply WP.bd); case h => (simp (disch := omega) only [e_gR, e_gI, e_aI, e_aL, e_oO, e_pI, e_wI, e_wL, Option.map_some, mS_sL, mR_sL, mI_sL, mS_sI, mR_sI, mL_sI, n_cl, scene_o (ci_lev hC4 (show p + 1 < 5 by omega)), e0]; with_reducible rfl)) | rw [nm_eq] | rw [ckZ_n1] | rw [ckZ_n0])
          rw [n_add]
          have c5 := CC_nxt c4
          obtain ⟨N5, hN5⟩ : ∃ N5, N5 = sI N4 (46 + 4 * (p + 1)) 0 (nI (sT (trns T r (some (s, ixo i)) S (tN T)) + 1)) := ⟨_, rfl⟩
          rw [← hN5] at c5 ⊢
          have f5 : LFr p N4 N5 := by rw [hN5]; exact (PFw N4 _ _ _).L ⟨by omega, by omega⟩
          have hC5 := f5.CI hC4
          have cp5 : CC N5 (46 + 4 * p) T U := cp4.of (fun j hj => by rw [hN5, sI_row (by omega)])
          obtain ⟨N6, hN6⟩ : ∃ N6, N6 = sI N5 38 p (eP (ixo i)) := ⟨_, rfl⟩
          have f6 : LFr p N5 N6 := by rw [hN6]; exact LFr.w N5 _ (Nat.le_refl p)
          have hC6 := f6.CI hC5
          have fM6 := ((f3.tr f4).tr f5).tr f6
          have c6 : CC N6 (46 + 4 * (p + 1)) T (tide1 T r (some (s, ixo i)) S) := c5.of (fun j hj => by rw [hN6, sI_row (by omega)])
          have cp6 : CC N6 (46 + 4 * p) T U := cp5.of (fun j hj => by rw [hN6, sI_row (by omega)])
          repeat (first | ((with_reducible apply WP.ce); case h => (simp (disch := omega) only []; with_reducible rfl)) | ((with_reducible apply WP.bd); case h => (simp (disch := omega) only [e_gR, e_gI, e_aI, e_aL, e_oO, e_pI, e_wI, e_wL, Option.map_some, mS_sL, mR_sL, mI_sL, mS_sI, mR_sI, mL_sI, n_cl, cob_37 hC5, cr_choice hC5, cx_choice hC5, ← hN6]; with_reducible rfl)) | rw [nm_eq] | rw [ckZ_n1] | rw [ckZ_n0])
          repeat (first | ((with_reducible apply WP.ce); case h => (simp (disch := omega) only []; with_reducible rfl)) | ((with_reducible apply WP.bd); case h => (simp (disch := omega) only [e_gR, e_gI, e_aI, e_aL, e_oO, e_pI, e_wI, e_wL, Option.map_some, mS_sL, mR_sL, mI_sL, mS_sI, mR_sI, mL_sI, n_cl, cob_37 hC6]; with_reducible rfl)) | rw [nm_eq] | rw [ckZ_n1] | rw [ckZ_n0])
          have hi1 : i < tJ T + 1 := by omega
          rw [n_add]
          refine WP.cw (ih (p + 1) f N6 _ (by omega) hC6 (fM6.T hT) (fM6.ru hr) c6 (tide1_ok hs0 (by omega)) (by rw [tide1_T]; omega) (dfs_w hs hw (hnp 0 (by omega)) hi1 hok) (fun k' hk' => dfs_S (hnp (k' + 1) (by omega)) hi1 hok)) (fun v N7 c => ?_)
          obtain ⟨rfl, f7, ch7⟩ := c
          cases hd : dfs T r s d (tide1 T r (some (s, ixo i)) S) with
          | none =>
            refine WP.it rfl ?_
            exact skip N7 (fM6.tr f7.dn) (f7.C (by omega) cp6) (by rw [hok, if_pos rfl]; exact hd)
          | some l =>
            refine WP.ie (show ¬ bI true = 0 by decide) ?_
            rw [ckZ_n1]
            have en : dfs T r s (d + 1) S = some (ixo i :: l) := by
              rw [dfs, fsm_fst (i := i) (y := l) (by rw [hok, if_pos rfl]; exact hd) hno hi1]; rfl
            refine WP.ret ⟨by rw [en]; rfl, fM6.tr f7.dn, fun l' hl i' hi' => ?_⟩
            rw [en] at hl
            cases hl
            cases i' with
            | zero =>
              show mI N7 38 p = eP (ixo i)
              rw [f7.2.2.2.2 p (by omega), hN6, mI_sI, if_pos ⟨rfl, rfl⟩]
            | succ i' =>
              rw [show p + (i' + 1) = p + 1 + i' from by omega]
              exact ch7 l hd i' (by omega)
        have go : okc S s (ixo i) = true → WP (f_X0_rowFound_J118 (fn_X0_rowFound (f + d + 1)) (f_X0_rowFound_L86 (fn_X0_rowFound (f + d + 1)) 37 (g + e + 1)) 37 (nI s) (nI p) (nI len) (some (46 + 4 * p)) (some (46 + 4 * (p + 1))) (eP (ixo i)) N) (RFe T r s (d + 1) p S M) := by
          intro hok
          unfold f_X0_rowFound_J118
          repeat (first | ((with_reducible apply WP.ce); case h => (simp (disch := omega) only []; with_reducible rfl)) | ((with_reducible apply WP.bd); case h => (simp (disch := omega) only [e_gR, e_gI, e_aI, e_aL, e_oO, e_pI, e_wI, e_wL, Option.map_some, mS_sL, mR_sL, mI_sL, mS_sI, mR_sI, mL_sI, n_cl, scene_o (ci_lev hCN (show p + 1 < 5 by omega))]; with_reducible rfl)) | rw [nm_eq] | rw [ckZ_n1] | rw [ckZ_n0])
          refine WP.cw (c_copy hk (ci_lev hCN (show p < 5 by omega)) (ci_lev hCN (show p + 1 < 5 by omega)) (by omega) cN) (fun _ N1 c => ?_)
          obtain ⟨s1, c1⟩ := c
          have f1 : LFr p N N1 := s1.L ⟨by omega, by omega⟩
          have hC1 := f1.CI hCN
          have hT1 := f1.T hTN
          have cp1 : CC N1 (46 + 4 * p) T U := cN.of (fun j hj => s1.2.2.1 _ (by omega) (by omega) (by omega) (by omega))
          repeat (first | ((with_reducible apply WP.ce); case h => (simp (disch := omega) only []; with_reducible rfl)) | ((with_reducible apply WP.bd); case h => (simp (disch := omega) only [e_gR, e_gI, e_aI, e_aL, e_oO, e_pI, e_wI, e_wL, Option.map_some, mS_sL, mR_sL, mI_sL, mS_sI, mR_sI, mL_sI, n_cl, cob_37 hC1, cr_37_pilot hC1, cob_30 hC1]; with_reducible rfl)) | rw [nm_eq] | rw [ckZ_n1] | rw [ckZ_n0])
          refine WP.cw (c_meet hC1 hT1 hk hq' (ci_lev hC1 (by omega)) c1 hsU) (fun _ N2 c => ?_)
          obtain ⟨x2, m2', b2⟩ := c
          have f2' : LFr p N1 N2 := x2.L
          have hC2' := f2'.CI hC1
          have c2' := x2.C hq' c1
          have cp2 : CC N2 (46 + 4 * p) T U := x2.C (Or.inr ⟨by omega, by omega⟩) cp1
          have fM2 := (fN.tr f1).tr f2'
          have es := trns_s1 (T := T) (r := r) (c := ixo i) hw
          rw [← hU] at es
          cases i with
          | zero =>
            refine WP.it rfl ?_
            have es : trns T r (some (s, ixo 0)) S (s + 1) = U := es
            exact rest hok N2 fM2 cp2 (by rw [es]; exact c2') (by rw [es]; exact m2') ⟨true, b2⟩
          | succ j =>
            rw [ixo_s] at es
            have es : trns T r (some (s, some j)) S (s + 1) = telS T U s j := es
            refine WP.ie (by rw [ixo_s]; exact nm1 (a := j) (by omega)) ?_
            have a1 := c_hears hC2' (fM2.T hT) hk hq' (ci_lev hC2' (show p + 1 < 5 by omega)) c2' hsU m2' (s := s) (j := j) hs (by omega)
            have ej : eP (ixo (j + 1)) = nI j := by rw [ixo_s]; rfl
            rw [ej]
            repeat (first | ((with_reducible apply WP.ce); case h => (simp (disch := omega) only [a1]; with_reducible rfl)) | ((with_reducible apply WP.bd); case h => (simp (disch := omega) only [e_gR, e_gI, e_aI, e_aL, e_oO, e_pI, e_wI, e_wL, Option.map_some, mS_sL, mR_sL, mI_sL, mS_sI, mR_sI, mL_sI, n_cl, cob_37 hC2', cr_37_pilot hC2', cob_30 hC2']; with_reducible rfl)) | rw [nm_eq] | rw [ckZ_n1] | rw [ckZ_n0])
            rw [← ej]
            have pf := hrM_PF N2 (46 + 4 * (p + 1)) T U s j
            have hp := hrM_P hk hq' m2' (s := s) (j := j) (by omega)
            refine rest hok _ (fM2.tr (pf.L ⟨by omega, by omega⟩)) (cp2.of (fun x hx => pf.2.2.1 _ (by omega) (by omega) (by omega) (by omega) (by omega) (by omega))) (by rw [ixo_s, es]; exact hrM_C hq' c2' s j) (by rw [ixo_s, es]; exact hp.1) ⟨false, hp.2.1⟩
        cases i with
        | zero =>
          refine WP.ie (by show ¬ nI (tJ T) ≤ -1; rw [Int32.le_iff_toInt_le, nI_toInt (by omega), show (-1 : Int32).toInt = -1 from (by decide)]; omega) ?_
          exact WP.it rfl (go rfl)
        | succ j =>
          have ej : eP (ixo (j + 1)) = nI j := by rw [ixo_s]; rfl
          refine WP.ie (by rw [ej, n_le (by omega) (by omega)]; omega) ?_
          refine WP.ie (by rw [ej]; exact nm1 (by omega)) ?_
          have a1 := c_isKnown hk (ci_lev hCN (show p < 5 by omega)) cN hsU (s := s) (j := j) hs (by omega)
          rw [hWU] at a1
          have eo : okc S s (ixo (j + 1)) = (sW S s).testBit j := by rw [ixo_s]; rfl
          rw [ej]
          repeat (first | ((with_reducible apply WP.ce); case h => (simp (disch := omega) only [a1]; with_reducible rfl)) | ((with_reducible apply WP.bd); case h => (simp (disch := omega) only [e_gR, e_gI, e_aI, e_aL, e_oO, e_pI, e_wI, e_wL, Option.map_some, mS_sL, mR_sL, mI_sL, mS_sI, mR_sI, mL_sI, n_cl, scene_o (ci_lev hCN (show p < 5 by omega))]; with_reducible rfl)) | rw [nm_eq] | rw [ckZ_n1] | rw [ckZ_n0])
          rw [← ej]
          cases hb2 : (sW S s).testBit j with
          | false => exact WP.it rfl (skip N fN cN (by rw [eo, hb2, if_neg (by decide)]))
          | true => exact WP.ie (show ¬ bI true = 0 by decide) (go (by rw [eo]; exact hb2))
    obtain ⟨g, hg⟩ := FUd (tJ T + 1) (by omega)
    rw [hg]
    exact lp (tJ T + 1) 0 g M2 (by omega) f2 c2 (fun i' hi' => absurd hi' (Nat.not_lt_zero i'))
end ROWH
