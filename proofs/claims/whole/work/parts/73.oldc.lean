/-! THE CLASS: old -/
theorem ctb_mono {p q : Nat → Bool} : ∀ {n : Nat}, (∀ i, i < n → p i = true → q i = true) → ctb p n ≤ ctb q n
  | 0, _ => Nat.le_refl 0
  | n + 1, h => by
    have h1 := ctb_mono (p := p) (q := q) (n := n) (fun i hi => h i (by omega))
    have h2 := h n (by omega)
    rw [ctb, ctb]
    cases hp : p n with
    | false => rw [if_neg (by decide)]; omega
    | true => rw [if_pos rfl, h2 hp, if_pos rfl]; omega
theorem trn_wm {T : TD} {r : Option RD} {ov : Option (Nat × Option Nat)} {S : SC} {s i : Nat} (h : wts (trn T r ov S s) i = true) : wts S i = true := by
  unfold trn at h
  cases ht : tld T r ov S s with
  | none => rw [ht] at h; exact h
  | some j =>
    rw [ht] at h
    have h' : ((if isN T S j then fset (sP S) s (some (sT S)) else sP S) i).isNone = true := h
    by_cases hn : isN T S j = true
    · rw [if_pos hn] at h'
      by_cases e : i = s
      · subst e; rw [fset_s] at h'; cases h'
      · rw [fset_o _ _ e] at h'; exact h'
    · rw [if_neg hn] at h'; exact h'
theorem trns_wm {T : TD} {r : Option RD} {ov : Option (Nat × Option Nat)} {S : SC} {i : Nat} : ∀ n, wts (trns T r ov S n) i = true → wts S i = true
  | 0, h => h
  | n + 1, h => trns_wm n (trn_wm h)
theorem tides_wm {T : TD} {r : Option RD} {S : SC} {i : Nat} : ∀ n, wts (tides T r S n) i = true → wts S i = true
  | 0, h => h
  | n + 1, h => tides_wm n (trns_wm (tN T) h)
theorem wtc_mono (T : TD) (r : Option RD) (S : SC) (n : Nat) : wtc T (tides T r S n) ≤ wtc T S := ctb_mono (fun i _ h => tides_wm n h)
theorem psd_few {T : TD} {r : Option RD} {S : SC} {k n many : Nat} (hk : k ≤ n) (h : k = n ∨ wtc T (tides T r S k) < (if 1 < tN T - many then tN T - many else 1)) : (tN T - wtc T (adv (tides T r S k) (n - k)) = many) = (psd T (tides T r S n) = many) := by
  rw [wtc_adv]
  unfold psd
  rcases h with h | h
  · rw [h]
  · have e : n = k + (n - k) := by omega
    have h1 := wtc_mono T r (tides T r S k) (n - k)
    rw [← tides_add, ← e] at h1
    have h2 := wtc_le T (tides T r S k)
    by_cases hz : wtc T (tides T r S k) = 0
    · have : wtc T (tides T r S n) = 0 := by omega
      rw [hz, this]
    · have h3 : wtc T (tides T r S k) < tN T - many := by
        by_cases hc : 1 < tN T - many
        · rw [if_pos hc] at h; exact h
        · rw [if_neg hc] at h; omega
      rw [eq_iff_iff]
      constructor <;> intro z <;> omega
theorem few_eq {N many : Nat} (hN : N ≤ 5) (hm : many ≤ 5) : (if nI 1 < nI N - nI many then nI N - nI many else nI 1) = nI (if 1 < N - many then N - many else 1) := by
  have h1 : (nI N - nI many).toInt = (N : Int) - many := pk_sub_toInt (by omega) (by omega)
  have h2 : (nI 1).toInt = 1 := by decide
  by_cases hc : 1 < N - many
  · rw [if_pos hc, if_pos (by rw [fa_lt, h1, h2]; omega), n_sub (by omega)]
  · rw [if_neg hc, if_neg (by rw [fa_lt, h1, h2]; omega)]
theorem m1_and (x : Int32) : (-1 : Int32) &&& x = x := by
  have h : (-1 : Int32) = ~~~(0 : Int32) := by decide
  rw [h]
  apply Int32.toBitVec_inj.mp
  simp
theorem c_isRule {M : Mem} {T : TD} {S : SC} {c : Nat} {W : Nat → RD} {fo : Option Nat} (h : CE M T S c W fo) (x : Int32) : f_X9_isRuleOrNone 0 x M = some (bI (rlB x c), M) := by
  obtain ⟨⟨hC, hT, hS, hw, hf⟩, hk, hs, h9, hfo⟩ := h
  have h6 := hw.1
  have hm : (-1 : Int32).toInt = -1 := by decide
  have h0 : (0 : Int32).toInt = 0 := by decide
  unfold f_X9_isRuleOrNone f_X9_isRuleOrNone_J17 f_X9_isRuleOrNone_J21 f_X9_isRuleOrNone_J22
  by_cases e1 : x = -1
  · have : rlB x c = true := by unfold rlB; rw [e1, hm]; exact decide_eq_true (by omega)
    rw [if_pos e1, this]; rfl
  · have e1' : x.toInt ≠ -1 := fun z => e1 (by rw [fa_eq, z, hm])
    rw [if_neg e1]
    by_cases e2 : x < 0
    · have e2' : x.toInt < 0 := by rw [fa_lt, h0] at e2; exact e2
      have : rlB x c = false := by unfold rlB; exact decide_eq_false (by omega)
      rw [if_pos e2, this]; rfl
    · have e2' : ¬ x.toInt < 0 := by rw [fa_lt, h0] at e2; exact e2
      rw [if_neg e2]
      repeat (first | refine (cl_ok (by (simp only [m1_and]; with_reducible rfl)) _).trans ?_ | refine (bind_ok (by (simp (disch := omega) only [e_gR, e_gI, e_aI, e_aL, e_oO, e_pI, e_wI, e_wL, Option.map_some, mS_sL, mR_sL, mI_sL, mS_sI, mR_sI, mL_sI, n_cl, cob_0 hC, hw.2.1]; with_reducible rfl)) _).trans ?_ | rw [nm_eq])
      have e3 : (nI c ≤ x) = ((c : Int) ≤ x.toInt) := by rw [eq_iff_iff, fa_le, nI_toInt (by omega)]
      by_cases e4 : (c : Int) ≤ x.toInt
      · have : rlB x c = false := by unfold rlB; exact decide_eq_false (by omega)
        rw [if_pos (by rw [e3]; exact e4), this]; rfl
      · have : rlB x c = true := by unfold rlB; exact decide_eq_true (by omega)
        rw [if_neg (by rw [e3]; exact e4), this]; rfl
def OLm (M : Mem) (st : Nat × Nat × Nat) : Prop := mI M 37 0 = nI st.1 ∧ mI M 37 1 = (if st.1 = 0 then -1 else nI st.2.1) ∧ mI M 37 2 = (if st.1 = 0 then -1 else nI st.2.2)
theorem OLm.of {M M' : Mem} {st : Nat × Nat × Nat} (h : OLm M st) (e : mI M' 37 = mI M 37) : OLm M' st := by unfold OLm; rw [e]; exact h
theorem c_oldI {M0 : Mem} {T : TD} {S : SC} {r : Option RD} (h : CA M0 T S r) {n many set : Nat} (hn : n ≤ 60) (hm : many ≤ 5) (hset : set < 256) {st : Nat × Nat × Nat} (hst : st.1 ≤ set) {k41 : Int32 → Int32 → Int32 → Int32 → Mem → Option (Unit × Mem)} {Q : Unit → Mem → Prop}
    (K : ∀ M', AG M0 M' → OLm M' (olN T r n many st set) → WP (k41 (nI n) (nI many) (nI (if 1 < tN T - many then tN T - many else 1)) (nI (set + 1)) M') Q) :
    ∀ d j f (M : Mem), j + d = tJ T → AG M0 M → OLm M st → mI M 39 0 = nI 0 → (∀ i, i < j → mI M 40 i = eH (-100000) (sH (oldS T set) i)) → (∀ s, s < tN T → mI M 41 s = nI (tW T s) ∧ mI M 42 s = -1) →
    WP (f_X0_findOldSets_L69 k41 37 (f + d + 1) (nI n) (nI many) (nI (if 1 < tN T - many then tN T - many else 1)) (nI set) (nI j) M) Q := by
  intro d
  induction d with
  | zero =>
    intro j f M hj g ho h0 hh hw
    obtain ⟨⟨hC, hT, hS, hr⟩, hk, hs, h9⟩ := h.of g
    have h1 := hk.1.2.2.1
    have h5 := hk.1.2.2.2
    have hj : j = tJ T := by omega
    subst hj
    have hS9 : CC M 39 T (oldS T set) := ⟨h0, hh, hw⟩
    have hfw : (if 1 < tN T - many then tN T - many else 1) ≤ 100 := by split <;> omega
    have z0 : sT (oldS T set) = 0 := rfl
    rw [f_X0_findOldSets_L69]
    repeat (first | ((with_reducible apply WP.ce); case h => (simp (disch := omega) only []; with_reducible rfl)) | ((with_reducible apply WP.bd); case h => (simp (disch := omega) only [e_gR, e_gI, e_aI, e_aL, e_oO, e_pI, e_wI, e_wL, Option.map_some, mS_sL, mR_sL, mI_sL, mS_sI, mR_sI, mL_sI, n_cl, cob_37 hC, cr_37_told hC, told_o (ci_told hC), hT.1.2.2.2.1]; with_reducible rfl)) | rw [nm_eq] | rw [ckZ_n1] | rw [ckZ_n0])
    refine WP.it (by rw [n_le (by omega) (by omega)]; omega) ?_
    repeat (first | ((with_reducible apply WP.ce); case h => (simp (disch := omega) only []; with_reducible rfl)) | ((with_reducible apply WP.bd); case h => (simp (disch := omega) only [e_gR, e_gI, e_aI, e_aL, e_oO, e_pI, e_wI, e_wL, Option.map_some, mS_sL, mR_sL, mI_sL, mS_sI, mR_sI, mL_sI, n_cl, cob_37 hC, cr_37_pilot hC, cr_37_work hC, cob_30 hC]; with_reducible rfl)) | rw [nm_eq] | rw [ckZ_n1] | rw [ckZ_n0])
    refine WP.cw (c_goOn hC hT hk QOk39 (ci_work hC) hS9 (oldS_ok hk set) hr (n := n) (by omega) (by omega) hfw) (fun _ M1 c => ?_)
    obtain ⟨c1, k, k1, k2, k3⟩ := c
    have g1 := g.tr (c1.AG (by omega))
    obtain ⟨⟨hC1, hT1, -⟩, -⟩ := h.of g1
    have ho1 : OLm M1 st := ho.of (c1.2.2.1 37 (by omega) (by omega) (by omega) (by omega) (by omega) (by omega))
    have hsk : SOk (adv (tides T r (oldS T set) k) (n - k)) := by
      have := tides_ok (T := T) (r := r) (oldS_ok hk set) k (by omega)
      have ht := tides_T T r (oldS T set) k
      refine ⟨by show sT (tides T r (oldS T set) k) + (n - k) ≤ _; omega, fun j h hh => ?_, this.2.2.1, fun s t ht2 => ?_⟩
      · have := this.2.1 j h hh
        show -1 ≤ h ∧ h ≤ ((sT (tides T r (oldS T set) k) + (n - k) : Nat) : Int)
        omega
      · have := this.2.2.2 s t ht2
        show t ≤ sT (tides T r (oldS T set) k) + (n - k)
        omega
    have a1 := c_passed (ci_told hC1) hT1 hk (ci_work hC1) k2 hsk
    have ps := psd_few (many := many) k1 k3
    repeat (first | ((with_reducible apply WP.ce); case h => (simp (disch := omega) only [a1]; with_reducible rfl)) | ((with_reducible apply WP.bd); case h => (simp (disch := omega) only [e_gR, e_gI, e_aI, e_aL, e_oO, e_pI, e_wI, e_wL, Option.map_some, mS_sL, mR_sL, mI_sL, mS_sI, mR_sI, mL_sI, n_cl, cob_37 hC1, cr_37_told hC1, cr_37_work hC1, told_o (ci_told hC1)]; with_reducible rfl)) | rw [nm_eq] | rw [ckZ_n1] | rw [ckZ_n0])
    unfold f_X0_findOldSets_J183
    rw [n_add]
    by_cases c2 : tN T - wtc T (adv (tides T r (oldS T set) k) (n - k)) = many
    · have c3 : psd T (tides T r (oldS T set) n) = many := by rw [← ps]; exact c2
      refine WP.it (by rw [c2]) ?_
      have wr : ∀ v, v = (if st.1 = 0 then nI set else nI st.2.1) → WP (f_X0_findOldSets_J159 k41 37 (nI n) (nI many) (nI (if 1 < tN T - many then tN T - many else 1)) (nI set) v (some 37) M1) Q := by
        intro v hv
        obtain ⟨M2, hM2⟩ : ∃ M2, M2 = sI M1 37 1 v := ⟨_, rfl⟩
        have e2 : mI M2 37 2 = (if st.1 = 0 then -1 else nI st.2.2) := by rw [hM2, mI_sI, if_neg (by omega)]; exact ho1.2.2
        have e0 : mI M2 37 0 = nI st.1 := by rw [hM2, mI_sI, if_neg (by omega)]; exact ho1.1
        have e1 : mI M2 37 1 = v := by rw [hM2, mI_sI, if_pos ⟨rfl, rfl⟩]
        have g2 : AG M0 M2 := g1.tr (by rw [hM2]; exact AFw M1 (by omega) _ _)
        obtain ⟨⟨hC2, -⟩, -⟩ := h.of g2
        obtain ⟨M3, hM3⟩ : ∃ M3, M3 = sI M2 37 2 ((if st.1 = 0 then -1 else nI st.2.2) &&& nI set) := ⟨_, rfl⟩
        have g3 : AG M0 M3 := g2.tr (by rw [hM3]; exact AFw M2 (by omega) _ _)
        obtain ⟨⟨hC3, -⟩, -⟩ := h.of g3
        have e03 : mI M3 37 0 = nI st.1 := by rw [hM3, mI_sI, if_neg (by omega)]; exact e0
        unfold f_X0_findOldSets_J159 f_X0_findOldSets_J183
        repeat (first | ((with_reducible apply WP.ce); case h => (simp (disch := omega) only []; with_reducible rfl)) | ((with_reducible apply WP.bd); case h => (simp (disch := omega) only [e_gR, e_gI, e_aI, e_aL, e_oO, e_pI, e_wI, e_wL, Option.map_some, mS_sL, mR_sL, mI_sL, mS_sI, mR_sI, mL_sI, n_cl, cob_37 hC1, ← hM2]; with_reducible rfl)) | rw [nm_eq] | rw [ckZ_n1] | rw [ckZ_n0])
        repeat (first | ((with_reducible apply WP.ce); case h => (simp (disch := omega) only []; with_reducible rfl)) | ((with_reducible apply WP.bd); case h => (simp (disch := omega) only [e_gR, e_gI, e_aI, e_aL, e_oO, e_pI, e_wI, e_wL, Option.map_some, mS_sL, mR_sL, mI_sL, mS_sI, mR_sI, mL_sI, n_cl, cob_37 hC2, e2, ← hM3]; with_reducible rfl)) | rw [nm_eq] | rw [ckZ_n1] | rw [ckZ_n0])
        repeat (first | ((with_reducible apply WP.ce); case h => (simp (disch := omega) only []; with_reducible rfl)) | ((with_reducible apply WP.bd); case h => (simp (disch := omega) only [e_gR, e_gI, e_aI, e_aL, e_oO, e_pI, e_wI, e_wL, Option.map_some, mS_sL, mR_sL, mI_sL, mS_sI, mR_sI, mL_sI, n_cl, cob_37 hC3, e03, n_add]; with_reducible rfl)) | rw [nm_eq] | rw [ckZ_n1] | rw [ckZ_n0])
        rw [n_add]
        refine K _ (g3.tr (AFw M3 (by omega) _ _)) ?_
        have r0 : mI (sI M3 37 0 (nI (st.1 + 1))) 37 0 = nI (st.1 + 1) := by rw [mI_sI, if_pos ⟨rfl, rfl⟩]
        have r1 : mI (sI M3 37 0 (nI (st.1 + 1))) 37 1 = v := by rw [mI_sI, if_neg (by omega), hM3, mI_sI, if_neg (by omega)]; exact e1
        have r2 : mI (sI M3 37 0 (nI (st.1 + 1))) 37 2 = (if st.1 = 0 then -1 else nI st.2.2) &&& nI set := by rw [mI_sI, if_neg (by omega), hM3, mI_sI, if_pos ⟨rfl, rfl⟩]
        unfold OLm
        rw [r0, r1, r2, hv]
        by_cases c4 : st.1 = 0
        · have eo : olN T r n many st set = (st.1 + 1, set, set) := by unfold olN; rw [if_pos c3, if_pos c4, if_pos c4]
          rw [eo, if_pos c4, if_pos c4, m1_and]
          refine ⟨rfl, ?_, ?_⟩
          · show nI set = if st.1 + 1 = 0 then -1 else nI set
            rw [if_neg (by omega)]
          · show nI set = if st.1 + 1 = 0 then -1 else nI set
            rw [if_neg (by omega)]
        · have eo : olN T r n many st set = (st.1 + 1, st.2.1, st.2.2 &&& set) := by unfold olN; rw [if_pos c3, if_neg c4, if_neg c4]
          rw [eo, if_neg c4, if_neg c4, n_and]
          refine ⟨rfl, ?_, ?_⟩
          · show nI st.2.1 = if st.1 + 1 = 0 then -1 else nI st.2.1
            rw [if_neg (by omega)]
          · show nI (st.2.2 &&& set) = if st.1 + 1 = 0 then -1 else nI (st.2.2 &&& set)
            rw [if_neg (by omega)]
      repeat (first | ((with_reducible apply WP.ce); case h => (simp (disch := omega) only []; with_reducible rfl)) | ((with_reducible apply WP.bd); case h => (simp (disch := omega) only [e_gR, e_gI, e_aI, e_aL, e_oO, e_pI, e_wI, e_wL, Option.map_some, mS_sL, mR_sL, mI_sL, mS_sI, mR_sI, mL_sI, n_cl, cob_37 hC1, ho1.1]; with_reducible rfl)) | rw [nm_eq] | rw [ckZ_n1] | rw [ckZ_n0])
      by_cases c4 : st.1 = 0
      · refine WP.it (by rw [c4]; rfl) (wr _ (by rw [if_pos c4]))
      · refine WP.ie (by rw [nIz (by omega)]; exact c4) ?_
        repeat (first | ((with_reducible apply WP.ce); case h => (simp (disch := omega) only []; with_reducible rfl)) | ((with_reducible apply WP.bd); case h => (simp (disch := omega) only [e_gR, e_gI, e_aI, e_aL, e_oO, e_pI, e_wI, e_wL, Option.map_some, mS_sL, mR_sL, mI_sL, mS_sI, mR_sI, mL_sI, n_cl, cob_37 hC1, ho1.2.1]; with_reducible rfl)) | rw [nm_eq] | rw [ckZ_n1] | rw [ckZ_n0])
        refine wr _ ?_
        rw [if_neg c4, if_neg c4]
    · have c3 : ¬ psd T (tides T r (oldS T set) n) = many := by rw [← ps]; exact c2
      refine WP.ie (by rw [n_eq (by omega) (by omega)]; exact c2) ?_
      refine K M1 g1 ?_
      unfold olN
      rw [if_neg c3]
      exact ho1
  | succ d ih =>
    intro j f M hj g ho h0 hh hw
    obtain ⟨⟨hC, hT, hS, hr⟩, hk, hs, h9⟩ := h.of g
    have h1 := hk.1.2.2.1
    rw [show f + (d + 1) + 1 = (f + d + 1) + 1 from by omega, f_X0_findOldSets_L69]
    repeat (first | ((with_reducible apply WP.ce); case h => (simp (disch := omega) only []; with_reducible rfl)) | ((with_reducible apply WP.bd); case h => (simp (disch := omega) only [e_gR, e_gI, e_aI, e_aL, e_oO, e_pI, e_wI, e_wL, Option.map_some, mS_sL, mR_sL, mI_sL, mS_sI, mR_sI, mL_sI, n_cl, cob_37 hC, cr_37_told hC, told_o (ci_told hC), hT.1.2.2.2.1]; with_reducible rfl)) | rw [nm_eq] | rw [ckZ_n1] | rw [ckZ_n0])
    refine WP.ie (by rw [n_le (by omega) (by omega)]; omega) ?_
    repeat (first | ((with_reducible apply WP.ce); case h => (simp (disch := omega) only []; with_reducible rfl)) | ((with_reducible apply WP.bd); case h => (simp (disch := omega) only [e_gR, e_gI, e_aI, e_aL, e_oO, e_pI, e_wI, e_wL, Option.map_some, mS_sL, mR_sL, mI_sL, mS_sI, mR_sI, mL_sI, n_cl, cob_37 hC, cr_37_work hC, scene_o (ci_work hC), scene_r_heard (ci_work hC), Nat.reduceAdd]; with_reducible rfl)) | rw [nm_eq] | rw [ckZ_n1] | rw [ckZ_n0])
    rw [n_bit (by omega) (by omega)]
    have on : ∀ v, v = eH (-100000) (sH (oldS T set) j) → WP (f_X0_findOldSets_J106 k41 (f_X0_findOldSets_L69 k41 37 (f + d + 1)) 37 (nI n) (nI many) (nI (if 1 < tN T - many then tN T - many else 1)) (nI set) (nI j) v (nI j) (some 40) M) Q := by
      intro v hv2
      unfold f_X0_findOldSets_J106
      have x1 : ixS (mS M) 0 (some 40) (nI j) = some 40 := scene_x_heard (ci_work hC) (by omega)
      repeat (first | ((with_reducible apply WP.ce); case h => (simp (disch := omega) only []; with_reducible rfl)) | ((with_reducible apply WP.bd); case h => (simp (disch := omega) only [e_gR, e_gI, e_aI, e_aL, e_oO, e_pI, e_wI, e_wL, Option.map_some, mS_sL, mR_sL, mI_sL, mS_sI, mR_sI, mL_sI, n_cl, x1]; with_reducible rfl)) | rw [nm_eq] | rw [ckZ_n1] | rw [ckZ_n0])
      rw [n_add]
      refine ih (j + 1) f _ (by omega) (g.tr (AFw M (by omega) _ _)) (ho.of (sI_row (by omega))) ?_ (fun i hi => ?_) ?_
      · rw [sI_row (by omega)]; exact h0
      · rw [mI_sI_s]
        by_cases e : i = j
        · subst e; rw [upd_s]; exact hv2
        · rw [upd_o _ _ e]; exact hh i (by omega)
      · rw [sI_row (by omega), sI_row (by omega)]; exact hw
    cases e : set.testBit j with
    | false =>
      refine WP.it (by decide) (on _ ?_)
      show _ = eH (-100000) (if set.testBit j then some (-1) else none)
      rw [e]; rfl
    | true =>
      refine WP.ie (by decide) (on _ ?_)
      show _ = eH (-100000) (if set.testBit j then some (-1) else none)
      rw [e]; rfl
theorem c_oldL {M0 : Mem} {T : TD} {S : SC} {r : Option RD} (h : CA M0 T S r) {n many : Nat} (hn : n ≤ 60) (hm : many ≤ 5) :
    ∀ d set f (M : Mem) (st : Nat × Nat × Nat), set + d = 2 ^ tJ T → AG M0 M → OLm M st → st.1 ≤ set →
    WP (f_X0_findOldSets_L41 37 (f + d + 1) (nI n) (nI many) (nI (if 1 < tN T - many then tN T - many else 1)) (nI set) M) (fun _ M' => AG M0 M' ∧ OLm M' (olF T r n many d set st)) := by
  intro d
  induction d with
  | zero =>
    intro set f M st hs g ho hst
    obtain ⟨⟨hC, hT, hS, hr⟩, hk, -⟩ := h.of g
    have h8 := pow8 hk.1.2.2.1
    have h1 := hk.1.2.2.1
    rw [f_X0_findOldSets_L41]
    repeat (first | ((with_reducible apply WP.ce); case h => (simp (disch := omega) only []; with_reducible rfl)) | ((with_reducible apply WP.bd); case h => (simp (disch := omega) only [e_gR, e_gI, e_aI, e_aL, e_oO, e_pI, e_wI, e_wL, Option.map_some, mS_sL, mR_sL, mI_sL, mS_sI, mR_sI, mL_sI, n_cl, cob_37 hC, cr_37_told hC, told_o (ci_told hC), hT.1.2.2.2.1]; with_reducible rfl)) | rw [nm_eq] | rw [ckZ_n1] | rw [ckZ_n0])
    exact WP.it (by rw [n_shl (by omega), n_le (by omega) (by omega)]; omega) (WP.ret ⟨g, ho⟩)
  | succ d ih =>
    intro set f M st hs g ho hst
    obtain ⟨⟨hC, hT, hS, hr⟩, hk, -⟩ := h.of g
    have h8 := pow8 hk.1.2.2.1
    have h1 := hk.1.2.2.1
    rw [show f + (d + 1) + 1 = (f + d + 1) + 1 from by omega, f_X0_findOldSets_L41]
    repeat (first | ((with_reducible apply WP.ce); case h => (simp (disch := omega) only []; with_reducible rfl)) | ((with_reducible apply WP.bd); case h => (simp (disch := omega) only [e_gR, e_gI, e_aI, e_aL, e_oO, e_pI, e_wI, e_wL, Option.map_some, mS_sL, mR_sL, mI_sL, mS_sI, mR_sI, mL_sI, n_cl, cob_37 hC, cr_37_told hC, told_o (ci_told hC), hT.1.2.2.2.1]; with_reducible rfl)) | rw [nm_eq] | rw [ckZ_n1] | rw [ckZ_n0])
    refine WP.ie (by rw [n_shl (by omega), n_le (by omega) (by omega)]; omega) ?_
    repeat (first | ((with_reducible apply WP.ce); case h => (simp (disch := omega) only []; with_reducible rfl)) | ((with_reducible apply WP.bd); case h => (simp (disch := omega) only [e_gR, e_gI, e_aI, e_aL, e_oO, e_pI, e_wI, e_wL, Option.map_some, mS_sL, mR_sL, mI_sL, mS_sI, mR_sI, mL_sI, n_cl, cob_37 hC, cr_37_work hC, cr_37_told hC, scene_o (ci_work hC)]; with_reducible rfl)) | rw [nm_eq] | rw [ckZ_n1] | rw [ckZ_n0])
    refine WP.cw (c_begin hk (ci_told hC) hT (ci_work hC) (by omega)) (fun _ M1 c => ?_)
    have g1 := g.tr (c.1.AG (by omega))
    obtain ⟨f2, hf2⟩ := FUd (tJ T) (by omega)
    rw [hf2]
    refine c_oldI h hn hm (set := set) (by omega) hst (fun M' g' ho' => ?_) (tJ T) 0 f2 M1 (by omega) g1 (ho.of (c.1.2.2.1 37 (by omega) (by omega) (by omega) (by omega))) c.2.1 (fun i hi => absurd hi (Nat.not_lt_zero i)) c.2.2.2
    rw [olF]
    refine ih (set + 1) f M' _ (by omega) g' ho' ?_
    unfold olN
    split
    · show st.1 + 1 ≤ set + 1; omega
    · omega
theorem y_old {M : Mem} {T : TD} {S : SC} {c : Nat} {W : Nat → RD} {fo : Option Nat} (h : CE M T S c W fo) (l1 l2 l3 l4 : Int32) : WP (f_X9_old 0 l1 l2 l3 l4 M) (fun v M' => v = q_old T c W l1 l2 l3 l4 ∧ AF M M') := by
  have h0 := h
  obtain ⟨⟨hC, hT, hS, hw, hf⟩, hk, hs, h9, hfo⟩ := h
  have hc6 := hw.1
  have h8 := pow8 hk.1.2.2.1
  unfold f_X9_old f_X9_old_J50 f_X9_old_J108 f_X9_old_J130
  repeat (first | ((with_reducible apply WP.ce); case h => (simp (disch := omega) only []; with_reducible rfl)) | ((with_reducible apply WP.bd); case h => (simp (disch := omega) only [e_gR, e_gI, e_aI, e_aL, e_oO, e_pI, e_wI, e_wL, Option.map_some, mS_sL, mR_sL, mI_sL, mS_sI, mR_sI, mL_sI, n_cl, cob_0 hC, cr_0_book hC, book_o (ci_book hC), book_r_told (ci_book hC), book_r_scene (ci_book hC), told_o (ci_told hC), scene_o (ci_scene hC), Nat.reduceAdd, c_there hT]; with_reducible rfl)) | rw [nm_eq] | rw [ckZ_n1] | rw [ckZ_n0])
  refine WP.gd (fun g1 => WP.ret ⟨by unfold q_old; rw [g1]; rfl, AF.rf M⟩) (fun g1 => ?_)
  repeat (first | ((with_reducible apply WP.ce); case h => (simp (disch := omega) only [c_isRule h0]; with_reducible rfl)) | ((with_reducible apply WP.bd); case h => (simp (disch := omega) only [e_gR, e_gI, e_aI, e_aL, e_oO, e_pI, e_wI, e_wL, Option.map_some, mS_sL, mR_sL, mI_sL, mS_sI, mR_sI, mL_sI, n_cl, cob_0 hC]; with_reducible rfl)) | rw [nm_eq] | rw [ckZ_n1] | rw [ckZ_n0])
  refine WP.gd (fun g2 => WP.ret ⟨by unfold q_old; rw [g1, g2]; rfl, AF.rf M⟩) (fun g2 => ?_)
  repeat (first | ((with_reducible apply WP.ce); case h => (simp (disch := omega) only [c_isWithin]; with_reducible rfl)) | ((with_reducible apply WP.bd); case h => (simp (disch := omega) only [e_gR, e_gI, e_aI, e_aL, e_oO, e_pI, e_wI, e_wL, Option.map_some, mS_sL, mR_sL, mI_sL, mS_sI, mR_sI, mL_sI, n_cl, cob_0 hC]; with_reducible rfl)) | rw [nm_eq] | rw [ckZ_n1] | rw [ckZ_n0])
  refine WP.gd (fun g3 => WP.ret ⟨by unfold q_old; rw [g1, g2, show inR l2 1 60 = false from g3]; rfl, AF.rf M⟩) (fun g3 => ?_)
  repeat (first | ((with_reducible apply WP.ce); case h => (simp (disch := omega) only [c_isWithin]; with_reducible rfl)) | ((with_reducible apply WP.bd); case h => (simp (disch := omega) only [e_gR, e_gI, e_aI, e_aL, e_oO, e_pI, e_wI, e_wL, Option.map_some, mS_sL, mR_sL, mI_sL, mS_sI, mR_sI, mL_sI, n_cl, cob_0 hC]; with_reducible rfl)) | rw [nm_eq] | rw [ckZ_n1] | rw [ckZ_n0])
  refine WP.gd (fun g4 => WP.ret ⟨by unfold q_old; rw [g1, g2, show inR l2 1 60 = true from g3, show inR l3 0 5 = false from g4]; rfl, AF.rf M⟩) (fun g4 => ?_)
  repeat (first | ((with_reducible apply WP.ce); case h => (simp (disch := omega) only [c_isWithin]; with_reducible rfl)) | ((with_reducible apply WP.bd); case h => (simp (disch := omega) only [e_gR, e_gI, e_aI, e_aL, e_oO, e_pI, e_wI, e_wL, Option.map_some, mS_sL, mR_sL, mI_sL, mS_sI, mR_sI, mL_sI, n_cl, cob_0 hC]; with_reducible rfl)) | rw [nm_eq] | rw [ckZ_n1] | rw [ckZ_n0])
  refine WP.gd (fun g5 => WP.ret ⟨by unfold q_old; rw [g1, g2, show inR l2 1 60 = true from g3, show inR l3 0 5 = true from g4, show inR l4 0 2 = false from g5]; rfl, AF.rf M⟩) (fun g5 => ?_)
  have g3' : inR l2 1 60 = true := g3
  have g4' : inR l3 0 5 = true := g4
  have g5' : inR l4 0 2 = true := g5
  obtain ⟨n, rfl, -, b2, b3⟩ := inR_t g3' (by decide)
  obtain ⟨many, rfl, -, d2, d3⟩ := inR_t g4' (by decide)
  obtain ⟨e1, e2⟩ := rlB_t (by omega) g2
  obtain ⟨x, x1, x2⟩ := c_ruleAt h0 e2
  rw [← e1] at x1
  have q : q_old T c W l1 (nI n) (nI many) l4 = olA (olF T ((rlO l1).map W) n many (2 ^ tJ T) 0 (0, 0, 0)) l4 := by
    unfold q_old
    rw [g1, g2, g3', g4', g5', n_cl b3, n_cl d3]
    rfl
  rw [q]
  repeat (first | ((with_reducible apply WP.ce); case h => (simp (disch := omega) only [x1]; with_reducible rfl)) | ((with_reducible apply WP.bd); case h => (simp (disch := omega) only [e_gR, e_gI, e_aI, e_aL, e_oO, e_pI, e_wI, e_wL, Option.map_some, mS_sL, mR_sL, mI_sL, mS_sI, mR_sI, mL_sI, n_cl, cob_0 hC, cr_0_asker hC]; with_reducible rfl)) | rw [nm_eq] | rw [ckZ_n1] | rw [ckZ_n0])
  repeat (first | ((with_reducible apply WP.ce); case h => (simp (disch := omega) only []; with_reducible rfl)) | ((with_reducible apply WP.bd); case h => (simp (disch := omega) only [e_gR, e_gI, e_aI, e_aL, e_oO, e_pI, e_wI, e_wL, Option.map_some, mS_sL, mR_sL, mI_sL, mS_sI, mR_sI, mL_sI, n_cl, cob_37 hC]; with_reducible rfl)) | rw [nm_eq] | rw [ckZ_n1] | rw [ckZ_n0])
  obtain ⟨M1, hM1⟩ : ∃ M1, M1 = sR M 30 0 x := ⟨_, rfl⟩
  have p1 : AF M M1 := by
    rw [hM1]
    exact ⟨rfl, fun a k hn => by rw [mR_sR, if_neg (fun z => hn ⟨z.1, Or.inl z.2⟩)], fun a _ => rfl, fun a _ => rfl⟩
  have hA : CA M1 T S ((rlO l1).map W) := by
    refine ⟨⟨p1.CI hC, p1.T hT, p1.S hS, ?_⟩, hk, hs, h9⟩
    have e : mR M1 30 0 = x := by rw [hM1, mR_sR, if_pos ⟨rfl, rfl⟩]
    cases hro : rlO l1 with
    | none => rw [hro] at x2; exact e.trans x2
    | some i =>
      rw [hro] at x2
      obtain ⟨a, ⟨a1, a2⟩, a3⟩ := x2
      exact ⟨a, ⟨e.trans a1, a2⟩, p1.rl a2 a3⟩
  have hC1 := p1.CI hC
  obtain ⟨M2, hM2⟩ : ∃ M2, M2 = sI (sI (sI M1 37 0 (nI 0)) 37 1 (-1)) 37 2 (-1) := ⟨_, rfl⟩
  have g2' : AG M1 M2 := by rw [hM2]; exact ((AFw M1 (by omega) _ _).tr (AFw _ (by omega) _ _)).tr (AFw _ (by omega) _ _)
  have ho : OLm M2 (0, 0, 0) := by
    rw [hM2]
    refine ⟨?_, ?_, ?_⟩
    · rw [mI_sI, if_neg (by omega), mI_sI, if_neg (by omega), mI_sI, if_pos ⟨rfl, rfl⟩]
    · rw [mI_sI, if_neg (by omega), mI_sI, if_pos ⟨rfl, rfl⟩]; rfl
    · rw [mI_sI, if_pos ⟨rfl, rfl⟩]; rfl
  obtain ⟨f, hf⟩ := FUd (2 ^ tJ T) (by omega)
  have lp := c_oldL hA (n := n) (many := many) (by omega) (by omega) (2 ^ tJ T) 0 f M2 (0, 0, 0) (by omega) g2' ho (Nat.le_refl _)
  have hfs : WP (f_X0_findOldSets 37 x (nI n) (nI many) M) (fun _ M' => AG M1 M' ∧ OLm M' (olF T ((rlO l1).map W) n many (2 ^ tJ T) 0 (0, 0, 0))) := by
    unfold f_X0_findOldSets
    repeat (first | ((with_reducible apply WP.ce); case h => (simp (disch := omega) only []; with_reducible rfl)) | ((with_reducible apply WP.bd); case h => (simp (disch := omega) only [e_gR, e_gI, e_aI, e_aL, e_oO, e_pI, e_wI, e_wL, Option.map_some, mS_sL, mR_sL, mI_sL, mS_sI, mR_sI, mL_sI, n_cl, cob_37 hC, cr_37_told hC, told_o (ci_told hC), hT.1.2.2.2.2]; with_reducible rfl)) | rw [nm_eq] | rw [ckZ_n1] | rw [ckZ_n0])
    rw [few_eq hk.1.2.2.2 (by omega)]
    repeat (first | ((with_reducible apply WP.ce); case h => (simp (disch := omega) only []; with_reducible rfl)) | ((with_reducible apply WP.bd); case h => (simp (disch := omega) only [e_gR, e_gI, e_aI, e_aL, e_oO, e_pI, e_wI, e_wL, Option.map_some, mS_sL, mR_sL, mI_sL, mS_sI, mR_sI, mL_sI, n_cl, cob_37 hC, cr_37_pilot hC, e_pR, cob_30 hC, ← hM1]; with_reducible rfl)) | rw [nm_eq] | rw [ckZ_n1] | rw [ckZ_n0])
    repeat (first | ((with_reducible apply WP.ce); case h => (simp (disch := omega) only []; with_reducible rfl)) | ((with_reducible apply WP.bd); case h => (simp (disch := omega) only [e_gR, e_gI, e_aI, e_aL, e_oO, e_pI, e_wI, e_wL, Option.map_some, mS_sL, mR_sL, mI_sL, mS_sI, mR_sI, mL_sI, n_cl, cob_37 hC1, ← hM2]; with_reducible rfl)) | rw [nm_eq] | rw [ckZ_n1] | rw [ckZ_n0])
    rw [hf]
    exact lp
  refine WP.cw hfs (fun _ M3 c3 => ?_)
  obtain ⟨⟨hC3, -⟩, -⟩ := hA.of c3.1
  have fr := p1.tr c3.1.1
  obtain ⟨o1, o2, o3⟩ := c3.2
  obtain ⟨st, hst⟩ : ∃ st, st = olF T ((rlO l1).map W) n many (2 ^ tJ T) 0 (0, 0, 0) := ⟨_, rfl⟩
  rw [← hst] at o1 o2 o3 ⊢
  have hb : st.1 < 2 ^ 31 := by
    have : ∀ d set st, st.1 ≤ set → (olF T ((rlO l1).map W) n many d set st).1 ≤ set + d := by
      intro d
      induction d with
      | zero => intro set st h; exact h
      | succ d ih =>
        intro set st h
        rw [olF]
        refine Nat.le_trans (ih (set + 1) _ ?_) (by omega)
        unfold olN
        split
        · show st.1 + 1 ≤ set + 1; omega
        · omega
    have := this (2 ^ tJ T) 0 (0, 0, 0) (Nat.le_refl _)
    rw [hst]
    omega
  unfold olA
  by_cases w0 : l4 = 0
  · refine WP.it w0 ?_
    repeat (first | ((with_reducible apply WP.ce); case h => (simp (disch := omega) only []; with_reducible rfl)) | ((with_reducible apply WP.bd); case h => (simp (disch := omega) only [e_gR, e_gI, e_aI, e_aL, e_oO, e_pI, e_wI, e_wL, Option.map_some, mS_sL, mR_sL, mI_sL, mS_sI, mR_sI, mL_sI, n_cl, cob_0 hC3, cr_0_asker hC3, cob_37 hC3, o1]; with_reducible rfl)) | rw [nm_eq] | rw [ckZ_n1] | rw [ckZ_n0])
    exact WP.ret ⟨by rw [if_pos w0], fr⟩
  · refine WP.ie w0 ?_
    rw [if_neg w0]
    by_cases w1 : l4 = nI 1
    · refine WP.it w1 ?_
      rw [if_pos w1]
      repeat (first | ((with_reducible apply WP.ce); case h => (simp (disch := omega) only []; with_reducible rfl)) | ((with_reducible apply WP.bd); case h => (simp (disch := omega) only [e_gR, e_gI, e_aI, e_aL, e_oO, e_pI, e_wI, e_wL, Option.map_some, mS_sL, mR_sL, mI_sL, mS_sI, mR_sI, mL_sI, n_cl, cob_0 hC3, cr_0_asker hC3, cob_37 hC3, o1]; with_reducible rfl)) | rw [nm_eq] | rw [ckZ_n1] | rw [ckZ_n0])
      by_cases c4 : st.1 = 0
      · exact WP.it (by rw [c4]; rfl) (WP.ret ⟨by rw [if_pos c4], fr⟩)
      · refine WP.ie (by rw [nIz hb]; exact c4) ?_
        repeat (first | ((with_reducible apply WP.ce); case h => (simp (disch := omega) only []; with_reducible rfl)) | ((with_reducible apply WP.bd); case h => (simp (disch := omega) only [e_gR, e_gI, e_aI, e_aL, e_oO, e_pI, e_wI, e_wL, Option.map_some, mS_sL, mR_sL, mI_sL, mS_sI, mR_sI, mL_sI, n_cl, cob_0 hC3, cr_0_asker hC3, cob_37 hC3, o2]; with_reducible rfl)) | rw [nm_eq] | rw [ckZ_n1] | rw [ckZ_n0])
        exact WP.ret ⟨by rw [if_neg c4, if_neg c4], fr⟩
    · refine WP.ie w1 ?_
      rw [if_neg w1]
      repeat (first | ((with_reducible apply WP.ce); case h => (simp (disch := omega) only []; with_reducible rfl)) | ((with_reducible apply WP.bd); case h => (simp (disch := omega) only [e_gR, e_gI, e_aI, e_aL, e_oO, e_pI, e_wI, e_wL, Option.map_some, mS_sL, mR_sL, mI_sL, mS_sI, mR_sI, mL_sI, n_cl, cob_0 hC3, cr_0_asker hC3, cob_37 hC3, o1]; with_reducible rfl)) | rw [nm_eq] | rw [ckZ_n1] | rw [ckZ_n0])
      by_cases c4 : st.1 = 0
      · exact WP.it (by rw [c4]; rfl) (WP.ret ⟨by rw [if_pos c4], fr⟩)
      · refine WP.ie (by rw [nIz hb]; exact c4) ?_
        repeat (first | ((with_reducible apply WP.ce); case h => (simp (disch := omega) only []; with_reducible rfl)) | ((with_reducible apply WP.bd); case h => (simp (disch := omega) only [e_gR, e_gI, e_aI, e_aL, e_oO, e_pI, e_wI, e_wL, Option.map_some, mS_sL, mR_sL, mI_sL, mS_sI, mR_sI, mL_sI, n_cl, cob_0 hC3, cr_0_asker hC3, cob_37 hC3, o3]; with_reducible rfl)) | rw [nm_eq] | rw [ckZ_n1] | rw [ckZ_n0])
        exact WP.ret ⟨by rw [if_neg c4, if_neg c4], fr⟩
