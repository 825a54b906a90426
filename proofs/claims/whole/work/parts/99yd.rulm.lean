/-! THE REFERENCE: sums of a rule -/
def sgc (c : Nat) : Prop := c < 128 ∧ isDg c = false ∧ isLt c = false ∧ c ≠ 60 ∧ c ≠ 62
theorem tk_sg {t : TP} (h4 : TOk2 t) (p : Nat) {c : Nat} (hc : sgc c) : (tkG t p = nI c) = (bk t p < t.1 ∧ t.2 (bk t p) = c) := by
  obtain ⟨c1, c2, c3, c4, c5⟩ := hc
  have hy := h4.2 (bk t p)
  rw [eq_iff_iff]
  unfold tkG tkK
  by_cases h : t.1 ≤ bk t p
  · rw [if_pos h, if_neg (by decide)]
    exact ⟨fun z => absurd z.symm (nm1 (by omega)), fun z => by omega⟩
  · rw [if_neg h]
    by_cases h1 : isDg (t.2 (bk t p)) = true
    · rw [if_pos h1, if_neg (by decide)]
      refine ⟨fun z => absurd z.symm (nm1 (by omega)), fun z => ?_⟩
      rw [z.2, c2] at h1
      cases h1
    · rw [if_neg h1]
      by_cases h2 : isLt (t.2 (bk t p)) = true
      · rw [if_pos h2, if_neg (by decide)]
        refine ⟨fun z => absurd z.symm (nm1 (by omega)), fun z => ?_⟩
        rw [z.2, c3] at h2
        cases h2
      · rw [if_neg h2, if_pos rfl]
        by_cases h3 : two t (bk t p) = true
        · rw [if_pos h3, n_eq (by omega) (by omega)]
          refine ⟨fun z => by omega, fun z => ?_⟩
          unfold two at h3
          have h5 := (Bool.and_eq_true_iff.mp (Bool.and_eq_true_iff.mp h3).1).1
          rcases Bool.or_eq_true_iff.mp h5 with q | q
          · have := of_decide_eq_true q; omega
          · have := of_decide_eq_true q; omega
        · rw [if_neg h3, n_eq (by omega) (by omega)]
          exact ⟨fun z => ⟨by omega, z⟩, fun z => z.2⟩
theorem tk_sn {t : TP} (h4 : TOk2 t) (p : Nat) {c : Nat} (hc : sgc c) : (sgn t (bk t p) = nI c) = (tkG t p = nI c) := by
  rw [tk_sg h4 p hc, sgn_eq h4 _ (by have := hc.1; omega)]
theorem tkE_sg {t : TP} (h4 : TOk2 t) {p c : Nat} (hc : sgc c) (h : tkG t p = nI c) : tkE t p = bk t p + 1 := by
  have k3 := tkG_k (by have := hc.1; omega) h
  rw [tk_sg h4 p hc] at h
  unfold tkE
  rw [k3, if_neg (by decide), if_neg (by decide), if_neg (by decide)]
  have : two t (bk t p) = false := by
    unfold two
    rw [h.2, decide_eq_false hc.2.2.2.1, decide_eq_false hc.2.2.2.2]; rfl
  rw [this]; rfl
theorem sg_43 : sgc 43 := ⟨by decide, by decide, by decide, by decide, by decide⟩
theorem sg_45 : sgc 45 := ⟨by decide, by decide, by decide, by decide, by decide⟩
theorem sg_42 : sgc 42 := ⟨by decide, by decide, by decide, by decide, by decide⟩
theorem sg_47 : sgc 47 := ⟨by decide, by decide, by decide, by decide, by decide⟩
theorem sg_37 : sgc 37 := ⟨by decide, by decide, by decide, by decide, by decide⟩
theorem sg_91 : sgc 91 := ⟨by decide, by decide, by decide, by decide, by decide⟩
theorem sg_93 : sgc 93 := ⟨by decide, by decide, by decide, by decide, by decide⟩
theorem sgk_E {t : TP} (h4 : TOk2 t) {p : Nat} (h : sgk t p ≠ 0) : tkE t p = bk t p + 1 := by
  unfold sgk at h
  split at h
  · rename_i e; exact tkE_sg h4 sg_43 e
  · split at h
    · rename_i e; exact tkE_sg h4 sg_45 e
    · split at h
      · rename_i e; exact tkE_sg h4 sg_42 e
      · split at h
        · rename_i e; exact tkE_sg h4 sg_47 e
        · split at h
          · rename_i e; exact tkE_sg h4 sg_37 e
          · exact absurd rfl h
theorem sgk_cs (t : TP) (p : Nat) : sgk t p = 0 ∨ sgk t p = 2 ∨ sgk t p = 3 ∨ sgk t p = 13 ∨ sgk t p = 14 ∨ sgk t p = 15 := by
  unfold sgk
  split
  · omega
  · split
    · omega
    · split
      · omega
      · split
        · omega
        · split <;> omega
theorem bth_op {k : Nat} (h : k = 2 ∨ k = 3 ∨ k = 13 ∨ k = 14 ∨ k = 15) (a b : Int64) : bth k a b = opr k a b := by
  unfold bth
  rw [if_neg (by omega), if_neg (by omega), if_neg (by omega)]
theorem ent_b {v : Nat → Int64} {k : Nat} (h : k ≠ 0 ∧ k ≠ 1 ∧ k ≠ 9) (b a : Int64) (st : List Int64) : ent1 v (k, 0) (b :: a :: st) = some (bth k a b :: st) := by
  unfold ent1
  rw [if_neg (show ¬ k = 0 from h.1), if_neg (show ¬ k = 1 from h.2.1), if_neg (show ¬ k = 9 from h.2.2)]
/-- a sum at work -/
def RSS (m i e : Nat) (M M' : Mem) (t : TP) (b : Nat) (s : SSt) (F : List (Nat × Nat)) : Prop :=
  FE m i e M M' ∧ (mI M' m 19 = nI 0 ∧ mI M' m 18 = nI (bk t s.1) ∧ mI M' m 22 = nI (e + F.length) ∧ mI M' m 24 = nI s.2.1) ∧ (FG M' m i e F ∧ ∀ x ∈ F, eok x) ∧ (∀ v st, evl v F st = some (s.2.2.2 v :: s.2.2.1.elim st (fun q => q.2 v :: st))) ∧ (s.1 ≤ t.1 ∧ s.2.1 ≤ 60) ∧ 2 * (F.length + s.2.2.1.elim 0 (fun _ => 1)) + 1 + b ≤ s.1 + 2 * s.2.1
/-- a fault has been found -/
def FLT (m i e : Nat) (M M' : Mem) (t : TP) (f : Nat) : Prop := f ≠ 0 ∧ FE m i e M M' ∧ mI M' m 19 = nI f ∧ ∃ p', p' ≤ t.1 ∧ mI M' m 18 = nI p'
/-- how a term ends -/
def TMe (m i e : Nat) (M : Mem) (t : TP) (b : Nat) (s : SSt) (M' : Mem) : Prop :=
  (∃ s' F, RSS m i e M M' t b s' F ∧ smR t s = smR t s' ∧ s'.2.2.1 = s.2.2.1 ∧ sgk t s'.1 < 4 ∧ s.1 ≤ s'.1) ∨ FLT m i e M M' t (smR t s).1
section RSM
variable {m i e b : Nat} {M : Mem} {t : TP}
theorem rd_of {M' : Mem} (f : FE m i e M M') (hR : RIs (mS M) (mR M) m) (ht : RTp M m t) (h20 : mI M m 20 = nI i) (h26 : mI M m 26 = nI 11) : RIs (mS M') (mR M') m ∧ RTp M' m t ∧ mI M' m 20 = nI i ∧ mI M' m 26 = nI 11 := ⟨f.RI hR, f.tp ht, by rw [f.2.2.2.1 20 (by decide) (by decide) (by decide) (by decide)]; exact h20, by rw [f.2.2.2.1 26 (by decide) (by decide) (by decide) (by decide)]; exact h26⟩
theorem bkw {M' : Mem} (h4 : TOk2 t) (hR : RIs (mS M') (mR M') m) (ht : RTp M' m t) {p : Nat} (hp : p ≤ t.1) (h18 : mI M' m 18 = nI p) : WP (f_X10_blanks m M') (fun _ M2 => FM m M' M2 ∧ mI M2 m 18 = nI (bk t p) ∧ ∀ k, k ≠ 18 → mI M2 m k = mI M' m k) := by
  have hL := h4.1
  exact WP.of (r_blanks hR ht h4 h18 (by omega)) ⟨FM.w m M' (Or.inl rfl) _, by rw [mI_sI, if_pos ⟨rfl, rfl⟩], fun k hk => by rw [mI_sI, if_neg (by omega)]⟩
/-- the loop of a term stops at a fault -/
theorem x_termF {M1 : Mem} (hR : RIs (mS M) (mR M) m) (h : FE m i e M M1) {fa p' f : Nat} (h0 : fa ≠ 0) (hfa : fa < 10000) (h19 : mI M1 m 19 = nI fa) (hp : p' ≤ t.1) (h18 : mI M1 m 18 = nI p') : WP (f_X10_term_L8 m (f + 1) M1) (fun _ M' => FLT m i e M M' t fa) := by
  have hR1 := h.RI hR
  rw [f_X10_term_L8]
  repeat (first | ((with_reducible apply WP.ce); case h => (simp (disch := omega) only []; with_reducible rfl)) | ((with_reducible apply WP.bd); case h => (simp (disch := omega) only [e_gR, e_gI, e_aI, e_aL, e_oO, e_pI, e_wI, e_wL, Option.map_some, mS_sL, mR_sL, mI_sL, mS_sI, mR_sI, mL_sI, n_cl, ro_m hR1, h19]; with_reducible rfl)) | rw [nm_eq] | rw [ckZ_n1] | rw [ckZ_n0])
  refine WP.ie (by rw [nIz (by omega)]; exact h0) ?_
  unfold f_X10_term_J100
  exact WP.ret ⟨h0, h, h19, p', hp, h18⟩
theorem x_termL (h4 : TOk2 t) (hi : i < 6) (hb : 2 * e ≤ b) (hR : RIs (mS M) (mR M) m) (ht : RTp M m t) (h20 : mI M m 20 = nI i) (h26 : mI M m 26 = nI 11) : ∀ d f (s : SSt) (M1 : Mem) (F : List (Nat × Nat)), t.1 - s.1 ≤ d → RSS m i e M M1 t b s F → WP (f_X10_term_L8 m (f + d + 1) M1) (fun _ M' => TMe m i e M t b s M') := by
  have hL := h4.1
  intro d
  induction d with
  | zero =>
    intro f s M1 F hd h
    obtain ⟨fr, ⟨g19, g18, g22, g24⟩, ⟨hG, hO⟩, hv, ⟨hp, hc⟩, hbd⟩ := h
    obtain ⟨hR1, ht1, k20, k26⟩ := rd_of fr hR ht h20 h26
    have hb1 := bk_le hp
    have hb2 := bk_ge t s.1
    have k0 : tkK t s.1 = 0 := by rw [tk_end]; omega
    have s0 : sgk t s.1 = 0 := by
      rcases Nat.eq_zero_or_pos (sgk t s.1) with z | z
      · exact z
      · have := sgk_k (t := t) (p := s.1) (by omega); omega
    have ns : ∀ c, sgc c → ¬ sgn t (bk t s.1) = nI c := fun c hc z => by
      rw [tk_sn h4 _ hc] at z
      have := tkG_k (by have := hc.1; omega) z
      omega
    have a1 := r_sign hR1 ht1 h4 g18 (by omega)
    rw [f_X10_term_L8]
    repeat (first | ((with_reducible apply WP.ce); case h => (simp (disch := omega) only []; with_reducible rfl)) | ((with_reducible apply WP.bd); case h => (simp (disch := omega) only [e_gR, e_gI, e_aI, e_aL, e_oO, e_pI, e_wI, e_wL, Option.map_some, mS_sL, mR_sL, mI_sL, mS_sI, mR_sI, mL_sI, n_cl, ro_m hR1, g19]; with_reducible rfl)) | rw [nm_eq] | rw [ckZ_n1] | rw [ckZ_n0])
    refine WP.it rfl ?_
    repeat (first | ((with_reducible apply WP.ce); case h => (simp (disch := omega) only [a1]; with_reducible rfl)) | ((with_reducible apply WP.bd); case h => (simp (disch := omega) only [e_gR, e_gI, e_aI, e_aL, e_oO, e_pI, e_wI, e_wL, Option.map_some, mS_sL, mR_sL, mI_sL, mS_sI, mR_sI, mL_sI, n_cl, ro_m hR1]; with_reducible rfl)) | rw [nm_eq] | rw [ckZ_n1] | rw [ckZ_n0])
    refine WP.ie (ns 42 sg_42) ?_
    repeat (first | ((with_reducible apply WP.ce); case h => (simp (disch := omega) only [a1]; with_reducible rfl)) | ((with_reducible apply WP.bd); case h => (simp (disch := omega) only [e_gR, e_gI, e_aI, e_aL, e_oO, e_pI, e_wI, e_wL, Option.map_some, mS_sL, mR_sL, mI_sL, mS_sI, mR_sI, mL_sI, n_cl, ro_m hR1]; with_reducible rfl)) | rw [nm_eq] | rw [ckZ_n1] | rw [ckZ_n0])
    refine WP.ie (ns 47 sg_47) ?_
    repeat (first | ((with_reducible apply WP.ce); case h => (simp (disch := omega) only [a1]; with_reducible rfl)) | ((with_reducible apply WP.bd); case h => (simp (disch := omega) only [e_gR, e_gI, e_aI, e_aL, e_oO, e_pI, e_wI, e_wL, Option.map_some, mS_sL, mR_sL, mI_sL, mS_sI, mR_sI, mL_sI, n_cl, ro_m hR1]; with_reducible rfl)) | rw [nm_eq] | rw [ckZ_n1] | rw [ckZ_n0])
    refine WP.ie (ns 37 sg_37) ?_
    unfold f_X10_term_J100
    exact WP.ret (Or.inl ⟨s, F, ⟨fr, ⟨g19, g18, g22, g24⟩, ⟨hG, hO⟩, hv, ⟨hp, hc⟩, hbd⟩, rfl, rfl, by omega, Nat.le_refl _⟩)
  | succ d ih =>
    intro f s M1 F hd h
    have h0 := h
    obtain ⟨fr, ⟨g19, g18, g22, g24⟩, ⟨hG, hO⟩, hv, ⟨hp, hc⟩, hbd⟩ := h
    obtain ⟨hR1, ht1, k20, k26⟩ := rd_of fr hR ht h20 h26
    have hb1 := bk_le hp
    have a1 := r_sign hR1 ht1 h4 g18 (by omega)
    have key : ∀ k, sgk t s.1 = k → 4 ≤ k → WP (f_X10_term_J72 (f_X10_term_L8 m (f + d + 1)) m (nI k) M1) (fun _ M' => TMe m i e M t b s M') := by
      intro k hk hk4
      have hk5 : k = 13 ∨ k = 14 ∨ k = 15 := by have := sgk_cs t s.1; omega
      have hE := sgk_E h4 (p := s.1) (by omega)
      obtain ⟨m1, m2⟩ := sg_mv hp (show sgk t s.1 ≠ 0 by omega)
      obtain ⟨M2, hM2⟩ : ∃ M2, M2 = sI M1 m 18 (nI (tkE t s.1)) := ⟨_, rfl⟩
      have fr2 : FE m i (e + F.length) M1 M2 := by rw [hM2]; exact FE.ws M1 (Or.inl rfl) _
      obtain ⟨hR2, ht2, j20, j26⟩ := rd_of fr2 hR1 ht1 k20 k26
      have j18 : mI M2 m 18 = nI (tkE t s.1) := by rw [hM2, mI_sI, if_pos ⟨rfl, rfl⟩]
      have jk : ∀ k, k ≠ 18 → mI M2 m k = mI M1 m k := fun k hk => by rw [hM2, mI_sI, if_neg (by omega)]
      have he2 : e + F.length < 300 := by omega
      unfold f_X10_term_J72
      repeat (first | ((with_reducible apply WP.ce); case h => (simp (disch := omega) only []; with_reducible rfl)) | ((with_reducible apply WP.bd); case h => (simp (disch := omega) only [e_gR, e_gI, e_aI, e_aL, e_oO, e_pI, e_wI, e_wL, Option.map_some, mS_sL, mR_sL, mI_sL, mS_sI, mR_sI, mL_sI, n_cl, ro_m hR1, g18, n_add, ← hE, ← hM2]; with_reducible rfl)) | rw [nm_eq] | rw [ckZ_n1] | rw [ckZ_n0])
      repeat (first | ((with_reducible apply WP.ce); case h => (simp (disch := omega) only []; with_reducible rfl)) | ((with_reducible apply WP.bd); case h => (simp (disch := omega) only [e_gR, e_gI, e_aI, e_aL, e_oO, e_pI, e_wI, e_wL, Option.map_some, mS_sL, mR_sL, mI_sL, mS_sI, mR_sI, mL_sI, n_cl, ro_m hR2]; with_reducible rfl)) | rw [nm_eq] | rw [ckZ_n1] | rw [ckZ_n0])
      refine WP.cw (x_value (c := s.2.1) h4 hi he2 (p := tkE t s.1) (fa := 0) m2 (by decide) hR2 ht2 j18 (by rw [jk 19 (by decide)]; exact g19) j20 j26 (fun _ => ⟨by rw [jk 22 (by decide)]; exact g22, by rw [jk 24 (by decide)]; exact g24, hc⟩)) (fun _ M3 q => ?_)
      obtain ⟨q1, q2, ⟨p', q3, q4⟩, q5⟩ := q
      rw [if_pos rfl] at q2
      have fr3 : FE m i e M M3 := (fr.tr fr2 (by omega)).tr q1 (by omega)
      obtain ⟨hR3, ht3, l20, l26⟩ := rd_of fr3 hR ht h20 h26
      by_cases hv0 : vlF t (tkE t s.1) s.2.1 = 0
      · obtain ⟨⟨r18, r22, r24⟩, x, x1, x2, x3⟩ := q5 rfl hv0
        obtain ⟨n1, n2⟩ := vl_mv m2 hv0
        have hc6 := (vlF_k hv0).2
        rw [hv0] at q2
        have a3 := r_entry (k := k) (n := 0) hR3 hi (e := e + F.length + 1) (by omega) q2 l20 r22
        obtain ⟨M4, hM4⟩ : ∃ M4, M4 = enM M3 m i (e + F.length + 1) k 0 := ⟨_, rfl⟩
        rw [← hM4] at a3
        have fr34 : FE m i (e + F.length + 1) M3 M4 := by rw [hM4]; exact enM_F M3 k 0 (by omega)
        have fr4 : FE m i e M M4 := fr3.tr fr34 (by omega)
        obtain ⟨hR4, ht4, -, -⟩ := rd_of fr4 hR ht h20 h26
        have e4 : ∀ j, j ≠ 22 → mI M4 m j = mI M3 m j := fun j hj => by rw [hM4, enM_m, if_neg hj]
        repeat (first | ((with_reducible apply WP.ce); case h => (simp (disch := omega) only [a3]; with_reducible rfl)) | ((with_reducible apply WP.bd); case h => (simp (disch := omega) only [e_gR, e_gI, e_aI, e_aL, e_oO, e_pI, e_wI, e_wL, Option.map_some, mS_sL, mR_sL, mI_sL, mS_sI, mR_sI, mL_sI, n_cl, ro_m hR3]; with_reducible rfl)) | rw [nm_eq] | rw [ckZ_n1] | rw [ckZ_n0])
        repeat (first | ((with_reducible apply WP.ce); case h => (simp (disch := omega) only []; with_reducible rfl)) | ((with_reducible apply WP.bd); case h => (simp (disch := omega) only [e_gR, e_gI, e_aI, e_aL, e_oO, e_pI, e_wI, e_wL, Option.map_some, mS_sL, mR_sL, mI_sL, mS_sI, mR_sI, mL_sI, n_cl, ro_m hR4]; with_reducible rfl)) | rw [nm_eq] | rw [ckZ_n1] | rw [ckZ_n0])
        refine WP.cw (bkw h4 hR4 ht4 n2 (by rw [e4 18 (by decide)]; exact r18)) (fun _ M5 w => ?_)
        obtain ⟨w1, w2, w3⟩ := w
        have hst : smS t s = .inr (tkE t (tkE t s.1), s.2.1 + 1, s.2.2.1, fun v => opr k (s.2.2.2 v) (vlD t (tkE t s.1) v)) := by
          unfold smS
          rw [if_neg (by omega), if_pos hv0, if_neg (by omega), hk]
        have gF : FG M3 m i e (F ++ [x]) := FG.app ((fr2.tr q1 (Nat.le_refl _)).g hG (Nat.le_refl _)) x2
        have gF4 : FG M4 m i e ((F ++ [x]) ++ [(k, 0)]) := FG.app (fr34.g gF (by rw [List.length_append]; show e + (F.length + 1) ≤ _; omega)) (by
          rw [List.length_append, hM4]
          exact enM_g M3 k 0)
        have w1e : FE m i e M4 M5 := FM.FE w1
        have gF5 : FG M5 m i e ((F ++ [x]) ++ [(k, 0)]) := fun j hj => by
          rw [w1.2.2.1 (m + 18) (by omega), w1.2.2.1 (m + 19) (by omega)]
          exact gF4 j hj
        have len : ((F ++ [x]) ++ [(k, 0)]).length = F.length + 2 := by rw [List.length_append, List.length_append]; rfl
        have := ih f (tkE t (tkE t s.1), s.2.1 + 1, s.2.2.1, fun v => opr k (s.2.2.2 v) (vlD t (tkE t s.1) v)) M5 ((F ++ [x]) ++ [(k, 0)]) (by show t.1 - tkE t (tkE t s.1) ≤ d; omega) ⟨fr4.tr w1e (Nat.le_refl _), ⟨by rw [w3 19 (by decide), e4 19 (by decide)]; exact q2, w2, by rw [w3 22 (by decide), hM4, enM_m, if_pos rfl, len]; rfl, by rw [w3 24 (by decide), e4 24 (by decide)]; exact r24⟩, ⟨gF5, fun y hy => by
          rcases List.mem_append.mp hy with z | z
          · rcases List.mem_append.mp z with z | z
            · exact hO y z
            · rw [List.mem_singleton.mp z]; exact x1
          · rw [List.mem_singleton.mp z]
            exact ⟨by show k = 0 ∨ _; omega, by show 0 < 100000; decide, fun z => by have z : k = 1 := z; omega⟩⟩, fun v st => by
          rw [evl_app, evl_app, hv v st]
          show ((ent1 v x (s.2.2.2 v :: _)).bind (evl v [])).bind _ = _
          rw [x3]
          show (ent1 v (k, 0) (vlD t (tkE t s.1) v :: s.2.2.2 v :: _)).bind (evl v []) = _
          rw [ent_b (by omega), bth_op (by omega)]; rfl, ⟨n2, by show s.2.1 + 1 ≤ 60; omega⟩, by
          rw [len]
          show 2 * (F.length + 2 + s.2.2.1.elim 0 (fun _ => 1)) + 1 + b ≤ tkE t (tkE t s.1) + 2 * (s.2.1 + 1)
          omega⟩
        refine WP.mono this (fun _ M' c => ?_)
        rcases c with ⟨s', F', c1, c2, c3, c4, c5⟩ | c
        · exact Or.inl ⟨s', F', c1, (smR_r h4 hp hst).trans c2, c3, c4, Nat.le_trans (by show s.1 ≤ tkE t (tkE t s.1); omega) c5⟩
        · rw [← smR_r h4 hp hst] at c
          exact Or.inr c
      · have hlt := vlF_lt h4 (c := s.2.1) m2
        have hst : smS t s = .inl (vlF t (tkE t s.1) s.2.1, s.1, s.2.1, fun _ => 0) := by
          unfold smS
          rw [if_neg (by omega), if_neg hv0]
        have a3 := r_entry0 hR3 hv0 hlt q2 (nI k) (nI 0)
        repeat (first | ((with_reducible apply WP.ce); case h => (simp (disch := omega) only [a3]; with_reducible rfl)) | ((with_reducible apply WP.bd); case h => (simp (disch := omega) only [e_gR, e_gI, e_aI, e_aL, e_oO, e_pI, e_wI, e_wL, Option.map_some, mS_sL, mR_sL, mI_sL, mS_sI, mR_sI, mL_sI, n_cl, ro_m hR3]; with_reducible rfl)) | rw [nm_eq] | rw [ckZ_n1] | rw [ckZ_n0])
        repeat (first | ((with_reducible apply WP.ce); case h => (simp (disch := omega) only []; with_reducible rfl)) | ((with_reducible apply WP.bd); case h => (simp (disch := omega) only [e_gR, e_gI, e_aI, e_aL, e_oO, e_pI, e_wI, e_wL, Option.map_some, mS_sL, mR_sL, mI_sL, mS_sI, mR_sI, mL_sI, n_cl, ro_m hR3]; with_reducible rfl)) | rw [nm_eq] | rw [ckZ_n1] | rw [ckZ_n0])
        refine WP.cw (bkw h4 hR3 ht3 q3 q4) (fun _ M5 w => ?_)
        obtain ⟨w1, w2, w3⟩ := w
        refine WP.mono (x_termF hR (fr3.tr (FM.FE w1) (Nat.le_refl _)) hv0 hlt (by rw [w3 19 (by decide)]; exact q2) (bk_le q3) w2) (fun _ M' c => Or.inr ?_)
        rw [smR_l h4 hp hst]
        exact c
    rw [show f + (d + 1) + 1 = (f + d + 1) + 1 from by omega, f_X10_term_L8]
    repeat (first | ((with_reducible apply WP.ce); case h => (simp (disch := omega) only []; with_reducible rfl)) | ((with_reducible apply WP.bd); case h => (simp (disch := omega) only [e_gR, e_gI, e_aI, e_aL, e_oO, e_pI, e_wI, e_wL, Option.map_some, mS_sL, mR_sL, mI_sL, mS_sI, mR_sI, mL_sI, n_cl, ro_m hR1, g19]; with_reducible rfl)) | rw [nm_eq] | rw [ckZ_n1] | rw [ckZ_n0])
    refine WP.it rfl ?_
    repeat (first | ((with_reducible apply WP.ce); case h => (simp (disch := omega) only [a1]; with_reducible rfl)) | ((with_reducible apply WP.bd); case h => (simp (disch := omega) only [e_gR, e_gI, e_aI, e_aL, e_oO, e_pI, e_wI, e_wL, Option.map_some, mS_sL, mR_sL, mI_sL, mS_sI, mR_sI, mL_sI, n_cl, ro_m hR1]; with_reducible rfl)) | rw [nm_eq] | rw [ckZ_n1] | rw [ckZ_n0])
    by_cases c42 : tkG t s.1 = nI 42
    · have : sgk t s.1 = 13 := by unfold sgk; rw [c42]; rfl
      refine WP.it (by rw [tk_sn h4 _ sg_42]; exact c42) ?_
      unfold f_X10_term_J42
      repeat (first | ((with_reducible apply WP.ce); case h => (simp (disch := omega) only [a1]; with_reducible rfl)) | ((with_reducible apply WP.bd); case h => (simp (disch := omega) only [e_gR, e_gI, e_aI, e_aL, e_oO, e_pI, e_wI, e_wL, Option.map_some, mS_sL, mR_sL, mI_sL, mS_sI, mR_sI, mL_sI, n_cl, ro_m hR1]; with_reducible rfl)) | rw [nm_eq] | rw [ckZ_n1] | rw [ckZ_n0])
      exact WP.it (by rw [tk_sn h4 _ sg_42]; exact c42) (key 13 this (by decide))
    · refine WP.ie (by rw [tk_sn h4 _ sg_42]; exact c42) ?_
      repeat (first | ((with_reducible apply WP.ce); case h => (simp (disch := omega) only [a1]; with_reducible rfl)) | ((with_reducible apply WP.bd); case h => (simp (disch := omega) only [e_gR, e_gI, e_aI, e_aL, e_oO, e_pI, e_wI, e_wL, Option.map_some, mS_sL, mR_sL, mI_sL, mS_sI, mR_sI, mL_sI, n_cl, ro_m hR1]; with_reducible rfl)) | rw [nm_eq] | rw [ckZ_n1] | rw [ckZ_n0])
      by_cases c47 : tkG t s.1 = nI 47
      · have : sgk t s.1 = 14 := by unfold sgk; rw [c47]; rfl
        refine WP.it (by rw [tk_sn h4 _ sg_47]; exact c47) ?_
        unfold f_X10_term_J42
        repeat (first | ((with_reducible apply WP.ce); case h => (simp (disch := omega) only [a1]; with_reducible rfl)) | ((with_reducible apply WP.bd); case h => (simp (disch := omega) only [e_gR, e_gI, e_aI, e_aL, e_oO, e_pI, e_wI, e_wL, Option.map_some, mS_sL, mR_sL, mI_sL, mS_sI, mR_sI, mL_sI, n_cl, ro_m hR1]; with_reducible rfl)) | rw [nm_eq] | rw [ckZ_n1] | rw [ckZ_n0])
        refine WP.ie (by rw [tk_sn h4 _ sg_42]; exact c42) ?_
        repeat (first | ((with_reducible apply WP.ce); case h => (simp (disch := omega) only [a1]; with_reducible rfl)) | ((with_reducible apply WP.bd); case h => (simp (disch := omega) only [e_gR, e_gI, e_aI, e_aL, e_oO, e_pI, e_wI, e_wL, Option.map_some, mS_sL, mR_sL, mI_sL, mS_sI, mR_sI, mL_sI, n_cl, ro_m hR1]; with_reducible rfl)) | rw [nm_eq] | rw [ckZ_n1] | rw [ckZ_n0])
        exact WP.it (by rw [tk_sn h4 _ sg_47]; exact c47) (key 14 this (by decide))
      · refine WP.ie (by rw [tk_sn h4 _ sg_47]; exact c47) ?_
        repeat (first | ((with_reducible apply WP.ce); case h => (simp (disch := omega) only [a1]; with_reducible rfl)) | ((with_reducible apply WP.bd); case h => (simp (disch := omega) only [e_gR, e_gI, e_aI, e_aL, e_oO, e_pI, e_wI, e_wL, Option.map_some, mS_sL, mR_sL, mI_sL, mS_sI, mR_sI, mL_sI, n_cl, ro_m hR1]; with_reducible rfl)) | rw [nm_eq] | rw [ckZ_n1] | rw [ckZ_n0])
        by_cases c37 : tkG t s.1 = nI 37
        · have : sgk t s.1 = 15 := by unfold sgk; rw [c37]; rfl
          refine WP.it (by rw [tk_sn h4 _ sg_37]; exact c37) ?_
          unfold f_X10_term_J42
          repeat (first | ((with_reducible apply WP.ce); case h => (simp (disch := omega) only [a1]; with_reducible rfl)) | ((with_reducible apply WP.bd); case h => (simp (disch := omega) only [e_gR, e_gI, e_aI, e_aL, e_oO, e_pI, e_wI, e_wL, Option.map_some, mS_sL, mR_sL, mI_sL, mS_sI, mR_sI, mL_sI, n_cl, ro_m hR1]; with_reducible rfl)) | rw [nm_eq] | rw [ckZ_n1] | rw [ckZ_n0])
          refine WP.ie (by rw [tk_sn h4 _ sg_42]; exact c42) ?_
          repeat (first | ((with_reducible apply WP.ce); case h => (simp (disch := omega) only [a1]; with_reducible rfl)) | ((with_reducible apply WP.bd); case h => (simp (disch := omega) only [e_gR, e_gI, e_aI, e_aL, e_oO, e_pI, e_wI, e_wL, Option.map_some, mS_sL, mR_sL, mI_sL, mS_sI, mR_sI, mL_sI, n_cl, ro_m hR1]; with_reducible rfl)) | rw [nm_eq] | rw [ckZ_n1] | rw [ckZ_n0])
          exact WP.ie (by rw [tk_sn h4 _ sg_47]; exact c47) (key 15 this (by decide))
        · have : sgk t s.1 < 4 := by
            unfold sgk
            rw [if_neg c42, if_neg c47, if_neg c37]
            split
            · decide
            · split <;> decide
          refine WP.ie (by rw [tk_sn h4 _ sg_37]; exact c37) ?_
          unfold f_X10_term_J100
          exact WP.ret (Or.inl ⟨s, F, h0, rfl, rfl, this, Nat.le_refl _⟩)
/-- a term, behind what waits -/
theorem x_termK (h4 : TOk2 t) (hi : i < 6) (hb : 2 * e ≤ b) (hR : RIs (mS M) (mR M) m) (ht : RTp M m t) (h20 : mI M m 20 = nI i) (h26 : mI M m 26 = nI 11) {M1 : Mem} {p c : Nat} {pe : Option (Nat × RD)} {F : List (Nat × Nat)} (fr : FE m i e M M1) (hp : p ≤ t.1) (hc : c ≤ 60) (g19 : mI M1 m 19 = nI 0) (g18 : mI M1 m 18 = nI p) (g22 : mI M1 m 22 = nI (e + F.length)) (g24 : mI M1 m 24 = nI c) (hG : FG M1 m i e F) (hO : ∀ x ∈ F, eok x) (hv : ∀ v st, evl v F st = some (pe.elim st (fun q => q.2 v :: st))) (hbd : 2 * (F.length + pe.elim 0 (fun _ => 1)) + b ≤ p + 2 * c) :
    WP (f_X10_term m M1) (fun _ M' => (vlF t p c = 0 ∧ TMe m i e M t b (tkE t p, c + 1, pe, vlD t p) M') ∨ FLT m i e M M' t (vlF t p c)) := by
  have hL := h4.1
  obtain ⟨hR1, ht1, k20, k26⟩ := rd_of fr hR ht h20 h26
  have he2 : e + F.length < 300 := by omega
  unfold f_X10_term
  repeat (first | ((with_reducible apply WP.ce); case h => (simp (disch := omega) only []; with_reducible rfl)) | ((with_reducible apply WP.bd); case h => (simp (disch := omega) only [e_gR, e_gI, e_aI, e_aL, e_oO, e_pI, e_wI, e_wL, Option.map_some, mS_sL, mR_sL, mI_sL, mS_sI, mR_sI, mL_sI, n_cl, ro_m hR1]; with_reducible rfl)) | rw [nm_eq] | rw [ckZ_n1] | rw [ckZ_n0])
  refine WP.cw (x_value (c := c) h4 hi he2 (p := p) (fa := 0) hp (by decide) hR1 ht1 g18 g19 k20 k26 (fun _ => ⟨g22, g24, hc⟩)) (fun _ M3 q => ?_)
  obtain ⟨q1, q2, ⟨p', q3, q4⟩, q5⟩ := q
  rw [if_pos rfl] at q2
  have fr3 : FE m i e M M3 := fr.tr q1 (by omega)
  obtain ⟨hR3, ht3, l20, l26⟩ := rd_of fr3 hR ht h20 h26
  obtain ⟨f, hf⟩ := FUd 400 (by omega)
  by_cases hv0 : vlF t p c = 0
  · obtain ⟨⟨r18, r22, r24⟩, x, x1, x2, x3⟩ := q5 rfl hv0
    obtain ⟨n1, n2⟩ := vl_mv hp hv0
    have hc6 := (vlF_k hv0).2
    rw [hv0] at q2
    repeat (first | ((with_reducible apply WP.ce); case h => (simp (disch := omega) only []; with_reducible rfl)) | ((with_reducible apply WP.bd); case h => (simp (disch := omega) only [e_gR, e_gI, e_aI, e_aL, e_oO, e_pI, e_wI, e_wL, Option.map_some, mS_sL, mR_sL, mI_sL, mS_sI, mR_sI, mL_sI, n_cl, ro_m hR3]; with_reducible rfl)) | rw [nm_eq] | rw [ckZ_n1] | rw [ckZ_n0])
    refine WP.cw (bkw h4 hR3 ht3 n2 r18) (fun _ M5 w => ?_)
    obtain ⟨w1, w2, w3⟩ := w
    have gF : FG M3 m i e (F ++ [x]) := FG.app (q1.g hG (Nat.le_refl _)) x2
    have gF5 : FG M5 m i e (F ++ [x]) := fun j hj => by
      rw [w1.2.2.1 (m + 18) (by omega), w1.2.2.1 (m + 19) (by omega)]
      exact gF j hj
    have len : (F ++ [x]).length = F.length + 1 := by rw [List.length_append]; rfl
    rw [hf]
    refine WP.mono (x_termL h4 hi hb hR ht h20 h26 400 f (tkE t p, c + 1, pe, vlD t p) M5 (F ++ [x]) (by show t.1 - tkE t p ≤ 400; omega) ⟨fr3.tr (FM.FE w1) (Nat.le_refl _), ⟨by rw [w3 19 (by decide)]; exact q2, w2, by rw [w3 22 (by decide), r22, len]; rfl, by rw [w3 24 (by decide)]; exact r24⟩, ⟨gF5, fun y hy => by
      rcases List.mem_append.mp hy with z | z
      · exact hO y z
      · rw [List.mem_singleton.mp z]; exact x1⟩, fun v st => by
      rw [evl_app, hv v st]
      show (ent1 v x _).bind (evl v []) = _
      rw [x3]; rfl, ⟨n2, by show c + 1 ≤ 60; omega⟩, by
      rw [len]
      show 2 * (F.length + 1 + pe.elim 0 (fun _ => 1)) + 1 + b ≤ tkE t p + 2 * (c + 1)
      omega⟩) (fun _ M' q => Or.inl ⟨hv0, q⟩)
  · have hlt := vlF_lt h4 (c := c) hp
    repeat (first | ((with_reducible apply WP.ce); case h => (simp (disch := omega) only []; with_reducible rfl)) | ((with_reducible apply WP.bd); case h => (simp (disch := omega) only [e_gR, e_gI, e_aI, e_aL, e_oO, e_pI, e_wI, e_wL, Option.map_some, mS_sL, mR_sL, mI_sL, mS_sI, mR_sI, mL_sI, n_cl, ro_m hR3]; with_reducible rfl)) | rw [nm_eq] | rw [ckZ_n1] | rw [ckZ_n0])
    refine WP.cw (bkw h4 hR3 ht3 q3 q4) (fun _ M5 w => ?_)
    obtain ⟨w1, w2, w3⟩ := w
    rw [hf]
    exact WP.mono (x_termF hR (fr3.tr (FM.FE w1) (Nat.le_refl _)) hv0 hlt (by rw [w3 19 (by decide)]; exact q2) (bk_le q3) w2) (fun _ M' q => Or.inr q)
theorem smR_join (h4 : TOk2 t) {p c k : Nat} {A B : RD} (hp : p ≤ t.1) (h : sgk t p < 4) : smR t (p, c, some (k, A), B) = smR t (p, c, none, fun v => opr k (A v) (B v)) := by
  have : smS t (p, c, some (k, A), B) = smS t (p, c, none, fun v => opr k (A v) (B v)) := by
    unfold smS
    dsimp only
    by_cases h0 : sgk t p = 0
    · rw [if_pos h0, if_pos h0]; rfl
    · rw [if_neg h0, if_neg h0]
      by_cases h1 : vlF t (tkE t p) c = 0
      · rw [if_pos h1, if_pos h1, if_pos h, if_pos h]; rfl
      · rw [if_neg h1, if_neg h1]
  rw [smR_st h4 hp, smR_st h4 hp, this]
/-- how a sum ends -/
def SMe (m i e : Nat) (M : Mem) (t : TP) (fa : Nat) (r : SRs) (b : Nat) (M' : Mem) : Prop := FE m i e M M' ∧ mI M' m 19 = nI (if fa = 0 then r.1 else fa) ∧ (∃ p', p' ≤ t.1 ∧ mI M' m 18 = nI p') ∧ (fa = 0 → r.1 = 0 → (mI M' m 18 = nI (bk t r.2.1) ∧ mI M' m 24 = nI r.2.2.1) ∧ ∃ F, mI M' m 22 = nI (e + F.length) ∧ FG M' m i e F ∧ (∀ x ∈ F, eok x) ∧ (∀ v st, evl v F st = some (r.2.2.2 v :: st)) ∧ 2 * F.length + b ≤ r.2.1 + 2 * r.2.2.1 ∧ 0 < F.length)
theorem FLT.sm {M' : Mem} {r : SRs} (h : FLT m i e M M' t r.1) : SMe m i e M t 0 r b M' := by
  obtain ⟨h0, h1, h2, h3⟩ := h
  exact ⟨h1, by rw [if_pos rfl]; exact h2, h3, fun _ z => absurd z h0⟩
theorem x_sumF {M1 : Mem} (hR : RIs (mS M) (mR M) m) {fa f : Nat} (hfa : fa < 10000) (h : FLT m i e M M1 t fa) : WP (f_X10_sum_L4 m (f + 1) M1) (fun _ M' => FLT m i e M M' t fa) := by
  have hR1 := h.2.1.RI hR
  have h19 := h.2.2.1
  rw [f_X10_sum_L4]
  repeat (first | ((with_reducible apply WP.ce); case h => (simp (disch := omega) only []; with_reducible rfl)) | ((with_reducible apply WP.bd); case h => (simp (disch := omega) only [e_gR, e_gI, e_aI, e_aL, e_oO, e_pI, e_wI, e_wL, Option.map_some, mS_sL, mR_sL, mI_sL, mS_sI, mR_sI, mL_sI, n_cl, ro_m hR1, h19]; with_reducible rfl)) | rw [nm_eq] | rw [ckZ_n1] | rw [ckZ_n0])
  refine WP.ie (by rw [nIz (by omega)]; exact h.1) ?_
  unfold f_X10_sum_J67
  exact WP.ret h
theorem x_sumL (h4 : TOk2 t) (hi : i < 6) (hb : 2 * e ≤ b) (hR : RIs (mS M) (mR M) m) (ht : RTp M m t) (h20 : mI M m 20 = nI i) (h26 : mI M m 26 = nI 11) : ∀ d f (s : SSt) (M1 : Mem) (F : List (Nat × Nat)), t.1 - s.1 ≤ d → RSS m i e M M1 t b s F → s.2.2.1 = none → sgk t s.1 < 4 → 0 < F.length → WP (f_X10_sum_L4 m (f + d + 1) M1) (fun _ M' => SMe m i e M t 0 (smR t s) b M') := by
  have hL := h4.1
  intro d
  induction d with
  | zero =>
    intro f s M1 F hd h hn hs4 hF0
    obtain ⟨fr, ⟨g19, g18, g22, g24⟩, ⟨hG, hO⟩, hv, ⟨hp, hc⟩, hbd⟩ := h
    obtain ⟨hR1, ht1, k20, k26⟩ := rd_of fr hR ht h20 h26
    have hb1 := bk_le hp
    have hb2 := bk_ge t s.1
    have k0 : tkK t s.1 = 0 := by rw [tk_end]; omega
    have s0 : sgk t s.1 = 0 := by
      rcases Nat.eq_zero_or_pos (sgk t s.1) with z | z
      · exact z
      · have := sgk_k (t := t) (p := s.1) (by omega); omega
    have ns : ∀ c, sgc c → ¬ sgn t (bk t s.1) = nI c := fun c hc z => by
      rw [tk_sn h4 _ hc] at z
      have := tkG_k (by have := hc.1; omega) z
      omega
    have a1 := r_sign hR1 ht1 h4 g18 (by omega)
    have hst : smS t s = .inl (0, s.1, s.2.1, s.2.2.2) := by
      unfold smS
      rw [if_pos s0, hn]; rfl
    rw [smR_l h4 hp hst, f_X10_sum_L4]
    repeat (first | ((with_reducible apply WP.ce); case h => (simp (disch := omega) only []; with_reducible rfl)) | ((with_reducible apply WP.bd); case h => (simp (disch := omega) only [e_gR, e_gI, e_aI, e_aL, e_oO, e_pI, e_wI, e_wL, Option.map_some, mS_sL, mR_sL, mI_sL, mS_sI, mR_sI, mL_sI, n_cl, ro_m hR1, g19]; with_reducible rfl)) | rw [nm_eq] | rw [ckZ_n1] | rw [ckZ_n0])
    refine WP.it rfl ?_
    repeat (first | ((with_reducible apply WP.ce); case h => (simp (disch := omega) only [a1]; with_reducible rfl)) | ((with_reducible apply WP.bd); case h => (simp (disch := omega) only [e_gR, e_gI, e_aI, e_aL, e_oO, e_pI, e_wI, e_wL, Option.map_some, mS_sL, mR_sL, mI_sL, mS_sI, mR_sI, mL_sI, n_cl, ro_m hR1]; with_reducible rfl)) | rw [nm_eq] | rw [ckZ_n1] | rw [ckZ_n0])
    refine WP.ie (ns 43 sg_43) ?_
    repeat (first | ((with_reducible apply WP.ce); case h => (simp (disch := omega) only [a1]; with_reducible rfl)) | ((with_reducible apply WP.bd); case h => (simp (disch := omega) only [e_gR, e_gI, e_aI, e_aL, e_oO, e_pI, e_wI, e_wL, Option.map_some, mS_sL, mR_sL, mI_sL, mS_sI, mR_sI, mL_sI, n_cl, ro_m hR1]; with_reducible rfl)) | rw [nm_eq] | rw [ckZ_n1] | rw [ckZ_n0])
    refine WP.ie (ns 45 sg_45) ?_
    unfold f_X10_sum_J67
    rw [hn] at hv hbd
    have hbd : 2 * (F.length + 0) + 1 + b ≤ s.1 + 2 * s.2.1 := hbd
    exact WP.ret ⟨fr, g19, ⟨_, hb1, g18⟩, fun _ _ => ⟨⟨g18, g24⟩, F, g22, hG, hO, hv, by show 2 * F.length + b ≤ s.1 + 2 * s.2.1; omega, hF0⟩⟩
  | succ d ih =>
    intro f s M1 F hd h hn hs4 hF0
    obtain ⟨fr, ⟨g19, g18, g22, g24⟩, ⟨hG, hO⟩, hv, ⟨hp, hc⟩, hbd⟩ := h
    obtain ⟨hR1, ht1, k20, k26⟩ := rd_of fr hR ht h20 h26
    have hb1 := bk_le hp
    have a1 := r_sign hR1 ht1 h4 g18 (by omega)
    rw [hn] at hv hbd
    have hbd : 2 * (F.length + 0) + 1 + b ≤ s.1 + 2 * s.2.1 := hbd
    have key : ∀ k, sgk t s.1 = k → k ≠ 0 → WP (f_X10_sum_J43 (f_X10_sum_L4 m (f + d + 1)) m (nI k) M1) (fun _ M' => SMe m i e M t 0 (smR t s) b M') := by
      intro k hk hk0
      have hk5 : k = 2 ∨ k = 3 := by have := sgk_cs t s.1; omega
      have hE := sgk_E h4 (p := s.1) (by omega)
      obtain ⟨m1, m2⟩ := sg_mv hp (show sgk t s.1 ≠ 0 by omega)
      obtain ⟨M2, hM2⟩ : ∃ M2, M2 = sI M1 m 18 (nI (tkE t s.1)) := ⟨_, rfl⟩
      have fr2 : FE m i e M M2 := fr.tr (by rw [hM2]; exact FE.ws M1 (Or.inl rfl) _ : FE m i e M1 M2) (Nat.le_refl _)
      obtain ⟨hR2, ht2, j20, j26⟩ := rd_of fr2 hR ht h20 h26
      have j18 : mI M2 m 18 = nI (tkE t s.1) := by rw [hM2, mI_sI, if_pos ⟨rfl, rfl⟩]
      have jk : ∀ k, k ≠ 18 → mI M2 m k = mI M1 m k := fun k hk => by rw [hM2, mI_sI, if_neg (by omega)]
      have hG2 : FG M2 m i e F := fun j hj => by rw [hM2, sI_row (by omega), sI_row (by omega)]; exact hG j hj
      unfold f_X10_sum_J43
      repeat (first | ((with_reducible apply WP.ce); case h => (simp (disch := omega) only []; with_reducible rfl)) | ((with_reducible apply WP.bd); case h => (simp (disch := omega) only [e_gR, e_gI, e_aI, e_aL, e_oO, e_pI, e_wI, e_wL, Option.map_some, mS_sL, mR_sL, mI_sL, mS_sI, mR_sI, mL_sI, n_cl, ro_m hR1, g18, n_add, ← hE, ← hM2]; with_reducible rfl)) | rw [nm_eq] | rw [ckZ_n1] | rw [ckZ_n0])
      repeat (first | ((with_reducible apply WP.ce); case h => (simp (disch := omega) only []; with_reducible rfl)) | ((with_reducible apply WP.bd); case h => (simp (disch := omega) only [e_gR, e_gI, e_aI, e_aL, e_oO, e_pI, e_wI, e_wL, Option.map_some, mS_sL, mR_sL, mI_sL, mS_sI, mR_sI, mL_sI, n_cl, ro_m hR2]; with_reducible rfl)) | rw [nm_eq] | rw [ckZ_n1] | rw [ckZ_n0])
      refine WP.cw (x_termK h4 hi hb hR ht h20 h26 (p := tkE t s.1) (c := s.2.1) (pe := some (k, s.2.2.2)) fr2 m2 hc (by rw [jk 19 (by decide)]; exact g19) j18 (by rw [jk 22 (by decide)]; exact g22) (by rw [jk 24 (by decide)]; exact g24) hG2 hO hv (by show 2 * (F.length + 1) + b ≤ _; omega)) (fun _ M3 q => ?_)
      rcases q with ⟨hv0, q⟩ | q
      · have hst : smS t s = .inr (tkE t (tkE t s.1), s.2.1 + 1, some (k, s.2.2.2), vlD t (tkE t s.1)) := by
          unfold smS
          rw [if_neg (by omega), if_pos hv0, if_pos (by omega), hk, hn]; rfl
        obtain ⟨n1, n2⟩ := vl_mv m2 hv0
        rw [smR_r h4 hp hst]
        rcases q with ⟨s', F', c1, c2, c3, c4, c5⟩ | q
        · obtain ⟨fr3, ⟨u19, u18, u22, u24⟩, ⟨uG, uO⟩, uv, ⟨up, uc⟩, ubd⟩ := c1
          obtain ⟨hR3, ht3, l20, l26⟩ := rd_of fr3 hR ht h20 h26
          obtain ⟨p', c', pe', cur'⟩ := s'
          have c3 : pe' = some (k, s.2.2.2) := c3
          subst c3
          have up : p' ≤ t.1 := up
          have uc : c' ≤ 60 := uc
          have ubd : 2 * (F'.length + 1) + 1 + b ≤ p' + 2 * c' := ubd
          have c5 : tkE t (tkE t s.1) ≤ p' := c5
          have u22 : mI M3 m 22 = nI (e + F'.length) := u22
          have a3 := r_entry (k := k) (n := 0) hR3 hi (e := e + F'.length) (by omega) u19 l20 u22
          obtain ⟨M4, hM4⟩ : ∃ M4, M4 = enM M3 m i (e + F'.length) k 0 := ⟨_, rfl⟩
          rw [← hM4] at a3
          have fr34 : FE m i (e + F'.length) M3 M4 := by rw [hM4]; exact enM_F M3 k 0 (by omega)
          have fr4 : FE m i e M M4 := fr3.tr fr34 (by omega)
          have e4 : ∀ j, j ≠ 22 → mI M4 m j = mI M3 m j := fun j hj => by rw [hM4, enM_m, if_neg hj]
          have len : (F' ++ [(k, 0)]).length = F'.length + 1 := by rw [List.length_append]; rfl
          have gF4 : FG M4 m i e (F' ++ [(k, 0)]) := FG.app (fr34.g uG (Nat.le_refl _)) (by rw [hM4]; exact enM_g M3 k 0)
          rw [c2, smR_join h4 up c4]
          repeat (first | ((with_reducible apply WP.ce); case h => (simp (disch := omega) only [a3]; with_reducible rfl)) | ((with_reducible apply WP.bd); case h => (simp (disch := omega) only [e_gR, e_gI, e_aI, e_aL, e_oO, e_pI, e_wI, e_wL, Option.map_some, mS_sL, mR_sL, mI_sL, mS_sI, mR_sI, mL_sI, n_cl, ro_m hR3]; with_reducible rfl)) | rw [nm_eq] | rw [ckZ_n1] | rw [ckZ_n0])
          exact ih f (p', c', none, fun v => opr k (s.2.2.2 v) (cur' v)) M4 (F' ++ [(k, 0)]) (by show t.1 - p' ≤ d; omega) ⟨fr4, ⟨by rw [e4 19 (by decide)]; exact u19, by rw [e4 18 (by decide)]; exact u18, by rw [hM4, enM_m, if_pos rfl, len]; rfl, by rw [e4 24 (by decide)]; exact u24⟩, ⟨gF4, fun y hy => by
            rcases List.mem_append.mp hy with z | z
            · exact uO y z
            · rw [List.mem_singleton.mp z]
              exact ⟨by show k = 0 ∨ _; omega, by show 0 < 100000; decide, fun z => by have z : k = 1 := z; omega⟩⟩, fun v st => by
            rw [evl_app, uv v st]
            show (ent1 v (k, 0) (cur' v :: s.2.2.2 v :: st)).bind (evl v []) = _
            rw [ent_b (by omega), bth_op (by omega)]; rfl, ⟨up, uc⟩, by
            rw [len]
            show 2 * (F'.length + 1 + 0) + 1 + b ≤ p' + 2 * c'
            omega⟩ rfl c4 (by rw [len]; omega)
        · have hlt := (smR_ok h4 t.1 (tkE t (tkE t s.1), s.2.1 + 1, some (k, s.2.2.2), vlD t (tkE t s.1)) (Nat.sub_le _ _) n2 (by have := (vlF_k hv0).2; show s.2.1 + 1 ≤ 60; omega)).1
          have hR3 := q.2.1.RI hR
          have a3 := r_entry0 hR3 q.1 hlt q.2.2.1 (nI k) (nI 0)
          repeat (first | ((with_reducible apply WP.ce); case h => (simp (disch := omega) only [a3]; with_reducible rfl)) | ((with_reducible apply WP.bd); case h => (simp (disch := omega) only [e_gR, e_gI, e_aI, e_aL, e_oO, e_pI, e_wI, e_wL, Option.map_some, mS_sL, mR_sL, mI_sL, mS_sI, mR_sI, mL_sI, n_cl, ro_m hR3]; with_reducible rfl)) | rw [nm_eq] | rw [ckZ_n1] | rw [ckZ_n0])
          exact WP.mono (x_sumF (f := f + d) hR hlt q) (fun _ M' q => q.sm)
      · have hlt := vlF_lt h4 (c := s.2.1) m2
        have hst : smS t s = .inl (vlF t (tkE t s.1) s.2.1, s.1, s.2.1, fun _ => 0) := by
          unfold smS
          rw [if_neg (by omega), if_neg q.1]
        rw [smR_l h4 hp hst]
        have hR3 := q.2.1.RI hR
        have a3 := r_entry0 hR3 q.1 hlt q.2.2.1 (nI k) (nI 0)
        repeat (first | ((with_reducible apply WP.ce); case h => (simp (disch := omega) only [a3]; with_reducible rfl)) | ((with_reducible apply WP.bd); case h => (simp (disch := omega) only [e_gR, e_gI, e_aI, e_aL, e_oO, e_pI, e_wI, e_wL, Option.map_some, mS_sL, mR_sL, mI_sL, mS_sI, mR_sI, mL_sI, n_cl, ro_m hR3]; with_reducible rfl)) | rw [nm_eq] | rw [ckZ_n1] | rw [ckZ_n0])
        exact WP.mono (x_sumF (f := f + d) hR hlt q) (fun _ M' q => FLT.sm (r := (vlF t (tkE t s.1) s.2.1, s.1, s.2.1, fun _ => 0)) q)
    rw [show f + (d + 1) + 1 = (f + d + 1) + 1 from by omega, f_X10_sum_L4]
    repeat (first | ((with_reducible apply WP.ce); case h => (simp (disch := omega) only []; with_reducible rfl)) | ((with_reducible apply WP.bd); case h => (simp (disch := omega) only [e_gR, e_gI, e_aI, e_aL, e_oO, e_pI, e_wI, e_wL, Option.map_some, mS_sL, mR_sL, mI_sL, mS_sI, mR_sI, mL_sI, n_cl, ro_m hR1, g19]; with_reducible rfl)) | rw [nm_eq] | rw [ckZ_n1] | rw [ckZ_n0])
    refine WP.it rfl ?_
    repeat (first | ((with_reducible apply WP.ce); case h => (simp (disch := omega) only [a1]; with_reducible rfl)) | ((with_reducible apply WP.bd); case h => (simp (disch := omega) only [e_gR, e_gI, e_aI, e_aL, e_oO, e_pI, e_wI, e_wL, Option.map_some, mS_sL, mR_sL, mI_sL, mS_sI, mR_sI, mL_sI, n_cl, ro_m hR1]; with_reducible rfl)) | rw [nm_eq] | rw [ckZ_n1] | rw [ckZ_n0])
    by_cases c43 : tkG t s.1 = nI 43
    · have : sgk t s.1 = 2 := by unfold sgk; rw [if_pos c43]
      refine WP.it (by rw [tk_sn h4 _ sg_43]; exact c43) ?_
      unfold f_X10_sum_J29
      repeat (first | ((with_reducible apply WP.ce); case h => (simp (disch := omega) only [a1]; with_reducible rfl)) | ((with_reducible apply WP.bd); case h => (simp (disch := omega) only [e_gR, e_gI, e_aI, e_aL, e_oO, e_pI, e_wI, e_wL, Option.map_some, mS_sL, mR_sL, mI_sL, mS_sI, mR_sI, mL_sI, n_cl, ro_m hR1]; with_reducible rfl)) | rw [nm_eq] | rw [ckZ_n1] | rw [ckZ_n0])
      exact WP.it (by rw [tk_sn h4 _ sg_43]; exact c43) (key 2 this (by decide))
    · refine WP.ie (by rw [tk_sn h4 _ sg_43]; exact c43) ?_
      repeat (first | ((with_reducible apply WP.ce); case h => (simp (disch := omega) only [a1]; with_reducible rfl)) | ((with_reducible apply WP.bd); case h => (simp (disch := omega) only [e_gR, e_gI, e_aI, e_aL, e_oO, e_pI, e_wI, e_wL, Option.map_some, mS_sL, mR_sL, mI_sL, mS_sI, mR_sI, mL_sI, n_cl, ro_m hR1]; with_reducible rfl)) | rw [nm_eq] | rw [ckZ_n1] | rw [ckZ_n0])
      by_cases c45 : tkG t s.1 = nI 45
      · have : sgk t s.1 = 3 := by unfold sgk; rw [if_neg c43, if_pos c45]
        refine WP.it (by rw [tk_sn h4 _ sg_45]; exact c45) ?_
        unfold f_X10_sum_J29
        repeat (first | ((with_reducible apply WP.ce); case h => (simp (disch := omega) only [a1]; with_reducible rfl)) | ((with_reducible apply WP.bd); case h => (simp (disch := omega) only [e_gR, e_gI, e_aI, e_aL, e_oO, e_pI, e_wI, e_wL, Option.map_some, mS_sL, mR_sL, mI_sL, mS_sI, mR_sI, mL_sI, n_cl, ro_m hR1]; with_reducible rfl)) | rw [nm_eq] | rw [ckZ_n1] | rw [ckZ_n0])
        exact WP.ie (by rw [tk_sn h4 _ sg_43]; exact c43) (key 3 this (by decide))
      · have s0 : sgk t s.1 = 0 := by
          have h1 : sgk t s.1 ≠ 2 := fun z => by
            unfold sgk at z
            rw [if_neg c43, if_neg c45] at z
            split at z
            · cases z
            · split at z
              · cases z
              · split at z <;> cases z
          have h2 : sgk t s.1 ≠ 3 := fun z => by
            unfold sgk at z
            rw [if_neg c43, if_neg c45] at z
            split at z
            · cases z
            · split at z
              · cases z
              · split at z <;> cases z
          have := sgk_cs t s.1
          omega
        refine WP.ie (by rw [tk_sn h4 _ sg_45]; exact c45) ?_
        have hst : smS t s = .inl (0, s.1, s.2.1, s.2.2.2) := by
          unfold smS
          rw [if_pos s0, hn]; rfl
        rw [smR_l h4 hp hst]
        unfold f_X10_sum_J67
        exact WP.ret ⟨fr, g19, ⟨_, hb1, g18⟩, fun _ _ => ⟨⟨g18, g24⟩, F, g22, hG, hO, hv, by show 2 * F.length + b ≤ s.1 + 2 * s.2.1; omega, hF0⟩⟩
theorem x_sum (h4 : TOk2 t) (hi : i < 6) {p c : Nat} (hb : 2 * e ≤ p + 2 * c) (hR : RIs (mS M) (mR M) m) (ht : RTp M m t) (h20 : mI M m 20 = nI i) (h26 : mI M m 26 = nI 11) (hp : p ≤ t.1) (hc : c ≤ 60) (g19 : mI M m 19 = nI 0) (g18 : mI M m 18 = nI p) (g22 : mI M m 22 = nI e) (g24 : mI M m 24 = nI c) :
    WP (f_X10_sum m M) (fun _ M' => SMe m i e M t 0 (smP t p c) (p + 2 * c) M') := by
  have hL := h4.1
  unfold f_X10_sum
  repeat (first | ((with_reducible apply WP.ce); case h => (simp (disch := omega) only []; with_reducible rfl)) | ((with_reducible apply WP.bd); case h => (simp (disch := omega) only [e_gR, e_gI, e_aI, e_aL, e_oO, e_pI, e_wI, e_wL, Option.map_some, mS_sL, mR_sL, mI_sL, mS_sI, mR_sI, mL_sI, n_cl, ro_m hR]; with_reducible rfl)) | rw [nm_eq] | rw [ckZ_n1] | rw [ckZ_n0])
  refine WP.cw (x_termK h4 hi hb hR ht h20 h26 (p := p) (c := c) (pe := none) (F := []) (FE.rf m i e M) hp hc g19 g18 g22 g24 (fun j hj => absurd hj (Nat.not_lt_zero j)) (fun x hx => by cases hx) (fun v st => rfl) (by show 2 * (0 + 0) + (p + 2 * c) ≤ _; omega)) (fun _ M3 q => ?_)
  obtain ⟨f, hf⟩ := FUd 400 (by omega)
  rw [hf]
  rcases q with ⟨hv0, q⟩ | q
  · have ep : smP t p c = smR t (tkE t p, c + 1, none, vlD t p) := by unfold smP; rw [if_pos hv0]
    obtain ⟨n1, n2⟩ := vl_mv hp hv0
    rw [ep]
    rcases q with ⟨s', F', c1, c2, c3, c4, c5⟩ | q
    · rw [c2]
      have up := c1.2.2.2.2.1.1
      have hF0 : 0 < F'.length := by
        cases F' with
        | nil => have := c1.2.2.2.1 (fun _ => 0) []; cases s'.2.2.1 <;> cases this
        | cons a b => show 0 < b.length + 1; omega
      exact x_sumL h4 hi hb hR ht h20 h26 400 f s' M3 F' (by omega) c1 c3 c4 hF0
    · have hlt := (smR_ok h4 t.1 (tkE t p, c + 1, none, vlD t p) (Nat.sub_le _ _) n2 (by have := (vlF_k hv0).2; show c + 1 ≤ 60; omega)).1
      exact WP.mono (x_sumF (f := f + 400) hR hlt q) (fun _ M' q => q.sm)
  · have ep : smP t p c = (vlF t p c, 0, 0, fun _ => 0) := by unfold smP; rw [if_neg q.1]
    rw [ep]
    exact WP.mono (x_sumF (f := f + 400) hR (vlF_lt h4 hp) q) (fun _ M' q => FLT.sm (r := (vlF t p c, 0, 0, fun _ => 0)) q)
/-- behind a fault a sum changes nothing that counts -/
theorem x_sumW (h4 : TOk2 t) (hi : i < 6) (he : e < 300) (hR : RIs (mS M) (mR M) m) (ht : RTp M m t) (h20 : mI M m 20 = nI i) (h26 : mI M m 26 = nI 11) {fa p : Nat} (h0 : fa ≠ 0) (hfa : fa < 10000) (hp : p ≤ t.1) (g19 : mI M m 19 = nI fa) (g18 : mI M m 18 = nI p) : WP (f_X10_sum m M) (fun _ M' => FLT m i e M M' t fa) := by
  have hL := h4.1
  unfold f_X10_sum
  repeat (first | ((with_reducible apply WP.ce); case h => (simp (disch := omega) only []; with_reducible rfl)) | ((with_reducible apply WP.bd); case h => (simp (disch := omega) only [e_gR, e_gI, e_aI, e_aL, e_oO, e_pI, e_wI, e_wL, Option.map_some, mS_sL, mR_sL, mI_sL, mS_sI, mR_sI, mL_sI, n_cl, ro_m hR]; with_reducible rfl)) | rw [nm_eq] | rw [ckZ_n1] | rw [ckZ_n0])
  have tm : WP (f_X10_term m M) (fun _ M' => FLT m i e M M' t fa) := by
    unfold f_X10_term
    repeat (first | ((with_reducible apply WP.ce); case h => (simp (disch := omega) only []; with_reducible rfl)) | ((with_reducible apply WP.bd); case h => (simp (disch := omega) only [e_gR, e_gI, e_aI, e_aL, e_oO, e_pI, e_wI, e_wL, Option.map_some, mS_sL, mR_sL, mI_sL, mS_sI, mR_sI, mL_sI, n_cl, ro_m hR]; with_reducible rfl)) | rw [nm_eq] | rw [ckZ_n1] | rw [ckZ_n0])
    refine WP.cw (x_value (c := 0) h4 hi he (p := p) (fa := fa) hp hfa hR ht g18 g19 h20 h26 (fun z => absurd z h0)) (fun _ M3 q => ?_)
    obtain ⟨q1, q2, ⟨p', q3, q4⟩, -⟩ := q
    rw [if_neg h0] at q2
    obtain ⟨hR3, ht3, l20, l26⟩ := rd_of q1 hR ht h20 h26
    repeat (first | ((with_reducible apply WP.ce); case h => (simp (disch := omega) only []; with_reducible rfl)) | ((with_reducible apply WP.bd); case h => (simp (disch := omega) only [e_gR, e_gI, e_aI, e_aL, e_oO, e_pI, e_wI, e_wL, Option.map_some, mS_sL, mR_sL, mI_sL, mS_sI, mR_sI, mL_sI, n_cl, ro_m hR3]; with_reducible rfl)) | rw [nm_eq] | rw [ckZ_n1] | rw [ckZ_n0])
    refine WP.cw (bkw h4 hR3 ht3 q3 q4) (fun _ M5 w => ?_)
    obtain ⟨w1, w2, w3⟩ := w
    obtain ⟨f, hf⟩ := FUd 0 (by omega)
    rw [hf]
    exact x_termF hR (q1.tr (FM.FE w1) (Nat.le_refl _)) h0 hfa (by rw [w3 19 (by decide)]; exact q2) (bk_le q3) w2
  refine WP.cw tm (fun _ M3 q => ?_)
  obtain ⟨f, hf⟩ := FUd 0 (by omega)
  rw [hf]
  exact x_sumF hR hfa q
end RSM
