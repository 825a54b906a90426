/-! THE REFERENCE: sums compared -/
theorem sgn_lt {t : TP} {p : Nat} (h : p < t.1) : sgn t p = nI (t.2 p) := by unfold sgn; rw [if_pos h]
theorem tkK_3 {t : TP} {p : Nat} (h : bk t p < t.1) (h1 : isDg (t.2 (bk t p)) = false) (h2 : isLt (t.2 (bk t p)) = false) : tkK t p = 3 := by
  unfold tkK
  rw [if_neg (by omega), h1, if_neg (by decide), h2, if_neg (by decide)]
theorem two_eq {t : TP} (h4 : TOk2 t) {s : Nat} (hy : t.2 s = 60 ∨ t.2 s = 62) : (two t s = true) = (sgn t (s + 1) = nI 61) := by
  rw [sgn_eq h4 _ (by decide)]
  unfold two
  have : (decide (t.2 s = 60) || decide (t.2 s = 62)) = true := by
    rcases hy with z | z
    · rw [decide_eq_true z]; rfl
    · rw [decide_eq_true z, Bool.or_true]
  rw [this, Bool.true_and, eq_iff_iff, Bool.and_eq_true_iff, decide_eq_true_iff, decide_eq_true_iff]
/-- the sign that compares -/
theorem cm_cs {t : TP} (h4 : TOk2 t) (p : Nat) :
    (sgn t (bk t p) = nI 60 ∧ ¬ sgn t (bk t p + 1) = nI 61 ∧ cmk t p = 4 ∧ tkE t p = bk t p + 1) ∨ (sgn t (bk t p) = nI 60 ∧ sgn t (bk t p + 1) = nI 61 ∧ cmk t p = 5 ∧ tkE t p = bk t p + 2) ∨ (sgn t (bk t p) = nI 61 ∧ cmk t p = 6 ∧ tkE t p = bk t p + 1) ∨
    (sgn t (bk t p) = nI 62 ∧ sgn t (bk t p + 1) = nI 61 ∧ cmk t p = 7 ∧ tkE t p = bk t p + 2) ∨ (sgn t (bk t p) = nI 62 ∧ ¬ sgn t (bk t p + 1) = nI 61 ∧ cmk t p = 8 ∧ tkE t p = bk t p + 1) ∨ ((¬ sgn t (bk t p) = nI 60 ∧ ¬ sgn t (bk t p) = nI 61 ∧ ¬ sgn t (bk t p) = nI 62) ∧ cmk t p = 0) := by
  have hy := h4.2 (bk t p)
  by_cases hb : bk t p < t.1
  · have es := sgn_lt hb
    by_cases y60 : t.2 (bk t p) = 60
    · have k3 := tkK_3 hb (by rw [y60]; rfl) (by rw [y60]; rfl)
      have e2 := two_eq h4 (s := bk t p) (Or.inl y60)
      by_cases c : two t (bk t p) = true
      · refine Or.inr (Or.inl ⟨by rw [es, y60], by rw [← e2]; exact c, ?_, ?_⟩)
        · have : tkG t p = nI 316 := by unfold tkG; rw [if_pos k3, if_pos c, y60]
          unfold cmk
          rw [this]; rfl
        · unfold tkE
          rw [k3, if_neg (by decide), if_neg (by decide), if_neg (by decide), if_pos c]
      · refine Or.inl ⟨by rw [es, y60], by rw [← e2]; exact c, ?_, ?_⟩
        · have : tkG t p = nI 60 := by unfold tkG; rw [if_pos k3, if_neg c, y60]
          unfold cmk
          rw [if_pos this]
        · unfold tkE
          rw [k3, if_neg (by decide), if_neg (by decide), if_neg (by decide), if_neg c]
    · by_cases y62 : t.2 (bk t p) = 62
      · have k3 := tkK_3 hb (by rw [y62]; rfl) (by rw [y62]; rfl)
        have e2 := two_eq h4 (s := bk t p) (Or.inr y62)
        by_cases c : two t (bk t p) = true
        · refine Or.inr (Or.inr (Or.inr (Or.inl ⟨by rw [es, y62], by rw [← e2]; exact c, ?_, ?_⟩)))
          · have : tkG t p = nI 318 := by unfold tkG; rw [if_pos k3, if_pos c, y62]
            unfold cmk
            rw [this]; rfl
          · unfold tkE
            rw [k3, if_neg (by decide), if_neg (by decide), if_neg (by decide), if_pos c]
        · refine Or.inr (Or.inr (Or.inr (Or.inr (Or.inl ⟨by rw [es, y62], by rw [← e2]; exact c, ?_, ?_⟩))))
          · have : tkG t p = nI 62 := by unfold tkG; rw [if_pos k3, if_neg c, y62]
            unfold cmk
            rw [this]; rfl
          · unfold tkE
            rw [k3, if_neg (by decide), if_neg (by decide), if_neg (by decide), if_neg c]
      · have n2 : two t (bk t p) = false := by
          unfold two
          rw [decide_eq_false y60, decide_eq_false y62]; rfl
        by_cases y61 : t.2 (bk t p) = 61
        · have k3 := tkK_3 hb (by rw [y61]; rfl) (by rw [y61]; rfl)
          refine Or.inr (Or.inr (Or.inl ⟨by rw [es, y61], ?_, ?_⟩))
          · have : tkG t p = nI 61 := by unfold tkG; rw [if_pos k3, n2, if_neg (by decide), y61]
            unfold cmk
            rw [this]; rfl
          · unfold tkE
            rw [k3, if_neg (by decide), if_neg (by decide), if_neg (by decide), n2, if_neg (by decide)]
        · refine Or.inr (Or.inr (Or.inr (Or.inr (Or.inr ⟨⟨?_, ?_, ?_⟩, ?_⟩))))
          · rw [es, n_eq (by omega) (by decide)]; exact y60
          · rw [es, n_eq (by omega) (by decide)]; exact y61
          · rw [es, n_eq (by omega) (by decide)]; exact y62
          · have ng : ∀ c, c = 60 ∨ c = 61 ∨ c = 62 ∨ c = 316 ∨ c = 318 → ¬ tkG t p = nI c := fun c hc z => by
              have k3 := tkG_k (by omega) z
              unfold tkG at z
              rw [if_pos k3, n2, if_neg (by decide), n_eq (by omega) (by omega)] at z
              omega
            unfold cmk
            rw [if_neg (ng 60 (by omega)), if_neg (ng 316 (by omega)), if_neg (ng 61 (by omega)), if_neg (ng 318 (by omega)), if_neg (ng 62 (by omega))]
  · have es : sgn t (bk t p) = -1 := by unfold sgn; rw [if_neg hb]
    have k0 : tkK t p = 0 := by rw [tk_end]; omega
    have ng : ∀ c, c < 1000 → ¬ tkG t p = nI c := fun c hc z => by have := tkG_k hc z; omega
    refine Or.inr (Or.inr (Or.inr (Or.inr (Or.inr ⟨⟨?_, ?_, ?_⟩, ?_⟩))))
    · rw [es]; exact fun z => nm1 (a := 60) (by decide) z.symm
    · rw [es]; exact fun z => nm1 (a := 61) (by decide) z.symm
    · rw [es]; exact fun z => nm1 (a := 62) (by decide) z.symm
    · unfold cmk
      rw [if_neg (ng 60 (by decide)), if_neg (ng 316 (by decide)), if_neg (ng 61 (by decide)), if_neg (ng 318 (by decide)), if_neg (ng 62 (by decide))]
section RCM
variable {m i e : Nat} {M : Mem} {t : TP}
theorem cnM_t {M1 : Mem} (ht : RTp M1 m t) (f : Nat) : RTp (cnM M1 m f) m t := (cnM_F (i := 0) (e := 0) M1 f).tp ht
/-- compared, behind a fault -/
theorem x_cmpW (h4 : TOk2 t) (hi : i < 6) (he : e < 300) (hR : RIs (mS M) (mR M) m) (ht : RTp M m t) (h20 : mI M m 20 = nI i) (h26 : mI M m 26 = nI 11) {M1 : Mem} {fa q : Nat} (fr : FE m i e M M1) (h0 : fa ≠ 0) (hfa : fa < 10000) (g19 : mI M1 m 19 = nI fa) (hq : q ≤ t.1) (l1 l2 s0 s1 : Int32) (hs : s1 + s0 = nI q) : WP (f_X10_compared_J90 m l1 l2 s0 s1 (some m) M1) (fun _ M' => FLT m i e M M' t fa) := by
  have hR1 := fr.RI hR
  unfold f_X10_compared_J90
  rw [hs]
  obtain ⟨M2, hM2⟩ : ∃ M2, M2 = sI M1 m 18 (nI q) := ⟨_, rfl⟩
  have fr2 : FE m i e M M2 := fr.tr (by rw [hM2]; exact FE.ws M1 (Or.inl rfl) _ : FE m i e M1 M2) (Nat.le_refl _)
  obtain ⟨hR2, ht2, j20, j26⟩ := rd_of fr2 hR ht h20 h26
  repeat (first | ((with_reducible apply WP.ce); case h => (simp (disch := omega) only []; with_reducible rfl)) | ((with_reducible apply WP.bd); case h => (simp (disch := omega) only [e_gR, e_gI, e_aI, e_aL, e_oO, e_pI, e_wI, e_wL, Option.map_some, mS_sL, mR_sL, mI_sL, mS_sI, mR_sI, mL_sI, n_cl, ro_m hR1, ← hM2]; with_reducible rfl)) | rw [nm_eq] | rw [ckZ_n1] | rw [ckZ_n0])
  repeat (first | ((with_reducible apply WP.ce); case h => (simp (disch := omega) only []; with_reducible rfl)) | ((with_reducible apply WP.bd); case h => (simp (disch := omega) only [e_gR, e_gI, e_aI, e_aL, e_oO, e_pI, e_wI, e_wL, Option.map_some, mS_sL, mR_sL, mI_sL, mS_sI, mR_sI, mL_sI, n_cl, ro_m hR2]; with_reducible rfl)) | rw [nm_eq] | rw [ckZ_n1] | rw [ckZ_n0])
  refine WP.cw (x_sumW h4 hi he hR2 ht2 j20 j26 h0 hfa hq (by rw [hM2, mI_sI, if_neg (by omega)]; exact g19) (by rw [hM2, mI_sI, if_pos ⟨rfl, rfl⟩])) (fun _ M3 q => ?_)
  obtain ⟨q0, q1, q2, q3⟩ := q
  have hR3 := q1.RI hR2
  have fin : ∀ k : Int32, WP (f_X10_compared_J139 m k (some m) M3) (fun _ M' => FLT m i e M M' t fa) := fun k => by
    have a1 := r_entry0 hR3 h0 hfa q2 k (nI 0)
    unfold f_X10_compared_J139
    repeat (first | ((with_reducible apply WP.ce); case h => (simp (disch := omega) only [a1]; with_reducible rfl)) | ((with_reducible apply WP.bd); case h => (simp (disch := omega) only [e_gR, e_gI, e_aI, e_aL, e_oO, e_pI, e_wI, e_wL, Option.map_some, mS_sL, mR_sL, mI_sL, mS_sI, mR_sI, mL_sI, n_cl, ro_m hR3]; with_reducible rfl)) | rw [nm_eq] | rw [ckZ_n1] | rw [ckZ_n0])
    exact WP.ret ⟨h0, fr2.tr q1 (Nat.le_refl _), q2, q3⟩
  by_cases c1 : l1 = nI 61
  · exact WP.it c1 (fin _)
  · refine WP.ie c1 ?_
    by_cases c2 : l1 = nI 60
    · refine WP.it c2 ?_
      by_cases c3 : l2 = 0
      · exact WP.it c3 (fin _)
      · exact WP.ie c3 (fin _)
    · refine WP.ie c2 ?_
      by_cases c3 : l2 = 0
      · exact WP.it c3 (fin _)
      · exact WP.ie c3 (fin _)
theorem x_cmpV (h4 : TOk2 t) (hi : i < 6) (he : e < 300) (hR : RIs (mS M) (mR M) m) (ht : RTp M m t) (h20 : mI M m 20 = nI i) (h26 : mI M m 26 = nI 11) {M1 : Mem} {fa p : Nat} (fr : FE m i e M M1) (hfa : fa < 10000) (hp : p < t.1) (g19 : mI M1 m 19 = nI fa) (g18 : mI M1 m 18 = nI p) (h0 : (if mI M1 m 24 = nI 60 then ft1 fa p 3 else fa) ≠ 0) (l1 : Int32) : WP (f_X10_compared_J37 m l1 M1) (fun _ M' => FLT m i e M M' t (if mI M1 m 24 = nI 60 then ft1 fa p 3 else fa)) := by
  have hL := h4.1
  obtain ⟨hR1, ht1, k20, k26⟩ := rd_of fr hR ht h20 h26
  have a1 := r_isCounted hR1 (s := p) hfa (by omega) g19
  obtain ⟨f, hf⟩ : ∃ f, f = (if mI M1 m 24 = nI 60 then ft1 fa p 3 else fa) := ⟨_, rfl⟩
  rw [← hf] at a1 h0 ⊢
  have hfl : f < 10000 := by rw [hf]; unfold ft1; split <;> (try split) <;> omega
  obtain ⟨M2, hM2⟩ : ∃ M2, M2 = cnM M1 m f := ⟨_, rfl⟩
  rw [← hM2] at a1
  have fr2 : FE m i e M M2 := fr.tr (by rw [hM2]; exact cnM_F M1 f : FE m i e M1 M2) (Nat.le_refl _)
  obtain ⟨hR2, ht2, j20, j26⟩ := rd_of fr2 hR ht h20 h26
  have j18 : mI M2 m 18 = nI p := by rw [hM2, cnM_m, if_neg (by decide), if_neg (by decide)]; exact g18
  have j19 : mI M2 m 19 = nI f := by rw [hM2, cnM_m, if_neg (by decide), if_pos rfl]
  obtain ⟨M3, hM3⟩ : ∃ M3, M3 = sI M2 m 18 (nI (p + 1)) := ⟨_, rfl⟩
  have fr3 : FE m i e M M3 := fr2.tr (by rw [hM3]; exact FE.ws M2 (Or.inl rfl) _ : FE m i e M2 M3) (Nat.le_refl _)
  obtain ⟨hR3, ht3, l20, l26⟩ := rd_of fr3 hR ht h20 h26
  have l18 : mI M3 m 18 = nI (p + 1) := by rw [hM3, mI_sI, if_pos ⟨rfl, rfl⟩]
  have l19 : mI M3 m 19 = nI f := by rw [hM3, mI_sI, if_neg (by omega)]; exact j19
  unfold f_X10_compared_J37 f_X10_compared_J74 f_X10_compared_J75
  repeat (first | ((with_reducible apply WP.ce); case h => (simp (disch := omega) only [a1]; with_reducible rfl)) | ((with_reducible apply WP.bd); case h => (simp (disch := omega) only [e_gR, e_gI, e_aI, e_aL, e_oO, e_pI, e_wI, e_wL, Option.map_some, mS_sL, mR_sL, mI_sL, mS_sI, mR_sI, mL_sI, n_cl, ro_m hR1, g18]; with_reducible rfl)) | rw [nm_eq] | rw [ckZ_n1] | rw [ckZ_n0])
  repeat (first | ((with_reducible apply WP.ce); case h => (simp (disch := omega) only []; with_reducible rfl)) | ((with_reducible apply WP.bd); case h => (simp (disch := omega) only [e_gR, e_gI, e_aI, e_aL, e_oO, e_pI, e_wI, e_wL, Option.map_some, mS_sL, mR_sL, mI_sL, mS_sI, mR_sI, mL_sI, n_cl, ro_m hR2, j18, n_add, ← hM3]; with_reducible rfl)) | rw [nm_eq] | rw [ckZ_n1] | rw [ckZ_n0])
  have zero : WP ((gI M3 10 18 (some m)).bind fun p1 => if nI 0 = 0 then f_X10_compared_J90 m l1 (nI 0) (nI 0) p1 (some m) M3 else f_X10_compared_J90 m l1 (nI 0) (nI 1) p1 (some m) M3) (fun _ M' => FLT m i e M M' t f) := by
    repeat (first | ((with_reducible apply WP.ce); case h => (simp (disch := omega) only []; with_reducible rfl)) | ((with_reducible apply WP.bd); case h => (simp (disch := omega) only [e_gR, e_gI, e_aI, e_aL, e_oO, e_pI, e_wI, e_wL, Option.map_some, mS_sL, mR_sL, mI_sL, mS_sI, mR_sI, mL_sI, n_cl, ro_m hR3, l18]; with_reducible rfl)) | rw [nm_eq] | rw [ckZ_n1] | rw [ckZ_n0])
    refine WP.it rfl ?_
    exact x_cmpW h4 hi he hR ht h20 h26 fr3 h0 hfl l19 (q := p + 1) (by omega) l1 _ _ _ (by rw [n_add])
  by_cases c1 : l1 = nI 61
  · exact WP.it c1 zero
  · refine WP.ie c1 ?_
    have a2 := r_sign hR3 ht3 h4 l18 (by omega)
    repeat (first | ((with_reducible apply WP.ce); case h => (simp (disch := omega) only [a2]; with_reducible rfl)) | ((with_reducible apply WP.bd); case h => (simp (disch := omega) only [e_gR, e_gI, e_aI, e_aL, e_oO, e_pI, e_wI, e_wL, Option.map_some, mS_sL, mR_sL, mI_sL, mS_sI, mR_sI, mL_sI, n_cl, ro_m hR3]; with_reducible rfl)) | rw [nm_eq] | rw [ckZ_n1] | rw [ckZ_n0])
    by_cases c2 : sgn t (p + 1) = nI 61
    · refine WP.it c2 ?_
      have c2' := c2
      rw [sgn_eq h4 _ (by decide)] at c2'
      repeat (first | ((with_reducible apply WP.ce); case h => (simp (disch := omega) only []; with_reducible rfl)) | ((with_reducible apply WP.bd); case h => (simp (disch := omega) only [e_gR, e_gI, e_aI, e_aL, e_oO, e_pI, e_wI, e_wL, Option.map_some, mS_sL, mR_sL, mI_sL, mS_sI, mR_sI, mL_sI, n_cl, ro_m hR3, l18]; with_reducible rfl)) | rw [nm_eq] | rw [ckZ_n1] | rw [ckZ_n0])
      refine WP.ie (by decide) ?_
      exact x_cmpW h4 hi he hR ht h20 h26 fr3 h0 hfl l19 (q := p + 2) (by omega) l1 _ _ _ (by rw [n_add])
    · exact WP.ie c2 zero
def cmR (t : TP) (p c : Nat) : SRs := ((cmP t p c).1, (cmP t p c).2.1, (cmP t p c).2.2.1, fun v => bL ((cmP t p c).2.2.2 v))
theorem bth_cp {k : Nat} (h : k = 4 ∨ k = 5 ∨ k = 6 ∨ k = 7 ∨ k = 8) (a b : Int64) : bth k a b = bL (cpr k a b) := by
  unfold bth
  rw [if_pos h]
theorem x_cmp (h4 : TOk2 t) (hi : i < 6) {p c : Nat} (hb : 2 * e ≤ p + 2 * c) (hR : RIs (mS M) (mR M) m) (ht : RTp M m t) (h20 : mI M m 20 = nI i) (h26 : mI M m 26 = nI 11) (hp : p ≤ t.1) (hc : c ≤ 60) (g19 : mI M m 19 = nI 0) (g18 : mI M m 18 = nI p) (g22 : mI M m 22 = nI e) (g24 : mI M m 24 = nI c) :
    WP (f_X10_compared m M) (fun _ M' => SMe m i e M t 0 (cmR t p c) (p + 2 * c) M') := by
  have hL := h4.1
  have he : e < 300 := by omega
  obtain ⟨z1, z2⟩ := smP_ok h4 (c := c) hp
  unfold f_X10_compared
  repeat (first | ((with_reducible apply WP.ce); case h => (simp (disch := omega) only []; with_reducible rfl)) | ((with_reducible apply WP.bd); case h => (simp (disch := omega) only [e_gR, e_gI, e_aI, e_aL, e_oO, e_pI, e_wI, e_wL, Option.map_some, mS_sL, mR_sL, mI_sL, mS_sI, mR_sI, mL_sI, n_cl, ro_m hR]; with_reducible rfl)) | rw [nm_eq] | rw [ckZ_n1] | rw [ckZ_n0])
  refine WP.cw (x_sum h4 hi hb hR ht h20 h26 hp hc g19 g18 g22 g24) (fun _ M1 q => ?_)
  obtain ⟨fr, q2, ⟨p', q3, q4⟩, q5⟩ := q
  rw [if_pos rfl] at q2
  obtain ⟨hR1, ht1, k20, k26⟩ := rd_of fr hR ht h20 h26
  by_cases hs0 : (smP t p c).1 = 0
  · obtain ⟨⟨r18, r24⟩, F, r22, rG, rO, rv, rb, rF⟩ := q5 rfl hs0
    obtain ⟨⟨y1, y2⟩, ⟨y3, y4⟩, y5⟩ := z2 hs0
    rw [hs0] at q2
    obtain ⟨r1, hr1⟩ : ∃ r1, r1 = smP t p c := ⟨_, rfl⟩
    rw [← hr1] at hs0 r18 r24 rv rb y1 y2 y3 y4 y5
    have hbk := bk_le y2
    have a1 := r_sign hR1 ht1 h4 r18 (by omega)
    repeat (first | ((with_reducible apply WP.ce); case h => (simp (disch := omega) only [a1]; with_reducible rfl)) | ((with_reducible apply WP.bd); case h => (simp (disch := omega) only [e_gR, e_gI, e_aI, e_aL, e_oO, e_pI, e_wI, e_wL, Option.map_some, mS_sL, mR_sL, mI_sL, mS_sI, mR_sI, mL_sI, n_cl, ro_m hR1]; with_reducible rfl)) | rw [nm_eq] | rw [ckZ_n1] | rw [ckZ_n0])
    have good : ∀ (l1 : Int32) (k : Nat), l1 = sgn t (bk t r1.2.1) → cmk t r1.2.1 = k → k ≠ 0 → bk t r1.2.1 < t.1 →
        ((l1 = nI 60 ∧ ((¬ sgn t (bk t r1.2.1 + 1) = nI 61 ∧ k = 4 ∧ tkE t r1.2.1 = bk t r1.2.1 + 1) ∨ (sgn t (bk t r1.2.1 + 1) = nI 61 ∧ k = 5 ∧ tkE t r1.2.1 = bk t r1.2.1 + 2))) ∨ (l1 = nI 61 ∧ k = 6 ∧ tkE t r1.2.1 = bk t r1.2.1 + 1) ∨ (l1 = nI 62 ∧ ((¬ sgn t (bk t r1.2.1 + 1) = nI 61 ∧ k = 8 ∧ tkE t r1.2.1 = bk t r1.2.1 + 1) ∨ (sgn t (bk t r1.2.1 + 1) = nI 61 ∧ k = 7 ∧ tkE t r1.2.1 = bk t r1.2.1 + 2)))) →
        WP (f_X10_compared_J37 m l1 M1) (fun _ M' => SMe m i e M t 0 (cmR t p c) (p + 2 * c) M') := by
      intro l1 k hl1 hk hk0 hblt hcs
      have hkk : k = 4 ∨ k = 5 ∨ k = 6 ∨ k = 7 ∨ k = 8 := by
        clear hk hk0 hl1
        rcases hcs with ⟨-, ⟨-, z, -⟩ | ⟨-, z, -⟩⟩ | ⟨-, z, -⟩ | ⟨-, ⟨-, z, -⟩ | ⟨-, z, -⟩⟩ <;> rw [z] <;> decide
      have hke : k ≠ 0 ∧ k ≠ 1 ∧ k ≠ 9 := by
        clear hk hk0 hl1 hcs
        rcases hkk with z | z | z | z | z <;> rw [z] <;> decide
      have hko : eok (k, 0) := by
        clear hk hk0 hl1 hcs
        rcases hkk with z | z | z | z | z <;> rw [z] <;> exact ⟨by decide, by decide, by decide⟩
      by_cases h60 : r1.2.2.1 < 60
      · have a2 := r_isCounted hR1 (fa := 0) (s := bk t r1.2.1) (by decide) (by omega) q2
        rw [r24, if_neg (by rw [n_eq (by omega) (by decide)]; omega)] at a2
        obtain ⟨M2, hM2⟩ : ∃ M2, M2 = cnM M1 m 0 := ⟨_, rfl⟩
        rw [← hM2] at a2
        have fr2 : FE m i e M M2 := fr.tr (by rw [hM2]; exact cnM_F M1 0 : FE m i e M1 M2) (Nat.le_refl _)
        obtain ⟨hR2, ht2, j20, j26⟩ := rd_of fr2 hR ht h20 h26
        have jk : ∀ k, k ≠ 19 → k ≠ 24 → mI M2 m k = mI M1 m k := fun k k1 k2 => by rw [hM2, cnM_m, if_neg k2, if_neg k1]
        have j18 : mI M2 m 18 = nI (bk t r1.2.1) := by rw [jk 18 (by decide) (by decide)]; exact r18
        have j19 : mI M2 m 19 = nI 0 := by rw [hM2, cnM_m, if_neg (by decide), if_pos rfl]
        have j24 : mI M2 m 24 = nI (r1.2.2.1 + 1) := by rw [hM2, cnM_m, if_pos rfl, r24, n_add]
        have j22 : mI M2 m 22 = nI (e + F.length) := by rw [jk 22 (by decide) (by decide)]; exact r22
        obtain ⟨M3, hM3⟩ : ∃ M3, M3 = sI M2 m 18 (nI (bk t r1.2.1 + 1)) := ⟨_, rfl⟩
        have fr3 : FE m i e M M3 := fr2.tr (by rw [hM3]; exact FE.ws M2 (Or.inl rfl) _ : FE m i e M2 M3) (Nat.le_refl _)
        obtain ⟨hR3, ht3, l20, l26⟩ := rd_of fr3 hR ht h20 h26
        have l18 : mI M3 m 18 = nI (bk t r1.2.1 + 1) := by rw [hM3, mI_sI, if_pos ⟨rfl, rfl⟩]
        obtain ⟨M4, hM4⟩ : ∃ M4, M4 = sI M3 m 18 (nI (tkE t r1.2.1)) := ⟨_, rfl⟩
        have fr14 : FE m i (e + F.length) M1 M4 := ((by rw [hM2]; exact cnM_F M1 0 : FE m i (e + F.length) M1 M2).tr (by rw [hM3]; exact FE.ws M2 (Or.inl rfl) _ : FE m i (e + F.length) M2 M3) (Nat.le_refl _)).tr (by rw [hM4]; exact FE.ws M3 (Or.inl rfl) _ : FE m i (e + F.length) M3 M4) (Nat.le_refl _)
        have fr4 : FE m i e M M4 := fr.tr fr14 (by omega)
        obtain ⟨hR4, ht4, n20, n26⟩ := rd_of fr4 hR ht h20 h26
        have nk : ∀ k, k ≠ 18 → mI M4 m k = mI M2 m k := fun k hk => by rw [hM4, mI_sI, if_neg (by omega), hM3, mI_sI, if_neg (by omega)]
        have hE := tkE_le y2
        have hE1 : bk t r1.2.1 < tkE t r1.2.1 := (tkE_gt y2 (by have := cmk_k (t := t) (p := r1.2.1) (by omega); omega)).1
        have hE2 : r1.2.1 ≤ bk t r1.2.1 := bk_ge _ _
        obtain ⟨w1, w2⟩ := smP_ok h4 (p := tkE t r1.2.1) (c := r1.2.2.1 + 1) hE.1
        -- the second sum and the entry behind it
        have sec : ∀ l2 : Int32, (∀ M5, WP (f_X10_compared_J139 m (nI k) (some m) M5) (fun _ M' => SMe m i e M t 0 (cmR t p c) (p + 2 * c) M') → WP (if l1 = nI 61 then f_X10_compared_J139 m (nI 6) (some m) M5 else if l1 = nI 60 then (if l2 = 0 then f_X10_compared_J139 m (nI 4) (some m) M5 else f_X10_compared_J139 m (nI 5) (some m) M5) else (if l2 = 0 then f_X10_compared_J139 m (nI 8) (some m) M5 else f_X10_compared_J139 m (nI 7) (some m) M5)) (fun _ M' => SMe m i e M t 0 (cmR t p c) (p + 2 * c) M')) →
            WP (cl (f_X10_sum m M4) fun _ M5 => if l1 = nI 61 then f_X10_compared_J139 m (nI 6) (some m) M5 else if l1 = nI 60 then (if l2 = 0 then f_X10_compared_J139 m (nI 4) (some m) M5 else f_X10_compared_J139 m (nI 5) (some m) M5) else (if l2 = 0 then f_X10_compared_J139 m (nI 8) (some m) M5 else f_X10_compared_J139 m (nI 7) (some m) M5)) (fun _ M' => SMe m i e M t 0 (cmR t p c) (p + 2 * c) M') := by
          intro l2 hsel
          refine WP.cw (x_sum h4 hi (e := e + F.length) (p := tkE t r1.2.1) (c := r1.2.2.1 + 1) (by omega) hR4 ht4 n20 n26 hE.1 (by omega) (by rw [nk 19 (by decide)]; exact j19) (by rw [hM4, mI_sI, if_pos ⟨rfl, rfl⟩]) (by rw [nk 22 (by decide)]; exact j22) (by rw [nk 24 (by decide)]; exact j24)) (fun _ M5 u => ?_)
          obtain ⟨fr5, u2, ⟨p5, u3, u4⟩, u5⟩ := u
          rw [if_pos rfl] at u2
          have frM5 : FE m i e M M5 := fr4.tr fr5 (by omega)
          obtain ⟨hR5, ht5, v20, v26⟩ := rd_of frM5 hR ht h20 h26
          refine hsel M5 ?_
          unfold f_X10_compared_J139
          by_cases hs2 : (smP t (tkE t r1.2.1) (r1.2.2.1 + 1)).1 = 0
          · obtain ⟨⟨v18, v24⟩, G, v22, vG, vO, vv, vb, vF⟩ := u5 rfl hs2
            obtain ⟨⟨x1, x2⟩, ⟨x3, x4⟩, x5⟩ := w2 hs2
            rw [hs2] at u2
            have ec : cmP t p c = (0, (smP t (tkE t r1.2.1) (r1.2.2.1 + 1)).2.1, (smP t (tkE t r1.2.1) (r1.2.2.1 + 1)).2.2.1, fun v => cpr k (r1.2.2.2 v) ((smP t (tkE t r1.2.1) (r1.2.2.1 + 1)).2.2.2 v)) := by
              unfold cmP
              rw [← hr1, if_pos hs0, hk, if_neg hk0, if_pos h60, if_pos hs2]
            obtain ⟨r2, hr2⟩ : ∃ r2, r2 = smP t (tkE t r1.2.1) (r1.2.2.1 + 1) := ⟨_, rfl⟩
            rw [← hr2] at ec v18 v24 vv vb x1 x2 x3 x4 x5
            have a5 := r_entry (k := k) (n := 0) hR5 hi (e := e + F.length + G.length) (by omega) u2 v20 v22
            obtain ⟨M6, hM6⟩ : ∃ M6, M6 = enM M5 m i (e + F.length + G.length) k 0 := ⟨_, rfl⟩
            rw [← hM6] at a5
            have fr56 : FE m i (e + F.length + G.length) M5 M6 := by rw [hM6]; exact enM_F M5 k 0 (by omega)
            have e6 : ∀ j, j ≠ 22 → mI M6 m j = mI M5 m j := fun j hj => by rw [hM6, enM_m, if_neg hj]
            have len : ((F ++ G) ++ [(k, 0)]).length = F.length + G.length + 1 := by rw [List.length_append, List.length_append]; rfl
            have gFG : FG M5 m i e (F ++ G) := FG.app ((fr14.tr fr5 (Nat.le_refl _)).g rG (Nat.le_refl _)) vG
            have gF6 : FG M6 m i e ((F ++ G) ++ [(k, 0)]) := FG.app (fr56.g gFG (by rw [List.length_append]; omega)) (by
              rw [List.length_append, hM6]
              have := enM_g (m := m) (i := i) (e := e + F.length + G.length) M5 k 0
              rw [Nat.add_assoc] at this
              rw [← Nat.add_assoc] at this ⊢
              exact this)
            repeat (first | ((with_reducible apply WP.ce); case h => (simp (disch := omega) only [a5]; with_reducible rfl)) | ((with_reducible apply WP.bd); case h => (simp (disch := omega) only [e_gR, e_gI, e_aI, e_aL, e_oO, e_pI, e_wI, e_wL, Option.map_some, mS_sL, mR_sL, mI_sL, mS_sI, mR_sI, mL_sI, n_cl, ro_m hR5]; with_reducible rfl)) | rw [nm_eq] | rw [ckZ_n1] | rw [ckZ_n0])
            unfold cmR
            rw [ec]
            refine WP.ret ⟨frM5.tr fr56 (by omega), by rw [if_pos rfl, e6 19 (by decide)]; exact u2, ⟨_, bk_le x2, by rw [e6 18 (by decide)]; exact v18⟩, fun _ _ => ⟨⟨by rw [e6 18 (by decide)]; exact v18, by rw [e6 24 (by decide)]; exact v24⟩, (F ++ G) ++ [(k, 0)], by rw [hM6, enM_m, if_pos rfl, len]; congr 1; omega, gF6, fun y hy => ?_, fun v st => ?_, ?_, by rw [len]; omega⟩⟩
            · rcases List.mem_append.mp hy with z | z
              · rcases List.mem_append.mp z with z | z
                · exact rO y z
                · exact vO y z
              · rw [List.mem_singleton.mp z]
                exact hko
            · rw [evl_app, evl_app, rv v st]
              show ((evl v G (r1.2.2.2 v :: st))).bind _ = _
              rw [vv]
              show (ent1 v (k, 0) (r2.2.2.2 v :: r1.2.2.2 v :: st)).bind (evl v []) = _
              rw [ent_b hke, bth_cp hkk]; rfl
            · rw [len]
              show 2 * (F.length + G.length + 1) + (p + 2 * c) ≤ r2.2.1 + 2 * r2.2.2.1
              omega
          · have ec : cmP t p c = ((smP t (tkE t r1.2.1) (r1.2.2.1 + 1)).1, 0, 0, fun _ => false) := by
              unfold cmP
              rw [← hr1, if_pos hs0, hk, if_neg hk0, if_pos h60, if_neg hs2]
            have a5 := r_entry0 hR5 hs2 w1 u2 (nI k) (nI 0)
            repeat (first | ((with_reducible apply WP.ce); case h => (simp (disch := omega) only [a5]; with_reducible rfl)) | ((with_reducible apply WP.bd); case h => (simp (disch := omega) only [e_gR, e_gI, e_aI, e_aL, e_oO, e_pI, e_wI, e_wL, Option.map_some, mS_sL, mR_sL, mI_sL, mS_sI, mR_sI, mL_sI, n_cl, ro_m hR5]; with_reducible rfl)) | rw [nm_eq] | rw [ckZ_n1] | rw [ckZ_n0])
            unfold cmR
            rw [ec]
            exact WP.ret ⟨frM5, by rw [if_pos rfl]; exact u2, ⟨p5, u3, u4⟩, fun _ z => absurd z hs2⟩
        unfold f_X10_compared_J37 f_X10_compared_J74 f_X10_compared_J75 f_X10_compared_J90
        repeat (first | ((with_reducible apply WP.ce); case h => (simp (disch := omega) only [a2]; with_reducible rfl)) | ((with_reducible apply WP.bd); case h => (simp (disch := omega) only [e_gR, e_gI, e_aI, e_aL, e_oO, e_pI, e_wI, e_wL, Option.map_some, mS_sL, mR_sL, mI_sL, mS_sI, mR_sI, mL_sI, n_cl, ro_m hR1, r18]; with_reducible rfl)) | rw [nm_eq] | rw [ckZ_n1] | rw [ckZ_n0])
        repeat (first | ((with_reducible apply WP.ce); case h => (simp (disch := omega) only []; with_reducible rfl)) | ((with_reducible apply WP.bd); case h => (simp (disch := omega) only [e_gR, e_gI, e_aI, e_aL, e_oO, e_pI, e_wI, e_wL, Option.map_some, mS_sL, mR_sL, mI_sL, mS_sI, mR_sI, mL_sI, n_cl, ro_m hR2, j18, n_add, ← hM3]; with_reducible rfl)) | rw [nm_eq] | rw [ckZ_n1] | rw [ckZ_n0])
        have a6 := r_sign hR3 ht3 h4 l18 (by omega)
        have one : ∀ l2 : Int32, tkE t r1.2.1 = bk t r1.2.1 + 1 → sI M3 m 18 (nI (bk t r1.2.1 + 1) + nI 0) = M4 := fun l2 z => by rw [n_add, hM4, z]
        have two' : tkE t r1.2.1 = bk t r1.2.1 + 2 → sI M3 m 18 (nI (bk t r1.2.1 + 1) + nI 1) = M4 := fun z => by rw [n_add, hM4, z]
        rcases hcs with ⟨c1, c2⟩ | ⟨c1, c2, c3⟩ | ⟨c1, c2⟩
        · refine WP.ie (by rw [c1]; decide) ?_
          repeat (first | ((with_reducible apply WP.ce); case h => (simp (disch := omega) only [a6]; with_reducible rfl)) | ((with_reducible apply WP.bd); case h => (simp (disch := omega) only [e_gR, e_gI, e_aI, e_aL, e_oO, e_pI, e_wI, e_wL, Option.map_some, mS_sL, mR_sL, mI_sL, mS_sI, mR_sI, mL_sI, n_cl, ro_m hR3]; with_reducible rfl)) | rw [nm_eq] | rw [ckZ_n1] | rw [ckZ_n0])
          rcases c2 with ⟨d1, d2, d3⟩ | ⟨d1, d2, d3⟩
          · refine WP.ie d1 ?_
            repeat (first | ((with_reducible apply WP.ce); case h => (simp (disch := omega) only []; with_reducible rfl)) | ((with_reducible apply WP.bd); case h => (simp (disch := omega) only [e_gR, e_gI, e_aI, e_aL, e_oO, e_pI, e_wI, e_wL, Option.map_some, mS_sL, mR_sL, mI_sL, mS_sI, mR_sI, mL_sI, n_cl, ro_m hR3, l18]; with_reducible rfl)) | rw [nm_eq] | rw [ckZ_n1] | rw [ckZ_n0])
            refine WP.it rfl ?_
            repeat (first | ((with_reducible apply WP.ce); case h => (simp (disch := omega) only []; with_reducible rfl)) | ((with_reducible apply WP.bd); case h => (simp (disch := omega) only [e_gR, e_gI, e_aI, e_aL, e_oO, e_pI, e_wI, e_wL, Option.map_some, mS_sL, mR_sL, mI_sL, mS_sI, mR_sI, mL_sI, n_cl, ro_m hR3, one 0 d3]; with_reducible rfl)) | rw [nm_eq] | rw [ckZ_n1] | rw [ckZ_n0])
            repeat (first | ((with_reducible apply WP.ce); case h => (simp (disch := omega) only []; with_reducible rfl)) | ((with_reducible apply WP.bd); case h => (simp (disch := omega) only [e_gR, e_gI, e_aI, e_aL, e_oO, e_pI, e_wI, e_wL, Option.map_some, mS_sL, mR_sL, mI_sL, mS_sI, mR_sI, mL_sI, n_cl, ro_m hR4]; with_reducible rfl)) | rw [nm_eq] | rw [ckZ_n1] | rw [ckZ_n0])
            refine sec _ (fun M5 z => ?_)
            refine WP.ie (by rw [c1]; decide) (WP.it c1 (WP.it rfl ?_))
            rw [d2] at z; exact z
          · refine WP.it d1 ?_
            repeat (first | ((with_reducible apply WP.ce); case h => (simp (disch := omega) only []; with_reducible rfl)) | ((with_reducible apply WP.bd); case h => (simp (disch := omega) only [e_gR, e_gI, e_aI, e_aL, e_oO, e_pI, e_wI, e_wL, Option.map_some, mS_sL, mR_sL, mI_sL, mS_sI, mR_sI, mL_sI, n_cl, ro_m hR3, l18]; with_reducible rfl)) | rw [nm_eq] | rw [ckZ_n1] | rw [ckZ_n0])
            refine WP.ie (by decide) ?_
            repeat (first | ((with_reducible apply WP.ce); case h => (simp (disch := omega) only []; with_reducible rfl)) | ((with_reducible apply WP.bd); case h => (simp (disch := omega) only [e_gR, e_gI, e_aI, e_aL, e_oO, e_pI, e_wI, e_wL, Option.map_some, mS_sL, mR_sL, mI_sL, mS_sI, mR_sI, mL_sI, n_cl, ro_m hR3, two' d3]; with_reducible rfl)) | rw [nm_eq] | rw [ckZ_n1] | rw [ckZ_n0])
            repeat (first | ((with_reducible apply WP.ce); case h => (simp (disch := omega) only []; with_reducible rfl)) | ((with_reducible apply WP.bd); case h => (simp (disch := omega) only [e_gR, e_gI, e_aI, e_aL, e_oO, e_pI, e_wI, e_wL, Option.map_some, mS_sL, mR_sL, mI_sL, mS_sI, mR_sI, mL_sI, n_cl, ro_m hR4]; with_reducible rfl)) | rw [nm_eq] | rw [ckZ_n1] | rw [ckZ_n0])
            refine sec _ (fun M5 z => ?_)
            refine WP.ie (by rw [c1]; decide) (WP.it c1 (WP.ie (by decide) ?_))
            rw [d2] at z; exact z
        · refine WP.it c1 ?_
          repeat (first | ((with_reducible apply WP.ce); case h => (simp (disch := omega) only []; with_reducible rfl)) | ((with_reducible apply WP.bd); case h => (simp (disch := omega) only [e_gR, e_gI, e_aI, e_aL, e_oO, e_pI, e_wI, e_wL, Option.map_some, mS_sL, mR_sL, mI_sL, mS_sI, mR_sI, mL_sI, n_cl, ro_m hR3, l18]; with_reducible rfl)) | rw [nm_eq] | rw [ckZ_n1] | rw [ckZ_n0])
          refine WP.it rfl ?_
          repeat (first | ((with_reducible apply WP.ce); case h => (simp (disch := omega) only []; with_reducible rfl)) | ((with_reducible apply WP.bd); case h => (simp (disch := omega) only [e_gR, e_gI, e_aI, e_aL, e_oO, e_pI, e_wI, e_wL, Option.map_some, mS_sL, mR_sL, mI_sL, mS_sI, mR_sI, mL_sI, n_cl, ro_m hR3, one 0 c3]; with_reducible rfl)) | rw [nm_eq] | rw [ckZ_n1] | rw [ckZ_n0])
          repeat (first | ((with_reducible apply WP.ce); case h => (simp (disch := omega) only []; with_reducible rfl)) | ((with_reducible apply WP.bd); case h => (simp (disch := omega) only [e_gR, e_gI, e_aI, e_aL, e_oO, e_pI, e_wI, e_wL, Option.map_some, mS_sL, mR_sL, mI_sL, mS_sI, mR_sI, mL_sI, n_cl, ro_m hR4]; with_reducible rfl)) | rw [nm_eq] | rw [ckZ_n1] | rw [ckZ_n0])
          refine sec _ (fun M5 z => ?_)
          refine WP.it c1 ?_
          rw [c2] at z; exact z
        · refine WP.ie (by rw [c1]; decide) ?_
          repeat (first | ((with_reducible apply WP.ce); case h => (simp (disch := omega) only [a6]; with_reducible rfl)) | ((with_reducible apply WP.bd); case h => (simp (disch := omega) only [e_gR, e_gI, e_aI, e_aL, e_oO, e_pI, e_wI, e_wL, Option.map_some, mS_sL, mR_sL, mI_sL, mS_sI, mR_sI, mL_sI, n_cl, ro_m hR3]; with_reducible rfl)) | rw [nm_eq] | rw [ckZ_n1] | rw [ckZ_n0])
          rcases c2 with ⟨d1, d2, d3⟩ | ⟨d1, d2, d3⟩
          · refine WP.ie d1 ?_
            repeat (first | ((with_reducible apply WP.ce); case h => (simp (disch := omega) only []; with_reducible rfl)) | ((with_reducible apply WP.bd); case h => (simp (disch := omega) only [e_gR, e_gI, e_aI, e_aL, e_oO, e_pI, e_wI, e_wL, Option.map_some, mS_sL, mR_sL, mI_sL, mS_sI, mR_sI, mL_sI, n_cl, ro_m hR3, l18]; with_reducible rfl)) | rw [nm_eq] | rw [ckZ_n1] | rw [ckZ_n0])
            refine WP.it rfl ?_
            repeat (first | ((with_reducible apply WP.ce); case h => (simp (disch := omega) only []; with_reducible rfl)) | ((with_reducible apply WP.bd); case h => (simp (disch := omega) only [e_gR, e_gI, e_aI, e_aL, e_oO, e_pI, e_wI, e_wL, Option.map_some, mS_sL, mR_sL, mI_sL, mS_sI, mR_sI, mL_sI, n_cl, ro_m hR3, one 0 d3]; with_reducible rfl)) | rw [nm_eq] | rw [ckZ_n1] | rw [ckZ_n0])
            repeat (first | ((with_reducible apply WP.ce); case h => (simp (disch := omega) only []; with_reducible rfl)) | ((with_reducible apply WP.bd); case h => (simp (disch := omega) only [e_gR, e_gI, e_aI, e_aL, e_oO, e_pI, e_wI, e_wL, Option.map_some, mS_sL, mR_sL, mI_sL, mS_sI, mR_sI, mL_sI, n_cl, ro_m hR4]; with_reducible rfl)) | rw [nm_eq] | rw [ckZ_n1] | rw [ckZ_n0])
            refine sec _ (fun M5 z => ?_)
            refine WP.ie (by rw [c1]; decide) (WP.ie (by rw [c1]; decide) (WP.it rfl ?_))
            rw [d2] at z; exact z
          · refine WP.it d1 ?_
            repeat (first | ((with_reducible apply WP.ce); case h => (simp (disch := omega) only []; with_reducible rfl)) | ((with_reducible apply WP.bd); case h => (simp (disch := omega) only [e_gR, e_gI, e_aI, e_aL, e_oO, e_pI, e_wI, e_wL, Option.map_some, mS_sL, mR_sL, mI_sL, mS_sI, mR_sI, mL_sI, n_cl, ro_m hR3, l18]; with_reducible rfl)) | rw [nm_eq] | rw [ckZ_n1] | rw [ckZ_n0])
            refine WP.ie (by decide) ?_
            repeat (first | ((with_reducible apply WP.ce); case h => (simp (disch := omega) only []; with_reducible rfl)) | ((with_reducible apply WP.bd); case h => (simp (disch := omega) only [e_gR, e_gI, e_aI, e_aL, e_oO, e_pI, e_wI, e_wL, Option.map_some, mS_sL, mR_sL, mI_sL, mS_sI, mR_sI, mL_sI, n_cl, ro_m hR3, two' d3]; with_reducible rfl)) | rw [nm_eq] | rw [ckZ_n1] | rw [ckZ_n0])
            repeat (first | ((with_reducible apply WP.ce); case h => (simp (disch := omega) only []; with_reducible rfl)) | ((with_reducible apply WP.bd); case h => (simp (disch := omega) only [e_gR, e_gI, e_aI, e_aL, e_oO, e_pI, e_wI, e_wL, Option.map_some, mS_sL, mR_sL, mI_sL, mS_sI, mR_sI, mL_sI, n_cl, ro_m hR4]; with_reducible rfl)) | rw [nm_eq] | rw [ckZ_n1] | rw [ckZ_n0])
            refine sec _ (fun M5 z => ?_)
            refine WP.ie (by rw [c1]; decide) (WP.ie (by rw [c1]; decide) (WP.ie (by decide) ?_))
            rw [d2] at z; exact z
      · have e24 : (if mI M1 m 24 = nI 60 then ft1 0 (bk t r1.2.1) 3 else 0) = 1 + 8 * bk t r1.2.1 + 3 := by
          rw [r24, if_pos (by rw [n_eq (by omega) (by decide)]; omega)]; rfl
        have ec : cmP t p c = (1 + 8 * bk t r1.2.1 + 3, 0, 0, fun _ => false) := by
          unfold cmP
          rw [← hr1, if_pos hs0, hk, if_neg hk0, if_neg h60]
        have := x_cmpV h4 hi he hR ht h20 h26 fr (fa := 0) (by decide) hblt q2 r18 (by rw [e24]; omega) l1
        rw [e24] at this
        refine WP.mono this (fun _ M' q => ?_)
        have er : (cmR t p c).1 = 1 + 8 * bk t r1.2.1 + 3 := by unfold cmR; rw [ec]
        rw [← er] at q
        exact q.sm
    have hin : ∀ x : Nat, x < 256 → sgn t (bk t r1.2.1) = nI x → bk t r1.2.1 < t.1 := fun x hx z => by rw [sgn_eq h4 _ hx] at z; exact z.1
    rcases cm_cs h4 r1.2.1 with ⟨b1, b2, b3, b4⟩ | ⟨b1, b2, b3, b4⟩ | ⟨b1, b2, b3⟩ | ⟨b1, b2, b3, b4⟩ | ⟨b1, b2, b3, b4⟩ | ⟨⟨b1, b2, b3⟩, b4⟩
    · exact WP.it b1 (good _ 4 rfl b3 (by decide) (hin 60 (by decide) b1) (Or.inl ⟨b1, Or.inl ⟨b2, rfl, b4⟩⟩))
    · exact WP.it b1 (good _ 5 rfl b3 (by decide) (hin 60 (by decide) b1) (Or.inl ⟨b1, Or.inr ⟨b2, rfl, b4⟩⟩))
    · refine WP.ie (by rw [b1]; decide) (WP.it b1 (good _ 6 rfl b2 (by decide) (hin 61 (by decide) b1) (Or.inr (Or.inl ⟨b1, rfl, b3⟩))))
    · refine WP.ie (by rw [b1]; decide) (WP.ie (by rw [b1]; decide) (WP.it b1 (good _ 7 rfl b3 (by decide) (hin 62 (by decide) b1) (Or.inr (Or.inr ⟨b1, Or.inr ⟨b2, rfl, b4⟩⟩)))))
    · refine WP.ie (by rw [b1]; decide) (WP.ie (by rw [b1]; decide) (WP.it b1 (good _ 8 rfl b3 (by decide) (hin 62 (by decide) b1) (Or.inr (Or.inr ⟨b1, Or.inl ⟨b2, rfl, b4⟩⟩)))))
    · refine WP.ie b1 (WP.ie b2 (WP.ie b3 ?_))
      have ec : cmP t p c = (1 + 8 * bk t r1.2.1, 0, 0, fun _ => false) := by
        unfold cmP
        rw [← hr1, if_pos hs0, if_pos b4]
      have a3 := r_fails hR1 (fa := 0) (s := bk t r1.2.1) (c := 0) (by decide) (by omega) (by decide) q2
      repeat (first | ((with_reducible apply WP.ce); case h => (simp (disch := omega) only [a3]; with_reducible rfl)) | ((with_reducible apply WP.bd); case h => (simp (disch := omega) only [e_gR, e_gI, e_aI, e_aL, e_oO, e_pI, e_wI, e_wL, Option.map_some, mS_sL, mR_sL, mI_sL, mS_sI, mR_sI, mL_sI, n_cl, ro_m hR1, r18]; with_reducible rfl)) | rw [nm_eq] | rw [ckZ_n1] | rw [ckZ_n0])
      unfold cmR
      rw [ec]
      exact WP.ret ⟨fr.tr (FE.ws M1 (Or.inr (Or.inl rfl)) _ : FE m i e M1 _) (Nat.le_refl _), by rw [if_pos rfl, mI_sI, if_pos ⟨rfl, rfl⟩]; rfl, ⟨_, hbk, by rw [mI_sI, if_neg (by omega)]; exact r18⟩, fun _ z => by have z : 1 + 8 * bk t r1.2.1 = 0 := z; omega⟩
  · have ec : cmP t p c = ((smP t p c).1, 0, 0, fun _ => false) := by unfold cmP; rw [if_neg hs0]
    have er : (cmR t p c).1 = (smP t p c).1 := by unfold cmR; rw [ec]
    have a1 := r_sign hR1 ht1 h4 q4 (by omega)
    have ft : (if mI M1 m 24 = nI 60 then ft1 (smP t p c).1 p' 3 else (smP t p c).1) = (smP t p c).1 := by
      unfold ft1
      rw [if_neg hs0]
      split <;> rfl
    have bad : p' < t.1 → ∀ l1 : Int32, WP (f_X10_compared_J37 m l1 M1) (fun _ M' => SMe m i e M t 0 (cmR t p c) (p + 2 * c) M') := fun hlt l1 => by
      have := x_cmpV h4 hi he hR ht h20 h26 fr z1 hlt q2 q4 (by rw [ft]; exact hs0) l1
      rw [ft, ← er] at this
      exact WP.mono this (fun _ M' q => q.sm)
    have hin : ∀ x : Nat, x < 256 → sgn t p' = nI x → p' < t.1 := fun x hx z => by rw [sgn_eq h4 _ hx] at z; exact z.1
    repeat (first | ((with_reducible apply WP.ce); case h => (simp (disch := omega) only [a1]; with_reducible rfl)) | ((with_reducible apply WP.bd); case h => (simp (disch := omega) only [e_gR, e_gI, e_aI, e_aL, e_oO, e_pI, e_wI, e_wL, Option.map_some, mS_sL, mR_sL, mI_sL, mS_sI, mR_sI, mL_sI, n_cl, ro_m hR1]; with_reducible rfl)) | rw [nm_eq] | rw [ckZ_n1] | rw [ckZ_n0])
    by_cases c1 : sgn t p' = nI 60
    · exact WP.it c1 (bad (hin 60 (by decide) c1) _)
    · refine WP.ie c1 ?_
      by_cases c2 : sgn t p' = nI 61
      · exact WP.it c2 (bad (hin 61 (by decide) c2) _)
      · refine WP.ie c2 ?_
        by_cases c3 : sgn t p' = nI 62
        · exact WP.it c3 (bad (hin 62 (by decide) c3) _)
        · refine WP.ie c3 ?_
          have a3 := r_fails hR1 (s := p') (c := 0) z1 (by omega) (by decide) q2
          repeat (first | ((with_reducible apply WP.ce); case h => (simp (disch := omega) only [a3]; with_reducible rfl)) | ((with_reducible apply WP.bd); case h => (simp (disch := omega) only [e_gR, e_gI, e_aI, e_aL, e_oO, e_pI, e_wI, e_wL, Option.map_some, mS_sL, mR_sL, mI_sL, mS_sI, mR_sI, mL_sI, n_cl, ro_m hR1, q4]; with_reducible rfl)) | rw [nm_eq] | rw [ckZ_n1] | rw [ckZ_n0])
          refine WP.ret ⟨fr.tr (FE.ws M1 (Or.inr (Or.inl rfl)) _ : FE m i e M1 _) (Nat.le_refl _), ?_, ⟨p', q3, by rw [mI_sI, if_neg (by omega)]; exact q4⟩, fun _ z => absurd (by rw [← er]; exact z) hs0⟩
          rw [if_pos rfl, mI_sI, if_pos ⟨rfl, rfl⟩, er]
          unfold ft1
          rw [if_neg hs0]
end RCM
