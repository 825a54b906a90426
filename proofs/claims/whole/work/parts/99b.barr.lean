/-! THE REFERENCE: bar -/
section RBAR
variable {M : Mem} {m : Nat} {t : TP}
theorem nmF_lt {t : TP} (h4 : TOk2 t) {p : Nat} (hp : p ≤ t.1) (lo N : Nat) : nmF t p lo N < 10000 := by
  have hL := h4.1
  have hb : bk t p ≤ t.1 := ru_le isBl t hp
  unfold nmF
  split
  · split <;> omega
  · omega
/-- two numbers, laid where one says -/
theorem r_two (h4 : TOk2 t) {p lo1 N1 lo2 N2 : Nat} (hlo1 : lo1 ≤ 1000) (hN1 : N1 ≤ 1000) (hlo2 : lo2 ≤ 1000) (hN2 : N2 ≤ 1000) (hpl : p ≤ t.1) {M : Mem} (hR : RIs (mS M) (mR M) m) (ht : RTp M m t) (hp : mI M m 18 = nI p) (h19 : mI M m 19 = nI 0) :
    (nmF t p lo1 N1 = 0 → ∀ {M'} , FB m M M' → mI M' m 19 = nI 0 → mI M' m 18 = nI (tkE t p) → ∀ hi : Int32, hi.toInt = (N2 : Int) - 1 → WP (f_X10_amount m (nI lo2) hi M') (fun v M2 => FM m M' M2 ∧ mI M2 m 19 = nI (nm2 t p lo1 N1 lo2 N2) ∧ (∃ p', p' ≤ t.1 ∧ mI M2 m 18 = nI p') ∧ (nm2 t p lo1 N1 lo2 N2 = 0 → v = nI (tkV t (tkE t p)) ∧ mI M2 m 18 = nI (tkE t (tkE t p))))) := by
  intro h0 M' fb g19 g18 hi hhi
  refine WP.mono (r_amount (fb.RI hR) (fb.tp ht) h4 g18 (tkE_le hpl).1 g19 (by decide) hlo2 hN2 hhi) (fun v M2 c => ?_)
  obtain ⟨c1, c2, c3, c4⟩ := c
  have e : nm2 t p lo1 N1 lo2 N2 = nmF t (tkE t p) lo2 N2 := by unfold nm2; rw [if_pos h0]
  rw [if_pos rfl] at c2
  rw [e]
  exact ⟨c1, c2, c3, fun z => c4 rfl z⟩
theorem r_stay (h4 : TOk2 t) {M' : Mem} {fa p : Nat} (hfa : fa < 10000 ∧ fa ≠ 0) (hpl : p ≤ t.1) (hR : RIs (mS M') (mR M') m) (ht : RTp M' m t) (hp : mI M' m 18 = nI p) (h19 : mI M' m 19 = nI fa) {lo N : Nat} (hlo : lo ≤ 1000) (hN : N ≤ 1000) {hi : Int32} (hhi : hi.toInt = (N : Int) - 1) : WP (f_X10_amount m (nI lo) hi M') (fun _ M2 => FM m M' M2 ∧ mI M2 m 19 = nI fa ∧ ∃ p', p' ≤ t.1 ∧ mI M2 m 18 = nI p') := by
  refine WP.mono (r_amount hR ht h4 hp hpl h19 hfa.1 hlo hN hhi) (fun v M2 c => ?_)
  obtain ⟨c1, c2, c3, -⟩ := c
  rw [if_neg hfa.2] at c2
  exact ⟨c1, c2, c3⟩
theorem hiN {N : Nat} (h : N ≤ 1000) : (nI N - nI 1).toInt = (N : Int) - 1 := pk_sub_toInt (by omega) (by decide)
theorem hiL {N : Nat} (h : N ≤ 1000) (h0 : 0 < N) : (nI (N - 1)).toInt = (N : Int) - 1 := by rw [nI_toInt (by omega)]; omega
/-- one number, whatever stood before -/
theorem r_num (h4 : TOk2 t) {fa p lo N : Nat} (hfa : fa < 10000) (hpl : p ≤ t.1) {M' : Mem} (hR : RIs (mS M') (mR M') m) (ht : RTp M' m t) (hp : mI M' m 18 = nI p) (h19 : mI M' m 19 = nI fa) (hlo : lo ≤ 1000) (hN : N ≤ 1000) {hi : Int32} (hhi : hi.toInt = (N : Int) - 1) : WP (f_X10_amount m (nI lo) hi M') (fun v M2 => FM m M' M2 ∧ (∃ p', p' ≤ t.1 ∧ mI M2 m 18 = nI p' ∧ (fa = 0 → nmF t p lo N = 0 → p' = tkE t p)) ∧ mI M2 m 19 = nI (if fa = 0 then nmF t p lo N else fa) ∧ (fa = 0 → nmF t p lo N = 0 → v = nI (tkV t p))) := by
  have hE := tkE_le hpl
  have hL := h4.1
  refine WP.mono (r_amount hR ht h4 hp hpl h19 hfa hlo hN hhi) (fun v M2 c => ?_)
  obtain ⟨c1, c2, ⟨p', c3, c3'⟩, c4⟩ := c
  refine ⟨c1, ?_, c2, fun z1 z2 => (c4 z1 z2).1⟩
  by_cases e : fa = 0 ∧ nmF t p lo N = 0
  · exact ⟨tkE t p, hE.1, (c4 e.1 e.2).2, fun _ _ => rfl⟩
  · exact ⟨p', c3, c3', fun z1 z2 => absurd ⟨z1, z2⟩ e⟩
theorem x_barPart (h4 : TOk2 t) {p k : Nat} {T : TD} (hT : BTk T) (hk : k ≤ 3) (hJ : k = 1 → tJ T < 8) (hS : k = 2 → tN T < 5) (hpl : p ≤ t.1) (hR : RIs (mS M) (mR M) m) (ht : RTp M m t) (hp : mI M m 18 = nI p) (h19 : mI M m 19 = nI 0) (hN : NT M m T) :
    WP (f_X10_barPart m (nI k) M) (fun _ M' => FB m M M' ∧ mI M' m 19 = nI (brP t p T k).1 ∧ (∃ p', p' ≤ t.1 ∧ mI M' m 18 = nI p') ∧ ((brP t p T k).1 = 0 → mI M' m 18 = nI (brP t p T k).2.1 ∧ NT M' m (brP t p T k).2.2)) := by
  have hL := h4.1
  obtain ⟨⟨b1, b2, b3, b4⟩, -, b5, -⟩ := hT
  obtain ⟨⟨n0, n1, n2, n3⟩, n4, n5, n6⟩ := hN
  have zN : (0 : Nat) ≤ 1000 := by decide
  unfold f_X10_barPart f_X10_barPart_J199
  rcases (show k = 0 ∨ k = 1 ∨ k = 2 ∨ k = 3 by omega) with rfl | rfl | rfl | rfl
  · -- bar
    rw [tsw_i rfl (by decide)]
    simp only [List.getD_cons_zero, List.getD_cons_succ]
    repeat (first | ((with_reducible apply WP.ce); case h => (simp (disch := omega) only []; with_reducible rfl)) | ((with_reducible apply WP.bd); case h => (simp (disch := omega) only [e_gR, e_gI, e_aI, e_aL, e_oO, e_pI, e_wI, e_wL, Option.map_some, mS_sL, mR_sL, mI_sL, mS_sI, mR_sI, mL_sI, n_cl, ro_m hR, rr_newScalar hR]; with_reducible rfl)) | rw [nm_eq] | rw [ckZ_n1] | rw [ckZ_n0])
    refine WP.cw (r_num h4 (lo := 1) (N := 61) (by decide) hpl hR ht hp h19 (by decide) (by decide) (hi := nI 60) (by decide)) (fun v1 M1 c1 => ?_)
    obtain ⟨f1, ⟨p1, p1l, p1e, p1q⟩, g1, v1e⟩ := c1
    rw [if_pos rfl] at g1
    have hR1 := f1.RI hR
    obtain ⟨M2, hM2⟩ : ∃ M2, M2 = sI M1 (m + 12) 0 v1 := ⟨_, rfl⟩
    have f2 : FB m M M2 := f1.FB.tr (by rw [hM2]; exact FB.w m M1 (by omega) _ _)
    have hR2 := f2.RI hR
    have q18 : mI M2 m 18 = nI p1 := by rw [hM2, sI_row (by omega)]; exact p1e
    have q19 : mI M2 m 19 = nI (nmF t p 1 61) := by rw [hM2, sI_row (by omega)]; exact g1
    repeat (first | ((with_reducible apply WP.ce); case h => (simp (disch := omega) only []; with_reducible rfl)) | ((with_reducible apply WP.bd); case h => (simp (disch := omega) only [e_gR, e_gI, e_aI, e_aL, e_oO, e_pI, e_wI, e_wL, Option.map_some, mS_sL, mR_sL, mI_sL, mS_sI, mR_sI, mL_sI, n_cl, rx_newScalar hR1, ← hM2]; with_reducible rfl)) | rw [nm_eq] | rw [ckZ_n1] | rw [ckZ_n0])
    repeat (first | ((with_reducible apply WP.ce); case h => (simp (disch := omega) only []; with_reducible rfl)) | ((with_reducible apply WP.bd); case h => (simp (disch := omega) only [e_gR, e_gI, e_aI, e_aL, e_oO, e_pI, e_wI, e_wL, Option.map_some, mS_sL, mR_sL, mI_sL, mS_sI, mR_sI, mL_sI, n_cl, ro_m hR2, rr_newScalar hR2]; with_reducible rfl)) | rw [nm_eq] | rw [ckZ_n1] | rw [ckZ_n0])
    refine WP.cw (r_num h4 (lo := 1) (N := 4) (nmF_lt h4 hpl 1 61) p1l hR2 (f2.tp ht) q18 q19 (by decide) (by decide) (hi := nI 3) (by decide)) (fun v2 M3 c2 => ?_)
    obtain ⟨f3, ⟨p2, p2l, p2e, p2q⟩, g2, v2e⟩ := c2
    have f3' := f2.tr f3.FB
    have hR3 := f3'.RI hR
    repeat (first | ((with_reducible apply WP.ce); case h => (simp (disch := omega) only []; with_reducible rfl)) | ((with_reducible apply WP.bd); case h => (simp (disch := omega) only [e_gR, e_gI, e_aI, e_aL, e_oO, e_pI, e_wI, e_wL, Option.map_some, mS_sL, mR_sL, mI_sL, mS_sI, mR_sI, mL_sI, n_cl, rx_newScalar hR3]; with_reducible rfl)) | rw [nm_eq] | rw [ckZ_n1] | rw [ckZ_n0])
    have ef : (brP t p T 0).1 = nm2 t p 1 61 1 4 := by unfold brP; rw [if_pos rfl]
    have fq : mI (sI M3 (m + 12) 1 v2) m 19 = nI (brP t p T 0).1 := by
      rw [sI_row (by omega), g2, ef]
      unfold nm2
      by_cases z : nmF t p 1 61 = 0
      · rw [if_pos z, if_pos z, p1q rfl z]
      · rw [if_neg z, if_neg z]
    refine WP.ret ⟨f3'.tr (FB.w m M3 (by omega) _ _), fq, ⟨p2, p2l, by rw [sI_row (by omega)]; exact p2e⟩, fun z => ?_⟩
    rw [ef] at z
    unfold nm2 at z
    have z1 : nmF t p 1 61 = 0 := by
      by_cases z1 : nmF t p 1 61 = 0
      · exact z1
      · rw [if_neg z1] at z; exact absurd z z1
    rw [if_pos z1] at z
    have e1 := p1q rfl z1
    rw [e1] at p2q v2e
    have r : (brP t p T 0).2 = (tkE t (tkE t p), tdB T (tkV t p) (tkV t (tkE t p))) := by unfold brP; rw [if_pos rfl]
    rw [r]
    have w12 : mI M3 (m + 12) = upd (mI M (m + 12)) 0 v1 := by rw [f3.2.2.1 _ (by omega), hM2, mI_sI_s, f1.2.2.1 _ (by omega)]
    have oth : ∀ a, a ≠ m → a ≠ m + 12 → mI (sI M3 (m + 12) 1 v2) a = mI M a := fun a a1 a2 => by rw [sI_row a2, f3.2.2.1 _ a1, hM2, sI_row a2, f1.2.2.1 _ a1]
    refine ⟨by rw [sI_row (by omega), p2e, p2q z1 z], ⟨?_, ?_, ?_, ?_⟩, ?_, ?_, ?_⟩
    · rw [mI_sI_s, upd_o _ _ (by decide), w12, upd_s, v1e rfl z1]; rfl
    · rw [mI_sI_s, upd_s, v2e z1 z]; rfl
    · rw [mI_sI_s, upd_o _ _ (by decide), w12, upd_o _ _ (by decide)]; exact n2
    · rw [mI_sI_s, upd_o _ _ (by decide), w12, upd_o _ _ (by decide)]; exact n3
    · rw [oth _ (by omega) (by omega)]; exact n4
    · rw [oth _ (by omega) (by omega), oth _ (by omega) (by omega)]; exact n5
    · rw [oth _ (by omega) (by omega)]; exact n6
  · -- joke
    rw [tsw_i rfl (by decide)]
    simp only [List.getD_cons_zero, List.getD_cons_succ]
    repeat (first | ((with_reducible apply WP.ce); case h => (simp (disch := omega) only []; with_reducible rfl)) | ((with_reducible apply WP.bd); case h => (simp (disch := omega) only [e_gR, e_gI, e_aI, e_aL, e_oO, e_pI, e_wI, e_wL, Option.map_some, mS_sL, mR_sL, mI_sL, mS_sI, mR_sI, mL_sI, n_cl, ro_m hR, rr_newScalar hR, rx_newScalar hR, n2]; with_reducible rfl)) | rw [nm_eq] | rw [ckZ_n1] | rw [ckZ_n0])
    have hj := hJ rfl
    obtain ⟨f, hf⟩ : ∃ f, FU = f + 4 := ⟨99996, rfl⟩
    rw [hf]
    -- one part
    have step : ∀ (i : Nat), i < 3 → ∀ (n fa q : Nat) (N : Mem), FB m M N → fa < 10000 → q ≤ t.1 → mI N m 18 = nI q → mI N m 19 = nI fa → (∀ a, a ≠ m → a ≠ m + 13 → mI N a = mI M a) →
        (∀ {Q : Unit → Mem → Prop}, (∀ (v : Int32) (N2 : Mem) (q2 : Nat), FB m M N2 → q2 ≤ t.1 → mI N2 m 18 = nI q2 → mI N2 m 19 = nI (if fa = 0 then nmF t q 0 10 else fa) → (∀ a, a ≠ m → a ≠ m + 13 → mI N2 a = mI M a) → mI N2 (m + 13) = upd (mI N (m + 13)) (3 * tJ T + i) v → (fa = 0 → nmF t q 0 10 = 0 → v = nI (tkV t q) ∧ q2 = tkE t q) → WP (f_X10_barPart_L65 m n (nI (tJ T)) (nI (i + 1)) N2) Q) → WP (f_X10_barPart_L65 m (n + 1) (nI (tJ T)) (nI i) N) Q) := by
      intro i hi n fa q N fN hfa hq g18 g19 oth Q K
      have hRN := fN.RI hR
      rw [f_X10_barPart_L65]
      refine WP.ie (by rw [n_le (by decide) (by omega)]; omega) ?_
      repeat (first | ((with_reducible apply WP.ce); case h => (simp (disch := omega) only []; with_reducible rfl)) | ((with_reducible apply WP.bd); case h => (simp (disch := omega) only [e_gR, e_gI, e_aI, e_aL, e_oO, e_pI, e_wI, e_wL, Option.map_some, mS_sL, mR_sL, mI_sL, mS_sI, mR_sI, mL_sI, n_cl, ro_m hRN, rr_newParts hRN]; with_reducible rfl)) | rw [nm_eq] | rw [ckZ_n1] | rw [ckZ_n0])
      refine WP.cw (r_num h4 (lo := 0) (N := 10) hfa hq hRN (fN.tp ht) g18 g19 (by decide) (by decide) (hi := nI 9) (by decide)) (fun v N1 c1 => ?_)
      obtain ⟨f1, ⟨q1, q1l, q1e, q1q⟩, g1, v1e⟩ := c1
      have fN1 := fN.tr f1.FB
      have hRN1 := fN1.RI hR
      rw [n_mul, n_add]
      repeat (first | ((with_reducible apply WP.ce); case h => (simp (disch := omega) only []; with_reducible rfl)) | ((with_reducible apply WP.bd); case h => (simp (disch := omega) only [e_gR, e_gI, e_aI, e_aL, e_oO, e_pI, e_wI, e_wL, Option.map_some, mS_sL, mR_sL, mI_sL, mS_sI, mR_sI, mL_sI, n_cl, rx_newParts hRN1]; with_reducible rfl)) | rw [nm_eq] | rw [ckZ_n1] | rw [ckZ_n0])
      rw [n_add]
      refine K v _ q1 (fN1.tr (FB.w m N1 (by omega) _ _)) q1l (by rw [sI_row (by omega)]; exact q1e) (by rw [sI_row (by omega)]; exact g1) (fun a a1 a2 => by rw [sI_row a2, f1.2.2.1 _ a1]; exact oth a a1 a2) (by rw [mI_sI_s, f1.2.2.1 _ (by omega)]) (fun z1 z2 => ⟨v1e z1 z2, q1q z1 z2⟩)
    refine step 0 (by decide) (f + 3) 0 p M (FB.rf m M) (by decide) hpl hp h19 (fun _ _ _ => rfl) (fun v1 M1 p1 f1 l1 e1 g1 o1 w1 q1 => ?_)
    rw [if_pos rfl] at g1
    refine step 1 (by decide) (f + 2) _ p1 M1 f1 (nmF_lt h4 hpl 0 10) l1 e1 g1 o1 (fun v2 M2 p2 f2 l2 e2 g2 o2 w2 q2 => ?_)
    have g2' : mI M2 m 19 = nI (nm2 t p 0 10 0 10) := by
      rw [g2]
      unfold nm2
      by_cases z : nmF t p 0 10 = 0
      · rw [if_pos z, if_pos z, (q1 rfl z).2]
      · rw [if_neg z, if_neg z]
    have hn2l : nm2 t p 0 10 0 10 < 10000 := by
      unfold nm2
      split
      · exact nmF_lt h4 (tkE_le hpl).1 0 10
      · exact nmF_lt h4 hpl 0 10
    refine step 2 (by decide) (f + 1) _ p2 M2 f2 hn2l l2 e2 g2' o2 (fun v3 M3 p3 f3 l3 e3 g3 o3 w3 q3 => ?_)
    have hR3 := f3.RI hR
    have ns2 : mI M3 (m + 12) 2 = nI (tJ T) := by rw [o3 _ (by omega) (by omega)]; exact n2
    rw [f_X10_barPart_L65]
    refine WP.it (by rw [n_le (by decide) (by decide)]; omega) ?_
    unfold f_X10_barPart_J199
    repeat (first | ((with_reducible apply WP.ce); case h => (simp (disch := omega) only []; with_reducible rfl)) | ((with_reducible apply WP.bd); case h => (simp (disch := omega) only [e_gR, e_gI, e_aI, e_aL, e_oO, e_pI, e_wI, e_wL, Option.map_some, mS_sL, mR_sL, mI_sL, mS_sI, mR_sI, mL_sI, n_cl, ro_m hR3, rr_newScalar hR3, rx_newScalar hR3, ns2]; with_reducible rfl)) | rw [nm_eq] | rw [ckZ_n1] | rw [ckZ_n0])
    rw [n_add]
    have ef : (brP t p T 1).1 = (if nm2 t p 0 10 0 10 = 0 then nmF t (tkE t (tkE t p)) 0 10 else nm2 t p 0 10 0 10) := by unfold brP; rw [if_neg (by decide), if_pos rfl]
    have two0 : nm2 t p 0 10 0 10 = 0 → nmF t p 0 10 = 0 ∧ nmF t (tkE t p) 0 10 = 0 := fun z => by
      unfold nm2 at z
      by_cases z1 : nmF t p 0 10 = 0
      · rw [if_pos z1] at z; exact ⟨z1, z⟩
      · rw [if_neg z1] at z; exact absurd z z1
    have pos2 : nm2 t p 0 10 0 10 = 0 → p2 = tkE t (tkE t p) := fun z => by
      obtain ⟨z1, z2⟩ := two0 z
      have e := (q1 rfl z1).2
      rw [e] at q2
      exact (q2 z1 z2).2
    refine WP.ret ⟨f3.tr (FB.w m M3 (by omega) _ _), ?_, ⟨p3, l3, by rw [sI_row (by omega)]; exact e3⟩, fun z => ?_⟩
    · rw [sI_row (by omega), g3, ef]
      by_cases z : nm2 t p 0 10 0 10 = 0
      · rw [if_pos z, if_pos z, pos2 z]
      · rw [if_neg z, if_neg z]
    · rw [ef] at z
      have z12 : nm2 t p 0 10 0 10 = 0 := by
        by_cases z1 : nm2 t p 0 10 0 10 = 0
        · exact z1
        · rw [if_neg z1] at z; exact absurd z z1
      rw [if_pos z12] at z
      obtain ⟨z1, z2⟩ := two0 z12
      have p1e := (q1 rfl z1).2
      have v1v := (q1 rfl z1).1
      have q2' := q2
      rw [p1e] at q2'
      have v2v := (q2' z1 z2).1
      have p2e := pos2 z12
      rw [p2e] at q3
      have v3v := (q3 z12 z).1
      have p3e := (q3 z12 z).2
      have r : (brP t p T 1).2 = (tkE t (tkE t (tkE t p)), tdJ T (tkV t p) (tkV t (tkE t p)) (tkV t (tkE t (tkE t p)))) := by unfold brP; rw [if_neg (by decide), if_pos rfl]
      rw [r]
      have w13 : mI (sI M3 (m + 12) 2 (nI (tJ T + 1))) (m + 13) = upd (upd (upd (mI M (m + 13)) (3 * tJ T + 0) v1) (3 * tJ T + 1) v2) (3 * tJ T + 2) v3 := by rw [sI_row (by omega), w3, w2, w1]
      have oth : ∀ a, a ≠ m → a ≠ m + 12 → a ≠ m + 13 → mI (sI M3 (m + 12) 2 (nI (tJ T + 1))) a = mI M a := fun a a1 a2 a3 => by rw [sI_row a2, o3 a a1 a3]
      have o12 : mI M3 (m + 12) = mI M (m + 12) := o3 _ (by omega) (by omega)
      refine ⟨by rw [sI_row (by omega), e3, p3e], ⟨?_, ?_, ?_, ?_⟩, fun i hi => ?_, ?_, ?_⟩
      · rw [mI_sI_s, upd_o _ _ (by decide), o12]; exact n0
      · rw [mI_sI_s, upd_o _ _ (by decide), o12]; exact n1
      · rw [mI_sI_s, upd_s]; rfl
      · rw [mI_sI_s, upd_o _ _ (by decide), o12]; exact n3
      · have hi : i < 3 * (tJ T + 1) := hi
        show _ = nI (fset (fset (fset (tP T) (3 * tJ T) (tkV t p)) (3 * tJ T + 1) (tkV t (tkE t p))) (3 * tJ T + 2) (tkV t (tkE t (tkE t p))) i)
        rw [w13]
        by_cases c2 : i = 3 * tJ T + 2
        · rw [c2, upd_s, fset_s, v3v]
        · rw [upd_o _ _ c2, fset_o _ _ c2]
          by_cases c1 : i = 3 * tJ T + 1
          · rw [c1, upd_s, fset_s, v2v]
          · rw [upd_o _ _ c1, fset_o _ _ c1]
            by_cases c0 : i = 3 * tJ T
            · rw [c0]
              show upd (mI M (m + 13)) (3 * tJ T) v1 (3 * tJ T) = _
              rw [upd_s, fset_s, v1v]
            · rw [upd_o _ _ (by omega), fset_o _ _ c0]; exact n4 i (by omega)
      · rw [oth _ (by omega) (by omega) (by omega), oth _ (by omega) (by omega) (by omega)]; exact n5
      · rw [oth _ (by omega) (by omega) (by omega)]; exact n6
  · -- ship
    rw [tsw_i rfl (by decide)]
    simp only [List.getD_cons_zero, List.getD_cons_succ]
    have hs := hS rfl
    repeat (first | ((with_reducible apply WP.ce); case h => (simp (disch := omega) only []; with_reducible rfl)) | ((with_reducible apply WP.bd); case h => (simp (disch := omega) only [e_gR, e_gI, e_aI, e_aL, e_oO, e_pI, e_wI, e_wL, Option.map_some, mS_sL, mR_sL, mI_sL, mS_sI, mR_sI, mL_sI, n_cl, ro_m hR, rr_newScalar hR, rx_newScalar hR, n3, rr_newCargo hR]; with_reducible rfl)) | rw [nm_eq] | rw [ckZ_n1] | rw [ckZ_n0])
    refine WP.cw (r_num h4 (lo := 0) (N := 100) (by decide) hpl hR ht hp h19 (by decide) (by decide) (hi := nI 99) (by decide)) (fun v1 M1 c1 => ?_)
    obtain ⟨f1, ⟨p1, p1l, p1e, p1q⟩, g1, v1e⟩ := c1
    rw [if_pos rfl] at g1
    have hR1 := f1.RI hR
    obtain ⟨M2, hM2⟩ : ∃ M2, M2 = sI M1 (m + 14) (tN T) v1 := ⟨_, rfl⟩
    have f2 : FB m M M2 := f1.FB.tr (by rw [hM2]; exact FB.w m M1 (by omega) _ _)
    have hR2 := f2.RI hR
    have q18 : mI M2 m 18 = nI p1 := by rw [hM2, sI_row (by omega)]; exact p1e
    have q19 : mI M2 m 19 = nI (nmF t p 0 100) := by rw [hM2, sI_row (by omega)]; exact g1
    repeat (first | ((with_reducible apply WP.ce); case h => (simp (disch := omega) only []; with_reducible rfl)) | ((with_reducible apply WP.bd); case h => (simp (disch := omega) only [e_gR, e_gI, e_aI, e_aL, e_oO, e_pI, e_wI, e_wL, Option.map_some, mS_sL, mR_sL, mI_sL, mS_sI, mR_sI, mL_sI, n_cl, rx_newCargo hR1, ← hM2]; with_reducible rfl)) | rw [nm_eq] | rw [ckZ_n1] | rw [ckZ_n0])
    repeat (first | ((with_reducible apply WP.ce); case h => (simp (disch := omega) only []; with_reducible rfl)) | ((with_reducible apply WP.bd); case h => (simp (disch := omega) only [e_gR, e_gI, e_aI, e_aL, e_oO, e_pI, e_wI, e_wL, Option.map_some, mS_sL, mR_sL, mI_sL, mS_sI, mR_sI, mL_sI, n_cl, ro_m hR2, rr_newKeeps hR2]; with_reducible rfl)) | rw [nm_eq] | rw [ckZ_n1] | rw [ckZ_n0])
    refine WP.cw (r_num h4 (lo := 0) (N := 61) (nmF_lt h4 hpl 0 100) p1l hR2 (f2.tp ht) q18 q19 (by decide) (by decide) (hi := nI 60) (by decide)) (fun v2 M3 c2 => ?_)
    obtain ⟨f3, ⟨p2, p2l, p2e, p2q⟩, g2, v2e⟩ := c2
    have f3' := f2.tr f3.FB
    have hR3 := f3'.RI hR
    obtain ⟨M4, hM4⟩ : ∃ M4, M4 = sI M3 (m + 15) (tN T) v2 := ⟨_, rfl⟩
    have f4 : FB m M M4 := f3'.tr (by rw [hM4]; exact FB.w m M3 (by omega) _ _)
    have hR4 := f4.RI hR
    have oth : ∀ a, a ≠ m → a ≠ m + 14 → a ≠ m + 15 → mI M4 a = mI M a := fun a a1 a2 a3 => by rw [hM4, sI_row a3, f3.2.2.1 _ a1, hM2, sI_row a2, f1.2.2.1 _ a1]
    have n3' : mI M4 (m + 12) 3 = nI (tN T) := by rw [oth _ (by omega) (by omega) (by omega)]; exact n3
    repeat (first | ((with_reducible apply WP.ce); case h => (simp (disch := omega) only []; with_reducible rfl)) | ((with_reducible apply WP.bd); case h => (simp (disch := omega) only [e_gR, e_gI, e_aI, e_aL, e_oO, e_pI, e_wI, e_wL, Option.map_some, mS_sL, mR_sL, mI_sL, mS_sI, mR_sI, mL_sI, n_cl, rx_newKeeps hR3, ← hM4]; with_reducible rfl)) | rw [nm_eq] | rw [ckZ_n1] | rw [ckZ_n0])
    repeat (first | ((with_reducible apply WP.ce); case h => (simp (disch := omega) only []; with_reducible rfl)) | ((with_reducible apply WP.bd); case h => (simp (disch := omega) only [e_gR, e_gI, e_aI, e_aL, e_oO, e_pI, e_wI, e_wL, Option.map_some, mS_sL, mR_sL, mI_sL, mS_sI, mR_sI, mL_sI, n_cl, ro_m hR4, rr_newScalar hR4, rx_newScalar hR4, n3']; with_reducible rfl)) | rw [nm_eq] | rw [ckZ_n1] | rw [ckZ_n0])
    rw [n_add]
    have ef : (brP t p T 2).1 = nm2 t p 0 100 0 61 := by unfold brP; rw [if_neg (by decide), if_neg (by decide), if_pos rfl]
    have e18 : mI (sI M4 (m + 12) 3 (nI (tN T + 1))) m 18 = nI p2 := by rw [sI_row (by omega), hM4, sI_row (by omega)]; exact p2e
    refine WP.ret ⟨f4.tr (FB.w m M4 (by omega) _ _), ?_, ⟨p2, p2l, e18⟩, fun z => ?_⟩
    · rw [sI_row (by omega), hM4, sI_row (by omega), g2, ef]
      unfold nm2
      by_cases z : nmF t p 0 100 = 0
      · rw [if_pos z, if_pos z, p1q rfl z]
      · rw [if_neg z, if_neg z]
    · rw [ef] at z
      unfold nm2 at z
      have z1 : nmF t p 0 100 = 0 := by
        by_cases z1 : nmF t p 0 100 = 0
        · exact z1
        · rw [if_neg z1] at z; exact absurd z z1
      rw [if_pos z1] at z
      have e1 := p1q rfl z1
      rw [e1] at p2q v2e
      have r : (brP t p T 2).2 = (tkE t (tkE t p), tdS T (tkV t p) (tkV t (tkE t p))) := by unfold brP; rw [if_neg (by decide), if_neg (by decide), if_pos rfl]
      rw [r]
      have o12 : mI M4 (m + 12) = mI M (m + 12) := oth _ (by omega) (by omega) (by omega)
      have w14 : mI (sI M4 (m + 12) 3 (nI (tN T + 1))) (m + 14) = upd (mI M (m + 14)) (tN T) v1 := by rw [sI_row (by omega), hM4, sI_row (by omega), f3.2.2.1 _ (by omega), hM2, mI_sI_s, f1.2.2.1 _ (by omega)]
      have w15 : mI (sI M4 (m + 12) 3 (nI (tN T + 1))) (m + 15) = upd (mI M (m + 15)) (tN T) v2 := by rw [sI_row (by omega), hM4, mI_sI_s, f3.2.2.1 _ (by omega), hM2, sI_row (by omega), f1.2.2.1 _ (by omega)]
      refine ⟨by rw [e18, p2q z1 z], ⟨?_, ?_, ?_, ?_⟩, ?_, fun s hs5 => ?_, ?_⟩
      · rw [mI_sI_s, upd_o _ _ (by decide), o12]; exact n0
      · rw [mI_sI_s, upd_o _ _ (by decide), o12]; exact n1
      · rw [mI_sI_s, upd_o _ _ (by decide), o12]; exact n2
      · rw [mI_sI_s, upd_s]; rfl
      · rw [sI_row (by omega), oth _ (by omega) (by omega) (by omega)]; exact n4
      · have hs5 : s < tN T + 1 := hs5
        show _ = nI (fset (tC T) (tN T) (tkV t p) s) ∧ _ = nI (fset (tE T) (tN T) (tkV t (tkE t p)) s)
        rw [w14, w15]
        by_cases c : s = tN T
        · rw [c, upd_s, upd_s, fset_s, fset_s, v1e rfl z1, v2e z1 z]; exact ⟨rfl, rfl⟩
        · rw [upd_o _ _ c, upd_o _ _ c, fset_o _ _ c, fset_o _ _ c]; exact n5 s (by omega)
      · rw [sI_row (by omega), oth _ (by omega) (by omega) (by omega)]; exact n6
  · -- knows
    rw [tsw_o (n := 2) rfl (by decide)]
    repeat (first | ((with_reducible apply WP.ce); case h => (simp (disch := omega) only []; with_reducible rfl)) | ((with_reducible apply WP.bd); case h => (simp (disch := omega) only [e_gR, e_gI, e_aI, e_aL, e_oO, e_pI, e_wI, e_wL, Option.map_some, mS_sL, mR_sL, mI_sL, mS_sI, mR_sI, mL_sI, n_cl, ro_m hR, rr_newScalar hR, rx_newScalar hR, n3]; with_reducible rfl)) | rw [nm_eq] | rw [ckZ_n1] | rw [ckZ_n0])
    refine WP.cw (r_num h4 (lo := 0) (N := tN T) (by decide) hpl hR ht hp h19 (by decide) (by omega) (hiN (by omega))) (fun v1 M1 c1 => ?_)
    obtain ⟨f1, ⟨p1, p1l, p1e, p1q⟩, g1, v1e⟩ := c1
    rw [if_pos rfl] at g1
    have hR1 := f1.RI hR
    have n2' : mI M1 (m + 12) 2 = nI (tJ T) := by rw [f1.2.2.1 _ (by omega)]; exact n2
    repeat (first | ((with_reducible apply WP.ce); case h => (simp (disch := omega) only []; with_reducible rfl)) | ((with_reducible apply WP.bd); case h => (simp (disch := omega) only [e_gR, e_gI, e_aI, e_aL, e_oO, e_pI, e_wI, e_wL, Option.map_some, mS_sL, mR_sL, mI_sL, mS_sI, mR_sI, mL_sI, n_cl, ro_m hR1, rr_newScalar hR1, rx_newScalar hR1, n2']; with_reducible rfl)) | rw [nm_eq] | rw [ckZ_n1] | rw [ckZ_n0])
    refine WP.cw (r_num h4 (lo := 0) (N := tJ T) (nmF_lt h4 hpl 0 (tN T)) p1l hR1 (f1.tp ht) p1e g1 (by decide) (by omega) (hiN (by omega))) (fun v2 M3 c2 => ?_)
    obtain ⟨f3, ⟨p2, p2l, p2e, p2q⟩, g2, v2e⟩ := c2
    have f3' := f1.tr f3
    have hR3 := f3'.RI hR
    have ef : (brP t p T 3).1 = nm2 t p 0 (tN T) 0 (tJ T) := by unfold brP; rw [if_neg (by decide), if_neg (by decide), if_neg (by decide)]
    have g2' : mI M3 m 19 = nI (nm2 t p 0 (tN T) 0 (tJ T)) := by
      rw [g2]
      unfold nm2
      by_cases z : nmF t p 0 (tN T) = 0
      · rw [if_pos z, if_pos z, p1q rfl z]
      · rw [if_neg z, if_neg z]
    have hn2l : nm2 t p 0 (tN T) 0 (tJ T) < 10000 := by
      unfold nm2
      split
      · exact nmF_lt h4 (tkE_le hpl).1 0 _
      · exact nmF_lt h4 hpl 0 _
    repeat (first | ((with_reducible apply WP.ce); case h => (simp (disch := omega) only []; with_reducible rfl)) | ((with_reducible apply WP.bd); case h => (simp (disch := omega) only [e_gR, e_gI, e_aI, e_aL, e_oO, e_pI, e_wI, e_wL, Option.map_some, mS_sL, mR_sL, mI_sL, mS_sI, mR_sI, mL_sI, n_cl, ro_m hR3, g2']; with_reducible rfl)) | rw [nm_eq] | rw [ckZ_n1] | rw [ckZ_n0])
    by_cases z : nm2 t p 0 (tN T) 0 (tJ T) = 0
    · refine WP.it (by rw [z]; rfl) ?_
      have z' := z
      unfold nm2 at z'
      have z1 : nmF t p 0 (tN T) = 0 := by
        by_cases z1 : nmF t p 0 (tN T) = 0
        · exact z1
        · rw [if_neg z1] at z'; exact absurd z' z1
      rw [if_pos z1] at z'
      have e1 := p1q rfl z1
      rw [e1] at p2q v2e
      have v1 := v1e rfl z1
      have v2 := v2e z1 z'
      have rng : ∀ {q N}, nmF t q 0 N = 0 → tkV t q < N := fun {q N} h => by
        unfold nmF at h
        by_cases k1 : tkK t q = 1
        · rw [if_pos k1] at h
          by_cases c : 0 ≤ tkV t q ∧ tkV t q < N
          · exact c.2
          · rw [if_neg c] at h; omega
        · rw [if_neg k1] at h; omega
      have r1 := rng z1
      have r2 := rng z'
      have n6' := n6 (tkV t p) (by omega)
      rw [← f3'.2.2.1 (m + 16) (by omega)] at n6'
      rw [v1, v2]
      repeat (first | ((with_reducible apply WP.ce); case h => (simp (disch := omega) only []; with_reducible rfl)) | ((with_reducible apply WP.bd); case h => (simp (disch := omega) only [e_gR, e_gI, e_aI, e_aL, e_oO, e_pI, e_wI, e_wL, Option.map_some, mS_sL, mR_sL, mI_sL, mS_sI, mR_sI, mL_sI, n_cl, ro_m hR3, rr_newKnows hR3, rx_newKnows hR3, n6', n_shl, n_or]; with_reducible rfl)) | rw [nm_eq] | rw [ckZ_n1] | rw [ckZ_n0])
      refine WP.ret ⟨f3'.FB.tr (FB.w m M3 (by omega) _ _), by rw [sI_row (by omega), g2', ef], ⟨p2, p2l, by rw [sI_row (by omega)]; exact p2e⟩, fun _ => ?_⟩
      have r : (brP t p T 3).2 = (tkE t (tkE t p), tdW T (tkV t p) (tkV t (tkE t p))) := by unfold brP; rw [if_neg (by decide), if_neg (by decide), if_neg (by decide)]
      rw [r]
      have oth : ∀ a, a ≠ m → a ≠ m + 16 → mI (sI M3 (m + 16) (tkV t p) (nI (tW T (tkV t p) ||| 2 ^ tkV t (tkE t p)))) a = mI M a := fun a a1 a2 => by rw [sI_row a2, f3'.2.2.1 _ a1]
      refine ⟨by rw [sI_row (by omega), p2e, p2q z1 z'], ⟨?_, ?_, ?_, ?_⟩, ?_, ?_, fun s hs5 => ?_⟩
      · rw [oth _ (by omega) (by omega)]; exact n0
      · rw [oth _ (by omega) (by omega)]; exact n1
      · rw [oth _ (by omega) (by omega)]; exact n2
      · rw [oth _ (by omega) (by omega)]; exact n3
      · rw [oth _ (by omega) (by omega)]; exact n4
      · rw [oth _ (by omega) (by omega), oth _ (by omega) (by omega)]; exact n5
      · show _ = nI (fset (tW T) (tkV t p) (tW T (tkV t p) ||| 2 ^ tkV t (tkE t p)) s)
        rw [mI_sI_s, f3'.2.2.1 _ (by omega)]
        by_cases c : s = tkV t p
        · rw [c, upd_s, fset_s]
        · rw [upd_o _ _ c, fset_o _ _ c]; exact n6 s hs5
    · refine WP.ie (by rw [nIz (by omega)]; exact z) (WP.ret ⟨f3'.FB, by rw [ef]; exact g2', ⟨p2, p2l, p2e⟩, fun z2 => ?_⟩)
      rw [ef] at z2
      exact absurd z2 z
end RBAR
