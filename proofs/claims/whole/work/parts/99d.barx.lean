/-! THE REFERENCE: bar, to its end -/
def gof (t : TP) (p : Nat) : Nat := if tkG t p = nI 59 then 0 else if tkK t p = 0 then 0 else 1 + 8 * bk t p
theorem tk_sep {t : TP} (h4 : TOk2 t) (p : Nat) : (tkG t p = nI 59) = (bk t p < t.1 ∧ t.2 (bk t p) = 59) := by
  have hy := h4.2 (bk t p)
  rw [eq_iff_iff]
  unfold tkG tkK
  by_cases h : t.1 ≤ bk t p
  · rw [if_pos h, if_neg (by decide)]
    exact ⟨fun z => absurd z (by decide), fun z => by omega⟩
  · rw [if_neg h]
    by_cases h1 : isDg (t.2 (bk t p)) = true
    · rw [if_pos h1, if_neg (by decide)]
      refine ⟨fun z => absurd z (by decide), fun z => ?_⟩
      have := of_decide_eq_true h1
      omega
    · rw [if_neg h1]
      by_cases h2 : isLt (t.2 (bk t p)) = true
      · rw [if_pos h2, if_neg (by decide)]
        refine ⟨fun z => absurd z (by decide), fun z => ?_⟩
        have := of_decide_eq_true h2
        omega
      · rw [if_neg h2, if_pos rfl]
        by_cases h3 : two t (bk t p) = true
        · rw [if_pos h3, n_eq (by omega) (by decide)]
          refine ⟨fun z => by omega, fun z => ?_⟩
          unfold two at h3
          have h5 := (Bool.and_eq_true_iff.mp (Bool.and_eq_true_iff.mp h3).1).1
          rcases Bool.or_eq_true_iff.mp h5 with q | q
          · have := of_decide_eq_true q; omega
          · have := of_decide_eq_true q; omega
        · rw [if_neg h3, n_eq (by omega) (by decide)]
          exact ⟨fun z => ⟨by omega, z⟩, fun z => z.2⟩
theorem tk_end {t : TP} (p : Nat) : (tkK t p = 0) = (t.1 ≤ bk t p) := by
  rw [eq_iff_iff]
  unfold tkK
  by_cases h : t.1 ≤ bk t p
  · rw [if_pos h]; exact ⟨fun _ => h, fun _ => rfl⟩
  · rw [if_neg h]
    refine ⟨fun z => ?_, fun z => absurd z h⟩
    split at z
    · cases z
    · split at z <;> cases z
theorem tkE_sep {t : TP} (h4 : TOk2 t) {p : Nat} (h : tkG t p = nI 59) : tkE t p = bk t p + 1 := by
  have h0 := h
  rw [tk_sep h4] at h0
  have k3 : tkK t p = 3 := by
    unfold tkG at h
    by_cases k3 : tkK t p = 3
    · exact k3
    · rw [if_neg k3] at h; exact absurd h (by decide)
  unfold tkE
  rw [k3, if_neg (by decide), if_neg (by decide), if_neg (by decide)]
  have : two t (bk t p) = false := by
    unfold two
    rw [h0.2]; rfl
  rw [this]; rfl
section RBX
variable {M : Mem} {m : Nat} {t : TP}
theorem x_goesOn (h4 : TOk2 t) {p fa : Nat} (hpl : p ≤ t.1) (hfa : fa < 10000) (hR : RIs (mS M) (mR M) m) (ht : RTp M m t) (hp : mI M m 18 = nI p) (h19 : mI M m 19 = nI fa) :
    WP (f_X10_goesOn m M) (fun v M' => FM m M M' ∧ mI M' m 19 = nI (if fa = 0 then gof t p else fa) ∧ v = bI (decide (fa = 0) && decide (tkG t p = nI 59)) ∧ (fa = 0 → tkG t p = nI 59 → mI M' m 18 = nI (tkE t p))) := by
  have hL := h4.1
  have hb : bk t p ≤ t.1 := ru_le isBl t hpl
  have a1 := r_blanks hR ht h4 hp (by omega)
  obtain ⟨M1, hM1⟩ : ∃ M1, M1 = sI M m 18 (nI (bk t p)) := ⟨_, rfl⟩
  rw [← hM1] at a1
  have f1 : FM m M M1 := by rw [hM1]; exact FM.w m M (Or.inl rfl) _
  have hR1 := f1.RI hR
  have t1 := f1.tp ht
  have e18 : mI M1 m 18 = nI (bk t p) := by rw [hM1, mI_sI, if_pos ⟨rfl, rfl⟩]
  have e19 : mI M1 m 19 = nI fa := by rw [hM1, mI_sI, if_neg (by omega)]; exact h19
  have sep := tk_sep h4 p
  have en := tk_end (t := t) p
  have j63 : ∀ (b : Bool) (N : Mem), FM m M N → mI N m 18 = nI (bk t p) → f_X10_goesOn_J63 m (bI b) N = some (bI b, sI N m 18 (nI (bk t p + 1))) := by
    intro b N fN g
    have hRN := fN.RI hR
    unfold f_X10_goesOn_J63
    repeat (first | ((with_reducible apply clt_t); case h => (simp (disch := omega) only [hR]; with_reducible rfl)) | ((with_reducible apply bnd_t); case h => (simp (disch := omega) only [e_gR, e_gI, e_aI, e_aL, e_oO, e_pI, e_wI, e_wL, Option.map_some, mS_sL, mR_sL, mI_sL, mS_sI, mR_sI, mL_sI, n_cl, ro_m hRN, g, n_add]; with_reducible rfl)) | rw [nm_eq])
    rw [ckZ_b]
  unfold f_X10_goesOn f_X10_goesOn_J40 f_X10_goesOn_J62
  repeat (first | ((with_reducible apply WP.ce); case h => (simp (disch := omega) only [a1]; with_reducible rfl)) | ((with_reducible apply WP.bd); case h => (simp (disch := omega) only [e_gR, e_gI, e_aI, e_aL, e_oO, e_pI, e_wI, e_wL, Option.map_some, mS_sL, mR_sL, mI_sL, mS_sI, mR_sI, mL_sI, n_cl, ro_m hR]; with_reducible rfl)) | rw [nm_eq] | rw [ckZ_n1] | rw [ckZ_n0])
  repeat (first | ((with_reducible apply WP.ce); case h => (simp (disch := omega) only []; with_reducible rfl)) | ((with_reducible apply WP.bd); case h => (simp (disch := omega) only [e_gR, e_gI, e_aI, e_aL, e_oO, e_pI, e_wI, e_wL, Option.map_some, mS_sL, mR_sL, mI_sL, mS_sI, mR_sI, mL_sI, n_cl, ro_m hR1, e19]; with_reducible rfl)) | rw [nm_eq] | rw [ckZ_n1] | rw [ckZ_n0])
  by_cases c0 : fa = 0
  · rw [if_pos c0, decide_eq_true c0, Bool.true_and]
    refine WP.it (by rw [c0]; rfl) ?_
    repeat (first | ((with_reducible apply WP.ce); case h => (simp (disch := omega) only []; with_reducible rfl)) | ((with_reducible apply WP.bd); case h => (simp (disch := omega) only [e_gR, e_gI, e_aI, e_aL, e_oO, e_pI, e_wI, e_wL, Option.map_some, mS_sL, mR_sL, mI_sL, mS_sI, mR_sI, mL_sI, n_cl, ro_m hR1, e18, t1.1]; with_reducible rfl)) | rw [nm_eq] | rw [ckZ_n1] | rw [ckZ_n0])
    by_cases hend : t.1 ≤ bk t p
    · refine WP.it (by rw [n_le (by omega) (by omega)]; exact hend) ?_
      repeat (first | ((with_reducible apply WP.ce); case h => (simp (disch := omega) only []; with_reducible rfl)) | ((with_reducible apply WP.bd); case h => (simp (disch := omega) only [e_gR, e_gI, e_aI, e_aL, e_oO, e_pI, e_wI, e_wL, Option.map_some, mS_sL, mR_sL, mI_sL, mS_sI, mR_sI, mL_sI, n_cl, ro_m hR1, e19]; with_reducible rfl)) | rw [nm_eq] | rw [ckZ_n1] | rw [ckZ_n0])
      refine WP.it (by rw [c0]; rfl) ?_
      repeat (first | ((with_reducible apply WP.ce); case h => (simp (disch := omega) only []; with_reducible rfl)) | ((with_reducible apply WP.bd); case h => (simp (disch := omega) only [e_gR, e_gI, e_aI, e_aL, e_oO, e_pI, e_wI, e_wL, Option.map_some, mS_sL, mR_sL, mI_sL, mS_sI, mR_sI, mL_sI, n_cl, ro_m hR1, e18, t1.1]; with_reducible rfl)) | rw [nm_eq] | rw [ckZ_n1] | rw [ckZ_n0])
      refine WP.it (by rw [n_le (by omega) (by omega)]; exact hend) ?_
      have ns : ¬ tkG t p = nI 59 := by rw [sep]; omega
      rw [decide_eq_false ns]
      refine WP.of (j63 false M1 f1 e18) ⟨f1.tr (FM.w m M1 (Or.inl rfl) _), ?_, rfl, fun _ z => absurd z ns⟩
      rw [mI_sI, if_neg (by omega), e19, c0]
      unfold gof
      rw [if_neg ns, if_pos (by rw [en]; exact hend)]
    · refine WP.ie (by rw [n_le (by omega) (by omega)]; exact hend) ?_
      have a2 := r_sign hR1 t1 h4 e18 (by omega)
      repeat (first | ((with_reducible apply WP.ce); case h => (simp (disch := omega) only [a2]; with_reducible rfl)) | ((with_reducible apply WP.bd); case h => (simp (disch := omega) only [e_gR, e_gI, e_aI, e_aL, e_oO, e_pI, e_wI, e_wL, Option.map_some, mS_sL, mR_sL, mI_sL, mS_sI, mR_sI, mL_sI, n_cl, ro_m hR1]; with_reducible rfl)) | rw [nm_eq] | rw [ckZ_n1] | rw [ckZ_n0])
      by_cases h59 : t.2 (bk t p) = 59
      · have ys : tkG t p = nI 59 := by rw [sep]; exact ⟨by omega, h59⟩
        refine WP.it (by rw [sgn_eq h4 _ (by decide)]; exact ⟨by omega, h59⟩) ?_
        repeat (first | ((with_reducible apply WP.ce); case h => (simp (disch := omega) only []; with_reducible rfl)) | ((with_reducible apply WP.bd); case h => (simp (disch := omega) only [e_gR, e_gI, e_aI, e_aL, e_oO, e_pI, e_wI, e_wL, Option.map_some, mS_sL, mR_sL, mI_sL, mS_sI, mR_sI, mL_sI, n_cl, ro_m hR1, e19]; with_reducible rfl)) | rw [nm_eq] | rw [ckZ_n1] | rw [ckZ_n0])
        refine WP.it (by rw [c0]; rfl) ?_
        repeat (first | ((with_reducible apply WP.ce); case h => (simp (disch := omega) only []; with_reducible rfl)) | ((with_reducible apply WP.bd); case h => (simp (disch := omega) only [e_gR, e_gI, e_aI, e_aL, e_oO, e_pI, e_wI, e_wL, Option.map_some, mS_sL, mR_sL, mI_sL, mS_sI, mR_sI, mL_sI, n_cl, ro_m hR1, e18, t1.1]; with_reducible rfl)) | rw [nm_eq] | rw [ckZ_n1] | rw [ckZ_n0])
        refine WP.ie (by rw [n_le (by omega) (by omega)]; exact hend) ?_
        rw [decide_eq_true ys]
        refine WP.of (j63 true M1 f1 e18) ⟨f1.tr (FM.w m M1 (Or.inl rfl) _), ?_, rfl, fun _ _ => ?_⟩
        · rw [mI_sI, if_neg (by omega), e19, c0]
          unfold gof
          rw [if_pos ys]
        · rw [mI_sI, if_pos ⟨rfl, rfl⟩, tkE_sep h4 ys]
      · have ns : ¬ tkG t p = nI 59 := by rw [sep]; omega
        refine WP.ie (by rw [sgn_eq h4 _ (by decide)]; omega) ?_
        have a3 := r_fails hR1 (fa := fa) (s := bk t p) (c := 0) hfa (by omega) (by decide) e19
        obtain ⟨M2, hM2⟩ : ∃ M2, M2 = sI M1 m 19 (nI (ft1 fa (bk t p) 0)) := ⟨_, rfl⟩
        rw [← hM2] at a3
        have f2 : FM m M M2 := f1.tr (by rw [hM2]; exact FM.w m M1 (Or.inr rfl) _)
        have hR2 := f2.RI hR
        have g19 : mI M2 m 19 = nI (1 + 8 * bk t p) := by rw [hM2, mI_sI, if_pos ⟨rfl, rfl⟩]; unfold ft1; rw [if_pos c0]; rfl
        have g18 : mI M2 m 18 = nI (bk t p) := by rw [hM2, mI_sI, if_neg (by omega)]; exact e18
        repeat (first | ((with_reducible apply WP.ce); case h => (simp (disch := omega) only [a3]; with_reducible rfl)) | ((with_reducible apply WP.bd); case h => (simp (disch := omega) only [e_gR, e_gI, e_aI, e_aL, e_oO, e_pI, e_wI, e_wL, Option.map_some, mS_sL, mR_sL, mI_sL, mS_sI, mR_sI, mL_sI, n_cl, ro_m hR1, e18]; with_reducible rfl)) | rw [nm_eq] | rw [ckZ_n1] | rw [ckZ_n0])
        repeat (first | ((with_reducible apply WP.ce); case h => (simp (disch := omega) only []; with_reducible rfl)) | ((with_reducible apply WP.bd); case h => (simp (disch := omega) only [e_gR, e_gI, e_aI, e_aL, e_oO, e_pI, e_wI, e_wL, Option.map_some, mS_sL, mR_sL, mI_sL, mS_sI, mR_sI, mL_sI, n_cl, ro_m hR2, g19]; with_reducible rfl)) | rw [nm_eq] | rw [ckZ_n1] | rw [ckZ_n0])
        refine WP.ie (by rw [nIz (by omega)]; omega) ?_
        rw [decide_eq_false ns]
        refine WP.of (j63 false M2 f2 g18) ⟨f2.tr (FM.w m M2 (Or.inl rfl) _), ?_, rfl, fun _ z => absurd z ns⟩
        rw [mI_sI, if_neg (by omega), g19]
        unfold gof
        rw [if_neg ns, if_neg (by rw [en]; exact hend)]
  · rw [if_neg c0, decide_eq_false c0, Bool.false_and]
    refine WP.ie (by rw [nIz (by omega)]; exact c0) ?_
    repeat (first | ((with_reducible apply WP.ce); case h => (simp (disch := omega) only []; with_reducible rfl)) | ((with_reducible apply WP.bd); case h => (simp (disch := omega) only [e_gR, e_gI, e_aI, e_aL, e_oO, e_pI, e_wI, e_wL, Option.map_some, mS_sL, mR_sL, mI_sL, mS_sI, mR_sI, mL_sI, n_cl, ro_m hR1, e19]; with_reducible rfl)) | rw [nm_eq] | rw [ckZ_n1] | rw [ckZ_n0])
    refine WP.ie (by rw [nIz (by omega)]; exact c0) ?_
    refine WP.of (j63 false M1 f1 e18) ⟨f1.tr (FM.w m M1 (Or.inl rfl) _), ?_, rfl, fun z => absurd z c0⟩
    rw [mI_sI, if_neg (by omega)]; exact e19
theorem brC_40 (t : TP) (p : Nat) (T : TD) : (brC t p T 40).1 ≠ 0 := by
  unfold brC
  split
  · show 1 + 8 * bk t p ≠ 0; omega
  · have : bfl T 40 (bwk t p) = true := by unfold bfl; rfl
    rw [this, if_pos rfl]
    show 1 + 8 * bk t p + 4 ≠ 0
    omega
theorem brC_pos {t : TP} {p n : Nat} {T : TD} (hp : p ≤ t.1) : (brC t p T n).2.1 ≤ t.1 := by
  have e1 := (tkE_le hp).1
  have e2 := (tkE_le e1).1
  have e3 := (tkE_le e2).1
  have e4 := (tkE_le e3).1
  unfold brC
  split
  · exact hp
  · split
    · exact hp
    · unfold brP
      split
      · exact e3
      · split
        · exact e4
        · split
          · exact e3
          · exact e3
def FBt (m : Nat) (M M' : Mem) : Prop := mS M' = mS M ∧ mR M' = mR M ∧ (∀ a, a ≠ m → a < m + 12 ∨ m + 16 < a → mI M' a = mI M a) ∧ ∀ k, k = 21 ∨ k = 26 ∨ k = 38 ∨ k = 42 → mI M' m k = mI M m k
theorem FB.tt {m : Nat} {M M' : Mem} (h : FB m M M') : FBt m M M' := ⟨h.1, h.2.1, h.2.2.1, fun k hk => h.2.2.2 k (by omega) (by omega)⟩
theorem FBt.tr {m : Nat} {M1 M2 M3 : Mem} (h1 : FBt m M1 M2) (h2 : FBt m M2 M3) : FBt m M1 M3 := ⟨h2.1.trans h1.1, h2.2.1.trans h1.2.1, fun a h h' => (h2.2.2.1 a h h').trans (h1.2.2.1 a h h'), fun k hk => (h2.2.2.2 k hk).trans (h1.2.2.2 k hk)⟩
theorem x_readL (h4 : TOk2 t) : ∀ d n p f (T : TD) (M : Mem), n + d = 41 → n ≤ 40 → BT2 n T → p ≤ t.1 → RIs (mS M) (mR M) m → RTp M m t → mI M m 18 = nI p → mI M m 19 = nI 0 → NT M m T →
    WP (f_X10_readsAll_L55 m (f + d + 1) (nI n) (nI 1) M) (fun _ M' => FBt m M M' ∧ mI M' m 17 = nI 0 ∧ mI M' m 19 = nI (brL t d n p T).1 ∧ (brL t d n p T).1 < 10000 ∧ ((brL t d n p T).1 = 0 → NT M' m (brL t d n p T).2 ∧ BT2 1 (brL t d n p T).2)) := by
  have hL := h4.1
  intro d
  induction d with
  | zero => intro n p f T M hn h40; omega
  | succ d ih =>
    intro n p f T M hn h40 hT hpl hR ht hp h19 hN
    have hcl := brC_lt h4 (n := n) (T := T) hpl
    rw [show f + (d + 1) + 1 = (f + d + 1) + 1 from by omega, f_X10_readsAll_L55]
    refine WP.ie (by decide) ?_
    repeat (first | ((with_reducible apply WP.ce); case h => (simp (disch := omega) only []; with_reducible rfl)) | ((with_reducible apply WP.bd); case h => (simp (disch := omega) only [e_gR, e_gI, e_aI, e_aL, e_oO, e_pI, e_wI, e_wL, Option.map_some, mS_sL, mR_sL, mI_sL, mS_sI, mR_sI, mL_sI, n_cl, ro_m hR]; with_reducible rfl)) | rw [nm_eq] | rw [ckZ_n1] | rw [ckZ_n0])
    refine WP.cw (x_barClause h4 hT.1 h40 hpl hR ht hp h19 hN) (fun _ M1 c1 => ?_)
    obtain ⟨f1, g19, ⟨q, ql, qe⟩, fin⟩ := c1
    have hR1 := f1.RI hR
    repeat (first | ((with_reducible apply WP.ce); case h => (simp (disch := omega) only []; with_reducible rfl)) | ((with_reducible apply WP.bd); case h => (simp (disch := omega) only [e_gR, e_gI, e_aI, e_aL, e_oO, e_pI, e_wI, e_wL, Option.map_some, mS_sL, mR_sL, mI_sL, mS_sI, mR_sI, mL_sI, n_cl, ro_m hR1]; with_reducible rfl)) | rw [nm_eq] | rw [ckZ_n1] | rw [ckZ_n0])
    refine WP.cw (x_goesOn h4 (p := if (brC t p T n).1 = 0 then (brC t p T n).2.1 else q) (fa := (brC t p T n).1) (by split; exact brC_pos hpl; exact ql) hcl hR1 (f1.tp ht) (by
      split
      · rename_i z; exact (fin z).1
      · exact qe) g19) (fun v M2 c2 => ?_)
    obtain ⟨f2, k19, vv, nx⟩ := c2
    rw [vv, n_add]
    have f12 := f1.tr f2.FB
    have hR2 := f12.RI hR
    have stop : ∀ (N : Mem) (r : Nat × TD), FB m M N → r = brL t (d + 1) n p T → mI N m 19 = nI r.1 → r.1 < 10000 → (r.1 = 0 → NT N m r.2 ∧ BT2 1 r.2) → WP (f_X10_readsAll_L55 m (f + d + 1) (nI (n + 1)) (bI false) N) (fun _ M' => FBt m M M' ∧ mI M' m 17 = nI 0 ∧ mI M' m 19 = nI (brL t (d + 1) n p T).1 ∧ (brL t (d + 1) n p T).1 < 10000 ∧ ((brL t (d + 1) n p T).1 = 0 → NT M' m (brL t (d + 1) n p T).2 ∧ BT2 1 (brL t (d + 1) n p T).2)) := by
      intro N r fN hr h1 h2 h3
      have hRN := fN.RI hR
      rw [f_X10_readsAll_L55]
      refine WP.it rfl ?_
      repeat (first | ((with_reducible apply WP.ce); case h => (simp (disch := omega) only []; with_reducible rfl)) | ((with_reducible apply WP.bd); case h => (simp (disch := omega) only [e_gR, e_gI, e_aI, e_aL, e_oO, e_pI, e_wI, e_wL, Option.map_some, mS_sL, mR_sL, mI_sL, mS_sI, mR_sI, mL_sI, n_cl, ro_m hRN]; with_reducible rfl)) | rw [nm_eq] | rw [ckZ_n1] | rw [ckZ_n0])
      rw [← hr]
      have fw : FBt m N (sI N m 17 (nI 0)) := ⟨rfl, rfl, fun a ha _ => sI_row ha, fun k hk => by rw [mI_sI, if_neg (by omega)]⟩
      refine WP.ret ⟨fN.tt.tr fw, by rw [mI_sI, if_pos ⟨rfl, rfl⟩], by rw [mI_sI, if_neg (by omega)]; exact h1, h2, fun z => ⟨?_, (h3 z).2⟩⟩
      have := (h3 z).1
      unfold NT
      rw [sI_row (by omega), sI_row (by omega), sI_row (by omega), sI_row (by omega), sI_row (by omega)]
      exact this
    by_cases z : (brC t p T n).1 = 0
    · rw [if_pos z] at k19 nx
      rw [if_pos z, decide_eq_true z, Bool.true_and]
      have hT1 := brC_ok hT z
      have n40 : n ≠ 40 := fun e => brC_40 t p T (by rw [e] at z; exact z)
      by_cases s : tkG t (brC t p T n).2.1 = nI 59
      · rw [decide_eq_true s]
        have eL : brL t (d + 1) n p T = brL t d (n + 1) (tkE t (brC t p T n).2.1) (brC t p T n).2.2 := by rw [brL, if_pos z, if_pos s]
        rw [eL]
        have g0 : gof t (brC t p T n).2.1 = 0 := by unfold gof; rw [if_pos s]
        rw [if_pos z, g0] at k19
        refine WP.mono (ih (n + 1) _ f _ M2 (by omega) (by omega) hT1 (tkE_le (brC_pos hpl)).1 hR2 (f12.tp ht) (nx z s) k19 (f2.nt (fin z).2)) (fun _ M' c => ⟨f12.tt.tr c.1, c.2⟩)
      · rw [decide_eq_false s]
        rw [if_pos z] at k19
        by_cases e : tkK t (brC t p T n).2.1 = 0
        · have eL : brL t (d + 1) n p T = (0, (brC t p T n).2.2) := by rw [brL, if_pos z, if_neg s, if_pos e]
          have g0 : gof t (brC t p T n).2.1 = 0 := by unfold gof; rw [if_neg s, if_pos e]
          exact stop M2 _ f12 eL.symm (by rw [k19, g0]) (by show 0 < 10000; decide) (fun _ => ⟨f2.nt (fin z).2, ⟨hT1.1, fun _ => hT1.2 (by omega)⟩⟩)
        · have eL : brL t (d + 1) n p T = (1 + 8 * bk t (brC t p T n).2.1, (brC t p T n).2.2) := by rw [brL, if_pos z, if_neg s, if_neg e]
          have g0 : gof t (brC t p T n).2.1 = 1 + 8 * bk t (brC t p T n).2.1 := by unfold gof; rw [if_neg s, if_neg e]
          have hbb : bk t (brC t p T n).2.1 ≤ t.1 := ru_le isBl t (brC_pos hpl)
          refine stop M2 _ f12 eL.symm (by rw [k19, g0]) (by show 1 + 8 * bk t (brC t p T n).2.1 < 10000; omega) (fun q => ?_)
          have q : 1 + 8 * bk t (brC t p T n).2.1 = 0 := q
          omega
    · rw [if_neg z] at k19
      rw [decide_eq_false z, Bool.false_and]
      have eL : brL t (d + 1) n p T = ((brC t p T n).1, (brC t p T n).2.2) := by rw [brL, if_neg z]
      exact stop M2 _ f12 eL.symm k19 hcl (fun q => absurd q z)
end RBX
