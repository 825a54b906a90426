/-! THE CLASS: a rule read and made -/
variable {O : Mem}
def rlQ : List CLs → (Nat → Int64) → Option Int64
  | [], _ => none
  | x :: l, v => if x.1.elim true (fun q => q v) then some (x.2 v) else rlQ l v
theorem rlQ_D (v : Nat → Int64) : ∀ L : List CLs, rlD L v = (rlQ L v).getD 0
  | [] => rfl
  | x :: l => by
    show (if x.1.elim true (fun q => q v) then x.2 v else rlD l v) = (if x.1.elim true (fun q => q v) then some (x.2 v) else rlQ l v).getD 0
    by_cases h : x.1.elim true (fun q => q v) = true
    · rw [if_pos h, if_pos h]; rfl
    · rw [if_neg h, if_neg h]; exact rlQ_D v l
theorem rlQ_app (v : Nat → Int64) (x : CLs) : ∀ L : List CLs, rlQ (L ++ [x]) v = (rlQ L v).elim (if x.1.elim true (fun q => q v) then some (x.2 v) else none) some
  | [] => rfl
  | y :: l => by
    show (if y.1.elim true (fun q => q v) then some (y.2 v) else rlQ (l ++ [x]) v) = (if y.1.elim true (fun q => q v) then some (y.2 v) else rlQ l v).elim _ some
    by_cases h : y.1.elim true (fun q => q v) = true
    · rw [if_pos h, if_pos h]; rfl
    · rw [if_neg h, if_neg h]; exact rlQ_app v x l
def Rlc (F : CDs) (L : List CLs) : Prop := ∀ (C : CDs) (i : Nat) (v : Nat → Int64), (∀ j, j < F.length → C[i + j]? = F[j]?) → ∃ n, n ≤ F.length ∧ ∀ d, xr C v (n + d) i [] = (rlQ L v).elim (xr C v d (i + F.length) []) some
theorem Rlc.nl : Rlc [] [] := fun C i v _ => ⟨0, Nat.le_refl _, fun d => by rw [Nat.zero_add]; rfl⟩
theorem Rlc.snc {F G : CDs} {L : List CLs} {x : CLs} (h1 : Rlc F L) (h2 : Cls G x) : Rlc (F ++ G) (L ++ [x]) := fun C i v hC => by
  obtain ⟨n1, l1, e1⟩ := h1 C i v (fun j hj => (hC j (by rw [List.length_append]; omega)).trans (List.getElem?_append_left hj))
  cases hr : rlQ L v with
  | some y =>
    rw [hr] at e1
    refine ⟨n1, by rw [List.length_append]; omega, fun d => ?_⟩
    rw [e1, rlQ_app, hr]; rfl
  | none =>
    rw [hr] at e1
    have e1 : ∀ d, xr C v (n1 + d) i [] = xr C v d (i + F.length) [] := e1
    obtain ⟨n2, l2, e2⟩ := h2 C (i + F.length) v (fun j hj => by
      have := hC (F.length + j) (by rw [List.length_append]; omega)
      rw [List.getElem?_append_right (by omega), Nat.add_sub_cancel_left] at this
      rw [Nat.add_assoc]; exact this)
    refine ⟨n1 + n2, by rw [List.length_append]; omega, fun d => ?_⟩
    rw [Nat.add_assoc, e1, e2, rlQ_app, hr, List.length_append, ← Nat.add_assoc]
    show _ = Option.elim (if x.1.elim true (fun q => q v) then some (x.2 v) else none) _ some
    by_cases h : x.1.elim true (fun q => q v) = true
    · rw [if_pos h, if_pos h]; rfl
    · rw [if_neg h, if_neg h]; rfl
theorem Rlc.run {F : CDs} {L : List CLs} (h : Rlc F L) (v : Nat → Int64) : ∃ n, n ≤ F.length + 1 ∧ xr F v n 0 [] = some (rlD L v) := by
  obtain ⟨n, l, e⟩ := h F 0 v (fun j _ => by rw [Nat.zero_add])
  refine ⟨n + 1, by omega, ?_⟩
  rw [e, rlQ_D]
  cases rlQ L v with
  | some y => rfl
  | none =>
    show xr F v 1 (0 + F.length) [] = some 0
    have e0 : F[0 + F.length]? = none := List.getElem?_eq_none (by omega)
    have : xst F v (0 + F.length) [] = some (.inl 0) := by
      unfold xst
      rw [e0]
    rw [xr, this]; rfl
def dpL (w : Nat) (L : List CLs) : Prop := ∀ x ∈ L, dpd w x.2 ∧ ∀ q, x.1 = some q → dpd w q
theorem dpL_D {w : Nat} : ∀ {L : List CLs}, dpL w L → dpd w (rlD L)
  | [], _ => fun _ _ _ => rfl
  | x :: l, h => fun v v' e => by
    have h1 := h x List.mem_cons_self
    have h2 := dpL_D (fun y hy => h y (List.mem_cons_of_mem _ hy)) v v' e
    show (if x.1.elim true (fun q => q v) then x.2 v else rlD l v) = (if x.1.elim true (fun q => q v') then x.2 v' else rlD l v')
    rw [h1.1 v v' e, h2]
    obtain ⟨o, s⟩ := x
    cases o with
    | none => rfl
    | some q =>
      show (if q v then _ else _) = (if q v' then _ else _)
      rw [h1.2 q rfl v v' e]
/-- how a rule's reading ends -/
def RDe (M : Mem) (r : Nat × List CLs) (v : Int32) (M' : Mem) : Prop := FK M M' ∧ v = nI r.1 ∧ (r.1 = 0 → ∃ F w', (CdM M' F ∧ mI M' 10 5 = nI w' ∧ ∀ x ∈ F, cok x) ∧ Rlc F r.2 ∧ dpL w' r.2 ∧ 0 < F.length ∧ F.length + 3 ≤ 400)
section CRU
variable {M : Mem} {t : TP}
theorem y_rdE {M1 : Mem} (hC : CIs (mS M) (mR M)) (f1 : FK M M1) {r : Nat × List CLs} (h2 : mI M1 1 2 = nI r.1) (hA : r.1 = 0 → ∃ F w', (CdM M1 F ∧ mI M1 10 5 = nI w' ∧ ∀ x ∈ F, cok x) ∧ Rlc F r.2 ∧ dpL w' r.2 ∧ 0 < F.length ∧ F.length + 3 ≤ 400) (n : Nat) (l2 : Int32) : WP (f_X5_read_L26 10 (n + 1) (nI 0) l2 M1) (RDe M r) := by
  have hC1 := f1.CI hC
  rw [f_X5_read_L26]
  refine WP.it rfl ?_
  unfold f_X5_read_J66
  repeat (first | ((with_reducible apply WP.ce); case h => (simp (disch := omega) only []; with_reducible rfl)) | ((with_reducible apply WP.bd); case h => (simp (disch := omega) only [e_gR, e_gI, e_aI, e_aL, e_oO, e_pI, e_wI, e_wL, Option.map_some, mS_sL, mR_sL, mI_sL, mS_sI, mR_sI, mL_sI, n_cl, cob_10 hC1, cr_10_tape hC1, cob_1 hC1, h2]; with_reducible rfl)) | rw [nm_eq] | rw [ckZ_n1] | rw [ckZ_n0])
  exact WP.ret ⟨f1, rfl, hA⟩
theorem y_rdL (h4 : TOk2 t) (hC : CIs (mS M) (mR M)) : ∀ d n p c w f (L : List CLs) (F : CDs) (M1 : Mem), n + d = 13 → n ≤ 12 → FK M M1 → p ≤ t.1 → c ≤ 60 → F.length + 3 * n ≤ p → CSt M1 t p c F w → Rlc F L → dpL w L → WP (f_X5_read_L26 10 (f + d + 1) (nI 1) (nI n) M1) (RDe M ((ruL t d n p c).1, L ++ (ruL t d n p c).2)) := by
  have hL := h4.1
  intro d
  induction d with
  | zero => intro n p c w f L F M1 h1 h2; omega
  | succ d ih =>
    intro n p c w f L F M1 hnd hn fr hp hc hl h hR hD
    have hC1 := h.1.1
    obtain ⟨z1, z2⟩ := clP_ok h4 (n := n) hp hc
    rw [show f + (d + 1) + 1 = (f + d + 1) + 1 by omega, f_X5_read_L26]
    refine WP.ie (by decide) (WP.ie (by rw [n_lt (by decide) (by omega)]; omega) ?_)
    repeat (first | ((with_reducible apply WP.ce); case h => (simp (disch := omega) only []; with_reducible rfl)) | ((with_reducible apply WP.bd); case h => (simp (disch := omega) only [e_gR, e_gI, e_aI, e_aL, e_oO, e_pI, e_wI, e_wL, Option.map_some, mS_sL, mR_sL, mI_sL, mS_sI, mR_sI, mL_sI, n_cl, cob_10 hC1]; with_reducible rfl)) | rw [nm_eq] | rw [ckZ_n1] | rw [ckZ_n0])
    refine WP.cw (y_clauseR h4 hp hc (by omega) hn h) (fun v M2 u => ?_)
    obtain ⟨u1, u2⟩ := u
    have fr2 := fr.tr u1
    unfold f_X5_read_J58 f_X5_read_J59
    rcases u2 with ⟨h0, rfl, G, w', g1, g2, ⟨g3, g4, g5⟩, g6, g7⟩ | ⟨h0, rfl, g1⟩
    · obtain ⟨⟨y1, y2⟩, ⟨y3, y4⟩, y5⟩ := z2 h0
      obtain ⟨r, hr⟩ : ∃ r, r = clP t p c n := ⟨_, rfl⟩
      rw [← hr] at h0 g1 g2 g4 g5 g7 y1 y2 y3 y4
      have g1' := g1
      obtain ⟨⟨hC2, ht2, hk2, q2⟩, ⟨q10, q11⟩, ⟨q12, q13⟩, q14⟩ := g1
      have len : (F ++ G).length = F.length + G.length := List.length_append
      have hR2 : Rlc (F ++ G) (L ++ [r.2.2.2]) := hR.snc g2
      have hD2 : dpL w' (L ++ [r.2.2.2]) := fun x hx => by
        rcases List.mem_append.mp hx with z | z
        · exact ⟨(hD x z).1.up g3, fun q hq => ((hD x z).2 q hq).up g3⟩
        · rw [List.mem_singleton.mp z]; exact ⟨g4, g5⟩
      refine WP.ie (by decide) ?_
      repeat (first | ((with_reducible apply WP.ce); case h => (simp (disch := omega) only []; with_reducible rfl)) | ((with_reducible apply WP.bd); case h => (simp (disch := omega) only [e_gR, e_gI, e_aI, e_aL, e_oO, e_pI, e_wI, e_wL, Option.map_some, mS_sL, mR_sL, mI_sL, mS_sI, mR_sI, mL_sI, n_cl, cob_10 hC2, cr_10_tape hC2, cob_1 hC2]; with_reducible rfl)) | rw [nm_eq] | rw [ckZ_n1] | rw [ckZ_n0])
      refine WP.cw (c_sep hC2 ht2 h4 y2 hk2 q2) (fun v M3 k => ?_)
      obtain ⟨k1, k2, rfl, k4⟩ := k
      have hC3 := k1.CI hC2
      have r10 := k1.2.2.1 10 (by decide)
      have r11 := k1.2.2.1 11 (by decide)
      have fr3 := fr2.tr (FQ.FK k1)
      by_cases hg : tkG t r.2.1 = nI 59
      · have hgof : gof t r.2.1 = 0 := by unfold gof; rw [if_pos hg]
        have hmv := gk_mv (by decide) y2 hg
        have er : ruL t (d + 1) n p c = ((ruL t d (n + 1) (tkE t r.2.1) r.2.2.1).1, r.2.2.2 :: (ruL t d (n + 1) (tkE t r.2.1) r.2.2.1).2) := by
          rw [ruL, ← hr, if_pos h0, if_pos hg]
        rw [decide_eq_true hg]
        refine WP.ie (show ¬ bI true = 0 by decide) ?_
        rw [n_add]
        have := ih (n + 1) (tkE t r.2.1) r.2.2.1 w' f (L ++ [r.2.2.2]) (F ++ G) M3 (by omega) (by omega) fr3 hmv.2 y4 (by rw [len]; omega) ⟨⟨hC3, k1.tp ht2, k4 hg, by rw [k2, hgof]⟩, ⟨by rw [r10]; exact q10, by rw [r10]; exact q11⟩, ⟨by rw [r10]; exact q12, by rw [r11]; exact q13⟩, q14⟩ hR2 hD2
        rw [er]
        rw [List.append_assoc] at this
        exact this
      · have er : ruL t (d + 1) n p c = (gof t r.2.1, [r.2.2.2]) := by
          rw [ruL, ← hr, if_pos h0, if_neg hg]
        rw [decide_eq_false hg, er]
        refine WP.it rfl ?_
        exact y_rdE hC fr3 (r := (gof t r.2.1, L ++ [r.2.2.2])) k2 (fun _ => ⟨F ++ G, w', ⟨⟨by rw [r10]; exact q12, by rw [r11]; exact q13⟩, by rw [r10]; exact q11, q14⟩, hR2, hD2, by rw [len]; omega, by rw [len]; omega⟩) (f + d) _
    · have er : ruL t (d + 1) n p c = ((clP t p c n).1, []) := by rw [ruL, if_neg h0]
      rw [er, List.append_nil]
      refine WP.it rfl ?_
      exact y_rdE hC fr2 (r := ((clP t p c n).1, L)) g1.2.1 (fun z => absurd z h0) (f + d) _
theorem y_readR (hC : CIs (mS M) (mR M)) (ht : CTp M t) (h4 : TOk2 t) : WP (f_X5_read 10 M) (RDe M (ruL t 13 0 0 0)) := by
  obtain ⟨M1, hM1⟩ : ∃ M1, M1 = sI (sI M 1 8 (nI 0)) 1 2 (nI 0) := ⟨_, rfl⟩
  have f1 : FQ M M1 := by rw [hM1]; exact (FTk.i M (by decide) _).FQ.tr (FQ.w _ _)
  have hC1 := f1.CI hC
  have g8 : mI M1 1 8 = nI 0 := by rw [hM1, mI_sI, if_neg (by omega), mI_sI, if_pos ⟨rfl, rfl⟩]
  have g2 : mI M1 1 2 = nI 0 := by rw [hM1, mI_sI, if_pos ⟨rfl, rfl⟩]
  have rw1 : WP (f_X7_rewind 1 M) (fun _ M' => FQ M M' ∧ TK M' t 0 ∧ mI M' 1 2 = nI 0) := by
    unfold f_X7_rewind
    repeat (first | ((with_reducible apply WP.ce); case h => (simp (disch := omega) only []; with_reducible rfl)) | ((with_reducible apply WP.bd); case h => (simp (disch := omega) only [e_gR, e_gI, e_aI, e_aL, e_oO, e_pI, e_wI, e_wL, Option.map_some, mS_sL, mR_sL, mI_sL, mS_sI, mR_sI, mL_sI, n_cl, cob_1 hC, ← hM1]; with_reducible rfl)) | rw [nm_eq] | rw [ckZ_n1] | rw [ckZ_n0])
    repeat (first | ((with_reducible apply WP.ce); case h => (simp (disch := omega) only []; with_reducible rfl)) | ((with_reducible apply WP.bd); case h => (simp (disch := omega) only [e_gR, e_gI, e_aI, e_aL, e_oO, e_pI, e_wI, e_wL, Option.map_some, mS_sL, mR_sL, mI_sL, mS_sI, mR_sI, mL_sI, n_cl, cob_1 hC1]; with_reducible rfl)) | rw [nm_eq] | rw [ckZ_n1] | rw [ckZ_n0])
    refine WP.cw (c_next hC1 (f1.tp ht) h4 (Nat.zero_le _) g8) (fun _ M2 c => ?_)
    exact WP.ret ⟨f1.tr c.1.FQ, c.2, c.1.2.2.2.2.1.trans g2⟩
  unfold f_X5_read
  repeat (first | ((with_reducible apply WP.ce); case h => (simp (disch := omega) only []; with_reducible rfl)) | ((with_reducible apply WP.bd); case h => (simp (disch := omega) only [e_gR, e_gI, e_aI, e_aL, e_oO, e_pI, e_wI, e_wL, Option.map_some, mS_sL, mR_sL, mI_sL, mS_sI, mR_sI, mL_sI, n_cl, cob_10 hC, cr_10_tape hC, cob_1 hC]; with_reducible rfl)) | rw [nm_eq] | rw [ckZ_n1] | rw [ckZ_n0])
  refine WP.cw rw1 (fun _ M2 c => ?_)
  obtain ⟨c1, c2, c3⟩ := c
  have hC2 := c1.CI hC
  have ht2 := c1.tp ht
  repeat (first | ((with_reducible apply WP.ce); case h => (simp (disch := omega) only []; with_reducible rfl)) | ((with_reducible apply WP.bd); case h => (simp (disch := omega) only [e_gR, e_gI, e_aI, e_aL, e_oO, e_pI, e_wI, e_wL, Option.map_some, mS_sL, mR_sL, mI_sL, mS_sI, mR_sI, mL_sI, n_cl, cob_10 hC2]; with_reducible rfl)) | rw [nm_eq] | rw [ckZ_n1] | rw [ckZ_n0])
  obtain ⟨M3, hM3⟩ : ∃ M3, M3 = sI (sI (sI M2 10 3 (nI 0)) 10 4 (nI 0)) 10 5 (nI 0) := ⟨_, rfl⟩
  rw [← hM3]
  have rO : ∀ a, a ≠ 10 → mI M3 a = mI M2 a := fun a ha => by rw [hM3, sI_row ha, sI_row ha, sI_row ha]
  have f3 : FK M M3 := (FQ.FK c1).tr (by rw [hM3]; exact ((FK.wx M2 (Or.inl rfl) _ _).tr (FK.wx _ (Or.inl rfl) _ _)).tr (FK.wx _ (Or.inl rfl) _ _))
  have s3 : CSt M3 t 0 0 [] 0 := ⟨⟨by rw [hM3]; exact hC2, ⟨by rw [rO 1 (by decide)]; exact ht2.1, by rw [rO 2 (by decide)]; exact ht2.2⟩, c2.of (rO 1 (by decide)) (by rw [hM3]; rfl), by rw [rO 1 (by decide)]; exact c3⟩, ⟨by rw [hM3, mI_sI, if_neg (by decide), mI_sI, if_pos ⟨rfl, rfl⟩], by rw [hM3, mI_sI, if_pos ⟨rfl, rfl⟩]⟩, ⟨by rw [hM3, mI_sI, if_neg (by decide), mI_sI, if_neg (by decide), mI_sI, if_pos ⟨rfl, rfl⟩]; rfl, fun j hj => absurd hj (Nat.not_lt_zero j)⟩, fun x hx => by cases hx⟩
  obtain ⟨f, hf⟩ := FUd 13 (by omega)
  rw [hf]
  exact y_rdL h4 hC 13 0 0 0 0 f [] [] M3 rfl (by decide) f3 (Nat.zero_le _) (by decide) (by decide) s3 Rlc.nl (fun x hx => by cases hx)
end CRU
