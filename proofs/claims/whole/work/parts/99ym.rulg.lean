/-! THE CLASS: sums of a rule -/
/-- the class's step for a sort of the reference's -/
def clo (k : Nat) : Nat := if k = 2 then 7 else if k = 3 then 8 else if k = 13 then 9 else if k = 14 then 10 else 11
theorem jnd_clo {k : Nat} (h : k = 2 ∨ k = 3 ∨ k = 13 ∨ k = 14 ∨ k = 15) (x y : Int64) : jnd (clo k) x y = opr k x y := by
  rcases h with rfl | rfl | rfl | rfl | rfl <;> rfl
theorem clo_b (k : Nat) : 7 ≤ clo k ∧ clo k ≤ 11 := by
  unfold clo
  split
  · decide
  · split
    · decide
    · split
      · decide
      · split <;> decide
theorem tkG_f {t : TP} (h4 : TOk2 t) (p : Nat) : tkG t p = -1 ∨ ∃ n, n < 512 ∧ tkG t p = nI n := by
  have := h4.2 (bk t p)
  unfold tkG
  split
  · split
    · exact Or.inr ⟨_, by omega, rfl⟩
    · exact Or.inr ⟨_, by omega, rfl⟩
  · exact Or.inl rfl
theorem tsw_m1 {α : Type} {lo : Nat} {os : List (Option (α × Mem))} {o : Option (α × Mem)} : tsw (-1 : Int32) (lo : Int) os o = o := by
  unfold tsw
  rw [show (-1 : Int32).toInt = -1 from (by decide), if_pos (by omega)]
theorem y_join {t : TP} (h4 : TOk2 t) (p : Nat) (M : Mem) : f_X5_joinStep (tkG t p) M = some (if sgk t p = 0 then -1 else nI (clo (sgk t p)), M) := by
  unfold f_X5_joinStep f_X5_joinStep_J75
  rcases tkG_f h4 p with e | ⟨n, hn, e⟩
  · have s0 : sgk t p = 0 := by unfold sgk; rw [e]; rfl
    rw [e, s0, if_pos rfl]
    exact tsw_m1 (lo := 37)
  · rw [e]
    by_cases hr : 37 ≤ n ∧ n < 48
    · rcases (show n = 37 ∨ n = 38 ∨ n = 39 ∨ n = 40 ∨ n = 41 ∨ n = 42 ∨ n = 43 ∨ n = 44 ∨ n = 45 ∨ n = 46 ∨ n = 47 by omega) with rfl | rfl | rfl | rfl | rfl | rfl | rfl | rfl | rfl | rfl | rfl
      · have : sgk t p = 15 := by unfold sgk; rw [e]; rfl
        rw [this]; exact tsw_j (lo := 37) (by decide) (by show 37 < 37 + 11; decide) (by decide)
      · have : sgk t p = 0 := by unfold sgk; rw [e]; rfl
        rw [this]; exact tsw_j (lo := 37) (by decide) (by show 38 < 37 + 11; decide) (by decide)
      · have : sgk t p = 0 := by unfold sgk; rw [e]; rfl
        rw [this]; exact tsw_j (lo := 37) (by decide) (by show 39 < 37 + 11; decide) (by decide)
      · have : sgk t p = 0 := by unfold sgk; rw [e]; rfl
        rw [this]; exact tsw_j (lo := 37) (by decide) (by show 40 < 37 + 11; decide) (by decide)
      · have : sgk t p = 0 := by unfold sgk; rw [e]; rfl
        rw [this]; exact tsw_j (lo := 37) (by decide) (by show 41 < 37 + 11; decide) (by decide)
      · have : sgk t p = 13 := by unfold sgk; rw [e]; rfl
        rw [this]; exact tsw_j (lo := 37) (by decide) (by show 42 < 37 + 11; decide) (by decide)
      · have : sgk t p = 2 := by unfold sgk; rw [e]; rfl
        rw [this]; exact tsw_j (lo := 37) (by decide) (by show 43 < 37 + 11; decide) (by decide)
      · have : sgk t p = 0 := by unfold sgk; rw [e]; rfl
        rw [this]; exact tsw_j (lo := 37) (by decide) (by show 44 < 37 + 11; decide) (by decide)
      · have : sgk t p = 3 := by unfold sgk; rw [e]; rfl
        rw [this]; exact tsw_j (lo := 37) (by decide) (by show 45 < 37 + 11; decide) (by decide)
      · have : sgk t p = 0 := by unfold sgk; rw [e]; rfl
        rw [this]; exact tsw_j (lo := 37) (by decide) (by show 46 < 37 + 11; decide) (by decide)
      · have : sgk t p = 14 := by unfold sgk; rw [e]; rfl
        rw [this]; exact tsw_j (lo := 37) (by decide) (by show 47 < 37 + 11; decide) (by decide)
    · have s0 : sgk t p = 0 := by
        have ne : ∀ c, c = 43 ∨ c = 45 ∨ c = 42 ∨ c = 47 ∨ c = 37 → ¬ tkG t p = nI c := fun c hc z => by
          rw [e, n_eq (by omega) (by omega)] at z; omega
        unfold sgk
        rw [if_neg (ne 43 (by omega)), if_neg (ne 45 (by omega)), if_neg (ne 42 (by omega)), if_neg (ne 47 (by omega)), if_neg (ne 37 (by omega))]
      rw [s0, if_pos rfl]
      exact tsw_n (lo := 37) (by show n < 37 ∨ 37 + 11 ≤ n; omega) (by omega)
/-- how a sum ends -/
def SMc (M : Mem) (t : TP) (p c : Nat) (C : CDs) (w : Nat) (r : SRs) (v : Int32) (M' : Mem) : Prop := FK M M' ∧ ((r.1 = 0 ∧ v = nI 1 ∧ ∃ F w', CSt M' t r.2.1 r.2.2.1 (C ++ F) w' ∧ Cp F 3 (fun v => [r.2.2.2 v]) ∧ wsb w w' ∧ dpd w' r.2.2.2 ∧ F.length + p ≤ r.2.1 ∧ F.length + 2 * c + 1 ≤ 2 * r.2.2.1) ∨ (r.1 ≠ 0 ∧ v = nI 0 ∧ CFl M' r.1))
/-- a sum at work -/
def CSS (M M' : Mem) (t : TP) (p c : Nat) (C : CDs) (w : Nat) (s : SSt) : Prop := FK M M' ∧ ∃ F w', CSt M' t s.1 s.2.1 (C ++ F) w' ∧ Cp F 3 (fun v => s.2.2.2 v :: s.2.2.1.elim [] (fun q => [q.2 v])) ∧ wsb w w' ∧ (dpd w' s.2.2.2 ∧ ∀ q, s.2.2.1 = some q → dpd w' q.2 ∧ (q.1 = 2 ∨ q.1 = 3)) ∧ (s.1 ≤ t.1 ∧ s.2.1 ≤ 60) ∧ F.length + s.2.2.1.elim 0 (fun _ => 1) + p ≤ s.1 ∧ F.length + s.2.2.1.elim 0 (fun _ => 1) + 2 * c + 1 ≤ 2 * s.2.1
section CSM
variable {M : Mem} {t : TP} {p c w : Nat} {C : CDs}
theorem dpd_op {w k : Nat} {A B : RD} (h1 : dpd w A) (h2 : dpd w B) : dpd w (fun v => opr k (A v) (B v)) := fun v v' e => by
  show opr k (A v) (B v) = opr k (A v') (B v')
  rw [h1 v v' e, h2 v v' e]
theorem y_sumF {M1 : Mem} (hC : CIs (mS M) (mR M)) (f1 : FK M M1) {r : SRs} (h : CFl M1 r.1) (n : Nat) (l1 l3 : Int32) : WP (f_X5_readSum_L9 10 (n + 1) l1 (nI 0) l3 M1) (SMc M t p c C w r) := by
  have hC1 := f1.CI hC
  have fin : WP (f_X5_readSum_J119 10 l1 (nI 0) M1) (SMc M t p c C w r) := by
    unfold f_X5_readSum_J119 f_X5_readSum_J131
    by_cases c1 : l1 = -1
    · refine WP.it c1 ?_
      rw [ckZ_n0]
      exact WP.ret ⟨f1, Or.inr ⟨h.1, rfl, h⟩⟩
    · refine WP.ie c1 ?_
      repeat (first | ((with_reducible apply WP.ce); case h => (simp (disch := omega) only []; with_reducible rfl)) | ((with_reducible apply WP.bd); case h => (simp (disch := omega) only [e_gR, e_gI, e_aI, e_aL, e_oO, e_pI, e_wI, e_wL, Option.map_some, mS_sL, mR_sL, mI_sL, mS_sI, mR_sI, mL_sI, n_cl, cob_10 hC1]; with_reducible rfl)) | rw [nm_eq] | rw [ckZ_n1] | rw [ckZ_n0])
      refine WP.cw (y_putF hC1 h l1 (nI 0)) (fun v M2 g => ?_)
      rw [ckZ_n0]
      exact WP.ret ⟨f1.tr g.2.1, Or.inr ⟨h.1, rfl, g.2.2⟩⟩
  rw [f_X5_readSum_L9]
  by_cases c0 : nI 400 ≤ l3
  · exact WP.it c0 fin
  · exact WP.ie c0 (WP.it rfl fin)
/-- what waits is joined -/
theorem y_jn (hl : C.length ≤ p) (h4 : TOk2 t) {M1 : Mem} {p1 c1 ok w' : Nat} {A cur : RD} {F : CDs} (g1 : CSt M1 t p1 c1 (C ++ F) w') (g2 : Cp F 3 (fun v => [cur v, A v])) (hk : ok = 2 ∨ ok = 3) (hb : F.length + p < t.1) : WP (f_X5_put 10 (nI (clo ok)) (nI 0) M1) (fun v M2 => v = nI 1 ∧ FK M1 M2 ∧ CSt M2 t p1 c1 (C ++ (F ++ [(clo ok, 0)])) w' ∧ Cp (F ++ [(clo ok, 0)]) 3 (fun v => [opr ok (A v) (cur v)])) := by
  have hL := h4.1
  have cb := clo_b ok
  refine WP.mono (y_put g1 (x := (clo ok, 0)) (by rw [List.length_append]; omega) ⟨by show clo ok ≤ 16; omega, by show 0 < 2 ^ 20; decide⟩) (fun v M2 u => ?_)
  obtain ⟨u0, u1, u2⟩ := u
  rw [List.append_assoc] at u2
  refine ⟨u0, u1, u2, ?_⟩
  have := Cp.jon (o := clo ok) (R := fun _ => []) (X := A) (Y := cur) g2 cb.1
  have e : (fun v => jnd (clo ok) (A v) (cur v) :: ([] : List Int64)) = (fun v => [opr ok (A v) (cur v)]) := by
    funext v
    rw [jnd_clo (by omega)]
  rw [e] at this
  exact this
def wtI2 (pe : Option (Nat × RD)) : Int32 := pe.elim (-1) (fun q => nI (clo q.1))
theorem y_sumE (h4 : TOk2 t) (hC : CIs (mS M) (mR M)) (hl : C.length ≤ p) {s : SSt} {M1 : Mem} (h : CSS M M1 t p c C w s) (s0 : sgk t s.1 = 0) (n : Nat) (l3 : Int32) : WP (f_X5_readSum_L9 10 (n + 1) (wtI2 s.2.2.1) (nI 1) l3 M1) (SMc M t p c C w (smR t s)) := by
  have hL := h4.1
  obtain ⟨f1, F, w', g1, g2, g3, ⟨g4, g5⟩, ⟨g6, g7⟩, g8, g9⟩ := h
  have hC1 := f1.CI hC
  obtain ⟨p1, c1, pe, cur⟩ := s
  have g6 : p1 ≤ t.1 := g6
  have hst : smS t (p1, c1, pe, cur) = .inl (0, p1, c1, jn pe cur) := by
    unfold smS
    rw [if_pos s0]
  rw [smR_l h4 (show ((p1, c1, pe, cur) : SSt).1 ≤ t.1 from g6) hst]
  have fin : WP (f_X5_readSum_J119 10 (wtI2 pe) (nI 1) M1) (SMc M t p c C w (0, p1, c1, jn pe cur)) := by
    unfold f_X5_readSum_J119 f_X5_readSum_J131
    cases pe with
    | none =>
      have g8 : F.length + 0 + p ≤ p1 := g8
      have g9 : F.length + 0 + 2 * c + 1 ≤ 2 * c1 := g9
      refine WP.it rfl ?_
      rw [ckZ_n1]
      exact WP.ret ⟨f1, Or.inl ⟨rfl, rfl, F, w', g1, g2, g3, g4, g8, g9⟩⟩
    | some q =>
      obtain ⟨ok, A⟩ := q
      obtain ⟨d1, d2⟩ := g5 (ok, A) rfl
      have g8 : F.length + 1 + p ≤ p1 := g8
      have g9 : F.length + 1 + 2 * c + 1 ≤ 2 * c1 := g9
      have cb := clo_b ok
      refine WP.ie (nm1 (a := clo ok) (by omega)) ?_
      repeat (first | ((with_reducible apply WP.ce); case h => (simp (disch := omega) only []; with_reducible rfl)) | ((with_reducible apply WP.bd); case h => (simp (disch := omega) only [e_gR, e_gI, e_aI, e_aL, e_oO, e_pI, e_wI, e_wL, Option.map_some, mS_sL, mR_sL, mI_sL, mS_sI, mR_sI, mL_sI, n_cl, cob_10 hC1]; with_reducible rfl)) | rw [nm_eq] | rw [ckZ_n1] | rw [ckZ_n0])
      refine WP.cw (y_jn (A := A) (cur := cur) hl h4 g1 g2 d2 (by omega)) (fun v M2 u => ?_)
      obtain ⟨-, u1, u2, u3⟩ := u
      rw [ckZ_n1]
      have len : (F ++ [(clo ok, 0)]).length = F.length + 1 := by rw [List.length_append]; rfl
      exact WP.ret ⟨f1.tr u1, Or.inl ⟨rfl, rfl, _, w', u2, u3, g3, dpd_op d1 g4, by rw [len]; exact g8, by rw [len]; exact g9⟩⟩
  have kg := g1.1.2.2.1.2.2.2.2.1
  have a1 := y_join h4 p1 M1
  rw [if_pos s0] at a1
  show WP (f_X5_readSum_L9 10 (n + 1) (wtI2 pe) (nI 1) l3 M1) _
  rw [f_X5_readSum_L9]
  by_cases c0 : nI 400 ≤ l3
  · exact WP.it c0 fin
  · refine WP.ie c0 (WP.ie (by decide) ?_)
    repeat (first | ((with_reducible apply WP.ce); case h => (simp (disch := omega) only [a1]; with_reducible rfl)) | ((with_reducible apply WP.bd); case h => (simp (disch := omega) only [e_gR, e_gI, e_aI, e_aL, e_oO, e_pI, e_wI, e_wL, Option.map_some, mS_sL, mR_sL, mI_sL, mS_sI, mR_sI, mL_sI, n_cl, cob_10 hC1, cr_10_tape hC1, cob_1 hC1, kg]; with_reducible rfl)) | rw [nm_eq] | rw [ckZ_n1] | rw [ckZ_n0])
    exact WP.it rfl fin
theorem y_sumL (h4 : TOk2 t) (hC : CIs (mS M) (mR M)) (hl : C.length ≤ p) : ∀ d f (s : SSt) (M1 : Mem) (l3 : Nat), t.1 - s.1 ≤ d → CSS M M1 t p c C w s → l3 ≤ s.1 → WP (f_X5_readSum_L9 10 (f + d + 2) (wtI2 s.2.2.1) (nI 1) (nI l3) M1) (SMc M t p c C w (smR t s)) := by
  have hL := h4.1
  intro d
  induction d with
  | zero =>
    intro f s M1 l3 hd h hl3
    have g6 := h.2.choose_spec.choose_spec.2.2.2.2.1.1
    have s0 : sgk t s.1 = 0 := by
      rcases Nat.eq_zero_or_pos (sgk t s.1) with z | z
      · exact z
      · have := sg_mv g6 (by omega : sgk t s.1 ≠ 0); omega
    exact y_sumE h4 hC hl h s0 (f + 1) (nI l3)
  | succ d ih =>
    intro f s M1 l3 hd h hl3
    by_cases s0 : sgk t s.1 = 0
    · rw [show f + (d + 1) + 2 = (f + d + 2) + 1 by omega]
      exact y_sumE h4 hC hl h s0 (f + d + 2) (nI l3)
    · obtain ⟨f1, F, w', g1, g2, g3, ⟨g4, g5⟩, ⟨g6, g7⟩, g8, g9⟩ := h
      have hC1 := f1.CI hC
      obtain ⟨p1, c1, pe, cur⟩ := s
      have g6 : p1 ≤ t.1 := g6
      have g7 : c1 ≤ 60 := g7
      have g8 : F.length + pe.elim 0 (fun _ => 1) + p ≤ p1 := g8
      have g9 : F.length + pe.elim 0 (fun _ => 1) + 2 * c + 1 ≤ 2 * c1 := g9
      have hl3 : l3 ≤ p1 := hl3
      have hd : t.1 - p1 ≤ d + 1 := hd
      have s0 : sgk t p1 ≠ 0 := s0
      have g1 : CSt M1 t p1 c1 (C ++ F) w' := g1
      have g4 : dpd w' cur := g4
      obtain ⟨m1, m2⟩ := sg_mv g6 s0
      have kg := g1.1.2.2.1.2.2.2.2.1
      have a1 := y_join h4 p1 M1
      rw [if_neg s0] at a1
      have hks := sgk_cs t p1
      obtain ⟨k, hk⟩ : ∃ k, k = sgk t p1 := ⟨_, rfl⟩
      rw [← hk] at a1 hks s0
      have cb := clo_b k
      have hcl : (C ++ F).length = C.length + F.length := List.length_append
      have hp0 : ((p1, c1, pe, cur) : SSt).1 ≤ t.1 := g6
      -- a value failed
      have bad : ∀ (M3 : Mem) (l1 l3' : Int32), FK M M3 → vlF t (tkE t p1) c1 ≠ 0 → CFl M3 (vlF t (tkE t p1) c1) → WP (f_X5_readSum_L9 10 (f + d + 2) l1 (nI 0) l3' M3) (SMc M t p c C w (smR t (p1, c1, pe, cur))) := fun M3 l1 l3' f3 hv hfl => by
        have hst : smS t (p1, c1, pe, cur) = .inl (vlF t (tkE t p1) c1, p1, c1, fun _ => 0) := by
          unfold smS
          rw [if_neg (show ¬ sgk t p1 = 0 by omega), if_neg hv]
        rw [smR_l h4 hp0 hst]
        exact y_sumF hC f3 (r := (vlF t (tkE t p1) c1, p1, c1, fun _ => 0)) hfl (f + d + 1) l1 l3'
      show WP (f_X5_readSum_L9 10 (f + (d + 1) + 2) (wtI2 pe) (nI 1) (nI l3) M1) _
      rw [show f + (d + 1) + 2 = (f + d + 2) + 1 by omega, f_X5_readSum_L9]
      refine WP.ie (by rw [n_le (by decide) (by omega)]; omega) (WP.ie (by decide) ?_)
      repeat (first | ((with_reducible apply WP.ce); case h => (simp (disch := omega) only [a1]; with_reducible rfl)) | ((with_reducible apply WP.bd); case h => (simp (disch := omega) only [e_gR, e_gI, e_aI, e_aL, e_oO, e_pI, e_wI, e_wL, Option.map_some, mS_sL, mR_sL, mI_sL, mS_sI, mR_sI, mL_sI, n_cl, cob_10 hC1, cr_10_tape hC1, cob_1 hC1, kg]; with_reducible rfl)) | rw [nm_eq] | rw [ckZ_n1] | rw [ckZ_n0])
      refine WP.ie (nm1 (a := clo k) (by omega)) ?_
      repeat (first | ((with_reducible apply WP.ce); case h => (simp (disch := omega) only [a1]; with_reducible rfl)) | ((with_reducible apply WP.bd); case h => (simp (disch := omega) only [e_gR, e_gI, e_aI, e_aL, e_oO, e_pI, e_wI, e_wL, Option.map_some, mS_sL, mR_sL, mI_sL, mS_sI, mR_sI, mL_sI, n_cl, cob_10 hC1, cr_10_tape hC1, cob_1 hC1, kg]; with_reducible rfl)) | rw [nm_eq] | rw [ckZ_n1] | rw [ckZ_n0])
      refine WP.cw (y_next h4 g6 g1) (fun _ M2 n2 => ?_)
      obtain ⟨n2, n3⟩ := n2
      have hC2 := n3.1.1
      have fr2 := f1.tr n2
      by_cases hk4 : k < 4
      · have hk2 : k = 2 ∨ k = 3 := by omega
        -- the new one waits
        have vl : ∀ (M3 : Mem) (G : CDs), FK M M3 → CSt M3 t (tkE t p1) c1 (C ++ G) w' → Cp G 3 (fun v => [jn pe cur v]) → dpd w' (jn pe cur) → G.length + p ≤ p1 → G.length + 2 * c + 1 ≤ 2 * c1 → WP (f_X5_readSum_J79 (f_X5_readSum_L9 10 (f + d + 2)) 10 (nI l3) (nI (clo k)) M3) (SMc M t p c C w (smR t (p1, c1, pe, cur))) := by
          intro M3 G fr3 h3 hG hD b1 b2
          have hC3 := h3.1.1
          unfold f_X5_readSum_J79 f_X5_readSum_J113
          repeat (first | ((with_reducible apply WP.ce); case h => (simp (disch := omega) only []; with_reducible rfl)) | ((with_reducible apply WP.bd); case h => (simp (disch := omega) only [e_gR, e_gI, e_aI, e_aL, e_oO, e_pI, e_wI, e_wL, Option.map_some, mS_sL, mR_sL, mI_sL, mS_sI, mR_sI, mL_sI, n_cl, cob_10 hC3]; with_reducible rfl)) | rw [nm_eq] | rw [ckZ_n1] | rw [ckZ_n0])
          refine WP.cw (y_value h4 m2 g7 (by rw [List.length_append]; omega) h3) (fun v M4 u => ?_)
          obtain ⟨u1, u2⟩ := u
          rw [n_add]
          rcases u2 with ⟨hv0, rfl, x, w2, u3, u4, u5, u6⟩ | ⟨hv0, rfl, u3⟩
          · have hst : smS t (p1, c1, pe, cur) = .inr (tkE t (tkE t p1), c1 + 1, some (k, jn pe cur), vlD t (tkE t p1)) := by
              unfold smS
              rw [if_neg (show ¬ sgk t p1 = 0 by omega)]
              show (if vlF t (tkE t p1) c1 = 0 then _ else _) = _
              rw [if_pos hv0, if_pos (show sgk t p1 < 4 by omega), ← hk]
            obtain ⟨v1, v2⟩ := vl_mv m2 hv0
            have hc6 := (vlF_k hv0).2
            rw [smR_r h4 hp0 hst]
            rw [List.append_assoc] at u3
            have len : (G ++ [x]).length = G.length + 1 := by rw [List.length_append]; rfl
            exact ih f (tkE t (tkE t p1), c1 + 1, some (k, jn pe cur), vlD t (tkE t p1)) M4 (l3 + 1) (by show t.1 - tkE t (tkE t p1) ≤ d; omega) ⟨fr3.tr u1, G ++ [x], w2, u3, hG.app u4 (by omega) (fun v => by show 1 + 1 ≤ 3; decide), g3.tr u5, ⟨u6, fun q hq => by cases hq; exact ⟨hD.up u5, hk2⟩⟩, ⟨v2, by show c1 + 1 ≤ 60; omega⟩, by rw [len]; show G.length + 1 + 1 + p ≤ tkE t (tkE t p1); omega, by rw [len]; show G.length + 1 + 1 + 2 * c + 1 ≤ 2 * (c1 + 1); omega⟩ (by show l3 + 1 ≤ tkE t (tkE t p1); omega)
          · exact bad M4 _ _ (fr3.tr u1) hv0 u3
        have j67 : WP (f_X5_readSum_J67 (f_X5_readSum_L9 10 (f + d + 2)) 10 (wtI2 pe) (nI l3) (nI (clo k)) M2) (SMc M t p c C w (smR t (p1, c1, pe, cur))) := by
          unfold f_X5_readSum_J67
          cases pe with
          | none =>
            have g8 : F.length + 0 + p ≤ p1 := g8
            have g9 : F.length + 0 + 2 * c + 1 ≤ 2 * c1 := g9
            exact WP.it rfl (vl M2 F fr2 n3 g2 g4 (by omega) (by omega))
          | some q =>
            obtain ⟨ok, A⟩ := q
            obtain ⟨d1, d2⟩ := g5 (ok, A) rfl
            have g8 : F.length + 1 + p ≤ p1 := g8
            have g9 : F.length + 1 + 2 * c + 1 ≤ 2 * c1 := g9
            have cbo := clo_b ok
            refine WP.ie (nm1 (a := clo ok) (by omega)) ?_
            repeat (first | ((with_reducible apply WP.ce); case h => (simp (disch := omega) only []; with_reducible rfl)) | ((with_reducible apply WP.bd); case h => (simp (disch := omega) only [e_gR, e_gI, e_aI, e_aL, e_oO, e_pI, e_wI, e_wL, Option.map_some, mS_sL, mR_sL, mI_sL, mS_sI, mR_sI, mL_sI, n_cl, cob_10 hC2]; with_reducible rfl)) | rw [nm_eq] | rw [ckZ_n1] | rw [ckZ_n0])
            refine WP.cw (y_jn (A := A) (cur := cur) hl h4 n3 g2 d2 (by omega)) (fun v M3 u => ?_)
            obtain ⟨-, u1, u2, u3⟩ := u
            have len : (F ++ [(clo ok, 0)]).length = F.length + 1 := by rw [List.length_append]; rfl
            exact vl M3 _ (fr2.tr u1) u2 u3 (dpd_op d1 g4) (by rw [len]; omega) (by rw [len]; omega)
        rcases hk2 with z | z
        · exact WP.it (by rw [z]; rfl) j67
        · refine WP.ie (by rw [z]; decide) (WP.it (by rw [z]; rfl) j67)
      · have hk5 : k = 13 ∨ k = 14 ∨ k = 15 := by omega
        have cb2 : 9 ≤ clo k := by rcases hk5 with z | z | z <;> rw [z] <;> decide
        refine WP.ie (by rw [n_eq (by omega) (by decide)]; omega) (WP.ie (by rw [n_eq (by omega) (by decide)]; omega) ?_)
        repeat (first | ((with_reducible apply WP.ce); case h => (simp (disch := omega) only []; with_reducible rfl)) | ((with_reducible apply WP.bd); case h => (simp (disch := omega) only [e_gR, e_gI, e_aI, e_aL, e_oO, e_pI, e_wI, e_wL, Option.map_some, mS_sL, mR_sL, mI_sL, mS_sI, mR_sI, mL_sI, n_cl, cob_10 hC2]; with_reducible rfl)) | rw [nm_eq] | rw [ckZ_n1] | rw [ckZ_n0])
        refine WP.cw (y_value h4 m2 g7 (by rw [hcl]; omega) n3) (fun v M4 u => ?_)
        obtain ⟨u1, u2⟩ := u
        unfold f_X5_readSum_J111 f_X5_readSum_J112 f_X5_readSum_J113
        rcases u2 with ⟨hv0, rfl, x, w2, u3, u4, u5, u6⟩ | ⟨hv0, rfl, u3⟩
        · have hst : smS t (p1, c1, pe, cur) = .inr (tkE t (tkE t p1), c1 + 1, pe, fun v => opr k (cur v) (vlD t (tkE t p1) v)) := by
            unfold smS
            rw [if_neg (show ¬ sgk t p1 = 0 by omega)]
            show (if vlF t (tkE t p1) c1 = 0 then _ else _) = _
            rw [if_pos hv0, if_neg (show ¬ sgk t p1 < 4 by omega), ← hk]
          obtain ⟨v1, v2⟩ := vl_mv m2 hv0
          have hc6 := (vlF_k hv0).2
          have hC4 := u3.1.1
          rw [smR_r h4 hp0 hst]
          refine WP.ie (by decide) ?_
          repeat (first | ((with_reducible apply WP.ce); case h => (simp (disch := omega) only []; with_reducible rfl)) | ((with_reducible apply WP.bd); case h => (simp (disch := omega) only [e_gR, e_gI, e_aI, e_aL, e_oO, e_pI, e_wI, e_wL, Option.map_some, mS_sL, mR_sL, mI_sL, mS_sI, mR_sI, mL_sI, n_cl, cob_10 hC4]; with_reducible rfl)) | rw [nm_eq] | rw [ckZ_n1] | rw [ckZ_n0])
          rw [List.append_assoc] at u3
          have len : (F ++ [x]).length = F.length + 1 := by rw [List.length_append]; rfl
          refine WP.cw (y_put u3 (x := (clo k, 0)) (by rw [List.length_append, len]; omega) ⟨by show clo k ≤ 16; omega, by show 0 < 2 ^ 20; decide⟩) (fun v M5 y => ?_)
          obtain ⟨rfl, y1, y2⟩ := y
          rw [List.append_assoc] at y2
          have len2 : ((F ++ [x]) ++ [(clo k, 0)]).length = F.length + 2 := by rw [List.length_append, len]; rfl
          refine WP.ie (by decide) ?_
          rw [n_add]
          have hcp : Cp ((F ++ [x]) ++ [(clo k, 0)]) 3 (fun v => opr k (cur v) (vlD t (tkE t p1) v) :: pe.elim [] (fun q => [q.2 v])) := by
            have h1 : Cp (F ++ [x]) 3 (fun v => vlD t (tkE t p1) v :: cur v :: pe.elim [] (fun q => [q.2 v])) := g2.app u4 (by omega) (fun v => by
              cases pe with
              | none => show 1 + 1 ≤ 3; decide
              | some q => show 2 + 1 ≤ 3; decide)
            have h2 := h1.jon (o := clo k) cb.1
            have e : (fun v => jnd (clo k) (cur v) (vlD t (tkE t p1) v) :: pe.elim ([] : List Int64) (fun q => [q.2 v])) = (fun v => opr k (cur v) (vlD t (tkE t p1) v) :: pe.elim ([] : List Int64) (fun q => [q.2 v])) := by
              funext v
              rw [jnd_clo (by omega)]
            rw [e] at h2
            exact h2
          exact ih f (tkE t (tkE t p1), c1 + 1, pe, fun v => opr k (cur v) (vlD t (tkE t p1) v)) M5 (l3 + 1) (by show t.1 - tkE t (tkE t p1) ≤ d; omega) ⟨(fr2.tr u1).tr y1, (F ++ [x]) ++ [(clo k, 0)], w2, y2, hcp, g3.tr u5, ⟨dpd_op (g4.up u5) u6, fun q hq => ⟨(g5 q hq).1.up u5, (g5 q hq).2⟩⟩, ⟨v2, by show c1 + 1 ≤ 60; omega⟩, by rw [len2]; show F.length + 2 + pe.elim 0 (fun _ => 1) + p ≤ tkE t (tkE t p1); omega, by rw [len2]; show F.length + 2 + pe.elim 0 (fun _ => 1) + 2 * c + 1 ≤ 2 * (c1 + 1); omega⟩ (by show l3 + 1 ≤ tkE t (tkE t p1); omega)
        · refine WP.it rfl ?_
          rw [n_add]
          exact bad M4 _ _ (fr2.tr u1) hv0 u3
theorem y_sum (h4 : TOk2 t) (hp : p ≤ t.1) (hc : c ≤ 60) (hl : C.length ≤ p) (h : CSt M t p c C w) : WP (f_X5_readSum 10 M) (SMc M t p c C w (smP t p c)) := by
  have hL := h4.1
  have hC := h.1.1
  unfold f_X5_readSum
  repeat (first | ((with_reducible apply WP.ce); case h => (simp (disch := omega) only []; with_reducible rfl)) | ((with_reducible apply WP.bd); case h => (simp (disch := omega) only [e_gR, e_gI, e_aI, e_aL, e_oO, e_pI, e_wI, e_wL, Option.map_some, mS_sL, mR_sL, mI_sL, mS_sI, mR_sI, mL_sI, n_cl, cob_10 hC]; with_reducible rfl)) | rw [nm_eq] | rw [ckZ_n1] | rw [ckZ_n0])
  refine WP.cw (y_value h4 hp hc hl h) (fun v M1 u => ?_)
  obtain ⟨u1, u2⟩ := u
  rcases u2 with ⟨hv0, rfl, x, w2, u3, u4, u5, u6⟩ | ⟨hv0, rfl, u3⟩
  · have ep : smP t p c = smR t (tkE t p, c + 1, none, vlD t p) := by unfold smP; rw [if_pos hv0]
    obtain ⟨n1, n2⟩ := vl_mv hp hv0
    have hc6 := (vlF_k hv0).2
    rw [ep]
    obtain ⟨f, hf⟩ : ∃ f, FU = f + 400 + 2 := ⟨100000 - 402, by unfold FU; omega⟩
    rw [hf]
    exact y_sumL h4 hC hl 400 f (tkE t p, c + 1, none, vlD t p) M1 0 (by show t.1 - tkE t p ≤ 400; omega) ⟨u1, [x], w2, u3, u4.mono (by decide), u5, ⟨u6, fun q hq => by cases hq⟩, ⟨n2, by show c + 1 ≤ 60; omega⟩, by show 1 + 0 + p ≤ tkE t p; omega, by show 1 + 0 + 2 * c + 1 ≤ 2 * (c + 1); omega⟩ (Nat.zero_le _)
  · have ep : smP t p c = (vlF t p c, 0, 0, fun _ => 0) := by unfold smP; rw [if_neg hv0]
    rw [ep]
    obtain ⟨f, hf⟩ := FUd 0 (by omega)
    rw [hf]
    exact y_sumF hC u1 (r := (vlF t p c, 0, 0, fun _ => 0)) u3 _ _ _
end CSM
