/-! THE REFERENCE: tests of a rule -/
def FTs (m i e : Nat) (M M' : Mem) : Prop := mS M' = mS M ∧ mR M' = mR M ∧ (∀ a, a ≠ m → a < m + 18 ∨ (m + 19 < a ∧ a ≠ m + 24) → mI M' a = mI M a) ∧ (∀ k, k < 18 ∨ k = 20 ∨ k = 21 ∨ 25 < k → mI M' m k = mI M m k) ∧ ∀ j, j < 300 * i + e ∨ 300 * i + 300 ≤ j → mI M' (m + 18) j = mI M (m + 18) j ∧ mI M' (m + 19) j = mI M (m + 19) j
def tpk : STK → Nat
  | [] => 0
  | x :: _ => x.1
def Wf : STK → Prop
  | [] => True
  | x :: s => Wf s ∧ (x.1 = 9 ∨ x.1 = 10 ∨ x.1 = 11 ∨ x.1 = 12) ∧ (x.1 = 10 → tpk s ≠ 9 ∧ tpk s ≠ 10) ∧ (x.1 = 11 → tpk s ≠ 9 ∧ tpk s ≠ 10 ∧ tpk s ≠ 11)
def svl : STK → (Nat → Int64) → List Int64
  | [], _ => []
  | x :: s, v => if x.1 = 10 ∨ x.1 = 11 then bL (x.2 v) :: svl s v else svl s v
def nbr : STK → Nat
  | [] => 0
  | x :: s => (if x.1 = 12 then 0 else 1) + nbr s
theorem popk_n {k : Nat} {s : STK} {D : QD} (h : tpk s ≠ k) : popk k s D = (s, D) := by
  cases s with
  | nil => rfl
  | cons x s => rw [popk, if_neg (show ¬ x.1 = k from h)]
theorem popk_c {k : Nat} {A D : QD} {s : STK} : popk k ((k, A) :: s) D = popk k s (apk k A D) := by rw [popk, if_pos rfl]
theorem popk_wf {k : Nat} (hk : k ≠ 0) : ∀ (s : STK) (D : QD), Wf s → Wf (popk k s D).1 ∧ tpk (popk k s D).1 ≠ k
  | [], D, h => ⟨h, fun z => hk z.symm⟩
  | x :: s, D, h => by
    by_cases e : x.1 = k
    · rw [popk, if_pos e]
      exact popk_wf hk s _ h.1
    · rw [popk, if_neg e]
      exact ⟨h, e⟩
theorem popk_10 {s : STK} {D : QD} (h : Wf s) (h9 : tpk s ≠ 9) : tpk (popk 10 s D).1 ≠ 9 := by
  cases s with
  | nil => exact h9
  | cons x s =>
    by_cases e : x.1 = 10
    · rw [popk, if_pos e]
      have := h.2.2.1 e
      rw [popk_n this.2]
      exact this.1
    · rw [popk, if_neg e]; exact h9
theorem popk_11 {s : STK} {D : QD} (h : Wf s) (h9 : tpk s ≠ 9) (h10 : tpk s ≠ 10) : tpk (popk 11 s D).1 ≠ 9 ∧ tpk (popk 11 s D).1 ≠ 10 := by
  cases s with
  | nil => exact ⟨h9, h10⟩
  | cons x s =>
    by_cases e : x.1 = 11
    · rw [popk, if_pos e]
      have := h.2.2.2 e
      rw [popk_n this.2.2]
      exact ⟨this.1, this.2.1⟩
    · rw [popk, if_neg e]; exact ⟨h9, h10⟩
theorem bL_not (b : Bool) : 1 - bL b = bL (!b) := by cases b <;> decide
theorem bL_and (a b : Bool) : bL a &&& bL b = bL (a && b) := by cases a <;> cases b <;> decide
theorem bL_or (a b : Bool) : bL a ||| bL b = bL (a || b) := by cases a <;> cases b <;> decide
theorem ans1 {v : Nat → Int64} {k : Nat} (hk : k = 9 ∨ k = 10 ∨ k = 11) (A D : QD) (s : STK) (st : List Int64) : evl v [(k, 0)] (bL (D v) :: (svl ((k, A) :: s) v ++ st)) = some (bL (apk k A D v) :: (svl s v ++ st)) := by
  rcases hk with rfl | rfl | rfl
  · show (some ((1 - bL (D v)) :: (svl s v ++ st))).bind (evl v []) = _
    rw [bL_not]; rfl
  · show (ent1 v (10, 0) (bL (D v) :: bL (A v) :: (svl s v ++ st))).bind (evl v []) = _
    rw [ent_b (by decide)]
    show some ((bL (A v) &&& bL (D v)) :: _) = _
    rw [bL_and]; rfl
  · show (ent1 v (11, 0) (bL (D v) :: bL (A v) :: (svl s v ++ st))).bind (evl v []) = _
    rw [ent_b (by decide)]
    show some ((bL (A v) ||| bL (D v)) :: _) = _
    rw [bL_or]; rfl
/-- a test at work -/
def RTS (m i e : Nat) (M M' : Mem) (t : TP) (b q : Nat) (s : TSt) (F : List (Nat × Nat)) : Prop :=
  FTs m i e M M' ∧ ((mI M' m 19 = nI 0 ∧ mI M' m 18 = nI q ∧ mI M' m 22 = nI (e + F.length)) ∧ mI M' m 24 = nI s.2.2.1 ∧ mI M' m 23 = nI (dph s.2.2.2) ∧ mI M' m 25 = nI s.2.2.2.length ∧ ∀ j, j < s.2.2.2.length → mI M' (m + 24) j = nI (s.2.2.2.getD (s.2.2.2.length - 1 - j) (0, fun _ => false)).1) ∧ (FG M' m i e F ∧ ∀ x ∈ F, eok x) ∧ (∀ v st, evl v F st = some (s.1.elim (svl s.2.2.2 v ++ st) (fun D => bL (D v) :: (svl s.2.2.2 v ++ st)))) ∧ ((q ≤ t.1 ∧ bk t q = bk t s.2.1) ∧ s.2.1 ≤ t.1 ∧ s.2.2.1 ≤ 60) ∧ (Wf s.2.2.2 ∧ dph s.2.2.2 ≤ 10 ∧ s.2.2.2.length ≤ s.2.1) ∧ 2 * (F.length + nbr s.2.2.2) + b ≤ s.2.1 + 2 * s.2.2.1
def FTL (m i e : Nat) (M M' : Mem) (t : TP) (f : Nat) : Prop := f ≠ 0 ∧ FTs m i e M M' ∧ mI M' m 19 = nI f ∧ ∃ p', p' ≤ t.1 + 1 ∧ mI M' m 18 = nI p'
section RTT
variable {m i e b q : Nat} {M M1 M2 M3 M' : Mem} {t : TP}
theorem FE.FTs (h : FE m i e M M') : FTs m i e M M' := ⟨h.1, h.2.1, fun a a1 a2 => h.2.2.1 a a1 (by omega), fun k hk => h.2.2.2.1 k (by omega) (by omega) (by omega) (by omega), h.2.2.2.2⟩
theorem FTs.tr {e' : Nat} (h1 : FTs m i e M1 M2) (h2 : FTs m i e' M2 M3) (he : e ≤ e') : FTs m i e M1 M3 := ⟨h2.1.trans h1.1, h2.2.1.trans h1.2.1, fun a a1 a2 => (h2.2.2.1 a a1 a2).trans (h1.2.2.1 a a1 a2), fun k k1 => (h2.2.2.2.1 k k1).trans (h1.2.2.2.1 k k1), fun j hj => ⟨(h2.2.2.2.2 j (by omega)).1.trans (h1.2.2.2.2 j hj).1, (h2.2.2.2.2 j (by omega)).2.trans (h1.2.2.2.2 j hj).2⟩⟩
theorem FTs.RI (h : FTs m i e M M') (hR : RIs (mS M) (mR M) m) : RIs (mS M') (mR M') m := by rw [h.1, h.2.1]; exact hR
theorem FTs.tp (h : FTs m i e M M') (ht : RTp M m t) : RTp M' m t := ⟨(h.2.2.2.1 17 (by decide)).trans ht.1, by rw [h.2.2.1 (m + 17) (by omega) (by omega)]; exact ht.2⟩
theorem rt_of (f : FTs m i e M M') (hR : RIs (mS M) (mR M) m) (ht : RTp M m t) (h20 : mI M m 20 = nI i) (h26 : mI M m 26 = nI 11) : RIs (mS M') (mR M') m ∧ RTp M' m t ∧ mI M' m 20 = nI i ∧ mI M' m 26 = nI 11 := ⟨f.RI hR, f.tp ht, by rw [f.2.2.2.1 20 (by decide)]; exact h20, by rw [f.2.2.2.1 26 (by decide)]; exact h26⟩
theorem FTs.ws (M : Mem) {k : Nat} (hk : k = 18 ∨ k = 19 ∨ (22 ≤ k ∧ k ≤ 25)) (v : Int32) : FTs m i e M (sI M m k v) := ⟨rfl, rfl, fun a h _ => sI_row h, fun j j1 => by rw [mI_sI, if_neg (by omega)], fun j _ => by rw [sI_row (by omega), sI_row (by omega)]; exact ⟨rfl, rfl⟩⟩
theorem FTs.wo (M : Mem) (k : Nat) (v : Int32) : FTs m i e M (sI M (m + 24) k v) := ⟨rfl, rfl, fun a h1 h2 => sI_row (by omega), fun j j1 => by rw [sI_row (by omega)], fun j _ => by rw [sI_row (by omega), sI_row (by omega)]; exact ⟨rfl, rfl⟩⟩
theorem FTs.fg {a : Nat} {F : List (Nat × Nat)} (h : FTs m i e M M') (hF : FG M m i a F) (ha : a + F.length ≤ e) : FG M' m i a F := fun j hj => by
  have := h.2.2.2.2 (300 * i + a + j) (by omega)
  rw [this.1, this.2]
  exact hF j hj
theorem x_top (h4 : TOk2 t) {s : TSt} {F : List (Nat × Nat)} (hR : RIs (mS M) (mR M) m) (h : RTS m i e M M1 t b q s F) : f_X10_top m M1 = some (if s.2.2.2.length = 0 then -1 else nI (tpk s.2.2.2), M1) := by
  have hL := h4.1
  have hR1 := h.1.RI hR
  obtain ⟨-, ⟨-, -, -, g25, go⟩, -, -, ⟨-, hp, -⟩, ⟨-, -, hl⟩, -⟩ := h
  obtain ⟨o, p, c, stk⟩ := s
  have g25 : mI M1 m 25 = nI stk.length := g25
  have hl : stk.length ≤ p := hl
  have hp : p ≤ t.1 := hp
  unfold f_X10_top f_X10_top_J22
  repeat (first | ((with_reducible apply clt_t); case h => (simp (disch := omega) only [hR]; with_reducible rfl)) | ((with_reducible apply bnd_t); case h => (simp (disch := omega) only [e_gR, e_gI, e_aI, e_aL, e_oO, e_pI, e_wI, e_wL, Option.map_some, mS_sL, mR_sL, mI_sL, mS_sI, mR_sI, mL_sI, n_cl, ro_m hR1, g25]; with_reducible rfl)) | rw [nm_eq])
  show _ = some (if stk.length = 0 then -1 else nI (tpk stk), M1)
  by_cases h0 : stk.length = 0
  · rw [if_pos (by rw [h0]; rfl), if_pos h0]
  · rw [if_neg (by rw [nIz (by omega)]; exact h0), if_neg h0]
    have e1 := go (stk.length - 1) (by show stk.length - 1 < stk.length; omega)
    have e1 : mI M1 (m + 24) (stk.length - 1) = nI (stk.getD (stk.length - 1 - (stk.length - 1)) (0, fun _ => false)).1 := e1
    rw [Nat.sub_self] at e1
    have e2 : (stk.getD 0 (0, fun _ => false)).1 = tpk stk := by
      cases stk with
      | nil => rfl
      | cons x s => rfl
    rw [e2] at e1
    repeat (first | ((with_reducible apply clt_t); case h => (simp (disch := omega) only [hR]; with_reducible rfl)) | ((with_reducible apply bnd_t); case h => (simp (disch := omega) only [e_gR, e_gI, e_aI, e_aL, e_oO, e_pI, e_wI, e_wL, Option.map_some, mS_sL, mR_sL, mI_sL, mS_sI, mR_sI, mL_sI, n_cl, ro_m hR1, rr_open hR1, g25]; with_reducible rfl)) | rw [nm_eq])
    rw [n_sub (by omega)]
    repeat (first | ((with_reducible apply clt_t); case h => (simp (disch := omega) only [hR]; with_reducible rfl)) | ((with_reducible apply bnd_t); case h => (simp (disch := omega) only [e_gR, e_gI, e_aI, e_aL, e_oO, e_pI, e_wI, e_wL, Option.map_some, mS_sL, mR_sL, mI_sL, mS_sI, mR_sI, mL_sI, n_cl, rx_open hR1, e1]; with_reducible rfl)) | rw [nm_eq])
    rfl
theorem x_answersL (h4 : TOk2 t) (hi : i < 6) (hR : RIs (mS M) (mR M) m) (ht : RTp M m t) (h20 : mI M m 20 = nI i) (h26 : mI M m 26 = nI 11) (hb : 2 * e ≤ b) {k : Nat} (hk : k = 9 ∨ k = 10 ∨ k = 11) {p c : Nat} : ∀ (stk : STK) (f : Nat) (D : QD) (F : List (Nat × Nat)) (M1 : Mem), RTS m i e M M1 t b q (some D, p, c, stk) F → WP (f_X10_answers_L0 m (f + stk.length + 1) (nI k) M1) (fun _ M' => ∃ F', RTS m i e M M' t b q (some (popk k stk D).2, p, c, (popk k stk D).1) F') := by
  have hL := h4.1
  intro stk
  induction stk with
  | nil =>
    intro f D F M1 h
    have a1 := x_top h4 hR h
    have hR1 := h.1.RI hR
    rw [f_X10_answers_L0]
    repeat (first | ((with_reducible apply WP.ce); case h => (simp (disch := omega) only [a1]; with_reducible rfl)) | ((with_reducible apply WP.bd); case h => (simp (disch := omega) only [e_gR, e_gI, e_aI, e_aL, e_oO, e_pI, e_wI, e_wL, Option.map_some, mS_sL, mR_sL, mI_sL, mS_sI, mR_sI, mL_sI, n_cl, ro_m hR1]; with_reducible rfl)) | rw [nm_eq] | rw [ckZ_n1] | rw [ckZ_n0])
    refine WP.ie (fun z => nm1 (a := k) (by omega) (show nI k = -1 from z.symm)) ?_
    unfold f_X10_answers_J54
    exact WP.ret ⟨F, h⟩
  | cons x s ih =>
    intro f D F M1 h
    have a1 := x_top h4 hR h
    have h0 := h
    obtain ⟨fr, ⟨⟨g19, g18, g22⟩, g24, g23, g25, go⟩, ⟨hG, hO⟩, hv, ⟨hq, hp, hc⟩, ⟨hw, hdp, hl⟩, hbd⟩ := h
    obtain ⟨hR1, ht1, k20, k26⟩ := rt_of fr hR ht h20 h26
    have g25 : mI M1 m 25 = nI (s.length + 1) := g25
    have hl : s.length + 1 ≤ p := hl
    have hp : p ≤ t.1 := hp
    have hc : c ≤ 60 := hc
    have hlen : (x :: s).length = s.length + 1 := rfl
    rw [hlen, show f + (s.length + 1) + 1 = (f + s.length + 1) + 1 from by omega, f_X10_answers_L0]
    repeat (first | ((with_reducible apply WP.ce); case h => (simp (disch := omega) only [a1]; with_reducible rfl)) | ((with_reducible apply WP.bd); case h => (simp (disch := omega) only [e_gR, e_gI, e_aI, e_aL, e_oO, e_pI, e_wI, e_wL, Option.map_some, mS_sL, mR_sL, mI_sL, mS_sI, mR_sI, mL_sI, n_cl, ro_m hR1]; with_reducible rfl)) | rw [nm_eq] | rw [ckZ_n1] | rw [ckZ_n0])
    have et : (if (x :: s).length = 0 then (-1 : Int32) else nI (tpk (x :: s))) = nI x.1 := by rw [if_neg (by rw [hlen]; omega)]; rfl
    have hx : x.1 < 100 := by have := hw.2.1; omega
    have et : (if (((some D, p, c, x :: s) : TSt).2.2.2).length = 0 then (-1 : Int32) else nI (tpk ((some D, p, c, x :: s) : TSt).2.2.2)) = nI x.1 := et
    rw [et]
    by_cases e1 : x.1 = k
    · obtain ⟨xk, xD⟩ := x
      have e1 : xk = k := e1
      subst e1
      have hbd : 2 * (F.length + ((if xk = 12 then 0 else 1) + nbr s)) + b ≤ p + 2 * c := hbd
      rw [if_neg (by omega)] at hbd
      have hdp : (if xk = 9 ∨ xk = 12 then 1 else 0) + dph s ≤ 10 := hdp
      have g23 : mI M1 m 23 = nI ((if xk = 9 ∨ xk = 12 then 1 else 0) + dph s) := g23
      refine WP.it rfl ?_
      repeat (first | ((with_reducible apply WP.ce); case h => (simp (disch := omega) only []; with_reducible rfl)) | ((with_reducible apply WP.bd); case h => (simp (disch := omega) only [e_gR, e_gI, e_aI, e_aL, e_oO, e_pI, e_wI, e_wL, Option.map_some, mS_sL, mR_sL, mI_sL, mS_sI, mR_sI, mL_sI, n_cl, ro_m hR1, g19]; with_reducible rfl)) | rw [nm_eq] | rw [ckZ_n1] | rw [ckZ_n0])
      refine WP.it rfl ?_
      have a3 := r_entry (k := xk) (n := 0) hR1 hi (e := e + F.length) (by omega) g19 k20 g22
      obtain ⟨M2, hM2⟩ : ∃ M2, M2 = enM M1 m i (e + F.length) xk 0 := ⟨_, rfl⟩
      rw [← hM2] at a3
      have fr2e : FE m i (e + F.length) M1 M2 := by rw [hM2]; exact enM_F M1 xk 0 (by omega)
      have hR2 := fr2e.RI hR1
      have e2 : ∀ j, j ≠ 22 → mI M2 m j = mI M1 m j := fun j hj => by rw [hM2, enM_m, if_neg hj]
      have j25 : mI M2 m 25 = nI (s.length + 1) := by rw [e2 25 (by decide)]; exact g25
      obtain ⟨M3, hM3⟩ : ∃ M3, M3 = sI M2 m 25 (nI s.length) := ⟨_, rfl⟩
      have hR3 : RIs (mS M3) (mR M3) m := by rw [hM3]; exact hR2
      have j23 : mI M3 m 23 = nI ((if xk = 9 ∨ xk = 12 then 1 else 0) + dph s) := by rw [hM3, mI_sI, if_neg (by omega), e2 23 (by decide)]; exact g23
      obtain ⟨M4, hM4⟩ : ∃ M4, M4 = sI M3 m 23 (nI (dph s)) := ⟨_, rfl⟩
      have fr14 : FTs m i (e + F.length) M1 M4 := (fr2e.FTs.tr (by rw [hM3]; exact FTs.ws M2 (by omega) _ : FTs m i (e + F.length) M2 M3) (Nat.le_refl _)).tr (by rw [hM4]; exact FTs.ws M3 (by omega) _ : FTs m i (e + F.length) M3 M4) (Nat.le_refl _)
      have k4 : ∀ j, j ≠ 22 → j ≠ 23 → j ≠ 25 → mI M4 m j = mI M1 m j := fun j j1 j2 j3 => by rw [hM4, mI_sI, if_neg (by omega), hM3, mI_sI, if_neg (by omega), e2 j j1]
      have len : (F ++ [(xk, 0)]).length = F.length + 1 := by rw [List.length_append]; rfl
      have gF2 : FG M2 m i e (F ++ [(xk, 0)]) := FG.app (fr2e.g hG (Nat.le_refl _)) (by rw [hM2]; exact enM_g M1 xk 0)
      have nx : RTS m i e M M4 t b q (some (apk xk xD D), p, c, s) (F ++ [(xk, 0)]) := by
        refine ⟨fr.tr fr14 (by omega), ⟨⟨by rw [k4 19 (by decide) (by decide) (by decide)]; exact g19, by rw [k4 18 (by decide) (by decide) (by decide)]; exact g18, by rw [hM4, mI_sI, if_neg (by omega), hM3, mI_sI, if_neg (by omega), hM2, enM_m, if_pos rfl, len]; rfl⟩, by rw [k4 24 (by decide) (by decide) (by decide)]; exact g24, by rw [hM4, mI_sI, if_pos ⟨rfl, rfl⟩], by rw [hM4, mI_sI, if_neg (by omega), hM3, mI_sI, if_pos ⟨rfl, rfl⟩], fun j hj => ?_⟩, ⟨fun j hj => ?_, fun y hy => ?_⟩, fun v st => ?_, ⟨hq, hp, hc⟩, ⟨hw.1, ?_, ?_⟩, ?_⟩
        · have hj : j < s.length := hj
          have := go j (by show j < s.length + 1; omega)
          have this : mI M1 (m + 24) j = nI (((xk, xD) :: s).getD (s.length + 1 - 1 - j) (0, fun _ => false)).1 := this
          rw [show s.length + 1 - 1 - j = (s.length - 1 - j) + 1 by omega] at this
          rw [hM4, sI_row (by omega), hM3, sI_row (by omega), fr2e.2.2.1 (m + 24) (by omega) (by omega)]
          exact this
        · rw [hM4, sI_row (by omega), sI_row (by omega), hM3, sI_row (by omega), sI_row (by omega)]
          exact gF2 j hj
        · rcases List.mem_append.mp hy with z | z
          · exact hO y z
          · rw [List.mem_singleton.mp z]
            exact ⟨by show xk = 0 ∨ _; omega, by show 0 < 100000; decide, fun z => by have z : xk = 1 := z; omega⟩
        · rw [evl_app, hv v st]
          exact ans1 hk xD D s st
        · show dph s ≤ 10; omega
        · show s.length ≤ p; omega
        · rw [len]
          show 2 * (F.length + 1 + nbr s) + b ≤ p + 2 * c
          omega
      repeat (first | ((with_reducible apply WP.ce); case h => (simp (disch := omega) only [a3]; with_reducible rfl)) | ((with_reducible apply WP.bd); case h => (simp (disch := omega) only [e_gR, e_gI, e_aI, e_aL, e_oO, e_pI, e_wI, e_wL, Option.map_some, mS_sL, mR_sL, mI_sL, mS_sI, mR_sI, mL_sI, n_cl, ro_m hR1]; with_reducible rfl)) | rw [nm_eq] | rw [ckZ_n1] | rw [ckZ_n0])
      repeat (first | ((with_reducible apply WP.ce); case h => (simp (disch := omega) only []; with_reducible rfl)) | ((with_reducible apply WP.bd); case h => (simp (disch := omega) only [e_gR, e_gI, e_aI, e_aL, e_oO, e_pI, e_wI, e_wL, Option.map_some, mS_sL, mR_sL, mI_sL, mS_sI, mR_sI, mL_sI, n_cl, ro_m hR2, j25]; with_reducible rfl)) | rw [nm_eq] | rw [ckZ_n1] | rw [ckZ_n0])
      rw [n_sub (by omega), show s.length + 1 - 1 = s.length from rfl, ← hM3]
      repeat (first | ((with_reducible apply WP.ce); case h => (simp (disch := omega) only []; with_reducible rfl)) | ((with_reducible apply WP.bd); case h => (simp (disch := omega) only [e_gR, e_gI, e_aI, e_aL, e_oO, e_pI, e_wI, e_wL, Option.map_some, mS_sL, mR_sL, mI_sL, mS_sI, mR_sI, mL_sI, n_cl, ro_m hR3]; with_reducible rfl)) | rw [nm_eq] | rw [ckZ_n1] | rw [ckZ_n0])
      rw [popk_c]
      unfold f_X10_answers_J47
      by_cases c9 : xk = 9
      · refine WP.it (by rw [c9]) ?_
        rw [j23, if_pos (Or.inl c9), n_sub (by omega), show 1 + dph s - 1 = dph s by omega]
        repeat (first | ((with_reducible apply WP.ce); case h => (simp (disch := omega) only []; with_reducible rfl)) | ((with_reducible apply WP.bd); case h => (simp (disch := omega) only [e_gR, e_gI, e_aI, e_aL, e_oO, e_pI, e_wI, e_wL, Option.map_some, mS_sL, mR_sL, mI_sL, mS_sI, mR_sI, mL_sI, n_cl, ro_m hR3, ← hM4]; with_reducible rfl)) | rw [nm_eq] | rw [ckZ_n1] | rw [ckZ_n0])
        exact ih f _ _ M4 nx
      · refine WP.ie (by rw [n_eq (by omega) (by omega)]; exact c9) ?_
        rw [j23, if_neg (by omega), n_sub (by omega), show 0 + dph s - 0 = dph s by omega]
        repeat (first | ((with_reducible apply WP.ce); case h => (simp (disch := omega) only []; with_reducible rfl)) | ((with_reducible apply WP.bd); case h => (simp (disch := omega) only [e_gR, e_gI, e_aI, e_aL, e_oO, e_pI, e_wI, e_wL, Option.map_some, mS_sL, mR_sL, mI_sL, mS_sI, mR_sI, mL_sI, n_cl, ro_m hR3, ← hM4]; with_reducible rfl)) | rw [nm_eq] | rw [ckZ_n1] | rw [ckZ_n0])
        exact ih f _ _ M4 nx
    · refine WP.ie (by rw [n_eq (by omega) (by omega)]; exact e1) ?_
      unfold f_X10_answers_J54
      rw [popk, if_neg e1]
      exact WP.ret ⟨F, h0⟩
theorem x_answers (h4 : TOk2 t) (hi : i < 6) (hR : RIs (mS M) (mR M) m) (ht : RTp M m t) (h20 : mI M m 20 = nI i) (h26 : mI M m 26 = nI 11) (hb : 2 * e ≤ b) {k : Nat} (hk : k = 9 ∨ k = 10 ∨ k = 11) {p c : Nat} {stk : STK} {D : QD} {F : List (Nat × Nat)} (h : RTS m i e M M1 t b q (some D, p, c, stk) F) : WP (f_X10_answers m (nI k) M1) (fun _ M' => ∃ F', RTS m i e M M' t b q (some (popk k stk D).2, p, c, (popk k stk D).1) F') := by
  have hL := h4.1
  have hl : stk.length ≤ p := h.2.2.2.2.2.1.2.2
  have hp : p ≤ t.1 := h.2.2.2.2.1.2.1
  obtain ⟨f, hf⟩ := FUd stk.length (by omega)
  rw [f_X10_answers, hf]
  exact x_answersL h4 hi hR ht h20 h26 hb hk stk f D F M1 h
end RTT
