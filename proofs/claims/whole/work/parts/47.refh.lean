/-! carried rows, one behind the other -/
def CS (m : Nat) (M0 M : Mem) (g : Int32) (q : Nat) (F : Nat → Int32) : Prop := FX [m, m + 29, m + 35] M0 M ∧ (mI M m = upd (upd (mI M0 m) 53 g) 52 (nI q) ∧ mI M (m + 35) = F)
theorem CS.st {m : Nat} {M0 M : Mem} {q : Nat} {F : Nat → Int32} (hR : RIs (mS M0) (mR M0) m) (h : CS m M0 M (nI 0) q F) {a n : Nat} (hl : lnS (mS M0) (some a) = some (nI n)) (hx : ∀ i, i < n → ixS (mS M0) 0 (some a) (nI i) = some a) (ha : a ≠ m + 35) (ha2 : a ≠ m) (hn : n ≤ 400) (hp : q + n ≤ 3000) :
    WP (f_X10_carryRow m (some a) M) (fun _ M' => CS m M0 M' (nI 0) (q + n) (cpR F (mI M a) q n) ∧ mI M' (m + 29) = mI M (m + 29)) := by
  refine WP.mono (r_carF (p := q) (h.1.RI hR) (by rw [h.1.1]; exact hl) (by rw [h.1.1]; exact hx) ha ha2 hn hp (by rw [h.2.1, upd_o _ _ (by decide), upd_s]) (by rw [h.2.1, upd_s])) (fun _ M' g => ⟨⟨h.1.tr (g.1.up (by simp)), ?_, ?_⟩, g.1.2.2 _ (by simp)⟩)
  · rw [g.2.1, h.2.1]
    funext i
    by_cases hi : i = 52
    · subst hi; rw [upd_s, upd_s]
    · rw [upd_o _ _ hi, upd_o _ _ hi, upd_o _ _ hi]
  · rw [g.2.2, h.2.2]
/-- what a question may change of the reference; what it was lies in the fifth image -/
def KPq (m : Nat) (M0 M : Mem) : Prop := (∀ i, i < 9 → mI M (m + 35) (2400 + i) = mI M0 (m + 1) i) ∧ (∀ i, i < 8 → mI M (m + 35) (2409 + i) = mI M0 (m + 5) i) ∧ (∀ i, i < 5 → mI M (m + 35) (2417 + i) = mI M0 (m + 6) i) ∧ (∀ i, i < 5 → mI M (m + 35) (2422 + i) = mI M0 (m + 7) i)
def BK (m : Nat) (M0 M : Mem) : Prop := (∀ i, i < 9 → mI M (m + 1) i = mI M0 (m + 1) i) ∧ (∀ i, i < 8 → mI M (m + 5) i = mI M0 (m + 5) i) ∧ (∀ i, i < 5 → mI M (m + 6) i = mI M0 (m + 6) i) ∧ (∀ i, i < 5 → mI M (m + 7) i = mI M0 (m + 7) i)
def QF (m : Nat) (M0 M : Mem) : Prop := (mS M = mS M0 ∧ mR M = mR M0) ∧ (∀ a, (a < m ∨ m + 36 < a ∨ a = m + 2 ∨ a = m + 3 ∨ a = m + 4 ∨ (m + 8 ≤ a ∧ a ≤ m + 24) ∨ a = m + 28 ∨ a = m + 36) → mI M a = mI M0 a) ∧ (∀ k, k < 9 → k ≠ 4 → k ≠ 5 → k ≠ 7 → k ≠ 8 → mI M (m + 1) k = mI M0 (m + 1) k) ∧ (∀ k, k ≠ 38 → k ≠ 39 → k ≠ 52 → k ≠ 53 → mI M m k = mI M0 m k) ∧ (∀ i, i < 2400 → mI M (m + 35) i = mI M0 (m + 35) i) ∧ KPq m M0 M
def SX (m : Nat) (M M' : Mem) : Prop := mI M' m 38 = mI M m 38 ∧ mI M' m 39 = mI M m 39 ∧ ∀ a, 30 ≤ a → a ≤ 34 → mI M' (m + a) = mI M (m + a)
theorem SX.rf (m : Nat) (M : Mem) : SX m M M := ⟨rfl, rfl, fun _ _ _ => rfl⟩
theorem SX.tr {m : Nat} {M1 M2 M3 : Mem} (h1 : SX m M1 M2) (h2 : SX m M2 M3) : SX m M1 M3 := ⟨h2.1.trans h1.1, h2.2.1.trans h1.2.1, fun a a1 a2 => (h2.2.2 a a1 a2).trans (h1.2.2 a a1 a2)⟩
theorem QF.RI {m : Nat} {M0 M : Mem} (h : QF m M0 M) (hR : RIs (mS M0) (mR M0) m) : RIs (mS M) (mR M) m := by rw [h.1.1, h.1.2]; exact hR
theorem QF.T {m : Nat} {M0 M : Mem} {T : TD} (h : QF m M0 M) (hT : RT M0 m T) : RT M m T := by
  have e2 := h.2.1 (m + 2) (by omega)
  have e3 := h.2.1 (m + 3) (by omega)
  have e4 := h.2.1 (m + 4) (by omega)
  have e11 := h.2.1 (m + 11) (by omega)
  have g := h.2.2.1
  refine ⟨⟨(g 0 (by decide) (by decide) (by decide) (by decide) (by decide)).trans hT.1.1, (g 1 (by decide) (by decide) (by decide) (by decide) (by decide)).trans hT.1.2.1, (g 2 (by decide) (by decide) (by decide) (by decide) (by decide)).trans hT.1.2.2.1, (g 3 (by decide) (by decide) (by decide) (by decide) (by decide)).trans hT.1.2.2.2⟩, ?_, ?_⟩
  · rw [e2]; exact hT.2.1
  · rw [e3, e4, e11]; exact hT.2.2
theorem GE.QF {m : Nat} {M0 M M' : Mem} (h : GE m M M') (q : QF m M0 M) : QF m M0 M' := by
  have e0 := h.2.2.1 m (by omega) (by omega) (by omega) (by omega)
  have e35 := h.2.2.1 (m + 35) (by omega) (by omega) (by omega) (by omega)
  refine ⟨⟨h.1.trans q.1.1, h.2.1.trans q.1.2⟩, fun a ha => (h.2.2.1 a (by omega) (by omega) (by omega) (by omega)).trans (q.2.1 a ha), fun k h9 h4 h5 h7 h8 => (h.2.2.2.1 k h4 h5).trans (q.2.2.1 k h9 h4 h5 h7 h8), fun k a b c d => by rw [e0]; exact q.2.2.2.1 k a b c d, fun i hi => by rw [e35]; exact q.2.2.2.2.1 i hi, ?_⟩
  unfold KPq
  rw [e35]
  exact q.2.2.2.2.2
theorem GE.SX {m : Nat} {M M' : Mem} (h : GE m M M') : SX m M M' := by
  have e0 := h.2.2.1 m (by omega) (by omega) (by omega) (by omega)
  exact ⟨by rw [e0], by rw [e0], fun a _ _ => h.2.2.1 (m + a) (by omega) (by omega) (by omega) (by omega)⟩
theorem BK.S {m : Nat} {M0 M : Mem} {T : TD} {S : SC} (h : BK m M0 M) (hk : TOk T) (hS : RS M0 m T S) : RS M m T S := by
  have h1 := hk.1.2.2.1
  have h2 := hk.1.2.2.2
  exact ⟨⟨(h.1 4 (by decide)).trans hS.1.1, (h.1 5 (by decide)).trans hS.1.2⟩, fun j hj => (h.2.1 j (by omega)).trans (hS.2.1 j hj), fun s hs => ⟨(h.2.2.1 s (by omega)).trans (hS.2.2 s hs).1, (h.2.2.2 s (by omega)).trans (hS.2.2 s hs).2⟩⟩
theorem QF.ru {m : Nat} {M0 M : Mem} {r : Option RD} (q : QF m M0 M) (h8 : mI M (m + 1) 8 = mI M0 (m + 1) 8) (hr : RRu M0 m r) : RRu M m r := hr.of (fun a a1 a2 => q.2.1 (m + a) (by omega)) h8
theorem r_keepsAll {m : Nat} {M0 : Mem} (hR : RIs (mS M0) (mR M0) m) : WP (f_X10_keepsAll m M0) (fun _ M => QF m M0 M ∧ BK m M0 M ∧ SX m M0 M ∧ mI M (m + 27) = mI M0 (m + 27)) := by
  have c0 : CS m M0 (sI (sI M0 m 52 (nI 2400)) m 53 (nI 0)) (nI 0) 2400 (mI M0 (m + 35)) := by
    refine ⟨((FX.rf _ M0).sI (by simp) _ _).sI (by simp) _ _, ?_, by rw [sI_row (by omega), sI_row (by omega)]⟩
    rw [mI_sI_s, mI_sI_s]
    funext i
    by_cases h1 : i = 53
    · subst h1; rw [upd_s, upd_o _ _ (by decide), upd_s]
    · rw [upd_o _ _ h1]
      by_cases h2 : i = 52
      · subst h2; rw [upd_s, upd_s]
      · rw [upd_o _ _ h2, upd_o _ _ h2, upd_o _ _ h1]
  unfold f_X10_keepsAll
  repeat (first | refine WP.ce (by (simp (disch := omega) only []; with_reducible rfl)) ?_ | refine WP.bd (by (simp (disch := omega) only [e_gR, e_gI, e_aI, e_aL, e_oO, e_pI, e_wI, e_wL, Option.map_some, mS_sL, mR_sL, mI_sL, mS_sI, mR_sI, mL_sI, n_cl, ro_m hR]; with_reducible rfl)) ?_ | rw [nm_eq])
  refine WP.cw (P := fun _ M => QF m M0 M ∧ BK m M0 M ∧ SX m M0 M ∧ mI M (m + 27) = mI M0 (m + 27)) ?_ (fun _ M h => WP.ret h)
  unfold f_X10_carriesAll
  repeat (first | refine WP.ce (by (simp (disch := omega) only []; with_reducible rfl)) ?_ | refine WP.bd (by (simp (disch := omega) only [e_gR, e_gI, e_aI, e_aL, e_oO, e_pI, e_wI, e_wL, Option.map_some, mS_sL, mR_sL, mI_sL, mS_sI, mR_sI, mL_sI, n_cl, ro_m hR, n_mul, rr_scalar hR]; with_reducible rfl)) ?_ | rw [nm_eq])
  refine WP.cw (CS.st hR c0 (rl_scalar hR) (fun i hi => rx_scalar hR hi) (by omega) (by omega) (by decide) (by decide)) (fun _ M1 c1 => ?_)
  have hR1 := c1.1.1.RI hR
  repeat (first | refine WP.ce (by (simp (disch := omega) only []; with_reducible rfl)) ?_ | refine WP.bd (by (simp (disch := omega) only [e_gR, e_gI, e_aI, e_aL, e_oO, e_pI, e_wI, e_wL, Option.map_some, mS_sL, mR_sL, mI_sL, mS_sI, mR_sI, mL_sI, n_cl, ro_m hR1, rr_heard hR1]; with_reducible rfl)) ?_ | rw [nm_eq])
  refine WP.cw (CS.st hR c1.1 (rl_heard hR) (fun i hi => rx_heard hR hi) (by omega) (by omega) (by decide) (by decide)) (fun _ M2 c2 => ?_)
  have hR2 := c2.1.1.RI hR
  repeat (first | refine WP.ce (by (simp (disch := omega) only []; with_reducible rfl)) ?_ | refine WP.bd (by (simp (disch := omega) only [e_gR, e_gI, e_aI, e_aL, e_oO, e_pI, e_wI, e_wL, Option.map_some, mS_sL, mR_sL, mI_sL, mS_sI, mR_sI, mL_sI, n_cl, ro_m hR2, rr_knows hR2]; with_reducible rfl)) ?_ | rw [nm_eq])
  refine WP.cw (CS.st hR c2.1 (rl_knows hR) (fun i hi => rx_knows hR hi) (by omega) (by omega) (by decide) (by decide)) (fun _ M3 c3 => ?_)
  have hR3 := c3.1.1.RI hR
  repeat (first | refine WP.ce (by (simp (disch := omega) only []; with_reducible rfl)) ?_ | refine WP.bd (by (simp (disch := omega) only [e_gR, e_gI, e_aI, e_aL, e_oO, e_pI, e_wI, e_wL, Option.map_some, mS_sL, mR_sL, mI_sL, mS_sI, mR_sI, mL_sI, n_cl, ro_m hR3, rr_passed hR3]; with_reducible rfl)) ?_ | rw [nm_eq])
  refine WP.cw (CS.st hR c3.1 (rl_passed hR) (fun i hi => rx_passed hR hi) (by omega) (by omega) (by decide) (by decide)) (fun _ M4 c4 => ?_)
  refine WP.it (show nI 4 = nI 4 from rfl) (WP.ret ?_)
  have f4 := c4.1.1
  have f3 := c3.1.1
  have f2 := c2.1.1
  have f1 := c1.1.1
  have f0 := c0.1
  have e := c4.1.2.2
  rw [f3.2.2 (m + 7) (by simp), f2.2.2 (m + 6) (by simp), f1.2.2 (m + 5) (by simp), f0.2.2 (m + 1) (by simp)] at e
  have g29 : mI M4 (m + 29) = mI M0 (m + 29) := by
    rw [c4.2, c3.2, c2.2, c1.2, sI_row (by omega), sI_row (by omega)]
  refine ⟨⟨⟨f4.1, f4.2.1⟩, fun a ha => f4.2.2 a (by simp; omega), fun k _ _ _ _ _ => by rw [f4.2.2 (m + 1) (by simp)], fun k _ _ h52 h53 => by rw [c4.1.2.1, upd_o _ _ h52, upd_o _ _ h53], fun i hi => ?_, fun i hi => ?_, fun i hi => ?_, fun i hi => ?_, fun i hi => ?_⟩, ⟨fun i _ => by rw [f4.2.2 (m + 1) (by simp)], fun i _ => by rw [f4.2.2 (m + 5) (by simp)], fun i _ => by rw [f4.2.2 (m + 6) (by simp)], fun i _ => by rw [f4.2.2 (m + 7) (by simp)]⟩, ⟨?_, ?_, fun a _ _ => f4.2.2 (m + a) (by simp; omega)⟩, f4.2.2 (m + 27) (by simp)⟩
  · rw [e, cpR_o _ _ (by omega), cpR_o _ _ (by omega), cpR_o _ _ (by omega), cpR_o _ _ (by omega)]
  · rw [e, cpR_o _ _ (by omega), cpR_o _ _ (by omega), cpR_o _ _ (by omega), cpR_i _ _ hi]
  · rw [e, cpR_o _ _ (by omega), cpR_o _ _ (by omega), show 2409 + i = 2400 + 9 + i by omega, cpR_i _ _ hi]
  · rw [e, cpR_o _ _ (by omega), show 2417 + i = 2400 + 9 + 8 + i by omega, cpR_i _ _ hi]
  · rw [e, show 2422 + i = 2400 + 9 + 8 + 5 + i by omega, cpR_i _ _ hi]
  · rw [c4.1.2.1, upd_o _ _ (by decide), upd_o _ _ (by decide)]
  · rw [c4.1.2.1, upd_o _ _ (by decide), upd_o _ _ (by decide)]
/-- rows laid back, one behind the other -/
def CB (m : Nat) (X : List Nat) (M0 M : Mem) (q : Nat) : Prop := FX (m :: X) M0 M ∧ mI M m = upd (upd (mI M0 m) 53 (nI 1)) 52 (nI q)
theorem CB.st {m : Nat} {X : List Nat} {M0 M : Mem} {q : Nat} (hR : RIs (mS M0) (mR M0) m) (h : CB m X M0 M q) (h35 : m + 35 ∉ X) {a n : Nat} (hl : lnS (mS M0) (some a) = some (nI n)) (hx : ∀ i, i < n → ixS (mS M0) 0 (some a) (nI i) = some a) (ha : a ≠ m + 35) (ha2 : a ≠ m) (hn : n ≤ 400) (hp : q + n ≤ 3000) :
    WP (f_X10_carryRow m (some a) M) (fun _ M' => CB m (a :: X) M0 M' (q + n) ∧ FX [m, a] M M' ∧ ∀ i, i < n → mI M' a i = mI M0 (m + 35) (q + i)) := by
  refine WP.mono (r_carB (p := q) (h.1.RI hR) (by rw [h.1.1]; exact hl) (by rw [h.1.1]; exact hx) ha ha2 hn hp (by rw [h.2, upd_o _ _ (by decide), upd_s]) (by rw [h.2, upd_s])) (fun _ M' g => ⟨⟨(h.1.up (by simp; intro a ha; exact Or.inr (Or.inr ha))).tr (g.1.up (by simp)), ?_⟩, g.1, fun i hi => ?_⟩)
  · rw [g.2.1, h.2]
    funext i
    by_cases hi : i = 52
    · subst hi; rw [upd_s, upd_s]
    · rw [upd_o _ _ hi, upd_o _ _ hi, upd_o _ _ hi]
  · rw [g.2.2, cpR_z _ _ hi, h.1.2.2 (m + 35) (by simp [h35])]
theorem r_laysBack {m : Nat} {M0 M : Mem} (hR0 : RIs (mS M0) (mR M0) m) (q : QF m M0 M) : WP (f_X10_laysBack m M) (fun _ M' => QF m M0 M' ∧ BK m M0 M' ∧ SX m M M' ∧ mI M' (m + 27) = mI M (m + 27)) := by
  have hR := q.RI hR0
  have c0 : CB m [] M (sI (sI M m 52 (nI 2400)) m 53 (nI 1)) 2400 := by
    refine ⟨((FX.rf _ M).sI (by simp) _ _).sI (by simp) _ _, ?_⟩
    rw [mI_sI_s, mI_sI_s]
    funext i
    by_cases h1 : i = 53
    · subst h1; rw [upd_s, upd_o _ _ (by decide), upd_s]
    · rw [upd_o _ _ h1]
      by_cases h2 : i = 52
      · subst h2; rw [upd_s, upd_s]
      · rw [upd_o _ _ h2, upd_o _ _ h2, upd_o _ _ h1]
  unfold f_X10_laysBack
  repeat (first | refine WP.ce (by (simp (disch := omega) only []; with_reducible rfl)) ?_ | refine WP.bd (by (simp (disch := omega) only [e_gR, e_gI, e_aI, e_aL, e_oO, e_pI, e_wI, e_wL, Option.map_some, mS_sL, mR_sL, mI_sL, mS_sI, mR_sI, mL_sI, n_cl, ro_m hR]; with_reducible rfl)) ?_ | rw [nm_eq])
  refine WP.cw (P := fun _ M' => QF m M0 M' ∧ BK m M0 M' ∧ SX m M M' ∧ mI M' (m + 27) = mI M (m + 27)) ?_ (fun _ M h => WP.ret h)
  unfold f_X10_carriesAll
  repeat (first | refine WP.ce (by (simp (disch := omega) only []; with_reducible rfl)) ?_ | refine WP.bd (by (simp (disch := omega) only [e_gR, e_gI, e_aI, e_aL, e_oO, e_pI, e_wI, e_wL, Option.map_some, mS_sL, mR_sL, mI_sL, mS_sI, mR_sI, mL_sI, n_cl, ro_m hR, n_mul, rr_scalar hR]; with_reducible rfl)) ?_ | rw [nm_eq])
  refine WP.cw (CB.st hR c0 (by simp) (rl_scalar hR) (fun i hi => rx_scalar hR hi) (by omega) (by omega) (by decide) (by decide)) (fun _ M1 c1 => ?_)
  have hR1 := c1.1.1.RI hR
  repeat (first | refine WP.ce (by (simp (disch := omega) only []; with_reducible rfl)) ?_ | refine WP.bd (by (simp (disch := omega) only [e_gR, e_gI, e_aI, e_aL, e_oO, e_pI, e_wI, e_wL, Option.map_some, mS_sL, mR_sL, mI_sL, mS_sI, mR_sI, mL_sI, n_cl, ro_m hR1, rr_heard hR1]; with_reducible rfl)) ?_ | rw [nm_eq])
  refine WP.cw (CB.st hR c1.1 (by simp) (rl_heard hR) (fun i hi => rx_heard hR hi) (by omega) (by omega) (by decide) (by decide)) (fun _ M2 c2 => ?_)
  have hR2 := c2.1.1.RI hR
  repeat (first | refine WP.ce (by (simp (disch := omega) only []; with_reducible rfl)) ?_ | refine WP.bd (by (simp (disch := omega) only [e_gR, e_gI, e_aI, e_aL, e_oO, e_pI, e_wI, e_wL, Option.map_some, mS_sL, mR_sL, mI_sL, mS_sI, mR_sI, mL_sI, n_cl, ro_m hR2, rr_knows hR2]; with_reducible rfl)) ?_ | rw [nm_eq])
  refine WP.cw (CB.st hR c2.1 (by simp) (rl_knows hR) (fun i hi => rx_knows hR hi) (by omega) (by omega) (by decide) (by decide)) (fun _ M3 c3 => ?_)
  have hR3 := c3.1.1.RI hR
  repeat (first | refine WP.ce (by (simp (disch := omega) only []; with_reducible rfl)) ?_ | refine WP.bd (by (simp (disch := omega) only [e_gR, e_gI, e_aI, e_aL, e_oO, e_pI, e_wI, e_wL, Option.map_some, mS_sL, mR_sL, mI_sL, mS_sI, mR_sI, mL_sI, n_cl, ro_m hR3, rr_passed hR3]; with_reducible rfl)) ?_ | rw [nm_eq])
  refine WP.cw (CB.st hR c3.1 (by simp) (rl_passed hR) (fun i hi => rx_passed hR hi) (by omega) (by omega) (by decide) (by decide)) (fun _ M4 c4 => ?_)
  refine WP.it (show nI 4 = nI 4 from rfl) (WP.ret ?_)
  have f4 := c4.1.1
  have kp := q.2.2.2.2.2
  have b1 : ∀ i, i < 9 → mI M4 (m + 1) i = mI M0 (m + 1) i := fun i hi => by
    rw [c4.2.1.2.2 (m + 1) (by simp), c3.2.1.2.2 (m + 1) (by simp), c2.2.1.2.2 (m + 1) (by simp), c1.2.2 i hi]; exact kp.1 i hi
  have b2 : ∀ i, i < 8 → mI M4 (m + 5) i = mI M0 (m + 5) i := fun i hi => by
    rw [c4.2.1.2.2 (m + 5) (by simp), c3.2.1.2.2 (m + 5) (by simp), c2.2.2 i hi]; exact kp.2.1 i hi
  have b3 : ∀ i, i < 5 → mI M4 (m + 6) i = mI M0 (m + 6) i := fun i hi => by
    rw [c4.2.1.2.2 (m + 6) (by simp), c3.2.2 i hi]; exact kp.2.2.1 i hi
  have b4 : ∀ i, i < 5 → mI M4 (m + 7) i = mI M0 (m + 7) i := fun i hi => by
    rw [c4.2.2 i hi]; exact kp.2.2.2 i hi
  refine ⟨⟨⟨f4.1.trans q.1.1, f4.2.1.trans q.1.2⟩, fun a ha => (f4.2.2 a (by simp; omega)).trans (q.2.1 a ha), fun k hk9 h4 h5 h7 h8 => ?_, fun k a b h52 h53 => by rw [c4.1.2, upd_o _ _ h52, upd_o _ _ h53]; exact q.2.2.2.1 k a b h52 h53, fun i hi => ?_, ?_⟩, ⟨b1, b2, b3, b4⟩, ⟨?_, ?_, fun a a1 a2 => f4.2.2 (m + a) (by simp; omega)⟩, f4.2.2 (m + 27) (by simp)⟩
  · exact b1 k hk9
  · rw [f4.2.2 (m + 35) (by simp)]; exact q.2.2.2.2.1 i hi
  · unfold KPq; rw [f4.2.2 (m + 35) (by simp)]; exact kp
  · rw [c4.1.2, upd_o _ _ (by decide), upd_o _ _ (by decide)]
  · rw [c4.1.2, upd_o _ _ (by decide), upd_o _ _ (by decide)]
