/-! the reference's questions on other scenes -/
theorem QF.w {m : Nat} {M0 M : Mem} (q : QF m M0 M) {a : Nat} (ha : a = m + 5 ∨ a = m + 6 ∨ a = m + 7 ∨ (m + 25 ≤ a ∧ a ≤ m + 27) ∨ (m + 30 ≤ a ∧ a ≤ m + 34)) (k : Nat) (v : Int32) : QF m M0 (sI M a k v) := by
  refine ⟨q.1, fun b hb => by rw [sI_row (by omega)]; exact q.2.1 b hb, by rw [sI_row (by omega)]; exact q.2.2.1, by rw [sI_row (by omega)]; exact q.2.2.2.1, by rw [sI_row (by omega)]; exact q.2.2.2.2.1, ?_⟩
  unfold KPq
  rw [sI_row (by omega)]
  exact q.2.2.2.2.2
theorem QF.w1 {m : Nat} {M0 M : Mem} (q : QF m M0 M) {k : Nat} (hk : k = 4 ∨ k = 5 ∨ k = 7 ∨ k = 8) (v : Int32) : QF m M0 (sI M (m + 1) k v) := by
  refine ⟨q.1, fun b hb => by rw [sI_row (by omega)]; exact q.2.1 b hb, fun j h9 h4 h5 h7 h8 => by rw [mI_sI, if_neg (by omega)]; exact q.2.2.1 j h9 h4 h5 h7 h8, by rw [sI_row (by omega)]; exact q.2.2.2.1, by rw [sI_row (by omega)]; exact q.2.2.2.2.1, ?_⟩
  unfold KPq
  rw [sI_row (by omega)]
  exact q.2.2.2.2.2
theorem SX.w {m : Nat} (M : Mem) {a : Nat} (ha : a ≠ m) (hb : a < m + 30 ∨ m + 34 < a) (k : Nat) (v : Int32) : SX m M (sI M a k v) := ⟨by rw [sI_row (Ne.symm ha)], by rw [sI_row (Ne.symm ha)], fun b b1 b2 => sI_row (by omega)⟩
theorem ru_w {m : Nat} {M : Mem} {r : Option RD} (h : RRu M m r) {a k : Nat} (v : Int32) (ha : a < m + 18 ∨ m + 23 < a) (h8 : a ≠ m + 1 ∨ k ≠ 8) : RRu (sI M a k v) m r := h.of (fun b b1 b2 => sI_row (by omega)) (by rw [mI_sI, if_neg (by omega)])
/-- he forgets a joke -/
def dulS (S : SC) (j : Nat) : SC := (sT S, fset (sH S) j none, sW S, sP S)
theorem dulS_ok {S : SC} (hs : SOk S) (j : Nat) : SOk (dulS S j) := by
  refine ⟨hs.1, fun k h hh => ?_, hs.2.2.1, hs.2.2.2⟩
  by_cases hk : k = j
  · subst hk
    have : none = some h := (fset_s (sH S) k none).symm.trans hh
    cases this
  · exact hs.2.1 k h ((fset_o (sH S) _ hk).symm.trans hh)
theorem q_dul {m : Nat} {M0 M : Mem} {T : TD} {S : SC} {r : Option RD} {ov : Option (Nat × Option Nat)} (h : RQ m M0 M T S r ov) {j : Nat} : RQ m M0 (sI M (m + 5) j (-1000)) T (dulS S j) r ov := by
  refine ⟨h.1.w (by omega) _ _, ⟨?_, fun k hk => ?_, ?_⟩, ru_w h.2.2.1 _ (by omega) (by omega), (SX.w M (by omega) (by omega) _ _).ov h.2.2.2⟩
  · rw [sI_row (by omega)]; exact h.2.1.1
  · rw [mI_sI_s]
    show _ = eH (-1000) (fset (sH S) j none k)
    by_cases hkj : k = j
    · subst hkj; rw [upd_s, fset_s]; rfl
    · rw [upd_o _ _ hkj, fset_o _ _ hkj]; exact h.2.1.2.1 k hk
  · rw [sI_row (by omega), sI_row (by omega)]; exact h.2.1.2.2
def fgt (T : TD) (r : Option RD) (S : SC) (n : Nat) : Option Nat × Nat → Nat → Nat → Option Nat × Nat
  | st, _, 0 => st
  | st, j, d + 1 => fgt T r S n (if rem T S j then (if st.2 < ernA T (tides T r (dulS S j) n) then (some j, ernA T (tides T r (dulS S j) n)) else st) else st) (j + 1) d
def q_forget (T : TD) (r : Option RD) (S : SC) (n what : Int32) : Int32 :=
  if isB T && inR n 1 60 && inR what 0 1 then
    (if what = 0 then eP (fgt T r S n.toNatClampNeg (none, ernA T (tides T r S n.toNatClampNeg)) 0 (tJ T)).1 else nI (fgt T r S n.toNatClampNeg (none, ernA T (tides T r S n.toNatClampNeg)) 0 (tJ T)).2)
  else -2
theorem x_forgetL {m : Nat} {M0 : Mem} {T : TD} {S : SC} {r : Option RD} (h : RE m M0 T S r) {n : Nat} (hn : n ≤ 60) {what : Int32} :
    ∀ d j f (M : Mem) (st : Option Nat × Nat), j + d = tJ T → RB m M0 M → st.2 ≤ 500 → WP (f_X10_forget_L48 m (f + d + 1) (nI n) what (eP st.1) (nI st.2) (nI j) M) (fun v M' => v = (if what = 0 then eP (fgt T r S n st j d).1 else nI (fgt T r S n st j d).2) ∧ RB m M0 M') := by
  obtain ⟨⟨hR, hT, hS, hr, hv⟩, hk, hs, h9⟩ := h
  have h2 := hk.1.2.2.1
  intro d
  induction d with
  | zero =>
    intro j f M st hj hB h5
    have hR1 := hB.1.RI hR
    have hT1 := hB.1.T hT
    rw [f_X10_forget_L48]
    repeat (first | refine WP.ce (by (simp (disch := omega) only []; with_reducible rfl)) ?_ | refine WP.bd (by (simp (disch := omega) only [e_gR, e_gI, e_aI, e_aL, e_oO, e_pI, e_wI, e_wL, Option.map_some, mS_sL, mR_sL, mI_sL, mS_sI, mR_sI, mL_sI, n_cl, ro_m hR1, rr_scalar hR1, rx_scalar hR1, hT1.1.2.2.1]; with_reducible rfl)) ?_ | rw [nm_eq])
    refine WP.it (by rw [n_le (by omega) (by omega)]; omega) ?_
    by_cases w0 : what = 0
    · exact WP.it w0 (WP.ret ⟨by rw [if_pos w0]; rfl, hB⟩)
    · exact WP.ie w0 (WP.ret ⟨by rw [if_neg w0]; rfl, hB⟩)
  | succ d ih =>
    intro j f M st hj hB h5
    have hR1 := hB.1.RI hR
    have hT1 := hB.1.T hT
    have hq := hB.rq hk hS hr
    have a1 := r_remembers hR1 hT1 hk hq.2.1 hs (j := j) (by omega)
    rw [show f + (d + 1) + 1 = (f + d + 1) + 1 from by omega, f_X10_forget_L48]
    repeat (first | refine WP.ce (by (simp (disch := omega) only []; with_reducible rfl)) ?_ | refine WP.bd (by (simp (disch := omega) only [e_gR, e_gI, e_aI, e_aL, e_oO, e_pI, e_wI, e_wL, Option.map_some, mS_sL, mR_sL, mI_sL, mS_sI, mR_sI, mL_sI, n_cl, ro_m hR1, rr_scalar hR1, rx_scalar hR1, hT1.1.2.2.1]; with_reducible rfl)) ?_ | rw [nm_eq])
    refine WP.ie (by rw [n_le (by omega) (by omega)]; omega) ?_
    repeat (first | refine WP.ce (by (simp (disch := omega) only [a1]; with_reducible rfl)) ?_ | refine WP.bd (by (simp (disch := omega) only [e_gR, e_gI, e_aI, e_aL, e_oO, e_pI, e_wI, e_wL, Option.map_some, mS_sL, mR_sL, mI_sL, mS_sI, mR_sI, mL_sI, n_cl, ro_m hR1]; with_reducible rfl)) ?_ | rw [nm_eq])
    rw [fgt]
    refine WP.gd (fun g1 => ?_) (fun g1 => ?_)
    · unfold f_X10_forget_J99
      rw [n_add]
      simp only [g1, Bool.false_eq_true, if_false]
      exact ih (j + 1) f M st (by omega) hB h5
    · have hq2 := q_dul (j := j) hq
      have hR2 := hq2.1.RI hR
      repeat (first | refine WP.ce (by (simp (disch := omega) only []; with_reducible rfl)) ?_ | refine WP.bd (by (simp (disch := omega) only [e_gR, e_gI, e_aI, e_aL, e_oO, e_pI, e_wI, e_wL, Option.map_some, mS_sL, mR_sL, mI_sL, mS_sI, mR_sI, mL_sI, n_cl, ro_m hR1, rr_heard hR1, rx_heard hR1]; with_reducible rfl)) ?_ | rw [nm_eq])
      refine WP.cw (q_earnedIn hk hR hT (dulS_ok hs j) (n := n) (by omega) (by show sT S + n ≤ _; omega) hq2) (fun v M2 c => ?_)
      rw [c.1]
      have he := ernA_le hk (tides T r (dulS S j) n)
      unfold f_X10_forget_J99
      simp only [n_add, g1, if_true]
      by_cases c1 : st.2 < ernA T (tides T r (dulS S j) n)
      · refine WP.ie (by rw [n_le (by omega) (by omega)]; omega) ?_
        rw [if_pos c1]
        exact ih (j + 1) f M2 (some j, ernA T (tides T r (dulS S j) n)) (by omega) c.2.1 he
      · refine WP.it (by rw [n_le (by omega) (by omega)]; omega) ?_
        rw [if_neg c1]
        exact ih (j + 1) f M2 st (by omega) c.2.1 h5
theorem x_forget {m : Nat} {M0 : Mem} {T : TD} {S : SC} {r : Option RD} (h : RE m M0 T S r) (n what : Int32) : WP (f_X10_forget m n what M0) (fun v M => v = q_forget T r S n what ∧ RA m M0 M) := by
  have h0 := h
  obtain ⟨⟨hR, hT, hS, hr, hv⟩, hk, hs, h9⟩ := h
  have h2 := hk.1.2.2.1
  unfold f_X10_forget
  repeat (first | refine WP.ce (by (simp (disch := omega) only [r_isBar hR hT hk]; with_reducible rfl)) ?_ | refine WP.bd (by (simp (disch := omega) only [e_gR, e_gI, e_aI, e_aL, e_oO, e_pI, e_wI, e_wL, Option.map_some, mS_sL, mR_sL, mI_sL, mS_sI, mR_sI, mL_sI, n_cl, ro_m hR]; with_reducible rfl)) ?_ | rw [nm_eq])
  refine WP.gd (fun g1 => WP.ret ⟨by unfold q_forget; rw [g1]; rfl, RA.rf m M0⟩) (fun g1 => ?_)
  repeat (first | refine WP.ce (by (simp (disch := omega) only [in_160]; with_reducible rfl)) ?_ | refine WP.bd (by (simp (disch := omega) only [e_gR, e_gI, e_aI, e_aL, e_oO, e_pI, e_wI, e_wL, Option.map_some, mS_sL, mR_sL, mI_sL, mS_sI, mR_sI, mL_sI, n_cl, ro_m hR]; with_reducible rfl)) ?_ | rw [nm_eq])
  refine WP.gd (fun g2 => WP.ret ⟨by unfold q_forget; rw [g1, g2]; rfl, RA.rf m M0⟩) (fun g2 => ?_)
  repeat (first | refine WP.ce (by (simp (disch := omega) only [in_01]; with_reducible rfl)) ?_ | refine WP.bd (by (simp (disch := omega) only [e_gR, e_gI, e_aI, e_aL, e_oO, e_pI, e_wI, e_wL, Option.map_some, mS_sL, mR_sL, mI_sL, mS_sI, mR_sI, mL_sI, n_cl, ro_m hR]; with_reducible rfl)) ?_ | rw [nm_eq])
  refine WP.gd (fun g3 => WP.ret ⟨by unfold q_forget; rw [g1, g2, g3]; rfl, RA.rf m M0⟩) (fun g3 => ?_)
  obtain ⟨k, rfl, k1, k2, k3⟩ := inR_t g2 (by decide)
  repeat (first | refine WP.ce (by (simp (disch := omega) only []; with_reducible rfl)) ?_ | refine WP.bd (by (simp (disch := omega) only [e_gR, e_gI, e_aI, e_aL, e_oO, e_pI, e_wI, e_wL, Option.map_some, mS_sL, mR_sL, mI_sL, mS_sI, mR_sI, mL_sI, n_cl, ro_m hR]; with_reducible rfl)) ?_ | rw [nm_eq])
  refine WP.cw (q_keeps hR hv) (fun _ M1 c1 => ?_)
  have hR1 := c1.1.1.RI hR
  repeat (first | refine WP.ce (by (simp (disch := omega) only []; with_reducible rfl)) ?_ | refine WP.bd (by (simp (disch := omega) only [e_gR, e_gI, e_aI, e_aL, e_oO, e_pI, e_wI, e_wL, Option.map_some, mS_sL, mR_sL, mI_sL, mS_sI, mR_sI, mL_sI, n_cl, ro_m hR1]; with_reducible rfl)) ?_ | rw [nm_eq])
  refine WP.cw (q_earnedIn hk hR hT hs (n := k) (by omega) (by omega) (c1.1.rq hk hS hr)) (fun v M2 c => ?_)
  rw [c.1]
  have he := ernA_le hk (tides T r S k)
  obtain ⟨f, hf⟩ := FUd (tJ T) (by omega)
  rw [hf]
  refine WP.mono (x_forgetL h0 (n := k) (by omega) (tJ T) 0 f M2 (none, ernA T (tides T r S k)) (by omega) c.2.1 he) (fun v M c => ⟨?_, Or.inr c.2⟩)
  rw [c.1]
  unfold q_forget
  rw [g1, g2, g3, n_cl (by omega)]
  rfl
/-! barter -/
def shrS (S : SC) (a b : Nat) : SC := (sT S, sH S, fun s => if s = a ∨ s = b then sW S a ||| sW S b else sW S s, sP S)
theorem or_256 {a b : Nat} (ha : a < 256) (hb : b < 256) : a ||| b < 256 := Nat.or_lt_two_pow (n := 8) ha hb
theorem shrS_ok {S : SC} (hs : SOk S) (a b : Nat) : SOk (shrS S a b) := by
  refine ⟨hs.1, hs.2.1, fun s => ?_, hs.2.2.2⟩
  show (if s = a ∨ s = b then sW S a ||| sW S b else sW S s) < 256
  by_cases h : s = a ∨ s = b
  · rw [if_pos h]; exact or_256 (hs.2.2.1 a) (hs.2.2.1 b)
  · rw [if_neg h]; exact hs.2.2.1 s
theorem q_shr {m : Nat} {M0 M : Mem} {T : TD} {S : SC} {r : Option RD} {ov : Option (Nat × Option Nat)} (h : RQ m M0 M T S r ov) {a b : Nat} : RQ m M0 (sI (sI M (m + 6) a (nI (sW S a ||| sW S b))) (m + 6) b (nI (sW S a ||| sW S b))) T (shrS S a b) r ov := by
  refine ⟨(h.1.w (by omega) _ _).w (by omega) _ _, ⟨?_, ?_, fun k hk => ⟨?_, ?_⟩⟩, ru_w (ru_w h.2.2.1 _ (by omega) (by omega)) _ (by omega) (by omega), ((SX.w M (by omega) (by omega) _ _).tr (SX.w _ (by omega) (by omega) _ _)).ov h.2.2.2⟩
  · rw [sI_row (by omega), sI_row (by omega)]; exact h.2.1.1
  · rw [sI_row (by omega), sI_row (by omega)]; exact h.2.1.2.1
  · show _ = nI (if k = a ∨ k = b then sW S a ||| sW S b else sW S k)
    rw [mI_sI, mI_sI]
    by_cases hb : k = b
    · rw [if_pos ⟨rfl, hb⟩, if_pos (Or.inr hb)]
    · rw [if_neg (by omega)]
      by_cases ha : k = a
      · rw [if_pos ⟨rfl, ha⟩, if_pos (Or.inl ha)]
      · rw [if_neg (by omega), if_neg (by omega)]; exact (h.2.1.2.2 k hk).1
  · rw [sI_row (by omega), sI_row (by omega)]; exact (h.2.1.2.2 k hk).2
def btS (T : TD) (r : Option RD) (S : SC) (n a b : Nat) (st : Option (Nat × Nat) × Nat) : Option (Nat × Nat) × Nat :=
  if wts S a && wts S b then (if st.2 < ernA T (tides T r (shrS S a b) n) then (some (a, b), ernA T (tides T r (shrS S a b) n)) else st) else st
def btI (T : TD) (r : Option RD) (S : SC) (n a : Nat) : Option (Nat × Nat) × Nat → Nat → Nat → Option (Nat × Nat) × Nat
  | st, _, 0 => st
  | st, b, d + 1 => btI T r S n a (btS T r S n a b st) (b + 1) d
def btO (T : TD) (r : Option RD) (S : SC) (n : Nat) : Option (Nat × Nat) × Nat → Nat → Nat → Option (Nat × Nat) × Nat
  | st, _, 0 => st
  | st, a, d + 1 => btO T r S n (btI T r S n a st (a + 1) d) (a + 1) d
def q_bt (T : TD) (r : Option RD) (S : SC) (n : Nat) : Option (Nat × Nat) × Nat := btO T r S n (none, ernA T (tides T r S n)) 0 (tN T)
def bt1 (st : Option (Nat × Nat) × Nat) : Int32 := eP (st.1.map (fun q => q.1))
def bt2 (st : Option (Nat × Nat) × Nat) : Int32 := eP (st.1.map (fun q => q.2))
def btA (what : Int32) (st : Option (Nat × Nat) × Nat) : Int32 := if what = 0 then bt1 st else if what = nI 1 then bt2 st else nI st.2
def q_barter (T : TD) (r : Option RD) (S : SC) (n what : Int32) : Int32 :=
  if isB T && inR n 1 60 && inR what 0 2 then btA what (q_bt T r S n.toNatClampNeg) else -2
theorem x_barterI {m : Nat} {M0 : Mem} {T : TD} {S : SC} {r : Option RD} (h : RE m M0 T S r) {n : Nat} (hn : n ≤ 60) {what : Int32} {a : Nat} (ha : a < tN T) {k53 : Int32 → Int32 → Int32 → Int32 → Int32 → Int32 → Mem → Option (Int32 × Mem)} {Q : Int32 → Mem → Prop} :
    ∀ d b f (M : Mem) (st : Option (Nat × Nat) × Nat), b + d = tN T → a < b → RB m M0 M → st.2 ≤ 500 →
    (∀ (M' : Mem), RB m M0 M' → (btI T r S n a st b d).2 ≤ 500 → WP (k53 (nI n) what (bt1 (btI T r S n a st b d)) (bt2 (btI T r S n a st b d)) (nI (btI T r S n a st b d).2) (nI (a + 1)) M') Q) →
    WP (f_X10_barter_L70 k53 m (f + d + 1) (nI n) what (bt1 st) (bt2 st) (nI st.2) (nI a) (nI b) M) Q := by
  obtain ⟨⟨hR, hT, hS, hr, hv⟩, hk, hs, h9⟩ := h
  have h2 := hk.1.2.2.2
  intro d
  induction d with
  | zero =>
    intro b f M st hj hab hB h5 K
    have hR1 := hB.1.RI hR
    have hT1 := hB.1.T hT
    rw [f_X10_barter_L70]
    repeat (first | refine WP.ce (by (simp (disch := omega) only []; with_reducible rfl)) ?_ | refine WP.bd (by (simp (disch := omega) only [e_gR, e_gI, e_aI, e_aL, e_oO, e_pI, e_wI, e_wL, Option.map_some, mS_sL, mR_sL, mI_sL, mS_sI, mR_sI, mL_sI, n_cl, ro_m hR1, rr_scalar hR1, rx_scalar hR1, hT1.1.2.2.2]; with_reducible rfl)) ?_ | rw [nm_eq])
    refine WP.it (by rw [n_le (by omega) (by omega)]; omega) ?_
    rw [n_add]
    exact K M hB h5
  | succ d ih =>
    intro b f M st hj hab hB h5 K
    have hR1 := hB.1.RI hR
    have hT1 := hB.1.T hT
    have hq := hB.rq hk hS hr
    have a1 := r_waits hR1 hT1 hk hq.2.1 hs (s := a) (by omega)
    have a2 := r_waits hR1 hT1 hk hq.2.1 hs (s := b) (by omega)
    rw [show f + (d + 1) + 1 = (f + d + 1) + 1 from by omega, f_X10_barter_L70]
    repeat (first | refine WP.ce (by (simp (disch := omega) only []; with_reducible rfl)) ?_ | refine WP.bd (by (simp (disch := omega) only [e_gR, e_gI, e_aI, e_aL, e_oO, e_pI, e_wI, e_wL, Option.map_some, mS_sL, mR_sL, mI_sL, mS_sI, mR_sI, mL_sI, n_cl, ro_m hR1, rr_scalar hR1, rx_scalar hR1, hT1.1.2.2.2]; with_reducible rfl)) ?_ | rw [nm_eq])
    refine WP.ie (by rw [n_le (by omega) (by omega)]; omega) ?_
    repeat (first | refine WP.ce (by (simp (disch := omega) only [a1]; with_reducible rfl)) ?_ | refine WP.bd (by (simp (disch := omega) only [e_gR, e_gI, e_aI, e_aL, e_oO, e_pI, e_wI, e_wL, Option.map_some, mS_sL, mR_sL, mI_sL, mS_sI, mR_sI, mL_sI, n_cl, ro_m hR1]; with_reducible rfl)) ?_ | rw [nm_eq])
    rw [btI] at K
    have skip : ((wts S a && wts S b) = false) → WP (f_X10_barter_J155 k53 (f_X10_barter_L70 k53 m (f + d + 1)) m (nI n) what (bt1 st) (bt2 st) (nI st.2) (nI a) (nI b) M) Q := by
      intro g
      have e : btS T r S n a b st = st := by unfold btS; rw [g]; rfl
      rw [e] at K
      unfold f_X10_barter_J155
      rw [n_add]
      exact ih (b + 1) f M st (by omega) (by omega) hB h5 K
    refine WP.gd (fun g1 => skip (by rw [g1]; rfl)) (fun g1 => ?_)
    repeat (first | refine WP.ce (by (simp (disch := omega) only [a2]; with_reducible rfl)) ?_ | refine WP.bd (by (simp (disch := omega) only [e_gR, e_gI, e_aI, e_aL, e_oO, e_pI, e_wI, e_wL, Option.map_some, mS_sL, mR_sL, mI_sL, mS_sI, mR_sI, mL_sI, n_cl, ro_m hR1]; with_reducible rfl)) ?_ | rw [nm_eq])
    refine WP.gd (fun g2 => skip (by rw [g2]; simp)) (fun g2 => ?_)
    have e1 := (hq.2.1.2.2 a (by omega)).1
    have e2 := (hq.2.1.2.2 b (by omega)).1
    obtain ⟨M1, hM1⟩ : ∃ M1, M1 = sI M (m + 6) a (nI (sW S a ||| sW S b)) := ⟨_, rfl⟩
    have hR2 : RIs (mS M1) (mR M1) m := by rw [hM1]; exact hR1
    have e3 : mI M1 (m + 6) a = nI (sW S a ||| sW S b) := by rw [hM1, mI_sI_s, upd_s]
    have hq2 := q_shr (a := a) (b := b) hq
    rw [← hM1] at hq2
    have hR3 := hq2.1.RI hR
    repeat (first | refine WP.ce (by (simp (disch := omega) only []; with_reducible rfl)) ?_ | refine WP.bd (by (simp (disch := omega) only [e_gR, e_gI, e_aI, e_aL, e_oO, e_pI, e_wI, e_wL, Option.map_some, mS_sL, mR_sL, mI_sL, mS_sI, mR_sI, mL_sI, n_cl, ro_m hR1, rr_knows hR1, rx_knows hR1, e1, e2, n_or, ← hM1]; with_reducible rfl)) ?_ | rw [nm_eq])
    repeat (first | refine WP.ce (by (simp (disch := omega) only []; with_reducible rfl)) ?_ | refine WP.bd (by (simp (disch := omega) only [e_gR, e_gI, e_aI, e_aL, e_oO, e_pI, e_wI, e_wL, Option.map_some, mS_sL, mR_sL, mI_sL, mS_sI, mR_sI, mL_sI, n_cl, ro_m hR2, rr_knows hR2, rx_knows hR2, e3]; with_reducible rfl)) ?_ | rw [nm_eq])
    refine WP.cw (q_earnedIn hk hR hT (shrS_ok hs a b) (n := n) (by omega) (by show sT S + n ≤ _; omega) hq2) (fun v M2 c => ?_)
    rw [c.1]
    have he := ernA_le hk (tides T r (shrS S a b) n)
    unfold f_X10_barter_J155
    rw [n_add]
    by_cases c1 : st.2 < ernA T (tides T r (shrS S a b) n)
    · refine WP.ie (by rw [n_le (by omega) (by omega)]; omega) ?_
      have e : btS T r S n a b st = (some (a, b), ernA T (tides T r (shrS S a b) n)) := by unfold btS; rw [g1, g2, if_pos c1]; rfl
      rw [e] at K
      exact ih (b + 1) f M2 (some (a, b), ernA T (tides T r (shrS S a b) n)) (by omega) (by omega) c.2.1 he K
    · refine WP.it (by rw [n_le (by omega) (by omega)]; omega) ?_
      have e : btS T r S n a b st = st := by unfold btS; rw [g1, g2, if_neg c1]; rfl
      rw [e] at K
      exact ih (b + 1) f M2 st (by omega) (by omega) c.2.1 h5 K
theorem x_barterO {m : Nat} {M0 : Mem} {T : TD} {S : SC} {r : Option RD} (h : RE m M0 T S r) {n : Nat} (hn : n ≤ 60) {what : Int32} :
    ∀ d a f (M : Mem) (st : Option (Nat × Nat) × Nat), a + d = tN T → RB m M0 M → st.2 ≤ 500 → WP (f_X10_barter_L53 m (f + d + 1) (nI n) what (bt1 st) (bt2 st) (nI st.2) (nI a) M) (fun v M' => v = btA what (btO T r S n st a d) ∧ RB m M0 M') := by
  have h0 := h
  obtain ⟨⟨hR, hT, hS, hr, hv⟩, hk, hs, h9⟩ := h
  have h2 := hk.1.2.2.2
  intro d
  induction d with
  | zero =>
    intro a f M st hj hB h5
    have hR1 := hB.1.RI hR
    have hT1 := hB.1.T hT
    rw [f_X10_barter_L53]
    repeat (first | refine WP.ce (by (simp (disch := omega) only []; with_reducible rfl)) ?_ | refine WP.bd (by (simp (disch := omega) only [e_gR, e_gI, e_aI, e_aL, e_oO, e_pI, e_wI, e_wL, Option.map_some, mS_sL, mR_sL, mI_sL, mS_sI, mR_sI, mL_sI, n_cl, ro_m hR1, rr_scalar hR1, rx_scalar hR1, hT1.1.2.2.2]; with_reducible rfl)) ?_ | rw [nm_eq])
    refine WP.it (by rw [n_le (by omega) (by omega)]; omega) ?_
    unfold btA btO
    by_cases w0 : what = 0
    · exact WP.it w0 (WP.ret ⟨by rw [if_pos w0], hB⟩)
    · refine WP.ie w0 ?_
      rw [if_neg w0]
      by_cases w1 : what = nI 1
      · exact WP.it w1 (WP.ret ⟨by rw [if_pos w1], hB⟩)
      · exact WP.ie w1 (WP.ret ⟨by rw [if_neg w1], hB⟩)
  | succ d ih =>
    intro a f M st hj hB h5
    have hR1 := hB.1.RI hR
    have hT1 := hB.1.T hT
    rw [show f + (d + 1) + 1 = (f + d + 1) + 1 from by omega, f_X10_barter_L53]
    repeat (first | refine WP.ce (by (simp (disch := omega) only []; with_reducible rfl)) ?_ | refine WP.bd (by (simp (disch := omega) only [e_gR, e_gI, e_aI, e_aL, e_oO, e_pI, e_wI, e_wL, Option.map_some, mS_sL, mR_sL, mI_sL, mS_sI, mR_sI, mL_sI, n_cl, ro_m hR1, rr_scalar hR1, rx_scalar hR1, hT1.1.2.2.2]; with_reducible rfl)) ?_ | rw [nm_eq])
    refine WP.ie (by rw [n_le (by omega) (by omega)]; omega) ?_
    simp only [nm_eq, n_add]
    obtain ⟨f2, hf⟩ := FUd d (by omega)
    rw [hf, btO]
    exact x_barterI h0 hn (by omega) d (a + 1) f2 M st (by omega) (by omega) hB h5 (fun M' hB' h5' => ih (a + 1) f M' _ (by omega) hB' h5')
theorem x_barter {m : Nat} {M0 : Mem} {T : TD} {S : SC} {r : Option RD} (h : RE m M0 T S r) (n what : Int32) : WP (f_X10_barter m n what M0) (fun v M => v = q_barter T r S n what ∧ RA m M0 M) := by
  have h0 := h
  obtain ⟨⟨hR, hT, hS, hr, hv⟩, hk, hs, h9⟩ := h
  have h2 := hk.1.2.2.2
  unfold f_X10_barter
  repeat (first | refine WP.ce (by (simp (disch := omega) only [r_isBar hR hT hk]; with_reducible rfl)) ?_ | refine WP.bd (by (simp (disch := omega) only [e_gR, e_gI, e_aI, e_aL, e_oO, e_pI, e_wI, e_wL, Option.map_some, mS_sL, mR_sL, mI_sL, mS_sI, mR_sI, mL_sI, n_cl, ro_m hR]; with_reducible rfl)) ?_ | rw [nm_eq])
  refine WP.gd (fun g1 => WP.ret ⟨by unfold q_barter; rw [g1]; rfl, RA.rf m M0⟩) (fun g1 => ?_)
  repeat (first | refine WP.ce (by (simp (disch := omega) only [in_160]; with_reducible rfl)) ?_ | refine WP.bd (by (simp (disch := omega) only [e_gR, e_gI, e_aI, e_aL, e_oO, e_pI, e_wI, e_wL, Option.map_some, mS_sL, mR_sL, mI_sL, mS_sI, mR_sI, mL_sI, n_cl, ro_m hR]; with_reducible rfl)) ?_ | rw [nm_eq])
  refine WP.gd (fun g2 => WP.ret ⟨by unfold q_barter; rw [g1, g2]; rfl, RA.rf m M0⟩) (fun g2 => ?_)
  repeat (first | refine WP.ce (by (simp (disch := omega) only [in_02]; with_reducible rfl)) ?_ | refine WP.bd (by (simp (disch := omega) only [e_gR, e_gI, e_aI, e_aL, e_oO, e_pI, e_wI, e_wL, Option.map_some, mS_sL, mR_sL, mI_sL, mS_sI, mR_sI, mL_sI, n_cl, ro_m hR]; with_reducible rfl)) ?_ | rw [nm_eq])
  refine WP.gd (fun g3 => WP.ret ⟨by unfold q_barter; rw [g1, g2, g3]; rfl, RA.rf m M0⟩) (fun g3 => ?_)
  obtain ⟨k, rfl, k1, k2, k3⟩ := inR_t g2 (by decide)
  repeat (first | refine WP.ce (by (simp (disch := omega) only []; with_reducible rfl)) ?_ | refine WP.bd (by (simp (disch := omega) only [e_gR, e_gI, e_aI, e_aL, e_oO, e_pI, e_wI, e_wL, Option.map_some, mS_sL, mR_sL, mI_sL, mS_sI, mR_sI, mL_sI, n_cl, ro_m hR]; with_reducible rfl)) ?_ | rw [nm_eq])
  refine WP.cw (q_keeps hR hv) (fun _ M1 c1 => ?_)
  have hR1 := c1.1.1.RI hR
  repeat (first | refine WP.ce (by (simp (disch := omega) only []; with_reducible rfl)) ?_ | refine WP.bd (by (simp (disch := omega) only [e_gR, e_gI, e_aI, e_aL, e_oO, e_pI, e_wI, e_wL, Option.map_some, mS_sL, mR_sL, mI_sL, mS_sI, mR_sI, mL_sI, n_cl, ro_m hR1]; with_reducible rfl)) ?_ | rw [nm_eq])
  refine WP.cw (q_earnedIn hk hR hT hs (n := k) (by omega) (by omega) (c1.1.rq hk hS hr)) (fun v M2 c => ?_)
  rw [c.1]
  have he := ernA_le hk (tides T r S k)
  obtain ⟨f, hf⟩ := FUd (tN T) (by omega)
  rw [hf]
  refine WP.mono (x_barterO h0 (n := k) (by omega) (tN T) 0 f M2 (none, ernA T (tides T r S k)) (by omega) c.2.1 he) (fun v M c => ⟨?_, Or.inr c.2⟩)
  rw [c.1]
  unfold q_barter
  rw [g1, g2, g3, n_cl (by omega)]
  rfl
