/-! BOTH: all as the text told it, on tide 0 -/
theorem rowU2 {α : Type} (f : Nat → Nat → α) (a : Nat) (g h : Nat → α) : rowU (rowU f a g) a h = rowU f a h := by
  funext q
  unfold rowU
  by_cases e : q = a <;> simp [e]
theorem sI_sIr (M : Mem) (a : Nat) (g : Nat → Int32) (k : Nat) (v : Int32) : sI (sIr M a g) a k v = sIr M a (upd g k v) := by
  show sIr (sIr M a g) a (upd (mI (sIr M a g) a) k v) = _
  rw [mI_sIr_s]
  show (M.1, rowU (rowU M.2.1 a g) a (upd g k v), M.2.2.1, M.2.2.2) = _
  rw [rowU2]
  rfl
theorem sIr_self (M : Mem) (a : Nat) : sIr M a (mI M a) = M := by
  have : rowU M.2.1 a (mI M a) = M.2.1 := by
    funext q
    unfold rowU
    by_cases e : q = a
    · simp [e, mI]
    · simp [e]
  show (M.1, rowU M.2.1 a (mI M a), M.2.2.1, M.2.2.2) = M
  rw [this]
def flR (f : Nat → Int32) (v : Int32) (n : Nat) : Nat → Int32 := fun i => if i < n then v else f i
theorem flR_s (f : Nat → Int32) (v : Int32) (k : Nat) : upd (flR f v k) k v = flR f v (k + 1) := by
  funext i
  by_cases h : i = k
  · subst h; rw [upd_s]; unfold flR; rw [if_pos (by omega)]
  · rw [upd_o _ _ h]; unfold flR
    by_cases h2 : i < k
    · rw [if_pos h2, if_pos (by omega)]
    · rw [if_neg h2, if_neg (by omega)]
theorem flR_0 (f : Nat → Int32) (v : Int32) : flR f v 0 = f := by funext i; unfold flR; rw [if_neg (by omega)]
theorem flR_i (f : Nat → Int32) (v : Int32) {n i : Nat} (h : i < n) : flR f v n i = v := by unfold flR; rw [if_pos h]
theorem cpR_s0 (f g : Nat → Int32) (k : Nat) : upd (cpR f g 0 k) k (g k) = cpR f g 0 (k + 1) := by
  have e := cpR_s f g 0 k
  rw [Nat.zero_add] at e
  exact e
theorem r_copies {M : Mem} {a b n : Nat} (hl : lnS (mS M) (some a) = some (nI n)) (hx : ∀ i, i < n → ixS (mS M) 0 (some a) (nI i) = some a) (hy : ∀ i, i < n → ixS (mS M) 0 (some b) (nI i) = some b) (hab : a ≠ b) (hn : n ≤ 1000) : f_X10_copies (some a) (some b) M = some ((), sIr M b (cpR (mI M b) (mI M a) 0 n)) := by
  have lp : ∀ d k f, k + d = n → f_X10_copies_L2 (f + d + 1) (some a) (some b) (nI k) (sIr M b (cpR (mI M b) (mI M a) 0 k)) = some ((), sIr M b (cpR (mI M b) (mI M a) 0 n)) := by
    intro d
    induction d with
    | zero =>
      intro k f hk
      rw [f_X10_copies_L2]
      repeat (first | ((with_reducible apply clt_t); case h => (simp (disch := omega) only [hl]; with_reducible rfl)) | ((with_reducible apply bnd_t); case h => (simp (disch := omega) only [e_gR, e_gI, e_aI, e_aL, e_oO, e_pI, e_wI, e_wL, Option.map_some, mS_sL, mR_sL, mI_sL, mS_sI, mR_sI, mL_sI, n_cl, e_lnA, mS_sIr, hl]; with_reducible rfl)) | rw [nm_eq])
      rw [if_pos (by rw [n_le (by omega) (by omega)]; omega), show k = n by omega]
    | succ d ih =>
      intro k f hk
      have x1 := hx k (by omega)
      have y1 := hy k (by omega)
      have v1 : mI (sIr M b (cpR (mI M b) (mI M a) 0 k)) a k = mI M a k := by rw [mI_sIr_o _ _ hab]
      rw [show f + (d + 1) + 1 = (f + d + 1) + 1 from by omega, f_X10_copies_L2]
      repeat (first | ((with_reducible apply clt_t); case h => (simp (disch := omega) only [hl]; with_reducible rfl)) | ((with_reducible apply bnd_t); case h => (simp (disch := omega) only [e_gR, e_gI, e_aI, e_aL, e_oO, e_pI, e_wI, e_wL, Option.map_some, mS_sL, mR_sL, mI_sL, mS_sI, mR_sI, mL_sI, n_cl, e_lnA, mS_sIr, hl]; with_reducible rfl)) | rw [nm_eq])
      rw [if_neg (by rw [n_le (by omega) (by omega)]; omega)]
      repeat (first | ((with_reducible apply clt_t); case h => (simp (disch := omega) only [hl]; with_reducible rfl)) | ((with_reducible apply bnd_t); case h => (simp (disch := omega) only [e_gR, e_gI, e_aI, e_aL, e_oO, e_pI, e_wI, e_wL, Option.map_some, mS_sL, mR_sL, mI_sL, mS_sI, mR_sI, mL_sI, n_cl, mS_sIr, x1, y1, v1]; with_reducible rfl)) | rw [nm_eq])
      rw [sI_sIr, cpR_s0, n_add]
      exact ih (k + 1) f (by omega)
  obtain ⟨f, hf⟩ := FUd n (by omega)
  have e := lp n 0 f (by omega)
  rw [cpR_0, sIr_self] at e
  rw [f_X10_copies, hf]
  exact e
theorem j_fill {M : Mem} {a n : Nat} {v : Int32} (hl : lnS (mS M) (some a) = some (nI n)) (hx : ∀ i, i < n → ixS (mS M) 0 (some a) (nI i) = some a) (hn : n ≤ 1000) : f_J7_fill_53178 (some a) v M = some ((), sIr M a (flR (mI M a) v n)) := by
  have lp : ∀ d k f, k + d = n → f_J7_fill_53178_L5 (f + d + 1) (some a) v (nI k) (nI n) (sIr M a (flR (mI M a) v k)) = some ((), sIr M a (flR (mI M a) v n)) := by
    intro d
    induction d with
    | zero =>
      intro k f hk
      rw [f_J7_fill_53178_L5, if_pos (by rw [n_le (by omega) (by omega)]; omega), show k = n by omega]
    | succ d ih =>
      intro k f hk
      have x1 := hx k (by omega)
      rw [show f + (d + 1) + 1 = (f + d + 1) + 1 from by omega, f_J7_fill_53178_L5, if_neg (by rw [n_le (by omega) (by omega)]; omega)]
      repeat (first | ((with_reducible apply clt_t); case h => (simp (disch := omega) only [hl]; with_reducible rfl)) | ((with_reducible apply bnd_t); case h => (simp (disch := omega) only [e_gR, e_gI, e_aI, e_aL, e_oO, e_pI, e_wI, e_wL, Option.map_some, mS_sL, mR_sL, mI_sL, mS_sI, mR_sI, mL_sI, n_cl, mS_sIr, x1]; with_reducible rfl)) | rw [nm_eq])
      rw [sI_sIr, flR_s, n_add]
      exact ih (k + 1) f (by omega)
  obtain ⟨f, hf⟩ := FUd n (by omega)
  have e := lp n 0 f (by omega)
  rw [flR_0, sIr_self] at e
  unfold f_J7_fill_53178
  repeat (first | ((with_reducible apply clt_t); case h => (simp (disch := omega) only [hl]; with_reducible rfl)) | ((with_reducible apply bnd_t); case h => (simp (disch := omega) only [e_gR, e_gI, e_aI, e_aL, e_oO, e_pI, e_wI, e_wL, Option.map_some, mS_sL, mR_sL, mI_sL, mS_sI, mR_sI, mL_sI, n_cl, e_lnA, hl]; with_reducible rfl)) | rw [nm_eq])
  rw [hf]
  exact e
def bgS (T : TD) : SC := (0, fun _ => none, tW T, fun _ => none)
theorem bgS_ok {T : TD} (hk : TOk T) : SOk (bgS T) := ⟨Nat.zero_le _, fun j h hh => (by cases hh), fun s => (hk.2.2.2.2 s).2.2, fun s t ht => (by cases ht)⟩
theorem bgS_ern (T : TD) : ernA T (bgS T) = 0 := by
  have : ∀ n, smn (ern T (bgS T)) n = 0 := by
    intro n
    induction n with
    | zero => rfl
    | succ n ih => rw [smn, ih]; rfl
  exact this _
theorem r_begins {M : Mem} {m : Nat} (hR : RIs (mS M) (mR M) m) : WP (f_X10_begins m M) (fun _ M' => (mS M' = mS M ∧ mR M' = mR M ∧ mL M' = mL M) ∧ (∀ a, a ≠ m + 1 → a ≠ m + 5 → a ≠ m + 6 → a ≠ m + 7 → mI M' a = mI M a) ∧ (∀ k, k ≠ 4 → k ≠ 5 → mI M' (m + 1) k = mI M (m + 1) k) ∧ mI M' (m + 1) 4 = nI 0 ∧ mI M' (m + 1) 5 = nI 0 ∧ (∀ i, i < 8 → mI M' (m + 5) i = -1000) ∧ (∀ i, i < 5 → mI M' (m + 6) i = mI M (m + 11) i) ∧ (∀ i, i < 5 → mI M' (m + 7) i = -1)) := by
  have a1 := r_copies (rl_toldKnows hR) (fun i hi => rx_toldKnows hR hi) (fun i hi => rx_knows hR hi) (by omega : m + 11 ≠ m + 6) (by decide)
  obtain ⟨M1, hM1⟩ : ∃ M1, M1 = sIr M (m + 6) (cpR (mI M (m + 6)) (mI M (m + 11)) 0 5) := ⟨_, rfl⟩
  rw [← hM1] at a1
  have hR1 : RIs (mS M1) (mR M1) m := by rw [hM1]; exact hR
  obtain ⟨M2, hM2⟩ : ∃ M2, M2 = sI (sI M1 (m + 1) 4 (nI 0)) (m + 1) 5 (nI 0) := ⟨_, rfl⟩
  have hR2 : RIs (mS M2) (mR M2) m := by rw [hM2]; exact hR1
  have lp2 : ∀ (N : Mem), RIs (mS N) (mR N) m → ∀ d k f, k + d = 5 → f_X10_begins_L50 m (f + d + 1) (nI k) (sIr N (m + 7) (flR (mI N (m + 7)) (-1) k)) = some ((), sIr N (m + 7) (flR (mI N (m + 7)) (-1) 5)) := by
    intro N hN d
    induction d with
    | zero =>
      intro k f hk
      rw [f_X10_begins_L50, if_pos (by rw [n_le (by omega) (by omega)]; omega), show k = 5 by omega]
    | succ d ih =>
      intro k f hk
      rw [show f + (d + 1) + 1 = (f + d + 1) + 1 from by omega, f_X10_begins_L50, if_neg (by rw [n_le (by omega) (by omega)]; omega)]
      repeat (first | ((with_reducible apply clt_t); case h => (simp (disch := omega) only [hR]; with_reducible rfl)) | ((with_reducible apply bnd_t); case h => (simp (disch := omega) only [e_gR, e_gI, e_aI, e_aL, e_oO, e_pI, e_wI, e_wL, Option.map_some, mS_sL, mR_sL, mI_sL, mS_sI, mR_sI, mL_sI, n_cl, mS_sIr, mR_sIr, ro_m hN, rr_passed hN, rx_passed hN]; with_reducible rfl)) | rw [nm_eq])
      rw [sI_sIr, flR_s, n_add]
      exact ih (k + 1) f (by omega)
  have lp1 : ∀ d k f, k + d = 8 → f_X10_begins_L27 m (f + d + 1) (nI k) (sIr M2 (m + 5) (flR (mI M2 (m + 5)) (-1000) k)) = some ((), sIr (sIr M2 (m + 5) (flR (mI M2 (m + 5)) (-1000) 8)) (m + 7) (flR (mI M2 (m + 7)) (-1) 5)) := by
    intro d
    induction d with
    | zero =>
      intro k f hk
      rw [f_X10_begins_L27, if_pos (by rw [n_le (by omega) (by omega)]; omega), show k = 8 by omega]
      obtain ⟨f2, hf2⟩ := FUd 5 (by omega)
      have e := lp2 (sIr M2 (m + 5) (flR (mI M2 (m + 5)) (-1000) 8)) hR2 5 0 f2 (by omega)
      rw [flR_0, sIr_self, mI_sIr_o _ _ (by omega : m + 7 ≠ m + 5), ← hf2] at e
      exact e
    | succ d ih =>
      intro k f hk
      rw [show f + (d + 1) + 1 = (f + d + 1) + 1 from by omega, f_X10_begins_L27, if_neg (by rw [n_le (by omega) (by omega)]; omega)]
      repeat (first | ((with_reducible apply clt_t); case h => (simp (disch := omega) only [hR]; with_reducible rfl)) | ((with_reducible apply bnd_t); case h => (simp (disch := omega) only [e_gR, e_gI, e_aI, e_aL, e_oO, e_pI, e_wI, e_wL, Option.map_some, mS_sL, mR_sL, mI_sL, mS_sI, mR_sI, mL_sI, n_cl, mS_sIr, mR_sIr, ro_m hR2, rr_heard hR2, rx_heard hR2]; with_reducible rfl)) | rw [nm_eq])
      rw [sI_sIr, flR_s, n_add]
      exact ih (k + 1) f (by omega)
  obtain ⟨f, hf⟩ := FUd 8 (by omega)
  have e := lp1 8 0 f (by omega)
  rw [flR_0, sIr_self] at e
  unfold f_X10_begins
  repeat (first | ((with_reducible apply WP.ce); case h => (simp (disch := omega) only [a1]; with_reducible rfl)) | ((with_reducible apply WP.bd); case h => (simp (disch := omega) only [e_gR, e_gI, e_aI, e_aL, e_oO, e_pI, e_wI, e_wL, Option.map_some, mS_sL, mR_sL, mI_sL, mS_sI, mR_sI, mL_sI, n_cl, ro_m hR, rr_toldKnows hR, rr_knows hR]; with_reducible rfl)) | rw [nm_eq] | rw [ckZ_n1] | rw [ckZ_n0])
  repeat (first | ((with_reducible apply WP.ce); case h => (simp (disch := omega) only []; with_reducible rfl)) | ((with_reducible apply WP.bd); case h => (simp (disch := omega) only [e_gR, e_gI, e_aI, e_aL, e_oO, e_pI, e_wI, e_wL, Option.map_some, mS_sL, mR_sL, mI_sL, mS_sI, mR_sI, mL_sI, n_cl, ro_m hR1, rr_scalar hR1, rx_scalar hR1, ← hM2]; with_reducible rfl)) | rw [nm_eq] | rw [ckZ_n1] | rw [ckZ_n0])
  rw [hf]
  refine WP.of e ⟨⟨by rw [hM2, hM1]; rfl, by rw [hM2, hM1]; rfl, by rw [hM2, hM1]; rfl⟩, fun a b1 b5 b6 b7 => ?_, fun k k4 k5 => ?_, ?_, ?_, fun i hi => ?_, fun i hi => ?_, fun i hi => ?_⟩
  · rw [mI_sIr_o _ _ b7, mI_sIr_o _ _ b5, hM2, sI_row b1, sI_row b1, hM1, mI_sIr_o _ _ b6]
  · rw [mI_sIr_o _ _ (by omega), mI_sIr_o _ _ (by omega), hM2, mI_sI, if_neg (by omega), mI_sI, if_neg (by omega), hM1, mI_sIr_o _ _ (by omega)]
  · rw [mI_sIr_o _ _ (by omega), mI_sIr_o _ _ (by omega), hM2, mI_sI, if_neg (by omega), mI_sI, if_pos ⟨rfl, rfl⟩]
  · rw [mI_sIr_o _ _ (by omega), mI_sIr_o _ _ (by omega), hM2, mI_sI, if_pos ⟨rfl, rfl⟩]
  · rw [mI_sIr_o _ _ (by omega), mI_sIr_s, flR_i _ _ hi]
  · rw [mI_sIr_o _ _ (by omega), mI_sIr_o _ _ (by omega), hM2, sI_row (by omega), sI_row (by omega), hM1, mI_sIr_s, cpR_z _ _ hi]
  · rw [mI_sIr_s, flR_i _ _ hi]

/-- a rule's own places are the same -/
def RSl (m i : Nat) (M M' : Mem) : Prop := (∀ k, k < 300 → mI M' (m + 18) (300 * i + k) = mI M (m + 18) (300 * i + k) ∧ mI M' (m + 19) (300 * i + k) = mI M (m + 19) (300 * i + k)) ∧ mI M' (m + 20) i = mI M (m + 20) i ∧ ∀ k, k < 12 → mI M' (m + 21) (12 * i + k) = mI M (m + 21) (12 * i + k) ∧ mI M' (m + 22) (12 * i + k) = mI M (m + 22) (12 * i + k) ∧ mI M' (m + 23) (12 * i + k) = mI M (m + 23) (12 * i + k)
theorem RSl.rw {m i : Nat} {M M' : Mem} (h : ∀ a, 18 ≤ a → a ≤ 23 → mI M' (m + a) = mI M (m + a)) : RSl m i M M' := ⟨fun k _ => ⟨by rw [h 18 (by decide) (by decide)], by rw [h 19 (by decide) (by decide)]⟩, by rw [h 20 (by decide) (by decide)], fun k _ => ⟨by rw [h 21 (by decide) (by decide)], by rw [h 22 (by decide) (by decide)], by rw [h 23 (by decide) (by decide)]⟩⟩
theorem RSl.tr {m i : Nat} {M1 M2 M3 : Mem} (h1 : RSl m i M1 M2) (h2 : RSl m i M2 M3) : RSl m i M1 M3 := ⟨fun k hk => ⟨(h2.1 k hk).1.trans (h1.1 k hk).1, (h2.1 k hk).2.trans (h1.1 k hk).2⟩, h2.2.1.trans h1.2.1, fun k hk => ⟨(h2.2.2 k hk).1.trans (h1.2.2 k hk).1, (h2.2.2 k hk).2.1.trans (h1.2.2 k hk).2.1, (h2.2.2 k hk).2.2.trans (h1.2.2 k hk).2.2⟩⟩
def RWs (M : Mem) (m c : Nat) (W : Nat → RD) : Prop := c ≤ 6 ∧ mI M m 21 = nI c ∧ ∀ i, i < c → ∀ M' : Mem, RIs (mS M') (mR M') m → RSl m i M M' → mI M' (m + 1) 8 = nI i → ∃ g, f_X10_wanted m M' = some (W i (fun k => if k < 11 then mL M' (m + 25) k else 0), sLr M' (m + 26) g)
theorem RWs.of {M M' : Mem} {m c : Nat} {W : Nat → RD} (h : RWs M m c W) (h1 : ∀ a, 18 ≤ a → a ≤ 23 → mI M' (m + a) = mI M (m + a)) (h2 : mI M' m 21 = mI M m 21) : RWs M' m c W := ⟨h.1, h2.trans h.2.1, fun i hi M2 hR g1 g2 => h.2.2 i hi M2 hR ((RSl.rw h1).tr g1) g2⟩
theorem RWs.ru {M : Mem} {m c : Nat} {W : Nat → RD} (h : RWs M m c W) {p : Option Nat} (hp : ∀ i, p = some i → i < c) (h8 : mI M (m + 1) 8 = eP p) : RRu M m (p.map W) := by
  cases p with
  | none => exact h8
  | some i =>
    have hi := hp i rfl
    have h6 := h.1
    have h8' : mI M (m + 1) 8 = nI i := h8
    refine ⟨by rw [h8', ne_eq, nI_m1 (by omega)]; exact fun h => h, fun M' hR g1 g2 => h.2.2 i hi M' hR (RSl.rw g1) (g2.trans h8')⟩
theorem QF.rws {m c : Nat} {M0 M : Mem} {W : Nat → RD} (q : QF m M0 M) (h : RWs M0 m c W) : RWs M m c W := h.of (fun a a1 a2 => q.2.1 (m + a) (by omega)) (q.2.2.2.1 21 (by decide) (by decide) (by decide) (by decide))
/-- begun anew by a rule, while a question is asked -/
theorem q_begin {m c : Nat} {M0 M : Mem} {T : TD} {W : Nat → RD} (hk : TOk T) (hR0 : RIs (mS M0) (mR M0) m) (hT0 : RT M0 m T) (hw : RWs M0 m c W) {p : Option Nat} (hp : ∀ i, p = some i → i < c) (q : QF m M0 M) (h38 : mI M m 38 = -1) (h8 : mI M (m + 1) 8 = eP p) : WP (f_X10_begins m M) (fun _ M' => RQ m M0 M' T (bgS T) (p.map W) none ∧ SX m M M') := by
  have h1 := hk.1.2.2.1
  have h2 := hk.1.2.2.2
  have hT := q.T hT0
  refine WP.mono (r_begins (q.RI hR0)) (fun _ M' c => ?_)
  obtain ⟨⟨c1, c2, c3⟩, c4, c5, c6, c7, c8, c9, c10⟩ := c
  have q' : QF m M0 M' := by
    refine ⟨⟨c1.trans q.1.1, c2.trans q.1.2⟩, fun a ha => (c4 a (by omega) (by omega) (by omega) (by omega)).trans (q.2.1 a ha), fun k h9 k4 k5 k7 k8 => (c5 k k4 k5).trans (q.2.2.1 k h9 k4 k5 k7 k8), by rw [c4 m (by omega) (by omega) (by omega) (by omega)]; exact q.2.2.2.1, by rw [c4 (m + 35) (by omega) (by omega) (by omega) (by omega)]; exact q.2.2.2.2.1, ?_⟩
    unfold KPq
    rw [c4 (m + 35) (by omega) (by omega) (by omega) (by omega)]
    exact q.2.2.2.2.2
  have e0 := c4 m (by omega) (by omega) (by omega) (by omega)
  refine ⟨⟨q', ⟨⟨c6, ?_⟩, fun j hj => c8 j (by omega), fun s hs => ⟨?_, c10 s (by omega)⟩⟩, (q'.rws hw).ru hp ((c5 8 (by decide) (by decide)).trans h8), ?_⟩, ⟨by rw [e0], by rw [e0], fun a a1 a2 => c4 (m + a) (by omega) (by omega) (by omega) (by omega)⟩⟩
  · rw [c7, bgS_ern]
  · rw [c9 s (by omega)]; exact (hT.2.2 s hs).2.2
  · show mI M' m 38 = -1
    rw [e0]; exact h38
/-! the class -/
theorem c_begin {M : Mem} {q t : Nat} {T : TD} (hk : TOk T) (hI : ITold (mS M) (mR M) t) (hT : CT M t T) (hJ : IScene (mS M) (mR M) q) (hd : t + 5 < q) : WP (f_X6_begin q (some t) M) (fun _ M' => SF q M M' ∧ CC M' q T (bgS T)) := by
  have h1 := hk.1.2.2.1
  have h2 := hk.1.2.2.2
  obtain ⟨M1, hM1⟩ : ∃ M1, M1 = sI M q 0 (nI 0) := ⟨_, rfl⟩
  have hJ1 : IScene (mS M1) (mR M1) q := by rw [hM1]; exact hJ
  have hI1 : ITold (mS M1) (mR M1) t := by rw [hM1]; exact hI
  have a1 := j_fill (v := -100000) (scene_n_heard hJ1) (fun i hi => scene_x_heard hJ1 hi) (by decide)
  obtain ⟨M2, hM2⟩ : ∃ M2, M2 = sIr M1 (q + 1) (flR (mI M1 (q + 1)) (-100000) 8) := ⟨_, rfl⟩
  rw [← hM2] at a1
  have hJ2 : IScene (mS M2) (mR M2) q := by rw [hM2]; exact hJ1
  have hI2 : ITold (mS M2) (mR M2) t := by rw [hM2]; exact hI1
  have a2 := j_fill (v := -1) (scene_n_passed hJ2) (fun i hi => scene_x_passed hJ2 hi) (by decide)
  obtain ⟨M3, hM3⟩ : ∃ M3, M3 = sIr M2 (q + 3) (flR (mI M2 (q + 3)) (-1) 5) := ⟨_, rfl⟩
  rw [← hM3] at a2
  have hJ3 : IScene (mS M3) (mR M3) q := by rw [hM3]; exact hJ2
  have hI3 : ITold (mS M3) (mR M3) t := by rw [hM3]; exact hI2
  have e4 : mI M3 (t + 4) = mI M (t + 4) := by rw [hM3, mI_sIr_o _ _ (by omega), hM2, mI_sIr_o _ _ (by omega), hM1, sI_row (by omega)]
  unfold f_X6_begin
  repeat (first | ((with_reducible apply WP.ce); case h => (simp (disch := omega) only []; with_reducible rfl)) | ((with_reducible apply WP.bd); case h => (simp (disch := omega) only [e_gR, e_gI, e_aI, e_aL, e_oO, e_pI, e_wI, e_wL, Option.map_some, mS_sL, mR_sL, mI_sL, mS_sI, mR_sI, mL_sI, n_cl, scene_o hJ, ← hM1]; with_reducible rfl)) | rw [nm_eq] | rw [ckZ_n1] | rw [ckZ_n0])
  repeat (first | ((with_reducible apply WP.ce); case h => (simp (disch := omega) only [a1]; with_reducible rfl)) | ((with_reducible apply WP.bd); case h => (simp (disch := omega) only [e_gR, e_gI, e_aI, e_aL, e_oO, e_pI, e_wI, e_wL, Option.map_some, mS_sL, mR_sL, mI_sL, mS_sI, mR_sI, mL_sI, n_cl, scene_o hJ1, scene_r_heard hJ1]; with_reducible rfl)) | rw [nm_eq] | rw [ckZ_n1] | rw [ckZ_n0])
  repeat (first | ((with_reducible apply WP.ce); case h => (simp (disch := omega) only [a2]; with_reducible rfl)) | ((with_reducible apply WP.bd); case h => (simp (disch := omega) only [e_gR, e_gI, e_aI, e_aL, e_oO, e_pI, e_wI, e_wL, Option.map_some, mS_sL, mR_sL, mI_sL, mS_sI, mR_sI, mL_sI, n_cl, scene_o hJ2, scene_r_passed hJ2]; with_reducible rfl)) | rw [nm_eq] | rw [ckZ_n1] | rw [ckZ_n0])
  repeat (first | ((with_reducible apply WP.ce); case h => (simp (disch := omega) only []; with_reducible rfl)) | ((with_reducible apply WP.bd); case h => (simp (disch := omega) only [e_gR, e_gI, e_aI, e_aL, e_oO, e_pI, e_wI, e_wL, Option.map_some, mS_sL, mR_sL, mI_sL, mS_sI, mR_sI, mL_sI, n_cl, scene_o hJ3, scene_r_knows hJ3, told_o hI3, told_r_knows hI3]; with_reducible rfl)) | rw [nm_eq] | rw [ckZ_n1] | rw [ckZ_n0])
  refine WP.bd (cpy_ok (l0 := 5) (l1 := 5) (told_l_knows hI3) (scene_l_knows hJ3) (by decide) (by decide) (by decide) (by decide) (by decide) (by decide)) ?_
  refine WP.ret ⟨⟨by rw [mS_sIr, hM3, hM2, hM1]; rfl, by rw [mR_sIr, hM3, hM2, hM1]; rfl, fun a a0 a1 a2 a3 => ?_, ?_⟩, ?_, fun j hj => ?_, fun s hs => ⟨?_, ?_⟩⟩
  · rw [mI_sIr_o _ _ a2, hM3, mI_sIr_o _ _ a3, hM2, mI_sIr_o _ _ a1, hM1, sI_row a0]
  · rw [mL_sIr, hM3, hM2, hM1]; rfl
  · rw [mI_sIr_o _ _ (by omega), hM3, mI_sIr_o _ _ (by omega), hM2, mI_sIr_o _ _ (by omega), hM1, mI_sI, if_pos ⟨rfl, rfl⟩]; rfl
  · rw [mI_sIr_o _ _ (by omega), hM3, mI_sIr_o _ _ (by omega), hM2, mI_sIr_s, flR_i _ _ (by omega)]; rfl
  · rw [mI_sIr_s, va_cpy_z _ _ (by omega), e4]; exact (hT.2.2.1 s hs).2.2
  · rw [mI_sIr_o _ _ (by omega), hM3, mI_sIr_s, flR_i _ _ (by omega)]; rfl
