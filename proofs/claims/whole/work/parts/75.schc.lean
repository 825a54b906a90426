/-! THE CLASS: school -/
theorem c_teachL {q : Nat} {T : TD} {S : SC} (hk : TOk T) (hs : SOk S) {set : Nat} {M0 : Mem} (hJ0 : IScene (mS M0) (mR M0) q) :
    ∀ d i f (M : Mem), i + d = 5 → SF q M0 M → mI M q 0 = nI (sT S) → (∀ j, j < tJ T → mI M (q + 1) j = eH (-100000) (sH S j)) → (∀ s, s < tN T → mI M (q + 2) s = nI (if s < i then sW (tchS T S set) s else sW S s) ∧ mI M (q + 3) s = eP (sP S s)) →
    WP (f_X6_teach_L2 q (f + d + 1) (nI set) (nI i) M) (fun _ M' => SF q M0 M' ∧ CC M' q T (tchS T S set)) := by
  have h2 := hk.1.2.2.2
  intro d
  induction d with
  | zero =>
    intro i f M hi fr h0 hh hw
    rw [f_X6_teach_L2]
    exact WP.it (by rw [n_le (by omega) (by omega)]; omega) (WP.ret ⟨fr, h0, hh, fun s hs5 => ⟨by rw [(hw s hs5).1, if_pos (by omega)], (hw s hs5).2⟩⟩)
  | succ d ih =>
    intro i f M hi fr h0 hh hw
    have hJ : IScene (mS M) (mR M) q := by rw [fr.1, fr.2.1]; exact hJ0
    rw [show f + (d + 1) + 1 = (f + d + 1) + 1 from by omega, f_X6_teach_L2]
    refine WP.ie (by rw [n_le (by omega) (by omega)]; omega) ?_
    have x1 : ixS (mS M) 0 (some (q + 3)) (nI i) = some (q + 3) := scene_x_passed hJ (by omega)
    have x2 : ixS (mS M) 0 (some (q + 2)) (nI i) = some (q + 2) := scene_x_knows hJ (by omega)
    repeat (first | ((with_reducible apply WP.ce); case h => (simp (disch := omega) only []; with_reducible rfl)) | ((with_reducible apply WP.bd); case h => (simp (disch := omega) only [e_gR, e_gI, e_aI, e_aL, e_oO, e_pI, e_wI, e_wL, Option.map_some, mS_sL, mR_sL, mI_sL, mS_sI, mR_sI, mL_sI, n_cl, scene_o hJ, scene_r_passed hJ, x1]; with_reducible rfl)) | rw [nm_eq] | rw [ckZ_n1] | rw [ckZ_n0])
    unfold f_X6_teach_J27
    have ew : i < tN T → sW (tchS T S set) i = if wts S i then sW S i ||| set else sW S i := by
      intro hi5
      show (if decide (i < tN T) && wts S i then sW S i ||| set else sW S i) = _
      rw [decide_eq_true hi5, Bool.true_and]
    by_cases hc : mI M (q + 3) i = -1
    · refine WP.it hc ?_
      repeat (first | ((with_reducible apply WP.ce); case h => (simp (disch := omega) only []; with_reducible rfl)) | ((with_reducible apply WP.bd); case h => (simp (disch := omega) only [e_gR, e_gI, e_aI, e_aL, e_oO, e_pI, e_wI, e_wL, Option.map_some, mS_sL, mR_sL, mI_sL, mS_sI, mR_sI, mL_sI, n_cl, scene_o hJ, scene_r_knows hJ, x2]; with_reducible rfl)) | rw [nm_eq] | rw [ckZ_n1] | rw [ckZ_n0])
      rw [n_add]
      refine ih (i + 1) f _ (by omega) (fr.tr (SF.w M (by omega) _ _)) ?_ ?_ (fun s hs5 => ⟨?_, ?_⟩)
      · rw [sI_row (by omega)]; exact h0
      · rw [sI_row (by omega)]; exact hh
      · rw [mI_sI_s]
        by_cases e : s = i
        · subst e
          rw [(hw s hs5).2, eP_none (sP_lt hs s)] at hc
          rw [upd_s, if_pos (by omega), ew hs5, (hw s hs5).1, if_neg (by omega), n_or, if_pos (by unfold wts; exact hc)]
        · rw [upd_o _ _ e, (hw s hs5).1]
          by_cases e2 : s < i
          · rw [if_pos e2, if_pos (by omega)]
          · rw [if_neg e2, if_neg (by omega)]
      · rw [sI_row (by omega)]; exact (hw s hs5).2
    · refine WP.ie hc ?_
      rw [n_add]
      refine ih (i + 1) f M (by omega) fr h0 hh (fun s hs5 => ⟨?_, (hw s hs5).2⟩)
      rw [(hw s hs5).1]
      by_cases e : s = i
      · subst e
        rw [(hw s hs5).2, eP_none (sP_lt hs s)] at hc
        rw [if_neg (by omega), if_pos (by omega), ew hs5, if_neg (by unfold wts; exact hc)]
      · by_cases e2 : s < i
        · rw [if_pos e2, if_pos (by omega)]
        · rw [if_neg e2, if_neg (by omega)]
theorem c_teach {q : Nat} {T : TD} {S : SC} {M : Mem} (hk : TOk T) (hs : SOk S) {set : Nat} (hJ : IScene (mS M) (mR M) q) (hS : CC M q T S) : WP (f_X6_teach q (nI set) M) (fun _ M' => SF q M M' ∧ CC M' q T (tchS T S set)) := by
  obtain ⟨f, hf⟩ := FUd 5 (by omega)
  rw [f_X6_teach, hf]
  exact c_teachL hk hs hJ 5 0 f M (by omega) ⟨rfl, rfl, fun _ _ _ _ _ => rfl, rfl⟩ hS.1 hS.2.1 (fun s hs5 => ⟨by rw [if_neg (by omega)]; exact (hS.2.2 s hs5).1, (hS.2.2 s hs5).2⟩)
def cmA (S : SC) : Nat → Nat
  | 0 => 255
  | i + 1 => if wts S i then cmA S i &&& sW S i else cmA S i
theorem cmA_lt (S : SC) : ∀ i, cmA S i < 256
  | 0 => by show 255 < 256; decide
  | i + 1 => by
    have h := cmA_lt S i
    rw [cmA]
    split
    · exact Nat.lt_of_le_of_lt Nat.and_le_left h
    · exact h
theorem cmA_sub (S : SC) {s j : Nat} (hw : wts S s = true) : ∀ i, s < i → (cmA S i).testBit j = true → (sW S s).testBit j = true
  | 0, h, _ => absurd h (Nat.not_lt_zero s)
  | i + 1, h, hb => by
    rw [cmA] at hb
    by_cases e : s = i
    · subst e
      rw [if_pos hw, Nat.testBit_and] at hb
      exact (Bool.and_eq_true_iff.mp hb).2
    · refine cmA_sub S hw i (by omega) ?_
      by_cases e2 : wts S i = true
      · rw [if_pos e2, Nat.testBit_and] at hb
        exact (Bool.and_eq_true_iff.mp hb).1
      · rw [if_neg e2] at hb; exact hb
theorem c_commonL {M : Mem} {T : TD} {S : SC} {r : Option RD} (h : CA M T S r) : ∀ d i f l, i + d = tN T → nI 255 &&& l = nI (cmA S i) → WP (f_X0_commonJokes_L4 37 (f + d + 1) l (nI i) M) (fun l' M' => M' = M ∧ nI 255 &&& l' = nI (cmA S (tN T))) := by
  obtain ⟨⟨hC, hT, hS, hr⟩, hk, hs, h9⟩ := h
  have h2 := hk.1.2.2.2
  intro d
  induction d with
  | zero =>
    intro i f l hi hl
    have hi : i = tN T := by omega
    subst hi
    rw [f_X0_commonJokes_L4]
    repeat (first | ((with_reducible apply WP.ce); case h => (simp (disch := omega) only []; with_reducible rfl)) | ((with_reducible apply WP.bd); case h => (simp (disch := omega) only [e_gR, e_gI, e_aI, e_aL, e_oO, e_pI, e_wI, e_wL, Option.map_some, mS_sL, mR_sL, mI_sL, mS_sI, mR_sI, mL_sI, n_cl, cob_37 hC, cr_37_told hC, told_o (ci_told hC), hT.1.2.2.2.2]; with_reducible rfl)) | rw [nm_eq] | rw [ckZ_n1] | rw [ckZ_n0])
    exact WP.it (by rw [n_le (by omega) (by omega)]; omega) (WP.ret ⟨rfl, hl⟩)
  | succ d ih =>
    intro i f l hi hl
    have hp : mI M 24 i = eP (sP S i) := (hS.2.2 i (by omega)).2
    have hkn : mI M 23 i = nI (sW S i) := (hS.2.2 i (by omega)).1
    have x1 : ixS (mS M) 0 (some 24) (nI i) = some 24 := scene_x_passed (ci_scene hC) (by omega)
    have x2 : ixS (mS M) 0 (some 23) (nI i) = some 23 := scene_x_knows (ci_scene hC) (by omega)
    rw [show f + (d + 1) + 1 = (f + d + 1) + 1 from by omega, f_X0_commonJokes_L4]
    repeat (first | ((with_reducible apply WP.ce); case h => (simp (disch := omega) only []; with_reducible rfl)) | ((with_reducible apply WP.bd); case h => (simp (disch := omega) only [e_gR, e_gI, e_aI, e_aL, e_oO, e_pI, e_wI, e_wL, Option.map_some, mS_sL, mR_sL, mI_sL, mS_sI, mR_sI, mL_sI, n_cl, cob_37 hC, cr_37_told hC, told_o (ci_told hC), hT.1.2.2.2.2]; with_reducible rfl)) | rw [nm_eq] | rw [ckZ_n1] | rw [ckZ_n0])
    refine WP.ie (by rw [n_le (by omega) (by omega)]; omega) ?_
    unfold f_X0_commonJokes_J46
    repeat (first | ((with_reducible apply WP.ce); case h => (simp (disch := omega) only []; with_reducible rfl)) | ((with_reducible apply WP.bd); case h => (simp (disch := omega) only [e_gR, e_gI, e_aI, e_aL, e_oO, e_pI, e_wI, e_wL, Option.map_some, mS_sL, mR_sL, mI_sL, mS_sI, mR_sI, mL_sI, n_cl, cob_37 hC, cr_37_book hC, book_o (ci_book hC), book_r_scene (ci_book hC), Nat.reduceAdd, scene_o (ci_scene hC), scene_r_passed (ci_scene hC), x1, hp]; with_reducible rfl)) | rw [nm_eq] | rw [ckZ_n1] | rw [ckZ_n0])
    rw [n_add]
    by_cases hw : wts S i = true
    · refine WP.it (by rw [eP_none (sP_lt hs i)]; exact hw) ?_
      repeat (first | ((with_reducible apply WP.ce); case h => (simp (disch := omega) only []; with_reducible rfl)) | ((with_reducible apply WP.bd); case h => (simp (disch := omega) only [e_gR, e_gI, e_aI, e_aL, e_oO, e_pI, e_wI, e_wL, Option.map_some, mS_sL, mR_sL, mI_sL, mS_sI, mR_sI, mL_sI, n_cl, cob_37 hC, cr_37_book hC, book_o (ci_book hC), book_r_scene (ci_book hC), Nat.reduceAdd, scene_o (ci_scene hC), scene_r_knows (ci_scene hC), x2, hkn]; with_reducible rfl)) | rw [nm_eq] | rw [ckZ_n1] | rw [ckZ_n0])
      refine ih (i + 1) f _ (by omega) ?_
      rw [← Int32.and_assoc, hl, n_and, cmA, if_pos hw]
    · refine WP.ie (by rw [eP_none (sP_lt hs i)]; exact hw) ?_
      refine ih (i + 1) f l (by omega) ?_
      rw [hl, cmA, if_neg hw]
/-! the least set of the fewest -/
def scB (T : TD) (S : SC) (set : Nat) : Bool := decide (set &&& cmA S (tN T) = 0)
def scP (T : TD) (r : Option RD) (S : SC) (n k set : Nat) : Bool := decide (btc set = k) && (scB T S set && wrk T r S n set)
def scK (T : TD) (r : Option RD) (S : SC) (n : Nat) : Nat → Nat → Option Nat
  | 0, _ => none
  | d + 1, k => (fs (scP T r S n k) (2 ^ tJ T)).elim (scK T r S n d (k + 1)) some
def Bst (p : Nat → Bool) (N s : Nat) : Prop := s < N ∧ p s = true ∧ ∀ t, t < N → p t = true → btc s < btc t ∨ (btc s = btc t ∧ s ≤ t)
theorem Bst.uq {p : Nat → Bool} {N a b : Nat} (ha : Bst p N a) (hb : Bst p N b) : a = b := by
  have h1 := ha.2.2 b hb.1 hb.2.1
  have h2 := hb.2.2 a ha.1 ha.2.1
  omega
theorem scF_b {T : TD} {r : Option RD} {S : SC} {n : Nat} : ∀ d set b, b.elim (∀ t, t < set → wrk T r S n t = false) (Bst (wrk T r S n) set) → (scF T r S n d set b).elim (∀ t, t < set + d → wrk T r S n t = false) (Bst (wrk T r S n) (set + d)) := by
  intro d
  induction d with
  | zero => intro set b h; exact h
  | succ d ih =>
    intro set b h
    rw [scF, show set + (d + 1) = set + 1 + d by omega]
    apply ih
    unfold scN
    by_cases hw : wrk T r S n set = true
    · cases b with
      | none =>
        have h : ∀ t, t < set → wrk T r S n t = false := h
        have e : ((none : Option Nat).elim true (fun x => decide (btc set < btc x)) && wrk T r S n set) = true := by rw [hw]; rfl
        rw [if_pos e]
        refine ⟨by omega, hw, fun t ht hp => ?_⟩
        by_cases e2 : t < set
        · rw [h t e2] at hp; cases hp
        · have : t = set := by omega
          subst this; omega
      | some x =>
        have h : Bst (wrk T r S n) set x := h
        by_cases hc : btc set < btc x
        · have e : ((some x).elim true (fun x => decide (btc set < btc x)) && wrk T r S n set) = true := by rw [hw]; show (decide _ && true) = true; rw [decide_eq_true hc]; rfl
          rw [if_pos e]
          refine ⟨by omega, hw, fun t ht hp => ?_⟩
          by_cases e2 : t < set
          · have := h.2.2 t e2 hp; omega
          · have : t = set := by omega
            subst this; omega
        · have e : ((some x).elim true (fun x => decide (btc set < btc x)) && wrk T r S n set) = false := by show (decide _ && _) = false; rw [decide_eq_false hc]; rfl
          rw [if_neg (by rw [e]; decide)]
          refine ⟨by have := h.1; omega, h.2.1, fun t ht hp => ?_⟩
          by_cases e2 : t < set
          · exact h.2.2 t e2 hp
          · have : t = set := by omega
            subst this
            have := h.1
            omega
    · have hw2 : wrk T r S n set = false := by simpa using hw
      rw [if_neg (by rw [hw2, Bool.and_false]; decide)]
      cases b with
      | none =>
        intro t ht
        by_cases e2 : t < set
        · exact h t e2
        · have : t = set := by omega
          subst this; exact hw2
      | some x =>
        have h : Bst (wrk T r S n) set x := h
        refine ⟨by have := h.1; omega, h.2.1, fun t ht hp => ?_⟩
        by_cases e2 : t < set
        · exact h.2.2 t e2 hp
        · have : t = set := by omega
          subst this; rw [hw2] at hp; cases hp
theorem ctb_lt {p q : Nat → Bool} {i : Nat} : ∀ {n : Nat}, (∀ k, k < n → p k = true → q k = true) → i < n → p i = false → q i = true → ctb p n < ctb q n
  | 0, _, hi, _, _ => absurd hi (Nat.not_lt_zero i)
  | n + 1, h, hi, h1, h2 => by
    rw [ctb, ctb]
    by_cases e : i = n
    · subst e
      have := ctb_mono (p := p) (q := q) (n := i) (fun k hk => h k (by omega))
      rw [h1, h2, if_neg (by decide), if_pos rfl]; omega
    · have := ctb_lt (p := p) (q := q) (n := n) (fun k hk => h k (by omega)) (by omega) h1 h2
      have h3 := h n (by omega)
      cases hp : p n with
      | false => rw [if_neg (by decide)]; omega
      | true => rw [if_pos rfl, h3 hp, if_pos rfl]; omega
/-- what all know anyway is in no fewest set -/
theorem wrk_red {T : TD} {r : Option RD} {S : SC} {n set : Nat} (hk : TOk T) (hset : set < 2 ^ tJ T) (hw : wrk T r S n set = true) (hb : scB T S set = false) : ∃ t, t < 2 ^ tJ T ∧ wrk T r S n t = true ∧ scB T S t = true ∧ btc t < btc set := by
  have h1 := hk.1.2.2.1
  have h8 := pow8 h1
  let t := bmk (fun j => set.testBit j && !(cmA S (tN T)).testBit j) (tJ T)
  have tb : ∀ j, t.testBit j = (set.testBit j && !(cmA S (tN T)).testBit j) := by
    intro j
    show (bmk _ _).testBit j = _
    rw [bmk_bit]
    by_cases hj : j < tJ T
    · rw [decide_eq_true hj, Bool.true_and]
    · rw [decide_eq_false hj, Bool.false_and, Nat.testBit_lt_two_pow (Nat.lt_of_lt_of_le hset (Nat.pow_le_pow_right (by decide) (by omega))), Bool.false_and]
  have ht : t < 2 ^ tJ T := bmk_lt _ _
  have e : tchS T S t = tchS T S set := by
    unfold tchS
    congr 3
    funext s
    by_cases hc : (decide (s < tN T) && wts S s) = true
    · rw [if_pos hc, if_pos hc]
      have hc2 := Bool.and_eq_true_iff.mp hc
      apply Nat.eq_of_testBit_eq
      intro j
      rw [Nat.testBit_or, Nat.testBit_or, tb j]
      have := cmA_sub S (s := s) (j := j) hc2.2 (tN T) (of_decide_eq_true hc2.1)
      cases h3 : (cmA S (tN T)).testBit j with
      | false => simp
      | true => rw [this h3]; simp
    · rw [if_neg hc, if_neg hc]
  have hne : set &&& cmA S (tN T) ≠ 0 := fun z => by
    unfold scB at hb
    rw [decide_eq_true z] at hb; cases hb
  obtain ⟨i, hi⟩ := Nat.exists_testBit_of_ne_zero hne
  rw [Nat.testBit_and] at hi
  have hi2 := Bool.and_eq_true_iff.mp hi
  have hi8 : i < 8 := by
    rcases Nat.lt_or_ge i 8 with z | z
    · exact z
    · have : set.testBit i = false := Nat.testBit_lt_two_pow (Nat.lt_of_lt_of_le (Nat.lt_of_lt_of_le hset h8) (Nat.pow_le_pow_right (n := 2) (by decide) (show 8 ≤ i from z)))
      rw [this] at hi2; cases hi2.1
  refine ⟨t, ht, ?_, ?_, ?_⟩
  · unfold wrk at hw ⊢
    rw [e]; exact hw
  · apply decide_eq_true
    apply Nat.eq_of_testBit_eq
    intro j
    rw [Nat.testBit_and, tb j, Nat.zero_testBit]
    cases (cmA S (tN T)).testBit j <;> simp
  · refine ctb_lt (i := i) (fun k _ hp => ?_) (by omega) ?_ hi2.1
    · have hp : t.testBit k = true := hp
      rw [tb k] at hp
      exact (Bool.and_eq_true_iff.mp hp).1
    · show t.testBit i = false
      rw [tb i, hi2.2]; simp
theorem fs_none {p : Nat → Bool} : ∀ {n : Nat}, fs p n = none → ∀ i, i < n → p i = false
  | 0, _, i, hi => absurd hi (Nat.not_lt_zero i)
  | n + 1, h, i, hi => by
    have h0 : fs p n = none := by
      cases hz : fs p n with
      | none => rfl
      | some x => rw [fs, hz] at h; simp at h
    rw [fs, h0] at h
    by_cases e : i = n
    · subst e
      cases hp : p i with
      | false => rfl
      | true => rw [hp] at h; simp at h
    · exact fs_none h0 i (by omega)
theorem fs_some {p : Nat → Bool} {x : Nat} : ∀ {n : Nat}, fs p n = some x → x < n ∧ p x = true ∧ ∀ i, i < x → p i = false
  | 0, h => by cases h
  | n + 1, h => by
    cases hz : fs p n with
    | none =>
      rw [fs, hz] at h
      cases hp : p n with
      | false => rw [hp] at h; simp at h
      | true =>
        rw [hp] at h
        have : n = x := by simpa using h
        subst this
        exact ⟨by omega, hp, fun i hi => fs_none hz i hi⟩
    | some y =>
      rw [fs, hz] at h
      have : y = x := by simpa using h
      subst this
      have := fs_some hz
      exact ⟨by omega, this.2⟩
theorem scK_b {T : TD} {r : Option RD} {S : SC} {n : Nat} (hk : TOk T) : ∀ d k, (∀ t, t < 2 ^ tJ T → btc t < k → scB T S t = true → wrk T r S n t = false) →
    (scK T r S n d k).elim (∀ t, t < 2 ^ tJ T → btc t < k + d → scB T S t = true → wrk T r S n t = false) (Bst (wrk T r S n) (2 ^ tJ T)) := by
  intro d
  induction d with
  | zero => intro k h; exact h
  | succ d ih =>
    intro k h
    rw [scK]
    cases hf : fs (scP T r S n k) (2 ^ tJ T) with
    | none =>
      have := ih (k + 1) (fun t ht hb hB => by
        by_cases e : btc t < k
        · exact h t ht e hB
        · have h2 := fs_none hf t ht
          unfold scP at h2
          rw [decide_eq_true (by omega), hB, Bool.true_and, Bool.true_and] at h2
          exact h2)
      rw [show k + (d + 1) = k + 1 + d by omega]
      exact this
    | some s =>
      obtain ⟨f1, f2, f3⟩ := fs_some hf
      unfold scP at f2
      have f2' := Bool.and_eq_true_iff.mp f2
      have f2'' := Bool.and_eq_true_iff.mp f2'.2
      have hk1 := of_decide_eq_true f2'.1
      have free : ∀ t, t < 2 ^ tJ T → scB T S t = true → wrk T r S n t = true → k < btc t ∨ (k = btc t ∧ s ≤ t) := by
        intro t ht hB hw
        by_cases e1 : btc t < k
        · rw [h t ht e1 hB] at hw; cases hw
        · by_cases e2 : btc t = k
          · by_cases e3 : t < s
            · have := f3 t e3
              unfold scP at this
              rw [decide_eq_true e2, hB, hw] at this; cases this
            · omega
          · omega
      refine ⟨f1, f2''.2, fun t ht hw => ?_⟩
      rw [hk1]
      cases hB : scB T S t with
      | true => exact free t ht hB hw
      | false =>
        obtain ⟨u, u1, u2, u3, u4⟩ := wrk_red hk ht hw hB
        have := free u u1 u3 u2
        omega
theorem sch_eq {T : TD} {r : Option RD} {S : SC} {n : Nat} (hk : TOk T) : scK T r S n (tJ T + 1) 0 = scF T r S n (2 ^ tJ T) 0 none := by
  have h1 := hk.1.2.2.1
  have a := scK_b (r := r) (S := S) (n := n) hk (tJ T + 1) 0 (fun t _ hb => absurd hb (Nat.not_lt_zero _))
  have b := scF_b (T := T) (r := r) (S := S) (n := n) (2 ^ tJ T) 0 none (fun t ht => absurd ht (Nat.not_lt_zero _))
  rw [Nat.zero_add] at a b
  have bl : ∀ t, t < 2 ^ tJ T → btc t < tJ T + 1 := by
    intro t ht
    have e : btc t = ctb (fun i => decide (i < tJ T) && t.testBit i) 16 := ctb_cong (fun i _ => by
      by_cases hi : i < tJ T
      · rw [decide_eq_true hi, Bool.true_and]
      · rw [decide_eq_false hi, Bool.false_and, Nat.testBit_lt_two_pow (Nat.lt_of_lt_of_le ht (Nat.pow_le_pow_right (by decide) (by omega)))])
    rw [e, ctb_cut _ _ 16 (by omega)]
    exact Nat.lt_succ_of_le (ctb_le _ _)
  cases ha : scK T r S n (tJ T + 1) 0 with
  | none =>
    rw [ha] at a
    have a : ∀ t, t < 2 ^ tJ T → btc t < tJ T + 1 → scB T S t = true → wrk T r S n t = false := a
    cases hb : scF T r S n (2 ^ tJ T) 0 none with
    | none => rfl
    | some x =>
      rw [hb] at b
      have b : Bst (wrk T r S n) (2 ^ tJ T) x := b
      exfalso
      cases hB : scB T S x with
      | true => have := a x b.1 (bl x b.1) hB; rw [b.2.1] at this; cases this
      | false =>
        obtain ⟨u, u1, u2, u3, u4⟩ := wrk_red hk b.1 b.2.1 hB
        have := a u u1 (bl u u1) u3
        rw [u2] at this; cases this
  | some x =>
    rw [ha] at a
    have a : Bst (wrk T r S n) (2 ^ tJ T) x := a
    cases hb : scF T r S n (2 ^ tJ T) 0 none with
    | none =>
      rw [hb] at b
      have b : ∀ t, t < 2 ^ tJ T → wrk T r S n t = false := b
      have := b x a.1
      rw [a.2.1] at this; cases this
    | some y =>
      rw [hb] at b
      rw [a.uq b]
