/-! THE CLASS: going on by leaps -/
def adv (S : SC) (k : Nat) : SC := (sT S + k, sH S, sW S, sP S)
theorem adv_0 (S : SC) : adv S 0 = S := rfl
theorem adv_nxt (S : SC) (k : Nat) : nxt (adv S k) = adv S (k + 1) := rfl
theorem tides_add (T : TD) (r : Option RD) (S : SC) (a : Nat) : ∀ b, tides T r S (a + b) = tides T r (tides T r S a) b
  | 0 => rfl
  | b + 1 => by rw [show a + (b + 1) = (a + b) + 1 by omega, tides, tides_add T r S a b, tides]
theorem ctb_z {p : Nat → Bool} : ∀ {n : Nat}, ctb p n = 0 → ∀ i, i < n → p i = false
  | 0, _, i, hi => absurd hi (Nat.not_lt_zero i)
  | n + 1, h, i, hi => by
    rw [ctb] at h
    by_cases hp : p n = true
    · rw [if_pos hp] at h; omega
    · by_cases hn : i = n
      · subst hn; simpa using hp
      · exact ctb_z (n := n) (by rw [if_neg hp] at h; omega) i (by omega)
theorem trns_q {T : TD} {r : Option RD} {S : SC} : ∀ n, (∀ s, s < n → tld T r none S s = none) → trns T r none S n = S
  | 0, _ => rfl
  | n + 1, h => by
    rw [trns, trns_q n (fun s hs => h s (by omega)), trn, h n (by omega)]
    rfl
theorem tides_q {T : TD} {r : Option RD} {S : SC} : ∀ n, (∀ k, k < n → ∀ s, s < tN T → tld T r none (adv S k) s = none) → tides T r S n = adv S n
  | 0, _ => rfl
  | n + 1, h => by
    rw [tides, tides_q n (fun k hk => h k (by omega)), tide1, trns_q (tN T) (h n (by omega))]
    rfl
theorem tides_w0 {T : TD} {r : Option RD} {S : SC} (h : wtc T S = 0) (n : Nat) : tides T r S n = adv S n := by
  refine tides_q n (fun k _ s hs => ?_)
  have e : wts (adv S k) s = false := ctb_z h s hs
  unfold tld
  rw [e]
  rfl
theorem rem_adv {T : TD} {S : SC} {k j : Nat} (hF : rem T S j = true → ∀ h, sH S j = some h → (sT S : Int) + k < h + tF T) : rem T (adv S k) j = rem T S j := by
  unfold rem at *
  show (sH S j).elim false (fun h => decide (((sT S + k : Nat) : Int) - h < (tF T : Int))) = _
  cases hh : sH S j with
  | none => rfl
  | some h =>
    rw [hh] at hF
    simp only [Option.elim] at hF ⊢
    rw [decide_eq_decide]
    constructor
    · intro g; omega
    · intro g
      have := hF (decide_eq_true g) h rfl
      omega
theorem lkO_adv {T : TD} {S : SC} {k : Nat} (hF : ∀ j, j < tJ T → rem T S j = true → ∀ h, sH S j = some h → (sT S : Int) + k < h + tF T) (j : Nat) : lkO T (adv S k) j = lkO T S j := by
  unfold lkO
  exact mxn_cong (fun i hi => by rw [rem_adv (hF i hi)])
theorem chs_cong {f g : Nat → Int64} {kn : Nat → Bool} : ∀ {n : Nat}, (∀ i, i < n → f i = g i) → chs f kn n = chs g kn n
  | 0, _ => rfl
  | n + 1, h => by rw [chs, chs, chs_cong (fun i hi => h i (by omega)), h n (by omega)]
/-- a rule that no time changes -/
def Unt (r : Option RD) : Prop := ∀ w, r = some w → ∀ v v' : Nat → Int64, (∀ k, k ≠ 3 → k ≠ 8 → k ≠ 10 → v k = v' k) → w v = w v'
theorem wts_adv (S : SC) (k : Nat) : wts (adv S k) = wts S := rfl
theorem wtc_adv (T : TD) (S : SC) (k : Nat) : wtc T (adv S k) = wtc T S := by unfold wtc; rw [wts_adv]
theorem knb_adv (T : TD) (S : SC) (k j : Nat) : knb T (adv S k) j = knb T S j := by
  unfold knb
  rw [wts_adv]
  rfl
theorem tld_adv {T : TD} {r : Option RD} {S : SC} {k : Nat} (hu : Unt r) (hF : ∀ j, j < tJ T → rem T S j = true → ∀ h, sH S j = some h → (sT S : Int) + k < h + tF T) (s : Nat) : tld T r none (adv S k) s = tld T r none S s := by
  have hn : ∀ j, isN T (adv S k) j = isN T S j := fun j => by unfold isN; rw [lkO_adv hF]
  unfold tld
  show (if wts S s then pick T r (adv S k) s else none) = (if wts S s then pick T r S s else none)
  congr 1
  unfold pick
  show (chs (lks T r (adv S k) s) (fun j => (sW S s).testBit j) (tJ T)).1 = _
  rw [chs_cong (fun j hj => ?_)]
  unfold lks
  cases r with
  | none => simp only [Option.elim, hn]
  | some w =>
    simp only [Option.elim]
    refine hu w rfl _ _ (fun i i3 i8 i10 => ?_)
    by_cases hi : i < 11
    · rcases (show i = 0 ∨ i = 1 ∨ i = 2 ∨ i = 4 ∨ i = 5 ∨ i = 6 ∨ i = 7 ∨ i = 9 by omega) with rfl | rfl | rfl | rfl | rfl | rfl | rfl | rfl
      · show lN s = lN s
        rfl
      · show lN j = lN j
        rfl
      · show lN (tC T s) = lN (tC T s)
        rfl
      · show lN (lkO T (adv S k) j) = lN (lkO T S j)
        rw [lkO_adv hF]
      · show lN (b2 (isN T (adv S k) j)) = lN (b2 (isN T S j))
        rw [hn]
      · show lN (knb T (adv S k) j) = lN (knb T S j)
        rw [knb_adv]
      · show lN (wtc T (adv S k)) = lN (wtc T S)
        rw [wtc_adv]
      · show lN (tN T - wtc T (adv S k)) = lN (tN T - wtc T S)
        rw [wtc_adv]
    · have h1 : (wdL T (adv S k) s j)[i]? = none := List.getElem?_eq_none (by show 11 ≤ i; omega)
      have h2 : (wdL T S s j)[i]? = none := List.getElem?_eq_none (by show 11 ≤ i; omega)
      unfold wds
      rw [List.getD, List.getD, h1, h2]
/-- when he forgets one next -/
def nfd (T : TD) (S : SC) : Nat → Int
  | 0 => 2147483647
  | n + 1 => (sH S n).elim (nfd T S n) (fun h => if rem T S n then (if h + (tF T : Int) < nfd T S n then h + (tF T : Int) else nfd T S n) else nfd T S n)
theorem nfd_le (T : TD) (S : SC) : ∀ n, nfd T S n ≤ 2147483647
  | 0 => Int.le_refl _
  | n + 1 => by
    have := nfd_le T S n
    rw [nfd]
    cases sH S n with
    | none => exact this
    | some h =>
      simp only [Option.elim]
      split
      · split
        · omega
        · exact this
      · exact this
theorem nfd_gt {T : TD} {S : SC} (hs : SOk S) : ∀ n, (sT S : Int) < nfd T S n
  | 0 => by have := hs.1; rw [nfd]; omega
  | n + 1 => by
    have ih := nfd_gt (T := T) hs n
    rw [nfd]
    cases hh : sH S n with
    | none => exact ih
    | some h =>
      simp only [Option.elim]
      by_cases hr : rem T S n = true
      · rw [if_pos hr]
        unfold rem at hr
        rw [hh] at hr
        have := of_decide_eq_true hr
        split
        · omega
        · exact ih
      · rw [if_neg hr]; exact ih
theorem nfd_at {T : TD} {S : SC} {j : Nat} {h : Int} (hr : rem T S j = true) (hh : sH S j = some h) : ∀ n, j < n → nfd T S n ≤ h + tF T
  | 0, h0 => absurd h0 (Nat.not_lt_zero j)
  | n + 1, h0 => by
    rw [nfd]
    by_cases hj : j = n
    · subst hj
      rw [hh]
      simp only [Option.elim, hr, if_true]
      split <;> omega
    · have ih := nfd_at hr hh n (by omega)
      cases sH S n with
      | none => exact ih
      | some h2 =>
        simp only [Option.elim]
        split
        · split
          · omega
          · exact ih
        · exact ih
theorem mem_bit {T : TD} {S : SC} {j : Nat} (h : j < tJ T) : (mem T S).testBit j = rem T S j := by
  unfold mem
  rw [bmk_bit]
  simp [h]
theorem ofI_big {h : Int} (h1 : -2147483648 ≤ h) (h2 : h < 2147483648) : (Int32.ofInt h).toInt = h := Int32.toInt_ofInt_of_le (by omega) (by omega)
theorem c_nextL {M : Mem} {q : Nat} {T : TD} {S : SC} (hC : CIs (mS M) (mR M)) (hT : CT M 15 T) (hk : TOk T) (hJ : IScene (mS M) (mR M) q) (hh : ∀ j, j < tJ T → mI M (q + 1) j = eH (-100000) (sH S j)) (hs : SOk S) (hp : mR M 30 4 = some q) (hm : mI M 30 5 = nI (mem T S)) : ∀ d i n, i + d = tJ T → f_X3_nextFading_L5 30 (n + d + 1) (Int32.ofInt (nfd T S i)) (nI i) M = some (Int32.ofInt (nfd T S (tJ T)), M) := by
  have h1 := hk.1.2.2.1
  have hF := hk.1.1
  have hml := mem_lt hk S
  have h7 := hs.1
  intro d
  induction d with
  | zero =>
    intro i n hi
    rw [f_X3_nextFading_L5]
    simp (disch := omega) only [e_gR, e_gI, e_aI, e_aL, e_oO, e_pI, e_wI, e_wL, Option.map_some, Option.bind_some, cl_some, nm_eq, ckZ_b, ckZ_n0, ckZ_n1, cob_30 hC, cr_30_told hC, told_o (ci_told hC), hT.1.2.2.2.1, n_le]
    rw [if_pos (by omega), show i = tJ T by omega]
  | succ d ih =>
    intro i n hi
    have e := ih (i + 1) n (by omega)
    rw [nfd] at e
    rw [show n + (d + 1) + 1 = (n + d + 1) + 1 from by omega, f_X3_nextFading_L5]
    simp (disch := omega) only [e_gR, e_gI, e_aI, e_aL, e_oO, e_pI, e_wI, e_wL, Option.map_some, Option.bind_some, cl_some, nm_eq, ckZ_b, ckZ_n0, ckZ_n1, cob_30 hC, cr_30_told hC, told_o (ci_told hC), hT.1.2.2.2.1, n_le, hm, n_bit, b2_eq0, mem_bit, f_X3_nextFading_J49, hp, scene_o hJ, scene_r_heard hJ, scene_x_heard hJ, n_cl, hh i (by omega), hT.1.2.1, n_add]
    rw [if_neg (by omega)]
    cases hr : rem T S i with
    | false =>
      rw [if_pos rfl]
      cases hx : sH S i with
      | none => rw [hx] at e; exact e
      | some h => rw [hx, hr] at e; exact e
    | true =>
      rw [if_neg (by decide)]
      cases hx : sH S i with
      | none =>
        unfold rem at hr
        rw [hx] at hr
        cases hr
      | some h =>
        have hb := hs.2.1 i h hx
        have g1 := nfd_le T S i
        have g2 := nfd_gt (T := T) hs i
        rw [hx, hr] at e
        simp only [Option.elim, if_true] at e
        have e2 : (if eH (-100000) (some h) + nI (tF T) < Int32.ofInt (nfd T S i) then eH (-100000) (some h) + nI (tF T) else Int32.ofInt (nfd T S i)) = Int32.ofInt (if h + (tF T : Int) < nfd T S i then h + (tF T : Int) else nfd T S i) := by
          have e3 : eH (-100000) (some h) + nI (tF T) = Int32.ofInt (h + (tF T : Int)) := by rw [Int32.ofInt_add, ofI_nat]; rfl
          rw [e3]
          have e4 : (Int32.ofInt (h + (tF T : Int)) < Int32.ofInt (nfd T S i)) = (h + (tF T : Int) < nfd T S i) := by
            rw [eq_iff_iff, fa_lt, ofI_big (by omega) (by omega), ofI_big (by omega) (by omega)]
          simp only [e4]
          split <;> rfl
        rw [e2]
        exact e
theorem c_nextFading {M : Mem} {q : Nat} {T : TD} {S : SC} (hC : CIs (mS M) (mR M)) (hT : CT M 15 T) (hk : TOk T) (hJ : IScene (mS M) (mR M) q) (hh : ∀ j, j < tJ T → mI M (q + 1) j = eH (-100000) (sH S j)) (hs : SOk S) (hp : mR M 30 4 = some q) (hm : mI M 30 5 = nI (mem T S)) : f_X3_nextFading 30 M = some (Int32.ofInt (nfd T S (tJ T)), M) := by
  have h1 := hk.1.2.2.1
  obtain ⟨n, hn⟩ := FUd (tJ T) (by omega)
  rw [f_X3_nextFading, hn]
  exact c_nextL hC hT hk hJ hh hs hp hm (tJ T) 0 n (by omega)
theorem CC_set {M : Mem} {q : Nat} {T : TD} {S : SC} (hS : CC M q T S) (t : Nat) : CC (sI M q 0 (nI t)) q T (t, sH S, sW S, sP S) := by
  refine ⟨by rw [mI_sI, if_pos ⟨rfl, rfl⟩]; rfl, fun j hj => by rw [sI_row (by omega)]; exact hS.2.1 j hj, fun s h => by rw [sI_row (by omega), sI_row (by omega)]; exact hS.2.2 s h⟩
theorem qtr_all {T : TD} {r : Option RD} {S : SC} : ∀ d i, qtr T r (trns T r none S) i d = true → trns T r none S i = S → ∀ s, i ≤ s → s < i + d → tld T r none S s = none
  | 0, i, _, _, s, h1, h2 => by omega
  | d + 1, i, h, e, s, h1, h2 => by
    rw [qtr, e, Bool.and_eq_true] at h
    have h0 : tld T r none S i = none := by simpa using h.1
    by_cases hs : s = i
    · subst hs; exact h0
    · exact qtr_all d (i + 1) h.2 (by rw [trns, e, trn, h0]; rfl) s (by omega) (by omega)
theorem c_goOnX {M : Mem} {q : Nat} (hJ : IScene (mS M) (mR M) q) {l : Nat} (hl : l < 2 ^ 31) (ht : mI M q 0 = nI l) (f : Nat) (n fw i : Int32) : f_X3_goOn_L11 30 (f + 1) (some q) n fw (nI l) i M = some ((), M) := by
  rw [f_X3_goOn_L11]
  by_cases h : n ≤ i
  · rw [if_pos h]; rfl
  · rw [if_neg h]
    repeat (first | refine (cl_ok (by (simp only [ht]; with_reducible rfl)) _).trans ?_ | refine (bind_ok (by (simp (disch := omega) only [e_gR, e_gI, e_aI, e_aL, e_oO, e_pI, e_wI, e_wL, Option.map_some, mS_sL, mR_sL, mI_sL, mS_sI, mR_sI, mL_sI, n_cl, scene_o hJ, ht]; with_reducible rfl)) _).trans ?_ | rw [nm_eq])
    rw [if_pos (by rw [n_le hl hl]; omega)]
    rfl
theorem c_goOnL {q : Nat} {T : TD} (hk : TOk T) (hq : QOk q) {r : Option RD} {S : SC} (hs : SOk S) {n fw : Nat} (hn : n ≤ 1000) (hb : sT S + n ≤ 100000) (hfw : fw ≤ 100) : ∀ d i f k (M : Mem), i + d = n → i ≤ k → k ≤ n → CIs (mS M) (mR M) → CT M 15 T → IScene (mS M) (mR M) q → CRu M r → CC M q T (tides T r S k) →
    WP (f_X3_goOn_L11 30 (f + d + 1) (some q) (nI n) (nI fw) (nI (sT S + n)) (nI i) M) (fun _ M' => PF q M M' ∧ ∃ k, k ≤ n ∧ CC M' q T (adv (tides T r S k) (n - k)) ∧ (k = n ∨ wtc T (tides T r S k) < fw)) := by
  have h2 := hk.1.2.2.2
  have hq0 := hq
  unfold QOk at hq0
  intro d
  induction d with
  | zero =>
    intro i f k M hi hik hkn hC hT hJ hr hS
    have hkn : k = n := by omega
    subst hkn
    have ht : mI M q 0 = nI (sT S + k) := by rw [hS.1, tides_T]
    exact WP.of (c_goOnX hJ (by omega) ht f _ _ _) ⟨PF.rf q M, k, by omega, by rw [Nat.sub_self]; exact hS, Or.inl rfl⟩
  | succ d ih =>
    intro i f k M hi hik hkn hC hT hJ hr hS
    by_cases hkn2 : k = n
    · subst hkn2
      have ht : mI M q 0 = nI (sT S + k) := by rw [hS.1, tides_T]
      exact WP.of (c_goOnX hJ (by omega) ht (f + (d + 1)) _ _ _) ⟨PF.rf q M, k, by omega, by rw [Nat.sub_self]; exact hS, Or.inl rfl⟩
    have hsk : SOk (tides T r S k) := tides_ok hs k (by omega)
    have htk := tides_T T r S k
    have t0 := hS.1
    rw [show f + (d + 1) + 1 = (f + d + 1) + 1 from by omega, f_X3_goOn_L11]
    refine WP.ie (by rw [n_le (by omega) (by omega)]; omega) ?_
    repeat (first | ((with_reducible apply WP.ce); case h => (simp (disch := omega) only []; with_reducible rfl)) | ((with_reducible apply WP.bd); case h => (simp (disch := omega) only [e_gR, e_gI, e_aI, e_aL, e_oO, e_pI, e_wI, e_wL, Option.map_some, mS_sL, mR_sL, mI_sL, mS_sI, mR_sI, mL_sI, n_cl, scene_o hJ, t0]; with_reducible rfl)) | rw [nm_eq] | rw [ckZ_n1] | rw [ckZ_n0])
    refine WP.ie (by rw [n_le (by omega) (by omega)]; omega) ?_
    repeat (first | ((with_reducible apply WP.ce); case h => (simp (disch := omega) only []; with_reducible rfl)) | ((with_reducible apply WP.bd); case h => (simp (disch := omega) only [e_gR, e_gI, e_aI, e_aL, e_oO, e_pI, e_wI, e_wL, Option.map_some, mS_sL, mR_sL, mI_sL, mS_sI, mR_sI, mL_sI, n_cl, cob_30 hC]; with_reducible rfl)) | rw [nm_eq] | rw [ckZ_n1] | rw [ckZ_n0])
    refine WP.cw (c_meet hC hT hk hq hJ hS hsk) (fun _ M1 c => ?_)
    obtain ⟨c1, c2, c3⟩ := c
    have hC1 := c1.CI hC
    have hT1 := c1.T hT
    repeat (first | ((with_reducible apply WP.ce); case h => (simp (disch := omega) only []; with_reducible rfl)) | ((with_reducible apply WP.bd); case h => (simp (disch := omega) only [e_gR, e_gI, e_aI, e_aL, e_oO, e_pI, e_wI, e_wL, Option.map_some, mS_sL, mR_sL, mI_sL, mS_sI, mR_sI, mL_sI, n_cl, cob_30 hC1, cr_30_told hC1, told_o (ci_told hC1), hT1.1.2.2.2.2]; with_reducible rfl)) | rw [nm_eq] | rw [ckZ_n1] | rw [ckZ_n0])
    refine WP.cw (c_turns (Sc := trns T r none (tides T r S k)) (i := 0) (stop := tN T) (qt := true) hk hq (fun i => trns_ok hsk i) (by omega) (by omega) (fun k _ _ => rfl) hC1 hT1 ((c1.PF q).J hq hJ) (c1.C hq hS) c2 ((c1.PF q).ru hq hr) c3) (fun v M2 e => ?_)
    obtain ⟨-, d2, d3, d4, d5, -⟩ := e
    have pf2 := (c1.PF q).tr d2
    have hJ2 := pf2.J hq hJ
    have t2 := d3.1
    obtain ⟨M3, hM3⟩ : ∃ M3, M3 = sI M2 q 0 (nI (sT (trns T r none (tides T r S k) (tN T)) + 1)) := ⟨_, rfl⟩
    have hS3 : CC M3 q T (tides T r S (k + 1)) := by rw [hM3]; exact CC_nxt d3
    have pf3 : PF q M M3 := pf2.tr (by rw [hM3]; exact PFw M2 q _ _)
    have hC3 := pf3.CI hC
    have hT3 := pf3.T hq hT
    have hJ3 := pf3.J hq hJ
    have hr3 := pf3.ru hq hr
    have e30 : mI M3 30 = mI M2 30 := by rw [hM3, sI_row (by omega)]
    have eR3 : mR M3 = mR M2 := by rw [hM3]; rfl
    have w3 : mI M3 30 6 = nI (wtm T (trns T r none (tides T r S k) (tN T))) := by rw [e30]; exact d4.2.2
    have a3 := c_bitsW hk (trns T r none (tides T r S k) (tN T)) M3
    have hwl := wtc_le T (trns T r none (tides T r S k) (tN T))
    have q3 : mI M3 30 7 = bI (qtr T r (trns T r none (tides T r S k)) 0 (tN T)) := by rw [e30, d5]; rfl
    repeat (first | ((with_reducible apply WP.ce); case h => (simp (disch := omega) only []; with_reducible rfl)) | ((with_reducible apply WP.bd); case h => (simp (disch := omega) only [e_gR, e_gI, e_aI, e_aL, e_oO, e_pI, e_wI, e_wL, Option.map_some, mS_sL, mR_sL, mI_sL, mS_sI, mR_sI, mL_sI, n_cl, scene_o hJ2, t2, n_add, ← hM3]; with_reducible rfl)) | rw [nm_eq] | rw [ckZ_n1] | rw [ckZ_n0])
    repeat (first | ((with_reducible apply WP.ce); case h => (simp (disch := omega) only [a3]; with_reducible rfl)) | ((with_reducible apply WP.bd); case h => (simp (disch := omega) only [e_gR, e_gI, e_aI, e_aL, e_oO, e_pI, e_wI, e_wL, Option.map_some, mS_sL, mR_sL, mI_sL, mS_sI, mR_sI, mL_sI, n_cl, cob_30 hC3, w3]; with_reducible rfl)) | rw [nm_eq] | rw [ckZ_n1] | rw [ckZ_n0])
    have on : WP (f_X3_goOn_J111 (f_X3_goOn_L11 30 (f + d + 1)) 30 (some q) (nI n) (nI fw) (nI (sT S + n)) (nI i) M3) (fun _ M' => PF q M M' ∧ ∃ k, k ≤ n ∧ CC M' q T (adv (tides T r S k) (n - k)) ∧ (k = n ∨ wtc T (tides T r S k) < fw)) := by
      unfold f_X3_goOn_J111
      rw [n_add]
      exact WP.mono (ih (i + 1) f (k + 1) M3 (by omega) (by omega) (by omega) hC3 hT3 hJ3 hr3 hS3) (fun _ M' g => ⟨pf3.tr g.1, g.2⟩)
    by_cases hc : fw ≤ wtc T (trns T r none (tides T r S k) (tN T))
    · refine WP.it (by rw [n_le (by omega) (by omega)]; exact hc) ?_
      repeat (first | ((with_reducible apply WP.ce); case h => (simp (disch := omega) only []; with_reducible rfl)) | ((with_reducible apply WP.bd); case h => (simp (disch := omega) only [e_gR, e_gI, e_aI, e_aL, e_oO, e_pI, e_wI, e_wL, Option.map_some, mS_sL, mR_sL, mI_sL, mS_sI, mR_sI, mL_sI, n_cl, cob_30 hC3, q3]; with_reducible rfl)) | rw [nm_eq] | rw [ckZ_n1] | rw [ckZ_n0])
      refine WP.gd (fun g => on) (fun g => ?_)
      have hqt := qtr_all (tN T) 0 g rfl
      have hst : trns T r none (tides T r S k) (tN T) = tides T r S k := trns_q (tN T) (fun s h => hqt s (by omega) (by omega))
      have leap : Unt r → WP (f_X3_goOn_J98 (f_X3_goOn_L11 30 (f + d + 1)) 30 (some q) (nI n) (nI fw) (nI (sT S + n)) (nI i) M3) (fun _ M' => PF q M M' ∧ ∃ k, k ≤ n ∧ CC M' q T (adv (tides T r S k) (n - k)) ∧ (k = n ∨ wtc T (tides T r S k) < fw)) := by
        intro hu
        have hh3 : ∀ j, j < tJ T → mI M3 (q + 1) j = eH (-100000) (sH (tides T r S k) j) := fun j hj => by
          have := hS3.2.1 j hj
          rw [this]
          show eH _ (sH (trns T r none (tides T r S k) (tN T)) j) = _
          rw [hst]
        have a4 := c_nextFading hC3 hT3 hk hJ3 hh3 hsk (by rw [eR3]; exact d4.1) (by rw [e30, d4.2.1, hst])
        have g1 := nfd_le T (tides T r S k) (tJ T)
        have g2 := nfd_gt (T := T) hsk (tJ T)
        obtain ⟨e, he⟩ : ∃ e, e = (if nfd T (tides T r S k) (tJ T) < ((sT S + n : Nat) : Int) then (nfd T (tides T r S k) (tJ T)).toNat - sT (tides T r S k) else n - k) := ⟨_, rfl⟩
        have he1 : 1 ≤ e ∧ e ≤ n - k ∧ (sT (tides T r S k) : Int) + e ≤ nfd T (tides T r S k) (tJ T) ∧ (if Int32.ofInt (nfd T (tides T r S k) (tJ T)) < nI (sT S + n) then Int32.ofInt (nfd T (tides T r S k) (tJ T)) else nI (sT S + n)) = nI (sT (tides T r S k) + e) := by
          have e4 : (Int32.ofInt (nfd T (tides T r S k) (tJ T)) < nI (sT S + n)) = (nfd T (tides T r S k) (tJ T) < ((sT S + n : Nat) : Int)) := by
            rw [eq_iff_iff, fa_lt, ofI_big (by omega) (by omega), nI_toInt (by omega)]
          simp only [e4]
          by_cases hx : nfd T (tides T r S k) (tJ T) < ((sT S + n : Nat) : Int)
          · rw [if_pos hx] at he ⊢
            refine ⟨by omega, by omega, by omega, ?_⟩
            rw [← ofI_nat]
            congr 1
            omega
          · rw [if_neg hx] at he ⊢
            refine ⟨by omega, by omega, by omega, ?_⟩
            congr 1
            omega
        obtain ⟨M4, hM4⟩ : ∃ M4, M4 = sI M3 q 0 (nI (sT (tides T r S k) + e)) := ⟨_, rfl⟩
        have pf4 : PF q M M4 := pf3.tr (by rw [hM4]; exact PFw M3 q _ _)
        have htq : tides T r S (k + e) = adv (tides T r S k) e := by
          rw [tides_add]
          refine tides_q e (fun k2 hk2 s hs2 => ?_)
          rw [tld_adv hu (fun j hj hr2 h hh => ?_)]
          · exact hqt s (by omega) (by omega)
          · have := nfd_at hr2 hh (tJ T) hj
            omega
        have hS4 : CC M4 q T (tides T r S (k + e)) := by
          rw [hM4, htq]
          have := CC_set hS3 (sT (tides T r S k) + e)
          have e5 : sH (tides T r S (k + 1)) = sH (tides T r S k) ∧ sW (tides T r S (k + 1)) = sW (tides T r S k) ∧ sP (tides T r S (k + 1)) = sP (tides T r S k) := by
            have : tides T r S (k + 1) = nxt (tides T r S k) := by rw [tides, tide1, hst]
            rw [this]
            exact ⟨rfl, rfl, rfl⟩
          rw [e5.1, e5.2.1, e5.2.2] at this
          exact this
        unfold f_X3_goOn_J98
        repeat (first | ((with_reducible apply WP.ce); case h => (simp (disch := omega) only [a4]; with_reducible rfl)) | ((with_reducible apply WP.bd); case h => (simp (disch := omega) only [e_gR, e_gI, e_aI, e_aL, e_oO, e_pI, e_wI, e_wL, Option.map_some, mS_sL, mR_sL, mI_sL, mS_sI, mR_sI, mL_sI, n_cl, cob_30 hC3]; with_reducible rfl)) | rw [nm_eq] | rw [ckZ_n1] | rw [ckZ_n0])
        rw [he1.2.2.2]
        repeat (first | ((with_reducible apply WP.ce); case h => (simp (disch := omega) only []; with_reducible rfl)) | ((with_reducible apply WP.bd); case h => (simp (disch := omega) only [e_gR, e_gI, e_aI, e_aL, e_oO, e_pI, e_wI, e_wL, Option.map_some, mS_sL, mR_sL, mI_sL, mS_sI, mR_sI, mL_sI, n_cl, scene_o hJ3, ← hM4]; with_reducible rfl)) | rw [nm_eq] | rw [ckZ_n1] | rw [ckZ_n0])
        unfold f_X3_goOn_J111
        rw [n_add]
        exact WP.mono (ih (i + 1) f (k + e) M4 (by omega) (by omega) (by omega) (pf4.CI hC) (pf4.T hq hT) (pf4.J hq hJ) (pf4.ru hq hr) hS4) (fun _ M' g => ⟨pf4.tr g.1, g.2⟩)
      cases r with
      | none =>
        have hr0 : mR M3 30 0 = none := hr3
        repeat (first | ((with_reducible apply WP.ce); case h => (simp (disch := omega) only []; with_reducible rfl)) | ((with_reducible apply WP.bd); case h => (simp (disch := omega) only [e_gR, e_gI, e_aI, e_aL, e_oO, e_pI, e_wI, e_wL, Option.map_some, mS_sL, mR_sL, mI_sL, mS_sI, mR_sI, mL_sI, n_cl, cob_30 hC3, hr0]; with_reducible rfl)) | rw [nm_eq] | rw [ckZ_n1] | rw [ckZ_n0])
        exact WP.it (show (none : Option Nat) = none from rfl) (leap (fun w hw => by cases hw))
      | some w =>
        obtain ⟨a, ⟨a1, a2⟩, nn, i1, ⟨tm, lk, kn, ⟨f0, f1, f2⟩, g0, g1, g2⟩, i3⟩ := hr3
        have ho : oS (mS M3) 4 (some a) = some a := oS_ok i1.1
        repeat (first | ((with_reducible apply WP.ce); case h => (simp (disch := omega) only []; with_reducible rfl)) | ((with_reducible apply WP.bd); case h => (simp (disch := omega) only [e_gR, e_gI, e_aI, e_aL, e_oO, e_pI, e_wI, e_wL, Option.map_some, mS_sL, mR_sL, mI_sL, mS_sI, mR_sI, mL_sI, n_cl, cob_30 hC3, a1]; with_reducible rfl)) | rw [nm_eq] | rw [ckZ_n1] | rw [ckZ_n0])
        refine WP.ie (show ¬ (some a = (none : Option Nat)) from fun h => by cases h) ?_
        repeat (first | ((with_reducible apply WP.ce); case h => (simp (disch := omega) only []; with_reducible rfl)) | ((with_reducible apply WP.bd); case h => (simp (disch := omega) only [e_gR, e_gI, e_aI, e_aL, e_oO, e_pI, e_wI, e_wL, Option.map_some, mS_sL, mR_sL, mI_sL, mS_sI, mR_sI, mL_sI, n_cl, cob_30 hC3, a1, ho, f0]; with_reducible rfl)) | rw [nm_eq] | rw [ckZ_n1] | rw [ckZ_n0])
        refine WP.gd (fun g => leap (fun w2 hw2 => ?_)) (fun g => on)
        cases hw2
        exact g0 g
    · refine WP.ie (by rw [n_le (by omega) (by omega)]; exact hc) ?_
      obtain ⟨M4, hM4⟩ : ∃ M4, M4 = sI M3 q 0 (nI (sT S + n)) := ⟨_, rfl⟩
      have pf4 : PF q M M4 := pf3.tr (by rw [hM4]; exact PFw M3 q _ _)
      repeat (first | ((with_reducible apply WP.ce); case h => (simp (disch := omega) only []; with_reducible rfl)) | ((with_reducible apply WP.bd); case h => (simp (disch := omega) only [e_gR, e_gI, e_aI, e_aL, e_oO, e_pI, e_wI, e_wL, Option.map_some, mS_sL, mR_sL, mI_sL, mS_sI, mR_sI, mL_sI, n_cl, scene_o hJ3, ← hM4]; with_reducible rfl)) | rw [nm_eq] | rw [ckZ_n1] | rw [ckZ_n0])
      unfold f_X3_goOn_J111
      have ht4 : mI M4 q 0 = nI (sT S + n) := by rw [hM4, mI_sI, if_pos ⟨rfl, rfl⟩]
      refine WP.of (c_goOnX (pf4.J hq hJ) (by omega) ht4 (f + d) _ _ _) ⟨pf4, k + 1, by omega, ?_, Or.inr (by show wtc T (trns T r none (tides T r S k) (tN T)) < fw; omega)⟩
      rw [hM4]
      have e6 : sT S + n = sT (tides T r S (k + 1)) + (n - (k + 1)) := by rw [tides_T]; omega
      rw [e6]
      exact CC_set hS3 _
theorem c_goOn {M : Mem} {q : Nat} {T : TD} {S : SC} (hC : CIs (mS M) (mR M)) (hT : CT M 15 T) (hk : TOk T) (hq : QOk q) (hJ : IScene (mS M) (mR M) q) (hS : CC M q T S) (hs : SOk S) {r : Option RD} (hr : CRu M r) {n fw : Nat} (hn : n ≤ 1000) (hb : sT S + n ≤ 100000) (hfw : fw ≤ 100) : WP (f_X3_goOn 30 (some q) (nI n) (nI fw) M) (fun _ M' => PF q M M' ∧ ∃ k, k ≤ n ∧ CC M' q T (adv (tides T r S k) (n - k)) ∧ (k = n ∨ wtc T (tides T r S k) < fw)) := by
  have t0 := hS.1
  unfold f_X3_goOn
  repeat (first | ((with_reducible apply WP.ce); case h => (simp (disch := omega) only []; with_reducible rfl)) | ((with_reducible apply WP.bd); case h => (simp (disch := omega) only [e_gR, e_gI, e_aI, e_aL, e_oO, e_pI, e_wI, e_wL, Option.map_some, mS_sL, mR_sL, mI_sL, mS_sI, mR_sI, mL_sI, n_cl, scene_o hJ, t0, n_add]; with_reducible rfl)) | rw [nm_eq] | rw [ckZ_n1] | rw [ckZ_n0])
  rw [n_add]
  obtain ⟨f, hf⟩ := FUd n (by omega)
  rw [hf]
  exact c_goOnL hk hq hs hn hb hfw n 0 f 0 M (by omega) (by omega) (by omega) hC hT hJ hr hS
theorem c_goOn1 {M : Mem} {q : Nat} {T : TD} {S : SC} (hC : CIs (mS M) (mR M)) (hT : CT M 15 T) (hk : TOk T) (hq : QOk q) (hJ : IScene (mS M) (mR M) q) (hS : CC M q T S) (hs : SOk S) {r : Option RD} (hr : CRu M r) {n : Nat} (hn : n ≤ 1000) (hb : sT S + n ≤ 100000) : WP (f_X3_goOn 30 (some q) (nI n) (nI 1) M) (fun _ M' => PF q M M' ∧ CC M' q T (tides T r S n)) := by
  refine WP.mono (c_goOn hC hT hk hq hJ hS hs hr hn hb (by omega)) (fun _ M' c => ⟨c.1, ?_⟩)
  obtain ⟨-, k, k1, k2, k3⟩ := c
  rcases k3 with k3 | k3
  · subst k3
    rw [Nat.sub_self] at k2
    exact k2
  · rw [← tides_w0 (T := T) (r := r) (by omega), ← tides_add, show k + (n - k) = n by omega] at k2
    exact k2
