/-! THE CLASS: what stays of its layout; the pilot -/
theorem clsOf_e {S S' : List Shp} {a : Nat} (h : S'[a]? = S[a]?) : clsOf S' a = clsOf S a := by unfold clsOf; rw [h]
theorem lenOf_e {S S' : List Shp} {t a : Nat} (h : S'[a]? = S[a]?) : lenOf S' t a = lenOf S t a := by unfold lenOf; rw [h]
theorem ITold.of {S S' : List Shp} {R R' : Nat → Nat → Option Nat} {t : Nat} (h : ITold S R t) (hS : ∀ i, i ≤ 5 → S'[t + i]? = S[t + i]?) (hR : ∀ k, R' t k = R t k) : ITold S' R' t := by
  have h0 : S'[t]? = S[t]? := hS 0 (by omega)
  unfold ITold
  rw [clsOf_e h0, lenOf_e (hS 1 (by omega)), lenOf_e (hS 2 (by omega)), lenOf_e (hS 3 (by omega)), lenOf_e (hS 4 (by omega)), lenOf_e (hS 5 (by omega)), hR 5, hR 6, hR 7, hR 8, hR 9]
  exact h
theorem IScene.of {S S' : List Shp} {R R' : Nat → Nat → Option Nat} {t : Nat} (h : IScene S R t) (hS : ∀ i, i ≤ 3 → S'[t + i]? = S[t + i]?) (hR : ∀ k, R' t k = R t k) : IScene S' R' t := by
  have h0 : S'[t]? = S[t]? := hS 0 (by omega)
  unfold IScene
  rw [clsOf_e h0, lenOf_e (hS 1 (by omega)), lenOf_e (hS 2 (by omega)), lenOf_e (hS 3 (by omega)), hR 1, hR 2, hR 3]
  exact h
theorem IBook.of {S S' : List Shp} {R R' : Nat → Nat → Option Nat} {t : Nat} (h : IBook S R t) (hS : ∀ i, i ≤ 14 → S'[t + i]? = S[t + i]?) (hR : ∀ i k, i ≤ 14 → R' (t + i) k = R (t + i) k) : IBook S' R' t := by
  have h0 : S'[t]? = S[t]? := hS 0 (by omega)
  have r0 : ∀ k, R' t k = R t k := fun k => hR 0 k (by omega)
  refine ⟨by rw [clsOf_e h0]; exact h.1, by rw [r0, lenOf_e (hS 11 (by omega))]; exact h.2.1, by rw [r0, lenOf_e (hS 12 (by omega))]; exact h.2.2.1, by rw [r0, lenOf_e (hS 13 (by omega))]; exact h.2.2.2.1, by rw [r0, lenOf_e (hS 14 (by omega))]; exact h.2.2.2.2.1, by rw [r0]; exact h.2.2.2.2.2.1, by rw [r0]; exact h.2.2.2.2.2.2.1, ?_, ?_⟩
  · exact (book_i_1 h).of (fun i hi => by rw [Nat.add_assoc]; exact hS (1 + i) (by omega)) (fun k => hR 1 k (by omega))
  · exact (book_i_7 h).of (fun i hi => by rw [Nat.add_assoc]; exact hS (7 + i) (by omega)) (fun k => hR 7 k (by omega))
theorem CIs.of {S S' : List Shp} {R R' : Nat → Nat → Option Nat} (h : CIs S R) (hS : ∀ a, a < 66 → S'[a]? = S[a]?) (hR : ∀ a k, a < 66 → a ≠ 13 → a ≠ 29 → ¬ (a = 30 ∧ (k = 0 ∨ k = 4)) → R' a k = R a k) : CIs S' R' := by
  refine ⟨fun q hq => ?_, fun q hq => ?_, fun q hq => ?_, fun i hi => ?_, ?_, ?_, ?_, ?_, fun i hi => ?_⟩
  · have b := (by decide : ∀ q ∈ COb, q.1 < 66) q hq
    rw [clsOf_e (hS q.1 b)]
    exact h.1 q hq
  · have b := (by decide : ∀ q ∈ CRw, (q.1 < 66 ∧ q.1 ≠ 13 ∧ q.1 ≠ 29 ∧ ¬ (q.1 = 30 ∧ (q.2.1 = 0 ∨ q.2.1 = 4))) ∧ q.2.2.1 < 66) q hq
    rw [hR q.1 q.2.1 b.1.1 b.1.2.1 b.1.2.2.1 b.1.2.2.2, lenOf_e (hS _ b.2)]
    exact h.2.1 q hq
  · have b := (by decide : ∀ q ∈ CRf, q.1 < 66 ∧ q.1 ≠ 13 ∧ q.1 ≠ 29 ∧ ¬ (q.1 = 30 ∧ (q.2.1 = 0 ∨ q.2.1 = 4))) q hq
    rw [hR q.1 q.2.1 b.1 b.2.1 b.2.2.1 b.2.2.2]
    exact h.2.2.1 q hq
  · rw [hR 43 i (by omega) (by omega) (by omega) (by omega)]
    exact h.2.2.2.1 i hi
  · exact (ci_told4 h).of (fun i hi => hS _ (by omega)) (fun k => hR _ k (by omega) (by omega) (by omega) (by omega))
  · exact (ci_book h).of (fun i hi => hS _ (by omega)) (fun i k hi => hR _ k (by omega) (by omega) (by omega) (by omega))
  · exact (ci_s33 h).of (fun i hi => hS _ (by omega)) (fun k => hR _ k (by omega) (by omega) (by omega) (by omega))
  · exact (ci_work h).of (fun i hi => hS _ (by omega)) (fun k => hR _ k (by omega) (by omega) (by omega) (by omega))
  · exact (ci_lev h hi).of (fun j hj => hS _ (by omega)) (fun k => hR _ k (by omega) (by omega) (by omega) (by omega))
/-- a scene of the class's own -/
def QOk (q : Nat) : Prop := q = 21 ∨ (33 ≤ q ∧ q ≤ 62)
/-- what the pilot may change beside the scene -/
def PX (M M' : Mem) : Prop := mS M' = mS M ∧ (∀ a k, (a = 30 → k ≠ 4) → mR M' a k = mR M a k) ∧ (∀ a, a ≠ 30 → a ≠ 31 → a ≠ 32 → mI M' a = mI M a) ∧ (∀ a, a < 103 → mL M' a = mL M a)
def PF (q : Nat) (M M' : Mem) : Prop := mS M' = mS M ∧ (∀ a k, (a = 30 → k ≠ 4) → mR M' a k = mR M a k) ∧ (∀ a, a ≠ q → a ≠ q + 1 → a ≠ q + 3 → a ≠ 30 → a ≠ 31 → a ≠ 32 → mI M' a = mI M a) ∧ (∀ a, a < 103 → mL M' a = mL M a)
theorem PX.rf (M : Mem) : PX M M := ⟨rfl, fun _ _ _ => rfl, fun _ _ _ _ => rfl, fun _ _ => rfl⟩
theorem PX.tr {M1 M2 M3 : Mem} (h1 : PX M1 M2) (h2 : PX M2 M3) : PX M1 M3 := ⟨h2.1.trans h1.1, fun a k h => (h2.2.1 a k h).trans (h1.2.1 a k h), fun a b c d => (h2.2.2.1 a b c d).trans (h1.2.2.1 a b c d), fun a h => (h2.2.2.2 a h).trans (h1.2.2.2 a h)⟩
theorem PX.PF {M M' : Mem} (h : PX M M') (q : Nat) : PF q M M' := ⟨h.1, h.2.1, fun a _ _ _ b c d => h.2.2.1 a b c d, h.2.2.2⟩
theorem PF.rf (q : Nat) (M : Mem) : PF q M M := (PX.rf M).PF q
theorem PF.tr {q : Nat} {M1 M2 M3 : Mem} (h1 : PF q M1 M2) (h2 : PF q M2 M3) : PF q M1 M3 := ⟨h2.1.trans h1.1, fun a k h => (h2.2.1 a k h).trans (h1.2.1 a k h), fun a a1 a2 a3 b c d => (h2.2.2.1 a a1 a2 a3 b c d).trans (h1.2.2.1 a a1 a2 a3 b c d), fun a h => (h2.2.2.2 a h).trans (h1.2.2.2 a h)⟩
theorem PF.CI {q : Nat} {M M' : Mem} (h : PF q M M') (hC : CIs (mS M) (mR M)) : CIs (mS M') (mR M') := hC.of (fun a _ => by rw [h.1]) (fun a k _ _ _ hn => h.2.1 a k (fun e z => hn ⟨e, Or.inr z⟩))
theorem PF.J {q p : Nat} {M M' : Mem} (h : PF q M M') (hp : QOk p) (hJ : IScene (mS M) (mR M) p) : IScene (mS M') (mR M') p := hJ.of (fun i _ => by rw [h.1]) (fun k => h.2.1 p k (fun e => by unfold QOk at hp; omega))
theorem CT.of {M M' : Mem} {t : Nat} {T : TD} (h : CT M t T) (e : ∀ i, i ≤ 5 → mI M' (t + i) = mI M (t + i)) : CT M' t T := by
  have e0 : mI M' t = mI M t := e 0 (by omega)
  unfold CT
  rw [e0, e 1 (by omega), e 2 (by omega), e 3 (by omega), e 4 (by omega), e 5 (by omega)]
  exact h
theorem CC.of {M M' : Mem} {t : Nat} {T : TD} {S : SC} (h : CC M t T S) (e : ∀ i, i ≤ 3 → mI M' (t + i) = mI M (t + i)) : CC M' t T S := by
  have e0 : mI M' t = mI M t := e 0 (by omega)
  unfold CC
  rw [e0, e 1 (by omega), e 2 (by omega), e 3 (by omega)]
  exact h
theorem PF.T {q : Nat} {M M' : Mem} {T : TD} (h : PF q M M') (hq : QOk q) (hT : CT M 15 T) : CT M' 15 T := hT.of (fun i hi => h.2.2.1 _ (by unfold QOk at hq; omega) (by unfold QOk at hq; omega) (by unfold QOk at hq; omega) (by omega) (by omega) (by omega))
theorem PX.C {q : Nat} {M M' : Mem} {T : TD} {S : SC} (h : PX M M') (hq : QOk q) (hS : CC M q T S) : CC M' q T S := hS.of (fun i hi => h.2.2.1 _ (by unfold QOk at hq; omega) (by unfold QOk at hq; omega) (by unfold QOk at hq; omega))
theorem PX.T {M M' : Mem} {T : TD} (h : PX M M') (hT : CT M 15 T) : CT M' 15 T := (h.PF 21).T (Or.inl rfl) hT
theorem PX.CI {M M' : Mem} (h : PX M M') (hC : CIs (mS M) (mR M)) : CIs (mS M') (mR M') := (h.PF 21).CI hC
/-- a rule as the class has it -/
def CRl (M : Mem) (a : Nat) (w : RD) : Prop := ∃ n, IRule (mS M) (mR M) a n ∧ (∃ tm lk kn : Bool, (mI M a 0 = bI tm ∧ mI M a 1 = bI lk ∧ mI M a 2 = bI kn) ∧ (tm = false → ∀ v v' : Nat → Int64, (∀ k, k ≠ 3 → k ≠ 8 → k ≠ 10 → v k = v' k) → w v = w v') ∧ (lk = false → ∀ v v' : Nat → Int64, (∀ k, k ≠ 4 → v k = v' k) → w v = w v') ∧ (kn = false → ∀ v v' : Nat → Int64, (∀ k, k ≠ 6 → v k = v' k) → w v = w v')) ∧
  ∀ M' : Mem, IRule (mS M') (mR M') a n → mI M' (a + 1) = mI M (a + 1) → lenOf (mS M') 0 32 = 11 → ∃ g, f_X4_worth a (some 32) M' = some (w (fun k => if k < 11 then Int32.toInt64 (mI M' 32 k) else 0), sLr M' (a + 2) g)
theorem IRule.of {S S' : List Shp} {R R' : Nat → Nat → Option Nat} {t n : Nat} (h : IRule S R t n) (hS : ∀ i, i ≤ 2 → S'[t + i]? = S[t + i]?) (hR : ∀ k, R' t k = R t k) : IRule S' R' t n := by
  have h0 : S'[t]? = S[t]? := hS 0 (by omega)
  unfold IRule
  rw [clsOf_e h0, hS 1 (by omega), lenOf_e (hS 2 (by omega)), hR 3, hR 4]
  exact h
theorem CRl.of {M M' : Mem} {a : Nat} {w : RD} (h : CRl M a w) (hS : ∀ i, i ≤ 2 → (mS M')[a + i]? = (mS M)[a + i]?) (hR : ∀ k, mR M' a k = mR M a k) (h0 : mI M' a = mI M a) (h1 : mI M' (a + 1) = mI M (a + 1)) : CRl M' a w := by
  obtain ⟨n, i1, i2, i3⟩ := h
  refine ⟨n, i1.of hS hR, by rw [h0]; exact i2, fun M2 j1 j2 j3 => i3 M2 j1 (j2.trans h1) j3⟩
def CRu (M : Mem) (r : Option RD) : Prop := r.elim (mR M 30 0 = none) (fun w => ∃ a, (mR M 30 0 = some a ∧ 103 ≤ a) ∧ CRl M a w)
theorem CRu.of {M M' : Mem} {r : Option RD} (h : CRu M r) (hS : mS M' = mS M) (hR : ∀ a k, a = 30 ∧ k = 0 ∨ 103 ≤ a → mR M' a k = mR M a k) (hI : ∀ a, 103 ≤ a → mI M' a = mI M a) : CRu M' r := by
  cases r with
  | none => exact (hR 30 0 (Or.inl ⟨rfl, rfl⟩)).trans h
  | some w =>
    obtain ⟨a, ⟨a1, a2⟩, a3⟩ := h
    exact ⟨a, ⟨(hR 30 0 (Or.inl ⟨rfl, rfl⟩)).trans a1, a2⟩, a3.of (fun i _ => by rw [hS]) (fun k => hR a k (Or.inr a2)) (hI a a2) (hI (a + 1) (by omega))⟩
theorem PF.ru {q : Nat} {M M' : Mem} {r : Option RD} (h : PF q M M') (hq : QOk q) (hr : CRu M r) : CRu M' r := hr.of h.1 (fun a k e => h.2.1 a k (by omega)) (fun a ha => by unfold QOk at hq; exact h.2.2.1 a (by omega) (by omega) (by omega) (by omega) (by omega) (by omega))
/-- the pilot has met a scene -/
def PM (M : Mem) (q : Nat) (T : TD) (S : SC) : Prop := mR M 30 4 = some q ∧ mI M 30 5 = nI (mem T S) ∧ mI M 30 6 = nI (wtm T S)

theorem PXw (M : Mem) {a : Nat} (ha : a = 30 ∨ a = 31 ∨ a = 32) (k : Nat) (v : Int32) : PX M (sI M a k v) := ⟨rfl, fun _ _ _ => rfl, fun b b1 b2 b3 => sI_row (by omega), fun _ _ => rfl⟩
theorem c_meet {M : Mem} {q : Nat} {T : TD} {S : SC} (hC : CIs (mS M) (mR M)) (hT : CT M 15 T) (hk : TOk T) (hq : QOk q) (hJ : IScene (mS M) (mR M) q) (hS : CC M q T S) (hs : SOk S) : WP (f_X3_meet 30 (some q) M) (fun _ M' => PX M M' ∧ PM M' q T S ∧ mI M' 30 7 = bI true) := by
  obtain ⟨M1, hM1⟩ : ∃ M1, M1 = sR M 30 4 (some q) := ⟨_, rfl⟩
  have p1 : PX M M1 := by
    rw [hM1]
    exact ⟨rfl, fun a k h => by rw [mR_sR, if_neg (fun z => h z.1 z.2)], fun a _ _ _ => rfl, fun a _ => rfl⟩
  have a1 := c_remembered (ci_told (p1.CI hC)) (p1.T hT) hk ((p1.PF q).J hq hJ) (p1.C hq hS) hs
  obtain ⟨M2, hM2⟩ : ∃ M2, M2 = sI M1 30 5 (nI (mem T S)) := ⟨_, rfl⟩
  have p2 : PX M M2 := p1.tr (by rw [hM2]; exact PXw M1 (by omega) _ _)
  have a2 := c_waiting (ci_told (p2.CI hC)) (p2.T hT) hk ((p2.PF q).J hq hJ) (p2.C hq hS) hs
  have hC1 := p1.CI hC
  have hC2 := p2.CI hC
  unfold f_X3_meet
  repeat (first | refine WP.ce (by (simp (disch := omega) only []; with_reducible rfl)) ?_ | refine WP.bd (by (simp (disch := omega) only [e_gR, e_gI, e_aI, e_aL, e_oO, e_pI, e_wI, e_wL, Option.map_some, mS_sL, mR_sL, mI_sL, mS_sI, mR_sI, mL_sI, n_cl, e_pR, cob_30 hC, ← hM1]; with_reducible rfl)) ?_ | rw [nm_eq])
  repeat (first | refine WP.ce (by (simp (disch := omega) only [a1]; with_reducible rfl)) ?_ | refine WP.bd (by (simp (disch := omega) only [e_gR, e_gI, e_aI, e_aL, e_oO, e_pI, e_wI, e_wL, Option.map_some, mS_sL, mR_sL, mI_sL, mS_sI, mR_sI, mL_sI, n_cl, cob_30 hC1, cr_30_told hC1, told_o (ci_told hC1), ← hM2]; with_reducible rfl)) ?_ | rw [nm_eq])
  repeat (first | refine WP.ce (by (simp (disch := omega) only [a2]; with_reducible rfl)) ?_ | refine WP.bd (by (simp (disch := omega) only [e_gR, e_gI, e_aI, e_aL, e_oO, e_pI, e_wI, e_wL, Option.map_some, mS_sL, mR_sL, mI_sL, mS_sI, mR_sI, mL_sI, n_cl, cob_30 hC2, cr_30_told hC2, told_o (ci_told hC2)]; with_reducible rfl)) ?_ | rw [nm_eq])
  refine WP.ret ⟨p2.tr ((PXw M2 (by omega) _ _).tr (PXw _ (by omega) _ _)), ⟨?_, ?_, ?_⟩, ?_⟩
  · show mR M2 30 4 = some q
    rw [hM2]
    show mR M1 30 4 = some q
    rw [hM1, mR_sR, if_pos ⟨rfl, rfl⟩]
  · rw [mI_sI, if_neg (by omega), mI_sI, if_neg (by omega), hM2, mI_sI, if_pos ⟨rfl, rfl⟩]
  · rw [mI_sI, if_neg (by omega), mI_sI, if_pos ⟨rfl, rfl⟩]
  · rw [mI_sI, if_pos ⟨rfl, rfl⟩]; rfl
/-! hearing -/
theorem n_andn {a b c : Nat} (h : ∀ i, i < 32 → c.testBit i = (a.testBit i && !(b.testBit i))) : nI a &&& (nI b ^^^ (-1 : Int32)) = nI c := by
  apply Int32.toBitVec_inj.1
  have e : (-1 : Int32).toBitVec = BitVec.allOnes 32 := by decide
  show BitVec.ofNat 32 a &&& (BitVec.ofNat 32 b ^^^ (-1 : Int32).toBitVec) = BitVec.ofNat 32 c
  rw [e]
  apply BitVec.eq_of_getLsbD_eq
  intro i hi
  simp only [BitVec.getLsbD_and, BitVec.getLsbD_xor, BitVec.getLsbD_ofNat, BitVec.getLsbD_allOnes, hi, decide_true, Bool.true_and, Bool.xor_true]
  exact (h i hi).symm
theorem rem_tel {T : TD} {S : SC} {s j k : Nat} (hF : 0 < tF T) : rem T (telS T S s j) k = (decide (k = j) || rem T S k) := by
  unfold rem
  show ((fset (sH S) j (some (sT S : Int))) k).elim false (fun h => decide ((sT S : Int) - h < (tF T : Int))) = _
  by_cases h : k = j
  · subst h
    rw [fset_s]
    simp only [Option.elim, decide_true, Bool.true_or, decide_eq_true_eq]
    omega
  · rw [fset_o _ _ h]
    simp [h]
theorem mem_tel {T : TD} (hk : TOk T) {S : SC} {s j : Nat} (h : j < tJ T) : mem T (telS T S s j) = mem T S ||| 2 ^ j := by
  have hF := (tF_pos hk (Or.inl (by omega))).1
  unfold mem
  apply Nat.eq_of_testBit_eq
  intro i
  rw [Nat.testBit_or, bmk_bit, bmk_bit, rem_tel hF, Nat.testBit_two_pow]
  by_cases hi : i = j
  · subst hi; simp [h]
  · simp [hi, Ne.symm hi]
theorem wtm_tel {T : TD} {S : SC} {s j : Nat} (hn : isN T S j = true) (h : s < 31) : nI (wtm T S) &&& (nI (2 ^ s) ^^^ (-1 : Int32)) = nI (wtm T (telS T S s j)) := by
  apply n_andn
  intro i hi
  unfold wtm
  rw [bmk_bit, bmk_bit, Nat.testBit_two_pow]
  have e : wts (telS T S s j) i = (wts S i && !(decide (i = s))) := by
    unfold wts
    show ((if isN T S j then fset (sP S) s (some (sT S)) else sP S) i).isNone = _
    rw [if_pos hn]
    by_cases h2 : i = s
    · subst h2; rw [fset_s]; simp
    · rw [fset_o _ _ h2]; simp [h2]
  rw [e]
  by_cases h2 : i = s
  · subst h2; simp
  · simp [h2, Ne.symm h2]
def hrM0 (M : Mem) (q : Nat) (T : TD) (S : SC) (s j : Nat) : Mem := if isN T S j then sI (sI M (q + 3) s (nI (sT S))) 30 6 (nI (wtm T (telS T S s j))) else M
def hrM (M : Mem) (q : Nat) (T : TD) (S : SC) (s j : Nat) : Mem := sI (sI (sI (hrM0 M q T S s j) (q + 1) j (nI (sT S))) 30 5 (nI (mem T S ||| 2 ^ j))) 30 7 (nI 0)
theorem c_hearsJ {M : Mem} {q t mm j : Nat} (hC : CIs (mS M) (mR M)) (hJ : IScene (mS M) (mR M) q) (hp : mR M 30 4 = some q) (ht : mI M q 0 = nI t) (hm : mI M 30 5 = nI mm) (hq : QOk q) (h8 : j < 8) (b : Bool) : f_X3_hears_J47 30 (nI j) (bI b) M = some (bI b, sI (sI (sI M (q + 1) j (nI t)) 30 5 (nI (mm ||| 2 ^ j))) 30 7 (nI 0)) := by
  unfold QOk at hq
  have hm1 : mI (sI M (q + 1) j (nI t)) 30 5 = nI mm := by rw [sI_row (by omega)]; exact hm
  unfold f_X3_hears_J47
  repeat (first | refine (cl_ok (by (simp only [hm1]; with_reducible rfl)) _).trans ?_ | refine (bind_ok (by (simp (disch := omega) only [e_gR, e_gI, e_aI, e_aL, e_oO, e_pI, e_wI, e_wL, Option.map_some, mS_sL, mR_sL, mI_sL, mS_sI, mR_sI, mL_sI, n_cl, cob_30 hC, hp, scene_o hJ, scene_r_heard hJ, scene_x_heard hJ, ht, hm1, n_shl, n_or]; with_reducible rfl)) _).trans ?_ | rw [nm_eq])
  rw [ckZ_b]
theorem c_hears {M : Mem} {q : Nat} {T : TD} {S : SC} (hC : CIs (mS M) (mR M)) (hT : CT M 15 T) (hk : TOk T) (hq : QOk q) (hJ : IScene (mS M) (mR M) q) (hS : CC M q T S) (hs : SOk S) (hp : PM M q T S) {s j : Nat} (h5 : s < tN T) (h8 : j < tJ T) : f_X3_hears 30 (nI s) (nI j) M = some (bI (isN T S j), hrM M q T S s j) := by
  have h1 := hk.1.2.2.1
  have h2 := hk.1.2.2.2
  have a1 := c_isNew (ci_told hC) hT hk S h8
  unfold f_X3_hears
  repeat (first | refine (cl_ok (by (simp only [a1]; with_reducible rfl)) _).trans ?_ | refine (bind_ok (by (simp (disch := omega) only [e_gR, e_gI, e_aI, e_aL, e_oO, e_pI, e_wI, e_wL, Option.map_some, mS_sL, mR_sL, mI_sL, mS_sI, mR_sI, mL_sI, n_cl, cob_30 hC, cr_30_told hC, told_o (ci_told hC), hp.2.1]; with_reducible rfl)) _).trans ?_ | rw [nm_eq])
  unfold hrM
  cases hn : isN T S j with
  | false =>
    rw [if_pos (show bI false = 0 from rfl), c_hearsJ hC hJ hp.1 hS.1 hp.2.1 hq (by omega)]
    unfold hrM0
    rw [hn]
    rfl
  | true =>
    rw [if_neg (show ¬ bI true = 0 by decide)]
    unfold hrM0
    rw [if_pos hn]
    obtain ⟨M1, hM1⟩ : ∃ M1, M1 = sI M (q + 3) s (nI (sT S)) := ⟨_, rfl⟩
    have hC1 : CIs (mS M1) (mR M1) := by rw [hM1]; exact hC
    have hJ1 : IScene (mS M1) (mR M1) q := by rw [hM1]; exact hJ
    have hw : mI M1 30 6 = nI (wtm T S) := by rw [hM1, sI_row (by unfold QOk at hq; omega)]; exact hp.2.2
    have hp1 : mR M1 30 4 = some q := by rw [hM1]; exact hp.1
    repeat (first | refine (cl_ok (by (simp only [hw]; with_reducible rfl)) _).trans ?_ | refine (bind_ok (by (simp (disch := omega) only [e_gR, e_gI, e_aI, e_aL, e_oO, e_pI, e_wI, e_wL, Option.map_some, mS_sL, mR_sL, mI_sL, mS_sI, mR_sI, mL_sI, n_cl, cob_30 hC, hp.1, scene_o hJ, scene_r_passed hJ, scene_x_passed hJ, hS.1, ← hM1]; with_reducible rfl)) _).trans ?_ | rw [nm_eq])
    refine (bind_ok (by (simp (disch := omega) only [e_gR, e_gI, e_aI, e_aL, e_oO, e_pI, e_wI, e_wL, Option.map_some, mS_sL, mR_sL, mI_sL, mS_sI, mR_sI, mL_sI, n_cl, cob_30 hC1, hw]; with_reducible rfl)) _).trans ?_
    refine (bind_ok (by (simp (disch := omega) only [e_gR, e_gI, e_aI, e_aL, e_oO, e_pI, e_wI, e_wL, Option.map_some, mS_sL, mR_sL, mI_sL, mS_sI, mR_sI, mL_sI, n_cl, cob_30 hC1, n_shl, wtm_tel hn]; with_reducible rfl)) _).trans ?_
    rw [← hM1]
    refine c_hearsJ (M := sI M1 30 6 (nI (wtm T (telS T S s j)))) (q := q) (t := sT S) (mm := mem T S) (j := j) ?_ ?_ hp1 ?_ ?_ hq (by omega) true
    · exact hC1
    · exact hJ1
    · rw [sI_row (by unfold QOk at hq; omega), hM1, sI_row (by omega)]; exact hS.1
    · rw [mI_sI, if_neg (by omega), hM1, sI_row (by unfold QOk at hq; omega)]; exact hp.2.1
theorem hrM_PF (M : Mem) (q : Nat) (T : TD) (S : SC) (s j : Nat) : PF q M (hrM M q T S s j) := by
  unfold hrM hrM0
  by_cases hn : isN T S j = true
  · rw [if_pos hn]
    exact ⟨rfl, fun _ _ _ => rfl, fun a a1 a2 a3 a4 _ _ => by rw [sI_row a4, sI_row a4, sI_row a2, sI_row a4, sI_row a3], fun _ _ => rfl⟩
  · rw [if_neg hn]
    exact ⟨rfl, fun _ _ _ => rfl, fun a a1 a2 a3 a4 _ _ => by rw [sI_row a4, sI_row a4, sI_row a2], fun _ _ => rfl⟩
theorem hrM_C {M : Mem} {q : Nat} {T : TD} {S : SC} (hq : QOk q) (hS : CC M q T S) (s j : Nat) : CC (hrM M q T S s j) q T (telS T S s j) := by
  unfold QOk at hq
  have e0 : mI (hrM M q T S s j) q = mI M q := by
    unfold hrM hrM0
    by_cases hn : isN T S j = true
    · rw [if_pos hn, sI_row (by omega), sI_row (by omega), sI_row (by omega), sI_row (by omega), sI_row (by omega)]
    · rw [if_neg hn, sI_row (by omega), sI_row (by omega), sI_row (by omega)]
  have e1 : mI (hrM M q T S s j) (q + 1) = upd (mI M (q + 1)) j (nI (sT S)) := by
    unfold hrM hrM0
    by_cases hn : isN T S j = true
    · rw [if_pos hn, sI_row (by omega), sI_row (by omega), mI_sI_s, sI_row (by omega), sI_row (by omega)]
    · rw [if_neg hn, sI_row (by omega), sI_row (by omega), mI_sI_s]
  have e2 : mI (hrM M q T S s j) (q + 2) = mI M (q + 2) := by
    unfold hrM hrM0
    by_cases hn : isN T S j = true
    · rw [if_pos hn, sI_row (by omega), sI_row (by omega), sI_row (by omega), sI_row (by omega), sI_row (by omega)]
    · rw [if_neg hn, sI_row (by omega), sI_row (by omega), sI_row (by omega)]
  refine ⟨by rw [e0]; exact hS.1, fun k hk => ?_, fun k hk => ⟨by rw [e2]; exact (hS.2.2 k hk).1, ?_⟩⟩
  · rw [e1]
    show _ = eH (-100000) (fset (sH S) j (some (sT S : Int)) k)
    by_cases hkj : k = j
    · subst hkj
      rw [upd_s, fset_s]
      exact (ofI_nat _).symm
    · rw [upd_o _ _ hkj, fset_o _ _ hkj]
      exact hS.2.1 k hk
  · show _ = eP ((if isN T S j then fset (sP S) s (some (sT S)) else sP S) k)
    unfold hrM hrM0
    by_cases hn : isN T S j = true
    · rw [if_pos hn, if_pos hn, sI_row (by omega), sI_row (by omega), sI_row (by omega), sI_row (by omega), mI_sI_s]
      by_cases hks : k = s
      · subst hks
        rw [upd_s, fset_s]
        rfl
      · rw [upd_o _ _ hks, fset_o _ _ hks]
        exact (hS.2.2 k hk).2
    · rw [if_neg hn, if_neg hn, sI_row (by omega), sI_row (by omega), sI_row (by omega)]
      exact (hS.2.2 k hk).2
theorem hrM_P {M : Mem} {q : Nat} {T : TD} {S : SC} (hk : TOk T) (hq : QOk q) (hp : PM M q T S) {s j : Nat} (h8 : j < tJ T) : PM (hrM M q T S s j) q T (telS T S s j) ∧ mI (hrM M q T S s j) 30 7 = bI false ∧ mI (hrM M q T S s j) 31 = mI M 31 := by
  unfold QOk at hq
  refine ⟨⟨?_, ?_, ?_⟩, ?_, ?_⟩
  · have e : mR (hrM M q T S s j) = mR M := by
      unfold hrM hrM0
      by_cases hn : isN T S j = true
      · rw [if_pos hn]; rfl
      · rw [if_neg hn]; rfl
    rw [e]; exact hp.1
  · unfold hrM
    rw [mI_sI, if_neg (by omega), mI_sI, if_pos ⟨rfl, rfl⟩, mem_tel hk h8]
  · unfold hrM hrM0
    rw [mI_sI, if_neg (by omega), mI_sI, if_neg (by omega), sI_row (by omega)]
    by_cases hn : isN T S j = true
    · rw [if_pos hn, mI_sI, if_pos ⟨rfl, rfl⟩]
    · rw [if_neg hn, hp.2.2]
      unfold wtm wts telS sP
      simp only [hn, if_false]
      rfl
  · unfold hrM
    rw [mI_sI, if_pos ⟨rfl, rfl⟩]
    rfl
  · unfold hrM hrM0
    by_cases hn : isN T S j = true
    · rw [if_pos hn, sI_row (by omega), sI_row (by omega), sI_row (by omega), sI_row (by omega), sI_row (by omega)]
    · rw [if_neg hn, sI_row (by omega), sI_row (by omega), sI_row (by omega)]
