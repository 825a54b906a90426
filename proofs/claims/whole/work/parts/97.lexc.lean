/-! THE CLASS: the token that is read next -/
def cdk (t : TP) (s : Nat) : Nat → Nat
  | 0 => 0
  | k + 1 => 256 * cdk t s k + t.2 (s + k)
def cdL (w : List Nat) : Nat → Nat
  | 0 => 0
  | k + 1 => 256 * cdL w k + w.getD k 0
theorem cdk_lt {t : TP} (h4 : TOk2 t) (s : Nat) : ∀ k, cdk t s k < 256 ^ k
  | 0 => by show 0 < 256 ^ 0; decide
  | k + 1 => by
    have h1 := cdk_lt h4 s k
    have h2 := h4.2 (s + k)
    rw [cdk, Nat.pow_succ]
    omega
theorem cd_inj {t : TP} {s : Nat} {w : List Nat} (h4 : TOk2 t) : ∀ k k', (∀ i, i < k → 1 ≤ t.2 (s + i)) → (∀ i, i < k' → 1 ≤ w.getD i 0 ∧ w.getD i 0 < 256) → cdk t s k = cdL w k' → k = k' ∧ ∀ i, i < k → t.2 (s + i) = w.getD i 0
  | 0, 0, _, _, _ => ⟨rfl, fun i hi => absurd hi (Nat.not_lt_zero i)⟩
  | 0, k' + 1, _, h2, e => by
    have := h2 k' (by omega)
    rw [cdL] at e
    have e : 0 = 256 * cdL w k' + w.getD k' 0 := e
    omega
  | k + 1, 0, h1, _, e => by
    have := h1 k (by omega)
    rw [cdk] at e
    have e : 256 * cdk t s k + t.2 (s + k) = 0 := e
    omega
  | k + 1, k' + 1, h1, h2, e => by
    have a1 := h4.2 (s + k)
    have a2 := h2 k' (by omega)
    rw [cdk, cdL] at e
    have e1 : t.2 (s + k) = w.getD k' 0 := by omega
    have e2 : cdk t s k = cdL w k' := by omega
    obtain ⟨q1, q2⟩ := cd_inj h4 k k' (fun i hi => h1 i (by omega)) (fun i hi => h2 i (by omega)) e2
    refine ⟨by omega, fun i hi => ?_⟩
    by_cases ei : i = k
    · rw [ei, e1, q1]
    · exact q2 i (by omega)
theorem lN_inj {a b : Nat} (ha : a < 2 ^ 63) (hb : b < 2 ^ 63) : (lN a = lN b) = (a = b) := by
  rw [eq_iff_iff, fa_eq64]
  constructor
  · intro e
    have h1 : (lN a).toInt = (a : Int) := Int64.toInt_ofNat_of_lt ha
    have h2 : (lN b).toInt = (b : Int) := Int64.toInt_ofNat_of_lt hb
    omega
  · intro e; rw [e]
theorem wd_st {a y : Nat} (ha : a < 2 ^ 48) (hy : y < 256) : (lN a <<< (Int32.toInt64 (nI 8) &&& 63)) ||| Int32.toInt64 (nI y) = lN (256 * a + y) := by
  rw [toL (n := y) (by omega)]
  apply Int64.toBitVec_inj.mp
  show ((lN a) <<< (Int32.toInt64 (nI 8) &&& 63)).toBitVec ||| (lN y).toBitVec = (lN (256 * a + y)).toBitVec
  have e8 : Int32.toInt64 (nI 8) &&& 63 = 8 := by decide
  rw [e8]
  have es : ((lN a) <<< (8 : Int64)).toBitVec = (BitVec.ofNat 64 a) <<< 8 := rfl
  rw [es]
  apply BitVec.eq_of_toNat_eq
  have q1 : (lN y).toBitVec.toNat = y := by
    show (BitVec.ofNat 64 y).toNat = y
    rw [BitVec.toNat_ofNat]
    exact Nat.mod_eq_of_lt (by omega)
  have q2 : (lN (256 * a + y)).toBitVec.toNat = 256 * a + y := by
    show (BitVec.ofNat 64 (256 * a + y)).toNat = _
    rw [BitVec.toNat_ofNat]
    exact Nat.mod_eq_of_lt (by omega)
  rw [BitVec.toNat_or, q1, q2, BitVec.toNat_shiftLeft, BitVec.toNat_ofNat, Nat.mod_eq_of_lt (show a < 2 ^ 64 by omega)]
  have q3 : a <<< 8 = 256 * a := by rw [Nat.shiftLeft_eq]; omega
  rw [Nat.mod_eq_of_lt (by rw [q3]; omega), ← Nat.shiftLeft_add_eq_or_of_lt (by omega : y < 2 ^ 8) a, q3]
/-! what stands at a place -/
def tkK (t : TP) (p : Nat) : Nat := if t.1 ≤ bk t p then 0 else if isDg (t.2 (bk t p)) then 1 else if isLt (t.2 (bk t p)) then 2 else 3
def two (t : TP) (s : Nat) : Bool := (decide (t.2 s = 60) || decide (t.2 s = 62)) && decide (s + 1 < t.1) && decide (t.2 (s + 1) = 61)
def tkE (t : TP) (p : Nat) : Nat := if tkK t p = 0 then bk t p else if tkK t p = 1 then ru isDg t (bk t p) else if tkK t p = 2 then ru isLt t (bk t p) else if two t (bk t p) then bk t p + 2 else bk t p + 1
def tkV (t : TP) (p : Nat) : Nat := if tkK t p = 1 then (if dgs t (bk t p) ≤ 5 then dgV t (bk t p) else 100000) else 0
def tkW (t : TP) (p : Nat) : Int64 := if tkK t p = 2 then (if ru isLt t (bk t p) - bk t p ≤ 7 then lN (cdk t (bk t p) (ru isLt t (bk t p) - bk t p)) else 0) else 0
def tkG (t : TP) (p : Nat) : Int32 := if tkK t p = 3 then (if two t (bk t p) then nI (t.2 (bk t p) + 256) else nI (t.2 (bk t p))) else -1
def TK (M : Mem) (t : TP) (p : Nat) : Prop := mI M 1 3 = nI (tkK t p) ∧ mI M 1 4 = nI (bk t p) ∧ mI M 1 5 = nI (tkV t p) ∧ mL M 1 6 = tkW t p ∧ mI M 1 7 = tkG t p ∧ mI M 1 8 = nI (tkE t p)
def FTk (M M' : Mem) : Prop := mS M' = mS M ∧ mR M' = mR M ∧ (∀ a, a ≠ 1 → mI M' a = mI M a) ∧ mI M' 1 1 = mI M 1 1 ∧ mI M' 1 2 = mI M 1 2 ∧ ∀ a, a ≠ 1 → mL M' a = mL M a
theorem FTk.rf (M : Mem) : FTk M M := ⟨rfl, rfl, fun _ _ => rfl, rfl, rfl, fun _ _ => rfl⟩
theorem FTk.tr {M1 M2 M3 : Mem} (h1 : FTk M1 M2) (h2 : FTk M2 M3) : FTk M1 M3 := ⟨h2.1.trans h1.1, h2.2.1.trans h1.2.1, fun a h => (h2.2.2.1 a h).trans (h1.2.2.1 a h), h2.2.2.2.1.trans h1.2.2.2.1, h2.2.2.2.2.1.trans h1.2.2.2.2.1, fun a h => (h2.2.2.2.2.2 a h).trans (h1.2.2.2.2.2 a h)⟩
theorem FTk.CI {M M' : Mem} (h : FTk M M') (hC : CIs (mS M) (mR M)) : CIs (mS M') (mR M') := by rw [h.1, h.2.1]; exact hC
theorem FTk.tp {M M' : Mem} {t : TP} (h : FTk M M') (ht : CTp M t) : CTp M' t := ⟨h.2.2.2.1.trans ht.1, by rw [h.2.2.1 2 (by decide)]; exact ht.2⟩
theorem FTk.i (M : Mem) {k : Nat} (hk : 3 ≤ k) (v : Int32) : FTk M (sI M 1 k v) := ⟨rfl, rfl, fun a h => sI_row h, by rw [mI_sI, if_neg (by omega)], by rw [mI_sI, if_neg (by omega)], fun _ _ => rfl⟩
theorem FTk.l (M : Mem) (k : Nat) (v : Int64) : FTk M (sL M 1 k v) := ⟨rfl, rfl, fun _ _ => rfl, rfl, rfl, fun a h => rowU_n _ _ h⟩
section CLX
variable {M : Mem} {t : TP}
theorem mI_s1 (M : Mem) (k j : Nat) (v : Int32) : mI (sI M 1 k v) 1 j = if j = k then v else mI M 1 j := by
  rw [mI_sI]
  by_cases h : j = k
  · rw [if_pos ⟨rfl, h⟩, if_pos h]
  · rw [if_neg (fun z => h z.2), if_neg h]
theorem mL_s1 (M : Mem) (k j : Nat) (v : Int64) : mL (sL M 1 k v) 1 j = if j = k then v else mL M 1 j := by
  rw [mL_sL]
  by_cases h : j = k
  · rw [if_pos ⟨rfl, h⟩, if_pos h]
  · rw [if_neg (fun z => h z.2), if_neg h]
/-- the sign, or the end -/
theorem c_nx3 (hC : CIs (mS M) (mR M)) (ht : CTp M t) (h4 : TOk2 t) {s q : Nat} {V : Nat} {W : Int64} (hs : s ≤ t.1) (hq : q ≤ t.1) {kd : Nat} (hk : kd ≤ 2) (h3 : mI M 1 3 = nI kd) (h8 : mI M 1 8 = nI q) (h7 : mI M 1 7 = -1) (h00 : mI M 1 4 = nI s) (h5 : mI M 1 5 = nI V) (h6 : mL M 1 6 = W) (hkq : kd = 0 → q = s) :
    WP (f_X7_next_J270 1 M) (fun _ M' => FTk M M' ∧ mI M' 1 3 = nI (if kd = 0 then (if t.1 ≤ s then 0 else 3) else kd) ∧ mI M' 1 4 = nI s ∧ mI M' 1 5 = nI V ∧ mL M' 1 6 = W ∧ mI M' 1 7 = (if kd = 0 ∧ s < t.1 then (if two t s then nI (t.2 s + 256) else nI (t.2 s)) else -1) ∧ mI M' 1 8 = nI (if kd = 0 ∧ s < t.1 then (if two t s then s + 2 else s + 1) else q)) := by
  have hL := h4.1
  unfold f_X7_next_J270 f_X7_next_J381
  repeat (first | ((with_reducible apply WP.ce); case h => (simp (disch := omega) only []; with_reducible rfl)) | ((with_reducible apply WP.bd); case h => (simp (disch := omega) only [e_gR, e_gI, e_aI, e_aL, e_oO, e_pI, e_wI, e_wL, Option.map_some, mS_sL, mR_sL, mI_sL, mS_sI, mR_sI, mL_sI, n_cl, cob_1 hC, h3]; with_reducible rfl)) | rw [nm_eq] | rw [ckZ_n1] | rw [ckZ_n0])
  by_cases k0 : kd = 0
  · have hqs := hkq k0
    subst hqs
    refine WP.it (by rw [k0]; rfl) ?_
    repeat (first | ((with_reducible apply WP.ce); case h => (simp (disch := omega) only []; with_reducible rfl)) | ((with_reducible apply WP.bd); case h => (simp (disch := omega) only [e_gR, e_gI, e_aI, e_aL, e_oO, e_pI, e_wI, e_wL, Option.map_some, mS_sL, mR_sL, mI_sL, mS_sI, mR_sI, mL_sI, n_cl, cob_1 hC, h8, ht.1]; with_reducible rfl)) | rw [nm_eq] | rw [ckZ_n1] | rw [ckZ_n0])
    by_cases he : t.1 ≤ q
    · refine WP.it (by rw [n_le (by omega) (by omega)]; exact he) (WP.ret ⟨FTk.rf M, ?_, h00, h5, h6, ?_, ?_⟩)
      · rw [if_pos k0, if_pos he, h3, k0]
      · rw [if_neg (by omega)]; exact h7
      · rw [if_neg (by omega)]; exact h8
    · refine WP.ie (by rw [n_le (by omega) (by omega)]; exact he) ?_
      have v := ht.2 q (by omega)
      obtain ⟨M1, hM1⟩ : ∃ M1, M1 = sI M 1 3 (nI 3) := ⟨_, rfl⟩
      have f1 : FTk M M1 := by rw [hM1]; exact FTk.i M (by decide) _
      have hC1 := f1.CI hC
      have g8 : mI M1 1 8 = nI q := by rw [hM1, mI_s1, if_neg (by decide)]; exact h8
      have v1 : mI M1 2 q = nI (t.2 q) := by rw [f1.2.2.1 2 (by decide)]; exact v
      obtain ⟨M2, hM2⟩ : ∃ M2, M2 = sI M1 1 7 (nI (t.2 q)) := ⟨_, rfl⟩
      have f2 : FTk M M2 := f1.tr (by rw [hM2]; exact FTk.i M1 (by decide) _)
      have hC2 := f2.CI hC
      have k8 : mI M2 1 8 = nI q := by rw [hM2, mI_s1, if_neg (by decide)]; exact g8
      obtain ⟨M3, hM3⟩ : ∃ M3, M3 = sI M2 1 8 (nI (q + 1)) := ⟨_, rfl⟩
      have f3 : FTk M M3 := f2.tr (by rw [hM3]; exact FTk.i M2 (by decide) _)
      have hC3 := f3.CI hC
      have e3 : mI M3 1 3 = nI 3 := by rw [hM3, mI_s1, if_neg (by decide), hM2, mI_s1, if_neg (by decide), hM1, mI_s1, if_pos rfl]
      have e4 : mI M3 1 4 = nI q := by rw [hM3, mI_s1, if_neg (by decide), hM2, mI_s1, if_neg (by decide), hM1, mI_s1, if_neg (by decide)]; exact h00
      have e5 : mI M3 1 5 = nI V := by rw [hM3, mI_s1, if_neg (by decide), hM2, mI_s1, if_neg (by decide), hM1, mI_s1, if_neg (by decide)]; exact h5
      have e6 : mL M3 1 6 = W := by rw [hM3, hM2, hM1]; exact h6
      have e7 : mI M3 1 7 = nI (t.2 q) := by rw [hM3, mI_s1, if_neg (by decide), hM2, mI_s1, if_pos rfl]
      have e8 : mI M3 1 8 = nI (q + 1) := by rw [hM3, mI_s1, if_pos rfl]
      have t3 := f3.tp ht
      repeat (first | ((with_reducible apply WP.ce); case h => (simp (disch := omega) only []; with_reducible rfl)) | ((with_reducible apply WP.bd); case h => (simp (disch := omega) only [e_gR, e_gI, e_aI, e_aL, e_oO, e_pI, e_wI, e_wL, Option.map_some, mS_sL, mR_sL, mI_sL, mS_sI, mR_sI, mL_sI, n_cl, cob_1 hC, ← hM1]; with_reducible rfl)) | rw [nm_eq] | rw [ckZ_n1] | rw [ckZ_n0])
      repeat (first | ((with_reducible apply WP.ce); case h => (simp (disch := omega) only []; with_reducible rfl)) | ((with_reducible apply WP.bd); case h => (simp (disch := omega) only [e_gR, e_gI, e_aI, e_aL, e_oO, e_pI, e_wI, e_wL, Option.map_some, mS_sL, mR_sL, mI_sL, mS_sI, mR_sI, mL_sI, n_cl, cob_1 hC1, cr_bytes hC1, g8, cx_bytes hC1, v1, ← hM2]; with_reducible rfl)) | rw [nm_eq] | rw [ckZ_n1] | rw [ckZ_n0])
      repeat (first | ((with_reducible apply WP.ce); case h => (simp (disch := omega) only []; with_reducible rfl)) | ((with_reducible apply WP.bd); case h => (simp (disch := omega) only [e_gR, e_gI, e_aI, e_aL, e_oO, e_pI, e_wI, e_wL, Option.map_some, mS_sL, mR_sL, mI_sL, mS_sI, mR_sI, mL_sI, n_cl, cob_1 hC2, k8, n_add, ← hM3]; with_reducible rfl)) | rw [nm_eq] | rw [ckZ_n1] | rw [ckZ_n0])
      repeat (first | ((with_reducible apply WP.ce); case h => (simp (disch := omega) only []; with_reducible rfl)) | ((with_reducible apply WP.bd); case h => (simp (disch := omega) only [e_gR, e_gI, e_aI, e_aL, e_oO, e_pI, e_wI, e_wL, Option.map_some, mS_sL, mR_sL, mI_sL, mS_sI, mR_sI, mL_sI, n_cl, cob_1 hC3, e7]; with_reducible rfl)) | rw [nm_eq] | rw [ckZ_n1] | rw [ckZ_n0])
      have hy := h4.2 q
      have plain : two t q = false → WP (some ((), M3)) (fun _ M' => FTk M M' ∧ mI M' 1 3 = nI (if kd = 0 then (if t.1 ≤ q then 0 else 3) else kd) ∧ mI M' 1 4 = nI q ∧ mI M' 1 5 = nI V ∧ mL M' 1 6 = W ∧ mI M' 1 7 = (if kd = 0 ∧ q < t.1 then (if two t q then nI (t.2 q + 256) else nI (t.2 q)) else -1) ∧ mI M' 1 8 = nI (if kd = 0 ∧ q < t.1 then (if two t q then q + 2 else q + 1) else q)) := by
        intro h2
        have hkk : kd = 0 ∧ q < t.1 := ⟨k0, by omega⟩
        rw [if_pos k0, if_neg he, if_pos hkk, if_pos hkk, h2]
        exact WP.ret ⟨f3, e3, e4, e5, e6, e7, e8⟩
      have j334 : (t.2 q = 60 ∨ t.2 q = 62) → WP (f_X7_next_J334 1 M3) (fun _ M' => FTk M M' ∧ mI M' 1 3 = nI (if kd = 0 then (if t.1 ≤ q then 0 else 3) else kd) ∧ mI M' 1 4 = nI q ∧ mI M' 1 5 = nI V ∧ mL M' 1 6 = W ∧ mI M' 1 7 = (if kd = 0 ∧ q < t.1 then (if two t q then nI (t.2 q + 256) else nI (t.2 q)) else -1) ∧ mI M' 1 8 = nI (if kd = 0 ∧ q < t.1 then (if two t q then q + 2 else q + 1) else q)) := by
        intro h6062
        unfold f_X7_next_J334 f_X7_next_J381
        repeat (first | ((with_reducible apply WP.ce); case h => (simp (disch := omega) only []; with_reducible rfl)) | ((with_reducible apply WP.bd); case h => (simp (disch := omega) only [e_gR, e_gI, e_aI, e_aL, e_oO, e_pI, e_wI, e_wL, Option.map_some, mS_sL, mR_sL, mI_sL, mS_sI, mR_sI, mL_sI, n_cl, cob_1 hC3, e8, t3.1]; with_reducible rfl)) | rw [nm_eq] | rw [ckZ_n1] | rw [ckZ_n0])
        by_cases hl : t.1 ≤ q + 1
        · refine WP.it (by rw [n_le (by omega) (by omega)]; exact hl) (plain ?_)
          unfold two
          rw [decide_eq_false (by omega : ¬ q + 1 < t.1)]; simp
        · refine WP.ie (by rw [n_le (by omega) (by omega)]; exact hl) ?_
          have v3 := t3.2 (q + 1) (by omega)
          have hy2 := h4.2 (q + 1)
          repeat (first | ((with_reducible apply WP.ce); case h => (simp (disch := omega) only []; with_reducible rfl)) | ((with_reducible apply WP.bd); case h => (simp (disch := omega) only [e_gR, e_gI, e_aI, e_aL, e_oO, e_pI, e_wI, e_wL, Option.map_some, mS_sL, mR_sL, mI_sL, mS_sI, mR_sI, mL_sI, n_cl, cob_1 hC3, cr_bytes hC3, e8, cx_bytes hC3, v3]; with_reducible rfl)) | rw [nm_eq] | rw [ckZ_n1] | rw [ckZ_n0])
          by_cases h61 : t.2 (q + 1) = 61
          · refine WP.it (by rw [h61]) ?_
            have h2 : two t q = true := by
              unfold two
              rw [decide_eq_true h61, decide_eq_true (by omega : q + 1 < t.1)]
              rcases h6062 with z | z
              · rw [decide_eq_true z]; rfl
              · rw [decide_eq_true z]; simp
            obtain ⟨M4, hM4⟩ : ∃ M4, M4 = sI M3 1 7 (nI (t.2 q + 256)) := ⟨_, rfl⟩
            have f4 : FTk M M4 := f3.tr (by rw [hM4]; exact FTk.i M3 (by decide) _)
            have hC4 := f4.CI hC
            have i8 : mI M4 1 8 = nI (q + 1) := by rw [hM4, mI_s1, if_neg (by decide)]; exact e8
            repeat (first | ((with_reducible apply WP.ce); case h => (simp (disch := omega) only []; with_reducible rfl)) | ((with_reducible apply WP.bd); case h => (simp (disch := omega) only [e_gR, e_gI, e_aI, e_aL, e_oO, e_pI, e_wI, e_wL, Option.map_some, mS_sL, mR_sL, mI_sL, mS_sI, mR_sI, mL_sI, n_cl, cob_1 hC3, e7, n_add, ← hM4]; with_reducible rfl)) | rw [nm_eq] | rw [ckZ_n1] | rw [ckZ_n0])
            repeat (first | ((with_reducible apply WP.ce); case h => (simp (disch := omega) only []; with_reducible rfl)) | ((with_reducible apply WP.bd); case h => (simp (disch := omega) only [e_gR, e_gI, e_aI, e_aL, e_oO, e_pI, e_wI, e_wL, Option.map_some, mS_sL, mR_sL, mI_sL, mS_sI, mR_sI, mL_sI, n_cl, cob_1 hC4, i8, n_add]; with_reducible rfl)) | rw [nm_eq] | rw [ckZ_n1] | rw [ckZ_n0])
            have hkk : kd = 0 ∧ q < t.1 := ⟨k0, by omega⟩
            rw [if_pos k0, if_neg he, if_pos hkk, if_pos hkk, h2]
            refine WP.ret ⟨f4.tr (FTk.i M4 (by decide) _), ?_, ?_, ?_, ?_, ?_, ?_⟩
            · rw [mI_s1, if_neg (by decide), hM4, mI_s1, if_neg (by decide)]; exact e3
            · rw [mI_s1, if_neg (by decide), hM4, mI_s1, if_neg (by decide)]; exact e4
            · rw [mI_s1, if_neg (by decide), hM4, mI_s1, if_neg (by decide)]; exact e5
            · rw [mL_sI, hM4, mL_sI]; exact e6
            · rw [mI_s1, if_neg (by decide), hM4, mI_s1, if_pos rfl, if_pos rfl]
            · rw [mI_s1, if_pos rfl, if_pos rfl]
          · refine WP.ie (by rw [n_eq (by omega) (by decide)]; exact h61) (plain ?_)
            unfold two
            rw [decide_eq_false h61, Bool.and_false]
      by_cases c60 : t.2 q = 60
      · exact WP.it (by rw [c60]) (j334 (Or.inl c60))
      · refine WP.ie (by rw [n_eq (by omega) (by decide)]; exact c60) ?_
        repeat (first | ((with_reducible apply WP.ce); case h => (simp (disch := omega) only []; with_reducible rfl)) | ((with_reducible apply WP.bd); case h => (simp (disch := omega) only [e_gR, e_gI, e_aI, e_aL, e_oO, e_pI, e_wI, e_wL, Option.map_some, mS_sL, mR_sL, mI_sL, mS_sI, mR_sI, mL_sI, n_cl, cob_1 hC3, e7]; with_reducible rfl)) | rw [nm_eq] | rw [ckZ_n1] | rw [ckZ_n0])
        by_cases c62 : t.2 q = 62
        · exact WP.it (by rw [c62]) (j334 (Or.inr c62))
        · refine WP.ie (by rw [n_eq (by omega) (by decide)]; exact c62) (plain ?_)
          unfold two
          rw [decide_eq_false c60, decide_eq_false c62]; rfl
  · refine WP.ie (by rw [nIz (by omega)]; exact k0) (WP.ret ⟨FTk.rf M, ?_, h00, h5, h6, ?_, ?_⟩)
    · rw [if_neg k0]; exact h3
    · rw [if_neg (fun z => k0 z.1)]; exact h7
    · rw [if_neg (fun z => k0 z.1)]; exact h8
end CLX
