theorem ite_t {c : Prop} [Decidable c] {γ : Type} (h : c) (a b : γ) : (if c then a else b) = a := if_pos h
theorem ite_f {c : Prop} [Decidable c] {γ : Type} (h : ¬ c) (a b : γ) : (if c then a else b) = b := if_neg h
/-! telling -/
theorem sI_row {M : Mem} {a k : Nat} {v : Int32} {b : Nat} (h : b ≠ a) : mI (sI M a k v) b = mI M b := mI_sI_o h
theorem ern_new {T : TD} {S : SC} {s : Nat} (j : Nat) : ∀ n, n ≤ s → smn (ern T (telS T S s j)) n = smn (ern T S) n
  | 0, _ => rfl
  | n + 1, h => by
    rw [smn, smn, ern_new j n (by omega)]
    congr 1
    unfold ern telS sP
    by_cases hn : isN T S j = true
    · simp only [hn, if_true]
      rw [fset_o _ _ (by omega)]
    · simp only [hn, if_false]
      rfl
/-- what is earned behind a telling -/
theorem ernA_tel {T : TD} {S : SC} {s j : Nat} (hw : wts S s = true) : ∀ n, smn (ern T (telS T S s j)) n = smn (ern T S) n + (if s < n then (if isN T S j then (if sT S ≤ tE T s then tC T s else 0) else 0) else 0)
  | 0 => by simp [smn]
  | n + 1 => by
    rw [smn, smn, ernA_tel hw n]
    have hp : sP S s = none := by
      unfold wts at hw
      cases h : sP S s with
      | none => rfl
      | some t => rw [h] at hw; cases hw
    by_cases hs : n = s
    · subst hs
      rw [if_neg (by omega), if_pos (by omega)]
      have h0 : ern T S n = 0 := by unfold ern; rw [hp]; rfl
      rw [h0]
      unfold ern telS sP
      by_cases hn : isN T S j = true
      · simp only [hn, if_true]
        rw [fset_s]
        simp only [Option.elim]
      · simp only [hn, if_false]
        show _ + (sP S n).elim 0 _ = _
        rw [hp]
        simp
    · have h1 : ern T (telS T S s j) n = ern T S n := by
        unfold ern telS sP
        by_cases hn : isN T S j = true
        · simp only [hn, if_true]
          rw [fset_o _ _ hs]
        · simp only [hn, if_false]
          rfl
      rw [h1]
      by_cases hl : s < n
      · rw [if_pos hl, if_pos (show s < n + 1 by omega)]; omega
      · rw [if_neg hl, if_neg (show ¬ s < n + 1 by omega)]; omega
def telM (M : Mem) (m : Nat) (T : TD) (S : SC) (s j : Nat) : Mem := if isN T S j then sI (sI (sI M (m + 5) j (nI (sT S))) (m + 7) s (nI (sT S))) (m + 1) 5 (nI (ernA T (telS T S s j))) else sI M (m + 5) j (nI (sT S))
theorem ofI_nat (n : Nat) : Int32.ofInt (n : Int) = nI n := by
  apply Int32.toBitVec_inj.1
  show BitVec.ofInt 32 (n : Int) = BitVec.ofNat 32 n
  exact BitVec.ofInt_natCast 32 n
theorem ernA_le {T : TD} (hk : TOk T) (S : SC) : ernA T S ≤ 500 := by
  have h : smn (ern T S) (tN T) ≤ tN T * 99 := smn_le (fun s _ => by
    have := hk.2.2.2.2 s
    unfold ern
    cases sP S s with
    | none => simp
    | some t => simp only [Option.elim]; by_cases h : t ≤ tE T s <;> simp [h]; omega)
  have := hk.1.2.2.2
  unfold ernA
  have h2 : tN T * 99 ≤ 5 * 99 := Nat.mul_le_mul_right 99 this
  omega
theorem earns_raw {M : Mem} {m : Nat} (hR : RIs (mS M) (mR M) m) {s t c e : Nat} (hs5 : s < 5) (hp : mI M (m + 7) s = nI t) (hc : mI M (m + 3) s = nI c) (he : mI M (m + 4) s = nI e) (h1 : t < 2 ^ 31) (h2 : e < 2 ^ 31) : f_X10_earns m (nI s) M = some (nI (if t ≤ e then c else 0), M) := by
  unfold f_X10_earns
  repeat (first | refine (cl_ok (by (simp only [hp]; with_reducible rfl)) _).trans ?_ | refine (bind_ok (by (simp (disch := omega) only [e_gR, e_gI, e_aI, e_aL, e_oO, e_pI, e_wI, e_wL, Option.map_some, mS_sL, mR_sL, mI_sL, mS_sI, mR_sI, mL_sI, n_cl, ro_m hR, rr_passed hR, rx_passed hR, hp]; with_reducible rfl)) _).trans ?_ | rw [nm_eq])
  refine (ite_f (by (simp (disch := omega) only [n_le, n_lt, n_eq, n_add, n_mul, n_sub, n_cl, bI_z, nI_m1, Nat.not_le, Nat.not_lt, not_false_eq_true, not_true_eq_false, if_true, if_false]; done)) _ _).trans ?_
  repeat (first | refine (cl_ok (by (simp only [hp]; with_reducible rfl)) _).trans ?_ | refine (bind_ok (by (simp (disch := omega) only [e_gR, e_gI, e_aI, e_aL, e_oO, e_pI, e_wI, e_wL, Option.map_some, mS_sL, mR_sL, mI_sL, mS_sI, mR_sI, mL_sI, n_cl, ro_m hR, rr_passed hR, rx_passed hR, rr_keeps hR, rx_keeps hR, hp, he]; with_reducible rfl)) _).trans ?_ | rw [nm_eq])
  simp (disch := omega) only [n_lt]
  by_cases h : e < t
  · rw [if_pos h, if_neg (by omega)]; rfl
  · rw [if_neg h, if_pos (by omega)]
    repeat (first | refine (cl_ok (by (simp only [hp]; with_reducible rfl)) _).trans ?_ | refine (bind_ok (by (simp (disch := omega) only [e_gR, e_gI, e_aI, e_aL, e_oO, e_pI, e_wI, e_wL, Option.map_some, mS_sL, mR_sL, mI_sL, mS_sI, mR_sI, mL_sI, n_cl, ro_m hR, rr_cargo hR, rx_cargo hR, hc]; with_reducible rfl)) _).trans ?_ | rw [nm_eq])
    rfl
theorem r_tells {M : Mem} {m : Nat} {T : TD} {S : SC} (hR : RIs (mS M) (mR M) m) (hT : RT M m T) (hk : TOk T) (hS : RS M m T S) (hs : SOk S) {s j : Nat} (hs5 : s < tN T) (hj8 : j < tJ T) (hw : wts S s = true) : f_X10_tells m (nI s) (nI j) M = some (bI (isN T S j), telM M m T S s j) := by
  have h1 := hk.1.2.2.1
  have h2 := hk.1.2.2.2
  have e6 := hS.1.1
  have a1 := r_isNew hR hT hk hS hs hj8
  have hc := (hT.2.2 s hs5).1
  have he := (hT.2.2 s hs5).2.1
  have hk8 := hk.2.2.2.2 s
  have h7 := hs.1
  obtain ⟨M1, hM1⟩ : ∃ M1, M1 = sI M (m + 5) j (nI (sT S)) := ⟨_, rfl⟩
  obtain ⟨M2, hM2⟩ : ∃ M2, M2 = sI M1 (m + 7) s (nI (sT S)) := ⟨_, rfl⟩
  have hR1 : RIs (mS M1) (mR M1) m := by rw [hM1]; exact hR
  have hR2 : RIs (mS M2) (mR M2) m := by rw [hM2, hM1]; exact hR
  have g1 : mI M1 (m + 1) 4 = nI (sT S) := by rw [hM1, sI_row (by omega)]; exact e6
  have g2 : mI M2 (m + 1) 5 = nI (ernA T S) := by rw [hM2, hM1, sI_row (by omega), sI_row (by omega)]; exact hS.1.2
  have hp : mI M2 (m + 7) s = nI (sT S) := by rw [hM2, mI_sI_s, upd_s]
  have hc2 : mI M2 (m + 3) s = nI (tC T s) := by rw [hM2, hM1, sI_row (by omega), sI_row (by omega)]; exact hc
  have he2 : mI M2 (m + 4) s = nI (tE T s) := by rw [hM2, hM1, sI_row (by omega), sI_row (by omega)]; exact he
  have a2 := earns_raw hR2 (by omega) hp hc2 he2 (by omega) (by omega)
  unfold f_X10_tells
  repeat (first | refine (cl_ok (by (simp only [a1]; with_reducible rfl)) _).trans ?_ | refine (bind_ok (by (simp (disch := omega) only [e_gR, e_gI, e_aI, e_aL, e_oO, e_pI, e_wI, e_wL, Option.map_some, mS_sL, mR_sL, mI_sL, mS_sI, mR_sI, mL_sI, n_cl, ro_m hR, rr_heard hR, rx_heard hR, rr_scalar hR, rx_scalar hR, e6]; with_reducible rfl)) _).trans ?_ | rw [nm_eq])
  rw [← hM1]
  cases hn : isN T S j with
  | false =>
    rw [if_pos (show bI false = 0 from rfl)]
    unfold telM
    rw [hn, hM1]
    rfl
  | true =>
    rw [if_neg (show ¬ bI true = 0 by decide)]
    repeat (first | refine (cl_ok (by (simp only [a2]; with_reducible rfl)) _).trans ?_ | refine (bind_ok (by (simp (disch := omega) only [e_gR, e_gI, e_aI, e_aL, e_oO, e_pI, e_wI, e_wL, Option.map_some, mS_sL, mR_sL, mI_sL, mS_sI, mR_sI, mL_sI, n_cl, ro_m hR1, rr_passed hR1, rx_passed hR1, rr_scalar hR1, rx_scalar hR1, g1, ← hM2]; with_reducible rfl)) _).trans ?_ | rw [nm_eq])
    repeat (first | refine (cl_ok (by (simp only [a2]; with_reducible rfl)) _).trans ?_ | refine (bind_ok (by (simp (disch := omega) only [e_gR, e_gI, e_aI, e_aL, e_oO, e_pI, e_wI, e_wL, Option.map_some, mS_sL, mR_sL, mI_sL, mS_sI, mR_sI, mL_sI, n_cl, ro_m hR2, rr_scalar hR2, rx_scalar hR2, g2]; with_reducible rfl)) _).trans ?_ | rw [nm_eq])
    unfold telM
    rw [hn, if_pos rfl, n_add]
    have e9 := ernA_tel (T := T) (S := S) (s := s) (j := j) hw (tN T)
    rw [if_pos hs5, hn, if_pos rfl] at e9
    rw [show ernA T (telS T S s j) = ernA T S + (if sT S ≤ tE T s then tC T s else 0) from e9, ← hM1, ← hM2]
    rfl
/-- behind a telling the rows stand for the scene behind it -/
theorem telM_S {M : Mem} {m : Nat} {T : TD} {S : SC} (hS : RS M m T S) {s j : Nat} (hw : wts S s = true) (hs5 : s < tN T) : RS (telM M m T S s j) m T (telS T S s j) := by
  have hnn : isN T S j = false → ernA T (telS T S s j) = ernA T S := fun hn => by
    have e9 := ernA_tel (T := T) (S := S) (s := s) (j := j) hw (tN T)
    rw [if_pos hs5, hn] at e9
    exact e9
  refine ⟨⟨?_, ?_⟩, fun k hk => ?_, fun k hk => ⟨?_, ?_⟩⟩
  · unfold telM
    by_cases hn : isN T S j = true
    · rw [if_pos hn, mI_sI, if_neg (by omega), sI_row (by omega), sI_row (by omega)]; exact hS.1.1
    · rw [if_neg hn, sI_row (by omega)]; exact hS.1.1
  · unfold telM
    by_cases hn : isN T S j = true
    · rw [if_pos hn, mI_sI, if_pos ⟨rfl, rfl⟩]
    · rw [if_neg hn, sI_row (by omega), hnn (by simpa using hn)]; exact hS.1.2
  · have e : mI (telM M m T S s j) (m + 5) = upd (mI M (m + 5)) j (nI (sT S)) := by
      unfold telM
      by_cases hn : isN T S j = true
      · rw [if_pos hn, sI_row (by omega), sI_row (by omega), mI_sI_s]
      · rw [if_neg hn, mI_sI_s]
    rw [e]
    show _ = eH (-1000) (fset (sH S) j (some (sT S : Int)) k)
    by_cases hkj : k = j
    · subst hkj
      rw [upd_s, fset_s]
      exact (ofI_nat _).symm
    · rw [upd_o _ _ hkj, fset_o _ _ hkj]
      exact hS.2.1 k hk
  · have e : mI (telM M m T S s j) (m + 6) = mI M (m + 6) := by
      unfold telM
      by_cases hn : isN T S j = true
      · rw [if_pos hn, sI_row (by omega), sI_row (by omega), sI_row (by omega)]
      · rw [if_neg hn, sI_row (by omega)]
    rw [e]
    exact (hS.2.2 k hk).1
  · show _ = eP ((if isN T S j then fset (sP S) s (some (sT S)) else sP S) k)
    unfold telM
    by_cases hn : isN T S j = true
    · rw [if_pos hn, if_pos hn, sI_row (by omega), mI_sI_s]
      by_cases hks : k = s
      · subst hks
        rw [upd_s, fset_s]
        rfl
      · rw [upd_o _ _ hks, fset_o _ _ hks, sI_row (by omega)]
        exact (hS.2.2 k hk).2
    · rw [if_neg hn, if_neg hn, sI_row (by omega)]
      exact (hS.2.2 k hk).2
theorem telM_G (M : Mem) (m : Nat) (T : TD) (S : SC) (s j : Nat) : GE m M (telM M m T S s j) := by
  unfold telM
  by_cases hn : isN T S j = true
  · rw [if_pos hn]
    refine ⟨rfl, rfl, fun a h1 h2 h3 h4 => by rw [sI_row h1, sI_row h3, sI_row h2], fun k h4 h5 => ?_, fun a _ _ => rfl⟩
    rw [mI_sI, if_neg (fun h => h5 h.2), sI_row (by omega), sI_row (by omega)]
  · rw [if_neg hn]
    exact ⟨rfl, rfl, fun a h1 h2 h3 h4 => sI_row h2, fun k h4 h5 => by rw [sI_row (by omega)], fun a _ _ => rfl⟩
