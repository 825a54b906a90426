/-! A TIDE: what each ship tells, who passes -/
abbrev RD : Type := (Nat → Int64) → Int64
/-- what the words of a rule are worth, for a ship and a joke -/
def wdL (T : TD) (S : SC) (s j : Nat) : List Int64 := [lN s, lN j, lN (tC T s), Int32.toInt64 (nI (tE T s) - nI (sT S)), lN (lkO T S j), lN (b2 (isN T S j)), lN (knb T S j), lN (wtc T S), lN (snc S j), lN (tN T - wtc T S), lN (sT S)]
def wds (T : TD) (S : SC) (s j : Nat) : Nat → Int64 := fun k => (wdL T S s j).getD k 0
def lks (T : TD) (r : Option RD) (S : SC) (s j : Nat) : Int64 := r.elim (if isN T S j then 1 else 0) (fun w => w (wds T S s j))
def chs (f : Nat → Int64) (kn : Nat → Bool) : Nat → Option Nat × Int64
  | 0 => (none, 0)
  | n + 1 => if kn n && decide ((chs f kn n).2 < f n) then (some n, f n) else chs f kn n
def pick (T : TD) (r : Option RD) (S : SC) (s : Nat) : Option Nat := (chs (lks T r S s) (fun j => (sW S s).testBit j) (tJ T)).1
/-- a ship that tells by a row tells what the row has -/
def cho (T : TD) (r : Option RD) (ov : Option (Nat × Option Nat)) (S : SC) (s : Nat) : Option Nat := (ov.bind (fun q => if q.1 = s then some q.2 else none)).getD (pick T r S s)
def tld (T : TD) (r : Option RD) (ov : Option (Nat × Option Nat)) (S : SC) (s : Nat) : Option Nat := if wts S s then cho T r ov S s else none
def telS (T : TD) (S : SC) (s j : Nat) : SC := (sT S, fset (sH S) j (some (sT S : Int)), sW S, if isN T S j then fset (sP S) s (some (sT S)) else sP S)
def trn (T : TD) (r : Option RD) (ov : Option (Nat × Option Nat)) (S : SC) (s : Nat) : SC := (tld T r ov S s).elim S (fun j => telS T S s j)
def pss (T : TD) (r : Option RD) (ov : Option (Nat × Option Nat)) (S : SC) (s : Nat) : Bool := (tld T r ov S s).elim false (fun j => isN T S j)
def trns (T : TD) (r : Option RD) (ov : Option (Nat × Option Nat)) (S : SC) : Nat → SC
  | 0 => S
  | n + 1 => trn T r ov (trns T r ov S n) n
def nxt (S : SC) : SC := (sT S + 1, sH S, sW S, sP S)
def tide1 (T : TD) (r : Option RD) (ov : Option (Nat × Option Nat)) (S : SC) : SC := nxt (trns T r ov S (tN T))
def tolds (T : TD) (r : Option RD) (ov : Option (Nat × Option Nat)) (S : SC) (s : Nat) : Option Nat := tld T r ov (trns T r ov S s) s
def psm (T : TD) (r : Option RD) (ov : Option (Nat × Option Nat)) (S : SC) : Nat := bmk (fun s => pss T r ov (trns T r ov S s) s) (tN T)
def tides (T : TD) (r : Option RD) (S : SC) : Nat → SC
  | 0 => S
  | n + 1 => tide1 T r none (tides T r S n)
/-! facts of the plain kind -/
theorem chs_lt (f : Nat → Int64) (kn : Nat → Bool) : ∀ n j, (chs f kn n).1 = some j → j < n ∧ kn j = true
  | 0, j, h => by cases h
  | n + 1, j, h => by
    rw [chs] at h
    by_cases hc : (kn n && decide ((chs f kn n).2 < f n)) = true
    · rw [if_pos hc] at h
      cases h
      rw [Bool.and_eq_true] at hc
      exact ⟨by omega, hc.1⟩
    · rw [if_neg hc] at h
      have := chs_lt f kn n j h
      exact ⟨by omega, this.2⟩
theorem pick_lt {T : TD} {r : Option RD} {S : SC} {s j : Nat} (h : pick T r S s = some j) : j < tJ T ∧ (sW S s).testBit j = true := chs_lt _ _ _ j h
def OvOk (T : TD) (ov : Option (Nat × Option Nat)) : Prop := ∀ q, ov = some q → ∀ j, q.2 = some j → j < tJ T
theorem cho_lt {T : TD} {r : Option RD} {ov : Option (Nat × Option Nat)} (ho : OvOk T ov) {S : SC} {s j : Nat} (h : cho T r ov S s = some j) : j < tJ T := by
  unfold cho at h
  cases hv : ov with
  | none => rw [hv] at h; exact (pick_lt h).1
  | some q =>
    rw [hv] at h
    by_cases hq : q.1 = s
    · simp [hq] at h; exact ho q hv j h
    · simp [hq] at h; exact (pick_lt h).1
theorem telS_ok {T : TD} {S : SC} (hs : SOk S) (s j : Nat) : SOk (telS T S s j) := by
  refine ⟨hs.1, fun k h hh => ?_, hs.2.2.1, fun k t hh => ?_⟩
  · by_cases hk : k = j
    · subst hk
      have : (some (sT S : Int)) = some h := (fset_s (sH S) k (some (sT S : Int))).symm.trans hh
      cases this
      show -1 ≤ (sT S : Int) ∧ (sT S : Int) ≤ (sT S : Int)
      omega
    · exact hs.2.1 k h ((fset_o (sH S) _ hk).symm.trans hh)
  · have hh : (if isN T S j then fset (sP S) s (some (sT S)) else sP S) k = some t := hh
    by_cases hn : isN T S j = true
    · rw [if_pos hn] at hh
      by_cases hk : k = s
      · subst hk
        rw [fset_s] at hh
        cases hh
        exact Nat.le_refl _
      · rw [fset_o _ _ hk] at hh
        exact hs.2.2.2 k t hh
    · rw [if_neg hn] at hh
      exact hs.2.2.2 k t hh
theorem trn_ok {T : TD} {r : Option RD} {ov : Option (Nat × Option Nat)} {S : SC} (hs : SOk S) (s : Nat) : SOk (trn T r ov S s) := by
  unfold trn
  cases tld T r ov S s with
  | none => exact hs
  | some j => exact telS_ok hs s j
theorem trns_ok {T : TD} {r : Option RD} {ov : Option (Nat × Option Nat)} {S : SC} (hs : SOk S) : ∀ n, SOk (trns T r ov S n)
  | 0 => hs
  | n + 1 => trn_ok (trns_ok hs n) n
theorem trn_T (T : TD) (r : Option RD) (ov : Option (Nat × Option Nat)) (S : SC) (s : Nat) : sT (trn T r ov S s) = sT S := by
  unfold trn
  cases tld T r ov S s <;> rfl
theorem trns_T (T : TD) (r : Option RD) (ov : Option (Nat × Option Nat)) (S : SC) : ∀ n, sT (trns T r ov S n) = sT S
  | 0 => rfl
  | n + 1 => (trn_T T r ov _ n).trans (trns_T T r ov S n)
theorem nxt_ok {S : SC} (hs : SOk S) (h : sT S < 100000) : SOk (nxt S) := by
  refine ⟨h, fun j x hx => ?_, hs.2.2.1, fun s t ht => ?_⟩
  · have := hs.2.1 j x hx
    show -1 ≤ x ∧ x ≤ ((sT S + 1 : Nat) : Int)
    omega
  · have := hs.2.2.2 s t ht
    show t ≤ sT S + 1
    omega
theorem tide1_ok {T : TD} {r : Option RD} {ov : Option (Nat × Option Nat)} {S : SC} (hs : SOk S) (h : sT S < 100000) : SOk (tide1 T r ov S) := nxt_ok (trns_ok hs _) (by rw [trns_T]; exact h)
theorem tide1_T (T : TD) (r : Option RD) (ov : Option (Nat × Option Nat)) (S : SC) : sT (tide1 T r ov S) = sT S + 1 := by
  show sT (trns T r ov S (tN T)) + 1 = _
  rw [trns_T]
theorem tides_T (T : TD) (r : Option RD) (S : SC) : ∀ n, sT (tides T r S n) = sT S + n
  | 0 => rfl
  | n + 1 => by rw [tides, tide1_T, tides_T T r S n]; omega
theorem tides_ok {T : TD} {r : Option RD} {S : SC} (hs : SOk S) : ∀ n, sT S + n ≤ 100000 → SOk (tides T r S n)
  | 0, _ => hs
  | n + 1, h => tide1_ok (tides_ok hs n (by omega)) (by rw [tides_T]; omega)
/-! the reference -/
def sLr (M : Mem) (a : Nat) (g : Nat → Int64) : Mem := (M.1, M.2.1, rowU M.2.2.1 a g, M.2.2.2)
/-- what a tide may change of the reference -/
def GE (m : Nat) (M M' : Mem) : Prop := mS M' = mS M ∧ mR M' = mR M ∧ (∀ a, a ≠ m + 1 → a ≠ m + 5 → a ≠ m + 7 → a ≠ m + 27 → mI M' a = mI M a) ∧ (∀ k, k ≠ 4 → k ≠ 5 → mI M' (m + 1) k = mI M (m + 1) k) ∧ (∀ a, a ≠ m + 25 → a ≠ m + 26 → mL M' a = mL M a)
theorem GE.rf (m : Nat) (M : Mem) : GE m M M := ⟨rfl, rfl, fun _ _ _ _ _ => rfl, fun _ _ _ => rfl, fun _ _ _ => rfl⟩
theorem GE.tr {m : Nat} {M1 M2 M3 : Mem} (h1 : GE m M1 M2) (h2 : GE m M2 M3) : GE m M1 M3 :=
  ⟨h2.1.trans h1.1, h2.2.1.trans h1.2.1, fun a a1 a2 a3 a4 => (h2.2.2.1 a a1 a2 a3 a4).trans (h1.2.2.1 a a1 a2 a3 a4), fun k k1 k2 => (h2.2.2.2.1 k k1 k2).trans (h1.2.2.2.1 k k1 k2), fun a a1 a2 => (h2.2.2.2.2 a a1 a2).trans (h1.2.2.2.2 a a1 a2)⟩
theorem GE.RI {m : Nat} {M M' : Mem} (h : GE m M M') (hR : RIs (mS M) (mR M) m) : RIs (mS M') (mR M') m := by rw [h.1, h.2.1]; exact hR
theorem GE.T {m : Nat} {M M' : Mem} {T : TD} (h : GE m M M') (hT : RT M m T) : RT M' m T := by
  have e2 := h.2.2.1 (m + 2) (by omega) (by omega) (by omega) (by omega)
  have e3 := h.2.2.1 (m + 3) (by omega) (by omega) (by omega) (by omega)
  have e4 := h.2.2.1 (m + 4) (by omega) (by omega) (by omega) (by omega)
  have e11 := h.2.2.1 (m + 11) (by omega) (by omega) (by omega) (by omega)
  have g := h.2.2.2.1
  refine ⟨⟨(g 0 (by decide) (by decide)).trans hT.1.1, (g 1 (by decide) (by decide)).trans hT.1.2.1, (g 2 (by decide) (by decide)).trans hT.1.2.2.1, (g 3 (by decide) (by decide)).trans hT.1.2.2.2⟩, ?_, ?_⟩
  · rw [e2]; exact hT.2.1
  · rw [e3, e4, e11]; exact hT.2.2
/-- the rule in force, as the reference has it -/
def RRu (M : Mem) (m : Nat) (r : Option RD) : Prop := r.elim (mI M (m + 1) 8 = -1) (fun w => mI M (m + 1) 8 ≠ -1 ∧ ∀ M' : Mem, RIs (mS M') (mR M') m → (∀ a, 18 ≤ a → a ≤ 23 → mI M' (m + a) = mI M (m + a)) → mI M' (m + 1) 8 = mI M (m + 1) 8 → ∃ g, f_X10_wanted m M' = some (w (fun k => if k < 11 then mL M' (m + 25) k else 0), sLr M' (m + 26) g))
theorem RRu.of {M M' : Mem} {m : Nat} {r : Option RD} (h : RRu M m r) (h1 : ∀ a, 18 ≤ a → a ≤ 23 → mI M' (m + a) = mI M (m + a)) (h2 : mI M' (m + 1) 8 = mI M (m + 1) 8) : RRu M' m r := by
  cases r with
  | none => exact h2.trans h
  | some w =>
    refine ⟨by rw [h2]; exact h.1, fun M2 hR g1 g2 => h.2 M2 hR (fun a a1 a2 => (g1 a a1 a2).trans (h1 a a1 a2)) (g2.trans h2)⟩
theorem GE.ru {m : Nat} {M M' : Mem} {r : Option RD} (h : GE m M M') (hr : RRu M m r) : RRu M' m r := hr.of (fun a a1 a2 => h.2.2.1 (m + a) (by omega) (by omega) (by omega) (by omega)) (h.2.2.2.1 8 (by decide) (by decide))
theorem toL {n : Nat} (h : n < 2 ^ 31) : Int32.toInt64 (nI n) = lN n := nI_l h
theorem mI_sLr (M : Mem) (a : Nat) (g : Nat → Int64) : mI (sLr M a g) = mI M := rfl
theorem mS_sLr (M : Mem) (a : Nat) (g : Nat → Int64) : mS (sLr M a g) = mS M := rfl
theorem mR_sLr (M : Mem) (a : Nat) (g : Nat → Int64) : mR (sLr M a g) = mR M := rfl
/-- rows of longs changed alone -/
def LE (m : Nat) (M M' : Mem) : Prop := mS M' = mS M ∧ mR M' = mR M ∧ mI M' = mI M ∧ (∀ a, a ≠ m + 25 → a ≠ m + 26 → mL M' a = mL M a)
theorem LE.rf (m : Nat) (M : Mem) : LE m M M := ⟨rfl, rfl, rfl, fun _ _ _ => rfl⟩
theorem LE.tr {m : Nat} {M1 M2 M3 : Mem} (h1 : LE m M1 M2) (h2 : LE m M2 M3) : LE m M1 M3 := ⟨h2.1.trans h1.1, h2.2.1.trans h1.2.1, h2.2.2.1.trans h1.2.2.1, fun a a1 a2 => (h2.2.2.2 a a1 a2).trans (h1.2.2.2 a a1 a2)⟩
theorem LE.GE {m : Nat} {M M' : Mem} (h : LE m M M') : GE m M M' := ⟨h.1, h.2.1, fun a _ _ _ _ => by rw [h.2.2.1], fun k _ _ => by rw [h.2.2.1], h.2.2.2⟩
theorem LE.S {m : Nat} {M M' : Mem} {T : TD} {S : SC} (h : LE m M M') (hS : RS M m T S) : RS M' m T S := by
  unfold RS
  rw [h.2.2.1]
  exact hS
