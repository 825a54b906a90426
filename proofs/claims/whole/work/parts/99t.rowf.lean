/-! THE CLASS: a row is sought: what it leaves -/
theorem fsm_all {α : Type} {g : Nat → Option α} : ∀ {n}, (∀ i, i < n → g i = none) → fsm g n = none
  | 0, _ => rfl
  | n + 1, h => by
    rw [fsm, fsm_all (fun i hi => h i (by omega)), h n (by omega)]; rfl
theorem fsm_fst {α : Type} {g : Nat → Option α} {i : Nat} {y : α} (h1 : g i = some y) (h2 : ∀ j, j < i → g j = none) : ∀ {n}, i < n → fsm g n = some (i, y)
  | 0, h => absurd h (Nat.not_lt_zero i)
  | n + 1, h => by
    rw [fsm]
    by_cases e : i = n
    · rw [← e, fsm_all h2, h1]; rfl
    · rw [fsm_fst h1 h2 (n := n) (by omega)]; rfl
/-- the levels from p on, the pilot's own and the choices from p on change -/
def LFr (p : Nat) (M M' : Mem) : Prop := mS M' = mS M ∧ (∀ a k, (a = 30 → k ≠ 4) → mR M' a k = mR M a k) ∧ (∀ a, a < 30 ∨ (32 < a ∧ a < 38) ∨ (38 < a ∧ a < 46 + 4 * p) ∨ 65 < a → mI M' a = mI M a) ∧ (∀ a, a < 103 → mL M' a = mL M a) ∧ ∀ i, i < p → mI M' 38 i = mI M 38 i
section LFR
variable {p : Nat} {M M1 M2 M' : Mem}
theorem LFr.rf (p : Nat) (M : Mem) : LFr p M M := ⟨rfl, fun _ _ _ => rfl, fun _ _ => rfl, fun _ _ => rfl, fun _ _ => rfl⟩
theorem LFr.tr (h1 : LFr p M M1) (h2 : LFr p M1 M2) : LFr p M M2 := ⟨h2.1.trans h1.1, fun a k h => (h2.2.1 a k h).trans (h1.2.1 a k h), fun a h => (h2.2.2.1 a h).trans (h1.2.2.1 a h), fun a h => (h2.2.2.2.1 a h).trans (h1.2.2.2.1 a h), fun i h => (h2.2.2.2.2 i h).trans (h1.2.2.2.2 i h)⟩
theorem LFr.dn (h : LFr (p + 1) M M1) : LFr p M M1 := ⟨h.1, h.2.1, fun a ha => h.2.2.1 a (by omega), h.2.2.2.1, fun i hi => h.2.2.2.2 i (by omega)⟩
theorem PF.L {q : Nat} (h : PF q M M') (hq : 46 + 4 * p ≤ q ∧ q ≤ 62) : LFr p M M' := ⟨h.1, h.2.1, fun a ha => h.2.2.1 a (by omega) (by omega) (by omega) (by omega) (by omega) (by omega), h.2.2.2, fun i _ => by rw [h.2.2.1 38 (by omega) (by omega) (by omega) (by omega) (by omega) (by omega)]⟩
theorem PX.L (h : PX M M') : LFr p M M' := ⟨h.1, h.2.1, fun a ha => h.2.2.1 a (by omega) (by omega) (by omega), h.2.2.2, fun i _ => by rw [h.2.2.1 38 (by omega) (by omega) (by omega)]⟩
theorem SF.L {q : Nat} (h : SF q M M') (hq : 46 + 4 * p ≤ q ∧ q ≤ 62) : LFr p M M' := ⟨h.1, fun a k _ => by rw [h.2.1], fun a ha => h.2.2.1 a (by omega) (by omega) (by omega) (by omega), fun a _ => by rw [h.2.2.2], fun i _ => by rw [h.2.2.1 38 (by omega) (by omega) (by omega) (by omega)]⟩
theorem LFr.w (M : Mem) (v : Int32) {k : Nat} (hk : p ≤ k) : LFr p M (sI M 38 k v) := ⟨rfl, fun _ _ _ => rfl, fun a ha => sI_row (by omega), fun _ _ => rfl, fun i hi => by rw [mI_sI, if_neg (by omega)]⟩
theorem LFr.CI (h : LFr p M M') (hC : CIs (mS M) (mR M)) : CIs (mS M') (mR M') := hC.of (fun a _ => by rw [h.1]) (fun a k _ _ _ hn => h.2.1 a k (fun e z => hn ⟨e, Or.inr z⟩))
theorem LFr.T {T : TD} (h : LFr p M M') (hT : CT M 15 T) : CT M' 15 T := hT.of (fun i hi => h.2.2.1 _ (by omega))
theorem LFr.ru {r : Option RD} (h : LFr p M M') (hr : CRu M r) : CRu M' r := hr.of h.1 (fun a k e => h.2.1 a k (by omega)) (fun a ha => h.2.2.1 a (by omega))
theorem LFr.C {T : TD} {S : SC} {p' : Nat} (h : LFr p M M') (hp : p' < p) (hS : CC M (46 + 4 * p') T S) : CC M' (46 + 4 * p') T S := hS.of (fun i hi => h.2.2.1 _ (by omega))
theorem LFr.AG (h : LFr p M M') : AG M M' := ⟨⟨h.1, fun a k hn => h.2.1 a k (fun e z => hn ⟨e, Or.inr z⟩), fun a ha => h.2.2.1 a (by omega), h.2.2.2.1⟩, h.2.1 30 0 (fun _ => by decide)⟩
end LFR
