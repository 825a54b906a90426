/-! WHAT THE CALLS MEAN: bars, scenes, tides, in plain numbers -/
abbrev TD : Type := (Nat × Nat × Nat × Nat) × (Nat → Nat) × (Nat → Nat) × (Nat → Nat) × (Nat → Nat)
def tF (T : TD) : Nat := T.1.1
def tK (T : TD) : Nat := T.1.2.1
def tJ (T : TD) : Nat := T.1.2.2.1
def tN (T : TD) : Nat := T.1.2.2.2
def tP (T : TD) : Nat → Nat := T.2.1
def tC (T : TD) : Nat → Nat := T.2.2.1
def tE (T : TD) : Nat → Nat := T.2.2.2.1
def tW (T : TD) : Nat → Nat := T.2.2.2.2
/-- a scene: the tide, when each joke was heard, what each ship's crew knows, when each ship passed -/
abbrev SC : Type := Nat × (Nat → Option Int) × (Nat → Nat) × (Nat → Option Nat)
def sT (S : SC) : Nat := S.1
def sH (S : SC) : Nat → Option Int := S.2.1
def sW (S : SC) : Nat → Nat := S.2.2.1
def sP (S : SC) : Nat → Option Nat := S.2.2.2
def fset {α : Type} (f : Nat → α) (k : Nat) (v : α) : Nat → α := fun j => if j = k then v else f j
theorem fset_s {α : Type} (f : Nat → α) (k : Nat) (v : α) : fset f k v k = v := by simp [fset]
theorem fset_o {α : Type} (f : Nat → α) {k j : Nat} (v : α) (h : j ≠ k) : fset f k v j = f j := by simp [fset, h]
/-- a set as bits -/
def bmk (p : Nat → Bool) : Nat → Nat
  | 0 => 0
  | n + 1 => bmk p n ||| (if p n then 2 ^ n else 0)
def ctb (p : Nat → Bool) : Nat → Nat
  | 0 => 0
  | n + 1 => ctb p n + (if p n then 1 else 0)
def mxn (f : Nat → Nat) : Nat → Nat
  | 0 => 0
  | n + 1 => if mxn f n < f n then f n else mxn f n
def smn (f : Nat → Nat) : Nat → Nat
  | 0 => 0
  | n + 1 => smn f n + f n
theorem bmk_bit (p : Nat → Bool) : ∀ (n i : Nat), (bmk p n).testBit i = (decide (i < n) && p i)
  | 0, i => by simp [bmk]
  | n + 1, i => by
    rw [bmk, Nat.testBit_or, bmk_bit p n i]
    by_cases h : i = n
    · subst h
      by_cases hp : p i = true
      · simp [hp]
      · simp [hp]
    · by_cases hp : p n = true
      · have h2 : (2 ^ n).testBit i = false := by rw [Nat.testBit_two_pow]; simp; omega
        simp only [hp, if_true, h2, Bool.or_false]
        have : decide (i < n + 1) = decide (i < n) := by simp; omega
        rw [this]
      · simp only [hp]
        have : decide (i < n + 1) = decide (i < n) := by simp; omega
        rw [this]; simp
theorem bmk_lt (p : Nat → Bool) : ∀ n, bmk p n < 2 ^ n
  | 0 => by simp [bmk]
  | n + 1 => by
    have h := bmk_lt p n
    rw [bmk]
    have h2 : 2 ^ (n + 1) = 2 * 2 ^ n := by rw [Nat.pow_succ, Nat.mul_comm]
    exact Nat.or_lt_two_pow (by omega) (by by_cases hp : p n = true <;> simp [hp] <;> omega)
theorem bmk_cong {p q : Nat → Bool} : ∀ {n : Nat}, (∀ i, i < n → p i = q i) → bmk p n = bmk q n
  | 0, _ => rfl
  | n + 1, h => by rw [bmk, bmk, bmk_cong (fun i hi => h i (by omega)), h n (by omega)]
theorem ctb_cong {p q : Nat → Bool} : ∀ {n : Nat}, (∀ i, i < n → p i = q i) → ctb p n = ctb q n
  | 0, _ => rfl
  | n + 1, h => by rw [ctb, ctb, ctb_cong (fun i hi => h i (by omega)), h n (by omega)]
theorem ctb_le (p : Nat → Bool) : ∀ n, ctb p n ≤ n
  | 0 => Nat.le_refl 0
  | n + 1 => by
    have := ctb_le p n
    rw [ctb]
    by_cases hp : p n = true <;> simp [hp] <;> omega
theorem mxn_cong {p q : Nat → Nat} : ∀ {n : Nat}, (∀ i, i < n → p i = q i) → mxn p n = mxn q n
  | 0, _ => rfl
  | n + 1, h => by rw [mxn, mxn, mxn_cong (fun i hi => h i (by omega)), h n (by omega)]
theorem mxn_le {f : Nat → Nat} {b : Nat} : ∀ {n : Nat}, (∀ i, i < n → f i ≤ b) → mxn f n ≤ b
  | 0, _ => Nat.zero_le b
  | n + 1, h => by
    have h1 := mxn_le (f := f) (n := n) (fun i hi => h i (by omega))
    have h2 := h n (by omega)
    rw [mxn]
    by_cases hc : mxn f n < f n <;> simp [hc] <;> omega
theorem mxn_lt {f : Nat → Nat} {b : Nat} : ∀ {n : Nat}, 0 < b → (mxn f n < b ↔ ∀ i, i < n → f i < b)
  | 0, hb => ⟨fun _ i hi => absurd hi (Nat.not_lt_zero i), fun _ => hb⟩
  | n + 1, hb => by
    have ih := mxn_lt (f := f) (b := b) (n := n) hb
    rw [mxn]
    constructor
    · intro h i hi
      by_cases hc : mxn f n < f n
      · simp only [hc, if_true] at h
        rcases Nat.lt_or_ge i n with h1 | h1
        · exact ih.mp (by omega) i h1
        · have : i = n := by omega
          subst this; exact h
      · simp only [hc, if_false] at h
        rcases Nat.lt_or_ge i n with h1 | h1
        · exact ih.mp h i h1
        · have : i = n := by omega
          subst this; omega
    · intro h
      have h1 := ih.mpr (fun i hi => h i (by omega))
      have h2 := h n (by omega)
      by_cases hc : mxn f n < f n <;> simp [hc] <;> omega
theorem smn_cong {p q : Nat → Nat} : ∀ {n : Nat}, (∀ i, i < n → p i = q i) → smn p n = smn q n
  | 0, _ => rfl
  | n + 1, h => by rw [smn, smn, smn_cong (fun i hi => h i (by omega)), h n (by omega)]
theorem smn_le {f : Nat → Nat} {b : Nat} : ∀ {n : Nat}, (∀ i, i < n → f i ≤ b) → smn f n ≤ n * b
  | 0, _ => by simp [smn]
  | n + 1, h => by
    have h1 := smn_le (f := f) (n := n) (fun i hi => h i (by omega))
    have h2 := h n (by omega)
    rw [smn, Nat.succ_mul]
    omega
/-! jokes -/
def b2 (b : Bool) : Nat := if b then 1 else 0
def alk (T : TD) (a b : Nat) : Nat := b2 (decide (tP T (3 * a) = tP T (3 * b))) + b2 (decide (tP T (3 * a + 1) = tP T (3 * b + 1))) + b2 (decide (tP T (3 * a + 2) = tP T (3 * b + 2)))
theorem b2_le (b : Bool) : b2 b ≤ 1 := by cases b <;> decide
theorem alk_le (T : TD) (a b : Nat) : alk T a b ≤ 3 := by
  have h1 := b2_le (decide (tP T (3 * a) = tP T (3 * b)))
  have h2 := b2_le (decide (tP T (3 * a + 1) = tP T (3 * b + 1)))
  have h3 := b2_le (decide (tP T (3 * a + 2) = tP T (3 * b + 2)))
  unfold alk
  omega
/-- he remembers it -/
def rem (T : TD) (S : SC) (j : Nat) : Bool := (sH S j).elim false (fun h => decide ((sT S : Int) - h < (tF T : Int)))
def lkO (T : TD) (S : SC) (j : Nat) : Nat := mxn (fun k => if rem T S k then alk T j k else 0) (tJ T)
def isN (T : TD) (S : SC) (j : Nat) : Bool := decide (lkO T S j < tK T)
def snc (S : SC) (j : Nat) : Nat := (sH S j).elim 99 (fun h => if 99 < ((sT S : Int) - h).toNat then 99 else ((sT S : Int) - h).toNat)
def wts (S : SC) (s : Nat) : Bool := (sP S s).isNone
def wtm (T : TD) (S : SC) : Nat := bmk (wts S) (tN T)
def wtc (T : TD) (S : SC) : Nat := ctb (wts S) (tN T)
def knb (T : TD) (S : SC) (j : Nat) : Nat := ctb (fun s => wts S s && (sW S s).testBit j) (tN T)
def ern (T : TD) (S : SC) (s : Nat) : Nat := (sP S s).elim 0 (fun t => if t ≤ tE T s then tC T s else 0)
def ernA (T : TD) (S : SC) : Nat := smn (ern T S) (tN T)
/-! what must hold of the numbers -/
def TOk (T : TD) : Prop := (tF T ≤ 60 ∧ tK T ≤ 3 ∧ tJ T ≤ 8 ∧ tN T ≤ 5) ∧ (tF T = 0 → tJ T = 0 ∧ tN T = 0) ∧ (0 < tF T → 0 < tK T) ∧ (∀ i, tP T i < 10) ∧ (∀ s, tC T s < 100 ∧ tE T s ≤ 60 ∧ tW T s < 256)
def SOk (S : SC) : Prop := sT S ≤ 100000 ∧ (∀ j h, sH S j = some h → -1 ≤ h ∧ h ≤ (sT S : Int)) ∧ (∀ s, sW S s < 256) ∧ (∀ s t, sP S s = some t → t ≤ sT S)
/-! numbers as the machine has them -/
def eH (c : Int32) (h : Option Int) : Int32 := h.elim c Int32.ofInt
def eP (p : Option Nat) : Int32 := p.elim (-1) nI
theorem eP_none {p : Option Nat} (hp : ∀ t, p = some t → t < 2 ^ 31) : (eP p = -1) = (p.isNone = true) := by
  cases p with
  | none => simp [eP]
  | some t =>
    have h := hp t rfl
    simp only [eP, Option.elim, Option.isNone, eq_iff_iff]
    constructor
    · intro e
      have h1 := congrArg Int32.toInt e
      rw [nI_toInt h] at h1
      have h2 : (-1 : Int32).toInt = -1 := by decide
      omega
    · intro e; cases e
