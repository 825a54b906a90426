/-! A GAME: what both sides need -/
theorem n_md {a b : Nat} (ha : a < 2 ^ 31) (hb : b < 2 ^ 31) : nI a - nI a / nI b * nI b = nI (a % b) := by
  have h1 := Nat.div_le_self a b
  rw [n_div ha hb, n_mul, n_sub (Nat.div_mul_le_self _ _)]
  congr 1
  have := Nat.div_add_mod a b
  rw [Nat.mul_comm] at this
  omega
theorem ixo_e (y : Nat) : nI y - nI 1 = eP (ixo y) := by
  cases y with
  | zero => decide
  | succ y => rw [ixo_s, n_sub (by omega)]; rfl
/-- may it be told in a turn -/
def gok (S : SC) (s : Nat) (c : Option Nat) : Bool := c.elim true (fun j => wts S s && (sW S s).testBit j)
/-- behind a turn -/
def gnx (T : TD) (S : SC) (s : Nat) (c : Option Nat) : SC := nxt (c.elim S (fun j => telS T S s j))
/-- what a turn wins -/
def ggn (T : TD) (S : SC) (s : Nat) (c : Option Nat) : Nat := c.elim 0 (fun j => if isN T S j then ern T (telS T S s j) s else 0)
/-- the first best of 0 to n -/
def bsx (ok : Nat → Bool) (g : Nat → Int) : Nat → Int × Nat
  | 0 => (g 0, 0)
  | n + 1 => if ok (n + 1) && decide ((bsx ok g n).1 < g (n + 1)) then (g (n + 1), n + 1) else bsx ok g n
/-- what the one to move can win in n turns, and the first choice that does -/
def gw (T : TD) : Nat → Nat → Nat → SC → Int × Nat
  | 0, _, _, _ => (0, 0)
  | n + 1, a, b, S => bsx (fun i => gok S a (ixo i)) (fun i => (ggn T S a (ixo i) : Int) - (gw T n b a (gnx T S a (ixo i))).1) (tJ T)
theorem bsx_b {ok : Nat → Bool} {g : Nat → Int} {lo hi : Int} (h : ∀ i, lo ≤ g i ∧ g i ≤ hi) : ∀ n, lo ≤ (bsx ok g n).1 ∧ (bsx ok g n).1 ≤ hi
  | 0 => h 0
  | n + 1 => by
    rw [bsx]
    split
    · exact h (n + 1)
    · exact bsx_b h n
theorem bsx_at {ok : Nat → Bool} {g : Nat → Int} (h0 : ok 0 = true) : ∀ n, ok (bsx ok g n).2 = true ∧ (bsx ok g n).1 = g (bsx ok g n).2 ∧ (bsx ok g n).2 ≤ n
  | 0 => ⟨h0, rfl, Nat.le_refl 0⟩
  | n + 1 => by
    have ih := bsx_at (g := g) h0 n
    rw [bsx]
    split
    · rename_i c
      exact ⟨(Bool.and_eq_true_iff.mp c).1, rfl, Nat.le_refl _⟩
    · exact ⟨ih.1, ih.2.1, by omega⟩
theorem ern_le {T : TD} (hk : TOk T) (S : SC) (s : Nat) : ern T S s ≤ 99 := by
  have := hk.2.2.2.2 s
  unfold ern
  cases sP S s with
  | none => show 0 ≤ 99; omega
  | some t =>
    show (if t ≤ tE T s then tC T s else 0) ≤ 99
    split <;> omega
theorem ggn_le {T : TD} (hk : TOk T) (S : SC) (s : Nat) (c : Option Nat) : ggn T S s c ≤ 99 := by
  cases c with
  | none => show 0 ≤ 99; omega
  | some j =>
    show (if isN T S j then ern T (telS T S s j) s else 0) ≤ 99
    have := ern_le hk (telS T S s j) s
    split <;> omega
theorem gw_b {T : TD} (hk : TOk T) : ∀ (n : Nat) a b S, -(100 * (n : Int)) ≤ (gw T n a b S).1 ∧ (gw T n a b S).1 ≤ 100 * (n : Int)
  | 0, a, b, S => by
    show -(100 * (0 : Int)) ≤ 0 ∧ (0 : Int) ≤ 100 * 0
    omega
  | n + 1, a, b, S => by
    rw [gw]
    refine bsx_b (fun i => ?_) _
    have h1 := gw_b hk n b a (gnx T S a (ixo i))
    have h2 := ggn_le hk S a (ixo i)
    have h3 : ((n + 1 : Nat) : Int) = (n : Int) + 1 := by omega
    rw [h3]
    omega
/-- whose turn it is -/
def mvr (p q k : Nat) : Nat := if k % 2 = 0 then p else q
def sg (k : Nat) (v : Int) : Int := if k % 2 = 0 then v else -v
theorem mvr_s (p q k : Nat) : mvr p q (k + 1) = mvr q p k := by
  unfold mvr
  by_cases h : k % 2 = 0
  · rw [if_neg (by omega), if_pos h]
  · rw [if_pos (by omega), if_neg h]
theorem sg_s (k : Nat) (v : Int) : sg (k + 1) v = - sg k v := by
  unfold sg
  by_cases h : k % 2 = 0
  · rw [if_neg (by omega), if_pos h]
  · rw [if_pos (by omega), if_neg h]; omega
/-- the first k turns of a game, as a code's digits tell them -/
def grun (T : TD) (p q : Nat) (S : SC) : Nat → Nat → Option SC
  | 0, _ => some S
  | k + 1, y => (grun T p q S k (y / (tJ T + 1))).bind (fun S' => if gok S' (mvr p q k) (ixo (y % (tJ T + 1))) then some (gnx T S' (mvr p q k) (ixo (y % (tJ T + 1)))) else none)
def gE (T : TD) (p q : Nat) (S : SC) : Int := (ern T S p : Int) - (ern T S q : Int)
/-- what a beginning of k turns comes to, if both do their best in what is left of n -/
def gV (T : TD) (p q : Nat) (S : SC) (n k y : Nat) : Int := (grun T p q S k y).elim (-100000) (fun S' => gE T p q S' + sg k (gw T (n - k) (mvr p q k) (mvr q p k) S').1)
theorem gV_b {T : TD} (hk : TOk T) (p q : Nat) (S : SC) {n : Nat} (hn : n ≤ 3) (k y : Nat) : gV T p q S n k y = -100000 ∨ (-1000 ≤ gV T p q S n k y ∧ gV T p q S n k y ≤ 1000) := by
  unfold gV
  cases grun T p q S k y with
  | none => exact Or.inl rfl
  | some S' =>
    refine Or.inr ?_
    show -1000 ≤ gE T p q S' + sg k (gw T (n - k) (mvr p q k) (mvr q p k) S').1 ∧ gE T p q S' + sg k (gw T (n - k) (mvr p q k) (mvr q p k) S').1 ≤ 1000
    have h1 := gw_b hk (n - k) (mvr p q k) (mvr q p k) S'
    have h2 := ern_le hk S' p
    have h3 := ern_le hk S' q
    have h4 : ((n - k : Nat) : Int) ≤ 3 := by omega
    unfold gE sg
    split <;> omega
/-- a turn's gain is the mover's -/
theorem ern_tel {T : TD} {S : SC} {s j : Nat} (hw : wts S s = true) : (ern T (telS T S s j) s = if isN T S j then ern T (telS T S s j) s else 0) ∧ ern T S s = 0 := by
  rw [wts_n] at hw
  have h0 : ern T S s = 0 := by unfold ern; rw [hw]; rfl
  refine ⟨?_, h0⟩
  cases hn : isN T S j with
  | true => rw [if_pos rfl]
  | false =>
    rw [if_neg (by decide)]
    have : sP (telS T S s j) = sP S := by
      show (if isN T S j then fset (sP S) s (some (sT S)) else sP S) = _
      rw [hn]; rfl
    unfold ern
    rw [this, hw]; rfl
theorem ern_oth {T : TD} {S : SC} {s j x : Nat} (h : x ≠ s) : ern T (telS T S s j) x = ern T S x := by
  have : sP (telS T S s j) x = sP S x := by
    show (if isN T S j then fset (sP S) s (some (sT S)) else sP S) x = _
    split
    · exact fset_o _ _ h
    · rfl
  unfold ern
  rw [this]
theorem gE_step {T : TD} {p q : Nat} (hpq : p ≠ q) {S : SC} {k : Nat} {c : Option Nat} (h : gok S (mvr p q k) c = true) : gE T p q (gnx T S (mvr p q k) c) = gE T p q S + sg k (ggn T S (mvr p q k) c : Int) := by
  cases c with
  | none =>
    show gE T p q S = gE T p q S + sg k ((0 : Nat) : Int)
    unfold sg
    split <;> omega
  | some j =>
    have hw : wts S (mvr p q k) = true := (Bool.and_eq_true_iff.mp h).1
    show (ern T (telS T S (mvr p q k) j) p : Int) - (ern T (telS T S (mvr p q k) j) q : Int) = (ern T S p : Int) - (ern T S q : Int) + sg k ((if isN T S j then ern T (telS T S (mvr p q k) j) (mvr p q k) else 0 : Nat) : Int)
    obtain ⟨e1, e2⟩ := ern_tel (T := T) (j := j) hw
    rw [← e1]
    by_cases hk : k % 2 = 0
    · have em : mvr p q k = p := if_pos hk
      have es : ∀ v, sg k v = v := fun v => if_pos hk
      rw [em] at e2 ⊢
      rw [es, ern_oth (Ne.symm hpq), e2]
      omega
    · have em : mvr p q k = q := if_neg hk
      have es : ∀ v, sg k v = -v := fun v => if_neg hk
      rw [em] at e2 ⊢
      rw [es, ern_oth hpq, e2]
      omega
/-- the first best of a group, as the reference seeks it -/
def bix (P : Nat → Int) (w : Bool) : Nat → Nat
  | 0 => 0
  | n + 1 => if P (n + 1) ≠ -100000 ∧ (if w then P (bix P w n) < P (n + 1) else P (n + 1) < P (bix P w n)) then n + 1 else bix P w n
theorem bix_le (P : Nat → Int) (w : Bool) : ∀ n, bix P w n ≤ n
  | 0 => Nat.le_refl 0
  | n + 1 => by
    have := bix_le P w n
    rw [bix]
    by_cases c : P (n + 1) ≠ -100000 ∧ (if w then P (bix P w n) < P (n + 1) else P (n + 1) < P (bix P w n))
    · rw [if_pos c]; exact Nat.le_refl _
    · rw [if_neg c]; omega
theorem bix_none {P : Nat → Int} {w : Bool} : ∀ n, (∀ d, d ≤ n → P d = -100000) → bix P w n = 0
  | 0, _ => rfl
  | n + 1, h => by
    rw [bix, if_neg (fun z => z.1 (h (n + 1) (Nat.le_refl _)))]
    exact bix_none n (fun d hd => h d (by omega))
theorem bix_bsx {P : Nat → Int} {ok : Nat → Bool} {g : Nat → Int} {E : Int} {k : Nat} (h0 : ok 0 = true) : ∀ n, (∀ d, d ≤ n → (ok d = true → P d = E + sg k (g d) ∧ P d ≠ -100000) ∧ (ok d = false → P d = -100000)) → bix P (decide (k % 2 = 0)) n = (bsx ok g n).2
  | 0, _ => rfl
  | n + 1, h => by
    have ih := bix_bsx h0 n (fun d hd => h d (by omega))
    obtain ⟨b1, b2, b3⟩ := bsx_at (g := g) h0 n
    have hb := (h _ (Nat.le_succ_of_le b3)).1 b1
    rw [bix, bsx, ih]
    cases ho : ok (n + 1) with
    | false =>
      rw [if_neg (fun z => z.1 ((h (n + 1) (Nat.le_refl _)).2 ho)), Bool.false_and, if_neg (by decide)]
    | true =>
      have hn := (h (n + 1) (Nat.le_refl _)).1 ho
      have key : (P (n + 1) ≠ -100000 ∧ (if decide (k % 2 = 0) then P (bsx ok g n).2 < P (n + 1) else P (n + 1) < P (bsx ok g n).2)) ↔ (bsx ok g n).1 < g (n + 1) := by
        rw [b2]
        obtain ⟨hn1, hn2⟩ := hn
        obtain ⟨hb1, hb2⟩ := hb
        by_cases hk : k % 2 = 0
        · rw [decide_eq_true hk, if_pos rfl]
          have es : ∀ v, sg k v = v := fun v => if_pos hk
          rw [es] at hn1 hb1
          constructor
          · intro z; have := z.2; omega
          · intro z; exact ⟨hn2, by omega⟩
        · rw [decide_eq_false hk, if_neg (by decide)]
          have es : ∀ v, sg k v = -v := fun v => if_neg hk
          rw [es] at hn1 hb1
          constructor
          · intro z; have := z.2; omega
          · intro z; exact ⟨hn2, by omega⟩
      rw [Bool.true_and]
      by_cases c : (bsx ok g n).1 < g (n + 1)
      · rw [if_pos (key.mpr c), decide_eq_true c, if_pos rfl]
      · rw [if_neg (fun z => c (key.mp z)), decide_eq_false c, if_neg (by decide)]
theorem grun_s {T : TD} {p q : Nat} {S : SC} {k y d : Nat} (hd : d < tJ T + 1) : grun T p q S (k + 1) ((tJ T + 1) * y + d) = (grun T p q S k y).bind (fun S' => if gok S' (mvr p q k) (ixo d) then some (gnx T S' (mvr p q k) (ixo d)) else none) := by
  have e := cd_dv (i := y) hd
  rw [Nat.mul_comm] at e
  rw [grun, e.1, e.2]
/-- one fold of the plays -/
theorem gV_fold {T : TD} (hk : TOk T) {p q : Nat} (hpq : p ≠ q) {S : SC} {n k : Nat} (hn : n ≤ 3) (hkn : k < n) (y : Nat) :
    gV T p q S n (k + 1) ((tJ T + 1) * y + bix (fun d => gV T p q S n (k + 1) ((tJ T + 1) * y + d)) (decide (k % 2 = 0)) (tJ T)) = gV T p q S n k y ∧ ∀ S', grun T p q S k y = some S' → bix (fun d => gV T p q S n (k + 1) ((tJ T + 1) * y + d)) (decide (k % 2 = 0)) (tJ T) = (gw T (n - k) (mvr p q k) (mvr q p k) S').2 := by
  cases e : grun T p q S k y with
  | none =>
    have hz : ∀ d, d ≤ tJ T → gV T p q S n (k + 1) ((tJ T + 1) * y + d) = -100000 := fun d hd => by
      unfold gV
      rw [grun_s (by omega), e]; rfl
    refine ⟨?_, fun S' h => by cases h⟩
    rw [bix_none (P := fun d => gV T p q S n (k + 1) ((tJ T + 1) * y + d)) (tJ T) hz, hz 0 (by omega)]
    unfold gV
    rw [e]; rfl
  | some S' =>
    obtain ⟨ok, hok⟩ : ∃ ok : Nat → Bool, ok = fun i => gok S' (mvr p q k) (ixo i) := ⟨_, rfl⟩
    obtain ⟨g, hg⟩ : ∃ g : Nat → Int, g = fun i => (ggn T S' (mvr p q k) (ixo i) : Int) - (gw T (n - k - 1) (mvr q p k) (mvr p q k) (gnx T S' (mvr p q k) (ixo i))).1 := ⟨_, rfl⟩
    have eg : gw T (n - k) (mvr p q k) (mvr q p k) S' = bsx ok g (tJ T) := by
      rw [show n - k = (n - k - 1) + 1 from by omega, gw, hok, hg]
    have h0 : ok 0 = true := by rw [hok]; rfl
    have hP : ∀ d, d ≤ tJ T → (ok d = true → gV T p q S n (k + 1) ((tJ T + 1) * y + d) = gE T p q S' + sg k (g d) ∧ gV T p q S n (k + 1) ((tJ T + 1) * y + d) ≠ -100000) ∧ (ok d = false → gV T p q S n (k + 1) ((tJ T + 1) * y + d) = -100000) := fun d hd => by
      constructor
      · intro ho
        have ho' : gok S' (mvr p q k) (ixo d) = true := by rw [hok] at ho; exact ho
        have eG : grun T p q S (k + 1) ((tJ T + 1) * y + d) = some (gnx T S' (mvr p q k) (ixo d)) := by
          rw [grun_s (by omega), e]
          show (if gok S' (mvr p q k) (ixo d) then some (gnx T S' (mvr p q k) (ixo d)) else none) = _
          rw [ho', if_pos rfl]
        have eV : gV T p q S n (k + 1) ((tJ T + 1) * y + d) = gE T p q S' + sg k (g d) := by
          unfold gV
          rw [eG]
          show gE T p q (gnx T S' (mvr p q k) (ixo d)) + sg (k + 1) (gw T (n - (k + 1)) (mvr p q (k + 1)) (mvr q p (k + 1)) (gnx T S' (mvr p q k) (ixo d))).1 = _
          rw [gE_step hpq ho', sg_s, mvr_s, mvr_s, hg, show n - (k + 1) = n - k - 1 from by omega]
          show _ = gE T p q S' + sg k ((ggn T S' (mvr p q k) (ixo d) : Int) - (gw T (n - k - 1) (mvr q p k) (mvr p q k) (gnx T S' (mvr p q k) (ixo d))).1)
          unfold sg
          split <;> omega
        refine ⟨eV, fun z => ?_⟩
        have hb := gw_b hk (n - (k + 1)) (mvr p q (k + 1)) (mvr q p (k + 1)) (gnx T S' (mvr p q k) (ixo d))
        have h2 := ern_le hk (gnx T S' (mvr p q k) (ixo d)) p
        have h3 := ern_le hk (gnx T S' (mvr p q k) (ixo d)) q
        have h4 : ((n - (k + 1) : Nat) : Int) ≤ 3 := by omega
        unfold gV at z
        rw [eG] at z
        have z : gE T p q (gnx T S' (mvr p q k) (ixo d)) + sg (k + 1) (gw T (n - (k + 1)) (mvr p q (k + 1)) (mvr q p (k + 1)) (gnx T S' (mvr p q k) (ixo d))).1 = -100000 := z
        unfold gE sg at z
        split at z <;> omega
      · intro ho
        have ho' : gok S' (mvr p q k) (ixo d) = false := by rw [hok] at ho; exact ho
        unfold gV
        rw [grun_s (by omega), e]
        show Option.elim (if gok S' (mvr p q k) (ixo d) then some (gnx T S' (mvr p q k) (ixo d)) else none) (-100000) _ = _
        rw [ho', if_neg (by decide)]; rfl
    have eb := bix_bsx (P := fun d => gV T p q S n (k + 1) ((tJ T + 1) * y + d)) (E := gE T p q S') (k := k) h0 (tJ T) hP
    obtain ⟨b1, b2, b3⟩ := bsx_at (g := g) h0 (tJ T)
    refine ⟨?_, fun S'' h => ?_⟩
    · rw [eb, ((hP _ b3).1 b1).1, ← b2, ← eg]
      unfold gV
      rw [e]; rfl
    · cases h
      rw [eb, eg]
theorem ofI_inj {a b : Int} (h1 : -200000 ≤ a) (h2 : a ≤ 200000) (h3 : -200000 ≤ b) (h4 : b ≤ 200000) : (Int32.ofInt a = Int32.ofInt b) = (a = b) := by
  refine propext ⟨fun z => ?_, fun z => by rw [z]⟩
  have := congrArg Int32.toInt z
  rw [ofI_toInt h1 h2, ofI_toInt h3 h4] at this
  exact this
theorem ofI_le {a b : Int} (h1 : -200000 ≤ a) (h2 : a ≤ 200000) (h3 : -200000 ≤ b) (h4 : b ≤ 200000) : (Int32.ofInt a ≤ Int32.ofInt b) = (a ≤ b) := by
  rw [Int32.le_iff_toInt_le, ofI_toInt h1 h2, ofI_toInt h3 h4]
theorem grun_ok {T : TD} {p q : Nat} {S : SC} (hs : SOk S) : ∀ k y S', sT S + k ≤ 100000 → grun T p q S k y = some S' → SOk S' ∧ sT S' = sT S + k
  | 0, y, S', _, h => by cases h; exact ⟨hs, rfl⟩
  | k + 1, y, S', hb, h => by
    rw [grun] at h
    cases e : grun T p q S k (y / (tJ T + 1)) with
    | none => rw [e] at h; cases h
    | some S1 =>
      rw [e] at h
      obtain ⟨h1, h2⟩ := grun_ok hs k _ S1 (by omega) e
      have h : (if gok S1 (mvr p q k) (ixo (y % (tJ T + 1))) then some (gnx T S1 (mvr p q k) (ixo (y % (tJ T + 1)))) else none) = some S' := h
      split at h
      · cases h
        unfold gnx
        cases ixo (y % (tJ T + 1)) with
        | none => exact ⟨nxt_ok h1 (by show sT S1 < 100000; omega), by show sT S1 + 1 = _; omega⟩
        | some j => exact ⟨nxt_ok (telS_ok h1 _ _) (by show sT S1 < 100000; omega), by show sT S1 + 1 = _; omega⟩
      · cases h
/-- what the game answers -/
def gameA (T : TD) (S : SC) (p q n w : Nat) : Int32 := if w = 0 then Int32.ofInt (gw T n p q S).1 else eP (ixo (gw T n p q S).2)
def q_game (T : TD) (S : SC) (a b c d : Int32) : Int32 := if wtI T S a && wtI T S b && decide (a ≠ b) && inR c 1 3 && inR d 0 1 then gameA T S a.toNatClampNeg b.toNatClampNeg c.toNatClampNeg d.toNatClampNeg else -1000
