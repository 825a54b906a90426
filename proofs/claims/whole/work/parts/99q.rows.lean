/-! A ROW, tide by tide -/
theorem dgt_shift {b n x q : Nat} (hq : q < n) : dgt b (n + 1) x (q + 1) = dgt b n (x % b ^ n) q := by
  unfold dgt
  rw [show n + 1 - 1 - (q + 1) = n - 1 - q from by omega]
  obtain ⟨e, he⟩ : ∃ e, e = n - 1 - q := ⟨_, rfl⟩
  rw [← he, show n = e + (q + 1) from by omega, Nat.pow_add, Nat.mod_mul_right_div_self, Nat.mod_mod_of_dvd]
  rw [Nat.pow_succ]
  exact Nat.dvd_mul_left b (b ^ q)
theorem dgo_shift {b n x q : Nat} (hq : q < n) : dgo b (n + 1) x (q + 1) = dgo b n (x % b ^ n) q := by
  unfold dgo
  rw [dgt_shift hq]
theorem rrun_shift {T : TD} {r : Option RD} {s n x : Nat} {S : SC} : ∀ q, q ≤ n → rrun T r s (n + 1) x S (q + 1) = (rstep T r s (dgo (tJ T + 1) (n + 1) x 0) S).bind (fun S' => rrun T r s n (x % (tJ T + 1) ^ n) S' q)
  | 0, _ => by
    show (some S).bind _ = _
    cases h : rstep T r s (dgo (tJ T + 1) (n + 1) x 0) S with
    | none => exact h
    | some S' => exact h
  | q + 1, hq => by
    show (rrun T r s (n + 1) x S (q + 1)).bind _ = _
    rw [rrun_shift q (by omega), dgo_shift (by omega)]
    cases rstep T r s (dgo (tJ T + 1) (n + 1) x 0) S with
    | none => rfl
    | some S' => rfl
theorem pbr_rec {T : TD} {r : Option RD} {s n x : Nat} {S : SC} : pbr T r s (n + 1) x S = (rstep T r s (dgo (tJ T + 1) (n + 1) x 0) S).elim 100000 (fun S' => pbr T r s n (x % (tJ T + 1) ^ n) S') := by
  unfold pbr
  rw [rrun_shift n (Nat.le_refl n)]
  cases rstep T r s (dgo (tJ T + 1) (n + 1) x 0) S with
  | none => rfl
  | some S' => rfl
theorem bst_none {f : Nat → Nat} : ∀ N, (∀ x, x < N → 100000 ≤ f x) → bst f N = (100000, 0)
  | 0, _ => rfl
  | N + 1, h => by
    rw [bst, bst_none N (fun x hx => h x (by omega)), if_neg]
    have := h N (by omega)
    show ¬ f N < 100000
    omega
theorem bst_ge {f : Nat → Nat} {v : Nat} (hv : v < 100000) : ∀ N, (∀ x, x < N → v < f x) → v < (bst f N).1
  | 0, _ => hv
  | N + 1, h => by
    rw [bst]
    split
    · exact h N (by omega)
    · exact bst_ge hv N (fun x hx => h x (by omega))
/-- the first of the least -/
theorem bst_val {f : Nat → Nat} {v x0 : Nat} (h2 : f x0 = v) (hv : v < 100000) (h4 : ∀ x, x < x0 → v < f x) : ∀ N, x0 < N → (∀ x, x < N → v ≤ f x) → bst f N = (v, x0)
  | 0, h, _ => absurd h (Nat.not_lt_zero x0)
  | N + 1, h1, h3 => by
    rw [bst]
    by_cases e : x0 = N
    · rw [← e, h2, if_pos]
      exact bst_ge hv x0 h4
    · rw [bst_val h2 hv h4 N (by omega) (fun x hx => h3 x (by omega)), if_neg]
      have := h3 N (by omega)
      show ¬ f N < v
      omega
theorem s_row_of (hy : ∀ {M : Mem} {T : TD} {S : SC} {c : Nat} {W : Nat → RD} {fo : Option Nat}, CE M T S c W fo → ∀ a b d : Int32, WP (f_X9_row 0 a b d M) (fun v M' => v = q_row T (fo.map W) S a b d ∧ AF M M')) {M : Mem} {G : GD} (h : ST M G) (a b c : Int32) : BO (f_X9_row 0 a b c) (f_X10_row 66 a b c) M := BO.q h (hy (h.2.1.ce h.2.2) a b c) (fun M1 g => x_row (g.re h.2.2) a b c)
