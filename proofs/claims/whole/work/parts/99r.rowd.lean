/-! A ROW: what the search by depth finds -/
section ROWD
variable {T : TD} {r : Option RD} {s : Nat}
theorem trns_ov {S : SC} {c : Option Nat} : ∀ k, k ≤ s → trns T r (some (s, c)) S k = trns T r none S k
  | 0, _ => rfl
  | k + 1, h => by
    rw [trns, trns, trns_ov k (by omega)]
    have e : ∀ S', tld T r (some (s, c)) S' k = tld T r none S' k := fun S' => by
      have : cho T r (some (s, c)) S' k = cho T r none S' k := by
        show ((if s = k then some c else none) : Option (Option Nat)).getD (pick T r S' k) = _
        rw [if_neg (by omega)]; rfl
      unfold tld
      rw [this]
    unfold trn
    rw [e]
theorem trn_W {ov : Option (Nat × Option Nat)} {S : SC} {i : Nat} : sW (trn T r ov S i) = sW S := by
  unfold trn
  cases tld T r ov S i with
  | none => rfl
  | some j => rfl
theorem trns_W {ov : Option (Nat × Option Nat)} {S : SC} : ∀ n, sW (trns T r ov S n) = sW S
  | 0 => rfl
  | n + 1 => by rw [trns, trn_W, trns_W n]
theorem tide1_W {ov : Option (Nat × Option Nat)} {S : SC} : sW (tide1 T r ov S) = sW S := trns_W (T := T) (r := r) (ov := ov) (S := S) (tN T)
theorem step_pass {S : SC} (hs : s < tN T) (hw : wts S s = true) (c : Option Nat) : sP (tide1 T r (some (s, c)) S) s = c.elim none (fun j => if isN T (trns T r none S s) j then some (sT S) else none) := by
  have hn : sP S s = none := by
    unfold wts at hw
    cases h : sP S s with
    | none => rfl
    | some t => rw [h] at hw; cases hw
  have hu : sP (trns T r none S s) s = none := by rw [trns_Pn s (Nat.le_refl s)]; exact hn
  rw [tide1_P hs, trns_ov s (Nat.le_refl s)]
  have hc : cho T r (some (s, c)) (trns T r none S s) s = c := by
    show ((if s = s then some c else none) : Option (Option Nat)).getD _ = _
    rw [if_pos rfl]; rfl
  have ht : tld T r (some (s, c)) (trns T r none S s) s = c := by
    unfold tld
    rw [if_pos (by unfold wts; rw [hu]; rfl), hc]
  unfold trn
  rw [ht]
  cases c with
  | none => exact hu
  | some j =>
    show sP (telS T (trns T r none S s) s j) s = if isN T (trns T r none S s) j then some (sT S) else none
    show (if isN T (trns T r none S s) j then fset (sP (trns T r none S s)) s (some (sT (trns T r none S s))) else sP (trns T r none S s)) s = _
    split
    · rw [fset_s, trns_T]
    · exact hu
theorem pass_keep {S : SC} {t : Nat} (hs : s < tN T) (h : sP S s = some t) (c : Option Nat) : sP (tide1 T r (some (s, c)) S) s = some t := by
  have hu : sP (trns T r none S s) s = some t := by rw [trns_Pn s (Nat.le_refl s)]; exact h
  rw [tide1_P hs, trns_ov s (Nat.le_refl s)]
  have ht : tld T r (some (s, c)) (trns T r none S s) s = none := by
    unfold tld
    rw [if_neg (fun z => by unfold wts at z; rw [hu] at z; cases z)]
  unfold trn
  rw [ht]
  exact hu
theorem dgo_0 {b n x : Nat} : dgo b (n + 1) x 0 = if x / b ^ n % b = 0 then none else some (x / b ^ n % b - 1) := rfl
/-- who has passed has passed -/
theorem pbr_p {t : Nat} (hs : s < tN T) : ∀ n x S, sP S s = some t → pbr T r s n x S = t ∨ pbr T r s n x S = 100000
  | 0, x, S, h => Or.inl (by show (sP S s).getD 100000 = t; rw [h]; rfl)
  | n + 1, x, S, h => by
    rw [pbr_rec]
    unfold rstep
    split
    · exact pbr_p hs n _ _ (pass_keep hs h _)
    · exact Or.inr rfl
theorem pbr_p0 {t : Nat} (hs : s < tN T) : ∀ n S, sP S s = some t → pbr T r s n 0 S = t
  | 0, S, h => by show (sP S s).getD 100000 = t; rw [h]; rfl
  | n + 1, S, h => by
    have e : dgo (tJ T + 1) (n + 1) 0 0 = none := by rw [dgo_0, Nat.zero_div, Nat.zero_mod, if_pos rfl]
    rw [pbr_rec, e, Nat.zero_mod]
    exact pbr_p0 hs n _ (pass_keep hs h none)
theorem wts_n {S : SC} : (wts S s = true) = (sP S s = none) := by
  unfold wts
  cases sP S s with
  | none => exact propext ⟨fun _ => rfl, fun _ => rfl⟩
  | some t => exact propext ⟨fun z => (by cases z), fun z => (by cases z)⟩
/-- none passes before the tide that is -/
theorem pbr_ge (hs : s < tN T) : ∀ n x S, wts S s = true → sT S + n ≤ 100000 → sT S ≤ pbr T r s n x S
  | 0, x, S, h, hb => by
    rw [wts_n] at h
    show sT S ≤ (sP S s).getD 100000
    rw [h]
    show sT S ≤ 100000
    omega
  | n + 1, x, S, h, hb => by
    rw [pbr_rec]
    unfold rstep
    split
    · show sT S ≤ pbr T r s n _ (tide1 T r (some (s, dgo (tJ T + 1) (n + 1) x 0)) S)
      cases hp : sP (tide1 T r (some (s, dgo (tJ T + 1) (n + 1) x 0)) S) s with
      | none =>
        have := pbr_ge hs n (x % (tJ T + 1) ^ n) (tide1 T r (some (s, dgo (tJ T + 1) (n + 1) x 0)) S) (by rw [wts_n]; exact hp) (by rw [tide1_T]; omega)
        rw [tide1_T] at this
        omega
      | some t =>
        have e := step_pass (r := r) hs h (dgo (tJ T + 1) (n + 1) x 0)
        rw [hp] at e
        have ht : t = sT S := by
          cases hd : dgo (tJ T + 1) (n + 1) x 0 with
          | none => rw [hd] at e; cases e
          | some j =>
            rw [hd] at e
            have e : some t = if isN T (trns T r none S s) j then some (sT S) else none := e
            split at e
            · cases e; rfl
            · cases e
        rcases pbr_p hs n (x % (tJ T + 1) ^ n) _ hp with z | z
        · rw [z]; omega
        · rw [z]; omega
    · show sT S ≤ 100000
      omega
/-- the first that gives something -/
def fsm {α : Type} (g : Nat → Option α) : Nat → Option (Nat × α)
  | 0 => none
  | n + 1 => (fsm g n).orElse (fun _ => (g n).map (fun y => (n, y)))
theorem fsm_none {α : Type} {g : Nat → Option α} : ∀ {n}, fsm g n = none → ∀ i, i < n → g i = none
  | 0, _, i, h => absurd h (Nat.not_lt_zero i)
  | n + 1, h, i, hi => by
    rw [fsm] at h
    cases e : fsm g n with
    | some y => rw [e] at h; cases h
    | none =>
      rw [e] at h
      have h : (g n).map (fun y => (n, y)) = none := h
      by_cases c : i = n
      · rw [c]
        cases e2 : g n with
        | none => rfl
        | some y => rw [e2] at h; cases h
      · exact fsm_none e i (by omega)
theorem fsm_some {α : Type} {g : Nat → Option α} {i : Nat} {y : α} : ∀ {n}, fsm g n = some (i, y) → i < n ∧ g i = some y ∧ ∀ j, j < i → g j = none
  | 0, h => by cases h
  | n + 1, h => by
    rw [fsm] at h
    cases e : fsm g n with
    | some z =>
      rw [e] at h
      cases h
      obtain ⟨h1, h2, h3⟩ := fsm_some e
      exact ⟨by omega, h2, h3⟩
    | none =>
      rw [e] at h
      have h : (g n).map (fun y => (n, y)) = some (i, y) := h
      cases e2 : g n with
      | none => rw [e2] at h; cases h
      | some z =>
        rw [e2] at h
        cases h
        exact ⟨by omega, e2, fun j hj => fsm_none e j hj⟩
def ixo (i : Nat) : Option Nat := if i = 0 then none else some (i - 1)
/-- may it be told -/
def okc (S : SC) (s : Nat) (c : Option Nat) : Bool := c.elim true (fun j => (sW S s).testBit j)
def dfs (T : TD) (r : Option RD) (s : Nat) : Nat → SC → Option (List (Option Nat))
  | 0, S => (lnw T (trns T r none S s) s).map (fun j => [some j])
  | k + 1, S => (fsm (fun i => if okc S s (ixo i) then dfs T r s k (tide1 T r (some (s, ixo i)) S) else none) (tJ T + 1)).map (fun p => ixo p.1 :: p.2)
theorem dfs_0 {S : SC} (h : dfs T r s 0 S = none) : ∀ j, j < tJ T → (sW S s).testBit j = true → isN T (trns T r none S s) j = false := by
  intro j hj hb
  have h : (lnw T (trns T r none S s) s).map (fun j => [some j]) = none := h
  cases e : lnw T (trns T r none S s) s with
  | some y => rw [e] at h; cases h
  | none =>
    unfold lnw at e
    have := fs_none e j hj
    rw [trns_W, hb, Bool.true_and] at this
    exact this
theorem dfs_S {S : SC} {k : Nat} (h : dfs T r s (k + 1) S = none) {i : Nat} (hi : i < tJ T + 1) (hc : okc S s (ixo i) = true) : dfs T r s k (tide1 T r (some (s, ixo i)) S) = none := by
  rw [dfs] at h
  cases e : fsm (fun i => if okc S s (ixo i) then dfs T r s k (tide1 T r (some (s, ixo i)) S) else none) (tJ T + 1) with
  | some y => rw [e] at h; cases h
  | none =>
    have := fsm_none e i hi
    rw [hc, if_pos rfl] at this
    exact this
theorem dgo_ix {b n x : Nat} : dgo b (n + 1) x 0 = ixo (x / b ^ n % b) := rfl
theorem okc_t {S : SC} (hw : wts S s = true) (c : Option Nat) : (c.elim true (fun j => wts S s && (sW S s).testBit j)) = okc S s c := by
  cases c with
  | none => rfl
  | some j => show (wts S s && _) = _; rw [hw, Bool.true_and]; rfl
/-- with no new joke none passes in this tide -/
theorem dfs_w {S : SC} (hs : s < tN T) (hw : wts S s = true) (h : dfs T r s 0 S = none) {i : Nat} (hi : i < tJ T + 1) (hc : okc S s (ixo i) = true) : wts (tide1 T r (some (s, ixo i)) S) s = true := by
  rw [wts_n, step_pass hs hw]
  unfold ixo at hc ⊢
  split
  · rfl
  · rename_i c
    rw [if_neg c] at hc
    show (if isN T (trns T r none S s) (i - 1) then some (sT S) else none) = none
    rw [dfs_0 h (i - 1) (by omega) hc]; rfl
theorem pbr_gt (hs : s < tN T) : ∀ n k x S, wts S s = true → sT S + n + k < 100000 → (∀ k', k' ≤ k → dfs T r s k' S = none) → sT S + k < pbr T r s n x S
  | 0, k, x, S, h, hb, _ => by
    rw [wts_n] at h
    show sT S + k < (sP S s).getD 100000
    rw [h]
    show sT S + k < 100000
    omega
  | n + 1, k, x, S, h, hb, hd => by
    rw [pbr_rec, dgo_ix]
    unfold rstep
    rw [okc_t h]
    split
    · rename_i hc
      have hi : x / (tJ T + 1) ^ n % (tJ T + 1) < tJ T + 1 := Nat.mod_lt _ (by omega)
      have hw := dfs_w hs h (hd 0 (by omega)) hi hc
      show sT S + k < pbr T r s n _ (tide1 T r (some (s, ixo (x / (tJ T + 1) ^ n % (tJ T + 1)))) S)
      cases k with
      | zero =>
        have := pbr_ge (r := r) hs n (x % (tJ T + 1) ^ n) _ hw (by rw [tide1_T]; omega)
        rw [tide1_T] at this
        omega
      | succ k =>
        have := pbr_gt hs n k (x % (tJ T + 1) ^ n) _ hw (by rw [tide1_T]; omega) (fun k' hk' => dfs_S (hd (k' + 1) (by omega)) hi hc)
        rw [tide1_T] at this
        omega
    · show sT S + k < 100000
      omega
end ROWD
