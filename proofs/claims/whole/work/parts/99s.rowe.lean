/-! A ROW: the first that passes -/
theorem cd_dv {p i x : Nat} (h : x < p) : (i * p + x) / p = i ∧ (i * p + x) % p = x := by
  have hp : 0 < p := by omega
  rw [Nat.add_comm, Nat.add_mul_div_right _ _ hp, Nat.add_mul_mod_self_right, Nat.div_eq_of_lt h, Nat.mod_eq_of_lt h]
  exact ⟨by omega, rfl⟩
theorem ixo_s (j : Nat) : ixo (j + 1) = some j := by unfold ixo; rw [if_neg (by omega)]; rfl
section ROWE
variable {T : TD} {r : Option RD} {s : Nat}
theorem pbr_at (hs : s < tN T) : ∀ n k S l, k < n → wts S s = true → sT S + n + k < 100000 → (∀ k', k' < k → dfs T r s k' S = none) → dfs T r s k S = some l →
    ∃ x0, x0 < (tJ T + 1) ^ n ∧ pbr T r s n x0 S = sT S + k ∧ (∀ x, x < x0 → sT S + k < pbr T r s n x S) ∧ l.length = k + 1 ∧ (∀ i, i ≤ k → dgo (tJ T + 1) n x0 i = l.getD i none) ∧ ∀ i, k < i → i < n → dgo (tJ T + 1) n x0 i = none := by
  intro n
  induction n with
  | zero => intro k S l h; omega
  | succ m ih =>
    intro k S l hkn hw hb hnp hd
    have hpp : 0 < (tJ T + 1) ^ m := Nat.pow_pos (by omega)
    have hpe : (tJ T + 1) ^ (m + 1) = (tJ T + 1) * (tJ T + 1) ^ m := by rw [Nat.pow_succ, Nat.mul_comm]
    cases k with
    | zero =>
      have hd : (lnw T (trns T r none S s) s).map (fun j => [some j]) = some l := hd
      cases e : lnw T (trns T r none S s) s with
      | none => rw [e] at hd; cases hd
      | some j =>
        rw [e] at hd
        cases hd
        unfold lnw at e
        obtain ⟨j1, j2, j3⟩ := fs_some e
        rw [trns_W] at j2
        have j2' := Bool.and_eq_true_iff.mp j2
        obtain ⟨d1, d2⟩ := cd_dv (i := j + 1) (x := 0) hpp
        rw [Nat.add_zero] at d1 d2
        have dm : (j + 1) % (tJ T + 1) = j + 1 := Nat.mod_eq_of_lt (by omega)
        have dg0 : dgo (tJ T + 1) (m + 1) ((j + 1) * (tJ T + 1) ^ m) 0 = some j := by rw [dgo_ix, d1, dm, ixo_s]
        refine ⟨(j + 1) * (tJ T + 1) ^ m, ?_, ?_, fun x hx => ?_, rfl, fun i hi => ?_, fun i hi hi2 => ?_⟩
        · rw [hpe]; exact Nat.mul_lt_mul_of_pos_right (by omega) hpp
        · have hok : okc S s (some j) = true := j2'.1
          rw [pbr_rec, dg0, d2]
          unfold rstep
          rw [okc_t hw, hok, if_pos rfl]
          exact pbr_p0 hs m _ (by rw [step_pass hs hw]; show (if isN T (trns T r none S s) j then some (sT S) else none) = _; rw [j2'.2]; rfl)
        · have hq : x / (tJ T + 1) ^ m < j + 1 := (Nat.div_lt_iff_lt_mul hpp).mpr hx
          have hq2 : x / (tJ T + 1) ^ m % (tJ T + 1) = x / (tJ T + 1) ^ m := Nat.mod_eq_of_lt (by omega)
          rw [pbr_rec, dgo_ix, hq2]
          unfold rstep
          rw [okc_t hw]
          split
          · rename_i hc
            have hw' : wts (tide1 T r (some (s, ixo (x / (tJ T + 1) ^ m))) S) s = true := by
              rw [wts_n, step_pass hs hw]
              cases hi : x / (tJ T + 1) ^ m with
              | zero => rfl
              | succ i =>
                rw [hi, ixo_s] at hc
                have := j3 i (by omega)
                rw [trns_W, show (sW S s).testBit i = true from hc, Bool.true_and] at this
                rw [ixo_s]
                show (if isN T (trns T r none S s) i then some (sT S) else none) = none
                rw [this]; rfl
            have := pbr_ge (r := r) hs m (x % (tJ T + 1) ^ m) _ hw' (by rw [tide1_T]; omega)
            rw [tide1_T] at this
            show sT S + 0 < pbr T r s m _ _
            omega
          · show sT S + 0 < 100000
            omega
        · have : i = 0 := by omega
          rw [this]; exact dg0
        · cases i with
          | zero => omega
          | succ i =>
            rw [dgo_shift (by omega), d2]
            unfold dgo dgt
            rw [Nat.zero_div, Nat.zero_mod, if_pos rfl]
    | succ k =>
      rw [dfs] at hd
      cases e : fsm (fun i => if okc S s (ixo i) then dfs T r s k (tide1 T r (some (s, ixo i)) S) else none) (tJ T + 1) with
      | none => rw [e] at hd; cases hd
      | some y =>
        obtain ⟨i, l1⟩ := y
        rw [e] at hd
        cases hd
        obtain ⟨i1, i2, i3⟩ := fsm_some e
        have hok : okc S s (ixo i) = true := by
          cases c : okc S s (ixo i) with
          | true => rfl
          | false => rw [c, if_neg (by decide)] at i2; cases i2
        rw [hok, if_pos rfl] at i2
        have h0 := hnp 0 (by omega)
        have hw' := dfs_w hs hw h0 i1 hok
        obtain ⟨x1, x2, x3, x4, x5, x6, x7⟩ := ih k _ l1 (by omega) hw' (by rw [tide1_T]; omega) (fun k' hk' => dfs_S (hnp (k' + 1) (by omega)) i1 hok) i2
        rw [tide1_T] at x3 x4
        obtain ⟨d1, d2⟩ := cd_dv (i := i) x2
        have dm : i % (tJ T + 1) = i := Nat.mod_eq_of_lt i1
        have dg0 : dgo (tJ T + 1) (m + 1) (i * (tJ T + 1) ^ m + x1) 0 = ixo i := by rw [dgo_ix, d1, dm]
        refine ⟨i * (tJ T + 1) ^ m + x1, ?_, ?_, fun x hx => ?_, by rw [List.length_cons, x5], fun q hq => ?_, fun q hq hq2 => ?_⟩
        · rw [hpe]
          calc i * (tJ T + 1) ^ m + x1 < i * (tJ T + 1) ^ m + (tJ T + 1) ^ m := by omega
            _ = (i + 1) * (tJ T + 1) ^ m := by rw [Nat.succ_mul]
            _ ≤ (tJ T + 1) * (tJ T + 1) ^ m := Nat.mul_le_mul_right _ (by omega)
        · rw [pbr_rec, dg0, d2]
          unfold rstep
          rw [okc_t hw, hok, if_pos rfl]
          show pbr T r s m x1 _ = _
          rw [x3]; omega
        · have hq : x / (tJ T + 1) ^ m < i + 1 := (Nat.div_lt_iff_lt_mul hpp).mpr (by rw [Nat.succ_mul]; omega)
          have hq2 : x / (tJ T + 1) ^ m % (tJ T + 1) = x / (tJ T + 1) ^ m := Nat.mod_eq_of_lt (by omega)
          rw [pbr_rec, dgo_ix, hq2]
          unfold rstep
          rw [okc_t hw]
          split
          · rename_i hc
            show sT S + (k + 1) < pbr T r s m (x % (tJ T + 1) ^ m) (tide1 T r (some (s, ixo (x / (tJ T + 1) ^ m))) S)
            by_cases ei : x / (tJ T + 1) ^ m = i
            · have hx1 : x % (tJ T + 1) ^ m < x1 := by
                have := Nat.div_add_mod x ((tJ T + 1) ^ m)
                rw [ei, Nat.mul_comm] at this
                omega
              rw [ei]
              have := x4 _ hx1
              omega
            · have hw2 := dfs_w hs hw h0 (i := x / (tJ T + 1) ^ m) (by omega) hc
              have := pbr_gt (r := r) hs m k (x % (tJ T + 1) ^ m) _ hw2 (by rw [tide1_T]; omega) (fun k' hk' => by
                by_cases ek : k' = k
                · have := i3 (x / (tJ T + 1) ^ m) (by omega)
                  rw [hc, if_pos rfl] at this
                  rw [ek]; exact this
                · exact dfs_S (hnp (k' + 1) (by omega)) (by omega) hc)
              rw [tide1_T] at this
              omega
          · show sT S + (k + 1) < 100000
            omega
        · cases q with
          | zero => rw [dg0]; rfl
          | succ q =>
            rw [dgo_shift (by omega), d2, x6 q (by omega)]; rfl
        · cases q with
          | zero => omega
          | succ q => rw [dgo_shift (by omega), d2]; exact x7 q (by omega) (by omega)
/-- who waits through the row passes in one of its tides or not at all -/
theorem pbr_lt (hs : s < tN T) : ∀ n x S, wts S s = true → pbr T r s n x S < 100000 → pbr T r s n x S < sT S + n
  | 0, x, S, h, hb => by
    rw [wts_n] at h
    have hb : (sP S s).getD 100000 < 100000 := hb
    rw [h] at hb
    exact absurd hb (by show ¬ (100000 < 100000); omega)
  | n + 1, x, S, h, hb => by
    rw [pbr_rec] at hb ⊢
    unfold rstep at hb ⊢
    split at hb
    · rename_i hc
      rw [if_pos hc]
      have hb : pbr T r s n (x % (tJ T + 1) ^ n) (tide1 T r (some (s, dgo (tJ T + 1) (n + 1) x 0)) S) < 100000 := hb
      show pbr T r s n (x % (tJ T + 1) ^ n) (tide1 T r (some (s, dgo (tJ T + 1) (n + 1) x 0)) S) < _
      cases hp : sP (tide1 T r (some (s, dgo (tJ T + 1) (n + 1) x 0)) S) s with
      | none =>
        have := pbr_lt hs n (x % (tJ T + 1) ^ n) _ (by rw [wts_n]; exact hp) hb
        rw [tide1_T] at this
        omega
      | some t =>
        have e := step_pass (r := r) hs h (dgo (tJ T + 1) (n + 1) x 0)
        rw [hp] at e
        have ht : t = sT S := by
          cases hd : dgo (tJ T + 1) (n + 1) x 0 with
          | none => rw [hd] at e; cases e
          | some j =>
            rw [hd] at e
            have e : some t = if isN T (trns T r none S s) j then some (sT S) else none := e
            split at e
            · cases e; rfl
            · cases e
        rcases pbr_p hs n (x % (tJ T + 1) ^ n) _ hp with z | z
        · rw [z]; omega
        · rw [z] at hb; omega
    · exact absurd hb (by show ¬ (100000 < 100000); omega)
theorem pbr_no (hs : s < tN T) {S : SC} (hw : wts S s = true) (hS : sT S ≤ 999) {n x : Nat} (hn : n ≤ 4) (hno : ∀ k, k < n → dfs T r s k S = none) (z : pbr T r s n x S < 100000) : False := by
  have h1 := pbr_lt hs n x S hw z
  cases n with
  | zero =>
    have := pbr_ge (r := r) hs 0 x S hw (by omega)
    omega
  | succ n =>
    have := pbr_gt (r := r) hs (n + 1) n x S hw (by omega) (fun k' hk' => hno k' (by omega))
    omega
/-- the length of the first row that passes, and the row -/
def fro (T : TD) (r : Option RD) (s : Nat) (S : SC) : Nat → Option (Nat × List (Option Nat)) := fsm (fun k => dfs T r s k S)
theorem rowA_eq (hs : s < tN T) {S : SC} (hw : wts S s = true) (hS : sT S ≤ 999) {n w : Nat} (hn : n ≤ 4) (hw4 : w ≤ 4) : rowA T r S s n w = (fro T r s S n).elim (-2) (fun p => if w = 0 then nI (sT S + p.1) else if n < w then -2 else eP (if w - 1 ≤ p.1 then p.2.getD (w - 1) none else none)) := by
  unfold rowA
  cases e : fro T r s S n with
  | none =>
    have hno := fsm_none e
    have hb : bst (fun x => pbr T r s n x S) ((tJ T + 1) ^ n) = (100000, 0) := by
      refine bst_none _ (fun x hx => ?_)
      rcases Nat.lt_or_ge (pbr T r s n x S) 100000 with z | z
      · exfalso
        exact pbr_no hs hw hS hn hno z
      · exact z
    rw [hb, if_pos rfl]; rfl
  | some p =>
    obtain ⟨k, l⟩ := p
    obtain ⟨k1, k2, k3⟩ := fsm_some e
    obtain ⟨x0, y1, y2, y3, y4, y5, y6⟩ := pbr_at hs n k S l k1 hw (by omega) k3 k2
    have hb := bst_val (f := fun x => pbr T r s n x S) y2 (by omega) y3 ((tJ T + 1) ^ n) y1 (fun x hx => by
      cases k with
      | zero => have := pbr_ge (r := r) hs n x S hw (by omega); show sT S + 0 ≤ pbr T r s n x S; omega
      | succ k => have := pbr_gt (r := r) hs n k x S hw (by omega) (fun k' hk' => k3 k' (by omega)); show sT S + (k + 1) ≤ pbr T r s n x S; omega)
    rw [hb, if_neg (by show ¬ sT S + k = 100000; omega)]
    show (if w = 0 then nI (sT S + k) else if n < w then -2 else eP (dgo (tJ T + 1) n x0 (w - 1))) = _
    by_cases c1 : w = 0
    · rw [if_pos c1]; show _ = if w = 0 then _ else _; rw [if_pos c1]
    · rw [if_neg c1]
      show _ = if w = 0 then _ else _
      rw [if_neg c1]
      by_cases c2 : n < w
      · rw [if_pos c2, if_pos c2]
      · rw [if_neg c2, if_neg c2]
        by_cases c3 : w - 1 ≤ k
        · rw [y5 _ c3, if_pos c3]
        · rw [y6 _ (by omega) (by omega), if_neg c3]
end ROWE
