/-! THE LAW'S LOOP -/
def WPs (Q : Int32 → Mem → Prop) : List (Option (Int32 × Mem)) → Prop
  | [] => True
  | o :: os => WP o Q ∧ WPs Q os
theorem WPs.at {Q : Int32 → Mem → Prop} : ∀ {os : List (Option (Int32 × Mem))}, WPs Q os → ∀ j, j < os.length → WP (os.getD j none) Q
  | [], _, j, h => absurd h (Nat.not_lt_zero j)
  | _ :: _, h, 0, _ => h.1
  | _ :: os, h, j + 1, hj => WPs.at (os := os) h.2 j (Nat.lt_of_succ_lt_succ hj)
theorem WP.ts {Q : Int32 → Mem → Prop} {x : Int32} {os : List (Option (Int32 × Mem))} {o : Option (Int32 × Mem)} (h : WPs Q os) (k : WP o Q) : WP (tsw x 0 os o) Q := by
  unfold tsw
  split
  · exact k
  · rename_i c
    exact h.at _ (by omega)
theorem BO.go {fc fr : Mem → Option (Int32 × Mem)} {M : Mem} {K : Int32 → Mem → Option (Int32 × Mem)} {Q : Int32 → Mem → Prop} (b : BO fc fr M) (hK : ∀ a M1, RIs (mS M1) (mR M1) 66 → WP (fr M1) (fun b M2 => a = b ∧ ∃ G, ST M2 G) → WP (K a M1) Q) : WP (cl (fc M) K) Q := WP.cw b (fun a M1 c => hK a M1 c.1 c.2)
theorem scr_at {L l k : Nat} (xs : Nat → Int32) (h : l + k < L) (hL : L ≤ 3072) : scr L xs (nI l + nI k) = some (xs (l + k)) := by
  rw [n_add]
  unfold scr
  rw [n_cl (by omega), if_neg]
  rintro (z | z)
  · rw [show (0 : Int32) = nI 0 from rfl, n_lt (by omega) (by omega)] at z; omega
  · omega
theorem law_loop (hrule : ∀ {M : Mem} {G : GD}, ST M G → BO (f_X9_rule 0) (f_X10_rule 66) M) (hrow : ∀ {M : Mem} {G : GD}, ST M G → ∀ a b c, BO (f_X9_row 0 a b c) (f_X10_row 66 a b c) M) (hgame : ∀ {M : Mem} {G : GD}, ST M G → ∀ a b c d, BO (f_X9_game 0 a b c d) (f_X10_game 66 a b c d) M) (L : Nat) (xs : Nat → Int32) (hL : L ≤ 3072) :
    ∀ d l f (M : Mem), (∃ G, ST M G) → L < l + 6 + 6 * d → l ≤ 3078 → WP (f_L_law_L18 L xs (f + d + 1) 0 66 (nI l) M) (fun v M' => v = 1 ∧ ∃ G, ST M' G) := by
  have ex : ∀ l, l ≤ 3078 → ((Int32.ofNat L - nI 6 < nI l) = (L < l + 6)) := fun l hl => by
    rw [Int32.lt_iff_toInt_lt, show Int32.ofNat L = nI L from rfl, pk_sub_toInt (by omega) (by decide), nI_toInt (by omega), eq_iff_iff]
    omega
  intro d
  induction d with
  | zero =>
    intro l f M hG hl h3
    rw [f_L_law_L18]
    exact WP.it (by rw [ex l h3]; omega) (WP.ret ⟨rfl, hG⟩)
  | succ d ih =>
    intro l f M hG hl h3
    rw [show f + (d + 1) + 1 = (f + d + 1) + 1 from by omega, f_L_law_L18]
    by_cases hx : L < l + 6
    · exact WP.it (by rw [ex l h3]; exact hx) (WP.ret ⟨rfl, hG⟩)
    refine WP.ie (by rw [ex l h3]; exact hx) ?_
    have nx : ∀ M2, (∃ G, ST M2 G) → WP (f_L_law_J1216 L xs (f_L_law_L18 L xs (f + d + 1)) 0 66 (nI l) M2) (fun v M' => v = 1 ∧ ∃ G, ST M' G) := fun M2 h2 => by
      unfold f_L_law_J1216
      rw [n_add]
      exact ih (l + 6) f M2 h2 (by omega) (by omega)
    have e0 : scr L xs (nI l) = some (xs l) := by
      have := scr_at (k := 0) xs (show l + 0 < L by omega) hL
      rw [n_add] at this
      exact this
    have e1 := scr_at (k := 1) xs (show l + 1 < L by omega) hL
    have e2 := scr_at (k := 2) xs (show l + 2 < L by omega) hL
    have e3 := scr_at (k := 3) xs (show l + 3 < L by omega) hL
    have e4 := scr_at (k := 4) xs (show l + 4 < L by omega) hL
    have e5 := scr_at (k := 5) xs (show l + 5 < L by omega) hL
    obtain ⟨G, h⟩ := hG
    have hC := h.2.1.1
    refine WP.bd e0 ?_
    refine WP.ts ⟨?_, ?_, ?_, ?_, ?_, ?_, ?_, ?_, ?_, ?_, ?_, ?_, ?_, ?_, ?_, ?_, ?_, ?_, ?_, ?_, ?_, ?_, ?_, ?_, ?_, ?_, ?_, ?_, ?_, ?_, ?_, ?_, ?_, ?_, trivial⟩ (nx M ⟨G, h⟩)
    · -- feed
      refine WP.bd e1 ?_
      refine WP.bd e2 ?_
      refine WP.bd e3 ?_
      refine WP.bd e4 ?_
      refine WP.bd e5 ?_
      refine WP.bd (cob_0 hC) ?_
      refine BO.go (s_feed h (xs (l + 1)) (xs (l + 2)) (xs (l + 3)) (xs (l + 4)) (xs (l + 5))) (fun a M1 hR w => ?_)
      refine WP.bd e1 ?_
      refine WP.bd e2 ?_
      refine WP.bd e3 ?_
      refine WP.bd e4 ?_
      refine WP.bd e5 ?_
      refine WP.bd (ro_m hR) ?_
      refine WP.cw w (fun b M2 c => ?_)
      obtain ⟨rfl, h2⟩ := c
      exact WP.it rfl (nx M2 h2)
    · -- end
      refine WP.bd e1 ?_
      refine WP.bd (cob_0 hC) ?_
      refine BO.go (s_end h (xs (l + 1))) (fun a M1 hR w => ?_)
      refine WP.bd e1 ?_
      refine WP.bd (ro_m hR) ?_
      refine WP.cw w (fun b M2 c => ?_)
      obtain ⟨rfl, h2⟩ := c
      exact WP.it rfl (nx M2 h2)
    · -- bar
      refine WP.bd (cob_0 hC) ?_
      refine BO.go (s_bar h) (fun a M1 hR w => ?_)
      refine WP.bd (ro_m hR) ?_
      refine WP.cw w (fun b M2 c => ?_)
      obtain ⟨rfl, h2⟩ := c
      exact WP.it rfl (nx M2 h2)
    · -- rule
      refine WP.bd (cob_0 hC) ?_
      refine BO.go (hrule h) (fun a M1 hR w => ?_)
      refine WP.bd (ro_m hR) ?_
      refine WP.cw w (fun b M2 c => ?_)
      obtain ⟨rfl, h2⟩ := c
      exact WP.it rfl (nx M2 h2)
    · -- force
      refine WP.bd e1 ?_
      refine WP.bd (cob_0 hC) ?_
      refine BO.go (s_force h (xs (l + 1))) (fun a M1 hR w => ?_)
      refine WP.bd e1 ?_
      refine WP.bd (ro_m hR) ?_
      refine WP.cw w (fun b M2 c => ?_)
      obtain ⟨rfl, h2⟩ := c
      exact WP.it rfl (nx M2 h2)
    · -- joke
      refine WP.bd e1 ?_
      refine WP.bd e2 ?_
      refine WP.bd (cob_0 hC) ?_
      refine BO.go (s_joke h (xs (l + 1)) (xs (l + 2))) (fun a M1 hR w => ?_)
      refine WP.bd e1 ?_
      refine WP.bd e2 ?_
      refine WP.bd (ro_m hR) ?_
      refine WP.cw w (fun b M2 c => ?_)
      obtain ⟨rfl, h2⟩ := c
      exact WP.it rfl (nx M2 h2)
    · -- ship
      refine WP.bd e1 ?_
      refine WP.bd e2 ?_
      refine WP.bd (cob_0 hC) ?_
      refine BO.go (s_ship h (xs (l + 1)) (xs (l + 2))) (fun a M1 hR w => ?_)
      refine WP.bd e1 ?_
      refine WP.bd e2 ?_
      refine WP.bd (ro_m hR) ?_
      refine WP.cw w (fun b M2 c => ?_)
      obtain ⟨rfl, h2⟩ := c
      exact WP.it rfl (nx M2 h2)
    · -- tide
      refine WP.bd (cob_0 hC) ?_
      refine BO.go (s_tide h) (fun a M1 hR w => ?_)
      refine WP.bd (ro_m hR) ?_
      refine WP.cw w (fun b M2 c => ?_)
      obtain ⟨rfl, h2⟩ := c
      exact WP.it rfl (nx M2 h2)
    · -- say
      refine WP.bd e1 ?_
      refine WP.bd e2 ?_
      refine WP.bd (cob_0 hC) ?_
      refine BO.go (s_say h (xs (l + 1)) (xs (l + 2))) (fun a M1 hR w => ?_)
      refine WP.bd e1 ?_
      refine WP.bd e2 ?_
      refine WP.bd (ro_m hR) ?_
      refine WP.cw w (fun b M2 c => ?_)
      obtain ⟨rfl, h2⟩ := c
      exact WP.it rfl (nx M2 h2)
    · -- trade
      refine WP.bd e1 ?_
      refine WP.bd e2 ?_
      refine WP.bd (cob_0 hC) ?_
      refine BO.go (s_trade h (xs (l + 1)) (xs (l + 2))) (fun a M1 hR w => ?_)
      refine WP.bd e1 ?_
      refine WP.bd e2 ?_
      refine WP.bd (ro_m hR) ?_
      refine WP.cw w (fun b M2 c => ?_)
      obtain ⟨rfl, h2⟩ := c
      exact WP.it rfl (nx M2 h2)
    · -- coin
      refine WP.bd e1 ?_
      refine WP.bd e2 ?_
      refine WP.bd (cob_0 hC) ?_
      refine BO.go (s_coin h (xs (l + 1)) (xs (l + 2))) (fun a M1 hR w => ?_)
      refine WP.bd e1 ?_
      refine WP.bd e2 ?_
      refine WP.bd (ro_m hR) ?_
      refine WP.cw w (fun b M2 c => ?_)
      obtain ⟨rfl, h2⟩ := c
      exact WP.it rfl (nx M2 h2)
    · -- dull
      refine WP.bd e1 ?_
      refine WP.bd (cob_0 hC) ?_
      refine BO.go (s_dull h (xs (l + 1))) (fun a M1 hR w => ?_)
      refine WP.bd e1 ?_
      refine WP.bd (ro_m hR) ?_
      refine WP.cw w (fun b M2 c => ?_)
      obtain ⟨rfl, h2⟩ := c
      exact WP.it rfl (nx M2 h2)
    · -- undo
      refine WP.bd (cob_0 hC) ?_
      refine BO.go (s_undo h) (fun a M1 hR w => ?_)
      refine WP.bd (ro_m hR) ?_
      refine WP.cw w (fun b M2 c => ?_)
      obtain ⟨rfl, h2⟩ := c
      exact WP.it rfl (nx M2 h2)
    · -- ahead
      refine WP.bd e1 ?_
      refine WP.bd e2 ?_
      refine WP.bd e3 ?_
      refine WP.bd (cob_0 hC) ?_
      refine BO.go (s_ahead h (xs (l + 1)) (xs (l + 2)) (xs (l + 3))) (fun a M1 hR w => ?_)
      refine WP.bd e1 ?_
      refine WP.bd e2 ?_
      refine WP.bd e3 ?_
      refine WP.bd (ro_m hR) ?_
      refine WP.cw w (fun b M2 c => ?_)
      obtain ⟨rfl, h2⟩ := c
      exact WP.it rfl (nx M2 h2)
    · -- over
      refine WP.bd e1 ?_
      refine WP.bd e2 ?_
      refine WP.bd (cob_0 hC) ?_
      refine BO.go (s_over h (xs (l + 1)) (xs (l + 2))) (fun a M1 hR w => ?_)
      refine WP.bd e1 ?_
      refine WP.bd e2 ?_
      refine WP.bd (ro_m hR) ?_
      refine WP.cw w (fun b M2 c => ?_)
      obtain ⟨rfl, h2⟩ := c
      exact WP.it rfl (nx M2 h2)
    · -- alike
      refine WP.bd e1 ?_
      refine WP.bd e2 ?_
      refine WP.bd (cob_0 hC) ?_
      refine BO.go (s_alike h (xs (l + 1)) (xs (l + 2))) (fun a M1 hR w => ?_)
      refine WP.bd e1 ?_
      refine WP.bd e2 ?_
      refine WP.bd (ro_m hR) ?_
      refine WP.cw w (fun b M2 c => ?_)
      obtain ⟨rfl, h2⟩ := c
      exact WP.it rfl (nx M2 h2)
    · -- fresh
      refine WP.bd (cob_0 hC) ?_
      refine BO.go (s_fresh h) (fun a M1 hR w => ?_)
      refine WP.bd (ro_m hR) ?_
      refine WP.cw w (fun b M2 c => ?_)
      obtain ⟨rfl, h2⟩ := c
      exact WP.it rfl (nx M2 h2)
    · -- least
      refine WP.bd (cob_0 hC) ?_
      refine BO.go (s_least h) (fun a M1 hR w => ?_)
      refine WP.bd (ro_m hR) ?_
      refine WP.cw w (fun b M2 c => ?_)
      obtain ⟨rfl, h2⟩ := c
      exact WP.it rfl (nx M2 h2)
    · -- row
      refine WP.bd e1 ?_
      refine WP.bd e2 ?_
      refine WP.bd e3 ?_
      refine WP.bd (cob_0 hC) ?_
      refine BO.go (hrow h (xs (l + 1)) (xs (l + 2)) (xs (l + 3))) (fun a M1 hR w => ?_)
      refine WP.bd e1 ?_
      refine WP.bd e2 ?_
      refine WP.bd e3 ?_
      refine WP.bd (ro_m hR) ?_
      refine WP.cw w (fun b M2 c => ?_)
      obtain ⟨rfl, h2⟩ := c
      exact WP.it rfl (nx M2 h2)
    · -- forget
      refine WP.bd e1 ?_
      refine WP.bd e2 ?_
      refine WP.bd (cob_0 hC) ?_
      refine BO.go (s_forget h (xs (l + 1)) (xs (l + 2))) (fun a M1 hR w => ?_)
      refine WP.bd e1 ?_
      refine WP.bd e2 ?_
      refine WP.bd (ro_m hR) ?_
      refine WP.cw w (fun b M2 c => ?_)
      obtain ⟨rfl, h2⟩ := c
      exact WP.it rfl (nx M2 h2)
    · -- barter
      refine WP.bd e1 ?_
      refine WP.bd e2 ?_
      refine WP.bd (cob_0 hC) ?_
      refine BO.go (s_barter h (xs (l + 1)) (xs (l + 2))) (fun a M1 hR w => ?_)
      refine WP.bd e1 ?_
      refine WP.bd e2 ?_
      refine WP.bd (ro_m hR) ?_
      refine WP.cw w (fun b M2 c => ?_)
      obtain ⟨rfl, h2⟩ := c
      exact WP.it rfl (nx M2 h2)
    · -- school
      refine WP.bd e1 ?_
      refine WP.bd e2 ?_
      refine WP.bd (cob_0 hC) ?_
      refine BO.go (s_school h (xs (l + 1)) (xs (l + 2))) (fun a M1 hR w => ?_)
      refine WP.bd e1 ?_
      refine WP.bd e2 ?_
      refine WP.bd (ro_m hR) ?_
      refine WP.cw w (fun b M2 c => ?_)
      obtain ⟨rfl, h2⟩ := c
      exact WP.it rfl (nx M2 h2)
    · -- old
      refine WP.bd e1 ?_
      refine WP.bd e2 ?_
      refine WP.bd e3 ?_
      refine WP.bd e4 ?_
      refine WP.bd (cob_0 hC) ?_
      refine BO.go (s_old h (xs (l + 1)) (xs (l + 2)) (xs (l + 3)) (xs (l + 4))) (fun a M1 hR w => ?_)
      refine WP.bd e1 ?_
      refine WP.bd e2 ?_
      refine WP.bd e3 ?_
      refine WP.bd e4 ?_
      refine WP.bd (ro_m hR) ?_
      refine WP.cw w (fun b M2 c => ?_)
      obtain ⟨rfl, h2⟩ := c
      exact WP.it rfl (nx M2 h2)
    · -- game
      refine WP.bd e1 ?_
      refine WP.bd e2 ?_
      refine WP.bd e3 ?_
      refine WP.bd e4 ?_
      refine WP.bd (cob_0 hC) ?_
      refine BO.go (hgame h (xs (l + 1)) (xs (l + 2)) (xs (l + 3)) (xs (l + 4))) (fun a M1 hR w => ?_)
      refine WP.bd e1 ?_
      refine WP.bd e2 ?_
      refine WP.bd e3 ?_
      refine WP.bd e4 ?_
      refine WP.bd (ro_m hR) ?_
      refine WP.cw w (fun b M2 c => ?_)
      obtain ⟨rfl, h2⟩ := c
      exact WP.it rfl (nx M2 h2)
    · -- parts
      refine WP.bd e1 ?_
      refine WP.bd e2 ?_
      refine WP.bd (cob_0 hC) ?_
      refine BO.go (s_parts h (xs (l + 1)) (xs (l + 2))) (fun a M1 hR w => ?_)
      refine WP.bd e1 ?_
      refine WP.bd e2 ?_
      refine WP.bd (ro_m hR) ?_
      refine WP.cw w (fun b M2 c => ?_)
      obtain ⟨rfl, h2⟩ := c
      exact WP.it rfl (nx M2 h2)
    · -- order
      refine WP.bd e1 ?_
      refine WP.bd (cob_0 hC) ?_
      refine BO.go (s_order h (xs (l + 1))) (fun a M1 hR w => ?_)
      refine WP.bd e1 ?_
      refine WP.bd (ro_m hR) ?_
      refine WP.cw w (fun b M2 c => ?_)
      obtain ⟨rfl, h2⟩ := c
      exact WP.it rfl (nx M2 h2)
    · -- note
      refine WP.bd e1 ?_
      refine WP.bd e2 ?_
      refine WP.bd e3 ?_
      refine WP.bd (cob_0 hC) ?_
      refine BO.go (s_note h (xs (l + 1)) (xs (l + 2)) (xs (l + 3))) (fun a M1 hR w => ?_)
      refine WP.bd e1 ?_
      refine WP.bd e2 ?_
      refine WP.bd e3 ?_
      refine WP.bd (ro_m hR) ?_
      refine WP.cw w (fun b M2 c => ?_)
      obtain ⟨rfl, h2⟩ := c
      exact WP.it rfl (nx M2 h2)
    · -- ruled
      refine WP.bd e1 ?_
      refine WP.bd (cob_0 hC) ?_
      refine BO.go (s_ruled h (xs (l + 1))) (fun a M1 hR w => ?_)
      refine WP.bd e1 ?_
      refine WP.bd (ro_m hR) ?_
      refine WP.cw w (fun b M2 c => ?_)
      obtain ⟨rfl, h2⟩ := c
      exact WP.it rfl (nx M2 h2)
    · -- look
      refine WP.bd e1 ?_
      refine WP.bd e2 ?_
      refine WP.bd (cob_0 hC) ?_
      refine BO.go (s_look h (xs (l + 1)) (xs (l + 2))) (fun a M1 hR w => ?_)
      refine WP.bd e1 ?_
      refine WP.bd e2 ?_
      refine WP.bd (ro_m hR) ?_
      refine WP.cw w (fun b M2 c => ?_)
      obtain ⟨rfl, h2⟩ := c
      exact WP.it rfl (nx M2 h2)
    · -- seed
      refine WP.bd e1 ?_
      refine WP.bd (cob_0 hC) ?_
      refine BO.go (s_seed h (xs (l + 1))) (fun a M1 hR w => ?_)
      refine WP.bd e1 ?_
      refine WP.bd (ro_m hR) ?_
      refine WP.cw w (fun b M2 c => ?_)
      obtain ⟨rfl, h2⟩ := c
      exact WP.it rfl (nx M2 h2)
    · -- parrots
      refine WP.bd e1 ?_
      refine WP.bd e2 ?_
      refine WP.bd e3 ?_
      refine WP.bd e4 ?_
      refine WP.bd (cob_0 hC) ?_
      refine BO.go (s_parrots h (xs (l + 1)) (xs (l + 2)) (xs (l + 3)) (xs (l + 4))) (fun a M1 hR w => ?_)
      refine WP.bd e1 ?_
      refine WP.bd e2 ?_
      refine WP.bd e3 ?_
      refine WP.bd e4 ?_
      refine WP.bd (ro_m hR) ?_
      refine WP.cw w (fun b M2 c => ?_)
      obtain ⟨rfl, h2⟩ := c
      exact WP.it rfl (nx M2 h2)
    · -- count
      refine WP.bd e1 ?_
      refine WP.bd (cob_0 hC) ?_
      refine BO.go (s_count h (xs (l + 1))) (fun a M1 hR w => ?_)
      refine WP.bd e1 ?_
      refine WP.bd (ro_m hR) ?_
      refine WP.cw w (fun b M2 c => ?_)
      obtain ⟨rfl, h2⟩ := c
      exact WP.it rfl (nx M2 h2)
    · -- image
      refine WP.bd e1 ?_
      refine WP.bd (cob_0 hC) ?_
      refine BO.go (s_image h (xs (l + 1))) (fun a M1 hR w => ?_)
      refine WP.bd e1 ?_
      refine WP.bd (ro_m hR) ?_
      refine WP.cw w (fun b M2 c => ?_)
      obtain ⟨rfl, h2⟩ := c
      exact WP.it rfl (nx M2 h2)
    · -- back
      refine WP.bd e1 ?_
      refine WP.bd (cob_0 hC) ?_
      refine BO.go (s_back h (xs (l + 1))) (fun a M1 hR w => ?_)
      refine WP.bd e1 ?_
      refine WP.bd (ro_m hR) ?_
      refine WP.cw w (fun b M2 c => ?_)
      obtain ⟨rfl, h2⟩ := c
      exact WP.it rfl (nx M2 h2)
def G_0 : GD := ((tdZ, bgS tdZ, (0, fun _ => 0, fun _ => 0, fun _ => none), (0, fun _ => bgS tdZ), 0, none), (0, fun _ => 0), (0, fun _ _ => 0), fun _ => none)
theorem g0_ok : GOk G_0 := by
  have hT : TOk tdZ := ⟨⟨by decide, by decide, by decide, by decide⟩, fun _ => ⟨rfl, rfl⟩, fun z => absurd z (by decide), fun _ => (by decide : 0 < 10), fun _ => ⟨(by decide : 0 < 100), (by decide : 0 ≤ 60), (by decide : 0 < 256)⟩⟩
  exact ⟨⟨hT, bgS_ok hT, Nat.zero_le _, ⟨Nat.zero_le _, fun i hi => absurd hi (Nat.not_lt_zero i)⟩, ⟨Nat.zero_le _, fun i hi => absurd hi (Nat.not_lt_zero i)⟩, by decide, fun i hi => by cases hi⟩, Nat.zero_le _, fun _ => (by decide : 0 < 256), Nat.zero_le _, fun k B hB => by cases hB⟩
theorem mi_vals : (mI MI 66 38 = -1 ∧ mI MI 66 26 = nI 11 ∧ mI MI 66 21 = nI 0 ∧ mI MI 66 17 = nI 0 ∧ mI MI 66 42 = nI 0) ∧ (mI MI 67 0 = nI 0 ∧ mI MI 67 1 = nI 0 ∧ mI MI 67 2 = nI 0 ∧ mI MI 67 3 = nI 0 ∧ mI MI 67 4 = nI 0 ∧ mI MI 67 5 = nI 0 ∧ mI MI 67 6 = nI 0 ∧ mI MI 67 7 = nI 0 ∧ mI MI 67 8 = -1) ∧ (mI MI 102 0 = nI 0 ∧ mI MI 102 1 = nI 0 ∧ mI MI 102 2 = nI 0 ∧ mI MI 102 3 = nI 0) := by decide +kernel
theorem mi_valc : (mI MI 15 0 = nI 0 ∧ mI MI 15 1 = nI 0 ∧ mI MI 15 2 = nI 0 ∧ mI MI 15 3 = nI 0 ∧ mI MI 15 4 = nI 0) ∧ (mI MI 21 0 = nI 0 ∧ mI MI 14 5 = nI 0 ∧ mI MI 14 6 = nI 0 ∧ mI MI 14 10 = nI 0 ∧ mI MI 14 7 = nI 0 ∧ mI MI 14 8 = -1) ∧ (mI MI 0 8 = nI 0 ∧ mI MI 1 1 = nI 0) ∧ (mR MI 29 0 = none ∧ mR MI 29 1 = none ∧ mR MI 29 2 = none ∧ mR MI 29 3 = none) := by decide +kernel
theorem st_0 : ST MI G_0 := by
  obtain ⟨⟨a1, a2, a3, a4, a5⟩, ⟨b0, b1, b2, b3, b4, b5, b6, b7, b8⟩, c0, c1, c2, c3⟩ := mi_vals
  obtain ⟨⟨d0, d1, d2, d3, d4⟩, ⟨e0, e1, e2, e3, e4, e5⟩, ⟨f0, f1⟩, g0, g1, g2, g3⟩ := mi_valc
  have no : ∀ {P : Nat → Prop} (i : Nat), i < 0 → P i := fun i h => absurd h (Nat.not_lt_zero i)
  refine ⟨⟨⟨mi_ref, a1, a2, ⟨rfl, rfl⟩, fun _ _ => rfl⟩, ?_, ⟨Nat.zero_le _, a3, fun i h => absurd h (Nat.not_lt_zero i)⟩, ⟨a4, fun i h => absurd h (Nat.not_lt_zero i)⟩, fun k hk => ⟨?_, fun B hB => by cases hB⟩⟩, ⟨mi_cls, ?_, ⟨Nat.zero_le _, f0, fun i h => absurd h (Nat.not_lt_zero i)⟩, ⟨f1, fun i h => absurd h (Nat.not_lt_zero i)⟩, ⟨fun k hk => ?_, fun k k' a hk hk' x1 x2 => ?_⟩, ⟨?_, ?_, ?_⟩, fun a _ _ => ⟨rfl, rfl, rfl⟩⟩, g0_ok⟩
  · exact ⟨⟨⟨b0, b1, b2, b3⟩, fun i h => absurd h (Nat.not_lt_zero i), fun i h => absurd h (Nat.not_lt_zero i)⟩, ⟨⟨b4, b5⟩, fun i h => absurd h (Nat.not_lt_zero i), fun i h => absurd h (Nat.not_lt_zero i)⟩, ⟨b6, fun i h => absurd h (Nat.not_lt_zero i)⟩, ⟨b7, b8⟩, a5, fun i h => absurd h (Nat.not_lt_zero i)⟩
  · show mI MI 102 k = nI 0
    rcases (by omega : k = 0 ∨ k = 1 ∨ k = 2 ∨ k = 3) with rfl | rfl | rfl | rfl
    · exact c0
    · exact c1
    · exact c2
    · exact c3
  · exact ⟨⟨⟨d0, d1, d2, d3, d4⟩, fun i h => absurd h (Nat.not_lt_zero i), fun i h => absurd h (Nat.not_lt_zero i), fun k _ _ i h => absurd h (Nat.not_lt_zero i)⟩, ⟨e0, fun i h => absurd h (Nat.not_lt_zero i), fun i h => absurd h (Nat.not_lt_zero i)⟩, ⟨e1, fun i h => absurd h (Nat.not_lt_zero i)⟩, ⟨e2, 0, by decide, e3, fun i h => absurd h (Nat.not_lt_zero i)⟩, e4, e5⟩
  · show mR MI 29 k = none
    rcases (by omega : k = 0 ∨ k = 1 ∨ k = 2 ∨ k = 3) with rfl | rfl | rfl | rfl
    · exact g0
    · exact g1
    · exact g2
    · exact g3
  · exfalso
    rcases (by omega : k = 0 ∨ k = 1 ∨ k = 2 ∨ k = 3) with rfl | rfl | rfl | rfl
    · rw [g0] at x1; cases x1
    · rw [g1] at x1; cases x1
    · rw [g2] at x1; cases x1
    · rw [g3] at x1; cases x1
  · rw [mi_len]; omega
  · rw [mi_len]; omega
  · exact Nat.le_trans mi_us (by omega)
theorem mi_l1 : (f_X9_init 0 (nw M0 (.inl 9))).map (fun x => (mS x.2).length) = some 66 := by decide +kernel
theorem law_MI (L : Nat) (xs : Nat → Int32) : f_L_law L xs M0 = f_L_law_L18 L xs FU 0 66 (nI 0) MI := by
  have h0 := mi_l1
  have e := mi_eq
  unfold MIo at e
  cases h1 : f_X9_init 0 (nw M0 (.inl 9)) with
  | none => rw [h1] at h0; cases h0
  | some x =>
    obtain ⟨u, M1⟩ := x
    rw [h1] at h0 e
    have l1 : (mS M1).length = 66 := Option.some.inj h0
    cases h2 : f_X10_init 66 (nw M1 (.inl 10)) with
    | none => rw [Option.bind_some, h2] at e; cases e
    | some y =>
      obtain ⟨u2, M2⟩ := y
      rw [Option.bind_some, h2] at e
      have l2 : M2 = MI := Option.some.inj e
      unfold f_L_law newO
      rw [show (mS M0).length = 0 from rfl]
      dsimp only
      rw [h1, cl_some, l1, h2, cl_some, l2]
theorem ST.sz {M : Mem} {G : GD} (h : ST M G) : (mS M).length ≤ room_1.cells ∧ us M ≤ room_1.slots := by
  obtain ⟨s1, s2, s3⟩ := h.2.1.2.2.2.2.2.1
  have h1 := ctb_le (fun k => (zM G k).isSome) 4
  have h2 := h.2.2.2.2.2.1
  have h3 : 200 ≤ room_1.cells := by decide
  have h4 : 30000 ≤ room_1.slots := by decide
  unfold cnI at s2 s3
  omega
theorem law_of (hrule : ∀ {M : Mem} {G : GD}, ST M G → BO (f_X9_rule 0) (f_X10_rule 66) M) (hrow : ∀ {M : Mem} {G : GD}, ST M G → ∀ a b c, BO (f_X9_row 0 a b c) (f_X10_row 66 a b c) M) (hgame : ∀ {M : Mem} {G : GD}, ST M G → ∀ a b c d, BO (f_X9_game 0 a b c d) (f_X10_game 66 a b c d) M) (L : Nat) (xs : Nat → Int32) (hL : L ≤ 3072) : ∃ M' : Mem, f_L_law L xs M0 = some (1, M') ∧ (mS M').length ≤ room_1.cells ∧ us M' ≤ room_1.slots := by
  obtain ⟨f, hf⟩ := FUd 600 (by omega)
  obtain ⟨v, M', e, rfl, G, hG⟩ := law_loop hrule hrow hgame L xs hL 600 0 f MI ⟨G_0, st_0⟩ (by omega) (by omega)
  refine ⟨M', ?_, hG.sz⟩
  rw [← e, ← hf]
  exact law_MI L xs
