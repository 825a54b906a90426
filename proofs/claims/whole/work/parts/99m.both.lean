/-! BOTH SIDES ON ONE MEMORY -/
variable {O M M' : Mem} {G : GD}
def ST (M : Mem) (G : GD) : Prop := RG M 66 M G ∧ CG M M G ∧ GOk G
theorem rt_36 : ∀ q ∈ RTb, q.2.1 ≤ 36 := by decide
theorem RG.gh (h : RG O 66 M G) : RG M 66 M G := ⟨⟨h.1.1, h.1.2.1, h.1.2.2.1, ⟨rfl, rfl⟩, fun _ _ => rfl⟩, h.2⟩
theorem RG.og (h : RG O 66 M G) : OG O 66 M := h.1.2.2.2
theorem RG.x (h : RG O 66 M G) (o : OC M M') : RG M' 66 M' G := by
  obtain ⟨⟨h1, h2, h3, -⟩, h4, h5, h6, h8⟩ := h
  have e : ∀ k, k ≤ 36 → mI M' (66 + k) = mI M (66 + k) := fun k hk => (o (66 + k) (by omega) (by omega)).2.2
  have e0 : mI M' 66 = mI M 66 := e 0 (by omega)
  refine ⟨⟨⟨?_, fun q hq => ⟨?_, ?_⟩⟩, ?_, ?_, ⟨rfl, rfl⟩, fun _ _ => rfl⟩, ?_, h5.of (fun a a1 a2 => e a (by omega)) (by rw [e0]), ?_, ?_⟩
  · have := h1.1
    unfold clsOf at this ⊢
    rw [(o 66 (by omega) (by omega)).1]; exact this
  · rw [(o 66 (by omega) (by omega)).2.1]; exact (h1.2 q hq).1
  · have hb := rt_36 q hq
    have := (h1.2 q hq).2
    unfold lenOf at this ⊢
    rw [(o (66 + q.2.1) (by omega) (by omega)).1]; exact this
  · show mI M' 66 38 = _
    rw [e0]; exact h2
  · rw [e0]; exact h3
  · unfold RBk
    rw [e0, e 1 (by omega), e 2 (by omega), e 3 (by omega), e 4 (by omega), e 5 (by omega), e 6 (by omega), e 7 (by omega), e 8 (by omega), e 9 (by omega), e 10 (by omega), e 11 (by omega), e 28 (by omega)]
    exact h4
  · rw [e0, e 17 (by omega)]; exact h6
  · rw [e 36 (by omega), e 35 (by omega)]; exact h8
theorem CG.x (h : CG O M G) (o : OG M 66 M') : CG M' M' G := by
  obtain ⟨⟨s, r⟩, i⟩ := o
  obtain ⟨g1, g2, g3, g4, g5, g6, g7⟩ := h
  refine ⟨by rw [s, r]; exact g1, g2.of (fun k hk => i _ (by omega)), ⟨g3.1, by rw [i 0 (by omega)]; exact g3.2.1, fun k hk => ?_⟩, ⟨by rw [i 1 (by omega)]; exact g4.1, by rw [i 2 (by omega)]; exact g4.2⟩, ⟨fun k hk => ?_, fun k k' a q1 q2 e1 e2 => g5.2 k k' a q1 q2 (by rw [← r]; exact e1) (by rw [← r]; exact e2)⟩, g6.of s, fun a _ _ => ⟨rfl, rfl, rfl⟩⟩
  · obtain ⟨a, ⟨a1, a2⟩, a3⟩ := g3.2.2 k hk
    exact ⟨a, ⟨by rw [r]; exact a1, a2⟩, a3.of (fun i _ => by rw [s]) (fun k => by rw [r]) (i a (by omega)) (i (a + 1) (by omega))⟩
  · have := g5.1 k hk
    cases hi : zM G k with
    | none =>
      rw [hi] at this
      show mR M' 29 k = none
      rw [r]; exact this
    | some B2 =>
      rw [hi] at this
      obtain ⟨a, ⟨a1, a2⟩, a3, a4⟩ := this
      exact ⟨a, ⟨by rw [r]; exact a1, a2⟩, by rw [s, r]; exact a3, a4.of (fun j _ => i _ (by omega))⟩
theorem CG.oc (h : CG O M G) : OC O M := h.2.2.2.2.2.2
/-- both are called, the class first -/
def BO (fc fr : Mem → Option (Int32 × Mem)) (M : Mem) : Prop := WP (fc M) (fun a M1 => RIs (mS M1) (mR M1) 66 ∧ WP (fr M1) (fun b M2 => a = b ∧ ∃ G, ST M2 G))
theorem BO.mk {fc fr : Mem → Option (Int32 × Mem)} {v : Int32} {G' : GD} (h : ST M G) (hy : WP (fc M) (fun w M' => w = v ∧ CG M M' G')) (hx : ∀ O M1, RG O 66 M1 G → WP (fr M1) (fun w M' => w = v ∧ RG O 66 M' G' ∧ GOk G')) : BO fc fr M := by
  refine WP.mono hy (fun a M1 c => ?_)
  have rg := h.1.x c.2.oc
  refine ⟨rg.1.1, WP.mono (hx M1 M1 rg) (fun b M2 d => ⟨c.1.trans d.1.symm, G', d.2.1.gh, c.2.x d.2.1.og, d.2.2⟩)⟩
theorem BO.q {fc fr : Mem → Option (Int32 × Mem)} {v : Int32} (h : ST M G) (hy : WP (fc M) (fun w M' => w = v ∧ AF M M')) (hx : ∀ M1, RG M1 66 M1 G → WP (fr M1) (fun w M' => w = v ∧ RA 66 M1 M')) : BO fc fr M :=
  BO.mk (v := v) (G' := G) h (WP.mono hy (fun w M' c => ⟨c.1, h.2.1.qu c.2⟩)) (fun O M1 g => WP.mono (hx M1 g.gh) (fun w M' c => ⟨c.1, g.qu h.2.2 c.2, h.2.2⟩))
theorem BO.n {fc fr : Mem → Option (Int32 × Mem)} {v : Int32} (h : ST M G) (hy : fc M = some (v, M)) (hx : ∀ M1, RG M1 66 M1 G → fr M1 = some (v, M1)) : BO fc fr M :=
  BO.mk (v := v) (G' := G) h (WP.of hy ⟨rfl, h.2.1⟩) (fun O M1 g => WP.of (hx M1 g.gh) ⟨rfl, g, h.2.2⟩)
theorem s_feed (h : ST M G) (a b c d e : Int32) : BO (f_X9_feed 0 a b c d e) (f_X10_feed 66 a b c d e) M := BO.mk h (y_feed h.2.1 h.2.2 a b c d e) (fun O M1 g => WP.mono (x_feed g h.2.2 a b c d e) (fun w M' k => ⟨k.1, k.2, a_feed_ok h.2.2 a b c d e⟩))
theorem s_end (h : ST M G) (a : Int32) : BO (f_X9_end 0 a) (f_X10_end 66 a) M := BO.mk h (y_end h.2.1 h.2.2 a) (fun O M1 g => WP.mono (x_end g h.2.2 a) (fun w M' k => ⟨k.1, k.2, a_end_ok h.2.2 a⟩))
theorem s_bar (h : ST M G) : BO (f_X9_bar 0) (f_X10_bar 66) M := BO.mk h (y_bar h.2.1 h.2.2) (fun O M1 g => WP.mono (x_bar g h.2.2) (fun w M' k => ⟨k.1, k.2, a_bar_k h.2.2⟩))
theorem s_force (h : ST M G) (a : Int32) : BO (f_X9_force 0 a) (f_X10_force 66 a) M := BO.mk h (y_force h.2.1 h.2.2 a) (fun O M1 g => x_force g h.2.2 a)
theorem s_joke (h : ST M G) (a b : Int32) : BO (f_X9_joke 0 a b) (f_X10_joke 66 a b) M := BO.n h (y_joke h.2.1.1 h.2.1.ct h.2.2.1.1 h.2.1.cc h.2.2.1.2.1 a b) (fun M1 g => x_joke g.1.1 g.rt h.2.2.1.1 g.rs h.2.2.1.2.1 a b)
theorem s_ship (h : ST M G) (a b : Int32) : BO (f_X9_ship 0 a b) (f_X10_ship 66 a b) M := BO.n h (y_ship h.2.1.1 h.2.1.ct h.2.2.1.1 h.2.1.cc h.2.2.1.2.1 a b) (fun M1 g => x_ship g.1.1 g.rt h.2.2.1.1 g.rs h.2.2.1.2.1 a b)
theorem s_tide (h : ST M G) : BO (f_X9_tide 0) (f_X10_tide 66) M := BO.mk h (y_tide h.2.1 h.2.2) (fun O M1 g => x_tide g h.2.2)
theorem s_say (h : ST M G) (a b : Int32) : BO (f_X9_say 0 a b) (f_X10_say 66 a b) M := BO.mk h (y_say h.2.1 h.2.2 a b) (fun O M1 g => x_say g h.2.2 a b)
theorem s_trade (h : ST M G) (a b : Int32) : BO (f_X9_trade 0 a b) (f_X10_trade 66 a b) M := BO.mk h (y_trade h.2.1 h.2.2 a b) (fun O M1 g => x_trade g h.2.2 a b)
theorem s_coin (h : ST M G) (a b : Int32) : BO (f_X9_coin 0 a b) (f_X10_coin 66 a b) M := BO.mk h (y_coin h.2.1 h.2.2 a b) (fun O M1 g => x_coin g h.2.2 a b)
theorem s_dull (h : ST M G) (a : Int32) : BO (f_X9_dull 0 a) (f_X10_dull 66 a) M := BO.mk h (y_dull h.2.1 h.2.2 a) (fun O M1 g => x_dull g h.2.2 a)
theorem s_undo (h : ST M G) : BO (f_X9_undo 0) (f_X10_undo 66) M := BO.mk h (y_undo h.2.1 h.2.2) (fun O M1 g => x_undo g h.2.2)
theorem s_ahead (h : ST M G) (a b c : Int32) : BO (f_X9_ahead 0 a b c) (f_X10_ahead 66 a b c) M := BO.q h (y_ahead (h.2.1.ce h.2.2) a b c) (fun M1 g => x_ahead (g.re h.2.2) a b c)
theorem s_over (h : ST M G) (a b : Int32) : BO (f_X9_over 0 a b) (f_X10_over 66 a b) M := BO.q h (y_over (h.2.1.ce h.2.2) a b) (fun M1 g => x_over (g.re h.2.2) a b)
theorem s_alike (h : ST M G) (a b : Int32) : BO (f_X9_alike 0 a b) (f_X10_alike 66 a b) M := BO.n h (y_alike h.2.1.1 h.2.1.ct h.2.2.1.1 h.2.1.cc h.2.2.1.2.1 a b) (fun M1 g => x_alike g.1.1 g.rt h.2.2.1.1 a b)
theorem s_fresh (h : ST M G) : BO (f_X9_fresh 0) (f_X10_fresh 66) M := BO.n h (y_fresh h.2.1.1 h.2.1.ct h.2.2.1.1 h.2.1.cc h.2.2.1.2.1) (fun M1 g => x_fresh g.1.1 g.rt h.2.2.1.1 g.rs h.2.2.1.2.1)
theorem s_least (h : ST M G) : BO (f_X9_least 0) (f_X10_least 66) M := BO.n h (y_least h.2.1.1 h.2.1.ct h.2.2.1.1 h.2.1.cc h.2.2.1.2.1) (fun M1 g => x_least g.1.1 g.rt h.2.2.1.1)
theorem s_forget (h : ST M G) (a b : Int32) : BO (f_X9_forget 0 a b) (f_X10_forget 66 a b) M := BO.q h (y_forget (h.2.1.ce h.2.2) a b) (fun M1 g => x_forget (g.re h.2.2) a b)
theorem s_barter (h : ST M G) (a b : Int32) : BO (f_X9_barter 0 a b) (f_X10_barter 66 a b) M := BO.q h (y_barter (h.2.1.ce h.2.2) a b) (fun M1 g => x_barter (g.re h.2.2) a b)
theorem s_school (h : ST M G) (a b : Int32) : BO (f_X9_school 0 a b) (f_X10_school 66 a b) M := BO.q h (y_school (h.2.1.ce h.2.2) a b) (fun M1 g => x_school (g.re h.2.2) a b)
theorem s_old (h : ST M G) (a b c d : Int32) : BO (f_X9_old 0 a b c d) (f_X10_old 66 a b c d) M := BO.q h (y_old (h.2.1.ce h.2.2) a b c d) (fun M1 g => x_old (g.re h.2.2) g.2.2.1 a b c d)
theorem s_parts (h : ST M G) (a b : Int32) : BO (f_X9_parts 0 a b) (f_X10_parts 66 a b) M := BO.n h (y_parts h.2.1.1 h.2.1.ct h.2.2.1.1 h.2.1.cc h.2.2.1.2.1 a b) (fun M1 g => x_parts g.1.1 g.rt h.2.2.1.1 g.rs h.2.2.1.2.1 a b)
theorem s_order (h : ST M G) (a : Int32) : BO (f_X9_order 0 a) (f_X10_order 66 a) M := BO.q h (y_order (h.2.1.ce h.2.2) a) (fun M1 g => x_order (g.re h.2.2) a)
theorem s_note (h : ST M G) (a b c : Int32) : BO (f_X9_note 0 a b c) (f_X10_note 66 a b c) M := BO.mk h (y_note h.2.1 h.2.2 a b c) (fun O M1 g => x_note g h.2.2 a b c)
theorem s_ruled (h : ST M G) (a : Int32) : BO (f_X9_ruled 0 a) (f_X10_ruled 66 a) M := BO.q h (y_ruled (h.2.1.ce h.2.2) h.2.1.cn h.2.2.1.2.2.2.1 a) (fun M1 g => x_ruled (g.re h.2.2) g.2.2.1 g.rn h.2.2.1.2.2.2.1 a)
theorem s_look (h : ST M G) (a b : Int32) : BO (f_X9_look 0 a b) (f_X10_look 66 a b) M := BO.q h (y_look (h.2.1.ce h.2.2) h.2.1.cn h.2.2.1.2.2.2.1 a b) (fun M1 g => x_look (g.re h.2.2) g.2.2.1 g.rn h.2.2.1.2.2.2.1 a b)
theorem s_seed (h : ST M G) (a : Int32) : BO (f_X9_seed 0 a) (f_X10_seed 66 a) M := BO.mk h (y_seed h.2.1 a) (fun O M1 g => x_seed g h.2.2 a)
theorem s_parrots (h : ST M G) (a b c d : Int32) : BO (f_X9_parrots 0 a b c d) (f_X10_parrots 66 a b c d) M := BO.q h (y_parrots (h.2.1.ce h.2.2) h.2.1.2.1.2.2.2.2.1 h.2.2.1.2.2.2.2.2.1 a b c d) (fun M1 g => x_parrots (g.re h.2.2) g.2.1.2.2.2.1.1 h.2.2.1.2.2.2.2.2.1 a b c d)
theorem s_count (h : ST M G) (a : Int32) : BO (f_X9_count 0 a) (f_X10_count 66 a) M := BO.n h (y_count h.2.1 h.2.2 a) (fun M1 g => x_count g h.2.2 a)
theorem s_image (h : ST M G) (a : Int32) : BO (f_X9_image 0 a) (f_X10_image 66 a) M := BO.mk h (y_image h.2.1 h.2.2 a) (fun O M1 g => WP.mono (x_image g h.2.2 a) (fun w M' k => ⟨k.1, k.2, a_image_ok h.2.2 a⟩))
theorem s_back (h : ST M G) (a : Int32) : BO (f_X9_back 0 a) (f_X10_back 66 a) M := BO.mk h (y_back h.2.1 h.2.2 a) (fun O M1 g => WP.mono (x_back g h.2.2 a) (fun w M' k => ⟨k.1, k.2, a_back_ok h.2.2 a⟩))
