/-! A BAR: its clauses; the reference's loop -/
theorem nmF_0 {t : TP} {q lo N : Nat} (h : nmF t q lo N = 0) : lo ≤ tkV t q ∧ tkV t q < N := by
  unfold nmF at h
  by_cases k1 : tkK t q = 1
  · rw [if_pos k1] at h
    by_cases c : lo ≤ tkV t q ∧ tkV t q < N
    · exact c
    · rw [if_neg c] at h; omega
  · rw [if_neg k1] at h; omega
theorem nm2_0 {t : TP} {p a b c d : Nat} (z : nm2 t p a b c d = 0) : nmF t p a b = 0 ∧ nmF t (tkE t p) c d = 0 := by
  unfold nm2 at z
  by_cases z1 : nmF t p a b = 0
  · rw [if_pos z1] at z; exact ⟨z1, z⟩
  · rw [if_neg z1] at z; exact absurd z z1
def BT2 (n : Nat) (T : TD) : Prop := BTk T ∧ (0 < n → 0 < tF T ∧ 0 < tK T)
theorem bwk_le (t : TP) (p : Nat) : bwk t p ≤ 4 := by
  unfold bwk
  split
  · omega
  · split
    · omega
    · split
      · omega
      · split <;> omega
theorem brC_ok {t : TP} {p n : Nat} {T : TD} (h : BT2 n T) (z : (brC t p T n).1 = 0) : BT2 (n + 1) (brC t p T n).2.2 := by
  have hw := bwk_le t p
  unfold brC at z ⊢
  by_cases c4 : bwk t p = 4
  · rw [if_pos c4] at z
    have z : 1 + 8 * bk t p = 0 := z
    omega
  · rw [if_neg c4] at z ⊢
    cases cf : bfl T n (bwk t p) with
    | true =>
      rw [cf] at z
      have z : 1 + 8 * bk t p + 4 = 0 := z
      omega
    | false =>
      rw [cf] at z
      show BT2 (n + 1) (brP t (tkE t p) T (bwk t p)).2.2
      have z : (brP t (tkE t p) T (bwk t p)).1 = 0 := z
      unfold bfl at cf
      obtain ⟨cf1, cf4⟩ := Bool.or_eq_false_iff.mp cf
      obtain ⟨cf2, cf3⟩ := Bool.or_eq_false_iff.mp cf1
      obtain ⟨cf0, cf5⟩ := Bool.or_eq_false_iff.mp cf2
      obtain ⟨⟨⟨b1, b2, b3, b4⟩, b5, b6, b7⟩, b8⟩ := h
      unfold brP at z ⊢
      rcases (show bwk t p = 0 ∨ bwk t p = 1 ∨ bwk t p = 2 ∨ bwk t p = 3 by omega) with e | e | e | e
      · rw [if_pos e] at z ⊢
        obtain ⟨z1, z2⟩ := nm2_0 z
        have r1 := nmF_0 z1
        have r2 := nmF_0 z2
        exact ⟨⟨⟨by show tkV t (tkE t p) ≤ 60; omega, by show tkV t (tkE t (tkE t p)) ≤ 3; omega, b3, b4⟩, b5, b6, b7⟩, fun _ => ⟨by show 0 < tkV t (tkE t p); omega, by show 0 < tkV t (tkE t (tkE t p)); omega⟩⟩
      · have n0 : 0 < n := by
          rw [e] at cf5
          by_cases h0 : n = 0
          · rw [h0] at cf5; cases cf5
          · omega
        rw [if_neg (by omega), if_pos e] at z ⊢
        have z12 : nm2 t (tkE t p) 0 10 0 10 = 0 := by
          by_cases z1 : nm2 t (tkE t p) 0 10 0 10 = 0
          · exact z1
          · have z : (if nm2 t (tkE t p) 0 10 0 10 = 0 then nmF t (tkE t (tkE t (tkE t p))) 0 10 else nm2 t (tkE t p) 0 10 0 10) = 0 := z
            rw [if_neg z1] at z; exact absurd z z1
        have z3 : nmF t (tkE t (tkE t (tkE t p))) 0 10 = 0 := by
          have z : (if nm2 t (tkE t p) 0 10 0 10 = 0 then nmF t (tkE t (tkE t (tkE t p))) 0 10 else nm2 t (tkE t p) 0 10 0 10) = 0 := z
          rw [if_pos z12] at z; exact z
        obtain ⟨z1, z2⟩ := nm2_0 z12
        have r1 := nmF_0 z1
        have r2 := nmF_0 z2
        have r3 := nmF_0 z3
        have j8 : tJ T ≠ 8 := fun q => by rw [e, q] at cf3; cases cf3
        refine ⟨⟨⟨b1, b2, by show tJ T + 1 ≤ 8; omega, b4⟩, fun i => ?_, b6, b7⟩, fun _ => b8 n0⟩
        show fset (fset (fset (tP T) (3 * tJ T) _) (3 * tJ T + 1) _) (3 * tJ T + 2) _ i < 10
        by_cases c2 : i = 3 * tJ T + 2
        · rw [c2, fset_s]; omega
        · rw [fset_o _ _ c2]
          by_cases c1 : i = 3 * tJ T + 1
          · rw [c1, fset_s]; omega
          · rw [fset_o _ _ c1]
            by_cases c0 : i = 3 * tJ T
            · rw [c0, fset_s]; omega
            · rw [fset_o _ _ c0]; exact b5 i
      · have n0 : 0 < n := by
          rw [e] at cf5
          by_cases h0 : n = 0
          · rw [h0] at cf5; cases cf5
          · omega
        rw [if_neg (by omega), if_neg (by omega), if_pos e] at z ⊢
        obtain ⟨z1, z2⟩ := nm2_0 z
        have r1 := nmF_0 z1
        have r2 := nmF_0 z2
        have s5 : tN T ≠ 5 := fun q => by rw [e, q] at cf4; cases cf4
        refine ⟨⟨⟨b1, b2, b3, by show tN T + 1 ≤ 5; omega⟩, b5, fun s => ⟨?_, ?_, (b6 s).2.2⟩, fun s hs => b7 s (by have hs : tN T + 1 ≤ s := hs; omega)⟩, fun _ => b8 n0⟩
        · show fset (tC T) (tN T) _ s < 100
          by_cases c : s = tN T
          · rw [c, fset_s]; omega
          · rw [fset_o _ _ c]; exact (b6 s).1
        · show fset (tE T) (tN T) _ s ≤ 60
          by_cases c : s = tN T
          · rw [c, fset_s]; omega
          · rw [fset_o _ _ c]; exact (b6 s).2.1
      · have n0 : 0 < n := by
          rw [e] at cf5
          by_cases h0 : n = 0
          · rw [h0] at cf5; cases cf5
          · omega
        rw [if_neg (by omega), if_neg (by omega), if_neg (by omega)] at z ⊢
        obtain ⟨z1, z2⟩ := nm2_0 z
        have r1 := nmF_0 z1
        have r2 := nmF_0 z2
        refine ⟨⟨⟨b1, b2, b3, b4⟩, b5, fun s => ⟨(b6 s).1, (b6 s).2.1, ?_⟩, fun s hs => ?_⟩, fun _ => b8 n0⟩
        · show fset (tW T) (tkV t (tkE t p)) _ s < 256
          by_cases c : s = tkV t (tkE t p)
          · rw [c, fset_s]
            exact or_256 (b6 _).2.2 (Nat.pow_lt_pow_right (a := 2) (n := 8) (by decide) (by omega))
          · rw [fset_o _ _ c]; exact (b6 s).2.2
        · have hs : tN T ≤ s := hs
          show fset (tW T) (tkV t (tkE t p)) _ s = 0
          rw [fset_o _ _ (by omega)]; exact b7 s hs
theorem tkE_w {t : TP} {p : Nat} {w : List Nat} (hw : 0 < w.length) (e : lts t (bk t p) = w) : tkK t p = 2 ∧ tkE t p = bk t p + w.length := by
  have hlen : ru isLt t (bk t p) - bk t p = w.length := by rw [← lts_len, e]
  have hg := ru_ge isLt t (bk t p)
  have hh : bk t p < t.1 ∧ isLt (t.2 (bk t p)) = true := by
    by_cases h : bk t p < t.1 ∧ isLt (t.2 (bk t p)) = true
    · exact h
    · rw [lts_no h] at e; rw [← e] at hw; cases hw
  have k2 : tkK t p = 2 := by
    unfold tkK
    have nd : ¬ isDg (t.2 (bk t p)) = true := fun z => by
      have a1 := of_decide_eq_true z
      have a2 := of_decide_eq_true hh.2
      omega
    rw [if_neg (by omega), if_neg nd, if_pos hh.2]
  refine ⟨k2, ?_⟩
  unfold tkE
  rw [k2, if_neg (by decide), if_neg (by decide), if_pos rfl]
  omega
section RBRL
variable {M : Mem} {m : Nat} {t : TP}
theorem r_isFull {T : TD} (hT : BTk T) (hR : RIs (mS M) (mR M) m) (hN : NT M m T) {n k : Nat} (hn : n ≤ 40) (hk : k ≤ 3) : f_X10_isFull m (nI k) (nI n) M = some (bI (bfl T n k), M) := by
  obtain ⟨⟨b1, b2, b3, b4⟩, -⟩ := hT
  obtain ⟨⟨n0, n1, n2, n3⟩, -⟩ := hN
  unfold f_X10_isFull f_X10_isFull_J15 f_X10_isFull_J24 f_X10_isFull_J27 f_X10_isFull_J45 f_X10_isFull_J60 f_X10_isFull_J64 f_X10_isFull_J65 bfl
  by_cases c40 : n = 40
  · rw [if_pos (by rw [c40]), decide_eq_true c40]; rfl
  · rw [if_neg (by rw [n_eq (by omega) (by decide)]; exact c40), decide_eq_false c40]
    by_cases k0 : k = 0
    · rw [if_pos (by rw [k0]; rfl)]
      by_cases z : n = 0
      · rw [if_pos (by rw [z]; rfl), if_pos rfl, if_neg (by rw [k0]; decide), if_neg (by rw [k0]; decide), k0, z]
        rfl
      · rw [if_neg (by rw [nIz (by omega)]; exact z), if_neg (by decide), k0, decide_eq_false z]
        rfl
    · rw [if_neg (by rw [nIz (by omega)]; exact k0)]
      by_cases z : n = 0
      · rw [if_pos (by rw [z]; rfl), if_neg (by decide), decide_eq_false k0, decide_eq_true z]
        rfl
      · rw [if_neg (by rw [nIz (by omega)]; exact z), if_pos rfl, decide_eq_false k0, decide_eq_false z]
        by_cases k1 : k = 1
        · rw [if_pos (by rw [k1])]
          repeat (first | ((with_reducible apply clt_t); case h => (simp (disch := omega) only [hR]; with_reducible rfl)) | ((with_reducible apply bnd_t); case h => (simp (disch := omega) only [e_gR, e_gI, e_aI, e_aL, e_oO, e_pI, e_wI, e_wL, Option.map_some, mS_sL, mR_sL, mI_sL, mS_sI, mR_sI, mL_sI, n_cl, ro_m hR, rr_newScalar hR, rx_newScalar hR, n2]; with_reducible rfl)) | rw [nm_eq])
          by_cases j8 : tJ T = 8
          · rw [if_pos (by rw [j8]), decide_eq_true k1, decide_eq_true j8]; rfl
          · rw [if_neg (by rw [n_eq (by omega) (by decide)]; exact j8), if_neg (by rw [k1]; decide), decide_eq_false j8, k1]; rfl
        · rw [if_neg (by rw [n_eq (by omega) (by decide)]; exact k1), decide_eq_false k1]
          by_cases k2 : k = 2
          · rw [if_pos (by rw [k2])]
            repeat (first | ((with_reducible apply clt_t); case h => (simp (disch := omega) only [hR]; with_reducible rfl)) | ((with_reducible apply bnd_t); case h => (simp (disch := omega) only [e_gR, e_gI, e_aI, e_aL, e_oO, e_pI, e_wI, e_wL, Option.map_some, mS_sL, mR_sL, mI_sL, mS_sI, mR_sI, mL_sI, n_cl, ro_m hR, rr_newScalar hR, rx_newScalar hR, n3]; with_reducible rfl)) | rw [nm_eq])
            by_cases s5 : tN T = 5
            · rw [if_pos (by rw [s5]), decide_eq_true k2, decide_eq_true s5]; rfl
            · rw [if_neg (by rw [n_eq (by omega) (by decide)]; exact s5), decide_eq_false s5, Bool.and_false]; rfl
          · rw [if_neg (by rw [n_eq (by omega) (by decide)]; exact k2), decide_eq_false k2]; rfl
def bwU (k : Nat) : UInt32 := if k = 0 then 15 else if k = 1 then 2 else if k = 2 then 1 else 16
def bwL (k : Nat) : List Nat := if k = 0 then w_bar else if k = 1 then w_joke else if k = 2 then w_ship else w_knows
theorem bw_sw {k : Nat} (hk : k ≤ 3) : SW (bwU k) (bwL k) := by
  rcases (show k = 0 ∨ k = 1 ∨ k = 2 ∨ k = 3 by omega) with rfl | rfl | rfl | rfl
  · exact sw_bar
  · exact sw_joke
  · exact sw_ship
  · exact sw_knows
theorem bw_eq {k : Nat} (hk : k ≤ 3) (M : Mem) : f_X10_barWord (nI k) M = some (bwU k, M) := by
  unfold f_X10_barWord
  rcases (show k = 0 ∨ k = 1 ∨ k = 2 ∨ k = 3 by omega) with rfl | rfl | rfl | rfl
  · rw [tsw_i rfl (by decide)]; rfl
  · rw [tsw_i rfl (by decide)]; rfl
  · rw [tsw_i rfl (by decide)]; rfl
  · rw [tsw_o (n := 2) rfl (by decide)]; rfl
theorem brC_lt (h4 : TOk2 t) {p n : Nat} {T : TD} (hp : p ≤ t.1) : (brC t p T n).1 < 10000 := by
  have hL := h4.1
  have hb : bk t p ≤ t.1 := ru_le isBl t hp
  have e1 := (tkE_le hp).1
  have e2 := (tkE_le e1).1
  have e3 := (tkE_le e2).1
  have n2 : ∀ a b c d, nm2 t (tkE t p) a b c d < 10000 := fun a b c d => by
    unfold nm2
    split
    · exact nmF_lt h4 e2 _ _
    · exact nmF_lt h4 e1 _ _
  unfold brC
  split
  · show 1 + 8 * bk t p < 10000; omega
  · split
    · show 1 + 8 * bk t p + 4 < 10000; omega
    · unfold brP
      split
      · exact n2 _ _ _ _
      · split
        · show (if nm2 t (tkE t p) 0 10 0 10 = 0 then nmF t (tkE t (tkE t (tkE t p))) 0 10 else nm2 t (tkE t p) 0 10 0 10) < 10000
          split
          · exact nmF_lt h4 e3 _ _
          · exact n2 _ _ _ _
        · split
          · exact n2 _ _ _ _
          · exact n2 _ _ _ _
theorem x_barClause (h4 : TOk2 t) {p n : Nat} {T : TD} (hT : BTk T) (hn : n ≤ 40) (hpl : p ≤ t.1) (hR : RIs (mS M) (mR M) m) (ht : RTp M m t) (hp : mI M m 18 = nI p) (h19 : mI M m 19 = nI 0) (hN : NT M m T) :
    WP (f_X10_barClause m (nI n) M) (fun _ M' => FB m M M' ∧ mI M' m 19 = nI (brC t p T n).1 ∧ (∃ p', p' ≤ t.1 ∧ mI M' m 18 = nI p') ∧ ((brC t p T n).1 = 0 → mI M' m 18 = nI (brC t p T n).2.1 ∧ NT M' m (brC t p T n).2.2)) := by
  have hL := h4.1
  have hb : bk t p ≤ t.1 := ru_le isBl t hpl
  have a1 := r_blanks hR ht h4 hp (by omega)
  obtain ⟨M1, hM1⟩ : ∃ M1, M1 = sI M m 18 (nI (bk t p)) := ⟨_, rfl⟩
  rw [← hM1] at a1
  have f1 : FM m M M1 := by rw [hM1]; exact FM.w m M (Or.inl rfl) _
  have hR1 := f1.RI hR
  have t1 := f1.tp ht
  have e18 : mI M1 m 18 = nI (bk t p) := by rw [hM1, mI_sI, if_pos ⟨rfl, rfl⟩]
  have e19 : mI M1 m 19 = nI 0 := by rw [hM1, mI_sI, if_neg (by omega)]; exact h19
  have hN1 := f1.nt hN
  have j33 : ∀ k, k = bwk t p → WP (f_X10_barClause_J33 m (nI n) (nI (bk t p)) (nI k) M1) (fun _ M' => FB m M M' ∧ mI M' m 19 = nI (brC t p T n).1 ∧ (∃ p', p' ≤ t.1 ∧ mI M' m 18 = nI p') ∧ ((brC t p T n).1 = 0 → mI M' m 18 = nI (brC t p T n).2.1 ∧ NT M' m (brC t p T n).2.2)) := by
    intro k hk
    have hw := bwk_le t p
    unfold f_X10_barClause_J33
    by_cases k4 : k = 4
    · have eC : brC t p T n = (1 + 8 * bk t p, p, T) := by unfold brC; rw [if_pos (by omega)]
      refine WP.it (by rw [k4]) ?_
      have a2 := r_fails hR1 (fa := 0) (s := bk t p) (c := 0) (by decide) (by omega) (by decide) e19
      repeat (first | ((with_reducible apply WP.ce); case h => (simp (disch := omega) only [a2]; with_reducible rfl)) | ((with_reducible apply WP.bd); case h => (simp (disch := omega) only [e_gR, e_gI, e_aI, e_aL, e_oO, e_pI, e_wI, e_wL, Option.map_some, mS_sL, mR_sL, mI_sL, mS_sI, mR_sI, mL_sI, n_cl, ro_m hR1]; with_reducible rfl)) | rw [nm_eq] | rw [ckZ_n1] | rw [ckZ_n0])
      rw [eC]
      refine WP.ret ⟨(f1.tr (FM.w m M1 (Or.inr rfl) _)).FB, by rw [mI_sI, if_pos ⟨rfl, rfl⟩]; rfl, ⟨bk t p, hb, by rw [mI_sI, if_neg (by omega)]; exact e18⟩, fun z => ?_⟩
      have z : 1 + 8 * bk t p = 0 := z
      omega
    · refine WP.ie (by rw [n_eq (by omega) (by decide)]; exact k4) ?_
      have a2 := r_isFull hT hR1 hN1 hn (k := k) (by omega)
      repeat (first | ((with_reducible apply WP.ce); case h => (simp (disch := omega) only [a2]; with_reducible rfl)) | ((with_reducible apply WP.bd); case h => (simp (disch := omega) only [e_gR, e_gI, e_aI, e_aL, e_oO, e_pI, e_wI, e_wL, Option.map_some, mS_sL, mR_sL, mI_sL, mS_sI, mR_sI, mL_sI, n_cl, ro_m hR1]; with_reducible rfl)) | rw [nm_eq] | rw [ckZ_n1] | rw [ckZ_n0])
      refine WP.gd (fun g => ?_) (fun g => ?_)
      · have eC : brC t p T n = brP t (tkE t p) T k := by unfold brC; rw [if_neg (by omega), ← hk, g]; rfl
        have hword : lts t (bk t p) = bwL k := by
          have : bwk t p = k := hk.symm
          unfold bwk at this
          unfold bwL
          by_cases w0 : lts t (bk t p) = w_bar
          · rw [if_pos w0] at this; rw [if_pos this.symm]; exact w0
          · rw [if_neg w0] at this
            by_cases w1 : lts t (bk t p) = w_joke
            · rw [if_pos w1] at this; rw [if_neg (by omega), if_pos this.symm]; exact w1
            · rw [if_neg w1] at this
              by_cases w2 : lts t (bk t p) = w_ship
              · rw [if_pos w2] at this; rw [if_neg (by omega), if_neg (by omega), if_pos this.symm]; exact w2
              · rw [if_neg w2] at this
                by_cases w3 : lts t (bk t p) = w_knows
                · rw [if_pos w3] at this; rw [if_neg (by omega), if_neg (by omega), if_neg (by omega)]; exact w3
                · rw [if_neg w3] at this; omega
        have sw := bw_sw (k := k) (by omega)
        have wl : 0 < (bwL k).length := by
          rcases (show k = 0 ∨ k = 1 ∨ k = 2 ∨ k = 3 by omega) with rfl | rfl | rfl | rfl <;> decide
        have hE := (tkE_w wl hword).2
        have a3 := bw_eq (k := k) (by omega) M1
        have a4 := sw.2.2.1 M1
        have hE2 := (tkE_le hpl).1
        obtain ⟨M2, hM2⟩ : ∃ M2, M2 = sI M1 m 18 (nI (tkE t p)) := ⟨_, rfl⟩
        have f2 : FM m M M2 := f1.tr (by rw [hM2]; exact FM.w m M1 (Or.inl rfl) _)
        have hR2 := f2.RI hR
        repeat (first | ((with_reducible apply WP.ce); case h => (simp (disch := omega) only [a3]; with_reducible rfl)) | ((with_reducible apply WP.bd); case h => (simp (disch := omega) only [e_gR, e_gI, e_aI, e_aL, e_oO, e_pI, e_wI, e_wL, Option.map_some, mS_sL, mR_sL, mI_sL, mS_sI, mR_sI, mL_sI, n_cl, ro_m hR1, e18]; with_reducible rfl)) | rw [nm_eq] | rw [ckZ_n1] | rw [ckZ_n0])
        rw [kT_ok sw]
        repeat (first | ((with_reducible apply WP.ce); case h => (simp (disch := omega) only [a4]; with_reducible rfl)) | ((with_reducible apply WP.bd); case h => (simp (disch := omega) only [e_gR, e_gI, e_aI, e_aL, e_oO, e_pI, e_wI, e_wL, Option.map_some, mS_sL, mR_sL, mI_sL, mS_sI, mR_sI, mL_sI, n_cl, ro_m hR1]; with_reducible rfl)) | rw [nm_eq] | rw [ckZ_n1] | rw [ckZ_n0])
        rw [n_add, ← hE, ← hM2]
        have full : (bwk t p = 1 → tJ T ≠ 8) ∧ (bwk t p = 2 → tN T ≠ 5) := by
          rw [hk] at g
          unfold bfl at g
          obtain ⟨g1, g4⟩ := Bool.or_eq_false_iff.mp g
          obtain ⟨g2, g3⟩ := Bool.or_eq_false_iff.mp g1
          refine ⟨fun e q => ?_, fun e q => ?_⟩
          · rw [e, q] at g3; cases g3
          · rw [e, q] at g4; cases g4
        have b3 := hT.1.2.2.1
        have b4 := hT.1.2.2.2
        repeat (first | ((with_reducible apply WP.ce); case h => (simp (disch := omega) only []; with_reducible rfl)) | ((with_reducible apply WP.bd); case h => (simp (disch := omega) only [e_gR, e_gI, e_aI, e_aL, e_oO, e_pI, e_wI, e_wL, Option.map_some, mS_sL, mR_sL, mI_sL, mS_sI, mR_sI, mL_sI, n_cl, ro_m hR2]; with_reducible rfl)) | rw [nm_eq] | rw [ckZ_n1] | rw [ckZ_n0])
        refine WP.cw (x_barPart h4 (p := tkE t p) (k := k) hT (by omega) (fun e => by have := full.1 (by omega); omega) (fun e => by have := full.2 (by omega); omega) hE2 hR2 (f2.tp ht) (by rw [hM2, mI_sI, if_pos ⟨rfl, rfl⟩]) (by rw [hM2, mI_sI, if_neg (by omega)]; exact e19) (f2.nt hN)) (fun _ M3 c => ?_)
        rw [eC]
        exact WP.ret ⟨f2.FB.tr c.1, c.2.1, c.2.2.1, c.2.2.2⟩
      · have eC : brC t p T n = (1 + 8 * bk t p + 4, p, T) := by unfold brC; rw [if_neg (by omega), ← hk, g]; rfl
        have a3 := r_fails hR1 (fa := 0) (s := bk t p) (c := 4) (by decide) (by omega) (by decide) e19
        repeat (first | ((with_reducible apply WP.ce); case h => (simp (disch := omega) only [a3]; with_reducible rfl)) | ((with_reducible apply WP.bd); case h => (simp (disch := omega) only [e_gR, e_gI, e_aI, e_aL, e_oO, e_pI, e_wI, e_wL, Option.map_some, mS_sL, mR_sL, mI_sL, mS_sI, mR_sI, mL_sI, n_cl, ro_m hR1]; with_reducible rfl)) | rw [nm_eq] | rw [ckZ_n1] | rw [ckZ_n0])
        rw [eC]
        refine WP.ret ⟨(f1.tr (FM.w m M1 (Or.inr rfl) _)).FB, by rw [mI_sI, if_pos ⟨rfl, rfl⟩]; rfl, ⟨bk t p, hb, by rw [mI_sI, if_neg (by omega)]; exact e18⟩, fun z => ?_⟩
        have z : 1 + 8 * bk t p + 4 = 0 := z
        omega
  have lp : ∀ d k f, k + d = 4 → (∀ j, j < k → lts t (bk t p) ≠ bwL j) → WP (f_X10_barClause_L11 m (f + d + 1) (nI n) (nI (bk t p)) (nI k) M1) (fun _ M' => FB m M M' ∧ mI M' m 19 = nI (brC t p T n).1 ∧ (∃ p', p' ≤ t.1 ∧ mI M' m 18 = nI p') ∧ ((brC t p T n).1 = 0 → mI M' m 18 = nI (brC t p T n).2.1 ∧ NT M' m (brC t p T n).2.2)) := by
    intro d
    induction d with
    | zero =>
      intro k f hk hw
      rw [f_X10_barClause_L11]
      refine WP.it (by rw [n_le (by decide) (by omega)]; omega) (j33 k ?_)
      unfold bwk
      rw [if_neg (show ¬ lts t (bk t p) = w_bar from hw 0 (by omega)), if_neg (show ¬ lts t (bk t p) = w_joke from hw 1 (by omega)), if_neg (show ¬ lts t (bk t p) = w_ship from hw 2 (by omega)), if_neg (show ¬ lts t (bk t p) = w_knows from hw 3 (by omega))]
      omega
    | succ d ih =>
      intro k f hk hw
      have sw := bw_sw (k := k) (by omega)
      have a3 := bw_eq (k := k) (by omega) M1
      have a4 := r_stood hR1 t1 h4 e18 (by omega) sw
      rw [show f + (d + 1) + 1 = (f + d + 1) + 1 from by omega, f_X10_barClause_L11]
      refine WP.ie (by rw [n_le (by decide) (by omega)]; omega) ?_
      repeat (first | ((with_reducible apply WP.ce); case h => (simp (disch := omega) only [a3, a4]; with_reducible rfl)) | ((with_reducible apply WP.bd); case h => (simp (disch := omega) only [e_gR, e_gI, e_aI, e_aL, e_oO, e_pI, e_wI, e_wL, Option.map_some, mS_sL, mR_sL, mI_sL, mS_sI, mR_sI, mL_sI, n_cl, ro_m hR1]; with_reducible rfl)) | rw [nm_eq] | rw [ckZ_n1] | rw [ckZ_n0])
      by_cases hc : lts t (bk t p) = bwL k
      · rw [decide_eq_true hc]
        refine WP.ie (show ¬ bI true = 0 by decide) (j33 k ?_)
        unfold bwk
        rcases (show k = 0 ∨ k = 1 ∨ k = 2 ∨ k = 3 by omega) with rfl | rfl | rfl | rfl
        · rw [if_pos (show lts t (bk t p) = w_bar from hc)]
        · rw [if_neg (show ¬ lts t (bk t p) = w_bar from hw 0 (by omega)), if_pos (show lts t (bk t p) = w_joke from hc)]
        · rw [if_neg (show ¬ lts t (bk t p) = w_bar from hw 0 (by omega)), if_neg (show ¬ lts t (bk t p) = w_joke from hw 1 (by omega)), if_pos (show lts t (bk t p) = w_ship from hc)]
        · rw [if_neg (show ¬ lts t (bk t p) = w_bar from hw 0 (by omega)), if_neg (show ¬ lts t (bk t p) = w_joke from hw 1 (by omega)), if_neg (show ¬ lts t (bk t p) = w_ship from hw 2 (by omega)), if_pos (show lts t (bk t p) = w_knows from hc)]
      · rw [decide_eq_false hc]
        refine WP.it rfl ?_
        rw [n_add]
        exact ih (k + 1) f (by omega) (fun j hj => by
          by_cases e : j = k
          · rw [e]; exact hc
          · exact hw j (by omega))
  unfold f_X10_barClause
  repeat (first | ((with_reducible apply WP.ce); case h => (simp (disch := omega) only [a1]; with_reducible rfl)) | ((with_reducible apply WP.bd); case h => (simp (disch := omega) only [e_gR, e_gI, e_aI, e_aL, e_oO, e_pI, e_wI, e_wL, Option.map_some, mS_sL, mR_sL, mI_sL, mS_sI, mR_sI, mL_sI, n_cl, ro_m hR]; with_reducible rfl)) | rw [nm_eq] | rw [ckZ_n1] | rw [ckZ_n0])
  repeat (first | ((with_reducible apply WP.ce); case h => (simp (disch := omega) only []; with_reducible rfl)) | ((with_reducible apply WP.bd); case h => (simp (disch := omega) only [e_gR, e_gI, e_aI, e_aL, e_oO, e_pI, e_wI, e_wL, Option.map_some, mS_sL, mR_sL, mI_sL, mS_sI, mR_sI, mL_sI, n_cl, ro_m hR1, e18]; with_reducible rfl)) | rw [nm_eq] | rw [ckZ_n1] | rw [ckZ_n0])
  obtain ⟨f, hf⟩ := FUd 4 (by decide)
  rw [hf]
  exact lp 4 0 f (by omega) (fun j hj => absurd hj (Nat.not_lt_zero j))
end RBRL
