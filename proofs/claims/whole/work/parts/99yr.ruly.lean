/-! THE CLASS: a rule is made -/
variable {O : Mem}
section CMD
variable {M : Mem} {F : CDs} {w : Nat}
/-- the cells of a rule -/
def rlS (L : Nat) : List Shp := [.inl 4, .inr (0, L), .inr (3, 8)]
def flg (w m : Nat) : Bool := !decide (w &&& m = 0)
theorem flg_e {w m : Nat} (hm : m < 2 ^ 31) {α : Type} (x y : α) : (if nI w &&& nI m = 0 then x else y) = (if flg w m = false then x else y) := by
  have hl : w &&& m < 2 ^ 31 := Nat.lt_of_le_of_lt Nat.and_le_right hm
  have e : (nI w &&& nI m = 0) = (w &&& m = 0) := by rw [n_and, nIz hl]
  by_cases h : w &&& m = 0
  · rw [if_pos (by rw [e]; exact h), if_pos (by unfold flg; rw [decide_eq_true h]; rfl)]
  · rw [if_neg (by rw [e]; exact h), if_neg (by unfold flg; rw [decide_eq_false h]; decide)]
theorem flg_0 {w m k : Nat} (h : flg w m = false) (hk : m.testBit k = true) : w.testBit k = false := by
  have h0 : w &&& m = 0 := by
    unfold flg at h
    cases hd : decide (w &&& m = 0) with
    | true => exact of_decide_eq_true hd
    | false => rw [hd] at h; cases h
  have := Nat.testBit_and w m k
  rw [h0, Nat.zero_testBit, hk, Bool.and_true] at this
  exact this.symm
theorem y_copyOf {M1 : Mem} {a L : Nat} (hC : CIs (mS M1) (mR M1)) (hl : (mS M1).length = a) (h66 : 66 ≤ a) (h0 : 0 < L) (h4 : L < 400) : WP (f_J7_copyOf_59c91 (some 11) (nI L) M1) (fun v M' => v = some a ∧ M' = sIr (nw M1 (.inr (0, L))) a (va_cpy (mI (nw M1 (.inr (0, L))) 11) (mI (nw M1 (.inr (0, L))) a) 0 0 L)) := by
  have cn := cn_code hC
  unfold f_J7_copyOf_59c91
  repeat (first | ((with_reducible apply WP.ce); case h => (simp (disch := omega) only []; with_reducible rfl)) | ((with_reducible apply WP.bd); case h => (simp (disch := omega) only [e_gR, e_gI, e_aI, e_aL, e_oO, e_pI, e_wI, e_wL, Option.map_some, mS_sL, mR_sL, mI_sL, mS_sI, mR_sI, mL_sI, n_cl, e_lnA, cn]; with_reducible rfl)) | rw [nm_eq] | rw [ckZ_n1] | rw [ckZ_n0])
  refine WP.ie (by rw [n_eq (by omega) (by decide)]; omega) ?_
  refine WP.na (a := a) (by omega) hl ?_
  obtain ⟨M2, hM2⟩ : ∃ M2, M2 = nw M1 (.inr (0, L)) := ⟨_, rfl⟩
  rw [← hM2]
  have s2 : mS M2 = mS M1 ++ [.inr (0, L)] := by rw [hM2]; rfl
  have hC2 : CIs (mS M2) (mR M2) := hC.of (fun b hb => by rw [s2, List.getElem?_append_left (by omega)]) (fun b k hb _ _ _ => by rw [hM2]; exact congrFun (rowU_n _ _ (by show b ≠ (mS M1).length; omega)) k)
  have cn2 := cn_code hC2
  have l2 : lenOf (mS M2) 0 a = L := by
    have := len_app (mS M1) [.inr (0, L)] 0 0
    rw [hl, Nat.add_zero] at this
    rw [s2, this]; rfl
  have a2 := cpy_ok (M := M2) (a0 := 11) (a1 := a) (sp := 0) (dp := 0) (n := L) (cl_code hC2) l2 (by decide) h0 (by omega) (by omega) (by decide) (by omega)
  repeat (first | ((with_reducible apply WP.ce); case h => (simp (disch := omega) only []; with_reducible rfl)) | ((with_reducible apply WP.bd); case h => (simp (disch := omega) only [e_gR, e_gI, e_aI, e_aL, e_oO, e_pI, e_wI, e_wL, Option.map_some, mS_sL, mR_sL, mI_sL, mS_sI, mR_sI, mL_sI, n_cl, e_lnA, cn2]; with_reducible rfl)) | rw [nm_eq] | rw [ckZ_n1] | rw [ckZ_n0])
  rw [if_pos (by rw [n_lt (by omega) (by decide)]; exact h4)]
  repeat (first | ((with_reducible apply WP.ce); case h => (simp (disch := omega) only []; with_reducible rfl)) | ((with_reducible apply WP.bd); case h => (simp (disch := omega) only [e_gR, e_gI, e_aI, e_aL, e_oO, e_pI, e_wI, e_wL, Option.map_some, mS_sL, mR_sL, mI_sL, mS_sI, mR_sI, mL_sI, n_cl, a2]; with_reducible rfl)) | rw [nm_eq] | rw [ckZ_n1] | rw [ckZ_n0])
  exact WP.ret ⟨rfl, rfl⟩
theorem y_made (hC : CIs (mS M) (mR M)) {L : Nat} (h3 : mI M 10 3 = nI L) (h5 : mI M 10 5 = nI w) (h0 : 0 < L) (h4 : L < 400) (hlen : 103 ≤ (mS M).length) :
    WP (f_X5_made 10 M) (fun v M' => v = some (mS M).length ∧ mS M' = mS M ++ rlS L ∧ (∀ b, b < (mS M).length → mI M' b = mI M b ∧ mR M' b = mR M b) ∧ IRule (mS M') (mR M') (mS M).length L ∧ (mI M' (mS M).length 0 = bI (flg w 1288) ∧ mI M' (mS M).length 1 = bI (flg w 16) ∧ mI M' (mS M).length 2 = bI (flg w 64)) ∧ ∀ j, j < L → mI M' ((mS M).length + 1) j = mI M 11 j) := by
  obtain ⟨a, ha⟩ : ∃ a, a = (mS M).length := ⟨_, rfl⟩
  have n0 : NS M M [] [] := ⟨(List.append_nil _).symm, fun b _ => ⟨rfl, rfl, rfl⟩, fun q hq => by cases hq⟩
  have n1 := n0.nw (.inl 4)
  obtain ⟨M1, hM1⟩ : ∃ M1, M1 = nw M (.inl 4) := ⟨_, rfl⟩
  rw [← hM1] at n1
  have n1 : NS M M1 [.inl 4] [] := n1
  have l1 := n1.len
  have hC1 : CIs (mS M1) (mR M1) := hC.of (fun b hb => by rw [n1.1, List.getElem?_append_left (by omega)]) (fun b k hb _ _ _ => by rw [(n1.2.1 b (by omega)).2.1])
  have e3 : mI M1 10 3 = nI L := by rw [(n1.2.1 10 (by omega)).1]; exact h3
  unfold f_X5_made
  refine WP.no (a := a) ha.symm ?_
  rw [← hM1]
  repeat (first | ((with_reducible apply WP.ce); case h => (simp (disch := omega) only []; with_reducible rfl)) | ((with_reducible apply WP.bd); case h => (simp (disch := omega) only [e_gR, e_gI, e_aI, e_aL, e_oO, e_pI, e_wI, e_wL, Option.map_some, mS_sL, mR_sL, mI_sL, mS_sI, mR_sI, mL_sI, n_cl, cob_10 hC1, cr_code hC1, e3]; with_reducible rfl)) | rw [nm_eq] | rw [ckZ_n1] | rw [ckZ_n0])
  refine WP.cw (y_copyOf (a := a + 1) hC1 (by rw [l1, ha]; rfl) (by omega) h0 h4) (fun v M3 c => ?_)
  obtain ⟨rfl, hM3⟩ := c
  have n2 := n1.nw (.inr (0, L))
  have n3 := n2.sIr 1 (va_cpy (mI (nw M1 (.inr (0, L))) 11) (mI (nw M1 (.inr (0, L))) (a + 1)) 0 0 L)
  rw [← ha] at n3
  rw [← hM3] at n3
  have n3 : NS M M3 [.inl 4, .inr (0, L)] [] := n3
  have l3 := n3.len
  have hC3 : CIs (mS M3) (mR M3) := hC.of (fun b hb => by rw [n3.1, List.getElem?_append_left (by omega)]) (fun b k hb _ _ _ => by rw [(n3.2.1 b (by omega)).2.1])
  have e5 : mI M3 10 5 = nI w := by rw [(n3.2.1 10 (by omega)).1]; exact h5
  have c3 : ∀ j, j < L → mI M3 (a + 1) j = mI M 11 j := fun j hj => by
    rw [hM3, mI_sIr_s, va_cpy_z _ _ hj, (n2.2.1 11 (by omega)).1]
  repeat (first | ((with_reducible apply WP.ce); case h => (simp (disch := omega) only []; with_reducible rfl)) | ((with_reducible apply WP.bd); case h => (simp (disch := omega) only [e_gR, e_gI, e_aI, e_aL, e_oO, e_pI, e_wI, e_wL, Option.map_some, mS_sL, mR_sL, mI_sL, mS_sI, mR_sI, mL_sI, n_cl, cob_10 hC3, e5]; with_reducible rfl)) | rw [nm_eq] | rw [ckZ_n1] | rw [ckZ_n0])
  unfold f_X4_init
  have nm : WP (newA M3 3 (nI 8) fun a1 M => (pR M 4 4 (some a) (some a1)).bind fun M => (pR M 4 3 (some a) (some (a + 1))).bind fun M => if nI w &&& nI 1288 = 0 then f_X4_init_J31 a (nI w) (nI 0) (some a) M else f_X4_init_J31 a (nI w) (nI 1) (some a) M) (fun _ M' => mS M' = mS M ++ rlS L ∧ (∀ b, b < (mS M).length → mI M' b = mI M b ∧ mR M' b = mR M b) ∧ IRule (mS M') (mR M') a L ∧ (mI M' a 0 = bI (flg w 1288) ∧ mI M' a 1 = bI (flg w 16) ∧ mI M' a 2 = bI (flg w 64)) ∧ ∀ j, j < L → mI M' (a + 1) j = mI M 11 j) := by
    refine WP.na (n := 8) (a := a + 2) (by decide) (by rw [l3, ha]; rfl) ?_
    have n4 := n3.nw (.inr (3, 8))
    obtain ⟨M4, hM4⟩ : ∃ M4, M4 = nw M3 (.inr (3, 8)) := ⟨_, rfl⟩
    rw [← hM4] at n4 ⊢
    have n4 : NS M M4 [.inl 4, .inr (0, L), .inr (3, 8)] [] := n4
    have n5 := n4.sR (a := 0) (k := 4) (v := 2) (by show 0 < 3; decide) (fun q hq => by cases hq)
    have n6 := n5.sR (a := 0) (k := 3) (v := 1) (by show 0 < 3; decide) (fun q hq z => by
      rw [List.mem_singleton.mp hq] at z
      exact absurd z.2 (by decide))
    rw [Nat.add_zero, ← ha] at n5 n6
    have o4 : oS (mS M4) 4 (some a) = some a := by
      have := n4.o (a := 0) (ci := 4) rfl
      rw [Nat.add_zero, ← ha] at this; exact this
    obtain ⟨M6, hM6⟩ : ∃ M6, M6 = sR (sR M4 a 4 (some (a + 2))) a 3 (some (a + 1)) := ⟨_, rfl⟩
    rw [← hM6] at n6
    have o5 : oS (mS (sR M4 a 4 (some (a + 2)))) 4 (some a) = some a := o4
    have o6 : oS (mS M6) 4 (some a) = some a := by rw [hM6]; exact o4
    refine WP.bd (x := sR M4 a 4 (some (a + 2))) (by simp only [e_pR, o4, Option.map_some]) ?_
    refine WP.bd (x := M6) (by simp only [e_pR, o5, Option.map_some, ← hM6]) ?_
    -- the three flags
    have j63 : ∀ N : Mem, oS (mS N) 4 (some a) = some a → ∀ b : Bool, f_X4_init_J63 a (bI b) (some a) N = some ((), sI N a 2 (bI b)) := fun N hN b => by
      unfold f_X4_init_J63
      rw [ckZ_b, e_pI, hN]; rfl
    have j47 : ∀ N : Mem, oS (mS N) 4 (some a) = some a → ∀ b : Bool, f_X4_init_J47 a (nI w) (bI b) (some a) N = some ((), sI (sI N a 1 (bI b)) a 2 (bI (flg w 64))) := fun N hN b => by
      unfold f_X4_init_J47
      rw [ckZ_b, e_pI, hN, Option.map_some, Option.bind_some, flg_e (by decide)]
      cases hf : flg w 64 with
      | false => rw [if_pos rfl]; exact j63 (sI N a 1 (bI b)) hN false
      | true => rw [if_neg (by decide)]; exact j63 (sI N a 1 (bI b)) hN true
    have j31 : ∀ N : Mem, oS (mS N) 4 (some a) = some a → ∀ b : Bool, f_X4_init_J31 a (nI w) (bI b) (some a) N = some ((), sI (sI (sI N a 0 (bI b)) a 1 (bI (flg w 16))) a 2 (bI (flg w 64))) := fun N hN b => by
      unfold f_X4_init_J31
      rw [ckZ_b, e_pI, hN, Option.map_some, Option.bind_some, flg_e (by decide)]
      cases hf : flg w 16 with
      | false => rw [if_pos rfl]; exact j47 (sI N a 0 (bI b)) hN false
      | true => rw [if_neg (by decide)]; exact j47 (sI N a 0 (bI b)) hN true
    have last : (if nI w &&& nI 1288 = 0 then f_X4_init_J31 a (nI w) (nI 0) (some a) M6 else f_X4_init_J31 a (nI w) (nI 1) (some a) M6) = some ((), sI (sI (sI M6 a 0 (bI (flg w 1288))) a 1 (bI (flg w 16))) a 2 (bI (flg w 64))) := by
      rw [flg_e (by decide)]
      cases hf : flg w 1288 with
      | false => rw [if_pos rfl]; exact j31 _ o6 false
      | true => rw [if_neg (by decide)]; exact j31 _ o6 true
    have n9 := ((n6.sI 0 0 (bI (flg w 1288))).sI 0 1 (bI (flg w 16))).sI 0 2 (bI (flg w 64))
    rw [Nat.add_zero, ← ha] at n9
    obtain ⟨M9, hM9⟩ : ∃ M9, M9 = sI (sI (sI M6 a 0 (bI (flg w 1288))) a 1 (bI (flg w 16))) a 2 (bI (flg w 64)) := ⟨_, rfl⟩
    rw [← hM9] at n9 last
    refine WP.of last ⟨n9.1, fun b hb => ⟨(n9.2.1 b hb).1, (n9.2.1 b hb).2.1⟩, ⟨?_, ⟨?_, ?_⟩, ?_, ?_⟩, ⟨?_, ?_, ?_⟩, fun j hj => ?_⟩
    · have := cls_app (mS M) [.inl 4, .inr (0, L), .inr (3, 8)] 0
      rw [Nat.add_zero, ← ha] at this
      rw [n9.1, this]; rfl
    · have := (n9.2.2 (0, 3, 1) (by simp)).2
      rw [Nat.add_zero, ← ha] at this; exact this
    · rw [n9.1, ha, List.getElem?_append_right (by omega), Nat.add_sub_cancel_left]; rfl
    · have := (n9.2.2 (0, 4, 2) (by simp)).2
      rw [Nat.add_zero, ← ha] at this; exact this
    · have := len_app (mS M) [.inl 4, .inr (0, L), .inr (3, 8)] 3 2
      rw [← ha] at this
      rw [n9.1, this]; rfl
    · rw [hM9, mI_sI, if_neg (by omega), mI_sI, if_neg (by omega), mI_sI, if_pos ⟨rfl, rfl⟩]
    · rw [hM9, mI_sI, if_neg (by omega), mI_sI, if_pos ⟨rfl, rfl⟩]
    · rw [hM9, mI_sI, if_pos ⟨rfl, rfl⟩]
    · have r9 : mI M9 (a + 1) = mI M3 (a + 1) := by
        rw [hM9, sI_row (by omega), sI_row (by omega), sI_row (by omega), hM6]
        show mI M4 (a + 1) = _
        rw [hM4]
        exact rowU_n _ _ (by show a + 1 ≠ (mS M3).length; rw [l3, ha]; show _ ≠ (mS M).length + 2; omega)
      rw [r9]; exact c3 j hj
  refine WP.cw nm (fun _ M' g => ?_)
  rw [ha] at g
  refine WP.ret ⟨by rw [ha], g⟩
/-- a rule as the class has it -/
theorem mk_CRl {M' : Mem} {a : Nat} {W : RD} (hI : IRule (mS M') (mR M') a F.length) (hl : F.length ≤ 400) (hc : ∀ x ∈ F, cok x) (hm : ∀ j, j < F.length → mI M' (a + 1) j = nI (cwd (F.getD j (0, 0)))) (hf : mI M' a 0 = bI (flg w 1288) ∧ mI M' a 1 = bI (flg w 16) ∧ mI M' a 2 = bI (flg w 64)) (hW : dpd w W) (hx : ∀ v, ∃ n, n ≤ F.length + 1 ∧ xr F v n 0 [] = some (W v)) : CRl M' a W := by
  refine ⟨F.length, hI, ⟨flg w 1288, flg w 16, flg w 64, hf, fun z v v' e => hW v v' (fun k hk => ?_), fun z v v' e => hW v v' (fun k hk => ?_), fun z v v' e => hW v v' (fun k hk => ?_)⟩, fun M2 h1 h2 h3 => ?_⟩
  · refine e k (fun q => ?_) (fun q => ?_) (fun q => ?_)
    · subst q; rw [flg_0 z (by decide)] at hk; cases hk
    · subst q; rw [flg_0 z (by decide)] at hk; cases hk
    · subst q; rw [flg_0 z (by decide)] at hk; cases hk
  · refine e k (fun q => ?_)
    subst q; rw [flg_0 z (by decide)] at hk; cases hk
  · refine e k (fun q => ?_)
    subst q; rw [flg_0 z (by decide)] at hk; cases hk
  · obtain ⟨n, l, e⟩ := hx (fun k => if k < 11 then Int32.toInt64 (mI M2 32 k) else 0)
    exact y_worth h1 hl hc (by rw [h2]; exact hm) h3 (by omega) e
end CMD
section CRR
variable {M : Mem} {G : GD}
theorem rl_len {S : List Shp} {R : Nat → Nat → Option Nat} {a n : Nat} (h : IRule S R a n) : a + 2 < S.length := by
  have := lenOf_at (S := S) (t := 3) (a := a + 2) (by rw [h.2.2.2]; decide)
  exact (List.getElem?_eq_some_iff.mp this).1
theorem bk_len {S : List Shp} {R : Nat → Nat → Option Nat} {a : Nat} (h : IBook S R a) : a + 14 < S.length := by
  have := lenOf_at (S := S) (t := 0) (a := a + 14) (by rw [h.2.2.2.2.1.2]; decide)
  exact (List.getElem?_eq_some_iff.mp this).1
theorem y_rule (h : CG O M G) (hk : GOk G) : WP (f_X9_rule 0 M) (fun v M' => v = (a_rule G).1 ∧ CG O M' (a_rule G).2) := by
  have hC := h.1
  have h4 : TOk2 (zT G) := ⟨hk.2.1, hk.2.2.1⟩
  have hc6 := hk.2.2.2.1
  have g8 : mI M 0 8 = nI (zC G) := h.2.2.1.2.1
  have ht : CTp M (zT G) := h.2.2.2.1
  unfold f_X9_rule a_rule
  repeat (first | ((with_reducible apply WP.ce); case h => (simp (disch := omega) only []; with_reducible rfl)) | ((with_reducible apply WP.bd); case h => (simp (disch := omega) only [e_gR, e_gI, e_aI, e_aL, e_oO, e_pI, e_wI, e_wL, Option.map_some, mS_sL, mR_sL, mI_sL, mS_sI, mR_sI, mL_sI, n_cl, cob_0 hC, g8]; with_reducible rfl)) | rw [nm_eq] | rw [ckZ_n1] | rw [ckZ_n0])
  by_cases c6 : zC G = 6
  · rw [if_pos c6]
    exact WP.ie (by rw [n_lt (by omega) (by decide)]; omega) (WP.ret ⟨rfl, h⟩)
  · rw [if_neg c6]
    refine WP.it (by rw [n_lt (by omega) (by decide)]; omega) ?_
    repeat (first | ((with_reducible apply WP.ce); case h => (simp (disch := omega) only []; with_reducible rfl)) | ((with_reducible apply WP.bd); case h => (simp (disch := omega) only [e_gR, e_gI, e_aI, e_aL, e_oO, e_pI, e_wI, e_wL, Option.map_some, mS_sL, mR_sL, mI_sL, mS_sI, mR_sI, mL_sI, n_cl, cob_0 hC, cr_0_ruleReader hC, cob_10 hC]; with_reducible rfl)) | rw [nm_eq] | rw [ckZ_n1] | rw [ckZ_n0])
    refine WP.cw (y_readR hC ht h4) (fun v M1 u => ?_)
    obtain ⟨r, hr⟩ : ∃ r, r = ruL (zT G) 13 0 0 0 := ⟨_, rfl⟩
    have hlt := ruL_lt h4 13 0 0 0 (Nat.zero_le _) (by decide)
    rw [← hr] at u hlt ⊢
    obtain ⟨f1, rfl, u3⟩ := u
    have hC1 := f1.CI hC
    obtain ⟨M2, hM2⟩ : ∃ M2, M2 = sI M1 1 1 (nI 0) := ⟨_, rfl⟩
    have hC2 : CIs (mS M2) (mR M2) := by rw [hM2]; exact hC1
    have s2 : mS M2 = mS M ∧ mR M2 = mR M := ⟨by rw [hM2]; exact f1.1, by rw [hM2]; exact f1.2.1⟩
    have i2 : ∀ a, a ≠ 1 → a ≠ 10 → a ≠ 11 → a ≠ 12 → mI M2 a = mI M a := fun a b1 b2 b3 b4 => by rw [hM2, sI_row b1]; exact f1.2.2.1 a b1 b2 b3 b4
    have t2 : mI M2 1 1 = nI 0 := by rw [hM2, mI_sI, if_pos ⟨rfl, rfl⟩]
    have g82 : mI M2 0 8 = nI (zC G) := by rw [i2 0 (by decide) (by decide) (by decide) (by decide)]; exact g8
    repeat (first | ((with_reducible apply WP.ce); case h => (simp (disch := omega) only []; with_reducible rfl)) | ((with_reducible apply WP.bd); case h => (simp (disch := omega) only [e_gR, e_gI, e_aI, e_aL, e_oO, e_pI, e_wI, e_wL, Option.map_some, mS_sL, mR_sL, mI_sL, mS_sI, mR_sI, mL_sI, n_cl, cob_0 hC1, cr_0_tape hC1, cob_1 hC1, ← hM2]; with_reducible rfl)) | rw [nm_eq] | rw [ckZ_n1] | rw [ckZ_n0])
    obtain ⟨q1, q2, q3, q4, q5, q6, q7⟩ := h
    by_cases h0 : r.1 = 0
    · rw [if_pos h0]
      refine WP.it (by rw [h0]; rfl) ?_
      obtain ⟨F, w, ⟨⟨k1, k2⟩, k3, k4⟩, k5, k6, k7, k8⟩ := u3 h0
      have r10 : mI M2 10 = mI M1 10 := by rw [hM2, sI_row (by decide)]
      have r11 : mI M2 11 = mI M1 11 := by rw [hM2, sI_row (by decide)]
      have hlen : 103 ≤ (mS M2).length := by rw [s2.1]; exact q6.1
      repeat (first | ((with_reducible apply WP.ce); case h => (simp (disch := omega) only []; with_reducible rfl)) | ((with_reducible apply WP.bd); case h => (simp (disch := omega) only [e_gR, e_gI, e_aI, e_aL, e_oO, e_pI, e_wI, e_wL, Option.map_some, mS_sL, mR_sL, mI_sL, mS_sI, mR_sI, mL_sI, n_cl, cob_0 hC2, cr_rules hC2, g82, cr_0_ruleReader hC2, cob_10 hC2]; with_reducible rfl)) | rw [nm_eq] | rw [ckZ_n1] | rw [ckZ_n0])
      refine WP.cw (y_made hC2 (L := F.length) (w := w) (by rw [r10]; exact k1) (by rw [r10]; exact k3) k7 (by omega) hlen) (fun v M3 y => ?_)
      obtain ⟨rfl, y1, y2, y3, y4, y5⟩ := y
      obtain ⟨a, ha⟩ : ∃ a, a = (mS M2).length := ⟨_, rfl⟩
      rw [← ha] at y2 y3 y4 y5 hlen ⊢
      have gs : ∀ b, b < a → (mS M3)[b]? = (mS M2)[b]? := fun b hb => by rw [y1, List.getElem?_append_left (by omega)]
      have hC3 : CIs (mS M3) (mR M3) := hC2.of (fun b hb => gs b (by omega)) (fun b k hb _ _ _ => by rw [(y2 b (by omega)).2])
      obtain ⟨M4, hM4⟩ : ∃ M4, M4 = sR M3 13 (zC G) (some a) := ⟨_, rfl⟩
      have s4 : mS M4 = mS M3 := by rw [hM4]; rfl
      have rr4 : ∀ b j, b ≠ 13 → mR M4 b j = mR M3 b j := fun b j hb => by rw [hM4, mR_sR, if_neg (by omega)]
      have hC4 : CIs (mS M4) (mR M4) := hC3.of (fun b _ => by rw [s4]) (fun b k _ h13 _ _ => rr4 b k h13)
      have wr : wR M3 4 4 (some 13) (nI (zC G)) (some a) = some M4 := by
        unfold wR
        have x1 : ixA M3 4 (some 13) (nI (zC G)) = some 13 := cx_rules hC3 (i := zC G) (by omega)
        rw [x1]
        have o1 : oO M3 4 (some a) = some a := rule_o y3
        show (if some a = none ∨ oO M3 4 (some a) = some a then some (sR M3 13 (nI (zC G)).toNatClampNeg (some a)) else none) = some M4
        rw [if_pos (Or.inr o1), n_cl (by omega), hM4]
      refine WP.bd wr ?_
      have i4 : ∀ b, mI M4 b = mI M3 b := fun b => by rw [hM4]; rfl
      have g84 : mI M4 0 8 = nI (zC G) := by rw [i4, (y2 0 (by omega)).1]; exact g82
      obtain ⟨M5, hM5⟩ : ∃ M5, M5 = sI M4 0 8 (nI (zC G + 1)) := ⟨_, rfl⟩
      have hC5 : CIs (mS M5) (mR M5) := by rw [hM5]; exact hC4
      have g85 : mI M5 0 8 = nI (zC G + 1) := by rw [hM5, mI_sI, if_pos ⟨rfl, rfl⟩]
      repeat (first | ((with_reducible apply WP.ce); case h => (simp (disch := omega) only []; with_reducible rfl)) | ((with_reducible apply WP.bd); case h => (simp (disch := omega) only [e_gR, e_gI, e_aI, e_aL, e_oO, e_pI, e_wI, e_wL, Option.map_some, mS_sL, mR_sL, mI_sL, mS_sI, mR_sI, mL_sI, n_cl, cob_0 hC4, g84, n_add, ← hM5]; with_reducible rfl)) | rw [nm_eq] | rw [ckZ_n1] | rw [ckZ_n0])
      repeat (first | ((with_reducible apply WP.ce); case h => (simp (disch := omega) only []; with_reducible rfl)) | ((with_reducible apply WP.bd); case h => (simp (disch := omega) only [e_gR, e_gI, e_aI, e_aL, e_oO, e_pI, e_wI, e_wL, Option.map_some, mS_sL, mR_sL, mI_sL, mS_sI, mR_sI, mL_sI, n_cl, cob_0 hC5, g85]; with_reducible rfl)) | rw [nm_eq] | rw [ckZ_n1] | rw [ckZ_n0])
      rw [n_sub (by omega)]
      -- what stands
      have i5 : ∀ b, b ≠ 0 → mI M5 b = mI M3 b := fun b hb => by rw [hM5, sI_row hb]; exact i4 b
      have r5 : ∀ b j, b ≠ 13 → mR M5 b j = mR M3 b j := fun b j hb => by rw [hM5]; exact rr4 b j hb
      have s5 : mS M5 = mS M3 := by rw [hM5]; exact s4
      have gs5 : ∀ b, b < a → (mS M5)[b]? = (mS M)[b]? := fun b hb => by rw [s5, gs b hb, s2.1]
      have ri5 : ∀ b j, b < a → b ≠ 13 → mR M5 b j = mR M b j := fun b j hb h13 => by rw [r5 b j h13, (y2 b hb).2, s2.2]
      have ii5 : ∀ b, b < a → b ≠ 0 → b ≠ 1 → b ≠ 10 → b ≠ 11 → b ≠ 12 → mI M5 b = mI M b := fun b hb b0 b1 b2 b3 b4 => by rw [i5 b b0, (y2 b hb).1]; exact i2 b b1 b2 b3 b4
      have r13 : ∀ j, j ≠ zC G → mR M5 13 j = mR M 13 j := fun j hj => by
        rw [hM5]
        show mR M4 13 j = _
        rw [hM4, mR_sR, if_neg (fun z => hj z.2), (y2 13 (by omega)).2, s2.2]
      have r13c : mR M5 13 (zC G) = some a := by
        rw [hM5]
        show mR M4 13 (zC G) = _
        rw [hM4, mR_sR, if_pos ⟨rfl, rfl⟩]
      have aM : a = (mS M).length := by rw [ha, s2.1]
      refine WP.ret ⟨rfl, hC5, q2.of (fun j hj => ii5 _ (by omega) (by omega) (by omega) (by omega) (by omega) (by omega)), ⟨by show zC G + 1 ≤ 6; omega, g85, fun j hj => ?_⟩, ⟨?_, fun j hj => absurd hj (Nat.not_lt_zero j)⟩, ⟨fun k hk4 => ?_, fun k k' b z1 z2 e1 e2 => q5.2 k k' b z1 z2 (by rw [← ri5 29 k (by omega) (by decide)]; exact e1) (by rw [← ri5 29 k' (by omega) (by decide)]; exact e2)⟩, ?_, q7.up (fun b b1 b2 => ⟨gs5 b (by omega), funext (fun j => ri5 b j (by omega) (by omega)), ii5 b (by omega) (by omega) (by omega) (by omega) (by omega) (by omega)⟩)⟩
      · have hj : j < zC G + 1 := hj
        show ∃ a, (mR M5 13 j = some a ∧ 103 ≤ a) ∧ CRl M5 a (fset (zW G) (zC G) (rlD r.2) j)
        by_cases ej : j = zC G
        · subst ej
          rw [fset_s]
          refine ⟨a, ⟨r13c, hlen⟩, mk_CRl (F := F) (w := w) ?_ (by omega) k4 (fun j hj => ?_) ?_ (dpL_D k6) (fun v => k5.run v)⟩
          · exact y3.of (fun i _ => by rw [s5]) (fun k => r5 a k (by omega))
          · rw [i5 _ (by omega), y5 j hj, r11]; exact k2 j hj
          · rw [i5 a (by omega)]; exact y4
        · rw [fset_o _ _ ej]
          obtain ⟨b, ⟨b1, b2⟩, b3⟩ := q3.2.2 j (by omega)
          have bl : b + 2 < a := by
            obtain ⟨n, b4, -⟩ := b3
            rw [aM]; exact rl_len b4
          exact ⟨b, ⟨by rw [r13 j ej]; exact b1, b2⟩, b3.of (fun i hi => gs5 _ (by omega)) (fun k => ri5 b k (by omega) (by omega)) (ii5 b (by omega) (by omega) (by omega) (by omega) (by omega) (by omega)) (ii5 (b + 1) (by omega) (by omega) (by omega) (by omega) (by omega) (by omega))⟩
      · rw [i5 1 (by decide), (y2 1 (by omega)).1]; exact t2
      · show (zM G k).elim (mR M5 29 k = none) (fun B => ∃ a, (mR M5 29 k = some a ∧ 103 ≤ a) ∧ IBook (mS M5) (mR M5) a ∧ CBk M5 a B)
        have := q5.1 k hk4
        cases hi : zM G k with
        | none =>
          rw [hi] at this
          show mR M5 29 k = none
          rw [ri5 29 k (by omega) (by decide)]; exact this
        | some B =>
          rw [hi] at this
          obtain ⟨b, ⟨b1, b2⟩, b3, b4⟩ := this
          have bl : b + 14 < a := by rw [aM]; exact bk_len b3
          exact ⟨b, ⟨by rw [ri5 29 k (by omega) (by decide)]; exact b1, b2⟩, b3.of (fun i hi => gs5 _ (by omega)) (fun i k hi => ri5 _ k (by omega) (by omega)), b4.of (fun i hi => ii5 _ (by omega) (by omega) (by omega) (by omega) (by omega) (by omega))⟩
      · have e1 : (mS M5).length = (mS M).length + 3 := by rw [s5, y1, List.length_append, s2.1]; rfl
        have e2 : us M5 = us M + (5 + (F.length + (8 + 0))) := by
          show ((mS M5).map shSz).sum = ((mS M).map shSz).sum + _
          rw [s5, y1, List.map_append, List.sum_append, s2.1]; rfl
        obtain ⟨z1, z2, z3⟩ := q6
        exact ⟨by omega, by show (mS M5).length ≤ 103 + 15 * cnI (zM G) + 3 * (zC G + 1); omega, by show us M5 ≤ 20000 + 600 * cnI (zM G) + 500 * (zC G + 1); omega⟩
    · rw [if_neg h0]
      refine WP.ie (by rw [nIz (by omega)]; exact h0) ?_
      refine WP.ret ⟨rfl, hC2, q2.of (fun j hj => i2 _ (by omega) (by omega) (by omega) (by omega)), ⟨q3.1, g82, fun j hj => ?_⟩, ⟨t2, fun j hj => absurd hj (Nat.not_lt_zero j)⟩, ⟨fun k hk4 => ?_, fun k k' b z1 z2 e1 e2 => q5.2 k k' b z1 z2 (by rw [← s2.2]; exact e1) (by rw [← s2.2]; exact e2)⟩, q6.of s2.1, q7.up (fun b b1 b2 => ⟨by rw [s2.1], by rw [s2.2], i2 b (by omega) (by omega) (by omega) (by omega)⟩)⟩
      · obtain ⟨b, ⟨b1, b2⟩, b3⟩ := q3.2.2 j hj
        exact ⟨b, ⟨by rw [s2.2]; exact b1, b2⟩, b3.of (fun i _ => by rw [s2.1]) (fun k => by rw [s2.2]) (i2 b (by omega) (by omega) (by omega) (by omega)) (i2 (b + 1) (by omega) (by omega) (by omega) (by omega))⟩
      · show (zM G k).elim (mR M2 29 k = none) (fun B => ∃ a, (mR M2 29 k = some a ∧ 103 ≤ a) ∧ IBook (mS M2) (mR M2) a ∧ CBk M2 a B)
        have := q5.1 k hk4
        cases hi : zM G k with
        | none =>
          rw [hi] at this
          show mR M2 29 k = none
          rw [s2.2]; exact this
        | some B =>
          rw [hi] at this
          obtain ⟨b, ⟨b1, b2⟩, b3, b4⟩ := this
          exact ⟨b, ⟨by rw [s2.2]; exact b1, b2⟩, by rw [s2.1, s2.2]; exact b3, b4.of (fun i _ => i2 _ (by omega) (by omega) (by omega) (by omega))⟩
theorem BOk.up {c c' : Nat} {B : BD} (h : BOk c B) (hc : c ≤ c') : BOk c' B := by
  obtain ⟨h1, h2, h3, h4, h5, h6, h7⟩ := h
  exact ⟨h1, h2, h3, h4, h5, h6, fun i hi => Nat.lt_of_lt_of_le (h7 i hi) hc⟩
theorem a_rule_ok (hk : GOk G) : GOk (a_rule G).2 := by
  have hc6 := hk.2.2.2.1
  obtain ⟨h1, h2, h3, h4, h5⟩ := hk
  unfold a_rule
  by_cases c6 : zC G = 6
  · rw [if_pos c6]; exact ⟨h1, h2, h3, h4, h5⟩
  · rw [if_neg c6]
    by_cases h0 : (ruL (zT G) 13 0 0 0).1 = 0
    · rw [if_pos h0]
      exact ⟨h1.up (Nat.le_succ _), Nat.zero_le _, h3, by show zC G + 1 ≤ 6; omega, fun k B hB => (h5 k B hB).up (Nat.le_succ _)⟩
    · rw [if_neg h0]
      exact ⟨h1, Nat.zero_le _, h3, h4, h5⟩
theorem s_rule (h : ST M G) : BO (f_X9_rule 0) (f_X10_rule 66) M := BO.mk h (y_rule h.2.1 h.2.2) (fun O M1 g => WP.mono (x_rule g h.2.2) (fun w M' k => ⟨k.1, k.2, a_rule_ok h.2.2⟩))
end CRR
