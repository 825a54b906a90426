/-! BOTH: what is so now -/
theorem tsw_o {α : Type} {x : Int32} {os : List (Option (α × Mem))} {o : Option (α × Mem)} {n : Int} (hn : (os.length : Int) = n + 1) (h : inR x 0 n = false) : tsw x 0 os o = o := by
  unfold inR at h
  have h1 := of_decide_eq_false h
  unfold tsw
  rw [if_pos (by omega)]
theorem tsw_i {α : Type} {k : Nat} {os : List (Option (α × Mem))} {o : Option (α × Mem)} (h0 : Nat.blt k os.length = true) (hk : k < 2 ^ 31) : tsw (nI k) 0 os o = os.getD k none := by
  have h : k < os.length := Nat.blt_eq.mp h0
  unfold tsw
  rw [nI_toInt hk, if_neg (by omega)]
  congr 1
def a_joke (T : TD) (S : SC) (j : Nat) : List Int32 := [nI (tP T (3 * j)), nI (tP T (3 * j + 1)), nI (tP T (3 * j + 2)), nI (b2 (rem T S j)), nI (b2 (isN T S j)), nI (snc S j)]
def q_joke (T : TD) (S : SC) (x w : Int32) : Int32 := if ixB x (tJ T) then (if inR w 0 5 then (a_joke T S x.toNatClampNeg).getD w.toNatClampNeg 0 else -1) else -1
def a_ship (T : TD) (S : SC) (s : Nat) : List Int32 := [nI (tC T s), nI (tE T s), nI (sW S s), eP (sP S s)]
def q_ship (T : TD) (S : SC) (x w : Int32) : Int32 := if ixB x (tN T) then (if inR w 0 3 then (a_ship T S x.toNatClampNeg).getD w.toNatClampNeg 0 else -2) else -2
theorem x_joke {M : Mem} {m : Nat} {T : TD} {S : SC} (hR : RIs (mS M) (mR M) m) (hT : RT M m T) (hk : TOk T) (hS : RS M m T S) (hs : SOk S) (x w : Int32) : f_X10_joke m x w M = some (q_joke T S x w, M) := by
  have h1 := hk.1.2.2.1
  have a1 := r_isJoke hR hT hk x
  unfold f_X10_joke q_joke
  repeat (first | refine (cl_ok (by (simp only [a1]; with_reducible rfl)) _).trans ?_ | refine (bind_ok (by (simp (disch := omega) only [e_gR, e_gI, e_aI, e_aL, e_oO, e_pI, e_wI, e_wL, Option.map_some, mS_sL, mR_sL, mI_sL, mS_sI, mR_sI, mL_sI, n_cl, ro_m hR]; with_reducible rfl)) _).trans ?_ | rw [nm_eq])
  cases hx : ixB x (tJ T) with
  | false => rw [if_pos (show bI false = 0 from rfl)]; rfl
  | true =>
    rw [if_neg (show ¬ bI true = 0 by decide)]
    obtain ⟨j, j1, rfl⟩ := ixB_t (by omega) hx
    rw [if_pos rfl, n_cl (by omega)]
    cases hw : inR w 0 5 with
    | false => rw [tsw_o (n := 5) rfl hw]; rfl
    | true =>
      obtain ⟨k, rfl, -, k2, k3⟩ := inR_t hw (by decide)
      have p := hT.2.1
      rw [if_pos rfl, n_cl k3]
      rcases (show k = 0 ∨ k = 1 ∨ k = 2 ∨ k = 3 ∨ k = 4 ∨ k = 5 by omega) with rfl | rfl | rfl | rfl | rfl | rfl
      · rw [tsw_i rfl (by decide)]
        simp only [List.getD_cons_zero, List.getD_cons_succ]
        repeat (first | refine (cl_ok (by (simp only [a1]; with_reducible rfl)) _).trans ?_ | refine (bind_ok (by (simp (disch := omega) only [e_gR, e_gI, e_aI, e_aL, e_oO, e_pI, e_wI, e_wL, Option.map_some, mS_sL, mR_sL, mI_sL, mS_sI, mR_sI, mL_sI, n_cl, ro_m hR, rr_parts hR, n_mul, n_add, rx_parts hR, p]; with_reducible rfl)) _).trans ?_ | rw [nm_eq])
        rfl
      · rw [tsw_i rfl (by decide)]
        simp only [List.getD_cons_zero, List.getD_cons_succ]
        repeat (first | refine (cl_ok (by (simp only [a1]; with_reducible rfl)) _).trans ?_ | refine (bind_ok (by (simp (disch := omega) only [e_gR, e_gI, e_aI, e_aL, e_oO, e_pI, e_wI, e_wL, Option.map_some, mS_sL, mR_sL, mI_sL, mS_sI, mR_sI, mL_sI, n_cl, ro_m hR, rr_parts hR, n_mul, n_add, rx_parts hR, p]; with_reducible rfl)) _).trans ?_ | rw [nm_eq])
        rfl
      · rw [tsw_i rfl (by decide)]
        simp only [List.getD_cons_zero, List.getD_cons_succ]
        repeat (first | refine (cl_ok (by (simp only [a1]; with_reducible rfl)) _).trans ?_ | refine (bind_ok (by (simp (disch := omega) only [e_gR, e_gI, e_aI, e_aL, e_oO, e_pI, e_wI, e_wL, Option.map_some, mS_sL, mR_sL, mI_sL, mS_sI, mR_sI, mL_sI, n_cl, ro_m hR, rr_parts hR, n_mul, n_add, rx_parts hR, p]; with_reducible rfl)) _).trans ?_ | rw [nm_eq])
        rfl
      · rw [tsw_i rfl (by decide)]
        have a2 := r_remembers hR hT hk hS hs j1
        simp only [List.getD_cons_zero, List.getD_cons_succ]
        repeat (first | refine (cl_ok (by (simp only [a2]; with_reducible rfl)) _).trans ?_ | refine (bind_ok (by (simp (disch := omega) only [e_gR, e_gI, e_aI, e_aL, e_oO, e_pI, e_wI, e_wL, Option.map_some, mS_sL, mR_sL, mI_sL, mS_sI, mR_sI, mL_sI, n_cl, ro_m hR]; with_reducible rfl)) _).trans ?_ | rw [nm_eq])
        show _ = some (nI (b2 (rem T S j)), M)
        cases rem T S j <;> rfl
      · rw [tsw_i rfl (by decide)]
        have a2 := r_isNew hR hT hk hS hs j1
        simp only [List.getD_cons_zero, List.getD_cons_succ]
        repeat (first | refine (cl_ok (by (simp only [a2]; with_reducible rfl)) _).trans ?_ | refine (bind_ok (by (simp (disch := omega) only [e_gR, e_gI, e_aI, e_aL, e_oO, e_pI, e_wI, e_wL, Option.map_some, mS_sL, mR_sL, mI_sL, mS_sI, mR_sI, mL_sI, n_cl, ro_m hR]; with_reducible rfl)) _).trans ?_ | rw [nm_eq])
        show _ = some (nI (b2 (isN T S j)), M)
        cases isN T S j <;> rfl
      · rw [tsw_i rfl (by decide)]
        have a2 := r_sinceOf hR hT hk hS hs j1
        simp only [List.getD_cons_zero, List.getD_cons_succ]
        repeat (first | refine (cl_ok (by (simp only [a2]; with_reducible rfl)) _).trans ?_ | refine (bind_ok (by (simp (disch := omega) only [e_gR, e_gI, e_aI, e_aL, e_oO, e_pI, e_wI, e_wL, Option.map_some, mS_sL, mR_sL, mI_sL, mS_sI, mR_sI, mL_sI, n_cl, ro_m hR]; with_reducible rfl)) _).trans ?_ | rw [nm_eq])
        rfl
theorem x_ship {M : Mem} {m : Nat} {T : TD} {S : SC} (hR : RIs (mS M) (mR M) m) (hT : RT M m T) (hk : TOk T) (hS : RS M m T S) (hs : SOk S) (x w : Int32) : f_X10_ship m x w M = some (q_ship T S x w, M) := by
  have h1 := hk.1.2.2.2
  have a1 := r_isShip hR hT hk x
  unfold f_X10_ship q_ship
  repeat (first | refine (cl_ok (by (simp only [a1]; with_reducible rfl)) _).trans ?_ | refine (bind_ok (by (simp (disch := omega) only [e_gR, e_gI, e_aI, e_aL, e_oO, e_pI, e_wI, e_wL, Option.map_some, mS_sL, mR_sL, mI_sL, mS_sI, mR_sI, mL_sI, n_cl, ro_m hR]; with_reducible rfl)) _).trans ?_ | rw [nm_eq])
  cases hx : ixB x (tN T) with
  | false => rw [if_pos (show bI false = 0 from rfl)]; rfl
  | true =>
    rw [if_neg (show ¬ bI true = 0 by decide)]
    obtain ⟨j, j1, rfl⟩ := ixB_t (by omega) hx
    rw [if_pos rfl, n_cl (by omega)]
    cases hw : inR w 0 3 with
    | false => rw [tsw_o (n := 3) rfl hw]; rfl
    | true =>
      obtain ⟨k, rfl, -, k2, k3⟩ := inR_t hw (by decide)
      have p0 := (hT.2.2 j j1).1
      have p1 := (hT.2.2 j j1).2.1
      have p2 := (hS.2.2 j j1).1
      have p3 := (hS.2.2 j j1).2
      rw [if_pos rfl, n_cl k3]
      rcases (show k = 0 ∨ k = 1 ∨ k = 2 ∨ k = 3 by omega) with rfl | rfl | rfl | rfl
      · rw [tsw_i rfl (by decide)]
        simp only [List.getD_cons_zero, List.getD_cons_succ]
        repeat (first | refine (cl_ok (by (simp only [a1]; with_reducible rfl)) _).trans ?_ | refine (bind_ok (by (simp (disch := omega) only [e_gR, e_gI, e_aI, e_aL, e_oO, e_pI, e_wI, e_wL, Option.map_some, mS_sL, mR_sL, mI_sL, mS_sI, mR_sI, mL_sI, n_cl, ro_m hR, rr_cargo hR, rx_cargo hR, p0]; with_reducible rfl)) _).trans ?_ | rw [nm_eq])
        rfl
      · rw [tsw_i rfl (by decide)]
        simp only [List.getD_cons_zero, List.getD_cons_succ]
        repeat (first | refine (cl_ok (by (simp only [a1]; with_reducible rfl)) _).trans ?_ | refine (bind_ok (by (simp (disch := omega) only [e_gR, e_gI, e_aI, e_aL, e_oO, e_pI, e_wI, e_wL, Option.map_some, mS_sL, mR_sL, mI_sL, mS_sI, mR_sI, mL_sI, n_cl, ro_m hR, rr_keeps hR, rx_keeps hR, p1]; with_reducible rfl)) _).trans ?_ | rw [nm_eq])
        rfl
      · rw [tsw_i rfl (by decide)]
        simp only [List.getD_cons_zero, List.getD_cons_succ]
        repeat (first | refine (cl_ok (by (simp only [a1]; with_reducible rfl)) _).trans ?_ | refine (bind_ok (by (simp (disch := omega) only [e_gR, e_gI, e_aI, e_aL, e_oO, e_pI, e_wI, e_wL, Option.map_some, mS_sL, mR_sL, mI_sL, mS_sI, mR_sI, mL_sI, n_cl, ro_m hR, rr_knows hR, rx_knows hR, p2]; with_reducible rfl)) _).trans ?_ | rw [nm_eq])
        rfl
      · rw [tsw_i rfl (by decide)]
        simp only [List.getD_cons_zero, List.getD_cons_succ]
        repeat (first | refine (cl_ok (by (simp only [a1]; with_reducible rfl)) _).trans ?_ | refine (bind_ok (by (simp (disch := omega) only [e_gR, e_gI, e_aI, e_aL, e_oO, e_pI, e_wI, e_wL, Option.map_some, mS_sL, mR_sL, mI_sL, mS_sI, mR_sI, mL_sI, n_cl, ro_m hR, rr_passed hR, rx_passed hR, p3]; with_reducible rfl)) _).trans ?_ | rw [nm_eq])
        rfl
theorem y_joke {M : Mem} {T : TD} {S : SC} (hC : CIs (mS M) (mR M)) (hT : CT M 15 T) (hk : TOk T) (hS : CC M 21 T S) (hs : SOk S) (x w : Int32) : f_X9_joke 0 x w M = some (q_joke T S x w, M) := by
  have h1 := hk.1.2.2.1
  have hml := mem_lt hk S
  have a1 := c_isJoke hC hT hk x
  have a0 := c_remembered (ci_told hC) hT hk (ci_scene hC) hS hs
  unfold f_X9_joke q_joke
  repeat (first | refine (cl_ok (by (simp only [a1]; with_reducible rfl)) _).trans ?_ | refine (bind_ok (by (simp (disch := omega) only [e_gR, e_gI, e_aI, e_aL, e_oO, e_pI, e_wI, e_wL, Option.map_some, mS_sL, mR_sL, mI_sL, mS_sI, mR_sI, mL_sI, n_cl, cob_0 hC]; with_reducible rfl)) _).trans ?_ | rw [nm_eq])
  cases hx : ixB x (tJ T) with
  | false => rw [if_pos (show bI false = 0 from rfl)]; rfl
  | true =>
    rw [if_neg (show ¬ bI true = 0 by decide)]
    obtain ⟨j, j1, rfl⟩ := ixB_t (by omega) hx
    rw [if_pos rfl, n_cl (by omega)]
    repeat (first | refine (cl_ok (by (simp only [a0]; with_reducible rfl)) _).trans ?_ | refine (bind_ok (by (simp (disch := omega) only [e_gR, e_gI, e_aI, e_aL, e_oO, e_pI, e_wI, e_wL, Option.map_some, mS_sL, mR_sL, mI_sL, mS_sI, mR_sI, mL_sI, n_cl, cob_0 hC, cr_0_book hC, book_o (ci_book hC), book_r_told (ci_book hC), book_r_scene (ci_book hC), told_o (ci_told hC), scene_o (ci_scene hC), Nat.reduceAdd]; with_reducible rfl)) _).trans ?_ | rw [nm_eq])
    cases hw : inR w 0 5 with
    | false => rw [tsw_o (n := 5) rfl hw]; rfl
    | true =>
      obtain ⟨k, rfl, -, k2, k3⟩ := inR_t hw (by decide)
      have p := hT.2.1
      rw [if_pos rfl, n_cl k3]
      rcases (show k = 0 ∨ k = 1 ∨ k = 2 ∨ k = 3 ∨ k = 4 ∨ k = 5 by omega) with rfl | rfl | rfl | rfl | rfl | rfl
      · rw [tsw_i rfl (by decide)]
        simp only [List.getD_cons_zero, List.getD_cons_succ]
        unfold f_X9_joke_J68
        repeat (first | refine (cl_ok (by (simp only [a1]; with_reducible rfl)) _).trans ?_ | refine (bind_ok (by (simp (disch := omega) only [e_gR, e_gI, e_aI, e_aL, e_oO, e_pI, e_wI, e_wL, Option.map_some, mS_sL, mR_sL, mI_sL, mS_sI, mR_sI, mL_sI, n_cl, cob_0 hC, cr_0_book hC, book_o (ci_book hC), book_r_told (ci_book hC), book_r_scene (ci_book hC), told_o (ci_told hC), scene_o (ci_scene hC), Nat.reduceAdd, told_r_part (ci_told hC), n_mul, n_add, told_x_part (ci_told hC), p]; with_reducible rfl)) _).trans ?_ | rw [nm_eq])
        rfl
      · rw [tsw_i rfl (by decide)]
        simp only [List.getD_cons_zero, List.getD_cons_succ]
        unfold f_X9_joke_J68
        repeat (first | refine (cl_ok (by (simp only [a1]; with_reducible rfl)) _).trans ?_ | refine (bind_ok (by (simp (disch := omega) only [e_gR, e_gI, e_aI, e_aL, e_oO, e_pI, e_wI, e_wL, Option.map_some, mS_sL, mR_sL, mI_sL, mS_sI, mR_sI, mL_sI, n_cl, cob_0 hC, cr_0_book hC, book_o (ci_book hC), book_r_told (ci_book hC), book_r_scene (ci_book hC), told_o (ci_told hC), scene_o (ci_scene hC), Nat.reduceAdd, told_r_part (ci_told hC), n_mul, n_add, told_x_part (ci_told hC), p]; with_reducible rfl)) _).trans ?_ | rw [nm_eq])
        rfl
      · rw [tsw_i rfl (by decide)]
        simp only [List.getD_cons_zero, List.getD_cons_succ]
        unfold f_X9_joke_J68
        repeat (first | refine (cl_ok (by (simp only [a1]; with_reducible rfl)) _).trans ?_ | refine (bind_ok (by (simp (disch := omega) only [e_gR, e_gI, e_aI, e_aL, e_oO, e_pI, e_wI, e_wL, Option.map_some, mS_sL, mR_sL, mI_sL, mS_sI, mR_sI, mL_sI, n_cl, cob_0 hC, cr_0_book hC, book_o (ci_book hC), book_r_told (ci_book hC), book_r_scene (ci_book hC), told_o (ci_told hC), scene_o (ci_scene hC), Nat.reduceAdd, told_r_part (ci_told hC), n_mul, n_add, told_x_part (ci_told hC), p]; with_reducible rfl)) _).trans ?_ | rw [nm_eq])
        rfl
      · rw [tsw_i rfl (by decide)]
        simp only [List.getD_cons_zero, List.getD_cons_succ]
        rw [n_bit (by omega) (by omega), mem_bit j1]
        rfl
      · rw [tsw_i rfl (by decide)]
        have a2 := c_isNew (ci_told hC) hT hk S j1
        simp only [List.getD_cons_zero, List.getD_cons_succ]
        repeat (first | refine (cl_ok (by (simp only [a2]; with_reducible rfl)) _).trans ?_ | refine (bind_ok (by (simp (disch := omega) only [e_gR, e_gI, e_aI, e_aL, e_oO, e_pI, e_wI, e_wL, Option.map_some, mS_sL, mR_sL, mI_sL, mS_sI, mR_sI, mL_sI, n_cl, cob_0 hC, cr_0_book hC, book_o (ci_book hC), book_r_told (ci_book hC), book_r_scene (ci_book hC), told_o (ci_told hC), scene_o (ci_scene hC), Nat.reduceAdd]; with_reducible rfl)) _).trans ?_ | rw [nm_eq])
        show _ = some (nI (b2 (isN T S j)), M)
        cases isN T S j <;> rfl
      · rw [tsw_i rfl (by decide)]
        have a2 := c_since hk (ci_scene hC) hS hs j1
        simp only [List.getD_cons_zero, List.getD_cons_succ]
        repeat (first | refine (cl_ok (by (simp only [a2]; with_reducible rfl)) _).trans ?_ | refine (bind_ok (by (simp (disch := omega) only [e_gR, e_gI, e_aI, e_aL, e_oO, e_pI, e_wI, e_wL, Option.map_some, mS_sL, mR_sL, mI_sL, mS_sI, mR_sI, mL_sI, n_cl, cob_0 hC, cr_0_book hC, book_o (ci_book hC), book_r_told (ci_book hC), book_r_scene (ci_book hC), told_o (ci_told hC), scene_o (ci_scene hC), Nat.reduceAdd]; with_reducible rfl)) _).trans ?_ | rw [nm_eq])
        rfl
theorem y_ship {M : Mem} {T : TD} {S : SC} (hC : CIs (mS M) (mR M)) (hT : CT M 15 T) (hk : TOk T) (hS : CC M 21 T S) (hs : SOk S) (x w : Int32) : f_X9_ship 0 x w M = some (q_ship T S x w, M) := by
  have h1 := hk.1.2.2.2
  have a1 := c_isShip hC hT hk x
  unfold f_X9_ship q_ship
  repeat (first | refine (cl_ok (by (simp only [a1]; with_reducible rfl)) _).trans ?_ | refine (bind_ok (by (simp (disch := omega) only [e_gR, e_gI, e_aI, e_aL, e_oO, e_pI, e_wI, e_wL, Option.map_some, mS_sL, mR_sL, mI_sL, mS_sI, mR_sI, mL_sI, n_cl, cob_0 hC]; with_reducible rfl)) _).trans ?_ | rw [nm_eq])
  cases hx : ixB x (tN T) with
  | false => rw [if_pos (show bI false = 0 from rfl)]; rfl
  | true =>
    rw [if_neg (show ¬ bI true = 0 by decide)]
    obtain ⟨j, j1, rfl⟩ := ixB_t (by omega) hx
    rw [if_pos rfl, n_cl (by omega)]
    cases hw : inR w 0 3 with
    | false => rw [tsw_o (n := 3) rfl hw]; rfl
    | true =>
      obtain ⟨k, rfl, -, k2, k3⟩ := inR_t hw (by decide)
      have p0 := (hT.2.2.1 j j1).1
      have p1 := (hT.2.2.1 j j1).2.1
      have p2 := (hS.2.2 j j1).1
      have p3 := (hS.2.2 j j1).2
      rw [if_pos rfl, n_cl k3]
      rcases (show k = 0 ∨ k = 1 ∨ k = 2 ∨ k = 3 by omega) with rfl | rfl | rfl | rfl
      · rw [tsw_i rfl (by decide)]
        simp only [List.getD_cons_zero, List.getD_cons_succ]
        repeat (first | refine (cl_ok (by (simp only [a1]; with_reducible rfl)) _).trans ?_ | refine (bind_ok (by (simp (disch := omega) only [e_gR, e_gI, e_aI, e_aL, e_oO, e_pI, e_wI, e_wL, Option.map_some, mS_sL, mR_sL, mI_sL, mS_sI, mR_sI, mL_sI, n_cl, cob_0 hC, cr_0_book hC, book_o (ci_book hC), book_r_told (ci_book hC), book_r_scene (ci_book hC), told_o (ci_told hC), scene_o (ci_scene hC), Nat.reduceAdd, told_r_cargo (ci_told hC), told_x_cargo (ci_told hC), p0]; with_reducible rfl)) _).trans ?_ | rw [nm_eq])
        rfl
      · rw [tsw_i rfl (by decide)]
        simp only [List.getD_cons_zero, List.getD_cons_succ]
        repeat (first | refine (cl_ok (by (simp only [a1]; with_reducible rfl)) _).trans ?_ | refine (bind_ok (by (simp (disch := omega) only [e_gR, e_gI, e_aI, e_aL, e_oO, e_pI, e_wI, e_wL, Option.map_some, mS_sL, mR_sL, mI_sL, mS_sI, mR_sI, mL_sI, n_cl, cob_0 hC, cr_0_book hC, book_o (ci_book hC), book_r_told (ci_book hC), book_r_scene (ci_book hC), told_o (ci_told hC), scene_o (ci_scene hC), Nat.reduceAdd, told_r_keeps (ci_told hC), told_x_keeps (ci_told hC), p1]; with_reducible rfl)) _).trans ?_ | rw [nm_eq])
        rfl
      · rw [tsw_i rfl (by decide)]
        simp only [List.getD_cons_zero, List.getD_cons_succ]
        repeat (first | refine (cl_ok (by (simp only [a1]; with_reducible rfl)) _).trans ?_ | refine (bind_ok (by (simp (disch := omega) only [e_gR, e_gI, e_aI, e_aL, e_oO, e_pI, e_wI, e_wL, Option.map_some, mS_sL, mR_sL, mI_sL, mS_sI, mR_sI, mL_sI, n_cl, cob_0 hC, cr_0_book hC, book_o (ci_book hC), book_r_told (ci_book hC), book_r_scene (ci_book hC), told_o (ci_told hC), scene_o (ci_scene hC), Nat.reduceAdd, scene_r_knows (ci_scene hC), scene_x_knows (ci_scene hC), p2]; with_reducible rfl)) _).trans ?_ | rw [nm_eq])
        rfl
      · rw [tsw_i rfl (by decide)]
        simp only [List.getD_cons_zero, List.getD_cons_succ]
        repeat (first | refine (cl_ok (by (simp only [a1]; with_reducible rfl)) _).trans ?_ | refine (bind_ok (by (simp (disch := omega) only [e_gR, e_gI, e_aI, e_aL, e_oO, e_pI, e_wI, e_wL, Option.map_some, mS_sL, mR_sL, mI_sL, mS_sI, mR_sI, mL_sI, n_cl, cob_0 hC, cr_0_book hC, book_o (ci_book hC), book_r_told (ci_book hC), book_r_scene (ci_book hC), told_o (ci_told hC), scene_o (ci_scene hC), Nat.reduceAdd, scene_r_passed (ci_scene hC), scene_x_passed (ci_scene hC), p3]; with_reducible rfl)) _).trans ?_ | rw [nm_eq])
        rfl
/-! alike -/
def q_alike (T : TD) (x y : Int32) : Int32 := if ixB x (tJ T) && ixB y (tJ T) then nI (alk T x.toNatClampNeg y.toNatClampNeg) else -1
theorem x_alike {M : Mem} {m : Nat} {T : TD} (hR : RIs (mS M) (mR M) m) (hT : RT M m T) (hk : TOk T) (x y : Int32) : f_X10_alike m x y M = some (q_alike T x y, M) := by
  have h1 := hk.1.2.2.1
  have a1 := r_isJoke hR hT hk x
  have a2 := r_isJoke hR hT hk y
  unfold f_X10_alike f_X10_alike_J25 f_X10_alike_J26 q_alike
  repeat (first | refine (cl_ok (by (simp only [a1]; with_reducible rfl)) _).trans ?_ | refine (bind_ok (by (simp (disch := omega) only [e_gR, e_gI, e_aI, e_aL, e_oO, e_pI, e_wI, e_wL, Option.map_some, mS_sL, mR_sL, mI_sL, mS_sI, mR_sI, mL_sI, n_cl, ro_m hR]; with_reducible rfl)) _).trans ?_ | rw [nm_eq])
  cases hx : ixB x (tJ T) with
  | false => rw [if_pos (show bI false = 0 from rfl)]; rfl
  | true =>
    rw [if_neg (show ¬ bI true = 0 by decide)]
    repeat (first | refine (cl_ok (by (simp only [a2]; with_reducible rfl)) _).trans ?_ | refine (bind_ok (by (simp (disch := omega) only [e_gR, e_gI, e_aI, e_aL, e_oO, e_pI, e_wI, e_wL, Option.map_some, mS_sL, mR_sL, mI_sL, mS_sI, mR_sI, mL_sI, n_cl, ro_m hR]; with_reducible rfl)) _).trans ?_ | rw [nm_eq])
    cases hy : ixB y (tJ T) with
    | false => rw [if_pos (show bI false = 0 from rfl)]; rfl
    | true =>
      rw [if_neg (show ¬ bI true = 0 by decide)]
      obtain ⟨j, j1, rfl⟩ := ixB_t (by omega) hx
      obtain ⟨i, i1, rfl⟩ := ixB_t (by omega) hy
      have a3 := r_alikeOf hR hT hk j1 i1
      repeat (first | refine (cl_ok (by (simp only [a3]; with_reducible rfl)) _).trans ?_ | refine (bind_ok (by (simp (disch := omega) only [e_gR, e_gI, e_aI, e_aL, e_oO, e_pI, e_wI, e_wL, Option.map_some, mS_sL, mR_sL, mI_sL, mS_sI, mR_sI, mL_sI, n_cl, ro_m hR]; with_reducible rfl)) _).trans ?_ | rw [nm_eq])
      rw [n_cl (by omega), n_cl (by omega)]
      rfl
/-- how many parts of a joke are these -/
def cal (T : TD) (j a b c : Nat) : Nat := b2 (decide (tP T (3 * j) = a)) + b2 (decide (tP T (3 * j + 1) = b)) + b2 (decide (tP T (3 * j + 2) = c))
theorem ite_b2 {γ : Type} (c : Prop) [Decidable c] (f : Int32 → γ) : (if c then f (nI 1) else f (nI 0)) = f (nI (b2 (decide c))) := by
  by_cases h : c
  · rw [if_pos h, decide_eq_true h]; rfl
  · rw [if_neg h, decide_eq_false h]; rfl
theorem c_countAlike {M : Mem} {t : Nat} {T : TD} (hI : ITold (mS M) (mR M) t) (hT : CT M t T) (hk : TOk T) {j a b c : Nat} (hj : j < tJ T) (ha : a < 2 ^ 31) (hb : b < 2 ^ 31) (hc : c < 2 ^ 31) : f_X8_countAlike t (nI j) (nI a) (nI b) (nI c) M = some (nI (cal T j a b c), M) := by
  have h1 := hk.1.2.2.1
  have p := hT.2.1
  have q := hk.2.2.2.1
  have e0 : (nI (tP T (3 * j)) = nI a) = (tP T (3 * j) = a) := n_eq (by have := q (3 * j); omega) ha
  have e1 : (nI (tP T (3 * j + 1)) = nI b) = (tP T (3 * j + 1) = b) := n_eq (by have := q (3 * j + 1); omega) hb
  have e2 : (nI (tP T (3 * j + 2)) = nI c) = (tP T (3 * j + 2) = c) := n_eq (by have := q (3 * j + 2); omega) hc
  unfold f_X8_countAlike
  repeat (first | refine (cl_ok (by (simp only [hk]; with_reducible rfl)) _).trans ?_ | refine (bind_ok (by (simp (disch := omega) only [e_gR, e_gI, e_aI, e_aL, e_oO, e_pI, e_wI, e_wL, Option.map_some, mS_sL, mR_sL, mI_sL, mS_sI, mR_sI, mL_sI, n_cl, told_o hI, told_r_part hI, told_x_part hI, n_mul, n_add, p]; with_reducible rfl)) _).trans ?_ | rw [nm_eq])
  simp only [e0]
  rw [ite_b2 (tP T (3 * j) = a) (fun x => f_X8_countAlike_J17 t (nI j) (nI b) (nI c) x M)]
  unfold f_X8_countAlike_J17
  repeat (first | refine (cl_ok (by (simp only [hk]; with_reducible rfl)) _).trans ?_ | refine (bind_ok (by (simp (disch := omega) only [e_gR, e_gI, e_aI, e_aL, e_oO, e_pI, e_wI, e_wL, Option.map_some, mS_sL, mR_sL, mI_sL, mS_sI, mR_sI, mL_sI, n_cl, told_o hI, told_r_part hI, told_x_part hI, n_mul, n_add, p]; with_reducible rfl)) _).trans ?_ | rw [nm_eq])
  simp only [e1]
  rw [ite_b2 (tP T (3 * j + 1) = b) (fun x => f_X8_countAlike_J36 t (nI j) (nI c) x (nI (b2 (decide (tP T (3 * j) = a)))) M)]
  unfold f_X8_countAlike_J36
  repeat (first | refine (cl_ok (by (simp only [hk]; with_reducible rfl)) _).trans ?_ | refine (bind_ok (by (simp (disch := omega) only [e_gR, e_gI, e_aI, e_aL, e_oO, e_pI, e_wI, e_wL, Option.map_some, mS_sL, mR_sL, mI_sL, mS_sI, mR_sI, mL_sI, n_cl, told_o hI, told_r_part hI, told_x_part hI, n_mul, n_add, p]; with_reducible rfl)) _).trans ?_ | rw [nm_eq])
  simp only [e2]
  rw [ite_b2 (tP T (3 * j + 2) = c) (fun x => f_X8_countAlike_J57 t x (nI (b2 (decide (tP T (3 * j) = a))) + nI (b2 (decide (tP T (3 * j + 1) = b)))) M)]
  unfold f_X8_countAlike_J57
  rw [n_add, n_add]
  rfl
theorem c_partsAlike {M : Mem} {t : Nat} {T : TD} (hI : ITold (mS M) (mR M) t) (hT : CT M t T) (hk : TOk T) {j i : Nat} (hj : j < tJ T) (hi : i < tJ T) : f_X8_partsAlike t (nI j) (nI i) M = some (nI (alk T j i), M) := by
  have h1 := hk.1.2.2.1
  have p := hT.2.1
  have q := hk.2.2.2.1
  have a1 := c_countAlike hI hT hk (a := tP T (3 * i)) (b := tP T (3 * i + 1)) (c := tP T (3 * i + 2)) hj (by have := q (3 * i); omega) (by have := q (3 * i + 1); omega) (by have := q (3 * i + 2); omega)
  unfold f_X8_partsAlike
  repeat (first | refine (cl_ok (by (simp only [a1]; with_reducible rfl)) _).trans ?_ | refine (bind_ok (by (simp (disch := omega) only [e_gR, e_gI, e_aI, e_aL, e_oO, e_pI, e_wI, e_wL, Option.map_some, mS_sL, mR_sL, mI_sL, mS_sI, mR_sI, mL_sI, n_cl, told_o hI, told_r_part hI, told_x_part hI, n_mul, n_add, p]; with_reducible rfl)) _).trans ?_ | rw [nm_eq])
  rfl
theorem y_alike {M : Mem} {T : TD} {S : SC} (hC : CIs (mS M) (mR M)) (hT : CT M 15 T) (hk : TOk T) (hS : CC M 21 T S) (hs : SOk S) (x y : Int32) : f_X9_alike 0 x y M = some (q_alike T x y, M) := by
  have h1 := hk.1.2.2.1
  have a1 := c_isJoke hC hT hk x
  have a2 := c_isJoke hC hT hk y
  unfold f_X9_alike f_X9_alike_J16 q_alike
  repeat (first | refine (cl_ok (by (simp only [a1]; with_reducible rfl)) _).trans ?_ | refine (bind_ok (by (simp (disch := omega) only [e_gR, e_gI, e_aI, e_aL, e_oO, e_pI, e_wI, e_wL, Option.map_some, mS_sL, mR_sL, mI_sL, mS_sI, mR_sI, mL_sI, n_cl, cob_0 hC]; with_reducible rfl)) _).trans ?_ | rw [nm_eq])
  cases hx : ixB x (tJ T) with
  | false => rw [if_pos (show bI false = 0 from rfl)]; rfl
  | true =>
    rw [if_neg (show ¬ bI true = 0 by decide)]
    repeat (first | refine (cl_ok (by (simp only [a2]; with_reducible rfl)) _).trans ?_ | refine (bind_ok (by (simp (disch := omega) only [e_gR, e_gI, e_aI, e_aL, e_oO, e_pI, e_wI, e_wL, Option.map_some, mS_sL, mR_sL, mI_sL, mS_sI, mR_sI, mL_sI, n_cl, cob_0 hC]; with_reducible rfl)) _).trans ?_ | rw [nm_eq])
    cases hy : ixB y (tJ T) with
    | false => rw [if_pos (show bI false = 0 from rfl)]; rfl
    | true =>
      rw [if_neg (show ¬ bI true = 0 by decide)]
      obtain ⟨j, j1, rfl⟩ := ixB_t (by omega) hx
      obtain ⟨i, i1, rfl⟩ := ixB_t (by omega) hy
      have a3 := c_partsAlike (ci_told hC) hT hk j1 i1
      repeat (first | refine (cl_ok (by (simp only [a3]; with_reducible rfl)) _).trans ?_ | refine (bind_ok (by (simp (disch := omega) only [e_gR, e_gI, e_aI, e_aL, e_oO, e_pI, e_wI, e_wL, Option.map_some, mS_sL, mR_sL, mI_sL, mS_sI, mR_sI, mL_sI, n_cl, cob_0 hC, cr_0_book hC, book_o (ci_book hC), book_r_told (ci_book hC), book_r_scene (ci_book hC), told_o (ci_told hC), scene_o (ci_scene hC), Nat.reduceAdd]; with_reducible rfl)) _).trans ?_ | rw [nm_eq])
      rw [n_cl (by omega), n_cl (by omega)]
      rfl
/-! fresh -/
def q_fresh (T : TD) (S : SC) : Int32 := if isB T then nI (bmk (isN T S) (tJ T)) else -1
theorem x_freshL {M : Mem} {m : Nat} {T : TD} {S : SC} (hR : RIs (mS M) (mR M) m) (hT : RT M m T) (hk : TOk T) (hS : RS M m T S) (hs : SOk S) : ∀ d i n, i + d = tJ T → f_X10_fresh_L13 m (n + d + 1) (nI (bmk (isN T S) i)) (nI i) M = some (nI (bmk (isN T S) (tJ T)), M) := by
  have hj := hk.1.2.2.1
  intro d
  induction d with
  | zero =>
    intro i n hi
    rw [f_X10_fresh_L13]
    simp (disch := omega) only [e_gR, e_gI, e_aI, e_aL, e_oO, e_pI, e_wI, e_wL, ro_m hR, Option.map_some, Option.bind_some, cl_some, nm_eq, ckZ_b, ckZ_n0, ckZ_n1, rr_scalar hR, rx_scalar hR, n_cl, hT.1.2.2.1, n_le]
    rw [if_pos (by omega), show i = tJ T by omega]
  | succ d ih =>
    intro i n hi
    rw [show n + (d + 1) + 1 = (n + d + 1) + 1 from by omega, f_X10_fresh_L13]
    have e := ih (i + 1) n (by omega)
    rw [bmk] at e
    simp (disch := omega) only [e_gR, e_gI, e_aI, e_aL, e_oO, e_pI, e_wI, e_wL, ro_m hR, Option.map_some, Option.bind_some, cl_some, nm_eq, ckZ_b, ckZ_n0, ckZ_n1, rr_scalar hR, rx_scalar hR, n_cl, hT.1.2.2.1, n_le, r_isNew hR hT hk hS hs, bI_z, f_X10_fresh_J39, n_shl, n_or, n_add]
    rw [if_neg (by omega)]
    cases hw : isN T S i with
    | false => simp only [hw, if_true, Bool.false_eq_true, if_false, Nat.or_zero] at e ⊢; exact e
    | true => simp only [hw, if_true, Bool.true_eq_false, if_false] at e ⊢; exact e
theorem x_fresh {M : Mem} {m : Nat} {T : TD} {S : SC} (hR : RIs (mS M) (mR M) m) (hT : RT M m T) (hk : TOk T) (hS : RS M m T S) (hs : SOk S) : f_X10_fresh m M = some (q_fresh T S, M) := by
  have hj := hk.1.2.2.1
  have a1 := r_isBar hR hT hk
  unfold f_X10_fresh q_fresh
  repeat (first | refine (cl_ok (by (simp only [a1]; with_reducible rfl)) _).trans ?_ | refine (bind_ok (by (simp (disch := omega) only [e_gR, e_gI, e_aI, e_aL, e_oO, e_pI, e_wI, e_wL, Option.map_some, mS_sL, mR_sL, mI_sL, mS_sI, mR_sI, mL_sI, n_cl, ro_m hR]; with_reducible rfl)) _).trans ?_ | rw [nm_eq])
  cases isB T with
  | false => rw [if_pos (show bI false = 0 from rfl)]; rfl
  | true =>
    rw [if_neg (show ¬ bI true = 0 by decide)]
    obtain ⟨n, hn⟩ := FUd (tJ T) (by omega)
    rw [hn]
    exact x_freshL hR hT hk hS hs (tJ T) 0 n (by omega)
theorem c_newL {M : Mem} {t : Nat} {T : TD} (hI : ITold (mS M) (mR M) t) (hT : CT M t T) (hk : TOk T) (S : SC) : ∀ d i n, i + d = tJ T → f_X8_newOnes_L4 t (n + d + 1) (nI (mem T S)) (nI (bmk (isN T S) i)) (nI i) M = some (nI (bmk (isN T S) (tJ T)), M) := by
  have hj := hk.1.2.2.1
  intro d
  induction d with
  | zero =>
    intro i n hi
    rw [f_X8_newOnes_L4]
    simp (disch := omega) only [e_gR, e_gI, e_aI, e_aL, e_oO, e_pI, e_wI, e_wL, told_o hI, Option.map_some, Option.bind_some, cl_some, nm_eq, ckZ_b, ckZ_n0, ckZ_n1, hT.1.2.2.2.1, n_le]
    rw [if_pos (by omega), show i = tJ T by omega]
  | succ d ih =>
    intro i n hi
    rw [show n + (d + 1) + 1 = (n + d + 1) + 1 from by omega, f_X8_newOnes_L4]
    have e := ih (i + 1) n (by omega)
    rw [bmk] at e
    simp (disch := omega) only [e_gR, e_gI, e_aI, e_aL, e_oO, e_pI, e_wI, e_wL, told_o hI, Option.map_some, Option.bind_some, cl_some, nm_eq, ckZ_b, ckZ_n0, ckZ_n1, hT.1.2.2.2.1, n_le, c_isNew hI hT hk S, bI_z, f_X8_newOnes_J27, n_shl, n_or, n_add]
    rw [if_neg (by omega)]
    cases hw : isN T S i with
    | false => simp only [hw, if_true, Bool.false_eq_true, if_false, Nat.or_zero] at e ⊢; exact e
    | true => simp only [hw, if_true, Bool.true_eq_false, if_false] at e ⊢; exact e
theorem y_fresh {M : Mem} {T : TD} {S : SC} (hC : CIs (mS M) (mR M)) (hT : CT M 15 T) (hk : TOk T) (hS : CC M 21 T S) (hs : SOk S) : f_X9_fresh 0 M = some (q_fresh T S, M) := by
  have hj := hk.1.2.2.1
  have a0 := c_remembered (ci_told hC) hT hk (ci_scene hC) hS hs
  have a1 : f_X8_newOnes 15 (nI (mem T S)) M = some (nI (bmk (isN T S) (tJ T)), M) := by
    obtain ⟨n, hn⟩ := FUd (tJ T) (by omega)
    rw [f_X8_newOnes, hn]
    exact c_newL (ci_told hC) hT hk S (tJ T) 0 n (by omega)
  unfold f_X9_fresh q_fresh
  repeat (first | refine (cl_ok (by (simp only [a0]; with_reducible rfl)) _).trans ?_ | refine (bind_ok (by (simp (disch := omega) only [e_gR, e_gI, e_aI, e_aL, e_oO, e_pI, e_wI, e_wL, Option.map_some, mS_sL, mR_sL, mI_sL, mS_sI, mR_sI, mL_sI, n_cl, cob_0 hC, cr_0_book hC, book_o (ci_book hC), book_r_told (ci_book hC), book_r_scene (ci_book hC), told_o (ci_told hC), scene_o (ci_scene hC), Nat.reduceAdd, c_there hT]; with_reducible rfl)) _).trans ?_ | rw [nm_eq])
  cases isB T with
  | false => rw [if_pos (show bI false = 0 from rfl)]; rfl
  | true =>
    rw [if_neg (show ¬ bI true = 0 by decide)]
    repeat (first | refine (cl_ok (by (simp only [a0, a1]; with_reducible rfl)) _).trans ?_ | refine (bind_ok (by (simp (disch := omega) only [e_gR, e_gI, e_aI, e_aL, e_oO, e_pI, e_wI, e_wL, Option.map_some, mS_sL, mR_sL, mI_sL, mS_sI, mR_sI, mL_sI, n_cl, cob_0 hC, cr_0_book hC, book_o (ci_book hC), book_r_told (ci_book hC), book_r_scene (ci_book hC), told_o (ci_told hC), scene_o (ci_scene hC), Nat.reduceAdd]; with_reducible rfl)) _).trans ?_ | rw [nm_eq])
    rfl
