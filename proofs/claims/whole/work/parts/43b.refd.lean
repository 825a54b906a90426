theorem LQ.rf (M : Mem) : LQ M M := ⟨rfl, rfl, rfl⟩
theorem LQ.sL {M M' : Mem} (h : LQ M M') (a k : Nat) (v : Int64) : LQ M (sL M' a k v) := h
def ask5 (M : Mem) (m : Nat) (T : TD) (S : SC) (s j : Nat) : Mem := sL (sL (sL (sL (sL M (m + 25) 0 (lN s)) (m + 25) 1 (lN j)) (m + 25) 2 (lN (tC T s))) (m + 25) 3 (Int32.toInt64 (nI (tE T s) - nI (sT S)))) (m + 25) 4 (lN (lkO T S j))
theorem r_sumJ {M : Mem} {m : Nat} {T : TD} {S : SC} (hR : RIs (mS M) (mR M) m) (hT : RT M m T) (hk : TOk T) (hS : RS M m T S) (hs : SOk S) {j : Nat} (hj8 : j < tJ T) (v : Int64) : f_X10_sumOf_J79 m (nI j) v (nI 5) (some (m + 25)) M = cl (f_X10_wanted m (sL (sL (sL (sL (sL (sL M (m + 25) 5 v) (m + 25) 6 (lN (knb T S j))) (m + 25) 7 (lN (wtc T S))) (m + 25) 8 (lN (snc S j))) (m + 25) 9 (lN (tN T - wtc T S))) (m + 25) 10 (lN (sT S)))) (fun r M => some (r, M)) := by
  have h1 := hk.1.2.2.1
  have h2 := hk.1.2.2.2
  have h4 := knb_le T S j
  have h5 := wtc_le T S
  have h6 := snc_le S j
  have h7 := hs.1
  have a1 := q_knownBy hR hT hk hS hs ((LQ.rf M).sL (m + 25) 5 v) (j := j) (by omega)
  have a2 := q_waiting hR hT hk hS hs (((LQ.rf M).sL (m + 25) 5 v).sL (m + 25) 6 (lN (knb T S j)))
  have a3 := q_bitsW hR hT hk hS hs (((LQ.rf M).sL (m + 25) 5 v).sL (m + 25) 6 (lN (knb T S j)))
  have a4 := q_sinceOf hR hT hk hS hs ((((LQ.rf M).sL (m + 25) 5 v).sL (m + 25) 6 (lN (knb T S j))).sL (m + 25) 7 (lN (wtc T S))) hj8
  have a5 := q_howMany hR hT hk hS hs (((((LQ.rf M).sL (m + 25) 5 v).sL (m + 25) 6 (lN (knb T S j))).sL (m + 25) 7 (lN (wtc T S))).sL (m + 25) 8 (lN (snc S j)))
  have e1 := toL (n := knb T S j) (by omega)
  have e2 := toL (n := wtc T S) (by omega)
  have e3 := toL (n := snc S j) (by omega)
  have e4 := toL (n := tN T - wtc T S) (by omega)
  have e5 := toL (n := sT S) (by omega)
  have e6 := hS.1.1
  unfold f_X10_sumOf_J79
  repeat (first | refine (cl_ok (by (simp only [a1, a2, a3, a4, a5]; with_reducible rfl)) _).trans ?_ | refine (bind_ok (by (simp (disch := omega) only [e_gR, e_gI, e_aI, e_aL, e_oO, e_pI, e_wI, e_wL, Option.map_some, mS_sL, mR_sL, mI_sL, mS_sI, mR_sI, mL_sI, n_cl, ro_m hR, rr_asked hR, rx_asked hR, rr_scalar hR, rx_scalar hR, e1, e2, e3, e4, e5, e6]; with_reducible rfl)) _).trans ?_ | rw [nm_eq])
  with_reducible rfl
theorem r_sumI {M : Mem} {m : Nat} {T : TD} {S : SC} (hR : RIs (mS M) (mR M) m) (hT : RT M m T) (hk : TOk T) (hS : RS M m T S) (hs : SOk S) {s j : Nat} (hs5 : s < tN T) (hj8 : j < tJ T) : f_X10_sumOf m (nI s) (nI j) M = f_X10_sumOf_J79 m (nI j) (lN (b2 (isN T S j))) (nI 5) (some (m + 25)) (ask5 M m T S s j) := by
  have h1 := hk.1.2.2.1
  have h2 := hk.1.2.2.2
  have h3 := lkO_le T S j
  have h7 := hs.1
  have h8 := hk.2.2.2.2 s
  obtain ⟨hc, he, -⟩ := hT.2.2 s hs5
  have a1 := q_likeOf hR hT hk hS hs (((((LQ.rf M).sL (m + 25) 0 (lN s)).sL (m + 25) 1 (lN j)).sL (m + 25) 2 (lN (tC T s))).sL (m + 25) 3 (Int32.toInt64 (nI (tE T s) - nI (sT S)))) hj8
  have a2 := q_isNew hR hT hk hS hs ((((((LQ.rf M).sL (m + 25) 0 (lN s)).sL (m + 25) 1 (lN j)).sL (m + 25) 2 (lN (tC T s))).sL (m + 25) 3 (Int32.toInt64 (nI (tE T s) - nI (sT S)))).sL (m + 25) 4 (lN (lkO T S j))) hj8
  have e1 := toL (n := s) (by omega)
  have e2 := toL (n := j) (by omega)
  have e3 := toL (n := tC T s) (by omega)
  have e4 := toL (n := lkO T S j) (by omega)
  have e6 := hS.1.1
  unfold f_X10_sumOf
  repeat (first | refine (cl_ok (by (simp only [a1, a2]; with_reducible rfl)) _).trans ?_ | refine (bind_ok (by (simp (disch := omega) only [e_gR, e_gI, e_aI, e_aL, e_oO, e_pI, e_wI, e_wL, Option.map_some, mS_sL, mR_sL, mI_sL, mS_sI, mR_sI, mL_sI, n_cl, ro_m hR, rr_asked hR, rx_asked hR, rr_scalar hR, rx_scalar hR, rr_cargo hR, rx_cargo hR, rr_keeps hR, rx_keeps hR, hc, he, e1, e2, e3, e4, e6]; with_reducible rfl)) _).trans ?_ | rw [nm_eq])
  rw [show ask5 M m T S s j = sL (sL (sL (sL (sL M (m + 25) 0 (lN s)) (m + 25) 1 (lN j)) (m + 25) 2 (lN (tC T s))) (m + 25) 3 (Int32.toInt64 (nI (tE T s) - nI (sT S)))) (m + 25) 4 (lN (lkO T S j)) from rfl]
  cases isN T S j
  · rw [if_pos (show bI false = 0 from rfl)]; rfl
  · rw [if_neg (show ¬ bI true = 0 by decide)]; rfl
