theorem bind_ok {β γ : Type} {o : Option β} {x : β} (h : o = some x) (f : β → Option γ) : o.bind f = f x := by rw [h]; rfl
theorem cl_ok {β γ : Type} {o : Option (β × Mem)} {r : β} {M1 : Mem} (h : o = some (r, M1)) (K : β → Mem → Option γ) : cl o K = K r M1 := by rw [h]; rfl
theorem nm_ok {β γ : Type} (x : β) (k : β → γ) : nm x k = k x := rfl
/-- the same but for longs -/
def LQ (M M' : Mem) : Prop := mS M' = mS M ∧ mR M' = mR M ∧ mI M' = mI M
theorem LQ.RI {m : Nat} {M M' : Mem} (h : LQ M M') (hR : RIs (mS M) (mR M) m) : RIs (mS M') (mR M') m := by rw [h.1, h.2.1]; exact hR
theorem LQ.T {m : Nat} {M M' : Mem} {T : TD} (h : LQ M M') (hT : RT M m T) : RT M' m T := by unfold RT; rw [h.2.2]; exact hT
theorem LQ.S {m : Nat} {M M' : Mem} {T : TD} {S : SC} (h : LQ M M') (hS : RS M m T S) : RS M' m T S := by unfold RS; rw [h.2.2]; exact hS
section QQ
theorem q_likeOf {M : Mem} {m : Nat} {T : TD} {S : SC} (hR : RIs (mS M) (mR M) m) (hT : RT M m T) (hk : TOk T) (hS : RS M m T S) (hs : SOk S) {M' : Mem} (h : LQ M M') {j : Nat} (hj : j < tJ T) : f_X10_likeOf m (nI j) M' = some (nI (lkO T S j), M') := r_likeOf (h.RI hR) (h.T hT) hk (h.S hS) hs hj
theorem q_isNew {M : Mem} {m : Nat} {T : TD} {S : SC} (hR : RIs (mS M) (mR M) m) (hT : RT M m T) (hk : TOk T) (hS : RS M m T S) (hs : SOk S) {M' : Mem} (h : LQ M M') {j : Nat} (hj : j < tJ T) : f_X10_isNew m (nI j) M' = some (bI (isN T S j), M') := r_isNew (h.RI hR) (h.T hT) hk (h.S hS) hs hj
theorem q_knownBy {M : Mem} {m : Nat} {T : TD} {S : SC} (hR : RIs (mS M) (mR M) m) (hT : RT M m T) (hk : TOk T) (hS : RS M m T S) (hs : SOk S) {M' : Mem} (h : LQ M M') {j : Nat} (hj : j < 8) : f_X10_knownBy m (nI j) M' = some (nI (knb T S j), M') := r_knownBy (h.RI hR) (h.T hT) hk (h.S hS) hs hj
theorem q_waiting {M : Mem} {m : Nat} {T : TD} {S : SC} (hR : RIs (mS M) (mR M) m) (hT : RT M m T) (hk : TOk T) (hS : RS M m T S) (hs : SOk S) {M' : Mem} (h : LQ M M') : f_X10_waiting m M' = some (nI (wtm T S), M') := r_waiting (h.RI hR) (h.T hT) hk (h.S hS) hs
theorem q_bitsW {M : Mem} {m : Nat} {T : TD} {S : SC} (hR : RIs (mS M) (mR M) m) (hT : RT M m T) (hk : TOk T) (hS : RS M m T S) (hs : SOk S) {M' : Mem} (h : LQ M M') : f_X10_bits (nI (wtm T S)) M' = some (nI (wtc T S), M') := r_bitsW (h.RI hR) (h.T hT) hk (h.S hS) hs
theorem q_sinceOf {M : Mem} {m : Nat} {T : TD} {S : SC} (hR : RIs (mS M) (mR M) m) (hT : RT M m T) (hk : TOk T) (hS : RS M m T S) (hs : SOk S) {M' : Mem} (h : LQ M M') {j : Nat} (hj : j < tJ T) : f_X10_sinceOf m (nI j) M' = some (nI (snc S j), M') := r_sinceOf (h.RI hR) (h.T hT) hk (h.S hS) hs hj
theorem q_howMany {M : Mem} {m : Nat} {T : TD} {S : SC} (hR : RIs (mS M) (mR M) m) (hT : RT M m T) (hk : TOk T) (hS : RS M m T S) (hs : SOk S) {M' : Mem} (h : LQ M M') : f_X10_howManyPassed m M' = some (nI (tN T - wtc T S), M') := r_howMany (h.RI hR) (h.T hT) hk (h.S hS) hs
end QQ
theorem knb_le (T : TD) (S : SC) (j : Nat) : knb T S j ≤ tN T := ctb_le _ _
theorem wtc_le (T : TD) (S : SC) : wtc T S ≤ tN T := ctb_le _ _
theorem snc_le (S : SC) (j : Nat) : snc S j ≤ 99 := by
  unfold snc
  cases sH S j with
  | none => simp
  | some h => simp only [Option.elim]; by_cases h1 : 99 < ((sT S : Int) - h).toNat <;> simp [h1]; omega
/-- the row of what is asked, behind the eleven writes -/
def askM (M : Mem) (m : Nat) (T : TD) (S : SC) (s j : Nat) : Mem := sL (sL (sL (sL (sL (sL (sL (sL (sL (sL (sL M (m + 25) 0 (lN s)) (m + 25) 1 (lN j)) (m + 25) 2 (lN (tC T s))) (m + 25) 3 (Int32.toInt64 (nI (tE T s) - nI (sT S)))) (m + 25) 4 (lN (lkO T S j))) (m + 25) 5 (lN (b2 (isN T S j)))) (m + 25) 6 (lN (knb T S j))) (m + 25) 7 (lN (wtc T S))) (m + 25) 8 (lN (snc S j))) (m + 25) 9 (lN (tN T - wtc T S))) (m + 25) 10 (lN (sT S))
theorem askM_v (M : Mem) (m : Nat) (T : TD) (S : SC) (s j : Nat) : (fun k => if k < 11 then mL (askM M m T S s j) (m + 25) k else 0) = wds T S s j := by
  funext k
  by_cases hk : k < 11
  · rw [if_pos hk]
    unfold askM
    rcases (show k = 0 ∨ k = 1 ∨ k = 2 ∨ k = 3 ∨ k = 4 ∨ k = 5 ∨ k = 6 ∨ k = 7 ∨ k = 8 ∨ k = 9 ∨ k = 10 by omega) with rfl | rfl | rfl | rfl | rfl | rfl | rfl | rfl | rfl | rfl | rfl <;> simp [mL_sL, wds, wdL]
  · rw [if_neg hk]
    have h : (wdL T S s j)[k]? = none := List.getElem?_eq_none (by show 11 ≤ k; omega)
    unfold wds
    rw [List.getD, h]
    rfl
theorem askM_q (M : Mem) (m : Nat) (T : TD) (S : SC) (s j : Nat) : LQ M (askM M m T S s j) := ⟨rfl, rfl, rfl⟩
theorem askM_o (M : Mem) (m : Nat) (T : TD) (S : SC) (s j : Nat) {a : Nat} (h : a ≠ m + 25) : mL (askM M m T S s j) a = mL M a := by
  unfold askM
  rw [mL_sL_o h, mL_sL_o h, mL_sL_o h, mL_sL_o h, mL_sL_o h, mL_sL_o h, mL_sL_o h, mL_sL_o h, mL_sL_o h, mL_sL_o h, mL_sL_o h]
theorem sLr_LE (M : Mem) (m : Nat) (g : Nat → Int64) : LE m M (sLr M (m + 26) g) := ⟨rfl, rfl, rfl, fun a _ h => rowU_n _ _ h⟩
