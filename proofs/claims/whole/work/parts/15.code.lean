/-! BarPilot$Told.mostAlike(II)I -/
def f_X8_mostAlike_J51 (this : Nat) (s0 : Int32) (M : Mem) : Option (Int32 × Mem) :=
  some (s0, M)
set_option maxHeartbeats 2000000 in
set_option maxRecDepth 20000 in
theorem rf_X8_mostAlike_J51 (this : Nat) (s0 : Int32) (M : Mem) : RF yX8_mostAlike cX8_mostAlike 3 (some .int) 1 eI (f_X8_mostAlike_J51 this s0 M) 51 [] [.int s0] M := by
  rw [f_X8_mostAlike_J51]
  exact R_iret dX8_mostAlike_51
def f_X8_mostAlike (this : Nat) (l1 : Int32) (l2 : Int32) (M : Mem) : Option (Int32 × Mem) :=
  (gR M 8 9 (some this)).bind fun near1 =>
  (aI M 0 near1 ((nI 24) + l1)).bind fun e2 =>
  (if (e2 &&& l2) = 0 then
    ((gR M 8 9 (some this)).bind fun near3 =>
    (aI M 0 near3 ((nI 16) + l1)).bind fun e4 =>
    (if (e4 &&& l2) = 0 then
      ((gR M 8 9 (some this)).bind fun near5 =>
      (aI M 0 near5 ((nI 8) + l1)).bind fun e6 =>
      (if (e6 &&& l2) = 0 then
        (f_X8_mostAlike_J51 this (nI 0) M)
      else
        (f_X8_mostAlike_J51 this (nI 1) M)))
    else
      (some ((nI 2), M))))
  else
    (some ((nI 3), M)))
set_option maxHeartbeats 2000000 in
set_option maxRecDepth 20000 in
theorem rm_X8_mostAlike (this : Nat) (l1 : Int32) (l2 : Int32) (M : Mem) : RFm yX8_mostAlike cX8_mostAlike 3 (some .int) 1 eI (f_X8_mostAlike this l1 l2 M) [va_rf (some this), .int l1, .int l2] M := by
  refine RFm_of (L := [(0, va_rf (some this)), (1, .int l1), (2, .int l2)]) (by decide) rfl (Nat.le_trans (c_R (c_I (c_I c_0))) (by decide)) ?_
  rw [f_X8_mostAlike]
  refine R_aloadq_n (pc' := 1) (i := 0) (j := 0) (q := (some this)) dX8_mostAlike_0 rfl rfl rfl ?_
  refine R_getR (pc' := 4) (q := (some this)) fl_X8_24 rfl dX8_mostAlike_1 rfl (fun near1 => ?_)
  refine R_bipush (pc' := 6) (x := (nI 24)) dX8_mostAlike_4 rfl (by decide) ?_
  refine R_iload_n (pc' := 7) (i := 1) (j := 1) (x := l1) dX8_mostAlike_6 rfl rfl rfl ?_
  refine R_iadd (pc' := 8) (a := (nI 24)) (b := l1) dX8_mostAlike_7 rfl ?_
  refine R_iald (pc' := 9) (q := near1) (i := ((nI 24) + l1)) dX8_mostAlike_8 rfl (fun e2 => ?_)
  refine R_iload_n (pc' := 10) (i := 2) (j := 2) (x := l2) dX8_mostAlike_9 rfl rfl rfl ?_
  refine R_iand (pc' := 11) (a := e2) (b := l2) dX8_mostAlike_10 rfl ?_
  refine R_if_eq (pc' := 14) (tgt := 16) (a := (e2 &&& l2)) dX8_mostAlike_11 (by decide) rfl ?_ ?_
  · refine R_aloadq_n (pc' := 17) (i := 0) (j := 0) (q := (some this)) dX8_mostAlike_16 rfl rfl rfl ?_
    refine R_getR (pc' := 20) (q := (some this)) fl_X8_24 rfl dX8_mostAlike_17 rfl (fun near3 => ?_)
    refine R_bipush (pc' := 22) (x := (nI 16)) dX8_mostAlike_20 rfl (by decide) ?_
    refine R_iload_n (pc' := 23) (i := 1) (j := 1) (x := l1) dX8_mostAlike_22 rfl rfl rfl ?_
    refine R_iadd (pc' := 24) (a := (nI 16)) (b := l1) dX8_mostAlike_23 rfl ?_
    refine R_iald (pc' := 25) (q := near3) (i := ((nI 16) + l1)) dX8_mostAlike_24 rfl (fun e4 => ?_)
    refine R_iload_n (pc' := 26) (i := 2) (j := 2) (x := l2) dX8_mostAlike_25 rfl rfl rfl ?_
    refine R_iand (pc' := 27) (a := e4) (b := l2) dX8_mostAlike_26 rfl ?_
    refine R_if_eq (pc' := 30) (tgt := 32) (a := (e4 &&& l2)) dX8_mostAlike_27 (by decide) rfl ?_ ?_
    · refine R_aloadq_n (pc' := 33) (i := 0) (j := 0) (q := (some this)) dX8_mostAlike_32 rfl rfl rfl ?_
      refine R_getR (pc' := 36) (q := (some this)) fl_X8_24 rfl dX8_mostAlike_33 rfl (fun near5 => ?_)
      refine R_bipush (pc' := 38) (x := (nI 8)) dX8_mostAlike_36 rfl (by decide) ?_
      refine R_iload_n (pc' := 39) (i := 1) (j := 1) (x := l1) dX8_mostAlike_38 rfl rfl rfl ?_
      refine R_iadd (pc' := 40) (a := (nI 8)) (b := l1) dX8_mostAlike_39 rfl ?_
      refine R_iald (pc' := 41) (q := near5) (i := ((nI 8) + l1)) dX8_mostAlike_40 rfl (fun e6 => ?_)
      refine R_iload_n (pc' := 42) (i := 2) (j := 2) (x := l2) dX8_mostAlike_41 rfl rfl rfl ?_
      refine R_iand (pc' := 43) (a := e6) (b := l2) dX8_mostAlike_42 rfl ?_
      refine R_if_eq (pc' := 46) (tgt := 50) (a := (e6 &&& l2)) dX8_mostAlike_43 (by decide) rfl ?_ ?_
      · refine R_iconst (pc' := 51) (x := (nI 0)) dX8_mostAlike_50 rfl (by decide) ?_
        exact R_sub [] rfl (rf_X8_mostAlike_J51 this (nI 0) M)
      · refine R_iconst (pc' := 47) (x := (nI 1)) dX8_mostAlike_46 rfl (by decide) ?_
        refine R_goto (tgt := 51) dX8_mostAlike_47 (by decide) ?_
        exact R_sub [] rfl (rf_X8_mostAlike_J51 this (nI 1) M)
    · refine R_iconst (pc' := 31) (x := (nI 2)) dX8_mostAlike_30 rfl (by decide) ?_
      exact R_iret dX8_mostAlike_31
  · refine R_iconst (pc' := 15) (x := (nI 3)) dX8_mostAlike_14 rfl (by decide) ?_
    exact R_iret dX8_mostAlike_15
/-! BarPilot$Told.isUnlikeAll(III)Z -/
def f_X8_isUnlikeAll_L3 (this : Nat) : Nat → Int32 → Int32 → Int32 → Int32 → Mem → Option (Int32 × Mem)
  | 0, _, _, _, _, _ => none
  | n + 1, l1, l2, l3, l4, M =>
    (gI M 8 3 (some this)).bind fun jokes1 =>
    (if jokes1 ≤ l4 then
      (ckZ (nI 1) (some ((nI 1), M)))
    else
      ((oO M 8 (some this)).bind fun o4 => cl (f_X8_countAlike o4 l4 l1 l2 l3 M) fun r2 M =>
      (gI M 8 2 (some this)).bind fun like3 =>
      (if r2 < like3 then
        ((f_X8_isUnlikeAll_L3 this n) l1 l2 l3 (l4 + (nI 1)) M)
      else
        (ckZ (nI 0) (some ((nI 0), M))))))
set_option maxHeartbeats 2000000 in
set_option maxRecDepth 20000 in
theorem rf_X8_isUnlikeAll_L3 (this : Nat) : ∀ (n : Nat) (l1 : Int32) (l2 : Int32) (l3 : Int32) (l4 : Int32) (M : Mem), RF yX8_isUnlikeAll cX8_isUnlikeAll 5 (some .boolean) 2 eI (f_X8_isUnlikeAll_L3 this n l1 l2 l3 l4 M) 3 [(0, va_rf (some this)), (1, .int l1), (2, .int l2), (3, .int l3), (4, .int l4)] [] M := by
  intro n
  induction n with
  | zero => intro _ _ _ _ _; exact RF.none
  | succ n ih =>
    intro l1 l2 l3 l4 M
    rw [f_X8_isUnlikeAll_L3]
    refine R_iload (pc' := 5) (i := 4) (j := 4) (x := l4) dX8_isUnlikeAll_3 rfl rfl ?_
    refine R_aloadq_n (pc' := 6) (i := 0) (j := 0) (q := (some this)) dX8_isUnlikeAll_5 rfl rfl rfl ?_
    refine R_getI (pc' := 9) (q := (some this)) fl_X8_38 rfl dX8_isUnlikeAll_6 rfl (fun jokes1 => ?_)
    refine R_icmp_ge (pc' := 12) (tgt := 36) (a := l4) (b := jokes1) dX8_isUnlikeAll_9 (by decide) rfl ?_ ?_
    · refine R_iconst (pc' := 37) (x := (nI 1)) dX8_isUnlikeAll_36 rfl (by decide) ?_
      exact R_bret dX8_isUnlikeAll_37
    · refine R_aloadq_n (pc' := 13) (i := 0) (j := 0) (q := (some this)) dX8_isUnlikeAll_12 rfl rfl rfl ?_
      refine R_iload (pc' := 15) (i := 4) (j := 4) (x := l4) dX8_isUnlikeAll_13 rfl rfl ?_
      refine R_iload_n (pc' := 16) (i := 1) (j := 1) (x := l1) dX8_isUnlikeAll_15 rfl rfl rfl ?_
      refine R_iload_n (pc' := 17) (i := 2) (j := 2) (x := l2) dX8_isUnlikeAll_16 rfl rfl rfl ?_
      refine R_iload_n (pc' := 18) (i := 3) (j := 3) (x := l3) dX8_isUnlikeAll_17 rfl rfl rfl ?_
      refine R_callV_I (pc' := 21) (q := (some this)) (As := [.int l4, .int l1, .int l2, .int l3]) (fun o4 => rm_X8_countAlike o4 l4 l1 l2 l3 M) mf_X8_countAlike lk_X8_60 im_X8_countAlike se_X8_countAlike rfl rfl rfl dX8_isUnlikeAll_18 rfl (by decide) (Nat.le_trans c_0 (by decide)) (fun r2 M => ?_)
      refine R_aloadq_n (pc' := 22) (i := 0) (j := 0) (q := (some this)) dX8_isUnlikeAll_21 rfl rfl rfl ?_
      refine R_getI (pc' := 25) (q := (some this)) fl_X8_35 rfl dX8_isUnlikeAll_22 rfl (fun like3 => ?_)
      refine R_icmp_lt (pc' := 28) (tgt := 30) (a := r2) (b := like3) dX8_isUnlikeAll_25 (by decide) rfl ?_ ?_
      · refine R_iinc (pc' := 33) (L' := [(4, .int (l4 + (nI 1))), (0, va_rf (some this)), (1, .int l1), (2, .int l2), (3, .int l3)]) (i := 4) (j := 4) (x := l4) (x2 := (l4 + (nI 1))) dX8_isUnlikeAll_30 rfl rfl rfl (by decide) rfl ?_
        refine R_goto (tgt := 3) dX8_isUnlikeAll_33 (by decide) ?_
        exact R_sub [1, 2, 3, 4, 0] rfl (ih l1 l2 l3 (l4 + (nI 1)) M)
      · refine R_iconst (pc' := 29) (x := (nI 0)) dX8_isUnlikeAll_28 rfl (by decide) ?_
        exact R_bret dX8_isUnlikeAll_29
def f_X8_isUnlikeAll (this : Nat) (l1 : Int32) (l2 : Int32) (l3 : Int32) (M : Mem) : Option (Int32 × Mem) :=
  f_X8_isUnlikeAll_L3 this FU l1 l2 l3 (nI 0) M
set_option maxHeartbeats 2000000 in
set_option maxRecDepth 20000 in
theorem rm_X8_isUnlikeAll (this : Nat) (l1 : Int32) (l2 : Int32) (l3 : Int32) (M : Mem) : RFm yX8_isUnlikeAll cX8_isUnlikeAll 5 (some .boolean) 2 eI (f_X8_isUnlikeAll this l1 l2 l3 M) [va_rf (some this), .int l1, .int l2, .int l3] M := by
  refine RFm_of (L := [(0, va_rf (some this)), (1, .int l1), (2, .int l2), (3, .int l3)]) (by decide) rfl (Nat.le_trans (c_R (c_I (c_I (c_I c_0)))) (by decide)) ?_
  rw [f_X8_isUnlikeAll]
  refine R_iconst (pc' := 1) (x := (nI 0)) dX8_isUnlikeAll_0 rfl (by decide) ?_
  refine R_istore (pc' := 3) (L' := [(4, .int (nI 0)), (0, va_rf (some this)), (1, .int l1), (2, .int l2), (3, .int l3)]) (i := 4) (x := (nI 0)) dX8_isUnlikeAll_1 rfl (by decide) rfl ?_
  exact R_sub [1, 2, 3, 4, 0] rfl (rf_X8_isUnlikeAll_L3 this FU l1 l2 l3 (nI 0) M)
/-! BarPilot$Told.leastUnlike()I -/
def f_X8_leastUnlike_L2 (this : Nat) : Nat → Int32 → Mem → Option (Int32 × Mem)
  | 0, _, _ => none
  | n + 1, l1, M =>
    (if (nI 1000) ≤ l1 then
      (some ((-2 : Int32), M))
    else
      (if (nI 100) = 0 then none else
      if (nI 10) = 0 then none else
      if (nI 10) = 0 then none else
      if (nI 10) = 0 then none else
      (oO M 8 (some this)).bind fun o2 => cl (f_X8_isUnlikeAll o2 (l1 / (nI 100)) ((l1 / (nI 10)) - (l1 / (nI 10)) / (nI 10) * (nI 10)) (l1 - l1 / (nI 10) * (nI 10)) M) fun r1 M =>
      (if r1 = 0 then
        ((f_X8_leastUnlike_L2 this n) (l1 + (nI 1)) M)
      else
        (some (l1, M)))))
set_option maxHeartbeats 2000000 in
set_option maxRecDepth 20000 in
theorem rf_X8_leastUnlike_L2 (this : Nat) : ∀ (n : Nat) (l1 : Int32) (M : Mem), RF yX8_leastUnlike cX8_leastUnlike 2 (some .int) 3 eI (f_X8_leastUnlike_L2 this n l1 M) 2 [(0, va_rf (some this)), (1, .int l1)] [] M := by
  intro n
  induction n with
  | zero => intro _ _; exact RF.none
  | succ n ih =>
    intro l1 M
    rw [f_X8_leastUnlike_L2]
    refine R_iload_n (pc' := 3) (i := 1) (j := 1) (x := l1) dX8_leastUnlike_2 rfl rfl rfl ?_
    refine R_sipush (pc' := 6) (x := (nI 1000)) dX8_leastUnlike_3 rfl (by decide) ?_
    refine R_icmp_ge (pc' := 9) (tgt := 39) (a := l1) (b := (nI 1000)) dX8_leastUnlike_6 (by decide) rfl ?_ ?_
    · refine R_bipush (pc' := 41) (x := (-2 : Int32)) dX8_leastUnlike_39 rfl (by decide) ?_
      exact R_iret dX8_leastUnlike_41
    · refine R_aloadq_n (pc' := 10) (i := 0) (j := 0) (q := (some this)) dX8_leastUnlike_9 rfl rfl rfl ?_
      refine R_iload_n (pc' := 11) (i := 1) (j := 1) (x := l1) dX8_leastUnlike_10 rfl rfl rfl ?_
      refine R_bipush (pc' := 13) (x := (nI 100)) dX8_leastUnlike_11 rfl (by decide) ?_
      refine R_idiv (pc' := 14) (a := l1) (b := (nI 100)) dX8_leastUnlike_13 rfl ?_
      refine R_iload_n (pc' := 15) (i := 1) (j := 1) (x := l1) dX8_leastUnlike_14 rfl rfl rfl ?_
      refine R_bipush (pc' := 17) (x := (nI 10)) dX8_leastUnlike_15 rfl (by decide) ?_
      refine R_idiv (pc' := 18) (a := l1) (b := (nI 10)) dX8_leastUnlike_17 rfl ?_
      refine R_bipush (pc' := 20) (x := (nI 10)) dX8_leastUnlike_18 rfl (by decide) ?_
      refine R_irem (pc' := 21) (a := (l1 / (nI 10))) (b := (nI 10)) dX8_leastUnlike_20 rfl ?_
      refine R_iload_n (pc' := 22) (i := 1) (j := 1) (x := l1) dX8_leastUnlike_21 rfl rfl rfl ?_
      refine R_bipush (pc' := 24) (x := (nI 10)) dX8_leastUnlike_22 rfl (by decide) ?_
      refine R_irem (pc' := 25) (a := l1) (b := (nI 10)) dX8_leastUnlike_24 rfl ?_
      refine R_callV_I (pc' := 28) (q := (some this)) (As := [.int (l1 / (nI 100)), .int ((l1 / (nI 10)) - (l1 / (nI 10)) / (nI 10) * (nI 10)), .int (l1 - l1 / (nI 10) * (nI 10))]) (fun o2 => rm_X8_isUnlikeAll o2 (l1 / (nI 100)) ((l1 / (nI 10)) - (l1 / (nI 10)) / (nI 10) * (nI 10)) (l1 - l1 / (nI 10) * (nI 10)) M) mf_X8_isUnlikeAll lk_X8_68 im_X8_isUnlikeAll se_X8_isUnlikeAll rfl rfl rfl dX8_leastUnlike_25 rfl (by decide) (Nat.le_trans c_0 (by decide)) (fun r1 M => ?_)
      refine R_if_eq (pc' := 31) (tgt := 33) (a := r1) dX8_leastUnlike_28 (by decide) rfl ?_ ?_
      · refine R_iinc (pc' := 36) (L' := [(1, .int (l1 + (nI 1))), (0, va_rf (some this))]) (i := 1) (j := 1) (x := l1) (x2 := (l1 + (nI 1))) dX8_leastUnlike_33 rfl rfl rfl (by decide) rfl ?_
        refine R_goto (tgt := 2) dX8_leastUnlike_36 (by decide) ?_
        exact R_sub [1, 0] rfl (ih (l1 + (nI 1)) M)
      · refine R_iload_n (pc' := 32) (i := 1) (j := 1) (x := l1) dX8_leastUnlike_31 rfl rfl rfl ?_
        exact R_iret dX8_leastUnlike_32
def f_X8_leastUnlike (this : Nat) (M : Mem) : Option (Int32 × Mem) :=
  f_X8_leastUnlike_L2 this FU (nI 0) M
set_option maxHeartbeats 2000000 in
set_option maxRecDepth 20000 in
theorem rm_X8_leastUnlike (this : Nat) (M : Mem) : RFm yX8_leastUnlike cX8_leastUnlike 2 (some .int) 3 eI (f_X8_leastUnlike this M) [va_rf (some this)] M := by
  refine RFm_of (L := [(0, va_rf (some this))]) (by decide) rfl (Nat.le_trans (c_R c_0) (by decide)) ?_
  rw [f_X8_leastUnlike]
  refine R_iconst (pc' := 1) (x := (nI 0)) dX8_leastUnlike_0 rfl (by decide) ?_
  refine R_istore_n (pc' := 2) (L' := [(1, .int (nI 0)), (0, va_rf (some this))]) (i := 1) (x := (nI 0)) dX8_leastUnlike_1 rfl rfl (by decide) rfl ?_
  exact R_sub [1, 0] rfl (rf_X8_leastUnlike_L2 this FU (nI 0) M)
/-! BarPilot$Told.remembered(LBarPilot$Scene;)I -/
def f_X8_remembered_J36 (k4 : Option Nat → Int32 → Int32 → Mem → Option (Int32 × Mem)) (this : Nat) (l1 : Option Nat) (l2 : Int32) (l3 : Int32) (M : Mem) : Option (Int32 × Mem) :=
  k4 l1 l2 (l3 + (nI 1)) M
set_option maxHeartbeats 2000000 in
set_option maxRecDepth 20000 in
theorem rf_X8_remembered_J36 (this : Nat) (k4 : Option Nat → Int32 → Int32 → Mem → Option (Int32 × Mem)) (hk4 : ∀ (l1 : Option Nat) (l2 : Int32) (l3 : Int32) (M : Mem), RF yX8_remembered cX8_remembered 4 (some .int) 1 eI (k4 l1 l2 l3 M) 4 [(0, va_rf (some this)), (1, va_rf l1), (2, .int l2), (3, .int l3)] [] M) (l1 : Option Nat) (l2 : Int32) (l3 : Int32) (M : Mem) : RF yX8_remembered cX8_remembered 4 (some .int) 1 eI (f_X8_remembered_J36 k4 this l1 l2 l3 M) 36 [(0, va_rf (some this)), (1, va_rf l1), (2, .int l2), (3, .int l3)] [] M := by
  rw [f_X8_remembered_J36]
  refine R_iinc (pc' := 39) (L' := [(3, .int (l3 + (nI 1))), (0, va_rf (some this)), (1, va_rf l1), (2, .int l2)]) (i := 3) (j := 3) (x := l3) (x2 := (l3 + (nI 1))) dX8_remembered_36 rfl rfl rfl (by decide) rfl ?_
  refine R_goto (tgt := 4) dX8_remembered_39 (by decide) ?_
  exact R_sub [1, 2, 3, 0] rfl (hk4 l1 l2 (l3 + (nI 1)) M)
def f_X8_remembered_L4 (this : Nat) : Nat → Option Nat → Int32 → Int32 → Mem → Option (Int32 × Mem)
  | 0, _, _, _, _ => none
  | n + 1, l1, l2, l3, M =>
    (gI M 8 3 (some this)).bind fun jokes1 =>
    (if jokes1 ≤ l3 then
      (some (l2, M))
    else
      ((gI M 6 0 l1).bind fun tide2 =>
      (gR M 6 1 l1).bind fun heard3 =>
      (aI M 0 heard3 l3).bind fun e4 =>
      (gI M 8 1 (some this)).bind fun fades5 =>
      (if fades5 ≤ (tide2 - e4) then
        (f_X8_remembered_J36 (f_X8_remembered_L4 this n) this l1 l2 l3 M)
      else
        (nm (l2 ||| ((nI 1) <<< (l3 &&& 31))) fun v6 =>
        f_X8_remembered_J36 (f_X8_remembered_L4 this n) this l1 v6 l3 M))))
set_option maxHeartbeats 2000000 in
set_option maxRecDepth 20000 in
theorem rf_X8_remembered_L4 (this : Nat) : ∀ (n : Nat) (l1 : Option Nat) (l2 : Int32) (l3 : Int32) (M : Mem), RF yX8_remembered cX8_remembered 4 (some .int) 1 eI (f_X8_remembered_L4 this n l1 l2 l3 M) 4 [(0, va_rf (some this)), (1, va_rf l1), (2, .int l2), (3, .int l3)] [] M := by
  intro n
  induction n with
  | zero => intro _ _ _ _; exact RF.none
  | succ n ih =>
    intro l1 l2 l3 M
    rw [f_X8_remembered_L4]
    refine R_iload_n (pc' := 5) (i := 3) (j := 3) (x := l3) dX8_remembered_4 rfl rfl rfl ?_
    refine R_aloadq_n (pc' := 6) (i := 0) (j := 0) (q := (some this)) dX8_remembered_5 rfl rfl rfl ?_
    refine R_getI (pc' := 9) (q := (some this)) fl_X8_38 rfl dX8_remembered_6 rfl (fun jokes1 => ?_)
    refine R_icmp_ge (pc' := 12) (tgt := 42) (a := l3) (b := jokes1) dX8_remembered_9 (by decide) rfl ?_ ?_
    · refine R_iload_n (pc' := 43) (i := 2) (j := 2) (x := l2) dX8_remembered_42 rfl rfl rfl ?_
      exact R_iret dX8_remembered_43
    · refine R_aloadq_n (pc' := 13) (i := 1) (j := 1) (q := l1) dX8_remembered_12 rfl rfl rfl ?_
      refine R_getI (pc' := 16) (q := l1) fl_X8_72 rfl dX8_remembered_13 rfl (fun tide2 => ?_)
      refine R_aloadq_n (pc' := 17) (i := 1) (j := 1) (q := l1) dX8_remembered_16 rfl rfl rfl ?_
      refine R_getR (pc' := 20) (q := l1) fl_X8_77 rfl dX8_remembered_17 rfl (fun heard3 => ?_)
      refine R_iload_n (pc' := 21) (i := 3) (j := 3) (x := l3) dX8_remembered_20 rfl rfl rfl ?_
      refine R_iald (pc' := 22) (q := heard3) (i := l3) dX8_remembered_21 rfl (fun e4 => ?_)
      refine R_isub (pc' := 23) (a := tide2) (b := e4) dX8_remembered_22 rfl ?_
      refine R_aloadq_n (pc' := 24) (i := 0) (j := 0) (q := (some this)) dX8_remembered_23 rfl rfl rfl ?_
      refine R_getI (pc' := 27) (q := (some this)) fl_X8_31 rfl dX8_remembered_24 rfl (fun fades5 => ?_)
      refine R_icmp_ge (pc' := 30) (tgt := 36) (a := (tide2 - e4)) (b := fades5) dX8_remembered_27 (by decide) rfl ?_ ?_
      · exact R_sub [0, 1, 2, 3] rfl (rf_X8_remembered_J36 this (f_X8_remembered_L4 this n) ih l1 l2 l3 M)
      · refine R_iload_n (pc' := 31) (i := 2) (j := 2) (x := l2) dX8_remembered_30 rfl rfl rfl ?_
        refine R_iconst (pc' := 32) (x := (nI 1)) dX8_remembered_31 rfl (by decide) ?_
        refine R_iload_n (pc' := 33) (i := 3) (j := 3) (x := l3) dX8_remembered_32 rfl rfl rfl ?_
        refine R_ishl (pc' := 34) (a := (nI 1)) (b := l3) dX8_remembered_33 rfl ?_
        refine R_ior (pc' := 35) (a := l2) (b := ((nI 1) <<< (l3 &&& 31))) dX8_remembered_34 rfl ?_
        refine R_nmI (fun v6 => ?_)
        refine R_istore_n (pc' := 36) (L' := [(2, .int v6), (0, va_rf (some this)), (1, va_rf l1), (3, .int l3)]) (i := 2) (x := v6) dX8_remembered_35 rfl rfl (by decide) (by simp [stL, rf_cat, cat_I, cat_L, cat_C]) ?_
        exact R_sub [1, 2, 0, 3] rfl (rf_X8_remembered_J36 this (f_X8_remembered_L4 this n) ih l1 v6 l3 M)
def f_X8_remembered (this : Nat) (l1 : Option Nat) (M : Mem) : Option (Int32 × Mem) :=
  f_X8_remembered_L4 this FU l1 (nI 0) (nI 0) M
set_option maxHeartbeats 2000000 in
set_option maxRecDepth 20000 in
theorem rm_X8_remembered (this : Nat) (l1 : Option Nat) (M : Mem) : RFm yX8_remembered cX8_remembered 4 (some .int) 1 eI (f_X8_remembered this l1 M) [va_rf (some this), va_rf l1] M := by
  refine RFm_of (L := [(0, va_rf (some this)), (1, va_rf l1)]) (by decide) (by simp only [lva_R, lva_I, lva_L, lva_C, lva_0]) (Nat.le_trans (c_R (c_R c_0)) (by decide)) ?_
  rw [f_X8_remembered]
  refine R_iconst (pc' := 1) (x := (nI 0)) dX8_remembered_0 rfl (by decide) ?_
  refine R_istore_n (pc' := 2) (L' := [(2, .int (nI 0)), (0, va_rf (some this)), (1, va_rf l1)]) (i := 2) (x := (nI 0)) dX8_remembered_1 rfl rfl (by decide) (by simp [stL, rf_cat, cat_I, cat_L, cat_C]) ?_
  refine R_iconst (pc' := 3) (x := (nI 0)) dX8_remembered_2 rfl (by decide) ?_
  refine R_istore_n (pc' := 4) (L' := [(3, .int (nI 0)), (2, .int (nI 0)), (0, va_rf (some this)), (1, va_rf l1)]) (i := 3) (x := (nI 0)) dX8_remembered_3 rfl rfl (by decide) rfl ?_
  exact R_sub [2, 3, 1, 0] rfl (rf_X8_remembered_L4 this FU l1 (nI 0) (nI 0) M)
/-! BarPilot$Told.waiting(LBarPilot$Scene;)I -/
def f_X8_waiting_J28 (k4 : Option Nat → Int32 → Int32 → Mem → Option (Int32 × Mem)) (this : Nat) (l1 : Option Nat) (l2 : Int32) (l3 : Int32) (M : Mem) : Option (Int32 × Mem) :=
  k4 l1 l2 (l3 + (nI 1)) M
set_option maxHeartbeats 2000000 in
set_option maxRecDepth 20000 in
theorem rf_X8_waiting_J28 (this : Nat) (k4 : Option Nat → Int32 → Int32 → Mem → Option (Int32 × Mem)) (hk4 : ∀ (l1 : Option Nat) (l2 : Int32) (l3 : Int32) (M : Mem), RF yX8_waiting cX8_waiting 4 (some .int) 1 eI (k4 l1 l2 l3 M) 4 [(0, va_rf (some this)), (1, va_rf l1), (2, .int l2), (3, .int l3)] [] M) (l1 : Option Nat) (l2 : Int32) (l3 : Int32) (M : Mem) : RF yX8_waiting cX8_waiting 4 (some .int) 1 eI (f_X8_waiting_J28 k4 this l1 l2 l3 M) 28 [(0, va_rf (some this)), (1, va_rf l1), (2, .int l2), (3, .int l3)] [] M := by
  rw [f_X8_waiting_J28]
  refine R_iinc (pc' := 31) (L' := [(3, .int (l3 + (nI 1))), (0, va_rf (some this)), (1, va_rf l1), (2, .int l2)]) (i := 3) (j := 3) (x := l3) (x2 := (l3 + (nI 1))) dX8_waiting_28 rfl rfl rfl (by decide) rfl ?_
  refine R_goto (tgt := 4) dX8_waiting_31 (by decide) ?_
  exact R_sub [1, 2, 3, 0] rfl (hk4 l1 l2 (l3 + (nI 1)) M)
def f_X8_waiting_L4 (this : Nat) : Nat → Option Nat → Int32 → Int32 → Mem → Option (Int32 × Mem)
  | 0, _, _, _, _ => none
  | n + 1, l1, l2, l3, M =>
    (gI M 8 4 (some this)).bind fun ships1 =>
    (if ships1 ≤ l3 then
      (some (l2, M))
    else
      ((gR M 6 3 l1).bind fun passed2 =>
      (aI M 0 passed2 l3).bind fun e3 =>
      (if e3 = (-1 : Int32) then
        (nm (l2 ||| ((nI 1) <<< (l3 &&& 31))) fun v4 =>
        f_X8_waiting_J28 (f_X8_waiting_L4 this n) this l1 v4 l3 M)
      else
        (f_X8_waiting_J28 (f_X8_waiting_L4 this n) this l1 l2 l3 M))))
set_option maxHeartbeats 2000000 in
set_option maxRecDepth 20000 in
theorem rf_X8_waiting_L4 (this : Nat) : ∀ (n : Nat) (l1 : Option Nat) (l2 : Int32) (l3 : Int32) (M : Mem), RF yX8_waiting cX8_waiting 4 (some .int) 1 eI (f_X8_waiting_L4 this n l1 l2 l3 M) 4 [(0, va_rf (some this)), (1, va_rf l1), (2, .int l2), (3, .int l3)] [] M := by
  intro n
  induction n with
  | zero => intro _ _ _ _; exact RF.none
  | succ n ih =>
    intro l1 l2 l3 M
    rw [f_X8_waiting_L4]
    refine R_iload_n (pc' := 5) (i := 3) (j := 3) (x := l3) dX8_waiting_4 rfl rfl rfl ?_
    refine R_aloadq_n (pc' := 6) (i := 0) (j := 0) (q := (some this)) dX8_waiting_5 rfl rfl rfl ?_
    refine R_getI (pc' := 9) (q := (some this)) fl_X8_41 rfl dX8_waiting_6 rfl (fun ships1 => ?_)
    refine R_icmp_ge (pc' := 12) (tgt := 34) (a := l3) (b := ships1) dX8_waiting_9 (by decide) rfl ?_ ?_
    · refine R_iload_n (pc' := 35) (i := 2) (j := 2) (x := l2) dX8_waiting_34 rfl rfl rfl ?_
      exact R_iret dX8_waiting_35
    · refine R_aloadq_n (pc' := 13) (i := 1) (j := 1) (q := l1) dX8_waiting_12 rfl rfl rfl ?_
      refine R_getR (pc' := 16) (q := l1) fl_X8_80 rfl dX8_waiting_13 rfl (fun passed2 => ?_)
      refine R_iload_n (pc' := 17) (i := 3) (j := 3) (x := l3) dX8_waiting_16 rfl rfl rfl ?_
      refine R_iald (pc' := 18) (q := passed2) (i := l3) dX8_waiting_17 rfl (fun e3 => ?_)
      refine R_iconst (pc' := 19) (x := (-1 : Int32)) dX8_waiting_18 rfl (by decide) ?_
      refine R_icmp_ne (pc' := 22) (tgt := 28) (a := e3) (b := (-1 : Int32)) dX8_waiting_19 (by decide) rfl ?_ ?_
      · exact R_sub [0, 1, 2, 3] rfl (rf_X8_waiting_J28 this (f_X8_waiting_L4 this n) ih l1 l2 l3 M)
      · refine R_iload_n (pc' := 23) (i := 2) (j := 2) (x := l2) dX8_waiting_22 rfl rfl rfl ?_
        refine R_iconst (pc' := 24) (x := (nI 1)) dX8_waiting_23 rfl (by decide) ?_
        refine R_iload_n (pc' := 25) (i := 3) (j := 3) (x := l3) dX8_waiting_24 rfl rfl rfl ?_
        refine R_ishl (pc' := 26) (a := (nI 1)) (b := l3) dX8_waiting_25 rfl ?_
        refine R_ior (pc' := 27) (a := l2) (b := ((nI 1) <<< (l3 &&& 31))) dX8_waiting_26 rfl ?_
        refine R_nmI (fun v4 => ?_)
        refine R_istore_n (pc' := 28) (L' := [(2, .int v4), (0, va_rf (some this)), (1, va_rf l1), (3, .int l3)]) (i := 2) (x := v4) dX8_waiting_27 rfl rfl (by decide) (by simp [stL, rf_cat, cat_I, cat_L, cat_C]) ?_
        exact R_sub [1, 2, 0, 3] rfl (rf_X8_waiting_J28 this (f_X8_waiting_L4 this n) ih l1 v4 l3 M)
def f_X8_waiting (this : Nat) (l1 : Option Nat) (M : Mem) : Option (Int32 × Mem) :=
  f_X8_waiting_L4 this FU l1 (nI 0) (nI 0) M
set_option maxHeartbeats 2000000 in
set_option maxRecDepth 20000 in
theorem rm_X8_waiting (this : Nat) (l1 : Option Nat) (M : Mem) : RFm yX8_waiting cX8_waiting 4 (some .int) 1 eI (f_X8_waiting this l1 M) [va_rf (some this), va_rf l1] M := by
  refine RFm_of (L := [(0, va_rf (some this)), (1, va_rf l1)]) (by decide) (by simp only [lva_R, lva_I, lva_L, lva_C, lva_0]) (Nat.le_trans (c_R (c_R c_0)) (by decide)) ?_
  rw [f_X8_waiting]
  refine R_iconst (pc' := 1) (x := (nI 0)) dX8_waiting_0 rfl (by decide) ?_
  refine R_istore_n (pc' := 2) (L' := [(2, .int (nI 0)), (0, va_rf (some this)), (1, va_rf l1)]) (i := 2) (x := (nI 0)) dX8_waiting_1 rfl rfl (by decide) (by simp [stL, rf_cat, cat_I, cat_L, cat_C]) ?_
  refine R_iconst (pc' := 3) (x := (nI 0)) dX8_waiting_2 rfl (by decide) ?_
  refine R_istore_n (pc' := 4) (L' := [(3, .int (nI 0)), (2, .int (nI 0)), (0, va_rf (some this)), (1, va_rf l1)]) (i := 3) (x := (nI 0)) dX8_waiting_3 rfl rfl (by decide) rfl ?_
  exact R_sub [2, 3, 1, 0] rfl (rf_X8_waiting_L4 this FU l1 (nI 0) (nI 0) M)
/-! BarPilot$Told.passed(LBarPilot$Scene;)I -/
def f_X8_passed (this : Nat) (l1 : Option Nat) (M : Mem) : Option (Int32 × Mem) :=
  (gI M 8 4 (some this)).bind fun ships1 =>
  (oO M 8 (some this)).bind fun o4 => cl (f_X8_waiting o4 l1 M) fun r2 M =>
  cl (f_J6_bitCount_0f7a4 r2 M) fun r3 M =>
  some ((ships1 - r3), M)
set_option maxHeartbeats 2000000 in
set_option maxRecDepth 20000 in
theorem rm_X8_passed (this : Nat) (l1 : Option Nat) (M : Mem) : RFm yX8_passed cX8_passed 2 (some .int) 2 eI (f_X8_passed this l1 M) [va_rf (some this), va_rf l1] M := by
  refine RFm_of (L := [(0, va_rf (some this)), (1, va_rf l1)]) (by decide) (by simp only [lva_R, lva_I, lva_L, lva_C, lva_0]) (Nat.le_trans (c_R (c_R c_0)) (by decide)) ?_
  rw [f_X8_passed]
  refine R_aloadq_n (pc' := 1) (i := 0) (j := 0) (q := (some this)) dX8_passed_0 rfl rfl rfl ?_
  refine R_getI (pc' := 4) (q := (some this)) fl_X8_41 rfl dX8_passed_1 rfl (fun ships1 => ?_)
  refine R_aloadq_n (pc' := 5) (i := 0) (j := 0) (q := (some this)) dX8_passed_4 rfl rfl rfl ?_
  refine R_aloadq_n (pc' := 6) (i := 1) (j := 1) (q := l1) dX8_passed_5 rfl rfl rfl ?_
  refine R_callV_I (pc' := 9) (q := (some this)) (As := [va_rf l1]) (fun o4 => rm_X8_waiting o4 l1 M) mf_X8_waiting lk_X8_83 im_X8_waiting se_X8_waiting rfl rfl rfl dX8_passed_6 rfl (by decide) (Nat.le_trans (c_I c_0) (by decide)) (fun r2 M => ?_)
  refine R_callS_I (pc' := 12) (As := [.int r2]) (rm_J6_bitCount_0f7a4 r2 M) mf_J6_bitCount_0f7a4 lk_X8_87 sm_J6_bitCount_0f7a4 rfl rfl dX8_passed_9 rfl (by decide) (Nat.le_trans (c_I c_0) (by decide)) (fun r3 M => ?_)
  refine R_isub (pc' := 13) (a := ships1) (b := r3) dX8_passed_12 rfl ?_
  exact R_iret dX8_passed_13
/-! BarPilot$Told.earnedBy(ILBarPilot$Scene;)I -/
def f_X8_earnedBy_J32 (this : Nat) (s0 : Int32) (M : Mem) : Option (Int32 × Mem) :=
  some (s0, M)
set_option maxHeartbeats 2000000 in
set_option maxRecDepth 20000 in
theorem rf_X8_earnedBy_J32 (this : Nat) (s0 : Int32) (M : Mem) : RF yX8_earnedBy cX8_earnedBy 4 (some .int) 1 eI (f_X8_earnedBy_J32 this s0 M) 32 [] [.int s0] M := by
  rw [f_X8_earnedBy_J32]
  exact R_iret dX8_earnedBy_32
def f_X8_earnedBy_J31 (this : Nat) (M : Mem) : Option (Int32 × Mem) :=
  f_X8_earnedBy_J32 this (nI 0) M
set_option maxHeartbeats 2000000 in
set_option maxRecDepth 20000 in
theorem rf_X8_earnedBy_J31 (this : Nat) (M : Mem) : RF yX8_earnedBy cX8_earnedBy 4 (some .int) 1 eI (f_X8_earnedBy_J31 this M) 31 [] [] M := by
  rw [f_X8_earnedBy_J31]
  refine R_iconst (pc' := 32) (x := (nI 0)) dX8_earnedBy_31 rfl (by decide) ?_
  exact R_sub [] rfl (rf_X8_earnedBy_J32 this (nI 0) M)
def f_X8_earnedBy (this : Nat) (l1 : Int32) (l2 : Option Nat) (M : Mem) : Option (Int32 × Mem) :=
  (gR M 6 3 l2).bind fun passed1 =>
  (aI M 0 passed1 l1).bind fun e2 =>
  (if e2 = (-1 : Int32) then
    (f_X8_earnedBy_J31 this M)
  else
    ((gR M 8 7 (some this)).bind fun keeps3 =>
    (aI M 0 keeps3 l1).bind fun e4 =>
    (if e4 < e2 then
      (f_X8_earnedBy_J31 this M)
    else
      ((gR M 8 6 (some this)).bind fun cargo5 =>
      (aI M 0 cargo5 l1).bind fun e6 =>
      f_X8_earnedBy_J32 this e6 M))))
set_option maxHeartbeats 2000000 in
set_option maxRecDepth 20000 in
theorem rm_X8_earnedBy (this : Nat) (l1 : Int32) (l2 : Option Nat) (M : Mem) : RFm yX8_earnedBy cX8_earnedBy 4 (some .int) 1 eI (f_X8_earnedBy this l1 l2 M) [va_rf (some this), .int l1, va_rf l2] M := by
  refine RFm_of (L := [(0, va_rf (some this)), (1, .int l1), (2, va_rf l2)]) (by decide) (by simp only [lva_R, lva_I, lva_L, lva_C, lva_0]) (Nat.le_trans (c_R (c_I (c_R c_0))) (by decide)) ?_
  rw [f_X8_earnedBy]
  refine R_aloadq_n (pc' := 1) (i := 2) (j := 2) (q := l2) dX8_earnedBy_0 rfl rfl rfl ?_
  refine R_getR (pc' := 4) (q := l2) fl_X8_80 rfl dX8_earnedBy_1 rfl (fun passed1 => ?_)
  refine R_iload_n (pc' := 5) (i := 1) (j := 1) (x := l1) dX8_earnedBy_4 rfl rfl rfl ?_
  refine R_iald (pc' := 6) (q := passed1) (i := l1) dX8_earnedBy_5 rfl (fun e2 => ?_)
  refine R_istore_n (pc' := 7) (L' := [(3, .int e2), (0, va_rf (some this)), (1, .int l1), (2, va_rf l2)]) (i := 3) (x := e2) dX8_earnedBy_6 rfl rfl (by decide) (by simp [stL, rf_cat, cat_I, cat_L, cat_C]) ?_
  refine R_iload_n (pc' := 8) (i := 3) (j := 0) (x := e2) dX8_earnedBy_7 rfl rfl rfl ?_
  refine R_iconst (pc' := 9) (x := (-1 : Int32)) dX8_earnedBy_8 rfl (by decide) ?_
  refine R_icmp_eq (pc' := 12) (tgt := 31) (a := e2) (b := (-1 : Int32)) dX8_earnedBy_9 (by decide) rfl ?_ ?_
  · exact R_sub [] rfl (rf_X8_earnedBy_J31 this M)
  · refine R_iload_n (pc' := 13) (i := 3) (j := 0) (x := e2) dX8_earnedBy_12 rfl rfl rfl ?_
    refine R_aloadq_n (pc' := 14) (i := 0) (j := 1) (q := (some this)) dX8_earnedBy_13 rfl rfl rfl ?_
    refine R_getR (pc' := 17) (q := (some this)) fl_X8_18 rfl dX8_earnedBy_14 rfl (fun keeps3 => ?_)
    refine R_iload_n (pc' := 18) (i := 1) (j := 2) (x := l1) dX8_earnedBy_17 rfl rfl rfl ?_
    refine R_iald (pc' := 19) (q := keeps3) (i := l1) dX8_earnedBy_18 rfl (fun e4 => ?_)
    refine R_icmp_gt (pc' := 22) (tgt := 31) (a := e2) (b := e4) dX8_earnedBy_19 (by decide) rfl ?_ ?_
    · exact R_sub [] rfl (rf_X8_earnedBy_J31 this M)
    · refine R_aloadq_n (pc' := 23) (i := 0) (j := 1) (q := (some this)) dX8_earnedBy_22 rfl rfl rfl ?_
      refine R_getR (pc' := 26) (q := (some this)) fl_X8_15 rfl dX8_earnedBy_23 rfl (fun cargo5 => ?_)
      refine R_iload_n (pc' := 27) (i := 1) (j := 2) (x := l1) dX8_earnedBy_26 rfl rfl rfl ?_
      refine R_iald (pc' := 28) (q := cargo5) (i := l1) dX8_earnedBy_27 rfl (fun e6 => ?_)
      refine R_goto (tgt := 32) dX8_earnedBy_28 (by decide) ?_
      exact R_sub [] rfl (rf_X8_earnedBy_J32 this e6 M)
/-! BarPilot$Told.earned(LBarPilot$Scene;)I -/
def f_X8_earned_L4 (this : Nat) : Nat → Option Nat → Int32 → Int32 → Mem → Option (Int32 × Mem)
  | 0, _, _, _, _ => none
  | n + 1, l1, l2, l3, M =>
    (gI M 8 4 (some this)).bind fun ships1 =>
    (if ships1 ≤ l3 then
      (some (l2, M))
    else
      ((oO M 8 (some this)).bind fun o4 => cl (f_X8_earnedBy o4 l3 l1 M) fun r2 M =>
      nm (l2 + r2) fun v3 =>
      (f_X8_earned_L4 this n) l1 v3 (l3 + (nI 1)) M))
set_option maxHeartbeats 2000000 in
set_option maxRecDepth 20000 in
theorem rf_X8_earned_L4 (this : Nat) : ∀ (n : Nat) (l1 : Option Nat) (l2 : Int32) (l3 : Int32) (M : Mem), RF yX8_earned cX8_earned 4 (some .int) 2 eI (f_X8_earned_L4 this n l1 l2 l3 M) 4 [(0, va_rf (some this)), (1, va_rf l1), (2, .int l2), (3, .int l3)] [] M := by
  intro n
  induction n with
  | zero => intro _ _ _ _; exact RF.none
  | succ n ih =>
    intro l1 l2 l3 M
    rw [f_X8_earned_L4]
    refine R_iload_n (pc' := 5) (i := 3) (j := 3) (x := l3) dX8_earned_4 rfl rfl rfl ?_
    refine R_aloadq_n (pc' := 6) (i := 0) (j := 0) (q := (some this)) dX8_earned_5 rfl rfl rfl ?_
    refine R_getI (pc' := 9) (q := (some this)) fl_X8_41 rfl dX8_earned_6 rfl (fun ships1 => ?_)
    refine R_icmp_ge (pc' := 12) (tgt := 27) (a := l3) (b := ships1) dX8_earned_9 (by decide) rfl ?_ ?_
    · refine R_iload_n (pc' := 28) (i := 2) (j := 2) (x := l2) dX8_earned_27 rfl rfl rfl ?_
      exact R_iret dX8_earned_28
    · refine R_iload_n (pc' := 13) (i := 2) (j := 2) (x := l2) dX8_earned_12 rfl rfl rfl ?_
      refine R_aloadq_n (pc' := 14) (i := 0) (j := 0) (q := (some this)) dX8_earned_13 rfl rfl rfl ?_
      refine R_iload_n (pc' := 15) (i := 3) (j := 3) (x := l3) dX8_earned_14 rfl rfl rfl ?_
      refine R_aloadq_n (pc' := 16) (i := 1) (j := 1) (q := l1) dX8_earned_15 rfl rfl rfl ?_
      refine R_callV_I (pc' := 19) (q := (some this)) (As := [.int l3, va_rf l1]) (fun o4 => rm_X8_earnedBy o4 l3 l1 M) mf_X8_earnedBy lk_X8_93 im_X8_earnedBy se_X8_earnedBy rfl rfl rfl dX8_earned_16 rfl (by decide) (Nat.le_trans (c_I c_0) (by decide)) (fun r2 M => ?_)
      refine R_iadd (pc' := 20) (a := l2) (b := r2) dX8_earned_19 rfl ?_
      refine R_nmI (fun v3 => ?_)
      refine R_istore_n (pc' := 21) (L' := [(2, .int v3), (0, va_rf (some this)), (1, va_rf l1), (3, .int l3)]) (i := 2) (x := v3) dX8_earned_20 rfl rfl (by decide) (by simp [stL, rf_cat, cat_I, cat_L, cat_C]) ?_
      refine R_iinc (pc' := 24) (L' := [(3, .int (l3 + (nI 1))), (2, .int v3), (0, va_rf (some this)), (1, va_rf l1)]) (i := 3) (j := 3) (x := l3) (x2 := (l3 + (nI 1))) dX8_earned_21 rfl rfl rfl (by decide) rfl ?_
      refine R_goto (tgt := 4) dX8_earned_24 (by decide) ?_
      exact R_sub [2, 3, 1, 0] rfl (ih l1 v3 (l3 + (nI 1)) M)
def f_X8_earned (this : Nat) (l1 : Option Nat) (M : Mem) : Option (Int32 × Mem) :=
  f_X8_earned_L4 this FU l1 (nI 0) (nI 0) M
set_option maxHeartbeats 2000000 in
set_option maxRecDepth 20000 in
theorem rm_X8_earned (this : Nat) (l1 : Option Nat) (M : Mem) : RFm yX8_earned cX8_earned 4 (some .int) 2 eI (f_X8_earned this l1 M) [va_rf (some this), va_rf l1] M := by
  refine RFm_of (L := [(0, va_rf (some this)), (1, va_rf l1)]) (by decide) (by simp only [lva_R, lva_I, lva_L, lva_C, lva_0]) (Nat.le_trans (c_R (c_R c_0)) (by decide)) ?_
  rw [f_X8_earned]
  refine R_iconst (pc' := 1) (x := (nI 0)) dX8_earned_0 rfl (by decide) ?_
  refine R_istore_n (pc' := 2) (L' := [(2, .int (nI 0)), (0, va_rf (some this)), (1, va_rf l1)]) (i := 2) (x := (nI 0)) dX8_earned_1 rfl rfl (by decide) (by simp [stL, rf_cat, cat_I, cat_L, cat_C]) ?_
  refine R_iconst (pc' := 3) (x := (nI 0)) dX8_earned_2 rfl (by decide) ?_
  refine R_istore_n (pc' := 4) (L' := [(3, .int (nI 0)), (2, .int (nI 0)), (0, va_rf (some this)), (1, va_rf l1)]) (i := 3) (x := (nI 0)) dX8_earned_3 rfl rfl (by decide) rfl ?_
  exact R_sub [2, 3, 1, 0] rfl (rf_X8_earned_L4 this FU l1 (nI 0) (nI 0) M)
/-! BarPilot$Told.weight(ILBarPilot$Scene;)I -/
def f_X8_weight_J20 (this : Nat) (s0 : Int32) (M : Mem) : Option (Int32 × Mem) :=
  some (s0, M)
set_option maxHeartbeats 2000000 in
set_option maxRecDepth 20000 in
theorem rf_X8_weight_J20 (this : Nat) (s0 : Int32) (M : Mem) : RF yX8_weight cX8_weight 3 (some .int) 1 eI (f_X8_weight_J20 this s0 M) 20 [] [.int s0] M := by
  rw [f_X8_weight_J20]
  exact R_iret dX8_weight_20
def f_X8_weight (this : Nat) (l1 : Int32) (l2 : Option Nat) (M : Mem) : Option (Int32 × Mem) :=
  (gR M 6 3 l2).bind fun passed1 =>
  (aI M 0 passed1 l1).bind fun e2 =>
  (if e2 = (-1 : Int32) then
    (f_X8_weight_J20 this (nI 0) M)
  else
    ((gR M 8 6 (some this)).bind fun cargo3 =>
    (aI M 0 cargo3 l1).bind fun e4 =>
    f_X8_weight_J20 this e4 M))
set_option maxHeartbeats 2000000 in
set_option maxRecDepth 20000 in
theorem rm_X8_weight (this : Nat) (l1 : Int32) (l2 : Option Nat) (M : Mem) : RFm yX8_weight cX8_weight 3 (some .int) 1 eI (f_X8_weight this l1 l2 M) [va_rf (some this), .int l1, va_rf l2] M := by
  refine RFm_of (L := [(0, va_rf (some this)), (1, .int l1), (2, va_rf l2)]) (by decide) (by simp only [lva_R, lva_I, lva_L, lva_C, lva_0]) (Nat.le_trans (c_R (c_I (c_R c_0))) (by decide)) ?_
  rw [f_X8_weight]
  refine R_aloadq_n (pc' := 1) (i := 2) (j := 2) (q := l2) dX8_weight_0 rfl rfl rfl ?_
  refine R_getR (pc' := 4) (q := l2) fl_X8_80 rfl dX8_weight_1 rfl (fun passed1 => ?_)
  refine R_iload_n (pc' := 5) (i := 1) (j := 1) (x := l1) dX8_weight_4 rfl rfl rfl ?_
  refine R_iald (pc' := 6) (q := passed1) (i := l1) dX8_weight_5 rfl (fun e2 => ?_)
  refine R_iconst (pc' := 7) (x := (-1 : Int32)) dX8_weight_6 rfl (by decide) ?_
  refine R_icmp_ne (pc' := 10) (tgt := 14) (a := e2) (b := (-1 : Int32)) dX8_weight_7 (by decide) rfl ?_ ?_
  · refine R_aloadq_n (pc' := 15) (i := 0) (j := 0) (q := (some this)) dX8_weight_14 rfl rfl rfl ?_
    refine R_getR (pc' := 18) (q := (some this)) fl_X8_15 rfl dX8_weight_15 rfl (fun cargo3 => ?_)
    refine R_iload_n (pc' := 19) (i := 1) (j := 1) (x := l1) dX8_weight_18 rfl rfl rfl ?_
    refine R_iald (pc' := 20) (q := cargo3) (i := l1) dX8_weight_19 rfl (fun e4 => ?_)
    exact R_sub [] rfl (rf_X8_weight_J20 this e4 M)
  · refine R_iconst (pc' := 11) (x := (nI 0)) dX8_weight_10 rfl (by decide) ?_
    refine R_goto (tgt := 20) dX8_weight_11 (by decide) ?_
    exact R_sub [] rfl (rf_X8_weight_J20 this (nI 0) M)
/-! BarPilot$Told.partOf(IILBarPilot$Scene;)I -/
def f_X8_partOf_J150 (this : Nat) (s0 : Int32) (s1 : Int32) (M : Mem) : Option (Int32 × Mem) :=
  some ((s1 + s0), M)
set_option maxHeartbeats 2000000 in
set_option maxRecDepth 20000 in
theorem rf_X8_partOf_J150 (this : Nat) (s0 : Int32) (s1 : Int32) (M : Mem) : RF yX8_partOf cX8_partOf 10 (some .int) 2 eI (f_X8_partOf_J150 this s0 s1 M) 150 [] [.int s0, .int s1] M := by
  rw [f_X8_partOf_J150]
  refine R_iadd (pc' := 151) (a := s1) (b := s0) dX8_partOf_150 rfl ?_
  exact R_iret dX8_partOf_151
def f_X8_partOf_J121 (k62 : Int32 → Int32 → Option Nat → Int32 → Int32 → Int32 → Int32 → Int32 → Mem → Option (Int32 × Mem)) (this : Nat) (l1 : Int32) (l2 : Int32) (l3 : Option Nat) (l4 : Int32) (l5 : Int32) (l6 : Int32) (l7 : Int32) (l8 : Int32) (M : Mem) : Option (Int32 × Mem) :=
  k62 l1 l2 l3 l4 l5 l6 l7 (l8 + (nI 1)) M
set_option maxHeartbeats 2000000 in
set_option maxRecDepth 20000 in
theorem rf_X8_partOf_J121 (this : Nat) (k62 : Int32 → Int32 → Option Nat → Int32 → Int32 → Int32 → Int32 → Int32 → Mem → Option (Int32 × Mem)) (hk62 : ∀ (l1 : Int32) (l2 : Int32) (l3 : Option Nat) (l4 : Int32) (l5 : Int32) (l6 : Int32) (l7 : Int32) (l8 : Int32) (M : Mem), RF yX8_partOf cX8_partOf 10 (some .int) 2 eI (k62 l1 l2 l3 l4 l5 l6 l7 l8 M) 62 [(0, va_rf (some this)), (1, .int l1), (2, .int l2), (3, va_rf l3), (4, .int l4), (5, .int l5), (6, .int l6), (7, .int l7), (8, .int l8)] [] M) (l1 : Int32) (l2 : Int32) (l3 : Option Nat) (l4 : Int32) (l5 : Int32) (l6 : Int32) (l7 : Int32) (l8 : Int32) (M : Mem) : RF yX8_partOf cX8_partOf 10 (some .int) 2 eI (f_X8_partOf_J121 k62 this l1 l2 l3 l4 l5 l6 l7 l8 M) 121 [(0, va_rf (some this)), (1, .int l1), (2, .int l2), (3, va_rf l3), (4, .int l4), (5, .int l5), (6, .int l6), (7, .int l7), (8, .int l8)] [] M := by
  rw [f_X8_partOf_J121]
  refine R_iinc (pc' := 124) (L' := [(8, .int (l8 + (nI 1))), (0, va_rf (some this)), (1, .int l1), (2, .int l2), (3, va_rf l3), (4, .int l4), (5, .int l5), (6, .int l6), (7, .int l7)]) (i := 8) (j := 8) (x := l8) (x2 := (l8 + (nI 1))) dX8_partOf_121 rfl rfl rfl (by decide) rfl ?_
  refine R_goto (tgt := 62) dX8_partOf_124 (by decide) ?_
  exact R_sub [1, 2, 3, 4, 5, 6, 7, 8, 0] rfl (hk62 l1 l2 l3 l4 l5 l6 l7 (l8 + (nI 1)) M)
def f_X8_partOf_J118 (k62 : Int32 → Int32 → Option Nat → Int32 → Int32 → Int32 → Int32 → Int32 → Mem → Option (Int32 × Mem)) (this : Nat) (l1 : Int32) (l2 : Int32) (l3 : Option Nat) (l4 : Int32) (l5 : Int32) (l6 : Int32) (l7 : Int32) (l8 : Int32) (M : Mem) : Option (Int32 × Mem) :=
  f_X8_partOf_J121 k62 this l1 l2 l3 l4 l5 (l6 + (nI 1)) l7 l8 M
set_option maxHeartbeats 2000000 in
set_option maxRecDepth 20000 in
theorem rf_X8_partOf_J118 (this : Nat) (k62 : Int32 → Int32 → Option Nat → Int32 → Int32 → Int32 → Int32 → Int32 → Mem → Option (Int32 × Mem)) (hk62 : ∀ (l1 : Int32) (l2 : Int32) (l3 : Option Nat) (l4 : Int32) (l5 : Int32) (l6 : Int32) (l7 : Int32) (l8 : Int32) (M : Mem), RF yX8_partOf cX8_partOf 10 (some .int) 2 eI (k62 l1 l2 l3 l4 l5 l6 l7 l8 M) 62 [(0, va_rf (some this)), (1, .int l1), (2, .int l2), (3, va_rf l3), (4, .int l4), (5, .int l5), (6, .int l6), (7, .int l7), (8, .int l8)] [] M) (l1 : Int32) (l2 : Int32) (l3 : Option Nat) (l4 : Int32) (l5 : Int32) (l6 : Int32) (l7 : Int32) (l8 : Int32) (M : Mem) : RF yX8_partOf cX8_partOf 10 (some .int) 2 eI (f_X8_partOf_J118 k62 this l1 l2 l3 l4 l5 l6 l7 l8 M) 118 [(0, va_rf (some this)), (1, .int l1), (2, .int l2), (3, va_rf l3), (4, .int l4), (5, .int l5), (6, .int l6), (7, .int l7), (8, .int l8)] [] M := by
  rw [f_X8_partOf_J118]
  refine R_iinc (pc' := 121) (L' := [(6, .int (l6 + (nI 1))), (0, va_rf (some this)), (1, .int l1), (2, .int l2), (3, va_rf l3), (4, .int l4), (5, .int l5), (7, .int l7), (8, .int l8)]) (i := 6) (j := 6) (x := l6) (x2 := (l6 + (nI 1))) dX8_partOf_118 rfl rfl rfl (by decide) rfl ?_
  exact R_sub [1, 2, 3, 4, 5, 6, 0, 7, 8] rfl (rf_X8_partOf_J121 this k62 hk62 l1 l2 l3 l4 l5 (l6 + (nI 1)) l7 l8 M)
def f_X8_partOf_L62 (this : Nat) : Nat → Int32 → Int32 → Option Nat → Int32 → Int32 → Int32 → Int32 → Int32 → Mem → Option (Int32 × Mem)
  | 0, _, _, _, _, _, _, _, _, _ => none
  | n + 1, l1, l2, l3, l4, l5, l6, l7, l8, M =>
    (gI M 8 4 (some this)).bind fun ships1 =>
    (if ships1 ≤ l8 then
      ((oO M 8 (some this)).bind fun o3 => cl (f_X8_weight o3 l2 l3 M) fun r2 M =>
      if l4 = 0 then none else
      (if l5 ≤ l6 then
        (f_X8_partOf_J150 this (nI 0) ((l1 * r2) / l4) M)
      else
        (f_X8_partOf_J150 this (nI 1) ((l1 * r2) / l4) M)))
    else
      ((oO M 8 (some this)).bind fun o7 => cl (f_X8_weight o7 l8 l3 M) fun r4 M =>
      nm (l1 * r4) fun v5 =>
      if l4 = 0 then none else
      nm (l5 - (v5 / l4)) fun v6 =>
      if l4 = 0 then none else
      (if l7 < (v5 - v5 / l4 * l4) then
        (f_X8_partOf_J118 (f_X8_partOf_L62 this n) this l1 l2 l3 l4 v6 l6 l7 l8 M)
      else
        (if l4 = 0 then none else
        (if (v5 - v5 / l4 * l4) = l7 then
          ((if l2 ≤ l8 then
            (f_X8_partOf_J121 (f_X8_partOf_L62 this n) this l1 l2 l3 l4 v6 l6 l7 l8 M)
          else
            (f_X8_partOf_J118 (f_X8_partOf_L62 this n) this l1 l2 l3 l4 v6 l6 l7 l8 M)))
        else
          (f_X8_partOf_J121 (f_X8_partOf_L62 this n) this l1 l2 l3 l4 v6 l6 l7 l8 M))))))
set_option maxHeartbeats 2000000 in
set_option maxRecDepth 20000 in
theorem rf_X8_partOf_L62 (this : Nat) : ∀ (n : Nat) (l1 : Int32) (l2 : Int32) (l3 : Option Nat) (l4 : Int32) (l5 : Int32) (l6 : Int32) (l7 : Int32) (l8 : Int32) (M : Mem), RF yX8_partOf cX8_partOf 10 (some .int) 2 eI (f_X8_partOf_L62 this n l1 l2 l3 l4 l5 l6 l7 l8 M) 62 [(0, va_rf (some this)), (1, .int l1), (2, .int l2), (3, va_rf l3), (4, .int l4), (5, .int l5), (6, .int l6), (7, .int l7), (8, .int l8)] [] M := by
  intro n
  induction n with
  | zero => intro _ _ _ _ _ _ _ _ _; exact RF.none
  | succ n ih =>
    intro l1 l2 l3 l4 l5 l6 l7 l8 M
    rw [f_X8_partOf_L62]
    refine R_iload (pc' := 64) (i := 8) (j := 8) (x := l8) dX8_partOf_62 rfl rfl ?_
    refine R_aloadq_n (pc' := 65) (i := 0) (j := 0) (q := (some this)) dX8_partOf_64 rfl rfl rfl ?_
    refine R_getI (pc' := 68) (q := (some this)) fl_X8_41 rfl dX8_partOf_65 rfl (fun ships1 => ?_)
    refine R_icmp_ge (pc' := 71) (tgt := 127) (a := l8) (b := ships1) dX8_partOf_68 (by decide) rfl ?_ ?_
    · refine R_iload_n (pc' := 128) (i := 1) (j := 1) (x := l1) dX8_partOf_127 rfl rfl rfl ?_
      refine R_aloadq_n (pc' := 129) (i := 0) (j := 0) (q := (some this)) dX8_partOf_128 rfl rfl rfl ?_
      refine R_iload_n (pc' := 130) (i := 2) (j := 2) (x := l2) dX8_partOf_129 rfl rfl rfl ?_
      refine R_aloadq_n (pc' := 131) (i := 3) (j := 3) (q := l3) dX8_partOf_130 rfl rfl rfl ?_
      refine R_callV_I (pc' := 134) (q := (some this)) (As := [.int l2, va_rf l3]) (fun o3 => rm_X8_weight o3 l2 l3 M) mf_X8_weight lk_X8_97 im_X8_weight se_X8_weight rfl rfl rfl dX8_partOf_131 rfl (by decide) (Nat.le_trans (c_I c_0) (by decide)) (fun r2 M => ?_)
      refine R_imul (pc' := 135) (a := l1) (b := r2) dX8_partOf_134 rfl ?_
      refine R_iload (pc' := 137) (i := 4) (j := 4) (x := l4) dX8_partOf_135 rfl rfl ?_
      refine R_idiv (pc' := 138) (a := (l1 * r2)) (b := l4) dX8_partOf_137 rfl ?_
      refine R_iload (pc' := 140) (i := 6) (j := 6) (x := l6) dX8_partOf_138 rfl rfl ?_
      refine R_iload (pc' := 142) (i := 5) (j := 5) (x := l5) dX8_partOf_140 rfl rfl ?_
      refine R_icmp_ge (pc' := 145) (tgt := 149) (a := l6) (b := l5) dX8_partOf_142 (by decide) rfl ?_ ?_
      · refine R_iconst (pc' := 150) (x := (nI 0)) dX8_partOf_149 rfl (by decide) ?_
        exact R_sub [] rfl (rf_X8_partOf_J150 this (nI 0) ((l1 * r2) / l4) M)
      · refine R_iconst (pc' := 146) (x := (nI 1)) dX8_partOf_145 rfl (by decide) ?_
        refine R_goto (tgt := 150) dX8_partOf_146 (by decide) ?_
        exact R_sub [] rfl (rf_X8_partOf_J150 this (nI 1) ((l1 * r2) / l4) M)
    · refine R_iload_n (pc' := 72) (i := 1) (j := 1) (x := l1) dX8_partOf_71 rfl rfl rfl ?_
      refine R_aloadq_n (pc' := 73) (i := 0) (j := 0) (q := (some this)) dX8_partOf_72 rfl rfl rfl ?_
      refine R_iload (pc' := 75) (i := 8) (j := 8) (x := l8) dX8_partOf_73 rfl rfl ?_
      refine R_aloadq_n (pc' := 76) (i := 3) (j := 3) (q := l3) dX8_partOf_75 rfl rfl rfl ?_
      refine R_callV_I (pc' := 79) (q := (some this)) (As := [.int l8, va_rf l3]) (fun o7 => rm_X8_weight o7 l8 l3 M) mf_X8_weight lk_X8_97 im_X8_weight se_X8_weight rfl rfl rfl dX8_partOf_76 rfl (by decide) (Nat.le_trans (c_I c_0) (by decide)) (fun r4 M => ?_)
      refine R_imul (pc' := 80) (a := l1) (b := r4) dX8_partOf_79 rfl ?_
      refine R_nmI (fun v5 => ?_)
      refine R_istore (pc' := 82) (L' := [(9, .int v5), (0, va_rf (some this)), (1, .int l1), (2, .int l2), (3, va_rf l3), (4, .int l4), (5, .int l5), (6, .int l6), (7, .int l7), (8, .int l8)]) (i := 9) (x := v5) dX8_partOf_80 rfl (by decide) rfl ?_
      refine R_iload (pc' := 84) (i := 5) (j := 6) (x := l5) dX8_partOf_82 rfl rfl ?_
      refine R_iload (pc' := 86) (i := 9) (j := 0) (x := v5) dX8_partOf_84 rfl rfl ?_
      refine R_iload (pc' := 88) (i := 4) (j := 5) (x := l4) dX8_partOf_86 rfl rfl ?_
      refine R_idiv (pc' := 89) (a := v5) (b := l4) dX8_partOf_88 rfl ?_
      refine R_isub (pc' := 90) (a := l5) (b := (v5 / l4)) dX8_partOf_89 rfl ?_
      refine R_nmI (fun v6 => ?_)
      refine R_istore (pc' := 92) (L' := [(5, .int v6), (9, .int v5), (0, va_rf (some this)), (1, .int l1), (2, .int l2), (3, va_rf l3), (4, .int l4), (6, .int l6), (7, .int l7), (8, .int l8)]) (i := 5) (x := v6) dX8_partOf_90 rfl (by decide) rfl ?_
      refine R_iload (pc' := 94) (i := 9) (j := 1) (x := v5) dX8_partOf_92 rfl rfl ?_
      refine R_iload (pc' := 96) (i := 4) (j := 6) (x := l4) dX8_partOf_94 rfl rfl ?_
      refine R_irem (pc' := 97) (a := v5) (b := l4) dX8_partOf_96 rfl ?_
      refine R_iload (pc' := 99) (i := 7) (j := 8) (x := l7) dX8_partOf_97 rfl rfl ?_
      refine R_icmp_gt (pc' := 102) (tgt := 118) (a := (v5 - v5 / l4 * l4)) (b := l7) dX8_partOf_99 (by decide) rfl ?_ ?_
      · exact R_sub [2, 3, 4, 5, 6, 0, 7, 8, 9] rfl (rf_X8_partOf_J118 this (f_X8_partOf_L62 this n) ih l1 l2 l3 l4 v6 l6 l7 l8 M)
      · refine R_iload (pc' := 104) (i := 9) (j := 1) (x := v5) dX8_partOf_102 rfl rfl ?_
        refine R_iload (pc' := 106) (i := 4) (j := 6) (x := l4) dX8_partOf_104 rfl rfl ?_
        refine R_irem (pc' := 107) (a := v5) (b := l4) dX8_partOf_106 rfl ?_
        refine R_iload (pc' := 109) (i := 7) (j := 8) (x := l7) dX8_partOf_107 rfl rfl ?_
        refine R_icmp_ne (pc' := 112) (tgt := 121) (a := (v5 - v5 / l4 * l4)) (b := l7) dX8_partOf_109 (by decide) rfl ?_ ?_
        · exact R_sub [2, 3, 4, 5, 6, 0, 7, 8, 9] rfl (rf_X8_partOf_J121 this (f_X8_partOf_L62 this n) ih l1 l2 l3 l4 v6 l6 l7 l8 M)
        · refine R_iload (pc' := 114) (i := 8) (j := 9) (x := l8) dX8_partOf_112 rfl rfl ?_
          refine R_iload_n (pc' := 115) (i := 2) (j := 4) (x := l2) dX8_partOf_114 rfl rfl rfl ?_
          refine R_icmp_ge (pc' := 118) (tgt := 121) (a := l8) (b := l2) dX8_partOf_115 (by decide) rfl ?_ ?_
          · exact R_sub [2, 3, 4, 5, 6, 0, 7, 8, 9] rfl (rf_X8_partOf_J121 this (f_X8_partOf_L62 this n) ih l1 l2 l3 l4 v6 l6 l7 l8 M)
          · exact R_sub [2, 3, 4, 5, 6, 0, 7, 8, 9] rfl (rf_X8_partOf_J118 this (f_X8_partOf_L62 this n) ih l1 l2 l3 l4 v6 l6 l7 l8 M)
def f_X8_partOf_L6 (this : Nat) : Nat → Int32 → Int32 → Option Nat → Int32 → Int32 → Mem → Option (Int32 × Mem)
  | 0, _, _, _, _, _, _ => none
  | n + 1, l1, l2, l3, l4, l5, M =>
    (gI M 8 4 (some this)).bind fun ships1 =>
    (if ships1 ≤ l5 then
      ((if l4 = 0 then
        (some ((nI 0), M))
      else
        ((oO M 8 (some this)).bind fun o4 => cl (f_X8_weight o4 l2 l3 M) fun r2 M =>
        if l4 = 0 then none else
        nm ((l1 * r2) - (l1 * r2) / l4 * l4) fun v3 =>
        f_X8_partOf_L62 this FU l1 l2 l3 l4 l1 (nI 0) v3 (nI 0) M)))
    else
      ((oO M 8 (some this)).bind fun o7 => cl (f_X8_weight o7 l5 l3 M) fun r5 M =>
      nm (l4 + r5) fun v6 =>
      (f_X8_partOf_L6 this n) l1 l2 l3 v6 (l5 + (nI 1)) M))
set_option maxHeartbeats 2000000 in
set_option maxRecDepth 20000 in
theorem rf_X8_partOf_L6 (this : Nat) : ∀ (n : Nat) (l1 : Int32) (l2 : Int32) (l3 : Option Nat) (l4 : Int32) (l5 : Int32) (M : Mem), RF yX8_partOf cX8_partOf 10 (some .int) 2 eI (f_X8_partOf_L6 this n l1 l2 l3 l4 l5 M) 6 [(0, va_rf (some this)), (1, .int l1), (2, .int l2), (3, va_rf l3), (4, .int l4), (5, .int l5)] [] M := by
  intro n
  induction n with
  | zero => intro _ _ _ _ _ _; exact RF.none
  | succ n ih =>
    intro l1 l2 l3 l4 l5 M
    rw [f_X8_partOf_L6]
    refine R_iload (pc' := 8) (i := 5) (j := 5) (x := l5) dX8_partOf_6 rfl rfl ?_
    refine R_aloadq_n (pc' := 9) (i := 0) (j := 0) (q := (some this)) dX8_partOf_8 rfl rfl rfl ?_
    refine R_getI (pc' := 12) (q := (some this)) fl_X8_41 rfl dX8_partOf_9 rfl (fun ships1 => ?_)
    refine R_icmp_ge (pc' := 15) (tgt := 33) (a := l5) (b := ships1) dX8_partOf_12 (by decide) rfl ?_ ?_
    · refine R_iload (pc' := 35) (i := 4) (j := 4) (x := l4) dX8_partOf_33 rfl rfl ?_
      refine R_if_ne (pc' := 38) (tgt := 40) (a := l4) dX8_partOf_35 (by decide) rfl ?_ ?_
      · refine R_iload_n (pc' := 41) (i := 1) (j := 1) (x := l1) dX8_partOf_40 rfl rfl rfl ?_
        refine R_istore (pc' := 43) (L' := [(5, .int l1), (0, va_rf (some this)), (1, .int l1), (2, .int l2), (3, va_rf l3), (4, .int l4)]) (i := 5) (x := l1) dX8_partOf_41 rfl (by decide) rfl ?_
        refine R_iconst (pc' := 44) (x := (nI 0)) dX8_partOf_43 rfl (by decide) ?_
        refine R_istore (pc' := 46) (L' := [(6, .int (nI 0)), (5, .int l1), (0, va_rf (some this)), (1, .int l1), (2, .int l2), (3, va_rf l3), (4, .int l4)]) (i := 6) (x := (nI 0)) dX8_partOf_44 rfl (by decide) rfl ?_
        refine R_iload_n (pc' := 47) (i := 1) (j := 3) (x := l1) dX8_partOf_46 rfl rfl rfl ?_
        refine R_aloadq_n (pc' := 48) (i := 0) (j := 2) (q := (some this)) dX8_partOf_47 rfl rfl rfl ?_
        refine R_iload_n (pc' := 49) (i := 2) (j := 4) (x := l2) dX8_partOf_48 rfl rfl rfl ?_
        refine R_aloadq_n (pc' := 50) (i := 3) (j := 5) (q := l3) dX8_partOf_49 rfl rfl rfl ?_
        refine R_callV_I (pc' := 53) (q := (some this)) (As := [.int l2, va_rf l3]) (fun o4 => rm_X8_weight o4 l2 l3 M) mf_X8_weight lk_X8_97 im_X8_weight se_X8_weight rfl rfl rfl dX8_partOf_50 rfl (by decide) (Nat.le_trans (c_I c_0) (by decide)) (fun r2 M => ?_)
        refine R_imul (pc' := 54) (a := l1) (b := r2) dX8_partOf_53 rfl ?_
        refine R_iload (pc' := 56) (i := 4) (j := 6) (x := l4) dX8_partOf_54 rfl rfl ?_
        refine R_irem (pc' := 57) (a := (l1 * r2)) (b := l4) dX8_partOf_56 rfl ?_
        refine R_nmI (fun v3 => ?_)
        refine R_istore (pc' := 59) (L' := [(7, .int v3), (6, .int (nI 0)), (5, .int l1), (0, va_rf (some this)), (1, .int l1), (2, .int l2), (3, va_rf l3), (4, .int l4)]) (i := 7) (x := v3) dX8_partOf_57 rfl (by decide) rfl ?_
        refine R_iconst (pc' := 60) (x := (nI 0)) dX8_partOf_59 rfl (by decide) ?_
        refine R_istore (pc' := 62) (L' := [(8, .int (nI 0)), (7, .int v3), (6, .int (nI 0)), (5, .int l1), (0, va_rf (some this)), (1, .int l1), (2, .int l2), (3, va_rf l3), (4, .int l4)]) (i := 8) (x := (nI 0)) dX8_partOf_60 rfl (by decide) rfl ?_
        exact R_sub [4, 5, 6, 7, 8, 3, 2, 1, 0] rfl (rf_X8_partOf_L62 this FU l1 l2 l3 l4 l1 (nI 0) v3 (nI 0) M)
      · refine R_iconst (pc' := 39) (x := (nI 0)) dX8_partOf_38 rfl (by decide) ?_
        exact R_iret dX8_partOf_39
    · refine R_iload (pc' := 17) (i := 4) (j := 4) (x := l4) dX8_partOf_15 rfl rfl ?_
      refine R_aloadq_n (pc' := 18) (i := 0) (j := 0) (q := (some this)) dX8_partOf_17 rfl rfl rfl ?_
      refine R_iload (pc' := 20) (i := 5) (j := 5) (x := l5) dX8_partOf_18 rfl rfl ?_
      refine R_aloadq_n (pc' := 21) (i := 3) (j := 3) (q := l3) dX8_partOf_20 rfl rfl rfl ?_
      refine R_callV_I (pc' := 24) (q := (some this)) (As := [.int l5, va_rf l3]) (fun o7 => rm_X8_weight o7 l5 l3 M) mf_X8_weight lk_X8_97 im_X8_weight se_X8_weight rfl rfl rfl dX8_partOf_21 rfl (by decide) (Nat.le_trans (c_I c_0) (by decide)) (fun r5 M => ?_)
      refine R_iadd (pc' := 25) (a := l4) (b := r5) dX8_partOf_24 rfl ?_
      refine R_nmI (fun v6 => ?_)
      refine R_istore (pc' := 27) (L' := [(4, .int v6), (0, va_rf (some this)), (1, .int l1), (2, .int l2), (3, va_rf l3), (5, .int l5)]) (i := 4) (x := v6) dX8_partOf_25 rfl (by decide) (by simp [stL, rf_cat, cat_I, cat_L, cat_C]) ?_
      refine R_iinc (pc' := 30) (L' := [(5, .int (l5 + (nI 1))), (4, .int v6), (0, va_rf (some this)), (1, .int l1), (2, .int l2), (3, va_rf l3)]) (i := 5) (j := 5) (x := l5) (x2 := (l5 + (nI 1))) dX8_partOf_27 rfl rfl rfl (by decide) rfl ?_
      refine R_goto (tgt := 6) dX8_partOf_30 (by decide) ?_
      exact R_sub [2, 3, 4, 5, 1, 0] rfl (ih l1 l2 l3 v6 (l5 + (nI 1)) M)
def f_X8_partOf (this : Nat) (l1 : Int32) (l2 : Int32) (l3 : Option Nat) (M : Mem) : Option (Int32 × Mem) :=
  f_X8_partOf_L6 this FU l1 l2 l3 (nI 0) (nI 0) M
set_option maxHeartbeats 2000000 in
set_option maxRecDepth 20000 in
theorem rm_X8_partOf (this : Nat) (l1 : Int32) (l2 : Int32) (l3 : Option Nat) (M : Mem) : RFm yX8_partOf cX8_partOf 10 (some .int) 2 eI (f_X8_partOf this l1 l2 l3 M) [va_rf (some this), .int l1, .int l2, va_rf l3] M := by
  refine RFm_of (L := [(0, va_rf (some this)), (1, .int l1), (2, .int l2), (3, va_rf l3)]) (by decide) (by simp only [lva_R, lva_I, lva_L, lva_C, lva_0]) (Nat.le_trans (c_R (c_I (c_I (c_R c_0)))) (by decide)) ?_
  rw [f_X8_partOf]
  refine R_iconst (pc' := 1) (x := (nI 0)) dX8_partOf_0 rfl (by decide) ?_
  refine R_istore (pc' := 3) (L' := [(4, .int (nI 0)), (0, va_rf (some this)), (1, .int l1), (2, .int l2), (3, va_rf l3)]) (i := 4) (x := (nI 0)) dX8_partOf_1 rfl (by decide) (by simp [stL, rf_cat, cat_I, cat_L, cat_C]) ?_
  refine R_iconst (pc' := 4) (x := (nI 0)) dX8_partOf_3 rfl (by decide) ?_
  refine R_istore (pc' := 6) (L' := [(5, .int (nI 0)), (4, .int (nI 0)), (0, va_rf (some this)), (1, .int l1), (2, .int l2), (3, va_rf l3)]) (i := 5) (x := (nI 0)) dX8_partOf_4 rfl (by decide) rfl ?_
  exact R_sub [2, 3, 4, 5, 1, 0] rfl (rf_X8_partOf_L6 this FU l1 l2 l3 (nI 0) (nI 0) M)
/-! BarPilot$BarReader.<init>(LBarPilot$Tape;)V -/
def f_X1_init (this : Nat) (l1 : Option Nat) (M : Mem) : Option (Unit × Mem) :=
  newO M 8 fun a1 M =>
  cl (f_X8_init a1 M) fun u2 M =>
  (pR M 1 0 (some this) (some a1)).bind fun M =>
  (pR M 1 1 (some this) l1).bind fun M =>
  some ((), M)
set_option maxHeartbeats 2000000 in
set_option maxRecDepth 20000 in
theorem rm_X1_init (this : Nat) (l1 : Option Nat) (M : Mem) : RFm yX1_init cX1_init 2 none 2 eV (f_X1_init this l1 M) [va_rf (some this), va_rf l1] M := by
  refine RFm_of (L := [(0, va_rf (some this)), (1, va_rf l1)]) (by decide) (by simp only [lva_R, lva_I, lva_L, lva_C, lva_0]) (Nat.le_trans (c_R (c_R c_0)) (by decide)) ?_
  rw [f_X1_init]
  refine R_aloadq_n (pc' := 1) (i := 0) (j := 0) (q := (some this)) dX1_init_0 rfl rfl rfl ?_
  refine R_objInit (pc' := 4) (a := this) lko_X1_3 ob_in ob_co dX1_init_1 rfl (by decide) (Nat.le_trans c_0 (by decide)) ?_
  refine R_aloadq_n (pc' := 5) (i := 0) (j := 0) (q := (some this)) dX1_init_4 rfl rfl rfl ?_
  refine R_new (pc' := 8) cl_X8 ck_X1_9 dX1_init_5 rfl (fun a1 M => ?_)
  refine R_dup (pc' := 9) dX1_init_8 rfl (rf_cat _) ?_
  refine R_callIN_V (pc' := 12) (a := a1) (As := []) (host := "BarPilot") (rm_X8_init a1 M) mf_X8_init (fun _ h => h.1.2.1) im_X8_init rfl rfl rfl dX1_init_9 rfl (by decide) (Nat.le_trans (c_R (c_R c_0)) (by decide)) (fun u2 M => ?_)
  refine R_putR (pc' := 15) (q := (some this)) (x := (some a1)) fl_X1_12 rfl (Or.inr ⟨rfl, rfl⟩) dX1_init_12 rfl (fun M => ?_)
  refine R_aloadq_n (pc' := 16) (i := 0) (j := 0) (q := (some this)) dX1_init_15 rfl rfl rfl ?_
  refine R_aloadq_n (pc' := 17) (i := 1) (j := 1) (q := l1) dX1_init_16 rfl rfl rfl ?_
  refine R_putR (pc' := 20) (q := (some this)) (x := l1) fl_X1_18 rfl (Or.inr ⟨rfl, rfl⟩) dX1_init_17 rfl (fun M => ?_)
  exact R_vret dX1_init_20
/-! BarPilot$BarReader.isTooMuch(JI)Z -/
def f_X1_isTooMuch_J75 (this : Nat) (s0 : Int32) (M : Mem) : Option (Int32 × Mem) :=
  ckZ s0 (some (s0, M))
set_option maxHeartbeats 2000000 in
set_option maxRecDepth 20000 in
theorem rf_X1_isTooMuch_J75 (this : Nat) (s0 : Int32) (M : Mem) : RF yX1_isTooMuch cX1_isTooMuch 4 (some .boolean) 1 eI (f_X1_isTooMuch_J75 this s0 M) 75 [] [.int s0] M := by
  rw [f_X1_isTooMuch_J75]
  exact R_bret dX1_isTooMuch_75
def f_X1_isTooMuch_J70 (this : Nat) (M : Mem) : Option (Int32 × Mem) :=
  f_X1_isTooMuch_J75 this (nI 1) M
set_option maxHeartbeats 2000000 in
set_option maxRecDepth 20000 in
theorem rf_X1_isTooMuch_J70 (this : Nat) (M : Mem) : RF yX1_isTooMuch cX1_isTooMuch 4 (some .boolean) 1 eI (f_X1_isTooMuch_J70 this M) 70 [] [] M := by
  rw [f_X1_isTooMuch_J70]
  refine R_iconst (pc' := 71) (x := (nI 1)) dX1_isTooMuch_70 rfl (by decide) ?_
  refine R_goto (tgt := 75) dX1_isTooMuch_71 (by decide) ?_
  exact R_sub [] rfl (rf_X1_isTooMuch_J75 this (nI 1) M)
def f_X1_isTooMuch_J74 (this : Nat) (M : Mem) : Option (Int32 × Mem) :=
  f_X1_isTooMuch_J75 this (nI 0) M
set_option maxHeartbeats 2000000 in
set_option maxRecDepth 20000 in
theorem rf_X1_isTooMuch_J74 (this : Nat) (M : Mem) : RF yX1_isTooMuch cX1_isTooMuch 4 (some .boolean) 1 eI (f_X1_isTooMuch_J74 this M) 74 [] [] M := by
  rw [f_X1_isTooMuch_J74]
  refine R_iconst (pc' := 75) (x := (nI 0)) dX1_isTooMuch_74 rfl (by decide) ?_
  exact R_sub [] rfl (rf_X1_isTooMuch_J75 this (nI 0) M)
def f_X1_isTooMuch_J51 (this : Nat) (l1 : Int64) (M : Mem) : Option (Int32 × Mem) :=
  (if (lg_cmp l1 (1936222576 : Int64)) = 0 then
    ((gR M 1 0 (some this)).bind fun told1 =>
    (gI M 8 4 told1).bind fun ships2 =>
    (if ships2 < (nI 5) then
      (f_X1_isTooMuch_J74 this M)
    else
      (f_X1_isTooMuch_J70 this M)))
  else
    (f_X1_isTooMuch_J74 this M))
set_option maxHeartbeats 2000000 in
set_option maxRecDepth 20000 in
theorem rf_X1_isTooMuch_J51 (this : Nat) (l1 : Int64) (M : Mem) : RF yX1_isTooMuch cX1_isTooMuch 4 (some .boolean) 1 eI (f_X1_isTooMuch_J51 this l1 M) 51 [(0, va_rf (some this)), (1, .long l1)] [] M := by
  rw [f_X1_isTooMuch_J51]
  refine R_lload_n (pc' := 52) (i := 1) (j := 1) (x := l1) dX1_isTooMuch_51 rfl rfl rfl ?_
  refine R_ldc2 (pc' := 55) (x := (1936222576 : Int64)) dX1_isTooMuch_52 rfl c2_X1_50 ?_
  refine R_lcmp (pc' := 56) (a := l1) (b := (1936222576 : Int64)) dX1_isTooMuch_55 rfl ?_
  refine R_if_ne (pc' := 59) (tgt := 74) (a := (lg_cmp l1 (1936222576 : Int64))) dX1_isTooMuch_56 (by decide) rfl ?_ ?_
  · exact R_sub [] rfl (rf_X1_isTooMuch_J74 this M)
  · refine R_aloadq_n (pc' := 60) (i := 0) (j := 0) (q := (some this)) dX1_isTooMuch_59 rfl rfl rfl ?_
    refine R_getR (pc' := 63) (q := (some this)) fl_X1_12 rfl dX1_isTooMuch_60 rfl (fun told1 => ?_)
    refine R_getI (pc' := 66) (q := told1) fl_X1_83 rfl dX1_isTooMuch_63 rfl (fun ships2 => ?_)
    refine R_iconst (pc' := 67) (x := (nI 5)) dX1_isTooMuch_66 rfl (by decide) ?_
    refine R_icmp_lt (pc' := 70) (tgt := 74) (a := ships2) (b := (nI 5)) dX1_isTooMuch_67 (by decide) rfl ?_ ?_
    · exact R_sub [] rfl (rf_X1_isTooMuch_J74 this M)
    · exact R_sub [] rfl (rf_X1_isTooMuch_J70 this M)
def f_X1_isTooMuch_J22 (this : Nat) (l1 : Int64) (l3 : Int32) (s0 : Int32) (s1 : Int32) (M : Mem) : Option (Int32 × Mem) :=
  (if s1 = s0 then
    ((if (nI 40) ≤ l3 then
      (f_X1_isTooMuch_J70 this M)
    else
      ((if (lg_cmp l1 (1785686885 : Int64)) = 0 then
        ((gR M 1 0 (some this)).bind fun told1 =>
        (gI M 8 3 told1).bind fun jokes2 =>
        (if (nI 8) ≤ jokes2 then
          (f_X1_isTooMuch_J70 this M)
        else
          (f_X1_isTooMuch_J51 this l1 M)))
      else
        (f_X1_isTooMuch_J51 this l1 M)))))
  else
    (f_X1_isTooMuch_J70 this M))
set_option maxHeartbeats 2000000 in
set_option maxRecDepth 20000 in
theorem rf_X1_isTooMuch_J22 (this : Nat) (l1 : Int64) (l3 : Int32) (s0 : Int32) (s1 : Int32) (M : Mem) : RF yX1_isTooMuch cX1_isTooMuch 4 (some .boolean) 1 eI (f_X1_isTooMuch_J22 this l1 l3 s0 s1 M) 22 [(0, va_rf (some this)), (1, .long l1), (3, .int l3)] [.int s0, .int s1] M := by
  rw [f_X1_isTooMuch_J22]
  refine R_icmp_ne (pc' := 25) (tgt := 70) (a := s1) (b := s0) dX1_isTooMuch_22 (by decide) rfl ?_ ?_
  · exact R_sub [] rfl (rf_X1_isTooMuch_J70 this M)
  · refine R_iload_n (pc' := 26) (i := 3) (j := 2) (x := l3) dX1_isTooMuch_25 rfl rfl rfl ?_
    refine R_bipush (pc' := 28) (x := (nI 40)) dX1_isTooMuch_26 rfl (by decide) ?_
    refine R_icmp_ge (pc' := 31) (tgt := 70) (a := l3) (b := (nI 40)) dX1_isTooMuch_28 (by decide) rfl ?_ ?_
    · exact R_sub [] rfl (rf_X1_isTooMuch_J70 this M)
    · refine R_lload_n (pc' := 32) (i := 1) (j := 1) (x := l1) dX1_isTooMuch_31 rfl rfl rfl ?_
      refine R_ldc2 (pc' := 35) (x := (1785686885 : Int64)) dX1_isTooMuch_32 rfl c2_X1_48 ?_
      refine R_lcmp (pc' := 36) (a := l1) (b := (1785686885 : Int64)) dX1_isTooMuch_35 rfl ?_
      refine R_if_ne (pc' := 39) (tgt := 51) (a := (lg_cmp l1 (1785686885 : Int64))) dX1_isTooMuch_36 (by decide) rfl ?_ ?_
      · exact R_sub [0, 1] rfl (rf_X1_isTooMuch_J51 this l1 M)
      · refine R_aloadq_n (pc' := 40) (i := 0) (j := 0) (q := (some this)) dX1_isTooMuch_39 rfl rfl rfl ?_
        refine R_getR (pc' := 43) (q := (some this)) fl_X1_12 rfl dX1_isTooMuch_40 rfl (fun told1 => ?_)
        refine R_getI (pc' := 46) (q := told1) fl_X1_80 rfl dX1_isTooMuch_43 rfl (fun jokes2 => ?_)
        refine R_bipush (pc' := 48) (x := (nI 8)) dX1_isTooMuch_46 rfl (by decide) ?_
        refine R_icmp_ge (pc' := 51) (tgt := 70) (a := jokes2) (b := (nI 8)) dX1_isTooMuch_48 (by decide) rfl ?_ ?_
        · exact R_sub [] rfl (rf_X1_isTooMuch_J70 this M)
        · exact R_sub [0, 1] rfl (rf_X1_isTooMuch_J51 this l1 M)
def f_X1_isTooMuch_J13 (this : Nat) (l1 : Int64) (l3 : Int32) (s0 : Int32) (M : Mem) : Option (Int32 × Mem) :=
  (if l3 = 0 then
    (f_X1_isTooMuch_J22 this l1 l3 (nI 1) s0 M)
  else
    (f_X1_isTooMuch_J22 this l1 l3 (nI 0) s0 M))
set_option maxHeartbeats 2000000 in
set_option maxRecDepth 20000 in
theorem rf_X1_isTooMuch_J13 (this : Nat) (l1 : Int64) (l3 : Int32) (s0 : Int32) (M : Mem) : RF yX1_isTooMuch cX1_isTooMuch 4 (some .boolean) 1 eI (f_X1_isTooMuch_J13 this l1 l3 s0 M) 13 [(0, va_rf (some this)), (1, .long l1), (3, .int l3)] [.int s0] M := by
  rw [f_X1_isTooMuch_J13]
  refine R_iload_n (pc' := 14) (i := 3) (j := 2) (x := l3) dX1_isTooMuch_13 rfl rfl rfl ?_
  refine R_if_ne (pc' := 17) (tgt := 21) (a := l3) dX1_isTooMuch_14 (by decide) rfl ?_ ?_
  · refine R_iconst (pc' := 22) (x := (nI 0)) dX1_isTooMuch_21 rfl (by decide) ?_
    exact R_sub [0, 1, 2] rfl (rf_X1_isTooMuch_J22 this l1 l3 (nI 0) s0 M)
  · refine R_iconst (pc' := 18) (x := (nI 1)) dX1_isTooMuch_17 rfl (by decide) ?_
    refine R_goto (tgt := 22) dX1_isTooMuch_18 (by decide) ?_
    exact R_sub [0, 1, 2] rfl (rf_X1_isTooMuch_J22 this l1 l3 (nI 1) s0 M)
def f_X1_isTooMuch (this : Nat) (l1 : Int64) (l3 : Int32) (M : Mem) : Option (Int32 × Mem) :=
  (if (lg_cmp l1 (6447474 : Int64)) = 0 then
    (f_X1_isTooMuch_J13 this l1 l3 (nI 1) M)
  else
    (f_X1_isTooMuch_J13 this l1 l3 (nI 0) M))
set_option maxHeartbeats 2000000 in
set_option maxRecDepth 20000 in
theorem rm_X1_isTooMuch (this : Nat) (l1 : Int64) (l3 : Int32) (M : Mem) : RFm yX1_isTooMuch cX1_isTooMuch 4 (some .boolean) 1 eI (f_X1_isTooMuch this l1 l3 M) [va_rf (some this), .long l1, .int l3] M := by
  refine RFm_of (L := [(0, va_rf (some this)), (1, .long l1), (3, .int l3)]) (by decide) rfl (Nat.le_trans (c_R (c_L (c_I c_0))) (by decide)) ?_
  rw [f_X1_isTooMuch]
  refine R_lload_n (pc' := 1) (i := 1) (j := 1) (x := l1) dX1_isTooMuch_0 rfl rfl rfl ?_
  refine R_ldc2 (pc' := 4) (x := (6447474 : Int64)) dX1_isTooMuch_1 rfl c2_X1_46 ?_
  refine R_lcmp (pc' := 5) (a := l1) (b := (6447474 : Int64)) dX1_isTooMuch_4 rfl ?_
  refine R_if_ne (pc' := 8) (tgt := 12) (a := (lg_cmp l1 (6447474 : Int64))) dX1_isTooMuch_5 (by decide) rfl ?_ ?_
  · refine R_iconst (pc' := 13) (x := (nI 0)) dX1_isTooMuch_12 rfl (by decide) ?_
    exact R_sub [0, 1, 2] rfl (rf_X1_isTooMuch_J13 this l1 l3 (nI 0) M)
  · refine R_iconst (pc' := 9) (x := (nI 1)) dX1_isTooMuch_8 rfl (by decide) ?_
    refine R_goto (tgt := 13) dX1_isTooMuch_9 (by decide) ?_
    exact R_sub [0, 1, 2] rfl (rf_X1_isTooMuch_J13 this l1 l3 (nI 1) M)
/-! BarPilot$BarReader.readBar()Z -/
def f_X1_readBar_J64 (this : Nat) (s0 : Int32) (M : Mem) : Option (Int32 × Mem) :=
  ckZ s0 (some (s0, M))
set_option maxHeartbeats 2000000 in
set_option maxRecDepth 20000 in
theorem rf_X1_readBar_J64 (this : Nat) (s0 : Int32) (M : Mem) : RF yX1_readBar cX1_readBar 1 (some .boolean) 3 eI (f_X1_readBar_J64 this s0 M) 64 [] [.int s0] M := by
  rw [f_X1_readBar_J64]
  exact R_bret dX1_readBar_64
def f_X1_readBar_J45 (this : Nat) (s0 : Int32) (s1 : Option Nat) (M : Mem) : Option (Int32 × Mem) :=
  (pI M 8 2 s1 s0).bind fun M =>
  (gR M 1 0 (some this)).bind fun told1 =>
  (gI M 8 2 told1).bind fun like2 =>
  (if like2 = (-1 : Int32) then
    (f_X1_readBar_J64 this (nI 0) M)
  else
    (f_X1_readBar_J64 this (nI 1) M))
set_option maxHeartbeats 2000000 in
set_option maxRecDepth 20000 in
theorem rf_X1_readBar_J45 (this : Nat) (s0 : Int32) (s1 : Option Nat) (M : Mem) : RF yX1_readBar cX1_readBar 1 (some .boolean) 3 eI (f_X1_readBar_J45 this s0 s1 M) 45 [(0, va_rf (some this))] [.int s0, va_rf s1] M := by
  rw [f_X1_readBar_J45]
  refine R_putI (pc' := 48) (q := s1) (x := s0) fl_X1_93 (Or.inl rfl) dX1_readBar_45 rfl (fun M => ?_)
  refine R_aloadq_n (pc' := 49) (i := 0) (j := 0) (q := (some this)) dX1_readBar_48 rfl rfl rfl ?_
  refine R_getR (pc' := 52) (q := (some this)) fl_X1_12 rfl dX1_readBar_49 rfl (fun told1 => ?_)
  refine R_getI (pc' := 55) (q := told1) fl_X1_93 rfl dX1_readBar_52 rfl (fun like2 => ?_)
  refine R_iconst (pc' := 56) (x := (-1 : Int32)) dX1_readBar_55 rfl (by decide) ?_
  refine R_icmp_eq (pc' := 59) (tgt := 63) (a := like2) (b := (-1 : Int32)) dX1_readBar_56 (by decide) rfl ?_ ?_
  · refine R_iconst (pc' := 64) (x := (nI 0)) dX1_readBar_63 rfl (by decide) ?_
    exact R_sub [] rfl (rf_X1_readBar_J64 this (nI 0) M)
  · refine R_iconst (pc' := 60) (x := (nI 1)) dX1_readBar_59 rfl (by decide) ?_
    refine R_goto (tgt := 64) dX1_readBar_60 (by decide) ?_
    exact R_sub [] rfl (rf_X1_readBar_J64 this (nI 1) M)
def f_X1_readBar (this : Nat) (M : Mem) : Option (Int32 × Mem) :=
  (gR M 1 0 (some this)).bind fun told1 =>
  (gR M 1 1 (some this)).bind fun tape2 =>
  (oO M 7 tape2).bind fun o10 => cl (f_X7_takeNumber o10 (nI 1) (nI 60) M) fun r3 M =>
  (pI M 8 1 told1 r3).bind fun M =>
  (gR M 1 0 (some this)).bind fun told4 =>
  (gR M 1 0 (some this)).bind fun told5 =>
  (gI M 8 1 told5).bind fun fades6 =>
  (if fades6 = (-1 : Int32) then
    (f_X1_readBar_J45 this (-1 : Int32) told4 M)
  else
    ((gR M 1 1 (some this)).bind fun tape7 =>
    (oO M 7 tape7).bind fun o9 => cl (f_X7_takeNumber o9 (nI 1) (nI 3) M) fun r8 M =>
    f_X1_readBar_J45 this r8 told4 M))
set_option maxHeartbeats 2000000 in
set_option maxRecDepth 20000 in
theorem rm_X1_readBar (this : Nat) (M : Mem) : RFm yX1_readBar cX1_readBar 1 (some .boolean) 3 eI (f_X1_readBar this M) [va_rf (some this)] M := by
  refine RFm_of (L := [(0, va_rf (some this))]) (by decide) rfl (Nat.le_trans (c_R c_0) (by decide)) ?_
  rw [f_X1_readBar]
  refine R_aloadq_n (pc' := 1) (i := 0) (j := 0) (q := (some this)) dX1_readBar_0 rfl rfl rfl ?_
  refine R_getR (pc' := 4) (q := (some this)) fl_X1_12 rfl dX1_readBar_1 rfl (fun told1 => ?_)
  refine R_aloadq_n (pc' := 5) (i := 0) (j := 0) (q := (some this)) dX1_readBar_4 rfl rfl rfl ?_
  refine R_getR (pc' := 8) (q := (some this)) fl_X1_18 rfl dX1_readBar_5 rfl (fun tape2 => ?_)
  refine R_iconst (pc' := 9) (x := (nI 1)) dX1_readBar_8 rfl (by decide) ?_
  refine R_bipush (pc' := 11) (x := (nI 60)) dX1_readBar_9 rfl (by decide) ?_
  refine R_callV_I (pc' := 14) (q := tape2) (As := [.int (nI 1), .int (nI 60)]) (fun o10 => rm_X7_takeNumber o10 (nI 1) (nI 60) M) mf_X7_takeNumber lk_X1_86 im_X7_takeNumber se_X7_takeNumber rfl rfl rfl dX1_readBar_11 rfl (by decide) (Nat.le_trans (c_R c_0) (by decide)) (fun r3 M => ?_)
  refine R_putI (pc' := 17) (q := told1) (x := r3) fl_X1_90 (Or.inl rfl) dX1_readBar_14 rfl (fun M => ?_)
  refine R_aloadq_n (pc' := 18) (i := 0) (j := 0) (q := (some this)) dX1_readBar_17 rfl rfl rfl ?_
  refine R_getR (pc' := 21) (q := (some this)) fl_X1_12 rfl dX1_readBar_18 rfl (fun told4 => ?_)
  refine R_aloadq_n (pc' := 22) (i := 0) (j := 0) (q := (some this)) dX1_readBar_21 rfl rfl rfl ?_
  refine R_getR (pc' := 25) (q := (some this)) fl_X1_12 rfl dX1_readBar_22 rfl (fun told5 => ?_)
  refine R_getI (pc' := 28) (q := told5) fl_X1_90 rfl dX1_readBar_25 rfl (fun fades6 => ?_)
  refine R_iconst (pc' := 29) (x := (-1 : Int32)) dX1_readBar_28 rfl (by decide) ?_
  refine R_icmp_ne (pc' := 32) (tgt := 36) (a := fades6) (b := (-1 : Int32)) dX1_readBar_29 (by decide) rfl ?_ ?_
  · refine R_aloadq_n (pc' := 37) (i := 0) (j := 0) (q := (some this)) dX1_readBar_36 rfl rfl rfl ?_
    refine R_getR (pc' := 40) (q := (some this)) fl_X1_18 rfl dX1_readBar_37 rfl (fun tape7 => ?_)
    refine R_iconst (pc' := 41) (x := (nI 1)) dX1_readBar_40 rfl (by decide) ?_
    refine R_iconst (pc' := 42) (x := (nI 3)) dX1_readBar_41 rfl (by decide) ?_
    refine R_callV_I (pc' := 45) (q := tape7) (As := [.int (nI 1), .int (nI 3)]) (fun o9 => rm_X7_takeNumber o9 (nI 1) (nI 3) M) mf_X7_takeNumber lk_X1_86 im_X7_takeNumber se_X7_takeNumber rfl rfl rfl dX1_readBar_42 rfl (by decide) (Nat.le_trans (c_R c_0) (by decide)) (fun r8 M => ?_)
    exact R_sub [0] rfl (rf_X1_readBar_J45 this r8 told4 M)
  · refine R_iconst (pc' := 33) (x := (-1 : Int32)) dX1_readBar_32 rfl (by decide) ?_
    refine R_goto (tgt := 45) dX1_readBar_33 (by decide) ?_
    exact R_sub [0] rfl (rf_X1_readBar_J45 this (-1 : Int32) told4 M)
/-! BarPilot$BarReader.readJoke()Z -/
def f_X1_readJoke_J50 (this : Nat) (l1 : Int32) (l2 : Int32) (s0 : Int32) (M : Mem) : Option (Int32 × Mem) :=
  (if s0 = (-1 : Int32) then
    (ckZ (nI 0) (some ((nI 0), M)))
  else
    ((gR M 1 0 (some this)).bind fun told1 =>
    (oO M 8 told1).bind fun o3 => cl (f_X8_addJoke o3 l1 l2 s0 M) fun u2 M =>
    ckZ (nI 1) (some ((nI 1), M))))
set_option maxHeartbeats 2000000 in
set_option maxRecDepth 20000 in
theorem rf_X1_readJoke_J50 (this : Nat) (l1 : Int32) (l2 : Int32) (s0 : Int32) (M : Mem) : RF yX1_readJoke cX1_readJoke 4 (some .boolean) 4 eI (f_X1_readJoke_J50 this l1 l2 s0 M) 50 [(0, va_rf (some this)), (1, .int l1), (2, .int l2)] [.int s0] M := by
  rw [f_X1_readJoke_J50]
  refine R_istore_n (pc' := 51) (L' := [(3, .int s0), (0, va_rf (some this)), (1, .int l1), (2, .int l2)]) (i := 3) (x := s0) dX1_readJoke_50 rfl rfl (by decide) rfl ?_
  refine R_iload_n (pc' := 52) (i := 3) (j := 0) (x := s0) dX1_readJoke_51 rfl rfl rfl ?_
  refine R_iconst (pc' := 53) (x := (-1 : Int32)) dX1_readJoke_52 rfl (by decide) ?_
  refine R_icmp_ne (pc' := 56) (tgt := 58) (a := s0) (b := (-1 : Int32)) dX1_readJoke_53 (by decide) rfl ?_ ?_
  · refine R_aloadq_n (pc' := 59) (i := 0) (j := 1) (q := (some this)) dX1_readJoke_58 rfl rfl rfl ?_
    refine R_getR (pc' := 62) (q := (some this)) fl_X1_12 rfl dX1_readJoke_59 rfl (fun told1 => ?_)
    refine R_iload_n (pc' := 63) (i := 1) (j := 2) (x := l1) dX1_readJoke_62 rfl rfl rfl ?_
    refine R_iload_n (pc' := 64) (i := 2) (j := 3) (x := l2) dX1_readJoke_63 rfl rfl rfl ?_
    refine R_iload_n (pc' := 65) (i := 3) (j := 0) (x := s0) dX1_readJoke_64 rfl rfl rfl ?_
    refine R_callV_V (pc' := 68) (q := told1) (As := [.int l1, .int l2, .int s0]) (fun o3 => rm_X8_addJoke o3 l1 l2 s0 M) mf_X8_addJoke lk_X1_96 im_X8_addJoke se_X8_addJoke rfl rfl rfl dX1_readJoke_65 rfl (by decide) (Nat.le_trans c_0 (by decide)) (fun u2 M => ?_)
    refine R_iconst (pc' := 69) (x := (nI 1)) dX1_readJoke_68 rfl (by decide) ?_
    exact R_bret dX1_readJoke_69
  · refine R_iconst (pc' := 57) (x := (nI 0)) dX1_readJoke_56 rfl (by decide) ?_
    exact R_bret dX1_readJoke_57
def f_X1_readJoke_J30 (this : Nat) (l1 : Int32) (s0 : Int32) (M : Mem) : Option (Int32 × Mem) :=
  (if s0 = (-1 : Int32) then
    (f_X1_readJoke_J50 this l1 s0 (-1 : Int32) M)
  else
    ((gR M 1 1 (some this)).bind fun tape1 =>
    (oO M 7 tape1).bind fun o3 => cl (f_X7_takeNumber o3 (nI 0) (nI 9) M) fun r2 M =>
    f_X1_readJoke_J50 this l1 s0 r2 M))
set_option maxHeartbeats 2000000 in
set_option maxRecDepth 20000 in
theorem rf_X1_readJoke_J30 (this : Nat) (l1 : Int32) (s0 : Int32) (M : Mem) : RF yX1_readJoke cX1_readJoke 4 (some .boolean) 4 eI (f_X1_readJoke_J30 this l1 s0 M) 30 [(0, va_rf (some this)), (1, .int l1)] [.int s0] M := by
  rw [f_X1_readJoke_J30]
  refine R_istore_n (pc' := 31) (L' := [(2, .int s0), (0, va_rf (some this)), (1, .int l1)]) (i := 2) (x := s0) dX1_readJoke_30 rfl rfl (by decide) rfl ?_
  refine R_iload_n (pc' := 32) (i := 2) (j := 0) (x := s0) dX1_readJoke_31 rfl rfl rfl ?_
  refine R_iconst (pc' := 33) (x := (-1 : Int32)) dX1_readJoke_32 rfl (by decide) ?_
  refine R_icmp_ne (pc' := 36) (tgt := 40) (a := s0) (b := (-1 : Int32)) dX1_readJoke_33 (by decide) rfl ?_ ?_
  · refine R_aloadq_n (pc' := 41) (i := 0) (j := 1) (q := (some this)) dX1_readJoke_40 rfl rfl rfl ?_
    refine R_getR (pc' := 44) (q := (some this)) fl_X1_18 rfl dX1_readJoke_41 rfl (fun tape1 => ?_)
    refine R_iconst (pc' := 45) (x := (nI 0)) dX1_readJoke_44 rfl (by decide) ?_
    refine R_bipush (pc' := 47) (x := (nI 9)) dX1_readJoke_45 rfl (by decide) ?_
    refine R_callV_I (pc' := 50) (q := tape1) (As := [.int (nI 0), .int (nI 9)]) (fun o3 => rm_X7_takeNumber o3 (nI 0) (nI 9) M) mf_X7_takeNumber lk_X1_86 im_X7_takeNumber se_X7_takeNumber rfl rfl rfl dX1_readJoke_47 rfl (by decide) (Nat.le_trans c_0 (by decide)) (fun r2 M => ?_)
    exact R_sub [1, 2, 0] rfl (rf_X1_readJoke_J50 this l1 s0 r2 M)
  · refine R_iconst (pc' := 37) (x := (-1 : Int32)) dX1_readJoke_36 rfl (by decide) ?_
    refine R_goto (tgt := 50) dX1_readJoke_37 (by decide) ?_
    exact R_sub [1, 2, 0] rfl (rf_X1_readJoke_J50 this l1 s0 (-1 : Int32) M)
def f_X1_readJoke (this : Nat) (M : Mem) : Option (Int32 × Mem) :=
  (gR M 1 1 (some this)).bind fun tape1 =>
  (oO M 7 tape1).bind fun o6 => cl (f_X7_takeNumber o6 (nI 0) (nI 9) M) fun r2 M =>
  (if r2 = (-1 : Int32) then
    (f_X1_readJoke_J30 this r2 (-1 : Int32) M)
  else
    ((gR M 1 1 (some this)).bind fun tape3 =>
    (oO M 7 tape3).bind fun o5 => cl (f_X7_takeNumber o5 (nI 0) (nI 9) M) fun r4 M =>
    f_X1_readJoke_J30 this r2 r4 M))
set_option maxHeartbeats 2000000 in
set_option maxRecDepth 20000 in
theorem rm_X1_readJoke (this : Nat) (M : Mem) : RFm yX1_readJoke cX1_readJoke 4 (some .boolean) 4 eI (f_X1_readJoke this M) [va_rf (some this)] M := by
  refine RFm_of (L := [(0, va_rf (some this))]) (by decide) rfl (Nat.le_trans (c_R c_0) (by decide)) ?_
  rw [f_X1_readJoke]
  refine R_aloadq_n (pc' := 1) (i := 0) (j := 0) (q := (some this)) dX1_readJoke_0 rfl rfl rfl ?_
  refine R_getR (pc' := 4) (q := (some this)) fl_X1_18 rfl dX1_readJoke_1 rfl (fun tape1 => ?_)
  refine R_iconst (pc' := 5) (x := (nI 0)) dX1_readJoke_4 rfl (by decide) ?_
  refine R_bipush (pc' := 7) (x := (nI 9)) dX1_readJoke_5 rfl (by decide) ?_
  refine R_callV_I (pc' := 10) (q := tape1) (As := [.int (nI 0), .int (nI 9)]) (fun o6 => rm_X7_takeNumber o6 (nI 0) (nI 9) M) mf_X7_takeNumber lk_X1_86 im_X7_takeNumber se_X7_takeNumber rfl rfl rfl dX1_readJoke_7 rfl (by decide) (Nat.le_trans c_0 (by decide)) (fun r2 M => ?_)
  refine R_istore_n (pc' := 11) (L' := [(1, .int r2), (0, va_rf (some this))]) (i := 1) (x := r2) dX1_readJoke_10 rfl rfl (by decide) rfl ?_
  refine R_iload_n (pc' := 12) (i := 1) (j := 0) (x := r2) dX1_readJoke_11 rfl rfl rfl ?_
  refine R_iconst (pc' := 13) (x := (-1 : Int32)) dX1_readJoke_12 rfl (by decide) ?_
  refine R_icmp_ne (pc' := 16) (tgt := 20) (a := r2) (b := (-1 : Int32)) dX1_readJoke_13 (by decide) rfl ?_ ?_
  · refine R_aloadq_n (pc' := 21) (i := 0) (j := 1) (q := (some this)) dX1_readJoke_20 rfl rfl rfl ?_
    refine R_getR (pc' := 24) (q := (some this)) fl_X1_18 rfl dX1_readJoke_21 rfl (fun tape3 => ?_)
    refine R_iconst (pc' := 25) (x := (nI 0)) dX1_readJoke_24 rfl (by decide) ?_
    refine R_bipush (pc' := 27) (x := (nI 9)) dX1_readJoke_25 rfl (by decide) ?_
    refine R_callV_I (pc' := 30) (q := tape3) (As := [.int (nI 0), .int (nI 9)]) (fun o5 => rm_X7_takeNumber o5 (nI 0) (nI 9) M) mf_X7_takeNumber lk_X1_86 im_X7_takeNumber se_X7_takeNumber rfl rfl rfl dX1_readJoke_27 rfl (by decide) (Nat.le_trans c_0 (by decide)) (fun r4 M => ?_)
    exact R_sub [1, 0] rfl (rf_X1_readJoke_J30 this r2 r4 M)
  · refine R_iconst (pc' := 17) (x := (-1 : Int32)) dX1_readJoke_16 rfl (by decide) ?_
    refine R_goto (tgt := 30) dX1_readJoke_17 (by decide) ?_
    exact R_sub [1, 0] rfl (rf_X1_readJoke_J30 this r2 (-1 : Int32) M)
/-! BarPilot$BarReader.readKnows()Z -/
def f_X1_readKnows_J44 (this : Nat) (l1 : Int32) (s0 : Int32) (M : Mem) : Option (Int32 × Mem) :=
  (if s0 = (-1 : Int32) then
    (ckZ (nI 0) (some ((nI 0), M)))
  else
    ((gR M 1 0 (some this)).bind fun told1 =>
    (gR M 8 8 told1).bind fun knows2 =>
    (aI M 0 knows2 l1).bind fun e3 =>
    (wI M 0 knows2 l1 (e3 ||| ((nI 1) <<< (s0 &&& 31)))).bind fun M =>
    ckZ (nI 1) (some ((nI 1), M))))
set_option maxHeartbeats 2000000 in
set_option maxRecDepth 20000 in
theorem rf_X1_readKnows_J44 (this : Nat) (l1 : Int32) (s0 : Int32) (M : Mem) : RF yX1_readKnows cX1_readKnows 3 (some .boolean) 3 eI (f_X1_readKnows_J44 this l1 s0 M) 44 [(0, va_rf (some this)), (1, .int l1)] [.int s0] M := by
  rw [f_X1_readKnows_J44]
  refine R_istore_n (pc' := 45) (L' := [(2, .int s0), (0, va_rf (some this)), (1, .int l1)]) (i := 2) (x := s0) dX1_readKnows_44 rfl rfl (by decide) rfl ?_
  refine R_iload_n (pc' := 46) (i := 2) (j := 0) (x := s0) dX1_readKnows_45 rfl rfl rfl ?_
  refine R_iconst (pc' := 47) (x := (-1 : Int32)) dX1_readKnows_46 rfl (by decide) ?_
  refine R_icmp_ne (pc' := 50) (tgt := 52) (a := s0) (b := (-1 : Int32)) dX1_readKnows_47 (by decide) rfl ?_ ?_
  · refine R_aloadq_n (pc' := 53) (i := 0) (j := 1) (q := (some this)) dX1_readKnows_52 rfl rfl rfl ?_
    refine R_getR (pc' := 56) (q := (some this)) fl_X1_12 rfl dX1_readKnows_53 rfl (fun told1 => ?_)
    refine R_getR (pc' := 59) (q := told1) fl_X1_104 rfl dX1_readKnows_56 rfl (fun knows2 => ?_)
    refine R_iload_n (pc' := 60) (i := 1) (j := 2) (x := l1) dX1_readKnows_59 rfl rfl rfl ?_
    refine R_dup2 (pc' := 61) dX1_readKnows_60 rfl rfl (rf_cat _) ?_
    refine R_iald (pc' := 62) (q := knows2) (i := l1) dX1_readKnows_61 rfl (fun e3 => ?_)
    refine R_iconst (pc' := 63) (x := (nI 1)) dX1_readKnows_62 rfl (by decide) ?_
    refine R_iload_n (pc' := 64) (i := 2) (j := 0) (x := s0) dX1_readKnows_63 rfl rfl rfl ?_
    refine R_ishl (pc' := 65) (a := (nI 1)) (b := s0) dX1_readKnows_64 rfl ?_
    refine R_ior (pc' := 66) (a := e3) (b := ((nI 1) <<< (s0 &&& 31))) dX1_readKnows_65 rfl ?_
    refine R_iast (pc' := 67) (q := knows2) (i := l1) (x := (e3 ||| ((nI 1) <<< (s0 &&& 31)))) dX1_readKnows_66 rfl (fun M => ?_)
    refine R_iconst (pc' := 68) (x := (nI 1)) dX1_readKnows_67 rfl (by decide) ?_
    exact R_bret dX1_readKnows_68
  · refine R_iconst (pc' := 51) (x := (nI 0)) dX1_readKnows_50 rfl (by decide) ?_
    exact R_bret dX1_readKnows_51
def f_X1_readKnows (this : Nat) (M : Mem) : Option (Int32 × Mem) :=
  (gR M 1 1 (some this)).bind fun tape1 =>
  (gR M 1 0 (some this)).bind fun told2 =>
  (gI M 8 4 told2).bind fun ships3 =>
  (oO M 7 tape1).bind fun o10 => cl (f_X7_takeNumber o10 (nI 0) (ships3 - (nI 1)) M) fun r4 M =>
  (if r4 = (-1 : Int32) then
    (f_X1_readKnows_J44 this r4 (-1 : Int32) M)
  else
    ((gR M 1 1 (some this)).bind fun tape5 =>
    (gR M 1 0 (some this)).bind fun told6 =>
    (gI M 8 3 told6).bind fun jokes7 =>
    (oO M 7 tape5).bind fun o9 => cl (f_X7_takeNumber o9 (nI 0) (jokes7 - (nI 1)) M) fun r8 M =>
    f_X1_readKnows_J44 this r4 r8 M))
set_option maxHeartbeats 2000000 in
set_option maxRecDepth 20000 in
theorem rm_X1_readKnows (this : Nat) (M : Mem) : RFm yX1_readKnows cX1_readKnows 3 (some .boolean) 3 eI (f_X1_readKnows this M) [va_rf (some this)] M := by
  refine RFm_of (L := [(0, va_rf (some this))]) (by decide) rfl (Nat.le_trans (c_R c_0) (by decide)) ?_
  rw [f_X1_readKnows]
  refine R_aloadq_n (pc' := 1) (i := 0) (j := 0) (q := (some this)) dX1_readKnows_0 rfl rfl rfl ?_
  refine R_getR (pc' := 4) (q := (some this)) fl_X1_18 rfl dX1_readKnows_1 rfl (fun tape1 => ?_)
  refine R_iconst (pc' := 5) (x := (nI 0)) dX1_readKnows_4 rfl (by decide) ?_
  refine R_aloadq_n (pc' := 6) (i := 0) (j := 0) (q := (some this)) dX1_readKnows_5 rfl rfl rfl ?_
  refine R_getR (pc' := 9) (q := (some this)) fl_X1_12 rfl dX1_readKnows_6 rfl (fun told2 => ?_)
  refine R_getI (pc' := 12) (q := told2) fl_X1_83 rfl dX1_readKnows_9 rfl (fun ships3 => ?_)
  refine R_iconst (pc' := 13) (x := (nI 1)) dX1_readKnows_12 rfl (by decide) ?_
  refine R_isub (pc' := 14) (a := ships3) (b := (nI 1)) dX1_readKnows_13 rfl ?_
  refine R_callV_I (pc' := 17) (q := tape1) (As := [.int (nI 0), .int (ships3 - (nI 1))]) (fun o10 => rm_X7_takeNumber o10 (nI 0) (ships3 - (nI 1)) M) mf_X7_takeNumber lk_X1_86 im_X7_takeNumber se_X7_takeNumber rfl rfl rfl dX1_readKnows_14 rfl (by decide) (Nat.le_trans c_0 (by decide)) (fun r4 M => ?_)
  refine R_istore_n (pc' := 18) (L' := [(1, .int r4), (0, va_rf (some this))]) (i := 1) (x := r4) dX1_readKnows_17 rfl rfl (by decide) rfl ?_
  refine R_iload_n (pc' := 19) (i := 1) (j := 0) (x := r4) dX1_readKnows_18 rfl rfl rfl ?_
  refine R_iconst (pc' := 20) (x := (-1 : Int32)) dX1_readKnows_19 rfl (by decide) ?_
  refine R_icmp_ne (pc' := 23) (tgt := 27) (a := r4) (b := (-1 : Int32)) dX1_readKnows_20 (by decide) rfl ?_ ?_
  · refine R_aloadq_n (pc' := 28) (i := 0) (j := 1) (q := (some this)) dX1_readKnows_27 rfl rfl rfl ?_
    refine R_getR (pc' := 31) (q := (some this)) fl_X1_18 rfl dX1_readKnows_28 rfl (fun tape5 => ?_)
    refine R_iconst (pc' := 32) (x := (nI 0)) dX1_readKnows_31 rfl (by decide) ?_
    refine R_aloadq_n (pc' := 33) (i := 0) (j := 1) (q := (some this)) dX1_readKnows_32 rfl rfl rfl ?_
    refine R_getR (pc' := 36) (q := (some this)) fl_X1_12 rfl dX1_readKnows_33 rfl (fun told6 => ?_)
    refine R_getI (pc' := 39) (q := told6) fl_X1_80 rfl dX1_readKnows_36 rfl (fun jokes7 => ?_)
    refine R_iconst (pc' := 40) (x := (nI 1)) dX1_readKnows_39 rfl (by decide) ?_
    refine R_isub (pc' := 41) (a := jokes7) (b := (nI 1)) dX1_readKnows_40 rfl ?_
    refine R_callV_I (pc' := 44) (q := tape5) (As := [.int (nI 0), .int (jokes7 - (nI 1))]) (fun o9 => rm_X7_takeNumber o9 (nI 0) (jokes7 - (nI 1)) M) mf_X7_takeNumber lk_X1_86 im_X7_takeNumber se_X7_takeNumber rfl rfl rfl dX1_readKnows_41 rfl (by decide) (Nat.le_trans c_0 (by decide)) (fun r8 M => ?_)
    exact R_sub [1, 0] rfl (rf_X1_readKnows_J44 this r4 r8 M)
  · refine R_iconst (pc' := 24) (x := (-1 : Int32)) dX1_readKnows_23 rfl (by decide) ?_
    refine R_goto (tgt := 44) dX1_readKnows_24 (by decide) ?_
    exact R_sub [1, 0] rfl (rf_X1_readKnows_J44 this r4 (-1 : Int32) M)
/-! BarPilot$BarReader.readShip()Z -/
def f_X1_readShip_J30 (this : Nat) (l1 : Int32) (s0 : Int32) (M : Mem) : Option (Int32 × Mem) :=
  (if s0 = (-1 : Int32) then
    (ckZ (nI 0) (some ((nI 0), M)))
  else
    ((gR M 1 0 (some this)).bind fun told1 =>
    (oO M 8 told1).bind fun o3 => cl (f_X8_addShip o3 l1 s0 M) fun u2 M =>
    ckZ (nI 1) (some ((nI 1), M))))
set_option maxHeartbeats 2000000 in
set_option maxRecDepth 20000 in
theorem rf_X1_readShip_J30 (this : Nat) (l1 : Int32) (s0 : Int32) (M : Mem) : RF yX1_readShip cX1_readShip 3 (some .boolean) 3 eI (f_X1_readShip_J30 this l1 s0 M) 30 [(0, va_rf (some this)), (1, .int l1)] [.int s0] M := by
  rw [f_X1_readShip_J30]
  refine R_istore_n (pc' := 31) (L' := [(2, .int s0), (0, va_rf (some this)), (1, .int l1)]) (i := 2) (x := s0) dX1_readShip_30 rfl rfl (by decide) rfl ?_
  refine R_iload_n (pc' := 32) (i := 2) (j := 0) (x := s0) dX1_readShip_31 rfl rfl rfl ?_
  refine R_iconst (pc' := 33) (x := (-1 : Int32)) dX1_readShip_32 rfl (by decide) ?_
  refine R_icmp_ne (pc' := 36) (tgt := 38) (a := s0) (b := (-1 : Int32)) dX1_readShip_33 (by decide) rfl ?_ ?_
  · refine R_aloadq_n (pc' := 39) (i := 0) (j := 1) (q := (some this)) dX1_readShip_38 rfl rfl rfl ?_
    refine R_getR (pc' := 42) (q := (some this)) fl_X1_12 rfl dX1_readShip_39 rfl (fun told1 => ?_)
    refine R_iload_n (pc' := 43) (i := 1) (j := 2) (x := l1) dX1_readShip_42 rfl rfl rfl ?_
    refine R_iload_n (pc' := 44) (i := 2) (j := 0) (x := s0) dX1_readShip_43 rfl rfl rfl ?_
    refine R_callV_V (pc' := 47) (q := told1) (As := [.int l1, .int s0]) (fun o3 => rm_X8_addShip o3 l1 s0 M) mf_X8_addShip lk_X1_100 im_X8_addShip se_X8_addShip rfl rfl rfl dX1_readShip_44 rfl (by decide) (Nat.le_trans c_0 (by decide)) (fun u2 M => ?_)
    refine R_iconst (pc' := 48) (x := (nI 1)) dX1_readShip_47 rfl (by decide) ?_
    exact R_bret dX1_readShip_48
  · refine R_iconst (pc' := 37) (x := (nI 0)) dX1_readShip_36 rfl (by decide) ?_
    exact R_bret dX1_readShip_37
def f_X1_readShip (this : Nat) (M : Mem) : Option (Int32 × Mem) :=
  (gR M 1 1 (some this)).bind fun tape1 =>
  (oO M 7 tape1).bind fun o6 => cl (f_X7_takeNumber o6 (nI 0) (nI 99) M) fun r2 M =>
  (if r2 = (-1 : Int32) then
    (f_X1_readShip_J30 this r2 (-1 : Int32) M)
  else
    ((gR M 1 1 (some this)).bind fun tape3 =>
    (oO M 7 tape3).bind fun o5 => cl (f_X7_takeNumber o5 (nI 0) (nI 60) M) fun r4 M =>
    f_X1_readShip_J30 this r2 r4 M))
set_option maxHeartbeats 2000000 in
set_option maxRecDepth 20000 in
theorem rm_X1_readShip (this : Nat) (M : Mem) : RFm yX1_readShip cX1_readShip 3 (some .boolean) 3 eI (f_X1_readShip this M) [va_rf (some this)] M := by
  refine RFm_of (L := [(0, va_rf (some this))]) (by decide) rfl (Nat.le_trans (c_R c_0) (by decide)) ?_
  rw [f_X1_readShip]
  refine R_aloadq_n (pc' := 1) (i := 0) (j := 0) (q := (some this)) dX1_readShip_0 rfl rfl rfl ?_
  refine R_getR (pc' := 4) (q := (some this)) fl_X1_18 rfl dX1_readShip_1 rfl (fun tape1 => ?_)
  refine R_iconst (pc' := 5) (x := (nI 0)) dX1_readShip_4 rfl (by decide) ?_
  refine R_bipush (pc' := 7) (x := (nI 99)) dX1_readShip_5 rfl (by decide) ?_
  refine R_callV_I (pc' := 10) (q := tape1) (As := [.int (nI 0), .int (nI 99)]) (fun o6 => rm_X7_takeNumber o6 (nI 0) (nI 99) M) mf_X7_takeNumber lk_X1_86 im_X7_takeNumber se_X7_takeNumber rfl rfl rfl dX1_readShip_7 rfl (by decide) (Nat.le_trans c_0 (by decide)) (fun r2 M => ?_)
  refine R_istore_n (pc' := 11) (L' := [(1, .int r2), (0, va_rf (some this))]) (i := 1) (x := r2) dX1_readShip_10 rfl rfl (by decide) rfl ?_
  refine R_iload_n (pc' := 12) (i := 1) (j := 0) (x := r2) dX1_readShip_11 rfl rfl rfl ?_
  refine R_iconst (pc' := 13) (x := (-1 : Int32)) dX1_readShip_12 rfl (by decide) ?_
  refine R_icmp_ne (pc' := 16) (tgt := 20) (a := r2) (b := (-1 : Int32)) dX1_readShip_13 (by decide) rfl ?_ ?_
  · refine R_aloadq_n (pc' := 21) (i := 0) (j := 1) (q := (some this)) dX1_readShip_20 rfl rfl rfl ?_
    refine R_getR (pc' := 24) (q := (some this)) fl_X1_18 rfl dX1_readShip_21 rfl (fun tape3 => ?_)
    refine R_iconst (pc' := 25) (x := (nI 0)) dX1_readShip_24 rfl (by decide) ?_
    refine R_bipush (pc' := 27) (x := (nI 60)) dX1_readShip_25 rfl (by decide) ?_
    refine R_callV_I (pc' := 30) (q := tape3) (As := [.int (nI 0), .int (nI 60)]) (fun o5 => rm_X7_takeNumber o5 (nI 0) (nI 60) M) mf_X7_takeNumber lk_X1_86 im_X7_takeNumber se_X7_takeNumber rfl rfl rfl dX1_readShip_27 rfl (by decide) (Nat.le_trans c_0 (by decide)) (fun r4 M => ?_)
    exact R_sub [1, 0] rfl (rf_X1_readShip_J30 this r2 r4 M)
  · refine R_iconst (pc' := 17) (x := (-1 : Int32)) dX1_readShip_16 rfl (by decide) ?_
    refine R_goto (tgt := 30) dX1_readShip_17 (by decide) ?_
    exact R_sub [1, 0] rfl (rf_X1_readShip_J30 this r2 (-1 : Int32) M)
/-! BarPilot$BarReader.readClause(I)Z -/
def f_X1_readClause_J133 (this : Nat) (s0 : Int32) (M : Mem) : Option (Int32 × Mem) :=
  ckZ s0 (some (s0, M))
set_option maxHeartbeats 2000000 in
set_option maxRecDepth 20000 in
theorem rf_X1_readClause_J133 (this : Nat) (s0 : Int32) (M : Mem) : RF yX1_readClause cX1_readClause 4 (some .boolean) 5 eI (f_X1_readClause_J133 this s0 M) 133 [] [.int s0] M := by
  rw [f_X1_readClause_J133]
  exact R_bret dX1_readClause_133
def f_X1_readClause_J56 (this : Nat) (l1 : Int32) (l2 : Int64) (M : Mem) : Option (Int32 × Mem) :=
  (oO M 1 (some this)).bind fun o18 => cl (f_X1_isTooMuch o18 l2 l1 M) fun r1 M =>
  (if r1 = 0 then
    ((gR M 1 1 (some this)).bind fun tape2 =>
    (oO M 7 tape2).bind fun o12 => cl (f_X7_next o12 M) fun u3 M =>
    (if (lg_cmp l2 (6447474 : Int64)) = 0 then
      ((oO M 1 (some this)).bind fun o11 => cl (f_X1_readBar o11 M) fun r10 M =>
      ckZ r10 (some (r10, M)))
    else
      ((if (lg_cmp l2 (1785686885 : Int64)) = 0 then
        ((oO M 1 (some this)).bind fun o9 => cl (f_X1_readJoke o9 M) fun r8 M =>
        ckZ r8 (some (r8, M)))
      else
        ((if (lg_cmp l2 (1936222576 : Int64)) = 0 then
          ((oO M 1 (some this)).bind fun o7 => cl (f_X1_readShip o7 M) fun r6 M =>
          f_X1_readClause_J133 this r6 M)
        else
          ((oO M 1 (some this)).bind fun o5 => cl (f_X1_readKnows o5 M) fun r4 M =>
          f_X1_readClause_J133 this r4 M)))))))
  else
    ((gR M 1 1 (some this)).bind fun tape13 =>
    (gR M 1 1 (some this)).bind fun tape14 =>
    (gI M 7 4 tape14).bind fun start15 =>
    (oO M 7 tape13).bind fun o17 => cl (f_X7_failAt o17 start15 (nI 4) M) fun r16 M =>
    ckZ r16 (some (r16, M))))
set_option maxHeartbeats 2000000 in
set_option maxRecDepth 20000 in
theorem rf_X1_readClause_J56 (this : Nat) (l1 : Int32) (l2 : Int64) (M : Mem) : RF yX1_readClause cX1_readClause 4 (some .boolean) 5 eI (f_X1_readClause_J56 this l1 l2 M) 56 [(0, va_rf (some this)), (1, .int l1), (2, .long l2)] [] M := by
  rw [f_X1_readClause_J56]
  refine R_aloadq_n (pc' := 57) (i := 0) (j := 0) (q := (some this)) dX1_readClause_56 rfl rfl rfl ?_
  refine R_lload_n (pc' := 58) (i := 2) (j := 2) (x := l2) dX1_readClause_57 rfl rfl rfl ?_
  refine R_iload_n (pc' := 59) (i := 1) (j := 1) (x := l1) dX1_readClause_58 rfl rfl rfl ?_
  refine R_callV_I (pc' := 62) (q := (some this)) (As := [.long l2, .int l1]) (fun o18 => rm_X1_isTooMuch o18 l2 l1 M) mf_X1_isTooMuch lk_X1_61 im_X1_isTooMuch se_X1_isTooMuch rfl rfl rfl dX1_readClause_59 rfl (by decide) (Nat.le_trans c_0 (by decide)) (fun r1 M => ?_)
  refine R_if_eq (pc' := 65) (tgt := 81) (a := r1) dX1_readClause_62 (by decide) rfl ?_ ?_
  · refine R_aloadq_n (pc' := 82) (i := 0) (j := 0) (q := (some this)) dX1_readClause_81 rfl rfl rfl ?_
    refine R_getR (pc' := 85) (q := (some this)) fl_X1_18 rfl dX1_readClause_82 rfl (fun tape2 => ?_)
    refine R_callV_V (pc' := 88) (q := tape2) (As := []) (fun o12 => rm_X7_next o12 M) mf_X7_next lk_X1_65 im_X7_next se_X7_next rfl rfl rfl dX1_readClause_85 rfl (by decide) (Nat.le_trans c_0 (by decide)) (fun u3 M => ?_)
    refine R_lload_n (pc' := 89) (i := 2) (j := 2) (x := l2) dX1_readClause_88 rfl rfl rfl ?_
    refine R_ldc2 (pc' := 92) (x := (6447474 : Int64)) dX1_readClause_89 rfl c2_X1_46 ?_
    refine R_lcmp (pc' := 93) (a := l2) (b := (6447474 : Int64)) dX1_readClause_92 rfl ?_
    refine R_if_ne (pc' := 96) (tgt := 101) (a := (lg_cmp l2 (6447474 : Int64))) dX1_readClause_93 (by decide) rfl ?_ ?_
    · refine R_lload_n (pc' := 102) (i := 2) (j := 2) (x := l2) dX1_readClause_101 rfl rfl rfl ?_
      refine R_ldc2 (pc' := 105) (x := (1785686885 : Int64)) dX1_readClause_102 rfl c2_X1_48 ?_
      refine R_lcmp (pc' := 106) (a := l2) (b := (1785686885 : Int64)) dX1_readClause_105 rfl ?_
      refine R_if_ne (pc' := 109) (tgt := 114) (a := (lg_cmp l2 (1785686885 : Int64))) dX1_readClause_106 (by decide) rfl ?_ ?_
      · refine R_lload_n (pc' := 115) (i := 2) (j := 2) (x := l2) dX1_readClause_114 rfl rfl rfl ?_
        refine R_ldc2 (pc' := 118) (x := (1936222576 : Int64)) dX1_readClause_115 rfl c2_X1_50 ?_
        refine R_lcmp (pc' := 119) (a := l2) (b := (1936222576 : Int64)) dX1_readClause_118 rfl ?_
        refine R_if_ne (pc' := 122) (tgt := 129) (a := (lg_cmp l2 (1936222576 : Int64))) dX1_readClause_119 (by decide) rfl ?_ ?_
        · refine R_aloadq_n (pc' := 130) (i := 0) (j := 0) (q := (some this)) dX1_readClause_129 rfl rfl rfl ?_
          refine R_callV_I (pc' := 133) (q := (some this)) (As := []) (fun o5 => rm_X1_readKnows o5 M) mf_X1_readKnows lk_X1_77 im_X1_readKnows se_X1_readKnows rfl rfl rfl dX1_readClause_130 rfl (by decide) (Nat.le_trans c_0 (by decide)) (fun r4 M => ?_)
          exact R_sub [] rfl (rf_X1_readClause_J133 this r4 M)
        · refine R_aloadq_n (pc' := 123) (i := 0) (j := 0) (q := (some this)) dX1_readClause_122 rfl rfl rfl ?_
          refine R_callV_I (pc' := 126) (q := (some this)) (As := []) (fun o7 => rm_X1_readShip o7 M) mf_X1_readShip lk_X1_74 im_X1_readShip se_X1_readShip rfl rfl rfl dX1_readClause_123 rfl (by decide) (Nat.le_trans c_0 (by decide)) (fun r6 M => ?_)
          refine R_goto (tgt := 133) dX1_readClause_126 (by decide) ?_
          exact R_sub [] rfl (rf_X1_readClause_J133 this r6 M)
      · refine R_aloadq_n (pc' := 110) (i := 0) (j := 0) (q := (some this)) dX1_readClause_109 rfl rfl rfl ?_
        refine R_callV_I (pc' := 113) (q := (some this)) (As := []) (fun o9 => rm_X1_readJoke o9 M) mf_X1_readJoke lk_X1_71 im_X1_readJoke se_X1_readJoke rfl rfl rfl dX1_readClause_110 rfl (by decide) (Nat.le_trans c_0 (by decide)) (fun r8 M => ?_)
        exact R_bret dX1_readClause_113
    · refine R_aloadq_n (pc' := 97) (i := 0) (j := 0) (q := (some this)) dX1_readClause_96 rfl rfl rfl ?_
      refine R_callV_I (pc' := 100) (q := (some this)) (As := []) (fun o11 => rm_X1_readBar o11 M) mf_X1_readBar lk_X1_68 im_X1_readBar se_X1_readBar rfl rfl rfl dX1_readClause_97 rfl (by decide) (Nat.le_trans c_0 (by decide)) (fun r10 M => ?_)
      exact R_bret dX1_readClause_100
  · refine R_aloadq_n (pc' := 66) (i := 0) (j := 0) (q := (some this)) dX1_readClause_65 rfl rfl rfl ?_
    refine R_getR (pc' := 69) (q := (some this)) fl_X1_18 rfl dX1_readClause_66 rfl (fun tape13 => ?_)
    refine R_aloadq_n (pc' := 70) (i := 0) (j := 0) (q := (some this)) dX1_readClause_69 rfl rfl rfl ?_
    refine R_getR (pc' := 73) (q := (some this)) fl_X1_18 rfl dX1_readClause_70 rfl (fun tape14 => ?_)
    refine R_getI (pc' := 76) (q := tape14) fl_X1_54 rfl dX1_readClause_73 rfl (fun start15 => ?_)
    refine R_iconst (pc' := 77) (x := (nI 4)) dX1_readClause_76 rfl (by decide) ?_
    refine R_callV_I (pc' := 80) (q := tape13) (As := [.int start15, .int (nI 4)]) (fun o17 => rm_X7_failAt o17 start15 (nI 4) M) mf_X7_failAt lk_X1_57 im_X7_failAt se_X7_failAt rfl rfl rfl dX1_readClause_77 rfl (by decide) (Nat.le_trans c_0 (by decide)) (fun r16 M => ?_)
    exact R_bret dX1_readClause_80
def f_X1_readClause (this : Nat) (l1 : Int32) (M : Mem) : Option (Int32 × Mem) :=
  (gR M 1 1 (some this)).bind fun tape1 =>
  (gL M 7 6 tape1).bind fun word2 =>
  (if (lg_cmp word2 (6447474 : Int64)) = 0 then
    (f_X1_readClause_J56 this l1 word2 M)
  else
    ((if (lg_cmp word2 (1785686885 : Int64)) = 0 then
      (f_X1_readClause_J56 this l1 word2 M)
    else
      ((if (lg_cmp word2 (1936222576 : Int64)) = 0 then
        (f_X1_readClause_J56 this l1 word2 M)
      else
        ((if (lg_cmp word2 (461414299507 : Int64)) = 0 then
          (f_X1_readClause_J56 this l1 word2 M)
        else
          ((gR M 1 1 (some this)).bind fun tape3 =>
          (gR M 1 1 (some this)).bind fun tape4 =>
          (gI M 7 4 tape4).bind fun start5 =>
          (oO M 7 tape3).bind fun o7 => cl (f_X7_failAt o7 start5 (nI 0) M) fun r6 M =>
          ckZ r6 (some (r6, M))))))))))
set_option maxHeartbeats 2000000 in
set_option maxRecDepth 20000 in
theorem rm_X1_readClause (this : Nat) (l1 : Int32) (M : Mem) : RFm yX1_readClause cX1_readClause 4 (some .boolean) 5 eI (f_X1_readClause this l1 M) [va_rf (some this), .int l1] M := by
  refine RFm_of (L := [(0, va_rf (some this)), (1, .int l1)]) (by decide) rfl (Nat.le_trans (c_R (c_I c_0)) (by decide)) ?_
  rw [f_X1_readClause]
  refine R_aloadq_n (pc' := 1) (i := 0) (j := 0) (q := (some this)) dX1_readClause_0 rfl rfl rfl ?_
  refine R_getR (pc' := 4) (q := (some this)) fl_X1_18 rfl dX1_readClause_1 rfl (fun tape1 => ?_)
  refine R_getL (pc' := 7) (q := tape1) fl_X1_42 rfl dX1_readClause_4 rfl (fun word2 => ?_)
  refine R_lstore_n (pc' := 8) (L' := [(2, .long word2), (0, va_rf (some this)), (1, .int l1)]) (i := 2) (x := word2) dX1_readClause_7 rfl rfl (by decide) rfl ?_
  refine R_lload_n (pc' := 9) (i := 2) (j := 0) (x := word2) dX1_readClause_8 rfl rfl rfl ?_
  refine R_ldc2 (pc' := 12) (x := (6447474 : Int64)) dX1_readClause_9 rfl c2_X1_46 ?_
  refine R_lcmp (pc' := 13) (a := word2) (b := (6447474 : Int64)) dX1_readClause_12 rfl ?_
  refine R_if_eq (pc' := 16) (tgt := 56) (a := (lg_cmp word2 (6447474 : Int64))) dX1_readClause_13 (by decide) rfl ?_ ?_
  · exact R_sub [1, 2, 0] rfl (rf_X1_readClause_J56 this l1 word2 M)
  · refine R_lload_n (pc' := 17) (i := 2) (j := 0) (x := word2) dX1_readClause_16 rfl rfl rfl ?_
    refine R_ldc2 (pc' := 20) (x := (1785686885 : Int64)) dX1_readClause_17 rfl c2_X1_48 ?_
    refine R_lcmp (pc' := 21) (a := word2) (b := (1785686885 : Int64)) dX1_readClause_20 rfl ?_
    refine R_if_eq (pc' := 24) (tgt := 56) (a := (lg_cmp word2 (1785686885 : Int64))) dX1_readClause_21 (by decide) rfl ?_ ?_
    · exact R_sub [1, 2, 0] rfl (rf_X1_readClause_J56 this l1 word2 M)
    · refine R_lload_n (pc' := 25) (i := 2) (j := 0) (x := word2) dX1_readClause_24 rfl rfl rfl ?_
      refine R_ldc2 (pc' := 28) (x := (1936222576 : Int64)) dX1_readClause_25 rfl c2_X1_50 ?_
      refine R_lcmp (pc' := 29) (a := word2) (b := (1936222576 : Int64)) dX1_readClause_28 rfl ?_
      refine R_if_eq (pc' := 32) (tgt := 56) (a := (lg_cmp word2 (1936222576 : Int64))) dX1_readClause_29 (by decide) rfl ?_ ?_
      · exact R_sub [1, 2, 0] rfl (rf_X1_readClause_J56 this l1 word2 M)
      · refine R_lload_n (pc' := 33) (i := 2) (j := 0) (x := word2) dX1_readClause_32 rfl rfl rfl ?_
        refine R_ldc2 (pc' := 36) (x := (461414299507 : Int64)) dX1_readClause_33 rfl c2_X1_52 ?_
        refine R_lcmp (pc' := 37) (a := word2) (b := (461414299507 : Int64)) dX1_readClause_36 rfl ?_
        refine R_if_eq (pc' := 40) (tgt := 56) (a := (lg_cmp word2 (461414299507 : Int64))) dX1_readClause_37 (by decide) rfl ?_ ?_
        · exact R_sub [1, 2, 0] rfl (rf_X1_readClause_J56 this l1 word2 M)
        · refine R_aloadq_n (pc' := 41) (i := 0) (j := 1) (q := (some this)) dX1_readClause_40 rfl rfl rfl ?_
          refine R_getR (pc' := 44) (q := (some this)) fl_X1_18 rfl dX1_readClause_41 rfl (fun tape3 => ?_)
          refine R_aloadq_n (pc' := 45) (i := 0) (j := 1) (q := (some this)) dX1_readClause_44 rfl rfl rfl ?_
          refine R_getR (pc' := 48) (q := (some this)) fl_X1_18 rfl dX1_readClause_45 rfl (fun tape4 => ?_)
          refine R_getI (pc' := 51) (q := tape4) fl_X1_54 rfl dX1_readClause_48 rfl (fun start5 => ?_)
          refine R_iconst (pc' := 52) (x := (nI 0)) dX1_readClause_51 rfl (by decide) ?_
          refine R_callV_I (pc' := 55) (q := tape3) (As := [.int start5, .int (nI 0)]) (fun o7 => rm_X7_failAt o7 start5 (nI 0) M) mf_X7_failAt lk_X1_57 im_X7_failAt se_X7_failAt rfl rfl rfl dX1_readClause_52 rfl (by decide) (Nat.le_trans c_0 (by decide)) (fun r6 M => ?_)
          exact R_bret dX1_readClause_55
/-! BarPilot$BarReader.read()I -/
def f_X1_read_J58 (this : Nat) (M : Mem) : Option (Int32 × Mem) :=
  (gR M 1 1 (some this)).bind fun tape1 =>
  (gI M 7 2 tape1).bind fun fault2 =>
  some (fault2, M)
set_option maxHeartbeats 2000000 in
set_option maxRecDepth 20000 in
theorem rf_X1_read_J58 (this : Nat) (M : Mem) : RF yX1_read cX1_read 3 (some .int) 6 eI (f_X1_read_J58 this M) 58 [(0, va_rf (some this))] [] M := by
  rw [f_X1_read_J58]
  refine R_aloadq_n (pc' := 59) (i := 0) (j := 0) (q := (some this)) dX1_read_58 rfl rfl rfl ?_
  refine R_getR (pc' := 62) (q := (some this)) fl_X1_18 rfl dX1_read_59 rfl (fun tape1 => ?_)
  refine R_getI (pc' := 65) (q := tape1) fl_X1_38 rfl dX1_read_62 rfl (fun fault2 => ?_)
  exact R_iret dX1_read_65
def f_X1_read_J51 (k18 : Int32 → Int32 → Mem → Option (Int32 × Mem)) (this : Nat) (l2 : Int32) (s0 : Int32) (M : Mem) : Option (Int32 × Mem) :=
  k18 s0 (l2 + (nI 1)) M
set_option maxHeartbeats 2000000 in
set_option maxRecDepth 20000 in
theorem rf_X1_read_J51 (this : Nat) (k18 : Int32 → Int32 → Mem → Option (Int32 × Mem)) (hk18 : ∀ (l1 : Int32) (l2 : Int32) (M : Mem), RF yX1_read cX1_read 3 (some .int) 6 eI (k18 l1 l2 M) 18 [(0, va_rf (some this)), (1, .int l1), (2, .int l2)] [] M) (l2 : Int32) (s0 : Int32) (M : Mem) : RF yX1_read cX1_read 3 (some .int) 6 eI (f_X1_read_J51 k18 this l2 s0 M) 51 [(0, va_rf (some this)), (2, .int l2)] [.int s0] M := by
  rw [f_X1_read_J51]
  refine R_istore_n (pc' := 52) (L' := [(1, .int s0), (0, va_rf (some this)), (2, .int l2)]) (i := 1) (x := s0) dX1_read_51 rfl rfl (by decide) rfl ?_
  refine R_iinc (pc' := 55) (L' := [(2, .int (l2 + (nI 1))), (1, .int s0), (0, va_rf (some this))]) (i := 2) (j := 2) (x := l2) (x2 := (l2 + (nI 1))) dX1_read_52 rfl rfl rfl (by decide) rfl ?_
  refine R_goto (tgt := 18) dX1_read_55 (by decide) ?_
  exact R_sub [2, 1, 0] rfl (hk18 s0 (l2 + (nI 1)) M)
def f_X1_read_J50 (k18 : Int32 → Int32 → Mem → Option (Int32 × Mem)) (this : Nat) (l2 : Int32) (M : Mem) : Option (Int32 × Mem) :=
  f_X1_read_J51 k18 this l2 (nI 0) M
set_option maxHeartbeats 2000000 in
set_option maxRecDepth 20000 in
theorem rf_X1_read_J50 (this : Nat) (k18 : Int32 → Int32 → Mem → Option (Int32 × Mem)) (hk18 : ∀ (l1 : Int32) (l2 : Int32) (M : Mem), RF yX1_read cX1_read 3 (some .int) 6 eI (k18 l1 l2 M) 18 [(0, va_rf (some this)), (1, .int l1), (2, .int l2)] [] M) (l2 : Int32) (M : Mem) : RF yX1_read cX1_read 3 (some .int) 6 eI (f_X1_read_J50 k18 this l2 M) 50 [(0, va_rf (some this)), (2, .int l2)] [] M := by
  rw [f_X1_read_J50]
  refine R_iconst (pc' := 51) (x := (nI 0)) dX1_read_50 rfl (by decide) ?_
  exact R_sub [0, 1] rfl (rf_X1_read_J51 this k18 hk18 l2 (nI 0) M)
def f_X1_read_L18 (this : Nat) : Nat → Int32 → Int32 → Mem → Option (Int32 × Mem)
  | 0, _, _, _ => none
  | n + 1, l1, l2, M =>
    (if l1 = 0 then
      (f_X1_read_J58 this M)
    else
      ((if (nI 40) < l2 then
        (f_X1_read_J58 this M)
      else
        ((oO M 1 (some this)).bind fun o5 => cl (f_X1_readClause o5 l2 M) fun r1 M =>
        (if r1 = 0 then
          (f_X1_read_J50 (f_X1_read_L18 this n) this l2 M)
        else
          ((gR M 1 1 (some this)).bind fun tape2 =>
          (oO M 7 tape2).bind fun o4 => cl (f_X7_takesSeparator o4 M) fun r3 M =>
          (if r3 = 0 then
            (f_X1_read_J50 (f_X1_read_L18 this n) this l2 M)
          else
            (f_X1_read_J51 (f_X1_read_L18 this n) this l2 (nI 1) M))))))))
set_option maxHeartbeats 2000000 in
set_option maxRecDepth 20000 in
theorem rf_X1_read_L18 (this : Nat) : ∀ (n : Nat) (l1 : Int32) (l2 : Int32) (M : Mem), RF yX1_read cX1_read 3 (some .int) 6 eI (f_X1_read_L18 this n l1 l2 M) 18 [(0, va_rf (some this)), (1, .int l1), (2, .int l2)] [] M := by
  intro n
  induction n with
  | zero => intro _ _ _; exact RF.none
  | succ n ih =>
    intro l1 l2 M
    rw [f_X1_read_L18]
    refine R_iload_n (pc' := 19) (i := 1) (j := 1) (x := l1) dX1_read_18 rfl rfl rfl ?_
    refine R_if_eq (pc' := 22) (tgt := 58) (a := l1) dX1_read_19 (by decide) rfl ?_ ?_
    · exact R_sub [0] rfl (rf_X1_read_J58 this M)
    · refine R_iload_n (pc' := 23) (i := 2) (j := 2) (x := l2) dX1_read_22 rfl rfl rfl ?_
      refine R_bipush (pc' := 25) (x := (nI 40)) dX1_read_23 rfl (by decide) ?_
      refine R_icmp_gt (pc' := 28) (tgt := 58) (a := l2) (b := (nI 40)) dX1_read_25 (by decide) rfl ?_ ?_
      · exact R_sub [0] rfl (rf_X1_read_J58 this M)
      · refine R_aloadq_n (pc' := 29) (i := 0) (j := 0) (q := (some this)) dX1_read_28 rfl rfl rfl ?_
        refine R_iload_n (pc' := 30) (i := 2) (j := 2) (x := l2) dX1_read_29 rfl rfl rfl ?_
        refine R_callV_I (pc' := 33) (q := (some this)) (As := [.int l2]) (fun o5 => rm_X1_readClause o5 l2 M) mf_X1_readClause lk_X1_30 im_X1_readClause se_X1_readClause rfl rfl rfl dX1_read_30 rfl (by decide) (Nat.le_trans c_0 (by decide)) (fun r1 M => ?_)
        refine R_if_eq (pc' := 36) (tgt := 50) (a := r1) dX1_read_33 (by decide) rfl ?_ ?_
        · exact R_sub [0, 2] rfl (rf_X1_read_J50 this (f_X1_read_L18 this n) ih l2 M)
        · refine R_aloadq_n (pc' := 37) (i := 0) (j := 0) (q := (some this)) dX1_read_36 rfl rfl rfl ?_
          refine R_getR (pc' := 40) (q := (some this)) fl_X1_18 rfl dX1_read_37 rfl (fun tape2 => ?_)
          refine R_callV_I (pc' := 43) (q := tape2) (As := []) (fun o4 => rm_X7_takesSeparator o4 M) mf_X7_takesSeparator lk_X1_34 im_X7_takesSeparator se_X7_takesSeparator rfl rfl rfl dX1_read_40 rfl (by decide) (Nat.le_trans c_0 (by decide)) (fun r3 M => ?_)
          refine R_if_eq (pc' := 46) (tgt := 50) (a := r3) dX1_read_43 (by decide) rfl ?_ ?_
          · exact R_sub [0, 2] rfl (rf_X1_read_J50 this (f_X1_read_L18 this n) ih l2 M)
          · refine R_iconst (pc' := 47) (x := (nI 1)) dX1_read_46 rfl (by decide) ?_
            refine R_goto (tgt := 51) dX1_read_47 (by decide) ?_
            exact R_sub [0, 2] rfl (rf_X1_read_J51 this (f_X1_read_L18 this n) ih l2 (nI 1) M)
def f_X1_read (this : Nat) (M : Mem) : Option (Int32 × Mem) :=
  (gR M 1 1 (some this)).bind fun tape1 =>
  (oO M 7 tape1).bind fun o6 => cl (f_X7_rewind o6 M) fun u2 M =>
  (gR M 1 0 (some this)).bind fun told3 =>
  (oO M 8 told3).bind fun o5 => cl (f_X8_clear o5 M) fun u4 M =>
  f_X1_read_L18 this FU (nI 1) (nI 0) M
set_option maxHeartbeats 2000000 in
set_option maxRecDepth 20000 in
theorem rm_X1_read (this : Nat) (M : Mem) : RFm yX1_read cX1_read 3 (some .int) 6 eI (f_X1_read this M) [va_rf (some this)] M := by
  refine RFm_of (L := [(0, va_rf (some this))]) (by decide) rfl (Nat.le_trans (c_R c_0) (by decide)) ?_
  rw [f_X1_read]
  refine R_aloadq_n (pc' := 1) (i := 0) (j := 0) (q := (some this)) dX1_read_0 rfl rfl rfl ?_
  refine R_getR (pc' := 4) (q := (some this)) fl_X1_18 rfl dX1_read_1 rfl (fun tape1 => ?_)
  refine R_callV_V (pc' := 7) (q := tape1) (As := []) (fun o6 => rm_X7_rewind o6 M) mf_X7_rewind lk_X1_22 im_X7_rewind se_X7_rewind rfl rfl rfl dX1_read_4 rfl (by decide) (Nat.le_trans c_0 (by decide)) (fun u2 M => ?_)
  refine R_aloadq_n (pc' := 8) (i := 0) (j := 0) (q := (some this)) dX1_read_7 rfl rfl rfl ?_
  refine R_getR (pc' := 11) (q := (some this)) fl_X1_12 rfl dX1_read_8 rfl (fun told3 => ?_)
  refine R_callV_V (pc' := 14) (q := told3) (As := []) (fun o5 => rm_X8_clear o5 M) mf_X8_clear lk_X1_27 im_X8_clear se_X8_clear rfl rfl rfl dX1_read_11 rfl (by decide) (Nat.le_trans c_0 (by decide)) (fun u4 M => ?_)
  refine R_iconst (pc' := 15) (x := (nI 1)) dX1_read_14 rfl (by decide) ?_
  refine R_istore_n (pc' := 16) (L' := [(1, .int (nI 1)), (0, va_rf (some this))]) (i := 1) (x := (nI 1)) dX1_read_15 rfl rfl (by decide) rfl ?_
  refine R_iconst (pc' := 17) (x := (nI 0)) dX1_read_16 rfl (by decide) ?_
  refine R_istore_n (pc' := 18) (L' := [(2, .int (nI 0)), (1, .int (nI 1)), (0, va_rf (some this))]) (i := 2) (x := (nI 0)) dX1_read_17 rfl rfl (by decide) rfl ?_
  exact R_sub [2, 1, 0] rfl (rf_X1_read_L18 this FU (nI 1) (nI 0) M)
/-! BarPilot$Book.<init>()V -/
def f_X2_init (this : Nat) (M : Mem) : Option (Unit × Mem) :=
  newO M 8 fun a1 M =>
  cl (f_X8_init a1 M) fun u2 M =>
  (pR M 2 0 (some this) (some a1)).bind fun M =>
  newO M 6 fun a3 M =>
  cl (f_X6_init a3 M) fun u4 M =>
  (pR M 2 1 (some this) (some a3)).bind fun M =>
  newA M 0 (nI 10) fun a5 M =>
  (pR M 2 2 (some this) (some a5)).bind fun M =>
  newA M 0 (nI 10) fun a6 M =>
  (pR M 2 3 (some this) (some a6)).bind fun M =>
  newA M 0 (nI 10) fun a7 M =>
  (pR M 2 4 (some this) (some a7)).bind fun M =>
  (pI M 2 8 (some this) (-1 : Int32)).bind fun M =>
  newA M 0 (nI 380) fun a8 M =>
  (pR M 2 9 (some this) (some a8)).bind fun M =>
  some ((), M)
set_option maxHeartbeats 2000000 in
set_option maxRecDepth 20000 in
theorem rm_X2_init (this : Nat) (M : Mem) : RFm yX2_init cX2_init 1 none 3 eV (f_X2_init this M) [va_rf (some this)] M := by
  refine RFm_of (L := [(0, va_rf (some this))]) (by decide) rfl (Nat.le_trans (c_R c_0) (by decide)) ?_
  rw [f_X2_init]
  refine R_aloadq_n (pc' := 1) (i := 0) (j := 0) (q := (some this)) dX2_init_0 rfl rfl rfl ?_
  refine R_objInit (pc' := 4) (a := this) lko_X2_3 ob_in ob_co dX2_init_1 rfl (by decide) (Nat.le_trans c_0 (by decide)) ?_
  refine R_aloadq_n (pc' := 5) (i := 0) (j := 0) (q := (some this)) dX2_init_4 rfl rfl rfl ?_
  refine R_new (pc' := 8) cl_X8 ck_X2_9 dX2_init_5 rfl (fun a1 M => ?_)
  refine R_dup (pc' := 9) dX2_init_8 rfl (rf_cat _) ?_
  refine R_callIN_V (pc' := 12) (a := a1) (As := []) (host := "BarPilot") (rm_X8_init a1 M) mf_X8_init (fun _ h => h.1.2.2.2) im_X8_init rfl rfl rfl dX2_init_9 rfl (by decide) (Nat.le_trans (c_R (c_R c_0)) (by decide)) (fun u2 M => ?_)
  refine R_putR (pc' := 15) (q := (some this)) (x := (some a1)) fl_X2_12 rfl (Or.inr ⟨rfl, rfl⟩) dX2_init_12 rfl (fun M => ?_)
  refine R_aloadq_n (pc' := 16) (i := 0) (j := 0) (q := (some this)) dX2_init_15 rfl rfl rfl ?_
  refine R_new (pc' := 19) cl_X6 ck_X2_18 dX2_init_16 rfl (fun a3 M => ?_)
  refine R_dup (pc' := 20) dX2_init_19 rfl (rf_cat _) ?_
  refine R_callI_V (pc' := 23) (a := a3) (As := []) (rm_X6_init a3 M) mf_X6_init lk_X2_20 im_X6_init rfl rfl rfl dX2_init_20 rfl (by decide) (Nat.le_trans (c_R (c_R c_0)) (by decide)) (fun u4 M => ?_)
  refine R_putR (pc' := 26) (q := (some this)) (x := (some a3)) fl_X2_21 rfl (Or.inr ⟨rfl, rfl⟩) dX2_init_23 rfl (fun M => ?_)
  refine R_aloadq_n (pc' := 27) (i := 0) (j := 0) (q := (some this)) dX2_init_26 rfl rfl rfl ?_
  refine R_bipush (pc' := 29) (x := (nI 10)) dX2_init_27 rfl (by decide) ?_
  refine R_newa (pc' := 31) (at0 := .int) (ty := .int) (t := 0) (n := (nI 10)) rfl rfl (by decide) ac_int (by decide) rfl dX2_init_29 rfl (fun a5 M => ?_)
  refine R_putR (pc' := 34) (q := (some this)) (x := (some a5)) fl_X2_25 rfl (Or.inr ⟨rfl, rfl⟩) dX2_init_31 rfl (fun M => ?_)
  refine R_aloadq_n (pc' := 35) (i := 0) (j := 0) (q := (some this)) dX2_init_34 rfl rfl rfl ?_
  refine R_bipush (pc' := 37) (x := (nI 10)) dX2_init_35 rfl (by decide) ?_
  refine R_newa (pc' := 39) (at0 := .int) (ty := .int) (t := 0) (n := (nI 10)) rfl rfl (by decide) ac_int (by decide) rfl dX2_init_37 rfl (fun a6 M => ?_)
  refine R_putR (pc' := 42) (q := (some this)) (x := (some a6)) fl_X2_29 rfl (Or.inr ⟨rfl, rfl⟩) dX2_init_39 rfl (fun M => ?_)
  refine R_aloadq_n (pc' := 43) (i := 0) (j := 0) (q := (some this)) dX2_init_42 rfl rfl rfl ?_
  refine R_bipush (pc' := 45) (x := (nI 10)) dX2_init_43 rfl (by decide) ?_
  refine R_newa (pc' := 47) (at0 := .int) (ty := .int) (t := 0) (n := (nI 10)) rfl rfl (by decide) ac_int (by decide) rfl dX2_init_45 rfl (fun a7 M => ?_)
  refine R_putR (pc' := 50) (q := (some this)) (x := (some a7)) fl_X2_32 rfl (Or.inr ⟨rfl, rfl⟩) dX2_init_47 rfl (fun M => ?_)
  refine R_aloadq_n (pc' := 51) (i := 0) (j := 0) (q := (some this)) dX2_init_50 rfl rfl rfl ?_
  refine R_iconst (pc' := 52) (x := (-1 : Int32)) dX2_init_51 rfl (by decide) ?_
  refine R_putI (pc' := 55) (q := (some this)) (x := (-1 : Int32)) fl_X2_35 (Or.inl rfl) dX2_init_52 rfl (fun M => ?_)
  refine R_aloadq_n (pc' := 56) (i := 0) (j := 0) (q := (some this)) dX2_init_55 rfl rfl rfl ?_
  refine R_sipush (pc' := 59) (x := (nI 380)) dX2_init_56 rfl (by decide) ?_
  refine R_newa (pc' := 61) (at0 := .int) (ty := .int) (t := 0) (n := (nI 380)) rfl rfl (by decide) ac_int (by decide) rfl dX2_init_59 rfl (fun a8 M => ?_)
  refine R_putR (pc' := 64) (q := (some this)) (x := (some a8)) fl_X2_39 rfl (Or.inr ⟨rfl, rfl⟩) dX2_init_61 rfl (fun M => ?_)
  exact R_vret dX2_init_64
/-! BarPilot$Book.open(LBarPilot$Told;)V -/
def f_X2_open (this : Nat) (l1 : Option Nat) (M : Mem) : Option (Unit × Mem) :=
  (gR M 2 0 (some this)).bind fun told1 =>
  (oO M 8 told1).bind fun o8 => cl (f_X8_copyFrom o8 l1 M) fun u2 M =>
  (gR M 2 0 (some this)).bind fun told3 =>
  ckZ (nI 1) ((pI M 8 0 told3 (nI 1)).bind fun M =>
  (gR M 2 1 (some this)).bind fun scene4 =>
  (gR M 2 0 (some this)).bind fun told5 =>
  (oO M 6 scene4).bind fun o7 => cl (f_X6_begin o7 told5 M) fun u6 M =>
  (pI M 2 5 (some this) (nI 0)).bind fun M =>
  (pI M 2 6 (some this) (nI 0)).bind fun M =>
  some ((), M))
set_option maxHeartbeats 2000000 in
set_option maxRecDepth 20000 in
theorem rm_X2_open (this : Nat) (l1 : Option Nat) (M : Mem) : RFm yX2_open cX2_open 2 none 3 eV (f_X2_open this l1 M) [va_rf (some this), va_rf l1] M := by
  refine RFm_of (L := [(0, va_rf (some this)), (1, va_rf l1)]) (by decide) (by simp only [lva_R, lva_I, lva_L, lva_C, lva_0]) (Nat.le_trans (c_R (c_R c_0)) (by decide)) ?_
  rw [f_X2_open]
  refine R_aloadq_n (pc' := 1) (i := 0) (j := 0) (q := (some this)) dX2_open_0 rfl rfl rfl ?_
  refine R_getR (pc' := 4) (q := (some this)) fl_X2_12 rfl dX2_open_1 rfl (fun told1 => ?_)
  refine R_aloadq_n (pc' := 5) (i := 1) (j := 1) (q := l1) dX2_open_4 rfl rfl rfl ?_
  refine R_callV_V (pc' := 8) (q := told1) (As := [va_rf l1]) (fun o8 => rm_X8_copyFrom o8 l1 M) mf_X8_copyFrom lk_X2_42 im_X8_copyFrom se_X8_copyFrom rfl rfl rfl dX2_open_5 rfl (by decide) (Nat.le_trans c_0 (by decide)) (fun u2 M => ?_)
  refine R_aloadq_n (pc' := 9) (i := 0) (j := 0) (q := (some this)) dX2_open_8 rfl rfl rfl ?_
  refine R_getR (pc' := 12) (q := (some this)) fl_X2_12 rfl dX2_open_9 rfl (fun told3 => ?_)
  refine R_iconst (pc' := 13) (x := (nI 1)) dX2_open_12 rfl (by decide) ?_
  refine R_putZ (pc' := 16) (q := told3) (x := (nI 1)) fl_X2_46 (Or.inl rfl) dX2_open_13 rfl (fun M => ?_)
  refine R_aloadq_n (pc' := 17) (i := 0) (j := 0) (q := (some this)) dX2_open_16 rfl rfl rfl ?_
  refine R_getR (pc' := 20) (q := (some this)) fl_X2_21 rfl dX2_open_17 rfl (fun scene4 => ?_)
  refine R_aloadq_n (pc' := 21) (i := 0) (j := 0) (q := (some this)) dX2_open_20 rfl rfl rfl ?_
  refine R_getR (pc' := 24) (q := (some this)) fl_X2_12 rfl dX2_open_21 rfl (fun told5 => ?_)
  refine R_callV_V (pc' := 27) (q := scene4) (As := [va_rf told5]) (fun o7 => rm_X6_begin o7 told5 M) mf_X6_begin lk_X2_50 im_X6_begin se_X6_begin rfl rfl rfl dX2_open_24 rfl (by decide) (Nat.le_trans c_0 (by decide)) (fun u6 M => ?_)
  refine R_aloadq_n (pc' := 28) (i := 0) (j := 0) (q := (some this)) dX2_open_27 rfl rfl rfl ?_
  refine R_iconst (pc' := 29) (x := (nI 0)) dX2_open_28 rfl (by decide) ?_
  refine R_putI (pc' := 32) (q := (some this)) (x := (nI 0)) fl_X2_53 (Or.inl rfl) dX2_open_29 rfl (fun M => ?_)
  refine R_aloadq_n (pc' := 33) (i := 0) (j := 0) (q := (some this)) dX2_open_32 rfl rfl rfl ?_
  refine R_iconst (pc' := 34) (x := (nI 0)) dX2_open_33 rfl (by decide) ?_
  refine R_putI (pc' := 37) (q := (some this)) (x := (nI 0)) fl_X2_56 (Or.inl rfl) dX2_open_34 rfl (fun M => ?_)
  exact R_vret dX2_open_37
/-! BarPilot$Book.keepAct()V -/
def f_X2_keepAct (this : Nat) (M : Mem) : Option (Unit × Mem) :=
  (gR M 2 1 (some this)).bind fun scene1 =>
  (gR M 2 9 (some this)).bind fun past2 =>
  (gI M 2 10 (some this)).bind fun head3 =>
  (oO M 6 scene1).bind fun o8 => cl (f_X6_store o8 past2 (head3 * (nI 19)) M) fun u4 M =>
  (gI M 2 10 (some this)).bind fun head5 =>
  if (nI 20) = 0 then none else
  (pI M 2 10 (some this) ((head5 + (nI 1)) - (head5 + (nI 1)) / (nI 20) * (nI 20))).bind fun M =>
  (gI M 2 6 (some this)).bind fun acts6 =>
  nm (if (acts6 + (nI 1)) < (nI 20) then (acts6 + (nI 1)) else (nI 20)) fun r7 =>
  (pI M 2 6 (some this) r7).bind fun M =>
  some ((), M)
set_option maxHeartbeats 2000000 in
set_option maxRecDepth 20000 in
theorem rm_X2_keepAct (this : Nat) (M : Mem) : RFm yX2_keepAct cX2_keepAct 1 none 2 eV (f_X2_keepAct this M) [va_rf (some this)] M := by
  refine RFm_of (L := [(0, va_rf (some this))]) (by decide) rfl (Nat.le_trans (c_R c_0) (by decide)) ?_
  rw [f_X2_keepAct]
  refine R_aloadq_n (pc' := 1) (i := 0) (j := 0) (q := (some this)) dX2_keepAct_0 rfl rfl rfl ?_
  refine R_getR (pc' := 4) (q := (some this)) fl_X2_21 rfl dX2_keepAct_1 rfl (fun scene1 => ?_)
  refine R_aloadq_n (pc' := 5) (i := 0) (j := 0) (q := (some this)) dX2_keepAct_4 rfl rfl rfl ?_
  refine R_getR (pc' := 8) (q := (some this)) fl_X2_39 rfl dX2_keepAct_5 rfl (fun past2 => ?_)
  refine R_aloadq_n (pc' := 9) (i := 0) (j := 0) (q := (some this)) dX2_keepAct_8 rfl rfl rfl ?_
  refine R_getI (pc' := 12) (q := (some this)) fl_X2_59 rfl dX2_keepAct_9 rfl (fun head3 => ?_)
  refine R_bipush (pc' := 14) (x := (nI 19)) dX2_keepAct_12 rfl (by decide) ?_
  refine R_imul (pc' := 15) (a := head3) (b := (nI 19)) dX2_keepAct_14 rfl ?_
  refine R_callV_V (pc' := 18) (q := scene1) (As := [va_rf past2, .int (head3 * (nI 19))]) (fun o8 => rm_X6_store o8 past2 (head3 * (nI 19)) M) mf_X6_store lk_X2_62 im_X6_store se_X6_store rfl rfl rfl dX2_keepAct_15 rfl (by decide) (Nat.le_trans c_0 (by decide)) (fun u4 M => ?_)
  refine R_aloadq_n (pc' := 19) (i := 0) (j := 0) (q := (some this)) dX2_keepAct_18 rfl rfl rfl ?_
  refine R_aloadq_n (pc' := 20) (i := 0) (j := 0) (q := (some this)) dX2_keepAct_19 rfl rfl rfl ?_
  refine R_getI (pc' := 23) (q := (some this)) fl_X2_59 rfl dX2_keepAct_20 rfl (fun head5 => ?_)
  refine R_iconst (pc' := 24) (x := (nI 1)) dX2_keepAct_23 rfl (by decide) ?_
  refine R_iadd (pc' := 25) (a := head5) (b := (nI 1)) dX2_keepAct_24 rfl ?_
  refine R_bipush (pc' := 27) (x := (nI 20)) dX2_keepAct_25 rfl (by decide) ?_
  refine R_irem (pc' := 28) (a := (head5 + (nI 1))) (b := (nI 20)) dX2_keepAct_27 rfl ?_
  refine R_putI (pc' := 31) (q := (some this)) (x := ((head5 + (nI 1)) - (head5 + (nI 1)) / (nI 20) * (nI 20))) fl_X2_59 (Or.inl rfl) dX2_keepAct_28 rfl (fun M => ?_)
  refine R_aloadq_n (pc' := 32) (i := 0) (j := 0) (q := (some this)) dX2_keepAct_31 rfl rfl rfl ?_
  refine R_bipush (pc' := 34) (x := (nI 20)) dX2_keepAct_32 rfl (by decide) ?_
  refine R_aloadq_n (pc' := 35) (i := 0) (j := 0) (q := (some this)) dX2_keepAct_34 rfl rfl rfl ?_
  refine R_getI (pc' := 38) (q := (some this)) fl_X2_56 rfl dX2_keepAct_35 rfl (fun acts6 => ?_)
  refine R_iconst (pc' := 39) (x := (nI 1)) dX2_keepAct_38 rfl (by decide) ?_
  refine R_iadd (pc' := 40) (a := acts6) (b := (nI 1)) dX2_keepAct_39 rfl ?_
  refine R_mmin (pc' := 43) (a := (nI 20)) (b := (acts6 + (nI 1))) lk_X2_66 dX2_keepAct_40 rfl (by decide) (Nat.le_trans (c_R c_0) (by decide)) ?_
  refine R_nmI (fun r7 => ?_)
  refine R_putI (pc' := 46) (q := (some this)) (x := r7) fl_X2_56 (Or.inl rfl) dX2_keepAct_43 rfl (fun M => ?_)
  exact R_vret dX2_keepAct_46
/-! BarPilot$Book.undoAct()Z -/
def f_X2_undoAct (this : Nat) (M : Mem) : Option (Int32 × Mem) :=
  (gI M 2 6 (some this)).bind fun acts1 =>
  (if acts1 = 0 then
    (ckZ (nI 0) (some ((nI 0), M)))
  else
    ((gI M 2 6 (some this)).bind fun acts2 =>
    (pI M 2 6 (some this) (acts2 - (nI 1))).bind fun M =>
    (gI M 2 10 (some this)).bind fun head3 =>
    if (nI 20) = 0 then none else
    (pI M 2 10 (some this) (((head3 + (nI 20)) - (nI 1)) - ((head3 + (nI 20)) - (nI 1)) / (nI 20) * (nI 20))).bind fun M =>
    (gR M 2 1 (some this)).bind fun scene4 =>
    (gR M 2 9 (some this)).bind fun past5 =>
    (gI M 2 10 (some this)).bind fun head6 =>
    (oO M 6 scene4).bind fun o8 => cl (f_X6_restore o8 past5 (head6 * (nI 19)) M) fun u7 M =>
    ckZ (nI 1) (some ((nI 1), M))))
set_option maxHeartbeats 2000000 in
set_option maxRecDepth 20000 in
theorem rm_X2_undoAct (this : Nat) (M : Mem) : RFm yX2_undoAct cX2_undoAct 1 (some .boolean) 2 eI (f_X2_undoAct this M) [va_rf (some this)] M := by
  refine RFm_of (L := [(0, va_rf (some this))]) (by decide) rfl (Nat.le_trans (c_R c_0) (by decide)) ?_
  rw [f_X2_undoAct]
  refine R_aloadq_n (pc' := 1) (i := 0) (j := 0) (q := (some this)) dX2_undoAct_0 rfl rfl rfl ?_
  refine R_getI (pc' := 4) (q := (some this)) fl_X2_56 rfl dX2_undoAct_1 rfl (fun acts1 => ?_)
  refine R_if_ne (pc' := 7) (tgt := 9) (a := acts1) dX2_undoAct_4 (by decide) rfl ?_ ?_
  · refine R_aloadq_n (pc' := 10) (i := 0) (j := 0) (q := (some this)) dX2_undoAct_9 rfl rfl rfl ?_
    refine R_dup (pc' := 11) dX2_undoAct_10 rfl (rf_cat _) ?_
    refine R_getI (pc' := 14) (q := (some this)) fl_X2_56 rfl dX2_undoAct_11 rfl (fun acts2 => ?_)
    refine R_iconst (pc' := 15) (x := (nI 1)) dX2_undoAct_14 rfl (by decide) ?_
    refine R_isub (pc' := 16) (a := acts2) (b := (nI 1)) dX2_undoAct_15 rfl ?_
    refine R_putI (pc' := 19) (q := (some this)) (x := (acts2 - (nI 1))) fl_X2_56 (Or.inl rfl) dX2_undoAct_16 rfl (fun M => ?_)
    refine R_aloadq_n (pc' := 20) (i := 0) (j := 0) (q := (some this)) dX2_undoAct_19 rfl rfl rfl ?_
    refine R_aloadq_n (pc' := 21) (i := 0) (j := 0) (q := (some this)) dX2_undoAct_20 rfl rfl rfl ?_
    refine R_getI (pc' := 24) (q := (some this)) fl_X2_59 rfl dX2_undoAct_21 rfl (fun head3 => ?_)
    refine R_bipush (pc' := 26) (x := (nI 20)) dX2_undoAct_24 rfl (by decide) ?_
    refine R_iadd (pc' := 27) (a := head3) (b := (nI 20)) dX2_undoAct_26 rfl ?_
    refine R_iconst (pc' := 28) (x := (nI 1)) dX2_undoAct_27 rfl (by decide) ?_
    refine R_isub (pc' := 29) (a := (head3 + (nI 20))) (b := (nI 1)) dX2_undoAct_28 rfl ?_
    refine R_bipush (pc' := 31) (x := (nI 20)) dX2_undoAct_29 rfl (by decide) ?_
    refine R_irem (pc' := 32) (a := ((head3 + (nI 20)) - (nI 1))) (b := (nI 20)) dX2_undoAct_31 rfl ?_
    refine R_putI (pc' := 35) (q := (some this)) (x := (((head3 + (nI 20)) - (nI 1)) - ((head3 + (nI 20)) - (nI 1)) / (nI 20) * (nI 20))) fl_X2_59 (Or.inl rfl) dX2_undoAct_32 rfl (fun M => ?_)
    refine R_aloadq_n (pc' := 36) (i := 0) (j := 0) (q := (some this)) dX2_undoAct_35 rfl rfl rfl ?_
    refine R_getR (pc' := 39) (q := (some this)) fl_X2_21 rfl dX2_undoAct_36 rfl (fun scene4 => ?_)
    refine R_aloadq_n (pc' := 40) (i := 0) (j := 0) (q := (some this)) dX2_undoAct_39 rfl rfl rfl ?_
    refine R_getR (pc' := 43) (q := (some this)) fl_X2_39 rfl dX2_undoAct_40 rfl (fun past5 => ?_)
    refine R_aloadq_n (pc' := 44) (i := 0) (j := 0) (q := (some this)) dX2_undoAct_43 rfl rfl rfl ?_
    refine R_getI (pc' := 47) (q := (some this)) fl_X2_59 rfl dX2_undoAct_44 rfl (fun head6 => ?_)
    refine R_bipush (pc' := 49) (x := (nI 19)) dX2_undoAct_47 rfl (by decide) ?_
    refine R_imul (pc' := 50) (a := head6) (b := (nI 19)) dX2_undoAct_49 rfl ?_
    refine R_callV_V (pc' := 53) (q := scene4) (As := [va_rf past5, .int (head6 * (nI 19))]) (fun o8 => rm_X6_restore o8 past5 (head6 * (nI 19)) M) mf_X6_restore lk_X2_72 im_X6_restore se_X6_restore rfl rfl rfl dX2_undoAct_50 rfl (by decide) (Nat.le_trans c_0 (by decide)) (fun u7 M => ?_)
    refine R_iconst (pc' := 54) (x := (nI 1)) dX2_undoAct_53 rfl (by decide) ?_
    exact R_bret dX2_undoAct_54
  · refine R_iconst (pc' := 8) (x := (nI 0)) dX2_undoAct_7 rfl (by decide) ?_
    exact R_bret dX2_undoAct_8
/-! BarPilot$Book.addNote(III)V -/
def f_X2_addNote (this : Nat) (l1 : Int32) (l2 : Int32) (l3 : Int32) (M : Mem) : Option (Unit × Mem) :=
  (gR M 2 2 (some this)).bind fun noteTide1 =>
  (gI M 2 5 (some this)).bind fun notes2 =>
  (wI M 0 noteTide1 notes2 l1).bind fun M =>
  (gR M 2 3 (some this)).bind fun noteShip3 =>
  (gI M 2 5 (some this)).bind fun notes4 =>
  (wI M 0 noteShip3 notes4 l2).bind fun M =>
  (gR M 2 4 (some this)).bind fun noteJoke5 =>
  (gI M 2 5 (some this)).bind fun notes6 =>
  (wI M 0 noteJoke5 notes6 l3).bind fun M =>
  (gI M 2 5 (some this)).bind fun notes7 =>
  (pI M 2 5 (some this) (notes7 + (nI 1))).bind fun M =>
  some ((), M)
set_option maxHeartbeats 2000000 in
set_option maxRecDepth 20000 in
theorem rm_X2_addNote (this : Nat) (l1 : Int32) (l2 : Int32) (l3 : Int32) (M : Mem) : RFm yX2_addNote cX2_addNote 4 none 1 eV (f_X2_addNote this l1 l2 l3 M) [va_rf (some this), .int l1, .int l2, .int l3] M := by
  refine RFm_of (L := [(0, va_rf (some this)), (1, .int l1), (2, .int l2), (3, .int l3)]) (by decide) rfl (Nat.le_trans (c_R (c_I (c_I (c_I c_0)))) (by decide)) ?_
  rw [f_X2_addNote]
  refine R_aloadq_n (pc' := 1) (i := 0) (j := 0) (q := (some this)) dX2_addNote_0 rfl rfl rfl ?_
  refine R_getR (pc' := 4) (q := (some this)) fl_X2_25 rfl dX2_addNote_1 rfl (fun noteTide1 => ?_)
  refine R_aloadq_n (pc' := 5) (i := 0) (j := 0) (q := (some this)) dX2_addNote_4 rfl rfl rfl ?_
  refine R_getI (pc' := 8) (q := (some this)) fl_X2_53 rfl dX2_addNote_5 rfl (fun notes2 => ?_)
  refine R_iload_n (pc' := 9) (i := 1) (j := 1) (x := l1) dX2_addNote_8 rfl rfl rfl ?_
  refine R_iast (pc' := 10) (q := noteTide1) (i := notes2) (x := l1) dX2_addNote_9 rfl (fun M => ?_)
  refine R_aloadq_n (pc' := 11) (i := 0) (j := 0) (q := (some this)) dX2_addNote_10 rfl rfl rfl ?_
  refine R_getR (pc' := 14) (q := (some this)) fl_X2_29 rfl dX2_addNote_11 rfl (fun noteShip3 => ?_)
  refine R_aloadq_n (pc' := 15) (i := 0) (j := 0) (q := (some this)) dX2_addNote_14 rfl rfl rfl ?_
  refine R_getI (pc' := 18) (q := (some this)) fl_X2_53 rfl dX2_addNote_15 rfl (fun notes4 => ?_)
  refine R_iload_n (pc' := 19) (i := 2) (j := 2) (x := l2) dX2_addNote_18 rfl rfl rfl ?_
  refine R_iast (pc' := 20) (q := noteShip3) (i := notes4) (x := l2) dX2_addNote_19 rfl (fun M => ?_)
  refine R_aloadq_n (pc' := 21) (i := 0) (j := 0) (q := (some this)) dX2_addNote_20 rfl rfl rfl ?_
  refine R_getR (pc' := 24) (q := (some this)) fl_X2_32 rfl dX2_addNote_21 rfl (fun noteJoke5 => ?_)
  refine R_aloadq_n (pc' := 25) (i := 0) (j := 0) (q := (some this)) dX2_addNote_24 rfl rfl rfl ?_
  refine R_getI (pc' := 28) (q := (some this)) fl_X2_53 rfl dX2_addNote_25 rfl (fun notes6 => ?_)
  refine R_iload_n (pc' := 29) (i := 3) (j := 3) (x := l3) dX2_addNote_28 rfl rfl rfl ?_
  refine R_iast (pc' := 30) (q := noteJoke5) (i := notes6) (x := l3) dX2_addNote_29 rfl (fun M => ?_)
  refine R_aloadq_n (pc' := 31) (i := 0) (j := 0) (q := (some this)) dX2_addNote_30 rfl rfl rfl ?_
  refine R_dup (pc' := 32) dX2_addNote_31 rfl (rf_cat _) ?_
  refine R_getI (pc' := 35) (q := (some this)) fl_X2_53 rfl dX2_addNote_32 rfl (fun notes7 => ?_)
  refine R_iconst (pc' := 36) (x := (nI 1)) dX2_addNote_35 rfl (by decide) ?_
  refine R_iadd (pc' := 37) (a := notes7) (b := (nI 1)) dX2_addNote_36 rfl ?_
  refine R_putI (pc' := 40) (q := (some this)) (x := (notes7 + (nI 1))) fl_X2_53 (Or.inl rfl) dX2_addNote_37 rfl (fun M => ?_)
  exact R_vret dX2_addNote_40
/-! BarPilot$Book.copyFrom(LBarPilot$Book;)V -/
def f_X2_copyFrom (this : Nat) (l1 : Option Nat) (M : Mem) : Option (Unit × Mem) :=
  (gR M 2 0 (some this)).bind fun told1 =>
  (gR M 2 0 l1).bind fun told2 =>
  (oO M 8 told1).bind fun o23 => cl (f_X8_copyFrom o23 told2 M) fun u3 M =>
  (gR M 2 1 (some this)).bind fun scene4 =>
  (gR M 2 1 l1).bind fun scene5 =>
  (oO M 6 scene4).bind fun o22 => cl (f_X6_copyFrom o22 scene5 M) fun u6 M =>
  (gR M 2 2 l1).bind fun noteTide7 =>
  (gR M 2 2 (some this)).bind fun noteTide8 =>
  (cpy M noteTide7 (nI 0) noteTide8 (nI 0) (nI 10)).bind fun M =>
  (gR M 2 3 l1).bind fun noteShip9 =>
  (gR M 2 3 (some this)).bind fun noteShip10 =>
  (cpy M noteShip9 (nI 0) noteShip10 (nI 0) (nI 10)).bind fun M =>
  (gR M 2 4 l1).bind fun noteJoke11 =>
  (gR M 2 4 (some this)).bind fun noteJoke12 =>
  (cpy M noteJoke11 (nI 0) noteJoke12 (nI 0) (nI 10)).bind fun M =>
  (gR M 2 9 l1).bind fun past13 =>
  (gR M 2 9 (some this)).bind fun past14 =>
  (gR M 2 9 (some this)).bind fun past15 =>
  (lnA M past15).bind fun len16 =>
  (cpy M past13 (nI 0) past14 (nI 0) len16).bind fun M =>
  (gI M 2 5 l1).bind fun notes17 =>
  (pI M 2 5 (some this) notes17).bind fun M =>
  (gI M 2 6 l1).bind fun acts18 =>
  (pI M 2 6 (some this) acts18).bind fun M =>
  (gI M 2 7 l1).bind fun x19 =>
  (pI M 2 7 (some this) x19).bind fun M =>
  (gI M 2 8 l1).bind fun force20 =>
  (pI M 2 8 (some this) force20).bind fun M =>
  (gI M 2 10 l1).bind fun head21 =>
  (pI M 2 10 (some this) head21).bind fun M =>
  some ((), M)
set_option maxHeartbeats 2000000 in
set_option maxRecDepth 20000 in
theorem rm_X2_copyFrom (this : Nat) (l1 : Option Nat) (M : Mem) : RFm yX2_copyFrom cX2_copyFrom 2 none 2 eV (f_X2_copyFrom this l1 M) [va_rf (some this), va_rf l1] M := by
  refine RFm_of (L := [(0, va_rf (some this)), (1, va_rf l1)]) (by decide) (by simp only [lva_R, lva_I, lva_L, lva_C, lva_0]) (Nat.le_trans (c_R (c_R c_0)) (by decide)) ?_
  rw [f_X2_copyFrom]
  refine R_aloadq_n (pc' := 1) (i := 0) (j := 0) (q := (some this)) dX2_copyFrom_0 rfl rfl rfl ?_
  refine R_getR (pc' := 4) (q := (some this)) fl_X2_12 rfl dX2_copyFrom_1 rfl (fun told1 => ?_)
  refine R_aloadq_n (pc' := 5) (i := 1) (j := 1) (q := l1) dX2_copyFrom_4 rfl rfl rfl ?_
  refine R_getR (pc' := 8) (q := l1) fl_X2_12 rfl dX2_copyFrom_5 rfl (fun told2 => ?_)
  refine R_callV_V (pc' := 11) (q := told1) (As := [va_rf told2]) (fun o23 => rm_X8_copyFrom o23 told2 M) mf_X8_copyFrom lk_X2_42 im_X8_copyFrom se_X8_copyFrom rfl rfl rfl dX2_copyFrom_8 rfl (by decide) (Nat.le_trans c_0 (by decide)) (fun u3 M => ?_)
  refine R_aloadq_n (pc' := 12) (i := 0) (j := 0) (q := (some this)) dX2_copyFrom_11 rfl rfl rfl ?_
  refine R_getR (pc' := 15) (q := (some this)) fl_X2_21 rfl dX2_copyFrom_12 rfl (fun scene4 => ?_)
  refine R_aloadq_n (pc' := 16) (i := 1) (j := 1) (q := l1) dX2_copyFrom_15 rfl rfl rfl ?_
  refine R_getR (pc' := 19) (q := l1) fl_X2_21 rfl dX2_copyFrom_16 rfl (fun scene5 => ?_)
  refine R_callV_V (pc' := 22) (q := scene4) (As := [va_rf scene5]) (fun o22 => rm_X6_copyFrom o22 scene5 M) mf_X6_copyFrom lk_X2_75 im_X6_copyFrom se_X6_copyFrom rfl rfl rfl dX2_copyFrom_19 rfl (by decide) (Nat.le_trans c_0 (by decide)) (fun u6 M => ?_)
  refine R_aloadq_n (pc' := 23) (i := 1) (j := 1) (q := l1) dX2_copyFrom_22 rfl rfl rfl ?_
  refine R_getR (pc' := 26) (q := l1) fl_X2_25 rfl dX2_copyFrom_23 rfl (fun noteTide7 => ?_)
  refine R_iconst (pc' := 27) (x := (nI 0)) dX2_copyFrom_26 rfl (by decide) ?_
  refine R_aloadq_n (pc' := 28) (i := 0) (j := 0) (q := (some this)) dX2_copyFrom_27 rfl rfl rfl ?_
  refine R_getR (pc' := 31) (q := (some this)) fl_X2_25 rfl dX2_copyFrom_28 rfl (fun noteTide8 => ?_)
  refine R_iconst (pc' := 32) (x := (nI 0)) dX2_copyFrom_31 rfl (by decide) ?_
  refine R_bipush (pc' := 34) (x := (nI 10)) dX2_copyFrom_32 rfl (by decide) ?_
  refine R_acopy (pc' := 37) (q0 := noteTide7) (sp := (nI 0)) (q1 := noteTide8) (dp := (nI 0)) (n := (nI 10)) lka_X2_78 sy_na sy_st sy_in dX2_copyFrom_34 rfl (by decide) (Nat.le_trans c_0 (by decide)) (fun M => ?_)
  refine R_aloadq_n (pc' := 38) (i := 1) (j := 1) (q := l1) dX2_copyFrom_37 rfl rfl rfl ?_
  refine R_getR (pc' := 41) (q := l1) fl_X2_29 rfl dX2_copyFrom_38 rfl (fun noteShip9 => ?_)
  refine R_iconst (pc' := 42) (x := (nI 0)) dX2_copyFrom_41 rfl (by decide) ?_
  refine R_aloadq_n (pc' := 43) (i := 0) (j := 0) (q := (some this)) dX2_copyFrom_42 rfl rfl rfl ?_
  refine R_getR (pc' := 46) (q := (some this)) fl_X2_29 rfl dX2_copyFrom_43 rfl (fun noteShip10 => ?_)
  refine R_iconst (pc' := 47) (x := (nI 0)) dX2_copyFrom_46 rfl (by decide) ?_
  refine R_bipush (pc' := 49) (x := (nI 10)) dX2_copyFrom_47 rfl (by decide) ?_
  refine R_acopy (pc' := 52) (q0 := noteShip9) (sp := (nI 0)) (q1 := noteShip10) (dp := (nI 0)) (n := (nI 10)) lka_X2_78 sy_na sy_st sy_in dX2_copyFrom_49 rfl (by decide) (Nat.le_trans c_0 (by decide)) (fun M => ?_)
  refine R_aloadq_n (pc' := 53) (i := 1) (j := 1) (q := l1) dX2_copyFrom_52 rfl rfl rfl ?_
  refine R_getR (pc' := 56) (q := l1) fl_X2_32 rfl dX2_copyFrom_53 rfl (fun noteJoke11 => ?_)
  refine R_iconst (pc' := 57) (x := (nI 0)) dX2_copyFrom_56 rfl (by decide) ?_
  refine R_aloadq_n (pc' := 58) (i := 0) (j := 0) (q := (some this)) dX2_copyFrom_57 rfl rfl rfl ?_
  refine R_getR (pc' := 61) (q := (some this)) fl_X2_32 rfl dX2_copyFrom_58 rfl (fun noteJoke12 => ?_)
  refine R_iconst (pc' := 62) (x := (nI 0)) dX2_copyFrom_61 rfl (by decide) ?_
  refine R_bipush (pc' := 64) (x := (nI 10)) dX2_copyFrom_62 rfl (by decide) ?_
  refine R_acopy (pc' := 67) (q0 := noteJoke11) (sp := (nI 0)) (q1 := noteJoke12) (dp := (nI 0)) (n := (nI 10)) lka_X2_78 sy_na sy_st sy_in dX2_copyFrom_64 rfl (by decide) (Nat.le_trans c_0 (by decide)) (fun M => ?_)
  refine R_aloadq_n (pc' := 68) (i := 1) (j := 1) (q := l1) dX2_copyFrom_67 rfl rfl rfl ?_
  refine R_getR (pc' := 71) (q := l1) fl_X2_39 rfl dX2_copyFrom_68 rfl (fun past13 => ?_)
  refine R_iconst (pc' := 72) (x := (nI 0)) dX2_copyFrom_71 rfl (by decide) ?_
  refine R_aloadq_n (pc' := 73) (i := 0) (j := 0) (q := (some this)) dX2_copyFrom_72 rfl rfl rfl ?_
  refine R_getR (pc' := 76) (q := (some this)) fl_X2_39 rfl dX2_copyFrom_73 rfl (fun past14 => ?_)
  refine R_iconst (pc' := 77) (x := (nI 0)) dX2_copyFrom_76 rfl (by decide) ?_
  refine R_aloadq_n (pc' := 78) (i := 0) (j := 0) (q := (some this)) dX2_copyFrom_77 rfl rfl rfl ?_
  refine R_getR (pc' := 81) (q := (some this)) fl_X2_39 rfl dX2_copyFrom_78 rfl (fun past15 => ?_)
  refine R_alen (pc' := 82) (q := past15) dX2_copyFrom_81 rfl (fun len16 => ?_)
  refine R_acopy (pc' := 85) (q0 := past13) (sp := (nI 0)) (q1 := past14) (dp := (nI 0)) (n := len16) lka_X2_78 sy_na sy_st sy_in dX2_copyFrom_82 rfl (by decide) (Nat.le_trans c_0 (by decide)) (fun M => ?_)
  refine R_aloadq_n (pc' := 86) (i := 0) (j := 0) (q := (some this)) dX2_copyFrom_85 rfl rfl rfl ?_
  refine R_aloadq_n (pc' := 87) (i := 1) (j := 1) (q := l1) dX2_copyFrom_86 rfl rfl rfl ?_
  refine R_getI (pc' := 90) (q := l1) fl_X2_53 rfl dX2_copyFrom_87 rfl (fun notes17 => ?_)
  refine R_putI (pc' := 93) (q := (some this)) (x := notes17) fl_X2_53 (Or.inl rfl) dX2_copyFrom_90 rfl (fun M => ?_)
  refine R_aloadq_n (pc' := 94) (i := 0) (j := 0) (q := (some this)) dX2_copyFrom_93 rfl rfl rfl ?_
  refine R_aloadq_n (pc' := 95) (i := 1) (j := 1) (q := l1) dX2_copyFrom_94 rfl rfl rfl ?_
  refine R_getI (pc' := 98) (q := l1) fl_X2_56 rfl dX2_copyFrom_95 rfl (fun acts18 => ?_)
  refine R_putI (pc' := 101) (q := (some this)) (x := acts18) fl_X2_56 (Or.inl rfl) dX2_copyFrom_98 rfl (fun M => ?_)
  refine R_aloadq_n (pc' := 102) (i := 0) (j := 0) (q := (some this)) dX2_copyFrom_101 rfl rfl rfl ?_
  refine R_aloadq_n (pc' := 103) (i := 1) (j := 1) (q := l1) dX2_copyFrom_102 rfl rfl rfl ?_
  refine R_getI (pc' := 106) (q := l1) fl_X2_84 rfl dX2_copyFrom_103 rfl (fun x19 => ?_)
  refine R_putI (pc' := 109) (q := (some this)) (x := x19) fl_X2_84 (Or.inl rfl) dX2_copyFrom_106 rfl (fun M => ?_)
  refine R_aloadq_n (pc' := 110) (i := 0) (j := 0) (q := (some this)) dX2_copyFrom_109 rfl rfl rfl ?_
  refine R_aloadq_n (pc' := 111) (i := 1) (j := 1) (q := l1) dX2_copyFrom_110 rfl rfl rfl ?_
  refine R_getI (pc' := 114) (q := l1) fl_X2_35 rfl dX2_copyFrom_111 rfl (fun force20 => ?_)
  refine R_putI (pc' := 117) (q := (some this)) (x := force20) fl_X2_35 (Or.inl rfl) dX2_copyFrom_114 rfl (fun M => ?_)
  refine R_aloadq_n (pc' := 118) (i := 0) (j := 0) (q := (some this)) dX2_copyFrom_117 rfl rfl rfl ?_
  refine R_aloadq_n (pc' := 119) (i := 1) (j := 1) (q := l1) dX2_copyFrom_118 rfl rfl rfl ?_
  refine R_getI (pc' := 122) (q := l1) fl_X2_59 rfl dX2_copyFrom_119 rfl (fun head21 => ?_)
  refine R_putI (pc' := 125) (q := (some this)) (x := head21) fl_X2_59 (Or.inl rfl) dX2_copyFrom_122 rfl (fun M => ?_)
  exact R_vret dX2_copyFrom_125
/-! BarPilot$Pilot.<init>(LBarPilot$Told;)V -/
def f_X3_init (this : Nat) (l1 : Option Nat) (M : Mem) : Option (Unit × Mem) :=
  newA M 0 (nI 5) fun a1 M =>
  (pR M 3 1 (some this) (some a1)).bind fun M =>
  newA M 0 (nI 11) fun a2 M =>
  (pR M 3 3 (some this) (some a2)).bind fun M =>
  (pR M 3 2 (some this) l1).bind fun M =>
  newO M 6 fun a3 M =>
  cl (f_X6_init a3 M) fun u4 M =>
  (pR M 3 4 (some this) (some a3)).bind fun M =>
  some ((), M)
set_option maxHeartbeats 2000000 in
set_option maxRecDepth 20000 in
theorem rm_X3_init (this : Nat) (l1 : Option Nat) (M : Mem) : RFm yX3_init cX3_init 2 none 3 eV (f_X3_init this l1 M) [va_rf (some this), va_rf l1] M := by
  refine RFm_of (L := [(0, va_rf (some this)), (1, va_rf l1)]) (by decide) (by simp only [lva_R, lva_I, lva_L, lva_C, lva_0]) (Nat.le_trans (c_R (c_R c_0)) (by decide)) ?_
  rw [f_X3_init]
  refine R_aloadq_n (pc' := 1) (i := 0) (j := 0) (q := (some this)) dX3_init_0 rfl rfl rfl ?_
  refine R_objInit (pc' := 4) (a := this) lko_X3_3 ob_in ob_co dX3_init_1 rfl (by decide) (Nat.le_trans c_0 (by decide)) ?_
  refine R_aloadq_n (pc' := 5) (i := 0) (j := 0) (q := (some this)) dX3_init_4 rfl rfl rfl ?_
  refine R_iconst (pc' := 6) (x := (nI 5)) dX3_init_5 rfl (by decide) ?_
  refine R_newa (pc' := 8) (at0 := .int) (ty := .int) (t := 0) (n := (nI 5)) rfl rfl (by decide) ac_int (by decide) rfl dX3_init_6 rfl (fun a1 M => ?_)
  refine R_putR (pc' := 11) (q := (some this)) (x := (some a1)) fl_X3_9 rfl (Or.inr ⟨rfl, rfl⟩) dX3_init_8 rfl (fun M => ?_)
  refine R_aloadq_n (pc' := 12) (i := 0) (j := 0) (q := (some this)) dX3_init_11 rfl rfl rfl ?_
  refine R_bipush (pc' := 14) (x := (nI 11)) dX3_init_12 rfl (by decide) ?_
  refine R_newa (pc' := 16) (at0 := .int) (ty := .int) (t := 0) (n := (nI 11)) rfl rfl (by decide) ac_int (by decide) rfl dX3_init_14 rfl (fun a2 M => ?_)
  refine R_putR (pc' := 19) (q := (some this)) (x := (some a2)) fl_X3_17 rfl (Or.inr ⟨rfl, rfl⟩) dX3_init_16 rfl (fun M => ?_)
  refine R_aloadq_n (pc' := 20) (i := 0) (j := 0) (q := (some this)) dX3_init_19 rfl rfl rfl ?_
  refine R_aloadq_n (pc' := 21) (i := 1) (j := 1) (q := l1) dX3_init_20 rfl rfl rfl ?_
  refine R_putR (pc' := 24) (q := (some this)) (x := l1) fl_X3_20 rfl (Or.inr ⟨rfl, rfl⟩) dX3_init_21 rfl (fun M => ?_)
  refine R_aloadq_n (pc' := 25) (i := 0) (j := 0) (q := (some this)) dX3_init_24 rfl rfl rfl ?_
  refine R_new (pc' := 28) cl_X6 ck_X3_24 dX3_init_25 rfl (fun a3 M => ?_)
  refine R_dup (pc' := 29) dX3_init_28 rfl (rf_cat _) ?_
  refine R_callI_V (pc' := 32) (a := a3) (As := []) (rm_X6_init a3 M) mf_X6_init lk_X3_26 im_X6_init rfl rfl rfl dX3_init_29 rfl (by decide) (Nat.le_trans (c_R (c_R c_0)) (by decide)) (fun u4 M => ?_)
  refine R_putR (pc' := 35) (q := (some this)) (x := (some a3)) fl_X3_27 rfl (Or.inl rfl) dX3_init_32 rfl (fun M => ?_)
  exact R_vret dX3_init_35
/-! BarPilot$Pilot.meet(LBarPilot$Scene;)V -/
def f_X3_meet (this : Nat) (l1 : Option Nat) (M : Mem) : Option (Unit × Mem) :=
  (pR M 3 4 (some this) l1).bind fun M =>
  (gR M 3 2 (some this)).bind fun told1 =>
  (oO M 8 told1).bind fun o6 => cl (f_X8_remembered o6 l1 M) fun r2 M =>
  (pI M 3 5 (some this) r2).bind fun M =>
  (gR M 3 2 (some this)).bind fun told3 =>
  (oO M 8 told3).bind fun o5 => cl (f_X8_waiting o5 l1 M) fun r4 M =>
  (pI M 3 6 (some this) r4).bind fun M =>
  ckZ (nI 1) ((pI M 3 7 (some this) (nI 1)).bind fun M =>
  some ((), M))
set_option maxHeartbeats 2000000 in
set_option maxRecDepth 20000 in
theorem rm_X3_meet (this : Nat) (l1 : Option Nat) (M : Mem) : RFm yX3_meet cX3_meet 2 none 2 eV (f_X3_meet this l1 M) [va_rf (some this), va_rf l1] M := by
  refine RFm_of (L := [(0, va_rf (some this)), (1, va_rf l1)]) (by decide) (by simp only [lva_R, lva_I, lva_L, lva_C, lva_0]) (Nat.le_trans (c_R (c_R c_0)) (by decide)) ?_
  rw [f_X3_meet]
  refine R_aloadq_n (pc' := 1) (i := 0) (j := 0) (q := (some this)) dX3_meet_0 rfl rfl rfl ?_
  refine R_aloadq_n (pc' := 2) (i := 1) (j := 1) (q := l1) dX3_meet_1 rfl rfl rfl ?_
  refine R_putR (pc' := 5) (q := (some this)) (x := l1) fl_X3_27 rfl (Or.inl rfl) dX3_meet_2 rfl (fun M => ?_)
  refine R_aloadq_n (pc' := 6) (i := 0) (j := 0) (q := (some this)) dX3_meet_5 rfl rfl rfl ?_
  refine R_aloadq_n (pc' := 7) (i := 0) (j := 0) (q := (some this)) dX3_meet_6 rfl rfl rfl ?_
  refine R_getR (pc' := 10) (q := (some this)) fl_X3_20 rfl dX3_meet_7 rfl (fun told1 => ?_)
  refine R_aloadq_n (pc' := 11) (i := 1) (j := 1) (q := l1) dX3_meet_10 rfl rfl rfl ?_
  refine R_callV_I (pc' := 14) (q := told1) (As := [va_rf l1]) (fun o6 => rm_X8_remembered o6 l1 M) mf_X8_remembered lk_X3_31 im_X8_remembered se_X8_remembered rfl rfl rfl dX3_meet_11 rfl (by decide) (Nat.le_trans (c_R c_0) (by decide)) (fun r2 M => ?_)
  refine R_putI (pc' := 17) (q := (some this)) (x := r2) fl_X3_37 (Or.inl rfl) dX3_meet_14 rfl (fun M => ?_)
  refine R_aloadq_n (pc' := 18) (i := 0) (j := 0) (q := (some this)) dX3_meet_17 rfl rfl rfl ?_
  refine R_aloadq_n (pc' := 19) (i := 0) (j := 0) (q := (some this)) dX3_meet_18 rfl rfl rfl ?_
  refine R_getR (pc' := 22) (q := (some this)) fl_X3_20 rfl dX3_meet_19 rfl (fun told3 => ?_)
  refine R_aloadq_n (pc' := 23) (i := 1) (j := 1) (q := l1) dX3_meet_22 rfl rfl rfl ?_
  refine R_callV_I (pc' := 26) (q := told3) (As := [va_rf l1]) (fun o5 => rm_X8_waiting o5 l1 M) mf_X8_waiting lk_X3_41 im_X8_waiting se_X8_waiting rfl rfl rfl dX3_meet_23 rfl (by decide) (Nat.le_trans (c_R c_0) (by decide)) (fun r4 M => ?_)
  refine R_putI (pc' := 29) (q := (some this)) (x := r4) fl_X3_44 (Or.inl rfl) dX3_meet_26 rfl (fun M => ?_)
  refine R_aloadq_n (pc' := 30) (i := 0) (j := 0) (q := (some this)) dX3_meet_29 rfl rfl rfl ?_
  refine R_iconst (pc' := 31) (x := (nI 1)) dX3_meet_30 rfl (by decide) ?_
  refine R_putZ (pc' := 34) (q := (some this)) (x := (nI 1)) fl_X3_46 (Or.inl rfl) dX3_meet_31 rfl (fun M => ?_)
  exact R_vret dX3_meet_34
/-! BarPilot$Pilot.hears(II)Z -/
def f_X3_hears_J47 (this : Nat) (l2 : Int32) (l3 : Int32) (M : Mem) : Option (Int32 × Mem) :=
  (gR M 3 4 (some this)).bind fun scene1 =>
  (gR M 6 1 scene1).bind fun heard2 =>
  (gR M 3 4 (some this)).bind fun scene3 =>
  (gI M 6 0 scene3).bind fun tide4 =>
  (wI M 0 heard2 l2 tide4).bind fun M =>
  (gI M 3 5 (some this)).bind fun memory5 =>
  (pI M 3 5 (some this) (memory5 ||| ((nI 1) <<< (l2 &&& 31)))).bind fun M =>
  ckZ (nI 0) ((pI M 3 7 (some this) (nI 0)).bind fun M =>
  ckZ l3 (some (l3, M)))
set_option maxHeartbeats 2000000 in
set_option maxRecDepth 20000 in
theorem rf_X3_hears_J47 (this : Nat) (l2 : Int32) (l3 : Int32) (M : Mem) : RF yX3_hears cX3_hears 4 (some .boolean) 2 eI (f_X3_hears_J47 this l2 l3 M) 47 [(0, va_rf (some this)), (2, .int l2), (3, .int l3)] [] M := by
  rw [f_X3_hears_J47]
  refine R_aloadq_n (pc' := 48) (i := 0) (j := 0) (q := (some this)) dX3_hears_47 rfl rfl rfl ?_
  refine R_getR (pc' := 51) (q := (some this)) fl_X3_27 rfl dX3_hears_48 rfl (fun scene1 => ?_)
  refine R_getR (pc' := 54) (q := scene1) fl_X3_78 rfl dX3_hears_51 rfl (fun heard2 => ?_)
  refine R_iload_n (pc' := 55) (i := 2) (j := 1) (x := l2) dX3_hears_54 rfl rfl rfl ?_
  refine R_aloadq_n (pc' := 56) (i := 0) (j := 0) (q := (some this)) dX3_hears_55 rfl rfl rfl ?_
  refine R_getR (pc' := 59) (q := (some this)) fl_X3_27 rfl dX3_hears_56 rfl (fun scene3 => ?_)
  refine R_getI (pc' := 62) (q := scene3) fl_X3_61 rfl dX3_hears_59 rfl (fun tide4 => ?_)
  refine R_iast (pc' := 63) (q := heard2) (i := l2) (x := tide4) dX3_hears_62 rfl (fun M => ?_)
  refine R_aloadq_n (pc' := 64) (i := 0) (j := 0) (q := (some this)) dX3_hears_63 rfl rfl rfl ?_
  refine R_dup (pc' := 65) dX3_hears_64 rfl (rf_cat _) ?_
  refine R_getI (pc' := 68) (q := (some this)) fl_X3_37 rfl dX3_hears_65 rfl (fun memory5 => ?_)
  refine R_iconst (pc' := 69) (x := (nI 1)) dX3_hears_68 rfl (by decide) ?_
  refine R_iload_n (pc' := 70) (i := 2) (j := 1) (x := l2) dX3_hears_69 rfl rfl rfl ?_
  refine R_ishl (pc' := 71) (a := (nI 1)) (b := l2) dX3_hears_70 rfl ?_
  refine R_ior (pc' := 72) (a := memory5) (b := ((nI 1) <<< (l2 &&& 31))) dX3_hears_71 rfl ?_
  refine R_putI (pc' := 75) (q := (some this)) (x := (memory5 ||| ((nI 1) <<< (l2 &&& 31)))) fl_X3_37 (Or.inl rfl) dX3_hears_72 rfl (fun M => ?_)
  refine R_aloadq_n (pc' := 76) (i := 0) (j := 0) (q := (some this)) dX3_hears_75 rfl rfl rfl ?_
  refine R_iconst (pc' := 77) (x := (nI 0)) dX3_hears_76 rfl (by decide) ?_
  refine R_putZ (pc' := 80) (q := (some this)) (x := (nI 0)) fl_X3_46 (Or.inl rfl) dX3_hears_77 rfl (fun M => ?_)
  refine R_iload_n (pc' := 81) (i := 3) (j := 2) (x := l3) dX3_hears_80 rfl rfl rfl ?_
  exact R_bret dX3_hears_81
def f_X3_hears (this : Nat) (l1 : Int32) (l2 : Int32) (M : Mem) : Option (Int32 × Mem) :=
  (gR M 3 2 (some this)).bind fun told1 =>
  (gI M 3 5 (some this)).bind fun memory2 =>
  (oO M 8 told1).bind fun o9 => cl (f_X8_isNew o9 l2 memory2 M) fun r3 M =>
  (if r3 = 0 then
    (f_X3_hears_J47 this l2 r3 M)
  else
    ((gR M 3 4 (some this)).bind fun scene4 =>
    (gR M 6 3 scene4).bind fun passed5 =>
    (gR M 3 4 (some this)).bind fun scene6 =>
    (gI M 6 0 scene6).bind fun tide7 =>
    (wI M 0 passed5 l1 tide7).bind fun M =>
    (gI M 3 6 (some this)).bind fun waiting8 =>
    (pI M 3 6 (some this) (waiting8 &&& (((nI 1) <<< (l1 &&& 31)) ^^^ (-1 : Int32)))).bind fun M =>
    f_X3_hears_J47 this l2 r3 M))
set_option maxHeartbeats 2000000 in
set_option maxRecDepth 20000 in
theorem rm_X3_hears (this : Nat) (l1 : Int32) (l2 : Int32) (M : Mem) : RFm yX3_hears cX3_hears 4 (some .boolean) 2 eI (f_X3_hears this l1 l2 M) [va_rf (some this), .int l1, .int l2] M := by
  refine RFm_of (L := [(0, va_rf (some this)), (1, .int l1), (2, .int l2)]) (by decide) rfl (Nat.le_trans (c_R (c_I (c_I c_0))) (by decide)) ?_
  rw [f_X3_hears]
  refine R_aloadq_n (pc' := 1) (i := 0) (j := 0) (q := (some this)) dX3_hears_0 rfl rfl rfl ?_
  refine R_getR (pc' := 4) (q := (some this)) fl_X3_20 rfl dX3_hears_1 rfl (fun told1 => ?_)
  refine R_iload_n (pc' := 5) (i := 2) (j := 2) (x := l2) dX3_hears_4 rfl rfl rfl ?_
  refine R_aloadq_n (pc' := 6) (i := 0) (j := 0) (q := (some this)) dX3_hears_5 rfl rfl rfl ?_
  refine R_getI (pc' := 9) (q := (some this)) fl_X3_37 rfl dX3_hears_6 rfl (fun memory2 => ?_)
  refine R_callV_I (pc' := 12) (q := told1) (As := [.int l2, .int memory2]) (fun o9 => rm_X8_isNew o9 l2 memory2 M) mf_X8_isNew lk_X3_72 im_X8_isNew se_X8_isNew rfl rfl rfl dX3_hears_9 rfl (by decide) (Nat.le_trans c_0 (by decide)) (fun r3 M => ?_)
  refine R_istore_n (pc' := 13) (L' := [(3, .int r3), (0, va_rf (some this)), (1, .int l1), (2, .int l2)]) (i := 3) (x := r3) dX3_hears_12 rfl rfl (by decide) rfl ?_
  refine R_iload_n (pc' := 14) (i := 3) (j := 0) (x := r3) dX3_hears_13 rfl rfl rfl ?_
  refine R_if_eq (pc' := 17) (tgt := 47) (a := r3) dX3_hears_14 (by decide) rfl ?_ ?_
  · exact R_sub [1, 3, 0] rfl (rf_X3_hears_J47 this l2 r3 M)
  · refine R_aloadq_n (pc' := 18) (i := 0) (j := 1) (q := (some this)) dX3_hears_17 rfl rfl rfl ?_
    refine R_getR (pc' := 21) (q := (some this)) fl_X3_27 rfl dX3_hears_18 rfl (fun scene4 => ?_)
    refine R_getR (pc' := 24) (q := scene4) fl_X3_75 rfl dX3_hears_21 rfl (fun passed5 => ?_)
    refine R_iload_n (pc' := 25) (i := 1) (j := 2) (x := l1) dX3_hears_24 rfl rfl rfl ?_
    refine R_aloadq_n (pc' := 26) (i := 0) (j := 1) (q := (some this)) dX3_hears_25 rfl rfl rfl ?_
    refine R_getR (pc' := 29) (q := (some this)) fl_X3_27 rfl dX3_hears_26 rfl (fun scene6 => ?_)
    refine R_getI (pc' := 32) (q := scene6) fl_X3_61 rfl dX3_hears_29 rfl (fun tide7 => ?_)
    refine R_iast (pc' := 33) (q := passed5) (i := l1) (x := tide7) dX3_hears_32 rfl (fun M => ?_)
    refine R_aloadq_n (pc' := 34) (i := 0) (j := 1) (q := (some this)) dX3_hears_33 rfl rfl rfl ?_
    refine R_dup (pc' := 35) dX3_hears_34 rfl (rf_cat _) ?_
    refine R_getI (pc' := 38) (q := (some this)) fl_X3_44 rfl dX3_hears_35 rfl (fun waiting8 => ?_)
    refine R_iconst (pc' := 39) (x := (nI 1)) dX3_hears_38 rfl (by decide) ?_
    refine R_iload_n (pc' := 40) (i := 1) (j := 2) (x := l1) dX3_hears_39 rfl rfl rfl ?_
    refine R_ishl (pc' := 41) (a := (nI 1)) (b := l1) dX3_hears_40 rfl ?_
    refine R_iconst (pc' := 42) (x := (-1 : Int32)) dX3_hears_41 rfl (by decide) ?_
    refine R_ixor (pc' := 43) (a := ((nI 1) <<< (l1 &&& 31))) (b := (-1 : Int32)) dX3_hears_42 rfl ?_
    refine R_iand (pc' := 44) (a := waiting8) (b := (((nI 1) <<< (l1 &&& 31)) ^^^ (-1 : Int32))) dX3_hears_43 rfl ?_
    refine R_putI (pc' := 47) (q := (some this)) (x := (waiting8 &&& (((nI 1) <<< (l1 &&& 31)) ^^^ (-1 : Int32)))) fl_X3_44 (Or.inl rfl) dX3_hears_44 rfl (fun M => ?_)
    exact R_sub [1, 3, 0] rfl (rf_X3_hears_J47 this l2 r3 M)
/-! BarPilot$Pilot.leastNew(I)I -/
def f_X3_leastNew_J48 (k12 : Int32 → Int32 → Mem → Option (Int32 × Mem)) (this : Nat) (l2 : Int32) (l3 : Int32) (M : Mem) : Option (Int32 × Mem) :=
  k12 l2 (l3 + (nI 1)) M
set_option maxHeartbeats 2000000 in
set_option maxRecDepth 20000 in
theorem rf_X3_leastNew_J48 (this : Nat) (k12 : Int32 → Int32 → Mem → Option (Int32 × Mem)) (hk12 : ∀ (l2 : Int32) (l3 : Int32) (M : Mem), RF yX3_leastNew cX3_leastNew 4 (some .int) 2 eI (k12 l2 l3 M) 12 [(0, va_rf (some this)), (2, .int l2), (3, .int l3)] [] M) (l2 : Int32) (l3 : Int32) (M : Mem) : RF yX3_leastNew cX3_leastNew 4 (some .int) 2 eI (f_X3_leastNew_J48 k12 this l2 l3 M) 48 [(0, va_rf (some this)), (2, .int l2), (3, .int l3)] [] M := by
  rw [f_X3_leastNew_J48]
  refine R_iinc (pc' := 51) (L' := [(3, .int (l3 + (nI 1))), (0, va_rf (some this)), (2, .int l2)]) (i := 3) (j := 2) (x := l3) (x2 := (l3 + (nI 1))) dX3_leastNew_48 rfl rfl rfl (by decide) rfl ?_
  refine R_goto (tgt := 12) dX3_leastNew_51 (by decide) ?_
  exact R_sub [1, 2, 0] rfl (hk12 l2 (l3 + (nI 1)) M)
def f_X3_leastNew_L12 (this : Nat) : Nat → Int32 → Int32 → Mem → Option (Int32 × Mem)
  | 0, _, _, _ => none
  | n + 1, l2, l3, M =>
    (gR M 3 2 (some this)).bind fun told1 =>
    (gI M 8 3 told1).bind fun jokes2 =>
    (if jokes2 ≤ l3 then
      (some ((-1 : Int32), M))
    else
      ((if ((l2 >>> (l3 &&& 31)) &&& (nI 1)) = 0 then
        (f_X3_leastNew_J48 (f_X3_leastNew_L12 this n) this l2 l3 M)
      else
        ((gR M 3 2 (some this)).bind fun told3 =>
        (gI M 3 5 (some this)).bind fun memory4 =>
        (oO M 8 told3).bind fun o6 => cl (f_X8_isNew o6 l3 memory4 M) fun r5 M =>
        (if r5 = 0 then
          (f_X3_leastNew_J48 (f_X3_leastNew_L12 this n) this l2 l3 M)
        else
          (some (l3, M)))))))
set_option maxHeartbeats 2000000 in
set_option maxRecDepth 20000 in
theorem rf_X3_leastNew_L12 (this : Nat) : ∀ (n : Nat) (l2 : Int32) (l3 : Int32) (M : Mem), RF yX3_leastNew cX3_leastNew 4 (some .int) 2 eI (f_X3_leastNew_L12 this n l2 l3 M) 12 [(0, va_rf (some this)), (2, .int l2), (3, .int l3)] [] M := by
  intro n
  induction n with
  | zero => intro _ _ _; exact RF.none
  | succ n ih =>
    intro l2 l3 M
    rw [f_X3_leastNew_L12]
    refine R_iload_n (pc' := 13) (i := 3) (j := 2) (x := l3) dX3_leastNew_12 rfl rfl rfl ?_
    refine R_aloadq_n (pc' := 14) (i := 0) (j := 0) (q := (some this)) dX3_leastNew_13 rfl rfl rfl ?_
    refine R_getR (pc' := 17) (q := (some this)) fl_X3_20 rfl dX3_leastNew_14 rfl (fun told1 => ?_)
    refine R_getI (pc' := 20) (q := told1) fl_X3_84 rfl dX3_leastNew_17 rfl (fun jokes2 => ?_)
    refine R_icmp_ge (pc' := 23) (tgt := 54) (a := l3) (b := jokes2) dX3_leastNew_20 (by decide) rfl ?_ ?_
    · refine R_iconst (pc' := 55) (x := (-1 : Int32)) dX3_leastNew_54 rfl (by decide) ?_
      exact R_iret dX3_leastNew_55
    · refine R_iload_n (pc' := 24) (i := 2) (j := 1) (x := l2) dX3_leastNew_23 rfl rfl rfl ?_
      refine R_iload_n (pc' := 25) (i := 3) (j := 2) (x := l3) dX3_leastNew_24 rfl rfl rfl ?_
      refine R_ishr (pc' := 26) (a := l2) (b := l3) dX3_leastNew_25 rfl ?_
      refine R_iconst (pc' := 27) (x := (nI 1)) dX3_leastNew_26 rfl (by decide) ?_
      refine R_iand (pc' := 28) (a := (l2 >>> (l3 &&& 31))) (b := (nI 1)) dX3_leastNew_27 rfl ?_
      refine R_if_eq (pc' := 31) (tgt := 48) (a := ((l2 >>> (l3 &&& 31)) &&& (nI 1))) dX3_leastNew_28 (by decide) rfl ?_ ?_
      · exact R_sub [0, 1, 2] rfl (rf_X3_leastNew_J48 this (f_X3_leastNew_L12 this n) ih l2 l3 M)
      · refine R_aloadq_n (pc' := 32) (i := 0) (j := 0) (q := (some this)) dX3_leastNew_31 rfl rfl rfl ?_
        refine R_getR (pc' := 35) (q := (some this)) fl_X3_20 rfl dX3_leastNew_32 rfl (fun told3 => ?_)
        refine R_iload_n (pc' := 36) (i := 3) (j := 2) (x := l3) dX3_leastNew_35 rfl rfl rfl ?_
        refine R_aloadq_n (pc' := 37) (i := 0) (j := 0) (q := (some this)) dX3_leastNew_36 rfl rfl rfl ?_
        refine R_getI (pc' := 40) (q := (some this)) fl_X3_37 rfl dX3_leastNew_37 rfl (fun memory4 => ?_)
        refine R_callV_I (pc' := 43) (q := told3) (As := [.int l3, .int memory4]) (fun o6 => rm_X8_isNew o6 l3 memory4 M) mf_X8_isNew lk_X3_72 im_X8_isNew se_X8_isNew rfl rfl rfl dX3_leastNew_40 rfl (by decide) (Nat.le_trans c_0 (by decide)) (fun r5 M => ?_)
        refine R_if_eq (pc' := 46) (tgt := 48) (a := r5) dX3_leastNew_43 (by decide) rfl ?_ ?_
        · exact R_sub [0, 1, 2] rfl (rf_X3_leastNew_J48 this (f_X3_leastNew_L12 this n) ih l2 l3 M)
        · refine R_iload_n (pc' := 47) (i := 3) (j := 2) (x := l3) dX3_leastNew_46 rfl rfl rfl ?_
          exact R_iret dX3_leastNew_47
def f_X3_leastNew (this : Nat) (l1 : Int32) (M : Mem) : Option (Int32 × Mem) :=
  (gR M 3 4 (some this)).bind fun scene1 =>
  (gR M 6 2 scene1).bind fun knows2 =>
  (aI M 0 knows2 l1).bind fun e3 =>
  f_X3_leastNew_L12 this FU e3 (nI 0) M
set_option maxHeartbeats 2000000 in
set_option maxRecDepth 20000 in
theorem rm_X3_leastNew (this : Nat) (l1 : Int32) (M : Mem) : RFm yX3_leastNew cX3_leastNew 4 (some .int) 2 eI (f_X3_leastNew this l1 M) [va_rf (some this), .int l1] M := by
  refine RFm_of (L := [(0, va_rf (some this)), (1, .int l1)]) (by decide) rfl (Nat.le_trans (c_R (c_I c_0)) (by decide)) ?_
  rw [f_X3_leastNew]
  refine R_aloadq_n (pc' := 1) (i := 0) (j := 0) (q := (some this)) dX3_leastNew_0 rfl rfl rfl ?_
  refine R_getR (pc' := 4) (q := (some this)) fl_X3_27 rfl dX3_leastNew_1 rfl (fun scene1 => ?_)
  refine R_getR (pc' := 7) (q := scene1) fl_X3_81 rfl dX3_leastNew_4 rfl (fun knows2 => ?_)
  refine R_iload_n (pc' := 8) (i := 1) (j := 1) (x := l1) dX3_leastNew_7 rfl rfl rfl ?_
  refine R_iald (pc' := 9) (q := knows2) (i := l1) dX3_leastNew_8 rfl (fun e3 => ?_)
  refine R_istore_n (pc' := 10) (L' := [(2, .int e3), (0, va_rf (some this)), (1, .int l1)]) (i := 2) (x := e3) dX3_leastNew_9 rfl rfl (by decide) rfl ?_
  refine R_iconst (pc' := 11) (x := (nI 0)) dX3_leastNew_10 rfl (by decide) ?_
  refine R_istore_n (pc' := 12) (L' := [(3, .int (nI 0)), (2, .int e3), (0, va_rf (some this)), (1, .int l1)]) (i := 3) (x := (nI 0)) dX3_leastNew_11 rfl rfl (by decide) rfl ?_
  exact R_sub [2, 1, 0] rfl (rf_X3_leastNew_L12 this FU e3 (nI 0) M)
/-! BarPilot$Pilot.howManyKnow(I)I -/
def f_X3_howManyKnow_L4 (this : Nat) : Nat → Int32 → Int32 → Int32 → Mem → Option (Int32 × Mem)
  | 0, _, _, _, _ => none
  | n + 1, l1, l2, l3, M =>
    (gR M 3 2 (some this)).bind fun told1 =>
    (gI M 8 4 told1).bind fun ships2 =>
    (if ships2 ≤ l3 then
      (some (l2, M))
    else
      ((gI M 3 6 (some this)).bind fun waiting3 =>
      (gR M 3 4 (some this)).bind fun scene4 =>
      (gR M 6 2 scene4).bind fun knows5 =>
      (aI M 0 knows5 l3).bind fun e6 =>
      nm (l2 + (((waiting3 >>> (l3 &&& 31)) &&& (e6 >>> (l1 &&& 31))) &&& (nI 1))) fun v7 =>
      (f_X3_howManyKnow_L4 this n) l1 v7 (l3 + (nI 1)) M))
set_option maxHeartbeats 2000000 in
set_option maxRecDepth 20000 in
theorem rf_X3_howManyKnow_L4 (this : Nat) : ∀ (n : Nat) (l1 : Int32) (l2 : Int32) (l3 : Int32) (M : Mem), RF yX3_howManyKnow cX3_howManyKnow 4 (some .int) 1 eI (f_X3_howManyKnow_L4 this n l1 l2 l3 M) 4 [(0, va_rf (some this)), (1, .int l1), (2, .int l2), (3, .int l3)] [] M := by
  intro n
  induction n with
  | zero => intro _ _ _ _; exact RF.none
  | succ n ih =>
    intro l1 l2 l3 M
    rw [f_X3_howManyKnow_L4]
    refine R_iload_n (pc' := 5) (i := 3) (j := 3) (x := l3) dX3_howManyKnow_4 rfl rfl rfl ?_
    refine R_aloadq_n (pc' := 6) (i := 0) (j := 0) (q := (some this)) dX3_howManyKnow_5 rfl rfl rfl ?_
    refine R_getR (pc' := 9) (q := (some this)) fl_X3_20 rfl dX3_howManyKnow_6 rfl (fun told1 => ?_)
    refine R_getI (pc' := 12) (q := told1) fl_X3_54 rfl dX3_howManyKnow_9 rfl (fun ships2 => ?_)
    refine R_icmp_ge (pc' := 15) (tgt := 44) (a := l3) (b := ships2) dX3_howManyKnow_12 (by decide) rfl ?_ ?_
    · refine R_iload_n (pc' := 45) (i := 2) (j := 2) (x := l2) dX3_howManyKnow_44 rfl rfl rfl ?_
      exact R_iret dX3_howManyKnow_45
    · refine R_iload_n (pc' := 16) (i := 2) (j := 2) (x := l2) dX3_howManyKnow_15 rfl rfl rfl ?_
      refine R_aloadq_n (pc' := 17) (i := 0) (j := 0) (q := (some this)) dX3_howManyKnow_16 rfl rfl rfl ?_
      refine R_getI (pc' := 20) (q := (some this)) fl_X3_44 rfl dX3_howManyKnow_17 rfl (fun waiting3 => ?_)
      refine R_iload_n (pc' := 21) (i := 3) (j := 3) (x := l3) dX3_howManyKnow_20 rfl rfl rfl ?_
      refine R_ishr (pc' := 22) (a := waiting3) (b := l3) dX3_howManyKnow_21 rfl ?_
      refine R_aloadq_n (pc' := 23) (i := 0) (j := 0) (q := (some this)) dX3_howManyKnow_22 rfl rfl rfl ?_
      refine R_getR (pc' := 26) (q := (some this)) fl_X3_27 rfl dX3_howManyKnow_23 rfl (fun scene4 => ?_)
      refine R_getR (pc' := 29) (q := scene4) fl_X3_81 rfl dX3_howManyKnow_26 rfl (fun knows5 => ?_)
      refine R_iload_n (pc' := 30) (i := 3) (j := 3) (x := l3) dX3_howManyKnow_29 rfl rfl rfl ?_
      refine R_iald (pc' := 31) (q := knows5) (i := l3) dX3_howManyKnow_30 rfl (fun e6 => ?_)
      refine R_iload_n (pc' := 32) (i := 1) (j := 1) (x := l1) dX3_howManyKnow_31 rfl rfl rfl ?_
      refine R_ishr (pc' := 33) (a := e6) (b := l1) dX3_howManyKnow_32 rfl ?_
      refine R_iand (pc' := 34) (a := (waiting3 >>> (l3 &&& 31))) (b := (e6 >>> (l1 &&& 31))) dX3_howManyKnow_33 rfl ?_
      refine R_iconst (pc' := 35) (x := (nI 1)) dX3_howManyKnow_34 rfl (by decide) ?_
      refine R_iand (pc' := 36) (a := ((waiting3 >>> (l3 &&& 31)) &&& (e6 >>> (l1 &&& 31)))) (b := (nI 1)) dX3_howManyKnow_35 rfl ?_
      refine R_iadd (pc' := 37) (a := l2) (b := (((waiting3 >>> (l3 &&& 31)) &&& (e6 >>> (l1 &&& 31))) &&& (nI 1))) dX3_howManyKnow_36 rfl ?_
      refine R_nmI (fun v7 => ?_)
      refine R_istore_n (pc' := 38) (L' := [(2, .int v7), (0, va_rf (some this)), (1, .int l1), (3, .int l3)]) (i := 2) (x := v7) dX3_howManyKnow_37 rfl rfl (by decide) rfl ?_
      refine R_iinc (pc' := 41) (L' := [(3, .int (l3 + (nI 1))), (2, .int v7), (0, va_rf (some this)), (1, .int l1)]) (i := 3) (j := 3) (x := l3) (x2 := (l3 + (nI 1))) dX3_howManyKnow_38 rfl rfl rfl (by decide) rfl ?_
      refine R_goto (tgt := 4) dX3_howManyKnow_41 (by decide) ?_
      exact R_sub [2, 3, 1, 0] rfl (ih l1 v7 (l3 + (nI 1)) M)
def f_X3_howManyKnow (this : Nat) (l1 : Int32) (M : Mem) : Option (Int32 × Mem) :=
  f_X3_howManyKnow_L4 this FU l1 (nI 0) (nI 0) M
set_option maxHeartbeats 2000000 in
set_option maxRecDepth 20000 in
theorem rm_X3_howManyKnow (this : Nat) (l1 : Int32) (M : Mem) : RFm yX3_howManyKnow cX3_howManyKnow 4 (some .int) 1 eI (f_X3_howManyKnow this l1 M) [va_rf (some this), .int l1] M := by
  refine RFm_of (L := [(0, va_rf (some this)), (1, .int l1)]) (by decide) rfl (Nat.le_trans (c_R (c_I c_0)) (by decide)) ?_
  rw [f_X3_howManyKnow]
  refine R_iconst (pc' := 1) (x := (nI 0)) dX3_howManyKnow_0 rfl (by decide) ?_
  refine R_istore_n (pc' := 2) (L' := [(2, .int (nI 0)), (0, va_rf (some this)), (1, .int l1)]) (i := 2) (x := (nI 0)) dX3_howManyKnow_1 rfl rfl (by decide) rfl ?_
  refine R_iconst (pc' := 3) (x := (nI 0)) dX3_howManyKnow_2 rfl (by decide) ?_
  refine R_istore_n (pc' := 4) (L' := [(3, .int (nI 0)), (2, .int (nI 0)), (0, va_rf (some this)), (1, .int l1)]) (i := 3) (x := (nI 0)) dX3_howManyKnow_3 rfl rfl (by decide) rfl ?_
  exact R_sub [2, 3, 1, 0] rfl (rf_X3_howManyKnow_L4 this FU l1 (nI 0) (nI 0) M)
/-! BarPilot$Pilot.lookAtJoke(I)V -/
def f_X3_lookAtJoke_J105 (this : Nat) (s0 : Int32) (s1 : Int32) (s2 : Option Nat) (M : Mem) : Option (Unit × Mem) :=
  (wI M 0 s2 s1 s0).bind fun M =>
  some ((), M)
set_option maxHeartbeats 2000000 in
set_option maxRecDepth 20000 in
theorem rf_X3_lookAtJoke_J105 (this : Nat) (s0 : Int32) (s1 : Int32) (s2 : Option Nat) (M : Mem) : RF yX3_lookAtJoke cX3_lookAtJoke 2 none 2 eV (f_X3_lookAtJoke_J105 this s0 s1 s2 M) 105 [] [.int s0, .int s1, va_rf s2] M := by
  rw [f_X3_lookAtJoke_J105]
  refine R_iast (pc' := 106) (q := s2) (i := s1) (x := s0) dX3_lookAtJoke_105 rfl (fun M => ?_)
  exact R_vret dX3_lookAtJoke_106
def f_X3_lookAtJoke_J79 (this : Nat) (l1 : Int32) (s0 : Int32) (s1 : Int32) (s2 : Option Nat) (M : Mem) : Option (Unit × Mem) :=
  (wI M 0 s2 s1 s0).bind fun M =>
  (gR M 3 3 (some this)).bind fun values1 =>
  (gR M 3 0 (some this)).bind fun rule2 =>
  (gI M 4 2 rule2).bind fun asksKnown3 =>
  (if asksKnown3 = 0 then
    (f_X3_lookAtJoke_J105 this (nI 0) (nI 6) values1 M)
  else
    ((oO M 3 (some this)).bind fun o5 => cl (f_X3_howManyKnow o5 l1 M) fun r4 M =>
    f_X3_lookAtJoke_J105 this r4 (nI 6) values1 M))
set_option maxHeartbeats 2000000 in
set_option maxRecDepth 20000 in
theorem rf_X3_lookAtJoke_J79 (this : Nat) (l1 : Int32) (s0 : Int32) (s1 : Int32) (s2 : Option Nat) (M : Mem) : RF yX3_lookAtJoke cX3_lookAtJoke 2 none 2 eV (f_X3_lookAtJoke_J79 this l1 s0 s1 s2 M) 79 [(0, va_rf (some this)), (1, .int l1)] [.int s0, .int s1, va_rf s2] M := by
  rw [f_X3_lookAtJoke_J79]
  refine R_iast (pc' := 80) (q := s2) (i := s1) (x := s0) dX3_lookAtJoke_79 rfl (fun M => ?_)
  refine R_aloadq_n (pc' := 81) (i := 0) (j := 0) (q := (some this)) dX3_lookAtJoke_80 rfl rfl rfl ?_
  refine R_getR (pc' := 84) (q := (some this)) fl_X3_17 rfl dX3_lookAtJoke_81 rfl (fun values1 => ?_)
  refine R_bipush (pc' := 86) (x := (nI 6)) dX3_lookAtJoke_84 rfl (by decide) ?_
  refine R_aloadq_n (pc' := 87) (i := 0) (j := 0) (q := (some this)) dX3_lookAtJoke_86 rfl rfl rfl ?_
  refine R_getR (pc' := 90) (q := (some this)) fl_X3_87 rfl dX3_lookAtJoke_87 rfl (fun rule2 => ?_)
  refine R_getI (pc' := 93) (q := rule2) fl_X3_125 rfl dX3_lookAtJoke_90 rfl (fun asksKnown3 => ?_)
  refine R_if_eq (pc' := 96) (tgt := 104) (a := asksKnown3) dX3_lookAtJoke_93 (by decide) rfl ?_ ?_
  · refine R_iconst (pc' := 105) (x := (nI 0)) dX3_lookAtJoke_104 rfl (by decide) ?_
    exact R_sub [] rfl (rf_X3_lookAtJoke_J105 this (nI 0) (nI 6) values1 M)
  · refine R_aloadq_n (pc' := 97) (i := 0) (j := 0) (q := (some this)) dX3_lookAtJoke_96 rfl rfl rfl ?_
    refine R_iload_n (pc' := 98) (i := 1) (j := 1) (x := l1) dX3_lookAtJoke_97 rfl rfl rfl ?_
    refine R_callV_I (pc' := 101) (q := (some this)) (As := [.int l1]) (fun o5 => rm_X3_howManyKnow o5 l1 M) mf_X3_howManyKnow lk_X3_128 im_X3_howManyKnow se_X3_howManyKnow rfl rfl rfl dX3_lookAtJoke_98 rfl (by decide) (Nat.le_trans (c_I (c_R c_0)) (by decide)) (fun r4 M => ?_)
    refine R_goto (tgt := 105) dX3_lookAtJoke_101 (by decide) ?_
    exact R_sub [] rfl (rf_X3_lookAtJoke_J105 this r4 (nI 6) values1 M)
def f_X3_lookAtJoke_J32 (this : Nat) (l1 : Int32) (s0 : Int32) (s1 : Int32) (s2 : Option Nat) (M : Mem) : Option (Unit × Mem) :=
  (wI M 0 s2 s1 s0).bind fun M =>
  (gR M 3 3 (some this)).bind fun values1 =>
  (gR M 3 4 (some this)).bind fun scene2 =>
  (oO M 6 scene2).bind fun o11 => cl (f_X6_since o11 l1 M) fun r3 M =>
  (wI M 0 values1 (nI 8) r3).bind fun M =>
  (gR M 3 3 (some this)).bind fun values4 =>
  (gR M 3 0 (some this)).bind fun rule5 =>
  (gI M 4 1 rule5).bind fun asksLike6 =>
  (if asksLike6 = 0 then
    (f_X3_lookAtJoke_J79 this l1 (nI 0) (nI 4) values4 M)
  else
    ((gR M 3 2 (some this)).bind fun told7 =>
    (gI M 3 5 (some this)).bind fun memory8 =>
    (oO M 8 told7).bind fun o10 => cl (f_X8_mostAlike o10 l1 memory8 M) fun r9 M =>
    f_X3_lookAtJoke_J79 this l1 r9 (nI 4) values4 M))
set_option maxHeartbeats 2000000 in
set_option maxRecDepth 20000 in
theorem rf_X3_lookAtJoke_J32 (this : Nat) (l1 : Int32) (s0 : Int32) (s1 : Int32) (s2 : Option Nat) (M : Mem) : RF yX3_lookAtJoke cX3_lookAtJoke 2 none 2 eV (f_X3_lookAtJoke_J32 this l1 s0 s1 s2 M) 32 [(0, va_rf (some this)), (1, .int l1)] [.int s0, .int s1, va_rf s2] M := by
  rw [f_X3_lookAtJoke_J32]
  refine R_iast (pc' := 33) (q := s2) (i := s1) (x := s0) dX3_lookAtJoke_32 rfl (fun M => ?_)
  refine R_aloadq_n (pc' := 34) (i := 0) (j := 0) (q := (some this)) dX3_lookAtJoke_33 rfl rfl rfl ?_
  refine R_getR (pc' := 37) (q := (some this)) fl_X3_17 rfl dX3_lookAtJoke_34 rfl (fun values1 => ?_)
  refine R_bipush (pc' := 39) (x := (nI 8)) dX3_lookAtJoke_37 rfl (by decide) ?_
  refine R_aloadq_n (pc' := 40) (i := 0) (j := 0) (q := (some this)) dX3_lookAtJoke_39 rfl rfl rfl ?_
  refine R_getR (pc' := 43) (q := (some this)) fl_X3_27 rfl dX3_lookAtJoke_40 rfl (fun scene2 => ?_)
  refine R_iload_n (pc' := 44) (i := 1) (j := 1) (x := l1) dX3_lookAtJoke_43 rfl rfl rfl ?_
  refine R_callV_I (pc' := 47) (q := scene2) (As := [.int l1]) (fun o11 => rm_X6_since o11 l1 M) mf_X6_since lk_X3_116 im_X6_since se_X6_since rfl rfl rfl dX3_lookAtJoke_44 rfl (by decide) (Nat.le_trans (c_I (c_R c_0)) (by decide)) (fun r3 M => ?_)
  refine R_iast (pc' := 48) (q := values1) (i := (nI 8)) (x := r3) dX3_lookAtJoke_47 rfl (fun M => ?_)
  refine R_aloadq_n (pc' := 49) (i := 0) (j := 0) (q := (some this)) dX3_lookAtJoke_48 rfl rfl rfl ?_
  refine R_getR (pc' := 52) (q := (some this)) fl_X3_17 rfl dX3_lookAtJoke_49 rfl (fun values4 => ?_)
  refine R_iconst (pc' := 53) (x := (nI 4)) dX3_lookAtJoke_52 rfl (by decide) ?_
  refine R_aloadq_n (pc' := 54) (i := 0) (j := 0) (q := (some this)) dX3_lookAtJoke_53 rfl rfl rfl ?_
  refine R_getR (pc' := 57) (q := (some this)) fl_X3_87 rfl dX3_lookAtJoke_54 rfl (fun rule5 => ?_)
  refine R_getI (pc' := 60) (q := rule5) fl_X3_119 rfl dX3_lookAtJoke_57 rfl (fun asksLike6 => ?_)
  refine R_if_eq (pc' := 63) (tgt := 78) (a := asksLike6) dX3_lookAtJoke_60 (by decide) rfl ?_ ?_
  · refine R_iconst (pc' := 79) (x := (nI 0)) dX3_lookAtJoke_78 rfl (by decide) ?_
    exact R_sub [0, 1] rfl (rf_X3_lookAtJoke_J79 this l1 (nI 0) (nI 4) values4 M)
  · refine R_aloadq_n (pc' := 64) (i := 0) (j := 0) (q := (some this)) dX3_lookAtJoke_63 rfl rfl rfl ?_
    refine R_getR (pc' := 67) (q := (some this)) fl_X3_20 rfl dX3_lookAtJoke_64 rfl (fun told7 => ?_)
    refine R_iload_n (pc' := 68) (i := 1) (j := 1) (x := l1) dX3_lookAtJoke_67 rfl rfl rfl ?_
    refine R_aloadq_n (pc' := 69) (i := 0) (j := 0) (q := (some this)) dX3_lookAtJoke_68 rfl rfl rfl ?_
    refine R_getI (pc' := 72) (q := (some this)) fl_X3_37 rfl dX3_lookAtJoke_69 rfl (fun memory8 => ?_)
    refine R_callV_I (pc' := 75) (q := told7) (As := [.int l1, .int memory8]) (fun o10 => rm_X8_mostAlike o10 l1 memory8 M) mf_X8_mostAlike lk_X3_122 im_X8_mostAlike se_X8_mostAlike rfl rfl rfl dX3_lookAtJoke_72 rfl (by decide) (Nat.le_trans (c_I (c_R c_0)) (by decide)) (fun r9 M => ?_)
    refine R_goto (tgt := 79) dX3_lookAtJoke_75 (by decide) ?_
    exact R_sub [0, 1] rfl (rf_X3_lookAtJoke_J79 this l1 r9 (nI 4) values4 M)
def f_X3_lookAtJoke (this : Nat) (l1 : Int32) (M : Mem) : Option (Unit × Mem) :=
  (gR M 3 3 (some this)).bind fun values1 =>
  (wI M 0 values1 (nI 1) l1).bind fun M =>
  (gR M 3 3 (some this)).bind fun values2 =>
  (gR M 3 2 (some this)).bind fun told3 =>
  (gI M 3 5 (some this)).bind fun memory4 =>
  (oO M 8 told3).bind fun o6 => cl (f_X8_isNew o6 l1 memory4 M) fun r5 M =>
  (if r5 = 0 then
    (f_X3_lookAtJoke_J32 this l1 (nI 0) (nI 5) values2 M)
  else
    (f_X3_lookAtJoke_J32 this l1 (nI 1) (nI 5) values2 M))
set_option maxHeartbeats 2000000 in
set_option maxRecDepth 20000 in
theorem rm_X3_lookAtJoke (this : Nat) (l1 : Int32) (M : Mem) : RFm yX3_lookAtJoke cX3_lookAtJoke 2 none 2 eV (f_X3_lookAtJoke this l1 M) [va_rf (some this), .int l1] M := by
  refine RFm_of (L := [(0, va_rf (some this)), (1, .int l1)]) (by decide) rfl (Nat.le_trans (c_R (c_I c_0)) (by decide)) ?_
  rw [f_X3_lookAtJoke]
  refine R_aloadq_n (pc' := 1) (i := 0) (j := 0) (q := (some this)) dX3_lookAtJoke_0 rfl rfl rfl ?_
  refine R_getR (pc' := 4) (q := (some this)) fl_X3_17 rfl dX3_lookAtJoke_1 rfl (fun values1 => ?_)
  refine R_iconst (pc' := 5) (x := (nI 1)) dX3_lookAtJoke_4 rfl (by decide) ?_
  refine R_iload_n (pc' := 6) (i := 1) (j := 1) (x := l1) dX3_lookAtJoke_5 rfl rfl rfl ?_
  refine R_iast (pc' := 7) (q := values1) (i := (nI 1)) (x := l1) dX3_lookAtJoke_6 rfl (fun M => ?_)
  refine R_aloadq_n (pc' := 8) (i := 0) (j := 0) (q := (some this)) dX3_lookAtJoke_7 rfl rfl rfl ?_
  refine R_getR (pc' := 11) (q := (some this)) fl_X3_17 rfl dX3_lookAtJoke_8 rfl (fun values2 => ?_)
  refine R_iconst (pc' := 12) (x := (nI 5)) dX3_lookAtJoke_11 rfl (by decide) ?_
  refine R_aloadq_n (pc' := 13) (i := 0) (j := 0) (q := (some this)) dX3_lookAtJoke_12 rfl rfl rfl ?_
  refine R_getR (pc' := 16) (q := (some this)) fl_X3_20 rfl dX3_lookAtJoke_13 rfl (fun told3 => ?_)
  refine R_iload_n (pc' := 17) (i := 1) (j := 1) (x := l1) dX3_lookAtJoke_16 rfl rfl rfl ?_
  refine R_aloadq_n (pc' := 18) (i := 0) (j := 0) (q := (some this)) dX3_lookAtJoke_17 rfl rfl rfl ?_
  refine R_getI (pc' := 21) (q := (some this)) fl_X3_37 rfl dX3_lookAtJoke_18 rfl (fun memory4 => ?_)
  refine R_callV_I (pc' := 24) (q := told3) (As := [.int l1, .int memory4]) (fun o6 => rm_X8_isNew o6 l1 memory4 M) mf_X8_isNew lk_X3_72 im_X8_isNew se_X8_isNew rfl rfl rfl dX3_lookAtJoke_21 rfl (by decide) (Nat.le_trans (c_I (c_R c_0)) (by decide)) (fun r5 M => ?_)
  refine R_if_eq (pc' := 27) (tgt := 31) (a := r5) dX3_lookAtJoke_24 (by decide) rfl ?_ ?_
  · refine R_iconst (pc' := 32) (x := (nI 0)) dX3_lookAtJoke_31 rfl (by decide) ?_
    exact R_sub [0, 1] rfl (rf_X3_lookAtJoke_J32 this l1 (nI 0) (nI 5) values2 M)
  · refine R_iconst (pc' := 28) (x := (nI 1)) dX3_lookAtJoke_27 rfl (by decide) ?_
    refine R_goto (tgt := 32) dX3_lookAtJoke_28 (by decide) ?_
    exact R_sub [0, 1] rfl (rf_X3_lookAtJoke_J32 this l1 (nI 1) (nI 5) values2 M)
/-! BarPilot$Pilot.lookAtShip(I)V -/
def f_X3_lookAtShip (this : Nat) (l1 : Int32) (M : Mem) : Option (Unit × Mem) :=
  (gI M 3 6 (some this)).bind fun waiting1 =>
  cl (f_J6_bitCount_0f7a4 waiting1 M) fun r2 M =>
  (gR M 3 3 (some this)).bind fun values3 =>
  (wI M 0 values3 (nI 0) l1).bind fun M =>
  (gR M 3 3 (some this)).bind fun values4 =>
  (gR M 3 2 (some this)).bind fun told5 =>
  (gR M 8 6 told5).bind fun cargo6 =>
  (aI M 0 cargo6 l1).bind fun e7 =>
  (wI M 0 values4 (nI 2) e7).bind fun M =>
  (gR M 3 3 (some this)).bind fun values8 =>
  (gR M 3 2 (some this)).bind fun told9 =>
  (gR M 8 7 told9).bind fun keeps10 =>
  (aI M 0 keeps10 l1).bind fun e11 =>
  (gR M 3 4 (some this)).bind fun scene12 =>
  (gI M 6 0 scene12).bind fun tide13 =>
  (wI M 0 values8 (nI 3) (e11 - tide13)).bind fun M =>
  (gR M 3 3 (some this)).bind fun values14 =>
  (wI M 0 values14 (nI 7) r2).bind fun M =>
  (gR M 3 3 (some this)).bind fun values15 =>
  (gR M 3 2 (some this)).bind fun told16 =>
  (gI M 8 4 told16).bind fun ships17 =>
  (wI M 0 values15 (nI 9) (ships17 - r2)).bind fun M =>
  (gR M 3 3 (some this)).bind fun values18 =>
  (gR M 3 4 (some this)).bind fun scene19 =>
  (gI M 6 0 scene19).bind fun tide20 =>
  (wI M 0 values18 (nI 10) tide20).bind fun M =>
  some ((), M)
set_option maxHeartbeats 2000000 in
set_option maxRecDepth 20000 in
theorem rm_X3_lookAtShip (this : Nat) (l1 : Int32) (M : Mem) : RFm yX3_lookAtShip cX3_lookAtShip 3 none 2 eV (f_X3_lookAtShip this l1 M) [va_rf (some this), .int l1] M := by
  refine RFm_of (L := [(0, va_rf (some this)), (1, .int l1)]) (by decide) rfl (Nat.le_trans (c_R (c_I c_0)) (by decide)) ?_
  rw [f_X3_lookAtShip]
  refine R_aloadq_n (pc' := 1) (i := 0) (j := 0) (q := (some this)) dX3_lookAtShip_0 rfl rfl rfl ?_
  refine R_getI (pc' := 4) (q := (some this)) fl_X3_44 rfl dX3_lookAtShip_1 rfl (fun waiting1 => ?_)
  refine R_callS_I (pc' := 7) (As := [.int waiting1]) (rm_J6_bitCount_0f7a4 waiting1 M) mf_J6_bitCount_0f7a4 lk_X3_105 sm_J6_bitCount_0f7a4 rfl rfl dX3_lookAtShip_4 rfl (by decide) (Nat.le_trans c_0 (by decide)) (fun r2 M => ?_)
  refine R_istore_n (pc' := 8) (L' := [(2, .int r2), (0, va_rf (some this)), (1, .int l1)]) (i := 2) (x := r2) dX3_lookAtShip_7 rfl rfl (by decide) rfl ?_
  refine R_aloadq_n (pc' := 9) (i := 0) (j := 1) (q := (some this)) dX3_lookAtShip_8 rfl rfl rfl ?_
  refine R_getR (pc' := 12) (q := (some this)) fl_X3_17 rfl dX3_lookAtShip_9 rfl (fun values3 => ?_)
  refine R_iconst (pc' := 13) (x := (nI 0)) dX3_lookAtShip_12 rfl (by decide) ?_
  refine R_iload_n (pc' := 14) (i := 1) (j := 2) (x := l1) dX3_lookAtShip_13 rfl rfl rfl ?_
  refine R_iast (pc' := 15) (q := values3) (i := (nI 0)) (x := l1) dX3_lookAtShip_14 rfl (fun M => ?_)
  refine R_aloadq_n (pc' := 16) (i := 0) (j := 1) (q := (some this)) dX3_lookAtShip_15 rfl rfl rfl ?_
  refine R_getR (pc' := 19) (q := (some this)) fl_X3_17 rfl dX3_lookAtShip_16 rfl (fun values4 => ?_)
  refine R_iconst (pc' := 20) (x := (nI 2)) dX3_lookAtShip_19 rfl (by decide) ?_
  refine R_aloadq_n (pc' := 21) (i := 0) (j := 1) (q := (some this)) dX3_lookAtShip_20 rfl rfl rfl ?_
  refine R_getR (pc' := 24) (q := (some this)) fl_X3_20 rfl dX3_lookAtShip_21 rfl (fun told5 => ?_)
  refine R_getR (pc' := 27) (q := told5) fl_X3_110 rfl dX3_lookAtShip_24 rfl (fun cargo6 => ?_)
  refine R_iload_n (pc' := 28) (i := 1) (j := 2) (x := l1) dX3_lookAtShip_27 rfl rfl rfl ?_
  refine R_iald (pc' := 29) (q := cargo6) (i := l1) dX3_lookAtShip_28 rfl (fun e7 => ?_)
  refine R_iast (pc' := 30) (q := values4) (i := (nI 2)) (x := e7) dX3_lookAtShip_29 rfl (fun M => ?_)
  refine R_aloadq_n (pc' := 31) (i := 0) (j := 1) (q := (some this)) dX3_lookAtShip_30 rfl rfl rfl ?_
  refine R_getR (pc' := 34) (q := (some this)) fl_X3_17 rfl dX3_lookAtShip_31 rfl (fun values8 => ?_)
  refine R_iconst (pc' := 35) (x := (nI 3)) dX3_lookAtShip_34 rfl (by decide) ?_
  refine R_aloadq_n (pc' := 36) (i := 0) (j := 1) (q := (some this)) dX3_lookAtShip_35 rfl rfl rfl ?_
  refine R_getR (pc' := 39) (q := (some this)) fl_X3_20 rfl dX3_lookAtShip_36 rfl (fun told9 => ?_)
  refine R_getR (pc' := 42) (q := told9) fl_X3_113 rfl dX3_lookAtShip_39 rfl (fun keeps10 => ?_)
  refine R_iload_n (pc' := 43) (i := 1) (j := 2) (x := l1) dX3_lookAtShip_42 rfl rfl rfl ?_
  refine R_iald (pc' := 44) (q := keeps10) (i := l1) dX3_lookAtShip_43 rfl (fun e11 => ?_)
  refine R_aloadq_n (pc' := 45) (i := 0) (j := 1) (q := (some this)) dX3_lookAtShip_44 rfl rfl rfl ?_
  refine R_getR (pc' := 48) (q := (some this)) fl_X3_27 rfl dX3_lookAtShip_45 rfl (fun scene12 => ?_)
  refine R_getI (pc' := 51) (q := scene12) fl_X3_61 rfl dX3_lookAtShip_48 rfl (fun tide13 => ?_)
  refine R_isub (pc' := 52) (a := e11) (b := tide13) dX3_lookAtShip_51 rfl ?_
  refine R_iast (pc' := 53) (q := values8) (i := (nI 3)) (x := (e11 - tide13)) dX3_lookAtShip_52 rfl (fun M => ?_)
  refine R_aloadq_n (pc' := 54) (i := 0) (j := 1) (q := (some this)) dX3_lookAtShip_53 rfl rfl rfl ?_
  refine R_getR (pc' := 57) (q := (some this)) fl_X3_17 rfl dX3_lookAtShip_54 rfl (fun values14 => ?_)
  refine R_bipush (pc' := 59) (x := (nI 7)) dX3_lookAtShip_57 rfl (by decide) ?_
  refine R_iload_n (pc' := 60) (i := 2) (j := 0) (x := r2) dX3_lookAtShip_59 rfl rfl rfl ?_
  refine R_iast (pc' := 61) (q := values14) (i := (nI 7)) (x := r2) dX3_lookAtShip_60 rfl (fun M => ?_)
  refine R_aloadq_n (pc' := 62) (i := 0) (j := 1) (q := (some this)) dX3_lookAtShip_61 rfl rfl rfl ?_
  refine R_getR (pc' := 65) (q := (some this)) fl_X3_17 rfl dX3_lookAtShip_62 rfl (fun values15 => ?_)
  refine R_bipush (pc' := 67) (x := (nI 9)) dX3_lookAtShip_65 rfl (by decide) ?_
  refine R_aloadq_n (pc' := 68) (i := 0) (j := 1) (q := (some this)) dX3_lookAtShip_67 rfl rfl rfl ?_
  refine R_getR (pc' := 71) (q := (some this)) fl_X3_20 rfl dX3_lookAtShip_68 rfl (fun told16 => ?_)
  refine R_getI (pc' := 74) (q := told16) fl_X3_54 rfl dX3_lookAtShip_71 rfl (fun ships17 => ?_)
  refine R_iload_n (pc' := 75) (i := 2) (j := 0) (x := r2) dX3_lookAtShip_74 rfl rfl rfl ?_
  refine R_isub (pc' := 76) (a := ships17) (b := r2) dX3_lookAtShip_75 rfl ?_
  refine R_iast (pc' := 77) (q := values15) (i := (nI 9)) (x := (ships17 - r2)) dX3_lookAtShip_76 rfl (fun M => ?_)
  refine R_aloadq_n (pc' := 78) (i := 0) (j := 1) (q := (some this)) dX3_lookAtShip_77 rfl rfl rfl ?_
  refine R_getR (pc' := 81) (q := (some this)) fl_X3_17 rfl dX3_lookAtShip_78 rfl (fun values18 => ?_)
  refine R_bipush (pc' := 83) (x := (nI 10)) dX3_lookAtShip_81 rfl (by decide) ?_
  refine R_aloadq_n (pc' := 84) (i := 0) (j := 1) (q := (some this)) dX3_lookAtShip_83 rfl rfl rfl ?_
  refine R_getR (pc' := 87) (q := (some this)) fl_X3_27 rfl dX3_lookAtShip_84 rfl (fun scene19 => ?_)
  refine R_getI (pc' := 90) (q := scene19) fl_X3_61 rfl dX3_lookAtShip_87 rfl (fun tide20 => ?_)
  refine R_iast (pc' := 91) (q := values18) (i := (nI 10)) (x := tide20) dX3_lookAtShip_90 rfl (fun M => ?_)
  exact R_vret dX3_lookAtShip_91
/-! BarPilot$Pilot.pick(I)I -/
def f_X3_pick_J91 (k36 : Int32 → Int32 → Int64 → Int32 → Mem → Option (Int32 × Mem)) (this : Nat) (l2 : Int32) (l3 : Int32) (l4 : Int64) (l6 : Int32) (M : Mem) : Option (Int32 × Mem) :=
  k36 l2 l3 l4 (l6 + (nI 1)) M
set_option maxHeartbeats 2000000 in
set_option maxRecDepth 20000 in
theorem rf_X3_pick_J91 (this : Nat) (k36 : Int32 → Int32 → Int64 → Int32 → Mem → Option (Int32 × Mem)) (hk36 : ∀ (l2 : Int32) (l3 : Int32) (l4 : Int64) (l6 : Int32) (M : Mem), RF yX3_pick cX3_pick 9 (some .int) 3 eI (k36 l2 l3 l4 l6 M) 36 [(0, va_rf (some this)), (2, .int l2), (3, .int l3), (4, .long l4), (6, .int l6)] [] M) (l2 : Int32) (l3 : Int32) (l4 : Int64) (l6 : Int32) (M : Mem) : RF yX3_pick cX3_pick 9 (some .int) 3 eI (f_X3_pick_J91 k36 this l2 l3 l4 l6 M) 91 [(0, va_rf (some this)), (2, .int l2), (3, .int l3), (4, .long l4), (6, .int l6)] [] M := by
  rw [f_X3_pick_J91]
  refine R_iinc (pc' := 94) (L' := [(6, .int (l6 + (nI 1))), (0, va_rf (some this)), (2, .int l2), (3, .int l3), (4, .long l4)]) (i := 6) (j := 4) (x := l6) (x2 := (l6 + (nI 1))) dX3_pick_91 rfl rfl rfl (by decide) rfl ?_
  refine R_goto (tgt := 36) dX3_pick_94 (by decide) ?_
  exact R_sub [1, 2, 3, 4, 0] rfl (hk36 l2 l3 l4 (l6 + (nI 1)) M)
def f_X3_pick_L36 (this : Nat) : Nat → Int32 → Int32 → Int64 → Int32 → Mem → Option (Int32 × Mem)
  | 0, _, _, _, _, _ => none
  | n + 1, l2, l3, l4, l6, M =>
    (gR M 3 2 (some this)).bind fun told1 =>
    (gI M 8 3 told1).bind fun jokes2 =>
    (if jokes2 ≤ l6 then
      (some (l3, M))
    else
      ((if ((l2 >>> (l6 &&& 31)) &&& (nI 1)) = 0 then
        (f_X3_pick_J91 (f_X3_pick_L36 this n) this l2 l3 l4 l6 M)
      else
        ((oO M 3 (some this)).bind fun o8 => cl (f_X3_lookAtJoke o8 l6 M) fun u3 M =>
        (gR M 3 0 (some this)).bind fun rule4 =>
        (gR M 3 3 (some this)).bind fun values5 =>
        (oO M 4 rule4).bind fun o7 => cl (f_X4_worth o7 values5 M) fun r6 M =>
        (if (lg_cmp r6 l4) ≤ 0 then
          (f_X3_pick_J91 (f_X3_pick_L36 this n) this l2 l3 l4 l6 M)
        else
          (f_X3_pick_J91 (f_X3_pick_L36 this n) this l2 l6 r6 l6 M))))))
set_option maxHeartbeats 2000000 in
set_option maxRecDepth 20000 in
theorem rf_X3_pick_L36 (this : Nat) : ∀ (n : Nat) (l2 : Int32) (l3 : Int32) (l4 : Int64) (l6 : Int32) (M : Mem), RF yX3_pick cX3_pick 9 (some .int) 3 eI (f_X3_pick_L36 this n l2 l3 l4 l6 M) 36 [(0, va_rf (some this)), (2, .int l2), (3, .int l3), (4, .long l4), (6, .int l6)] [] M := by
  intro n
  induction n with
  | zero => intro _ _ _ _ _; exact RF.none
  | succ n ih =>
    intro l2 l3 l4 l6 M
    rw [f_X3_pick_L36]
    refine R_iload (pc' := 38) (i := 6) (j := 4) (x := l6) dX3_pick_36 rfl rfl ?_
    refine R_aloadq_n (pc' := 39) (i := 0) (j := 0) (q := (some this)) dX3_pick_38 rfl rfl rfl ?_
    refine R_getR (pc' := 42) (q := (some this)) fl_X3_20 rfl dX3_pick_39 rfl (fun told1 => ?_)
    refine R_getI (pc' := 45) (q := told1) fl_X3_84 rfl dX3_pick_42 rfl (fun jokes2 => ?_)
    refine R_icmp_ge (pc' := 48) (tgt := 97) (a := l6) (b := jokes2) dX3_pick_45 (by decide) rfl ?_ ?_
    · refine R_iload_n (pc' := 98) (i := 3) (j := 2) (x := l3) dX3_pick_97 rfl rfl rfl ?_
      exact R_iret dX3_pick_98
    · refine R_iload_n (pc' := 49) (i := 2) (j := 1) (x := l2) dX3_pick_48 rfl rfl rfl ?_
      refine R_iload (pc' := 51) (i := 6) (j := 4) (x := l6) dX3_pick_49 rfl rfl ?_
      refine R_ishr (pc' := 52) (a := l2) (b := l6) dX3_pick_51 rfl ?_
      refine R_iconst (pc' := 53) (x := (nI 1)) dX3_pick_52 rfl (by decide) ?_
      refine R_iand (pc' := 54) (a := (l2 >>> (l6 &&& 31))) (b := (nI 1)) dX3_pick_53 rfl ?_
      refine R_if_eq (pc' := 57) (tgt := 91) (a := ((l2 >>> (l6 &&& 31)) &&& (nI 1))) dX3_pick_54 (by decide) rfl ?_ ?_
      · exact R_sub [0, 1, 2, 3, 4] rfl (rf_X3_pick_J91 this (f_X3_pick_L36 this n) ih l2 l3 l4 l6 M)
      · refine R_aloadq_n (pc' := 58) (i := 0) (j := 0) (q := (some this)) dX3_pick_57 rfl rfl rfl ?_
        refine R_iload (pc' := 60) (i := 6) (j := 4) (x := l6) dX3_pick_58 rfl rfl ?_
        refine R_callV_V (pc' := 63) (q := (some this)) (As := [.int l6]) (fun o8 => rm_X3_lookAtJoke o8 l6 M) mf_X3_lookAtJoke lk_X3_98 im_X3_lookAtJoke se_X3_lookAtJoke rfl rfl rfl dX3_pick_60 rfl (by decide) (Nat.le_trans c_0 (by decide)) (fun u3 M => ?_)
        refine R_aloadq_n (pc' := 64) (i := 0) (j := 0) (q := (some this)) dX3_pick_63 rfl rfl rfl ?_
        refine R_getR (pc' := 67) (q := (some this)) fl_X3_87 rfl dX3_pick_64 rfl (fun rule4 => ?_)
        refine R_aloadq_n (pc' := 68) (i := 0) (j := 0) (q := (some this)) dX3_pick_67 rfl rfl rfl ?_
        refine R_getR (pc' := 71) (q := (some this)) fl_X3_17 rfl dX3_pick_68 rfl (fun values5 => ?_)
        refine R_callV_L (pc' := 74) (q := rule4) (As := [va_rf values5]) (fun o7 => rm_X4_worth o7 values5 M) mf_X4_worth lk_X3_101 im_X4_worth se_X4_worth rfl rfl rfl dX3_pick_71 rfl (by decide) (Nat.le_trans c_0 (by decide)) (fun r6 M => ?_)
        refine R_lstore (pc' := 76) (L' := [(7, .long r6), (0, va_rf (some this)), (2, .int l2), (3, .int l3), (4, .long l4), (6, .int l6)]) (i := 7) (x := r6) dX3_pick_74 rfl (by decide) rfl ?_
        refine R_lload (pc' := 78) (i := 7) (j := 0) (x := r6) dX3_pick_76 rfl rfl ?_
        refine R_lload (pc' := 80) (i := 4) (j := 4) (x := l4) dX3_pick_78 rfl rfl ?_
        refine R_lcmp (pc' := 81) (a := r6) (b := l4) dX3_pick_80 rfl ?_
        refine R_if_le (pc' := 84) (tgt := 91) (a := (lg_cmp r6 l4)) dX3_pick_81 (by decide) rfl ?_ ?_
        · exact R_sub [1, 2, 3, 4, 5] rfl (rf_X3_pick_J91 this (f_X3_pick_L36 this n) ih l2 l3 l4 l6 M)
        · refine R_lload (pc' := 86) (i := 7) (j := 0) (x := r6) dX3_pick_84 rfl rfl ?_
          refine R_lstore (pc' := 88) (L' := [(4, .long r6), (7, .long r6), (0, va_rf (some this)), (2, .int l2), (3, .int l3), (6, .int l6)]) (i := 4) (x := r6) dX3_pick_86 rfl (by decide) rfl ?_
          refine R_iload (pc' := 90) (i := 6) (j := 5) (x := l6) dX3_pick_88 rfl rfl ?_
          refine R_istore_n (pc' := 91) (L' := [(3, .int l6), (4, .long r6), (7, .long r6), (0, va_rf (some this)), (2, .int l2), (6, .int l6)]) (i := 3) (x := l6) dX3_pick_90 rfl rfl (by decide) rfl ?_
          exact R_sub [3, 4, 0, 1, 5] rfl (rf_X3_pick_J91 this (f_X3_pick_L36 this n) ih l2 l6 r6 l6 M)
def f_X3_pick (this : Nat) (l1 : Int32) (M : Mem) : Option (Int32 × Mem) :=
  (gR M 3 0 (some this)).bind fun rule1 =>
  (if rule1 = none then
    ((oO M 3 (some this)).bind fun o8 => cl (f_X3_leastNew o8 l1 M) fun r7 M =>
    some (r7, M))
  else
    ((oO M 3 (some this)).bind fun o6 => cl (f_X3_lookAtShip o6 l1 M) fun u2 M =>
    (gR M 3 4 (some this)).bind fun scene3 =>
    (gR M 6 2 scene3).bind fun knows4 =>
    (aI M 0 knows4 l1).bind fun e5 =>
    f_X3_pick_L36 this FU e5 (-1 : Int32) (0 : Int64) (nI 0) M))
set_option maxHeartbeats 2000000 in
set_option maxRecDepth 20000 in
theorem rm_X3_pick (this : Nat) (l1 : Int32) (M : Mem) : RFm yX3_pick cX3_pick 9 (some .int) 3 eI (f_X3_pick this l1 M) [va_rf (some this), .int l1] M := by
  refine RFm_of (L := [(0, va_rf (some this)), (1, .int l1)]) (by decide) rfl (Nat.le_trans (c_R (c_I c_0)) (by decide)) ?_
  rw [f_X3_pick]
  refine R_aloadq_n (pc' := 1) (i := 0) (j := 0) (q := (some this)) dX3_pick_0 rfl rfl rfl ?_
  refine R_getR (pc' := 4) (q := (some this)) fl_X3_87 rfl dX3_pick_1 rfl (fun rule1 => ?_)
  refine R_ifnonnull (pc' := 7) (tgt := 13) (q := rule1) dX3_pick_4 (by decide) rfl ?_ ?_
  · refine R_aloadq_n (pc' := 14) (i := 0) (j := 0) (q := (some this)) dX3_pick_13 rfl rfl rfl ?_
    refine R_iload_n (pc' := 15) (i := 1) (j := 1) (x := l1) dX3_pick_14 rfl rfl rfl ?_
    refine R_callV_V (pc' := 18) (q := (some this)) (As := [.int l1]) (fun o6 => rm_X3_lookAtShip o6 l1 M) mf_X3_lookAtShip lk_X3_94 im_X3_lookAtShip se_X3_lookAtShip rfl rfl rfl dX3_pick_15 rfl (by decide) (Nat.le_trans c_0 (by decide)) (fun u2 M => ?_)
    refine R_aloadq_n (pc' := 19) (i := 0) (j := 0) (q := (some this)) dX3_pick_18 rfl rfl rfl ?_
    refine R_getR (pc' := 22) (q := (some this)) fl_X3_27 rfl dX3_pick_19 rfl (fun scene3 => ?_)
    refine R_getR (pc' := 25) (q := scene3) fl_X3_81 rfl dX3_pick_22 rfl (fun knows4 => ?_)
    refine R_iload_n (pc' := 26) (i := 1) (j := 1) (x := l1) dX3_pick_25 rfl rfl rfl ?_
    refine R_iald (pc' := 27) (q := knows4) (i := l1) dX3_pick_26 rfl (fun e5 => ?_)
    refine R_istore_n (pc' := 28) (L' := [(2, .int e5), (0, va_rf (some this)), (1, .int l1)]) (i := 2) (x := e5) dX3_pick_27 rfl rfl (by decide) rfl ?_
    refine R_iconst (pc' := 29) (x := (-1 : Int32)) dX3_pick_28 rfl (by decide) ?_
    refine R_istore_n (pc' := 30) (L' := [(3, .int (-1 : Int32)), (2, .int e5), (0, va_rf (some this)), (1, .int l1)]) (i := 3) (x := (-1 : Int32)) dX3_pick_29 rfl rfl (by decide) rfl ?_
    refine R_lconst (pc' := 31) (x := (0 : Int64)) dX3_pick_30 rfl (by decide) ?_
    refine R_lstore (pc' := 33) (L' := [(4, .long (0 : Int64)), (3, .int (-1 : Int32)), (2, .int e5), (0, va_rf (some this)), (1, .int l1)]) (i := 4) (x := (0 : Int64)) dX3_pick_31 rfl (by decide) rfl ?_
    refine R_iconst (pc' := 34) (x := (nI 0)) dX3_pick_33 rfl (by decide) ?_
    refine R_istore (pc' := 36) (L' := [(6, .int (nI 0)), (4, .long (0 : Int64)), (3, .int (-1 : Int32)), (2, .int e5), (0, va_rf (some this)), (1, .int l1)]) (i := 6) (x := (nI 0)) dX3_pick_34 rfl (by decide) rfl ?_
    exact R_sub [4, 3, 2, 1, 0] rfl (rf_X3_pick_L36 this FU e5 (-1 : Int32) (0 : Int64) (nI 0) M)
  · refine R_aloadq_n (pc' := 8) (i := 0) (j := 0) (q := (some this)) dX3_pick_7 rfl rfl rfl ?_
    refine R_iload_n (pc' := 9) (i := 1) (j := 1) (x := l1) dX3_pick_8 rfl rfl rfl ?_
    refine R_callV_I (pc' := 12) (q := (some this)) (As := [.int l1]) (fun o8 => rm_X3_leastNew o8 l1 M) mf_X3_leastNew lk_X3_91 im_X3_leastNew se_X3_leastNew rfl rfl rfl dX3_pick_9 rfl (by decide) (Nat.le_trans c_0 (by decide)) (fun r7 M => ?_)
    exact R_iret dX3_pick_12
/-! BarPilot$Pilot.turns(II)I -/
def f_X3_turns_J74 (k5 : Int32 → Int32 → Int32 → Mem → Option (Int32 × Mem)) (this : Nat) (l2 : Int32) (l3 : Int32) (l4 : Int32) (M : Mem) : Option (Int32 × Mem) :=
  k5 l2 l3 (l4 + (nI 1)) M
set_option maxHeartbeats 2000000 in
set_option maxRecDepth 20000 in
theorem rf_X3_turns_J74 (this : Nat) (k5 : Int32 → Int32 → Int32 → Mem → Option (Int32 × Mem)) (hk5 : ∀ (l2 : Int32) (l3 : Int32) (l4 : Int32) (M : Mem), RF yX3_turns cX3_turns 5 (some .int) 4 eI (k5 l2 l3 l4 M) 5 [(0, va_rf (some this)), (2, .int l2), (3, .int l3), (4, .int l4)] [] M) (l2 : Int32) (l3 : Int32) (l4 : Int32) (M : Mem) : RF yX3_turns cX3_turns 5 (some .int) 4 eI (f_X3_turns_J74 k5 this l2 l3 l4 M) 74 [(0, va_rf (some this)), (2, .int l2), (3, .int l3), (4, .int l4)] [] M := by
  rw [f_X3_turns_J74]
  refine R_iinc (pc' := 77) (L' := [(4, .int (l4 + (nI 1))), (0, va_rf (some this)), (2, .int l2), (3, .int l3)]) (i := 4) (j := 3) (x := l4) (x2 := (l4 + (nI 1))) dX3_turns_74 rfl rfl rfl (by decide) rfl ?_
  refine R_goto (tgt := 5) dX3_turns_77 (by decide) ?_
  exact R_sub [1, 2, 3, 0] rfl (hk5 l2 l3 (l4 + (nI 1)) M)
def f_X3_turns_J39 (k5 : Int32 → Int32 → Int32 → Mem → Option (Int32 × Mem)) (this : Nat) (l2 : Int32) (l3 : Int32) (l4 : Int32) (s0 : Int32) (s1 : Int32) (s2 : Option Nat) (M : Mem) : Option (Int32 × Mem) :=
  (wI M 0 s2 s1 s0).bind fun M =>
  (gR M 3 1 (some this)).bind fun said1 =>
  (aI M 0 said1 l4).bind fun e2 =>
  (if e2 = (-1 : Int32) then
    (f_X3_turns_J74 k5 this l2 l3 l4 M)
  else
    ((gR M 3 1 (some this)).bind fun said3 =>
    (aI M 0 said3 l4).bind fun e4 =>
    (oO M 3 (some this)).bind fun o7 => cl (f_X3_hears o7 l4 e4 M) fun r5 M =>
    (if r5 = 0 then
      (f_X3_turns_J74 k5 this l2 l3 l4 M)
    else
      (nm (l3 ||| ((nI 1) <<< (l4 &&& 31))) fun v6 =>
      f_X3_turns_J74 k5 this l2 v6 l4 M))))
set_option maxHeartbeats 2000000 in
set_option maxRecDepth 20000 in
theorem rf_X3_turns_J39 (this : Nat) (k5 : Int32 → Int32 → Int32 → Mem → Option (Int32 × Mem)) (hk5 : ∀ (l2 : Int32) (l3 : Int32) (l4 : Int32) (M : Mem), RF yX3_turns cX3_turns 5 (some .int) 4 eI (k5 l2 l3 l4 M) 5 [(0, va_rf (some this)), (2, .int l2), (3, .int l3), (4, .int l4)] [] M) (l2 : Int32) (l3 : Int32) (l4 : Int32) (s0 : Int32) (s1 : Int32) (s2 : Option Nat) (M : Mem) : RF yX3_turns cX3_turns 5 (some .int) 4 eI (f_X3_turns_J39 k5 this l2 l3 l4 s0 s1 s2 M) 39 [(0, va_rf (some this)), (2, .int l2), (3, .int l3), (4, .int l4)] [.int s0, .int s1, va_rf s2] M := by
  rw [f_X3_turns_J39]
  refine R_iast (pc' := 40) (q := s2) (i := s1) (x := s0) dX3_turns_39 rfl (fun M => ?_)
  refine R_aloadq_n (pc' := 41) (i := 0) (j := 0) (q := (some this)) dX3_turns_40 rfl rfl rfl ?_
  refine R_getR (pc' := 44) (q := (some this)) fl_X3_9 rfl dX3_turns_41 rfl (fun said1 => ?_)
  refine R_iload (pc' := 46) (i := 4) (j := 3) (x := l4) dX3_turns_44 rfl rfl ?_
  refine R_iald (pc' := 47) (q := said1) (i := l4) dX3_turns_46 rfl (fun e2 => ?_)
  refine R_iconst (pc' := 48) (x := (-1 : Int32)) dX3_turns_47 rfl (by decide) ?_
  refine R_icmp_eq (pc' := 51) (tgt := 74) (a := e2) (b := (-1 : Int32)) dX3_turns_48 (by decide) rfl ?_ ?_
  · exact R_sub [0, 1, 2, 3] rfl (rf_X3_turns_J74 this k5 hk5 l2 l3 l4 M)
  · refine R_aloadq_n (pc' := 52) (i := 0) (j := 0) (q := (some this)) dX3_turns_51 rfl rfl rfl ?_
    refine R_iload (pc' := 54) (i := 4) (j := 3) (x := l4) dX3_turns_52 rfl rfl ?_
    refine R_aloadq_n (pc' := 55) (i := 0) (j := 0) (q := (some this)) dX3_turns_54 rfl rfl rfl ?_
    refine R_getR (pc' := 58) (q := (some this)) fl_X3_9 rfl dX3_turns_55 rfl (fun said3 => ?_)
    refine R_iload (pc' := 60) (i := 4) (j := 3) (x := l4) dX3_turns_58 rfl rfl ?_
    refine R_iald (pc' := 61) (q := said3) (i := l4) dX3_turns_60 rfl (fun e4 => ?_)
    refine R_callV_I (pc' := 64) (q := (some this)) (As := [.int l4, .int e4]) (fun o7 => rm_X3_hears o7 l4 e4 M) mf_X3_hears lk_X3_68 im_X3_hears se_X3_hears rfl rfl rfl dX3_turns_61 rfl (by decide) (Nat.le_trans c_0 (by decide)) (fun r5 M => ?_)
    refine R_if_eq (pc' := 67) (tgt := 74) (a := r5) dX3_turns_64 (by decide) rfl ?_ ?_
    · exact R_sub [0, 1, 2, 3] rfl (rf_X3_turns_J74 this k5 hk5 l2 l3 l4 M)
    · refine R_iload_n (pc' := 68) (i := 3) (j := 2) (x := l3) dX3_turns_67 rfl rfl rfl ?_
      refine R_iconst (pc' := 69) (x := (nI 1)) dX3_turns_68 rfl (by decide) ?_
      refine R_iload (pc' := 71) (i := 4) (j := 3) (x := l4) dX3_turns_69 rfl rfl ?_
      refine R_ishl (pc' := 72) (a := (nI 1)) (b := l4) dX3_turns_71 rfl ?_
      refine R_ior (pc' := 73) (a := l3) (b := ((nI 1) <<< (l4 &&& 31))) dX3_turns_72 rfl ?_
      refine R_nmI (fun v6 => ?_)
      refine R_istore_n (pc' := 74) (L' := [(3, .int v6), (0, va_rf (some this)), (2, .int l2), (4, .int l4)]) (i := 3) (x := v6) dX3_turns_73 rfl rfl (by decide) rfl ?_
      exact R_sub [1, 2, 0, 3] rfl (rf_X3_turns_J74 this k5 hk5 l2 v6 l4 M)
def f_X3_turns_L5 (this : Nat) : Nat → Int32 → Int32 → Int32 → Mem → Option (Int32 × Mem)
  | 0, _, _, _, _ => none
  | n + 1, l2, l3, l4, M =>
    (if l2 ≤ l4 then
      (some (l3, M))
    else
      ((gR M 3 1 (some this)).bind fun said1 =>
      (gI M 3 6 (some this)).bind fun waiting2 =>
      (if ((waiting2 >>> (l4 &&& 31)) &&& (nI 1)) = 0 then
        (f_X3_turns_J39 (f_X3_turns_L5 this n) this l2 l3 l4 (-1 : Int32) l4 said1 M)
      else
        ((oO M 3 (some this)).bind fun o4 => cl (f_X3_pick o4 l4 M) fun r3 M =>
        f_X3_turns_J39 (f_X3_turns_L5 this n) this l2 l3 l4 r3 l4 said1 M))))
set_option maxHeartbeats 2000000 in
set_option maxRecDepth 20000 in
theorem rf_X3_turns_L5 (this : Nat) : ∀ (n : Nat) (l2 : Int32) (l3 : Int32) (l4 : Int32) (M : Mem), RF yX3_turns cX3_turns 5 (some .int) 4 eI (f_X3_turns_L5 this n l2 l3 l4 M) 5 [(0, va_rf (some this)), (2, .int l2), (3, .int l3), (4, .int l4)] [] M := by
  intro n
  induction n with
  | zero => intro _ _ _ _; exact RF.none
  | succ n ih =>
    intro l2 l3 l4 M
    rw [f_X3_turns_L5]
    refine R_iload (pc' := 7) (i := 4) (j := 3) (x := l4) dX3_turns_5 rfl rfl ?_
    refine R_iload_n (pc' := 8) (i := 2) (j := 1) (x := l2) dX3_turns_7 rfl rfl rfl ?_
    refine R_icmp_ge (pc' := 11) (tgt := 80) (a := l4) (b := l2) dX3_turns_8 (by decide) rfl ?_ ?_
    · refine R_iload_n (pc' := 81) (i := 3) (j := 2) (x := l3) dX3_turns_80 rfl rfl rfl ?_
      exact R_iret dX3_turns_81
    · refine R_aloadq_n (pc' := 12) (i := 0) (j := 0) (q := (some this)) dX3_turns_11 rfl rfl rfl ?_
      refine R_getR (pc' := 15) (q := (some this)) fl_X3_9 rfl dX3_turns_12 rfl (fun said1 => ?_)
      refine R_iload (pc' := 17) (i := 4) (j := 3) (x := l4) dX3_turns_15 rfl rfl ?_
      refine R_aloadq_n (pc' := 18) (i := 0) (j := 0) (q := (some this)) dX3_turns_17 rfl rfl rfl ?_
      refine R_getI (pc' := 21) (q := (some this)) fl_X3_44 rfl dX3_turns_18 rfl (fun waiting2 => ?_)
      refine R_iload (pc' := 23) (i := 4) (j := 3) (x := l4) dX3_turns_21 rfl rfl ?_
      refine R_ishr (pc' := 24) (a := waiting2) (b := l4) dX3_turns_23 rfl ?_
      refine R_iconst (pc' := 25) (x := (nI 1)) dX3_turns_24 rfl (by decide) ?_
      refine R_iand (pc' := 26) (a := (waiting2 >>> (l4 &&& 31))) (b := (nI 1)) dX3_turns_25 rfl ?_
      refine R_if_ne (pc' := 29) (tgt := 33) (a := ((waiting2 >>> (l4 &&& 31)) &&& (nI 1))) dX3_turns_26 (by decide) rfl ?_ ?_
      · refine R_aloadq_n (pc' := 34) (i := 0) (j := 0) (q := (some this)) dX3_turns_33 rfl rfl rfl ?_
        refine R_iload (pc' := 36) (i := 4) (j := 3) (x := l4) dX3_turns_34 rfl rfl ?_
        refine R_callV_I (pc' := 39) (q := (some this)) (As := [.int l4]) (fun o4 => rm_X3_pick o4 l4 M) mf_X3_pick lk_X3_64 im_X3_pick se_X3_pick rfl rfl rfl dX3_turns_36 rfl (by decide) (Nat.le_trans (c_I (c_R c_0)) (by decide)) (fun r3 M => ?_)
        exact R_sub [0, 1, 2, 3] rfl (rf_X3_turns_J39 this (f_X3_turns_L5 this n) ih l2 l3 l4 r3 l4 said1 M)
      · refine R_iconst (pc' := 30) (x := (-1 : Int32)) dX3_turns_29 rfl (by decide) ?_
        refine R_goto (tgt := 39) dX3_turns_30 (by decide) ?_
        exact R_sub [0, 1, 2, 3] rfl (rf_X3_turns_J39 this (f_X3_turns_L5 this n) ih l2 l3 l4 (-1 : Int32) l4 said1 M)
def f_X3_turns (this : Nat) (l1 : Int32) (l2 : Int32) (M : Mem) : Option (Int32 × Mem) :=
  f_X3_turns_L5 this FU l2 (nI 0) l1 M
set_option maxHeartbeats 2000000 in
set_option maxRecDepth 20000 in
theorem rm_X3_turns (this : Nat) (l1 : Int32) (l2 : Int32) (M : Mem) : RFm yX3_turns cX3_turns 5 (some .int) 4 eI (f_X3_turns this l1 l2 M) [va_rf (some this), .int l1, .int l2] M := by
  refine RFm_of (L := [(0, va_rf (some this)), (1, .int l1), (2, .int l2)]) (by decide) rfl (Nat.le_trans (c_R (c_I (c_I c_0))) (by decide)) ?_
  rw [f_X3_turns]
  refine R_iconst (pc' := 1) (x := (nI 0)) dX3_turns_0 rfl (by decide) ?_
  refine R_istore_n (pc' := 2) (L' := [(3, .int (nI 0)), (0, va_rf (some this)), (1, .int l1), (2, .int l2)]) (i := 3) (x := (nI 0)) dX3_turns_1 rfl rfl (by decide) rfl ?_
  refine R_iload_n (pc' := 3) (i := 1) (j := 2) (x := l1) dX3_turns_2 rfl rfl rfl ?_
  refine R_istore (pc' := 5) (L' := [(4, .int l1), (3, .int (nI 0)), (0, va_rf (some this)), (1, .int l1), (2, .int l2)]) (i := 4) (x := l1) dX3_turns_3 rfl (by decide) rfl ?_
  exact R_sub [2, 4, 1, 0] rfl (rf_X3_turns_L5 this FU l2 (nI 0) l1 M)
/-! BarPilot$Pilot.oneTide(LBarPilot$Scene;)I -/
def f_X3_oneTide (this : Nat) (l1 : Option Nat) (M : Mem) : Option (Int32 × Mem) :=
  (oO M 3 (some this)).bind fun o7 => cl (f_X3_meet o7 l1 M) fun u1 M =>
  (gR M 3 2 (some this)).bind fun told2 =>
  (gI M 8 4 told2).bind fun ships3 =>
  (oO M 3 (some this)).bind fun o6 => cl (f_X3_turns o6 (nI 0) ships3 M) fun r4 M =>
  (gI M 6 0 l1).bind fun tide5 =>
  (pI M 6 0 l1 (tide5 + (nI 1))).bind fun M =>
  some (r4, M)
set_option maxHeartbeats 2000000 in
set_option maxRecDepth 20000 in
theorem rm_X3_oneTide (this : Nat) (l1 : Option Nat) (M : Mem) : RFm yX3_oneTide cX3_oneTide 3 (some .int) 5 eI (f_X3_oneTide this l1 M) [va_rf (some this), va_rf l1] M := by
  refine RFm_of (L := [(0, va_rf (some this)), (1, va_rf l1)]) (by decide) (by simp only [lva_R, lva_I, lva_L, lva_C, lva_0]) (Nat.le_trans (c_R (c_R c_0)) (by decide)) ?_
  rw [f_X3_oneTide]
  refine R_aloadq_n (pc' := 1) (i := 0) (j := 0) (q := (some this)) dX3_oneTide_0 rfl rfl rfl ?_
  refine R_aloadq_n (pc' := 2) (i := 1) (j := 1) (q := l1) dX3_oneTide_1 rfl rfl rfl ?_
  refine R_callV_V (pc' := 5) (q := (some this)) (As := [va_rf l1]) (fun o7 => rm_X3_meet o7 l1 M) mf_X3_meet lk_X3_50 im_X3_meet se_X3_meet rfl rfl rfl dX3_oneTide_2 rfl (by decide) (Nat.le_trans c_0 (by decide)) (fun u1 M => ?_)
  refine R_aloadq_n (pc' := 6) (i := 0) (j := 0) (q := (some this)) dX3_oneTide_5 rfl rfl rfl ?_
  refine R_iconst (pc' := 7) (x := (nI 0)) dX3_oneTide_6 rfl (by decide) ?_
  refine R_aloadq_n (pc' := 8) (i := 0) (j := 0) (q := (some this)) dX3_oneTide_7 rfl rfl rfl ?_
  refine R_getR (pc' := 11) (q := (some this)) fl_X3_20 rfl dX3_oneTide_8 rfl (fun told2 => ?_)
  refine R_getI (pc' := 14) (q := told2) fl_X3_54 rfl dX3_oneTide_11 rfl (fun ships3 => ?_)
  refine R_callV_I (pc' := 17) (q := (some this)) (As := [.int (nI 0), .int ships3]) (fun o6 => rm_X3_turns o6 (nI 0) ships3 M) mf_X3_turns lk_X3_57 im_X3_turns se_X3_turns rfl rfl rfl dX3_oneTide_14 rfl (by decide) (Nat.le_trans c_0 (by decide)) (fun r4 M => ?_)
  refine R_istore_n (pc' := 18) (L' := [(2, .int r4), (0, va_rf (some this)), (1, va_rf l1)]) (i := 2) (x := r4) dX3_oneTide_17 rfl rfl (by decide) (by simp [stL, rf_cat, cat_I, cat_L, cat_C]) ?_
  refine R_aloadq_n (pc' := 19) (i := 1) (j := 2) (q := l1) dX3_oneTide_18 rfl rfl rfl ?_
  refine R_dup (pc' := 20) dX3_oneTide_19 rfl (rf_cat _) ?_
  refine R_getI (pc' := 23) (q := l1) fl_X3_61 rfl dX3_oneTide_20 rfl (fun tide5 => ?_)
  refine R_iconst (pc' := 24) (x := (nI 1)) dX3_oneTide_23 rfl (by decide) ?_
  refine R_iadd (pc' := 25) (a := tide5) (b := (nI 1)) dX3_oneTide_24 rfl ?_
  refine R_putI (pc' := 28) (q := l1) (x := (tide5 + (nI 1))) fl_X3_61 (Or.inl rfl) dX3_oneTide_25 rfl (fun M => ?_)
  refine R_iload_n (pc' := 29) (i := 2) (j := 0) (x := r4) dX3_oneTide_28 rfl rfl rfl ?_
  exact R_iret dX3_oneTide_29
/-! BarPilot$Pilot.nextFading()I -/
def f_X3_nextFading_J49 (k5 : Int32 → Int32 → Mem → Option (Int32 × Mem)) (this : Nat) (l1 : Int32) (l2 : Int32) (M : Mem) : Option (Int32 × Mem) :=
  k5 l1 (l2 + (nI 1)) M
set_option maxHeartbeats 2000000 in
set_option maxRecDepth 20000 in
theorem rf_X3_nextFading_J49 (this : Nat) (k5 : Int32 → Int32 → Mem → Option (Int32 × Mem)) (hk5 : ∀ (l1 : Int32) (l2 : Int32) (M : Mem), RF yX3_nextFading cX3_nextFading 3 (some .int) 1 eI (k5 l1 l2 M) 5 [(0, va_rf (some this)), (1, .int l1), (2, .int l2)] [] M) (l1 : Int32) (l2 : Int32) (M : Mem) : RF yX3_nextFading cX3_nextFading 3 (some .int) 1 eI (f_X3_nextFading_J49 k5 this l1 l2 M) 49 [(0, va_rf (some this)), (1, .int l1), (2, .int l2)] [] M := by
  rw [f_X3_nextFading_J49]
  refine R_iinc (pc' := 52) (L' := [(2, .int (l2 + (nI 1))), (0, va_rf (some this)), (1, .int l1)]) (i := 2) (j := 2) (x := l2) (x2 := (l2 + (nI 1))) dX3_nextFading_49 rfl rfl rfl (by decide) rfl ?_
  refine R_goto (tgt := 5) dX3_nextFading_52 (by decide) ?_
  exact R_sub [1, 2, 0] rfl (hk5 l1 (l2 + (nI 1)) M)
def f_X3_nextFading_L5 (this : Nat) : Nat → Int32 → Int32 → Mem → Option (Int32 × Mem)
  | 0, _, _, _ => none
  | n + 1, l1, l2, M =>
    (gR M 3 2 (some this)).bind fun told1 =>
    (gI M 8 3 told1).bind fun jokes2 =>
    (if jokes2 ≤ l2 then
      (some (l1, M))
    else
      ((gI M 3 5 (some this)).bind fun memory3 =>
      (if ((memory3 >>> (l2 &&& 31)) &&& (nI 1)) = 0 then
        (f_X3_nextFading_J49 (f_X3_nextFading_L5 this n) this l1 l2 M)
      else
        ((gR M 3 4 (some this)).bind fun scene4 =>
        (gR M 6 1 scene4).bind fun heard5 =>
        (aI M 0 heard5 l2).bind fun e6 =>
        (gR M 3 2 (some this)).bind fun told7 =>
        (gI M 8 1 told7).bind fun fades8 =>
        nm (if (e6 + fades8) < l1 then (e6 + fades8) else l1) fun r9 =>
        f_X3_nextFading_J49 (f_X3_nextFading_L5 this n) this r9 l2 M))))
set_option maxHeartbeats 2000000 in
set_option maxRecDepth 20000 in
theorem rf_X3_nextFading_L5 (this : Nat) : ∀ (n : Nat) (l1 : Int32) (l2 : Int32) (M : Mem), RF yX3_nextFading cX3_nextFading 3 (some .int) 1 eI (f_X3_nextFading_L5 this n l1 l2 M) 5 [(0, va_rf (some this)), (1, .int l1), (2, .int l2)] [] M := by
  intro n
  induction n with
  | zero => intro _ _ _; exact RF.none
  | succ n ih =>
    intro l1 l2 M
    rw [f_X3_nextFading_L5]
    refine R_iload_n (pc' := 6) (i := 2) (j := 2) (x := l2) dX3_nextFading_5 rfl rfl rfl ?_
    refine R_aloadq_n (pc' := 7) (i := 0) (j := 0) (q := (some this)) dX3_nextFading_6 rfl rfl rfl ?_
    refine R_getR (pc' := 10) (q := (some this)) fl_X3_20 rfl dX3_nextFading_7 rfl (fun told1 => ?_)
    refine R_getI (pc' := 13) (q := told1) fl_X3_84 rfl dX3_nextFading_10 rfl (fun jokes2 => ?_)
    refine R_icmp_ge (pc' := 16) (tgt := 55) (a := l2) (b := jokes2) dX3_nextFading_13 (by decide) rfl ?_ ?_
    · refine R_iload_n (pc' := 56) (i := 1) (j := 1) (x := l1) dX3_nextFading_55 rfl rfl rfl ?_
      exact R_iret dX3_nextFading_56
    · refine R_aloadq_n (pc' := 17) (i := 0) (j := 0) (q := (some this)) dX3_nextFading_16 rfl rfl rfl ?_
      refine R_getI (pc' := 20) (q := (some this)) fl_X3_37 rfl dX3_nextFading_17 rfl (fun memory3 => ?_)
      refine R_iload_n (pc' := 21) (i := 2) (j := 2) (x := l2) dX3_nextFading_20 rfl rfl rfl ?_
      refine R_ishr (pc' := 22) (a := memory3) (b := l2) dX3_nextFading_21 rfl ?_
      refine R_iconst (pc' := 23) (x := (nI 1)) dX3_nextFading_22 rfl (by decide) ?_
      refine R_iand (pc' := 24) (a := (memory3 >>> (l2 &&& 31))) (b := (nI 1)) dX3_nextFading_23 rfl ?_
      refine R_if_eq (pc' := 27) (tgt := 49) (a := ((memory3 >>> (l2 &&& 31)) &&& (nI 1))) dX3_nextFading_24 (by decide) rfl ?_ ?_
      · exact R_sub [0, 1, 2] rfl (rf_X3_nextFading_J49 this (f_X3_nextFading_L5 this n) ih l1 l2 M)
      · refine R_iload_n (pc' := 28) (i := 1) (j := 1) (x := l1) dX3_nextFading_27 rfl rfl rfl ?_
        refine R_aloadq_n (pc' := 29) (i := 0) (j := 0) (q := (some this)) dX3_nextFading_28 rfl rfl rfl ?_
        refine R_getR (pc' := 32) (q := (some this)) fl_X3_27 rfl dX3_nextFading_29 rfl (fun scene4 => ?_)
        refine R_getR (pc' := 35) (q := scene4) fl_X3_78 rfl dX3_nextFading_32 rfl (fun heard5 => ?_)
        refine R_iload_n (pc' := 36) (i := 2) (j := 2) (x := l2) dX3_nextFading_35 rfl rfl rfl ?_
        refine R_iald (pc' := 37) (q := heard5) (i := l2) dX3_nextFading_36 rfl (fun e6 => ?_)
        refine R_aloadq_n (pc' := 38) (i := 0) (j := 0) (q := (some this)) dX3_nextFading_37 rfl rfl rfl ?_
        refine R_getR (pc' := 41) (q := (some this)) fl_X3_20 rfl dX3_nextFading_38 rfl (fun told7 => ?_)
        refine R_getI (pc' := 44) (q := told7) fl_X3_144 rfl dX3_nextFading_41 rfl (fun fades8 => ?_)
        refine R_iadd (pc' := 45) (a := e6) (b := fades8) dX3_nextFading_44 rfl ?_
        refine R_mmin (pc' := 48) (a := l1) (b := (e6 + fades8)) lk_X3_138 dX3_nextFading_45 rfl (by decide) (Nat.le_trans c_0 (by decide)) ?_
        refine R_nmI (fun r9 => ?_)
        refine R_istore_n (pc' := 49) (L' := [(1, .int r9), (0, va_rf (some this)), (2, .int l2)]) (i := 1) (x := r9) dX3_nextFading_48 rfl rfl (by decide) rfl ?_
        exact R_sub [1, 0, 2] rfl (rf_X3_nextFading_J49 this (f_X3_nextFading_L5 this n) ih r9 l2 M)
def f_X3_nextFading (this : Nat) (M : Mem) : Option (Int32 × Mem) :=
  f_X3_nextFading_L5 this FU (nI 2147483647) (nI 0) M
set_option maxHeartbeats 2000000 in
set_option maxRecDepth 20000 in
theorem rm_X3_nextFading (this : Nat) (M : Mem) : RFm yX3_nextFading cX3_nextFading 3 (some .int) 1 eI (f_X3_nextFading this M) [va_rf (some this)] M := by
  refine RFm_of (L := [(0, va_rf (some this))]) (by decide) rfl (Nat.le_trans (c_R c_0) (by decide)) ?_
  rw [f_X3_nextFading]
  refine R_ldc (pc' := 2) (x := (nI 2147483647)) dX3_nextFading_0 rfl co_X3_143 ?_
  refine R_istore_n (pc' := 3) (L' := [(1, .int (nI 2147483647)), (0, va_rf (some this))]) (i := 1) (x := (nI 2147483647)) dX3_nextFading_2 rfl rfl (by decide) rfl ?_
  refine R_iconst (pc' := 4) (x := (nI 0)) dX3_nextFading_3 rfl (by decide) ?_
  refine R_istore_n (pc' := 5) (L' := [(2, .int (nI 0)), (1, .int (nI 2147483647)), (0, va_rf (some this))]) (i := 2) (x := (nI 0)) dX3_nextFading_4 rfl rfl (by decide) rfl ?_
  exact R_sub [2, 1, 0] rfl (rf_X3_nextFading_L5 this FU (nI 2147483647) (nI 0) M)
