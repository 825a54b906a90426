/-! BarPilot$Asker.commonJokes()I -/
def f_X0_commonJokes_J46 (k4 : Int32 → Int32 → Mem → Option (Int32 × Mem)) (this : Nat) (l1 : Int32) (l2 : Int32) (M : Mem) : Option (Int32 × Mem) :=
  k4 l1 (l2 + (nI 1)) M
set_option maxHeartbeats 2000000 in
set_option maxRecDepth 20000 in
theorem rf_X0_commonJokes_J46 (this : Nat) (k4 : Int32 → Int32 → Mem → Option (Int32 × Mem)) (hk4 : ∀ (l1 : Int32) (l2 : Int32) (M : Mem), RF yX0_commonJokes cX0_commonJokes 3 (some .int) 1 eI (k4 l1 l2 M) 4 [(0, va_rf (some this)), (1, .int l1), (2, .int l2)] [] M) (l1 : Int32) (l2 : Int32) (M : Mem) : RF yX0_commonJokes cX0_commonJokes 3 (some .int) 1 eI (f_X0_commonJokes_J46 k4 this l1 l2 M) 46 [(0, va_rf (some this)), (1, .int l1), (2, .int l2)] [] M := by
  rw [f_X0_commonJokes_J46]
  refine R_iinc (pc' := 49) (L' := [(2, .int (l2 + (nI 1))), (0, va_rf (some this)), (1, .int l1)]) (i := 2) (j := 2) (x := l2) (x2 := (l2 + (nI 1))) dX0_commonJokes_46 rfl rfl rfl (by decide) rfl ?_
  refine R_goto (tgt := 4) dX0_commonJokes_49 (by decide) ?_
  exact R_sub [1, 2, 0] rfl (hk4 l1 (l2 + (nI 1)) M)
def f_X0_commonJokes_L4 (this : Nat) : Nat → Int32 → Int32 → Mem → Option (Int32 × Mem)
  | 0, _, _, _ => none
  | n + 1, l1, l2, M =>
    (gR M 0 5 (some this)).bind fun told1 =>
    (gI M 8 4 told1).bind fun ships2 =>
    (if ships2 ≤ l2 then
      (some (l1, M))
    else
      ((gR M 0 4 (some this)).bind fun book3 =>
      (gR M 2 1 book3).bind fun scene4 =>
      (gR M 6 3 scene4).bind fun passed5 =>
      (aI M 0 passed5 l2).bind fun e6 =>
      (if e6 = (-1 : Int32) then
        ((gR M 0 4 (some this)).bind fun book7 =>
        (gR M 2 1 book7).bind fun scene8 =>
        (gR M 6 2 scene8).bind fun knows9 =>
        (aI M 0 knows9 l2).bind fun e10 =>
        nm (l1 &&& e10) fun v11 =>
        f_X0_commonJokes_J46 (f_X0_commonJokes_L4 this n) this v11 l2 M)
      else
        (f_X0_commonJokes_J46 (f_X0_commonJokes_L4 this n) this l1 l2 M))))
set_option maxHeartbeats 2000000 in
set_option maxRecDepth 20000 in
theorem rf_X0_commonJokes_L4 (this : Nat) : ∀ (n : Nat) (l1 : Int32) (l2 : Int32) (M : Mem), RF yX0_commonJokes cX0_commonJokes 3 (some .int) 1 eI (f_X0_commonJokes_L4 this n l1 l2 M) 4 [(0, va_rf (some this)), (1, .int l1), (2, .int l2)] [] M := by
  intro n
  induction n with
  | zero => intro _ _ _; exact RF.none
  | succ n ih =>
    intro l1 l2 M
    rw [f_X0_commonJokes_L4]
    refine R_iload_n (pc' := 5) (i := 2) (j := 2) (x := l2) dX0_commonJokes_4 rfl rfl rfl ?_
    refine R_aloadq_n (pc' := 6) (i := 0) (j := 0) (q := (some this)) dX0_commonJokes_5 rfl rfl rfl ?_
    refine R_getR (pc' := 9) (q := (some this)) fl_X0_43 rfl dX0_commonJokes_6 rfl (fun told1 => ?_)
    refine R_getI (pc' := 12) (q := told1) fl_X0_82 rfl dX0_commonJokes_9 rfl (fun ships2 => ?_)
    refine R_icmp_ge (pc' := 15) (tgt := 52) (a := l2) (b := ships2) dX0_commonJokes_12 (by decide) rfl ?_ ?_
    · refine R_iload_n (pc' := 53) (i := 1) (j := 1) (x := l1) dX0_commonJokes_52 rfl rfl rfl ?_
      exact R_iret dX0_commonJokes_53
    · refine R_aloadq_n (pc' := 16) (i := 0) (j := 0) (q := (some this)) dX0_commonJokes_15 rfl rfl rfl ?_
      refine R_getR (pc' := 19) (q := (some this)) fl_X0_33 rfl dX0_commonJokes_16 rfl (fun book3 => ?_)
      refine R_getR (pc' := 22) (q := book3) fl_X0_48 rfl dX0_commonJokes_19 rfl (fun scene4 => ?_)
      refine R_getR (pc' := 25) (q := scene4) fl_X0_91 rfl dX0_commonJokes_22 rfl (fun passed5 => ?_)
      refine R_iload_n (pc' := 26) (i := 2) (j := 2) (x := l2) dX0_commonJokes_25 rfl rfl rfl ?_
      refine R_iald (pc' := 27) (q := passed5) (i := l2) dX0_commonJokes_26 rfl (fun e6 => ?_)
      refine R_iconst (pc' := 28) (x := (-1 : Int32)) dX0_commonJokes_27 rfl (by decide) ?_
      refine R_icmp_ne (pc' := 31) (tgt := 46) (a := e6) (b := (-1 : Int32)) dX0_commonJokes_28 (by decide) rfl ?_ ?_
      · exact R_sub [0, 1, 2] rfl (rf_X0_commonJokes_J46 this (f_X0_commonJokes_L4 this n) ih l1 l2 M)
      · refine R_iload_n (pc' := 32) (i := 1) (j := 1) (x := l1) dX0_commonJokes_31 rfl rfl rfl ?_
        refine R_aloadq_n (pc' := 33) (i := 0) (j := 0) (q := (some this)) dX0_commonJokes_32 rfl rfl rfl ?_
        refine R_getR (pc' := 36) (q := (some this)) fl_X0_33 rfl dX0_commonJokes_33 rfl (fun book7 => ?_)
        refine R_getR (pc' := 39) (q := book7) fl_X0_48 rfl dX0_commonJokes_36 rfl (fun scene8 => ?_)
        refine R_getR (pc' := 42) (q := scene8) fl_X0_152 rfl dX0_commonJokes_39 rfl (fun knows9 => ?_)
        refine R_iload_n (pc' := 43) (i := 2) (j := 2) (x := l2) dX0_commonJokes_42 rfl rfl rfl ?_
        refine R_iald (pc' := 44) (q := knows9) (i := l2) dX0_commonJokes_43 rfl (fun e10 => ?_)
        refine R_iand (pc' := 45) (a := l1) (b := e10) dX0_commonJokes_44 rfl ?_
        refine R_nmI (fun v11 => ?_)
        refine R_istore_n (pc' := 46) (L' := [(1, .int v11), (0, va_rf (some this)), (2, .int l2)]) (i := 1) (x := v11) dX0_commonJokes_45 rfl rfl (by decide) rfl ?_
        exact R_sub [1, 0, 2] rfl (rf_X0_commonJokes_J46 this (f_X0_commonJokes_L4 this n) ih v11 l2 M)
def f_X0_commonJokes (this : Nat) (M : Mem) : Option (Int32 × Mem) :=
  f_X0_commonJokes_L4 this FU (-1 : Int32) (nI 0) M
set_option maxHeartbeats 2000000 in
set_option maxRecDepth 20000 in
theorem rm_X0_commonJokes (this : Nat) (M : Mem) : RFm yX0_commonJokes cX0_commonJokes 3 (some .int) 1 eI (f_X0_commonJokes this M) [va_rf (some this)] M := by
  refine RFm_of (L := [(0, va_rf (some this))]) (by decide) rfl (Nat.le_trans (c_R c_0) (by decide)) ?_
  rw [f_X0_commonJokes]
  refine R_iconst (pc' := 1) (x := (-1 : Int32)) dX0_commonJokes_0 rfl (by decide) ?_
  refine R_istore_n (pc' := 2) (L' := [(1, .int (-1 : Int32)), (0, va_rf (some this))]) (i := 1) (x := (-1 : Int32)) dX0_commonJokes_1 rfl rfl (by decide) rfl ?_
  refine R_iconst (pc' := 3) (x := (nI 0)) dX0_commonJokes_2 rfl (by decide) ?_
  refine R_istore_n (pc' := 4) (L' := [(2, .int (nI 0)), (1, .int (-1 : Int32)), (0, va_rf (some this))]) (i := 2) (x := (nI 0)) dX0_commonJokes_3 rfl rfl (by decide) rfl ?_
  exact R_sub [2, 1, 0] rfl (rf_X0_commonJokes_L4 this FU (-1 : Int32) (nI 0) M)
/-! BarPilot$Asker.findLessons(I)I -/
def f_X0_findLessons_J107 (k7 : Int32 → Int32 → Int32 → Mem → Option (Int32 × Mem)) (k21 : Int32 → Int32 → Int32 → Int32 → Mem → Option (Int32 × Mem)) (this : Nat) (l1 : Int32) (l2 : Int32) (l3 : Int32) (l4 : Int32) (M : Mem) : Option (Int32 × Mem) :=
  k21 l1 l2 l3 (l4 + (nI 1)) M
set_option maxHeartbeats 2000000 in
set_option maxRecDepth 20000 in
theorem rf_X0_findLessons_J107 (this : Nat) (k7 : Int32 → Int32 → Int32 → Mem → Option (Int32 × Mem)) (k21 : Int32 → Int32 → Int32 → Int32 → Mem → Option (Int32 × Mem)) (hk7 : ∀ (l1 : Int32) (l2 : Int32) (l3 : Int32) (M : Mem), RF yX0_findLessons cX0_findLessons 5 (some .int) 6 eI (k7 l1 l2 l3 M) 7 [(0, va_rf (some this)), (1, .int l1), (2, .int l2), (3, .int l3)] [] M) (hk21 : ∀ (l1 : Int32) (l2 : Int32) (l3 : Int32) (l4 : Int32) (M : Mem), RF yX0_findLessons cX0_findLessons 5 (some .int) 6 eI (k21 l1 l2 l3 l4 M) 21 [(0, va_rf (some this)), (1, .int l1), (2, .int l2), (3, .int l3), (4, .int l4)] [] M) (l1 : Int32) (l2 : Int32) (l3 : Int32) (l4 : Int32) (M : Mem) : RF yX0_findLessons cX0_findLessons 5 (some .int) 6 eI (f_X0_findLessons_J107 k7 k21 this l1 l2 l3 l4 M) 107 [(0, va_rf (some this)), (1, .int l1), (2, .int l2), (3, .int l3), (4, .int l4)] [] M := by
  rw [f_X0_findLessons_J107]
  refine R_iinc (pc' := 110) (L' := [(4, .int (l4 + (nI 1))), (0, va_rf (some this)), (1, .int l1), (2, .int l2), (3, .int l3)]) (i := 4) (j := 4) (x := l4) (x2 := (l4 + (nI 1))) dX0_findLessons_107 rfl rfl rfl (by decide) rfl ?_
  refine R_goto (tgt := 21) dX0_findLessons_110 (by decide) ?_
  exact R_sub [1, 2, 3, 4, 0] rfl (hk21 l1 l2 l3 (l4 + (nI 1)) M)
def f_X0_findLessons_L21 (k7 : Int32 → Int32 → Int32 → Mem → Option (Int32 × Mem)) (this : Nat) : Nat → Int32 → Int32 → Int32 → Int32 → Mem → Option (Int32 × Mem)
  | 0, _, _, _, _, _ => none
  | n + 1, l1, l2, l3, l4, M =>
    (gR M 0 5 (some this)).bind fun told1 =>
    (gI M 8 3 told1).bind fun jokes2 =>
    (if ((nI 1) <<< (jokes2 &&& 31)) ≤ l4 then
      (k7 l1 l2 (l3 + (nI 1)) M)
    else
      (cl (f_J6_bitCount_0f7a4 l4 M) fun r3 M =>
      (if r3 = l3 then
        ((if (l4 &&& l2) = 0 then
          ((gR M 0 7 (some this)).bind fun work4 =>
          (gR M 0 4 (some this)).bind fun book5 =>
          (gR M 2 1 book5).bind fun scene6 =>
          (oO M 6 work4).bind fun o19 => cl (f_X6_copyFrom o19 scene6 M) fun u7 M =>
          (gR M 0 7 (some this)).bind fun work8 =>
          (oO M 6 work8).bind fun o18 => cl (f_X6_teach o18 l4 M) fun u9 M =>
          (gR M 0 6 (some this)).bind fun pilot10 =>
          (gR M 0 7 (some this)).bind fun work11 =>
          (oO M 3 pilot10).bind fun o17 => cl (f_X3_goOn o17 work11 l1 (nI 1) M) fun u12 M =>
          (gR M 0 5 (some this)).bind fun told13 =>
          (gR M 0 7 (some this)).bind fun work14 =>
          (oO M 8 told13).bind fun o16 => cl (f_X8_waiting o16 work14 M) fun r15 M =>
          (if r15 = 0 then
            (some (l4, M))
          else
            (f_X0_findLessons_J107 k7 (f_X0_findLessons_L21 k7 this n) this l1 l2 l3 l4 M)))
        else
          (f_X0_findLessons_J107 k7 (f_X0_findLessons_L21 k7 this n) this l1 l2 l3 l4 M)))
      else
        (f_X0_findLessons_J107 k7 (f_X0_findLessons_L21 k7 this n) this l1 l2 l3 l4 M))))
set_option maxHeartbeats 2000000 in
set_option maxRecDepth 20000 in
theorem rf_X0_findLessons_L21 (this : Nat) (k7 : Int32 → Int32 → Int32 → Mem → Option (Int32 × Mem)) (hk7 : ∀ (l1 : Int32) (l2 : Int32) (l3 : Int32) (M : Mem), RF yX0_findLessons cX0_findLessons 5 (some .int) 6 eI (k7 l1 l2 l3 M) 7 [(0, va_rf (some this)), (1, .int l1), (2, .int l2), (3, .int l3)] [] M) : ∀ (n : Nat) (l1 : Int32) (l2 : Int32) (l3 : Int32) (l4 : Int32) (M : Mem), RF yX0_findLessons cX0_findLessons 5 (some .int) 6 eI (f_X0_findLessons_L21 k7 this n l1 l2 l3 l4 M) 21 [(0, va_rf (some this)), (1, .int l1), (2, .int l2), (3, .int l3), (4, .int l4)] [] M := by
  intro n
  induction n with
  | zero => intro _ _ _ _ _; exact RF.none
  | succ n ih =>
    intro l1 l2 l3 l4 M
    rw [f_X0_findLessons_L21]
    refine R_iload (pc' := 23) (i := 4) (j := 4) (x := l4) dX0_findLessons_21 rfl rfl ?_
    refine R_iconst (pc' := 24) (x := (nI 1)) dX0_findLessons_23 rfl (by decide) ?_
    refine R_aloadq_n (pc' := 25) (i := 0) (j := 0) (q := (some this)) dX0_findLessons_24 rfl rfl rfl ?_
    refine R_getR (pc' := 28) (q := (some this)) fl_X0_43 rfl dX0_findLessons_25 rfl (fun told1 => ?_)
    refine R_getI (pc' := 31) (q := told1) fl_X0_110 rfl dX0_findLessons_28 rfl (fun jokes2 => ?_)
    refine R_ishl (pc' := 32) (a := (nI 1)) (b := jokes2) dX0_findLessons_31 rfl ?_
    refine R_icmp_ge (pc' := 35) (tgt := 113) (a := l4) (b := ((nI 1) <<< (jokes2 &&& 31))) dX0_findLessons_32 (by decide) rfl ?_ ?_
    · refine R_iinc (pc' := 116) (L' := [(3, .int (l3 + (nI 1))), (0, va_rf (some this)), (1, .int l1), (2, .int l2), (4, .int l4)]) (i := 3) (j := 3) (x := l3) (x2 := (l3 + (nI 1))) dX0_findLessons_113 rfl rfl rfl (by decide) rfl ?_
      refine R_goto (tgt := 7) dX0_findLessons_116 (by decide) ?_
      exact R_sub [1, 2, 3, 0] rfl (hk7 l1 l2 (l3 + (nI 1)) M)
    · refine R_iload (pc' := 37) (i := 4) (j := 4) (x := l4) dX0_findLessons_35 rfl rfl ?_
      refine R_callS_I (pc' := 40) (As := [.int l4]) (rm_J6_bitCount_0f7a4 l4 M) mf_J6_bitCount_0f7a4 lk_X0_143 sm_J6_bitCount_0f7a4 rfl rfl dX0_findLessons_37 rfl (by decide) (Nat.le_trans c_0 (by decide)) (fun r3 M => ?_)
      refine R_iload_n (pc' := 41) (i := 3) (j := 3) (x := l3) dX0_findLessons_40 rfl rfl rfl ?_
      refine R_icmp_ne (pc' := 44) (tgt := 107) (a := r3) (b := l3) dX0_findLessons_41 (by decide) rfl ?_ ?_
      · exact R_sub [0, 1, 2, 3, 4] rfl (rf_X0_findLessons_J107 this k7 (f_X0_findLessons_L21 k7 this n) hk7 ih l1 l2 l3 l4 M)
      · refine R_iload (pc' := 46) (i := 4) (j := 4) (x := l4) dX0_findLessons_44 rfl rfl ?_
        refine R_iload_n (pc' := 47) (i := 2) (j := 2) (x := l2) dX0_findLessons_46 rfl rfl rfl ?_
        refine R_iand (pc' := 48) (a := l4) (b := l2) dX0_findLessons_47 rfl ?_
        refine R_if_eq (pc' := 51) (tgt := 54) (a := (l4 &&& l2)) dX0_findLessons_48 (by decide) rfl ?_ ?_
        · refine R_aloadq_n (pc' := 55) (i := 0) (j := 0) (q := (some this)) dX0_findLessons_54 rfl rfl rfl ?_
          refine R_getR (pc' := 58) (q := (some this)) fl_X0_18 rfl dX0_findLessons_55 rfl (fun work4 => ?_)
          refine R_aloadq_n (pc' := 59) (i := 0) (j := 0) (q := (some this)) dX0_findLessons_58 rfl rfl rfl ?_
          refine R_getR (pc' := 62) (q := (some this)) fl_X0_33 rfl dX0_findLessons_59 rfl (fun book5 => ?_)
          refine R_getR (pc' := 65) (q := book5) fl_X0_48 rfl dX0_findLessons_62 rfl (fun scene6 => ?_)
          refine R_callV_V (pc' := 68) (q := work4) (As := [va_rf scene6]) (fun o19 => rm_X6_copyFrom o19 scene6 M) mf_X6_copyFrom lk_X0_51 im_X6_copyFrom se_X6_copyFrom rfl rfl rfl dX0_findLessons_65 rfl (by decide) (Nat.le_trans c_0 (by decide)) (fun u7 M => ?_)
          refine R_aloadq_n (pc' := 69) (i := 0) (j := 0) (q := (some this)) dX0_findLessons_68 rfl rfl rfl ?_
          refine R_getR (pc' := 72) (q := (some this)) fl_X0_18 rfl dX0_findLessons_69 rfl (fun work8 => ?_)
          refine R_iload (pc' := 74) (i := 4) (j := 4) (x := l4) dX0_findLessons_72 rfl rfl ?_
          refine R_callV_V (pc' := 77) (q := work8) (As := [.int l4]) (fun o18 => rm_X6_teach o18 l4 M) mf_X6_teach lk_X0_148 im_X6_teach se_X6_teach rfl rfl rfl dX0_findLessons_74 rfl (by decide) (Nat.le_trans c_0 (by decide)) (fun u9 M => ?_)
          refine R_aloadq_n (pc' := 78) (i := 0) (j := 0) (q := (some this)) dX0_findLessons_77 rfl rfl rfl ?_
          refine R_getR (pc' := 81) (q := (some this)) fl_X0_44 rfl dX0_findLessons_78 rfl (fun pilot10 => ?_)
          refine R_aloadq_n (pc' := 82) (i := 0) (j := 0) (q := (some this)) dX0_findLessons_81 rfl rfl rfl ?_
          refine R_getR (pc' := 85) (q := (some this)) fl_X0_18 rfl dX0_findLessons_82 rfl (fun work11 => ?_)
          refine R_iload_n (pc' := 86) (i := 1) (j := 1) (x := l1) dX0_findLessons_85 rfl rfl rfl ?_
          refine R_iconst (pc' := 87) (x := (nI 1)) dX0_findLessons_86 rfl (by decide) ?_
          refine R_callV_V (pc' := 90) (q := pilot10) (As := [va_rf work11, .int l1, .int (nI 1)]) (fun o17 => rm_X3_goOn o17 work11 l1 (nI 1) M) mf_X3_goOn lk_X0_55 im_X3_goOn se_X3_goOn rfl rfl rfl dX0_findLessons_87 rfl (by decide) (Nat.le_trans c_0 (by decide)) (fun u12 M => ?_)
          refine R_aloadq_n (pc' := 91) (i := 0) (j := 0) (q := (some this)) dX0_findLessons_90 rfl rfl rfl ?_
          refine R_getR (pc' := 94) (q := (some this)) fl_X0_43 rfl dX0_findLessons_91 rfl (fun told13 => ?_)
          refine R_aloadq_n (pc' := 95) (i := 0) (j := 0) (q := (some this)) dX0_findLessons_94 rfl rfl rfl ?_
          refine R_getR (pc' := 98) (q := (some this)) fl_X0_18 rfl dX0_findLessons_95 rfl (fun work14 => ?_)
          refine R_callV_I (pc' := 101) (q := told13) (As := [va_rf work14]) (fun o16 => rm_X8_waiting o16 work14 M) mf_X8_waiting lk_X0_130 im_X8_waiting se_X8_waiting rfl rfl rfl dX0_findLessons_98 rfl (by decide) (Nat.le_trans c_0 (by decide)) (fun r15 M => ?_)
          refine R_if_ne (pc' := 104) (tgt := 107) (a := r15) dX0_findLessons_101 (by decide) rfl ?_ ?_
          · exact R_sub [0, 1, 2, 3, 4] rfl (rf_X0_findLessons_J107 this k7 (f_X0_findLessons_L21 k7 this n) hk7 ih l1 l2 l3 l4 M)
          · refine R_iload (pc' := 106) (i := 4) (j := 4) (x := l4) dX0_findLessons_104 rfl rfl ?_
            exact R_iret dX0_findLessons_106
        · refine R_goto (tgt := 107) dX0_findLessons_51 (by decide) ?_
          exact R_sub [0, 1, 2, 3, 4] rfl (rf_X0_findLessons_J107 this k7 (f_X0_findLessons_L21 k7 this n) hk7 ih l1 l2 l3 l4 M)
def f_X0_findLessons_L7 (this : Nat) : Nat → Int32 → Int32 → Int32 → Mem → Option (Int32 × Mem)
  | 0, _, _, _, _ => none
  | n + 1, l1, l2, l3, M =>
    (gR M 0 5 (some this)).bind fun told1 =>
    (gI M 8 3 told1).bind fun jokes2 =>
    (if jokes2 < l3 then
      (some ((-1 : Int32), M))
    else
      (f_X0_findLessons_L21 (f_X0_findLessons_L7 this n) this FU l1 l2 l3 (nI 0) M))
set_option maxHeartbeats 2000000 in
set_option maxRecDepth 20000 in
theorem rf_X0_findLessons_L7 (this : Nat) : ∀ (n : Nat) (l1 : Int32) (l2 : Int32) (l3 : Int32) (M : Mem), RF yX0_findLessons cX0_findLessons 5 (some .int) 6 eI (f_X0_findLessons_L7 this n l1 l2 l3 M) 7 [(0, va_rf (some this)), (1, .int l1), (2, .int l2), (3, .int l3)] [] M := by
  intro n
  induction n with
  | zero => intro _ _ _ _; exact RF.none
  | succ n ih =>
    intro l1 l2 l3 M
    rw [f_X0_findLessons_L7]
    refine R_iload_n (pc' := 8) (i := 3) (j := 3) (x := l3) dX0_findLessons_7 rfl rfl rfl ?_
    refine R_aloadq_n (pc' := 9) (i := 0) (j := 0) (q := (some this)) dX0_findLessons_8 rfl rfl rfl ?_
    refine R_getR (pc' := 12) (q := (some this)) fl_X0_43 rfl dX0_findLessons_9 rfl (fun told1 => ?_)
    refine R_getI (pc' := 15) (q := told1) fl_X0_110 rfl dX0_findLessons_12 rfl (fun jokes2 => ?_)
    refine R_icmp_gt (pc' := 18) (tgt := 119) (a := l3) (b := jokes2) dX0_findLessons_15 (by decide) rfl ?_ ?_
    · refine R_iconst (pc' := 120) (x := (-1 : Int32)) dX0_findLessons_119 rfl (by decide) ?_
      exact R_iret dX0_findLessons_120
    · refine R_iconst (pc' := 19) (x := (nI 0)) dX0_findLessons_18 rfl (by decide) ?_
      refine R_istore (pc' := 21) (L' := [(4, .int (nI 0)), (0, va_rf (some this)), (1, .int l1), (2, .int l2), (3, .int l3)]) (i := 4) (x := (nI 0)) dX0_findLessons_19 rfl (by decide) rfl ?_
      exact R_sub [1, 2, 3, 4, 0] rfl (rf_X0_findLessons_L21 this (f_X0_findLessons_L7 this n) ih FU l1 l2 l3 (nI 0) M)
def f_X0_findLessons (this : Nat) (l1 : Int32) (M : Mem) : Option (Int32 × Mem) :=
  (oO M 0 (some this)).bind fun o2 => cl (f_X0_commonJokes o2 M) fun r1 M =>
  f_X0_findLessons_L7 this FU l1 r1 (nI 0) M
set_option maxHeartbeats 2000000 in
set_option maxRecDepth 20000 in
theorem rm_X0_findLessons (this : Nat) (l1 : Int32) (M : Mem) : RFm yX0_findLessons cX0_findLessons 5 (some .int) 6 eI (f_X0_findLessons this l1 M) [va_rf (some this), .int l1] M := by
  refine RFm_of (L := [(0, va_rf (some this)), (1, .int l1)]) (by decide) rfl (Nat.le_trans (c_R (c_I c_0)) (by decide)) ?_
  rw [f_X0_findLessons]
  refine R_aloadq_n (pc' := 1) (i := 0) (j := 0) (q := (some this)) dX0_findLessons_0 rfl rfl rfl ?_
  refine R_callV_I (pc' := 4) (q := (some this)) (As := []) (fun o2 => rm_X0_commonJokes o2 M) mf_X0_commonJokes lk_X0_139 im_X0_commonJokes se_X0_commonJokes rfl rfl rfl dX0_findLessons_1 rfl (by decide) (Nat.le_trans c_0 (by decide)) (fun r1 M => ?_)
  refine R_istore_n (pc' := 5) (L' := [(2, .int r1), (0, va_rf (some this)), (1, .int l1)]) (i := 2) (x := r1) dX0_findLessons_4 rfl rfl (by decide) rfl ?_
  refine R_iconst (pc' := 6) (x := (nI 0)) dX0_findLessons_5 rfl (by decide) ?_
  refine R_istore_n (pc' := 7) (L' := [(3, .int (nI 0)), (2, .int r1), (0, va_rf (some this)), (1, .int l1)]) (i := 3) (x := (nI 0)) dX0_findLessons_6 rfl rfl (by decide) rfl ?_
  exact R_sub [2, 3, 1, 0] rfl (rf_X0_findLessons_L7 this FU l1 r1 (nI 0) M)
/-! BarPilot$Asker.findOldSets(LBarPilot$Rule;II)V -/
def f_X0_findOldSets_J183 (k41 : Int32 → Int32 → Int32 → Int32 → Mem → Option (Unit × Mem)) (this : Nat) (l2 : Int32) (l3 : Int32) (l4 : Int32) (l5 : Int32) (M : Mem) : Option (Unit × Mem) :=
  k41 l2 l3 l4 (l5 + (nI 1)) M
set_option maxHeartbeats 2000000 in
set_option maxRecDepth 20000 in
theorem rf_X0_findOldSets_J183 (this : Nat) (k41 : Int32 → Int32 → Int32 → Int32 → Mem → Option (Unit × Mem)) (hk41 : ∀ (l2 : Int32) (l3 : Int32) (l4 : Int32) (l5 : Int32) (M : Mem), RF yX0_findOldSets cX0_findOldSets 7 none 6 eV (k41 l2 l3 l4 l5 M) 41 [(0, va_rf (some this)), (2, .int l2), (3, .int l3), (4, .int l4), (5, .int l5)] [] M) (l2 : Int32) (l3 : Int32) (l4 : Int32) (l5 : Int32) (M : Mem) : RF yX0_findOldSets cX0_findOldSets 7 none 6 eV (f_X0_findOldSets_J183 k41 this l2 l3 l4 l5 M) 183 [(0, va_rf (some this)), (2, .int l2), (3, .int l3), (4, .int l4), (5, .int l5)] [] M := by
  rw [f_X0_findOldSets_J183]
  refine R_iinc (pc' := 186) (L' := [(5, .int (l5 + (nI 1))), (0, va_rf (some this)), (2, .int l2), (3, .int l3), (4, .int l4)]) (i := 5) (j := 4) (x := l5) (x2 := (l5 + (nI 1))) dX0_findOldSets_183 rfl rfl rfl (by decide) rfl ?_
  refine R_goto (tgt := 41) dX0_findOldSets_186 (by decide) ?_
  exact R_sub [1, 2, 3, 4, 0] rfl (hk41 l2 l3 l4 (l5 + (nI 1)) M)
def f_X0_findOldSets_J159 (k41 : Int32 → Int32 → Int32 → Int32 → Mem → Option (Unit × Mem)) (this : Nat) (l2 : Int32) (l3 : Int32) (l4 : Int32) (l5 : Int32) (s0 : Int32) (s1 : Option Nat) (M : Mem) : Option (Unit × Mem) :=
  (pI M 0 1 s1 s0).bind fun M =>
  (gI M 0 2 (some this)).bind fun second1 =>
  (pI M 0 2 (some this) (second1 &&& l5)).bind fun M =>
  (gI M 0 0 (some this)).bind fun amount2 =>
  (pI M 0 0 (some this) (amount2 + (nI 1))).bind fun M =>
  f_X0_findOldSets_J183 k41 this l2 l3 l4 l5 M
set_option maxHeartbeats 2000000 in
set_option maxRecDepth 20000 in
theorem rf_X0_findOldSets_J159 (this : Nat) (k41 : Int32 → Int32 → Int32 → Int32 → Mem → Option (Unit × Mem)) (hk41 : ∀ (l2 : Int32) (l3 : Int32) (l4 : Int32) (l5 : Int32) (M : Mem), RF yX0_findOldSets cX0_findOldSets 7 none 6 eV (k41 l2 l3 l4 l5 M) 41 [(0, va_rf (some this)), (2, .int l2), (3, .int l3), (4, .int l4), (5, .int l5)] [] M) (l2 : Int32) (l3 : Int32) (l4 : Int32) (l5 : Int32) (s0 : Int32) (s1 : Option Nat) (M : Mem) : RF yX0_findOldSets cX0_findOldSets 7 none 6 eV (f_X0_findOldSets_J159 k41 this l2 l3 l4 l5 s0 s1 M) 159 [(0, va_rf (some this)), (2, .int l2), (3, .int l3), (4, .int l4), (5, .int l5)] [.int s0, va_rf s1] M := by
  rw [f_X0_findOldSets_J159]
  refine R_putI (pc' := 162) (q := s1) (x := s0) fl_X0_75 (Or.inl rfl) dX0_findOldSets_159 rfl (fun M => ?_)
  refine R_aloadq_n (pc' := 163) (i := 0) (j := 0) (q := (some this)) dX0_findOldSets_162 rfl rfl rfl ?_
  refine R_dup (pc' := 164) dX0_findOldSets_163 rfl (rf_cat _) ?_
  refine R_getI (pc' := 167) (q := (some this)) fl_X0_133 rfl dX0_findOldSets_164 rfl (fun second1 => ?_)
  refine R_iload (pc' := 169) (i := 5) (j := 4) (x := l5) dX0_findOldSets_167 rfl rfl ?_
  refine R_iand (pc' := 170) (a := second1) (b := l5) dX0_findOldSets_169 rfl ?_
  refine R_putI (pc' := 173) (q := (some this)) (x := (second1 &&& l5)) fl_X0_133 (Or.inl rfl) dX0_findOldSets_170 rfl (fun M => ?_)
  refine R_aloadq_n (pc' := 174) (i := 0) (j := 0) (q := (some this)) dX0_findOldSets_173 rfl rfl rfl ?_
  refine R_dup (pc' := 175) dX0_findOldSets_174 rfl (rf_cat _) ?_
  refine R_getI (pc' := 178) (q := (some this)) fl_X0_65 rfl dX0_findOldSets_175 rfl (fun amount2 => ?_)
  refine R_iconst (pc' := 179) (x := (nI 1)) dX0_findOldSets_178 rfl (by decide) ?_
  refine R_iadd (pc' := 180) (a := amount2) (b := (nI 1)) dX0_findOldSets_179 rfl ?_
  refine R_putI (pc' := 183) (q := (some this)) (x := (amount2 + (nI 1))) fl_X0_65 (Or.inl rfl) dX0_findOldSets_180 rfl (fun M => ?_)
  exact R_sub [0, 1, 2, 3, 4] rfl (rf_X0_findOldSets_J183 this k41 hk41 l2 l3 l4 l5 M)
def f_X0_findOldSets_J106 (k41 : Int32 → Int32 → Int32 → Int32 → Mem → Option (Unit × Mem)) (k69 : Int32 → Int32 → Int32 → Int32 → Int32 → Mem → Option (Unit × Mem)) (this : Nat) (l2 : Int32) (l3 : Int32) (l4 : Int32) (l5 : Int32) (l6 : Int32) (s0 : Int32) (s1 : Int32) (s2 : Option Nat) (M : Mem) : Option (Unit × Mem) :=
  (wI M 0 s2 s1 s0).bind fun M =>
  k69 l2 l3 l4 l5 (l6 + (nI 1)) M
set_option maxHeartbeats 2000000 in
set_option maxRecDepth 20000 in
theorem rf_X0_findOldSets_J106 (this : Nat) (k41 : Int32 → Int32 → Int32 → Int32 → Mem → Option (Unit × Mem)) (k69 : Int32 → Int32 → Int32 → Int32 → Int32 → Mem → Option (Unit × Mem)) (hk41 : ∀ (l2 : Int32) (l3 : Int32) (l4 : Int32) (l5 : Int32) (M : Mem), RF yX0_findOldSets cX0_findOldSets 7 none 6 eV (k41 l2 l3 l4 l5 M) 41 [(0, va_rf (some this)), (2, .int l2), (3, .int l3), (4, .int l4), (5, .int l5)] [] M) (hk69 : ∀ (l2 : Int32) (l3 : Int32) (l4 : Int32) (l5 : Int32) (l6 : Int32) (M : Mem), RF yX0_findOldSets cX0_findOldSets 7 none 6 eV (k69 l2 l3 l4 l5 l6 M) 69 [(0, va_rf (some this)), (2, .int l2), (3, .int l3), (4, .int l4), (5, .int l5), (6, .int l6)] [] M) (l2 : Int32) (l3 : Int32) (l4 : Int32) (l5 : Int32) (l6 : Int32) (s0 : Int32) (s1 : Int32) (s2 : Option Nat) (M : Mem) : RF yX0_findOldSets cX0_findOldSets 7 none 6 eV (f_X0_findOldSets_J106 k41 k69 this l2 l3 l4 l5 l6 s0 s1 s2 M) 106 [(0, va_rf (some this)), (2, .int l2), (3, .int l3), (4, .int l4), (5, .int l5), (6, .int l6)] [.int s0, .int s1, va_rf s2] M := by
  rw [f_X0_findOldSets_J106]
  refine R_iast (pc' := 107) (q := s2) (i := s1) (x := s0) dX0_findOldSets_106 rfl (fun M => ?_)
  refine R_iinc (pc' := 110) (L' := [(6, .int (l6 + (nI 1))), (0, va_rf (some this)), (2, .int l2), (3, .int l3), (4, .int l4), (5, .int l5)]) (i := 6) (j := 5) (x := l6) (x2 := (l6 + (nI 1))) dX0_findOldSets_107 rfl rfl rfl (by decide) rfl ?_
  refine R_goto (tgt := 69) dX0_findOldSets_110 (by decide) ?_
  exact R_sub [1, 2, 3, 4, 5, 0] rfl (hk69 l2 l3 l4 l5 (l6 + (nI 1)) M)
def f_X0_findOldSets_L69 (k41 : Int32 → Int32 → Int32 → Int32 → Mem → Option (Unit × Mem)) (this : Nat) : Nat → Int32 → Int32 → Int32 → Int32 → Int32 → Mem → Option (Unit × Mem)
  | 0, _, _, _, _, _, _ => none
  | n + 1, l2, l3, l4, l5, l6, M =>
    (gR M 0 5 (some this)).bind fun told1 =>
    (gI M 8 3 told1).bind fun jokes2 =>
    (if jokes2 ≤ l6 then
      ((gR M 0 6 (some this)).bind fun pilot3 =>
      (gR M 0 7 (some this)).bind fun work4 =>
      (oO M 3 pilot3).bind fun o12 => cl (f_X3_goOn o12 work4 l2 l4 M) fun u5 M =>
      (gR M 0 5 (some this)).bind fun told6 =>
      (gR M 0 7 (some this)).bind fun work7 =>
      (oO M 8 told6).bind fun o11 => cl (f_X8_passed o11 work7 M) fun r8 M =>
      (if r8 = l3 then
        ((gI M 0 0 (some this)).bind fun amount9 =>
        (if amount9 = 0 then
          (f_X0_findOldSets_J159 k41 this l2 l3 l4 l5 l5 (some this) M)
        else
          ((gI M 0 1 (some this)).bind fun first10 =>
          f_X0_findOldSets_J159 k41 this l2 l3 l4 l5 first10 (some this) M)))
      else
        (f_X0_findOldSets_J183 k41 this l2 l3 l4 l5 M)))
    else
      ((gR M 0 7 (some this)).bind fun work13 =>
      (gR M 6 1 work13).bind fun heard14 =>
      (if ((l5 >>> (l6 &&& 31)) &&& (nI 1)) = 0 then
        (f_X0_findOldSets_J106 k41 (f_X0_findOldSets_L69 k41 this n) this l2 l3 l4 l5 l6 (-100000 : Int32) l6 heard14 M)
      else
        (f_X0_findOldSets_J106 k41 (f_X0_findOldSets_L69 k41 this n) this l2 l3 l4 l5 l6 (-1 : Int32) l6 heard14 M))))
set_option maxHeartbeats 2000000 in
set_option maxRecDepth 20000 in
theorem rf_X0_findOldSets_L69 (this : Nat) (k41 : Int32 → Int32 → Int32 → Int32 → Mem → Option (Unit × Mem)) (hk41 : ∀ (l2 : Int32) (l3 : Int32) (l4 : Int32) (l5 : Int32) (M : Mem), RF yX0_findOldSets cX0_findOldSets 7 none 6 eV (k41 l2 l3 l4 l5 M) 41 [(0, va_rf (some this)), (2, .int l2), (3, .int l3), (4, .int l4), (5, .int l5)] [] M) : ∀ (n : Nat) (l2 : Int32) (l3 : Int32) (l4 : Int32) (l5 : Int32) (l6 : Int32) (M : Mem), RF yX0_findOldSets cX0_findOldSets 7 none 6 eV (f_X0_findOldSets_L69 k41 this n l2 l3 l4 l5 l6 M) 69 [(0, va_rf (some this)), (2, .int l2), (3, .int l3), (4, .int l4), (5, .int l5), (6, .int l6)] [] M := by
  intro n
  induction n with
  | zero => intro _ _ _ _ _ _; exact RF.none
  | succ n ih =>
    intro l2 l3 l4 l5 l6 M
    rw [f_X0_findOldSets_L69]
    refine R_iload (pc' := 71) (i := 6) (j := 5) (x := l6) dX0_findOldSets_69 rfl rfl ?_
    refine R_aloadq_n (pc' := 72) (i := 0) (j := 0) (q := (some this)) dX0_findOldSets_71 rfl rfl rfl ?_
    refine R_getR (pc' := 75) (q := (some this)) fl_X0_43 rfl dX0_findOldSets_72 rfl (fun told1 => ?_)
    refine R_getI (pc' := 78) (q := told1) fl_X0_110 rfl dX0_findOldSets_75 rfl (fun jokes2 => ?_)
    refine R_icmp_ge (pc' := 81) (tgt := 113) (a := l6) (b := jokes2) dX0_findOldSets_78 (by decide) rfl ?_ ?_
    · refine R_aloadq_n (pc' := 114) (i := 0) (j := 0) (q := (some this)) dX0_findOldSets_113 rfl rfl rfl ?_
      refine R_getR (pc' := 117) (q := (some this)) fl_X0_44 rfl dX0_findOldSets_114 rfl (fun pilot3 => ?_)
      refine R_aloadq_n (pc' := 118) (i := 0) (j := 0) (q := (some this)) dX0_findOldSets_117 rfl rfl rfl ?_
      refine R_getR (pc' := 121) (q := (some this)) fl_X0_18 rfl dX0_findOldSets_118 rfl (fun work4 => ?_)
      refine R_iload_n (pc' := 122) (i := 2) (j := 1) (x := l2) dX0_findOldSets_121 rfl rfl rfl ?_
      refine R_iload (pc' := 124) (i := 4) (j := 3) (x := l4) dX0_findOldSets_122 rfl rfl ?_
      refine R_callV_V (pc' := 127) (q := pilot3) (As := [va_rf work4, .int l2, .int l4]) (fun o12 => rm_X3_goOn o12 work4 l2 l4 M) mf_X3_goOn lk_X0_55 im_X3_goOn se_X3_goOn rfl rfl rfl dX0_findOldSets_124 rfl (by decide) (Nat.le_trans c_0 (by decide)) (fun u5 M => ?_)
      refine R_aloadq_n (pc' := 128) (i := 0) (j := 0) (q := (some this)) dX0_findOldSets_127 rfl rfl rfl ?_
      refine R_getR (pc' := 131) (q := (some this)) fl_X0_43 rfl dX0_findOldSets_128 rfl (fun told6 => ?_)
      refine R_aloadq_n (pc' := 132) (i := 0) (j := 0) (q := (some this)) dX0_findOldSets_131 rfl rfl rfl ?_
      refine R_getR (pc' := 135) (q := (some this)) fl_X0_18 rfl dX0_findOldSets_132 rfl (fun work7 => ?_)
      refine R_callV_I (pc' := 138) (q := told6) (As := [va_rf work7]) (fun o11 => rm_X8_passed o11 work7 M) mf_X8_passed lk_X0_168 im_X8_passed se_X8_passed rfl rfl rfl dX0_findOldSets_135 rfl (by decide) (Nat.le_trans c_0 (by decide)) (fun r8 M => ?_)
      refine R_iload_n (pc' := 139) (i := 3) (j := 2) (x := l3) dX0_findOldSets_138 rfl rfl rfl ?_
      refine R_icmp_ne (pc' := 142) (tgt := 183) (a := r8) (b := l3) dX0_findOldSets_139 (by decide) rfl ?_ ?_
      · exact R_sub [0, 1, 2, 3, 4] rfl (rf_X0_findOldSets_J183 this k41 hk41 l2 l3 l4 l5 M)
      · refine R_aloadq_n (pc' := 143) (i := 0) (j := 0) (q := (some this)) dX0_findOldSets_142 rfl rfl rfl ?_
        refine R_aloadq_n (pc' := 144) (i := 0) (j := 0) (q := (some this)) dX0_findOldSets_143 rfl rfl rfl ?_
        refine R_getI (pc' := 147) (q := (some this)) fl_X0_65 rfl dX0_findOldSets_144 rfl (fun amount9 => ?_)
        refine R_if_ne (pc' := 150) (tgt := 155) (a := amount9) dX0_findOldSets_147 (by decide) rfl ?_ ?_
        · refine R_aloadq_n (pc' := 156) (i := 0) (j := 0) (q := (some this)) dX0_findOldSets_155 rfl rfl rfl ?_
          refine R_getI (pc' := 159) (q := (some this)) fl_X0_75 rfl dX0_findOldSets_156 rfl (fun first10 => ?_)
          exact R_sub [0, 1, 2, 3, 4] rfl (rf_X0_findOldSets_J159 this k41 hk41 l2 l3 l4 l5 first10 (some this) M)
        · refine R_iload (pc' := 152) (i := 5) (j := 4) (x := l5) dX0_findOldSets_150 rfl rfl ?_
          refine R_goto (tgt := 159) dX0_findOldSets_152 (by decide) ?_
          exact R_sub [0, 1, 2, 3, 4] rfl (rf_X0_findOldSets_J159 this k41 hk41 l2 l3 l4 l5 l5 (some this) M)
    · refine R_aloadq_n (pc' := 82) (i := 0) (j := 0) (q := (some this)) dX0_findOldSets_81 rfl rfl rfl ?_
      refine R_getR (pc' := 85) (q := (some this)) fl_X0_18 rfl dX0_findOldSets_82 rfl (fun work13 => ?_)
      refine R_getR (pc' := 88) (q := work13) fl_X0_123 rfl dX0_findOldSets_85 rfl (fun heard14 => ?_)
      refine R_iload (pc' := 90) (i := 6) (j := 5) (x := l6) dX0_findOldSets_88 rfl rfl ?_
      refine R_iload (pc' := 92) (i := 5) (j := 4) (x := l5) dX0_findOldSets_90 rfl rfl ?_
      refine R_iload (pc' := 94) (i := 6) (j := 5) (x := l6) dX0_findOldSets_92 rfl rfl ?_
      refine R_ishr (pc' := 95) (a := l5) (b := l6) dX0_findOldSets_94 rfl ?_
      refine R_iconst (pc' := 96) (x := (nI 1)) dX0_findOldSets_95 rfl (by decide) ?_
      refine R_iand (pc' := 97) (a := (l5 >>> (l6 &&& 31))) (b := (nI 1)) dX0_findOldSets_96 rfl ?_
      refine R_if_eq (pc' := 100) (tgt := 104) (a := ((l5 >>> (l6 &&& 31)) &&& (nI 1))) dX0_findOldSets_97 (by decide) rfl ?_ ?_
      · refine R_ldc (pc' := 106) (x := (-100000 : Int32)) dX0_findOldSets_104 rfl co_X0_126 ?_
        exact R_sub [0, 1, 2, 3, 4, 5] rfl (rf_X0_findOldSets_J106 this k41 (f_X0_findOldSets_L69 k41 this n) hk41 ih l2 l3 l4 l5 l6 (-100000 : Int32) l6 heard14 M)
      · refine R_iconst (pc' := 101) (x := (-1 : Int32)) dX0_findOldSets_100 rfl (by decide) ?_
        refine R_goto (tgt := 106) dX0_findOldSets_101 (by decide) ?_
        exact R_sub [0, 1, 2, 3, 4, 5] rfl (rf_X0_findOldSets_J106 this k41 (f_X0_findOldSets_L69 k41 this n) hk41 ih l2 l3 l4 l5 l6 (-1 : Int32) l6 heard14 M)
def f_X0_findOldSets_L41 (this : Nat) : Nat → Int32 → Int32 → Int32 → Int32 → Mem → Option (Unit × Mem)
  | 0, _, _, _, _, _ => none
  | n + 1, l2, l3, l4, l5, M =>
    (gR M 0 5 (some this)).bind fun told1 =>
    (gI M 8 3 told1).bind fun jokes2 =>
    (if ((nI 1) <<< (jokes2 &&& 31)) ≤ l5 then
      (some ((), M))
    else
      ((gR M 0 7 (some this)).bind fun work3 =>
      (gR M 0 5 (some this)).bind fun told4 =>
      (oO M 6 work3).bind fun o6 => cl (f_X6_begin o6 told4 M) fun u5 M =>
      f_X0_findOldSets_L69 (f_X0_findOldSets_L41 this n) this FU l2 l3 l4 l5 (nI 0) M))
set_option maxHeartbeats 2000000 in
set_option maxRecDepth 20000 in
theorem rf_X0_findOldSets_L41 (this : Nat) : ∀ (n : Nat) (l2 : Int32) (l3 : Int32) (l4 : Int32) (l5 : Int32) (M : Mem), RF yX0_findOldSets cX0_findOldSets 7 none 6 eV (f_X0_findOldSets_L41 this n l2 l3 l4 l5 M) 41 [(0, va_rf (some this)), (2, .int l2), (3, .int l3), (4, .int l4), (5, .int l5)] [] M := by
  intro n
  induction n with
  | zero => intro _ _ _ _ _; exact RF.none
  | succ n ih =>
    intro l2 l3 l4 l5 M
    rw [f_X0_findOldSets_L41]
    refine R_iload (pc' := 43) (i := 5) (j := 4) (x := l5) dX0_findOldSets_41 rfl rfl ?_
    refine R_iconst (pc' := 44) (x := (nI 1)) dX0_findOldSets_43 rfl (by decide) ?_
    refine R_aloadq_n (pc' := 45) (i := 0) (j := 0) (q := (some this)) dX0_findOldSets_44 rfl rfl rfl ?_
    refine R_getR (pc' := 48) (q := (some this)) fl_X0_43 rfl dX0_findOldSets_45 rfl (fun told1 => ?_)
    refine R_getI (pc' := 51) (q := told1) fl_X0_110 rfl dX0_findOldSets_48 rfl (fun jokes2 => ?_)
    refine R_ishl (pc' := 52) (a := (nI 1)) (b := jokes2) dX0_findOldSets_51 rfl ?_
    refine R_icmp_ge (pc' := 55) (tgt := 189) (a := l5) (b := ((nI 1) <<< (jokes2 &&& 31))) dX0_findOldSets_52 (by decide) rfl ?_ ?_
    · exact R_vret dX0_findOldSets_189
    · refine R_aloadq_n (pc' := 56) (i := 0) (j := 0) (q := (some this)) dX0_findOldSets_55 rfl rfl rfl ?_
      refine R_getR (pc' := 59) (q := (some this)) fl_X0_18 rfl dX0_findOldSets_56 rfl (fun work3 => ?_)
      refine R_aloadq_n (pc' := 60) (i := 0) (j := 0) (q := (some this)) dX0_findOldSets_59 rfl rfl rfl ?_
      refine R_getR (pc' := 63) (q := (some this)) fl_X0_43 rfl dX0_findOldSets_60 rfl (fun told4 => ?_)
      refine R_callV_V (pc' := 66) (q := work3) (As := [va_rf told4]) (fun o6 => rm_X6_begin o6 told4 M) mf_X6_begin lk_X0_164 im_X6_begin se_X6_begin rfl rfl rfl dX0_findOldSets_63 rfl (by decide) (Nat.le_trans c_0 (by decide)) (fun u5 M => ?_)
      refine R_iconst (pc' := 67) (x := (nI 0)) dX0_findOldSets_66 rfl (by decide) ?_
      refine R_istore (pc' := 69) (L' := [(6, .int (nI 0)), (0, va_rf (some this)), (2, .int l2), (3, .int l3), (4, .int l4), (5, .int l5)]) (i := 6) (x := (nI 0)) dX0_findOldSets_67 rfl (by decide) rfl ?_
      exact R_sub [1, 2, 3, 4, 5, 0] rfl (rf_X0_findOldSets_L69 this (f_X0_findOldSets_L41 this n) ih FU l2 l3 l4 l5 (nI 0) M)
def f_X0_findOldSets (this : Nat) (l1 : Option Nat) (l2 : Int32) (l3 : Int32) (M : Mem) : Option (Unit × Mem) :=
  (gR M 0 5 (some this)).bind fun told1 =>
  (gI M 8 4 told1).bind fun ships2 =>
  nm (if (nI 1) < (ships2 - l3) then (ships2 - l3) else (nI 1)) fun r3 =>
  (gR M 0 6 (some this)).bind fun pilot4 =>
  (pR M 3 0 pilot4 l1).bind fun M =>
  (pI M 0 0 (some this) (nI 0)).bind fun M =>
  (pI M 0 1 (some this) (-1 : Int32)).bind fun M =>
  (pI M 0 2 (some this) (-1 : Int32)).bind fun M =>
  f_X0_findOldSets_L41 this FU l2 l3 r3 (nI 0) M
set_option maxHeartbeats 2000000 in
set_option maxRecDepth 20000 in
theorem rm_X0_findOldSets (this : Nat) (l1 : Option Nat) (l2 : Int32) (l3 : Int32) (M : Mem) : RFm yX0_findOldSets cX0_findOldSets 7 none 6 eV (f_X0_findOldSets this l1 l2 l3 M) [va_rf (some this), va_rf l1, .int l2, .int l3] M := by
  refine RFm_of (L := [(0, va_rf (some this)), (1, va_rf l1), (2, .int l2), (3, .int l3)]) (by decide) (by simp only [lva_R, lva_I, lva_L, lva_C, lva_0]) (Nat.le_trans (c_R (c_R (c_I (c_I c_0)))) (by decide)) ?_
  rw [f_X0_findOldSets]
  refine R_iconst (pc' := 1) (x := (nI 1)) dX0_findOldSets_0 rfl (by decide) ?_
  refine R_aloadq_n (pc' := 2) (i := 0) (j := 0) (q := (some this)) dX0_findOldSets_1 rfl rfl rfl ?_
  refine R_getR (pc' := 5) (q := (some this)) fl_X0_43 rfl dX0_findOldSets_2 rfl (fun told1 => ?_)
  refine R_getI (pc' := 8) (q := told1) fl_X0_82 rfl dX0_findOldSets_5 rfl (fun ships2 => ?_)
  refine R_iload_n (pc' := 9) (i := 3) (j := 3) (x := l3) dX0_findOldSets_8 rfl rfl rfl ?_
  refine R_isub (pc' := 10) (a := ships2) (b := l3) dX0_findOldSets_9 rfl ?_
  refine R_mmax (pc' := 13) (a := (nI 1)) (b := (ships2 - l3)) lk_X0_155 dX0_findOldSets_10 rfl (by decide) (Nat.le_trans c_0 (by decide)) ?_
  refine R_nmI (fun r3 => ?_)
  refine R_istore (pc' := 15) (L' := [(4, .int r3), (0, va_rf (some this)), (1, va_rf l1), (2, .int l2), (3, .int l3)]) (i := 4) (x := r3) dX0_findOldSets_13 rfl (by decide) rfl ?_
  refine R_aloadq_n (pc' := 16) (i := 0) (j := 1) (q := (some this)) dX0_findOldSets_15 rfl rfl rfl ?_
  refine R_getR (pc' := 19) (q := (some this)) fl_X0_44 rfl dX0_findOldSets_16 rfl (fun pilot4 => ?_)
  refine R_aloadq_n (pc' := 20) (i := 1) (j := 2) (q := l1) dX0_findOldSets_19 rfl rfl rfl ?_
  refine R_putR (pc' := 23) (q := pilot4) (x := l1) fl_X0_160 rfl (Or.inl rfl) dX0_findOldSets_20 rfl (fun M => ?_)
  refine R_aloadq_n (pc' := 24) (i := 0) (j := 1) (q := (some this)) dX0_findOldSets_23 rfl rfl rfl ?_
  refine R_iconst (pc' := 25) (x := (nI 0)) dX0_findOldSets_24 rfl (by decide) ?_
  refine R_putI (pc' := 28) (q := (some this)) (x := (nI 0)) fl_X0_65 (Or.inl rfl) dX0_findOldSets_25 rfl (fun M => ?_)
  refine R_aloadq_n (pc' := 29) (i := 0) (j := 1) (q := (some this)) dX0_findOldSets_28 rfl rfl rfl ?_
  refine R_iconst (pc' := 30) (x := (-1 : Int32)) dX0_findOldSets_29 rfl (by decide) ?_
  refine R_putI (pc' := 33) (q := (some this)) (x := (-1 : Int32)) fl_X0_75 (Or.inl rfl) dX0_findOldSets_30 rfl (fun M => ?_)
  refine R_aloadq_n (pc' := 34) (i := 0) (j := 1) (q := (some this)) dX0_findOldSets_33 rfl rfl rfl ?_
  refine R_iconst (pc' := 35) (x := (-1 : Int32)) dX0_findOldSets_34 rfl (by decide) ?_
  refine R_putI (pc' := 38) (q := (some this)) (x := (-1 : Int32)) fl_X0_133 (Or.inl rfl) dX0_findOldSets_35 rfl (fun M => ?_)
  refine R_iconst (pc' := 39) (x := (nI 0)) dX0_findOldSets_38 rfl (by decide) ?_
  refine R_istore (pc' := 41) (L' := [(5, .int (nI 0)), (4, .int r3), (0, va_rf (some this)), (1, va_rf l1), (2, .int l2), (3, .int l3)]) (i := 5) (x := (nI 0)) dX0_findOldSets_39 rfl (by decide) rfl ?_
  exact R_sub [2, 4, 5, 1, 0] rfl (rf_X0_findOldSets_L41 this FU l2 l3 r3 (nI 0) M)
/-! BarPilot$Asker.gameWorth(IIII)I -/
def f_X0_gameWorth_J11 (g_X0_gameWorth : Nat → Int32 → Int32 → Int32 → Int32 → Mem → Option (Int32 × Mem)) (this : Nat) (M : Mem) : Option (Int32 × Mem) :=
  some ((nI 0), M)
set_option maxHeartbeats 2000000 in
set_option maxRecDepth 20000 in
theorem rf_X0_gameWorth_J11 {dg : Nat} (g_X0_gameWorth : Nat → Int32 → Int32 → Int32 → Int32 → Mem → Option (Int32 × Mem)) (hdg : 2 ≤ dg) (hg_X0_gameWorth : ∀ (this : Nat) (l1 : Int32) (l2 : Int32) (l3 : Int32) (l4 : Int32) (M : Mem), RFm yX0_gameWorth cX0_gameWorth 10 (some .int) dg eI (g_X0_gameWorth this l1 l2 l3 l4 M) [va_rf (some this), .int l1, .int l2, .int l3, .int l4] M) (this : Nat) (M : Mem) : RF yX0_gameWorth cX0_gameWorth 10 (some .int) (dg + 1) eI (f_X0_gameWorth_J11 g_X0_gameWorth this M) 11 [] [] M := by
  rw [f_X0_gameWorth_J11]
  refine R_iconst (pc' := 12) (x := (nI 0)) dX0_gameWorth_11 rfl (by decide) ?_
  exact R_iret dX0_gameWorth_12
def f_X0_gameWorth_J181 (g_X0_gameWorth : Nat → Int32 → Int32 → Int32 → Int32 → Mem → Option (Int32 × Mem)) (k38 : Int32 → Int32 → Int32 → Int32 → Option Nat → Option Nat → Int32 → Int32 → Mem → Option (Int32 × Mem)) (this : Nat) (l1 : Int32) (l2 : Int32) (l3 : Int32) (l4 : Int32) (l5 : Option Nat) (l6 : Option Nat) (l7 : Int32) (l8 : Int32) (M : Mem) : Option (Int32 × Mem) :=
  k38 l1 l2 l3 l4 l5 l6 l7 (l8 + (nI 1)) M
set_option maxHeartbeats 2000000 in
set_option maxRecDepth 20000 in
theorem rf_X0_gameWorth_J181 {dg : Nat} (g_X0_gameWorth : Nat → Int32 → Int32 → Int32 → Int32 → Mem → Option (Int32 × Mem)) (hdg : 2 ≤ dg) (hg_X0_gameWorth : ∀ (this : Nat) (l1 : Int32) (l2 : Int32) (l3 : Int32) (l4 : Int32) (M : Mem), RFm yX0_gameWorth cX0_gameWorth 10 (some .int) dg eI (g_X0_gameWorth this l1 l2 l3 l4 M) [va_rf (some this), .int l1, .int l2, .int l3, .int l4] M) (this : Nat) (k38 : Int32 → Int32 → Int32 → Int32 → Option Nat → Option Nat → Int32 → Int32 → Mem → Option (Int32 × Mem)) (hk38 : ∀ (l1 : Int32) (l2 : Int32) (l3 : Int32) (l4 : Int32) (l5 : Option Nat) (l6 : Option Nat) (l7 : Int32) (l8 : Int32) (M : Mem), RF yX0_gameWorth cX0_gameWorth 10 (some .int) (dg + 1) eI (k38 l1 l2 l3 l4 l5 l6 l7 l8 M) 38 [(0, va_rf (some this)), (1, .int l1), (2, .int l2), (3, .int l3), (4, .int l4), (5, va_rf l5), (6, va_rf l6), (7, .int l7), (8, .int l8)] [] M) (l1 : Int32) (l2 : Int32) (l3 : Int32) (l4 : Int32) (l5 : Option Nat) (l6 : Option Nat) (l7 : Int32) (l8 : Int32) (M : Mem) : RF yX0_gameWorth cX0_gameWorth 10 (some .int) (dg + 1) eI (f_X0_gameWorth_J181 g_X0_gameWorth k38 this l1 l2 l3 l4 l5 l6 l7 l8 M) 181 [(0, va_rf (some this)), (1, .int l1), (2, .int l2), (3, .int l3), (4, .int l4), (5, va_rf l5), (6, va_rf l6), (7, .int l7), (8, .int l8)] [] M := by
  rw [f_X0_gameWorth_J181]
  refine R_iinc (pc' := 184) (L' := [(8, .int (l8 + (nI 1))), (0, va_rf (some this)), (1, .int l1), (2, .int l2), (3, .int l3), (4, .int l4), (5, va_rf l5), (6, va_rf l6), (7, .int l7)]) (i := 8) (j := 8) (x := l8) (x2 := (l8 + (nI 1))) dX0_gameWorth_181 rfl rfl rfl (by decide) rfl ?_
  refine R_goto (tgt := 38) dX0_gameWorth_184 (by decide) ?_
  exact R_sub [1, 2, 3, 4, 5, 6, 7, 8, 0] rfl (hk38 l1 l2 l3 l4 l5 l6 l7 (l8 + (nI 1)) M)
def f_X0_gameWorth_J135 (g_X0_gameWorth : Nat → Int32 → Int32 → Int32 → Int32 → Mem → Option (Int32 × Mem)) (k38 : Int32 → Int32 → Int32 → Int32 → Option Nat → Option Nat → Int32 → Int32 → Mem → Option (Int32 × Mem)) (this : Nat) (l1 : Int32) (l2 : Int32) (l3 : Int32) (l4 : Int32) (l5 : Option Nat) (l6 : Option Nat) (l7 : Int32) (l8 : Int32) (l9 : Int32) (M : Mem) : Option (Int32 × Mem) :=
  (gI M 6 0 l6).bind fun tide1 =>
  (pI M 6 0 l6 (tide1 + (nI 1))).bind fun M =>
  (oO M 0 (some this)).bind fun o5 => cl (g_X0_gameWorth o5 l2 l1 (l3 + (nI 1)) l4 M) fun r2 M =>
  nm (l9 - r2) fun v3 =>
  (if v3 ≤ l7 then
    (f_X0_gameWorth_J181 g_X0_gameWorth k38 this l1 l2 l3 l4 l5 l6 l7 l8 M)
  else
    ((gR M 0 3 (some this)).bind fun choice4 =>
    (wI M 0 choice4 l3 l8).bind fun M =>
    f_X0_gameWorth_J181 g_X0_gameWorth k38 this l1 l2 l3 l4 l5 l6 v3 l8 M))
set_option maxHeartbeats 2000000 in
set_option maxRecDepth 20000 in
theorem rf_X0_gameWorth_J135 {dg : Nat} (g_X0_gameWorth : Nat → Int32 → Int32 → Int32 → Int32 → Mem → Option (Int32 × Mem)) (hdg : 2 ≤ dg) (hg_X0_gameWorth : ∀ (this : Nat) (l1 : Int32) (l2 : Int32) (l3 : Int32) (l4 : Int32) (M : Mem), RFm yX0_gameWorth cX0_gameWorth 10 (some .int) dg eI (g_X0_gameWorth this l1 l2 l3 l4 M) [va_rf (some this), .int l1, .int l2, .int l3, .int l4] M) (this : Nat) (k38 : Int32 → Int32 → Int32 → Int32 → Option Nat → Option Nat → Int32 → Int32 → Mem → Option (Int32 × Mem)) (hk38 : ∀ (l1 : Int32) (l2 : Int32) (l3 : Int32) (l4 : Int32) (l5 : Option Nat) (l6 : Option Nat) (l7 : Int32) (l8 : Int32) (M : Mem), RF yX0_gameWorth cX0_gameWorth 10 (some .int) (dg + 1) eI (k38 l1 l2 l3 l4 l5 l6 l7 l8 M) 38 [(0, va_rf (some this)), (1, .int l1), (2, .int l2), (3, .int l3), (4, .int l4), (5, va_rf l5), (6, va_rf l6), (7, .int l7), (8, .int l8)] [] M) (l1 : Int32) (l2 : Int32) (l3 : Int32) (l4 : Int32) (l5 : Option Nat) (l6 : Option Nat) (l7 : Int32) (l8 : Int32) (l9 : Int32) (M : Mem) : RF yX0_gameWorth cX0_gameWorth 10 (some .int) (dg + 1) eI (f_X0_gameWorth_J135 g_X0_gameWorth k38 this l1 l2 l3 l4 l5 l6 l7 l8 l9 M) 135 [(0, va_rf (some this)), (1, .int l1), (2, .int l2), (3, .int l3), (4, .int l4), (5, va_rf l5), (6, va_rf l6), (7, .int l7), (8, .int l8), (9, .int l9)] [] M := by
  rw [f_X0_gameWorth_J135]
  refine R_aloadq (pc' := 137) (i := 6) (j := 6) (q := l6) dX0_gameWorth_135 rfl rfl ?_
  refine R_dup (pc' := 138) dX0_gameWorth_137 rfl (rf_cat _) ?_
  refine R_getI (pc' := 141) (q := l6) fl_X0_61 rfl dX0_gameWorth_138 rfl (fun tide1 => ?_)
  refine R_iconst (pc' := 142) (x := (nI 1)) dX0_gameWorth_141 rfl (by decide) ?_
  refine R_iadd (pc' := 143) (a := tide1) (b := (nI 1)) dX0_gameWorth_142 rfl ?_
  refine R_putI (pc' := 146) (q := l6) (x := (tide1 + (nI 1))) fl_X0_61 (Or.inl rfl) dX0_gameWorth_143 rfl (fun M => ?_)
  refine R_iload (pc' := 148) (i := 9) (j := 9) (x := l9) dX0_gameWorth_146 rfl rfl ?_
  refine R_aloadq_n (pc' := 149) (i := 0) (j := 0) (q := (some this)) dX0_gameWorth_148 rfl rfl rfl ?_
  refine R_iload_n (pc' := 150) (i := 2) (j := 2) (x := l2) dX0_gameWorth_149 rfl rfl rfl ?_
  refine R_iload_n (pc' := 151) (i := 1) (j := 1) (x := l1) dX0_gameWorth_150 rfl rfl rfl ?_
  refine R_iload_n (pc' := 152) (i := 3) (j := 3) (x := l3) dX0_gameWorth_151 rfl rfl rfl ?_
  refine R_iconst (pc' := 153) (x := (nI 1)) dX0_gameWorth_152 rfl (by decide) ?_
  refine R_iadd (pc' := 154) (a := l3) (b := (nI 1)) dX0_gameWorth_153 rfl ?_
  refine R_iload (pc' := 156) (i := 4) (j := 4) (x := l4) dX0_gameWorth_154 rfl rfl ?_
  refine R_callV_I (pc' := 159) (q := (some this)) (As := [.int l2, .int l1, .int (l3 + (nI 1)), .int l4]) (fun o5 => hg_X0_gameWorth o5 l2 l1 (l3 + (nI 1)) l4 M) mf_X0_gameWorth lk_X0_170 im_X0_gameWorth se_X0_gameWorth rfl rfl rfl dX0_gameWorth_156 rfl (by omega) (Nat.le_trans (c_I c_0) (by decide)) (fun r2 M => ?_)
  refine R_isub (pc' := 160) (a := l9) (b := r2) dX0_gameWorth_159 rfl ?_
  refine R_nmI (fun v3 => ?_)
  refine R_istore (pc' := 162) (L' := [(9, .int v3), (0, va_rf (some this)), (1, .int l1), (2, .int l2), (3, .int l3), (4, .int l4), (5, va_rf l5), (6, va_rf l6), (7, .int l7), (8, .int l8)]) (i := 9) (x := v3) dX0_gameWorth_160 rfl (by decide) rfl ?_
  refine R_iload (pc' := 164) (i := 9) (j := 0) (x := v3) dX0_gameWorth_162 rfl rfl ?_
  refine R_iload (pc' := 166) (i := 7) (j := 8) (x := l7) dX0_gameWorth_164 rfl rfl ?_
  refine R_icmp_le (pc' := 169) (tgt := 181) (a := v3) (b := l7) dX0_gameWorth_166 (by decide) rfl ?_ ?_
  · exact R_sub [1, 2, 3, 4, 5, 6, 7, 8, 9] rfl (rf_X0_gameWorth_J181 g_X0_gameWorth hdg hg_X0_gameWorth this k38 hk38 l1 l2 l3 l4 l5 l6 l7 l8 M)
  · refine R_iload (pc' := 171) (i := 9) (j := 0) (x := v3) dX0_gameWorth_169 rfl rfl ?_
    refine R_istore (pc' := 173) (L' := [(7, .int v3), (9, .int v3), (0, va_rf (some this)), (1, .int l1), (2, .int l2), (3, .int l3), (4, .int l4), (5, va_rf l5), (6, va_rf l6), (8, .int l8)]) (i := 7) (x := v3) dX0_gameWorth_171 rfl (by decide) (by simp [stL, rf_cat, cat_I, cat_L, cat_C]) ?_
    refine R_aloadq_n (pc' := 174) (i := 0) (j := 2) (q := (some this)) dX0_gameWorth_173 rfl rfl rfl ?_
    refine R_getR (pc' := 177) (q := (some this)) fl_X0_9 rfl dX0_gameWorth_174 rfl (fun choice4 => ?_)
    refine R_iload_n (pc' := 178) (i := 3) (j := 5) (x := l3) dX0_gameWorth_177 rfl rfl rfl ?_
    refine R_iload (pc' := 180) (i := 8) (j := 9) (x := l8) dX0_gameWorth_178 rfl rfl ?_
    refine R_iast (pc' := 181) (q := choice4) (i := l3) (x := l8) dX0_gameWorth_180 rfl (fun M => ?_)
    exact R_sub [2, 3, 4, 5, 6, 7, 8, 0, 9] rfl (rf_X0_gameWorth_J181 g_X0_gameWorth hdg hg_X0_gameWorth this k38 hk38 l1 l2 l3 l4 l5 l6 v3 l8 M)
def f_X0_gameWorth_J133 (g_X0_gameWorth : Nat → Int32 → Int32 → Int32 → Int32 → Mem → Option (Int32 × Mem)) (k38 : Int32 → Int32 → Int32 → Int32 → Option Nat → Option Nat → Int32 → Int32 → Mem → Option (Int32 × Mem)) (this : Nat) (l1 : Int32) (l2 : Int32) (l3 : Int32) (l4 : Int32) (l5 : Option Nat) (l6 : Option Nat) (l7 : Int32) (l8 : Int32) (s0 : Int32) (M : Mem) : Option (Int32 × Mem) :=
  f_X0_gameWorth_J135 g_X0_gameWorth k38 this l1 l2 l3 l4 l5 l6 l7 l8 s0 M
set_option maxHeartbeats 2000000 in
set_option maxRecDepth 20000 in
theorem rf_X0_gameWorth_J133 {dg : Nat} (g_X0_gameWorth : Nat → Int32 → Int32 → Int32 → Int32 → Mem → Option (Int32 × Mem)) (hdg : 2 ≤ dg) (hg_X0_gameWorth : ∀ (this : Nat) (l1 : Int32) (l2 : Int32) (l3 : Int32) (l4 : Int32) (M : Mem), RFm yX0_gameWorth cX0_gameWorth 10 (some .int) dg eI (g_X0_gameWorth this l1 l2 l3 l4 M) [va_rf (some this), .int l1, .int l2, .int l3, .int l4] M) (this : Nat) (k38 : Int32 → Int32 → Int32 → Int32 → Option Nat → Option Nat → Int32 → Int32 → Mem → Option (Int32 × Mem)) (hk38 : ∀ (l1 : Int32) (l2 : Int32) (l3 : Int32) (l4 : Int32) (l5 : Option Nat) (l6 : Option Nat) (l7 : Int32) (l8 : Int32) (M : Mem), RF yX0_gameWorth cX0_gameWorth 10 (some .int) (dg + 1) eI (k38 l1 l2 l3 l4 l5 l6 l7 l8 M) 38 [(0, va_rf (some this)), (1, .int l1), (2, .int l2), (3, .int l3), (4, .int l4), (5, va_rf l5), (6, va_rf l6), (7, .int l7), (8, .int l8)] [] M) (l1 : Int32) (l2 : Int32) (l3 : Int32) (l4 : Int32) (l5 : Option Nat) (l6 : Option Nat) (l7 : Int32) (l8 : Int32) (s0 : Int32) (M : Mem) : RF yX0_gameWorth cX0_gameWorth 10 (some .int) (dg + 1) eI (f_X0_gameWorth_J133 g_X0_gameWorth k38 this l1 l2 l3 l4 l5 l6 l7 l8 s0 M) 133 [(0, va_rf (some this)), (1, .int l1), (2, .int l2), (3, .int l3), (4, .int l4), (5, va_rf l5), (6, va_rf l6), (7, .int l7), (8, .int l8)] [.int s0] M := by
  rw [f_X0_gameWorth_J133]
  refine R_istore (pc' := 135) (L' := [(9, .int s0), (0, va_rf (some this)), (1, .int l1), (2, .int l2), (3, .int l3), (4, .int l4), (5, va_rf l5), (6, va_rf l6), (7, .int l7), (8, .int l8)]) (i := 9) (x := s0) dX0_gameWorth_133 rfl (by decide) rfl ?_
  exact R_sub [1, 2, 3, 4, 5, 6, 7, 8, 9, 0] rfl (rf_X0_gameWorth_J135 g_X0_gameWorth hdg hg_X0_gameWorth this k38 hk38 l1 l2 l3 l4 l5 l6 l7 l8 s0 M)
def f_X0_gameWorth_J81 (g_X0_gameWorth : Nat → Int32 → Int32 → Int32 → Int32 → Mem → Option (Int32 × Mem)) (k38 : Int32 → Int32 → Int32 → Int32 → Option Nat → Option Nat → Int32 → Int32 → Mem → Option (Int32 × Mem)) (this : Nat) (l1 : Int32) (l2 : Int32) (l3 : Int32) (l4 : Int32) (l5 : Option Nat) (l6 : Option Nat) (l7 : Int32) (l8 : Int32) (M : Mem) : Option (Int32 × Mem) :=
  (oO M 6 l6).bind fun o11 => cl (f_X6_copyFrom o11 l5 M) fun u1 M =>
  (if l8 = (-1 : Int32) then
    (f_X0_gameWorth_J135 g_X0_gameWorth k38 this l1 l2 l3 l4 l5 l6 l7 l8 (nI 0) M)
  else
    ((gR M 0 6 (some this)).bind fun pilot2 =>
    (oO M 3 pilot2).bind fun o10 => cl (f_X3_meet o10 l6 M) fun u3 M =>
    (gR M 0 6 (some this)).bind fun pilot4 =>
    (oO M 3 pilot4).bind fun o9 => cl (f_X3_hears o9 l1 l8 M) fun r5 M =>
    (if r5 = 0 then
      (f_X0_gameWorth_J133 g_X0_gameWorth k38 this l1 l2 l3 l4 l5 l6 l7 l8 (nI 0) M)
    else
      ((gR M 0 5 (some this)).bind fun told6 =>
      (oO M 8 told6).bind fun o8 => cl (f_X8_earnedBy o8 l1 l6 M) fun r7 M =>
      f_X0_gameWorth_J133 g_X0_gameWorth k38 this l1 l2 l3 l4 l5 l6 l7 l8 r7 M))))
set_option maxHeartbeats 2000000 in
set_option maxRecDepth 20000 in
theorem rf_X0_gameWorth_J81 {dg : Nat} (g_X0_gameWorth : Nat → Int32 → Int32 → Int32 → Int32 → Mem → Option (Int32 × Mem)) (hdg : 2 ≤ dg) (hg_X0_gameWorth : ∀ (this : Nat) (l1 : Int32) (l2 : Int32) (l3 : Int32) (l4 : Int32) (M : Mem), RFm yX0_gameWorth cX0_gameWorth 10 (some .int) dg eI (g_X0_gameWorth this l1 l2 l3 l4 M) [va_rf (some this), .int l1, .int l2, .int l3, .int l4] M) (this : Nat) (k38 : Int32 → Int32 → Int32 → Int32 → Option Nat → Option Nat → Int32 → Int32 → Mem → Option (Int32 × Mem)) (hk38 : ∀ (l1 : Int32) (l2 : Int32) (l3 : Int32) (l4 : Int32) (l5 : Option Nat) (l6 : Option Nat) (l7 : Int32) (l8 : Int32) (M : Mem), RF yX0_gameWorth cX0_gameWorth 10 (some .int) (dg + 1) eI (k38 l1 l2 l3 l4 l5 l6 l7 l8 M) 38 [(0, va_rf (some this)), (1, .int l1), (2, .int l2), (3, .int l3), (4, .int l4), (5, va_rf l5), (6, va_rf l6), (7, .int l7), (8, .int l8)] [] M) (l1 : Int32) (l2 : Int32) (l3 : Int32) (l4 : Int32) (l5 : Option Nat) (l6 : Option Nat) (l7 : Int32) (l8 : Int32) (M : Mem) : RF yX0_gameWorth cX0_gameWorth 10 (some .int) (dg + 1) eI (f_X0_gameWorth_J81 g_X0_gameWorth k38 this l1 l2 l3 l4 l5 l6 l7 l8 M) 81 [(0, va_rf (some this)), (1, .int l1), (2, .int l2), (3, .int l3), (4, .int l4), (5, va_rf l5), (6, va_rf l6), (7, .int l7), (8, .int l8)] [] M := by
  rw [f_X0_gameWorth_J81]
  refine R_aloadq (pc' := 83) (i := 6) (j := 6) (q := l6) dX0_gameWorth_81 rfl rfl ?_
  refine R_aloadq (pc' := 85) (i := 5) (j := 5) (q := l5) dX0_gameWorth_83 rfl rfl ?_
  refine R_callV_V (pc' := 88) (q := l6) (As := [va_rf l5]) (fun o11 => rm_X6_copyFrom o11 l5 M) mf_X6_copyFrom lk_X0_51 im_X6_copyFrom se_X6_copyFrom rfl rfl rfl dX0_gameWorth_85 rfl (by omega) (Nat.le_trans c_0 (by decide)) (fun u1 M => ?_)
  refine R_iconst (pc' := 89) (x := (nI 0)) dX0_gameWorth_88 rfl (by decide) ?_
  refine R_istore (pc' := 91) (L' := [(9, .int (nI 0)), (0, va_rf (some this)), (1, .int l1), (2, .int l2), (3, .int l3), (4, .int l4), (5, va_rf l5), (6, va_rf l6), (7, .int l7), (8, .int l8)]) (i := 9) (x := (nI 0)) dX0_gameWorth_89 rfl (by decide) rfl ?_
  refine R_iload (pc' := 93) (i := 8) (j := 9) (x := l8) dX0_gameWorth_91 rfl rfl ?_
  refine R_iconst (pc' := 94) (x := (-1 : Int32)) dX0_gameWorth_93 rfl (by decide) ?_
  refine R_icmp_eq (pc' := 97) (tgt := 135) (a := l8) (b := (-1 : Int32)) dX0_gameWorth_94 (by decide) rfl ?_ ?_
  · exact R_sub [1, 2, 3, 4, 5, 6, 7, 8, 9, 0] rfl (rf_X0_gameWorth_J135 g_X0_gameWorth hdg hg_X0_gameWorth this k38 hk38 l1 l2 l3 l4 l5 l6 l7 l8 (nI 0) M)
  · refine R_aloadq_n (pc' := 98) (i := 0) (j := 1) (q := (some this)) dX0_gameWorth_97 rfl rfl rfl ?_
    refine R_getR (pc' := 101) (q := (some this)) fl_X0_44 rfl dX0_gameWorth_98 rfl (fun pilot2 => ?_)
    refine R_aloadq (pc' := 103) (i := 6) (j := 7) (q := l6) dX0_gameWorth_101 rfl rfl ?_
    refine R_callV_V (pc' := 106) (q := pilot2) (As := [va_rf l6]) (fun o10 => rm_X3_meet o10 l6 M) mf_X3_meet lk_X0_99 im_X3_meet se_X3_meet rfl rfl rfl dX0_gameWorth_103 rfl (by omega) (Nat.le_trans c_0 (by decide)) (fun u3 M => ?_)
    refine R_aloadq_n (pc' := 107) (i := 0) (j := 1) (q := (some this)) dX0_gameWorth_106 rfl rfl rfl ?_
    refine R_getR (pc' := 110) (q := (some this)) fl_X0_44 rfl dX0_gameWorth_107 rfl (fun pilot4 => ?_)
    refine R_iload_n (pc' := 111) (i := 1) (j := 2) (x := l1) dX0_gameWorth_110 rfl rfl rfl ?_
    refine R_iload (pc' := 113) (i := 8) (j := 9) (x := l8) dX0_gameWorth_111 rfl rfl ?_
    refine R_callV_I (pc' := 116) (q := pilot4) (As := [.int l1, .int l8]) (fun o9 => rm_X3_hears o9 l1 l8 M) mf_X3_hears lk_X0_117 im_X3_hears se_X3_hears rfl rfl rfl dX0_gameWorth_113 rfl (by omega) (Nat.le_trans c_0 (by decide)) (fun r5 M => ?_)
    refine R_if_eq (pc' := 119) (tgt := 132) (a := r5) dX0_gameWorth_116 (by decide) rfl ?_ ?_
    · refine R_iconst (pc' := 133) (x := (nI 0)) dX0_gameWorth_132 rfl (by decide) ?_
      exact R_sub [1, 2, 3, 4, 5, 6, 7, 8, 9] rfl (rf_X0_gameWorth_J133 g_X0_gameWorth hdg hg_X0_gameWorth this k38 hk38 l1 l2 l3 l4 l5 l6 l7 l8 (nI 0) M)
    · refine R_aloadq_n (pc' := 120) (i := 0) (j := 1) (q := (some this)) dX0_gameWorth_119 rfl rfl rfl ?_
      refine R_getR (pc' := 123) (q := (some this)) fl_X0_43 rfl dX0_gameWorth_120 rfl (fun told6 => ?_)
      refine R_iload_n (pc' := 124) (i := 1) (j := 2) (x := l1) dX0_gameWorth_123 rfl rfl rfl ?_
      refine R_aloadq (pc' := 126) (i := 6) (j := 7) (q := l6) dX0_gameWorth_124 rfl rfl ?_
      refine R_callV_I (pc' := 129) (q := told6) (As := [.int l1, va_rf l6]) (fun o8 => rm_X8_earnedBy o8 l1 l6 M) mf_X8_earnedBy lk_X0_175 im_X8_earnedBy se_X8_earnedBy rfl rfl rfl dX0_gameWorth_126 rfl (by omega) (Nat.le_trans c_0 (by decide)) (fun r7 M => ?_)
      refine R_goto (tgt := 133) dX0_gameWorth_129 (by decide) ?_
      exact R_sub [1, 2, 3, 4, 5, 6, 7, 8, 9] rfl (rf_X0_gameWorth_J133 g_X0_gameWorth hdg hg_X0_gameWorth this k38 hk38 l1 l2 l3 l4 l5 l6 l7 l8 r7 M)
def f_X0_gameWorth_L38 (g_X0_gameWorth : Nat → Int32 → Int32 → Int32 → Int32 → Mem → Option (Int32 × Mem)) (this : Nat) : Nat → Int32 → Int32 → Int32 → Int32 → Option Nat → Option Nat → Int32 → Int32 → Mem → Option (Int32 × Mem)
  | 0, _, _, _, _, _, _, _, _, _ => none
  | n + 1, l1, l2, l3, l4, l5, l6, l7, l8, M =>
    (gR M 0 5 (some this)).bind fun told1 =>
    (gI M 8 3 told1).bind fun jokes2 =>
    (if jokes2 ≤ l8 then
      (some (l7, M))
    else
      ((if l8 = (-1 : Int32) then
        (f_X0_gameWorth_J81 g_X0_gameWorth (f_X0_gameWorth_L38 g_X0_gameWorth this n) this l1 l2 l3 l4 l5 l6 l7 l8 M)
      else
        ((gR M 6 3 l5).bind fun passed3 =>
        (aI M 0 passed3 l1).bind fun e4 =>
        (if e4 = (-1 : Int32) then
          ((oO M 6 l5).bind fun o6 => cl (f_X6_isKnown o6 l1 l8 M) fun r5 M =>
          (if r5 = 0 then
            (f_X0_gameWorth_J181 g_X0_gameWorth (f_X0_gameWorth_L38 g_X0_gameWorth this n) this l1 l2 l3 l4 l5 l6 l7 l8 M)
          else
            (f_X0_gameWorth_J81 g_X0_gameWorth (f_X0_gameWorth_L38 g_X0_gameWorth this n) this l1 l2 l3 l4 l5 l6 l7 l8 M)))
        else
          (f_X0_gameWorth_J181 g_X0_gameWorth (f_X0_gameWorth_L38 g_X0_gameWorth this n) this l1 l2 l3 l4 l5 l6 l7 l8 M))))))
set_option maxHeartbeats 2000000 in
set_option maxRecDepth 20000 in
theorem rf_X0_gameWorth_L38 {dg : Nat} (g_X0_gameWorth : Nat → Int32 → Int32 → Int32 → Int32 → Mem → Option (Int32 × Mem)) (hdg : 2 ≤ dg) (hg_X0_gameWorth : ∀ (this : Nat) (l1 : Int32) (l2 : Int32) (l3 : Int32) (l4 : Int32) (M : Mem), RFm yX0_gameWorth cX0_gameWorth 10 (some .int) dg eI (g_X0_gameWorth this l1 l2 l3 l4 M) [va_rf (some this), .int l1, .int l2, .int l3, .int l4] M) (this : Nat) : ∀ (n : Nat) (l1 : Int32) (l2 : Int32) (l3 : Int32) (l4 : Int32) (l5 : Option Nat) (l6 : Option Nat) (l7 : Int32) (l8 : Int32) (M : Mem), RF yX0_gameWorth cX0_gameWorth 10 (some .int) (dg + 1) eI (f_X0_gameWorth_L38 g_X0_gameWorth this n l1 l2 l3 l4 l5 l6 l7 l8 M) 38 [(0, va_rf (some this)), (1, .int l1), (2, .int l2), (3, .int l3), (4, .int l4), (5, va_rf l5), (6, va_rf l6), (7, .int l7), (8, .int l8)] [] M := by
  intro n
  induction n with
  | zero => intro _ _ _ _ _ _ _ _ _; exact RF.none
  | succ n ih =>
    intro l1 l2 l3 l4 l5 l6 l7 l8 M
    rw [f_X0_gameWorth_L38]
    refine R_iload (pc' := 40) (i := 8) (j := 8) (x := l8) dX0_gameWorth_38 rfl rfl ?_
    refine R_aloadq_n (pc' := 41) (i := 0) (j := 0) (q := (some this)) dX0_gameWorth_40 rfl rfl rfl ?_
    refine R_getR (pc' := 44) (q := (some this)) fl_X0_43 rfl dX0_gameWorth_41 rfl (fun told1 => ?_)
    refine R_getI (pc' := 47) (q := told1) fl_X0_110 rfl dX0_gameWorth_44 rfl (fun jokes2 => ?_)
    refine R_icmp_ge (pc' := 50) (tgt := 187) (a := l8) (b := jokes2) dX0_gameWorth_47 (by decide) rfl ?_ ?_
    · refine R_iload (pc' := 189) (i := 7) (j := 7) (x := l7) dX0_gameWorth_187 rfl rfl ?_
      exact R_iret dX0_gameWorth_189
    · refine R_iload (pc' := 52) (i := 8) (j := 8) (x := l8) dX0_gameWorth_50 rfl rfl ?_
      refine R_iconst (pc' := 53) (x := (-1 : Int32)) dX0_gameWorth_52 rfl (by decide) ?_
      refine R_icmp_eq (pc' := 56) (tgt := 81) (a := l8) (b := (-1 : Int32)) dX0_gameWorth_53 (by decide) rfl ?_ ?_
      · exact R_sub [0, 1, 2, 3, 4, 5, 6, 7, 8] rfl (rf_X0_gameWorth_J81 g_X0_gameWorth hdg hg_X0_gameWorth this (f_X0_gameWorth_L38 g_X0_gameWorth this n) ih l1 l2 l3 l4 l5 l6 l7 l8 M)
      · refine R_aloadq (pc' := 58) (i := 5) (j := 5) (q := l5) dX0_gameWorth_56 rfl rfl ?_
        refine R_getR (pc' := 61) (q := l5) fl_X0_91 rfl dX0_gameWorth_58 rfl (fun passed3 => ?_)
        refine R_iload_n (pc' := 62) (i := 1) (j := 1) (x := l1) dX0_gameWorth_61 rfl rfl rfl ?_
        refine R_iald (pc' := 63) (q := passed3) (i := l1) dX0_gameWorth_62 rfl (fun e4 => ?_)
        refine R_iconst (pc' := 64) (x := (-1 : Int32)) dX0_gameWorth_63 rfl (by decide) ?_
        refine R_icmp_ne (pc' := 67) (tgt := 181) (a := e4) (b := (-1 : Int32)) dX0_gameWorth_64 (by decide) rfl ?_ ?_
        · exact R_sub [0, 1, 2, 3, 4, 5, 6, 7, 8] rfl (rf_X0_gameWorth_J181 g_X0_gameWorth hdg hg_X0_gameWorth this (f_X0_gameWorth_L38 g_X0_gameWorth this n) ih l1 l2 l3 l4 l5 l6 l7 l8 M)
        · refine R_aloadq (pc' := 69) (i := 5) (j := 5) (q := l5) dX0_gameWorth_67 rfl rfl ?_
          refine R_iload_n (pc' := 70) (i := 1) (j := 1) (x := l1) dX0_gameWorth_69 rfl rfl rfl ?_
          refine R_iload (pc' := 72) (i := 8) (j := 8) (x := l8) dX0_gameWorth_70 rfl rfl ?_
          refine R_callV_I (pc' := 75) (q := l5) (As := [.int l1, .int l8]) (fun o6 => rm_X6_isKnown o6 l1 l8 M) mf_X6_isKnown lk_X0_113 im_X6_isKnown se_X6_isKnown rfl rfl rfl dX0_gameWorth_72 rfl (by omega) (Nat.le_trans c_0 (by decide)) (fun r5 M => ?_)
          refine R_if_ne (pc' := 78) (tgt := 81) (a := r5) dX0_gameWorth_75 (by decide) rfl ?_ ?_
          · exact R_sub [0, 1, 2, 3, 4, 5, 6, 7, 8] rfl (rf_X0_gameWorth_J81 g_X0_gameWorth hdg hg_X0_gameWorth this (f_X0_gameWorth_L38 g_X0_gameWorth this n) ih l1 l2 l3 l4 l5 l6 l7 l8 M)
          · refine R_goto (tgt := 181) dX0_gameWorth_78 (by decide) ?_
            exact R_sub [0, 1, 2, 3, 4, 5, 6, 7, 8] rfl (rf_X0_gameWorth_J181 g_X0_gameWorth hdg hg_X0_gameWorth this (f_X0_gameWorth_L38 g_X0_gameWorth this n) ih l1 l2 l3 l4 l5 l6 l7 l8 M)
def fb_X0_gameWorth (g_X0_gameWorth : Nat → Int32 → Int32 → Int32 → Int32 → Mem → Option (Int32 × Mem)) (this : Nat) (l1 : Int32) (l2 : Int32) (l3 : Int32) (l4 : Int32) (M : Mem) : Option (Int32 × Mem) :=
  (if l4 ≤ l3 then
    (f_X0_gameWorth_J11 g_X0_gameWorth this M)
  else
    ((if l3 < (nI 4) then
      ((gR M 0 8 (some this)).bind fun levels1 =>
      (aR M 6 levels1 l3).bind fun e2 =>
      (gR M 0 8 (some this)).bind fun levels3 =>
      (aR M 6 levels3 (l3 + (nI 1))).bind fun e4 =>
      f_X0_gameWorth_L38 g_X0_gameWorth this FU l1 l2 l3 l4 e2 e4 (-2147483647 : Int32) (-1 : Int32) M)
    else
      (f_X0_gameWorth_J11 g_X0_gameWorth this M))))
set_option maxHeartbeats 2000000 in
set_option maxRecDepth 20000 in
theorem rb_X0_gameWorth {dg : Nat} (g_X0_gameWorth : Nat → Int32 → Int32 → Int32 → Int32 → Mem → Option (Int32 × Mem)) (hdg : 2 ≤ dg) (hg_X0_gameWorth : ∀ (this : Nat) (l1 : Int32) (l2 : Int32) (l3 : Int32) (l4 : Int32) (M : Mem), RFm yX0_gameWorth cX0_gameWorth 10 (some .int) dg eI (g_X0_gameWorth this l1 l2 l3 l4 M) [va_rf (some this), .int l1, .int l2, .int l3, .int l4] M) (this : Nat) (l1 : Int32) (l2 : Int32) (l3 : Int32) (l4 : Int32) (M : Mem) : RFm yX0_gameWorth cX0_gameWorth 10 (some .int) (dg + 1) eI (fb_X0_gameWorth g_X0_gameWorth this l1 l2 l3 l4 M) [va_rf (some this), .int l1, .int l2, .int l3, .int l4] M := by
  refine RFm_of (L := [(0, va_rf (some this)), (1, .int l1), (2, .int l2), (3, .int l3), (4, .int l4)]) (by decide) rfl (Nat.le_trans (c_R (c_I (c_I (c_I (c_I c_0))))) (by decide)) ?_
  rw [fb_X0_gameWorth]
  refine R_iload_n (pc' := 1) (i := 3) (j := 3) (x := l3) dX0_gameWorth_0 rfl rfl rfl ?_
  refine R_iload (pc' := 3) (i := 4) (j := 4) (x := l4) dX0_gameWorth_1 rfl rfl ?_
  refine R_icmp_ge (pc' := 6) (tgt := 11) (a := l3) (b := l4) dX0_gameWorth_3 (by decide) rfl ?_ ?_
  · exact R_sub [] rfl (rf_X0_gameWorth_J11 g_X0_gameWorth hdg hg_X0_gameWorth this M)
  · refine R_iload_n (pc' := 7) (i := 3) (j := 3) (x := l3) dX0_gameWorth_6 rfl rfl rfl ?_
    refine R_iconst (pc' := 8) (x := (nI 4)) dX0_gameWorth_7 rfl (by decide) ?_
    refine R_icmp_lt (pc' := 11) (tgt := 13) (a := l3) (b := (nI 4)) dX0_gameWorth_8 (by decide) rfl ?_ ?_
    · refine R_aloadq_n (pc' := 14) (i := 0) (j := 0) (q := (some this)) dX0_gameWorth_13 rfl rfl rfl ?_
      refine R_getR (pc' := 17) (q := (some this)) fl_X0_22 rfl dX0_gameWorth_14 rfl (fun levels1 => ?_)
      refine R_iload_n (pc' := 18) (i := 3) (j := 3) (x := l3) dX0_gameWorth_17 rfl rfl rfl ?_
      refine R_aald (pc' := 19) (q := levels1) (i := l3) (by decide) rfl dX0_gameWorth_18 rfl (fun e2 => ?_)
      refine R_astoreq (pc' := 21) (L' := [(5, va_rf e2), (0, va_rf (some this)), (1, .int l1), (2, .int l2), (3, .int l3), (4, .int l4)]) (i := 5) (q := e2) dX0_gameWorth_19 rfl (by decide) rfl ?_
      refine R_aloadq_n (pc' := 22) (i := 0) (j := 1) (q := (some this)) dX0_gameWorth_21 rfl rfl rfl ?_
      refine R_getR (pc' := 25) (q := (some this)) fl_X0_22 rfl dX0_gameWorth_22 rfl (fun levels3 => ?_)
      refine R_iload_n (pc' := 26) (i := 3) (j := 4) (x := l3) dX0_gameWorth_25 rfl rfl rfl ?_
      refine R_iconst (pc' := 27) (x := (nI 1)) dX0_gameWorth_26 rfl (by decide) ?_
      refine R_iadd (pc' := 28) (a := l3) (b := (nI 1)) dX0_gameWorth_27 rfl ?_
      refine R_aald (pc' := 29) (q := levels3) (i := (l3 + (nI 1))) (by decide) rfl dX0_gameWorth_28 rfl (fun e4 => ?_)
      refine R_astoreq (pc' := 31) (L' := [(6, va_rf e4), (5, va_rf e2), (0, va_rf (some this)), (1, .int l1), (2, .int l2), (3, .int l3), (4, .int l4)]) (i := 6) (q := e4) dX0_gameWorth_29 rfl (by decide) (by simp [stL, rf_cat, cat_I, cat_L, cat_C]) ?_
      refine R_ldc (pc' := 33) (x := (-2147483647 : Int32)) dX0_gameWorth_31 rfl co_X0_174 ?_
      refine R_istore (pc' := 35) (L' := [(7, .int (-2147483647 : Int32)), (6, va_rf e4), (5, va_rf e2), (0, va_rf (some this)), (1, .int l1), (2, .int l2), (3, .int l3), (4, .int l4)]) (i := 7) (x := (-2147483647 : Int32)) dX0_gameWorth_33 rfl (by decide) (by simp [stL, rf_cat, cat_I, cat_L, cat_C]) ?_
      refine R_iconst (pc' := 36) (x := (-1 : Int32)) dX0_gameWorth_35 rfl (by decide) ?_
      refine R_istore (pc' := 38) (L' := [(8, .int (-1 : Int32)), (7, .int (-2147483647 : Int32)), (6, va_rf e4), (5, va_rf e2), (0, va_rf (some this)), (1, .int l1), (2, .int l2), (3, .int l3), (4, .int l4)]) (i := 8) (x := (-1 : Int32)) dX0_gameWorth_36 rfl (by decide) rfl ?_
      exact R_sub [4, 5, 6, 7, 8, 3, 2, 1, 0] rfl (rf_X0_gameWorth_L38 g_X0_gameWorth hdg hg_X0_gameWorth this FU l1 l2 l3 l4 e2 e4 (-2147483647 : Int32) (-1 : Int32) M)
    · exact R_sub [] rfl (rf_X0_gameWorth_J11 g_X0_gameWorth hdg hg_X0_gameWorth this M)
def fn_X0_gameWorth : Nat → Nat → Int32 → Int32 → Int32 → Int32 → Mem → Option (Int32 × Mem)
  | 0, _, _, _, _, _, _ => none
  | n + 1, this, l1, l2, l3, l4, M => fb_X0_gameWorth (fn_X0_gameWorth n) this l1 l2 l3 l4 M
theorem rn_X0_gameWorth : ∀ (n : Nat) (this : Nat) (l1 : Int32) (l2 : Int32) (l3 : Int32) (l4 : Int32) (M : Mem), RFm yX0_gameWorth cX0_gameWorth 10 (some .int) (2 + n) eI (fn_X0_gameWorth n this l1 l2 l3 l4 M) [va_rf (some this), .int l1, .int l2, .int l3, .int l4] M := by
  intro n
  induction n with
  | zero => intro this l1 l2 l3 l4 M r M2 h; cases h
  | succ n ih =>
    intro this l1 l2 l3 l4 M
    rw [fn_X0_gameWorth]
    exact rb_X0_gameWorth (dg := 2 + n) (fn_X0_gameWorth n) (Nat.le_add_right _ _) ih this l1 l2 l3 l4 M
def f_X0_gameWorth (this : Nat) (l1 : Int32) (l2 : Int32) (l3 : Int32) (l4 : Int32) (M : Mem) : Option (Int32 × Mem) := fn_X0_gameWorth 8 this l1 l2 l3 l4 M
theorem rm_X0_gameWorth (this : Nat) (l1 : Int32) (l2 : Int32) (l3 : Int32) (l4 : Int32) (M : Mem) : RFm yX0_gameWorth cX0_gameWorth 10 (some .int) 10 eI (f_X0_gameWorth this l1 l2 l3 l4 M) [va_rf (some this), .int l1, .int l2, .int l3, .int l4] M := rn_X0_gameWorth 8 this l1 l2 l3 l4 M
/-! BarPilot$Asker.playGame(III)V -/
def f_X0_playGame (this : Nat) (l1 : Int32) (l2 : Int32) (l3 : Int32) (M : Mem) : Option (Unit × Mem) :=
  (gR M 0 8 (some this)).bind fun levels1 =>
  (aR M 6 levels1 (nI 0)).bind fun e2 =>
  (gR M 0 4 (some this)).bind fun book3 =>
  (gR M 2 1 book3).bind fun scene4 =>
  (oO M 6 e2).bind fun o10 => cl (f_X6_copyFrom o10 scene4 M) fun u5 M =>
  (oO M 0 (some this)).bind fun o9 => cl (f_X0_gameWorth o9 l1 l2 (nI 0) l3 M) fun r6 M =>
  (pI M 0 0 (some this) r6).bind fun M =>
  (gR M 0 3 (some this)).bind fun choice7 =>
  (aI M 0 choice7 (nI 0)).bind fun e8 =>
  (pI M 0 1 (some this) e8).bind fun M =>
  some ((), M)
set_option maxHeartbeats 2000000 in
set_option maxRecDepth 20000 in
theorem rm_X0_playGame (this : Nat) (l1 : Int32) (l2 : Int32) (l3 : Int32) (M : Mem) : RFm yX0_playGame cX0_playGame 4 none 11 eV (f_X0_playGame this l1 l2 l3 M) [va_rf (some this), .int l1, .int l2, .int l3] M := by
  refine RFm_of (L := [(0, va_rf (some this)), (1, .int l1), (2, .int l2), (3, .int l3)]) (by decide) rfl (Nat.le_trans (c_R (c_I (c_I (c_I c_0)))) (by decide)) ?_
  rw [f_X0_playGame]
  refine R_aloadq_n (pc' := 1) (i := 0) (j := 0) (q := (some this)) dX0_playGame_0 rfl rfl rfl ?_
  refine R_getR (pc' := 4) (q := (some this)) fl_X0_22 rfl dX0_playGame_1 rfl (fun levels1 => ?_)
  refine R_iconst (pc' := 5) (x := (nI 0)) dX0_playGame_4 rfl (by decide) ?_
  refine R_aald (pc' := 6) (q := levels1) (i := (nI 0)) (by decide) rfl dX0_playGame_5 rfl (fun e2 => ?_)
  refine R_aloadq_n (pc' := 7) (i := 0) (j := 0) (q := (some this)) dX0_playGame_6 rfl rfl rfl ?_
  refine R_getR (pc' := 10) (q := (some this)) fl_X0_33 rfl dX0_playGame_7 rfl (fun book3 => ?_)
  refine R_getR (pc' := 13) (q := book3) fl_X0_48 rfl dX0_playGame_10 rfl (fun scene4 => ?_)
  refine R_callV_V (pc' := 16) (q := e2) (As := [va_rf scene4]) (fun o10 => rm_X6_copyFrom o10 scene4 M) mf_X6_copyFrom lk_X0_51 im_X6_copyFrom se_X6_copyFrom rfl rfl rfl dX0_playGame_13 rfl (by decide) (Nat.le_trans c_0 (by decide)) (fun u5 M => ?_)
  refine R_aloadq_n (pc' := 17) (i := 0) (j := 0) (q := (some this)) dX0_playGame_16 rfl rfl rfl ?_
  refine R_aloadq_n (pc' := 18) (i := 0) (j := 0) (q := (some this)) dX0_playGame_17 rfl rfl rfl ?_
  refine R_iload_n (pc' := 19) (i := 1) (j := 1) (x := l1) dX0_playGame_18 rfl rfl rfl ?_
  refine R_iload_n (pc' := 20) (i := 2) (j := 2) (x := l2) dX0_playGame_19 rfl rfl rfl ?_
  refine R_iconst (pc' := 21) (x := (nI 0)) dX0_playGame_20 rfl (by decide) ?_
  refine R_iload_n (pc' := 22) (i := 3) (j := 3) (x := l3) dX0_playGame_21 rfl rfl rfl ?_
  refine R_callV_I (pc' := 25) (q := (some this)) (As := [.int l1, .int l2, .int (nI 0), .int l3]) (fun o9 => rm_X0_gameWorth o9 l1 l2 (nI 0) l3 M) mf_X0_gameWorth lk_X0_170 im_X0_gameWorth se_X0_gameWorth rfl rfl rfl dX0_playGame_22 rfl (by decide) (Nat.le_trans (c_R c_0) (by decide)) (fun r6 M => ?_)
  refine R_putI (pc' := 28) (q := (some this)) (x := r6) fl_X0_65 (Or.inl rfl) dX0_playGame_25 rfl (fun M => ?_)
  refine R_aloadq_n (pc' := 29) (i := 0) (j := 0) (q := (some this)) dX0_playGame_28 rfl rfl rfl ?_
  refine R_aloadq_n (pc' := 30) (i := 0) (j := 0) (q := (some this)) dX0_playGame_29 rfl rfl rfl ?_
  refine R_getR (pc' := 33) (q := (some this)) fl_X0_9 rfl dX0_playGame_30 rfl (fun choice7 => ?_)
  refine R_iconst (pc' := 34) (x := (nI 0)) dX0_playGame_33 rfl (by decide) ?_
  refine R_iald (pc' := 35) (q := choice7) (i := (nI 0)) dX0_playGame_34 rfl (fun e8 => ?_)
  refine R_putI (pc' := 38) (q := (some this)) (x := e8) fl_X0_75 (Or.inl rfl) dX0_playGame_35 rfl (fun M => ?_)
  exact R_vret dX0_playGame_38
/-! BarPilot$Asker.notesHold(I)Z -/
def f_X0_notesHold_J57 (k2 : Int32 → Int32 → Mem → Option (Int32 × Mem)) (this : Nat) (l1 : Int32) (l2 : Int32) (M : Mem) : Option (Int32 × Mem) :=
  k2 l1 (l2 + (nI 1)) M
set_option maxHeartbeats 2000000 in
set_option maxRecDepth 20000 in
theorem rf_X0_notesHold_J57 (this : Nat) (k2 : Int32 → Int32 → Mem → Option (Int32 × Mem)) (hk2 : ∀ (l1 : Int32) (l2 : Int32) (M : Mem), RF yX0_notesHold cX0_notesHold 3 (some .boolean) 1 eI (k2 l1 l2 M) 2 [(0, va_rf (some this)), (1, .int l1), (2, .int l2)] [] M) (l1 : Int32) (l2 : Int32) (M : Mem) : RF yX0_notesHold cX0_notesHold 3 (some .boolean) 1 eI (f_X0_notesHold_J57 k2 this l1 l2 M) 57 [(0, va_rf (some this)), (1, .int l1), (2, .int l2)] [] M := by
  rw [f_X0_notesHold_J57]
  refine R_iinc (pc' := 60) (L' := [(2, .int (l2 + (nI 1))), (0, va_rf (some this)), (1, .int l1)]) (i := 2) (j := 2) (x := l2) (x2 := (l2 + (nI 1))) dX0_notesHold_57 rfl rfl rfl (by decide) rfl ?_
  refine R_goto (tgt := 2) dX0_notesHold_60 (by decide) ?_
  exact R_sub [1, 2, 0] rfl (hk2 l1 (l2 + (nI 1)) M)
def f_X0_notesHold_L2 (this : Nat) : Nat → Int32 → Int32 → Mem → Option (Int32 × Mem)
  | 0, _, _, _ => none
  | n + 1, l1, l2, M =>
    (gR M 0 4 (some this)).bind fun book1 =>
    (gI M 2 5 book1).bind fun notes2 =>
    (if notes2 ≤ l2 then
      (ckZ (nI 1) (some ((nI 1), M)))
    else
      ((gR M 0 4 (some this)).bind fun book3 =>
      (gR M 2 2 book3).bind fun noteTide4 =>
      (aI M 0 noteTide4 l2).bind fun e5 =>
      (if e5 = l1 then
        ((gR M 0 4 (some this)).bind fun book6 =>
        (gR M 2 4 book6).bind fun noteJoke7 =>
        (aI M 0 noteJoke7 l2).bind fun e8 =>
        (gR M 0 6 (some this)).bind fun pilot9 =>
        (gR M 3 1 pilot9).bind fun said10 =>
        (gR M 0 4 (some this)).bind fun book11 =>
        (gR M 2 3 book11).bind fun noteShip12 =>
        (aI M 0 noteShip12 l2).bind fun e13 =>
        (aI M 0 said10 e13).bind fun e14 =>
        (if e8 = e14 then
          (f_X0_notesHold_J57 (f_X0_notesHold_L2 this n) this l1 l2 M)
        else
          (ckZ (nI 0) (some ((nI 0), M)))))
      else
        (f_X0_notesHold_J57 (f_X0_notesHold_L2 this n) this l1 l2 M))))
set_option maxHeartbeats 2000000 in
set_option maxRecDepth 20000 in
theorem rf_X0_notesHold_L2 (this : Nat) : ∀ (n : Nat) (l1 : Int32) (l2 : Int32) (M : Mem), RF yX0_notesHold cX0_notesHold 3 (some .boolean) 1 eI (f_X0_notesHold_L2 this n l1 l2 M) 2 [(0, va_rf (some this)), (1, .int l1), (2, .int l2)] [] M := by
  intro n
  induction n with
  | zero => intro _ _ _; exact RF.none
  | succ n ih =>
    intro l1 l2 M
    rw [f_X0_notesHold_L2]
    refine R_iload_n (pc' := 3) (i := 2) (j := 2) (x := l2) dX0_notesHold_2 rfl rfl rfl ?_
    refine R_aloadq_n (pc' := 4) (i := 0) (j := 0) (q := (some this)) dX0_notesHold_3 rfl rfl rfl ?_
    refine R_getR (pc' := 7) (q := (some this)) fl_X0_33 rfl dX0_notesHold_4 rfl (fun book1 => ?_)
    refine R_getI (pc' := 10) (q := book1) fl_X0_182 rfl dX0_notesHold_7 rfl (fun notes2 => ?_)
    refine R_icmp_ge (pc' := 13) (tgt := 63) (a := l2) (b := notes2) dX0_notesHold_10 (by decide) rfl ?_ ?_
    · refine R_iconst (pc' := 64) (x := (nI 1)) dX0_notesHold_63 rfl (by decide) ?_
      exact R_bret dX0_notesHold_64
    · refine R_aloadq_n (pc' := 14) (i := 0) (j := 0) (q := (some this)) dX0_notesHold_13 rfl rfl rfl ?_
      refine R_getR (pc' := 17) (q := (some this)) fl_X0_33 rfl dX0_notesHold_14 rfl (fun book3 => ?_)
      refine R_getR (pc' := 20) (q := book3) fl_X0_185 rfl dX0_notesHold_17 rfl (fun noteTide4 => ?_)
      refine R_iload_n (pc' := 21) (i := 2) (j := 2) (x := l2) dX0_notesHold_20 rfl rfl rfl ?_
      refine R_iald (pc' := 22) (q := noteTide4) (i := l2) dX0_notesHold_21 rfl (fun e5 => ?_)
      refine R_iload_n (pc' := 23) (i := 1) (j := 1) (x := l1) dX0_notesHold_22 rfl rfl rfl ?_
      refine R_icmp_ne (pc' := 26) (tgt := 57) (a := e5) (b := l1) dX0_notesHold_23 (by decide) rfl ?_ ?_
      · exact R_sub [0, 1, 2] rfl (rf_X0_notesHold_J57 this (f_X0_notesHold_L2 this n) ih l1 l2 M)
      · refine R_aloadq_n (pc' := 27) (i := 0) (j := 0) (q := (some this)) dX0_notesHold_26 rfl rfl rfl ?_
        refine R_getR (pc' := 30) (q := (some this)) fl_X0_33 rfl dX0_notesHold_27 rfl (fun book6 => ?_)
        refine R_getR (pc' := 33) (q := book6) fl_X0_198 rfl dX0_notesHold_30 rfl (fun noteJoke7 => ?_)
        refine R_iload_n (pc' := 34) (i := 2) (j := 2) (x := l2) dX0_notesHold_33 rfl rfl rfl ?_
        refine R_iald (pc' := 35) (q := noteJoke7) (i := l2) dX0_notesHold_34 rfl (fun e8 => ?_)
        refine R_aloadq_n (pc' := 36) (i := 0) (j := 0) (q := (some this)) dX0_notesHold_35 rfl rfl rfl ?_
        refine R_getR (pc' := 39) (q := (some this)) fl_X0_44 rfl dX0_notesHold_36 rfl (fun pilot9 => ?_)
        refine R_getR (pc' := 42) (q := pilot9) fl_X0_72 rfl dX0_notesHold_39 rfl (fun said10 => ?_)
        refine R_aloadq_n (pc' := 43) (i := 0) (j := 0) (q := (some this)) dX0_notesHold_42 rfl rfl rfl ?_
        refine R_getR (pc' := 46) (q := (some this)) fl_X0_33 rfl dX0_notesHold_43 rfl (fun book11 => ?_)
        refine R_getR (pc' := 49) (q := book11) fl_X0_201 rfl dX0_notesHold_46 rfl (fun noteShip12 => ?_)
        refine R_iload_n (pc' := 50) (i := 2) (j := 2) (x := l2) dX0_notesHold_49 rfl rfl rfl ?_
        refine R_iald (pc' := 51) (q := noteShip12) (i := l2) dX0_notesHold_50 rfl (fun e13 => ?_)
        refine R_iald (pc' := 52) (q := said10) (i := e13) dX0_notesHold_51 rfl (fun e14 => ?_)
        refine R_icmp_eq (pc' := 55) (tgt := 57) (a := e8) (b := e14) dX0_notesHold_52 (by decide) rfl ?_ ?_
        · exact R_sub [0, 1, 2] rfl (rf_X0_notesHold_J57 this (f_X0_notesHold_L2 this n) ih l1 l2 M)
        · refine R_iconst (pc' := 56) (x := (nI 0)) dX0_notesHold_55 rfl (by decide) ?_
          exact R_bret dX0_notesHold_56
def f_X0_notesHold (this : Nat) (l1 : Int32) (M : Mem) : Option (Int32 × Mem) :=
  f_X0_notesHold_L2 this FU l1 (nI 0) M
set_option maxHeartbeats 2000000 in
set_option maxRecDepth 20000 in
theorem rm_X0_notesHold (this : Nat) (l1 : Int32) (M : Mem) : RFm yX0_notesHold cX0_notesHold 3 (some .boolean) 1 eI (f_X0_notesHold this l1 M) [va_rf (some this), .int l1] M := by
  refine RFm_of (L := [(0, va_rf (some this)), (1, .int l1)]) (by decide) rfl (Nat.le_trans (c_R (c_I c_0)) (by decide)) ?_
  rw [f_X0_notesHold]
  refine R_iconst (pc' := 1) (x := (nI 0)) dX0_notesHold_0 rfl (by decide) ?_
  refine R_istore_n (pc' := 2) (L' := [(2, .int (nI 0)), (0, va_rf (some this)), (1, .int l1)]) (i := 2) (x := (nI 0)) dX0_notesHold_1 rfl rfl (by decide) rfl ?_
  exact R_sub [1, 2, 0] rfl (rf_X0_notesHold_L2 this FU l1 (nI 0) M)
/-! BarPilot$Asker.allNotesHold(II)Z -/
def f_X0_allNotesHold_J104 (k52 : Int32 → Int32 → Int32 → Int32 → Mem → Option (Int32 × Mem)) (this : Nat) (l1 : Int32) (l2 : Int32) (l3 : Int32) (l4 : Int32) (M : Mem) : Option (Int32 × Mem) :=
  k52 l1 l2 l3 (l4 + (nI 1)) M
set_option maxHeartbeats 2000000 in
set_option maxRecDepth 20000 in
theorem rf_X0_allNotesHold_J104 (this : Nat) (k52 : Int32 → Int32 → Int32 → Int32 → Mem → Option (Int32 × Mem)) (hk52 : ∀ (l1 : Int32) (l2 : Int32) (l3 : Int32) (l4 : Int32) (M : Mem), RF yX0_allNotesHold cX0_allNotesHold 5 (some .boolean) 6 eI (k52 l1 l2 l3 l4 M) 52 [(0, va_rf (some this)), (1, .int l1), (2, .int l2), (3, .int l3), (4, .int l4)] [] M) (l1 : Int32) (l2 : Int32) (l3 : Int32) (l4 : Int32) (M : Mem) : RF yX0_allNotesHold cX0_allNotesHold 5 (some .boolean) 6 eI (f_X0_allNotesHold_J104 k52 this l1 l2 l3 l4 M) 104 [(0, va_rf (some this)), (1, .int l1), (2, .int l2), (3, .int l3), (4, .int l4)] [] M := by
  rw [f_X0_allNotesHold_J104]
  refine R_iinc (pc' := 107) (L' := [(4, .int (l4 + (nI 1))), (0, va_rf (some this)), (1, .int l1), (2, .int l2), (3, .int l3)]) (i := 4) (j := 4) (x := l4) (x2 := (l4 + (nI 1))) dX0_allNotesHold_104 rfl rfl rfl (by decide) rfl ?_
  refine R_goto (tgt := 52) dX0_allNotesHold_107 (by decide) ?_
  exact R_sub [1, 2, 3, 4, 0] rfl (hk52 l1 l2 l3 (l4 + (nI 1)) M)
def f_X0_allNotesHold_L52 (this : Nat) : Nat → Int32 → Int32 → Int32 → Int32 → Mem → Option (Int32 × Mem)
  | 0, _, _, _, _, _ => none
  | n + 1, l1, l2, l3, l4, M =>
    (if l3 < l4 then
      (ckZ (nI 1) (some ((nI 1), M)))
    else
      ((gR M 0 6 (some this)).bind fun pilot1 =>
      (gR M 0 7 (some this)).bind fun work2 =>
      (oO M 3 pilot1).bind fun o9 => cl (f_X3_oneTide o9 work2 M) fun r3 M =>
      (oO M 0 (some this)).bind fun o8 => cl (f_X0_notesHold o8 l4 M) fun r4 M =>
      (if r4 = 0 then
        (ckZ (nI 0) (some ((nI 0), M)))
      else
        ((if l4 = l1 then
          ((gR M 0 6 (some this)).bind fun pilot5 =>
          (gR M 3 1 pilot5).bind fun said6 =>
          (gR M 0 10 (some this)).bind fun tells7 =>
          (cpy M said6 (nI 0) tells7 l2 (nI 5)).bind fun M =>
          f_X0_allNotesHold_J104 (f_X0_allNotesHold_L52 this n) this l1 l2 l3 l4 M)
        else
          (f_X0_allNotesHold_J104 (f_X0_allNotesHold_L52 this n) this l1 l2 l3 l4 M))))))
set_option maxHeartbeats 2000000 in
set_option maxRecDepth 20000 in
theorem rf_X0_allNotesHold_L52 (this : Nat) : ∀ (n : Nat) (l1 : Int32) (l2 : Int32) (l3 : Int32) (l4 : Int32) (M : Mem), RF yX0_allNotesHold cX0_allNotesHold 5 (some .boolean) 6 eI (f_X0_allNotesHold_L52 this n l1 l2 l3 l4 M) 52 [(0, va_rf (some this)), (1, .int l1), (2, .int l2), (3, .int l3), (4, .int l4)] [] M := by
  intro n
  induction n with
  | zero => intro _ _ _ _ _; exact RF.none
  | succ n ih =>
    intro l1 l2 l3 l4 M
    rw [f_X0_allNotesHold_L52]
    refine R_iload (pc' := 54) (i := 4) (j := 4) (x := l4) dX0_allNotesHold_52 rfl rfl ?_
    refine R_iload_n (pc' := 55) (i := 3) (j := 3) (x := l3) dX0_allNotesHold_54 rfl rfl rfl ?_
    refine R_icmp_gt (pc' := 58) (tgt := 110) (a := l4) (b := l3) dX0_allNotesHold_55 (by decide) rfl ?_ ?_
    · refine R_iconst (pc' := 111) (x := (nI 1)) dX0_allNotesHold_110 rfl (by decide) ?_
      exact R_bret dX0_allNotesHold_111
    · refine R_aloadq_n (pc' := 59) (i := 0) (j := 0) (q := (some this)) dX0_allNotesHold_58 rfl rfl rfl ?_
      refine R_getR (pc' := 62) (q := (some this)) fl_X0_44 rfl dX0_allNotesHold_59 rfl (fun pilot1 => ?_)
      refine R_aloadq_n (pc' := 63) (i := 0) (j := 0) (q := (some this)) dX0_allNotesHold_62 rfl rfl rfl ?_
      refine R_getR (pc' := 66) (q := (some this)) fl_X0_18 rfl dX0_allNotesHold_63 rfl (fun work2 => ?_)
      refine R_callV_I (pc' := 69) (q := pilot1) (As := [va_rf work2]) (fun o9 => rm_X3_oneTide o9 work2 M) mf_X3_oneTide lk_X0_68 im_X3_oneTide se_X3_oneTide rfl rfl rfl dX0_allNotesHold_66 rfl (by decide) (Nat.le_trans c_0 (by decide)) (fun r3 M => ?_)
      refine R_pop (pc' := 70) dX0_allNotesHold_69 rfl rfl ?_
      refine R_aloadq_n (pc' := 71) (i := 0) (j := 0) (q := (some this)) dX0_allNotesHold_70 rfl rfl rfl ?_
      refine R_iload (pc' := 73) (i := 4) (j := 4) (x := l4) dX0_allNotesHold_71 rfl rfl ?_
      refine R_callV_I (pc' := 76) (q := (some this)) (As := [.int l4]) (fun o8 => rm_X0_notesHold o8 l4 M) mf_X0_notesHold lk_X0_188 im_X0_notesHold se_X0_notesHold rfl rfl rfl dX0_allNotesHold_73 rfl (by decide) (Nat.le_trans c_0 (by decide)) (fun r4 M => ?_)
      refine R_if_ne (pc' := 79) (tgt := 81) (a := r4) dX0_allNotesHold_76 (by decide) rfl ?_ ?_
      · refine R_iload (pc' := 83) (i := 4) (j := 4) (x := l4) dX0_allNotesHold_81 rfl rfl ?_
        refine R_iload_n (pc' := 84) (i := 1) (j := 1) (x := l1) dX0_allNotesHold_83 rfl rfl rfl ?_
        refine R_icmp_ne (pc' := 87) (tgt := 104) (a := l4) (b := l1) dX0_allNotesHold_84 (by decide) rfl ?_ ?_
        · exact R_sub [0, 1, 2, 3, 4] rfl (rf_X0_allNotesHold_J104 this (f_X0_allNotesHold_L52 this n) ih l1 l2 l3 l4 M)
        · refine R_aloadq_n (pc' := 88) (i := 0) (j := 0) (q := (some this)) dX0_allNotesHold_87 rfl rfl rfl ?_
          refine R_getR (pc' := 91) (q := (some this)) fl_X0_44 rfl dX0_allNotesHold_88 rfl (fun pilot5 => ?_)
          refine R_getR (pc' := 94) (q := pilot5) fl_X0_72 rfl dX0_allNotesHold_91 rfl (fun said6 => ?_)
          refine R_iconst (pc' := 95) (x := (nI 0)) dX0_allNotesHold_94 rfl (by decide) ?_
          refine R_aloadq_n (pc' := 96) (i := 0) (j := 0) (q := (some this)) dX0_allNotesHold_95 rfl rfl rfl ?_
          refine R_getR (pc' := 99) (q := (some this)) fl_X0_30 rfl dX0_allNotesHold_96 rfl (fun tells7 => ?_)
          refine R_iload_n (pc' := 100) (i := 2) (j := 2) (x := l2) dX0_allNotesHold_99 rfl rfl rfl ?_
          refine R_iconst (pc' := 101) (x := (nI 5)) dX0_allNotesHold_100 rfl (by decide) ?_
          refine R_acopy (pc' := 104) (q0 := said6) (sp := (nI 0)) (q1 := tells7) (dp := l2) (n := (nI 5)) lka_X0_192 sy_na sy_st sy_in dX0_allNotesHold_101 rfl (by decide) (Nat.le_trans c_0 (by decide)) (fun M => ?_)
          exact R_sub [0, 1, 2, 3, 4] rfl (rf_X0_allNotesHold_J104 this (f_X0_allNotesHold_L52 this n) ih l1 l2 l3 l4 M)
      · refine R_iconst (pc' := 80) (x := (nI 0)) dX0_allNotesHold_79 rfl (by decide) ?_
        exact R_bret dX0_allNotesHold_80
def f_X0_allNotesHold_L5 (this : Nat) : Nat → Int32 → Int32 → Int32 → Int32 → Mem → Option (Int32 × Mem)
  | 0, _, _, _, _, _ => none
  | n + 1, l1, l2, l3, l4, M =>
    (gR M 0 4 (some this)).bind fun book1 =>
    (gI M 2 5 book1).bind fun notes2 =>
    (if notes2 ≤ l4 then
      ((gR M 0 7 (some this)).bind fun work3 =>
      (gR M 0 5 (some this)).bind fun told4 =>
      (oO M 6 work3).bind fun o6 => cl (f_X6_begin o6 told4 M) fun u5 M =>
      f_X0_allNotesHold_L52 this FU l1 l2 l3 (nI 0) M)
    else
      ((gR M 0 4 (some this)).bind fun book7 =>
      (gR M 2 2 book7).bind fun noteTide8 =>
      (aI M 0 noteTide8 l4).bind fun e9 =>
      nm (if l3 < e9 then e9 else l3) fun r10 =>
      (f_X0_allNotesHold_L5 this n) l1 l2 r10 (l4 + (nI 1)) M))
set_option maxHeartbeats 2000000 in
set_option maxRecDepth 20000 in
theorem rf_X0_allNotesHold_L5 (this : Nat) : ∀ (n : Nat) (l1 : Int32) (l2 : Int32) (l3 : Int32) (l4 : Int32) (M : Mem), RF yX0_allNotesHold cX0_allNotesHold 5 (some .boolean) 6 eI (f_X0_allNotesHold_L5 this n l1 l2 l3 l4 M) 5 [(0, va_rf (some this)), (1, .int l1), (2, .int l2), (3, .int l3), (4, .int l4)] [] M := by
  intro n
  induction n with
  | zero => intro _ _ _ _ _; exact RF.none
  | succ n ih =>
    intro l1 l2 l3 l4 M
    rw [f_X0_allNotesHold_L5]
    refine R_iload (pc' := 7) (i := 4) (j := 4) (x := l4) dX0_allNotesHold_5 rfl rfl ?_
    refine R_aloadq_n (pc' := 8) (i := 0) (j := 0) (q := (some this)) dX0_allNotesHold_7 rfl rfl rfl ?_
    refine R_getR (pc' := 11) (q := (some this)) fl_X0_33 rfl dX0_allNotesHold_8 rfl (fun book1 => ?_)
    refine R_getI (pc' := 14) (q := book1) fl_X0_182 rfl dX0_allNotesHold_11 rfl (fun notes2 => ?_)
    refine R_icmp_ge (pc' := 17) (tgt := 38) (a := l4) (b := notes2) dX0_allNotesHold_14 (by decide) rfl ?_ ?_
    · refine R_aloadq_n (pc' := 39) (i := 0) (j := 0) (q := (some this)) dX0_allNotesHold_38 rfl rfl rfl ?_
      refine R_getR (pc' := 42) (q := (some this)) fl_X0_18 rfl dX0_allNotesHold_39 rfl (fun work3 => ?_)
      refine R_aloadq_n (pc' := 43) (i := 0) (j := 0) (q := (some this)) dX0_allNotesHold_42 rfl rfl rfl ?_
      refine R_getR (pc' := 46) (q := (some this)) fl_X0_43 rfl dX0_allNotesHold_43 rfl (fun told4 => ?_)
      refine R_callV_V (pc' := 49) (q := work3) (As := [va_rf told4]) (fun o6 => rm_X6_begin o6 told4 M) mf_X6_begin lk_X0_164 im_X6_begin se_X6_begin rfl rfl rfl dX0_allNotesHold_46 rfl (by decide) (Nat.le_trans c_0 (by decide)) (fun u5 M => ?_)
      refine R_iconst (pc' := 50) (x := (nI 0)) dX0_allNotesHold_49 rfl (by decide) ?_
      refine R_istore (pc' := 52) (L' := [(4, .int (nI 0)), (0, va_rf (some this)), (1, .int l1), (2, .int l2), (3, .int l3)]) (i := 4) (x := (nI 0)) dX0_allNotesHold_50 rfl (by decide) rfl ?_
      exact R_sub [1, 2, 3, 4, 0] rfl (rf_X0_allNotesHold_L52 this FU l1 l2 l3 (nI 0) M)
    · refine R_iload_n (pc' := 18) (i := 3) (j := 3) (x := l3) dX0_allNotesHold_17 rfl rfl rfl ?_
      refine R_aloadq_n (pc' := 19) (i := 0) (j := 0) (q := (some this)) dX0_allNotesHold_18 rfl rfl rfl ?_
      refine R_getR (pc' := 22) (q := (some this)) fl_X0_33 rfl dX0_allNotesHold_19 rfl (fun book7 => ?_)
      refine R_getR (pc' := 25) (q := book7) fl_X0_185 rfl dX0_allNotesHold_22 rfl (fun noteTide8 => ?_)
      refine R_iload (pc' := 27) (i := 4) (j := 4) (x := l4) dX0_allNotesHold_25 rfl rfl ?_
      refine R_iald (pc' := 28) (q := noteTide8) (i := l4) dX0_allNotesHold_27 rfl (fun e9 => ?_)
      refine R_mmax (pc' := 31) (a := l3) (b := e9) lk_X0_155 dX0_allNotesHold_28 rfl (by decide) (Nat.le_trans c_0 (by decide)) ?_
      refine R_nmI (fun r10 => ?_)
      refine R_istore_n (pc' := 32) (L' := [(3, .int r10), (0, va_rf (some this)), (1, .int l1), (2, .int l2), (4, .int l4)]) (i := 3) (x := r10) dX0_allNotesHold_31 rfl rfl (by decide) rfl ?_
      refine R_iinc (pc' := 35) (L' := [(4, .int (l4 + (nI 1))), (3, .int r10), (0, va_rf (some this)), (1, .int l1), (2, .int l2)]) (i := 4) (j := 4) (x := l4) (x2 := (l4 + (nI 1))) dX0_allNotesHold_32 rfl rfl rfl (by decide) rfl ?_
      refine R_goto (tgt := 5) dX0_allNotesHold_35 (by decide) ?_
      exact R_sub [2, 3, 4, 1, 0] rfl (ih l1 l2 r10 (l4 + (nI 1)) M)
def f_X0_allNotesHold (this : Nat) (l1 : Int32) (l2 : Int32) (M : Mem) : Option (Int32 × Mem) :=
  f_X0_allNotesHold_L5 this FU l1 l2 l1 (nI 0) M
set_option maxHeartbeats 2000000 in
set_option maxRecDepth 20000 in
theorem rm_X0_allNotesHold (this : Nat) (l1 : Int32) (l2 : Int32) (M : Mem) : RFm yX0_allNotesHold cX0_allNotesHold 5 (some .boolean) 6 eI (f_X0_allNotesHold this l1 l2 M) [va_rf (some this), .int l1, .int l2] M := by
  refine RFm_of (L := [(0, va_rf (some this)), (1, .int l1), (2, .int l2)]) (by decide) rfl (Nat.le_trans (c_R (c_I (c_I c_0))) (by decide)) ?_
  rw [f_X0_allNotesHold]
  refine R_iload_n (pc' := 1) (i := 1) (j := 1) (x := l1) dX0_allNotesHold_0 rfl rfl rfl ?_
  refine R_istore_n (pc' := 2) (L' := [(3, .int l1), (0, va_rf (some this)), (1, .int l1), (2, .int l2)]) (i := 3) (x := l1) dX0_allNotesHold_1 rfl rfl (by decide) rfl ?_
  refine R_iconst (pc' := 3) (x := (nI 0)) dX0_allNotesHold_2 rfl (by decide) ?_
  refine R_istore (pc' := 5) (L' := [(4, .int (nI 0)), (3, .int l1), (0, va_rf (some this)), (1, .int l1), (2, .int l2)]) (i := 4) (x := (nI 0)) dX0_allNotesHold_3 rfl (by decide) rfl ?_
  exact R_sub [2, 3, 4, 1, 0] rfl (rf_X0_allNotesHold_L5 this FU l1 l2 l1 (nI 0) M)
/-! BarPilot$Asker.tryRules([LBarPilot$Rule;II)V -/
def f_X0_tryRules_J99 (k13 : Option Nat → Int32 → Int32 → Int32 → Mem → Option (Unit × Mem)) (this : Nat) (l1 : Option Nat) (l2 : Int32) (l3 : Int32) (l4 : Int32) (M : Mem) : Option (Unit × Mem) :=
  k13 l1 l2 l3 (l4 + (nI 1)) M
set_option maxHeartbeats 2000000 in
set_option maxRecDepth 20000 in
theorem rf_X0_tryRules_J99 (this : Nat) (k13 : Option Nat → Int32 → Int32 → Int32 → Mem → Option (Unit × Mem)) (hk13 : ∀ (l1 : Option Nat) (l2 : Int32) (l3 : Int32) (l4 : Int32) (M : Mem), RF yX0_tryRules cX0_tryRules 6 none 7 eV (k13 l1 l2 l3 l4 M) 13 [(0, va_rf (some this)), (1, va_rf l1), (2, .int l2), (3, .int l3), (4, .int l4)] [] M) (l1 : Option Nat) (l2 : Int32) (l3 : Int32) (l4 : Int32) (M : Mem) : RF yX0_tryRules cX0_tryRules 6 none 7 eV (f_X0_tryRules_J99 k13 this l1 l2 l3 l4 M) 99 [(0, va_rf (some this)), (1, va_rf l1), (2, .int l2), (3, .int l3), (4, .int l4)] [] M := by
  rw [f_X0_tryRules_J99]
  refine R_iinc (pc' := 102) (L' := [(4, .int (l4 + (nI 1))), (0, va_rf (some this)), (1, va_rf l1), (2, .int l2), (3, .int l3)]) (i := 4) (j := 4) (x := l4) (x2 := (l4 + (nI 1))) dX0_tryRules_99 rfl rfl rfl (by decide) rfl ?_
  refine R_goto (tgt := 13) dX0_tryRules_102 (by decide) ?_
  exact R_sub [1, 2, 3, 4, 0] rfl (hk13 l1 l2 l3 (l4 + (nI 1)) M)
def f_X0_tryRules_J86 (k13 : Option Nat → Int32 → Int32 → Int32 → Mem → Option (Unit × Mem)) (this : Nat) (l1 : Option Nat) (l2 : Int32) (l3 : Int32) (l4 : Int32) (s0 : Int32) (s1 : Option Nat) (M : Mem) : Option (Unit × Mem) :=
  (pI M 0 1 s1 s0).bind fun M =>
  (gI M 0 0 (some this)).bind fun amount1 =>
  (pI M 0 0 (some this) (amount1 + (nI 1))).bind fun M =>
  f_X0_tryRules_J99 k13 this l1 l2 l3 l4 M
set_option maxHeartbeats 2000000 in
set_option maxRecDepth 20000 in
theorem rf_X0_tryRules_J86 (this : Nat) (k13 : Option Nat → Int32 → Int32 → Int32 → Mem → Option (Unit × Mem)) (hk13 : ∀ (l1 : Option Nat) (l2 : Int32) (l3 : Int32) (l4 : Int32) (M : Mem), RF yX0_tryRules cX0_tryRules 6 none 7 eV (k13 l1 l2 l3 l4 M) 13 [(0, va_rf (some this)), (1, va_rf l1), (2, .int l2), (3, .int l3), (4, .int l4)] [] M) (l1 : Option Nat) (l2 : Int32) (l3 : Int32) (l4 : Int32) (s0 : Int32) (s1 : Option Nat) (M : Mem) : RF yX0_tryRules cX0_tryRules 6 none 7 eV (f_X0_tryRules_J86 k13 this l1 l2 l3 l4 s0 s1 M) 86 [(0, va_rf (some this)), (1, va_rf l1), (2, .int l2), (3, .int l3), (4, .int l4)] [.int s0, va_rf s1] M := by
  rw [f_X0_tryRules_J86]
  refine R_putI (pc' := 89) (q := s1) (x := s0) fl_X0_75 (Or.inl rfl) dX0_tryRules_86 rfl (fun M => ?_)
  refine R_aloadq_n (pc' := 90) (i := 0) (j := 0) (q := (some this)) dX0_tryRules_89 rfl rfl rfl ?_
  refine R_dup (pc' := 91) dX0_tryRules_90 rfl (rf_cat _) ?_
  refine R_getI (pc' := 94) (q := (some this)) fl_X0_65 rfl dX0_tryRules_91 rfl (fun amount1 => ?_)
  refine R_iconst (pc' := 95) (x := (nI 1)) dX0_tryRules_94 rfl (by decide) ?_
  refine R_iadd (pc' := 96) (a := amount1) (b := (nI 1)) dX0_tryRules_95 rfl ?_
  refine R_putI (pc' := 99) (q := (some this)) (x := (amount1 + (nI 1))) fl_X0_65 (Or.inl rfl) dX0_tryRules_96 rfl (fun M => ?_)
  exact R_sub [0, 1, 2, 3, 4] rfl (rf_X0_tryRules_J99 this k13 hk13 l1 l2 l3 l4 M)
def f_X0_tryRules_J37 (k13 : Option Nat → Int32 → Int32 → Int32 → Mem → Option (Unit × Mem)) (this : Nat) (l1 : Option Nat) (l2 : Int32) (l3 : Int32) (l4 : Int32) (s0 : Option Nat) (s1 : Option Nat) (M : Mem) : Option (Unit × Mem) :=
  (pR M 3 0 s1 s0).bind fun M =>
  (oO M 0 (some this)).bind fun o5 => cl (f_X0_allNotesHold o5 l3 ((l4 + (nI 1)) * (nI 5)) M) fun r1 M =>
  (gR M 0 9 (some this)).bind fun isSo2 =>
  (wI M 2 isSo2 (l4 + (nI 1)) (vp_nar .boolean r1)).bind fun M =>
  (if r1 = 0 then
    (f_X0_tryRules_J99 k13 this l1 l2 l3 l4 M)
  else
    ((gI M 0 0 (some this)).bind fun amount3 =>
    (if amount3 = 0 then
      (f_X0_tryRules_J86 k13 this l1 l2 l3 l4 l4 (some this) M)
    else
      ((gI M 0 1 (some this)).bind fun first4 =>
      f_X0_tryRules_J86 k13 this l1 l2 l3 l4 first4 (some this) M))))
set_option maxHeartbeats 2000000 in
set_option maxRecDepth 20000 in
theorem rf_X0_tryRules_J37 (this : Nat) (k13 : Option Nat → Int32 → Int32 → Int32 → Mem → Option (Unit × Mem)) (hk13 : ∀ (l1 : Option Nat) (l2 : Int32) (l3 : Int32) (l4 : Int32) (M : Mem), RF yX0_tryRules cX0_tryRules 6 none 7 eV (k13 l1 l2 l3 l4 M) 13 [(0, va_rf (some this)), (1, va_rf l1), (2, .int l2), (3, .int l3), (4, .int l4)] [] M) (l1 : Option Nat) (l2 : Int32) (l3 : Int32) (l4 : Int32) (s0 : Option Nat) (s1 : Option Nat) (M : Mem) : RF yX0_tryRules cX0_tryRules 6 none 7 eV (f_X0_tryRules_J37 k13 this l1 l2 l3 l4 s0 s1 M) 37 [(0, va_rf (some this)), (1, va_rf l1), (2, .int l2), (3, .int l3), (4, .int l4)] [va_rf s0, va_rf s1] M := by
  rw [f_X0_tryRules_J37]
  refine R_putR (pc' := 40) (q := s1) (x := s0) fl_X0_160 rfl (Or.inl rfl) dX0_tryRules_37 rfl (fun M => ?_)
  refine R_aloadq_n (pc' := 41) (i := 0) (j := 0) (q := (some this)) dX0_tryRules_40 rfl rfl rfl ?_
  refine R_iload_n (pc' := 42) (i := 3) (j := 3) (x := l3) dX0_tryRules_41 rfl rfl rfl ?_
  refine R_iload (pc' := 44) (i := 4) (j := 4) (x := l4) dX0_tryRules_42 rfl rfl ?_
  refine R_iconst (pc' := 45) (x := (nI 1)) dX0_tryRules_44 rfl (by decide) ?_
  refine R_iadd (pc' := 46) (a := l4) (b := (nI 1)) dX0_tryRules_45 rfl ?_
  refine R_iconst (pc' := 47) (x := (nI 5)) dX0_tryRules_46 rfl (by decide) ?_
  refine R_imul (pc' := 48) (a := (l4 + (nI 1))) (b := (nI 5)) dX0_tryRules_47 rfl ?_
  refine R_callV_I (pc' := 51) (q := (some this)) (As := [.int l3, .int ((l4 + (nI 1)) * (nI 5))]) (fun o5 => rm_X0_allNotesHold o5 l3 ((l4 + (nI 1)) * (nI 5)) M) mf_X0_allNotesHold lk_X0_179 im_X0_allNotesHold se_X0_allNotesHold rfl rfl rfl dX0_tryRules_48 rfl (by decide) (Nat.le_trans c_0 (by decide)) (fun r1 M => ?_)
  refine R_istore (pc' := 53) (L' := [(5, .int r1), (0, va_rf (some this)), (1, va_rf l1), (2, .int l2), (3, .int l3), (4, .int l4)]) (i := 5) (x := r1) dX0_tryRules_51 rfl (by decide) rfl ?_
  refine R_aloadq_n (pc' := 54) (i := 0) (j := 1) (q := (some this)) dX0_tryRules_53 rfl rfl rfl ?_
  refine R_getR (pc' := 57) (q := (some this)) fl_X0_26 rfl dX0_tryRules_54 rfl (fun isSo2 => ?_)
  refine R_iload (pc' := 59) (i := 4) (j := 5) (x := l4) dX0_tryRules_57 rfl rfl ?_
  refine R_iconst (pc' := 60) (x := (nI 1)) dX0_tryRules_59 rfl (by decide) ?_
  refine R_iadd (pc' := 61) (a := l4) (b := (nI 1)) dX0_tryRules_60 rfl ?_
  refine R_iload (pc' := 63) (i := 5) (j := 0) (x := r1) dX0_tryRules_61 rfl rfl ?_
  refine R_zast (pc' := 64) (q := isSo2) (i := (l4 + (nI 1))) (x := r1) dX0_tryRules_63 rfl (fun M => ?_)
  refine R_iload (pc' := 66) (i := 5) (j := 0) (x := r1) dX0_tryRules_64 rfl rfl ?_
  refine R_if_eq (pc' := 69) (tgt := 99) (a := r1) dX0_tryRules_66 (by decide) rfl ?_ ?_
  · exact R_sub [1, 2, 3, 4, 5] rfl (rf_X0_tryRules_J99 this k13 hk13 l1 l2 l3 l4 M)
  · refine R_aloadq_n (pc' := 70) (i := 0) (j := 1) (q := (some this)) dX0_tryRules_69 rfl rfl rfl ?_
    refine R_aloadq_n (pc' := 71) (i := 0) (j := 1) (q := (some this)) dX0_tryRules_70 rfl rfl rfl ?_
    refine R_getI (pc' := 74) (q := (some this)) fl_X0_65 rfl dX0_tryRules_71 rfl (fun amount3 => ?_)
    refine R_if_ne (pc' := 77) (tgt := 82) (a := amount3) dX0_tryRules_74 (by decide) rfl ?_ ?_
    · refine R_aloadq_n (pc' := 83) (i := 0) (j := 1) (q := (some this)) dX0_tryRules_82 rfl rfl rfl ?_
      refine R_getI (pc' := 86) (q := (some this)) fl_X0_75 rfl dX0_tryRules_83 rfl (fun first4 => ?_)
      exact R_sub [1, 2, 3, 4, 5] rfl (rf_X0_tryRules_J86 this k13 hk13 l1 l2 l3 l4 first4 (some this) M)
    · refine R_iload (pc' := 79) (i := 4) (j := 5) (x := l4) dX0_tryRules_77 rfl rfl ?_
      refine R_goto (tgt := 86) dX0_tryRules_79 (by decide) ?_
      exact R_sub [1, 2, 3, 4, 5] rfl (rf_X0_tryRules_J86 this k13 hk13 l1 l2 l3 l4 l4 (some this) M)
def f_X0_tryRules_L13 (this : Nat) : Nat → Option Nat → Int32 → Int32 → Int32 → Mem → Option (Unit × Mem)
  | 0, _, _, _, _, _ => none
  | n + 1, l1, l2, l3, l4, M =>
    (if l2 ≤ l4 then
      (some ((), M))
    else
      ((gR M 0 6 (some this)).bind fun pilot1 =>
      (if l4 = (-1 : Int32) then
        (f_X0_tryRules_J37 (f_X0_tryRules_L13 this n) this l1 l2 l3 l4 none pilot1 M)
      else
        ((aR M 4 l1 l4).bind fun e2 =>
        f_X0_tryRules_J37 (f_X0_tryRules_L13 this n) this l1 l2 l3 l4 e2 pilot1 M))))
set_option maxHeartbeats 2000000 in
set_option maxRecDepth 20000 in
theorem rf_X0_tryRules_L13 (this : Nat) : ∀ (n : Nat) (l1 : Option Nat) (l2 : Int32) (l3 : Int32) (l4 : Int32) (M : Mem), RF yX0_tryRules cX0_tryRules 6 none 7 eV (f_X0_tryRules_L13 this n l1 l2 l3 l4 M) 13 [(0, va_rf (some this)), (1, va_rf l1), (2, .int l2), (3, .int l3), (4, .int l4)] [] M := by
  intro n
  induction n with
  | zero => intro _ _ _ _ _; exact RF.none
  | succ n ih =>
    intro l1 l2 l3 l4 M
    rw [f_X0_tryRules_L13]
    refine R_iload (pc' := 15) (i := 4) (j := 4) (x := l4) dX0_tryRules_13 rfl rfl ?_
    refine R_iload_n (pc' := 16) (i := 2) (j := 2) (x := l2) dX0_tryRules_15 rfl rfl rfl ?_
    refine R_icmp_ge (pc' := 19) (tgt := 105) (a := l4) (b := l2) dX0_tryRules_16 (by decide) rfl ?_ ?_
    · exact R_vret dX0_tryRules_105
    · refine R_aloadq_n (pc' := 20) (i := 0) (j := 0) (q := (some this)) dX0_tryRules_19 rfl rfl rfl ?_
      refine R_getR (pc' := 23) (q := (some this)) fl_X0_44 rfl dX0_tryRules_20 rfl (fun pilot1 => ?_)
      refine R_iload (pc' := 25) (i := 4) (j := 4) (x := l4) dX0_tryRules_23 rfl rfl ?_
      refine R_iconst (pc' := 26) (x := (-1 : Int32)) dX0_tryRules_25 rfl (by decide) ?_
      refine R_icmp_ne (pc' := 29) (tgt := 33) (a := l4) (b := (-1 : Int32)) dX0_tryRules_26 (by decide) rfl ?_ ?_
      · refine R_aloadq_n (pc' := 34) (i := 1) (j := 1) (q := l1) dX0_tryRules_33 rfl rfl rfl ?_
        refine R_iload (pc' := 36) (i := 4) (j := 4) (x := l4) dX0_tryRules_34 rfl rfl ?_
        refine R_aald (pc' := 37) (q := l1) (i := l4) (by decide) rfl dX0_tryRules_36 rfl (fun e2 => ?_)
        exact R_sub [0, 1, 2, 3, 4] rfl (rf_X0_tryRules_J37 this (f_X0_tryRules_L13 this n) ih l1 l2 l3 l4 e2 pilot1 M)
      · refine R_anull (pc' := 30) dX0_tryRules_29 rfl ?_
        refine R_goto (tgt := 37) dX0_tryRules_30 (by decide) ?_
        exact R_sub [0, 1, 2, 3, 4] rfl (rf_X0_tryRules_J37 this (f_X0_tryRules_L13 this n) ih l1 l2 l3 l4 none pilot1 M)
def f_X0_tryRules (this : Nat) (l1 : Option Nat) (l2 : Int32) (l3 : Int32) (M : Mem) : Option (Unit × Mem) :=
  (pI M 0 0 (some this) (nI 0)).bind fun M =>
  (pI M 0 1 (some this) (-1 : Int32)).bind fun M =>
  f_X0_tryRules_L13 this FU l1 l2 l3 (-1 : Int32) M
set_option maxHeartbeats 2000000 in
set_option maxRecDepth 20000 in
theorem rm_X0_tryRules (this : Nat) (l1 : Option Nat) (l2 : Int32) (l3 : Int32) (M : Mem) : RFm yX0_tryRules cX0_tryRules 6 none 7 eV (f_X0_tryRules this l1 l2 l3 M) [va_rf (some this), va_rf l1, .int l2, .int l3] M := by
  refine RFm_of (L := [(0, va_rf (some this)), (1, va_rf l1), (2, .int l2), (3, .int l3)]) (by decide) (by simp only [lva_R, lva_I, lva_L, lva_C, lva_0]) (Nat.le_trans (c_R (c_R (c_I (c_I c_0)))) (by decide)) ?_
  rw [f_X0_tryRules]
  refine R_aloadq_n (pc' := 1) (i := 0) (j := 0) (q := (some this)) dX0_tryRules_0 rfl rfl rfl ?_
  refine R_iconst (pc' := 2) (x := (nI 0)) dX0_tryRules_1 rfl (by decide) ?_
  refine R_putI (pc' := 5) (q := (some this)) (x := (nI 0)) fl_X0_65 (Or.inl rfl) dX0_tryRules_2 rfl (fun M => ?_)
  refine R_aloadq_n (pc' := 6) (i := 0) (j := 0) (q := (some this)) dX0_tryRules_5 rfl rfl rfl ?_
  refine R_iconst (pc' := 7) (x := (-1 : Int32)) dX0_tryRules_6 rfl (by decide) ?_
  refine R_putI (pc' := 10) (q := (some this)) (x := (-1 : Int32)) fl_X0_75 (Or.inl rfl) dX0_tryRules_7 rfl (fun M => ?_)
  refine R_iconst (pc' := 11) (x := (-1 : Int32)) dX0_tryRules_10 rfl (by decide) ?_
  refine R_istore (pc' := 13) (L' := [(4, .int (-1 : Int32)), (0, va_rf (some this)), (1, va_rf l1), (2, .int l2), (3, .int l3)]) (i := 4) (x := (-1 : Int32)) dX0_tryRules_11 rfl (by decide) rfl ?_
  exact R_sub [1, 2, 3, 4, 0] rfl (rf_X0_tryRules_L13 this FU l1 l2 l3 (-1 : Int32) M)
/-! BarPilot$Asker.howManyTellAs(III)I -/
def f_X0_howManyTellAs_J64 (this : Nat) (l4 : Int32) (M : Mem) : Option (Int32 × Mem) :=
  some (l4, M)
set_option maxHeartbeats 2000000 in
set_option maxRecDepth 20000 in
theorem rf_X0_howManyTellAs_J64 (this : Nat) (l4 : Int32) (M : Mem) : RF yX0_howManyTellAs cX0_howManyTellAs 6 (some .int) 1 eI (f_X0_howManyTellAs_J64 this l4 M) 64 [(4, .int l4)] [] M := by
  rw [f_X0_howManyTellAs_J64]
  refine R_iload (pc' := 66) (i := 4) (j := 0) (x := l4) dX0_howManyTellAs_64 rfl rfl ?_
  exact R_iret dX0_howManyTellAs_66
def f_X0_howManyTellAs_J58 (k6 : Int32 → Int32 → Int32 → Int32 → Int32 → Mem → Option (Int32 × Mem)) (this : Nat) (l1 : Int32) (l2 : Int32) (l3 : Int32) (l4 : Int32) (l5 : Int32) (M : Mem) : Option (Int32 × Mem) :=
  k6 l1 l2 l3 l4 (l5 + (nI 1)) M
set_option maxHeartbeats 2000000 in
set_option maxRecDepth 20000 in
theorem rf_X0_howManyTellAs_J58 (this : Nat) (k6 : Int32 → Int32 → Int32 → Int32 → Int32 → Mem → Option (Int32 × Mem)) (hk6 : ∀ (l1 : Int32) (l2 : Int32) (l3 : Int32) (l4 : Int32) (l5 : Int32) (M : Mem), RF yX0_howManyTellAs cX0_howManyTellAs 6 (some .int) 1 eI (k6 l1 l2 l3 l4 l5 M) 6 [(0, va_rf (some this)), (1, .int l1), (2, .int l2), (3, .int l3), (4, .int l4), (5, .int l5)] [] M) (l1 : Int32) (l2 : Int32) (l3 : Int32) (l4 : Int32) (l5 : Int32) (M : Mem) : RF yX0_howManyTellAs cX0_howManyTellAs 6 (some .int) 1 eI (f_X0_howManyTellAs_J58 k6 this l1 l2 l3 l4 l5 M) 58 [(0, va_rf (some this)), (1, .int l1), (2, .int l2), (3, .int l3), (4, .int l4), (5, .int l5)] [] M := by
  rw [f_X0_howManyTellAs_J58]
  refine R_iinc (pc' := 61) (L' := [(5, .int (l5 + (nI 1))), (0, va_rf (some this)), (1, .int l1), (2, .int l2), (3, .int l3), (4, .int l4)]) (i := 5) (j := 5) (x := l5) (x2 := (l5 + (nI 1))) dX0_howManyTellAs_58 rfl rfl rfl (by decide) rfl ?_
  refine R_goto (tgt := 6) dX0_howManyTellAs_61 (by decide) ?_
  exact R_sub [1, 2, 3, 4, 5, 0] rfl (hk6 l1 l2 l3 l4 (l5 + (nI 1)) M)
def f_X0_howManyTellAs_L6 (this : Nat) : Nat → Int32 → Int32 → Int32 → Int32 → Int32 → Mem → Option (Int32 × Mem)
  | 0, _, _, _, _, _, _ => none
  | n + 1, l1, l2, l3, l4, l5, M =>
    (gR M 0 9 (some this)).bind fun isSo1 =>
    (aI M 2 isSo1 l1).bind fun e2 =>
    (if e2 = 0 then
      (f_X0_howManyTellAs_J64 this l4 M)
    else
      ((if l2 < l5 then
        (f_X0_howManyTellAs_J64 this l4 M)
      else
        ((gR M 0 9 (some this)).bind fun isSo3 =>
        (aI M 2 isSo3 l5).bind fun e4 =>
        (if e4 = 0 then
          (f_X0_howManyTellAs_J58 (f_X0_howManyTellAs_L6 this n) this l1 l2 l3 l4 l5 M)
        else
          ((gR M 0 10 (some this)).bind fun tells5 =>
          (aI M 0 tells5 ((l5 * (nI 5)) + l3)).bind fun e6 =>
          (gR M 0 10 (some this)).bind fun tells7 =>
          (aI M 0 tells7 ((l1 * (nI 5)) + l3)).bind fun e8 =>
          (if e6 = e8 then
            (f_X0_howManyTellAs_J58 (f_X0_howManyTellAs_L6 this n) this l1 l2 l3 (l4 + (nI 1)) l5 M)
          else
            (f_X0_howManyTellAs_J58 (f_X0_howManyTellAs_L6 this n) this l1 l2 l3 l4 l5 M))))))))
set_option maxHeartbeats 2000000 in
set_option maxRecDepth 20000 in
theorem rf_X0_howManyTellAs_L6 (this : Nat) : ∀ (n : Nat) (l1 : Int32) (l2 : Int32) (l3 : Int32) (l4 : Int32) (l5 : Int32) (M : Mem), RF yX0_howManyTellAs cX0_howManyTellAs 6 (some .int) 1 eI (f_X0_howManyTellAs_L6 this n l1 l2 l3 l4 l5 M) 6 [(0, va_rf (some this)), (1, .int l1), (2, .int l2), (3, .int l3), (4, .int l4), (5, .int l5)] [] M := by
  intro n
  induction n with
  | zero => intro _ _ _ _ _ _; exact RF.none
  | succ n ih =>
    intro l1 l2 l3 l4 l5 M
    rw [f_X0_howManyTellAs_L6]
    refine R_aloadq_n (pc' := 7) (i := 0) (j := 0) (q := (some this)) dX0_howManyTellAs_6 rfl rfl rfl ?_
    refine R_getR (pc' := 10) (q := (some this)) fl_X0_26 rfl dX0_howManyTellAs_7 rfl (fun isSo1 => ?_)
    refine R_iload_n (pc' := 11) (i := 1) (j := 1) (x := l1) dX0_howManyTellAs_10 rfl rfl rfl ?_
    refine R_zald (pc' := 12) (q := isSo1) (i := l1) dX0_howManyTellAs_11 rfl (fun e2 => ?_)
    refine R_if_eq (pc' := 15) (tgt := 64) (a := e2) dX0_howManyTellAs_12 (by decide) rfl ?_ ?_
    · exact R_sub [4] rfl (rf_X0_howManyTellAs_J64 this l4 M)
    · refine R_iload (pc' := 17) (i := 5) (j := 5) (x := l5) dX0_howManyTellAs_15 rfl rfl ?_
      refine R_iload_n (pc' := 18) (i := 2) (j := 2) (x := l2) dX0_howManyTellAs_17 rfl rfl rfl ?_
      refine R_icmp_gt (pc' := 21) (tgt := 64) (a := l5) (b := l2) dX0_howManyTellAs_18 (by decide) rfl ?_ ?_
      · exact R_sub [4] rfl (rf_X0_howManyTellAs_J64 this l4 M)
      · refine R_aloadq_n (pc' := 22) (i := 0) (j := 0) (q := (some this)) dX0_howManyTellAs_21 rfl rfl rfl ?_
        refine R_getR (pc' := 25) (q := (some this)) fl_X0_26 rfl dX0_howManyTellAs_22 rfl (fun isSo3 => ?_)
        refine R_iload (pc' := 27) (i := 5) (j := 5) (x := l5) dX0_howManyTellAs_25 rfl rfl ?_
        refine R_zald (pc' := 28) (q := isSo3) (i := l5) dX0_howManyTellAs_27 rfl (fun e4 => ?_)
        refine R_if_eq (pc' := 31) (tgt := 58) (a := e4) dX0_howManyTellAs_28 (by decide) rfl ?_ ?_
        · exact R_sub [0, 1, 2, 3, 4, 5] rfl (rf_X0_howManyTellAs_J58 this (f_X0_howManyTellAs_L6 this n) ih l1 l2 l3 l4 l5 M)
        · refine R_aloadq_n (pc' := 32) (i := 0) (j := 0) (q := (some this)) dX0_howManyTellAs_31 rfl rfl rfl ?_
          refine R_getR (pc' := 35) (q := (some this)) fl_X0_30 rfl dX0_howManyTellAs_32 rfl (fun tells5 => ?_)
          refine R_iload (pc' := 37) (i := 5) (j := 5) (x := l5) dX0_howManyTellAs_35 rfl rfl ?_
          refine R_iconst (pc' := 38) (x := (nI 5)) dX0_howManyTellAs_37 rfl (by decide) ?_
          refine R_imul (pc' := 39) (a := l5) (b := (nI 5)) dX0_howManyTellAs_38 rfl ?_
          refine R_iload_n (pc' := 40) (i := 3) (j := 3) (x := l3) dX0_howManyTellAs_39 rfl rfl rfl ?_
          refine R_iadd (pc' := 41) (a := (l5 * (nI 5))) (b := l3) dX0_howManyTellAs_40 rfl ?_
          refine R_iald (pc' := 42) (q := tells5) (i := ((l5 * (nI 5)) + l3)) dX0_howManyTellAs_41 rfl (fun e6 => ?_)
          refine R_aloadq_n (pc' := 43) (i := 0) (j := 0) (q := (some this)) dX0_howManyTellAs_42 rfl rfl rfl ?_
          refine R_getR (pc' := 46) (q := (some this)) fl_X0_30 rfl dX0_howManyTellAs_43 rfl (fun tells7 => ?_)
          refine R_iload_n (pc' := 47) (i := 1) (j := 1) (x := l1) dX0_howManyTellAs_46 rfl rfl rfl ?_
          refine R_iconst (pc' := 48) (x := (nI 5)) dX0_howManyTellAs_47 rfl (by decide) ?_
          refine R_imul (pc' := 49) (a := l1) (b := (nI 5)) dX0_howManyTellAs_48 rfl ?_
          refine R_iload_n (pc' := 50) (i := 3) (j := 3) (x := l3) dX0_howManyTellAs_49 rfl rfl rfl ?_
          refine R_iadd (pc' := 51) (a := (l1 * (nI 5))) (b := l3) dX0_howManyTellAs_50 rfl ?_
          refine R_iald (pc' := 52) (q := tells7) (i := ((l1 * (nI 5)) + l3)) dX0_howManyTellAs_51 rfl (fun e8 => ?_)
          refine R_icmp_ne (pc' := 55) (tgt := 58) (a := e6) (b := e8) dX0_howManyTellAs_52 (by decide) rfl ?_ ?_
          · exact R_sub [0, 1, 2, 3, 4, 5] rfl (rf_X0_howManyTellAs_J58 this (f_X0_howManyTellAs_L6 this n) ih l1 l2 l3 l4 l5 M)
          · refine R_iinc (pc' := 58) (L' := [(4, .int (l4 + (nI 1))), (0, va_rf (some this)), (1, .int l1), (2, .int l2), (3, .int l3), (5, .int l5)]) (i := 4) (j := 4) (x := l4) (x2 := (l4 + (nI 1))) dX0_howManyTellAs_55 rfl rfl rfl (by decide) rfl ?_
            exact R_sub [1, 2, 3, 4, 0, 5] rfl (rf_X0_howManyTellAs_J58 this (f_X0_howManyTellAs_L6 this n) ih l1 l2 l3 (l4 + (nI 1)) l5 M)
def f_X0_howManyTellAs (this : Nat) (l1 : Int32) (l2 : Int32) (l3 : Int32) (M : Mem) : Option (Int32 × Mem) :=
  f_X0_howManyTellAs_L6 this FU l1 l2 l3 (nI 0) (nI 0) M
set_option maxHeartbeats 2000000 in
set_option maxRecDepth 20000 in
theorem rm_X0_howManyTellAs (this : Nat) (l1 : Int32) (l2 : Int32) (l3 : Int32) (M : Mem) : RFm yX0_howManyTellAs cX0_howManyTellAs 6 (some .int) 1 eI (f_X0_howManyTellAs this l1 l2 l3 M) [va_rf (some this), .int l1, .int l2, .int l3] M := by
  refine RFm_of (L := [(0, va_rf (some this)), (1, .int l1), (2, .int l2), (3, .int l3)]) (by decide) rfl (Nat.le_trans (c_R (c_I (c_I (c_I c_0)))) (by decide)) ?_
  rw [f_X0_howManyTellAs]
  refine R_iconst (pc' := 1) (x := (nI 0)) dX0_howManyTellAs_0 rfl (by decide) ?_
  refine R_istore (pc' := 3) (L' := [(4, .int (nI 0)), (0, va_rf (some this)), (1, .int l1), (2, .int l2), (3, .int l3)]) (i := 4) (x := (nI 0)) dX0_howManyTellAs_1 rfl (by decide) rfl ?_
  refine R_iconst (pc' := 4) (x := (nI 0)) dX0_howManyTellAs_3 rfl (by decide) ?_
  refine R_istore (pc' := 6) (L' := [(5, .int (nI 0)), (4, .int (nI 0)), (0, va_rf (some this)), (1, .int l1), (2, .int l2), (3, .int l3)]) (i := 5) (x := (nI 0)) dX0_howManyTellAs_4 rfl (by decide) rfl ?_
  exact R_sub [2, 3, 4, 5, 1, 0] rfl (rf_X0_howManyTellAs_L6 this FU l1 l2 l3 (nI 0) (nI 0) M)
/-! BarPilot$Asker.findParting(I)V -/
def f_X0_findParting_J72 (k13 : Int32 → Int32 → Mem → Option (Unit × Mem)) (this : Nat) (l1 : Int32) (l2 : Int32) (M : Mem) : Option (Unit × Mem) :=
  k13 l1 (l2 + (nI 1)) M
set_option maxHeartbeats 2000000 in
set_option maxRecDepth 20000 in
theorem rf_X0_findParting_J72 (this : Nat) (k13 : Int32 → Int32 → Mem → Option (Unit × Mem)) (hk13 : ∀ (l1 : Int32) (l2 : Int32) (M : Mem), RF yX0_findParting cX0_findParting 5 none 2 eV (k13 l1 l2 M) 13 [(0, va_rf (some this)), (1, .int l1), (2, .int l2)] [] M) (l1 : Int32) (l2 : Int32) (M : Mem) : RF yX0_findParting cX0_findParting 5 none 2 eV (f_X0_findParting_J72 k13 this l1 l2 M) 72 [(0, va_rf (some this)), (1, .int l1), (2, .int l2)] [] M := by
  rw [f_X0_findParting_J72]
  refine R_iinc (pc' := 75) (L' := [(2, .int (l2 + (nI 1))), (0, va_rf (some this)), (1, .int l1)]) (i := 2) (j := 2) (x := l2) (x2 := (l2 + (nI 1))) dX0_findParting_72 rfl rfl rfl (by decide) rfl ?_
  refine R_goto (tgt := 13) dX0_findParting_75 (by decide) ?_
  exact R_sub [1, 2, 0] rfl (hk13 l1 (l2 + (nI 1)) M)
def f_X0_findParting_L29 (k13 : Int32 → Int32 → Mem → Option (Unit × Mem)) (this : Nat) : Nat → Int32 → Int32 → Int32 → Int32 → Mem → Option (Unit × Mem)
  | 0, _, _, _, _, _ => none
  | n + 1, l1, l2, l3, l4, M =>
    (if l1 < l4 then
      ((gI M 0 0 (some this)).bind fun amount1 =>
      (if amount1 ≤ l3 then
        (f_X0_findParting_J72 k13 this l1 l2 M)
      else
        ((pI M 0 0 (some this) l3).bind fun M =>
        (pI M 0 1 (some this) l2).bind fun M =>
        f_X0_findParting_J72 k13 this l1 l2 M)))
    else
      ((oO M 0 (some this)).bind fun o4 => cl (f_X0_howManyTellAs o4 l4 l1 l2 M) fun r2 M =>
      nm (if l3 < r2 then r2 else l3) fun r3 =>
      (f_X0_findParting_L29 k13 this n) l1 l2 r3 (l4 + (nI 1)) M))
set_option maxHeartbeats 2000000 in
set_option maxRecDepth 20000 in
theorem rf_X0_findParting_L29 (this : Nat) (k13 : Int32 → Int32 → Mem → Option (Unit × Mem)) (hk13 : ∀ (l1 : Int32) (l2 : Int32) (M : Mem), RF yX0_findParting cX0_findParting 5 none 2 eV (k13 l1 l2 M) 13 [(0, va_rf (some this)), (1, .int l1), (2, .int l2)] [] M) : ∀ (n : Nat) (l1 : Int32) (l2 : Int32) (l3 : Int32) (l4 : Int32) (M : Mem), RF yX0_findParting cX0_findParting 5 none 2 eV (f_X0_findParting_L29 k13 this n l1 l2 l3 l4 M) 29 [(0, va_rf (some this)), (1, .int l1), (2, .int l2), (3, .int l3), (4, .int l4)] [] M := by
  intro n
  induction n with
  | zero => intro _ _ _ _ _; exact RF.none
  | succ n ih =>
    intro l1 l2 l3 l4 M
    rw [f_X0_findParting_L29]
    refine R_iload (pc' := 31) (i := 4) (j := 4) (x := l4) dX0_findParting_29 rfl rfl ?_
    refine R_iload_n (pc' := 32) (i := 1) (j := 1) (x := l1) dX0_findParting_31 rfl rfl rfl ?_
    refine R_icmp_gt (pc' := 35) (tgt := 54) (a := l4) (b := l1) dX0_findParting_32 (by decide) rfl ?_ ?_
    · refine R_iload_n (pc' := 55) (i := 3) (j := 3) (x := l3) dX0_findParting_54 rfl rfl rfl ?_
      refine R_aloadq_n (pc' := 56) (i := 0) (j := 0) (q := (some this)) dX0_findParting_55 rfl rfl rfl ?_
      refine R_getI (pc' := 59) (q := (some this)) fl_X0_65 rfl dX0_findParting_56 rfl (fun amount1 => ?_)
      refine R_icmp_ge (pc' := 62) (tgt := 72) (a := l3) (b := amount1) dX0_findParting_59 (by decide) rfl ?_ ?_
      · exact R_sub [0, 1, 2] rfl (rf_X0_findParting_J72 this k13 hk13 l1 l2 M)
      · refine R_aloadq_n (pc' := 63) (i := 0) (j := 0) (q := (some this)) dX0_findParting_62 rfl rfl rfl ?_
        refine R_iload_n (pc' := 64) (i := 3) (j := 3) (x := l3) dX0_findParting_63 rfl rfl rfl ?_
        refine R_putI (pc' := 67) (q := (some this)) (x := l3) fl_X0_65 (Or.inl rfl) dX0_findParting_64 rfl (fun M => ?_)
        refine R_aloadq_n (pc' := 68) (i := 0) (j := 0) (q := (some this)) dX0_findParting_67 rfl rfl rfl ?_
        refine R_iload_n (pc' := 69) (i := 2) (j := 2) (x := l2) dX0_findParting_68 rfl rfl rfl ?_
        refine R_putI (pc' := 72) (q := (some this)) (x := l2) fl_X0_75 (Or.inl rfl) dX0_findParting_69 rfl (fun M => ?_)
        exact R_sub [0, 1, 2] rfl (rf_X0_findParting_J72 this k13 hk13 l1 l2 M)
    · refine R_iload_n (pc' := 36) (i := 3) (j := 3) (x := l3) dX0_findParting_35 rfl rfl rfl ?_
      refine R_aloadq_n (pc' := 37) (i := 0) (j := 0) (q := (some this)) dX0_findParting_36 rfl rfl rfl ?_
      refine R_iload (pc' := 39) (i := 4) (j := 4) (x := l4) dX0_findParting_37 rfl rfl ?_
      refine R_iload_n (pc' := 40) (i := 1) (j := 1) (x := l1) dX0_findParting_39 rfl rfl rfl ?_
      refine R_iload_n (pc' := 41) (i := 2) (j := 2) (x := l2) dX0_findParting_40 rfl rfl rfl ?_
      refine R_callV_I (pc' := 44) (q := (some this)) (As := [.int l4, .int l1, .int l2]) (fun o4 => rm_X0_howManyTellAs o4 l4 l1 l2 M) mf_X0_howManyTellAs lk_X0_204 im_X0_howManyTellAs se_X0_howManyTellAs rfl rfl rfl dX0_findParting_41 rfl (by decide) (Nat.le_trans (c_I c_0) (by decide)) (fun r2 M => ?_)
      refine R_mmax (pc' := 47) (a := l3) (b := r2) lk_X0_155 dX0_findParting_44 rfl (by decide) (Nat.le_trans c_0 (by decide)) ?_
      refine R_nmI (fun r3 => ?_)
      refine R_istore_n (pc' := 48) (L' := [(3, .int r3), (0, va_rf (some this)), (1, .int l1), (2, .int l2), (4, .int l4)]) (i := 3) (x := r3) dX0_findParting_47 rfl rfl (by decide) rfl ?_
      refine R_iinc (pc' := 51) (L' := [(4, .int (l4 + (nI 1))), (3, .int r3), (0, va_rf (some this)), (1, .int l1), (2, .int l2)]) (i := 4) (j := 4) (x := l4) (x2 := (l4 + (nI 1))) dX0_findParting_48 rfl rfl rfl (by decide) rfl ?_
      refine R_goto (tgt := 29) dX0_findParting_51 (by decide) ?_
      exact R_sub [2, 3, 4, 1, 0] rfl (ih l1 l2 r3 (l4 + (nI 1)) M)
def f_X0_findParting_L13 (this : Nat) : Nat → Int32 → Int32 → Mem → Option (Unit × Mem)
  | 0, _, _, _ => none
  | n + 1, l1, l2, M =>
    (gR M 0 5 (some this)).bind fun told1 =>
    (gI M 8 4 told1).bind fun ships2 =>
    (if ships2 ≤ l2 then
      (some ((), M))
    else
      (f_X0_findParting_L29 (f_X0_findParting_L13 this n) this FU l1 l2 (nI 0) (nI 0) M))
set_option maxHeartbeats 2000000 in
set_option maxRecDepth 20000 in
theorem rf_X0_findParting_L13 (this : Nat) : ∀ (n : Nat) (l1 : Int32) (l2 : Int32) (M : Mem), RF yX0_findParting cX0_findParting 5 none 2 eV (f_X0_findParting_L13 this n l1 l2 M) 13 [(0, va_rf (some this)), (1, .int l1), (2, .int l2)] [] M := by
  intro n
  induction n with
  | zero => intro _ _ _; exact RF.none
  | succ n ih =>
    intro l1 l2 M
    rw [f_X0_findParting_L13]
    refine R_iload_n (pc' := 14) (i := 2) (j := 2) (x := l2) dX0_findParting_13 rfl rfl rfl ?_
    refine R_aloadq_n (pc' := 15) (i := 0) (j := 0) (q := (some this)) dX0_findParting_14 rfl rfl rfl ?_
    refine R_getR (pc' := 18) (q := (some this)) fl_X0_43 rfl dX0_findParting_15 rfl (fun told1 => ?_)
    refine R_getI (pc' := 21) (q := told1) fl_X0_82 rfl dX0_findParting_18 rfl (fun ships2 => ?_)
    refine R_icmp_ge (pc' := 24) (tgt := 78) (a := l2) (b := ships2) dX0_findParting_21 (by decide) rfl ?_ ?_
    · exact R_vret dX0_findParting_78
    · refine R_iconst (pc' := 25) (x := (nI 0)) dX0_findParting_24 rfl (by decide) ?_
      refine R_istore_n (pc' := 26) (L' := [(3, .int (nI 0)), (0, va_rf (some this)), (1, .int l1), (2, .int l2)]) (i := 3) (x := (nI 0)) dX0_findParting_25 rfl rfl (by decide) rfl ?_
      refine R_iconst (pc' := 27) (x := (nI 0)) dX0_findParting_26 rfl (by decide) ?_
      refine R_istore (pc' := 29) (L' := [(4, .int (nI 0)), (3, .int (nI 0)), (0, va_rf (some this)), (1, .int l1), (2, .int l2)]) (i := 4) (x := (nI 0)) dX0_findParting_27 rfl (by decide) rfl ?_
      exact R_sub [2, 3, 4, 1, 0] rfl (rf_X0_findParting_L29 this (f_X0_findParting_L13 this n) ih FU l1 l2 (nI 0) (nI 0) M)
def f_X0_findParting (this : Nat) (l1 : Int32) (M : Mem) : Option (Unit × Mem) :=
  (pI M 0 1 (some this) (-1 : Int32)).bind fun M =>
  (pI M 0 0 (some this) (nI 2147483647)).bind fun M =>
  f_X0_findParting_L13 this FU l1 (nI 0) M
set_option maxHeartbeats 2000000 in
set_option maxRecDepth 20000 in
theorem rm_X0_findParting (this : Nat) (l1 : Int32) (M : Mem) : RFm yX0_findParting cX0_findParting 5 none 2 eV (f_X0_findParting this l1 M) [va_rf (some this), .int l1] M := by
  refine RFm_of (L := [(0, va_rf (some this)), (1, .int l1)]) (by decide) rfl (Nat.le_trans (c_R (c_I c_0)) (by decide)) ?_
  rw [f_X0_findParting]
  refine R_aloadq_n (pc' := 1) (i := 0) (j := 0) (q := (some this)) dX0_findParting_0 rfl rfl rfl ?_
  refine R_iconst (pc' := 2) (x := (-1 : Int32)) dX0_findParting_1 rfl (by decide) ?_
  refine R_putI (pc' := 5) (q := (some this)) (x := (-1 : Int32)) fl_X0_75 (Or.inl rfl) dX0_findParting_2 rfl (fun M => ?_)
  refine R_aloadq_n (pc' := 6) (i := 0) (j := 0) (q := (some this)) dX0_findParting_5 rfl rfl rfl ?_
  refine R_ldc (pc' := 8) (x := (nI 2147483647)) dX0_findParting_6 rfl co_X0_94 ?_
  refine R_putI (pc' := 11) (q := (some this)) (x := (nI 2147483647)) fl_X0_65 (Or.inl rfl) dX0_findParting_8 rfl (fun M => ?_)
  refine R_iconst (pc' := 12) (x := (nI 0)) dX0_findParting_11 rfl (by decide) ?_
  refine R_istore_n (pc' := 13) (L' := [(2, .int (nI 0)), (0, va_rf (some this)), (1, .int l1)]) (i := 2) (x := (nI 0)) dX0_findParting_12 rfl rfl (by decide) rfl ?_
  exact R_sub [1, 2, 0] rfl (rf_X0_findParting_L13 this FU l1 (nI 0) M)
/-! BarPilot$Asker.draw()I -/
def f_X0_draw (this : Nat) (M : Mem) : Option (Int32 × Mem) :=
  (gI M 0 11 (some this)).bind fun x1 =>
  (pI M 0 11 (some this) (((x1 * (nI 1103515245)) + (nI 12345)) &&& (nI 2147483647))).bind fun M =>
  (gI M 0 11 (some this)).bind fun x2 =>
  if (nI 65536) = 0 then none else
  some ((x2 / (nI 65536)), M)
set_option maxHeartbeats 2000000 in
set_option maxRecDepth 20000 in
theorem rm_X0_draw (this : Nat) (M : Mem) : RFm yX0_draw cX0_draw 1 (some .int) 1 eI (f_X0_draw this M) [va_rf (some this)] M := by
  refine RFm_of (L := [(0, va_rf (some this))]) (by decide) rfl (Nat.le_trans (c_R c_0) (by decide)) ?_
  rw [f_X0_draw]
  refine R_aloadq_n (pc' := 1) (i := 0) (j := 0) (q := (some this)) dX0_draw_0 rfl rfl rfl ?_
  refine R_aloadq_n (pc' := 2) (i := 0) (j := 0) (q := (some this)) dX0_draw_1 rfl rfl rfl ?_
  refine R_getI (pc' := 5) (q := (some this)) fl_X0_211 rfl dX0_draw_2 rfl (fun x1 => ?_)
  refine R_ldc (pc' := 7) (x := (nI 1103515245)) dX0_draw_5 rfl co_X0_218 ?_
  refine R_imul (pc' := 8) (a := x1) (b := (nI 1103515245)) dX0_draw_7 rfl ?_
  refine R_sipush (pc' := 11) (x := (nI 12345)) dX0_draw_8 rfl (by decide) ?_
  refine R_iadd (pc' := 12) (a := (x1 * (nI 1103515245))) (b := (nI 12345)) dX0_draw_11 rfl ?_
  refine R_ldc (pc' := 14) (x := (nI 2147483647)) dX0_draw_12 rfl co_X0_94 ?_
  refine R_iand (pc' := 15) (a := ((x1 * (nI 1103515245)) + (nI 12345))) (b := (nI 2147483647)) dX0_draw_14 rfl ?_
  refine R_putI (pc' := 18) (q := (some this)) (x := (((x1 * (nI 1103515245)) + (nI 12345)) &&& (nI 2147483647))) fl_X0_211 (Or.inl rfl) dX0_draw_15 rfl (fun M => ?_)
  refine R_aloadq_n (pc' := 19) (i := 0) (j := 0) (q := (some this)) dX0_draw_18 rfl rfl rfl ?_
  refine R_getI (pc' := 22) (q := (some this)) fl_X0_211 rfl dX0_draw_19 rfl (fun x2 => ?_)
  refine R_ldc (pc' := 24) (x := (nI 65536)) dX0_draw_22 rfl co_X0_219 ?_
  refine R_idiv (pc' := 25) (a := x2) (b := (nI 65536)) dX0_draw_24 rfl ?_
  exact R_iret dX0_draw_25
/-! BarPilot$Asker.hearParrot(I)V -/
def f_X0_hearParrot_J48 (this : Nat) (M : Mem) : Option (Unit × Mem) :=
  some ((), M)
set_option maxHeartbeats 2000000 in
set_option maxRecDepth 20000 in
theorem rf_X0_hearParrot_J48 (this : Nat) (M : Mem) : RF yX0_hearParrot cX0_hearParrot 2 none 2 eV (f_X0_hearParrot_J48 this M) 48 [] [] M := by
  rw [f_X0_hearParrot_J48]
  exact R_vret dX0_hearParrot_48
def f_X0_hearParrot (this : Nat) (l1 : Int32) (M : Mem) : Option (Unit × Mem) :=
  (oO M 0 (some this)).bind fun o12 => cl (f_X0_draw o12 M) fun r1 M =>
  if (nI 100) = 0 then none else
  (if l1 ≤ (r1 - r1 / (nI 100) * (nI 100)) then
    (f_X0_hearParrot_J48 this M)
  else
    ((gR M 0 5 (some this)).bind fun told2 =>
    (gI M 8 3 told2).bind fun jokes3 =>
    (if jokes3 ≤ 0 then
      (f_X0_hearParrot_J48 this M)
    else
      ((gR M 0 7 (some this)).bind fun work4 =>
      (gR M 6 1 work4).bind fun heard5 =>
      (oO M 0 (some this)).bind fun o11 => cl (f_X0_draw o11 M) fun r6 M =>
      (gR M 0 5 (some this)).bind fun told7 =>
      (gI M 8 3 told7).bind fun jokes8 =>
      if jokes8 = 0 then none else
      (gR M 0 7 (some this)).bind fun work9 =>
      (gI M 6 0 work9).bind fun tide10 =>
      (wI M 0 heard5 (r6 - r6 / jokes8 * jokes8) tide10).bind fun M =>
      f_X0_hearParrot_J48 this M))))
set_option maxHeartbeats 2000000 in
set_option maxRecDepth 20000 in
theorem rm_X0_hearParrot (this : Nat) (l1 : Int32) (M : Mem) : RFm yX0_hearParrot cX0_hearParrot 2 none 2 eV (f_X0_hearParrot this l1 M) [va_rf (some this), .int l1] M := by
  refine RFm_of (L := [(0, va_rf (some this)), (1, .int l1)]) (by decide) rfl (Nat.le_trans (c_R (c_I c_0)) (by decide)) ?_
  rw [f_X0_hearParrot]
  refine R_aloadq_n (pc' := 1) (i := 0) (j := 0) (q := (some this)) dX0_hearParrot_0 rfl rfl rfl ?_
  refine R_callV_I (pc' := 4) (q := (some this)) (As := []) (fun o12 => rm_X0_draw o12 M) mf_X0_draw lk_X0_215 im_X0_draw se_X0_draw rfl rfl rfl dX0_hearParrot_1 rfl (by decide) (Nat.le_trans c_0 (by decide)) (fun r1 M => ?_)
  refine R_bipush (pc' := 6) (x := (nI 100)) dX0_hearParrot_4 rfl (by decide) ?_
  refine R_irem (pc' := 7) (a := r1) (b := (nI 100)) dX0_hearParrot_6 rfl ?_
  refine R_iload_n (pc' := 8) (i := 1) (j := 1) (x := l1) dX0_hearParrot_7 rfl rfl rfl ?_
  refine R_icmp_ge (pc' := 11) (tgt := 48) (a := (r1 - r1 / (nI 100) * (nI 100))) (b := l1) dX0_hearParrot_8 (by decide) rfl ?_ ?_
  · exact R_sub [] rfl (rf_X0_hearParrot_J48 this M)
  · refine R_aloadq_n (pc' := 12) (i := 0) (j := 0) (q := (some this)) dX0_hearParrot_11 rfl rfl rfl ?_
    refine R_getR (pc' := 15) (q := (some this)) fl_X0_43 rfl dX0_hearParrot_12 rfl (fun told2 => ?_)
    refine R_getI (pc' := 18) (q := told2) fl_X0_110 rfl dX0_hearParrot_15 rfl (fun jokes3 => ?_)
    refine R_if_le (pc' := 21) (tgt := 48) (a := jokes3) dX0_hearParrot_18 (by decide) rfl ?_ ?_
    · exact R_sub [] rfl (rf_X0_hearParrot_J48 this M)
    · refine R_aloadq_n (pc' := 22) (i := 0) (j := 0) (q := (some this)) dX0_hearParrot_21 rfl rfl rfl ?_
      refine R_getR (pc' := 25) (q := (some this)) fl_X0_18 rfl dX0_hearParrot_22 rfl (fun work4 => ?_)
      refine R_getR (pc' := 28) (q := work4) fl_X0_123 rfl dX0_hearParrot_25 rfl (fun heard5 => ?_)
      refine R_aloadq_n (pc' := 29) (i := 0) (j := 0) (q := (some this)) dX0_hearParrot_28 rfl rfl rfl ?_
      refine R_callV_I (pc' := 32) (q := (some this)) (As := []) (fun o11 => rm_X0_draw o11 M) mf_X0_draw lk_X0_215 im_X0_draw se_X0_draw rfl rfl rfl dX0_hearParrot_29 rfl (by decide) (Nat.le_trans (c_R c_0) (by decide)) (fun r6 M => ?_)
      refine R_aloadq_n (pc' := 33) (i := 0) (j := 0) (q := (some this)) dX0_hearParrot_32 rfl rfl rfl ?_
      refine R_getR (pc' := 36) (q := (some this)) fl_X0_43 rfl dX0_hearParrot_33 rfl (fun told7 => ?_)
      refine R_getI (pc' := 39) (q := told7) fl_X0_110 rfl dX0_hearParrot_36 rfl (fun jokes8 => ?_)
      refine R_irem (pc' := 40) (a := r6) (b := jokes8) dX0_hearParrot_39 rfl ?_
      refine R_aloadq_n (pc' := 41) (i := 0) (j := 0) (q := (some this)) dX0_hearParrot_40 rfl rfl rfl ?_
      refine R_getR (pc' := 44) (q := (some this)) fl_X0_18 rfl dX0_hearParrot_41 rfl (fun work9 => ?_)
      refine R_getI (pc' := 47) (q := work9) fl_X0_61 rfl dX0_hearParrot_44 rfl (fun tide10 => ?_)
      refine R_iast (pc' := 48) (q := heard5) (i := (r6 - r6 / jokes8 * jokes8)) (x := tide10) dX0_hearParrot_47 rfl (fun M => ?_)
      exact R_sub [] rfl (rf_X0_hearParrot_J48 this M)
/-! BarPilot$Asker.drawYears(III)V -/
def f_X0_drawYears_L47 (k24 : Int32 → Int32 → Int32 → Int32 → Mem → Option (Unit × Mem)) (this : Nat) : Nat → Int32 → Int32 → Int32 → Int32 → Int32 → Mem → Option (Unit × Mem)
  | 0, _, _, _, _, _, _ => none
  | n + 1, l1, l2, l3, l4, l5, M =>
    (if l2 ≤ l5 then
      ((gI M 0 0 (some this)).bind fun amount1 =>
      (gR M 0 5 (some this)).bind fun told2 =>
      (gR M 0 7 (some this)).bind fun work3 =>
      (oO M 8 told2).bind fun o15 => cl (f_X8_earned o15 work3 M) fun r4 M =>
      (gR M 0 5 (some this)).bind fun told5 =>
      (gR M 0 4 (some this)).bind fun book6 =>
      (gR M 2 1 book6).bind fun scene7 =>
      (oO M 8 told5).bind fun o14 => cl (f_X8_earned o14 scene7 M) fun r8 M =>
      (pI M 0 0 (some this) (amount1 + (r4 - r8))).bind fun M =>
      (gI M 0 1 (some this)).bind fun first9 =>
      (gR M 0 5 (some this)).bind fun told10 =>
      (gR M 0 7 (some this)).bind fun work11 =>
      (oO M 8 told10).bind fun o13 => cl (f_X8_passed o13 work11 M) fun r12 M =>
      (pI M 0 1 (some this) (first9 + r12)).bind fun M =>
      k24 l1 l2 l3 (l4 + (nI 1)) M)
    else
      ((oO M 0 (some this)).bind fun o21 => cl (f_X0_hearParrot o21 l3 M) fun u16 M =>
      (gR M 0 6 (some this)).bind fun pilot17 =>
      (gR M 0 7 (some this)).bind fun work18 =>
      (oO M 3 pilot17).bind fun o20 => cl (f_X3_oneTide o20 work18 M) fun r19 M =>
      (f_X0_drawYears_L47 k24 this n) l1 l2 l3 l4 (l5 + (nI 1)) M))
set_option maxHeartbeats 2000000 in
set_option maxRecDepth 20000 in
theorem rf_X0_drawYears_L47 (this : Nat) (k24 : Int32 → Int32 → Int32 → Int32 → Mem → Option (Unit × Mem)) (hk24 : ∀ (l1 : Int32) (l2 : Int32) (l3 : Int32) (l4 : Int32) (M : Mem), RF yX0_drawYears cX0_drawYears 6 none 6 eV (k24 l1 l2 l3 l4 M) 24 [(0, va_rf (some this)), (1, .int l1), (2, .int l2), (3, .int l3), (4, .int l4)] [] M) : ∀ (n : Nat) (l1 : Int32) (l2 : Int32) (l3 : Int32) (l4 : Int32) (l5 : Int32) (M : Mem), RF yX0_drawYears cX0_drawYears 6 none 6 eV (f_X0_drawYears_L47 k24 this n l1 l2 l3 l4 l5 M) 47 [(0, va_rf (some this)), (1, .int l1), (2, .int l2), (3, .int l3), (4, .int l4), (5, .int l5)] [] M := by
  intro n
  induction n with
  | zero => intro _ _ _ _ _ _; exact RF.none
  | succ n ih =>
    intro l1 l2 l3 l4 l5 M
    rw [f_X0_drawYears_L47]
    refine R_iload (pc' := 49) (i := 5) (j := 5) (x := l5) dX0_drawYears_47 rfl rfl ?_
    refine R_iload_n (pc' := 50) (i := 2) (j := 2) (x := l2) dX0_drawYears_49 rfl rfl rfl ?_
    refine R_icmp_ge (pc' := 53) (tgt := 76) (a := l5) (b := l2) dX0_drawYears_50 (by decide) rfl ?_ ?_
    · refine R_aloadq_n (pc' := 77) (i := 0) (j := 0) (q := (some this)) dX0_drawYears_76 rfl rfl rfl ?_
      refine R_dup (pc' := 78) dX0_drawYears_77 rfl (rf_cat _) ?_
      refine R_getI (pc' := 81) (q := (some this)) fl_X0_65 rfl dX0_drawYears_78 rfl (fun amount1 => ?_)
      refine R_aloadq_n (pc' := 82) (i := 0) (j := 0) (q := (some this)) dX0_drawYears_81 rfl rfl rfl ?_
      refine R_getR (pc' := 85) (q := (some this)) fl_X0_43 rfl dX0_drawYears_82 rfl (fun told2 => ?_)
      refine R_aloadq_n (pc' := 86) (i := 0) (j := 0) (q := (some this)) dX0_drawYears_85 rfl rfl rfl ?_
      refine R_getR (pc' := 89) (q := (some this)) fl_X0_18 rfl dX0_drawYears_86 rfl (fun work3 => ?_)
      refine R_callV_I (pc' := 92) (q := told2) (As := [va_rf work3]) (fun o15 => rm_X8_earned o15 work3 M) mf_X8_earned lk_X0_127 im_X8_earned se_X8_earned rfl rfl rfl dX0_drawYears_89 rfl (by decide) (Nat.le_trans (c_I (c_R c_0)) (by decide)) (fun r4 M => ?_)
      refine R_aloadq_n (pc' := 93) (i := 0) (j := 0) (q := (some this)) dX0_drawYears_92 rfl rfl rfl ?_
      refine R_getR (pc' := 96) (q := (some this)) fl_X0_43 rfl dX0_drawYears_93 rfl (fun told5 => ?_)
      refine R_aloadq_n (pc' := 97) (i := 0) (j := 0) (q := (some this)) dX0_drawYears_96 rfl rfl rfl ?_
      refine R_getR (pc' := 100) (q := (some this)) fl_X0_33 rfl dX0_drawYears_97 rfl (fun book6 => ?_)
      refine R_getR (pc' := 103) (q := book6) fl_X0_48 rfl dX0_drawYears_100 rfl (fun scene7 => ?_)
      refine R_callV_I (pc' := 106) (q := told5) (As := [va_rf scene7]) (fun o14 => rm_X8_earned o14 scene7 M) mf_X8_earned lk_X0_127 im_X8_earned se_X8_earned rfl rfl rfl dX0_drawYears_103 rfl (by decide) (Nat.le_trans (c_I (c_I (c_R c_0))) (by decide)) (fun r8 M => ?_)
      refine R_isub (pc' := 107) (a := r4) (b := r8) dX0_drawYears_106 rfl ?_
      refine R_iadd (pc' := 108) (a := amount1) (b := (r4 - r8)) dX0_drawYears_107 rfl ?_
      refine R_putI (pc' := 111) (q := (some this)) (x := (amount1 + (r4 - r8))) fl_X0_65 (Or.inl rfl) dX0_drawYears_108 rfl (fun M => ?_)
      refine R_aloadq_n (pc' := 112) (i := 0) (j := 0) (q := (some this)) dX0_drawYears_111 rfl rfl rfl ?_
      refine R_dup (pc' := 113) dX0_drawYears_112 rfl (rf_cat _) ?_
      refine R_getI (pc' := 116) (q := (some this)) fl_X0_75 rfl dX0_drawYears_113 rfl (fun first9 => ?_)
      refine R_aloadq_n (pc' := 117) (i := 0) (j := 0) (q := (some this)) dX0_drawYears_116 rfl rfl rfl ?_
      refine R_getR (pc' := 120) (q := (some this)) fl_X0_43 rfl dX0_drawYears_117 rfl (fun told10 => ?_)
      refine R_aloadq_n (pc' := 121) (i := 0) (j := 0) (q := (some this)) dX0_drawYears_120 rfl rfl rfl ?_
      refine R_getR (pc' := 124) (q := (some this)) fl_X0_18 rfl dX0_drawYears_121 rfl (fun work11 => ?_)
      refine R_callV_I (pc' := 127) (q := told10) (As := [va_rf work11]) (fun o13 => rm_X8_passed o13 work11 M) mf_X8_passed lk_X0_168 im_X8_passed se_X8_passed rfl rfl rfl dX0_drawYears_124 rfl (by decide) (Nat.le_trans (c_I (c_R c_0)) (by decide)) (fun r12 M => ?_)
      refine R_iadd (pc' := 128) (a := first9) (b := r12) dX0_drawYears_127 rfl ?_
      refine R_putI (pc' := 131) (q := (some this)) (x := (first9 + r12)) fl_X0_75 (Or.inl rfl) dX0_drawYears_128 rfl (fun M => ?_)
      refine R_iinc (pc' := 134) (L' := [(4, .int (l4 + (nI 1))), (0, va_rf (some this)), (1, .int l1), (2, .int l2), (3, .int l3), (5, .int l5)]) (i := 4) (j := 4) (x := l4) (x2 := (l4 + (nI 1))) dX0_drawYears_131 rfl rfl rfl (by decide) rfl ?_
      refine R_goto (tgt := 24) dX0_drawYears_134 (by decide) ?_
      exact R_sub [1, 2, 3, 4, 0] rfl (hk24 l1 l2 l3 (l4 + (nI 1)) M)
    · refine R_aloadq_n (pc' := 54) (i := 0) (j := 0) (q := (some this)) dX0_drawYears_53 rfl rfl rfl ?_
      refine R_iload_n (pc' := 55) (i := 3) (j := 3) (x := l3) dX0_drawYears_54 rfl rfl rfl ?_
      refine R_callV_V (pc' := 58) (q := (some this)) (As := [.int l3]) (fun o21 => rm_X0_hearParrot o21 l3 M) mf_X0_hearParrot lk_X0_212 im_X0_hearParrot se_X0_hearParrot rfl rfl rfl dX0_drawYears_55 rfl (by decide) (Nat.le_trans c_0 (by decide)) (fun u16 M => ?_)
      refine R_aloadq_n (pc' := 59) (i := 0) (j := 0) (q := (some this)) dX0_drawYears_58 rfl rfl rfl ?_
      refine R_getR (pc' := 62) (q := (some this)) fl_X0_44 rfl dX0_drawYears_59 rfl (fun pilot17 => ?_)
      refine R_aloadq_n (pc' := 63) (i := 0) (j := 0) (q := (some this)) dX0_drawYears_62 rfl rfl rfl ?_
      refine R_getR (pc' := 66) (q := (some this)) fl_X0_18 rfl dX0_drawYears_63 rfl (fun work18 => ?_)
      refine R_callV_I (pc' := 69) (q := pilot17) (As := [va_rf work18]) (fun o20 => rm_X3_oneTide o20 work18 M) mf_X3_oneTide lk_X0_68 im_X3_oneTide se_X3_oneTide rfl rfl rfl dX0_drawYears_66 rfl (by decide) (Nat.le_trans c_0 (by decide)) (fun r19 M => ?_)
      refine R_pop (pc' := 70) dX0_drawYears_69 rfl rfl ?_
      refine R_iinc (pc' := 73) (L' := [(5, .int (l5 + (nI 1))), (0, va_rf (some this)), (1, .int l1), (2, .int l2), (3, .int l3), (4, .int l4)]) (i := 5) (j := 5) (x := l5) (x2 := (l5 + (nI 1))) dX0_drawYears_70 rfl rfl rfl (by decide) rfl ?_
      refine R_goto (tgt := 47) dX0_drawYears_73 (by decide) ?_
      exact R_sub [1, 2, 3, 4, 5, 0] rfl (ih l1 l2 l3 l4 (l5 + (nI 1)) M)
def f_X0_drawYears_L24 (this : Nat) : Nat → Int32 → Int32 → Int32 → Int32 → Mem → Option (Unit × Mem)
  | 0, _, _, _, _, _ => none
  | n + 1, l1, l2, l3, l4, M =>
    (if l1 ≤ l4 then
      (some ((), M))
    else
      ((gR M 0 7 (some this)).bind fun work1 =>
      (gR M 0 4 (some this)).bind fun book2 =>
      (gR M 2 1 book2).bind fun scene3 =>
      (oO M 6 work1).bind fun o5 => cl (f_X6_copyFrom o5 scene3 M) fun u4 M =>
      f_X0_drawYears_L47 (f_X0_drawYears_L24 this n) this FU l1 l2 l3 l4 (nI 0) M))
set_option maxHeartbeats 2000000 in
set_option maxRecDepth 20000 in
theorem rf_X0_drawYears_L24 (this : Nat) : ∀ (n : Nat) (l1 : Int32) (l2 : Int32) (l3 : Int32) (l4 : Int32) (M : Mem), RF yX0_drawYears cX0_drawYears 6 none 6 eV (f_X0_drawYears_L24 this n l1 l2 l3 l4 M) 24 [(0, va_rf (some this)), (1, .int l1), (2, .int l2), (3, .int l3), (4, .int l4)] [] M := by
  intro n
  induction n with
  | zero => intro _ _ _ _ _; exact RF.none
  | succ n ih =>
    intro l1 l2 l3 l4 M
    rw [f_X0_drawYears_L24]
    refine R_iload (pc' := 26) (i := 4) (j := 4) (x := l4) dX0_drawYears_24 rfl rfl ?_
    refine R_iload_n (pc' := 27) (i := 1) (j := 1) (x := l1) dX0_drawYears_26 rfl rfl rfl ?_
    refine R_icmp_ge (pc' := 30) (tgt := 137) (a := l4) (b := l1) dX0_drawYears_27 (by decide) rfl ?_ ?_
    · exact R_vret dX0_drawYears_137
    · refine R_aloadq_n (pc' := 31) (i := 0) (j := 0) (q := (some this)) dX0_drawYears_30 rfl rfl rfl ?_
      refine R_getR (pc' := 34) (q := (some this)) fl_X0_18 rfl dX0_drawYears_31 rfl (fun work1 => ?_)
      refine R_aloadq_n (pc' := 35) (i := 0) (j := 0) (q := (some this)) dX0_drawYears_34 rfl rfl rfl ?_
      refine R_getR (pc' := 38) (q := (some this)) fl_X0_33 rfl dX0_drawYears_35 rfl (fun book2 => ?_)
      refine R_getR (pc' := 41) (q := book2) fl_X0_48 rfl dX0_drawYears_38 rfl (fun scene3 => ?_)
      refine R_callV_V (pc' := 44) (q := work1) (As := [va_rf scene3]) (fun o5 => rm_X6_copyFrom o5 scene3 M) mf_X6_copyFrom lk_X0_51 im_X6_copyFrom se_X6_copyFrom rfl rfl rfl dX0_drawYears_41 rfl (by decide) (Nat.le_trans c_0 (by decide)) (fun u4 M => ?_)
      refine R_iconst (pc' := 45) (x := (nI 0)) dX0_drawYears_44 rfl (by decide) ?_
      refine R_istore (pc' := 47) (L' := [(5, .int (nI 0)), (0, va_rf (some this)), (1, .int l1), (2, .int l2), (3, .int l3), (4, .int l4)]) (i := 5) (x := (nI 0)) dX0_drawYears_45 rfl (by decide) rfl ?_
      exact R_sub [1, 2, 3, 4, 5, 0] rfl (rf_X0_drawYears_L47 this (f_X0_drawYears_L24 this n) ih FU l1 l2 l3 l4 (nI 0) M)
def f_X0_drawYears (this : Nat) (l1 : Int32) (l2 : Int32) (l3 : Int32) (M : Mem) : Option (Unit × Mem) :=
  (gR M 0 4 (some this)).bind fun book1 =>
  (gI M 2 7 book1).bind fun x2 =>
  (pI M 0 11 (some this) x2).bind fun M =>
  (pI M 0 0 (some this) (nI 0)).bind fun M =>
  (pI M 0 1 (some this) (nI 0)).bind fun M =>
  f_X0_drawYears_L24 this FU l1 l2 l3 (nI 0) M
set_option maxHeartbeats 2000000 in
set_option maxRecDepth 20000 in
theorem rm_X0_drawYears (this : Nat) (l1 : Int32) (l2 : Int32) (l3 : Int32) (M : Mem) : RFm yX0_drawYears cX0_drawYears 6 none 6 eV (f_X0_drawYears this l1 l2 l3 M) [va_rf (some this), .int l1, .int l2, .int l3] M := by
  refine RFm_of (L := [(0, va_rf (some this)), (1, .int l1), (2, .int l2), (3, .int l3)]) (by decide) rfl (Nat.le_trans (c_R (c_I (c_I (c_I c_0)))) (by decide)) ?_
  rw [f_X0_drawYears]
  refine R_aloadq_n (pc' := 1) (i := 0) (j := 0) (q := (some this)) dX0_drawYears_0 rfl rfl rfl ?_
  refine R_aloadq_n (pc' := 2) (i := 0) (j := 0) (q := (some this)) dX0_drawYears_1 rfl rfl rfl ?_
  refine R_getR (pc' := 5) (q := (some this)) fl_X0_33 rfl dX0_drawYears_2 rfl (fun book1 => ?_)
  refine R_getI (pc' := 8) (q := book1) fl_X0_208 rfl dX0_drawYears_5 rfl (fun x2 => ?_)
  refine R_putI (pc' := 11) (q := (some this)) (x := x2) fl_X0_211 (Or.inl rfl) dX0_drawYears_8 rfl (fun M => ?_)
  refine R_aloadq_n (pc' := 12) (i := 0) (j := 0) (q := (some this)) dX0_drawYears_11 rfl rfl rfl ?_
  refine R_iconst (pc' := 13) (x := (nI 0)) dX0_drawYears_12 rfl (by decide) ?_
  refine R_putI (pc' := 16) (q := (some this)) (x := (nI 0)) fl_X0_65 (Or.inl rfl) dX0_drawYears_13 rfl (fun M => ?_)
  refine R_aloadq_n (pc' := 17) (i := 0) (j := 0) (q := (some this)) dX0_drawYears_16 rfl rfl rfl ?_
  refine R_iconst (pc' := 18) (x := (nI 0)) dX0_drawYears_17 rfl (by decide) ?_
  refine R_putI (pc' := 21) (q := (some this)) (x := (nI 0)) fl_X0_75 (Or.inl rfl) dX0_drawYears_18 rfl (fun M => ?_)
  refine R_iconst (pc' := 22) (x := (nI 0)) dX0_drawYears_21 rfl (by decide) ?_
  refine R_istore (pc' := 24) (L' := [(4, .int (nI 0)), (0, va_rf (some this)), (1, .int l1), (2, .int l2), (3, .int l3)]) (i := 4) (x := (nI 0)) dX0_drawYears_22 rfl (by decide) rfl ?_
  exact R_sub [1, 2, 3, 4, 0] rfl (rf_X0_drawYears_L24 this FU l1 l2 l3 (nI 0) M)
/-! BarPilot.<init>()V -/
def f_X9_init (this : Nat) (M : Mem) : Option (Unit × Mem) :=
  newO M 7 fun a1 M =>
  cl (f_X7_init a1 M) fun u2 M =>
  (pR M 9 0 (some this) (some a1)).bind fun M =>
  newO M 1 fun a3 M =>
  (gR M 9 0 (some this)).bind fun tape4 =>
  cl (f_X1_init a3 tape4 M) fun u5 M =>
  (pR M 9 1 (some this) (some a3)).bind fun M =>
  newO M 5 fun a6 M =>
  (gR M 9 0 (some this)).bind fun tape7 =>
  cl (f_X5_init a6 tape7 M) fun u8 M =>
  (pR M 9 2 (some this) (some a6)).bind fun M =>
  newA M 4 (nI 6) fun a9 M =>
  (pR M 9 3 (some this) (some a9)).bind fun M =>
  newO M 2 fun a10 M =>
  cl (f_X2_init a10 M) fun u11 M =>
  (pR M 9 4 (some this) (some a10)).bind fun M =>
  newA M 5 (nI 4) fun a12 M =>
  (pR M 9 5 (some this) (some a12)).bind fun M =>
  newO M 3 fun a13 M =>
  (gR M 9 4 (some this)).bind fun book14 =>
  (gR M 2 0 book14).bind fun told15 =>
  cl (f_X3_init a13 told15 M) fun u16 M =>
  (pR M 9 6 (some this) (some a13)).bind fun M =>
  newO M 0 fun a17 M =>
  (gR M 9 4 (some this)).bind fun book18 =>
  (gR M 9 6 (some this)).bind fun pilot19 =>
  cl (f_X0_init a17 book18 pilot19 M) fun u20 M =>
  (pR M 9 7 (some this) (some a17)).bind fun M =>
  (pI M 9 8 (some this) (nI 0)).bind fun M =>
  some ((), M)
set_option maxHeartbeats 2000000 in
set_option maxRecDepth 20000 in
theorem rm_X9_init (this : Nat) (M : Mem) : RFm yX9_init cX9_init 1 none 4 eV (f_X9_init this M) [va_rf (some this)] M := by
  refine RFm_of (L := [(0, va_rf (some this))]) (by decide) rfl (Nat.le_trans (c_R c_0) (by decide)) ?_
  rw [f_X9_init]
  refine R_aloadq_n (pc' := 1) (i := 0) (j := 0) (q := (some this)) dX9_init_0 rfl rfl rfl ?_
  refine R_objInit (pc' := 4) (a := this) lko_X9_1 ob_in ob_co dX9_init_1 rfl (by decide) (Nat.le_trans c_0 (by decide)) ?_
  refine R_aloadq_n (pc' := 5) (i := 0) (j := 0) (q := (some this)) dX9_init_4 rfl rfl rfl ?_
  refine R_new (pc' := 8) cl_X7 ck_X9_7 dX9_init_5 rfl (fun a1 M => ?_)
  refine R_dup (pc' := 9) dX9_init_8 rfl (rf_cat _) ?_
  refine R_callIN_V (pc' := 12) (a := a1) (As := []) (host := "BarPilot") (rm_X7_init a1 M) mf_X7_init (fun _ h => h.1.1) im_X7_init rfl rfl rfl dX9_init_9 rfl (by decide) (Nat.le_trans (c_R (c_R c_0)) (by decide)) (fun u2 M => ?_)
  refine R_putR (pc' := 15) (q := (some this)) (x := (some a1)) fl_X9_10 rfl (Or.inr ⟨rfl, rfl⟩) dX9_init_12 rfl (fun M => ?_)
  refine R_aloadq_n (pc' := 16) (i := 0) (j := 0) (q := (some this)) dX9_init_15 rfl rfl rfl ?_
  refine R_new (pc' := 19) cl_X1 ck_X9_16 dX9_init_16 rfl (fun a3 M => ?_)
  refine R_dup (pc' := 20) dX9_init_19 rfl (rf_cat _) ?_
  refine R_aloadq_n (pc' := 21) (i := 0) (j := 0) (q := (some this)) dX9_init_20 rfl rfl rfl ?_
  refine R_getR (pc' := 24) (q := (some this)) fl_X9_10 rfl dX9_init_21 rfl (fun tape4 => ?_)
  refine R_callI_V (pc' := 27) (a := a3) (As := [va_rf tape4]) (rm_X1_init a3 tape4 M) mf_X1_init lk_X9_18 im_X1_init rfl rfl rfl dX9_init_24 rfl (by decide) (Nat.le_trans (c_R (c_R c_0)) (by decide)) (fun u5 M => ?_)
  refine R_putR (pc' := 30) (q := (some this)) (x := (some a3)) fl_X9_21 rfl (Or.inr ⟨rfl, rfl⟩) dX9_init_27 rfl (fun M => ?_)
  refine R_aloadq_n (pc' := 31) (i := 0) (j := 0) (q := (some this)) dX9_init_30 rfl rfl rfl ?_
  refine R_new (pc' := 34) cl_X5 ck_X9_25 dX9_init_31 rfl (fun a6 M => ?_)
  refine R_dup (pc' := 35) dX9_init_34 rfl (rf_cat _) ?_
  refine R_aloadq_n (pc' := 36) (i := 0) (j := 0) (q := (some this)) dX9_init_35 rfl rfl rfl ?_
  refine R_getR (pc' := 39) (q := (some this)) fl_X9_10 rfl dX9_init_36 rfl (fun tape7 => ?_)
  refine R_callI_V (pc' := 42) (a := a6) (As := [va_rf tape7]) (rm_X5_init a6 tape7 M) mf_X5_init lk_X9_27 im_X5_init rfl rfl rfl dX9_init_39 rfl (by decide) (Nat.le_trans (c_R (c_R c_0)) (by decide)) (fun u8 M => ?_)
  refine R_putR (pc' := 45) (q := (some this)) (x := (some a6)) fl_X9_28 rfl (Or.inr ⟨rfl, rfl⟩) dX9_init_42 rfl (fun M => ?_)
  refine R_aloadq_n (pc' := 46) (i := 0) (j := 0) (q := (some this)) dX9_init_45 rfl rfl rfl ?_
  refine R_bipush (pc' := 48) (x := (nI 6)) dX9_init_46 rfl (by decide) ?_
  refine R_newq (pc' := 51) (t := 4) (n := (nI 6)) (by decide) rfl ckn_X9_32 (fun _ h => h.2.1) dX9_init_48 rfl (fun a9 M => ?_)
  refine R_putR (pc' := 54) (q := (some this)) (x := (some a9)) fl_X9_34 rfl (Or.inr ⟨rfl, rfl⟩) dX9_init_51 rfl (fun M => ?_)
  refine R_aloadq_n (pc' := 55) (i := 0) (j := 0) (q := (some this)) dX9_init_54 rfl rfl rfl ?_
  refine R_new (pc' := 58) cl_X2 ck_X9_38 dX9_init_55 rfl (fun a10 M => ?_)
  refine R_dup (pc' := 59) dX9_init_58 rfl (rf_cat _) ?_
  refine R_callIN_V (pc' := 62) (a := a10) (As := []) (host := "BarPilot") (rm_X2_init a10 M) mf_X2_init (fun _ h => h.1.2.2.1) im_X2_init rfl rfl rfl dX9_init_59 rfl (by decide) (Nat.le_trans (c_R (c_R c_0)) (by decide)) (fun u11 M => ?_)
  refine R_putR (pc' := 65) (q := (some this)) (x := (some a10)) fl_X9_41 rfl (Or.inr ⟨rfl, rfl⟩) dX9_init_62 rfl (fun M => ?_)
  refine R_aloadq_n (pc' := 66) (i := 0) (j := 0) (q := (some this)) dX9_init_65 rfl rfl rfl ?_
  refine R_iconst (pc' := 67) (x := (nI 4)) dX9_init_66 rfl (by decide) ?_
  refine R_newq (pc' := 70) (t := 5) (n := (nI 4)) (by decide) rfl ckn_X9_38 (fun _ h => h.2.2.1) dX9_init_67 rfl (fun a12 M => ?_)
  refine R_putR (pc' := 73) (q := (some this)) (x := (some a12)) fl_X9_45 rfl (Or.inr ⟨rfl, rfl⟩) dX9_init_70 rfl (fun M => ?_)
  refine R_aloadq_n (pc' := 74) (i := 0) (j := 0) (q := (some this)) dX9_init_73 rfl rfl rfl ?_
  refine R_new (pc' := 77) cl_X3 ck_X9_49 dX9_init_74 rfl (fun a13 M => ?_)
  refine R_dup (pc' := 78) dX9_init_77 rfl (rf_cat _) ?_
  refine R_aloadq_n (pc' := 79) (i := 0) (j := 0) (q := (some this)) dX9_init_78 rfl rfl rfl ?_
  refine R_getR (pc' := 82) (q := (some this)) fl_X9_41 rfl dX9_init_79 rfl (fun book14 => ?_)
  refine R_getR (pc' := 85) (q := book14) fl_X9_51 rfl dX9_init_82 rfl (fun told15 => ?_)
  refine R_callI_V (pc' := 88) (a := a13) (As := [va_rf told15]) (rm_X3_init a13 told15 M) mf_X3_init lk_X9_55 im_X3_init rfl rfl rfl dX9_init_85 rfl (by decide) (Nat.le_trans (c_R (c_R c_0)) (by decide)) (fun u16 M => ?_)
  refine R_putR (pc' := 91) (q := (some this)) (x := (some a13)) fl_X9_58 rfl (Or.inr ⟨rfl, rfl⟩) dX9_init_88 rfl (fun M => ?_)
  refine R_aloadq_n (pc' := 92) (i := 0) (j := 0) (q := (some this)) dX9_init_91 rfl rfl rfl ?_
  refine R_new (pc' := 95) cl_X0 ck_X9_62 dX9_init_92 rfl (fun a17 M => ?_)
  refine R_dup (pc' := 96) dX9_init_95 rfl (rf_cat _) ?_
  refine R_aloadq_n (pc' := 97) (i := 0) (j := 0) (q := (some this)) dX9_init_96 rfl rfl rfl ?_
  refine R_getR (pc' := 100) (q := (some this)) fl_X9_41 rfl dX9_init_97 rfl (fun book18 => ?_)
  refine R_aloadq_n (pc' := 101) (i := 0) (j := 0) (q := (some this)) dX9_init_100 rfl rfl rfl ?_
  refine R_getR (pc' := 104) (q := (some this)) fl_X9_58 rfl dX9_init_101 rfl (fun pilot19 => ?_)
  refine R_callI_V (pc' := 107) (a := a17) (As := [va_rf book18, va_rf pilot19]) (rm_X0_init a17 book18 pilot19 M) mf_X0_init lk_X9_64 im_X0_init rfl rfl rfl dX9_init_104 rfl (by decide) (Nat.le_trans (c_R (c_R c_0)) (by decide)) (fun u20 M => ?_)
  refine R_putR (pc' := 110) (q := (some this)) (x := (some a17)) fl_X9_67 rfl (Or.inr ⟨rfl, rfl⟩) dX9_init_107 rfl (fun M => ?_)
  refine R_aloadq_n (pc' := 111) (i := 0) (j := 0) (q := (some this)) dX9_init_110 rfl rfl rfl ?_
  refine R_iconst (pc' := 112) (x := (nI 0)) dX9_init_111 rfl (by decide) ?_
  refine R_putI (pc' := 115) (q := (some this)) (x := (nI 0)) fl_X9_71 (Or.inl rfl) dX9_init_112 rfl (fun M => ?_)
  exact R_vret dX9_init_115
/-! BarPilot.feed(IIIII)I -/
def f_X9_feed (this : Nat) (l1 : Int32) (l2 : Int32) (l3 : Int32) (l4 : Int32) (l5 : Int32) (M : Mem) : Option (Int32 × Mem) :=
  (gR M 9 0 (some this)).bind fun tape1 =>
  (gI M 7 1 tape1).bind fun length2 =>
  (if (length2 + (nI 20)) ≤ (nI 400) then
    ((gR M 9 0 (some this)).bind fun tape3 =>
    (oO M 7 tape3).bind fun o19 => cl (f_X7_put o19 l1 M) fun u4 M =>
    (gR M 9 0 (some this)).bind fun tape5 =>
    (oO M 7 tape5).bind fun o18 => cl (f_X7_put o18 l2 M) fun u6 M =>
    (gR M 9 0 (some this)).bind fun tape7 =>
    (oO M 7 tape7).bind fun o17 => cl (f_X7_put o17 l3 M) fun u8 M =>
    (gR M 9 0 (some this)).bind fun tape9 =>
    (oO M 7 tape9).bind fun o16 => cl (f_X7_put o16 l4 M) fun u10 M =>
    (gR M 9 0 (some this)).bind fun tape11 =>
    (oO M 7 tape11).bind fun o15 => cl (f_X7_put o15 l5 M) fun u12 M =>
    (gR M 9 0 (some this)).bind fun tape13 =>
    (gI M 7 1 tape13).bind fun length14 =>
    some (length14, M))
  else
    (some ((-1 : Int32), M)))
set_option maxHeartbeats 2000000 in
set_option maxRecDepth 20000 in
theorem rm_X9_feed (this : Nat) (l1 : Int32) (l2 : Int32) (l3 : Int32) (l4 : Int32) (l5 : Int32) (M : Mem) : RFm yX9_feed cX9_feed 6 (some .int) 2 eI (f_X9_feed this l1 l2 l3 l4 l5 M) [va_rf (some this), .int l1, .int l2, .int l3, .int l4, .int l5] M := by
  refine RFm_of (L := [(0, va_rf (some this)), (1, .int l1), (2, .int l2), (3, .int l3), (4, .int l4), (5, .int l5)]) (by decide) rfl (Nat.le_trans (c_R (c_I (c_I (c_I (c_I (c_I c_0)))))) (by decide)) ?_
  rw [f_X9_feed]
  refine R_aloadq_n (pc' := 1) (i := 0) (j := 0) (q := (some this)) dX9_feed_0 rfl rfl rfl ?_
  refine R_getR (pc' := 4) (q := (some this)) fl_X9_10 rfl dX9_feed_1 rfl (fun tape1 => ?_)
  refine R_getI (pc' := 7) (q := tape1) fl_X9_75 rfl dX9_feed_4 rfl (fun length2 => ?_)
  refine R_bipush (pc' := 9) (x := (nI 20)) dX9_feed_7 rfl (by decide) ?_
  refine R_iadd (pc' := 10) (a := length2) (b := (nI 20)) dX9_feed_9 rfl ?_
  refine R_sipush (pc' := 13) (x := (nI 400)) dX9_feed_10 rfl (by decide) ?_
  refine R_icmp_le (pc' := 16) (tgt := 18) (a := (length2 + (nI 20))) (b := (nI 400)) dX9_feed_13 (by decide) rfl ?_ ?_
  · refine R_aloadq_n (pc' := 19) (i := 0) (j := 0) (q := (some this)) dX9_feed_18 rfl rfl rfl ?_
    refine R_getR (pc' := 22) (q := (some this)) fl_X9_10 rfl dX9_feed_19 rfl (fun tape3 => ?_)
    refine R_iload_n (pc' := 23) (i := 1) (j := 1) (x := l1) dX9_feed_22 rfl rfl rfl ?_
    refine R_callV_V (pc' := 26) (q := tape3) (As := [.int l1]) (fun o19 => rm_X7_put o19 l1 M) mf_X7_put lk_X9_78 im_X7_put se_X7_put rfl rfl rfl dX9_feed_23 rfl (by decide) (Nat.le_trans c_0 (by decide)) (fun u4 M => ?_)
    refine R_aloadq_n (pc' := 27) (i := 0) (j := 0) (q := (some this)) dX9_feed_26 rfl rfl rfl ?_
    refine R_getR (pc' := 30) (q := (some this)) fl_X9_10 rfl dX9_feed_27 rfl (fun tape5 => ?_)
    refine R_iload_n (pc' := 31) (i := 2) (j := 2) (x := l2) dX9_feed_30 rfl rfl rfl ?_
    refine R_callV_V (pc' := 34) (q := tape5) (As := [.int l2]) (fun o18 => rm_X7_put o18 l2 M) mf_X7_put lk_X9_78 im_X7_put se_X7_put rfl rfl rfl dX9_feed_31 rfl (by decide) (Nat.le_trans c_0 (by decide)) (fun u6 M => ?_)
    refine R_aloadq_n (pc' := 35) (i := 0) (j := 0) (q := (some this)) dX9_feed_34 rfl rfl rfl ?_
    refine R_getR (pc' := 38) (q := (some this)) fl_X9_10 rfl dX9_feed_35 rfl (fun tape7 => ?_)
    refine R_iload_n (pc' := 39) (i := 3) (j := 3) (x := l3) dX9_feed_38 rfl rfl rfl ?_
    refine R_callV_V (pc' := 42) (q := tape7) (As := [.int l3]) (fun o17 => rm_X7_put o17 l3 M) mf_X7_put lk_X9_78 im_X7_put se_X7_put rfl rfl rfl dX9_feed_39 rfl (by decide) (Nat.le_trans c_0 (by decide)) (fun u8 M => ?_)
    refine R_aloadq_n (pc' := 43) (i := 0) (j := 0) (q := (some this)) dX9_feed_42 rfl rfl rfl ?_
    refine R_getR (pc' := 46) (q := (some this)) fl_X9_10 rfl dX9_feed_43 rfl (fun tape9 => ?_)
    refine R_iload (pc' := 48) (i := 4) (j := 4) (x := l4) dX9_feed_46 rfl rfl ?_
    refine R_callV_V (pc' := 51) (q := tape9) (As := [.int l4]) (fun o16 => rm_X7_put o16 l4 M) mf_X7_put lk_X9_78 im_X7_put se_X7_put rfl rfl rfl dX9_feed_48 rfl (by decide) (Nat.le_trans c_0 (by decide)) (fun u10 M => ?_)
    refine R_aloadq_n (pc' := 52) (i := 0) (j := 0) (q := (some this)) dX9_feed_51 rfl rfl rfl ?_
    refine R_getR (pc' := 55) (q := (some this)) fl_X9_10 rfl dX9_feed_52 rfl (fun tape11 => ?_)
    refine R_iload (pc' := 57) (i := 5) (j := 5) (x := l5) dX9_feed_55 rfl rfl ?_
    refine R_callV_V (pc' := 60) (q := tape11) (As := [.int l5]) (fun o15 => rm_X7_put o15 l5 M) mf_X7_put lk_X9_78 im_X7_put se_X7_put rfl rfl rfl dX9_feed_57 rfl (by decide) (Nat.le_trans c_0 (by decide)) (fun u12 M => ?_)
    refine R_aloadq_n (pc' := 61) (i := 0) (j := 0) (q := (some this)) dX9_feed_60 rfl rfl rfl ?_
    refine R_getR (pc' := 64) (q := (some this)) fl_X9_10 rfl dX9_feed_61 rfl (fun tape13 => ?_)
    refine R_getI (pc' := 67) (q := tape13) fl_X9_75 rfl dX9_feed_64 rfl (fun length14 => ?_)
    exact R_iret dX9_feed_67
  · refine R_iconst (pc' := 17) (x := (-1 : Int32)) dX9_feed_16 rfl (by decide) ?_
    exact R_iret dX9_feed_17
/-! BarPilot.end(I)I -/
def f_X9_end_J15 (this : Nat) (M : Mem) : Option (Int32 × Mem) :=
  some ((-1 : Int32), M)
set_option maxHeartbeats 2000000 in
set_option maxRecDepth 20000 in
theorem rf_X9_end_J15 (this : Nat) (M : Mem) : RF yX9_end cX9_end 2 (some .int) 1 eI (f_X9_end_J15 this M) 15 [] [] M := by
  rw [f_X9_end_J15]
  refine R_iconst (pc' := 16) (x := (-1 : Int32)) dX9_end_15 rfl (by decide) ?_
  exact R_iret dX9_end_16
def f_X9_end (this : Nat) (l1 : Int32) (M : Mem) : Option (Int32 × Mem) :=
  (if l1 < 0 then
    (f_X9_end_J15 this M)
  else
    ((gR M 9 0 (some this)).bind fun tape1 =>
    (gI M 7 1 tape1).bind fun length2 =>
    (if l1 ≤ length2 then
      ((gR M 9 0 (some this)).bind fun tape3 =>
      (pI M 7 1 tape3 l1).bind fun M =>
      some (l1, M))
    else
      (f_X9_end_J15 this M))))
set_option maxHeartbeats 2000000 in
set_option maxRecDepth 20000 in
theorem rm_X9_end (this : Nat) (l1 : Int32) (M : Mem) : RFm yX9_end cX9_end 2 (some .int) 1 eI (f_X9_end this l1 M) [va_rf (some this), .int l1] M := by
  refine RFm_of (L := [(0, va_rf (some this)), (1, .int l1)]) (by decide) rfl (Nat.le_trans (c_R (c_I c_0)) (by decide)) ?_
  rw [f_X9_end]
  refine R_iload_n (pc' := 1) (i := 1) (j := 1) (x := l1) dX9_end_0 rfl rfl rfl ?_
  refine R_if_lt (pc' := 4) (tgt := 15) (a := l1) dX9_end_1 (by decide) rfl ?_ ?_
  · exact R_sub [] rfl (rf_X9_end_J15 this M)
  · refine R_iload_n (pc' := 5) (i := 1) (j := 1) (x := l1) dX9_end_4 rfl rfl rfl ?_
    refine R_aloadq_n (pc' := 6) (i := 0) (j := 0) (q := (some this)) dX9_end_5 rfl rfl rfl ?_
    refine R_getR (pc' := 9) (q := (some this)) fl_X9_10 rfl dX9_end_6 rfl (fun tape1 => ?_)
    refine R_getI (pc' := 12) (q := tape1) fl_X9_75 rfl dX9_end_9 rfl (fun length2 => ?_)
    refine R_icmp_le (pc' := 15) (tgt := 17) (a := l1) (b := length2) dX9_end_12 (by decide) rfl ?_ ?_
    · refine R_aloadq_n (pc' := 18) (i := 0) (j := 0) (q := (some this)) dX9_end_17 rfl rfl rfl ?_
      refine R_getR (pc' := 21) (q := (some this)) fl_X9_10 rfl dX9_end_18 rfl (fun tape3 => ?_)
      refine R_iload_n (pc' := 22) (i := 1) (j := 1) (x := l1) dX9_end_21 rfl rfl rfl ?_
      refine R_putI (pc' := 25) (q := tape3) (x := l1) fl_X9_75 (Or.inl rfl) dX9_end_22 rfl (fun M => ?_)
      refine R_iload_n (pc' := 26) (i := 1) (j := 1) (x := l1) dX9_end_25 rfl rfl rfl ?_
      exact R_iret dX9_end_26
    · exact R_sub [] rfl (rf_X9_end_J15 this M)
/-! BarPilot.bar()I -/
def f_X9_bar (this : Nat) (M : Mem) : Option (Int32 × Mem) :=
  (gR M 9 1 (some this)).bind fun barReader1 =>
  (oO M 1 barReader1).bind fun o12 => cl (f_X1_read o12 M) fun r2 M =>
  (gR M 9 0 (some this)).bind fun tape3 =>
  (pI M 7 1 tape3 (nI 0)).bind fun M =>
  (if r2 = 0 then
    ((gR M 9 4 (some this)).bind fun book4 =>
    (gR M 9 1 (some this)).bind fun barReader5 =>
    (gR M 1 0 barReader5).bind fun told6 =>
    (oO M 2 book4).bind fun o11 => cl (f_X2_open o11 told6 M) fun u7 M =>
    (gR M 9 4 (some this)).bind fun book8 =>
    (gR M 2 0 book8).bind fun told9 =>
    (gI M 8 4 told9).bind fun ships10 =>
    some (ships10, M))
  else
    (some (((-2 : Int32) - r2), M)))
set_option maxHeartbeats 2000000 in
set_option maxRecDepth 20000 in
theorem rm_X9_bar (this : Nat) (M : Mem) : RFm yX9_bar cX9_bar 2 (some .int) 7 eI (f_X9_bar this M) [va_rf (some this)] M := by
  refine RFm_of (L := [(0, va_rf (some this))]) (by decide) rfl (Nat.le_trans (c_R c_0) (by decide)) ?_
  rw [f_X9_bar]
  refine R_aloadq_n (pc' := 1) (i := 0) (j := 0) (q := (some this)) dX9_bar_0 rfl rfl rfl ?_
  refine R_getR (pc' := 4) (q := (some this)) fl_X9_21 rfl dX9_bar_1 rfl (fun barReader1 => ?_)
  refine R_callV_I (pc' := 7) (q := barReader1) (As := []) (fun o12 => rm_X1_read o12 M) mf_X1_read lk_X9_82 im_X1_read se_X1_read rfl rfl rfl dX9_bar_4 rfl (by decide) (Nat.le_trans c_0 (by decide)) (fun r2 M => ?_)
  refine R_istore_n (pc' := 8) (L' := [(1, .int r2), (0, va_rf (some this))]) (i := 1) (x := r2) dX9_bar_7 rfl rfl (by decide) rfl ?_
  refine R_aloadq_n (pc' := 9) (i := 0) (j := 1) (q := (some this)) dX9_bar_8 rfl rfl rfl ?_
  refine R_getR (pc' := 12) (q := (some this)) fl_X9_10 rfl dX9_bar_9 rfl (fun tape3 => ?_)
  refine R_iconst (pc' := 13) (x := (nI 0)) dX9_bar_12 rfl (by decide) ?_
  refine R_putI (pc' := 16) (q := tape3) (x := (nI 0)) fl_X9_75 (Or.inl rfl) dX9_bar_13 rfl (fun M => ?_)
  refine R_iload_n (pc' := 17) (i := 1) (j := 0) (x := r2) dX9_bar_16 rfl rfl rfl ?_
  refine R_if_eq (pc' := 20) (tgt := 25) (a := r2) dX9_bar_17 (by decide) rfl ?_ ?_
  · refine R_aloadq_n (pc' := 26) (i := 0) (j := 1) (q := (some this)) dX9_bar_25 rfl rfl rfl ?_
    refine R_getR (pc' := 29) (q := (some this)) fl_X9_41 rfl dX9_bar_26 rfl (fun book4 => ?_)
    refine R_aloadq_n (pc' := 30) (i := 0) (j := 1) (q := (some this)) dX9_bar_29 rfl rfl rfl ?_
    refine R_getR (pc' := 33) (q := (some this)) fl_X9_21 rfl dX9_bar_30 rfl (fun barReader5 => ?_)
    refine R_getR (pc' := 36) (q := barReader5) fl_X9_86 rfl dX9_bar_33 rfl (fun told6 => ?_)
    refine R_callV_V (pc' := 39) (q := book4) (As := [va_rf told6]) (fun o11 => rm_X2_open o11 told6 M) mf_X2_open lk_X9_87 im_X2_open se_X2_open rfl rfl rfl dX9_bar_36 rfl (by decide) (Nat.le_trans c_0 (by decide)) (fun u7 M => ?_)
    refine R_aloadq_n (pc' := 40) (i := 0) (j := 1) (q := (some this)) dX9_bar_39 rfl rfl rfl ?_
    refine R_getR (pc' := 43) (q := (some this)) fl_X9_41 rfl dX9_bar_40 rfl (fun book8 => ?_)
    refine R_getR (pc' := 46) (q := book8) fl_X9_51 rfl dX9_bar_43 rfl (fun told9 => ?_)
    refine R_getI (pc' := 49) (q := told9) fl_X9_90 rfl dX9_bar_46 rfl (fun ships10 => ?_)
    exact R_iret dX9_bar_49
  · refine R_bipush (pc' := 22) (x := (-2 : Int32)) dX9_bar_20 rfl (by decide) ?_
    refine R_iload_n (pc' := 23) (i := 1) (j := 0) (x := r2) dX9_bar_22 rfl rfl rfl ?_
    refine R_isub (pc' := 24) (a := (-2 : Int32)) (b := r2) dX9_bar_23 rfl ?_
    exact R_iret dX9_bar_24
/-! BarPilot.rule()I -/
def f_X9_rule (this : Nat) (M : Mem) : Option (Int32 × Mem) :=
  (gI M 9 8 (some this)).bind fun ruleCount1 =>
  (if ruleCount1 < (nI 6) then
    ((gR M 9 2 (some this)).bind fun ruleReader2 =>
    (oO M 5 ruleReader2).bind fun o12 => cl (f_X5_read o12 M) fun r3 M =>
    (gR M 9 0 (some this)).bind fun tape4 =>
    (pI M 7 1 tape4 (nI 0)).bind fun M =>
    (if r3 = 0 then
      ((gR M 9 3 (some this)).bind fun rules5 =>
      (gI M 9 8 (some this)).bind fun ruleCount6 =>
      (gR M 9 2 (some this)).bind fun ruleReader7 =>
      (oO M 5 ruleReader7).bind fun o11 => cl (f_X5_made o11 M) fun r8 M =>
      (wR M 4 4 rules5 ruleCount6 r8).bind fun M =>
      (gI M 9 8 (some this)).bind fun ruleCount9 =>
      (pI M 9 8 (some this) (ruleCount9 + (nI 1))).bind fun M =>
      (gI M 9 8 (some this)).bind fun ruleCount10 =>
      some ((ruleCount10 - (nI 1)), M))
    else
      (some (((-2 : Int32) - r3), M))))
  else
    (some ((-1 : Int32), M)))
set_option maxHeartbeats 2000000 in
set_option maxRecDepth 20000 in
theorem rm_X9_rule (this : Nat) (M : Mem) : RFm yX9_rule cX9_rule 2 (some .int) 46 eI (f_X9_rule this M) [va_rf (some this)] M := by
  refine RFm_of (L := [(0, va_rf (some this))]) (by decide) rfl (Nat.le_trans (c_R c_0) (by decide)) ?_
  rw [f_X9_rule]
  refine R_aloadq_n (pc' := 1) (i := 0) (j := 0) (q := (some this)) dX9_rule_0 rfl rfl rfl ?_
  refine R_getI (pc' := 4) (q := (some this)) fl_X9_71 rfl dX9_rule_1 rfl (fun ruleCount1 => ?_)
  refine R_bipush (pc' := 6) (x := (nI 6)) dX9_rule_4 rfl (by decide) ?_
  refine R_icmp_lt (pc' := 9) (tgt := 11) (a := ruleCount1) (b := (nI 6)) dX9_rule_6 (by decide) rfl ?_ ?_
  · refine R_aloadq_n (pc' := 12) (i := 0) (j := 0) (q := (some this)) dX9_rule_11 rfl rfl rfl ?_
    refine R_getR (pc' := 15) (q := (some this)) fl_X9_28 rfl dX9_rule_12 rfl (fun ruleReader2 => ?_)
    refine R_callV_I (pc' := 18) (q := ruleReader2) (As := []) (fun o12 => rm_X5_read o12 M) mf_X5_read lk_X9_95 im_X5_read se_X5_read rfl rfl rfl dX9_rule_15 rfl (by decide) (Nat.le_trans c_0 (by decide)) (fun r3 M => ?_)
    refine R_istore_n (pc' := 19) (L' := [(1, .int r3), (0, va_rf (some this))]) (i := 1) (x := r3) dX9_rule_18 rfl rfl (by decide) rfl ?_
    refine R_aloadq_n (pc' := 20) (i := 0) (j := 1) (q := (some this)) dX9_rule_19 rfl rfl rfl ?_
    refine R_getR (pc' := 23) (q := (some this)) fl_X9_10 rfl dX9_rule_20 rfl (fun tape4 => ?_)
    refine R_iconst (pc' := 24) (x := (nI 0)) dX9_rule_23 rfl (by decide) ?_
    refine R_putI (pc' := 27) (q := tape4) (x := (nI 0)) fl_X9_75 (Or.inl rfl) dX9_rule_24 rfl (fun M => ?_)
    refine R_iload_n (pc' := 28) (i := 1) (j := 0) (x := r3) dX9_rule_27 rfl rfl rfl ?_
    refine R_if_eq (pc' := 31) (tgt := 36) (a := r3) dX9_rule_28 (by decide) rfl ?_ ?_
    · refine R_aloadq_n (pc' := 37) (i := 0) (j := 1) (q := (some this)) dX9_rule_36 rfl rfl rfl ?_
      refine R_getR (pc' := 40) (q := (some this)) fl_X9_34 rfl dX9_rule_37 rfl (fun rules5 => ?_)
      refine R_aloadq_n (pc' := 41) (i := 0) (j := 1) (q := (some this)) dX9_rule_40 rfl rfl rfl ?_
      refine R_getI (pc' := 44) (q := (some this)) fl_X9_71 rfl dX9_rule_41 rfl (fun ruleCount6 => ?_)
      refine R_aloadq_n (pc' := 45) (i := 0) (j := 1) (q := (some this)) dX9_rule_44 rfl rfl rfl ?_
      refine R_getR (pc' := 48) (q := (some this)) fl_X9_28 rfl dX9_rule_45 rfl (fun ruleReader7 => ?_)
      refine R_callV_R (pc' := 51) (q := ruleReader7) (As := []) (fun o11 => rm_X5_made o11 M) mf_X5_made lk_X9_96 im_X5_made se_X5_made rfl rfl rfl dX9_rule_48 rfl (by decide) (Nat.le_trans (c_I (c_R c_0)) (by decide)) (fun r8 M => ?_)
      refine R_aast (pc' := 52) (q := rules5) (i := ruleCount6) (v := r8) (by decide) rfl rfl dX9_rule_51 rfl (fun M => ?_)
      refine R_aloadq_n (pc' := 53) (i := 0) (j := 1) (q := (some this)) dX9_rule_52 rfl rfl rfl ?_
      refine R_dup (pc' := 54) dX9_rule_53 rfl (rf_cat _) ?_
      refine R_getI (pc' := 57) (q := (some this)) fl_X9_71 rfl dX9_rule_54 rfl (fun ruleCount9 => ?_)
      refine R_iconst (pc' := 58) (x := (nI 1)) dX9_rule_57 rfl (by decide) ?_
      refine R_iadd (pc' := 59) (a := ruleCount9) (b := (nI 1)) dX9_rule_58 rfl ?_
      refine R_putI (pc' := 62) (q := (some this)) (x := (ruleCount9 + (nI 1))) fl_X9_71 (Or.inl rfl) dX9_rule_59 rfl (fun M => ?_)
      refine R_aloadq_n (pc' := 63) (i := 0) (j := 1) (q := (some this)) dX9_rule_62 rfl rfl rfl ?_
      refine R_getI (pc' := 66) (q := (some this)) fl_X9_71 rfl dX9_rule_63 rfl (fun ruleCount10 => ?_)
      refine R_iconst (pc' := 67) (x := (nI 1)) dX9_rule_66 rfl (by decide) ?_
      refine R_isub (pc' := 68) (a := ruleCount10) (b := (nI 1)) dX9_rule_67 rfl ?_
      exact R_iret dX9_rule_68
    · refine R_bipush (pc' := 33) (x := (-2 : Int32)) dX9_rule_31 rfl (by decide) ?_
      refine R_iload_n (pc' := 34) (i := 1) (j := 0) (x := r3) dX9_rule_33 rfl rfl rfl ?_
      refine R_isub (pc' := 35) (a := (-2 : Int32)) (b := r3) dX9_rule_34 rfl ?_
      exact R_iret dX9_rule_35
  · refine R_iconst (pc' := 10) (x := (-1 : Int32)) dX9_rule_9 rfl (by decide) ?_
    exact R_iret dX9_rule_10
/-! BarPilot.isRuleOrNone(I)Z -/
def f_X9_isRuleOrNone_J22 (this : Nat) (s0 : Int32) (M : Mem) : Option (Int32 × Mem) :=
  ckZ s0 (some (s0, M))
set_option maxHeartbeats 2000000 in
set_option maxRecDepth 20000 in
theorem rf_X9_isRuleOrNone_J22 (this : Nat) (s0 : Int32) (M : Mem) : RF yX9_isRuleOrNone cX9_isRuleOrNone 2 (some .boolean) 1 eI (f_X9_isRuleOrNone_J22 this s0 M) 22 [] [.int s0] M := by
  rw [f_X9_isRuleOrNone_J22]
  exact R_bret dX9_isRuleOrNone_22
def f_X9_isRuleOrNone_J17 (this : Nat) (M : Mem) : Option (Int32 × Mem) :=
  f_X9_isRuleOrNone_J22 this (nI 1) M
set_option maxHeartbeats 2000000 in
set_option maxRecDepth 20000 in
theorem rf_X9_isRuleOrNone_J17 (this : Nat) (M : Mem) : RF yX9_isRuleOrNone cX9_isRuleOrNone 2 (some .boolean) 1 eI (f_X9_isRuleOrNone_J17 this M) 17 [] [] M := by
  rw [f_X9_isRuleOrNone_J17]
  refine R_iconst (pc' := 18) (x := (nI 1)) dX9_isRuleOrNone_17 rfl (by decide) ?_
  refine R_goto (tgt := 22) dX9_isRuleOrNone_18 (by decide) ?_
  exact R_sub [] rfl (rf_X9_isRuleOrNone_J22 this (nI 1) M)
def f_X9_isRuleOrNone_J21 (this : Nat) (M : Mem) : Option (Int32 × Mem) :=
  f_X9_isRuleOrNone_J22 this (nI 0) M
set_option maxHeartbeats 2000000 in
set_option maxRecDepth 20000 in
theorem rf_X9_isRuleOrNone_J21 (this : Nat) (M : Mem) : RF yX9_isRuleOrNone cX9_isRuleOrNone 2 (some .boolean) 1 eI (f_X9_isRuleOrNone_J21 this M) 21 [] [] M := by
  rw [f_X9_isRuleOrNone_J21]
  refine R_iconst (pc' := 22) (x := (nI 0)) dX9_isRuleOrNone_21 rfl (by decide) ?_
  exact R_sub [] rfl (rf_X9_isRuleOrNone_J22 this (nI 0) M)
def f_X9_isRuleOrNone (this : Nat) (l1 : Int32) (M : Mem) : Option (Int32 × Mem) :=
  (if l1 = (-1 : Int32) then
    (f_X9_isRuleOrNone_J17 this M)
  else
    ((if l1 < 0 then
      (f_X9_isRuleOrNone_J21 this M)
    else
      ((gI M 9 8 (some this)).bind fun ruleCount1 =>
      (if ruleCount1 ≤ l1 then
        (f_X9_isRuleOrNone_J21 this M)
      else
        (f_X9_isRuleOrNone_J17 this M))))))
set_option maxHeartbeats 2000000 in
set_option maxRecDepth 20000 in
theorem rm_X9_isRuleOrNone (this : Nat) (l1 : Int32) (M : Mem) : RFm yX9_isRuleOrNone cX9_isRuleOrNone 2 (some .boolean) 1 eI (f_X9_isRuleOrNone this l1 M) [va_rf (some this), .int l1] M := by
  refine RFm_of (L := [(0, va_rf (some this)), (1, .int l1)]) (by decide) rfl (Nat.le_trans (c_R (c_I c_0)) (by decide)) ?_
  rw [f_X9_isRuleOrNone]
  refine R_iload_n (pc' := 1) (i := 1) (j := 1) (x := l1) dX9_isRuleOrNone_0 rfl rfl rfl ?_
  refine R_iconst (pc' := 2) (x := (-1 : Int32)) dX9_isRuleOrNone_1 rfl (by decide) ?_
  refine R_icmp_eq (pc' := 5) (tgt := 17) (a := l1) (b := (-1 : Int32)) dX9_isRuleOrNone_2 (by decide) rfl ?_ ?_
  · exact R_sub [] rfl (rf_X9_isRuleOrNone_J17 this M)
  · refine R_iload_n (pc' := 6) (i := 1) (j := 1) (x := l1) dX9_isRuleOrNone_5 rfl rfl rfl ?_
    refine R_if_lt (pc' := 9) (tgt := 21) (a := l1) dX9_isRuleOrNone_6 (by decide) rfl ?_ ?_
    · exact R_sub [] rfl (rf_X9_isRuleOrNone_J21 this M)
    · refine R_iload_n (pc' := 10) (i := 1) (j := 1) (x := l1) dX9_isRuleOrNone_9 rfl rfl rfl ?_
      refine R_aloadq_n (pc' := 11) (i := 0) (j := 0) (q := (some this)) dX9_isRuleOrNone_10 rfl rfl rfl ?_
      refine R_getI (pc' := 14) (q := (some this)) fl_X9_71 rfl dX9_isRuleOrNone_11 rfl (fun ruleCount1 => ?_)
      refine R_icmp_ge (pc' := 17) (tgt := 21) (a := l1) (b := ruleCount1) dX9_isRuleOrNone_14 (by decide) rfl ?_ ?_
      · exact R_sub [] rfl (rf_X9_isRuleOrNone_J21 this M)
      · exact R_sub [] rfl (rf_X9_isRuleOrNone_J17 this M)
/-! BarPilot.force(I)I -/
def f_X9_force (this : Nat) (l1 : Int32) (M : Mem) : Option (Int32 × Mem) :=
  (oO M 9 (some this)).bind fun o5 => cl (f_X9_isRuleOrNone o5 l1 M) fun r1 M =>
  (if r1 = 0 then
    (some ((-2 : Int32), M))
  else
    ((gR M 9 4 (some this)).bind fun book2 =>
    (gI M 2 8 book2).bind fun force3 =>
    (gR M 9 4 (some this)).bind fun book4 =>
    (pI M 2 8 book4 l1).bind fun M =>
    some (force3, M)))
set_option maxHeartbeats 2000000 in
set_option maxRecDepth 20000 in
theorem rm_X9_force (this : Nat) (l1 : Int32) (M : Mem) : RFm yX9_force cX9_force 3 (some .int) 2 eI (f_X9_force this l1 M) [va_rf (some this), .int l1] M := by
  refine RFm_of (L := [(0, va_rf (some this)), (1, .int l1)]) (by decide) rfl (Nat.le_trans (c_R (c_I c_0)) (by decide)) ?_
  rw [f_X9_force]
  refine R_aloadq_n (pc' := 1) (i := 0) (j := 0) (q := (some this)) dX9_force_0 rfl rfl rfl ?_
  refine R_iload_n (pc' := 2) (i := 1) (j := 1) (x := l1) dX9_force_1 rfl rfl rfl ?_
  refine R_callV_I (pc' := 5) (q := (some this)) (As := [.int l1]) (fun o5 => rm_X9_isRuleOrNone o5 l1 M) mf_X9_isRuleOrNone lk_X9_100 im_X9_isRuleOrNone se_X9_isRuleOrNone rfl rfl rfl dX9_force_2 rfl (by decide) (Nat.le_trans c_0 (by decide)) (fun r1 M => ?_)
  refine R_if_ne (pc' := 8) (tgt := 11) (a := r1) dX9_force_5 (by decide) rfl ?_ ?_
  · refine R_aloadq_n (pc' := 12) (i := 0) (j := 0) (q := (some this)) dX9_force_11 rfl rfl rfl ?_
    refine R_getR (pc' := 15) (q := (some this)) fl_X9_41 rfl dX9_force_12 rfl (fun book2 => ?_)
    refine R_getI (pc' := 18) (q := book2) fl_X9_104 rfl dX9_force_15 rfl (fun force3 => ?_)
    refine R_istore_n (pc' := 19) (L' := [(2, .int force3), (0, va_rf (some this)), (1, .int l1)]) (i := 2) (x := force3) dX9_force_18 rfl rfl (by decide) rfl ?_
    refine R_aloadq_n (pc' := 20) (i := 0) (j := 1) (q := (some this)) dX9_force_19 rfl rfl rfl ?_
    refine R_getR (pc' := 23) (q := (some this)) fl_X9_41 rfl dX9_force_20 rfl (fun book4 => ?_)
    refine R_iload_n (pc' := 24) (i := 1) (j := 2) (x := l1) dX9_force_23 rfl rfl rfl ?_
    refine R_putI (pc' := 27) (q := book4) (x := l1) fl_X9_104 (Or.inl rfl) dX9_force_24 rfl (fun M => ?_)
    refine R_iload_n (pc' := 28) (i := 2) (j := 0) (x := force3) dX9_force_27 rfl rfl rfl ?_
    exact R_iret dX9_force_28
  · refine R_bipush (pc' := 10) (x := (-2 : Int32)) dX9_force_8 rfl (by decide) ?_
    exact R_iret dX9_force_10
/-! BarPilot.isJoke(I)Z -/
def f_X9_isJoke_J23 (this : Nat) (s0 : Int32) (M : Mem) : Option (Int32 × Mem) :=
  ckZ s0 (some (s0, M))
set_option maxHeartbeats 2000000 in
set_option maxRecDepth 20000 in
theorem rf_X9_isJoke_J23 (this : Nat) (s0 : Int32) (M : Mem) : RF yX9_isJoke cX9_isJoke 2 (some .boolean) 1 eI (f_X9_isJoke_J23 this s0 M) 23 [] [.int s0] M := by
  rw [f_X9_isJoke_J23]
  exact R_bret dX9_isJoke_23
def f_X9_isJoke_J22 (this : Nat) (M : Mem) : Option (Int32 × Mem) :=
  f_X9_isJoke_J23 this (nI 0) M
set_option maxHeartbeats 2000000 in
set_option maxRecDepth 20000 in
theorem rf_X9_isJoke_J22 (this : Nat) (M : Mem) : RF yX9_isJoke cX9_isJoke 2 (some .boolean) 1 eI (f_X9_isJoke_J22 this M) 22 [] [] M := by
  rw [f_X9_isJoke_J22]
  refine R_iconst (pc' := 23) (x := (nI 0)) dX9_isJoke_22 rfl (by decide) ?_
  exact R_sub [] rfl (rf_X9_isJoke_J23 this (nI 0) M)
def f_X9_isJoke (this : Nat) (l1 : Int32) (M : Mem) : Option (Int32 × Mem) :=
  (if l1 < 0 then
    (f_X9_isJoke_J22 this M)
  else
    ((gR M 9 4 (some this)).bind fun book1 =>
    (gR M 2 0 book1).bind fun told2 =>
    (gI M 8 3 told2).bind fun jokes3 =>
    (if jokes3 ≤ l1 then
      (f_X9_isJoke_J22 this M)
    else
      (f_X9_isJoke_J23 this (nI 1) M))))
set_option maxHeartbeats 2000000 in
set_option maxRecDepth 20000 in
theorem rm_X9_isJoke (this : Nat) (l1 : Int32) (M : Mem) : RFm yX9_isJoke cX9_isJoke 2 (some .boolean) 1 eI (f_X9_isJoke this l1 M) [va_rf (some this), .int l1] M := by
  refine RFm_of (L := [(0, va_rf (some this)), (1, .int l1)]) (by decide) rfl (Nat.le_trans (c_R (c_I c_0)) (by decide)) ?_
  rw [f_X9_isJoke]
  refine R_iload_n (pc' := 1) (i := 1) (j := 1) (x := l1) dX9_isJoke_0 rfl rfl rfl ?_
  refine R_if_lt (pc' := 4) (tgt := 22) (a := l1) dX9_isJoke_1 (by decide) rfl ?_ ?_
  · exact R_sub [] rfl (rf_X9_isJoke_J22 this M)
  · refine R_iload_n (pc' := 5) (i := 1) (j := 1) (x := l1) dX9_isJoke_4 rfl rfl rfl ?_
    refine R_aloadq_n (pc' := 6) (i := 0) (j := 0) (q := (some this)) dX9_isJoke_5 rfl rfl rfl ?_
    refine R_getR (pc' := 9) (q := (some this)) fl_X9_41 rfl dX9_isJoke_6 rfl (fun book1 => ?_)
    refine R_getR (pc' := 12) (q := book1) fl_X9_51 rfl dX9_isJoke_9 rfl (fun told2 => ?_)
    refine R_getI (pc' := 15) (q := told2) fl_X9_153 rfl dX9_isJoke_12 rfl (fun jokes3 => ?_)
    refine R_icmp_ge (pc' := 18) (tgt := 22) (a := l1) (b := jokes3) dX9_isJoke_15 (by decide) rfl ?_ ?_
    · exact R_sub [] rfl (rf_X9_isJoke_J22 this M)
    · refine R_iconst (pc' := 19) (x := (nI 1)) dX9_isJoke_18 rfl (by decide) ?_
      refine R_goto (tgt := 23) dX9_isJoke_19 (by decide) ?_
      exact R_sub [] rfl (rf_X9_isJoke_J23 this (nI 1) M)
/-! BarPilot.joke(II)I -/
def f_X9_joke_J68 (this : Nat) (l1 : Int32) (l2 : Int32) (M : Mem) : Option (Int32 × Mem) :=
  (gR M 9 4 (some this)).bind fun book1 =>
  (gR M 2 0 book1).bind fun told2 =>
  (gR M 8 5 told2).bind fun part3 =>
  (aI M 0 part3 (((nI 3) * l1) + l2)).bind fun e4 =>
  some (e4, M)
set_option maxHeartbeats 2000000 in
set_option maxRecDepth 20000 in
theorem rf_X9_joke_J68 (this : Nat) (l1 : Int32) (l2 : Int32) (M : Mem) : RF yX9_joke cX9_joke 4 (some .int) 2 eI (f_X9_joke_J68 this l1 l2 M) 68 [(0, va_rf (some this)), (1, .int l1), (2, .int l2)] [] M := by
  rw [f_X9_joke_J68]
  refine R_aloadq_n (pc' := 69) (i := 0) (j := 0) (q := (some this)) dX9_joke_68 rfl rfl rfl ?_
  refine R_getR (pc' := 72) (q := (some this)) fl_X9_41 rfl dX9_joke_69 rfl (fun book1 => ?_)
  refine R_getR (pc' := 75) (q := book1) fl_X9_51 rfl dX9_joke_72 rfl (fun told2 => ?_)
  refine R_getR (pc' := 78) (q := told2) fl_X9_118 rfl dX9_joke_75 rfl (fun part3 => ?_)
  refine R_iconst (pc' := 79) (x := (nI 3)) dX9_joke_78 rfl (by decide) ?_
  refine R_iload_n (pc' := 80) (i := 1) (j := 1) (x := l1) dX9_joke_79 rfl rfl rfl ?_
  refine R_imul (pc' := 81) (a := (nI 3)) (b := l1) dX9_joke_80 rfl ?_
  refine R_iload_n (pc' := 82) (i := 2) (j := 2) (x := l2) dX9_joke_81 rfl rfl rfl ?_
  refine R_iadd (pc' := 83) (a := ((nI 3) * l1)) (b := l2) dX9_joke_82 rfl ?_
  refine R_iald (pc' := 84) (q := part3) (i := (((nI 3) * l1) + l2)) dX9_joke_83 rfl (fun e4 => ?_)
  exact R_iret dX9_joke_84
def f_X9_joke_J111 (this : Nat) (s0 : Int32) (M : Mem) : Option (Int32 × Mem) :=
  some (s0, M)
set_option maxHeartbeats 2000000 in
set_option maxRecDepth 20000 in
theorem rf_X9_joke_J111 (this : Nat) (s0 : Int32) (M : Mem) : RF yX9_joke cX9_joke 4 (some .int) 2 eI (f_X9_joke_J111 this s0 M) 111 [] [.int s0] M := by
  rw [f_X9_joke_J111]
  exact R_iret dX9_joke_111
def f_X9_joke (this : Nat) (l1 : Int32) (l2 : Int32) (M : Mem) : Option (Int32 × Mem) :=
  (oO M 9 (some this)).bind fun o16 => cl (f_X9_isJoke o16 l1 M) fun r1 M =>
  (if r1 = 0 then
    (some ((-1 : Int32), M))
  else
    ((gR M 9 4 (some this)).bind fun book2 =>
    (gR M 2 0 book2).bind fun told3 =>
    (gR M 9 4 (some this)).bind fun book4 =>
    (gR M 2 1 book4).bind fun scene5 =>
    (oO M 8 told3).bind fun o15 => cl (f_X8_remembered o15 scene5 M) fun r6 M =>
    (tsw l2 (0) [
      (f_X9_joke_J68 this l1 l2 M),
      (f_X9_joke_J68 this l1 l2 M),
      (f_X9_joke_J68 this l1 l2 M),
      (some (((r6 >>> (l1 &&& 31)) &&& (nI 1)), M)),
      ((gR M 9 4 (some this)).bind fun book7 =>
      (gR M 2 0 book7).bind fun told8 =>
      (oO M 8 told8).bind fun o10 => cl (f_X8_isNew o10 l1 r6 M) fun r9 M =>
      (if r9 = 0 then
        (f_X9_joke_J111 this (nI 0) M)
      else
        (f_X9_joke_J111 this (nI 1) M))),
      ((gR M 9 4 (some this)).bind fun book11 =>
      (gR M 2 1 book11).bind fun scene12 =>
      (oO M 6 scene12).bind fun o14 => cl (f_X6_since o14 l1 M) fun r13 M =>
      some (r13, M))]
      (some ((-1 : Int32), M)))))
set_option maxHeartbeats 2000000 in
set_option maxRecDepth 20000 in
theorem rm_X9_joke (this : Nat) (l1 : Int32) (l2 : Int32) (M : Mem) : RFm yX9_joke cX9_joke 4 (some .int) 2 eI (f_X9_joke this l1 l2 M) [va_rf (some this), .int l1, .int l2] M := by
  refine RFm_of (L := [(0, va_rf (some this)), (1, .int l1), (2, .int l2)]) (by decide) rfl (Nat.le_trans (c_R (c_I (c_I c_0))) (by decide)) ?_
  rw [f_X9_joke]
  refine R_aloadq_n (pc' := 1) (i := 0) (j := 0) (q := (some this)) dX9_joke_0 rfl rfl rfl ?_
  refine R_iload_n (pc' := 2) (i := 1) (j := 1) (x := l1) dX9_joke_1 rfl rfl rfl ?_
  refine R_callV_I (pc' := 5) (q := (some this)) (As := [.int l1]) (fun o16 => rm_X9_isJoke o16 l1 M) mf_X9_isJoke lk_X9_107 im_X9_isJoke se_X9_isJoke rfl rfl rfl dX9_joke_2 rfl (by decide) (Nat.le_trans c_0 (by decide)) (fun r1 M => ?_)
  refine R_if_ne (pc' := 8) (tgt := 10) (a := r1) dX9_joke_5 (by decide) rfl ?_ ?_
  · refine R_aloadq_n (pc' := 11) (i := 0) (j := 0) (q := (some this)) dX9_joke_10 rfl rfl rfl ?_
    refine R_getR (pc' := 14) (q := (some this)) fl_X9_41 rfl dX9_joke_11 rfl (fun book2 => ?_)
    refine R_getR (pc' := 17) (q := book2) fl_X9_51 rfl dX9_joke_14 rfl (fun told3 => ?_)
    refine R_aloadq_n (pc' := 18) (i := 0) (j := 0) (q := (some this)) dX9_joke_17 rfl rfl rfl ?_
    refine R_getR (pc' := 21) (q := (some this)) fl_X9_41 rfl dX9_joke_18 rfl (fun book4 => ?_)
    refine R_getR (pc' := 24) (q := book4) fl_X9_110 rfl dX9_joke_21 rfl (fun scene5 => ?_)
    refine R_callV_I (pc' := 27) (q := told3) (As := [va_rf scene5]) (fun o15 => rm_X8_remembered o15 scene5 M) mf_X8_remembered lk_X9_114 im_X8_remembered se_X8_remembered rfl rfl rfl dX9_joke_24 rfl (by decide) (Nat.le_trans c_0 (by decide)) (fun r6 M => ?_)
    refine R_istore_n (pc' := 28) (L' := [(3, .int r6), (0, va_rf (some this)), (1, .int l1), (2, .int l2)]) (i := 3) (x := r6) dX9_joke_27 rfl rfl (by decide) rfl ?_
    refine R_iload_n (pc' := 29) (i := 2) (j := 3) (x := l2) dX9_joke_28 rfl rfl rfl ?_
    refine R_tsw (tgt := 124) (x := l2) dX9_joke_29 rfl (by decide) ?_ ⟨⟨68, by decide, ?_⟩, ⟨68, by decide, ?_⟩, ⟨68, by decide, ?_⟩, ⟨85, by decide, ?_⟩, ⟨91, by decide, ?_⟩, ⟨112, by decide, ?_⟩, trivial⟩
    · refine R_iconst (pc' := 125) (x := (-1 : Int32)) dX9_joke_124 rfl (by decide) ?_
      exact R_iret dX9_joke_125
    · exact R_sub [1, 2, 3] rfl (rf_X9_joke_J68 this l1 l2 M)
    · exact R_sub [1, 2, 3] rfl (rf_X9_joke_J68 this l1 l2 M)
    · exact R_sub [1, 2, 3] rfl (rf_X9_joke_J68 this l1 l2 M)
    · refine R_iload_n (pc' := 86) (i := 3) (j := 0) (x := r6) dX9_joke_85 rfl rfl rfl ?_
      refine R_iload_n (pc' := 87) (i := 1) (j := 2) (x := l1) dX9_joke_86 rfl rfl rfl ?_
      refine R_ishr (pc' := 88) (a := r6) (b := l1) dX9_joke_87 rfl ?_
      refine R_iconst (pc' := 89) (x := (nI 1)) dX9_joke_88 rfl (by decide) ?_
      refine R_iand (pc' := 90) (a := (r6 >>> (l1 &&& 31))) (b := (nI 1)) dX9_joke_89 rfl ?_
      exact R_iret dX9_joke_90
    · refine R_aloadq_n (pc' := 92) (i := 0) (j := 1) (q := (some this)) dX9_joke_91 rfl rfl rfl ?_
      refine R_getR (pc' := 95) (q := (some this)) fl_X9_41 rfl dX9_joke_92 rfl (fun book7 => ?_)
      refine R_getR (pc' := 98) (q := book7) fl_X9_51 rfl dX9_joke_95 rfl (fun told8 => ?_)
      refine R_iload_n (pc' := 99) (i := 1) (j := 2) (x := l1) dX9_joke_98 rfl rfl rfl ?_
      refine R_iload_n (pc' := 100) (i := 3) (j := 0) (x := r6) dX9_joke_99 rfl rfl rfl ?_
      refine R_callV_I (pc' := 103) (q := told8) (As := [.int l1, .int r6]) (fun o10 => rm_X8_isNew o10 l1 r6 M) mf_X8_isNew lk_X9_122 im_X8_isNew se_X8_isNew rfl rfl rfl dX9_joke_100 rfl (by decide) (Nat.le_trans c_0 (by decide)) (fun r9 M => ?_)
      refine R_if_eq (pc' := 106) (tgt := 110) (a := r9) dX9_joke_103 (by decide) rfl ?_ ?_
      · refine R_iconst (pc' := 111) (x := (nI 0)) dX9_joke_110 rfl (by decide) ?_
        exact R_sub [] rfl (rf_X9_joke_J111 this (nI 0) M)
      · refine R_iconst (pc' := 107) (x := (nI 1)) dX9_joke_106 rfl (by decide) ?_
        refine R_goto (tgt := 111) dX9_joke_107 (by decide) ?_
        exact R_sub [] rfl (rf_X9_joke_J111 this (nI 1) M)
    · refine R_aloadq_n (pc' := 113) (i := 0) (j := 1) (q := (some this)) dX9_joke_112 rfl rfl rfl ?_
      refine R_getR (pc' := 116) (q := (some this)) fl_X9_41 rfl dX9_joke_113 rfl (fun book11 => ?_)
      refine R_getR (pc' := 119) (q := book11) fl_X9_110 rfl dX9_joke_116 rfl (fun scene12 => ?_)
      refine R_iload_n (pc' := 120) (i := 1) (j := 2) (x := l1) dX9_joke_119 rfl rfl rfl ?_
      refine R_callV_I (pc' := 123) (q := scene12) (As := [.int l1]) (fun o14 => rm_X6_since o14 l1 M) mf_X6_since lk_X9_126 im_X6_since se_X6_since rfl rfl rfl dX9_joke_120 rfl (by decide) (Nat.le_trans c_0 (by decide)) (fun r13 M => ?_)
      exact R_iret dX9_joke_123
  · refine R_iconst (pc' := 9) (x := (-1 : Int32)) dX9_joke_8 rfl (by decide) ?_
    exact R_iret dX9_joke_9
/-! BarPilot.isShip(I)Z -/
def f_X9_isShip_J23 (this : Nat) (s0 : Int32) (M : Mem) : Option (Int32 × Mem) :=
  ckZ s0 (some (s0, M))
set_option maxHeartbeats 2000000 in
set_option maxRecDepth 20000 in
theorem rf_X9_isShip_J23 (this : Nat) (s0 : Int32) (M : Mem) : RF yX9_isShip cX9_isShip 2 (some .boolean) 1 eI (f_X9_isShip_J23 this s0 M) 23 [] [.int s0] M := by
  rw [f_X9_isShip_J23]
  exact R_bret dX9_isShip_23
def f_X9_isShip_J22 (this : Nat) (M : Mem) : Option (Int32 × Mem) :=
  f_X9_isShip_J23 this (nI 0) M
set_option maxHeartbeats 2000000 in
set_option maxRecDepth 20000 in
theorem rf_X9_isShip_J22 (this : Nat) (M : Mem) : RF yX9_isShip cX9_isShip 2 (some .boolean) 1 eI (f_X9_isShip_J22 this M) 22 [] [] M := by
  rw [f_X9_isShip_J22]
  refine R_iconst (pc' := 23) (x := (nI 0)) dX9_isShip_22 rfl (by decide) ?_
  exact R_sub [] rfl (rf_X9_isShip_J23 this (nI 0) M)
def f_X9_isShip (this : Nat) (l1 : Int32) (M : Mem) : Option (Int32 × Mem) :=
  (if l1 < 0 then
    (f_X9_isShip_J22 this M)
  else
    ((gR M 9 4 (some this)).bind fun book1 =>
    (gR M 2 0 book1).bind fun told2 =>
    (gI M 8 4 told2).bind fun ships3 =>
    (if ships3 ≤ l1 then
      (f_X9_isShip_J22 this M)
    else
      (f_X9_isShip_J23 this (nI 1) M))))
set_option maxHeartbeats 2000000 in
set_option maxRecDepth 20000 in
theorem rm_X9_isShip (this : Nat) (l1 : Int32) (M : Mem) : RFm yX9_isShip cX9_isShip 2 (some .boolean) 1 eI (f_X9_isShip this l1 M) [va_rf (some this), .int l1] M := by
  refine RFm_of (L := [(0, va_rf (some this)), (1, .int l1)]) (by decide) rfl (Nat.le_trans (c_R (c_I c_0)) (by decide)) ?_
  rw [f_X9_isShip]
  refine R_iload_n (pc' := 1) (i := 1) (j := 1) (x := l1) dX9_isShip_0 rfl rfl rfl ?_
  refine R_if_lt (pc' := 4) (tgt := 22) (a := l1) dX9_isShip_1 (by decide) rfl ?_ ?_
  · exact R_sub [] rfl (rf_X9_isShip_J22 this M)
  · refine R_iload_n (pc' := 5) (i := 1) (j := 1) (x := l1) dX9_isShip_4 rfl rfl rfl ?_
    refine R_aloadq_n (pc' := 6) (i := 0) (j := 0) (q := (some this)) dX9_isShip_5 rfl rfl rfl ?_
    refine R_getR (pc' := 9) (q := (some this)) fl_X9_41 rfl dX9_isShip_6 rfl (fun book1 => ?_)
    refine R_getR (pc' := 12) (q := book1) fl_X9_51 rfl dX9_isShip_9 rfl (fun told2 => ?_)
    refine R_getI (pc' := 15) (q := told2) fl_X9_90 rfl dX9_isShip_12 rfl (fun ships3 => ?_)
    refine R_icmp_ge (pc' := 18) (tgt := 22) (a := l1) (b := ships3) dX9_isShip_15 (by decide) rfl ?_ ?_
    · exact R_sub [] rfl (rf_X9_isShip_J22 this M)
    · refine R_iconst (pc' := 19) (x := (nI 1)) dX9_isShip_18 rfl (by decide) ?_
      refine R_goto (tgt := 23) dX9_isShip_19 (by decide) ?_
      exact R_sub [] rfl (rf_X9_isShip_J23 this (nI 1) M)
/-! BarPilot.ship(II)I -/
def f_X9_ship (this : Nat) (l1 : Int32) (l2 : Int32) (M : Mem) : Option (Int32 × Mem) :=
  (oO M 9 (some this)).bind fun o18 => cl (f_X9_isShip o18 l1 M) fun r1 M =>
  (if r1 = 0 then
    (some ((-2 : Int32), M))
  else
    ((tsw l2 (0) [
      ((gR M 9 4 (some this)).bind fun book2 =>
      (gR M 2 0 book2).bind fun told3 =>
      (gR M 8 6 told3).bind fun cargo4 =>
      (aI M 0 cargo4 l1).bind fun e5 =>
      some (e5, M)),
      ((gR M 9 4 (some this)).bind fun book6 =>
      (gR M 2 0 book6).bind fun told7 =>
      (gR M 8 7 told7).bind fun keeps8 =>
      (aI M 0 keeps8 l1).bind fun e9 =>
      some (e9, M)),
      ((gR M 9 4 (some this)).bind fun book10 =>
      (gR M 2 1 book10).bind fun scene11 =>
      (gR M 6 2 scene11).bind fun knows12 =>
      (aI M 0 knows12 l1).bind fun e13 =>
      some (e13, M)),
      ((gR M 9 4 (some this)).bind fun book14 =>
      (gR M 2 1 book14).bind fun scene15 =>
      (gR M 6 3 scene15).bind fun passed16 =>
      (aI M 0 passed16 l1).bind fun e17 =>
      some (e17, M))]
      (some ((-2 : Int32), M)))))
set_option maxHeartbeats 2000000 in
set_option maxRecDepth 20000 in
theorem rm_X9_ship (this : Nat) (l1 : Int32) (l2 : Int32) (M : Mem) : RFm yX9_ship cX9_ship 3 (some .int) 2 eI (f_X9_ship this l1 l2 M) [va_rf (some this), .int l1, .int l2] M := by
  refine RFm_of (L := [(0, va_rf (some this)), (1, .int l1), (2, .int l2)]) (by decide) rfl (Nat.le_trans (c_R (c_I (c_I c_0))) (by decide)) ?_
  rw [f_X9_ship]
  refine R_aloadq_n (pc' := 1) (i := 0) (j := 0) (q := (some this)) dX9_ship_0 rfl rfl rfl ?_
  refine R_iload_n (pc' := 2) (i := 1) (j := 1) (x := l1) dX9_ship_1 rfl rfl rfl ?_
  refine R_callV_I (pc' := 5) (q := (some this)) (As := [.int l1]) (fun o18 => rm_X9_isShip o18 l1 M) mf_X9_isShip lk_X9_132 im_X9_isShip se_X9_isShip rfl rfl rfl dX9_ship_2 rfl (by decide) (Nat.le_trans c_0 (by decide)) (fun r1 M => ?_)
  refine R_if_ne (pc' := 8) (tgt := 11) (a := r1) dX9_ship_5 (by decide) rfl ?_ ?_
  · refine R_iload_n (pc' := 12) (i := 2) (j := 2) (x := l2) dX9_ship_11 rfl rfl rfl ?_
    refine R_tsw (tgt := 96) (x := l2) dX9_ship_12 rfl (by decide) ?_ ⟨⟨44, by decide, ?_⟩, ⟨57, by decide, ?_⟩, ⟨70, by decide, ?_⟩, ⟨83, by decide, ?_⟩, trivial⟩
    · refine R_bipush (pc' := 98) (x := (-2 : Int32)) dX9_ship_96 rfl (by decide) ?_
      exact R_iret dX9_ship_98
    · refine R_aloadq_n (pc' := 45) (i := 0) (j := 0) (q := (some this)) dX9_ship_44 rfl rfl rfl ?_
      refine R_getR (pc' := 48) (q := (some this)) fl_X9_41 rfl dX9_ship_45 rfl (fun book2 => ?_)
      refine R_getR (pc' := 51) (q := book2) fl_X9_51 rfl dX9_ship_48 rfl (fun told3 => ?_)
      refine R_getR (pc' := 54) (q := told3) fl_X9_135 rfl dX9_ship_51 rfl (fun cargo4 => ?_)
      refine R_iload_n (pc' := 55) (i := 1) (j := 1) (x := l1) dX9_ship_54 rfl rfl rfl ?_
      refine R_iald (pc' := 56) (q := cargo4) (i := l1) dX9_ship_55 rfl (fun e5 => ?_)
      exact R_iret dX9_ship_56
    · refine R_aloadq_n (pc' := 58) (i := 0) (j := 0) (q := (some this)) dX9_ship_57 rfl rfl rfl ?_
      refine R_getR (pc' := 61) (q := (some this)) fl_X9_41 rfl dX9_ship_58 rfl (fun book6 => ?_)
      refine R_getR (pc' := 64) (q := book6) fl_X9_51 rfl dX9_ship_61 rfl (fun told7 => ?_)
      refine R_getR (pc' := 67) (q := told7) fl_X9_138 rfl dX9_ship_64 rfl (fun keeps8 => ?_)
      refine R_iload_n (pc' := 68) (i := 1) (j := 1) (x := l1) dX9_ship_67 rfl rfl rfl ?_
      refine R_iald (pc' := 69) (q := keeps8) (i := l1) dX9_ship_68 rfl (fun e9 => ?_)
      exact R_iret dX9_ship_69
    · refine R_aloadq_n (pc' := 71) (i := 0) (j := 0) (q := (some this)) dX9_ship_70 rfl rfl rfl ?_
      refine R_getR (pc' := 74) (q := (some this)) fl_X9_41 rfl dX9_ship_71 rfl (fun book10 => ?_)
      refine R_getR (pc' := 77) (q := book10) fl_X9_110 rfl dX9_ship_74 rfl (fun scene11 => ?_)
      refine R_getR (pc' := 80) (q := scene11) fl_X9_141 rfl dX9_ship_77 rfl (fun knows12 => ?_)
      refine R_iload_n (pc' := 81) (i := 1) (j := 1) (x := l1) dX9_ship_80 rfl rfl rfl ?_
      refine R_iald (pc' := 82) (q := knows12) (i := l1) dX9_ship_81 rfl (fun e13 => ?_)
      exact R_iret dX9_ship_82
    · refine R_aloadq_n (pc' := 84) (i := 0) (j := 0) (q := (some this)) dX9_ship_83 rfl rfl rfl ?_
      refine R_getR (pc' := 87) (q := (some this)) fl_X9_41 rfl dX9_ship_84 rfl (fun book14 => ?_)
      refine R_getR (pc' := 90) (q := book14) fl_X9_110 rfl dX9_ship_87 rfl (fun scene15 => ?_)
      refine R_getR (pc' := 93) (q := scene15) fl_X9_144 rfl dX9_ship_90 rfl (fun passed16 => ?_)
      refine R_iload_n (pc' := 94) (i := 1) (j := 1) (x := l1) dX9_ship_93 rfl rfl rfl ?_
      refine R_iald (pc' := 95) (q := passed16) (i := l1) dX9_ship_94 rfl (fun e17 => ?_)
      exact R_iret dX9_ship_95
  · refine R_bipush (pc' := 10) (x := (-2 : Int32)) dX9_ship_8 rfl (by decide) ?_
    exact R_iret dX9_ship_10
/-! BarPilot.count(I)I -/
def f_X9_count (this : Nat) (l1 : Int32) (M : Mem) : Option (Int32 × Mem) :=
  (tsw l1 (0) [
    ((gR M 9 4 (some this)).bind fun book1 =>
    (gR M 2 0 book1).bind fun told2 =>
    (gI M 8 1 told2).bind fun fades3 =>
    some (fades3, M)),
    ((gR M 9 4 (some this)).bind fun book4 =>
    (gR M 2 0 book4).bind fun told5 =>
    (gI M 8 2 told5).bind fun like6 =>
    some (like6, M)),
    ((gR M 9 4 (some this)).bind fun book7 =>
    (gR M 2 0 book7).bind fun told8 =>
    (gI M 8 3 told8).bind fun jokes9 =>
    some (jokes9, M)),
    ((gR M 9 4 (some this)).bind fun book10 =>
    (gR M 2 0 book10).bind fun told11 =>
    (gI M 8 4 told11).bind fun ships12 =>
    some (ships12, M)),
    ((gI M 9 8 (some this)).bind fun ruleCount13 =>
    some (ruleCount13, M)),
    ((gR M 9 4 (some this)).bind fun book14 =>
    (gI M 2 8 book14).bind fun force15 =>
    some (force15, M)),
    ((gR M 9 4 (some this)).bind fun book16 =>
    (gR M 2 1 book16).bind fun scene17 =>
    (gI M 6 0 scene17).bind fun tide18 =>
    some (tide18, M)),
    ((gR M 9 4 (some this)).bind fun book19 =>
    (gR M 2 0 book19).bind fun told20 =>
    (gR M 9 4 (some this)).bind fun book21 =>
    (gR M 2 1 book21).bind fun scene22 =>
    (oO M 8 told20).bind fun o24 => cl (f_X8_earned o24 scene22 M) fun r23 M =>
    some (r23, M)),
    ((gR M 9 4 (some this)).bind fun book25 =>
    (gR M 2 0 book25).bind fun told26 =>
    (gR M 9 4 (some this)).bind fun book27 =>
    (gR M 2 1 book27).bind fun scene28 =>
    (oO M 8 told26).bind fun o30 => cl (f_X8_waiting o30 scene28 M) fun r29 M =>
    some (r29, M)),
    ((gR M 9 4 (some this)).bind fun book31 =>
    (gR M 2 0 book31).bind fun told32 =>
    (gR M 9 4 (some this)).bind fun book33 =>
    (gR M 2 1 book33).bind fun scene34 =>
    (oO M 8 told32).bind fun o36 => cl (f_X8_remembered o36 scene34 M) fun r35 M =>
    some (r35, M)),
    ((gR M 9 4 (some this)).bind fun book37 =>
    (gI M 2 5 book37).bind fun notes38 =>
    some (notes38, M)),
    ((gR M 9 4 (some this)).bind fun book39 =>
    (gI M 2 6 book39).bind fun acts40 =>
    some (acts40, M)),
    ((gR M 9 4 (some this)).bind fun book41 =>
    (gI M 2 7 book41).bind fun x42 =>
    some (x42, M)),
    ((gR M 9 0 (some this)).bind fun tape43 =>
    (gI M 7 1 tape43).bind fun length44 =>
    some (length44, M))]
    (some ((-1 : Int32), M)))
set_option maxHeartbeats 2000000 in
set_option maxRecDepth 20000 in
theorem rm_X9_count (this : Nat) (l1 : Int32) (M : Mem) : RFm yX9_count cX9_count 2 (some .int) 3 eI (f_X9_count this l1 M) [va_rf (some this), .int l1] M := by
  refine RFm_of (L := [(0, va_rf (some this)), (1, .int l1)]) (by decide) rfl (Nat.le_trans (c_R (c_I c_0)) (by decide)) ?_
  rw [f_X9_count]
  refine R_iload_n (pc' := 1) (i := 1) (j := 1) (x := l1) dX9_count_0 rfl rfl rfl ?_
  refine R_tsw (tgt := 226) (x := l1) dX9_count_1 rfl (by decide) ?_ ⟨⟨72, by decide, ?_⟩, ⟨83, by decide, ?_⟩, ⟨94, by decide, ?_⟩, ⟨105, by decide, ?_⟩, ⟨116, by decide, ?_⟩, ⟨121, by decide, ?_⟩, ⟨129, by decide, ?_⟩, ⟨140, by decide, ?_⟩, ⟨158, by decide, ?_⟩, ⟨176, by decide, ?_⟩, ⟨194, by decide, ?_⟩, ⟨202, by decide, ?_⟩, ⟨210, by decide, ?_⟩, ⟨218, by decide, ?_⟩, trivial⟩
  · refine R_iconst (pc' := 227) (x := (-1 : Int32)) dX9_count_226 rfl (by decide) ?_
    exact R_iret dX9_count_227
  · refine R_aloadq_n (pc' := 73) (i := 0) (j := 0) (q := (some this)) dX9_count_72 rfl rfl rfl ?_
    refine R_getR (pc' := 76) (q := (some this)) fl_X9_41 rfl dX9_count_73 rfl (fun book1 => ?_)
    refine R_getR (pc' := 79) (q := book1) fl_X9_51 rfl dX9_count_76 rfl (fun told2 => ?_)
    refine R_getI (pc' := 82) (q := told2) fl_X9_147 rfl dX9_count_79 rfl (fun fades3 => ?_)
    exact R_iret dX9_count_82
  · refine R_aloadq_n (pc' := 84) (i := 0) (j := 0) (q := (some this)) dX9_count_83 rfl rfl rfl ?_
    refine R_getR (pc' := 87) (q := (some this)) fl_X9_41 rfl dX9_count_84 rfl (fun book4 => ?_)
    refine R_getR (pc' := 90) (q := book4) fl_X9_51 rfl dX9_count_87 rfl (fun told5 => ?_)
    refine R_getI (pc' := 93) (q := told5) fl_X9_150 rfl dX9_count_90 rfl (fun like6 => ?_)
    exact R_iret dX9_count_93
  · refine R_aloadq_n (pc' := 95) (i := 0) (j := 0) (q := (some this)) dX9_count_94 rfl rfl rfl ?_
    refine R_getR (pc' := 98) (q := (some this)) fl_X9_41 rfl dX9_count_95 rfl (fun book7 => ?_)
    refine R_getR (pc' := 101) (q := book7) fl_X9_51 rfl dX9_count_98 rfl (fun told8 => ?_)
    refine R_getI (pc' := 104) (q := told8) fl_X9_153 rfl dX9_count_101 rfl (fun jokes9 => ?_)
    exact R_iret dX9_count_104
  · refine R_aloadq_n (pc' := 106) (i := 0) (j := 0) (q := (some this)) dX9_count_105 rfl rfl rfl ?_
    refine R_getR (pc' := 109) (q := (some this)) fl_X9_41 rfl dX9_count_106 rfl (fun book10 => ?_)
    refine R_getR (pc' := 112) (q := book10) fl_X9_51 rfl dX9_count_109 rfl (fun told11 => ?_)
    refine R_getI (pc' := 115) (q := told11) fl_X9_90 rfl dX9_count_112 rfl (fun ships12 => ?_)
    exact R_iret dX9_count_115
  · refine R_aloadq_n (pc' := 117) (i := 0) (j := 0) (q := (some this)) dX9_count_116 rfl rfl rfl ?_
    refine R_getI (pc' := 120) (q := (some this)) fl_X9_71 rfl dX9_count_117 rfl (fun ruleCount13 => ?_)
    exact R_iret dX9_count_120
  · refine R_aloadq_n (pc' := 122) (i := 0) (j := 0) (q := (some this)) dX9_count_121 rfl rfl rfl ?_
    refine R_getR (pc' := 125) (q := (some this)) fl_X9_41 rfl dX9_count_122 rfl (fun book14 => ?_)
    refine R_getI (pc' := 128) (q := book14) fl_X9_104 rfl dX9_count_125 rfl (fun force15 => ?_)
    exact R_iret dX9_count_128
  · refine R_aloadq_n (pc' := 130) (i := 0) (j := 0) (q := (some this)) dX9_count_129 rfl rfl rfl ?_
    refine R_getR (pc' := 133) (q := (some this)) fl_X9_41 rfl dX9_count_130 rfl (fun book16 => ?_)
    refine R_getR (pc' := 136) (q := book16) fl_X9_110 rfl dX9_count_133 rfl (fun scene17 => ?_)
    refine R_getI (pc' := 139) (q := scene17) fl_X9_156 rfl dX9_count_136 rfl (fun tide18 => ?_)
    exact R_iret dX9_count_139
  · refine R_aloadq_n (pc' := 141) (i := 0) (j := 0) (q := (some this)) dX9_count_140 rfl rfl rfl ?_
    refine R_getR (pc' := 144) (q := (some this)) fl_X9_41 rfl dX9_count_141 rfl (fun book19 => ?_)
    refine R_getR (pc' := 147) (q := book19) fl_X9_51 rfl dX9_count_144 rfl (fun told20 => ?_)
    refine R_aloadq_n (pc' := 148) (i := 0) (j := 0) (q := (some this)) dX9_count_147 rfl rfl rfl ?_
    refine R_getR (pc' := 151) (q := (some this)) fl_X9_41 rfl dX9_count_148 rfl (fun book21 => ?_)
    refine R_getR (pc' := 154) (q := book21) fl_X9_110 rfl dX9_count_151 rfl (fun scene22 => ?_)
    refine R_callV_I (pc' := 157) (q := told20) (As := [va_rf scene22]) (fun o24 => rm_X8_earned o24 scene22 M) mf_X8_earned lk_X9_159 im_X8_earned se_X8_earned rfl rfl rfl dX9_count_154 rfl (by decide) (Nat.le_trans c_0 (by decide)) (fun r23 M => ?_)
    exact R_iret dX9_count_157
  · refine R_aloadq_n (pc' := 159) (i := 0) (j := 0) (q := (some this)) dX9_count_158 rfl rfl rfl ?_
    refine R_getR (pc' := 162) (q := (some this)) fl_X9_41 rfl dX9_count_159 rfl (fun book25 => ?_)
    refine R_getR (pc' := 165) (q := book25) fl_X9_51 rfl dX9_count_162 rfl (fun told26 => ?_)
    refine R_aloadq_n (pc' := 166) (i := 0) (j := 0) (q := (some this)) dX9_count_165 rfl rfl rfl ?_
    refine R_getR (pc' := 169) (q := (some this)) fl_X9_41 rfl dX9_count_166 rfl (fun book27 => ?_)
    refine R_getR (pc' := 172) (q := book27) fl_X9_110 rfl dX9_count_169 rfl (fun scene28 => ?_)
    refine R_callV_I (pc' := 175) (q := told26) (As := [va_rf scene28]) (fun o30 => rm_X8_waiting o30 scene28 M) mf_X8_waiting lk_X9_162 im_X8_waiting se_X8_waiting rfl rfl rfl dX9_count_172 rfl (by decide) (Nat.le_trans c_0 (by decide)) (fun r29 M => ?_)
    exact R_iret dX9_count_175
  · refine R_aloadq_n (pc' := 177) (i := 0) (j := 0) (q := (some this)) dX9_count_176 rfl rfl rfl ?_
    refine R_getR (pc' := 180) (q := (some this)) fl_X9_41 rfl dX9_count_177 rfl (fun book31 => ?_)
    refine R_getR (pc' := 183) (q := book31) fl_X9_51 rfl dX9_count_180 rfl (fun told32 => ?_)
    refine R_aloadq_n (pc' := 184) (i := 0) (j := 0) (q := (some this)) dX9_count_183 rfl rfl rfl ?_
    refine R_getR (pc' := 187) (q := (some this)) fl_X9_41 rfl dX9_count_184 rfl (fun book33 => ?_)
    refine R_getR (pc' := 190) (q := book33) fl_X9_110 rfl dX9_count_187 rfl (fun scene34 => ?_)
    refine R_callV_I (pc' := 193) (q := told32) (As := [va_rf scene34]) (fun o36 => rm_X8_remembered o36 scene34 M) mf_X8_remembered lk_X9_114 im_X8_remembered se_X8_remembered rfl rfl rfl dX9_count_190 rfl (by decide) (Nat.le_trans c_0 (by decide)) (fun r35 M => ?_)
    exact R_iret dX9_count_193
  · refine R_aloadq_n (pc' := 195) (i := 0) (j := 0) (q := (some this)) dX9_count_194 rfl rfl rfl ?_
    refine R_getR (pc' := 198) (q := (some this)) fl_X9_41 rfl dX9_count_195 rfl (fun book37 => ?_)
    refine R_getI (pc' := 201) (q := book37) fl_X9_165 rfl dX9_count_198 rfl (fun notes38 => ?_)
    exact R_iret dX9_count_201
  · refine R_aloadq_n (pc' := 203) (i := 0) (j := 0) (q := (some this)) dX9_count_202 rfl rfl rfl ?_
    refine R_getR (pc' := 206) (q := (some this)) fl_X9_41 rfl dX9_count_203 rfl (fun book39 => ?_)
    refine R_getI (pc' := 209) (q := book39) fl_X9_168 rfl dX9_count_206 rfl (fun acts40 => ?_)
    exact R_iret dX9_count_209
  · refine R_aloadq_n (pc' := 211) (i := 0) (j := 0) (q := (some this)) dX9_count_210 rfl rfl rfl ?_
    refine R_getR (pc' := 214) (q := (some this)) fl_X9_41 rfl dX9_count_211 rfl (fun book41 => ?_)
    refine R_getI (pc' := 217) (q := book41) fl_X9_171 rfl dX9_count_214 rfl (fun x42 => ?_)
    exact R_iret dX9_count_217
  · refine R_aloadq_n (pc' := 219) (i := 0) (j := 0) (q := (some this)) dX9_count_218 rfl rfl rfl ?_
    refine R_getR (pc' := 222) (q := (some this)) fl_X9_10 rfl dX9_count_219 rfl (fun tape43 => ?_)
    refine R_getI (pc' := 225) (q := tape43) fl_X9_75 rfl dX9_count_222 rfl (fun length44 => ?_)
    exact R_iret dX9_count_225
/-! BarPilot.ruleAt(I)LBarPilot$Rule; -/
def f_X9_ruleAt_J22 (this : Nat) (s0 : Option Nat) (M : Mem) : Option (Option Nat × Mem) :=
  some (s0, M)
set_option maxHeartbeats 2000000 in
set_option maxRecDepth 20000 in
theorem rf_X9_ruleAt_J22 (this : Nat) (s0 : Option Nat) (M : Mem) : RF yX9_ruleAt cX9_ruleAt 2 (some (.object "BarPilot$Rule")) 1 eR (f_X9_ruleAt_J22 this s0 M) 22 [] [va_rf s0] M := by
  rw [f_X9_ruleAt_J22]
  exact R_aret (Or.inl ⟨_, rfl⟩) dX9_ruleAt_22
def f_X9_ruleAt_J21 (this : Nat) (M : Mem) : Option (Option Nat × Mem) :=
  f_X9_ruleAt_J22 this none M
set_option maxHeartbeats 2000000 in
set_option maxRecDepth 20000 in
theorem rf_X9_ruleAt_J21 (this : Nat) (M : Mem) : RF yX9_ruleAt cX9_ruleAt 2 (some (.object "BarPilot$Rule")) 1 eR (f_X9_ruleAt_J21 this M) 21 [] [] M := by
  rw [f_X9_ruleAt_J21]
  refine R_anull (pc' := 22) dX9_ruleAt_21 rfl ?_
  exact R_sub [] rfl (rf_X9_ruleAt_J22 this none M)
def f_X9_ruleAt (this : Nat) (l1 : Int32) (M : Mem) : Option (Option Nat × Mem) :=
  (if l1 < 0 then
    (f_X9_ruleAt_J21 this M)
  else
    ((gI M 9 8 (some this)).bind fun ruleCount1 =>
    (if ruleCount1 ≤ l1 then
      (f_X9_ruleAt_J21 this M)
    else
      ((gR M 9 3 (some this)).bind fun rules2 =>
      (aR M 4 rules2 l1).bind fun e3 =>
      f_X9_ruleAt_J22 this e3 M))))
set_option maxHeartbeats 2000000 in
set_option maxRecDepth 20000 in
theorem rm_X9_ruleAt (this : Nat) (l1 : Int32) (M : Mem) : RFm yX9_ruleAt cX9_ruleAt 2 (some (.object "BarPilot$Rule")) 1 eR (f_X9_ruleAt this l1 M) [va_rf (some this), .int l1] M := by
  refine RFm_of (L := [(0, va_rf (some this)), (1, .int l1)]) (by decide) rfl (Nat.le_trans (c_R (c_I c_0)) (by decide)) ?_
  rw [f_X9_ruleAt]
  refine R_iload_n (pc' := 1) (i := 1) (j := 1) (x := l1) dX9_ruleAt_0 rfl rfl rfl ?_
  refine R_if_lt (pc' := 4) (tgt := 21) (a := l1) dX9_ruleAt_1 (by decide) rfl ?_ ?_
  · exact R_sub [] rfl (rf_X9_ruleAt_J21 this M)
  · refine R_iload_n (pc' := 5) (i := 1) (j := 1) (x := l1) dX9_ruleAt_4 rfl rfl rfl ?_
    refine R_aloadq_n (pc' := 6) (i := 0) (j := 0) (q := (some this)) dX9_ruleAt_5 rfl rfl rfl ?_
    refine R_getI (pc' := 9) (q := (some this)) fl_X9_71 rfl dX9_ruleAt_6 rfl (fun ruleCount1 => ?_)
    refine R_icmp_ge (pc' := 12) (tgt := 21) (a := l1) (b := ruleCount1) dX9_ruleAt_9 (by decide) rfl ?_ ?_
    · exact R_sub [] rfl (rf_X9_ruleAt_J21 this M)
    · refine R_aloadq_n (pc' := 13) (i := 0) (j := 0) (q := (some this)) dX9_ruleAt_12 rfl rfl rfl ?_
      refine R_getR (pc' := 16) (q := (some this)) fl_X9_34 rfl dX9_ruleAt_13 rfl (fun rules2 => ?_)
      refine R_iload_n (pc' := 17) (i := 1) (j := 1) (x := l1) dX9_ruleAt_16 rfl rfl rfl ?_
      refine R_aald (pc' := 18) (q := rules2) (i := l1) (by decide) rfl dX9_ruleAt_17 rfl (fun e3 => ?_)
      refine R_goto (tgt := 22) dX9_ruleAt_18 (by decide) ?_
      exact R_sub [] rfl (rf_X9_ruleAt_J22 this e3 M)
/-! BarPilot.tide()I -/
def f_X9_tide_J29 (this : Nat) (M : Mem) : Option (Int32 × Mem) :=
  some ((-1 : Int32), M)
set_option maxHeartbeats 2000000 in
set_option maxRecDepth 20000 in
theorem rf_X9_tide_J29 (this : Nat) (M : Mem) : RF yX9_tide cX9_tide 1 (some .int) 6 eI (f_X9_tide_J29 this M) 29 [] [] M := by
  rw [f_X9_tide_J29]
  refine R_iconst (pc' := 30) (x := (-1 : Int32)) dX9_tide_29 rfl (by decide) ?_
  exact R_iret dX9_tide_30
def f_X9_tide (this : Nat) (M : Mem) : Option (Int32 × Mem) :=
  (gR M 9 4 (some this)).bind fun book1 =>
  (gR M 2 0 book1).bind fun told2 =>
  (gI M 8 0 told2).bind fun there3 =>
  (if there3 = 0 then
    (f_X9_tide_J29 this M)
  else
    ((gR M 9 4 (some this)).bind fun book4 =>
    (gR M 2 1 book4).bind fun scene5 =>
    (gI M 6 0 scene5).bind fun tide6 =>
    (if tide6 < (nI 999) then
      ((gR M 9 4 (some this)).bind fun book7 =>
      (oO M 2 book7).bind fun o19 => cl (f_X2_keepAct o19 M) fun u8 M =>
      (gR M 9 6 (some this)).bind fun pilot9 =>
      (gR M 9 4 (some this)).bind fun book10 =>
      (gI M 2 8 book10).bind fun force11 =>
      (oO M 9 (some this)).bind fun o18 => cl (f_X9_ruleAt o18 force11 M) fun r12 M =>
      (pR M 3 0 pilot9 r12).bind fun M =>
      (gR M 9 6 (some this)).bind fun pilot13 =>
      (gR M 9 4 (some this)).bind fun book14 =>
      (gR M 2 1 book14).bind fun scene15 =>
      (oO M 3 pilot13).bind fun o17 => cl (f_X3_oneTide o17 scene15 M) fun r16 M =>
      some (r16, M))
    else
      (f_X9_tide_J29 this M))))
set_option maxHeartbeats 2000000 in
set_option maxRecDepth 20000 in
theorem rm_X9_tide (this : Nat) (M : Mem) : RFm yX9_tide cX9_tide 1 (some .int) 6 eI (f_X9_tide this M) [va_rf (some this)] M := by
  refine RFm_of (L := [(0, va_rf (some this))]) (by decide) rfl (Nat.le_trans (c_R c_0) (by decide)) ?_
  rw [f_X9_tide]
  refine R_aloadq_n (pc' := 1) (i := 0) (j := 0) (q := (some this)) dX9_tide_0 rfl rfl rfl ?_
  refine R_getR (pc' := 4) (q := (some this)) fl_X9_41 rfl dX9_tide_1 rfl (fun book1 => ?_)
  refine R_getR (pc' := 7) (q := book1) fl_X9_51 rfl dX9_tide_4 rfl (fun told2 => ?_)
  refine R_getI (pc' := 10) (q := told2) fl_X9_174 rfl dX9_tide_7 rfl (fun there3 => ?_)
  refine R_if_eq (pc' := 13) (tgt := 29) (a := there3) dX9_tide_10 (by decide) rfl ?_ ?_
  · exact R_sub [] rfl (rf_X9_tide_J29 this M)
  · refine R_aloadq_n (pc' := 14) (i := 0) (j := 0) (q := (some this)) dX9_tide_13 rfl rfl rfl ?_
    refine R_getR (pc' := 17) (q := (some this)) fl_X9_41 rfl dX9_tide_14 rfl (fun book4 => ?_)
    refine R_getR (pc' := 20) (q := book4) fl_X9_110 rfl dX9_tide_17 rfl (fun scene5 => ?_)
    refine R_getI (pc' := 23) (q := scene5) fl_X9_156 rfl dX9_tide_20 rfl (fun tide6 => ?_)
    refine R_sipush (pc' := 26) (x := (nI 999)) dX9_tide_23 rfl (by decide) ?_
    refine R_icmp_lt (pc' := 29) (tgt := 31) (a := tide6) (b := (nI 999)) dX9_tide_26 (by decide) rfl ?_ ?_
    · refine R_aloadq_n (pc' := 32) (i := 0) (j := 0) (q := (some this)) dX9_tide_31 rfl rfl rfl ?_
      refine R_getR (pc' := 35) (q := (some this)) fl_X9_41 rfl dX9_tide_32 rfl (fun book7 => ?_)
      refine R_callV_V (pc' := 38) (q := book7) (As := []) (fun o19 => rm_X2_keepAct o19 M) mf_X2_keepAct lk_X9_178 im_X2_keepAct se_X2_keepAct rfl rfl rfl dX9_tide_35 rfl (by decide) (Nat.le_trans c_0 (by decide)) (fun u8 M => ?_)
      refine R_aloadq_n (pc' := 39) (i := 0) (j := 0) (q := (some this)) dX9_tide_38 rfl rfl rfl ?_
      refine R_getR (pc' := 42) (q := (some this)) fl_X9_58 rfl dX9_tide_39 rfl (fun pilot9 => ?_)
      refine R_aloadq_n (pc' := 43) (i := 0) (j := 0) (q := (some this)) dX9_tide_42 rfl rfl rfl ?_
      refine R_aloadq_n (pc' := 44) (i := 0) (j := 0) (q := (some this)) dX9_tide_43 rfl rfl rfl ?_
      refine R_getR (pc' := 47) (q := (some this)) fl_X9_41 rfl dX9_tide_44 rfl (fun book10 => ?_)
      refine R_getI (pc' := 50) (q := book10) fl_X9_104 rfl dX9_tide_47 rfl (fun force11 => ?_)
      refine R_callV_R (pc' := 53) (q := (some this)) (As := [.int force11]) (fun o18 => rm_X9_ruleAt o18 force11 M) mf_X9_ruleAt lk_X9_181 im_X9_ruleAt se_X9_ruleAt rfl rfl rfl dX9_tide_50 rfl (by decide) (Nat.le_trans (c_R c_0) (by decide)) (fun r12 M => ?_)
      refine R_putR (pc' := 56) (q := pilot9) (x := r12) fl_X9_185 rfl (Or.inl rfl) dX9_tide_53 rfl (fun M => ?_)
      refine R_aloadq_n (pc' := 57) (i := 0) (j := 0) (q := (some this)) dX9_tide_56 rfl rfl rfl ?_
      refine R_getR (pc' := 60) (q := (some this)) fl_X9_58 rfl dX9_tide_57 rfl (fun pilot13 => ?_)
      refine R_aloadq_n (pc' := 61) (i := 0) (j := 0) (q := (some this)) dX9_tide_60 rfl rfl rfl ?_
      refine R_getR (pc' := 64) (q := (some this)) fl_X9_41 rfl dX9_tide_61 rfl (fun book14 => ?_)
      refine R_getR (pc' := 67) (q := book14) fl_X9_110 rfl dX9_tide_64 rfl (fun scene15 => ?_)
      refine R_callV_I (pc' := 70) (q := pilot13) (As := [va_rf scene15]) (fun o17 => rm_X3_oneTide o17 scene15 M) mf_X3_oneTide lk_X9_189 im_X3_oneTide se_X3_oneTide rfl rfl rfl dX9_tide_67 rfl (by decide) (Nat.le_trans c_0 (by decide)) (fun r16 M => ?_)
      exact R_iret dX9_tide_70
    · exact R_sub [] rfl (rf_X9_tide_J29 this M)
/-! BarPilot.isWaiting(I)Z -/
def f_X9_isWaiting_J29 (this : Nat) (s0 : Int32) (M : Mem) : Option (Int32 × Mem) :=
  ckZ s0 (some (s0, M))
set_option maxHeartbeats 2000000 in
set_option maxRecDepth 20000 in
theorem rf_X9_isWaiting_J29 (this : Nat) (s0 : Int32) (M : Mem) : RF yX9_isWaiting cX9_isWaiting 2 (some .boolean) 2 eI (f_X9_isWaiting_J29 this s0 M) 29 [] [.int s0] M := by
  rw [f_X9_isWaiting_J29]
  exact R_bret dX9_isWaiting_29
def f_X9_isWaiting_J28 (this : Nat) (M : Mem) : Option (Int32 × Mem) :=
  f_X9_isWaiting_J29 this (nI 0) M
set_option maxHeartbeats 2000000 in
set_option maxRecDepth 20000 in
theorem rf_X9_isWaiting_J28 (this : Nat) (M : Mem) : RF yX9_isWaiting cX9_isWaiting 2 (some .boolean) 2 eI (f_X9_isWaiting_J28 this M) 28 [] [] M := by
  rw [f_X9_isWaiting_J28]
  refine R_iconst (pc' := 29) (x := (nI 0)) dX9_isWaiting_28 rfl (by decide) ?_
  exact R_sub [] rfl (rf_X9_isWaiting_J29 this (nI 0) M)
def f_X9_isWaiting (this : Nat) (l1 : Int32) (M : Mem) : Option (Int32 × Mem) :=
  (oO M 9 (some this)).bind fun o6 => cl (f_X9_isShip o6 l1 M) fun r1 M =>
  (if r1 = 0 then
    (f_X9_isWaiting_J28 this M)
  else
    ((gR M 9 4 (some this)).bind fun book2 =>
    (gR M 2 1 book2).bind fun scene3 =>
    (gR M 6 3 scene3).bind fun passed4 =>
    (aI M 0 passed4 l1).bind fun e5 =>
    (if e5 = (-1 : Int32) then
      (f_X9_isWaiting_J29 this (nI 1) M)
    else
      (f_X9_isWaiting_J28 this M))))
set_option maxHeartbeats 2000000 in
set_option maxRecDepth 20000 in
theorem rm_X9_isWaiting (this : Nat) (l1 : Int32) (M : Mem) : RFm yX9_isWaiting cX9_isWaiting 2 (some .boolean) 2 eI (f_X9_isWaiting this l1 M) [va_rf (some this), .int l1] M := by
  refine RFm_of (L := [(0, va_rf (some this)), (1, .int l1)]) (by decide) rfl (Nat.le_trans (c_R (c_I c_0)) (by decide)) ?_
  rw [f_X9_isWaiting]
  refine R_aloadq_n (pc' := 1) (i := 0) (j := 0) (q := (some this)) dX9_isWaiting_0 rfl rfl rfl ?_
  refine R_iload_n (pc' := 2) (i := 1) (j := 1) (x := l1) dX9_isWaiting_1 rfl rfl rfl ?_
  refine R_callV_I (pc' := 5) (q := (some this)) (As := [.int l1]) (fun o6 => rm_X9_isShip o6 l1 M) mf_X9_isShip lk_X9_132 im_X9_isShip se_X9_isShip rfl rfl rfl dX9_isWaiting_2 rfl (by decide) (Nat.le_trans c_0 (by decide)) (fun r1 M => ?_)
  refine R_if_eq (pc' := 8) (tgt := 28) (a := r1) dX9_isWaiting_5 (by decide) rfl ?_ ?_
  · exact R_sub [] rfl (rf_X9_isWaiting_J28 this M)
  · refine R_aloadq_n (pc' := 9) (i := 0) (j := 0) (q := (some this)) dX9_isWaiting_8 rfl rfl rfl ?_
    refine R_getR (pc' := 12) (q := (some this)) fl_X9_41 rfl dX9_isWaiting_9 rfl (fun book2 => ?_)
    refine R_getR (pc' := 15) (q := book2) fl_X9_110 rfl dX9_isWaiting_12 rfl (fun scene3 => ?_)
    refine R_getR (pc' := 18) (q := scene3) fl_X9_144 rfl dX9_isWaiting_15 rfl (fun passed4 => ?_)
    refine R_iload_n (pc' := 19) (i := 1) (j := 1) (x := l1) dX9_isWaiting_18 rfl rfl rfl ?_
    refine R_iald (pc' := 20) (q := passed4) (i := l1) dX9_isWaiting_19 rfl (fun e5 => ?_)
    refine R_iconst (pc' := 21) (x := (-1 : Int32)) dX9_isWaiting_20 rfl (by decide) ?_
    refine R_icmp_ne (pc' := 24) (tgt := 28) (a := e5) (b := (-1 : Int32)) dX9_isWaiting_21 (by decide) rfl ?_ ?_
    · exact R_sub [] rfl (rf_X9_isWaiting_J28 this M)
    · refine R_iconst (pc' := 25) (x := (nI 1)) dX9_isWaiting_24 rfl (by decide) ?_
      refine R_goto (tgt := 29) dX9_isWaiting_25 (by decide) ?_
      exact R_sub [] rfl (rf_X9_isWaiting_J29 this (nI 1) M)
/-! BarPilot.say(II)I -/
def f_X9_say_J31 (this : Nat) (M : Mem) : Option (Int32 × Mem) :=
  some ((-1 : Int32), M)
set_option maxHeartbeats 2000000 in
set_option maxRecDepth 20000 in
theorem rf_X9_say_J31 (this : Nat) (M : Mem) : RF yX9_say cX9_say 3 (some .int) 3 eI (f_X9_say_J31 this M) 31 [] [] M := by
  rw [f_X9_say_J31]
  refine R_iconst (pc' := 32) (x := (-1 : Int32)) dX9_say_31 rfl (by decide) ?_
  exact R_iret dX9_say_32
def f_X9_say_J71 (this : Nat) (s0 : Int32) (M : Mem) : Option (Int32 × Mem) :=
  some (s0, M)
set_option maxHeartbeats 2000000 in
set_option maxRecDepth 20000 in
theorem rf_X9_say_J71 (this : Nat) (s0 : Int32) (M : Mem) : RF yX9_say cX9_say 3 (some .int) 3 eI (f_X9_say_J71 this s0 M) 71 [] [.int s0] M := by
  rw [f_X9_say_J71]
  exact R_iret dX9_say_71
def f_X9_say (this : Nat) (l1 : Int32) (l2 : Int32) (M : Mem) : Option (Int32 × Mem) :=
  (oO M 9 (some this)).bind fun o19 => cl (f_X9_isWaiting o19 l1 M) fun r1 M =>
  (if r1 = 0 then
    (f_X9_say_J31 this M)
  else
    ((oO M 9 (some this)).bind fun o18 => cl (f_X9_isJoke o18 l2 M) fun r2 M =>
    (if r2 = 0 then
      (f_X9_say_J31 this M)
    else
      ((gR M 9 4 (some this)).bind fun book3 =>
      (gR M 2 1 book3).bind fun scene4 =>
      (oO M 6 scene4).bind fun o17 => cl (f_X6_isKnown o17 l1 l2 M) fun r5 M =>
      (if r5 = 0 then
        (f_X9_say_J31 this M)
      else
        ((gR M 9 4 (some this)).bind fun book6 =>
        (oO M 2 book6).bind fun o16 => cl (f_X2_keepAct o16 M) fun u7 M =>
        (gR M 9 6 (some this)).bind fun pilot8 =>
        (gR M 9 4 (some this)).bind fun book9 =>
        (gR M 2 1 book9).bind fun scene10 =>
        (oO M 3 pilot8).bind fun o15 => cl (f_X3_meet o15 scene10 M) fun u11 M =>
        (gR M 9 6 (some this)).bind fun pilot12 =>
        (oO M 3 pilot12).bind fun o14 => cl (f_X3_hears o14 l1 l2 M) fun r13 M =>
        (if r13 = 0 then
          (f_X9_say_J71 this (nI 0) M)
        else
          (f_X9_say_J71 this (nI 1) M))))))))
set_option maxHeartbeats 2000000 in
set_option maxRecDepth 20000 in
theorem rm_X9_say (this : Nat) (l1 : Int32) (l2 : Int32) (M : Mem) : RFm yX9_say cX9_say 3 (some .int) 3 eI (f_X9_say this l1 l2 M) [va_rf (some this), .int l1, .int l2] M := by
  refine RFm_of (L := [(0, va_rf (some this)), (1, .int l1), (2, .int l2)]) (by decide) rfl (Nat.le_trans (c_R (c_I (c_I c_0))) (by decide)) ?_
  rw [f_X9_say]
  refine R_aloadq_n (pc' := 1) (i := 0) (j := 0) (q := (some this)) dX9_say_0 rfl rfl rfl ?_
  refine R_iload_n (pc' := 2) (i := 1) (j := 1) (x := l1) dX9_say_1 rfl rfl rfl ?_
  refine R_callV_I (pc' := 5) (q := (some this)) (As := [.int l1]) (fun o19 => rm_X9_isWaiting o19 l1 M) mf_X9_isWaiting lk_X9_192 im_X9_isWaiting se_X9_isWaiting rfl rfl rfl dX9_say_2 rfl (by decide) (Nat.le_trans c_0 (by decide)) (fun r1 M => ?_)
  refine R_if_eq (pc' := 8) (tgt := 31) (a := r1) dX9_say_5 (by decide) rfl ?_ ?_
  · exact R_sub [] rfl (rf_X9_say_J31 this M)
  · refine R_aloadq_n (pc' := 9) (i := 0) (j := 0) (q := (some this)) dX9_say_8 rfl rfl rfl ?_
    refine R_iload_n (pc' := 10) (i := 2) (j := 2) (x := l2) dX9_say_9 rfl rfl rfl ?_
    refine R_callV_I (pc' := 13) (q := (some this)) (As := [.int l2]) (fun o18 => rm_X9_isJoke o18 l2 M) mf_X9_isJoke lk_X9_107 im_X9_isJoke se_X9_isJoke rfl rfl rfl dX9_say_10 rfl (by decide) (Nat.le_trans c_0 (by decide)) (fun r2 M => ?_)
    refine R_if_eq (pc' := 16) (tgt := 31) (a := r2) dX9_say_13 (by decide) rfl ?_ ?_
    · exact R_sub [] rfl (rf_X9_say_J31 this M)
    · refine R_aloadq_n (pc' := 17) (i := 0) (j := 0) (q := (some this)) dX9_say_16 rfl rfl rfl ?_
      refine R_getR (pc' := 20) (q := (some this)) fl_X9_41 rfl dX9_say_17 rfl (fun book3 => ?_)
      refine R_getR (pc' := 23) (q := book3) fl_X9_110 rfl dX9_say_20 rfl (fun scene4 => ?_)
      refine R_iload_n (pc' := 24) (i := 1) (j := 1) (x := l1) dX9_say_23 rfl rfl rfl ?_
      refine R_iload_n (pc' := 25) (i := 2) (j := 2) (x := l2) dX9_say_24 rfl rfl rfl ?_
      refine R_callV_I (pc' := 28) (q := scene4) (As := [.int l1, .int l2]) (fun o17 => rm_X6_isKnown o17 l1 l2 M) mf_X6_isKnown lk_X9_195 im_X6_isKnown se_X6_isKnown rfl rfl rfl dX9_say_25 rfl (by decide) (Nat.le_trans c_0 (by decide)) (fun r5 M => ?_)
      refine R_if_ne (pc' := 31) (tgt := 33) (a := r5) dX9_say_28 (by decide) rfl ?_ ?_
      · refine R_aloadq_n (pc' := 34) (i := 0) (j := 0) (q := (some this)) dX9_say_33 rfl rfl rfl ?_
        refine R_getR (pc' := 37) (q := (some this)) fl_X9_41 rfl dX9_say_34 rfl (fun book6 => ?_)
        refine R_callV_V (pc' := 40) (q := book6) (As := []) (fun o16 => rm_X2_keepAct o16 M) mf_X2_keepAct lk_X9_178 im_X2_keepAct se_X2_keepAct rfl rfl rfl dX9_say_37 rfl (by decide) (Nat.le_trans c_0 (by decide)) (fun u7 M => ?_)
        refine R_aloadq_n (pc' := 41) (i := 0) (j := 0) (q := (some this)) dX9_say_40 rfl rfl rfl ?_
        refine R_getR (pc' := 44) (q := (some this)) fl_X9_58 rfl dX9_say_41 rfl (fun pilot8 => ?_)
        refine R_aloadq_n (pc' := 45) (i := 0) (j := 0) (q := (some this)) dX9_say_44 rfl rfl rfl ?_
        refine R_getR (pc' := 48) (q := (some this)) fl_X9_41 rfl dX9_say_45 rfl (fun book9 => ?_)
        refine R_getR (pc' := 51) (q := book9) fl_X9_110 rfl dX9_say_48 rfl (fun scene10 => ?_)
        refine R_callV_V (pc' := 54) (q := pilot8) (As := [va_rf scene10]) (fun o15 => rm_X3_meet o15 scene10 M) mf_X3_meet lk_X9_198 im_X3_meet se_X3_meet rfl rfl rfl dX9_say_51 rfl (by decide) (Nat.le_trans c_0 (by decide)) (fun u11 M => ?_)
        refine R_aloadq_n (pc' := 55) (i := 0) (j := 0) (q := (some this)) dX9_say_54 rfl rfl rfl ?_
        refine R_getR (pc' := 58) (q := (some this)) fl_X9_58 rfl dX9_say_55 rfl (fun pilot12 => ?_)
        refine R_iload_n (pc' := 59) (i := 1) (j := 1) (x := l1) dX9_say_58 rfl rfl rfl ?_
        refine R_iload_n (pc' := 60) (i := 2) (j := 2) (x := l2) dX9_say_59 rfl rfl rfl ?_
        refine R_callV_I (pc' := 63) (q := pilot12) (As := [.int l1, .int l2]) (fun o14 => rm_X3_hears o14 l1 l2 M) mf_X3_hears lk_X9_202 im_X3_hears se_X3_hears rfl rfl rfl dX9_say_60 rfl (by decide) (Nat.le_trans c_0 (by decide)) (fun r13 M => ?_)
        refine R_if_eq (pc' := 66) (tgt := 70) (a := r13) dX9_say_63 (by decide) rfl ?_ ?_
        · refine R_iconst (pc' := 71) (x := (nI 0)) dX9_say_70 rfl (by decide) ?_
          exact R_sub [] rfl (rf_X9_say_J71 this (nI 0) M)
        · refine R_iconst (pc' := 67) (x := (nI 1)) dX9_say_66 rfl (by decide) ?_
          refine R_goto (tgt := 71) dX9_say_67 (by decide) ?_
          exact R_sub [] rfl (rf_X9_say_J71 this (nI 1) M)
      · exact R_sub [] rfl (rf_X9_say_J31 this M)
/-! BarPilot.trade(II)I -/
def f_X9_trade_J43 (this : Nat) (M : Mem) : Option (Int32 × Mem) :=
  some ((-1 : Int32), M)
set_option maxHeartbeats 2000000 in
set_option maxRecDepth 20000 in
theorem rf_X9_trade_J43 (this : Nat) (M : Mem) : RF yX9_trade cX9_trade 3 (some .int) 3 eI (f_X9_trade_J43 this M) 43 [] [] M := by
  rw [f_X9_trade_J43]
  refine R_iconst (pc' := 44) (x := (-1 : Int32)) dX9_trade_43 rfl (by decide) ?_
  exact R_iret dX9_trade_44
def f_X9_trade (this : Nat) (l1 : Int32) (l2 : Int32) (M : Mem) : Option (Int32 × Mem) :=
  (oO M 9 (some this)).bind fun o19 => cl (f_X9_isWaiting o19 l1 M) fun r1 M =>
  (if r1 = 0 then
    (f_X9_trade_J43 this M)
  else
    ((oO M 9 (some this)).bind fun o18 => cl (f_X9_isWaiting o18 l2 M) fun r2 M =>
    (if r2 = 0 then
      (f_X9_trade_J43 this M)
    else
      ((gR M 9 4 (some this)).bind fun book3 =>
      (gR M 2 1 book3).bind fun scene4 =>
      (gR M 6 2 scene4).bind fun knows5 =>
      (aI M 0 knows5 l1).bind fun e6 =>
      (gR M 9 4 (some this)).bind fun book7 =>
      (gR M 2 1 book7).bind fun scene8 =>
      (gR M 6 2 scene8).bind fun knows9 =>
      (aI M 0 knows9 l2).bind fun e10 =>
      (if e6 = e10 then
        (f_X9_trade_J43 this M)
      else
        ((gR M 9 4 (some this)).bind fun book11 =>
        (oO M 2 book11).bind fun o17 => cl (f_X2_keepAct o17 M) fun u12 M =>
        (gR M 9 4 (some this)).bind fun book13 =>
        (gR M 2 1 book13).bind fun scene14 =>
        (oO M 6 scene14).bind fun o16 => cl (f_X6_share o16 l1 l2 M) fun r15 M =>
        some (r15, M)))))))
set_option maxHeartbeats 2000000 in
set_option maxRecDepth 20000 in
theorem rm_X9_trade (this : Nat) (l1 : Int32) (l2 : Int32) (M : Mem) : RFm yX9_trade cX9_trade 3 (some .int) 3 eI (f_X9_trade this l1 l2 M) [va_rf (some this), .int l1, .int l2] M := by
  refine RFm_of (L := [(0, va_rf (some this)), (1, .int l1), (2, .int l2)]) (by decide) rfl (Nat.le_trans (c_R (c_I (c_I c_0))) (by decide)) ?_
  rw [f_X9_trade]
  refine R_aloadq_n (pc' := 1) (i := 0) (j := 0) (q := (some this)) dX9_trade_0 rfl rfl rfl ?_
  refine R_iload_n (pc' := 2) (i := 1) (j := 1) (x := l1) dX9_trade_1 rfl rfl rfl ?_
  refine R_callV_I (pc' := 5) (q := (some this)) (As := [.int l1]) (fun o19 => rm_X9_isWaiting o19 l1 M) mf_X9_isWaiting lk_X9_192 im_X9_isWaiting se_X9_isWaiting rfl rfl rfl dX9_trade_2 rfl (by decide) (Nat.le_trans c_0 (by decide)) (fun r1 M => ?_)
  refine R_if_eq (pc' := 8) (tgt := 43) (a := r1) dX9_trade_5 (by decide) rfl ?_ ?_
  · exact R_sub [] rfl (rf_X9_trade_J43 this M)
  · refine R_aloadq_n (pc' := 9) (i := 0) (j := 0) (q := (some this)) dX9_trade_8 rfl rfl rfl ?_
    refine R_iload_n (pc' := 10) (i := 2) (j := 2) (x := l2) dX9_trade_9 rfl rfl rfl ?_
    refine R_callV_I (pc' := 13) (q := (some this)) (As := [.int l2]) (fun o18 => rm_X9_isWaiting o18 l2 M) mf_X9_isWaiting lk_X9_192 im_X9_isWaiting se_X9_isWaiting rfl rfl rfl dX9_trade_10 rfl (by decide) (Nat.le_trans c_0 (by decide)) (fun r2 M => ?_)
    refine R_if_eq (pc' := 16) (tgt := 43) (a := r2) dX9_trade_13 (by decide) rfl ?_ ?_
    · exact R_sub [] rfl (rf_X9_trade_J43 this M)
    · refine R_aloadq_n (pc' := 17) (i := 0) (j := 0) (q := (some this)) dX9_trade_16 rfl rfl rfl ?_
      refine R_getR (pc' := 20) (q := (some this)) fl_X9_41 rfl dX9_trade_17 rfl (fun book3 => ?_)
      refine R_getR (pc' := 23) (q := book3) fl_X9_110 rfl dX9_trade_20 rfl (fun scene4 => ?_)
      refine R_getR (pc' := 26) (q := scene4) fl_X9_141 rfl dX9_trade_23 rfl (fun knows5 => ?_)
      refine R_iload_n (pc' := 27) (i := 1) (j := 1) (x := l1) dX9_trade_26 rfl rfl rfl ?_
      refine R_iald (pc' := 28) (q := knows5) (i := l1) dX9_trade_27 rfl (fun e6 => ?_)
      refine R_aloadq_n (pc' := 29) (i := 0) (j := 0) (q := (some this)) dX9_trade_28 rfl rfl rfl ?_
      refine R_getR (pc' := 32) (q := (some this)) fl_X9_41 rfl dX9_trade_29 rfl (fun book7 => ?_)
      refine R_getR (pc' := 35) (q := book7) fl_X9_110 rfl dX9_trade_32 rfl (fun scene8 => ?_)
      refine R_getR (pc' := 38) (q := scene8) fl_X9_141 rfl dX9_trade_35 rfl (fun knows9 => ?_)
      refine R_iload_n (pc' := 39) (i := 2) (j := 2) (x := l2) dX9_trade_38 rfl rfl rfl ?_
      refine R_iald (pc' := 40) (q := knows9) (i := l2) dX9_trade_39 rfl (fun e10 => ?_)
      refine R_icmp_ne (pc' := 43) (tgt := 45) (a := e6) (b := e10) dX9_trade_40 (by decide) rfl ?_ ?_
      · refine R_aloadq_n (pc' := 46) (i := 0) (j := 0) (q := (some this)) dX9_trade_45 rfl rfl rfl ?_
        refine R_getR (pc' := 49) (q := (some this)) fl_X9_41 rfl dX9_trade_46 rfl (fun book11 => ?_)
        refine R_callV_V (pc' := 52) (q := book11) (As := []) (fun o17 => rm_X2_keepAct o17 M) mf_X2_keepAct lk_X9_178 im_X2_keepAct se_X2_keepAct rfl rfl rfl dX9_trade_49 rfl (by decide) (Nat.le_trans c_0 (by decide)) (fun u12 M => ?_)
        refine R_aloadq_n (pc' := 53) (i := 0) (j := 0) (q := (some this)) dX9_trade_52 rfl rfl rfl ?_
        refine R_getR (pc' := 56) (q := (some this)) fl_X9_41 rfl dX9_trade_53 rfl (fun book13 => ?_)
        refine R_getR (pc' := 59) (q := book13) fl_X9_110 rfl dX9_trade_56 rfl (fun scene14 => ?_)
        refine R_iload_n (pc' := 60) (i := 1) (j := 1) (x := l1) dX9_trade_59 rfl rfl rfl ?_
        refine R_iload_n (pc' := 61) (i := 2) (j := 2) (x := l2) dX9_trade_60 rfl rfl rfl ?_
        refine R_callV_I (pc' := 64) (q := scene14) (As := [.int l1, .int l2]) (fun o16 => rm_X6_share o16 l1 l2 M) mf_X6_share lk_X9_205 im_X6_share se_X6_share rfl rfl rfl dX9_trade_61 rfl (by decide) (Nat.le_trans c_0 (by decide)) (fun r15 M => ?_)
        exact R_iret dX9_trade_64
      · exact R_sub [] rfl (rf_X9_trade_J43 this M)
