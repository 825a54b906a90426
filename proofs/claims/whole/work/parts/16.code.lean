/-! BarPilot$Pilot.goOn(LBarPilot$Scene;II)V -/
def f_X3_goOn_J117 (this : Nat) (M : Mem) : Option (Unit × Mem) :=
  some ((), M)
set_option maxHeartbeats 2000000 in
set_option maxRecDepth 20000 in
theorem rf_X3_goOn_J117 (this : Nat) (M : Mem) : RF yX3_goOn cX3_goOn 6 none 5 eV (f_X3_goOn_J117 this M) 117 [] [] M := by
  rw [f_X3_goOn_J117]
  exact R_vret dX3_goOn_117
def f_X3_goOn_J111 (k11 : Option Nat → Int32 → Int32 → Int32 → Int32 → Mem → Option (Unit × Mem)) (this : Nat) (l1 : Option Nat) (l2 : Int32) (l3 : Int32) (l4 : Int32) (l5 : Int32) (M : Mem) : Option (Unit × Mem) :=
  k11 l1 l2 l3 l4 (l5 + (nI 1)) M
set_option maxHeartbeats 2000000 in
set_option maxRecDepth 20000 in
theorem rf_X3_goOn_J111 (this : Nat) (k11 : Option Nat → Int32 → Int32 → Int32 → Int32 → Mem → Option (Unit × Mem)) (hk11 : ∀ (l1 : Option Nat) (l2 : Int32) (l3 : Int32) (l4 : Int32) (l5 : Int32) (M : Mem), RF yX3_goOn cX3_goOn 6 none 5 eV (k11 l1 l2 l3 l4 l5 M) 11 [(0, va_rf (some this)), (1, va_rf l1), (2, .int l2), (3, .int l3), (4, .int l4), (5, .int l5)] [] M) (l1 : Option Nat) (l2 : Int32) (l3 : Int32) (l4 : Int32) (l5 : Int32) (M : Mem) : RF yX3_goOn cX3_goOn 6 none 5 eV (f_X3_goOn_J111 k11 this l1 l2 l3 l4 l5 M) 111 [(0, va_rf (some this)), (1, va_rf l1), (2, .int l2), (3, .int l3), (4, .int l4), (5, .int l5)] [] M := by
  rw [f_X3_goOn_J111]
  refine R_iinc (pc' := 114) (L' := [(5, .int (l5 + (nI 1))), (0, va_rf (some this)), (1, va_rf l1), (2, .int l2), (3, .int l3), (4, .int l4)]) (i := 5) (j := 5) (x := l5) (x2 := (l5 + (nI 1))) dX3_goOn_111 rfl rfl rfl (by decide) rfl ?_
  refine R_goto (tgt := 11) dX3_goOn_114 (by decide) ?_
  exact R_sub [1, 2, 3, 4, 5, 0] rfl (hk11 l1 l2 l3 l4 (l5 + (nI 1)) M)
def f_X3_goOn_J98 (k11 : Option Nat → Int32 → Int32 → Int32 → Int32 → Mem → Option (Unit × Mem)) (this : Nat) (l1 : Option Nat) (l2 : Int32) (l3 : Int32) (l4 : Int32) (l5 : Int32) (M : Mem) : Option (Unit × Mem) :=
  (oO M 3 (some this)).bind fun o3 => cl (f_X3_nextFading o3 M) fun r1 M =>
  nm (if r1 < l4 then r1 else l4) fun r2 =>
  (pI M 6 0 l1 r2).bind fun M =>
  f_X3_goOn_J111 k11 this l1 l2 l3 l4 l5 M
set_option maxHeartbeats 2000000 in
set_option maxRecDepth 20000 in
theorem rf_X3_goOn_J98 (this : Nat) (k11 : Option Nat → Int32 → Int32 → Int32 → Int32 → Mem → Option (Unit × Mem)) (hk11 : ∀ (l1 : Option Nat) (l2 : Int32) (l3 : Int32) (l4 : Int32) (l5 : Int32) (M : Mem), RF yX3_goOn cX3_goOn 6 none 5 eV (k11 l1 l2 l3 l4 l5 M) 11 [(0, va_rf (some this)), (1, va_rf l1), (2, .int l2), (3, .int l3), (4, .int l4), (5, .int l5)] [] M) (l1 : Option Nat) (l2 : Int32) (l3 : Int32) (l4 : Int32) (l5 : Int32) (M : Mem) : RF yX3_goOn cX3_goOn 6 none 5 eV (f_X3_goOn_J98 k11 this l1 l2 l3 l4 l5 M) 98 [(0, va_rf (some this)), (1, va_rf l1), (2, .int l2), (3, .int l3), (4, .int l4), (5, .int l5)] [] M := by
  rw [f_X3_goOn_J98]
  refine R_aloadq_n (pc' := 99) (i := 1) (j := 1) (q := l1) dX3_goOn_98 rfl rfl rfl ?_
  refine R_iload (pc' := 101) (i := 4) (j := 4) (x := l4) dX3_goOn_99 rfl rfl ?_
  refine R_aloadq_n (pc' := 102) (i := 0) (j := 0) (q := (some this)) dX3_goOn_101 rfl rfl rfl ?_
  refine R_callV_I (pc' := 105) (q := (some this)) (As := []) (fun o3 => rm_X3_nextFading o3 M) mf_X3_nextFading lk_X3_134 im_X3_nextFading se_X3_nextFading rfl rfl rfl dX3_goOn_102 rfl (by decide) (Nat.le_trans (c_I (c_R c_0)) (by decide)) (fun r1 M => ?_)
  refine R_mmin (pc' := 108) (a := l4) (b := r1) lk_X3_138 dX3_goOn_105 rfl (by decide) (Nat.le_trans (c_R c_0) (by decide)) ?_
  refine R_nmI (fun r2 => ?_)
  refine R_putI (pc' := 111) (q := l1) (x := r2) fl_X3_61 (Or.inl rfl) dX3_goOn_108 rfl (fun M => ?_)
  exact R_sub [0, 1, 2, 3, 4, 5] rfl (rf_X3_goOn_J111 this k11 hk11 l1 l2 l3 l4 l5 M)
def f_X3_goOn_L11 (this : Nat) : Nat → Option Nat → Int32 → Int32 → Int32 → Int32 → Mem → Option (Unit × Mem)
  | 0, _, _, _, _, _, _ => none
  | n + 1, l1, l2, l3, l4, l5, M =>
    (if l2 ≤ l5 then
      (f_X3_goOn_J117 this M)
    else
      ((gI M 6 0 l1).bind fun tide1 =>
      (if l4 ≤ tide1 then
        (f_X3_goOn_J117 this M)
      else
        ((oO M 3 (some this)).bind fun o14 => cl (f_X3_meet o14 l1 M) fun u2 M =>
        (gR M 3 2 (some this)).bind fun told3 =>
        (gI M 8 4 told3).bind fun ships4 =>
        (oO M 3 (some this)).bind fun o13 => cl (f_X3_turns o13 (nI 0) ships4 M) fun r5 M =>
        (gI M 6 0 l1).bind fun tide6 =>
        (pI M 6 0 l1 (tide6 + (nI 1))).bind fun M =>
        (gI M 3 6 (some this)).bind fun waiting7 =>
        cl (f_J6_bitCount_0f7a4 waiting7 M) fun r8 M =>
        (if l3 ≤ r8 then
          ((gI M 3 7 (some this)).bind fun quiet9 =>
          (if quiet9 = 0 then
            (f_X3_goOn_J111 (f_X3_goOn_L11 this n) this l1 l2 l3 l4 l5 M)
          else
            ((gR M 3 0 (some this)).bind fun rule10 =>
            (if rule10 = none then
              (f_X3_goOn_J98 (f_X3_goOn_L11 this n) this l1 l2 l3 l4 l5 M)
            else
              ((gR M 3 0 (some this)).bind fun rule11 =>
              (gI M 4 0 rule11).bind fun timed12 =>
              (if timed12 = 0 then
                (f_X3_goOn_J98 (f_X3_goOn_L11 this n) this l1 l2 l3 l4 l5 M)
              else
                (f_X3_goOn_J111 (f_X3_goOn_L11 this n) this l1 l2 l3 l4 l5 M)))))))
        else
          ((pI M 6 0 l1 l4).bind fun M =>
          f_X3_goOn_J111 (f_X3_goOn_L11 this n) this l1 l2 l3 l4 l5 M))))))
set_option maxHeartbeats 2000000 in
set_option maxRecDepth 20000 in
theorem rf_X3_goOn_L11 (this : Nat) : ∀ (n : Nat) (l1 : Option Nat) (l2 : Int32) (l3 : Int32) (l4 : Int32) (l5 : Int32) (M : Mem), RF yX3_goOn cX3_goOn 6 none 5 eV (f_X3_goOn_L11 this n l1 l2 l3 l4 l5 M) 11 [(0, va_rf (some this)), (1, va_rf l1), (2, .int l2), (3, .int l3), (4, .int l4), (5, .int l5)] [] M := by
  intro n
  induction n with
  | zero => intro _ _ _ _ _ _; exact RF.none
  | succ n ih =>
    intro l1 l2 l3 l4 l5 M
    rw [f_X3_goOn_L11]
    refine R_iload (pc' := 13) (i := 5) (j := 5) (x := l5) dX3_goOn_11 rfl rfl ?_
    refine R_iload_n (pc' := 14) (i := 2) (j := 2) (x := l2) dX3_goOn_13 rfl rfl rfl ?_
    refine R_icmp_ge (pc' := 17) (tgt := 117) (a := l5) (b := l2) dX3_goOn_14 (by decide) rfl ?_ ?_
    · exact R_sub [] rfl (rf_X3_goOn_J117 this M)
    · refine R_aloadq_n (pc' := 18) (i := 1) (j := 1) (q := l1) dX3_goOn_17 rfl rfl rfl ?_
      refine R_getI (pc' := 21) (q := l1) fl_X3_61 rfl dX3_goOn_18 rfl (fun tide1 => ?_)
      refine R_iload (pc' := 23) (i := 4) (j := 4) (x := l4) dX3_goOn_21 rfl rfl ?_
      refine R_icmp_ge (pc' := 26) (tgt := 117) (a := tide1) (b := l4) dX3_goOn_23 (by decide) rfl ?_ ?_
      · exact R_sub [] rfl (rf_X3_goOn_J117 this M)
      · refine R_aloadq_n (pc' := 27) (i := 0) (j := 0) (q := (some this)) dX3_goOn_26 rfl rfl rfl ?_
        refine R_aloadq_n (pc' := 28) (i := 1) (j := 1) (q := l1) dX3_goOn_27 rfl rfl rfl ?_
        refine R_callV_V (pc' := 31) (q := (some this)) (As := [va_rf l1]) (fun o14 => rm_X3_meet o14 l1 M) mf_X3_meet lk_X3_50 im_X3_meet se_X3_meet rfl rfl rfl dX3_goOn_28 rfl (by decide) (Nat.le_trans c_0 (by decide)) (fun u2 M => ?_)
        refine R_aloadq_n (pc' := 32) (i := 0) (j := 0) (q := (some this)) dX3_goOn_31 rfl rfl rfl ?_
        refine R_iconst (pc' := 33) (x := (nI 0)) dX3_goOn_32 rfl (by decide) ?_
        refine R_aloadq_n (pc' := 34) (i := 0) (j := 0) (q := (some this)) dX3_goOn_33 rfl rfl rfl ?_
        refine R_getR (pc' := 37) (q := (some this)) fl_X3_20 rfl dX3_goOn_34 rfl (fun told3 => ?_)
        refine R_getI (pc' := 40) (q := told3) fl_X3_54 rfl dX3_goOn_37 rfl (fun ships4 => ?_)
        refine R_callV_I (pc' := 43) (q := (some this)) (As := [.int (nI 0), .int ships4]) (fun o13 => rm_X3_turns o13 (nI 0) ships4 M) mf_X3_turns lk_X3_57 im_X3_turns se_X3_turns rfl rfl rfl dX3_goOn_40 rfl (by decide) (Nat.le_trans c_0 (by decide)) (fun r5 M => ?_)
        refine R_pop (pc' := 44) dX3_goOn_43 rfl rfl ?_
        refine R_aloadq_n (pc' := 45) (i := 1) (j := 1) (q := l1) dX3_goOn_44 rfl rfl rfl ?_
        refine R_dup (pc' := 46) dX3_goOn_45 rfl (rf_cat _) ?_
        refine R_getI (pc' := 49) (q := l1) fl_X3_61 rfl dX3_goOn_46 rfl (fun tide6 => ?_)
        refine R_iconst (pc' := 50) (x := (nI 1)) dX3_goOn_49 rfl (by decide) ?_
        refine R_iadd (pc' := 51) (a := tide6) (b := (nI 1)) dX3_goOn_50 rfl ?_
        refine R_putI (pc' := 54) (q := l1) (x := (tide6 + (nI 1))) fl_X3_61 (Or.inl rfl) dX3_goOn_51 rfl (fun M => ?_)
        refine R_aloadq_n (pc' := 55) (i := 0) (j := 0) (q := (some this)) dX3_goOn_54 rfl rfl rfl ?_
        refine R_getI (pc' := 58) (q := (some this)) fl_X3_44 rfl dX3_goOn_55 rfl (fun waiting7 => ?_)
        refine R_callS_I (pc' := 61) (As := [.int waiting7]) (rm_J6_bitCount_0f7a4 waiting7 M) mf_J6_bitCount_0f7a4 lk_X3_105 sm_J6_bitCount_0f7a4 rfl rfl dX3_goOn_58 rfl (by decide) (Nat.le_trans c_0 (by decide)) (fun r8 M => ?_)
        refine R_iload_n (pc' := 62) (i := 3) (j := 3) (x := l3) dX3_goOn_61 rfl rfl rfl ?_
        refine R_icmp_ge (pc' := 65) (tgt := 74) (a := r8) (b := l3) dX3_goOn_62 (by decide) rfl ?_ ?_
        · refine R_aloadq_n (pc' := 75) (i := 0) (j := 0) (q := (some this)) dX3_goOn_74 rfl rfl rfl ?_
          refine R_getI (pc' := 78) (q := (some this)) fl_X3_46 rfl dX3_goOn_75 rfl (fun quiet9 => ?_)
          refine R_if_eq (pc' := 81) (tgt := 111) (a := quiet9) dX3_goOn_78 (by decide) rfl ?_ ?_
          · exact R_sub [0, 1, 2, 3, 4, 5] rfl (rf_X3_goOn_J111 this (f_X3_goOn_L11 this n) ih l1 l2 l3 l4 l5 M)
          · refine R_aloadq_n (pc' := 82) (i := 0) (j := 0) (q := (some this)) dX3_goOn_81 rfl rfl rfl ?_
            refine R_getR (pc' := 85) (q := (some this)) fl_X3_87 rfl dX3_goOn_82 rfl (fun rule10 => ?_)
            refine R_ifnull (pc' := 88) (tgt := 98) (q := rule10) dX3_goOn_85 (by decide) rfl ?_ ?_
            · exact R_sub [0, 1, 2, 3, 4, 5] rfl (rf_X3_goOn_J98 this (f_X3_goOn_L11 this n) ih l1 l2 l3 l4 l5 M)
            · refine R_aloadq_n (pc' := 89) (i := 0) (j := 0) (q := (some this)) dX3_goOn_88 rfl rfl rfl ?_
              refine R_getR (pc' := 92) (q := (some this)) fl_X3_87 rfl dX3_goOn_89 rfl (fun rule11 => ?_)
              refine R_getI (pc' := 95) (q := rule11) fl_X3_131 rfl dX3_goOn_92 rfl (fun timed12 => ?_)
              refine R_if_ne (pc' := 98) (tgt := 111) (a := timed12) dX3_goOn_95 (by decide) rfl ?_ ?_
              · exact R_sub [0, 1, 2, 3, 4, 5] rfl (rf_X3_goOn_J111 this (f_X3_goOn_L11 this n) ih l1 l2 l3 l4 l5 M)
              · exact R_sub [0, 1, 2, 3, 4, 5] rfl (rf_X3_goOn_J98 this (f_X3_goOn_L11 this n) ih l1 l2 l3 l4 l5 M)
        · refine R_aloadq_n (pc' := 66) (i := 1) (j := 1) (q := l1) dX3_goOn_65 rfl rfl rfl ?_
          refine R_iload (pc' := 68) (i := 4) (j := 4) (x := l4) dX3_goOn_66 rfl rfl ?_
          refine R_putI (pc' := 71) (q := l1) (x := l4) fl_X3_61 (Or.inl rfl) dX3_goOn_68 rfl (fun M => ?_)
          refine R_goto (tgt := 111) dX3_goOn_71 (by decide) ?_
          exact R_sub [0, 1, 2, 3, 4, 5] rfl (rf_X3_goOn_J111 this (f_X3_goOn_L11 this n) ih l1 l2 l3 l4 l5 M)
def f_X3_goOn (this : Nat) (l1 : Option Nat) (l2 : Int32) (l3 : Int32) (M : Mem) : Option (Unit × Mem) :=
  (gI M 6 0 l1).bind fun tide1 =>
  nm (tide1 + l2) fun v2 =>
  f_X3_goOn_L11 this FU l1 l2 l3 v2 (nI 0) M
set_option maxHeartbeats 2000000 in
set_option maxRecDepth 20000 in
theorem rm_X3_goOn (this : Nat) (l1 : Option Nat) (l2 : Int32) (l3 : Int32) (M : Mem) : RFm yX3_goOn cX3_goOn 6 none 5 eV (f_X3_goOn this l1 l2 l3 M) [va_rf (some this), va_rf l1, .int l2, .int l3] M := by
  refine RFm_of (L := [(0, va_rf (some this)), (1, va_rf l1), (2, .int l2), (3, .int l3)]) (by decide) (by simp only [lva_R, lva_I, lva_L, lva_C, lva_0]) (Nat.le_trans (c_R (c_R (c_I (c_I c_0)))) (by decide)) ?_
  rw [f_X3_goOn]
  refine R_aloadq_n (pc' := 1) (i := 1) (j := 1) (q := l1) dX3_goOn_0 rfl rfl rfl ?_
  refine R_getI (pc' := 4) (q := l1) fl_X3_61 rfl dX3_goOn_1 rfl (fun tide1 => ?_)
  refine R_iload_n (pc' := 5) (i := 2) (j := 2) (x := l2) dX3_goOn_4 rfl rfl rfl ?_
  refine R_iadd (pc' := 6) (a := tide1) (b := l2) dX3_goOn_5 rfl ?_
  refine R_nmI (fun v2 => ?_)
  refine R_istore (pc' := 8) (L' := [(4, .int v2), (0, va_rf (some this)), (1, va_rf l1), (2, .int l2), (3, .int l3)]) (i := 4) (x := v2) dX3_goOn_6 rfl (by decide) rfl ?_
  refine R_iconst (pc' := 9) (x := (nI 0)) dX3_goOn_8 rfl (by decide) ?_
  refine R_istore (pc' := 11) (L' := [(5, .int (nI 0)), (4, .int v2), (0, va_rf (some this)), (1, va_rf l1), (2, .int l2), (3, .int l3)]) (i := 5) (x := (nI 0)) dX3_goOn_9 rfl (by decide) rfl ?_
  exact R_sub [2, 3, 4, 5, 1, 0] rfl (rf_X3_goOn_L11 this FU l1 l2 l3 v2 (nI 0) M)
/-! BarPilot$RuleReader.<init>(LBarPilot$Tape;)V -/
def f_X5_init (this : Nat) (l1 : Option Nat) (M : Mem) : Option (Unit × Mem) :=
  newA M 0 (nI 400) fun a1 M =>
  (pR M 5 1 (some this) (some a1)).bind fun M =>
  newA M 0 (nI 400) fun a2 M =>
  (pR M 5 2 (some this) (some a2)).bind fun M =>
  (pR M 5 0 (some this) l1).bind fun M =>
  some ((), M)
set_option maxHeartbeats 2000000 in
set_option maxRecDepth 20000 in
theorem rm_X5_init (this : Nat) (l1 : Option Nat) (M : Mem) : RFm yX5_init cX5_init 2 none 1 eV (f_X5_init this l1 M) [va_rf (some this), va_rf l1] M := by
  refine RFm_of (L := [(0, va_rf (some this)), (1, va_rf l1)]) (by decide) (by simp only [lva_R, lva_I, lva_L, lva_C, lva_0]) (Nat.le_trans (c_R (c_R c_0)) (by decide)) ?_
  rw [f_X5_init]
  refine R_aloadq_n (pc' := 1) (i := 0) (j := 0) (q := (some this)) dX5_init_0 rfl rfl rfl ?_
  refine R_objInit (pc' := 4) (a := this) lko_X5_3 ob_in ob_co dX5_init_1 rfl (by decide) (Nat.le_trans c_0 (by decide)) ?_
  refine R_aloadq_n (pc' := 5) (i := 0) (j := 0) (q := (some this)) dX5_init_4 rfl rfl rfl ?_
  refine R_sipush (pc' := 8) (x := (nI 400)) dX5_init_5 rfl (by decide) ?_
  refine R_newa (pc' := 10) (at0 := .int) (ty := .int) (t := 0) (n := (nI 400)) rfl rfl (by decide) ac_int (by decide) rfl dX5_init_8 rfl (fun a1 M => ?_)
  refine R_putR (pc' := 13) (q := (some this)) (x := (some a1)) fl_X5_9 rfl (Or.inr ⟨rfl, rfl⟩) dX5_init_10 rfl (fun M => ?_)
  refine R_aloadq_n (pc' := 14) (i := 0) (j := 0) (q := (some this)) dX5_init_13 rfl rfl rfl ?_
  refine R_sipush (pc' := 17) (x := (nI 400)) dX5_init_14 rfl (by decide) ?_
  refine R_newa (pc' := 19) (at0 := .int) (ty := .int) (t := 0) (n := (nI 400)) rfl rfl (by decide) ac_int (by decide) rfl dX5_init_17 rfl (fun a2 M => ?_)
  refine R_putR (pc' := 22) (q := (some this)) (x := (some a2)) fl_X5_15 rfl (Or.inr ⟨rfl, rfl⟩) dX5_init_19 rfl (fun M => ?_)
  refine R_aloadq_n (pc' := 23) (i := 0) (j := 0) (q := (some this)) dX5_init_22 rfl rfl rfl ?_
  refine R_aloadq_n (pc' := 24) (i := 1) (j := 1) (q := l1) dX5_init_23 rfl rfl rfl ?_
  refine R_putR (pc' := 27) (q := (some this)) (x := l1) fl_X5_18 rfl (Or.inr ⟨rfl, rfl⟩) dX5_init_24 rfl (fun M => ?_)
  exact R_vret dX5_init_27
/-! BarPilot$RuleReader.put(II)Z -/
def f_X5_put_J37 (this : Nat) (M : Mem) : Option (Int32 × Mem) :=
  ckZ (nI 1) (some ((nI 1), M))
set_option maxHeartbeats 2000000 in
set_option maxRecDepth 20000 in
theorem rf_X5_put_J37 (this : Nat) (M : Mem) : RF yX5_put cX5_put 3 (some .boolean) 1 eI (f_X5_put_J37 this M) 37 [] [] M := by
  rw [f_X5_put_J37]
  refine R_iconst (pc' := 38) (x := (nI 1)) dX5_put_37 rfl (by decide) ?_
  exact R_bret dX5_put_38
def f_X5_put (this : Nat) (l1 : Int32) (l2 : Int32) (M : Mem) : Option (Int32 × Mem) :=
  (gI M 5 3 (some this)).bind fun length1 =>
  (gR M 5 1 (some this)).bind fun code2 =>
  (lnA M code2).bind fun len3 =>
  (if len3 ≤ length1 then
    (f_X5_put_J37 this M)
  else
    ((gR M 5 1 (some this)).bind fun code4 =>
    (gI M 5 3 (some this)).bind fun length5 =>
    (wI M 0 code4 length5 ((l1 <<< ((nI 20) &&& 31)) ||| l2)).bind fun M =>
    (gI M 5 3 (some this)).bind fun length6 =>
    (pI M 5 3 (some this) (length6 + (nI 1))).bind fun M =>
    f_X5_put_J37 this M))
set_option maxHeartbeats 2000000 in
set_option maxRecDepth 20000 in
theorem rm_X5_put (this : Nat) (l1 : Int32) (l2 : Int32) (M : Mem) : RFm yX5_put cX5_put 3 (some .boolean) 1 eI (f_X5_put this l1 l2 M) [va_rf (some this), .int l1, .int l2] M := by
  refine RFm_of (L := [(0, va_rf (some this)), (1, .int l1), (2, .int l2)]) (by decide) rfl (Nat.le_trans (c_R (c_I (c_I c_0))) (by decide)) ?_
  rw [f_X5_put]
  refine R_aloadq_n (pc' := 1) (i := 0) (j := 0) (q := (some this)) dX5_put_0 rfl rfl rfl ?_
  refine R_getI (pc' := 4) (q := (some this)) fl_X5_27 rfl dX5_put_1 rfl (fun length1 => ?_)
  refine R_aloadq_n (pc' := 5) (i := 0) (j := 0) (q := (some this)) dX5_put_4 rfl rfl rfl ?_
  refine R_getR (pc' := 8) (q := (some this)) fl_X5_9 rfl dX5_put_5 rfl (fun code2 => ?_)
  refine R_alen (pc' := 9) (q := code2) dX5_put_8 rfl (fun len3 => ?_)
  refine R_icmp_ge (pc' := 12) (tgt := 37) (a := length1) (b := len3) dX5_put_9 (by decide) rfl ?_ ?_
  · exact R_sub [] rfl (rf_X5_put_J37 this M)
  · refine R_aloadq_n (pc' := 13) (i := 0) (j := 0) (q := (some this)) dX5_put_12 rfl rfl rfl ?_
    refine R_getR (pc' := 16) (q := (some this)) fl_X5_9 rfl dX5_put_13 rfl (fun code4 => ?_)
    refine R_aloadq_n (pc' := 17) (i := 0) (j := 0) (q := (some this)) dX5_put_16 rfl rfl rfl ?_
    refine R_getI (pc' := 20) (q := (some this)) fl_X5_27 rfl dX5_put_17 rfl (fun length5 => ?_)
    refine R_iload_n (pc' := 21) (i := 1) (j := 1) (x := l1) dX5_put_20 rfl rfl rfl ?_
    refine R_bipush (pc' := 23) (x := (nI 20)) dX5_put_21 rfl (by decide) ?_
    refine R_ishl (pc' := 24) (a := l1) (b := (nI 20)) dX5_put_23 rfl ?_
    refine R_iload_n (pc' := 25) (i := 2) (j := 2) (x := l2) dX5_put_24 rfl rfl rfl ?_
    refine R_ior (pc' := 26) (a := (l1 <<< ((nI 20) &&& 31))) (b := l2) dX5_put_25 rfl ?_
    refine R_iast (pc' := 27) (q := code4) (i := length5) (x := ((l1 <<< ((nI 20) &&& 31)) ||| l2)) dX5_put_26 rfl (fun M => ?_)
    refine R_aloadq_n (pc' := 28) (i := 0) (j := 0) (q := (some this)) dX5_put_27 rfl rfl rfl ?_
    refine R_dup (pc' := 29) dX5_put_28 rfl (rf_cat _) ?_
    refine R_getI (pc' := 32) (q := (some this)) fl_X5_27 rfl dX5_put_29 rfl (fun length6 => ?_)
    refine R_iconst (pc' := 33) (x := (nI 1)) dX5_put_32 rfl (by decide) ?_
    refine R_iadd (pc' := 34) (a := length6) (b := (nI 1)) dX5_put_33 rfl ?_
    refine R_putI (pc' := 37) (q := (some this)) (x := (length6 + (nI 1))) fl_X5_27 (Or.inl rfl) dX5_put_34 rfl (fun M => ?_)
    exact R_sub [] rfl (rf_X5_put_J37 this M)
/-! BarPilot$RuleReader.moveTestAhead(II)V -/
def f_X5_moveTestAhead_J20 (this : Nat) (M : Mem) : Option (Unit × Mem) :=
  some ((), M)
set_option maxHeartbeats 2000000 in
set_option maxRecDepth 20000 in
theorem rf_X5_moveTestAhead_J20 (this : Nat) (M : Mem) : RF yX5_moveTestAhead cX5_moveTestAhead 4 none 2 eV (f_X5_moveTestAhead_J20 this M) 20 [] [] M := by
  rw [f_X5_moveTestAhead_J20]
  exact R_vret dX5_moveTestAhead_20
def f_X5_moveTestAhead (this : Nat) (l1 : Int32) (l2 : Int32) (M : Mem) : Option (Unit × Mem) :=
  nm (l2 - l1) fun v1 =>
  (if v1 < 0 then
    (f_X5_moveTestAhead_J20 this M)
  else
    ((gI M 5 3 (some this)).bind fun length2 =>
    (gR M 5 1 (some this)).bind fun code3 =>
    (lnA M code3).bind fun len4 =>
    (if length2 < len4 then
      ((gR M 5 1 (some this)).bind fun code5 =>
      (gR M 5 2 (some this)).bind fun spare6 =>
      (cpy M code5 l1 spare6 (nI 0) v1).bind fun M =>
      (gR M 5 1 (some this)).bind fun code7 =>
      (gR M 5 1 (some this)).bind fun code8 =>
      (gI M 5 3 (some this)).bind fun length9 =>
      (cpy M code7 l2 code8 l1 (length9 - l2)).bind fun M =>
      (gI M 5 3 (some this)).bind fun length10 =>
      (pI M 5 3 (some this) (length10 - v1)).bind fun M =>
      (oO M 5 (some this)).bind fun o16 => cl (f_X5_put o16 (nI 5) (v1 + (nI 1)) M) fun r11 M =>
      (gR M 5 2 (some this)).bind fun spare12 =>
      (gR M 5 1 (some this)).bind fun code13 =>
      (gI M 5 3 (some this)).bind fun length14 =>
      (cpy M spare12 (nI 0) code13 length14 v1).bind fun M =>
      (gI M 5 3 (some this)).bind fun length15 =>
      (pI M 5 3 (some this) (length15 + v1)).bind fun M =>
      some ((), M))
    else
      (f_X5_moveTestAhead_J20 this M))))
set_option maxHeartbeats 2000000 in
set_option maxRecDepth 20000 in
theorem rm_X5_moveTestAhead (this : Nat) (l1 : Int32) (l2 : Int32) (M : Mem) : RFm yX5_moveTestAhead cX5_moveTestAhead 4 none 2 eV (f_X5_moveTestAhead this l1 l2 M) [va_rf (some this), .int l1, .int l2] M := by
  refine RFm_of (L := [(0, va_rf (some this)), (1, .int l1), (2, .int l2)]) (by decide) rfl (Nat.le_trans (c_R (c_I (c_I c_0))) (by decide)) ?_
  rw [f_X5_moveTestAhead]
  refine R_iload_n (pc' := 1) (i := 2) (j := 2) (x := l2) dX5_moveTestAhead_0 rfl rfl rfl ?_
  refine R_iload_n (pc' := 2) (i := 1) (j := 1) (x := l1) dX5_moveTestAhead_1 rfl rfl rfl ?_
  refine R_isub (pc' := 3) (a := l2) (b := l1) dX5_moveTestAhead_2 rfl ?_
  refine R_nmI (fun v1 => ?_)
  refine R_istore_n (pc' := 4) (L' := [(3, .int v1), (0, va_rf (some this)), (1, .int l1), (2, .int l2)]) (i := 3) (x := v1) dX5_moveTestAhead_3 rfl rfl (by decide) rfl ?_
  refine R_iload_n (pc' := 5) (i := 3) (j := 0) (x := v1) dX5_moveTestAhead_4 rfl rfl rfl ?_
  refine R_if_lt (pc' := 8) (tgt := 20) (a := v1) dX5_moveTestAhead_5 (by decide) rfl ?_ ?_
  · exact R_sub [] rfl (rf_X5_moveTestAhead_J20 this M)
  · refine R_aloadq_n (pc' := 9) (i := 0) (j := 1) (q := (some this)) dX5_moveTestAhead_8 rfl rfl rfl ?_
    refine R_getI (pc' := 12) (q := (some this)) fl_X5_27 rfl dX5_moveTestAhead_9 rfl (fun length2 => ?_)
    refine R_aloadq_n (pc' := 13) (i := 0) (j := 1) (q := (some this)) dX5_moveTestAhead_12 rfl rfl rfl ?_
    refine R_getR (pc' := 16) (q := (some this)) fl_X5_9 rfl dX5_moveTestAhead_13 rfl (fun code3 => ?_)
    refine R_alen (pc' := 17) (q := code3) dX5_moveTestAhead_16 rfl (fun len4 => ?_)
    refine R_icmp_lt (pc' := 20) (tgt := 21) (a := length2) (b := len4) dX5_moveTestAhead_17 (by decide) rfl ?_ ?_
    · refine R_aloadq_n (pc' := 22) (i := 0) (j := 1) (q := (some this)) dX5_moveTestAhead_21 rfl rfl rfl ?_
      refine R_getR (pc' := 25) (q := (some this)) fl_X5_9 rfl dX5_moveTestAhead_22 rfl (fun code5 => ?_)
      refine R_iload_n (pc' := 26) (i := 1) (j := 2) (x := l1) dX5_moveTestAhead_25 rfl rfl rfl ?_
      refine R_aloadq_n (pc' := 27) (i := 0) (j := 1) (q := (some this)) dX5_moveTestAhead_26 rfl rfl rfl ?_
      refine R_getR (pc' := 30) (q := (some this)) fl_X5_15 rfl dX5_moveTestAhead_27 rfl (fun spare6 => ?_)
      refine R_iconst (pc' := 31) (x := (nI 0)) dX5_moveTestAhead_30 rfl (by decide) ?_
      refine R_iload_n (pc' := 32) (i := 3) (j := 0) (x := v1) dX5_moveTestAhead_31 rfl rfl rfl ?_
      refine R_acopy (pc' := 35) (q0 := code5) (sp := l1) (q1 := spare6) (dp := (nI 0)) (n := v1) lka_X5_90 sy_na sy_st sy_in dX5_moveTestAhead_32 rfl (by decide) (Nat.le_trans c_0 (by decide)) (fun M => ?_)
      refine R_aloadq_n (pc' := 36) (i := 0) (j := 1) (q := (some this)) dX5_moveTestAhead_35 rfl rfl rfl ?_
      refine R_getR (pc' := 39) (q := (some this)) fl_X5_9 rfl dX5_moveTestAhead_36 rfl (fun code7 => ?_)
      refine R_iload_n (pc' := 40) (i := 2) (j := 3) (x := l2) dX5_moveTestAhead_39 rfl rfl rfl ?_
      refine R_aloadq_n (pc' := 41) (i := 0) (j := 1) (q := (some this)) dX5_moveTestAhead_40 rfl rfl rfl ?_
      refine R_getR (pc' := 44) (q := (some this)) fl_X5_9 rfl dX5_moveTestAhead_41 rfl (fun code8 => ?_)
      refine R_iload_n (pc' := 45) (i := 1) (j := 2) (x := l1) dX5_moveTestAhead_44 rfl rfl rfl ?_
      refine R_aloadq_n (pc' := 46) (i := 0) (j := 1) (q := (some this)) dX5_moveTestAhead_45 rfl rfl rfl ?_
      refine R_getI (pc' := 49) (q := (some this)) fl_X5_27 rfl dX5_moveTestAhead_46 rfl (fun length9 => ?_)
      refine R_iload_n (pc' := 50) (i := 2) (j := 3) (x := l2) dX5_moveTestAhead_49 rfl rfl rfl ?_
      refine R_isub (pc' := 51) (a := length9) (b := l2) dX5_moveTestAhead_50 rfl ?_
      refine R_acopy (pc' := 54) (q0 := code7) (sp := l2) (q1 := code8) (dp := l1) (n := (length9 - l2)) lka_X5_90 sy_na sy_st sy_in dX5_moveTestAhead_51 rfl (by decide) (Nat.le_trans c_0 (by decide)) (fun M => ?_)
      refine R_aloadq_n (pc' := 55) (i := 0) (j := 1) (q := (some this)) dX5_moveTestAhead_54 rfl rfl rfl ?_
      refine R_dup (pc' := 56) dX5_moveTestAhead_55 rfl (rf_cat _) ?_
      refine R_getI (pc' := 59) (q := (some this)) fl_X5_27 rfl dX5_moveTestAhead_56 rfl (fun length10 => ?_)
      refine R_iload_n (pc' := 60) (i := 3) (j := 0) (x := v1) dX5_moveTestAhead_59 rfl rfl rfl ?_
      refine R_isub (pc' := 61) (a := length10) (b := v1) dX5_moveTestAhead_60 rfl ?_
      refine R_putI (pc' := 64) (q := (some this)) (x := (length10 - v1)) fl_X5_27 (Or.inl rfl) dX5_moveTestAhead_61 rfl (fun M => ?_)
      refine R_aloadq_n (pc' := 65) (i := 0) (j := 1) (q := (some this)) dX5_moveTestAhead_64 rfl rfl rfl ?_
      refine R_iconst (pc' := 66) (x := (nI 5)) dX5_moveTestAhead_65 rfl (by decide) ?_
      refine R_iload_n (pc' := 67) (i := 3) (j := 0) (x := v1) dX5_moveTestAhead_66 rfl rfl rfl ?_
      refine R_iconst (pc' := 68) (x := (nI 1)) dX5_moveTestAhead_67 rfl (by decide) ?_
      refine R_iadd (pc' := 69) (a := v1) (b := (nI 1)) dX5_moveTestAhead_68 rfl ?_
      refine R_callV_I (pc' := 72) (q := (some this)) (As := [.int (nI 5), .int (v1 + (nI 1))]) (fun o16 => rm_X5_put o16 (nI 5) (v1 + (nI 1)) M) mf_X5_put lk_X5_87 im_X5_put se_X5_put rfl rfl rfl dX5_moveTestAhead_69 rfl (by decide) (Nat.le_trans c_0 (by decide)) (fun r11 M => ?_)
      refine R_pop (pc' := 73) dX5_moveTestAhead_72 rfl rfl ?_
      refine R_aloadq_n (pc' := 74) (i := 0) (j := 1) (q := (some this)) dX5_moveTestAhead_73 rfl rfl rfl ?_
      refine R_getR (pc' := 77) (q := (some this)) fl_X5_15 rfl dX5_moveTestAhead_74 rfl (fun spare12 => ?_)
      refine R_iconst (pc' := 78) (x := (nI 0)) dX5_moveTestAhead_77 rfl (by decide) ?_
      refine R_aloadq_n (pc' := 79) (i := 0) (j := 1) (q := (some this)) dX5_moveTestAhead_78 rfl rfl rfl ?_
      refine R_getR (pc' := 82) (q := (some this)) fl_X5_9 rfl dX5_moveTestAhead_79 rfl (fun code13 => ?_)
      refine R_aloadq_n (pc' := 83) (i := 0) (j := 1) (q := (some this)) dX5_moveTestAhead_82 rfl rfl rfl ?_
      refine R_getI (pc' := 86) (q := (some this)) fl_X5_27 rfl dX5_moveTestAhead_83 rfl (fun length14 => ?_)
      refine R_iload_n (pc' := 87) (i := 3) (j := 0) (x := v1) dX5_moveTestAhead_86 rfl rfl rfl ?_
      refine R_acopy (pc' := 90) (q0 := spare12) (sp := (nI 0)) (q1 := code13) (dp := length14) (n := v1) lka_X5_90 sy_na sy_st sy_in dX5_moveTestAhead_87 rfl (by decide) (Nat.le_trans c_0 (by decide)) (fun M => ?_)
      refine R_aloadq_n (pc' := 91) (i := 0) (j := 1) (q := (some this)) dX5_moveTestAhead_90 rfl rfl rfl ?_
      refine R_dup (pc' := 92) dX5_moveTestAhead_91 rfl (rf_cat _) ?_
      refine R_getI (pc' := 95) (q := (some this)) fl_X5_27 rfl dX5_moveTestAhead_92 rfl (fun length15 => ?_)
      refine R_iload_n (pc' := 96) (i := 3) (j := 0) (x := v1) dX5_moveTestAhead_95 rfl rfl rfl ?_
      refine R_iadd (pc' := 97) (a := length15) (b := v1) dX5_moveTestAhead_96 rfl ?_
      refine R_putI (pc' := 100) (q := (some this)) (x := (length15 + v1)) fl_X5_27 (Or.inl rfl) dX5_moveTestAhead_97 rfl (fun M => ?_)
      exact R_vret dX5_moveTestAhead_100
    · exact R_sub [] rfl (rf_X5_moveTestAhead_J20 this M)
/-! BarPilot$RuleReader.joinStep(I)I -/
def f_X5_joinStep_J75 (M : Mem) : Option (Int32 × Mem) :=
  some ((-1 : Int32), M)
set_option maxHeartbeats 2000000 in
set_option maxRecDepth 20000 in
theorem rf_X5_joinStep_J75 (M : Mem) : RF yX5_joinStep cX5_joinStep 1 (some .int) 1 eI (f_X5_joinStep_J75 M) 75 [] [] M := by
  rw [f_X5_joinStep_J75]
  refine R_iconst (pc' := 76) (x := (-1 : Int32)) dX5_joinStep_75 rfl (by decide) ?_
  exact R_iret dX5_joinStep_76
def f_X5_joinStep (l0 : Int32) (M : Mem) : Option (Int32 × Mem) :=
  (tsw l0 (37) [
    (some ((nI 11), M)),
    (f_X5_joinStep_J75 M),
    (f_X5_joinStep_J75 M),
    (f_X5_joinStep_J75 M),
    (f_X5_joinStep_J75 M),
    (some ((nI 9), M)),
    (some ((nI 7), M)),
    (f_X5_joinStep_J75 M),
    (some ((nI 8), M)),
    (f_X5_joinStep_J75 M),
    (some ((nI 10), M))]
    (f_X5_joinStep_J75 M))
set_option maxHeartbeats 2000000 in
set_option maxRecDepth 20000 in
theorem rm_X5_joinStep (l0 : Int32) (M : Mem) : RFm yX5_joinStep cX5_joinStep 1 (some .int) 1 eI (f_X5_joinStep l0 M) [.int l0] M := by
  refine RFm_of (L := [(0, .int l0)]) (by decide) rfl (Nat.le_trans (c_I c_0) (by decide)) ?_
  rw [f_X5_joinStep]
  refine R_iload_n (pc' := 1) (i := 0) (j := 0) (x := l0) dX5_joinStep_0 rfl rfl rfl ?_
  refine R_tsw (tgt := 75) (x := l0) dX5_joinStep_1 rfl (by decide) ?_ ⟨⟨72, by decide, ?_⟩, ⟨75, by decide, ?_⟩, ⟨75, by decide, ?_⟩, ⟨75, by decide, ?_⟩, ⟨75, by decide, ?_⟩, ⟨66, by decide, ?_⟩, ⟨60, by decide, ?_⟩, ⟨75, by decide, ?_⟩, ⟨63, by decide, ?_⟩, ⟨75, by decide, ?_⟩, ⟨69, by decide, ?_⟩, trivial⟩
  · exact R_sub [] rfl (rf_X5_joinStep_J75 M)
  · refine R_bipush (pc' := 74) (x := (nI 11)) dX5_joinStep_72 rfl (by decide) ?_
    exact R_iret dX5_joinStep_74
  · exact R_sub [] rfl (rf_X5_joinStep_J75 M)
  · exact R_sub [] rfl (rf_X5_joinStep_J75 M)
  · exact R_sub [] rfl (rf_X5_joinStep_J75 M)
  · exact R_sub [] rfl (rf_X5_joinStep_J75 M)
  · refine R_bipush (pc' := 68) (x := (nI 9)) dX5_joinStep_66 rfl (by decide) ?_
    exact R_iret dX5_joinStep_68
  · refine R_bipush (pc' := 62) (x := (nI 7)) dX5_joinStep_60 rfl (by decide) ?_
    exact R_iret dX5_joinStep_62
  · exact R_sub [] rfl (rf_X5_joinStep_J75 M)
  · refine R_bipush (pc' := 65) (x := (nI 8)) dX5_joinStep_63 rfl (by decide) ?_
    exact R_iret dX5_joinStep_65
  · exact R_sub [] rfl (rf_X5_joinStep_J75 M)
  · refine R_bipush (pc' := 71) (x := (nI 10)) dX5_joinStep_69 rfl (by decide) ?_
    exact R_iret dX5_joinStep_71
/-! BarPilot$RuleReader.counts()Z -/
def f_X5_counts_J24 (this : Nat) (s0 : Int32) (M : Mem) : Option (Int32 × Mem) :=
  ckZ s0 (some (s0, M))
set_option maxHeartbeats 2000000 in
set_option maxRecDepth 20000 in
theorem rf_X5_counts_J24 (this : Nat) (s0 : Int32) (M : Mem) : RF yX5_counts cX5_counts 1 (some .boolean) 1 eI (f_X5_counts_J24 this s0 M) 24 [] [.int s0] M := by
  rw [f_X5_counts_J24]
  exact R_bret dX5_counts_24
def f_X5_counts (this : Nat) (M : Mem) : Option (Int32 × Mem) :=
  (gI M 5 4 (some this)).bind fun counted1 =>
  (pI M 5 4 (some this) (counted1 + (nI 1))).bind fun M =>
  (gI M 5 4 (some this)).bind fun counted2 =>
  (if (nI 60) < counted2 then
    (f_X5_counts_J24 this (nI 0) M)
  else
    (f_X5_counts_J24 this (nI 1) M))
set_option maxHeartbeats 2000000 in
set_option maxRecDepth 20000 in
theorem rm_X5_counts (this : Nat) (M : Mem) : RFm yX5_counts cX5_counts 1 (some .boolean) 1 eI (f_X5_counts this M) [va_rf (some this)] M := by
  refine RFm_of (L := [(0, va_rf (some this))]) (by decide) rfl (Nat.le_trans (c_R c_0) (by decide)) ?_
  rw [f_X5_counts]
  refine R_aloadq_n (pc' := 1) (i := 0) (j := 0) (q := (some this)) dX5_counts_0 rfl rfl rfl ?_
  refine R_dup (pc' := 2) dX5_counts_1 rfl (rf_cat _) ?_
  refine R_getI (pc' := 5) (q := (some this)) fl_X5_31 rfl dX5_counts_2 rfl (fun counted1 => ?_)
  refine R_iconst (pc' := 6) (x := (nI 1)) dX5_counts_5 rfl (by decide) ?_
  refine R_iadd (pc' := 7) (a := counted1) (b := (nI 1)) dX5_counts_6 rfl ?_
  refine R_putI (pc' := 10) (q := (some this)) (x := (counted1 + (nI 1))) fl_X5_31 (Or.inl rfl) dX5_counts_7 rfl (fun M => ?_)
  refine R_aloadq_n (pc' := 11) (i := 0) (j := 0) (q := (some this)) dX5_counts_10 rfl rfl rfl ?_
  refine R_getI (pc' := 14) (q := (some this)) fl_X5_31 rfl dX5_counts_11 rfl (fun counted2 => ?_)
  refine R_bipush (pc' := 16) (x := (nI 60)) dX5_counts_14 rfl (by decide) ?_
  refine R_icmp_gt (pc' := 19) (tgt := 23) (a := counted2) (b := (nI 60)) dX5_counts_16 (by decide) rfl ?_ ?_
  · refine R_iconst (pc' := 24) (x := (nI 0)) dX5_counts_23 rfl (by decide) ?_
    exact R_sub [] rfl (rf_X5_counts_J24 this (nI 0) M)
  · refine R_iconst (pc' := 20) (x := (nI 1)) dX5_counts_19 rfl (by decide) ?_
    refine R_goto (tgt := 24) dX5_counts_20 (by decide) ?_
    exact R_sub [] rfl (rf_X5_counts_J24 this (nI 1) M)
/-! BarPilot$RuleReader.wordFound()I -/
def f_X5_wordFound_L2 (this : Nat) : Nat → Int32 → Mem → Option (Int32 × Mem)
  | 0, _, _ => none
  | n + 1, l1, M =>
    (if (nI 11) ≤ l1 then
      (some ((-1 : Int32), M))
    else
      ((gR M 5 0 (some this)).bind fun tape1 =>
      (gL M 7 6 tape1).bind fun word2 =>
      (kWord l1).bind fun e3 =>
      (if (lg_cmp word2 e3) = 0 then
        (some (l1, M))
      else
        ((f_X5_wordFound_L2 this n) (l1 + (nI 1)) M))))
set_option maxHeartbeats 2000000 in
set_option maxRecDepth 20000 in
theorem rf_X5_wordFound_L2 (this : Nat) : ∀ (n : Nat) (l1 : Int32) (M : Mem), RF yX5_wordFound cX5_wordFound 2 (some .int) 1 eI (f_X5_wordFound_L2 this n l1 M) 2 [(0, va_rf (some this)), (1, .int l1)] [] M := by
  intro n
  induction n with
  | zero => intro _ _; exact RF.none
  | succ n ih =>
    intro l1 M
    rw [f_X5_wordFound_L2]
    refine R_iload_n (pc' := 3) (i := 1) (j := 1) (x := l1) dX5_wordFound_2 rfl rfl rfl ?_
    refine R_kwords (pc' := 6) kf_X5_136 dX5_wordFound_3 rfl ?_
    refine R_kwlen (pc' := 7) dX5_wordFound_6 rfl ?_
    refine R_icmp_ge (pc' := 10) (tgt := 34) (a := l1) (b := (nI 11)) dX5_wordFound_7 (by decide) rfl ?_ ?_
    · refine R_iconst (pc' := 35) (x := (-1 : Int32)) dX5_wordFound_34 rfl (by decide) ?_
      exact R_iret dX5_wordFound_35
    · refine R_aloadq_n (pc' := 11) (i := 0) (j := 0) (q := (some this)) dX5_wordFound_10 rfl rfl rfl ?_
      refine R_getR (pc' := 14) (q := (some this)) fl_X5_18 rfl dX5_wordFound_11 rfl (fun tape1 => ?_)
      refine R_getL (pc' := 17) (q := tape1) fl_X5_59 rfl dX5_wordFound_14 rfl (fun word2 => ?_)
      refine R_kwords (pc' := 20) kf_X5_136 dX5_wordFound_17 rfl ?_
      refine R_iload_n (pc' := 21) (i := 1) (j := 1) (x := l1) dX5_wordFound_20 rfl rfl rfl ?_
      refine R_kwat (pc' := 22) (i := l1) dX5_wordFound_21 rfl (fun e3 => ?_)
      refine R_lcmp (pc' := 23) (a := word2) (b := e3) dX5_wordFound_22 rfl ?_
      refine R_if_ne (pc' := 26) (tgt := 28) (a := (lg_cmp word2 e3)) dX5_wordFound_23 (by decide) rfl ?_ ?_
      · refine R_iinc (pc' := 31) (L' := [(1, .int (l1 + (nI 1))), (0, va_rf (some this))]) (i := 1) (j := 1) (x := l1) (x2 := (l1 + (nI 1))) dX5_wordFound_28 rfl rfl rfl (by decide) rfl ?_
        refine R_goto (tgt := 2) dX5_wordFound_31 (by decide) ?_
        exact R_sub [1, 0] rfl (ih (l1 + (nI 1)) M)
      · refine R_iload_n (pc' := 27) (i := 1) (j := 1) (x := l1) dX5_wordFound_26 rfl rfl rfl ?_
        exact R_iret dX5_wordFound_27
def f_X5_wordFound (this : Nat) (M : Mem) : Option (Int32 × Mem) :=
  f_X5_wordFound_L2 this FU (nI 0) M
set_option maxHeartbeats 2000000 in
set_option maxRecDepth 20000 in
theorem rm_X5_wordFound (this : Nat) (M : Mem) : RFm yX5_wordFound cX5_wordFound 2 (some .int) 1 eI (f_X5_wordFound this M) [va_rf (some this)] M := by
  refine RFm_of (L := [(0, va_rf (some this))]) (by decide) rfl (Nat.le_trans (c_R c_0) (by decide)) ?_
  rw [f_X5_wordFound]
  refine R_iconst (pc' := 1) (x := (nI 0)) dX5_wordFound_0 rfl (by decide) ?_
  refine R_istore_n (pc' := 2) (L' := [(1, .int (nI 0)), (0, va_rf (some this))]) (i := 1) (x := (nI 0)) dX5_wordFound_1 rfl rfl (by decide) rfl ?_
  exact R_sub [1, 0] rfl (rf_X5_wordFound_L2 this FU (nI 0) M)
/-! BarPilot$RuleReader.readValue()Z -/
def f_X5_readValue_J139 (this : Nat) (M : Mem) : Option (Int32 × Mem) :=
  (gR M 5 0 (some this)).bind fun tape1 =>
  (oO M 7 tape1).bind fun o3 => cl (f_X7_next o3 M) fun u2 M =>
  ckZ (nI 1) (some ((nI 1), M))
set_option maxHeartbeats 2000000 in
set_option maxRecDepth 20000 in
theorem rf_X5_readValue_J139 (this : Nat) (M : Mem) : RF yX5_readValue cX5_readValue 2 (some .boolean) 2 eI (f_X5_readValue_J139 this M) 139 [(0, va_rf (some this))] [] M := by
  rw [f_X5_readValue_J139]
  refine R_aloadq_n (pc' := 140) (i := 0) (j := 0) (q := (some this)) dX5_readValue_139 rfl rfl rfl ?_
  refine R_getR (pc' := 143) (q := (some this)) fl_X5_18 rfl dX5_readValue_140 rfl (fun tape1 => ?_)
  refine R_callV_V (pc' := 146) (q := tape1) (As := []) (fun o3 => rm_X7_next o3 M) mf_X7_next lk_X5_72 im_X7_next se_X7_next rfl rfl rfl dX5_readValue_143 rfl (by decide) (Nat.le_trans c_0 (by decide)) (fun u2 M => ?_)
  refine R_iconst (pc' := 147) (x := (nI 1)) dX5_readValue_146 rfl (by decide) ?_
  exact R_bret dX5_readValue_147
def f_X5_readValue_J76 (this : Nat) (l1 : Int32) (M : Mem) : Option (Int32 × Mem) :=
  (oO M 5 (some this)).bind fun o14 => cl (f_X5_counts o14 M) fun r1 M =>
  (if r1 = 0 then
    ((gR M 5 0 (some this)).bind fun tape9 =>
    (gR M 5 0 (some this)).bind fun tape10 =>
    (gI M 7 4 tape10).bind fun start11 =>
    (oO M 7 tape9).bind fun o13 => cl (f_X7_failAt o13 start11 (nI 3) M) fun r12 M =>
    ckZ r12 (some (r12, M)))
  else
    ((if l1 = (-1 : Int32) then
      ((gR M 5 0 (some this)).bind fun tape5 =>
      (gI M 7 5 tape5).bind fun value6 =>
      (oO M 5 (some this)).bind fun o8 => cl (f_X5_put o8 (nI 0) value6 M) fun r7 M =>
      f_X5_readValue_J139 this M)
    else
      ((oO M 5 (some this)).bind fun o4 => cl (f_X5_put o4 (nI 1) l1 M) fun r2 M =>
      (gI M 5 5 (some this)).bind fun words3 =>
      (pI M 5 5 (some this) (words3 ||| ((nI 1) <<< (l1 &&& 31)))).bind fun M =>
      f_X5_readValue_J139 this M))))
set_option maxHeartbeats 2000000 in
set_option maxRecDepth 20000 in
theorem rf_X5_readValue_J76 (this : Nat) (l1 : Int32) (M : Mem) : RF yX5_readValue cX5_readValue 2 (some .boolean) 2 eI (f_X5_readValue_J76 this l1 M) 76 [(0, va_rf (some this)), (1, .int l1)] [] M := by
  rw [f_X5_readValue_J76]
  refine R_aloadq_n (pc' := 77) (i := 0) (j := 0) (q := (some this)) dX5_readValue_76 rfl rfl rfl ?_
  refine R_callV_I (pc' := 80) (q := (some this)) (As := []) (fun o14 => rm_X5_counts o14 M) mf_X5_counts lk_X5_116 im_X5_counts se_X5_counts rfl rfl rfl dX5_readValue_77 rfl (by decide) (Nat.le_trans c_0 (by decide)) (fun r1 M => ?_)
  refine R_if_ne (pc' := 83) (tgt := 99) (a := r1) dX5_readValue_80 (by decide) rfl ?_ ?_
  · refine R_iload_n (pc' := 100) (i := 1) (j := 1) (x := l1) dX5_readValue_99 rfl rfl rfl ?_
    refine R_iconst (pc' := 101) (x := (-1 : Int32)) dX5_readValue_100 rfl (by decide) ?_
    refine R_icmp_ne (pc' := 104) (tgt := 120) (a := l1) (b := (-1 : Int32)) dX5_readValue_101 (by decide) rfl ?_ ?_
    · refine R_aloadq_n (pc' := 121) (i := 0) (j := 0) (q := (some this)) dX5_readValue_120 rfl rfl rfl ?_
      refine R_iconst (pc' := 122) (x := (nI 1)) dX5_readValue_121 rfl (by decide) ?_
      refine R_iload_n (pc' := 123) (i := 1) (j := 1) (x := l1) dX5_readValue_122 rfl rfl rfl ?_
      refine R_callV_I (pc' := 126) (q := (some this)) (As := [.int (nI 1), .int l1]) (fun o4 => rm_X5_put o4 (nI 1) l1 M) mf_X5_put lk_X5_87 im_X5_put se_X5_put rfl rfl rfl dX5_readValue_123 rfl (by decide) (Nat.le_trans c_0 (by decide)) (fun r2 M => ?_)
      refine R_pop (pc' := 127) dX5_readValue_126 rfl rfl ?_
      refine R_aloadq_n (pc' := 128) (i := 0) (j := 0) (q := (some this)) dX5_readValue_127 rfl rfl rfl ?_
      refine R_dup (pc' := 129) dX5_readValue_128 rfl (rf_cat _) ?_
      refine R_getI (pc' := 132) (q := (some this)) fl_X5_34 rfl dX5_readValue_129 rfl (fun words3 => ?_)
      refine R_iconst (pc' := 133) (x := (nI 1)) dX5_readValue_132 rfl (by decide) ?_
      refine R_iload_n (pc' := 134) (i := 1) (j := 1) (x := l1) dX5_readValue_133 rfl rfl rfl ?_
      refine R_ishl (pc' := 135) (a := (nI 1)) (b := l1) dX5_readValue_134 rfl ?_
      refine R_ior (pc' := 136) (a := words3) (b := ((nI 1) <<< (l1 &&& 31))) dX5_readValue_135 rfl ?_
      refine R_putI (pc' := 139) (q := (some this)) (x := (words3 ||| ((nI 1) <<< (l1 &&& 31)))) fl_X5_34 (Or.inl rfl) dX5_readValue_136 rfl (fun M => ?_)
      exact R_sub [0] rfl (rf_X5_readValue_J139 this M)
    · refine R_aloadq_n (pc' := 105) (i := 0) (j := 0) (q := (some this)) dX5_readValue_104 rfl rfl rfl ?_
      refine R_iconst (pc' := 106) (x := (nI 0)) dX5_readValue_105 rfl (by decide) ?_
      refine R_aloadq_n (pc' := 107) (i := 0) (j := 0) (q := (some this)) dX5_readValue_106 rfl rfl rfl ?_
      refine R_getR (pc' := 110) (q := (some this)) fl_X5_18 rfl dX5_readValue_107 rfl (fun tape5 => ?_)
      refine R_getI (pc' := 113) (q := tape5) fl_X5_128 rfl dX5_readValue_110 rfl (fun value6 => ?_)
      refine R_callV_I (pc' := 116) (q := (some this)) (As := [.int (nI 0), .int value6]) (fun o8 => rm_X5_put o8 (nI 0) value6 M) mf_X5_put lk_X5_87 im_X5_put se_X5_put rfl rfl rfl dX5_readValue_113 rfl (by decide) (Nat.le_trans c_0 (by decide)) (fun r7 M => ?_)
      refine R_pop (pc' := 117) dX5_readValue_116 rfl rfl ?_
      refine R_goto (tgt := 139) dX5_readValue_117 (by decide) ?_
      exact R_sub [0] rfl (rf_X5_readValue_J139 this M)
  · refine R_aloadq_n (pc' := 84) (i := 0) (j := 0) (q := (some this)) dX5_readValue_83 rfl rfl rfl ?_
    refine R_getR (pc' := 87) (q := (some this)) fl_X5_18 rfl dX5_readValue_84 rfl (fun tape9 => ?_)
    refine R_aloadq_n (pc' := 88) (i := 0) (j := 0) (q := (some this)) dX5_readValue_87 rfl rfl rfl ?_
    refine R_getR (pc' := 91) (q := (some this)) fl_X5_18 rfl dX5_readValue_88 rfl (fun tape10 => ?_)
    refine R_getI (pc' := 94) (q := tape10) fl_X5_65 rfl dX5_readValue_91 rfl (fun start11 => ?_)
    refine R_iconst (pc' := 95) (x := (nI 3)) dX5_readValue_94 rfl (by decide) ?_
    refine R_callV_I (pc' := 98) (q := tape9) (As := [.int start11, .int (nI 3)]) (fun o13 => rm_X7_failAt o13 start11 (nI 3) M) mf_X7_failAt lk_X5_68 im_X7_failAt se_X7_failAt rfl rfl rfl dX5_readValue_95 rfl (by decide) (Nat.le_trans c_0 (by decide)) (fun r12 M => ?_)
    exact R_bret dX5_readValue_98
def f_X5_readValue_J39 (this : Nat) (M : Mem) : Option (Int32 × Mem) :=
  (oO M 5 (some this)).bind fun o9 => cl (f_X5_wordFound o9 M) fun r1 M =>
  (gR M 5 0 (some this)).bind fun tape2 =>
  (gI M 7 3 tape2).bind fun kind3 =>
  (if kind3 = (nI 1) then
    (f_X5_readValue_J76 this r1 M)
  else
    ((if r1 = (-1 : Int32) then
      ((gR M 5 0 (some this)).bind fun tape4 =>
      (gR M 5 0 (some this)).bind fun tape5 =>
      (gI M 7 4 tape5).bind fun start6 =>
      (oO M 7 tape4).bind fun o8 => cl (f_X7_failAt o8 start6 (nI 0) M) fun r7 M =>
      ckZ r7 (some (r7, M)))
    else
      (f_X5_readValue_J76 this r1 M))))
set_option maxHeartbeats 2000000 in
set_option maxRecDepth 20000 in
theorem rf_X5_readValue_J39 (this : Nat) (M : Mem) : RF yX5_readValue cX5_readValue 2 (some .boolean) 2 eI (f_X5_readValue_J39 this M) 39 [(0, va_rf (some this))] [] M := by
  rw [f_X5_readValue_J39]
  refine R_aloadq_n (pc' := 40) (i := 0) (j := 0) (q := (some this)) dX5_readValue_39 rfl rfl rfl ?_
  refine R_callV_I (pc' := 43) (q := (some this)) (As := []) (fun o9 => rm_X5_wordFound o9 M) mf_X5_wordFound lk_X5_132 im_X5_wordFound se_X5_wordFound rfl rfl rfl dX5_readValue_40 rfl (by decide) (Nat.le_trans c_0 (by decide)) (fun r1 M => ?_)
  refine R_istore_n (pc' := 44) (L' := [(1, .int r1), (0, va_rf (some this))]) (i := 1) (x := r1) dX5_readValue_43 rfl rfl (by decide) rfl ?_
  refine R_aloadq_n (pc' := 45) (i := 0) (j := 1) (q := (some this)) dX5_readValue_44 rfl rfl rfl ?_
  refine R_getR (pc' := 48) (q := (some this)) fl_X5_18 rfl dX5_readValue_45 rfl (fun tape2 => ?_)
  refine R_getI (pc' := 51) (q := tape2) fl_X5_125 rfl dX5_readValue_48 rfl (fun kind3 => ?_)
  refine R_iconst (pc' := 52) (x := (nI 1)) dX5_readValue_51 rfl (by decide) ?_
  refine R_icmp_eq (pc' := 55) (tgt := 76) (a := kind3) (b := (nI 1)) dX5_readValue_52 (by decide) rfl ?_ ?_
  · exact R_sub [1, 0] rfl (rf_X5_readValue_J76 this r1 M)
  · refine R_iload_n (pc' := 56) (i := 1) (j := 0) (x := r1) dX5_readValue_55 rfl rfl rfl ?_
    refine R_iconst (pc' := 57) (x := (-1 : Int32)) dX5_readValue_56 rfl (by decide) ?_
    refine R_icmp_ne (pc' := 60) (tgt := 76) (a := r1) (b := (-1 : Int32)) dX5_readValue_57 (by decide) rfl ?_ ?_
    · exact R_sub [1, 0] rfl (rf_X5_readValue_J76 this r1 M)
    · refine R_aloadq_n (pc' := 61) (i := 0) (j := 1) (q := (some this)) dX5_readValue_60 rfl rfl rfl ?_
      refine R_getR (pc' := 64) (q := (some this)) fl_X5_18 rfl dX5_readValue_61 rfl (fun tape4 => ?_)
      refine R_aloadq_n (pc' := 65) (i := 0) (j := 1) (q := (some this)) dX5_readValue_64 rfl rfl rfl ?_
      refine R_getR (pc' := 68) (q := (some this)) fl_X5_18 rfl dX5_readValue_65 rfl (fun tape5 => ?_)
      refine R_getI (pc' := 71) (q := tape5) fl_X5_65 rfl dX5_readValue_68 rfl (fun start6 => ?_)
      refine R_iconst (pc' := 72) (x := (nI 0)) dX5_readValue_71 rfl (by decide) ?_
      refine R_callV_I (pc' := 75) (q := tape4) (As := [.int start6, .int (nI 0)]) (fun o8 => rm_X7_failAt o8 start6 (nI 0) M) mf_X7_failAt lk_X5_68 im_X7_failAt se_X7_failAt rfl rfl rfl dX5_readValue_72 rfl (by decide) (Nat.le_trans c_0 (by decide)) (fun r7 M => ?_)
      exact R_bret dX5_readValue_75
def f_X5_readValue (this : Nat) (M : Mem) : Option (Int32 × Mem) :=
  (gR M 5 0 (some this)).bind fun tape1 =>
  (gI M 7 3 tape1).bind fun kind2 =>
  (if kind2 = (nI 1) then
    ((gR M 5 0 (some this)).bind fun tape3 =>
    (gI M 7 5 tape3).bind fun value4 =>
    (if value4 = (nI 100000) then
      ((gR M 5 0 (some this)).bind fun tape5 =>
      (gR M 5 0 (some this)).bind fun tape6 =>
      (gI M 7 4 tape6).bind fun start7 =>
      (oO M 7 tape5).bind fun o9 => cl (f_X7_failAt o9 start7 (nI 1) M) fun r8 M =>
      ckZ r8 (some (r8, M)))
    else
      (f_X5_readValue_J39 this M)))
  else
    (f_X5_readValue_J39 this M))
set_option maxHeartbeats 2000000 in
set_option maxRecDepth 20000 in
theorem rm_X5_readValue (this : Nat) (M : Mem) : RFm yX5_readValue cX5_readValue 2 (some .boolean) 2 eI (f_X5_readValue this M) [va_rf (some this)] M := by
  refine RFm_of (L := [(0, va_rf (some this))]) (by decide) rfl (Nat.le_trans (c_R c_0) (by decide)) ?_
  rw [f_X5_readValue]
  refine R_aloadq_n (pc' := 1) (i := 0) (j := 0) (q := (some this)) dX5_readValue_0 rfl rfl rfl ?_
  refine R_getR (pc' := 4) (q := (some this)) fl_X5_18 rfl dX5_readValue_1 rfl (fun tape1 => ?_)
  refine R_getI (pc' := 7) (q := tape1) fl_X5_125 rfl dX5_readValue_4 rfl (fun kind2 => ?_)
  refine R_iconst (pc' := 8) (x := (nI 1)) dX5_readValue_7 rfl (by decide) ?_
  refine R_icmp_ne (pc' := 11) (tgt := 39) (a := kind2) (b := (nI 1)) dX5_readValue_8 (by decide) rfl ?_ ?_
  · exact R_sub [0] rfl (rf_X5_readValue_J39 this M)
  · refine R_aloadq_n (pc' := 12) (i := 0) (j := 0) (q := (some this)) dX5_readValue_11 rfl rfl rfl ?_
    refine R_getR (pc' := 15) (q := (some this)) fl_X5_18 rfl dX5_readValue_12 rfl (fun tape3 => ?_)
    refine R_getI (pc' := 18) (q := tape3) fl_X5_128 rfl dX5_readValue_15 rfl (fun value4 => ?_)
    refine R_ldc (pc' := 20) (x := (nI 100000)) dX5_readValue_18 rfl co_X5_131 ?_
    refine R_icmp_ne (pc' := 23) (tgt := 39) (a := value4) (b := (nI 100000)) dX5_readValue_20 (by decide) rfl ?_ ?_
    · exact R_sub [0] rfl (rf_X5_readValue_J39 this M)
    · refine R_aloadq_n (pc' := 24) (i := 0) (j := 0) (q := (some this)) dX5_readValue_23 rfl rfl rfl ?_
      refine R_getR (pc' := 27) (q := (some this)) fl_X5_18 rfl dX5_readValue_24 rfl (fun tape5 => ?_)
      refine R_aloadq_n (pc' := 28) (i := 0) (j := 0) (q := (some this)) dX5_readValue_27 rfl rfl rfl ?_
      refine R_getR (pc' := 31) (q := (some this)) fl_X5_18 rfl dX5_readValue_28 rfl (fun tape6 => ?_)
      refine R_getI (pc' := 34) (q := tape6) fl_X5_65 rfl dX5_readValue_31 rfl (fun start7 => ?_)
      refine R_iconst (pc' := 35) (x := (nI 1)) dX5_readValue_34 rfl (by decide) ?_
      refine R_callV_I (pc' := 38) (q := tape5) (As := [.int start7, .int (nI 1)]) (fun o9 => rm_X7_failAt o9 start7 (nI 1) M) mf_X7_failAt lk_X5_68 im_X7_failAt se_X7_failAt rfl rfl rfl dX5_readValue_35 rfl (by decide) (Nat.le_trans c_0 (by decide)) (fun r8 M => ?_)
      exact R_bret dX5_readValue_38
/-! BarPilot$RuleReader.readSum()Z -/
def f_X5_readSum_J131 (this : Nat) (l2 : Int32) (M : Mem) : Option (Int32 × Mem) :=
  ckZ l2 (some (l2, M))
set_option maxHeartbeats 2000000 in
set_option maxRecDepth 20000 in
theorem rf_X5_readSum_J131 (this : Nat) (l2 : Int32) (M : Mem) : RF yX5_readSum cX5_readSum 5 (some .boolean) 3 eI (f_X5_readSum_J131 this l2 M) 131 [(2, .int l2)] [] M := by
  rw [f_X5_readSum_J131]
  refine R_iload_n (pc' := 132) (i := 2) (j := 0) (x := l2) dX5_readSum_131 rfl rfl rfl ?_
  exact R_bret dX5_readSum_132
def f_X5_readSum_J119 (this : Nat) (l1 : Int32) (l2 : Int32) (M : Mem) : Option (Int32 × Mem) :=
  (if l1 = (-1 : Int32) then
    (f_X5_readSum_J131 this l2 M)
  else
    ((oO M 5 (some this)).bind fun o2 => cl (f_X5_put o2 l1 (nI 0) M) fun r1 M =>
    f_X5_readSum_J131 this l2 M))
set_option maxHeartbeats 2000000 in
set_option maxRecDepth 20000 in
theorem rf_X5_readSum_J119 (this : Nat) (l1 : Int32) (l2 : Int32) (M : Mem) : RF yX5_readSum cX5_readSum 5 (some .boolean) 3 eI (f_X5_readSum_J119 this l1 l2 M) 119 [(0, va_rf (some this)), (1, .int l1), (2, .int l2)] [] M := by
  rw [f_X5_readSum_J119]
  refine R_iload_n (pc' := 120) (i := 1) (j := 1) (x := l1) dX5_readSum_119 rfl rfl rfl ?_
  refine R_iconst (pc' := 121) (x := (-1 : Int32)) dX5_readSum_120 rfl (by decide) ?_
  refine R_icmp_eq (pc' := 124) (tgt := 131) (a := l1) (b := (-1 : Int32)) dX5_readSum_121 (by decide) rfl ?_ ?_
  · exact R_sub [2] rfl (rf_X5_readSum_J131 this l2 M)
  · refine R_aloadq_n (pc' := 125) (i := 0) (j := 0) (q := (some this)) dX5_readSum_124 rfl rfl rfl ?_
    refine R_iload_n (pc' := 126) (i := 1) (j := 1) (x := l1) dX5_readSum_125 rfl rfl rfl ?_
    refine R_iconst (pc' := 127) (x := (nI 0)) dX5_readSum_126 rfl (by decide) ?_
    refine R_callV_I (pc' := 130) (q := (some this)) (As := [.int l1, .int (nI 0)]) (fun o2 => rm_X5_put o2 l1 (nI 0) M) mf_X5_put lk_X5_87 im_X5_put se_X5_put rfl rfl rfl dX5_readSum_127 rfl (by decide) (Nat.le_trans c_0 (by decide)) (fun r1 M => ?_)
    refine R_pop (pc' := 131) dX5_readSum_130 rfl rfl ?_
    exact R_sub [2] rfl (rf_X5_readSum_J131 this l2 M)
def f_X5_readSum_J113 (k9 : Int32 → Int32 → Int32 → Mem → Option (Int32 × Mem)) (this : Nat) (l1 : Int32) (l2 : Int32) (l3 : Int32) (M : Mem) : Option (Int32 × Mem) :=
  k9 l1 l2 (l3 + (nI 1)) M
set_option maxHeartbeats 2000000 in
set_option maxRecDepth 20000 in
theorem rf_X5_readSum_J113 (this : Nat) (k9 : Int32 → Int32 → Int32 → Mem → Option (Int32 × Mem)) (hk9 : ∀ (l1 : Int32) (l2 : Int32) (l3 : Int32) (M : Mem), RF yX5_readSum cX5_readSum 5 (some .boolean) 3 eI (k9 l1 l2 l3 M) 9 [(0, va_rf (some this)), (1, .int l1), (2, .int l2), (3, .int l3)] [] M) (l1 : Int32) (l2 : Int32) (l3 : Int32) (M : Mem) : RF yX5_readSum cX5_readSum 5 (some .boolean) 3 eI (f_X5_readSum_J113 k9 this l1 l2 l3 M) 113 [(0, va_rf (some this)), (1, .int l1), (2, .int l2), (3, .int l3)] [] M := by
  rw [f_X5_readSum_J113]
  refine R_iinc (pc' := 116) (L' := [(3, .int (l3 + (nI 1))), (0, va_rf (some this)), (1, .int l1), (2, .int l2)]) (i := 3) (j := 3) (x := l3) (x2 := (l3 + (nI 1))) dX5_readSum_113 rfl rfl rfl (by decide) rfl ?_
  refine R_goto (tgt := 9) dX5_readSum_116 (by decide) ?_
  exact R_sub [1, 2, 3, 0] rfl (hk9 l1 l2 (l3 + (nI 1)) M)
def f_X5_readSum_J79 (k9 : Int32 → Int32 → Int32 → Mem → Option (Int32 × Mem)) (this : Nat) (l3 : Int32) (l4 : Int32) (M : Mem) : Option (Int32 × Mem) :=
  (oO M 5 (some this)).bind fun o2 => cl (f_X5_readValue o2 M) fun r1 M =>
  f_X5_readSum_J113 k9 this l4 r1 l3 M
set_option maxHeartbeats 2000000 in
set_option maxRecDepth 20000 in
theorem rf_X5_readSum_J79 (this : Nat) (k9 : Int32 → Int32 → Int32 → Mem → Option (Int32 × Mem)) (hk9 : ∀ (l1 : Int32) (l2 : Int32) (l3 : Int32) (M : Mem), RF yX5_readSum cX5_readSum 5 (some .boolean) 3 eI (k9 l1 l2 l3 M) 9 [(0, va_rf (some this)), (1, .int l1), (2, .int l2), (3, .int l3)] [] M) (l3 : Int32) (l4 : Int32) (M : Mem) : RF yX5_readSum cX5_readSum 5 (some .boolean) 3 eI (f_X5_readSum_J79 k9 this l3 l4 M) 79 [(0, va_rf (some this)), (3, .int l3), (4, .int l4)] [] M := by
  rw [f_X5_readSum_J79]
  refine R_iload (pc' := 81) (i := 4) (j := 2) (x := l4) dX5_readSum_79 rfl rfl ?_
  refine R_istore_n (pc' := 82) (L' := [(1, .int l4), (0, va_rf (some this)), (3, .int l3), (4, .int l4)]) (i := 1) (x := l4) dX5_readSum_81 rfl rfl (by decide) rfl ?_
  refine R_aloadq_n (pc' := 83) (i := 0) (j := 1) (q := (some this)) dX5_readSum_82 rfl rfl rfl ?_
  refine R_callV_I (pc' := 86) (q := (some this)) (As := []) (fun o2 => rm_X5_readValue o2 M) mf_X5_readValue lk_X5_119 im_X5_readValue se_X5_readValue rfl rfl rfl dX5_readSum_83 rfl (by decide) (Nat.le_trans c_0 (by decide)) (fun r1 M => ?_)
  refine R_istore_n (pc' := 87) (L' := [(2, .int r1), (1, .int l4), (0, va_rf (some this)), (3, .int l3), (4, .int l4)]) (i := 2) (x := r1) dX5_readSum_86 rfl rfl (by decide) rfl ?_
  refine R_goto (tgt := 113) dX5_readSum_87 (by decide) ?_
  exact R_sub [2, 1, 0, 3] rfl (rf_X5_readSum_J113 this k9 hk9 l4 r1 l3 M)
def f_X5_readSum_J67 (k9 : Int32 → Int32 → Int32 → Mem → Option (Int32 × Mem)) (this : Nat) (l1 : Int32) (l3 : Int32) (l4 : Int32) (M : Mem) : Option (Int32 × Mem) :=
  (if l1 = (-1 : Int32) then
    (f_X5_readSum_J79 k9 this l3 l4 M)
  else
    ((oO M 5 (some this)).bind fun o2 => cl (f_X5_put o2 l1 (nI 0) M) fun r1 M =>
    f_X5_readSum_J79 k9 this l3 l4 M))
set_option maxHeartbeats 2000000 in
set_option maxRecDepth 20000 in
theorem rf_X5_readSum_J67 (this : Nat) (k9 : Int32 → Int32 → Int32 → Mem → Option (Int32 × Mem)) (hk9 : ∀ (l1 : Int32) (l2 : Int32) (l3 : Int32) (M : Mem), RF yX5_readSum cX5_readSum 5 (some .boolean) 3 eI (k9 l1 l2 l3 M) 9 [(0, va_rf (some this)), (1, .int l1), (2, .int l2), (3, .int l3)] [] M) (l1 : Int32) (l3 : Int32) (l4 : Int32) (M : Mem) : RF yX5_readSum cX5_readSum 5 (some .boolean) 3 eI (f_X5_readSum_J67 k9 this l1 l3 l4 M) 67 [(0, va_rf (some this)), (1, .int l1), (3, .int l3), (4, .int l4)] [] M := by
  rw [f_X5_readSum_J67]
  refine R_iload_n (pc' := 68) (i := 1) (j := 1) (x := l1) dX5_readSum_67 rfl rfl rfl ?_
  refine R_iconst (pc' := 69) (x := (-1 : Int32)) dX5_readSum_68 rfl (by decide) ?_
  refine R_icmp_eq (pc' := 72) (tgt := 79) (a := l1) (b := (-1 : Int32)) dX5_readSum_69 (by decide) rfl ?_ ?_
  · exact R_sub [0, 2, 3] rfl (rf_X5_readSum_J79 this k9 hk9 l3 l4 M)
  · refine R_aloadq_n (pc' := 73) (i := 0) (j := 0) (q := (some this)) dX5_readSum_72 rfl rfl rfl ?_
    refine R_iload_n (pc' := 74) (i := 1) (j := 1) (x := l1) dX5_readSum_73 rfl rfl rfl ?_
    refine R_iconst (pc' := 75) (x := (nI 0)) dX5_readSum_74 rfl (by decide) ?_
    refine R_callV_I (pc' := 78) (q := (some this)) (As := [.int l1, .int (nI 0)]) (fun o2 => rm_X5_put o2 l1 (nI 0) M) mf_X5_put lk_X5_87 im_X5_put se_X5_put rfl rfl rfl dX5_readSum_75 rfl (by decide) (Nat.le_trans c_0 (by decide)) (fun r1 M => ?_)
    refine R_pop (pc' := 79) dX5_readSum_78 rfl rfl ?_
    exact R_sub [0, 2, 3] rfl (rf_X5_readSum_J79 this k9 hk9 l3 l4 M)
def f_X5_readSum_J112 (k9 : Int32 → Int32 → Int32 → Mem → Option (Int32 × Mem)) (this : Nat) (l1 : Int32) (l3 : Int32) (s0 : Int32) (M : Mem) : Option (Int32 × Mem) :=
  f_X5_readSum_J113 k9 this l1 s0 l3 M
set_option maxHeartbeats 2000000 in
set_option maxRecDepth 20000 in
theorem rf_X5_readSum_J112 (this : Nat) (k9 : Int32 → Int32 → Int32 → Mem → Option (Int32 × Mem)) (hk9 : ∀ (l1 : Int32) (l2 : Int32) (l3 : Int32) (M : Mem), RF yX5_readSum cX5_readSum 5 (some .boolean) 3 eI (k9 l1 l2 l3 M) 9 [(0, va_rf (some this)), (1, .int l1), (2, .int l2), (3, .int l3)] [] M) (l1 : Int32) (l3 : Int32) (s0 : Int32) (M : Mem) : RF yX5_readSum cX5_readSum 5 (some .boolean) 3 eI (f_X5_readSum_J112 k9 this l1 l3 s0 M) 112 [(0, va_rf (some this)), (1, .int l1), (3, .int l3)] [.int s0] M := by
  rw [f_X5_readSum_J112]
  refine R_istore_n (pc' := 113) (L' := [(2, .int s0), (0, va_rf (some this)), (1, .int l1), (3, .int l3)]) (i := 2) (x := s0) dX5_readSum_112 rfl rfl (by decide) rfl ?_
  exact R_sub [1, 2, 0, 3] rfl (rf_X5_readSum_J113 this k9 hk9 l1 s0 l3 M)
def f_X5_readSum_J111 (k9 : Int32 → Int32 → Int32 → Mem → Option (Int32 × Mem)) (this : Nat) (l1 : Int32) (l3 : Int32) (M : Mem) : Option (Int32 × Mem) :=
  f_X5_readSum_J112 k9 this l1 l3 (nI 0) M
set_option maxHeartbeats 2000000 in
set_option maxRecDepth 20000 in
theorem rf_X5_readSum_J111 (this : Nat) (k9 : Int32 → Int32 → Int32 → Mem → Option (Int32 × Mem)) (hk9 : ∀ (l1 : Int32) (l2 : Int32) (l3 : Int32) (M : Mem), RF yX5_readSum cX5_readSum 5 (some .boolean) 3 eI (k9 l1 l2 l3 M) 9 [(0, va_rf (some this)), (1, .int l1), (2, .int l2), (3, .int l3)] [] M) (l1 : Int32) (l3 : Int32) (M : Mem) : RF yX5_readSum cX5_readSum 5 (some .boolean) 3 eI (f_X5_readSum_J111 k9 this l1 l3 M) 111 [(0, va_rf (some this)), (1, .int l1), (3, .int l3)] [] M := by
  rw [f_X5_readSum_J111]
  refine R_iconst (pc' := 112) (x := (nI 0)) dX5_readSum_111 rfl (by decide) ?_
  exact R_sub [0, 1, 2] rfl (rf_X5_readSum_J112 this k9 hk9 l1 l3 (nI 0) M)
def f_X5_readSum_L9 (this : Nat) : Nat → Int32 → Int32 → Int32 → Mem → Option (Int32 × Mem)
  | 0, _, _, _, _ => none
  | n + 1, l1, l2, l3, M =>
    (if (nI 400) ≤ l3 then
      (f_X5_readSum_J119 this l1 l2 M)
    else
      ((if l2 = 0 then
        (f_X5_readSum_J119 this l1 l2 M)
      else
        ((gR M 5 0 (some this)).bind fun tape1 =>
        (gI M 7 7 tape1).bind fun sign2 =>
        cl (f_X5_joinStep sign2 M) fun r3 M =>
        (if r3 = (-1 : Int32) then
          (f_X5_readSum_J119 this l1 l2 M)
        else
          ((gR M 5 0 (some this)).bind fun tape4 =>
          (gI M 7 7 tape4).bind fun sign5 =>
          cl (f_X5_joinStep sign5 M) fun r6 M =>
          (gR M 5 0 (some this)).bind fun tape7 =>
          (oO M 7 tape7).bind fun o13 => cl (f_X7_next o13 M) fun u8 M =>
          (if r6 = (nI 7) then
            (f_X5_readSum_J67 (f_X5_readSum_L9 this n) this l1 l3 r6 M)
          else
            ((if r6 = (nI 8) then
              (f_X5_readSum_J67 (f_X5_readSum_L9 this n) this l1 l3 r6 M)
            else
              ((oO M 5 (some this)).bind fun o12 => cl (f_X5_readValue o12 M) fun r9 M =>
              (if r9 = 0 then
                (f_X5_readSum_J111 (f_X5_readSum_L9 this n) this l1 l3 M)
              else
                ((oO M 5 (some this)).bind fun o11 => cl (f_X5_put o11 r6 (nI 0) M) fun r10 M =>
                (if r10 = 0 then
                  (f_X5_readSum_J111 (f_X5_readSum_L9 this n) this l1 l3 M)
                else
                  (f_X5_readSum_J112 (f_X5_readSum_L9 this n) this l1 l3 (nI 1) M))))))))))))))
set_option maxHeartbeats 2000000 in
set_option maxRecDepth 20000 in
theorem rf_X5_readSum_L9 (this : Nat) : ∀ (n : Nat) (l1 : Int32) (l2 : Int32) (l3 : Int32) (M : Mem), RF yX5_readSum cX5_readSum 5 (some .boolean) 3 eI (f_X5_readSum_L9 this n l1 l2 l3 M) 9 [(0, va_rf (some this)), (1, .int l1), (2, .int l2), (3, .int l3)] [] M := by
  intro n
  induction n with
  | zero => intro _ _ _ _; exact RF.none
  | succ n ih =>
    intro l1 l2 l3 M
    rw [f_X5_readSum_L9]
    refine R_iload_n (pc' := 10) (i := 3) (j := 3) (x := l3) dX5_readSum_9 rfl rfl rfl ?_
    refine R_sipush (pc' := 13) (x := (nI 400)) dX5_readSum_10 rfl (by decide) ?_
    refine R_icmp_ge (pc' := 16) (tgt := 119) (a := l3) (b := (nI 400)) dX5_readSum_13 (by decide) rfl ?_ ?_
    · exact R_sub [0, 1, 2] rfl (rf_X5_readSum_J119 this l1 l2 M)
    · refine R_iload_n (pc' := 17) (i := 2) (j := 2) (x := l2) dX5_readSum_16 rfl rfl rfl ?_
      refine R_if_eq (pc' := 20) (tgt := 119) (a := l2) dX5_readSum_17 (by decide) rfl ?_ ?_
      · exact R_sub [0, 1, 2] rfl (rf_X5_readSum_J119 this l1 l2 M)
      · refine R_aloadq_n (pc' := 21) (i := 0) (j := 0) (q := (some this)) dX5_readSum_20 rfl rfl rfl ?_
        refine R_getR (pc' := 24) (q := (some this)) fl_X5_18 rfl dX5_readSum_21 rfl (fun tape1 => ?_)
        refine R_getI (pc' := 27) (q := tape1) fl_X5_109 rfl dX5_readSum_24 rfl (fun sign2 => ?_)
        refine R_callS_I (pc' := 30) (As := [.int sign2]) (rm_X5_joinStep sign2 M) mf_X5_joinStep lk_X5_122 sm_X5_joinStep rfl rfl dX5_readSum_27 rfl (by decide) (Nat.le_trans c_0 (by decide)) (fun r3 M => ?_)
        refine R_iconst (pc' := 31) (x := (-1 : Int32)) dX5_readSum_30 rfl (by decide) ?_
        refine R_icmp_eq (pc' := 34) (tgt := 119) (a := r3) (b := (-1 : Int32)) dX5_readSum_31 (by decide) rfl ?_ ?_
        · exact R_sub [0, 1, 2] rfl (rf_X5_readSum_J119 this l1 l2 M)
        · refine R_aloadq_n (pc' := 35) (i := 0) (j := 0) (q := (some this)) dX5_readSum_34 rfl rfl rfl ?_
          refine R_getR (pc' := 38) (q := (some this)) fl_X5_18 rfl dX5_readSum_35 rfl (fun tape4 => ?_)
          refine R_getI (pc' := 41) (q := tape4) fl_X5_109 rfl dX5_readSum_38 rfl (fun sign5 => ?_)
          refine R_callS_I (pc' := 44) (As := [.int sign5]) (rm_X5_joinStep sign5 M) mf_X5_joinStep lk_X5_122 sm_X5_joinStep rfl rfl dX5_readSum_41 rfl (by decide) (Nat.le_trans c_0 (by decide)) (fun r6 M => ?_)
          refine R_istore (pc' := 46) (L' := [(4, .int r6), (0, va_rf (some this)), (1, .int l1), (2, .int l2), (3, .int l3)]) (i := 4) (x := r6) dX5_readSum_44 rfl (by decide) rfl ?_
          refine R_aloadq_n (pc' := 47) (i := 0) (j := 1) (q := (some this)) dX5_readSum_46 rfl rfl rfl ?_
          refine R_getR (pc' := 50) (q := (some this)) fl_X5_18 rfl dX5_readSum_47 rfl (fun tape7 => ?_)
          refine R_callV_V (pc' := 53) (q := tape7) (As := []) (fun o13 => rm_X7_next o13 M) mf_X7_next lk_X5_72 im_X7_next se_X7_next rfl rfl rfl dX5_readSum_50 rfl (by decide) (Nat.le_trans c_0 (by decide)) (fun u8 M => ?_)
          refine R_iload (pc' := 55) (i := 4) (j := 0) (x := r6) dX5_readSum_53 rfl rfl ?_
          refine R_bipush (pc' := 57) (x := (nI 7)) dX5_readSum_55 rfl (by decide) ?_
          refine R_icmp_eq (pc' := 60) (tgt := 67) (a := r6) (b := (nI 7)) dX5_readSum_57 (by decide) rfl ?_ ?_
          · exact R_sub [1, 2, 4, 0] rfl (rf_X5_readSum_J67 this (f_X5_readSum_L9 this n) ih l1 l3 r6 M)
          · refine R_iload (pc' := 62) (i := 4) (j := 0) (x := r6) dX5_readSum_60 rfl rfl ?_
            refine R_bipush (pc' := 64) (x := (nI 8)) dX5_readSum_62 rfl (by decide) ?_
            refine R_icmp_ne (pc' := 67) (tgt := 90) (a := r6) (b := (nI 8)) dX5_readSum_64 (by decide) rfl ?_ ?_
            · refine R_aloadq_n (pc' := 91) (i := 0) (j := 1) (q := (some this)) dX5_readSum_90 rfl rfl rfl ?_
              refine R_callV_I (pc' := 94) (q := (some this)) (As := []) (fun o12 => rm_X5_readValue o12 M) mf_X5_readValue lk_X5_119 im_X5_readValue se_X5_readValue rfl rfl rfl dX5_readSum_91 rfl (by decide) (Nat.le_trans c_0 (by decide)) (fun r9 M => ?_)
              refine R_if_eq (pc' := 97) (tgt := 111) (a := r9) dX5_readSum_94 (by decide) rfl ?_ ?_
              · exact R_sub [1, 2, 4] rfl (rf_X5_readSum_J111 this (f_X5_readSum_L9 this n) ih l1 l3 M)
              · refine R_aloadq_n (pc' := 98) (i := 0) (j := 1) (q := (some this)) dX5_readSum_97 rfl rfl rfl ?_
                refine R_iload (pc' := 100) (i := 4) (j := 0) (x := r6) dX5_readSum_98 rfl rfl ?_
                refine R_iconst (pc' := 101) (x := (nI 0)) dX5_readSum_100 rfl (by decide) ?_
                refine R_callV_I (pc' := 104) (q := (some this)) (As := [.int r6, .int (nI 0)]) (fun o11 => rm_X5_put o11 r6 (nI 0) M) mf_X5_put lk_X5_87 im_X5_put se_X5_put rfl rfl rfl dX5_readSum_101 rfl (by decide) (Nat.le_trans c_0 (by decide)) (fun r10 M => ?_)
                refine R_if_eq (pc' := 107) (tgt := 111) (a := r10) dX5_readSum_104 (by decide) rfl ?_ ?_
                · exact R_sub [1, 2, 4] rfl (rf_X5_readSum_J111 this (f_X5_readSum_L9 this n) ih l1 l3 M)
                · refine R_iconst (pc' := 108) (x := (nI 1)) dX5_readSum_107 rfl (by decide) ?_
                  refine R_goto (tgt := 112) dX5_readSum_108 (by decide) ?_
                  exact R_sub [1, 2, 4] rfl (rf_X5_readSum_J112 this (f_X5_readSum_L9 this n) ih l1 l3 (nI 1) M)
            · exact R_sub [1, 2, 4, 0] rfl (rf_X5_readSum_J67 this (f_X5_readSum_L9 this n) ih l1 l3 r6 M)
def f_X5_readSum (this : Nat) (M : Mem) : Option (Int32 × Mem) :=
  (oO M 5 (some this)).bind fun o2 => cl (f_X5_readValue o2 M) fun r1 M =>
  f_X5_readSum_L9 this FU (-1 : Int32) r1 (nI 0) M
set_option maxHeartbeats 2000000 in
set_option maxRecDepth 20000 in
theorem rm_X5_readSum (this : Nat) (M : Mem) : RFm yX5_readSum cX5_readSum 5 (some .boolean) 3 eI (f_X5_readSum this M) [va_rf (some this)] M := by
  refine RFm_of (L := [(0, va_rf (some this))]) (by decide) rfl (Nat.le_trans (c_R c_0) (by decide)) ?_
  rw [f_X5_readSum]
  refine R_iconst (pc' := 1) (x := (-1 : Int32)) dX5_readSum_0 rfl (by decide) ?_
  refine R_istore_n (pc' := 2) (L' := [(1, .int (-1 : Int32)), (0, va_rf (some this))]) (i := 1) (x := (-1 : Int32)) dX5_readSum_1 rfl rfl (by decide) rfl ?_
  refine R_aloadq_n (pc' := 3) (i := 0) (j := 1) (q := (some this)) dX5_readSum_2 rfl rfl rfl ?_
  refine R_callV_I (pc' := 6) (q := (some this)) (As := []) (fun o2 => rm_X5_readValue o2 M) mf_X5_readValue lk_X5_119 im_X5_readValue se_X5_readValue rfl rfl rfl dX5_readSum_3 rfl (by decide) (Nat.le_trans c_0 (by decide)) (fun r1 M => ?_)
  refine R_istore_n (pc' := 7) (L' := [(2, .int r1), (1, .int (-1 : Int32)), (0, va_rf (some this))]) (i := 2) (x := r1) dX5_readSum_6 rfl rfl (by decide) rfl ?_
  refine R_iconst (pc' := 8) (x := (nI 0)) dX5_readSum_7 rfl (by decide) ?_
  refine R_istore_n (pc' := 9) (L' := [(3, .int (nI 0)), (2, .int r1), (1, .int (-1 : Int32)), (0, va_rf (some this))]) (i := 3) (x := (nI 0)) dX5_readSum_8 rfl rfl (by decide) rfl ?_
  exact R_sub [3, 2, 1, 0] rfl (rf_X5_readSum_L9 this FU (-1 : Int32) r1 (nI 0) M)
/-! BarPilot$RuleReader.land(I)V -/
def f_X5_land_J30 (this : Nat) (M : Mem) : Option (Unit × Mem) :=
  some ((), M)
set_option maxHeartbeats 2000000 in
set_option maxRecDepth 20000 in
theorem rf_X5_land_J30 (this : Nat) (M : Mem) : RF yX5_land cX5_land 2 none 1 eV (f_X5_land_J30 this M) 30 [] [] M := by
  rw [f_X5_land_J30]
  exact R_vret dX5_land_30
def f_X5_land (this : Nat) (l1 : Int32) (M : Mem) : Option (Unit × Mem) :=
  (if l1 = (-1 : Int32) then
    (f_X5_land_J30 this M)
  else
    ((gI M 5 3 (some this)).bind fun length1 =>
    (if length1 ≤ l1 then
      (f_X5_land_J30 this M)
    else
      ((gR M 5 1 (some this)).bind fun code2 =>
      (aI M 0 code2 l1).bind fun e3 =>
      (gI M 5 3 (some this)).bind fun length4 =>
      (wI M 0 code2 l1 (e3 ||| ((length4 - l1) - (nI 1)))).bind fun M =>
      f_X5_land_J30 this M))))
set_option maxHeartbeats 2000000 in
set_option maxRecDepth 20000 in
theorem rm_X5_land (this : Nat) (l1 : Int32) (M : Mem) : RFm yX5_land cX5_land 2 none 1 eV (f_X5_land this l1 M) [va_rf (some this), .int l1] M := by
  refine RFm_of (L := [(0, va_rf (some this)), (1, .int l1)]) (by decide) rfl (Nat.le_trans (c_R (c_I c_0)) (by decide)) ?_
  rw [f_X5_land]
  refine R_iload_n (pc' := 1) (i := 1) (j := 1) (x := l1) dX5_land_0 rfl rfl rfl ?_
  refine R_iconst (pc' := 2) (x := (-1 : Int32)) dX5_land_1 rfl (by decide) ?_
  refine R_icmp_eq (pc' := 5) (tgt := 30) (a := l1) (b := (-1 : Int32)) dX5_land_2 (by decide) rfl ?_ ?_
  · exact R_sub [] rfl (rf_X5_land_J30 this M)
  · refine R_iload_n (pc' := 6) (i := 1) (j := 1) (x := l1) dX5_land_5 rfl rfl rfl ?_
    refine R_aloadq_n (pc' := 7) (i := 0) (j := 0) (q := (some this)) dX5_land_6 rfl rfl rfl ?_
    refine R_getI (pc' := 10) (q := (some this)) fl_X5_27 rfl dX5_land_7 rfl (fun length1 => ?_)
    refine R_icmp_ge (pc' := 13) (tgt := 30) (a := l1) (b := length1) dX5_land_10 (by decide) rfl ?_ ?_
    · exact R_sub [] rfl (rf_X5_land_J30 this M)
    · refine R_aloadq_n (pc' := 14) (i := 0) (j := 0) (q := (some this)) dX5_land_13 rfl rfl rfl ?_
      refine R_getR (pc' := 17) (q := (some this)) fl_X5_9 rfl dX5_land_14 rfl (fun code2 => ?_)
      refine R_iload_n (pc' := 18) (i := 1) (j := 1) (x := l1) dX5_land_17 rfl rfl rfl ?_
      refine R_dup2 (pc' := 19) dX5_land_18 rfl rfl (rf_cat _) ?_
      refine R_iald (pc' := 20) (q := code2) (i := l1) dX5_land_19 rfl (fun e3 => ?_)
      refine R_aloadq_n (pc' := 21) (i := 0) (j := 0) (q := (some this)) dX5_land_20 rfl rfl rfl ?_
      refine R_getI (pc' := 24) (q := (some this)) fl_X5_27 rfl dX5_land_21 rfl (fun length4 => ?_)
      refine R_iload_n (pc' := 25) (i := 1) (j := 1) (x := l1) dX5_land_24 rfl rfl rfl ?_
      refine R_isub (pc' := 26) (a := length4) (b := l1) dX5_land_25 rfl ?_
      refine R_iconst (pc' := 27) (x := (nI 1)) dX5_land_26 rfl (by decide) ?_
      refine R_isub (pc' := 28) (a := (length4 - l1)) (b := (nI 1)) dX5_land_27 rfl ?_
      refine R_ior (pc' := 29) (a := e3) (b := ((length4 - l1) - (nI 1))) dX5_land_28 rfl ?_
      refine R_iast (pc' := 30) (q := code2) (i := l1) (x := (e3 ||| ((length4 - l1) - (nI 1)))) dX5_land_29 rfl (fun M => ?_)
      exact R_sub [] rfl (rf_X5_land_J30 this M)
/-! BarPilot$RuleReader.compareStep(I)I -/
def f_X5_compareStep (l0 : Int32) (M : Mem) : Option (Int32 × Mem) :=
  (lsw l0 [
    (60, some ((nI 12), M)),
    (61, some ((nI 14), M)),
    (62, some ((nI 16), M)),
    (316, some ((nI 13), M)),
    (318, some ((nI 15), M))]
    (some ((-1 : Int32), M)))
set_option maxHeartbeats 2000000 in
set_option maxRecDepth 20000 in
theorem rm_X5_compareStep (l0 : Int32) (M : Mem) : RFm yX5_compareStep cX5_compareStep 1 (some .int) 1 eI (f_X5_compareStep l0 M) [.int l0] M := by
  refine RFm_of (L := [(0, .int l0)]) (by decide) rfl (Nat.le_trans (c_I c_0) (by decide)) ?_
  rw [f_X5_compareStep]
  refine R_iload_n (pc' := 1) (i := 0) (j := 0) (x := l0) dX5_compareStep_0 rfl rfl rfl ?_
  refine R_lsw (tgt := 67) (x := l0) dX5_compareStep_1 (by decide) (by decide) ?_ ⟨rfl, ⟨52, by decide, ?_⟩, rfl, ⟨58, by decide, ?_⟩, rfl, ⟨64, by decide, ?_⟩, rfl, ⟨55, by decide, ?_⟩, rfl, ⟨61, by decide, ?_⟩, trivial⟩
  · refine R_iconst (pc' := 68) (x := (-1 : Int32)) dX5_compareStep_67 rfl (by decide) ?_
    exact R_iret dX5_compareStep_68
  · refine R_bipush (pc' := 54) (x := (nI 12)) dX5_compareStep_52 rfl (by decide) ?_
    exact R_iret dX5_compareStep_54
  · refine R_bipush (pc' := 60) (x := (nI 14)) dX5_compareStep_58 rfl (by decide) ?_
    exact R_iret dX5_compareStep_60
  · refine R_bipush (pc' := 66) (x := (nI 16)) dX5_compareStep_64 rfl (by decide) ?_
    exact R_iret dX5_compareStep_66
  · refine R_bipush (pc' := 57) (x := (nI 13)) dX5_compareStep_55 rfl (by decide) ?_
    exact R_iret dX5_compareStep_57
  · refine R_bipush (pc' := 63) (x := (nI 15)) dX5_compareStep_61 rfl (by decide) ?_
    exact R_iret dX5_compareStep_63
/-! BarPilot$RuleReader.readTest(I)Z -/
def f_X5_readTest_J139 (g_X5_readFact : Nat → Int32 → Mem → Option (Int32 × Mem)) (this : Nat) (l2 : Int32) (l3 : Int32) (M : Mem) : Option (Int32 × Mem) :=
  (oO M 5 (some this)).bind fun o2 => cl (f_X5_land o2 l2 M) fun u1 M =>
  ckZ l3 (some (l3, M))
set_option maxHeartbeats 2000000 in
set_option maxRecDepth 20000 in
theorem rf_X5_readTest_J139 {dg : Nat} (g_X5_readFact : Nat → Int32 → Mem → Option (Int32 × Mem)) (hdg : 3 ≤ dg) (hg_X5_readFact : ∀ (this : Nat) (l1 : Int32) (M : Mem), RFm yX5_readFact cX5_readFact 5 (some .boolean) dg eI (g_X5_readFact this l1 M) [va_rf (some this), .int l1] M) (this : Nat) (l2 : Int32) (l3 : Int32) (M : Mem) : RF yX5_readTest cX5_readTest 7 (some .boolean) (dg + 1) eI (f_X5_readTest_J139 g_X5_readFact this l2 l3 M) 139 [(0, va_rf (some this)), (2, .int l2), (3, .int l3)] [] M := by
  rw [f_X5_readTest_J139]
  refine R_aloadq_n (pc' := 140) (i := 0) (j := 0) (q := (some this)) dX5_readTest_139 rfl rfl rfl ?_
  refine R_iload_n (pc' := 141) (i := 2) (j := 1) (x := l2) dX5_readTest_140 rfl rfl rfl ?_
  refine R_callV_V (pc' := 144) (q := (some this)) (As := [.int l2]) (fun o2 => rm_X5_land o2 l2 M) mf_X5_land lk_X5_103 im_X5_land se_X5_land rfl rfl rfl dX5_readTest_141 rfl (by omega) (Nat.le_trans c_0 (by decide)) (fun u1 M => ?_)
  refine R_iload_n (pc' := 145) (i := 3) (j := 2) (x := l3) dX5_readTest_144 rfl rfl rfl ?_
  exact R_bret dX5_readTest_145
def f_X5_readTest_J133 (g_X5_readFact : Nat → Int32 → Mem → Option (Int32 × Mem)) (k11 : Int32 → Int32 → Int32 → Int32 → Mem → Option (Int32 × Mem)) (this : Nat) (l1 : Int32) (l2 : Int32) (l3 : Int32) (l4 : Int32) (M : Mem) : Option (Int32 × Mem) :=
  k11 l1 l2 l3 (l4 + (nI 1)) M
set_option maxHeartbeats 2000000 in
set_option maxRecDepth 20000 in
theorem rf_X5_readTest_J133 {dg : Nat} (g_X5_readFact : Nat → Int32 → Mem → Option (Int32 × Mem)) (hdg : 3 ≤ dg) (hg_X5_readFact : ∀ (this : Nat) (l1 : Int32) (M : Mem), RFm yX5_readFact cX5_readFact 5 (some .boolean) dg eI (g_X5_readFact this l1 M) [va_rf (some this), .int l1] M) (this : Nat) (k11 : Int32 → Int32 → Int32 → Int32 → Mem → Option (Int32 × Mem)) (hk11 : ∀ (l1 : Int32) (l2 : Int32) (l3 : Int32) (l4 : Int32) (M : Mem), RF yX5_readTest cX5_readTest 7 (some .boolean) (dg + 1) eI (k11 l1 l2 l3 l4 M) 11 [(0, va_rf (some this)), (1, .int l1), (2, .int l2), (3, .int l3), (4, .int l4)] [] M) (l1 : Int32) (l2 : Int32) (l3 : Int32) (l4 : Int32) (M : Mem) : RF yX5_readTest cX5_readTest 7 (some .boolean) (dg + 1) eI (f_X5_readTest_J133 g_X5_readFact k11 this l1 l2 l3 l4 M) 133 [(0, va_rf (some this)), (1, .int l1), (2, .int l2), (3, .int l3), (4, .int l4)] [] M := by
  rw [f_X5_readTest_J133]
  refine R_iinc (pc' := 136) (L' := [(4, .int (l4 + (nI 1))), (0, va_rf (some this)), (1, .int l1), (2, .int l2), (3, .int l3)]) (i := 4) (j := 4) (x := l4) (x2 := (l4 + (nI 1))) dX5_readTest_133 rfl rfl rfl (by decide) rfl ?_
  refine R_goto (tgt := 11) dX5_readTest_136 (by decide) ?_
  exact R_sub [1, 2, 3, 4, 0] rfl (hk11 l1 l2 l3 (l4 + (nI 1)) M)
def f_X5_readTest_J104 (g_X5_readFact : Nat → Int32 → Mem → Option (Int32 × Mem)) (k11 : Int32 → Int32 → Int32 → Int32 → Mem → Option (Int32 × Mem)) (this : Nat) (l1 : Int32) (l2 : Int32) (l4 : Int32) (l5 : Int32) (l6 : Int32) (s0 : Int32) (s1 : Option Nat) (M : Mem) : Option (Int32 × Mem) :=
  (oO M 5 s1).bind fun o9 => cl (f_X5_put o9 s0 (nI 0) M) fun r1 M =>
  (gR M 5 0 (some this)).bind fun tape2 =>
  (oO M 7 tape2).bind fun o8 => cl (f_X7_next o8 M) fun u3 M =>
  (oO M 5 (some this)).bind fun o7 => cl (g_X5_readFact o7 l1 M) fun r4 M =>
  (if l5 = 0 then
    (f_X5_readTest_J133 g_X5_readFact k11 this l1 l2 r4 l4 M)
  else
    ((oO M 5 (some this)).bind fun o6 => cl (f_X5_land o6 l6 M) fun u5 M =>
    f_X5_readTest_J133 g_X5_readFact k11 this l1 l2 r4 l4 M))
set_option maxHeartbeats 2000000 in
set_option maxRecDepth 20000 in
theorem rf_X5_readTest_J104 {dg : Nat} (g_X5_readFact : Nat → Int32 → Mem → Option (Int32 × Mem)) (hdg : 3 ≤ dg) (hg_X5_readFact : ∀ (this : Nat) (l1 : Int32) (M : Mem), RFm yX5_readFact cX5_readFact 5 (some .boolean) dg eI (g_X5_readFact this l1 M) [va_rf (some this), .int l1] M) (this : Nat) (k11 : Int32 → Int32 → Int32 → Int32 → Mem → Option (Int32 × Mem)) (hk11 : ∀ (l1 : Int32) (l2 : Int32) (l3 : Int32) (l4 : Int32) (M : Mem), RF yX5_readTest cX5_readTest 7 (some .boolean) (dg + 1) eI (k11 l1 l2 l3 l4 M) 11 [(0, va_rf (some this)), (1, .int l1), (2, .int l2), (3, .int l3), (4, .int l4)] [] M) (l1 : Int32) (l2 : Int32) (l4 : Int32) (l5 : Int32) (l6 : Int32) (s0 : Int32) (s1 : Option Nat) (M : Mem) : RF yX5_readTest cX5_readTest 7 (some .boolean) (dg + 1) eI (f_X5_readTest_J104 g_X5_readFact k11 this l1 l2 l4 l5 l6 s0 s1 M) 104 [(0, va_rf (some this)), (1, .int l1), (2, .int l2), (4, .int l4), (5, .int l5), (6, .int l6)] [.int s0, va_rf s1] M := by
  rw [f_X5_readTest_J104]
  refine R_iconst (pc' := 105) (x := (nI 0)) dX5_readTest_104 rfl (by decide) ?_
  refine R_callV_I (pc' := 108) (q := s1) (As := [.int s0, .int (nI 0)]) (fun o9 => rm_X5_put o9 s0 (nI 0) M) mf_X5_put lk_X5_87 im_X5_put se_X5_put rfl rfl rfl dX5_readTest_105 rfl (by omega) (Nat.le_trans c_0 (by decide)) (fun r1 M => ?_)
  refine R_pop (pc' := 109) dX5_readTest_108 rfl rfl ?_
  refine R_aloadq_n (pc' := 110) (i := 0) (j := 0) (q := (some this)) dX5_readTest_109 rfl rfl rfl ?_
  refine R_getR (pc' := 113) (q := (some this)) fl_X5_18 rfl dX5_readTest_110 rfl (fun tape2 => ?_)
  refine R_callV_V (pc' := 116) (q := tape2) (As := []) (fun o8 => rm_X7_next o8 M) mf_X7_next lk_X5_72 im_X7_next se_X7_next rfl rfl rfl dX5_readTest_113 rfl (by omega) (Nat.le_trans c_0 (by decide)) (fun u3 M => ?_)
  refine R_aloadq_n (pc' := 117) (i := 0) (j := 0) (q := (some this)) dX5_readTest_116 rfl rfl rfl ?_
  refine R_iload_n (pc' := 118) (i := 1) (j := 1) (x := l1) dX5_readTest_117 rfl rfl rfl ?_
  refine R_callV_I (pc' := 121) (q := (some this)) (As := [.int l1]) (fun o7 => hg_X5_readFact o7 l1 M) mf_X5_readFact lk_X5_96 im_X5_readFact se_X5_readFact rfl rfl rfl dX5_readTest_118 rfl (by omega) (Nat.le_trans c_0 (by decide)) (fun r4 M => ?_)
  refine R_istore_n (pc' := 122) (L' := [(3, .int r4), (0, va_rf (some this)), (1, .int l1), (2, .int l2), (4, .int l4), (5, .int l5), (6, .int l6)]) (i := 3) (x := r4) dX5_readTest_121 rfl rfl (by decide) rfl ?_
  refine R_iload (pc' := 124) (i := 5) (j := 5) (x := l5) dX5_readTest_122 rfl rfl ?_
  refine R_if_eq (pc' := 127) (tgt := 133) (a := l5) dX5_readTest_124 (by decide) rfl ?_ ?_
  · exact R_sub [1, 2, 3, 0, 4] rfl (rf_X5_readTest_J133 g_X5_readFact hdg hg_X5_readFact this k11 hk11 l1 l2 r4 l4 M)
  · refine R_aloadq_n (pc' := 128) (i := 0) (j := 1) (q := (some this)) dX5_readTest_127 rfl rfl rfl ?_
    refine R_iload (pc' := 130) (i := 6) (j := 6) (x := l6) dX5_readTest_128 rfl rfl ?_
    refine R_callV_V (pc' := 133) (q := (some this)) (As := [.int l6]) (fun o6 => rm_X5_land o6 l6 M) mf_X5_land lk_X5_103 im_X5_land se_X5_land rfl rfl rfl dX5_readTest_130 rfl (by omega) (Nat.le_trans c_0 (by decide)) (fun u5 M => ?_)
    exact R_sub [1, 2, 3, 0, 4] rfl (rf_X5_readTest_J133 g_X5_readFact hdg hg_X5_readFact this k11 hk11 l1 l2 r4 l4 M)
def f_X5_readTest_J87 (g_X5_readFact : Nat → Int32 → Mem → Option (Int32 × Mem)) (k11 : Int32 → Int32 → Int32 → Int32 → Mem → Option (Int32 × Mem)) (this : Nat) (l1 : Int32) (l2 : Int32) (l4 : Int32) (l5 : Int32) (M : Mem) : Option (Int32 × Mem) :=
  (gI M 5 3 (some this)).bind fun length1 =>
  (if l5 = 0 then
    (f_X5_readTest_J104 g_X5_readFact k11 this l1 l2 l4 l5 length1 (nI 4) (some this) M)
  else
    (f_X5_readTest_J104 g_X5_readFact k11 this l1 l2 l4 l5 length1 (nI 3) (some this) M))
set_option maxHeartbeats 2000000 in
set_option maxRecDepth 20000 in
theorem rf_X5_readTest_J87 {dg : Nat} (g_X5_readFact : Nat → Int32 → Mem → Option (Int32 × Mem)) (hdg : 3 ≤ dg) (hg_X5_readFact : ∀ (this : Nat) (l1 : Int32) (M : Mem), RFm yX5_readFact cX5_readFact 5 (some .boolean) dg eI (g_X5_readFact this l1 M) [va_rf (some this), .int l1] M) (this : Nat) (k11 : Int32 → Int32 → Int32 → Int32 → Mem → Option (Int32 × Mem)) (hk11 : ∀ (l1 : Int32) (l2 : Int32) (l3 : Int32) (l4 : Int32) (M : Mem), RF yX5_readTest cX5_readTest 7 (some .boolean) (dg + 1) eI (k11 l1 l2 l3 l4 M) 11 [(0, va_rf (some this)), (1, .int l1), (2, .int l2), (3, .int l3), (4, .int l4)] [] M) (l1 : Int32) (l2 : Int32) (l4 : Int32) (l5 : Int32) (M : Mem) : RF yX5_readTest cX5_readTest 7 (some .boolean) (dg + 1) eI (f_X5_readTest_J87 g_X5_readFact k11 this l1 l2 l4 l5 M) 87 [(0, va_rf (some this)), (1, .int l1), (2, .int l2), (4, .int l4), (5, .int l5)] [] M := by
  rw [f_X5_readTest_J87]
  refine R_aloadq_n (pc' := 88) (i := 0) (j := 0) (q := (some this)) dX5_readTest_87 rfl rfl rfl ?_
  refine R_getI (pc' := 91) (q := (some this)) fl_X5_27 rfl dX5_readTest_88 rfl (fun length1 => ?_)
  refine R_istore (pc' := 93) (L' := [(6, .int length1), (0, va_rf (some this)), (1, .int l1), (2, .int l2), (4, .int l4), (5, .int l5)]) (i := 6) (x := length1) dX5_readTest_91 rfl (by decide) rfl ?_
  refine R_aloadq_n (pc' := 94) (i := 0) (j := 1) (q := (some this)) dX5_readTest_93 rfl rfl rfl ?_
  refine R_iload (pc' := 96) (i := 5) (j := 5) (x := l5) dX5_readTest_94 rfl rfl ?_
  refine R_if_eq (pc' := 99) (tgt := 103) (a := l5) dX5_readTest_96 (by decide) rfl ?_ ?_
  · refine R_iconst (pc' := 104) (x := (nI 4)) dX5_readTest_103 rfl (by decide) ?_
    exact R_sub [1, 2, 3, 4, 5, 0] rfl (rf_X5_readTest_J104 g_X5_readFact hdg hg_X5_readFact this k11 hk11 l1 l2 l4 l5 length1 (nI 4) (some this) M)
  · refine R_iconst (pc' := 100) (x := (nI 3)) dX5_readTest_99 rfl (by decide) ?_
    refine R_goto (tgt := 104) dX5_readTest_100 (by decide) ?_
    exact R_sub [1, 2, 3, 4, 5, 0] rfl (rf_X5_readTest_J104 g_X5_readFact hdg hg_X5_readFact this k11 hk11 l1 l2 l4 l5 length1 (nI 3) (some this) M)
def f_X5_readTest_J70 (g_X5_readFact : Nat → Int32 → Mem → Option (Int32 × Mem)) (k11 : Int32 → Int32 → Int32 → Int32 → Mem → Option (Int32 × Mem)) (this : Nat) (l1 : Int32) (l2 : Int32) (l4 : Int32) (s0 : Int32) (M : Mem) : Option (Int32 × Mem) :=
  (if s0 = 0 then
    ((oO M 5 (some this)).bind fun o3 => cl (f_X5_land o3 l2 M) fun u1 M =>
    (gI M 5 3 (some this)).bind fun length2 =>
    f_X5_readTest_J87 g_X5_readFact k11 this l1 length2 l4 s0 M)
  else
    (f_X5_readTest_J87 g_X5_readFact k11 this l1 l2 l4 s0 M))
set_option maxHeartbeats 2000000 in
set_option maxRecDepth 20000 in
theorem rf_X5_readTest_J70 {dg : Nat} (g_X5_readFact : Nat → Int32 → Mem → Option (Int32 × Mem)) (hdg : 3 ≤ dg) (hg_X5_readFact : ∀ (this : Nat) (l1 : Int32) (M : Mem), RFm yX5_readFact cX5_readFact 5 (some .boolean) dg eI (g_X5_readFact this l1 M) [va_rf (some this), .int l1] M) (this : Nat) (k11 : Int32 → Int32 → Int32 → Int32 → Mem → Option (Int32 × Mem)) (hk11 : ∀ (l1 : Int32) (l2 : Int32) (l3 : Int32) (l4 : Int32) (M : Mem), RF yX5_readTest cX5_readTest 7 (some .boolean) (dg + 1) eI (k11 l1 l2 l3 l4 M) 11 [(0, va_rf (some this)), (1, .int l1), (2, .int l2), (3, .int l3), (4, .int l4)] [] M) (l1 : Int32) (l2 : Int32) (l4 : Int32) (s0 : Int32) (M : Mem) : RF yX5_readTest cX5_readTest 7 (some .boolean) (dg + 1) eI (f_X5_readTest_J70 g_X5_readFact k11 this l1 l2 l4 s0 M) 70 [(0, va_rf (some this)), (1, .int l1), (2, .int l2), (4, .int l4)] [.int s0] M := by
  rw [f_X5_readTest_J70]
  refine R_istore (pc' := 72) (L' := [(5, .int s0), (0, va_rf (some this)), (1, .int l1), (2, .int l2), (4, .int l4)]) (i := 5) (x := s0) dX5_readTest_70 rfl (by decide) rfl ?_
  refine R_iload (pc' := 74) (i := 5) (j := 0) (x := s0) dX5_readTest_72 rfl rfl ?_
  refine R_if_ne (pc' := 77) (tgt := 87) (a := s0) dX5_readTest_74 (by decide) rfl ?_ ?_
  · exact R_sub [1, 2, 3, 4, 0] rfl (rf_X5_readTest_J87 g_X5_readFact hdg hg_X5_readFact this k11 hk11 l1 l2 l4 s0 M)
  · refine R_aloadq_n (pc' := 78) (i := 0) (j := 1) (q := (some this)) dX5_readTest_77 rfl rfl rfl ?_
    refine R_iload_n (pc' := 79) (i := 2) (j := 3) (x := l2) dX5_readTest_78 rfl rfl rfl ?_
    refine R_callV_V (pc' := 82) (q := (some this)) (As := [.int l2]) (fun o3 => rm_X5_land o3 l2 M) mf_X5_land lk_X5_103 im_X5_land se_X5_land rfl rfl rfl dX5_readTest_79 rfl (by omega) (Nat.le_trans c_0 (by decide)) (fun u1 M => ?_)
    refine R_aloadq_n (pc' := 83) (i := 0) (j := 1) (q := (some this)) dX5_readTest_82 rfl rfl rfl ?_
    refine R_getI (pc' := 86) (q := (some this)) fl_X5_27 rfl dX5_readTest_83 rfl (fun length2 => ?_)
    refine R_istore_n (pc' := 87) (L' := [(2, .int length2), (5, .int s0), (0, va_rf (some this)), (1, .int l1), (4, .int l4)]) (i := 2) (x := length2) dX5_readTest_86 rfl rfl (by decide) rfl ?_
    exact R_sub [2, 3, 0, 4, 1] rfl (rf_X5_readTest_J87 g_X5_readFact hdg hg_X5_readFact this k11 hk11 l1 length2 l4 s0 M)
def f_X5_readTest_J51 (g_X5_readFact : Nat → Int32 → Mem → Option (Int32 × Mem)) (k11 : Int32 → Int32 → Int32 → Int32 → Mem → Option (Int32 × Mem)) (this : Nat) (l1 : Int32) (l2 : Int32) (l4 : Int32) (M : Mem) : Option (Int32 × Mem) :=
  (gR M 5 0 (some this)).bind fun tape1 =>
  (gL M 7 6 tape1).bind fun word2 =>
  (if (lg_cmp word2 (6385252 : Int64)) = 0 then
    (f_X5_readTest_J70 g_X5_readFact k11 this l1 l2 l4 (nI 1) M)
  else
    (f_X5_readTest_J70 g_X5_readFact k11 this l1 l2 l4 (nI 0) M))
set_option maxHeartbeats 2000000 in
set_option maxRecDepth 20000 in
theorem rf_X5_readTest_J51 {dg : Nat} (g_X5_readFact : Nat → Int32 → Mem → Option (Int32 × Mem)) (hdg : 3 ≤ dg) (hg_X5_readFact : ∀ (this : Nat) (l1 : Int32) (M : Mem), RFm yX5_readFact cX5_readFact 5 (some .boolean) dg eI (g_X5_readFact this l1 M) [va_rf (some this), .int l1] M) (this : Nat) (k11 : Int32 → Int32 → Int32 → Int32 → Mem → Option (Int32 × Mem)) (hk11 : ∀ (l1 : Int32) (l2 : Int32) (l3 : Int32) (l4 : Int32) (M : Mem), RF yX5_readTest cX5_readTest 7 (some .boolean) (dg + 1) eI (k11 l1 l2 l3 l4 M) 11 [(0, va_rf (some this)), (1, .int l1), (2, .int l2), (3, .int l3), (4, .int l4)] [] M) (l1 : Int32) (l2 : Int32) (l4 : Int32) (M : Mem) : RF yX5_readTest cX5_readTest 7 (some .boolean) (dg + 1) eI (f_X5_readTest_J51 g_X5_readFact k11 this l1 l2 l4 M) 51 [(0, va_rf (some this)), (1, .int l1), (2, .int l2), (4, .int l4)] [] M := by
  rw [f_X5_readTest_J51]
  refine R_aloadq_n (pc' := 52) (i := 0) (j := 0) (q := (some this)) dX5_readTest_51 rfl rfl rfl ?_
  refine R_getR (pc' := 55) (q := (some this)) fl_X5_18 rfl dX5_readTest_52 rfl (fun tape1 => ?_)
  refine R_getL (pc' := 58) (q := tape1) fl_X5_59 rfl dX5_readTest_55 rfl (fun word2 => ?_)
  refine R_ldc2 (pc' := 61) (x := (6385252 : Int64)) dX5_readTest_58 rfl c2_X5_99 ?_
  refine R_lcmp (pc' := 62) (a := word2) (b := (6385252 : Int64)) dX5_readTest_61 rfl ?_
  refine R_if_ne (pc' := 65) (tgt := 69) (a := (lg_cmp word2 (6385252 : Int64))) dX5_readTest_62 (by decide) rfl ?_ ?_
  · refine R_iconst (pc' := 70) (x := (nI 0)) dX5_readTest_69 rfl (by decide) ?_
    exact R_sub [0, 1, 2, 3] rfl (rf_X5_readTest_J70 g_X5_readFact hdg hg_X5_readFact this k11 hk11 l1 l2 l4 (nI 0) M)
  · refine R_iconst (pc' := 66) (x := (nI 1)) dX5_readTest_65 rfl (by decide) ?_
    refine R_goto (tgt := 70) dX5_readTest_66 (by decide) ?_
    exact R_sub [0, 1, 2, 3] rfl (rf_X5_readTest_J70 g_X5_readFact hdg hg_X5_readFact this k11 hk11 l1 l2 l4 (nI 1) M)
def f_X5_readTest_L11 (g_X5_readFact : Nat → Int32 → Mem → Option (Int32 × Mem)) (this : Nat) : Nat → Int32 → Int32 → Int32 → Int32 → Mem → Option (Int32 × Mem)
  | 0, _, _, _, _, _ => none
  | n + 1, l1, l2, l3, l4, M =>
    (if (nI 400) ≤ l4 then
      (f_X5_readTest_J139 g_X5_readFact this l2 l3 M)
    else
      ((if l3 = 0 then
        (f_X5_readTest_J139 g_X5_readFact this l2 l3 M)
      else
        ((gR M 5 0 (some this)).bind fun tape1 =>
        (gL M 7 6 tape1).bind fun word2 =>
        (if (lg_cmp word2 (6385252 : Int64)) = 0 then
          (f_X5_readTest_J51 g_X5_readFact (f_X5_readTest_L11 g_X5_readFact this n) this l1 l2 l4 M)
        else
          ((gR M 5 0 (some this)).bind fun tape3 =>
          (gL M 7 6 tape3).bind fun word4 =>
          (if (lg_cmp word4 (28530 : Int64)) = 0 then
            (f_X5_readTest_J51 g_X5_readFact (f_X5_readTest_L11 g_X5_readFact this n) this l1 l2 l4 M)
          else
            (f_X5_readTest_J139 g_X5_readFact this l2 l3 M))))))))
set_option maxHeartbeats 2000000 in
set_option maxRecDepth 20000 in
theorem rf_X5_readTest_L11 {dg : Nat} (g_X5_readFact : Nat → Int32 → Mem → Option (Int32 × Mem)) (hdg : 3 ≤ dg) (hg_X5_readFact : ∀ (this : Nat) (l1 : Int32) (M : Mem), RFm yX5_readFact cX5_readFact 5 (some .boolean) dg eI (g_X5_readFact this l1 M) [va_rf (some this), .int l1] M) (this : Nat) : ∀ (n : Nat) (l1 : Int32) (l2 : Int32) (l3 : Int32) (l4 : Int32) (M : Mem), RF yX5_readTest cX5_readTest 7 (some .boolean) (dg + 1) eI (f_X5_readTest_L11 g_X5_readFact this n l1 l2 l3 l4 M) 11 [(0, va_rf (some this)), (1, .int l1), (2, .int l2), (3, .int l3), (4, .int l4)] [] M := by
  intro n
  induction n with
  | zero => intro _ _ _ _ _; exact RF.none
  | succ n ih =>
    intro l1 l2 l3 l4 M
    rw [f_X5_readTest_L11]
    refine R_iload (pc' := 13) (i := 4) (j := 4) (x := l4) dX5_readTest_11 rfl rfl ?_
    refine R_sipush (pc' := 16) (x := (nI 400)) dX5_readTest_13 rfl (by decide) ?_
    refine R_icmp_ge (pc' := 19) (tgt := 139) (a := l4) (b := (nI 400)) dX5_readTest_16 (by decide) rfl ?_ ?_
    · exact R_sub [0, 2, 3] rfl (rf_X5_readTest_J139 g_X5_readFact hdg hg_X5_readFact this l2 l3 M)
    · refine R_iload_n (pc' := 20) (i := 3) (j := 3) (x := l3) dX5_readTest_19 rfl rfl rfl ?_
      refine R_if_eq (pc' := 23) (tgt := 139) (a := l3) dX5_readTest_20 (by decide) rfl ?_ ?_
      · exact R_sub [0, 2, 3] rfl (rf_X5_readTest_J139 g_X5_readFact hdg hg_X5_readFact this l2 l3 M)
      · refine R_aloadq_n (pc' := 24) (i := 0) (j := 0) (q := (some this)) dX5_readTest_23 rfl rfl rfl ?_
        refine R_getR (pc' := 27) (q := (some this)) fl_X5_18 rfl dX5_readTest_24 rfl (fun tape1 => ?_)
        refine R_getL (pc' := 30) (q := tape1) fl_X5_59 rfl dX5_readTest_27 rfl (fun word2 => ?_)
        refine R_ldc2 (pc' := 33) (x := (6385252 : Int64)) dX5_readTest_30 rfl c2_X5_99 ?_
        refine R_lcmp (pc' := 34) (a := word2) (b := (6385252 : Int64)) dX5_readTest_33 rfl ?_
        refine R_if_eq (pc' := 37) (tgt := 51) (a := (lg_cmp word2 (6385252 : Int64))) dX5_readTest_34 (by decide) rfl ?_ ?_
        · exact R_sub [0, 1, 2, 4] rfl (rf_X5_readTest_J51 g_X5_readFact hdg hg_X5_readFact this (f_X5_readTest_L11 g_X5_readFact this n) ih l1 l2 l4 M)
        · refine R_aloadq_n (pc' := 38) (i := 0) (j := 0) (q := (some this)) dX5_readTest_37 rfl rfl rfl ?_
          refine R_getR (pc' := 41) (q := (some this)) fl_X5_18 rfl dX5_readTest_38 rfl (fun tape3 => ?_)
          refine R_getL (pc' := 44) (q := tape3) fl_X5_59 rfl dX5_readTest_41 rfl (fun word4 => ?_)
          refine R_ldc2 (pc' := 47) (x := (28530 : Int64)) dX5_readTest_44 rfl c2_X5_101 ?_
          refine R_lcmp (pc' := 48) (a := word4) (b := (28530 : Int64)) dX5_readTest_47 rfl ?_
          refine R_if_ne (pc' := 51) (tgt := 139) (a := (lg_cmp word4 (28530 : Int64))) dX5_readTest_48 (by decide) rfl ?_ ?_
          · exact R_sub [0, 2, 3] rfl (rf_X5_readTest_J139 g_X5_readFact hdg hg_X5_readFact this l2 l3 M)
          · exact R_sub [0, 1, 2, 4] rfl (rf_X5_readTest_J51 g_X5_readFact hdg hg_X5_readFact this (f_X5_readTest_L11 g_X5_readFact this n) ih l1 l2 l4 M)
def fb_X5_readTest (g_X5_readFact : Nat → Int32 → Mem → Option (Int32 × Mem)) (this : Nat) (l1 : Int32) (M : Mem) : Option (Int32 × Mem) :=
  (oO M 5 (some this)).bind fun o2 => cl (g_X5_readFact o2 l1 M) fun r1 M =>
  f_X5_readTest_L11 g_X5_readFact this FU l1 (-1 : Int32) r1 (nI 0) M
set_option maxHeartbeats 2000000 in
set_option maxRecDepth 20000 in
theorem rb_X5_readTest {dg : Nat} (g_X5_readFact : Nat → Int32 → Mem → Option (Int32 × Mem)) (hdg : 3 ≤ dg) (hg_X5_readFact : ∀ (this : Nat) (l1 : Int32) (M : Mem), RFm yX5_readFact cX5_readFact 5 (some .boolean) dg eI (g_X5_readFact this l1 M) [va_rf (some this), .int l1] M) (this : Nat) (l1 : Int32) (M : Mem) : RFm yX5_readTest cX5_readTest 7 (some .boolean) (dg + 1) eI (fb_X5_readTest g_X5_readFact this l1 M) [va_rf (some this), .int l1] M := by
  refine RFm_of (L := [(0, va_rf (some this)), (1, .int l1)]) (by decide) rfl (Nat.le_trans (c_R (c_I c_0)) (by decide)) ?_
  rw [fb_X5_readTest]
  refine R_iconst (pc' := 1) (x := (-1 : Int32)) dX5_readTest_0 rfl (by decide) ?_
  refine R_istore_n (pc' := 2) (L' := [(2, .int (-1 : Int32)), (0, va_rf (some this)), (1, .int l1)]) (i := 2) (x := (-1 : Int32)) dX5_readTest_1 rfl rfl (by decide) rfl ?_
  refine R_aloadq_n (pc' := 3) (i := 0) (j := 1) (q := (some this)) dX5_readTest_2 rfl rfl rfl ?_
  refine R_iload_n (pc' := 4) (i := 1) (j := 2) (x := l1) dX5_readTest_3 rfl rfl rfl ?_
  refine R_callV_I (pc' := 7) (q := (some this)) (As := [.int l1]) (fun o2 => hg_X5_readFact o2 l1 M) mf_X5_readFact lk_X5_96 im_X5_readFact se_X5_readFact rfl rfl rfl dX5_readTest_4 rfl (by omega) (Nat.le_trans c_0 (by decide)) (fun r1 M => ?_)
  refine R_istore_n (pc' := 8) (L' := [(3, .int r1), (2, .int (-1 : Int32)), (0, va_rf (some this)), (1, .int l1)]) (i := 3) (x := r1) dX5_readTest_7 rfl rfl (by decide) rfl ?_
  refine R_iconst (pc' := 9) (x := (nI 0)) dX5_readTest_8 rfl (by decide) ?_
  refine R_istore (pc' := 11) (L' := [(4, .int (nI 0)), (3, .int r1), (2, .int (-1 : Int32)), (0, va_rf (some this)), (1, .int l1)]) (i := 4) (x := (nI 0)) dX5_readTest_9 rfl (by decide) rfl ?_
  exact R_sub [3, 4, 2, 1, 0] rfl (rf_X5_readTest_L11 g_X5_readFact hdg hg_X5_readFact this FU l1 (-1 : Int32) r1 (nI 0) M)
def f_X5_readFact_J259 (g_X5_readTest : Nat → Int32 → Mem → Option (Int32 × Mem)) (g_X5_readFact : Nat → Int32 → Mem → Option (Int32 × Mem)) (this : Nat) (s0 : Int32) (M : Mem) : Option (Int32 × Mem) :=
  ckZ s0 (some (s0, M))
set_option maxHeartbeats 2000000 in
set_option maxRecDepth 20000 in
theorem rf_X5_readFact_J259 {dg : Nat} (g_X5_readTest : Nat → Int32 → Mem → Option (Int32 × Mem)) (g_X5_readFact : Nat → Int32 → Mem → Option (Int32 × Mem)) (hdg : 3 ≤ dg) (hg_X5_readTest : ∀ (this : Nat) (l1 : Int32) (M : Mem), RFm yX5_readTest cX5_readTest 7 (some .boolean) dg eI (g_X5_readTest this l1 M) [va_rf (some this), .int l1] M) (hg_X5_readFact : ∀ (this : Nat) (l1 : Int32) (M : Mem), RFm yX5_readFact cX5_readFact 5 (some .boolean) dg eI (g_X5_readFact this l1 M) [va_rf (some this), .int l1] M) (this : Nat) (s0 : Int32) (M : Mem) : RF yX5_readFact cX5_readFact 5 (some .boolean) (dg + 1) eI (f_X5_readFact_J259 g_X5_readTest g_X5_readFact this s0 M) 259 [] [.int s0] M := by
  rw [f_X5_readFact_J259]
  exact R_bret dX5_readFact_259
def f_X5_readFact_J258 (g_X5_readTest : Nat → Int32 → Mem → Option (Int32 × Mem)) (g_X5_readFact : Nat → Int32 → Mem → Option (Int32 × Mem)) (this : Nat) (M : Mem) : Option (Int32 × Mem) :=
  f_X5_readFact_J259 g_X5_readTest g_X5_readFact this (nI 0) M
set_option maxHeartbeats 2000000 in
set_option maxRecDepth 20000 in
theorem rf_X5_readFact_J258 {dg : Nat} (g_X5_readTest : Nat → Int32 → Mem → Option (Int32 × Mem)) (g_X5_readFact : Nat → Int32 → Mem → Option (Int32 × Mem)) (hdg : 3 ≤ dg) (hg_X5_readTest : ∀ (this : Nat) (l1 : Int32) (M : Mem), RFm yX5_readTest cX5_readTest 7 (some .boolean) dg eI (g_X5_readTest this l1 M) [va_rf (some this), .int l1] M) (hg_X5_readFact : ∀ (this : Nat) (l1 : Int32) (M : Mem), RFm yX5_readFact cX5_readFact 5 (some .boolean) dg eI (g_X5_readFact this l1 M) [va_rf (some this), .int l1] M) (this : Nat) (M : Mem) : RF yX5_readFact cX5_readFact 5 (some .boolean) (dg + 1) eI (f_X5_readFact_J258 g_X5_readTest g_X5_readFact this M) 258 [] [] M := by
  rw [f_X5_readFact_J258]
  refine R_iconst (pc' := 259) (x := (nI 0)) dX5_readFact_258 rfl (by decide) ?_
  exact R_sub [] rfl (rf_X5_readFact_J259 g_X5_readTest g_X5_readFact hdg hg_X5_readTest hg_X5_readFact this (nI 0) M)
def f_X5_readFact_J103 (g_X5_readTest : Nat → Int32 → Mem → Option (Int32 × Mem)) (g_X5_readFact : Nat → Int32 → Mem → Option (Int32 × Mem)) (this : Nat) (s0 : Int32) (M : Mem) : Option (Int32 × Mem) :=
  ckZ s0 (some (s0, M))
set_option maxHeartbeats 2000000 in
set_option maxRecDepth 20000 in
theorem rf_X5_readFact_J103 {dg : Nat} (g_X5_readTest : Nat → Int32 → Mem → Option (Int32 × Mem)) (g_X5_readFact : Nat → Int32 → Mem → Option (Int32 × Mem)) (hdg : 3 ≤ dg) (hg_X5_readTest : ∀ (this : Nat) (l1 : Int32) (M : Mem), RFm yX5_readTest cX5_readTest 7 (some .boolean) dg eI (g_X5_readTest this l1 M) [va_rf (some this), .int l1] M) (hg_X5_readFact : ∀ (this : Nat) (l1 : Int32) (M : Mem), RFm yX5_readFact cX5_readFact 5 (some .boolean) dg eI (g_X5_readFact this l1 M) [va_rf (some this), .int l1] M) (this : Nat) (s0 : Int32) (M : Mem) : RF yX5_readFact cX5_readFact 5 (some .boolean) (dg + 1) eI (f_X5_readFact_J103 g_X5_readTest g_X5_readFact this s0 M) 103 [] [.int s0] M := by
  rw [f_X5_readFact_J103]
  exact R_bret dX5_readFact_103
def f_X5_readFact_J102 (g_X5_readTest : Nat → Int32 → Mem → Option (Int32 × Mem)) (g_X5_readFact : Nat → Int32 → Mem → Option (Int32 × Mem)) (this : Nat) (M : Mem) : Option (Int32 × Mem) :=
  f_X5_readFact_J103 g_X5_readTest g_X5_readFact this (nI 0) M
set_option maxHeartbeats 2000000 in
set_option maxRecDepth 20000 in
theorem rf_X5_readFact_J102 {dg : Nat} (g_X5_readTest : Nat → Int32 → Mem → Option (Int32 × Mem)) (g_X5_readFact : Nat → Int32 → Mem → Option (Int32 × Mem)) (hdg : 3 ≤ dg) (hg_X5_readTest : ∀ (this : Nat) (l1 : Int32) (M : Mem), RFm yX5_readTest cX5_readTest 7 (some .boolean) dg eI (g_X5_readTest this l1 M) [va_rf (some this), .int l1] M) (hg_X5_readFact : ∀ (this : Nat) (l1 : Int32) (M : Mem), RFm yX5_readFact cX5_readFact 5 (some .boolean) dg eI (g_X5_readFact this l1 M) [va_rf (some this), .int l1] M) (this : Nat) (M : Mem) : RF yX5_readFact cX5_readFact 5 (some .boolean) (dg + 1) eI (f_X5_readFact_J102 g_X5_readTest g_X5_readFact this M) 102 [] [] M := by
  rw [f_X5_readFact_J102]
  refine R_iconst (pc' := 103) (x := (nI 0)) dX5_readFact_102 rfl (by decide) ?_
  exact R_sub [] rfl (rf_X5_readFact_J103 g_X5_readTest g_X5_readFact hdg hg_X5_readTest hg_X5_readFact this (nI 0) M)
def f_X5_readFact_J68 (g_X5_readTest : Nat → Int32 → Mem → Option (Int32 × Mem)) (g_X5_readFact : Nat → Int32 → Mem → Option (Int32 × Mem)) (this : Nat) (l1 : Int32) (l2 : Int32) (l3 : Int32) (M : Mem) : Option (Int32 × Mem) :=
  (if l2 = 0 then
    ((if l3 = 0 then
      ((oO M 5 (some this)).bind fun o24 => cl (f_X5_readSum o24 M) fun r1 M =>
      (if r1 = 0 then
        (ckZ (nI 0) (some ((nI 0), M)))
      else
        ((gR M 5 0 (some this)).bind fun tape2 =>
        (gI M 7 7 tape2).bind fun sign3 =>
        cl (f_X5_compareStep sign3 M) fun r4 M =>
        (if r4 = (-1 : Int32) then
          ((gR M 5 0 (some this)).bind fun tape19 =>
          (gR M 5 0 (some this)).bind fun tape20 =>
          (gI M 7 4 tape20).bind fun start21 =>
          (oO M 7 tape19).bind fun o23 => cl (f_X7_failAt o23 start21 (nI 0) M) fun r22 M =>
          ckZ r22 (some (r22, M)))
        else
          ((oO M 5 (some this)).bind fun o18 => cl (f_X5_counts o18 M) fun r5 M =>
          (if r5 = 0 then
            ((gR M 5 0 (some this)).bind fun tape13 =>
            (gR M 5 0 (some this)).bind fun tape14 =>
            (gI M 7 4 tape14).bind fun start15 =>
            (oO M 7 tape13).bind fun o17 => cl (f_X7_failAt o17 start15 (nI 3) M) fun r16 M =>
            ckZ r16 (some (r16, M)))
          else
            ((gR M 5 0 (some this)).bind fun tape6 =>
            (oO M 7 tape6).bind fun o12 => cl (f_X7_next o12 M) fun u7 M =>
            (oO M 5 (some this)).bind fun o11 => cl (f_X5_readSum o11 M) fun r8 M =>
            (if r8 = 0 then
              (f_X5_readFact_J258 g_X5_readTest g_X5_readFact this M)
            else
              ((oO M 5 (some this)).bind fun o10 => cl (f_X5_put o10 r4 (nI 0) M) fun r9 M =>
              (if r9 = 0 then
                (f_X5_readFact_J258 g_X5_readTest g_X5_readFact this M)
              else
                (f_X5_readFact_J259 g_X5_readTest g_X5_readFact this (nI 1) M)))))))))))
    else
      ((gR M 5 0 (some this)).bind fun tape25 =>
      (oO M 7 tape25).bind fun o39 => cl (f_X7_next o39 M) fun u26 M =>
      (oO M 5 (some this)).bind fun o38 => cl (g_X5_readTest o38 (l1 + (nI 1)) M) fun r27 M =>
      (if r27 = 0 then
        (ckZ (nI 0) (some ((nI 0), M)))
      else
        ((gR M 5 0 (some this)).bind fun tape28 =>
        (gI M 7 7 tape28).bind fun sign29 =>
        (if sign29 = (nI 93) then
          ((gR M 5 0 (some this)).bind fun tape30 =>
          (oO M 7 tape30).bind fun o32 => cl (f_X7_next o32 M) fun u31 M =>
          ckZ (nI 1) (some ((nI 1), M)))
        else
          ((gR M 5 0 (some this)).bind fun tape33 =>
          (gR M 5 0 (some this)).bind fun tape34 =>
          (gI M 7 4 tape34).bind fun start35 =>
          (oO M 7 tape33).bind fun o37 => cl (f_X7_failAt o37 start35 (nI 0) M) fun r36 M =>
          ckZ r36 (some (r36, M)))))))))
  else
    ((gR M 5 0 (some this)).bind fun tape40 =>
    (oO M 7 tape40).bind fun o46 => cl (f_X7_next o46 M) fun u41 M =>
    (oO M 5 (some this)).bind fun o45 => cl (g_X5_readFact o45 (l1 + (nI 1)) M) fun r42 M =>
    (if r42 = 0 then
      (f_X5_readFact_J102 g_X5_readTest g_X5_readFact this M)
    else
      ((oO M 5 (some this)).bind fun o44 => cl (f_X5_put o44 (nI 2) (nI 0) M) fun r43 M =>
      (if r43 = 0 then
        (f_X5_readFact_J102 g_X5_readTest g_X5_readFact this M)
      else
        (f_X5_readFact_J103 g_X5_readTest g_X5_readFact this (nI 1) M))))))
set_option maxHeartbeats 2000000 in
set_option maxRecDepth 20000 in
theorem rf_X5_readFact_J68 {dg : Nat} (g_X5_readTest : Nat → Int32 → Mem → Option (Int32 × Mem)) (g_X5_readFact : Nat → Int32 → Mem → Option (Int32 × Mem)) (hdg : 3 ≤ dg) (hg_X5_readTest : ∀ (this : Nat) (l1 : Int32) (M : Mem), RFm yX5_readTest cX5_readTest 7 (some .boolean) dg eI (g_X5_readTest this l1 M) [va_rf (some this), .int l1] M) (hg_X5_readFact : ∀ (this : Nat) (l1 : Int32) (M : Mem), RFm yX5_readFact cX5_readFact 5 (some .boolean) dg eI (g_X5_readFact this l1 M) [va_rf (some this), .int l1] M) (this : Nat) (l1 : Int32) (l2 : Int32) (l3 : Int32) (M : Mem) : RF yX5_readFact cX5_readFact 5 (some .boolean) (dg + 1) eI (f_X5_readFact_J68 g_X5_readTest g_X5_readFact this l1 l2 l3 M) 68 [(0, va_rf (some this)), (1, .int l1), (2, .int l2), (3, .int l3)] [] M := by
  rw [f_X5_readFact_J68]
  refine R_iload_n (pc' := 69) (i := 2) (j := 2) (x := l2) dX5_readFact_68 rfl rfl rfl ?_
  refine R_if_eq (pc' := 72) (tgt := 104) (a := l2) dX5_readFact_69 (by decide) rfl ?_ ?_
  · refine R_iload_n (pc' := 105) (i := 3) (j := 3) (x := l3) dX5_readFact_104 rfl rfl rfl ?_
    refine R_if_eq (pc' := 108) (tgt := 164) (a := l3) dX5_readFact_105 (by decide) rfl ?_ ?_
    · refine R_aloadq_n (pc' := 165) (i := 0) (j := 0) (q := (some this)) dX5_readFact_164 rfl rfl rfl ?_
      refine R_callV_I (pc' := 168) (q := (some this)) (As := []) (fun o24 => rm_X5_readSum o24 M) mf_X5_readSum lk_X5_75 im_X5_readSum se_X5_readSum rfl rfl rfl dX5_readFact_165 rfl (by omega) (Nat.le_trans c_0 (by decide)) (fun r1 M => ?_)
      refine R_if_ne (pc' := 171) (tgt := 173) (a := r1) dX5_readFact_168 (by decide) rfl ?_ ?_
      · refine R_aloadq_n (pc' := 174) (i := 0) (j := 0) (q := (some this)) dX5_readFact_173 rfl rfl rfl ?_
        refine R_getR (pc' := 177) (q := (some this)) fl_X5_18 rfl dX5_readFact_174 rfl (fun tape2 => ?_)
        refine R_getI (pc' := 180) (q := tape2) fl_X5_109 rfl dX5_readFact_177 rfl (fun sign3 => ?_)
        refine R_callS_I (pc' := 183) (As := [.int sign3]) (rm_X5_compareStep sign3 M) mf_X5_compareStep lk_X5_112 sm_X5_compareStep rfl rfl dX5_readFact_180 rfl (by omega) (Nat.le_trans c_0 (by decide)) (fun r4 M => ?_)
        refine R_istore (pc' := 185) (L' := [(4, .int r4), (0, va_rf (some this)), (1, .int l1), (2, .int l2), (3, .int l3)]) (i := 4) (x := r4) dX5_readFact_183 rfl (by decide) rfl ?_
        refine R_iload (pc' := 187) (i := 4) (j := 0) (x := r4) dX5_readFact_185 rfl rfl ?_
        refine R_iconst (pc' := 188) (x := (-1 : Int32)) dX5_readFact_187 rfl (by decide) ?_
        refine R_icmp_ne (pc' := 191) (tgt := 207) (a := r4) (b := (-1 : Int32)) dX5_readFact_188 (by decide) rfl ?_ ?_
        · refine R_aloadq_n (pc' := 208) (i := 0) (j := 1) (q := (some this)) dX5_readFact_207 rfl rfl rfl ?_
          refine R_callV_I (pc' := 211) (q := (some this)) (As := []) (fun o18 => rm_X5_counts o18 M) mf_X5_counts lk_X5_116 im_X5_counts se_X5_counts rfl rfl rfl dX5_readFact_208 rfl (by omega) (Nat.le_trans c_0 (by decide)) (fun r5 M => ?_)
          refine R_if_ne (pc' := 214) (tgt := 230) (a := r5) dX5_readFact_211 (by decide) rfl ?_ ?_
          · refine R_aloadq_n (pc' := 231) (i := 0) (j := 1) (q := (some this)) dX5_readFact_230 rfl rfl rfl ?_
            refine R_getR (pc' := 234) (q := (some this)) fl_X5_18 rfl dX5_readFact_231 rfl (fun tape6 => ?_)
            refine R_callV_V (pc' := 237) (q := tape6) (As := []) (fun o12 => rm_X7_next o12 M) mf_X7_next lk_X5_72 im_X7_next se_X7_next rfl rfl rfl dX5_readFact_234 rfl (by omega) (Nat.le_trans c_0 (by decide)) (fun u7 M => ?_)
            refine R_aloadq_n (pc' := 238) (i := 0) (j := 1) (q := (some this)) dX5_readFact_237 rfl rfl rfl ?_
            refine R_callV_I (pc' := 241) (q := (some this)) (As := []) (fun o11 => rm_X5_readSum o11 M) mf_X5_readSum lk_X5_75 im_X5_readSum se_X5_readSum rfl rfl rfl dX5_readFact_238 rfl (by omega) (Nat.le_trans c_0 (by decide)) (fun r8 M => ?_)
            refine R_if_eq (pc' := 244) (tgt := 258) (a := r8) dX5_readFact_241 (by decide) rfl ?_ ?_
            · exact R_sub [] rfl (rf_X5_readFact_J258 g_X5_readTest g_X5_readFact hdg hg_X5_readTest hg_X5_readFact this M)
            · refine R_aloadq_n (pc' := 245) (i := 0) (j := 1) (q := (some this)) dX5_readFact_244 rfl rfl rfl ?_
              refine R_iload (pc' := 247) (i := 4) (j := 0) (x := r4) dX5_readFact_245 rfl rfl ?_
              refine R_iconst (pc' := 248) (x := (nI 0)) dX5_readFact_247 rfl (by decide) ?_
              refine R_callV_I (pc' := 251) (q := (some this)) (As := [.int r4, .int (nI 0)]) (fun o10 => rm_X5_put o10 r4 (nI 0) M) mf_X5_put lk_X5_87 im_X5_put se_X5_put rfl rfl rfl dX5_readFact_248 rfl (by omega) (Nat.le_trans c_0 (by decide)) (fun r9 M => ?_)
              refine R_if_eq (pc' := 254) (tgt := 258) (a := r9) dX5_readFact_251 (by decide) rfl ?_ ?_
              · exact R_sub [] rfl (rf_X5_readFact_J258 g_X5_readTest g_X5_readFact hdg hg_X5_readTest hg_X5_readFact this M)
              · refine R_iconst (pc' := 255) (x := (nI 1)) dX5_readFact_254 rfl (by decide) ?_
                refine R_goto (tgt := 259) dX5_readFact_255 (by decide) ?_
                exact R_sub [] rfl (rf_X5_readFact_J259 g_X5_readTest g_X5_readFact hdg hg_X5_readTest hg_X5_readFact this (nI 1) M)
          · refine R_aloadq_n (pc' := 215) (i := 0) (j := 1) (q := (some this)) dX5_readFact_214 rfl rfl rfl ?_
            refine R_getR (pc' := 218) (q := (some this)) fl_X5_18 rfl dX5_readFact_215 rfl (fun tape13 => ?_)
            refine R_aloadq_n (pc' := 219) (i := 0) (j := 1) (q := (some this)) dX5_readFact_218 rfl rfl rfl ?_
            refine R_getR (pc' := 222) (q := (some this)) fl_X5_18 rfl dX5_readFact_219 rfl (fun tape14 => ?_)
            refine R_getI (pc' := 225) (q := tape14) fl_X5_65 rfl dX5_readFact_222 rfl (fun start15 => ?_)
            refine R_iconst (pc' := 226) (x := (nI 3)) dX5_readFact_225 rfl (by decide) ?_
            refine R_callV_I (pc' := 229) (q := tape13) (As := [.int start15, .int (nI 3)]) (fun o17 => rm_X7_failAt o17 start15 (nI 3) M) mf_X7_failAt lk_X5_68 im_X7_failAt se_X7_failAt rfl rfl rfl dX5_readFact_226 rfl (by omega) (Nat.le_trans c_0 (by decide)) (fun r16 M => ?_)
            exact R_bret dX5_readFact_229
        · refine R_aloadq_n (pc' := 192) (i := 0) (j := 1) (q := (some this)) dX5_readFact_191 rfl rfl rfl ?_
          refine R_getR (pc' := 195) (q := (some this)) fl_X5_18 rfl dX5_readFact_192 rfl (fun tape19 => ?_)
          refine R_aloadq_n (pc' := 196) (i := 0) (j := 1) (q := (some this)) dX5_readFact_195 rfl rfl rfl ?_
          refine R_getR (pc' := 199) (q := (some this)) fl_X5_18 rfl dX5_readFact_196 rfl (fun tape20 => ?_)
          refine R_getI (pc' := 202) (q := tape20) fl_X5_65 rfl dX5_readFact_199 rfl (fun start21 => ?_)
          refine R_iconst (pc' := 203) (x := (nI 0)) dX5_readFact_202 rfl (by decide) ?_
          refine R_callV_I (pc' := 206) (q := tape19) (As := [.int start21, .int (nI 0)]) (fun o23 => rm_X7_failAt o23 start21 (nI 0) M) mf_X7_failAt lk_X5_68 im_X7_failAt se_X7_failAt rfl rfl rfl dX5_readFact_203 rfl (by omega) (Nat.le_trans c_0 (by decide)) (fun r22 M => ?_)
          exact R_bret dX5_readFact_206
      · refine R_iconst (pc' := 172) (x := (nI 0)) dX5_readFact_171 rfl (by decide) ?_
        exact R_bret dX5_readFact_172
    · refine R_aloadq_n (pc' := 109) (i := 0) (j := 0) (q := (some this)) dX5_readFact_108 rfl rfl rfl ?_
      refine R_getR (pc' := 112) (q := (some this)) fl_X5_18 rfl dX5_readFact_109 rfl (fun tape25 => ?_)
      refine R_callV_V (pc' := 115) (q := tape25) (As := []) (fun o39 => rm_X7_next o39 M) mf_X7_next lk_X5_72 im_X7_next se_X7_next rfl rfl rfl dX5_readFact_112 rfl (by omega) (Nat.le_trans c_0 (by decide)) (fun u26 M => ?_)
      refine R_aloadq_n (pc' := 116) (i := 0) (j := 0) (q := (some this)) dX5_readFact_115 rfl rfl rfl ?_
      refine R_iload_n (pc' := 117) (i := 1) (j := 1) (x := l1) dX5_readFact_116 rfl rfl rfl ?_
      refine R_iconst (pc' := 118) (x := (nI 1)) dX5_readFact_117 rfl (by decide) ?_
      refine R_iadd (pc' := 119) (a := l1) (b := (nI 1)) dX5_readFact_118 rfl ?_
      refine R_callV_I (pc' := 122) (q := (some this)) (As := [.int (l1 + (nI 1))]) (fun o38 => hg_X5_readTest o38 (l1 + (nI 1)) M) mf_X5_readTest lk_X5_80 im_X5_readTest se_X5_readTest rfl rfl rfl dX5_readFact_119 rfl (by omega) (Nat.le_trans c_0 (by decide)) (fun r27 M => ?_)
      refine R_if_ne (pc' := 125) (tgt := 127) (a := r27) dX5_readFact_122 (by decide) rfl ?_ ?_
      · refine R_aloadq_n (pc' := 128) (i := 0) (j := 0) (q := (some this)) dX5_readFact_127 rfl rfl rfl ?_
        refine R_getR (pc' := 131) (q := (some this)) fl_X5_18 rfl dX5_readFact_128 rfl (fun tape28 => ?_)
        refine R_getI (pc' := 134) (q := tape28) fl_X5_109 rfl dX5_readFact_131 rfl (fun sign29 => ?_)
        refine R_bipush (pc' := 136) (x := (nI 93)) dX5_readFact_134 rfl (by decide) ?_
        refine R_icmp_eq (pc' := 139) (tgt := 155) (a := sign29) (b := (nI 93)) dX5_readFact_136 (by decide) rfl ?_ ?_
        · refine R_aloadq_n (pc' := 156) (i := 0) (j := 0) (q := (some this)) dX5_readFact_155 rfl rfl rfl ?_
          refine R_getR (pc' := 159) (q := (some this)) fl_X5_18 rfl dX5_readFact_156 rfl (fun tape30 => ?_)
          refine R_callV_V (pc' := 162) (q := tape30) (As := []) (fun o32 => rm_X7_next o32 M) mf_X7_next lk_X5_72 im_X7_next se_X7_next rfl rfl rfl dX5_readFact_159 rfl (by omega) (Nat.le_trans c_0 (by decide)) (fun u31 M => ?_)
          refine R_iconst (pc' := 163) (x := (nI 1)) dX5_readFact_162 rfl (by decide) ?_
          exact R_bret dX5_readFact_163
        · refine R_aloadq_n (pc' := 140) (i := 0) (j := 0) (q := (some this)) dX5_readFact_139 rfl rfl rfl ?_
          refine R_getR (pc' := 143) (q := (some this)) fl_X5_18 rfl dX5_readFact_140 rfl (fun tape33 => ?_)
          refine R_aloadq_n (pc' := 144) (i := 0) (j := 0) (q := (some this)) dX5_readFact_143 rfl rfl rfl ?_
          refine R_getR (pc' := 147) (q := (some this)) fl_X5_18 rfl dX5_readFact_144 rfl (fun tape34 => ?_)
          refine R_getI (pc' := 150) (q := tape34) fl_X5_65 rfl dX5_readFact_147 rfl (fun start35 => ?_)
          refine R_iconst (pc' := 151) (x := (nI 0)) dX5_readFact_150 rfl (by decide) ?_
          refine R_callV_I (pc' := 154) (q := tape33) (As := [.int start35, .int (nI 0)]) (fun o37 => rm_X7_failAt o37 start35 (nI 0) M) mf_X7_failAt lk_X5_68 im_X7_failAt se_X7_failAt rfl rfl rfl dX5_readFact_151 rfl (by omega) (Nat.le_trans c_0 (by decide)) (fun r36 M => ?_)
          exact R_bret dX5_readFact_154
      · refine R_iconst (pc' := 126) (x := (nI 0)) dX5_readFact_125 rfl (by decide) ?_
        exact R_bret dX5_readFact_126
  · refine R_aloadq_n (pc' := 73) (i := 0) (j := 0) (q := (some this)) dX5_readFact_72 rfl rfl rfl ?_
    refine R_getR (pc' := 76) (q := (some this)) fl_X5_18 rfl dX5_readFact_73 rfl (fun tape40 => ?_)
    refine R_callV_V (pc' := 79) (q := tape40) (As := []) (fun o46 => rm_X7_next o46 M) mf_X7_next lk_X5_72 im_X7_next se_X7_next rfl rfl rfl dX5_readFact_76 rfl (by omega) (Nat.le_trans c_0 (by decide)) (fun u41 M => ?_)
    refine R_aloadq_n (pc' := 80) (i := 0) (j := 0) (q := (some this)) dX5_readFact_79 rfl rfl rfl ?_
    refine R_iload_n (pc' := 81) (i := 1) (j := 1) (x := l1) dX5_readFact_80 rfl rfl rfl ?_
    refine R_iconst (pc' := 82) (x := (nI 1)) dX5_readFact_81 rfl (by decide) ?_
    refine R_iadd (pc' := 83) (a := l1) (b := (nI 1)) dX5_readFact_82 rfl ?_
    refine R_callV_I (pc' := 86) (q := (some this)) (As := [.int (l1 + (nI 1))]) (fun o45 => hg_X5_readFact o45 (l1 + (nI 1)) M) mf_X5_readFact lk_X5_96 im_X5_readFact se_X5_readFact rfl rfl rfl dX5_readFact_83 rfl (by omega) (Nat.le_trans c_0 (by decide)) (fun r42 M => ?_)
    refine R_if_eq (pc' := 89) (tgt := 102) (a := r42) dX5_readFact_86 (by decide) rfl ?_ ?_
    · exact R_sub [] rfl (rf_X5_readFact_J102 g_X5_readTest g_X5_readFact hdg hg_X5_readTest hg_X5_readFact this M)
    · refine R_aloadq_n (pc' := 90) (i := 0) (j := 0) (q := (some this)) dX5_readFact_89 rfl rfl rfl ?_
      refine R_iconst (pc' := 91) (x := (nI 2)) dX5_readFact_90 rfl (by decide) ?_
      refine R_iconst (pc' := 92) (x := (nI 0)) dX5_readFact_91 rfl (by decide) ?_
      refine R_callV_I (pc' := 95) (q := (some this)) (As := [.int (nI 2), .int (nI 0)]) (fun o44 => rm_X5_put o44 (nI 2) (nI 0) M) mf_X5_put lk_X5_87 im_X5_put se_X5_put rfl rfl rfl dX5_readFact_92 rfl (by omega) (Nat.le_trans c_0 (by decide)) (fun r43 M => ?_)
      refine R_if_eq (pc' := 98) (tgt := 102) (a := r43) dX5_readFact_95 (by decide) rfl ?_ ?_
      · exact R_sub [] rfl (rf_X5_readFact_J102 g_X5_readTest g_X5_readFact hdg hg_X5_readTest hg_X5_readFact this M)
      · refine R_iconst (pc' := 99) (x := (nI 1)) dX5_readFact_98 rfl (by decide) ?_
        refine R_goto (tgt := 103) dX5_readFact_99 (by decide) ?_
        exact R_sub [] rfl (rf_X5_readFact_J103 g_X5_readTest g_X5_readFact hdg hg_X5_readTest hg_X5_readFact this (nI 1) M)
def f_X5_readFact_J46 (g_X5_readTest : Nat → Int32 → Mem → Option (Int32 × Mem)) (g_X5_readFact : Nat → Int32 → Mem → Option (Int32 × Mem)) (this : Nat) (l1 : Int32) (l2 : Int32) (l3 : Int32) (M : Mem) : Option (Int32 × Mem) :=
  (if l1 < (nI 10) then
    (f_X5_readFact_J68 g_X5_readTest g_X5_readFact this l1 l2 l3 M)
  else
    ((gR M 5 0 (some this)).bind fun tape1 =>
    (gR M 5 0 (some this)).bind fun tape2 =>
    (gI M 7 4 tape2).bind fun start3 =>
    (oO M 7 tape1).bind fun o5 => cl (f_X7_failAt o5 start3 (nI 2) M) fun r4 M =>
    ckZ r4 (some (r4, M))))
set_option maxHeartbeats 2000000 in
set_option maxRecDepth 20000 in
theorem rf_X5_readFact_J46 {dg : Nat} (g_X5_readTest : Nat → Int32 → Mem → Option (Int32 × Mem)) (g_X5_readFact : Nat → Int32 → Mem → Option (Int32 × Mem)) (hdg : 3 ≤ dg) (hg_X5_readTest : ∀ (this : Nat) (l1 : Int32) (M : Mem), RFm yX5_readTest cX5_readTest 7 (some .boolean) dg eI (g_X5_readTest this l1 M) [va_rf (some this), .int l1] M) (hg_X5_readFact : ∀ (this : Nat) (l1 : Int32) (M : Mem), RFm yX5_readFact cX5_readFact 5 (some .boolean) dg eI (g_X5_readFact this l1 M) [va_rf (some this), .int l1] M) (this : Nat) (l1 : Int32) (l2 : Int32) (l3 : Int32) (M : Mem) : RF yX5_readFact cX5_readFact 5 (some .boolean) (dg + 1) eI (f_X5_readFact_J46 g_X5_readTest g_X5_readFact this l1 l2 l3 M) 46 [(0, va_rf (some this)), (1, .int l1), (2, .int l2), (3, .int l3)] [] M := by
  rw [f_X5_readFact_J46]
  refine R_iload_n (pc' := 47) (i := 1) (j := 1) (x := l1) dX5_readFact_46 rfl rfl rfl ?_
  refine R_bipush (pc' := 49) (x := (nI 10)) dX5_readFact_47 rfl (by decide) ?_
  refine R_icmp_lt (pc' := 52) (tgt := 68) (a := l1) (b := (nI 10)) dX5_readFact_49 (by decide) rfl ?_ ?_
  · exact R_sub [0, 1, 2, 3] rfl (rf_X5_readFact_J68 g_X5_readTest g_X5_readFact hdg hg_X5_readTest hg_X5_readFact this l1 l2 l3 M)
  · refine R_aloadq_n (pc' := 53) (i := 0) (j := 0) (q := (some this)) dX5_readFact_52 rfl rfl rfl ?_
    refine R_getR (pc' := 56) (q := (some this)) fl_X5_18 rfl dX5_readFact_53 rfl (fun tape1 => ?_)
    refine R_aloadq_n (pc' := 57) (i := 0) (j := 0) (q := (some this)) dX5_readFact_56 rfl rfl rfl ?_
    refine R_getR (pc' := 60) (q := (some this)) fl_X5_18 rfl dX5_readFact_57 rfl (fun tape2 => ?_)
    refine R_getI (pc' := 63) (q := tape2) fl_X5_65 rfl dX5_readFact_60 rfl (fun start3 => ?_)
    refine R_iconst (pc' := 64) (x := (nI 2)) dX5_readFact_63 rfl (by decide) ?_
    refine R_callV_I (pc' := 67) (q := tape1) (As := [.int start3, .int (nI 2)]) (fun o5 => rm_X7_failAt o5 start3 (nI 2) M) mf_X7_failAt lk_X5_68 im_X7_failAt se_X7_failAt rfl rfl rfl dX5_readFact_64 rfl (by omega) (Nat.le_trans c_0 (by decide)) (fun r4 M => ?_)
    exact R_bret dX5_readFact_67
def f_X5_readFact_J37 (g_X5_readTest : Nat → Int32 → Mem → Option (Int32 × Mem)) (g_X5_readFact : Nat → Int32 → Mem → Option (Int32 × Mem)) (this : Nat) (l1 : Int32) (l2 : Int32) (s0 : Int32) (M : Mem) : Option (Int32 × Mem) :=
  (if l2 = 0 then
    ((if s0 = 0 then
      (f_X5_readFact_J68 g_X5_readTest g_X5_readFact this l1 l2 s0 M)
    else
      (f_X5_readFact_J46 g_X5_readTest g_X5_readFact this l1 l2 s0 M)))
  else
    (f_X5_readFact_J46 g_X5_readTest g_X5_readFact this l1 l2 s0 M))
set_option maxHeartbeats 2000000 in
set_option maxRecDepth 20000 in
theorem rf_X5_readFact_J37 {dg : Nat} (g_X5_readTest : Nat → Int32 → Mem → Option (Int32 × Mem)) (g_X5_readFact : Nat → Int32 → Mem → Option (Int32 × Mem)) (hdg : 3 ≤ dg) (hg_X5_readTest : ∀ (this : Nat) (l1 : Int32) (M : Mem), RFm yX5_readTest cX5_readTest 7 (some .boolean) dg eI (g_X5_readTest this l1 M) [va_rf (some this), .int l1] M) (hg_X5_readFact : ∀ (this : Nat) (l1 : Int32) (M : Mem), RFm yX5_readFact cX5_readFact 5 (some .boolean) dg eI (g_X5_readFact this l1 M) [va_rf (some this), .int l1] M) (this : Nat) (l1 : Int32) (l2 : Int32) (s0 : Int32) (M : Mem) : RF yX5_readFact cX5_readFact 5 (some .boolean) (dg + 1) eI (f_X5_readFact_J37 g_X5_readTest g_X5_readFact this l1 l2 s0 M) 37 [(0, va_rf (some this)), (1, .int l1), (2, .int l2)] [.int s0] M := by
  rw [f_X5_readFact_J37]
  refine R_istore_n (pc' := 38) (L' := [(3, .int s0), (0, va_rf (some this)), (1, .int l1), (2, .int l2)]) (i := 3) (x := s0) dX5_readFact_37 rfl rfl (by decide) rfl ?_
  refine R_iload_n (pc' := 39) (i := 2) (j := 3) (x := l2) dX5_readFact_38 rfl rfl rfl ?_
  refine R_if_ne (pc' := 42) (tgt := 46) (a := l2) dX5_readFact_39 (by decide) rfl ?_ ?_
  · exact R_sub [1, 2, 3, 0] rfl (rf_X5_readFact_J46 g_X5_readTest g_X5_readFact hdg hg_X5_readTest hg_X5_readFact this l1 l2 s0 M)
  · refine R_iload_n (pc' := 43) (i := 3) (j := 0) (x := s0) dX5_readFact_42 rfl rfl rfl ?_
    refine R_if_eq (pc' := 46) (tgt := 68) (a := s0) dX5_readFact_43 (by decide) rfl ?_ ?_
    · exact R_sub [1, 2, 3, 0] rfl (rf_X5_readFact_J68 g_X5_readTest g_X5_readFact hdg hg_X5_readTest hg_X5_readFact this l1 l2 s0 M)
    · exact R_sub [1, 2, 3, 0] rfl (rf_X5_readFact_J46 g_X5_readTest g_X5_readFact hdg hg_X5_readTest hg_X5_readFact this l1 l2 s0 M)
def f_X5_readFact_J19 (g_X5_readTest : Nat → Int32 → Mem → Option (Int32 × Mem)) (g_X5_readFact : Nat → Int32 → Mem → Option (Int32 × Mem)) (this : Nat) (l1 : Int32) (s0 : Int32) (M : Mem) : Option (Int32 × Mem) :=
  (gR M 5 0 (some this)).bind fun tape1 =>
  (gI M 7 7 tape1).bind fun sign2 =>
  (if sign2 = (nI 91) then
    (f_X5_readFact_J37 g_X5_readTest g_X5_readFact this l1 s0 (nI 1) M)
  else
    (f_X5_readFact_J37 g_X5_readTest g_X5_readFact this l1 s0 (nI 0) M))
set_option maxHeartbeats 2000000 in
set_option maxRecDepth 20000 in
theorem rf_X5_readFact_J19 {dg : Nat} (g_X5_readTest : Nat → Int32 → Mem → Option (Int32 × Mem)) (g_X5_readFact : Nat → Int32 → Mem → Option (Int32 × Mem)) (hdg : 3 ≤ dg) (hg_X5_readTest : ∀ (this : Nat) (l1 : Int32) (M : Mem), RFm yX5_readTest cX5_readTest 7 (some .boolean) dg eI (g_X5_readTest this l1 M) [va_rf (some this), .int l1] M) (hg_X5_readFact : ∀ (this : Nat) (l1 : Int32) (M : Mem), RFm yX5_readFact cX5_readFact 5 (some .boolean) dg eI (g_X5_readFact this l1 M) [va_rf (some this), .int l1] M) (this : Nat) (l1 : Int32) (s0 : Int32) (M : Mem) : RF yX5_readFact cX5_readFact 5 (some .boolean) (dg + 1) eI (f_X5_readFact_J19 g_X5_readTest g_X5_readFact this l1 s0 M) 19 [(0, va_rf (some this)), (1, .int l1)] [.int s0] M := by
  rw [f_X5_readFact_J19]
  refine R_istore_n (pc' := 20) (L' := [(2, .int s0), (0, va_rf (some this)), (1, .int l1)]) (i := 2) (x := s0) dX5_readFact_19 rfl rfl (by decide) rfl ?_
  refine R_aloadq_n (pc' := 21) (i := 0) (j := 1) (q := (some this)) dX5_readFact_20 rfl rfl rfl ?_
  refine R_getR (pc' := 24) (q := (some this)) fl_X5_18 rfl dX5_readFact_21 rfl (fun tape1 => ?_)
  refine R_getI (pc' := 27) (q := tape1) fl_X5_109 rfl dX5_readFact_24 rfl (fun sign2 => ?_)
  refine R_bipush (pc' := 29) (x := (nI 91)) dX5_readFact_27 rfl (by decide) ?_
  refine R_icmp_ne (pc' := 32) (tgt := 36) (a := sign2) (b := (nI 91)) dX5_readFact_29 (by decide) rfl ?_ ?_
  · refine R_iconst (pc' := 37) (x := (nI 0)) dX5_readFact_36 rfl (by decide) ?_
    exact R_sub [1, 2, 0] rfl (rf_X5_readFact_J37 g_X5_readTest g_X5_readFact hdg hg_X5_readTest hg_X5_readFact this l1 s0 (nI 0) M)
  · refine R_iconst (pc' := 33) (x := (nI 1)) dX5_readFact_32 rfl (by decide) ?_
    refine R_goto (tgt := 37) dX5_readFact_33 (by decide) ?_
    exact R_sub [1, 2, 0] rfl (rf_X5_readFact_J37 g_X5_readTest g_X5_readFact hdg hg_X5_readTest hg_X5_readFact this l1 s0 (nI 1) M)
def fb_X5_readFact (g_X5_readTest : Nat → Int32 → Mem → Option (Int32 × Mem)) (g_X5_readFact : Nat → Int32 → Mem → Option (Int32 × Mem)) (this : Nat) (l1 : Int32) (M : Mem) : Option (Int32 × Mem) :=
  (gR M 5 0 (some this)).bind fun tape1 =>
  (gL M 7 6 tape1).bind fun word2 =>
  (if (lg_cmp word2 (7237492 : Int64)) = 0 then
    (f_X5_readFact_J19 g_X5_readTest g_X5_readFact this l1 (nI 1) M)
  else
    (f_X5_readFact_J19 g_X5_readTest g_X5_readFact this l1 (nI 0) M))
set_option maxHeartbeats 2000000 in
set_option maxRecDepth 20000 in
theorem rb_X5_readFact {dg : Nat} (g_X5_readTest : Nat → Int32 → Mem → Option (Int32 × Mem)) (g_X5_readFact : Nat → Int32 → Mem → Option (Int32 × Mem)) (hdg : 3 ≤ dg) (hg_X5_readTest : ∀ (this : Nat) (l1 : Int32) (M : Mem), RFm yX5_readTest cX5_readTest 7 (some .boolean) dg eI (g_X5_readTest this l1 M) [va_rf (some this), .int l1] M) (hg_X5_readFact : ∀ (this : Nat) (l1 : Int32) (M : Mem), RFm yX5_readFact cX5_readFact 5 (some .boolean) dg eI (g_X5_readFact this l1 M) [va_rf (some this), .int l1] M) (this : Nat) (l1 : Int32) (M : Mem) : RFm yX5_readFact cX5_readFact 5 (some .boolean) (dg + 1) eI (fb_X5_readFact g_X5_readTest g_X5_readFact this l1 M) [va_rf (some this), .int l1] M := by
  refine RFm_of (L := [(0, va_rf (some this)), (1, .int l1)]) (by decide) rfl (Nat.le_trans (c_R (c_I c_0)) (by decide)) ?_
  rw [fb_X5_readFact]
  refine R_aloadq_n (pc' := 1) (i := 0) (j := 0) (q := (some this)) dX5_readFact_0 rfl rfl rfl ?_
  refine R_getR (pc' := 4) (q := (some this)) fl_X5_18 rfl dX5_readFact_1 rfl (fun tape1 => ?_)
  refine R_getL (pc' := 7) (q := tape1) fl_X5_59 rfl dX5_readFact_4 rfl (fun word2 => ?_)
  refine R_ldc2 (pc' := 10) (x := (7237492 : Int64)) dX5_readFact_7 rfl c2_X5_107 ?_
  refine R_lcmp (pc' := 11) (a := word2) (b := (7237492 : Int64)) dX5_readFact_10 rfl ?_
  refine R_if_ne (pc' := 14) (tgt := 18) (a := (lg_cmp word2 (7237492 : Int64))) dX5_readFact_11 (by decide) rfl ?_ ?_
  · refine R_iconst (pc' := 19) (x := (nI 0)) dX5_readFact_18 rfl (by decide) ?_
    exact R_sub [0, 1] rfl (rf_X5_readFact_J19 g_X5_readTest g_X5_readFact hdg hg_X5_readTest hg_X5_readFact this l1 (nI 0) M)
  · refine R_iconst (pc' := 15) (x := (nI 1)) dX5_readFact_14 rfl (by decide) ?_
    refine R_goto (tgt := 19) dX5_readFact_15 (by decide) ?_
    exact R_sub [0, 1] rfl (rf_X5_readFact_J19 g_X5_readTest g_X5_readFact hdg hg_X5_readTest hg_X5_readFact this l1 (nI 1) M)
def fn_X5_readTest : Nat → (Nat → Int32 → Mem → Option (Int32 × Mem)) × (Nat → Int32 → Mem → Option (Int32 × Mem))
  | 0 => (fun _ _ _ => none, fun _ _ _ => none)
  | n + 1 => (fun this l1 M => fb_X5_readTest (fn_X5_readTest n).2 this l1 M, fun this l1 M => fb_X5_readFact (fn_X5_readTest n).1 (fn_X5_readTest n).2 this l1 M)
theorem rn_X5_readTest : ∀ (n : Nat), (∀ (this : Nat) (l1 : Int32) (M : Mem), RFm yX5_readTest cX5_readTest 7 (some .boolean) (3 + n) eI ((fn_X5_readTest n).1 this l1 M) [va_rf (some this), .int l1] M) ∧ (∀ (this : Nat) (l1 : Int32) (M : Mem), RFm yX5_readFact cX5_readFact 5 (some .boolean) (3 + n) eI ((fn_X5_readTest n).2 this l1 M) [va_rf (some this), .int l1] M) := by
  intro n
  induction n with
  | zero => exact ⟨fun this l1 M r M2 h => (by cases h), fun this l1 M r M2 h => (by cases h)⟩
  | succ n ih =>
    exact ⟨fun this l1 M => rb_X5_readTest (dg := 3 + n) (fn_X5_readTest n).2 (Nat.le_add_right _ _) ih.2 this l1 M, fun this l1 M => rb_X5_readFact (dg := 3 + n) (fn_X5_readTest n).1 (fn_X5_readTest n).2 (Nat.le_add_right _ _) ih.1 ih.2 this l1 M⟩
def f_X5_readTest (this : Nat) (l1 : Int32) (M : Mem) : Option (Int32 × Mem) := (fn_X5_readTest 40).1 this l1 M
theorem rm_X5_readTest (this : Nat) (l1 : Int32) (M : Mem) : RFm yX5_readTest cX5_readTest 7 (some .boolean) 43 eI (f_X5_readTest this l1 M) [va_rf (some this), .int l1] M := (rn_X5_readTest 40).1 this l1 M
def f_X5_readFact (this : Nat) (l1 : Int32) (M : Mem) : Option (Int32 × Mem) := (fn_X5_readTest 40).2 this l1 M
theorem rm_X5_readFact (this : Nat) (l1 : Int32) (M : Mem) : RFm yX5_readFact cX5_readFact 5 (some .boolean) 43 eI (f_X5_readFact this l1 M) [va_rf (some this), .int l1] M := (rn_X5_readTest 40).2 this l1 M
/-! BarPilot$RuleReader.readClause(I)Z -/
def f_X5_readClause_J115 (this : Nat) (M : Mem) : Option (Int32 × Mem) :=
  (oO M 5 (some this)).bind fun o2 => cl (f_X5_put o2 (nI 6) (nI 0) M) fun r1 M =>
  ckZ r1 (some (r1, M))
set_option maxHeartbeats 2000000 in
set_option maxRecDepth 20000 in
theorem rf_X5_readClause_J115 (this : Nat) (M : Mem) : RF yX5_readClause cX5_readClause 4 (some .boolean) 44 eI (f_X5_readClause_J115 this M) 115 [(0, va_rf (some this))] [] M := by
  rw [f_X5_readClause_J115]
  refine R_aloadq_n (pc' := 116) (i := 0) (j := 0) (q := (some this)) dX5_readClause_115 rfl rfl rfl ?_
  refine R_bipush (pc' := 118) (x := (nI 6)) dX5_readClause_116 rfl (by decide) ?_
  refine R_iconst (pc' := 119) (x := (nI 0)) dX5_readClause_118 rfl (by decide) ?_
  refine R_callV_I (pc' := 122) (q := (some this)) (As := [.int (nI 6), .int (nI 0)]) (fun o2 => rm_X5_put o2 (nI 6) (nI 0) M) mf_X5_put lk_X5_87 im_X5_put se_X5_put rfl rfl rfl dX5_readClause_119 rfl (by decide) (Nat.le_trans c_0 (by decide)) (fun r1 M => ?_)
  exact R_bret dX5_readClause_122
def f_X5_readClause (this : Nat) (l1 : Int32) (M : Mem) : Option (Int32 × Mem) :=
  (gR M 5 0 (some this)).bind fun tape1 =>
  (gL M 7 6 tape1).bind fun word2 =>
  (if (lg_cmp word2 (1952803948 : Int64)) = 0 then
    ((if l1 < (nI 12) then
      ((gR M 5 0 (some this)).bind fun tape3 =>
      (oO M 7 tape3).bind fun o18 => cl (f_X7_next o18 M) fun u4 M =>
      (gI M 5 3 (some this)).bind fun length5 =>
      (oO M 5 (some this)).bind fun o17 => cl (f_X5_readSum o17 M) fun r6 M =>
      (if r6 = 0 then
        (ckZ (nI 0) (some ((nI 0), M)))
      else
        ((gR M 5 0 (some this)).bind fun tape7 =>
        (gL M 7 6 tape7).bind fun word8 =>
        (if (lg_cmp word8 (26982 : Int64)) = 0 then
          ((gI M 5 3 (some this)).bind fun length9 =>
          (gR M 5 0 (some this)).bind fun tape10 =>
          (oO M 7 tape10).bind fun o16 => cl (f_X7_next o16 M) fun u11 M =>
          (oO M 5 (some this)).bind fun o15 => cl (f_X5_readTest o15 (nI 0) M) fun r12 M =>
          (if r12 = 0 then
            (ckZ (nI 0) (some ((nI 0), M)))
          else
            ((oO M 5 (some this)).bind fun o14 => cl (f_X5_moveTestAhead o14 length5 length9 M) fun u13 M =>
            f_X5_readClause_J115 this M)))
        else
          (f_X5_readClause_J115 this M)))))
    else
      ((gR M 5 0 (some this)).bind fun tape19 =>
      (gR M 5 0 (some this)).bind fun tape20 =>
      (gI M 7 4 tape20).bind fun start21 =>
      (oO M 7 tape19).bind fun o23 => cl (f_X7_failAt o23 start21 (nI 4) M) fun r22 M =>
      ckZ r22 (some (r22, M)))))
  else
    ((gR M 5 0 (some this)).bind fun tape24 =>
    (gR M 5 0 (some this)).bind fun tape25 =>
    (gI M 7 4 tape25).bind fun start26 =>
    (oO M 7 tape24).bind fun o28 => cl (f_X7_failAt o28 start26 (nI 0) M) fun r27 M =>
    ckZ r27 (some (r27, M))))
set_option maxHeartbeats 2000000 in
set_option maxRecDepth 20000 in
theorem rm_X5_readClause (this : Nat) (l1 : Int32) (M : Mem) : RFm yX5_readClause cX5_readClause 4 (some .boolean) 44 eI (f_X5_readClause this l1 M) [va_rf (some this), .int l1] M := by
  refine RFm_of (L := [(0, va_rf (some this)), (1, .int l1)]) (by decide) rfl (Nat.le_trans (c_R (c_I c_0)) (by decide)) ?_
  rw [f_X5_readClause]
  refine R_aloadq_n (pc' := 1) (i := 0) (j := 0) (q := (some this)) dX5_readClause_0 rfl rfl rfl ?_
  refine R_getR (pc' := 4) (q := (some this)) fl_X5_18 rfl dX5_readClause_1 rfl (fun tape1 => ?_)
  refine R_getL (pc' := 7) (q := tape1) fl_X5_59 rfl dX5_readClause_4 rfl (fun word2 => ?_)
  refine R_ldc2 (pc' := 10) (x := (1952803948 : Int64)) dX5_readClause_7 rfl c2_X5_63 ?_
  refine R_lcmp (pc' := 11) (a := word2) (b := (1952803948 : Int64)) dX5_readClause_10 rfl ?_
  refine R_if_eq (pc' := 14) (tgt := 30) (a := (lg_cmp word2 (1952803948 : Int64))) dX5_readClause_11 (by decide) rfl ?_ ?_
  · refine R_iload_n (pc' := 31) (i := 1) (j := 1) (x := l1) dX5_readClause_30 rfl rfl rfl ?_
    refine R_bipush (pc' := 33) (x := (nI 12)) dX5_readClause_31 rfl (by decide) ?_
    refine R_icmp_lt (pc' := 36) (tgt := 52) (a := l1) (b := (nI 12)) dX5_readClause_33 (by decide) rfl ?_ ?_
    · refine R_aloadq_n (pc' := 53) (i := 0) (j := 0) (q := (some this)) dX5_readClause_52 rfl rfl rfl ?_
      refine R_getR (pc' := 56) (q := (some this)) fl_X5_18 rfl dX5_readClause_53 rfl (fun tape3 => ?_)
      refine R_callV_V (pc' := 59) (q := tape3) (As := []) (fun o18 => rm_X7_next o18 M) mf_X7_next lk_X5_72 im_X7_next se_X7_next rfl rfl rfl dX5_readClause_56 rfl (by decide) (Nat.le_trans c_0 (by decide)) (fun u4 M => ?_)
      refine R_aloadq_n (pc' := 60) (i := 0) (j := 0) (q := (some this)) dX5_readClause_59 rfl rfl rfl ?_
      refine R_getI (pc' := 63) (q := (some this)) fl_X5_27 rfl dX5_readClause_60 rfl (fun length5 => ?_)
      refine R_istore_n (pc' := 64) (L' := [(2, .int length5), (0, va_rf (some this)), (1, .int l1)]) (i := 2) (x := length5) dX5_readClause_63 rfl rfl (by decide) rfl ?_
      refine R_aloadq_n (pc' := 65) (i := 0) (j := 1) (q := (some this)) dX5_readClause_64 rfl rfl rfl ?_
      refine R_callV_I (pc' := 68) (q := (some this)) (As := []) (fun o17 => rm_X5_readSum o17 M) mf_X5_readSum lk_X5_75 im_X5_readSum se_X5_readSum rfl rfl rfl dX5_readClause_65 rfl (by decide) (Nat.le_trans c_0 (by decide)) (fun r6 M => ?_)
      refine R_if_ne (pc' := 71) (tgt := 73) (a := r6) dX5_readClause_68 (by decide) rfl ?_ ?_
      · refine R_aloadq_n (pc' := 74) (i := 0) (j := 1) (q := (some this)) dX5_readClause_73 rfl rfl rfl ?_
        refine R_getR (pc' := 77) (q := (some this)) fl_X5_18 rfl dX5_readClause_74 rfl (fun tape7 => ?_)
        refine R_getL (pc' := 80) (q := tape7) fl_X5_59 rfl dX5_readClause_77 rfl (fun word8 => ?_)
        refine R_ldc2 (pc' := 83) (x := (26982 : Int64)) dX5_readClause_80 rfl c2_X5_78 ?_
        refine R_lcmp (pc' := 84) (a := word8) (b := (26982 : Int64)) dX5_readClause_83 rfl ?_
        refine R_if_ne (pc' := 87) (tgt := 115) (a := (lg_cmp word8 (26982 : Int64))) dX5_readClause_84 (by decide) rfl ?_ ?_
        · exact R_sub [1] rfl (rf_X5_readClause_J115 this M)
        · refine R_aloadq_n (pc' := 88) (i := 0) (j := 1) (q := (some this)) dX5_readClause_87 rfl rfl rfl ?_
          refine R_getI (pc' := 91) (q := (some this)) fl_X5_27 rfl dX5_readClause_88 rfl (fun length9 => ?_)
          refine R_istore_n (pc' := 92) (L' := [(3, .int length9), (2, .int length5), (0, va_rf (some this)), (1, .int l1)]) (i := 3) (x := length9) dX5_readClause_91 rfl rfl (by decide) rfl ?_
          refine R_aloadq_n (pc' := 93) (i := 0) (j := 2) (q := (some this)) dX5_readClause_92 rfl rfl rfl ?_
          refine R_getR (pc' := 96) (q := (some this)) fl_X5_18 rfl dX5_readClause_93 rfl (fun tape10 => ?_)
          refine R_callV_V (pc' := 99) (q := tape10) (As := []) (fun o16 => rm_X7_next o16 M) mf_X7_next lk_X5_72 im_X7_next se_X7_next rfl rfl rfl dX5_readClause_96 rfl (by decide) (Nat.le_trans c_0 (by decide)) (fun u11 M => ?_)
          refine R_aloadq_n (pc' := 100) (i := 0) (j := 2) (q := (some this)) dX5_readClause_99 rfl rfl rfl ?_
          refine R_iconst (pc' := 101) (x := (nI 0)) dX5_readClause_100 rfl (by decide) ?_
          refine R_callV_I (pc' := 104) (q := (some this)) (As := [.int (nI 0)]) (fun o15 => rm_X5_readTest o15 (nI 0) M) mf_X5_readTest lk_X5_80 im_X5_readTest se_X5_readTest rfl rfl rfl dX5_readClause_101 rfl (by decide) (Nat.le_trans c_0 (by decide)) (fun r12 M => ?_)
          refine R_if_ne (pc' := 107) (tgt := 109) (a := r12) dX5_readClause_104 (by decide) rfl ?_ ?_
          · refine R_aloadq_n (pc' := 110) (i := 0) (j := 2) (q := (some this)) dX5_readClause_109 rfl rfl rfl ?_
            refine R_iload_n (pc' := 111) (i := 2) (j := 1) (x := length5) dX5_readClause_110 rfl rfl rfl ?_
            refine R_iload_n (pc' := 112) (i := 3) (j := 0) (x := length9) dX5_readClause_111 rfl rfl rfl ?_
            refine R_callV_V (pc' := 115) (q := (some this)) (As := [.int length5, .int length9]) (fun o14 => rm_X5_moveTestAhead o14 length5 length9 M) mf_X5_moveTestAhead lk_X5_83 im_X5_moveTestAhead se_X5_moveTestAhead rfl rfl rfl dX5_readClause_112 rfl (by decide) (Nat.le_trans c_0 (by decide)) (fun u13 M => ?_)
            exact R_sub [2] rfl (rf_X5_readClause_J115 this M)
          · refine R_iconst (pc' := 108) (x := (nI 0)) dX5_readClause_107 rfl (by decide) ?_
            exact R_bret dX5_readClause_108
      · refine R_iconst (pc' := 72) (x := (nI 0)) dX5_readClause_71 rfl (by decide) ?_
        exact R_bret dX5_readClause_72
    · refine R_aloadq_n (pc' := 37) (i := 0) (j := 0) (q := (some this)) dX5_readClause_36 rfl rfl rfl ?_
      refine R_getR (pc' := 40) (q := (some this)) fl_X5_18 rfl dX5_readClause_37 rfl (fun tape19 => ?_)
      refine R_aloadq_n (pc' := 41) (i := 0) (j := 0) (q := (some this)) dX5_readClause_40 rfl rfl rfl ?_
      refine R_getR (pc' := 44) (q := (some this)) fl_X5_18 rfl dX5_readClause_41 rfl (fun tape20 => ?_)
      refine R_getI (pc' := 47) (q := tape20) fl_X5_65 rfl dX5_readClause_44 rfl (fun start21 => ?_)
      refine R_iconst (pc' := 48) (x := (nI 4)) dX5_readClause_47 rfl (by decide) ?_
      refine R_callV_I (pc' := 51) (q := tape19) (As := [.int start21, .int (nI 4)]) (fun o23 => rm_X7_failAt o23 start21 (nI 4) M) mf_X7_failAt lk_X5_68 im_X7_failAt se_X7_failAt rfl rfl rfl dX5_readClause_48 rfl (by decide) (Nat.le_trans c_0 (by decide)) (fun r22 M => ?_)
      exact R_bret dX5_readClause_51
  · refine R_aloadq_n (pc' := 15) (i := 0) (j := 0) (q := (some this)) dX5_readClause_14 rfl rfl rfl ?_
    refine R_getR (pc' := 18) (q := (some this)) fl_X5_18 rfl dX5_readClause_15 rfl (fun tape24 => ?_)
    refine R_aloadq_n (pc' := 19) (i := 0) (j := 0) (q := (some this)) dX5_readClause_18 rfl rfl rfl ?_
    refine R_getR (pc' := 22) (q := (some this)) fl_X5_18 rfl dX5_readClause_19 rfl (fun tape25 => ?_)
    refine R_getI (pc' := 25) (q := tape25) fl_X5_65 rfl dX5_readClause_22 rfl (fun start26 => ?_)
    refine R_iconst (pc' := 26) (x := (nI 0)) dX5_readClause_25 rfl (by decide) ?_
    refine R_callV_I (pc' := 29) (q := tape24) (As := [.int start26, .int (nI 0)]) (fun o28 => rm_X7_failAt o28 start26 (nI 0) M) mf_X7_failAt lk_X5_68 im_X7_failAt se_X7_failAt rfl rfl rfl dX5_readClause_26 rfl (by decide) (Nat.le_trans c_0 (by decide)) (fun r27 M => ?_)
    exact R_bret dX5_readClause_29
/-! BarPilot$RuleReader.read()I -/
def f_X5_read_J66 (this : Nat) (M : Mem) : Option (Int32 × Mem) :=
  (gR M 5 0 (some this)).bind fun tape1 =>
  (gI M 7 2 tape1).bind fun fault2 =>
  some (fault2, M)
set_option maxHeartbeats 2000000 in
set_option maxRecDepth 20000 in
theorem rf_X5_read_J66 (this : Nat) (M : Mem) : RF yX5_read cX5_read 3 (some .int) 45 eI (f_X5_read_J66 this M) 66 [(0, va_rf (some this))] [] M := by
  rw [f_X5_read_J66]
  refine R_aloadq_n (pc' := 67) (i := 0) (j := 0) (q := (some this)) dX5_read_66 rfl rfl rfl ?_
  refine R_getR (pc' := 70) (q := (some this)) fl_X5_18 rfl dX5_read_67 rfl (fun tape1 => ?_)
  refine R_getI (pc' := 73) (q := tape1) fl_X5_45 rfl dX5_read_70 rfl (fun fault2 => ?_)
  exact R_iret dX5_read_73
def f_X5_read_J59 (k26 : Int32 → Int32 → Mem → Option (Int32 × Mem)) (this : Nat) (l2 : Int32) (s0 : Int32) (M : Mem) : Option (Int32 × Mem) :=
  k26 s0 (l2 + (nI 1)) M
set_option maxHeartbeats 2000000 in
set_option maxRecDepth 20000 in
theorem rf_X5_read_J59 (this : Nat) (k26 : Int32 → Int32 → Mem → Option (Int32 × Mem)) (hk26 : ∀ (l1 : Int32) (l2 : Int32) (M : Mem), RF yX5_read cX5_read 3 (some .int) 45 eI (k26 l1 l2 M) 26 [(0, va_rf (some this)), (1, .int l1), (2, .int l2)] [] M) (l2 : Int32) (s0 : Int32) (M : Mem) : RF yX5_read cX5_read 3 (some .int) 45 eI (f_X5_read_J59 k26 this l2 s0 M) 59 [(0, va_rf (some this)), (2, .int l2)] [.int s0] M := by
  rw [f_X5_read_J59]
  refine R_istore_n (pc' := 60) (L' := [(1, .int s0), (0, va_rf (some this)), (2, .int l2)]) (i := 1) (x := s0) dX5_read_59 rfl rfl (by decide) rfl ?_
  refine R_iinc (pc' := 63) (L' := [(2, .int (l2 + (nI 1))), (1, .int s0), (0, va_rf (some this))]) (i := 2) (j := 2) (x := l2) (x2 := (l2 + (nI 1))) dX5_read_60 rfl rfl rfl (by decide) rfl ?_
  refine R_goto (tgt := 26) dX5_read_63 (by decide) ?_
  exact R_sub [2, 1, 0] rfl (hk26 s0 (l2 + (nI 1)) M)
def f_X5_read_J58 (k26 : Int32 → Int32 → Mem → Option (Int32 × Mem)) (this : Nat) (l2 : Int32) (M : Mem) : Option (Int32 × Mem) :=
  f_X5_read_J59 k26 this l2 (nI 0) M
set_option maxHeartbeats 2000000 in
set_option maxRecDepth 20000 in
theorem rf_X5_read_J58 (this : Nat) (k26 : Int32 → Int32 → Mem → Option (Int32 × Mem)) (hk26 : ∀ (l1 : Int32) (l2 : Int32) (M : Mem), RF yX5_read cX5_read 3 (some .int) 45 eI (k26 l1 l2 M) 26 [(0, va_rf (some this)), (1, .int l1), (2, .int l2)] [] M) (l2 : Int32) (M : Mem) : RF yX5_read cX5_read 3 (some .int) 45 eI (f_X5_read_J58 k26 this l2 M) 58 [(0, va_rf (some this)), (2, .int l2)] [] M := by
  rw [f_X5_read_J58]
  refine R_iconst (pc' := 59) (x := (nI 0)) dX5_read_58 rfl (by decide) ?_
  exact R_sub [0, 1] rfl (rf_X5_read_J59 this k26 hk26 l2 (nI 0) M)
def f_X5_read_L26 (this : Nat) : Nat → Int32 → Int32 → Mem → Option (Int32 × Mem)
  | 0, _, _, _ => none
  | n + 1, l1, l2, M =>
    (if l1 = 0 then
      (f_X5_read_J66 this M)
    else
      ((if (nI 12) < l2 then
        (f_X5_read_J66 this M)
      else
        ((oO M 5 (some this)).bind fun o5 => cl (f_X5_readClause o5 l2 M) fun r1 M =>
        (if r1 = 0 then
          (f_X5_read_J58 (f_X5_read_L26 this n) this l2 M)
        else
          ((gR M 5 0 (some this)).bind fun tape2 =>
          (oO M 7 tape2).bind fun o4 => cl (f_X7_takesSeparator o4 M) fun r3 M =>
          (if r3 = 0 then
            (f_X5_read_J58 (f_X5_read_L26 this n) this l2 M)
          else
            (f_X5_read_J59 (f_X5_read_L26 this n) this l2 (nI 1) M))))))))
set_option maxHeartbeats 2000000 in
set_option maxRecDepth 20000 in
theorem rf_X5_read_L26 (this : Nat) : ∀ (n : Nat) (l1 : Int32) (l2 : Int32) (M : Mem), RF yX5_read cX5_read 3 (some .int) 45 eI (f_X5_read_L26 this n l1 l2 M) 26 [(0, va_rf (some this)), (1, .int l1), (2, .int l2)] [] M := by
  intro n
  induction n with
  | zero => intro _ _ _; exact RF.none
  | succ n ih =>
    intro l1 l2 M
    rw [f_X5_read_L26]
    refine R_iload_n (pc' := 27) (i := 1) (j := 1) (x := l1) dX5_read_26 rfl rfl rfl ?_
    refine R_if_eq (pc' := 30) (tgt := 66) (a := l1) dX5_read_27 (by decide) rfl ?_ ?_
    · exact R_sub [0] rfl (rf_X5_read_J66 this M)
    · refine R_iload_n (pc' := 31) (i := 2) (j := 2) (x := l2) dX5_read_30 rfl rfl rfl ?_
      refine R_bipush (pc' := 33) (x := (nI 12)) dX5_read_31 rfl (by decide) ?_
      refine R_icmp_gt (pc' := 36) (tgt := 66) (a := l2) (b := (nI 12)) dX5_read_33 (by decide) rfl ?_ ?_
      · exact R_sub [0] rfl (rf_X5_read_J66 this M)
      · refine R_aloadq_n (pc' := 37) (i := 0) (j := 0) (q := (some this)) dX5_read_36 rfl rfl rfl ?_
        refine R_iload_n (pc' := 38) (i := 2) (j := 2) (x := l2) dX5_read_37 rfl rfl rfl ?_
        refine R_callV_I (pc' := 41) (q := (some this)) (As := [.int l2]) (fun o5 => rm_X5_readClause o5 l2 M) mf_X5_readClause lk_X5_37 im_X5_readClause se_X5_readClause rfl rfl rfl dX5_read_38 rfl (by decide) (Nat.le_trans c_0 (by decide)) (fun r1 M => ?_)
        refine R_if_eq (pc' := 44) (tgt := 58) (a := r1) dX5_read_41 (by decide) rfl ?_ ?_
        · exact R_sub [0, 2] rfl (rf_X5_read_J58 this (f_X5_read_L26 this n) ih l2 M)
        · refine R_aloadq_n (pc' := 45) (i := 0) (j := 0) (q := (some this)) dX5_read_44 rfl rfl rfl ?_
          refine R_getR (pc' := 48) (q := (some this)) fl_X5_18 rfl dX5_read_45 rfl (fun tape2 => ?_)
          refine R_callV_I (pc' := 51) (q := tape2) (As := []) (fun o4 => rm_X7_takesSeparator o4 M) mf_X7_takesSeparator lk_X5_41 im_X7_takesSeparator se_X7_takesSeparator rfl rfl rfl dX5_read_48 rfl (by decide) (Nat.le_trans c_0 (by decide)) (fun r3 M => ?_)
          refine R_if_eq (pc' := 54) (tgt := 58) (a := r3) dX5_read_51 (by decide) rfl ?_ ?_
          · exact R_sub [0, 2] rfl (rf_X5_read_J58 this (f_X5_read_L26 this n) ih l2 M)
          · refine R_iconst (pc' := 55) (x := (nI 1)) dX5_read_54 rfl (by decide) ?_
            refine R_goto (tgt := 59) dX5_read_55 (by decide) ?_
            exact R_sub [0, 2] rfl (rf_X5_read_J59 this (f_X5_read_L26 this n) ih l2 (nI 1) M)
def f_X5_read (this : Nat) (M : Mem) : Option (Int32 × Mem) :=
  (gR M 5 0 (some this)).bind fun tape1 =>
  (oO M 7 tape1).bind fun o3 => cl (f_X7_rewind o3 M) fun u2 M =>
  (pI M 5 3 (some this) (nI 0)).bind fun M =>
  (pI M 5 4 (some this) (nI 0)).bind fun M =>
  (pI M 5 5 (some this) (nI 0)).bind fun M =>
  f_X5_read_L26 this FU (nI 1) (nI 0) M
set_option maxHeartbeats 2000000 in
set_option maxRecDepth 20000 in
theorem rm_X5_read (this : Nat) (M : Mem) : RFm yX5_read cX5_read 3 (some .int) 45 eI (f_X5_read this M) [va_rf (some this)] M := by
  refine RFm_of (L := [(0, va_rf (some this))]) (by decide) rfl (Nat.le_trans (c_R c_0) (by decide)) ?_
  rw [f_X5_read]
  refine R_aloadq_n (pc' := 1) (i := 0) (j := 0) (q := (some this)) dX5_read_0 rfl rfl rfl ?_
  refine R_getR (pc' := 4) (q := (some this)) fl_X5_18 rfl dX5_read_1 rfl (fun tape1 => ?_)
  refine R_callV_V (pc' := 7) (q := tape1) (As := []) (fun o3 => rm_X7_rewind o3 M) mf_X7_rewind lk_X5_22 im_X7_rewind se_X7_rewind rfl rfl rfl dX5_read_4 rfl (by decide) (Nat.le_trans c_0 (by decide)) (fun u2 M => ?_)
  refine R_aloadq_n (pc' := 8) (i := 0) (j := 0) (q := (some this)) dX5_read_7 rfl rfl rfl ?_
  refine R_iconst (pc' := 9) (x := (nI 0)) dX5_read_8 rfl (by decide) ?_
  refine R_putI (pc' := 12) (q := (some this)) (x := (nI 0)) fl_X5_27 (Or.inl rfl) dX5_read_9 rfl (fun M => ?_)
  refine R_aloadq_n (pc' := 13) (i := 0) (j := 0) (q := (some this)) dX5_read_12 rfl rfl rfl ?_
  refine R_iconst (pc' := 14) (x := (nI 0)) dX5_read_13 rfl (by decide) ?_
  refine R_putI (pc' := 17) (q := (some this)) (x := (nI 0)) fl_X5_31 (Or.inl rfl) dX5_read_14 rfl (fun M => ?_)
  refine R_aloadq_n (pc' := 18) (i := 0) (j := 0) (q := (some this)) dX5_read_17 rfl rfl rfl ?_
  refine R_iconst (pc' := 19) (x := (nI 0)) dX5_read_18 rfl (by decide) ?_
  refine R_putI (pc' := 22) (q := (some this)) (x := (nI 0)) fl_X5_34 (Or.inl rfl) dX5_read_19 rfl (fun M => ?_)
  refine R_iconst (pc' := 23) (x := (nI 1)) dX5_read_22 rfl (by decide) ?_
  refine R_istore_n (pc' := 24) (L' := [(1, .int (nI 1)), (0, va_rf (some this))]) (i := 1) (x := (nI 1)) dX5_read_23 rfl rfl (by decide) rfl ?_
  refine R_iconst (pc' := 25) (x := (nI 0)) dX5_read_24 rfl (by decide) ?_
  refine R_istore_n (pc' := 26) (L' := [(2, .int (nI 0)), (1, .int (nI 1)), (0, va_rf (some this))]) (i := 2) (x := (nI 0)) dX5_read_25 rfl rfl (by decide) rfl ?_
  exact R_sub [2, 1, 0] rfl (rf_X5_read_L26 this FU (nI 1) (nI 0) M)
/-! BarPilot$RuleReader.made()LBarPilot$Rule; -/
def f_X5_made (this : Nat) (M : Mem) : Option (Option Nat × Mem) :=
  newO M 4 fun a1 M =>
  (gR M 5 1 (some this)).bind fun code2 =>
  (gI M 5 3 (some this)).bind fun length3 =>
  cl (f_J7_copyOf_59c91 code2 length3 M) fun r4 M =>
  (gI M 5 5 (some this)).bind fun words5 =>
  cl (f_X4_init a1 r4 words5 M) fun u6 M =>
  some ((some a1), M)
set_option maxHeartbeats 2000000 in
set_option maxRecDepth 20000 in
theorem rm_X5_made (this : Nat) (M : Mem) : RFm yX5_made cX5_made 1 (some (.object "BarPilot$Rule")) 2 eR (f_X5_made this M) [va_rf (some this)] M := by
  refine RFm_of (L := [(0, va_rf (some this))]) (by decide) rfl (Nat.le_trans (c_R c_0) (by decide)) ?_
  rw [f_X5_made]
  refine R_new (pc' := 3) cl_X4 ck_X5_48 dX5_made_0 rfl (fun a1 M => ?_)
  refine R_dup (pc' := 4) dX5_made_3 rfl (rf_cat _) ?_
  refine R_aloadq_n (pc' := 5) (i := 0) (j := 0) (q := (some this)) dX5_made_4 rfl rfl rfl ?_
  refine R_getR (pc' := 8) (q := (some this)) fl_X5_9 rfl dX5_made_5 rfl (fun code2 => ?_)
  refine R_aloadq_n (pc' := 9) (i := 0) (j := 0) (q := (some this)) dX5_made_8 rfl rfl rfl ?_
  refine R_getI (pc' := 12) (q := (some this)) fl_X5_27 rfl dX5_made_9 rfl (fun length3 => ?_)
  refine R_callS_R (pc' := 15) (As := [va_rf code2, .int length3]) (rm_J7_copyOf_59c91 code2 length3 M) mf_J7_copyOf_59c91 lk_X5_50 sm_J7_copyOf_59c91 rfl rfl dX5_made_12 rfl (by decide) (Nat.le_trans (c_R (c_R c_0)) (by decide)) (fun r4 M => ?_)
  refine R_aloadq_n (pc' := 16) (i := 0) (j := 0) (q := (some this)) dX5_made_15 rfl rfl rfl ?_
  refine R_getI (pc' := 19) (q := (some this)) fl_X5_34 rfl dX5_made_16 rfl (fun words5 => ?_)
  refine R_callI_V (pc' := 22) (a := a1) (As := [va_rf r4, .int words5]) (rm_X4_init a1 r4 words5 M) mf_X4_init lk_X5_56 im_X4_init rfl rfl rfl dX5_made_19 rfl (by decide) (Nat.le_trans (c_R c_0) (by decide)) (fun u6 M => ?_)
  exact R_aret (Or.inl ⟨_, rfl⟩) dX5_made_22
/-! BarPilot$Asker.<init>(LBarPilot$Book;LBarPilot$Pilot;)V -/
def f_X0_init_L66 (this : Nat) : Nat → Int32 → Mem → Option (Unit × Mem)
  | 0, _, _ => none
  | n + 1, l3, M =>
    (if (nI 5) ≤ l3 then
      (some ((), M))
    else
      ((gR M 0 8 (some this)).bind fun levels1 =>
      newO M 6 fun a2 M =>
      cl (f_X6_init a2 M) fun u3 M =>
      (wR M 6 6 levels1 l3 (some a2)).bind fun M =>
      (f_X0_init_L66 this n) (l3 + (nI 1)) M))
set_option maxHeartbeats 2000000 in
set_option maxRecDepth 20000 in
theorem rf_X0_init_L66 (this : Nat) : ∀ (n : Nat) (l3 : Int32) (M : Mem), RF yX0_init cX0_init 4 none 3 eV (f_X0_init_L66 this n l3 M) 66 [(0, va_rf (some this)), (3, .int l3)] [] M := by
  intro n
  induction n with
  | zero => intro _ _; exact RF.none
  | succ n ih =>
    intro l3 M
    rw [f_X0_init_L66]
    refine R_iload_n (pc' := 67) (i := 3) (j := 1) (x := l3) dX0_init_66 rfl rfl rfl ?_
    refine R_iconst (pc' := 68) (x := (nI 5)) dX0_init_67 rfl (by decide) ?_
    refine R_icmp_ge (pc' := 71) (tgt := 90) (a := l3) (b := (nI 5)) dX0_init_68 (by decide) rfl ?_ ?_
    · exact R_vret dX0_init_90
    · refine R_aloadq_n (pc' := 72) (i := 0) (j := 0) (q := (some this)) dX0_init_71 rfl rfl rfl ?_
      refine R_getR (pc' := 75) (q := (some this)) fl_X0_22 rfl dX0_init_72 rfl (fun levels1 => ?_)
      refine R_iload_n (pc' := 76) (i := 3) (j := 1) (x := l3) dX0_init_75 rfl rfl rfl ?_
      refine R_new (pc' := 79) cl_X6 ck_X0_15 dX0_init_76 rfl (fun a2 M => ?_)
      refine R_dup (pc' := 80) dX0_init_79 rfl (rf_cat _) ?_
      refine R_callI_V (pc' := 83) (a := a2) (As := []) (rm_X6_init a2 M) mf_X6_init lk_X0_17 im_X6_init rfl rfl rfl dX0_init_80 rfl (by decide) (Nat.le_trans (c_R (c_I (c_R c_0))) (by decide)) (fun u3 M => ?_)
      refine R_aast (pc' := 84) (q := levels1) (i := l3) (v := (some a2)) (by decide) rfl rfl dX0_init_83 rfl (fun M => ?_)
      refine R_iinc (pc' := 87) (L' := [(3, .int (l3 + (nI 1))), (0, va_rf (some this))]) (i := 3) (j := 1) (x := l3) (x2 := (l3 + (nI 1))) dX0_init_84 rfl rfl rfl (by decide) rfl ?_
      refine R_goto (tgt := 66) dX0_init_87 (by decide) ?_
      exact R_sub [1, 0] rfl (ih (l3 + (nI 1)) M)
def f_X0_init (this : Nat) (l1 : Option Nat) (l2 : Option Nat) (M : Mem) : Option (Unit × Mem) :=
  newA M 0 (nI 4) fun a1 M =>
  (pR M 0 3 (some this) (some a1)).bind fun M =>
  newO M 6 fun a2 M =>
  cl (f_X6_init a2 M) fun u3 M =>
  (pR M 0 7 (some this) (some a2)).bind fun M =>
  newA M 6 (nI 5) fun a4 M =>
  (pR M 0 8 (some this) (some a4)).bind fun M =>
  newA M 2 (nI 7) fun a5 M =>
  (pR M 0 9 (some this) (some a5)).bind fun M =>
  newA M 0 (nI 35) fun a6 M =>
  (pR M 0 10 (some this) (some a6)).bind fun M =>
  (pR M 0 4 (some this) l1).bind fun M =>
  (gR M 2 0 l1).bind fun told7 =>
  (pR M 0 5 (some this) told7).bind fun M =>
  (pR M 0 6 (some this) l2).bind fun M =>
  f_X0_init_L66 this FU (nI 0) M
set_option maxHeartbeats 2000000 in
set_option maxRecDepth 20000 in
theorem rm_X0_init (this : Nat) (l1 : Option Nat) (l2 : Option Nat) (M : Mem) : RFm yX0_init cX0_init 4 none 3 eV (f_X0_init this l1 l2 M) [va_rf (some this), va_rf l1, va_rf l2] M := by
  refine RFm_of (L := [(0, va_rf (some this)), (1, va_rf l1), (2, va_rf l2)]) (by decide) (by simp only [lva_R, lva_I, lva_L, lva_C, lva_0]) (Nat.le_trans (c_R (c_R (c_R c_0))) (by decide)) ?_
  rw [f_X0_init]
  refine R_aloadq_n (pc' := 1) (i := 0) (j := 0) (q := (some this)) dX0_init_0 rfl rfl rfl ?_
  refine R_objInit (pc' := 4) (a := this) lko_X0_3 ob_in ob_co dX0_init_1 rfl (by decide) (Nat.le_trans c_0 (by decide)) ?_
  refine R_aloadq_n (pc' := 5) (i := 0) (j := 0) (q := (some this)) dX0_init_4 rfl rfl rfl ?_
  refine R_iconst (pc' := 6) (x := (nI 4)) dX0_init_5 rfl (by decide) ?_
  refine R_newa (pc' := 8) (at0 := .int) (ty := .int) (t := 0) (n := (nI 4)) rfl rfl (by decide) ac_int (by decide) rfl dX0_init_6 rfl (fun a1 M => ?_)
  refine R_putR (pc' := 11) (q := (some this)) (x := (some a1)) fl_X0_9 rfl (Or.inr ⟨rfl, rfl⟩) dX0_init_8 rfl (fun M => ?_)
  refine R_aloadq_n (pc' := 12) (i := 0) (j := 0) (q := (some this)) dX0_init_11 rfl rfl rfl ?_
  refine R_new (pc' := 15) cl_X6 ck_X0_15 dX0_init_12 rfl (fun a2 M => ?_)
  refine R_dup (pc' := 16) dX0_init_15 rfl (rf_cat _) ?_
  refine R_callI_V (pc' := 19) (a := a2) (As := []) (rm_X6_init a2 M) mf_X6_init lk_X0_17 im_X6_init rfl rfl rfl dX0_init_16 rfl (by decide) (Nat.le_trans (c_R (c_R c_0)) (by decide)) (fun u3 M => ?_)
  refine R_putR (pc' := 22) (q := (some this)) (x := (some a2)) fl_X0_18 rfl (Or.inr ⟨rfl, rfl⟩) dX0_init_19 rfl (fun M => ?_)
  refine R_aloadq_n (pc' := 23) (i := 0) (j := 0) (q := (some this)) dX0_init_22 rfl rfl rfl ?_
  refine R_iconst (pc' := 24) (x := (nI 5)) dX0_init_23 rfl (by decide) ?_
  refine R_newq (pc' := 27) (t := 6) (n := (nI 5)) (by decide) rfl ckn_X0_15 (fun _ h => h.2.2.2) dX0_init_24 rfl (fun a4 M => ?_)
  refine R_putR (pc' := 30) (q := (some this)) (x := (some a4)) fl_X0_22 rfl (Or.inr ⟨rfl, rfl⟩) dX0_init_27 rfl (fun M => ?_)
  refine R_aloadq_n (pc' := 31) (i := 0) (j := 0) (q := (some this)) dX0_init_30 rfl rfl rfl ?_
  refine R_bipush (pc' := 33) (x := (nI 7)) dX0_init_31 rfl (by decide) ?_
  refine R_newa (pc' := 35) (at0 := .boolean) (ty := .boolean) (t := 2) (n := (nI 7)) rfl rfl (by decide) ac_boolean (by decide) rfl dX0_init_33 rfl (fun a5 M => ?_)
  refine R_putR (pc' := 38) (q := (some this)) (x := (some a5)) fl_X0_26 rfl (Or.inr ⟨rfl, rfl⟩) dX0_init_35 rfl (fun M => ?_)
  refine R_aloadq_n (pc' := 39) (i := 0) (j := 0) (q := (some this)) dX0_init_38 rfl rfl rfl ?_
  refine R_bipush (pc' := 41) (x := (nI 35)) dX0_init_39 rfl (by decide) ?_
  refine R_newa (pc' := 43) (at0 := .int) (ty := .int) (t := 0) (n := (nI 35)) rfl rfl (by decide) ac_int (by decide) rfl dX0_init_41 rfl (fun a6 M => ?_)
  refine R_putR (pc' := 46) (q := (some this)) (x := (some a6)) fl_X0_30 rfl (Or.inr ⟨rfl, rfl⟩) dX0_init_43 rfl (fun M => ?_)
  refine R_aloadq_n (pc' := 47) (i := 0) (j := 0) (q := (some this)) dX0_init_46 rfl rfl rfl ?_
  refine R_aloadq_n (pc' := 48) (i := 1) (j := 1) (q := l1) dX0_init_47 rfl rfl rfl ?_
  refine R_putR (pc' := 51) (q := (some this)) (x := l1) fl_X0_33 rfl (Or.inr ⟨rfl, rfl⟩) dX0_init_48 rfl (fun M => ?_)
  refine R_aloadq_n (pc' := 52) (i := 0) (j := 0) (q := (some this)) dX0_init_51 rfl rfl rfl ?_
  refine R_aloadq_n (pc' := 53) (i := 1) (j := 1) (q := l1) dX0_init_52 rfl rfl rfl ?_
  refine R_getR (pc' := 56) (q := l1) fl_X0_37 rfl dX0_init_53 rfl (fun told7 => ?_)
  refine R_putR (pc' := 59) (q := (some this)) (x := told7) fl_X0_43 rfl (Or.inr ⟨rfl, rfl⟩) dX0_init_56 rfl (fun M => ?_)
  refine R_aloadq_n (pc' := 60) (i := 0) (j := 0) (q := (some this)) dX0_init_59 rfl rfl rfl ?_
  refine R_aloadq_n (pc' := 61) (i := 2) (j := 2) (q := l2) dX0_init_60 rfl rfl rfl ?_
  refine R_putR (pc' := 64) (q := (some this)) (x := l2) fl_X0_44 rfl (Or.inr ⟨rfl, rfl⟩) dX0_init_61 rfl (fun M => ?_)
  refine R_iconst (pc' := 65) (x := (nI 0)) dX0_init_64 rfl (by decide) ?_
  refine R_istore_n (pc' := 66) (L' := [(3, .int (nI 0)), (0, va_rf (some this)), (1, va_rf l1), (2, va_rf l2)]) (i := 3) (x := (nI 0)) dX0_init_65 rfl rfl (by decide) (by simp [stL, rf_cat, cat_I, cat_L, cat_C]) ?_
  exact R_sub [1, 0] rfl (rf_X0_init_L66 this FU (nI 0) M)
/-! BarPilot$Asker.later(I)LBarPilot$Scene; -/
def f_X0_later (this : Nat) (l1 : Int32) (M : Mem) : Option (Option Nat × Mem) :=
  (gR M 0 7 (some this)).bind fun work1 =>
  (gR M 0 4 (some this)).bind fun book2 =>
  (gR M 2 1 book2).bind fun scene3 =>
  (oO M 6 work1).bind fun o10 => cl (f_X6_copyFrom o10 scene3 M) fun u4 M =>
  (gR M 0 6 (some this)).bind fun pilot5 =>
  (gR M 0 7 (some this)).bind fun work6 =>
  (oO M 3 pilot5).bind fun o9 => cl (f_X3_goOn o9 work6 l1 (nI 1) M) fun u7 M =>
  (gR M 0 7 (some this)).bind fun work8 =>
  some (work8, M)
set_option maxHeartbeats 2000000 in
set_option maxRecDepth 20000 in
theorem rm_X0_later (this : Nat) (l1 : Int32) (M : Mem) : RFm yX0_later cX0_later 2 (some (.object "BarPilot$Scene")) 6 eR (f_X0_later this l1 M) [va_rf (some this), .int l1] M := by
  refine RFm_of (L := [(0, va_rf (some this)), (1, .int l1)]) (by decide) rfl (Nat.le_trans (c_R (c_I c_0)) (by decide)) ?_
  rw [f_X0_later]
  refine R_aloadq_n (pc' := 1) (i := 0) (j := 0) (q := (some this)) dX0_later_0 rfl rfl rfl ?_
  refine R_getR (pc' := 4) (q := (some this)) fl_X0_18 rfl dX0_later_1 rfl (fun work1 => ?_)
  refine R_aloadq_n (pc' := 5) (i := 0) (j := 0) (q := (some this)) dX0_later_4 rfl rfl rfl ?_
  refine R_getR (pc' := 8) (q := (some this)) fl_X0_33 rfl dX0_later_5 rfl (fun book2 => ?_)
  refine R_getR (pc' := 11) (q := book2) fl_X0_48 rfl dX0_later_8 rfl (fun scene3 => ?_)
  refine R_callV_V (pc' := 14) (q := work1) (As := [va_rf scene3]) (fun o10 => rm_X6_copyFrom o10 scene3 M) mf_X6_copyFrom lk_X0_51 im_X6_copyFrom se_X6_copyFrom rfl rfl rfl dX0_later_11 rfl (by decide) (Nat.le_trans c_0 (by decide)) (fun u4 M => ?_)
  refine R_aloadq_n (pc' := 15) (i := 0) (j := 0) (q := (some this)) dX0_later_14 rfl rfl rfl ?_
  refine R_getR (pc' := 18) (q := (some this)) fl_X0_44 rfl dX0_later_15 rfl (fun pilot5 => ?_)
  refine R_aloadq_n (pc' := 19) (i := 0) (j := 0) (q := (some this)) dX0_later_18 rfl rfl rfl ?_
  refine R_getR (pc' := 22) (q := (some this)) fl_X0_18 rfl dX0_later_19 rfl (fun work6 => ?_)
  refine R_iload_n (pc' := 23) (i := 1) (j := 1) (x := l1) dX0_later_22 rfl rfl rfl ?_
  refine R_iconst (pc' := 24) (x := (nI 1)) dX0_later_23 rfl (by decide) ?_
  refine R_callV_V (pc' := 27) (q := pilot5) (As := [va_rf work6, .int l1, .int (nI 1)]) (fun o9 => rm_X3_goOn o9 work6 l1 (nI 1) M) mf_X3_goOn lk_X0_55 im_X3_goOn se_X3_goOn rfl rfl rfl dX0_later_24 rfl (by decide) (Nat.le_trans c_0 (by decide)) (fun u7 M => ?_)
  refine R_aloadq_n (pc' := 28) (i := 0) (j := 0) (q := (some this)) dX0_later_27 rfl rfl rfl ?_
  refine R_getR (pc' := 31) (q := (some this)) fl_X0_18 rfl dX0_later_28 rfl (fun work8 => ?_)
  exact R_aret (Or.inl ⟨_, rfl⟩) dX0_later_31
/-! BarPilot$Asker.findPassing(I)Z -/
def f_X0_findPassing_L16 (this : Nat) : Nat → Int32 → Int32 → Mem → Option (Int32 × Mem)
  | 0, _, _, _ => none
  | n + 1, l1, l2, M =>
    (if (nI 100) ≤ l2 then
      (ckZ (nI 0) (some ((nI 0), M)))
    else
      ((gR M 0 7 (some this)).bind fun work1 =>
      (gI M 6 0 work1).bind fun tide2 =>
      (pI M 0 0 (some this) tide2).bind fun M =>
      (gR M 0 6 (some this)).bind fun pilot3 =>
      (gR M 0 7 (some this)).bind fun work4 =>
      (oO M 3 pilot3).bind fun o9 => cl (f_X3_oneTide o9 work4 M) fun r5 M =>
      (if ((r5 >>> (l1 &&& 31)) &&& (nI 1)) = 0 then
        ((f_X0_findPassing_L16 this n) l1 (l2 + (nI 1)) M)
      else
        ((gR M 0 6 (some this)).bind fun pilot6 =>
        (gR M 3 1 pilot6).bind fun said7 =>
        (aI M 0 said7 l1).bind fun e8 =>
        (pI M 0 1 (some this) e8).bind fun M =>
        ckZ (nI 1) (some ((nI 1), M))))))
set_option maxHeartbeats 2000000 in
set_option maxRecDepth 20000 in
theorem rf_X0_findPassing_L16 (this : Nat) : ∀ (n : Nat) (l1 : Int32) (l2 : Int32) (M : Mem), RF yX0_findPassing cX0_findPassing 3 (some .boolean) 6 eI (f_X0_findPassing_L16 this n l1 l2 M) 16 [(0, va_rf (some this)), (1, .int l1), (2, .int l2)] [] M := by
  intro n
  induction n with
  | zero => intro _ _ _; exact RF.none
  | succ n ih =>
    intro l1 l2 M
    rw [f_X0_findPassing_L16]
    refine R_iload_n (pc' := 17) (i := 2) (j := 2) (x := l2) dX0_findPassing_16 rfl rfl rfl ?_
    refine R_bipush (pc' := 19) (x := (nI 100)) dX0_findPassing_17 rfl (by decide) ?_
    refine R_icmp_ge (pc' := 22) (tgt := 72) (a := l2) (b := (nI 100)) dX0_findPassing_19 (by decide) rfl ?_ ?_
    · refine R_iconst (pc' := 73) (x := (nI 0)) dX0_findPassing_72 rfl (by decide) ?_
      exact R_bret dX0_findPassing_73
    · refine R_aloadq_n (pc' := 23) (i := 0) (j := 0) (q := (some this)) dX0_findPassing_22 rfl rfl rfl ?_
      refine R_aloadq_n (pc' := 24) (i := 0) (j := 0) (q := (some this)) dX0_findPassing_23 rfl rfl rfl ?_
      refine R_getR (pc' := 27) (q := (some this)) fl_X0_18 rfl dX0_findPassing_24 rfl (fun work1 => ?_)
      refine R_getI (pc' := 30) (q := work1) fl_X0_61 rfl dX0_findPassing_27 rfl (fun tide2 => ?_)
      refine R_putI (pc' := 33) (q := (some this)) (x := tide2) fl_X0_65 (Or.inl rfl) dX0_findPassing_30 rfl (fun M => ?_)
      refine R_aloadq_n (pc' := 34) (i := 0) (j := 0) (q := (some this)) dX0_findPassing_33 rfl rfl rfl ?_
      refine R_getR (pc' := 37) (q := (some this)) fl_X0_44 rfl dX0_findPassing_34 rfl (fun pilot3 => ?_)
      refine R_aloadq_n (pc' := 38) (i := 0) (j := 0) (q := (some this)) dX0_findPassing_37 rfl rfl rfl ?_
      refine R_getR (pc' := 41) (q := (some this)) fl_X0_18 rfl dX0_findPassing_38 rfl (fun work4 => ?_)
      refine R_callV_I (pc' := 44) (q := pilot3) (As := [va_rf work4]) (fun o9 => rm_X3_oneTide o9 work4 M) mf_X3_oneTide lk_X0_68 im_X3_oneTide se_X3_oneTide rfl rfl rfl dX0_findPassing_41 rfl (by decide) (Nat.le_trans c_0 (by decide)) (fun r5 M => ?_)
      refine R_iload_n (pc' := 45) (i := 1) (j := 1) (x := l1) dX0_findPassing_44 rfl rfl rfl ?_
      refine R_ishr (pc' := 46) (a := r5) (b := l1) dX0_findPassing_45 rfl ?_
      refine R_iconst (pc' := 47) (x := (nI 1)) dX0_findPassing_46 rfl (by decide) ?_
      refine R_iand (pc' := 48) (a := (r5 >>> (l1 &&& 31))) (b := (nI 1)) dX0_findPassing_47 rfl ?_
      refine R_if_eq (pc' := 51) (tgt := 66) (a := ((r5 >>> (l1 &&& 31)) &&& (nI 1))) dX0_findPassing_48 (by decide) rfl ?_ ?_
      · refine R_iinc (pc' := 69) (L' := [(2, .int (l2 + (nI 1))), (0, va_rf (some this)), (1, .int l1)]) (i := 2) (j := 2) (x := l2) (x2 := (l2 + (nI 1))) dX0_findPassing_66 rfl rfl rfl (by decide) rfl ?_
        refine R_goto (tgt := 16) dX0_findPassing_69 (by decide) ?_
        exact R_sub [1, 2, 0] rfl (ih l1 (l2 + (nI 1)) M)
      · refine R_aloadq_n (pc' := 52) (i := 0) (j := 0) (q := (some this)) dX0_findPassing_51 rfl rfl rfl ?_
        refine R_aloadq_n (pc' := 53) (i := 0) (j := 0) (q := (some this)) dX0_findPassing_52 rfl rfl rfl ?_
        refine R_getR (pc' := 56) (q := (some this)) fl_X0_44 rfl dX0_findPassing_53 rfl (fun pilot6 => ?_)
        refine R_getR (pc' := 59) (q := pilot6) fl_X0_72 rfl dX0_findPassing_56 rfl (fun said7 => ?_)
        refine R_iload_n (pc' := 60) (i := 1) (j := 1) (x := l1) dX0_findPassing_59 rfl rfl rfl ?_
        refine R_iald (pc' := 61) (q := said7) (i := l1) dX0_findPassing_60 rfl (fun e8 => ?_)
        refine R_putI (pc' := 64) (q := (some this)) (x := e8) fl_X0_75 (Or.inl rfl) dX0_findPassing_61 rfl (fun M => ?_)
        refine R_iconst (pc' := 65) (x := (nI 1)) dX0_findPassing_64 rfl (by decide) ?_
        exact R_bret dX0_findPassing_65
def f_X0_findPassing (this : Nat) (l1 : Int32) (M : Mem) : Option (Int32 × Mem) :=
  (gR M 0 7 (some this)).bind fun work1 =>
  (gR M 0 4 (some this)).bind fun book2 =>
  (gR M 2 1 book2).bind fun scene3 =>
  (oO M 6 work1).bind fun o5 => cl (f_X6_copyFrom o5 scene3 M) fun u4 M =>
  f_X0_findPassing_L16 this FU l1 (nI 0) M
set_option maxHeartbeats 2000000 in
set_option maxRecDepth 20000 in
theorem rm_X0_findPassing (this : Nat) (l1 : Int32) (M : Mem) : RFm yX0_findPassing cX0_findPassing 3 (some .boolean) 6 eI (f_X0_findPassing this l1 M) [va_rf (some this), .int l1] M := by
  refine RFm_of (L := [(0, va_rf (some this)), (1, .int l1)]) (by decide) rfl (Nat.le_trans (c_R (c_I c_0)) (by decide)) ?_
  rw [f_X0_findPassing]
  refine R_aloadq_n (pc' := 1) (i := 0) (j := 0) (q := (some this)) dX0_findPassing_0 rfl rfl rfl ?_
  refine R_getR (pc' := 4) (q := (some this)) fl_X0_18 rfl dX0_findPassing_1 rfl (fun work1 => ?_)
  refine R_aloadq_n (pc' := 5) (i := 0) (j := 0) (q := (some this)) dX0_findPassing_4 rfl rfl rfl ?_
  refine R_getR (pc' := 8) (q := (some this)) fl_X0_33 rfl dX0_findPassing_5 rfl (fun book2 => ?_)
  refine R_getR (pc' := 11) (q := book2) fl_X0_48 rfl dX0_findPassing_8 rfl (fun scene3 => ?_)
  refine R_callV_V (pc' := 14) (q := work1) (As := [va_rf scene3]) (fun o5 => rm_X6_copyFrom o5 scene3 M) mf_X6_copyFrom lk_X0_51 im_X6_copyFrom se_X6_copyFrom rfl rfl rfl dX0_findPassing_11 rfl (by decide) (Nat.le_trans c_0 (by decide)) (fun u4 M => ?_)
  refine R_iconst (pc' := 15) (x := (nI 0)) dX0_findPassing_14 rfl (by decide) ?_
  refine R_istore_n (pc' := 16) (L' := [(2, .int (nI 0)), (0, va_rf (some this)), (1, .int l1)]) (i := 2) (x := (nI 0)) dX0_findPassing_15 rfl rfl (by decide) rfl ?_
  exact R_sub [1, 2, 0] rfl (rf_X0_findPassing_L16 this FU l1 (nI 0) M)
/-! BarPilot$Asker.passingOf(LBarPilot$Scene;I)I -/
def f_X0_passingOf_J21 (s0 : Int32) (M : Mem) : Option (Int32 × Mem) :=
  some (s0, M)
set_option maxHeartbeats 2000000 in
set_option maxRecDepth 20000 in
theorem rf_X0_passingOf_J21 (s0 : Int32) (M : Mem) : RF yX0_passingOf cX0_passingOf 2 (some .int) 1 eI (f_X0_passingOf_J21 s0 M) 21 [] [.int s0] M := by
  rw [f_X0_passingOf_J21]
  exact R_iret dX0_passingOf_21
def f_X0_passingOf (l0 : Option Nat) (l1 : Int32) (M : Mem) : Option (Int32 × Mem) :=
  (gR M 6 3 l0).bind fun passed1 =>
  (aI M 0 passed1 l1).bind fun e2 =>
  (if e2 = (-1 : Int32) then
    (f_X0_passingOf_J21 (nI 2147483647) M)
  else
    ((gR M 6 3 l0).bind fun passed3 =>
    (aI M 0 passed3 l1).bind fun e4 =>
    f_X0_passingOf_J21 e4 M))
set_option maxHeartbeats 2000000 in
set_option maxRecDepth 20000 in
theorem rm_X0_passingOf (l0 : Option Nat) (l1 : Int32) (M : Mem) : RFm yX0_passingOf cX0_passingOf 2 (some .int) 1 eI (f_X0_passingOf l0 l1 M) [va_rf l0, .int l1] M := by
  refine RFm_of (L := [(0, va_rf l0), (1, .int l1)]) (by decide) (by simp only [lva_R, lva_I, lva_L, lva_C, lva_0]) (Nat.le_trans (c_R (c_I c_0)) (by decide)) ?_
  rw [f_X0_passingOf]
  refine R_aloadq_n (pc' := 1) (i := 0) (j := 0) (q := l0) dX0_passingOf_0 rfl rfl rfl ?_
  refine R_getR (pc' := 4) (q := l0) fl_X0_91 rfl dX0_passingOf_1 rfl (fun passed1 => ?_)
  refine R_iload_n (pc' := 5) (i := 1) (j := 1) (x := l1) dX0_passingOf_4 rfl rfl rfl ?_
  refine R_iald (pc' := 6) (q := passed1) (i := l1) dX0_passingOf_5 rfl (fun e2 => ?_)
  refine R_iconst (pc' := 7) (x := (-1 : Int32)) dX0_passingOf_6 rfl (by decide) ?_
  refine R_icmp_ne (pc' := 10) (tgt := 15) (a := e2) (b := (-1 : Int32)) dX0_passingOf_7 (by decide) rfl ?_ ?_
  · refine R_aloadq_n (pc' := 16) (i := 0) (j := 0) (q := l0) dX0_passingOf_15 rfl rfl rfl ?_
    refine R_getR (pc' := 19) (q := l0) fl_X0_91 rfl dX0_passingOf_16 rfl (fun passed3 => ?_)
    refine R_iload_n (pc' := 20) (i := 1) (j := 1) (x := l1) dX0_passingOf_19 rfl rfl rfl ?_
    refine R_iald (pc' := 21) (q := passed3) (i := l1) dX0_passingOf_20 rfl (fun e4 => ?_)
    exact R_sub [] rfl (rf_X0_passingOf_J21 e4 M)
  · refine R_ldc (pc' := 12) (x := (nI 2147483647)) dX0_passingOf_10 rfl co_X0_94 ?_
    refine R_goto (tgt := 21) dX0_passingOf_12 (by decide) ?_
    exact R_sub [] rfl (rf_X0_passingOf_J21 (nI 2147483647) M)
/-! BarPilot$Asker.placeOf(I)I -/
def f_X0_placeOf_J62 (k12 : Int32 → Option Nat → Int32 → Int32 → Mem → Option (Int32 × Mem)) (this : Nat) (l1 : Int32) (l2 : Option Nat) (l3 : Int32) (l4 : Int32) (M : Mem) : Option (Int32 × Mem) :=
  k12 l1 l2 l3 (l4 + (nI 1)) M
set_option maxHeartbeats 2000000 in
set_option maxRecDepth 20000 in
theorem rf_X0_placeOf_J62 (this : Nat) (k12 : Int32 → Option Nat → Int32 → Int32 → Mem → Option (Int32 × Mem)) (hk12 : ∀ (l1 : Int32) (l2 : Option Nat) (l3 : Int32) (l4 : Int32) (M : Mem), RF yX0_placeOf cX0_placeOf 7 (some .int) 7 eI (k12 l1 l2 l3 l4 M) 12 [(0, va_rf (some this)), (1, .int l1), (2, va_rf l2), (3, .int l3), (4, .int l4)] [] M) (l1 : Int32) (l2 : Option Nat) (l3 : Int32) (l4 : Int32) (M : Mem) : RF yX0_placeOf cX0_placeOf 7 (some .int) 7 eI (f_X0_placeOf_J62 k12 this l1 l2 l3 l4 M) 62 [(0, va_rf (some this)), (1, .int l1), (2, va_rf l2), (3, .int l3), (4, .int l4)] [] M := by
  rw [f_X0_placeOf_J62]
  refine R_iinc (pc' := 65) (L' := [(4, .int (l4 + (nI 1))), (0, va_rf (some this)), (1, .int l1), (2, va_rf l2), (3, .int l3)]) (i := 4) (j := 4) (x := l4) (x2 := (l4 + (nI 1))) dX0_placeOf_62 rfl rfl rfl (by decide) rfl ?_
  refine R_goto (tgt := 12) dX0_placeOf_65 (by decide) ?_
  exact R_sub [1, 2, 3, 4, 0] rfl (hk12 l1 l2 l3 (l4 + (nI 1)) M)
def f_X0_placeOf_J59 (k12 : Int32 → Option Nat → Int32 → Int32 → Mem → Option (Int32 × Mem)) (this : Nat) (l1 : Int32) (l2 : Option Nat) (l3 : Int32) (l4 : Int32) (M : Mem) : Option (Int32 × Mem) :=
  f_X0_placeOf_J62 k12 this l1 l2 (l3 + (nI 1)) l4 M
set_option maxHeartbeats 2000000 in
set_option maxRecDepth 20000 in
theorem rf_X0_placeOf_J59 (this : Nat) (k12 : Int32 → Option Nat → Int32 → Int32 → Mem → Option (Int32 × Mem)) (hk12 : ∀ (l1 : Int32) (l2 : Option Nat) (l3 : Int32) (l4 : Int32) (M : Mem), RF yX0_placeOf cX0_placeOf 7 (some .int) 7 eI (k12 l1 l2 l3 l4 M) 12 [(0, va_rf (some this)), (1, .int l1), (2, va_rf l2), (3, .int l3), (4, .int l4)] [] M) (l1 : Int32) (l2 : Option Nat) (l3 : Int32) (l4 : Int32) (M : Mem) : RF yX0_placeOf cX0_placeOf 7 (some .int) 7 eI (f_X0_placeOf_J59 k12 this l1 l2 l3 l4 M) 59 [(0, va_rf (some this)), (1, .int l1), (2, va_rf l2), (3, .int l3), (4, .int l4)] [] M := by
  rw [f_X0_placeOf_J59]
  refine R_iinc (pc' := 62) (L' := [(3, .int (l3 + (nI 1))), (0, va_rf (some this)), (1, .int l1), (2, va_rf l2), (4, .int l4)]) (i := 3) (j := 3) (x := l3) (x2 := (l3 + (nI 1))) dX0_placeOf_59 rfl rfl rfl (by decide) (by simp [stL, rf_cat, cat_I, cat_L, cat_C]) ?_
  exact R_sub [1, 2, 3, 0, 4] rfl (rf_X0_placeOf_J62 this k12 hk12 l1 l2 (l3 + (nI 1)) l4 M)
def f_X0_placeOf_L12 (this : Nat) : Nat → Int32 → Option Nat → Int32 → Int32 → Mem → Option (Int32 × Mem)
  | 0, _, _, _, _, _ => none
  | n + 1, l1, l2, l3, l4, M =>
    (gR M 0 5 (some this)).bind fun told1 =>
    (gI M 8 4 told1).bind fun ships2 =>
    (if ships2 ≤ l4 then
      (some (l3, M))
    else
      (cl (f_X0_passingOf l2 l4 M) fun r3 M =>
      cl (f_X0_passingOf l2 l1 M) fun r4 M =>
      (if r3 < r4 then
        (f_X0_placeOf_J59 (f_X0_placeOf_L12 this n) this l1 l2 l3 l4 M)
      else
        ((if r3 = r4 then
          ((if l1 ≤ l4 then
            (f_X0_placeOf_J62 (f_X0_placeOf_L12 this n) this l1 l2 l3 l4 M)
          else
            (f_X0_placeOf_J59 (f_X0_placeOf_L12 this n) this l1 l2 l3 l4 M)))
        else
          (f_X0_placeOf_J62 (f_X0_placeOf_L12 this n) this l1 l2 l3 l4 M))))))
set_option maxHeartbeats 2000000 in
set_option maxRecDepth 20000 in
theorem rf_X0_placeOf_L12 (this : Nat) : ∀ (n : Nat) (l1 : Int32) (l2 : Option Nat) (l3 : Int32) (l4 : Int32) (M : Mem), RF yX0_placeOf cX0_placeOf 7 (some .int) 7 eI (f_X0_placeOf_L12 this n l1 l2 l3 l4 M) 12 [(0, va_rf (some this)), (1, .int l1), (2, va_rf l2), (3, .int l3), (4, .int l4)] [] M := by
  intro n
  induction n with
  | zero => intro _ _ _ _ _; exact RF.none
  | succ n ih =>
    intro l1 l2 l3 l4 M
    rw [f_X0_placeOf_L12]
    refine R_iload (pc' := 14) (i := 4) (j := 4) (x := l4) dX0_placeOf_12 rfl rfl ?_
    refine R_aloadq_n (pc' := 15) (i := 0) (j := 0) (q := (some this)) dX0_placeOf_14 rfl rfl rfl ?_
    refine R_getR (pc' := 18) (q := (some this)) fl_X0_43 rfl dX0_placeOf_15 rfl (fun told1 => ?_)
    refine R_getI (pc' := 21) (q := told1) fl_X0_82 rfl dX0_placeOf_18 rfl (fun ships2 => ?_)
    refine R_icmp_ge (pc' := 24) (tgt := 68) (a := l4) (b := ships2) dX0_placeOf_21 (by decide) rfl ?_ ?_
    · refine R_iload_n (pc' := 69) (i := 3) (j := 3) (x := l3) dX0_placeOf_68 rfl rfl rfl ?_
      exact R_iret dX0_placeOf_69
    · refine R_aloadq_n (pc' := 25) (i := 2) (j := 2) (q := l2) dX0_placeOf_24 rfl rfl rfl ?_
      refine R_iload (pc' := 27) (i := 4) (j := 4) (x := l4) dX0_placeOf_25 rfl rfl ?_
      refine R_callS_I (pc' := 30) (As := [va_rf l2, .int l4]) (rm_X0_passingOf l2 l4 M) mf_X0_passingOf lk_X0_87 sm_X0_passingOf rfl rfl dX0_placeOf_27 rfl (by decide) (Nat.le_trans c_0 (by decide)) (fun r3 M => ?_)
      refine R_istore (pc' := 32) (L' := [(5, .int r3), (0, va_rf (some this)), (1, .int l1), (2, va_rf l2), (3, .int l3), (4, .int l4)]) (i := 5) (x := r3) dX0_placeOf_30 rfl (by decide) rfl ?_
      refine R_aloadq_n (pc' := 33) (i := 2) (j := 3) (q := l2) dX0_placeOf_32 rfl rfl rfl ?_
      refine R_iload_n (pc' := 34) (i := 1) (j := 2) (x := l1) dX0_placeOf_33 rfl rfl rfl ?_
      refine R_callS_I (pc' := 37) (As := [va_rf l2, .int l1]) (rm_X0_passingOf l2 l1 M) mf_X0_passingOf lk_X0_87 sm_X0_passingOf rfl rfl dX0_placeOf_34 rfl (by decide) (Nat.le_trans c_0 (by decide)) (fun r4 M => ?_)
      refine R_istore (pc' := 39) (L' := [(6, .int r4), (5, .int r3), (0, va_rf (some this)), (1, .int l1), (2, va_rf l2), (3, .int l3), (4, .int l4)]) (i := 6) (x := r4) dX0_placeOf_37 rfl (by decide) rfl ?_
      refine R_iload (pc' := 41) (i := 5) (j := 1) (x := r3) dX0_placeOf_39 rfl rfl ?_
      refine R_iload (pc' := 43) (i := 6) (j := 0) (x := r4) dX0_placeOf_41 rfl rfl ?_
      refine R_icmp_lt (pc' := 46) (tgt := 59) (a := r3) (b := r4) dX0_placeOf_43 (by decide) rfl ?_ ?_
      · exact R_sub [2, 3, 4, 5, 6] rfl (rf_X0_placeOf_J59 this (f_X0_placeOf_L12 this n) ih l1 l2 l3 l4 M)
      · refine R_iload (pc' := 48) (i := 5) (j := 1) (x := r3) dX0_placeOf_46 rfl rfl ?_
        refine R_iload (pc' := 50) (i := 6) (j := 0) (x := r4) dX0_placeOf_48 rfl rfl ?_
        refine R_icmp_ne (pc' := 53) (tgt := 62) (a := r3) (b := r4) dX0_placeOf_50 (by decide) rfl ?_ ?_
        · exact R_sub [2, 3, 4, 5, 6] rfl (rf_X0_placeOf_J62 this (f_X0_placeOf_L12 this n) ih l1 l2 l3 l4 M)
        · refine R_iload (pc' := 55) (i := 4) (j := 6) (x := l4) dX0_placeOf_53 rfl rfl ?_
          refine R_iload_n (pc' := 56) (i := 1) (j := 3) (x := l1) dX0_placeOf_55 rfl rfl rfl ?_
          refine R_icmp_ge (pc' := 59) (tgt := 62) (a := l4) (b := l1) dX0_placeOf_56 (by decide) rfl ?_ ?_
          · exact R_sub [2, 3, 4, 5, 6] rfl (rf_X0_placeOf_J62 this (f_X0_placeOf_L12 this n) ih l1 l2 l3 l4 M)
          · exact R_sub [2, 3, 4, 5, 6] rfl (rf_X0_placeOf_J59 this (f_X0_placeOf_L12 this n) ih l1 l2 l3 l4 M)
def f_X0_placeOf (this : Nat) (l1 : Int32) (M : Mem) : Option (Int32 × Mem) :=
  (oO M 0 (some this)).bind fun o2 => cl (f_X0_later o2 (nI 100) M) fun r1 M =>
  f_X0_placeOf_L12 this FU l1 r1 (nI 0) (nI 0) M
set_option maxHeartbeats 2000000 in
set_option maxRecDepth 20000 in
theorem rm_X0_placeOf (this : Nat) (l1 : Int32) (M : Mem) : RFm yX0_placeOf cX0_placeOf 7 (some .int) 7 eI (f_X0_placeOf this l1 M) [va_rf (some this), .int l1] M := by
  refine RFm_of (L := [(0, va_rf (some this)), (1, .int l1)]) (by decide) rfl (Nat.le_trans (c_R (c_I c_0)) (by decide)) ?_
  rw [f_X0_placeOf]
  refine R_aloadq_n (pc' := 1) (i := 0) (j := 0) (q := (some this)) dX0_placeOf_0 rfl rfl rfl ?_
  refine R_bipush (pc' := 3) (x := (nI 100)) dX0_placeOf_1 rfl (by decide) ?_
  refine R_callV_R (pc' := 6) (q := (some this)) (As := [.int (nI 100)]) (fun o2 => rm_X0_later o2 (nI 100) M) mf_X0_later lk_X0_78 im_X0_later se_X0_later rfl rfl rfl dX0_placeOf_3 rfl (by decide) (Nat.le_trans c_0 (by decide)) (fun r1 M => ?_)
  refine R_astoreq_n (pc' := 7) (L' := [(2, va_rf r1), (0, va_rf (some this)), (1, .int l1)]) (i := 2) (q := r1) dX0_placeOf_6 rfl rfl (by decide) rfl ?_
  refine R_iconst (pc' := 8) (x := (nI 0)) dX0_placeOf_7 rfl (by decide) ?_
  refine R_istore_n (pc' := 9) (L' := [(3, .int (nI 0)), (2, va_rf r1), (0, va_rf (some this)), (1, .int l1)]) (i := 3) (x := (nI 0)) dX0_placeOf_8 rfl rfl (by decide) (by simp [stL, rf_cat, cat_I, cat_L, cat_C]) ?_
  refine R_iconst (pc' := 10) (x := (nI 0)) dX0_placeOf_9 rfl (by decide) ?_
  refine R_istore (pc' := 12) (L' := [(4, .int (nI 0)), (3, .int (nI 0)), (2, va_rf r1), (0, va_rf (some this)), (1, .int l1)]) (i := 4) (x := (nI 0)) dX0_placeOf_10 rfl (by decide) rfl ?_
  exact R_sub [3, 4, 2, 1, 0] rfl (rf_X0_placeOf_L12 this FU l1 r1 (nI 0) (nI 0) M)
/-! BarPilot$Asker.rowFound(III)Z -/
def f_X0_rowFound_J72 (g_X0_rowFound : Nat → Int32 → Int32 → Int32 → Mem → Option (Int32 × Mem)) (this : Nat) (s0 : Int32) (M : Mem) : Option (Int32 × Mem) :=
  ckZ s0 (some (s0, M))
set_option maxHeartbeats 2000000 in
set_option maxRecDepth 20000 in
theorem rf_X0_rowFound_J72 {dg : Nat} (g_X0_rowFound : Nat → Int32 → Int32 → Int32 → Mem → Option (Int32 × Mem)) (hdg : 4 ≤ dg) (hg_X0_rowFound : ∀ (this : Nat) (l1 : Int32) (l2 : Int32) (l3 : Int32) (M : Mem), RFm yX0_rowFound cX0_rowFound 7 (some .boolean) dg eI (g_X0_rowFound this l1 l2 l3 M) [va_rf (some this), .int l1, .int l2, .int l3] M) (this : Nat) (s0 : Int32) (M : Mem) : RF yX0_rowFound cX0_rowFound 7 (some .boolean) (dg + 1) eI (f_X0_rowFound_J72 g_X0_rowFound this s0 M) 72 [] [.int s0] M := by
  rw [f_X0_rowFound_J72]
  exact R_bret dX0_rowFound_72
def f_X0_rowFound_J43 (g_X0_rowFound : Nat → Int32 → Int32 → Int32 → Mem → Option (Int32 × Mem)) (this : Nat) (l1 : Int32) (l2 : Int32) (M : Mem) : Option (Int32 × Mem) :=
  (gR M 0 3 (some this)).bind fun choice1 =>
  (gR M 0 6 (some this)).bind fun pilot2 =>
  (oO M 3 pilot2).bind fun o6 => cl (f_X3_leastNew o6 l1 M) fun r3 M =>
  (wI M 0 choice1 l2 r3).bind fun M =>
  (gR M 0 3 (some this)).bind fun choice4 =>
  (aI M 0 choice4 l2).bind fun e5 =>
  (if e5 = (-1 : Int32) then
    (f_X0_rowFound_J72 g_X0_rowFound this (nI 0) M)
  else
    (f_X0_rowFound_J72 g_X0_rowFound this (nI 1) M))
set_option maxHeartbeats 2000000 in
set_option maxRecDepth 20000 in
theorem rf_X0_rowFound_J43 {dg : Nat} (g_X0_rowFound : Nat → Int32 → Int32 → Int32 → Mem → Option (Int32 × Mem)) (hdg : 4 ≤ dg) (hg_X0_rowFound : ∀ (this : Nat) (l1 : Int32) (l2 : Int32) (l3 : Int32) (M : Mem), RFm yX0_rowFound cX0_rowFound 7 (some .boolean) dg eI (g_X0_rowFound this l1 l2 l3 M) [va_rf (some this), .int l1, .int l2, .int l3] M) (this : Nat) (l1 : Int32) (l2 : Int32) (M : Mem) : RF yX0_rowFound cX0_rowFound 7 (some .boolean) (dg + 1) eI (f_X0_rowFound_J43 g_X0_rowFound this l1 l2 M) 43 [(0, va_rf (some this)), (1, .int l1), (2, .int l2)] [] M := by
  rw [f_X0_rowFound_J43]
  refine R_aloadq_n (pc' := 44) (i := 0) (j := 0) (q := (some this)) dX0_rowFound_43 rfl rfl rfl ?_
  refine R_getR (pc' := 47) (q := (some this)) fl_X0_9 rfl dX0_rowFound_44 rfl (fun choice1 => ?_)
  refine R_iload_n (pc' := 48) (i := 2) (j := 2) (x := l2) dX0_rowFound_47 rfl rfl rfl ?_
  refine R_aloadq_n (pc' := 49) (i := 0) (j := 0) (q := (some this)) dX0_rowFound_48 rfl rfl rfl ?_
  refine R_getR (pc' := 52) (q := (some this)) fl_X0_44 rfl dX0_rowFound_49 rfl (fun pilot2 => ?_)
  refine R_iload_n (pc' := 53) (i := 1) (j := 1) (x := l1) dX0_rowFound_52 rfl rfl rfl ?_
  refine R_callV_I (pc' := 56) (q := pilot2) (As := [.int l1]) (fun o6 => rm_X3_leastNew o6 l1 M) mf_X3_leastNew lk_X0_106 im_X3_leastNew se_X3_leastNew rfl rfl rfl dX0_rowFound_53 rfl (by omega) (Nat.le_trans (c_I (c_R c_0)) (by decide)) (fun r3 M => ?_)
  refine R_iast (pc' := 57) (q := choice1) (i := l2) (x := r3) dX0_rowFound_56 rfl (fun M => ?_)
  refine R_aloadq_n (pc' := 58) (i := 0) (j := 0) (q := (some this)) dX0_rowFound_57 rfl rfl rfl ?_
  refine R_getR (pc' := 61) (q := (some this)) fl_X0_9 rfl dX0_rowFound_58 rfl (fun choice4 => ?_)
  refine R_iload_n (pc' := 62) (i := 2) (j := 2) (x := l2) dX0_rowFound_61 rfl rfl rfl ?_
  refine R_iald (pc' := 63) (q := choice4) (i := l2) dX0_rowFound_62 rfl (fun e5 => ?_)
  refine R_iconst (pc' := 64) (x := (-1 : Int32)) dX0_rowFound_63 rfl (by decide) ?_
  refine R_icmp_eq (pc' := 67) (tgt := 71) (a := e5) (b := (-1 : Int32)) dX0_rowFound_64 (by decide) rfl ?_ ?_
  · refine R_iconst (pc' := 72) (x := (nI 0)) dX0_rowFound_71 rfl (by decide) ?_
    exact R_sub [] rfl (rf_X0_rowFound_J72 g_X0_rowFound hdg hg_X0_rowFound this (nI 0) M)
  · refine R_iconst (pc' := 68) (x := (nI 1)) dX0_rowFound_67 rfl (by decide) ?_
    refine R_goto (tgt := 72) dX0_rowFound_68 (by decide) ?_
    exact R_sub [] rfl (rf_X0_rowFound_J72 g_X0_rowFound hdg hg_X0_rowFound this (nI 1) M)
def f_X0_rowFound_J202 (g_X0_rowFound : Nat → Int32 → Int32 → Int32 → Mem → Option (Int32 × Mem)) (k86 : Int32 → Int32 → Int32 → Option Nat → Option Nat → Int32 → Mem → Option (Int32 × Mem)) (this : Nat) (l1 : Int32) (l2 : Int32) (l3 : Int32) (l4 : Option Nat) (l5 : Option Nat) (l6 : Int32) (M : Mem) : Option (Int32 × Mem) :=
  k86 l1 l2 l3 l4 l5 (l6 + (nI 1)) M
set_option maxHeartbeats 2000000 in
set_option maxRecDepth 20000 in
theorem rf_X0_rowFound_J202 {dg : Nat} (g_X0_rowFound : Nat → Int32 → Int32 → Int32 → Mem → Option (Int32 × Mem)) (hdg : 4 ≤ dg) (hg_X0_rowFound : ∀ (this : Nat) (l1 : Int32) (l2 : Int32) (l3 : Int32) (M : Mem), RFm yX0_rowFound cX0_rowFound 7 (some .boolean) dg eI (g_X0_rowFound this l1 l2 l3 M) [va_rf (some this), .int l1, .int l2, .int l3] M) (this : Nat) (k86 : Int32 → Int32 → Int32 → Option Nat → Option Nat → Int32 → Mem → Option (Int32 × Mem)) (hk86 : ∀ (l1 : Int32) (l2 : Int32) (l3 : Int32) (l4 : Option Nat) (l5 : Option Nat) (l6 : Int32) (M : Mem), RF yX0_rowFound cX0_rowFound 7 (some .boolean) (dg + 1) eI (k86 l1 l2 l3 l4 l5 l6 M) 86 [(0, va_rf (some this)), (1, .int l1), (2, .int l2), (3, .int l3), (4, va_rf l4), (5, va_rf l5), (6, .int l6)] [] M) (l1 : Int32) (l2 : Int32) (l3 : Int32) (l4 : Option Nat) (l5 : Option Nat) (l6 : Int32) (M : Mem) : RF yX0_rowFound cX0_rowFound 7 (some .boolean) (dg + 1) eI (f_X0_rowFound_J202 g_X0_rowFound k86 this l1 l2 l3 l4 l5 l6 M) 202 [(0, va_rf (some this)), (1, .int l1), (2, .int l2), (3, .int l3), (4, va_rf l4), (5, va_rf l5), (6, .int l6)] [] M := by
  rw [f_X0_rowFound_J202]
  refine R_iinc (pc' := 205) (L' := [(6, .int (l6 + (nI 1))), (0, va_rf (some this)), (1, .int l1), (2, .int l2), (3, .int l3), (4, va_rf l4), (5, va_rf l5)]) (i := 6) (j := 6) (x := l6) (x2 := (l6 + (nI 1))) dX0_rowFound_202 rfl rfl rfl (by decide) (by simp [stL, rf_cat, cat_I, cat_L, cat_C]) ?_
  refine R_goto (tgt := 86) dX0_rowFound_205 (by decide) ?_
  exact R_sub [1, 2, 3, 4, 5, 6, 0] rfl (hk86 l1 l2 l3 l4 l5 (l6 + (nI 1)) M)
def f_X0_rowFound_J151 (g_X0_rowFound : Nat → Int32 → Int32 → Int32 → Mem → Option (Int32 × Mem)) (k86 : Int32 → Int32 → Int32 → Option Nat → Option Nat → Int32 → Mem → Option (Int32 × Mem)) (this : Nat) (l1 : Int32) (l2 : Int32) (l3 : Int32) (l4 : Option Nat) (l5 : Option Nat) (l6 : Int32) (M : Mem) : Option (Int32 × Mem) :=
  (gR M 0 6 (some this)).bind fun pilot1 =>
  (gR M 0 5 (some this)).bind fun told2 =>
  (gI M 8 4 told2).bind fun ships3 =>
  (oO M 3 pilot1).bind fun o9 => cl (f_X3_turns o9 (l1 + (nI 1)) ships3 M) fun r4 M =>
  (gI M 6 0 l5).bind fun tide5 =>
  (pI M 6 0 l5 (tide5 + (nI 1))).bind fun M =>
  (gR M 0 3 (some this)).bind fun choice6 =>
  (wI M 0 choice6 l2 l6).bind fun M =>
  (oO M 0 (some this)).bind fun o8 => cl (g_X0_rowFound o8 l1 (l2 + (nI 1)) l3 M) fun r7 M =>
  (if r7 = 0 then
    (f_X0_rowFound_J202 g_X0_rowFound k86 this l1 l2 l3 l4 l5 l6 M)
  else
    (ckZ (nI 1) (some ((nI 1), M))))
set_option maxHeartbeats 2000000 in
set_option maxRecDepth 20000 in
theorem rf_X0_rowFound_J151 {dg : Nat} (g_X0_rowFound : Nat → Int32 → Int32 → Int32 → Mem → Option (Int32 × Mem)) (hdg : 4 ≤ dg) (hg_X0_rowFound : ∀ (this : Nat) (l1 : Int32) (l2 : Int32) (l3 : Int32) (M : Mem), RFm yX0_rowFound cX0_rowFound 7 (some .boolean) dg eI (g_X0_rowFound this l1 l2 l3 M) [va_rf (some this), .int l1, .int l2, .int l3] M) (this : Nat) (k86 : Int32 → Int32 → Int32 → Option Nat → Option Nat → Int32 → Mem → Option (Int32 × Mem)) (hk86 : ∀ (l1 : Int32) (l2 : Int32) (l3 : Int32) (l4 : Option Nat) (l5 : Option Nat) (l6 : Int32) (M : Mem), RF yX0_rowFound cX0_rowFound 7 (some .boolean) (dg + 1) eI (k86 l1 l2 l3 l4 l5 l6 M) 86 [(0, va_rf (some this)), (1, .int l1), (2, .int l2), (3, .int l3), (4, va_rf l4), (5, va_rf l5), (6, .int l6)] [] M) (l1 : Int32) (l2 : Int32) (l3 : Int32) (l4 : Option Nat) (l5 : Option Nat) (l6 : Int32) (M : Mem) : RF yX0_rowFound cX0_rowFound 7 (some .boolean) (dg + 1) eI (f_X0_rowFound_J151 g_X0_rowFound k86 this l1 l2 l3 l4 l5 l6 M) 151 [(0, va_rf (some this)), (1, .int l1), (2, .int l2), (3, .int l3), (4, va_rf l4), (5, va_rf l5), (6, .int l6)] [] M := by
  rw [f_X0_rowFound_J151]
  refine R_aloadq_n (pc' := 152) (i := 0) (j := 0) (q := (some this)) dX0_rowFound_151 rfl rfl rfl ?_
  refine R_getR (pc' := 155) (q := (some this)) fl_X0_44 rfl dX0_rowFound_152 rfl (fun pilot1 => ?_)
  refine R_iload_n (pc' := 156) (i := 1) (j := 1) (x := l1) dX0_rowFound_155 rfl rfl rfl ?_
  refine R_iconst (pc' := 157) (x := (nI 1)) dX0_rowFound_156 rfl (by decide) ?_
  refine R_iadd (pc' := 158) (a := l1) (b := (nI 1)) dX0_rowFound_157 rfl ?_
  refine R_aloadq_n (pc' := 159) (i := 0) (j := 0) (q := (some this)) dX0_rowFound_158 rfl rfl rfl ?_
  refine R_getR (pc' := 162) (q := (some this)) fl_X0_43 rfl dX0_rowFound_159 rfl (fun told2 => ?_)
  refine R_getI (pc' := 165) (q := told2) fl_X0_82 rfl dX0_rowFound_162 rfl (fun ships3 => ?_)
  refine R_callV_I (pc' := 168) (q := pilot1) (As := [.int (l1 + (nI 1)), .int ships3]) (fun o9 => rm_X3_turns o9 (l1 + (nI 1)) ships3 M) mf_X3_turns lk_X0_102 im_X3_turns se_X3_turns rfl rfl rfl dX0_rowFound_165 rfl (by omega) (Nat.le_trans c_0 (by decide)) (fun r4 M => ?_)
  refine R_pop (pc' := 169) dX0_rowFound_168 rfl rfl ?_
  refine R_aloadq (pc' := 171) (i := 5) (j := 5) (q := l5) dX0_rowFound_169 rfl rfl ?_
  refine R_dup (pc' := 172) dX0_rowFound_171 rfl (rf_cat _) ?_
  refine R_getI (pc' := 175) (q := l5) fl_X0_61 rfl dX0_rowFound_172 rfl (fun tide5 => ?_)
  refine R_iconst (pc' := 176) (x := (nI 1)) dX0_rowFound_175 rfl (by decide) ?_
  refine R_iadd (pc' := 177) (a := tide5) (b := (nI 1)) dX0_rowFound_176 rfl ?_
  refine R_putI (pc' := 180) (q := l5) (x := (tide5 + (nI 1))) fl_X0_61 (Or.inl rfl) dX0_rowFound_177 rfl (fun M => ?_)
  refine R_aloadq_n (pc' := 181) (i := 0) (j := 0) (q := (some this)) dX0_rowFound_180 rfl rfl rfl ?_
  refine R_getR (pc' := 184) (q := (some this)) fl_X0_9 rfl dX0_rowFound_181 rfl (fun choice6 => ?_)
  refine R_iload_n (pc' := 185) (i := 2) (j := 2) (x := l2) dX0_rowFound_184 rfl rfl rfl ?_
  refine R_iload (pc' := 187) (i := 6) (j := 6) (x := l6) dX0_rowFound_185 rfl rfl ?_
  refine R_iast (pc' := 188) (q := choice6) (i := l2) (x := l6) dX0_rowFound_187 rfl (fun M => ?_)
  refine R_aloadq_n (pc' := 189) (i := 0) (j := 0) (q := (some this)) dX0_rowFound_188 rfl rfl rfl ?_
  refine R_iload_n (pc' := 190) (i := 1) (j := 1) (x := l1) dX0_rowFound_189 rfl rfl rfl ?_
  refine R_iload_n (pc' := 191) (i := 2) (j := 2) (x := l2) dX0_rowFound_190 rfl rfl rfl ?_
  refine R_iconst (pc' := 192) (x := (nI 1)) dX0_rowFound_191 rfl (by decide) ?_
  refine R_iadd (pc' := 193) (a := l2) (b := (nI 1)) dX0_rowFound_192 rfl ?_
  refine R_iload_n (pc' := 194) (i := 3) (j := 3) (x := l3) dX0_rowFound_193 rfl rfl rfl ?_
  refine R_callV_I (pc' := 197) (q := (some this)) (As := [.int l1, .int (l2 + (nI 1)), .int l3]) (fun o8 => hg_X0_rowFound o8 l1 (l2 + (nI 1)) l3 M) mf_X0_rowFound lk_X0_95 im_X0_rowFound se_X0_rowFound rfl rfl rfl dX0_rowFound_194 rfl (by omega) (Nat.le_trans c_0 (by decide)) (fun r7 M => ?_)
  refine R_if_eq (pc' := 200) (tgt := 202) (a := r7) dX0_rowFound_197 (by decide) rfl ?_ ?_
  · exact R_sub [0, 1, 2, 3, 4, 5, 6] rfl (rf_X0_rowFound_J202 g_X0_rowFound hdg hg_X0_rowFound this k86 hk86 l1 l2 l3 l4 l5 l6 M)
  · refine R_iconst (pc' := 201) (x := (nI 1)) dX0_rowFound_200 rfl (by decide) ?_
    exact R_bret dX0_rowFound_201
def f_X0_rowFound_J118 (g_X0_rowFound : Nat → Int32 → Int32 → Int32 → Mem → Option (Int32 × Mem)) (k86 : Int32 → Int32 → Int32 → Option Nat → Option Nat → Int32 → Mem → Option (Int32 × Mem)) (this : Nat) (l1 : Int32) (l2 : Int32) (l3 : Int32) (l4 : Option Nat) (l5 : Option Nat) (l6 : Int32) (M : Mem) : Option (Int32 × Mem) :=
  (oO M 6 l5).bind fun o8 => cl (f_X6_copyFrom o8 l4 M) fun u1 M =>
  (gR M 0 6 (some this)).bind fun pilot2 =>
  (oO M 3 pilot2).bind fun o7 => cl (f_X3_meet o7 l5 M) fun u3 M =>
  (if l6 = (-1 : Int32) then
    (f_X0_rowFound_J151 g_X0_rowFound k86 this l1 l2 l3 l4 l5 l6 M)
  else
    ((gR M 0 6 (some this)).bind fun pilot4 =>
    (oO M 3 pilot4).bind fun o6 => cl (f_X3_hears o6 l1 l6 M) fun r5 M =>
    f_X0_rowFound_J151 g_X0_rowFound k86 this l1 l2 l3 l4 l5 l6 M))
set_option maxHeartbeats 2000000 in
set_option maxRecDepth 20000 in
theorem rf_X0_rowFound_J118 {dg : Nat} (g_X0_rowFound : Nat → Int32 → Int32 → Int32 → Mem → Option (Int32 × Mem)) (hdg : 4 ≤ dg) (hg_X0_rowFound : ∀ (this : Nat) (l1 : Int32) (l2 : Int32) (l3 : Int32) (M : Mem), RFm yX0_rowFound cX0_rowFound 7 (some .boolean) dg eI (g_X0_rowFound this l1 l2 l3 M) [va_rf (some this), .int l1, .int l2, .int l3] M) (this : Nat) (k86 : Int32 → Int32 → Int32 → Option Nat → Option Nat → Int32 → Mem → Option (Int32 × Mem)) (hk86 : ∀ (l1 : Int32) (l2 : Int32) (l3 : Int32) (l4 : Option Nat) (l5 : Option Nat) (l6 : Int32) (M : Mem), RF yX0_rowFound cX0_rowFound 7 (some .boolean) (dg + 1) eI (k86 l1 l2 l3 l4 l5 l6 M) 86 [(0, va_rf (some this)), (1, .int l1), (2, .int l2), (3, .int l3), (4, va_rf l4), (5, va_rf l5), (6, .int l6)] [] M) (l1 : Int32) (l2 : Int32) (l3 : Int32) (l4 : Option Nat) (l5 : Option Nat) (l6 : Int32) (M : Mem) : RF yX0_rowFound cX0_rowFound 7 (some .boolean) (dg + 1) eI (f_X0_rowFound_J118 g_X0_rowFound k86 this l1 l2 l3 l4 l5 l6 M) 118 [(0, va_rf (some this)), (1, .int l1), (2, .int l2), (3, .int l3), (4, va_rf l4), (5, va_rf l5), (6, .int l6)] [] M := by
  rw [f_X0_rowFound_J118]
  refine R_aloadq (pc' := 120) (i := 5) (j := 5) (q := l5) dX0_rowFound_118 rfl rfl ?_
  refine R_aloadq (pc' := 122) (i := 4) (j := 4) (q := l4) dX0_rowFound_120 rfl rfl ?_
  refine R_callV_V (pc' := 125) (q := l5) (As := [va_rf l4]) (fun o8 => rm_X6_copyFrom o8 l4 M) mf_X6_copyFrom lk_X0_51 im_X6_copyFrom se_X6_copyFrom rfl rfl rfl dX0_rowFound_122 rfl (by omega) (Nat.le_trans c_0 (by decide)) (fun u1 M => ?_)
  refine R_aloadq_n (pc' := 126) (i := 0) (j := 0) (q := (some this)) dX0_rowFound_125 rfl rfl rfl ?_
  refine R_getR (pc' := 129) (q := (some this)) fl_X0_44 rfl dX0_rowFound_126 rfl (fun pilot2 => ?_)
  refine R_aloadq (pc' := 131) (i := 5) (j := 5) (q := l5) dX0_rowFound_129 rfl rfl ?_
  refine R_callV_V (pc' := 134) (q := pilot2) (As := [va_rf l5]) (fun o7 => rm_X3_meet o7 l5 M) mf_X3_meet lk_X0_99 im_X3_meet se_X3_meet rfl rfl rfl dX0_rowFound_131 rfl (by omega) (Nat.le_trans c_0 (by decide)) (fun u3 M => ?_)
  refine R_iload (pc' := 136) (i := 6) (j := 6) (x := l6) dX0_rowFound_134 rfl rfl ?_
  refine R_iconst (pc' := 137) (x := (-1 : Int32)) dX0_rowFound_136 rfl (by decide) ?_
  refine R_icmp_eq (pc' := 140) (tgt := 151) (a := l6) (b := (-1 : Int32)) dX0_rowFound_137 (by decide) rfl ?_ ?_
  · exact R_sub [0, 1, 2, 3, 4, 5, 6] rfl (rf_X0_rowFound_J151 g_X0_rowFound hdg hg_X0_rowFound this k86 hk86 l1 l2 l3 l4 l5 l6 M)
  · refine R_aloadq_n (pc' := 141) (i := 0) (j := 0) (q := (some this)) dX0_rowFound_140 rfl rfl rfl ?_
    refine R_getR (pc' := 144) (q := (some this)) fl_X0_44 rfl dX0_rowFound_141 rfl (fun pilot4 => ?_)
    refine R_iload_n (pc' := 145) (i := 1) (j := 1) (x := l1) dX0_rowFound_144 rfl rfl rfl ?_
    refine R_iload (pc' := 147) (i := 6) (j := 6) (x := l6) dX0_rowFound_145 rfl rfl ?_
    refine R_callV_I (pc' := 150) (q := pilot4) (As := [.int l1, .int l6]) (fun o6 => rm_X3_hears o6 l1 l6 M) mf_X3_hears lk_X0_117 im_X3_hears se_X3_hears rfl rfl rfl dX0_rowFound_147 rfl (by omega) (Nat.le_trans c_0 (by decide)) (fun r5 M => ?_)
    refine R_pop (pc' := 151) dX0_rowFound_150 rfl rfl ?_
    exact R_sub [0, 1, 2, 3, 4, 5, 6] rfl (rf_X0_rowFound_J151 g_X0_rowFound hdg hg_X0_rowFound this k86 hk86 l1 l2 l3 l4 l5 l6 M)
def f_X0_rowFound_L86 (g_X0_rowFound : Nat → Int32 → Int32 → Int32 → Mem → Option (Int32 × Mem)) (this : Nat) : Nat → Int32 → Int32 → Int32 → Option Nat → Option Nat → Int32 → Mem → Option (Int32 × Mem)
  | 0, _, _, _, _, _, _, _ => none
  | n + 1, l1, l2, l3, l4, l5, l6, M =>
    (gR M 0 5 (some this)).bind fun told1 =>
    (gI M 8 3 told1).bind fun jokes2 =>
    (if jokes2 ≤ l6 then
      (ckZ (nI 0) (some ((nI 0), M)))
    else
      ((if l6 = (-1 : Int32) then
        (f_X0_rowFound_J118 g_X0_rowFound (f_X0_rowFound_L86 g_X0_rowFound this n) this l1 l2 l3 l4 l5 l6 M)
      else
        ((oO M 6 l4).bind fun o4 => cl (f_X6_isKnown o4 l1 l6 M) fun r3 M =>
        (if r3 = 0 then
          (f_X0_rowFound_J202 g_X0_rowFound (f_X0_rowFound_L86 g_X0_rowFound this n) this l1 l2 l3 l4 l5 l6 M)
        else
          (f_X0_rowFound_J118 g_X0_rowFound (f_X0_rowFound_L86 g_X0_rowFound this n) this l1 l2 l3 l4 l5 l6 M))))))
set_option maxHeartbeats 2000000 in
set_option maxRecDepth 20000 in
theorem rf_X0_rowFound_L86 {dg : Nat} (g_X0_rowFound : Nat → Int32 → Int32 → Int32 → Mem → Option (Int32 × Mem)) (hdg : 4 ≤ dg) (hg_X0_rowFound : ∀ (this : Nat) (l1 : Int32) (l2 : Int32) (l3 : Int32) (M : Mem), RFm yX0_rowFound cX0_rowFound 7 (some .boolean) dg eI (g_X0_rowFound this l1 l2 l3 M) [va_rf (some this), .int l1, .int l2, .int l3] M) (this : Nat) : ∀ (n : Nat) (l1 : Int32) (l2 : Int32) (l3 : Int32) (l4 : Option Nat) (l5 : Option Nat) (l6 : Int32) (M : Mem), RF yX0_rowFound cX0_rowFound 7 (some .boolean) (dg + 1) eI (f_X0_rowFound_L86 g_X0_rowFound this n l1 l2 l3 l4 l5 l6 M) 86 [(0, va_rf (some this)), (1, .int l1), (2, .int l2), (3, .int l3), (4, va_rf l4), (5, va_rf l5), (6, .int l6)] [] M := by
  intro n
  induction n with
  | zero => intro _ _ _ _ _ _ _; exact RF.none
  | succ n ih =>
    intro l1 l2 l3 l4 l5 l6 M
    rw [f_X0_rowFound_L86]
    refine R_iload (pc' := 88) (i := 6) (j := 6) (x := l6) dX0_rowFound_86 rfl rfl ?_
    refine R_aloadq_n (pc' := 89) (i := 0) (j := 0) (q := (some this)) dX0_rowFound_88 rfl rfl rfl ?_
    refine R_getR (pc' := 92) (q := (some this)) fl_X0_43 rfl dX0_rowFound_89 rfl (fun told1 => ?_)
    refine R_getI (pc' := 95) (q := told1) fl_X0_110 rfl dX0_rowFound_92 rfl (fun jokes2 => ?_)
    refine R_icmp_ge (pc' := 98) (tgt := 208) (a := l6) (b := jokes2) dX0_rowFound_95 (by decide) rfl ?_ ?_
    · refine R_iconst (pc' := 209) (x := (nI 0)) dX0_rowFound_208 rfl (by decide) ?_
      exact R_bret dX0_rowFound_209
    · refine R_iload (pc' := 100) (i := 6) (j := 6) (x := l6) dX0_rowFound_98 rfl rfl ?_
      refine R_iconst (pc' := 101) (x := (-1 : Int32)) dX0_rowFound_100 rfl (by decide) ?_
      refine R_icmp_eq (pc' := 104) (tgt := 118) (a := l6) (b := (-1 : Int32)) dX0_rowFound_101 (by decide) rfl ?_ ?_
      · exact R_sub [0, 1, 2, 3, 4, 5, 6] rfl (rf_X0_rowFound_J118 g_X0_rowFound hdg hg_X0_rowFound this (f_X0_rowFound_L86 g_X0_rowFound this n) ih l1 l2 l3 l4 l5 l6 M)
      · refine R_aloadq (pc' := 106) (i := 4) (j := 4) (q := l4) dX0_rowFound_104 rfl rfl ?_
        refine R_iload_n (pc' := 107) (i := 1) (j := 1) (x := l1) dX0_rowFound_106 rfl rfl rfl ?_
        refine R_iload (pc' := 109) (i := 6) (j := 6) (x := l6) dX0_rowFound_107 rfl rfl ?_
        refine R_callV_I (pc' := 112) (q := l4) (As := [.int l1, .int l6]) (fun o4 => rm_X6_isKnown o4 l1 l6 M) mf_X6_isKnown lk_X0_113 im_X6_isKnown se_X6_isKnown rfl rfl rfl dX0_rowFound_109 rfl (by omega) (Nat.le_trans c_0 (by decide)) (fun r3 M => ?_)
        refine R_if_ne (pc' := 115) (tgt := 118) (a := r3) dX0_rowFound_112 (by decide) rfl ?_ ?_
        · exact R_sub [0, 1, 2, 3, 4, 5, 6] rfl (rf_X0_rowFound_J118 g_X0_rowFound hdg hg_X0_rowFound this (f_X0_rowFound_L86 g_X0_rowFound this n) ih l1 l2 l3 l4 l5 l6 M)
        · refine R_goto (tgt := 202) dX0_rowFound_115 (by decide) ?_
          exact R_sub [0, 1, 2, 3, 4, 5, 6] rfl (rf_X0_rowFound_J202 g_X0_rowFound hdg hg_X0_rowFound this (f_X0_rowFound_L86 g_X0_rowFound this n) ih l1 l2 l3 l4 l5 l6 M)
def fb_X0_rowFound (g_X0_rowFound : Nat → Int32 → Int32 → Int32 → Mem → Option (Int32 × Mem)) (this : Nat) (l1 : Int32) (l2 : Int32) (l3 : Int32) (M : Mem) : Option (Int32 × Mem) :=
  (gR M 0 8 (some this)).bind fun levels1 =>
  (aR M 6 levels1 l2).bind fun e2 =>
  (gR M 0 6 (some this)).bind fun pilot3 =>
  (oO M 3 pilot3).bind fun o12 => cl (f_X3_meet o12 e2 M) fun u4 M =>
  (gR M 0 6 (some this)).bind fun pilot5 =>
  (oO M 3 pilot5).bind fun o11 => cl (f_X3_turns o11 (nI 0) l1 M) fun r6 M =>
  (if l3 ≤ l2 then
    (f_X0_rowFound_J43 g_X0_rowFound this l1 l2 M)
  else
    ((gR M 0 3 (some this)).bind fun choice7 =>
    (lnA M choice7).bind fun len8 =>
    (if l2 < (len8 - (nI 1)) then
      ((gR M 0 8 (some this)).bind fun levels9 =>
      (aR M 6 levels9 (l2 + (nI 1))).bind fun e10 =>
      f_X0_rowFound_L86 g_X0_rowFound this FU l1 l2 l3 e2 e10 (-1 : Int32) M)
    else
      (f_X0_rowFound_J43 g_X0_rowFound this l1 l2 M))))
set_option maxHeartbeats 2000000 in
set_option maxRecDepth 20000 in
theorem rb_X0_rowFound {dg : Nat} (g_X0_rowFound : Nat → Int32 → Int32 → Int32 → Mem → Option (Int32 × Mem)) (hdg : 4 ≤ dg) (hg_X0_rowFound : ∀ (this : Nat) (l1 : Int32) (l2 : Int32) (l3 : Int32) (M : Mem), RFm yX0_rowFound cX0_rowFound 7 (some .boolean) dg eI (g_X0_rowFound this l1 l2 l3 M) [va_rf (some this), .int l1, .int l2, .int l3] M) (this : Nat) (l1 : Int32) (l2 : Int32) (l3 : Int32) (M : Mem) : RFm yX0_rowFound cX0_rowFound 7 (some .boolean) (dg + 1) eI (fb_X0_rowFound g_X0_rowFound this l1 l2 l3 M) [va_rf (some this), .int l1, .int l2, .int l3] M := by
  refine RFm_of (L := [(0, va_rf (some this)), (1, .int l1), (2, .int l2), (3, .int l3)]) (by decide) rfl (Nat.le_trans (c_R (c_I (c_I (c_I c_0)))) (by decide)) ?_
  rw [fb_X0_rowFound]
  refine R_aloadq_n (pc' := 1) (i := 0) (j := 0) (q := (some this)) dX0_rowFound_0 rfl rfl rfl ?_
  refine R_getR (pc' := 4) (q := (some this)) fl_X0_22 rfl dX0_rowFound_1 rfl (fun levels1 => ?_)
  refine R_iload_n (pc' := 5) (i := 2) (j := 2) (x := l2) dX0_rowFound_4 rfl rfl rfl ?_
  refine R_aald (pc' := 6) (q := levels1) (i := l2) (by decide) rfl dX0_rowFound_5 rfl (fun e2 => ?_)
  refine R_astoreq (pc' := 8) (L' := [(4, va_rf e2), (0, va_rf (some this)), (1, .int l1), (2, .int l2), (3, .int l3)]) (i := 4) (q := e2) dX0_rowFound_6 rfl (by decide) rfl ?_
  refine R_aloadq_n (pc' := 9) (i := 0) (j := 1) (q := (some this)) dX0_rowFound_8 rfl rfl rfl ?_
  refine R_getR (pc' := 12) (q := (some this)) fl_X0_44 rfl dX0_rowFound_9 rfl (fun pilot3 => ?_)
  refine R_aloadq (pc' := 14) (i := 4) (j := 0) (q := e2) dX0_rowFound_12 rfl rfl ?_
  refine R_callV_V (pc' := 17) (q := pilot3) (As := [va_rf e2]) (fun o12 => rm_X3_meet o12 e2 M) mf_X3_meet lk_X0_99 im_X3_meet se_X3_meet rfl rfl rfl dX0_rowFound_14 rfl (by omega) (Nat.le_trans c_0 (by decide)) (fun u4 M => ?_)
  refine R_aloadq_n (pc' := 18) (i := 0) (j := 1) (q := (some this)) dX0_rowFound_17 rfl rfl rfl ?_
  refine R_getR (pc' := 21) (q := (some this)) fl_X0_44 rfl dX0_rowFound_18 rfl (fun pilot5 => ?_)
  refine R_iconst (pc' := 22) (x := (nI 0)) dX0_rowFound_21 rfl (by decide) ?_
  refine R_iload_n (pc' := 23) (i := 1) (j := 2) (x := l1) dX0_rowFound_22 rfl rfl rfl ?_
  refine R_callV_I (pc' := 26) (q := pilot5) (As := [.int (nI 0), .int l1]) (fun o11 => rm_X3_turns o11 (nI 0) l1 M) mf_X3_turns lk_X0_102 im_X3_turns se_X3_turns rfl rfl rfl dX0_rowFound_23 rfl (by omega) (Nat.le_trans c_0 (by decide)) (fun r6 M => ?_)
  refine R_pop (pc' := 27) dX0_rowFound_26 rfl rfl ?_
  refine R_iload_n (pc' := 28) (i := 2) (j := 3) (x := l2) dX0_rowFound_27 rfl rfl rfl ?_
  refine R_iload_n (pc' := 29) (i := 3) (j := 4) (x := l3) dX0_rowFound_28 rfl rfl rfl ?_
  refine R_icmp_ge (pc' := 32) (tgt := 43) (a := l2) (b := l3) dX0_rowFound_29 (by decide) rfl ?_ ?_
  · exact R_sub [1, 2, 3] rfl (rf_X0_rowFound_J43 g_X0_rowFound hdg hg_X0_rowFound this l1 l2 M)
  · refine R_iload_n (pc' := 33) (i := 2) (j := 3) (x := l2) dX0_rowFound_32 rfl rfl rfl ?_
    refine R_aloadq_n (pc' := 34) (i := 0) (j := 1) (q := (some this)) dX0_rowFound_33 rfl rfl rfl ?_
    refine R_getR (pc' := 37) (q := (some this)) fl_X0_9 rfl dX0_rowFound_34 rfl (fun choice7 => ?_)
    refine R_alen (pc' := 38) (q := choice7) dX0_rowFound_37 rfl (fun len8 => ?_)
    refine R_iconst (pc' := 39) (x := (nI 1)) dX0_rowFound_38 rfl (by decide) ?_
    refine R_isub (pc' := 40) (a := len8) (b := (nI 1)) dX0_rowFound_39 rfl ?_
    refine R_icmp_lt (pc' := 43) (tgt := 73) (a := l2) (b := (len8 - (nI 1))) dX0_rowFound_40 (by decide) rfl ?_ ?_
    · refine R_aloadq_n (pc' := 74) (i := 0) (j := 1) (q := (some this)) dX0_rowFound_73 rfl rfl rfl ?_
      refine R_getR (pc' := 77) (q := (some this)) fl_X0_22 rfl dX0_rowFound_74 rfl (fun levels9 => ?_)
      refine R_iload_n (pc' := 78) (i := 2) (j := 3) (x := l2) dX0_rowFound_77 rfl rfl rfl ?_
      refine R_iconst (pc' := 79) (x := (nI 1)) dX0_rowFound_78 rfl (by decide) ?_
      refine R_iadd (pc' := 80) (a := l2) (b := (nI 1)) dX0_rowFound_79 rfl ?_
      refine R_aald (pc' := 81) (q := levels9) (i := (l2 + (nI 1))) (by decide) rfl dX0_rowFound_80 rfl (fun e10 => ?_)
      refine R_astoreq (pc' := 83) (L' := [(5, va_rf e10), (4, va_rf e2), (0, va_rf (some this)), (1, .int l1), (2, .int l2), (3, .int l3)]) (i := 5) (q := e10) dX0_rowFound_81 rfl (by decide) (by simp [stL, rf_cat, cat_I, cat_L, cat_C]) ?_
      refine R_iconst (pc' := 84) (x := (-1 : Int32)) dX0_rowFound_83 rfl (by decide) ?_
      refine R_istore (pc' := 86) (L' := [(6, .int (-1 : Int32)), (5, va_rf e10), (4, va_rf e2), (0, va_rf (some this)), (1, .int l1), (2, .int l2), (3, .int l3)]) (i := 6) (x := (-1 : Int32)) dX0_rowFound_84 rfl (by decide) (by simp [stL, rf_cat, cat_I, cat_L, cat_C]) ?_
      exact R_sub [3, 4, 5, 6, 2, 1, 0] rfl (rf_X0_rowFound_L86 g_X0_rowFound hdg hg_X0_rowFound this FU l1 l2 l3 e2 e10 (-1 : Int32) M)
    · exact R_sub [1, 2, 3] rfl (rf_X0_rowFound_J43 g_X0_rowFound hdg hg_X0_rowFound this l1 l2 M)
def fn_X0_rowFound : Nat → Nat → Int32 → Int32 → Int32 → Mem → Option (Int32 × Mem)
  | 0, _, _, _, _, _ => none
  | n + 1, this, l1, l2, l3, M => fb_X0_rowFound (fn_X0_rowFound n) this l1 l2 l3 M
theorem rn_X0_rowFound : ∀ (n : Nat) (this : Nat) (l1 : Int32) (l2 : Int32) (l3 : Int32) (M : Mem), RFm yX0_rowFound cX0_rowFound 7 (some .boolean) (4 + n) eI (fn_X0_rowFound n this l1 l2 l3 M) [va_rf (some this), .int l1, .int l2, .int l3] M := by
  intro n
  induction n with
  | zero => intro this l1 l2 l3 M r M2 h; cases h
  | succ n ih =>
    intro this l1 l2 l3 M
    rw [fn_X0_rowFound]
    exact rb_X0_rowFound (dg := 4 + n) (fn_X0_rowFound n) (Nat.le_add_right _ _) ih this l1 l2 l3 M
def f_X0_rowFound (this : Nat) (l1 : Int32) (l2 : Int32) (l3 : Int32) (M : Mem) : Option (Int32 × Mem) := fn_X0_rowFound 8 this l1 l2 l3 M
theorem rm_X0_rowFound (this : Nat) (l1 : Int32) (l2 : Int32) (l3 : Int32) (M : Mem) : RFm yX0_rowFound cX0_rowFound 7 (some .boolean) 12 eI (f_X0_rowFound this l1 l2 l3 M) [va_rf (some this), .int l1, .int l2, .int l3] M := rn_X0_rowFound 8 this l1 l2 l3 M
/-! BarPilot$Asker.findRow(II)I -/
def f_X0_findRow_L2 (this : Nat) : Nat → Int32 → Int32 → Int32 → Mem → Option (Int32 × Mem)
  | 0, _, _, _, _ => none
  | n + 1, l1, l2, l3, M =>
    (if l2 ≤ l3 then
      (some ((-1 : Int32), M))
    else
      ((gR M 0 8 (some this)).bind fun levels1 =>
      (aR M 6 levels1 (nI 0)).bind fun e2 =>
      (gR M 0 4 (some this)).bind fun book3 =>
      (gR M 2 1 book3).bind fun scene4 =>
      (oO M 6 e2).bind fun o8 => cl (f_X6_copyFrom o8 scene4 M) fun u5 M =>
      (oO M 0 (some this)).bind fun o7 => cl (f_X0_rowFound o7 l1 (nI 0) l3 M) fun r6 M =>
      (if r6 = 0 then
        ((f_X0_findRow_L2 this n) l1 l2 (l3 + (nI 1)) M)
      else
        (some (l3, M)))))
set_option maxHeartbeats 2000000 in
set_option maxRecDepth 20000 in
theorem rf_X0_findRow_L2 (this : Nat) : ∀ (n : Nat) (l1 : Int32) (l2 : Int32) (l3 : Int32) (M : Mem), RF yX0_findRow cX0_findRow 4 (some .int) 13 eI (f_X0_findRow_L2 this n l1 l2 l3 M) 2 [(0, va_rf (some this)), (1, .int l1), (2, .int l2), (3, .int l3)] [] M := by
  intro n
  induction n with
  | zero => intro _ _ _ _; exact RF.none
  | succ n ih =>
    intro l1 l2 l3 M
    rw [f_X0_findRow_L2]
    refine R_iload_n (pc' := 3) (i := 3) (j := 3) (x := l3) dX0_findRow_2 rfl rfl rfl ?_
    refine R_iload_n (pc' := 4) (i := 2) (j := 2) (x := l2) dX0_findRow_3 rfl rfl rfl ?_
    refine R_icmp_ge (pc' := 7) (tgt := 41) (a := l3) (b := l2) dX0_findRow_4 (by decide) rfl ?_ ?_
    · refine R_iconst (pc' := 42) (x := (-1 : Int32)) dX0_findRow_41 rfl (by decide) ?_
      exact R_iret dX0_findRow_42
    · refine R_aloadq_n (pc' := 8) (i := 0) (j := 0) (q := (some this)) dX0_findRow_7 rfl rfl rfl ?_
      refine R_getR (pc' := 11) (q := (some this)) fl_X0_22 rfl dX0_findRow_8 rfl (fun levels1 => ?_)
      refine R_iconst (pc' := 12) (x := (nI 0)) dX0_findRow_11 rfl (by decide) ?_
      refine R_aald (pc' := 13) (q := levels1) (i := (nI 0)) (by decide) rfl dX0_findRow_12 rfl (fun e2 => ?_)
      refine R_aloadq_n (pc' := 14) (i := 0) (j := 0) (q := (some this)) dX0_findRow_13 rfl rfl rfl ?_
      refine R_getR (pc' := 17) (q := (some this)) fl_X0_33 rfl dX0_findRow_14 rfl (fun book3 => ?_)
      refine R_getR (pc' := 20) (q := book3) fl_X0_48 rfl dX0_findRow_17 rfl (fun scene4 => ?_)
      refine R_callV_V (pc' := 23) (q := e2) (As := [va_rf scene4]) (fun o8 => rm_X6_copyFrom o8 scene4 M) mf_X6_copyFrom lk_X0_51 im_X6_copyFrom se_X6_copyFrom rfl rfl rfl dX0_findRow_20 rfl (by decide) (Nat.le_trans c_0 (by decide)) (fun u5 M => ?_)
      refine R_aloadq_n (pc' := 24) (i := 0) (j := 0) (q := (some this)) dX0_findRow_23 rfl rfl rfl ?_
      refine R_iload_n (pc' := 25) (i := 1) (j := 1) (x := l1) dX0_findRow_24 rfl rfl rfl ?_
      refine R_iconst (pc' := 26) (x := (nI 0)) dX0_findRow_25 rfl (by decide) ?_
      refine R_iload_n (pc' := 27) (i := 3) (j := 3) (x := l3) dX0_findRow_26 rfl rfl rfl ?_
      refine R_callV_I (pc' := 30) (q := (some this)) (As := [.int l1, .int (nI 0), .int l3]) (fun o7 => rm_X0_rowFound o7 l1 (nI 0) l3 M) mf_X0_rowFound lk_X0_95 im_X0_rowFound se_X0_rowFound rfl rfl rfl dX0_findRow_27 rfl (by decide) (Nat.le_trans c_0 (by decide)) (fun r6 M => ?_)
      refine R_if_eq (pc' := 33) (tgt := 35) (a := r6) dX0_findRow_30 (by decide) rfl ?_ ?_
      · refine R_iinc (pc' := 38) (L' := [(3, .int (l3 + (nI 1))), (0, va_rf (some this)), (1, .int l1), (2, .int l2)]) (i := 3) (j := 3) (x := l3) (x2 := (l3 + (nI 1))) dX0_findRow_35 rfl rfl rfl (by decide) rfl ?_
        refine R_goto (tgt := 2) dX0_findRow_38 (by decide) ?_
        exact R_sub [1, 2, 3, 0] rfl (ih l1 l2 (l3 + (nI 1)) M)
      · refine R_iload_n (pc' := 34) (i := 3) (j := 3) (x := l3) dX0_findRow_33 rfl rfl rfl ?_
        exact R_iret dX0_findRow_34
def f_X0_findRow (this : Nat) (l1 : Int32) (l2 : Int32) (M : Mem) : Option (Int32 × Mem) :=
  f_X0_findRow_L2 this FU l1 l2 (nI 0) M
set_option maxHeartbeats 2000000 in
set_option maxRecDepth 20000 in
theorem rm_X0_findRow (this : Nat) (l1 : Int32) (l2 : Int32) (M : Mem) : RFm yX0_findRow cX0_findRow 4 (some .int) 13 eI (f_X0_findRow this l1 l2 M) [va_rf (some this), .int l1, .int l2] M := by
  refine RFm_of (L := [(0, va_rf (some this)), (1, .int l1), (2, .int l2)]) (by decide) rfl (Nat.le_trans (c_R (c_I (c_I c_0))) (by decide)) ?_
  rw [f_X0_findRow]
  refine R_iconst (pc' := 1) (x := (nI 0)) dX0_findRow_0 rfl (by decide) ?_
  refine R_istore_n (pc' := 2) (L' := [(3, .int (nI 0)), (0, va_rf (some this)), (1, .int l1), (2, .int l2)]) (i := 3) (x := (nI 0)) dX0_findRow_1 rfl rfl (by decide) rfl ?_
  exact R_sub [1, 2, 3, 0] rfl (rf_X0_findRow_L2 this FU l1 l2 (nI 0) M)
/-! BarPilot$Asker.findForgotten(I)V -/
def f_X0_findForgotten_J130 (k27 : Int32 → Int32 → Int32 → Mem → Option (Unit × Mem)) (this : Nat) (l1 : Int32) (l2 : Int32) (l3 : Int32) (M : Mem) : Option (Unit × Mem) :=
  k27 l1 l2 (l3 + (nI 1)) M
set_option maxHeartbeats 2000000 in
set_option maxRecDepth 20000 in
theorem rf_X0_findForgotten_J130 (this : Nat) (k27 : Int32 → Int32 → Int32 → Mem → Option (Unit × Mem)) (hk27 : ∀ (l1 : Int32) (l2 : Int32) (l3 : Int32) (M : Mem), RF yX0_findForgotten cX0_findForgotten 5 none 6 eV (k27 l1 l2 l3 M) 27 [(0, va_rf (some this)), (1, .int l1), (2, .int l2), (3, .int l3)] [] M) (l1 : Int32) (l2 : Int32) (l3 : Int32) (M : Mem) : RF yX0_findForgotten cX0_findForgotten 5 none 6 eV (f_X0_findForgotten_J130 k27 this l1 l2 l3 M) 130 [(0, va_rf (some this)), (1, .int l1), (2, .int l2), (3, .int l3)] [] M := by
  rw [f_X0_findForgotten_J130]
  refine R_iinc (pc' := 133) (L' := [(3, .int (l3 + (nI 1))), (0, va_rf (some this)), (1, .int l1), (2, .int l2)]) (i := 3) (j := 3) (x := l3) (x2 := (l3 + (nI 1))) dX0_findForgotten_130 rfl rfl rfl (by decide) rfl ?_
  refine R_goto (tgt := 27) dX0_findForgotten_133 (by decide) ?_
  exact R_sub [1, 2, 3, 0] rfl (hk27 l1 l2 (l3 + (nI 1)) M)
def f_X0_findForgotten_J84 (k27 : Int32 → Int32 → Int32 → Mem → Option (Unit × Mem)) (this : Nat) (l1 : Int32) (l2 : Int32) (l3 : Int32) (M : Mem) : Option (Unit × Mem) :=
  (gR M 0 6 (some this)).bind fun pilot1 =>
  (gR M 0 7 (some this)).bind fun work2 =>
  (oO M 3 pilot1).bind fun o9 => cl (f_X3_goOn o9 work2 l1 (nI 1) M) fun u3 M =>
  (gR M 0 5 (some this)).bind fun told4 =>
  (gR M 0 7 (some this)).bind fun work5 =>
  (oO M 8 told4).bind fun o8 => cl (f_X8_earned o8 work5 M) fun r6 M =>
  (gI M 0 0 (some this)).bind fun amount7 =>
  (if r6 ≤ amount7 then
    (f_X0_findForgotten_J130 k27 this l1 l2 l3 M)
  else
    ((pI M 0 0 (some this) r6).bind fun M =>
    (pI M 0 1 (some this) l3).bind fun M =>
    f_X0_findForgotten_J130 k27 this l1 l2 l3 M))
set_option maxHeartbeats 2000000 in
set_option maxRecDepth 20000 in
theorem rf_X0_findForgotten_J84 (this : Nat) (k27 : Int32 → Int32 → Int32 → Mem → Option (Unit × Mem)) (hk27 : ∀ (l1 : Int32) (l2 : Int32) (l3 : Int32) (M : Mem), RF yX0_findForgotten cX0_findForgotten 5 none 6 eV (k27 l1 l2 l3 M) 27 [(0, va_rf (some this)), (1, .int l1), (2, .int l2), (3, .int l3)] [] M) (l1 : Int32) (l2 : Int32) (l3 : Int32) (M : Mem) : RF yX0_findForgotten cX0_findForgotten 5 none 6 eV (f_X0_findForgotten_J84 k27 this l1 l2 l3 M) 84 [(0, va_rf (some this)), (1, .int l1), (2, .int l2), (3, .int l3)] [] M := by
  rw [f_X0_findForgotten_J84]
  refine R_aloadq_n (pc' := 85) (i := 0) (j := 0) (q := (some this)) dX0_findForgotten_84 rfl rfl rfl ?_
  refine R_getR (pc' := 88) (q := (some this)) fl_X0_44 rfl dX0_findForgotten_85 rfl (fun pilot1 => ?_)
  refine R_aloadq_n (pc' := 89) (i := 0) (j := 0) (q := (some this)) dX0_findForgotten_88 rfl rfl rfl ?_
  refine R_getR (pc' := 92) (q := (some this)) fl_X0_18 rfl dX0_findForgotten_89 rfl (fun work2 => ?_)
  refine R_iload_n (pc' := 93) (i := 1) (j := 1) (x := l1) dX0_findForgotten_92 rfl rfl rfl ?_
  refine R_iconst (pc' := 94) (x := (nI 1)) dX0_findForgotten_93 rfl (by decide) ?_
  refine R_callV_V (pc' := 97) (q := pilot1) (As := [va_rf work2, .int l1, .int (nI 1)]) (fun o9 => rm_X3_goOn o9 work2 l1 (nI 1) M) mf_X3_goOn lk_X0_55 im_X3_goOn se_X3_goOn rfl rfl rfl dX0_findForgotten_94 rfl (by decide) (Nat.le_trans c_0 (by decide)) (fun u3 M => ?_)
  refine R_aloadq_n (pc' := 98) (i := 0) (j := 0) (q := (some this)) dX0_findForgotten_97 rfl rfl rfl ?_
  refine R_getR (pc' := 101) (q := (some this)) fl_X0_43 rfl dX0_findForgotten_98 rfl (fun told4 => ?_)
  refine R_aloadq_n (pc' := 102) (i := 0) (j := 0) (q := (some this)) dX0_findForgotten_101 rfl rfl rfl ?_
  refine R_getR (pc' := 105) (q := (some this)) fl_X0_18 rfl dX0_findForgotten_102 rfl (fun work5 => ?_)
  refine R_callV_I (pc' := 108) (q := told4) (As := [va_rf work5]) (fun o8 => rm_X8_earned o8 work5 M) mf_X8_earned lk_X0_127 im_X8_earned se_X8_earned rfl rfl rfl dX0_findForgotten_105 rfl (by decide) (Nat.le_trans c_0 (by decide)) (fun r6 M => ?_)
  refine R_istore (pc' := 110) (L' := [(4, .int r6), (0, va_rf (some this)), (1, .int l1), (2, .int l2), (3, .int l3)]) (i := 4) (x := r6) dX0_findForgotten_108 rfl (by decide) rfl ?_
  refine R_iload (pc' := 112) (i := 4) (j := 0) (x := r6) dX0_findForgotten_110 rfl rfl ?_
  refine R_aloadq_n (pc' := 113) (i := 0) (j := 1) (q := (some this)) dX0_findForgotten_112 rfl rfl rfl ?_
  refine R_getI (pc' := 116) (q := (some this)) fl_X0_65 rfl dX0_findForgotten_113 rfl (fun amount7 => ?_)
  refine R_icmp_le (pc' := 119) (tgt := 130) (a := r6) (b := amount7) dX0_findForgotten_116 (by decide) rfl ?_ ?_
  · exact R_sub [1, 2, 3, 4] rfl (rf_X0_findForgotten_J130 this k27 hk27 l1 l2 l3 M)
  · refine R_aloadq_n (pc' := 120) (i := 0) (j := 1) (q := (some this)) dX0_findForgotten_119 rfl rfl rfl ?_
    refine R_iload (pc' := 122) (i := 4) (j := 0) (x := r6) dX0_findForgotten_120 rfl rfl ?_
    refine R_putI (pc' := 125) (q := (some this)) (x := r6) fl_X0_65 (Or.inl rfl) dX0_findForgotten_122 rfl (fun M => ?_)
    refine R_aloadq_n (pc' := 126) (i := 0) (j := 1) (q := (some this)) dX0_findForgotten_125 rfl rfl rfl ?_
    refine R_iload_n (pc' := 127) (i := 3) (j := 4) (x := l3) dX0_findForgotten_126 rfl rfl rfl ?_
    refine R_putI (pc' := 130) (q := (some this)) (x := l3) fl_X0_75 (Or.inl rfl) dX0_findForgotten_127 rfl (fun M => ?_)
    exact R_sub [1, 2, 3, 4] rfl (rf_X0_findForgotten_J130 this k27 hk27 l1 l2 l3 M)
def f_X0_findForgotten_J54 (k27 : Int32 → Int32 → Int32 → Mem → Option (Unit × Mem)) (this : Nat) (l1 : Int32) (l2 : Int32) (l3 : Int32) (M : Mem) : Option (Unit × Mem) :=
  (gR M 0 7 (some this)).bind fun work1 =>
  (gR M 0 4 (some this)).bind fun book2 =>
  (gR M 2 1 book2).bind fun scene3 =>
  (oO M 6 work1).bind fun o7 => cl (f_X6_copyFrom o7 scene3 M) fun u4 M =>
  (if l3 = (-1 : Int32) then
    (f_X0_findForgotten_J84 k27 this l1 l2 l3 M)
  else
    ((gR M 0 7 (some this)).bind fun work5 =>
    (gR M 6 1 work5).bind fun heard6 =>
    (wI M 0 heard6 l3 (-100000 : Int32)).bind fun M =>
    f_X0_findForgotten_J84 k27 this l1 l2 l3 M))
set_option maxHeartbeats 2000000 in
set_option maxRecDepth 20000 in
theorem rf_X0_findForgotten_J54 (this : Nat) (k27 : Int32 → Int32 → Int32 → Mem → Option (Unit × Mem)) (hk27 : ∀ (l1 : Int32) (l2 : Int32) (l3 : Int32) (M : Mem), RF yX0_findForgotten cX0_findForgotten 5 none 6 eV (k27 l1 l2 l3 M) 27 [(0, va_rf (some this)), (1, .int l1), (2, .int l2), (3, .int l3)] [] M) (l1 : Int32) (l2 : Int32) (l3 : Int32) (M : Mem) : RF yX0_findForgotten cX0_findForgotten 5 none 6 eV (f_X0_findForgotten_J54 k27 this l1 l2 l3 M) 54 [(0, va_rf (some this)), (1, .int l1), (2, .int l2), (3, .int l3)] [] M := by
  rw [f_X0_findForgotten_J54]
  refine R_aloadq_n (pc' := 55) (i := 0) (j := 0) (q := (some this)) dX0_findForgotten_54 rfl rfl rfl ?_
  refine R_getR (pc' := 58) (q := (some this)) fl_X0_18 rfl dX0_findForgotten_55 rfl (fun work1 => ?_)
  refine R_aloadq_n (pc' := 59) (i := 0) (j := 0) (q := (some this)) dX0_findForgotten_58 rfl rfl rfl ?_
  refine R_getR (pc' := 62) (q := (some this)) fl_X0_33 rfl dX0_findForgotten_59 rfl (fun book2 => ?_)
  refine R_getR (pc' := 65) (q := book2) fl_X0_48 rfl dX0_findForgotten_62 rfl (fun scene3 => ?_)
  refine R_callV_V (pc' := 68) (q := work1) (As := [va_rf scene3]) (fun o7 => rm_X6_copyFrom o7 scene3 M) mf_X6_copyFrom lk_X0_51 im_X6_copyFrom se_X6_copyFrom rfl rfl rfl dX0_findForgotten_65 rfl (by decide) (Nat.le_trans c_0 (by decide)) (fun u4 M => ?_)
  refine R_iload_n (pc' := 69) (i := 3) (j := 3) (x := l3) dX0_findForgotten_68 rfl rfl rfl ?_
  refine R_iconst (pc' := 70) (x := (-1 : Int32)) dX0_findForgotten_69 rfl (by decide) ?_
  refine R_icmp_eq (pc' := 73) (tgt := 84) (a := l3) (b := (-1 : Int32)) dX0_findForgotten_70 (by decide) rfl ?_ ?_
  · exact R_sub [0, 1, 2, 3] rfl (rf_X0_findForgotten_J84 this k27 hk27 l1 l2 l3 M)
  · refine R_aloadq_n (pc' := 74) (i := 0) (j := 0) (q := (some this)) dX0_findForgotten_73 rfl rfl rfl ?_
    refine R_getR (pc' := 77) (q := (some this)) fl_X0_18 rfl dX0_findForgotten_74 rfl (fun work5 => ?_)
    refine R_getR (pc' := 80) (q := work5) fl_X0_123 rfl dX0_findForgotten_77 rfl (fun heard6 => ?_)
    refine R_iload_n (pc' := 81) (i := 3) (j := 3) (x := l3) dX0_findForgotten_80 rfl rfl rfl ?_
    refine R_ldc (pc' := 83) (x := (-100000 : Int32)) dX0_findForgotten_81 rfl co_X0_126 ?_
    refine R_iast (pc' := 84) (q := heard6) (i := l3) (x := (-100000 : Int32)) dX0_findForgotten_83 rfl (fun M => ?_)
    exact R_sub [0, 1, 2, 3] rfl (rf_X0_findForgotten_J84 this k27 hk27 l1 l2 l3 M)
def f_X0_findForgotten_L27 (this : Nat) : Nat → Int32 → Int32 → Int32 → Mem → Option (Unit × Mem)
  | 0, _, _, _, _ => none
  | n + 1, l1, l2, l3, M =>
    (gR M 0 5 (some this)).bind fun told1 =>
    (gI M 8 3 told1).bind fun jokes2 =>
    (if jokes2 ≤ l3 then
      (some ((), M))
    else
      ((if l3 = (-1 : Int32) then
        (f_X0_findForgotten_J54 (f_X0_findForgotten_L27 this n) this l1 l2 l3 M)
      else
        ((if ((l2 >>> (l3 &&& 31)) &&& (nI 1)) = 0 then
          (f_X0_findForgotten_J130 (f_X0_findForgotten_L27 this n) this l1 l2 l3 M)
        else
          (f_X0_findForgotten_J54 (f_X0_findForgotten_L27 this n) this l1 l2 l3 M))))))
set_option maxHeartbeats 2000000 in
set_option maxRecDepth 20000 in
theorem rf_X0_findForgotten_L27 (this : Nat) : ∀ (n : Nat) (l1 : Int32) (l2 : Int32) (l3 : Int32) (M : Mem), RF yX0_findForgotten cX0_findForgotten 5 none 6 eV (f_X0_findForgotten_L27 this n l1 l2 l3 M) 27 [(0, va_rf (some this)), (1, .int l1), (2, .int l2), (3, .int l3)] [] M := by
  intro n
  induction n with
  | zero => intro _ _ _ _; exact RF.none
  | succ n ih =>
    intro l1 l2 l3 M
    rw [f_X0_findForgotten_L27]
    refine R_iload_n (pc' := 28) (i := 3) (j := 3) (x := l3) dX0_findForgotten_27 rfl rfl rfl ?_
    refine R_aloadq_n (pc' := 29) (i := 0) (j := 0) (q := (some this)) dX0_findForgotten_28 rfl rfl rfl ?_
    refine R_getR (pc' := 32) (q := (some this)) fl_X0_43 rfl dX0_findForgotten_29 rfl (fun told1 => ?_)
    refine R_getI (pc' := 35) (q := told1) fl_X0_110 rfl dX0_findForgotten_32 rfl (fun jokes2 => ?_)
    refine R_icmp_ge (pc' := 38) (tgt := 136) (a := l3) (b := jokes2) dX0_findForgotten_35 (by decide) rfl ?_ ?_
    · exact R_vret dX0_findForgotten_136
    · refine R_iload_n (pc' := 39) (i := 3) (j := 3) (x := l3) dX0_findForgotten_38 rfl rfl rfl ?_
      refine R_iconst (pc' := 40) (x := (-1 : Int32)) dX0_findForgotten_39 rfl (by decide) ?_
      refine R_icmp_eq (pc' := 43) (tgt := 54) (a := l3) (b := (-1 : Int32)) dX0_findForgotten_40 (by decide) rfl ?_ ?_
      · exact R_sub [0, 1, 2, 3] rfl (rf_X0_findForgotten_J54 this (f_X0_findForgotten_L27 this n) ih l1 l2 l3 M)
      · refine R_iload_n (pc' := 44) (i := 2) (j := 2) (x := l2) dX0_findForgotten_43 rfl rfl rfl ?_
        refine R_iload_n (pc' := 45) (i := 3) (j := 3) (x := l3) dX0_findForgotten_44 rfl rfl rfl ?_
        refine R_ishr (pc' := 46) (a := l2) (b := l3) dX0_findForgotten_45 rfl ?_
        refine R_iconst (pc' := 47) (x := (nI 1)) dX0_findForgotten_46 rfl (by decide) ?_
        refine R_iand (pc' := 48) (a := (l2 >>> (l3 &&& 31))) (b := (nI 1)) dX0_findForgotten_47 rfl ?_
        refine R_if_ne (pc' := 51) (tgt := 54) (a := ((l2 >>> (l3 &&& 31)) &&& (nI 1))) dX0_findForgotten_48 (by decide) rfl ?_ ?_
        · exact R_sub [0, 1, 2, 3] rfl (rf_X0_findForgotten_J54 this (f_X0_findForgotten_L27 this n) ih l1 l2 l3 M)
        · refine R_goto (tgt := 130) dX0_findForgotten_51 (by decide) ?_
          exact R_sub [0, 1, 2, 3] rfl (rf_X0_findForgotten_J130 this (f_X0_findForgotten_L27 this n) ih l1 l2 l3 M)
def f_X0_findForgotten (this : Nat) (l1 : Int32) (M : Mem) : Option (Unit × Mem) :=
  (gR M 0 5 (some this)).bind fun told1 =>
  (gR M 0 4 (some this)).bind fun book2 =>
  (gR M 2 1 book2).bind fun scene3 =>
  (oO M 8 told1).bind fun o5 => cl (f_X8_remembered o5 scene3 M) fun r4 M =>
  (pI M 0 1 (some this) (-1 : Int32)).bind fun M =>
  (pI M 0 0 (some this) (-1 : Int32)).bind fun M =>
  f_X0_findForgotten_L27 this FU l1 r4 (-1 : Int32) M
set_option maxHeartbeats 2000000 in
set_option maxRecDepth 20000 in
theorem rm_X0_findForgotten (this : Nat) (l1 : Int32) (M : Mem) : RFm yX0_findForgotten cX0_findForgotten 5 none 6 eV (f_X0_findForgotten this l1 M) [va_rf (some this), .int l1] M := by
  refine RFm_of (L := [(0, va_rf (some this)), (1, .int l1)]) (by decide) rfl (Nat.le_trans (c_R (c_I c_0)) (by decide)) ?_
  rw [f_X0_findForgotten]
  refine R_aloadq_n (pc' := 1) (i := 0) (j := 0) (q := (some this)) dX0_findForgotten_0 rfl rfl rfl ?_
  refine R_getR (pc' := 4) (q := (some this)) fl_X0_43 rfl dX0_findForgotten_1 rfl (fun told1 => ?_)
  refine R_aloadq_n (pc' := 5) (i := 0) (j := 0) (q := (some this)) dX0_findForgotten_4 rfl rfl rfl ?_
  refine R_getR (pc' := 8) (q := (some this)) fl_X0_33 rfl dX0_findForgotten_5 rfl (fun book2 => ?_)
  refine R_getR (pc' := 11) (q := book2) fl_X0_48 rfl dX0_findForgotten_8 rfl (fun scene3 => ?_)
  refine R_callV_I (pc' := 14) (q := told1) (As := [va_rf scene3]) (fun o5 => rm_X8_remembered o5 scene3 M) mf_X8_remembered lk_X0_120 im_X8_remembered se_X8_remembered rfl rfl rfl dX0_findForgotten_11 rfl (by decide) (Nat.le_trans c_0 (by decide)) (fun r4 M => ?_)
  refine R_istore_n (pc' := 15) (L' := [(2, .int r4), (0, va_rf (some this)), (1, .int l1)]) (i := 2) (x := r4) dX0_findForgotten_14 rfl rfl (by decide) rfl ?_
  refine R_aloadq_n (pc' := 16) (i := 0) (j := 1) (q := (some this)) dX0_findForgotten_15 rfl rfl rfl ?_
  refine R_iconst (pc' := 17) (x := (-1 : Int32)) dX0_findForgotten_16 rfl (by decide) ?_
  refine R_putI (pc' := 20) (q := (some this)) (x := (-1 : Int32)) fl_X0_75 (Or.inl rfl) dX0_findForgotten_17 rfl (fun M => ?_)
  refine R_aloadq_n (pc' := 21) (i := 0) (j := 1) (q := (some this)) dX0_findForgotten_20 rfl rfl rfl ?_
  refine R_iconst (pc' := 22) (x := (-1 : Int32)) dX0_findForgotten_21 rfl (by decide) ?_
  refine R_putI (pc' := 25) (q := (some this)) (x := (-1 : Int32)) fl_X0_65 (Or.inl rfl) dX0_findForgotten_22 rfl (fun M => ?_)
  refine R_iconst (pc' := 26) (x := (-1 : Int32)) dX0_findForgotten_25 rfl (by decide) ?_
  refine R_istore_n (pc' := 27) (L' := [(3, .int (-1 : Int32)), (2, .int r4), (0, va_rf (some this)), (1, .int l1)]) (i := 3) (x := (-1 : Int32)) dX0_findForgotten_26 rfl rfl (by decide) rfl ?_
  exact R_sub [2, 3, 1, 0] rfl (rf_X0_findForgotten_L27 this FU l1 r4 (-1 : Int32) M)
/-! BarPilot$Asker.findTraders(I)V -/
def f_X0_findTraders_J164 (k43 : Int32 → Int32 → Int32 → Mem → Option (Unit × Mem)) (k59 : Int32 → Int32 → Int32 → Int32 → Mem → Option (Unit × Mem)) (this : Nat) (l1 : Int32) (l2 : Int32) (l3 : Int32) (l4 : Int32) (M : Mem) : Option (Unit × Mem) :=
  k59 l1 l2 l3 (l4 + (nI 1)) M
set_option maxHeartbeats 2000000 in
set_option maxRecDepth 20000 in
theorem rf_X0_findTraders_J164 (this : Nat) (k43 : Int32 → Int32 → Int32 → Mem → Option (Unit × Mem)) (k59 : Int32 → Int32 → Int32 → Int32 → Mem → Option (Unit × Mem)) (hk43 : ∀ (l1 : Int32) (l2 : Int32) (l3 : Int32) (M : Mem), RF yX0_findTraders cX0_findTraders 6 none 7 eV (k43 l1 l2 l3 M) 43 [(0, va_rf (some this)), (1, .int l1), (2, .int l2), (3, .int l3)] [] M) (hk59 : ∀ (l1 : Int32) (l2 : Int32) (l3 : Int32) (l4 : Int32) (M : Mem), RF yX0_findTraders cX0_findTraders 6 none 7 eV (k59 l1 l2 l3 l4 M) 59 [(0, va_rf (some this)), (1, .int l1), (2, .int l2), (3, .int l3), (4, .int l4)] [] M) (l1 : Int32) (l2 : Int32) (l3 : Int32) (l4 : Int32) (M : Mem) : RF yX0_findTraders cX0_findTraders 6 none 7 eV (f_X0_findTraders_J164 k43 k59 this l1 l2 l3 l4 M) 164 [(0, va_rf (some this)), (1, .int l1), (2, .int l2), (3, .int l3), (4, .int l4)] [] M := by
  rw [f_X0_findTraders_J164]
  refine R_iinc (pc' := 167) (L' := [(4, .int (l4 + (nI 1))), (0, va_rf (some this)), (1, .int l1), (2, .int l2), (3, .int l3)]) (i := 4) (j := 4) (x := l4) (x2 := (l4 + (nI 1))) dX0_findTraders_164 rfl rfl rfl (by decide) rfl ?_
  refine R_goto (tgt := 59) dX0_findTraders_167 (by decide) ?_
  exact R_sub [1, 2, 3, 4, 0] rfl (hk59 l1 l2 l3 (l4 + (nI 1)) M)
def f_X0_findTraders_L59 (k43 : Int32 → Int32 → Int32 → Mem → Option (Unit × Mem)) (this : Nat) : Nat → Int32 → Int32 → Int32 → Int32 → Mem → Option (Unit × Mem)
  | 0, _, _, _, _, _ => none
  | n + 1, l1, l2, l3, l4, M =>
    (gR M 0 5 (some this)).bind fun told1 =>
    (gI M 8 4 told1).bind fun ships2 =>
    (if ships2 ≤ l4 then
      (k43 l1 l2 (l3 + (nI 1)) M)
    else
      ((if (((l2 >>> (l3 &&& 31)) &&& (l2 >>> (l4 &&& 31))) &&& (nI 1)) = 0 then
        (f_X0_findTraders_J164 k43 (f_X0_findTraders_L59 k43 this n) this l1 l2 l3 l4 M)
      else
        ((gR M 0 7 (some this)).bind fun work3 =>
        (gR M 0 4 (some this)).bind fun book4 =>
        (gR M 2 1 book4).bind fun scene5 =>
        (oO M 6 work3).bind fun o19 => cl (f_X6_copyFrom o19 scene5 M) fun u6 M =>
        (gR M 0 7 (some this)).bind fun work7 =>
        (oO M 6 work7).bind fun o18 => cl (f_X6_share o18 l3 l4 M) fun r8 M =>
        (gR M 0 6 (some this)).bind fun pilot9 =>
        (gR M 0 7 (some this)).bind fun work10 =>
        (oO M 3 pilot9).bind fun o17 => cl (f_X3_goOn o17 work10 l1 (nI 1) M) fun u11 M =>
        (gR M 0 5 (some this)).bind fun told12 =>
        (gR M 0 7 (some this)).bind fun work13 =>
        (oO M 8 told12).bind fun o16 => cl (f_X8_earned o16 work13 M) fun r14 M =>
        (gI M 0 0 (some this)).bind fun amount15 =>
        (if r14 ≤ amount15 then
          (f_X0_findTraders_J164 k43 (f_X0_findTraders_L59 k43 this n) this l1 l2 l3 l4 M)
        else
          ((pI M 0 0 (some this) r14).bind fun M =>
          (pI M 0 1 (some this) l3).bind fun M =>
          (pI M 0 2 (some this) l4).bind fun M =>
          f_X0_findTraders_J164 k43 (f_X0_findTraders_L59 k43 this n) this l1 l2 l3 l4 M))))))
set_option maxHeartbeats 2000000 in
set_option maxRecDepth 20000 in
theorem rf_X0_findTraders_L59 (this : Nat) (k43 : Int32 → Int32 → Int32 → Mem → Option (Unit × Mem)) (hk43 : ∀ (l1 : Int32) (l2 : Int32) (l3 : Int32) (M : Mem), RF yX0_findTraders cX0_findTraders 6 none 7 eV (k43 l1 l2 l3 M) 43 [(0, va_rf (some this)), (1, .int l1), (2, .int l2), (3, .int l3)] [] M) : ∀ (n : Nat) (l1 : Int32) (l2 : Int32) (l3 : Int32) (l4 : Int32) (M : Mem), RF yX0_findTraders cX0_findTraders 6 none 7 eV (f_X0_findTraders_L59 k43 this n l1 l2 l3 l4 M) 59 [(0, va_rf (some this)), (1, .int l1), (2, .int l2), (3, .int l3), (4, .int l4)] [] M := by
  intro n
  induction n with
  | zero => intro _ _ _ _ _; exact RF.none
  | succ n ih =>
    intro l1 l2 l3 l4 M
    rw [f_X0_findTraders_L59]
    refine R_iload (pc' := 61) (i := 4) (j := 4) (x := l4) dX0_findTraders_59 rfl rfl ?_
    refine R_aloadq_n (pc' := 62) (i := 0) (j := 0) (q := (some this)) dX0_findTraders_61 rfl rfl rfl ?_
    refine R_getR (pc' := 65) (q := (some this)) fl_X0_43 rfl dX0_findTraders_62 rfl (fun told1 => ?_)
    refine R_getI (pc' := 68) (q := told1) fl_X0_82 rfl dX0_findTraders_65 rfl (fun ships2 => ?_)
    refine R_icmp_ge (pc' := 71) (tgt := 170) (a := l4) (b := ships2) dX0_findTraders_68 (by decide) rfl ?_ ?_
    · refine R_iinc (pc' := 173) (L' := [(3, .int (l3 + (nI 1))), (0, va_rf (some this)), (1, .int l1), (2, .int l2), (4, .int l4)]) (i := 3) (j := 3) (x := l3) (x2 := (l3 + (nI 1))) dX0_findTraders_170 rfl rfl rfl (by decide) rfl ?_
      refine R_goto (tgt := 43) dX0_findTraders_173 (by decide) ?_
      exact R_sub [1, 2, 3, 0] rfl (hk43 l1 l2 (l3 + (nI 1)) M)
    · refine R_iload_n (pc' := 72) (i := 2) (j := 2) (x := l2) dX0_findTraders_71 rfl rfl rfl ?_
      refine R_iload_n (pc' := 73) (i := 3) (j := 3) (x := l3) dX0_findTraders_72 rfl rfl rfl ?_
      refine R_ishr (pc' := 74) (a := l2) (b := l3) dX0_findTraders_73 rfl ?_
      refine R_iload_n (pc' := 75) (i := 2) (j := 2) (x := l2) dX0_findTraders_74 rfl rfl rfl ?_
      refine R_iload (pc' := 77) (i := 4) (j := 4) (x := l4) dX0_findTraders_75 rfl rfl ?_
      refine R_ishr (pc' := 78) (a := l2) (b := l4) dX0_findTraders_77 rfl ?_
      refine R_iand (pc' := 79) (a := (l2 >>> (l3 &&& 31))) (b := (l2 >>> (l4 &&& 31))) dX0_findTraders_78 rfl ?_
      refine R_iconst (pc' := 80) (x := (nI 1)) dX0_findTraders_79 rfl (by decide) ?_
      refine R_iand (pc' := 81) (a := ((l2 >>> (l3 &&& 31)) &&& (l2 >>> (l4 &&& 31)))) (b := (nI 1)) dX0_findTraders_80 rfl ?_
      refine R_if_ne (pc' := 84) (tgt := 87) (a := (((l2 >>> (l3 &&& 31)) &&& (l2 >>> (l4 &&& 31))) &&& (nI 1))) dX0_findTraders_81 (by decide) rfl ?_ ?_
      · refine R_aloadq_n (pc' := 88) (i := 0) (j := 0) (q := (some this)) dX0_findTraders_87 rfl rfl rfl ?_
        refine R_getR (pc' := 91) (q := (some this)) fl_X0_18 rfl dX0_findTraders_88 rfl (fun work3 => ?_)
        refine R_aloadq_n (pc' := 92) (i := 0) (j := 0) (q := (some this)) dX0_findTraders_91 rfl rfl rfl ?_
        refine R_getR (pc' := 95) (q := (some this)) fl_X0_33 rfl dX0_findTraders_92 rfl (fun book4 => ?_)
        refine R_getR (pc' := 98) (q := book4) fl_X0_48 rfl dX0_findTraders_95 rfl (fun scene5 => ?_)
        refine R_callV_V (pc' := 101) (q := work3) (As := [va_rf scene5]) (fun o19 => rm_X6_copyFrom o19 scene5 M) mf_X6_copyFrom lk_X0_51 im_X6_copyFrom se_X6_copyFrom rfl rfl rfl dX0_findTraders_98 rfl (by decide) (Nat.le_trans c_0 (by decide)) (fun u6 M => ?_)
        refine R_aloadq_n (pc' := 102) (i := 0) (j := 0) (q := (some this)) dX0_findTraders_101 rfl rfl rfl ?_
        refine R_getR (pc' := 105) (q := (some this)) fl_X0_18 rfl dX0_findTraders_102 rfl (fun work7 => ?_)
        refine R_iload_n (pc' := 106) (i := 3) (j := 3) (x := l3) dX0_findTraders_105 rfl rfl rfl ?_
        refine R_iload (pc' := 108) (i := 4) (j := 4) (x := l4) dX0_findTraders_106 rfl rfl ?_
        refine R_callV_I (pc' := 111) (q := work7) (As := [.int l3, .int l4]) (fun o18 => rm_X6_share o18 l3 l4 M) mf_X6_share lk_X0_136 im_X6_share se_X6_share rfl rfl rfl dX0_findTraders_108 rfl (by decide) (Nat.le_trans c_0 (by decide)) (fun r8 M => ?_)
        refine R_pop (pc' := 112) dX0_findTraders_111 rfl rfl ?_
        refine R_aloadq_n (pc' := 113) (i := 0) (j := 0) (q := (some this)) dX0_findTraders_112 rfl rfl rfl ?_
        refine R_getR (pc' := 116) (q := (some this)) fl_X0_44 rfl dX0_findTraders_113 rfl (fun pilot9 => ?_)
        refine R_aloadq_n (pc' := 117) (i := 0) (j := 0) (q := (some this)) dX0_findTraders_116 rfl rfl rfl ?_
        refine R_getR (pc' := 120) (q := (some this)) fl_X0_18 rfl dX0_findTraders_117 rfl (fun work10 => ?_)
        refine R_iload_n (pc' := 121) (i := 1) (j := 1) (x := l1) dX0_findTraders_120 rfl rfl rfl ?_
        refine R_iconst (pc' := 122) (x := (nI 1)) dX0_findTraders_121 rfl (by decide) ?_
        refine R_callV_V (pc' := 125) (q := pilot9) (As := [va_rf work10, .int l1, .int (nI 1)]) (fun o17 => rm_X3_goOn o17 work10 l1 (nI 1) M) mf_X3_goOn lk_X0_55 im_X3_goOn se_X3_goOn rfl rfl rfl dX0_findTraders_122 rfl (by decide) (Nat.le_trans c_0 (by decide)) (fun u11 M => ?_)
        refine R_aloadq_n (pc' := 126) (i := 0) (j := 0) (q := (some this)) dX0_findTraders_125 rfl rfl rfl ?_
        refine R_getR (pc' := 129) (q := (some this)) fl_X0_43 rfl dX0_findTraders_126 rfl (fun told12 => ?_)
        refine R_aloadq_n (pc' := 130) (i := 0) (j := 0) (q := (some this)) dX0_findTraders_129 rfl rfl rfl ?_
        refine R_getR (pc' := 133) (q := (some this)) fl_X0_18 rfl dX0_findTraders_130 rfl (fun work13 => ?_)
        refine R_callV_I (pc' := 136) (q := told12) (As := [va_rf work13]) (fun o16 => rm_X8_earned o16 work13 M) mf_X8_earned lk_X0_127 im_X8_earned se_X8_earned rfl rfl rfl dX0_findTraders_133 rfl (by decide) (Nat.le_trans c_0 (by decide)) (fun r14 M => ?_)
        refine R_istore (pc' := 138) (L' := [(5, .int r14), (0, va_rf (some this)), (1, .int l1), (2, .int l2), (3, .int l3), (4, .int l4)]) (i := 5) (x := r14) dX0_findTraders_136 rfl (by decide) rfl ?_
        refine R_iload (pc' := 140) (i := 5) (j := 0) (x := r14) dX0_findTraders_138 rfl rfl ?_
        refine R_aloadq_n (pc' := 141) (i := 0) (j := 1) (q := (some this)) dX0_findTraders_140 rfl rfl rfl ?_
        refine R_getI (pc' := 144) (q := (some this)) fl_X0_65 rfl dX0_findTraders_141 rfl (fun amount15 => ?_)
        refine R_icmp_le (pc' := 147) (tgt := 164) (a := r14) (b := amount15) dX0_findTraders_144 (by decide) rfl ?_ ?_
        · exact R_sub [1, 2, 3, 4, 5] rfl (rf_X0_findTraders_J164 this k43 (f_X0_findTraders_L59 k43 this n) hk43 ih l1 l2 l3 l4 M)
        · refine R_aloadq_n (pc' := 148) (i := 0) (j := 1) (q := (some this)) dX0_findTraders_147 rfl rfl rfl ?_
          refine R_iload (pc' := 150) (i := 5) (j := 0) (x := r14) dX0_findTraders_148 rfl rfl ?_
          refine R_putI (pc' := 153) (q := (some this)) (x := r14) fl_X0_65 (Or.inl rfl) dX0_findTraders_150 rfl (fun M => ?_)
          refine R_aloadq_n (pc' := 154) (i := 0) (j := 1) (q := (some this)) dX0_findTraders_153 rfl rfl rfl ?_
          refine R_iload_n (pc' := 155) (i := 3) (j := 4) (x := l3) dX0_findTraders_154 rfl rfl rfl ?_
          refine R_putI (pc' := 158) (q := (some this)) (x := l3) fl_X0_75 (Or.inl rfl) dX0_findTraders_155 rfl (fun M => ?_)
          refine R_aloadq_n (pc' := 159) (i := 0) (j := 1) (q := (some this)) dX0_findTraders_158 rfl rfl rfl ?_
          refine R_iload (pc' := 161) (i := 4) (j := 5) (x := l4) dX0_findTraders_159 rfl rfl ?_
          refine R_putI (pc' := 164) (q := (some this)) (x := l4) fl_X0_133 (Or.inl rfl) dX0_findTraders_161 rfl (fun M => ?_)
          exact R_sub [1, 2, 3, 4, 5] rfl (rf_X0_findTraders_J164 this k43 (f_X0_findTraders_L59 k43 this n) hk43 ih l1 l2 l3 l4 M)
      · refine R_goto (tgt := 164) dX0_findTraders_84 (by decide) ?_
        exact R_sub [0, 1, 2, 3, 4] rfl (rf_X0_findTraders_J164 this k43 (f_X0_findTraders_L59 k43 this n) hk43 ih l1 l2 l3 l4 M)
def f_X0_findTraders_L43 (this : Nat) : Nat → Int32 → Int32 → Int32 → Mem → Option (Unit × Mem)
  | 0, _, _, _, _ => none
  | n + 1, l1, l2, l3, M =>
    (gR M 0 5 (some this)).bind fun told1 =>
    (gI M 8 4 told1).bind fun ships2 =>
    (if ships2 ≤ l3 then
      (some ((), M))
    else
      (nm (l3 + (nI 1)) fun v3 =>
      f_X0_findTraders_L59 (f_X0_findTraders_L43 this n) this FU l1 l2 l3 v3 M))
set_option maxHeartbeats 2000000 in
set_option maxRecDepth 20000 in
theorem rf_X0_findTraders_L43 (this : Nat) : ∀ (n : Nat) (l1 : Int32) (l2 : Int32) (l3 : Int32) (M : Mem), RF yX0_findTraders cX0_findTraders 6 none 7 eV (f_X0_findTraders_L43 this n l1 l2 l3 M) 43 [(0, va_rf (some this)), (1, .int l1), (2, .int l2), (3, .int l3)] [] M := by
  intro n
  induction n with
  | zero => intro _ _ _ _; exact RF.none
  | succ n ih =>
    intro l1 l2 l3 M
    rw [f_X0_findTraders_L43]
    refine R_iload_n (pc' := 44) (i := 3) (j := 3) (x := l3) dX0_findTraders_43 rfl rfl rfl ?_
    refine R_aloadq_n (pc' := 45) (i := 0) (j := 0) (q := (some this)) dX0_findTraders_44 rfl rfl rfl ?_
    refine R_getR (pc' := 48) (q := (some this)) fl_X0_43 rfl dX0_findTraders_45 rfl (fun told1 => ?_)
    refine R_getI (pc' := 51) (q := told1) fl_X0_82 rfl dX0_findTraders_48 rfl (fun ships2 => ?_)
    refine R_icmp_ge (pc' := 54) (tgt := 176) (a := l3) (b := ships2) dX0_findTraders_51 (by decide) rfl ?_ ?_
    · exact R_vret dX0_findTraders_176
    · refine R_iload_n (pc' := 55) (i := 3) (j := 3) (x := l3) dX0_findTraders_54 rfl rfl rfl ?_
      refine R_iconst (pc' := 56) (x := (nI 1)) dX0_findTraders_55 rfl (by decide) ?_
      refine R_iadd (pc' := 57) (a := l3) (b := (nI 1)) dX0_findTraders_56 rfl ?_
      refine R_nmI (fun v3 => ?_)
      refine R_istore (pc' := 59) (L' := [(4, .int v3), (0, va_rf (some this)), (1, .int l1), (2, .int l2), (3, .int l3)]) (i := 4) (x := v3) dX0_findTraders_57 rfl (by decide) rfl ?_
      exact R_sub [1, 2, 3, 4, 0] rfl (rf_X0_findTraders_L59 this (f_X0_findTraders_L43 this n) ih FU l1 l2 l3 v3 M)
def f_X0_findTraders (this : Nat) (l1 : Int32) (M : Mem) : Option (Unit × Mem) :=
  (gR M 0 5 (some this)).bind fun told1 =>
  (gR M 0 4 (some this)).bind fun book2 =>
  (gR M 2 1 book2).bind fun scene3 =>
  (oO M 8 told1).bind fun o10 => cl (f_X8_waiting o10 scene3 M) fun r4 M =>
  (pI M 0 1 (some this) (-1 : Int32)).bind fun M =>
  (pI M 0 2 (some this) (-1 : Int32)).bind fun M =>
  (gR M 0 5 (some this)).bind fun told5 =>
  (oO M 0 (some this)).bind fun o9 => cl (f_X0_later o9 l1 M) fun r6 M =>
  (oO M 8 told5).bind fun o8 => cl (f_X8_earned o8 r6 M) fun r7 M =>
  (pI M 0 0 (some this) r7).bind fun M =>
  f_X0_findTraders_L43 this FU l1 r4 (nI 0) M
set_option maxHeartbeats 2000000 in
set_option maxRecDepth 20000 in
theorem rm_X0_findTraders (this : Nat) (l1 : Int32) (M : Mem) : RFm yX0_findTraders cX0_findTraders 6 none 7 eV (f_X0_findTraders this l1 M) [va_rf (some this), .int l1] M := by
  refine RFm_of (L := [(0, va_rf (some this)), (1, .int l1)]) (by decide) rfl (Nat.le_trans (c_R (c_I c_0)) (by decide)) ?_
  rw [f_X0_findTraders]
  refine R_aloadq_n (pc' := 1) (i := 0) (j := 0) (q := (some this)) dX0_findTraders_0 rfl rfl rfl ?_
  refine R_getR (pc' := 4) (q := (some this)) fl_X0_43 rfl dX0_findTraders_1 rfl (fun told1 => ?_)
  refine R_aloadq_n (pc' := 5) (i := 0) (j := 0) (q := (some this)) dX0_findTraders_4 rfl rfl rfl ?_
  refine R_getR (pc' := 8) (q := (some this)) fl_X0_33 rfl dX0_findTraders_5 rfl (fun book2 => ?_)
  refine R_getR (pc' := 11) (q := book2) fl_X0_48 rfl dX0_findTraders_8 rfl (fun scene3 => ?_)
  refine R_callV_I (pc' := 14) (q := told1) (As := [va_rf scene3]) (fun o10 => rm_X8_waiting o10 scene3 M) mf_X8_waiting lk_X0_130 im_X8_waiting se_X8_waiting rfl rfl rfl dX0_findTraders_11 rfl (by decide) (Nat.le_trans c_0 (by decide)) (fun r4 M => ?_)
  refine R_istore_n (pc' := 15) (L' := [(2, .int r4), (0, va_rf (some this)), (1, .int l1)]) (i := 2) (x := r4) dX0_findTraders_14 rfl rfl (by decide) rfl ?_
  refine R_aloadq_n (pc' := 16) (i := 0) (j := 1) (q := (some this)) dX0_findTraders_15 rfl rfl rfl ?_
  refine R_iconst (pc' := 17) (x := (-1 : Int32)) dX0_findTraders_16 rfl (by decide) ?_
  refine R_putI (pc' := 20) (q := (some this)) (x := (-1 : Int32)) fl_X0_75 (Or.inl rfl) dX0_findTraders_17 rfl (fun M => ?_)
  refine R_aloadq_n (pc' := 21) (i := 0) (j := 1) (q := (some this)) dX0_findTraders_20 rfl rfl rfl ?_
  refine R_iconst (pc' := 22) (x := (-1 : Int32)) dX0_findTraders_21 rfl (by decide) ?_
  refine R_putI (pc' := 25) (q := (some this)) (x := (-1 : Int32)) fl_X0_133 (Or.inl rfl) dX0_findTraders_22 rfl (fun M => ?_)
  refine R_aloadq_n (pc' := 26) (i := 0) (j := 1) (q := (some this)) dX0_findTraders_25 rfl rfl rfl ?_
  refine R_aloadq_n (pc' := 27) (i := 0) (j := 1) (q := (some this)) dX0_findTraders_26 rfl rfl rfl ?_
  refine R_getR (pc' := 30) (q := (some this)) fl_X0_43 rfl dX0_findTraders_27 rfl (fun told5 => ?_)
  refine R_aloadq_n (pc' := 31) (i := 0) (j := 1) (q := (some this)) dX0_findTraders_30 rfl rfl rfl ?_
  refine R_iload_n (pc' := 32) (i := 1) (j := 2) (x := l1) dX0_findTraders_31 rfl rfl rfl ?_
  refine R_callV_R (pc' := 35) (q := (some this)) (As := [.int l1]) (fun o9 => rm_X0_later o9 l1 M) mf_X0_later lk_X0_78 im_X0_later se_X0_later rfl rfl rfl dX0_findTraders_32 rfl (by decide) (Nat.le_trans (c_R (c_R c_0)) (by decide)) (fun r6 M => ?_)
  refine R_callV_I (pc' := 38) (q := told5) (As := [va_rf r6]) (fun o8 => rm_X8_earned o8 r6 M) mf_X8_earned lk_X0_127 im_X8_earned se_X8_earned rfl rfl rfl dX0_findTraders_35 rfl (by decide) (Nat.le_trans (c_R c_0) (by decide)) (fun r7 M => ?_)
  refine R_putI (pc' := 41) (q := (some this)) (x := r7) fl_X0_65 (Or.inl rfl) dX0_findTraders_38 rfl (fun M => ?_)
  refine R_iconst (pc' := 42) (x := (nI 0)) dX0_findTraders_41 rfl (by decide) ?_
  refine R_istore_n (pc' := 43) (L' := [(3, .int (nI 0)), (2, .int r4), (0, va_rf (some this)), (1, .int l1)]) (i := 3) (x := (nI 0)) dX0_findTraders_42 rfl rfl (by decide) rfl ?_
  exact R_sub [2, 3, 1, 0] rfl (rf_X0_findTraders_L43 this FU l1 r4 (nI 0) M)
