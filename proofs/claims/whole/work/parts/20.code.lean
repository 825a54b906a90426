/-! BarPilotModel.ruleClause(I)V -/
def f_X10_ruleClause_J104 (this : Nat) (l3 : Int32) (M : Mem) : Option (Unit × Mem) :=
  (gR M 10 33 (some this)).bind fun endAt1 =>
  (gI M 10 22 (some this)).bind fun entries2 =>
  (wI M 0 endAt1 l3 entries2).bind fun M =>
  some ((), M)
set_option maxHeartbeats 2000000 in
set_option maxRecDepth 20000 in
theorem rf_X10_ruleClause_J104 (this : Nat) (l3 : Int32) (M : Mem) : RF yX10_ruleClause cX10_ruleClause 4 none 12 eV (f_X10_ruleClause_J104 this l3 M) 104 [(0, va_rf (some this)), (3, .int l3)] [] M := by
  rw [f_X10_ruleClause_J104]
  refine R_aloadq_n (pc' := 105) (i := 0) (j := 0) (q := (some this)) dX10_ruleClause_104 rfl rfl rfl ?_
  refine R_getR (pc' := 108) (q := (some this)) fl_X10_81 rfl dX10_ruleClause_105 rfl (fun endAt1 => ?_)
  refine R_iload_n (pc' := 109) (i := 3) (j := 1) (x := l3) dX10_ruleClause_108 rfl rfl rfl ?_
  refine R_aloadq_n (pc' := 110) (i := 0) (j := 0) (q := (some this)) dX10_ruleClause_109 rfl rfl rfl ?_
  refine R_getI (pc' := 113) (q := (some this)) fl_X10_198 rfl dX10_ruleClause_110 rfl (fun entries2 => ?_)
  refine R_iast (pc' := 114) (q := endAt1) (i := l3) (x := entries2) dX10_ruleClause_113 rfl (fun M => ?_)
  exact R_vret dX10_ruleClause_114
def f_X10_ruleClause (this : Nat) (l1 : Int32) (M : Mem) : Option (Unit × Mem) :=
  (oO M 10 (some this)).bind fun o23 => cl (f_X10_blanks o23 M) fun u1 M =>
  (gI M 10 18 (some this)).bind fun p2 =>
  (oO M 10 (some this)).bind fun o22 => cl (f_X10_stood o22 (17 : UInt32) M) fun r3 M =>
  (if r3 = 0 then
    ((oO M 10 (some this)).bind fun o21 => cl (f_X10_fails o21 (nI 0) p2 M) fun u20 M =>
    some ((), M))
  else
    ((if l1 = (nI 12) then
      ((oO M 10 (some this)).bind fun o19 => cl (f_X10_fails o19 (nI 4) p2 M) fun u18 M =>
      some ((), M))
    else
      ((gI M 10 18 (some this)).bind fun p4 =>
      (pI M 10 18 (some this) (p4 + (nI 4))).bind fun M =>
      (gI M 10 20 (some this)).bind fun slot5 =>
      nm (((nI 12) * slot5) + l1) fun v6 =>
      (gR M 10 31 (some this)).bind fun sumAt7 =>
      (gI M 10 22 (some this)).bind fun entries8 =>
      (wI M 0 sumAt7 v6 entries8).bind fun M =>
      (oO M 10 (some this)).bind fun o17 => cl (f_X10_sum o17 M) fun u9 M =>
      (gR M 10 32 (some this)).bind fun testAt10 =>
      (gI M 10 22 (some this)).bind fun entries11 =>
      (wI M 0 testAt10 v6 entries11).bind fun M =>
      (gI M 10 19 (some this)).bind fun fault12 =>
      (if fault12 = 0 then
        ((oO M 10 (some this)).bind fun o16 => cl (f_X10_takes o16 (18 : UInt32) M) fun r13 M =>
        (if r13 = 0 then
          (f_X10_ruleClause_J104 this v6 M)
        else
          ((oO M 10 (some this)).bind fun o15 => cl (f_X10_test o15 M) fun u14 M =>
          f_X10_ruleClause_J104 this v6 M)))
      else
        (f_X10_ruleClause_J104 this v6 M))))))
set_option maxHeartbeats 2000000 in
set_option maxRecDepth 20000 in
theorem rm_X10_ruleClause (this : Nat) (l1 : Int32) (M : Mem) : RFm yX10_ruleClause cX10_ruleClause 4 none 12 eV (f_X10_ruleClause this l1 M) [va_rf (some this), .int l1] M := by
  refine RFm_of (L := [(0, va_rf (some this)), (1, .int l1)]) (by decide) rfl (Nat.le_trans (c_R (c_I c_0)) (by decide)) ?_
  rw [f_X10_ruleClause]
  refine R_aloadq_n (pc' := 1) (i := 0) (j := 0) (q := (some this)) dX10_ruleClause_0 rfl rfl rfl ?_
  refine R_callV_V (pc' := 4) (q := (some this)) (As := []) (fun o23 => rm_X10_blanks o23 M) mf_X10_blanks lk_X10_188 im_X10_blanks se_X10_blanks rfl rfl rfl dX10_ruleClause_1 rfl (by decide) (Nat.le_trans c_0 (by decide)) (fun u1 M => ?_)
  refine R_aloadq_n (pc' := 5) (i := 0) (j := 0) (q := (some this)) dX10_ruleClause_4 rfl rfl rfl ?_
  refine R_getI (pc' := 8) (q := (some this)) fl_X10_168 rfl dX10_ruleClause_5 rfl (fun p2 => ?_)
  refine R_istore_n (pc' := 9) (L' := [(2, .int p2), (0, va_rf (some this)), (1, .int l1)]) (i := 2) (x := p2) dX10_ruleClause_8 rfl rfl (by decide) rfl ?_
  refine R_aloadq_n (pc' := 10) (i := 0) (j := 1) (q := (some this)) dX10_ruleClause_9 rfl rfl rfl ?_
  refine R_kstrw (pc' := 13) (u := (17 : UInt32)) (i := 16) rfl (by decide) rfl rfl dX10_ruleClause_10 rfl ?_
  refine R_callV_I (pc' := 16) (q := (some this)) (As := [.float (17 : UInt32)]) (fun o22 => rm_X10_stood o22 (17 : UInt32) M) mf_X10_stood lk_X10_191 im_X10_stood se_X10_stood rfl rfl rfl dX10_ruleClause_13 rfl (by decide) (Nat.le_trans c_0 (by decide)) (fun r3 M => ?_)
  refine R_if_ne (pc' := 19) (tgt := 26) (a := r3) dX10_ruleClause_16 (by decide) rfl ?_ ?_
  · refine R_iload_n (pc' := 27) (i := 1) (j := 2) (x := l1) dX10_ruleClause_26 rfl rfl rfl ?_
    refine R_bipush (pc' := 29) (x := (nI 12)) dX10_ruleClause_27 rfl (by decide) ?_
    refine R_icmp_ne (pc' := 32) (tgt := 39) (a := l1) (b := (nI 12)) dX10_ruleClause_29 (by decide) rfl ?_ ?_
    · refine R_aloadq_n (pc' := 40) (i := 0) (j := 1) (q := (some this)) dX10_ruleClause_39 rfl rfl rfl ?_
      refine R_dup (pc' := 41) dX10_ruleClause_40 rfl (rf_cat _) ?_
      refine R_getI (pc' := 44) (q := (some this)) fl_X10_168 rfl dX10_ruleClause_41 rfl (fun p4 => ?_)
      refine R_iconst (pc' := 45) (x := (nI 4)) dX10_ruleClause_44 rfl (by decide) ?_
      refine R_iadd (pc' := 46) (a := p4) (b := (nI 4)) dX10_ruleClause_45 rfl ?_
      refine R_putI (pc' := 49) (q := (some this)) (x := (p4 + (nI 4))) fl_X10_168 (Or.inl rfl) dX10_ruleClause_46 rfl (fun M => ?_)
      refine R_bipush (pc' := 51) (x := (nI 12)) dX10_ruleClause_49 rfl (by decide) ?_
      refine R_aloadq_n (pc' := 52) (i := 0) (j := 1) (q := (some this)) dX10_ruleClause_51 rfl rfl rfl ?_
      refine R_getI (pc' := 55) (q := (some this)) fl_X10_195 rfl dX10_ruleClause_52 rfl (fun slot5 => ?_)
      refine R_imul (pc' := 56) (a := (nI 12)) (b := slot5) dX10_ruleClause_55 rfl ?_
      refine R_iload_n (pc' := 57) (i := 1) (j := 2) (x := l1) dX10_ruleClause_56 rfl rfl rfl ?_
      refine R_iadd (pc' := 58) (a := ((nI 12) * slot5)) (b := l1) dX10_ruleClause_57 rfl ?_
      refine R_nmI (fun v6 => ?_)
      refine R_istore_n (pc' := 59) (L' := [(3, .int v6), (2, .int p2), (0, va_rf (some this)), (1, .int l1)]) (i := 3) (x := v6) dX10_ruleClause_58 rfl rfl (by decide) rfl ?_
      refine R_aloadq_n (pc' := 60) (i := 0) (j := 2) (q := (some this)) dX10_ruleClause_59 rfl rfl rfl ?_
      refine R_getR (pc' := 63) (q := (some this)) fl_X10_75 rfl dX10_ruleClause_60 rfl (fun sumAt7 => ?_)
      refine R_iload_n (pc' := 64) (i := 3) (j := 0) (x := v6) dX10_ruleClause_63 rfl rfl rfl ?_
      refine R_aloadq_n (pc' := 65) (i := 0) (j := 2) (q := (some this)) dX10_ruleClause_64 rfl rfl rfl ?_
      refine R_getI (pc' := 68) (q := (some this)) fl_X10_198 rfl dX10_ruleClause_65 rfl (fun entries8 => ?_)
      refine R_iast (pc' := 69) (q := sumAt7) (i := v6) (x := entries8) dX10_ruleClause_68 rfl (fun M => ?_)
      refine R_aloadq_n (pc' := 70) (i := 0) (j := 2) (q := (some this)) dX10_ruleClause_69 rfl rfl rfl ?_
      refine R_callV_V (pc' := 73) (q := (some this)) (As := []) (fun o17 => rm_X10_sum o17 M) mf_X10_sum lk_X10_233 im_X10_sum se_X10_sum rfl rfl rfl dX10_ruleClause_70 rfl (by decide) (Nat.le_trans c_0 (by decide)) (fun u9 M => ?_)
      refine R_aloadq_n (pc' := 74) (i := 0) (j := 2) (q := (some this)) dX10_ruleClause_73 rfl rfl rfl ?_
      refine R_getR (pc' := 77) (q := (some this)) fl_X10_78 rfl dX10_ruleClause_74 rfl (fun testAt10 => ?_)
      refine R_iload_n (pc' := 78) (i := 3) (j := 0) (x := v6) dX10_ruleClause_77 rfl rfl rfl ?_
      refine R_aloadq_n (pc' := 79) (i := 0) (j := 2) (q := (some this)) dX10_ruleClause_78 rfl rfl rfl ?_
      refine R_getI (pc' := 82) (q := (some this)) fl_X10_198 rfl dX10_ruleClause_79 rfl (fun entries11 => ?_)
      refine R_iast (pc' := 83) (q := testAt10) (i := v6) (x := entries11) dX10_ruleClause_82 rfl (fun M => ?_)
      refine R_aloadq_n (pc' := 84) (i := 0) (j := 2) (q := (some this)) dX10_ruleClause_83 rfl rfl rfl ?_
      refine R_getI (pc' := 87) (q := (some this)) fl_X10_165 rfl dX10_ruleClause_84 rfl (fun fault12 => ?_)
      refine R_if_ne (pc' := 90) (tgt := 104) (a := fault12) dX10_ruleClause_87 (by decide) rfl ?_ ?_
      · exact R_sub [2, 0] rfl (rf_X10_ruleClause_J104 this v6 M)
      · refine R_aloadq_n (pc' := 91) (i := 0) (j := 2) (q := (some this)) dX10_ruleClause_90 rfl rfl rfl ?_
        refine R_kstrw (pc' := 94) (u := (18 : UInt32)) (i := 17) rfl (by decide) rfl rfl dX10_ruleClause_91 rfl ?_
        refine R_callV_I (pc' := 97) (q := (some this)) (As := [.float (18 : UInt32)]) (fun o16 => rm_X10_takes o16 (18 : UInt32) M) mf_X10_takes lk_X10_306 im_X10_takes se_X10_takes rfl rfl rfl dX10_ruleClause_94 rfl (by decide) (Nat.le_trans c_0 (by decide)) (fun r13 M => ?_)
        refine R_if_eq (pc' := 100) (tgt := 104) (a := r13) dX10_ruleClause_97 (by decide) rfl ?_ ?_
        · exact R_sub [2, 0] rfl (rf_X10_ruleClause_J104 this v6 M)
        · refine R_aloadq_n (pc' := 101) (i := 0) (j := 2) (q := (some this)) dX10_ruleClause_100 rfl rfl rfl ?_
          refine R_callV_V (pc' := 104) (q := (some this)) (As := []) (fun o15 => rm_X10_test o15 M) mf_X10_test lk_X10_309 im_X10_test se_X10_test rfl rfl rfl dX10_ruleClause_101 rfl (by decide) (Nat.le_trans c_0 (by decide)) (fun u14 M => ?_)
          exact R_sub [2, 0] rfl (rf_X10_ruleClause_J104 this v6 M)
    · refine R_aloadq_n (pc' := 33) (i := 0) (j := 1) (q := (some this)) dX10_ruleClause_32 rfl rfl rfl ?_
      refine R_iconst (pc' := 34) (x := (nI 4)) dX10_ruleClause_33 rfl (by decide) ?_
      refine R_iload_n (pc' := 35) (i := 2) (j := 0) (x := p2) dX10_ruleClause_34 rfl rfl rfl ?_
      refine R_callV_V (pc' := 38) (q := (some this)) (As := [.int (nI 4), .int p2]) (fun o19 => rm_X10_fails o19 (nI 4) p2 M) mf_X10_fails lk_X10_204 im_X10_fails se_X10_fails rfl rfl rfl dX10_ruleClause_35 rfl (by decide) (Nat.le_trans c_0 (by decide)) (fun u18 M => ?_)
      exact R_vret dX10_ruleClause_38
  · refine R_aloadq_n (pc' := 20) (i := 0) (j := 1) (q := (some this)) dX10_ruleClause_19 rfl rfl rfl ?_
    refine R_iconst (pc' := 21) (x := (nI 0)) dX10_ruleClause_20 rfl (by decide) ?_
    refine R_iload_n (pc' := 22) (i := 2) (j := 0) (x := p2) dX10_ruleClause_21 rfl rfl rfl ?_
    refine R_callV_V (pc' := 25) (q := (some this)) (As := [.int (nI 0), .int p2]) (fun o21 => rm_X10_fails o21 (nI 0) p2 M) mf_X10_fails lk_X10_204 im_X10_fails se_X10_fails rfl rfl rfl dX10_ruleClause_22 rfl (by decide) (Nat.le_trans c_0 (by decide)) (fun u20 M => ?_)
    exact R_vret dX10_ruleClause_25
/-! BarPilotModel.rule()I -/
def f_X10_rule_J106 (this : Nat) (s0 : Int32) (M : Mem) : Option (Int32 × Mem) :=
  some (s0, M)
set_option maxHeartbeats 2000000 in
set_option maxRecDepth 20000 in
theorem rf_X10_rule_J106 (this : Nat) (s0 : Int32) (M : Mem) : RF yX10_rule cX10_rule 3 (some .int) 13 eI (f_X10_rule_J106 this s0 M) 106 [] [.int s0] M := by
  rw [f_X10_rule_J106]
  exact R_iret dX10_rule_106
def f_X10_rule_J79 (this : Nat) (s0 : Int32) (s1 : Int32) (s2 : Option Nat) (M : Mem) : Option (Int32 × Mem) :=
  (pI M 10 21 s2 (s1 + s0)).bind fun M =>
  (gI M 10 19 (some this)).bind fun fault1 =>
  (if fault1 ≤ 0 then
    ((gI M 10 21 (some this)).bind fun rules2 =>
    f_X10_rule_J106 this (rules2 - (nI 1)) M)
  else
    ((gI M 10 19 (some this)).bind fun fault3 =>
    f_X10_rule_J106 this ((-2 : Int32) - fault3) M))
set_option maxHeartbeats 2000000 in
set_option maxRecDepth 20000 in
theorem rf_X10_rule_J79 (this : Nat) (s0 : Int32) (s1 : Int32) (s2 : Option Nat) (M : Mem) : RF yX10_rule cX10_rule 3 (some .int) 13 eI (f_X10_rule_J79 this s0 s1 s2 M) 79 [(0, va_rf (some this))] [.int s0, .int s1, va_rf s2] M := by
  rw [f_X10_rule_J79]
  refine R_iadd (pc' := 80) (a := s1) (b := s0) dX10_rule_79 rfl ?_
  refine R_putI (pc' := 83) (q := s2) (x := (s1 + s0)) fl_X10_312 (Or.inl rfl) dX10_rule_80 rfl (fun M => ?_)
  refine R_aloadq_n (pc' := 84) (i := 0) (j := 0) (q := (some this)) dX10_rule_83 rfl rfl rfl ?_
  refine R_getI (pc' := 87) (q := (some this)) fl_X10_165 rfl dX10_rule_84 rfl (fun fault1 => ?_)
  refine R_if_le (pc' := 90) (tgt := 100) (a := fault1) dX10_rule_87 (by decide) rfl ?_ ?_
  · refine R_aloadq_n (pc' := 101) (i := 0) (j := 0) (q := (some this)) dX10_rule_100 rfl rfl rfl ?_
    refine R_getI (pc' := 104) (q := (some this)) fl_X10_312 rfl dX10_rule_101 rfl (fun rules2 => ?_)
    refine R_iconst (pc' := 105) (x := (nI 1)) dX10_rule_104 rfl (by decide) ?_
    refine R_isub (pc' := 106) (a := rules2) (b := (nI 1)) dX10_rule_105 rfl ?_
    exact R_sub [] rfl (rf_X10_rule_J106 this (rules2 - (nI 1)) M)
  · refine R_bipush (pc' := 92) (x := (-2 : Int32)) dX10_rule_90 rfl (by decide) ?_
    refine R_aloadq_n (pc' := 93) (i := 0) (j := 0) (q := (some this)) dX10_rule_92 rfl rfl rfl ?_
    refine R_getI (pc' := 96) (q := (some this)) fl_X10_165 rfl dX10_rule_93 rfl (fun fault3 => ?_)
    refine R_isub (pc' := 97) (a := (-2 : Int32)) (b := fault3) dX10_rule_96 rfl ?_
    refine R_goto (tgt := 106) dX10_rule_97 (by decide) ?_
    exact R_sub [] rfl (rf_X10_rule_J106 this ((-2 : Int32) - fault3) M)
def f_X10_rule_L27 (this : Nat) : Nat → Int32 → Int32 → Mem → Option (Int32 × Mem)
  | 0, _, _, _ => none
  | n + 1, l1, l2, M =>
    (if l2 = 0 then
      ((pI M 10 17 (some this) (nI 0)).bind fun M =>
      (gR M 10 30 (some this)).bind fun clauses1 =>
      (gI M 10 20 (some this)).bind fun slot2 =>
      (wI M 0 clauses1 slot2 l1).bind fun M =>
      (gI M 10 21 (some this)).bind fun rules3 =>
      (gI M 10 19 (some this)).bind fun fault4 =>
      (if fault4 = 0 then
        (f_X10_rule_J79 this (nI 1) rules3 (some this) M)
      else
        (f_X10_rule_J79 this (nI 0) rules3 (some this) M)))
    else
      ((oO M 10 (some this)).bind fun o8 => cl (f_X10_ruleClause o8 l1 M) fun u5 M =>
      (oO M 10 (some this)).bind fun o7 => cl (f_X10_goesOn o7 M) fun r6 M =>
      (f_X10_rule_L27 this n) (l1 + (nI 1)) r6 M))
set_option maxHeartbeats 2000000 in
set_option maxRecDepth 20000 in
theorem rf_X10_rule_L27 (this : Nat) : ∀ (n : Nat) (l1 : Int32) (l2 : Int32) (M : Mem), RF yX10_rule cX10_rule 3 (some .int) 13 eI (f_X10_rule_L27 this n l1 l2 M) 27 [(0, va_rf (some this)), (1, .int l1), (2, .int l2)] [] M := by
  intro n
  induction n with
  | zero => intro _ _ _; exact RF.none
  | succ n ih =>
    intro l1 l2 M
    rw [f_X10_rule_L27]
    refine R_iload_n (pc' := 28) (i := 2) (j := 2) (x := l2) dX10_rule_27 rfl rfl rfl ?_
    refine R_if_eq (pc' := 31) (tgt := 47) (a := l2) dX10_rule_28 (by decide) rfl ?_ ?_
    · refine R_aloadq_n (pc' := 48) (i := 0) (j := 0) (q := (some this)) dX10_rule_47 rfl rfl rfl ?_
      refine R_iconst (pc' := 49) (x := (nI 0)) dX10_rule_48 rfl (by decide) ?_
      refine R_putI (pc' := 52) (q := (some this)) (x := (nI 0)) fl_X10_139 (Or.inl rfl) dX10_rule_49 rfl (fun M => ?_)
      refine R_aloadq_n (pc' := 53) (i := 0) (j := 0) (q := (some this)) dX10_rule_52 rfl rfl rfl ?_
      refine R_getR (pc' := 56) (q := (some this)) fl_X10_72 rfl dX10_rule_53 rfl (fun clauses1 => ?_)
      refine R_aloadq_n (pc' := 57) (i := 0) (j := 0) (q := (some this)) dX10_rule_56 rfl rfl rfl ?_
      refine R_getI (pc' := 60) (q := (some this)) fl_X10_195 rfl dX10_rule_57 rfl (fun slot2 => ?_)
      refine R_iload_n (pc' := 61) (i := 1) (j := 1) (x := l1) dX10_rule_60 rfl rfl rfl ?_
      refine R_iast (pc' := 62) (q := clauses1) (i := slot2) (x := l1) dX10_rule_61 rfl (fun M => ?_)
      refine R_aloadq_n (pc' := 63) (i := 0) (j := 0) (q := (some this)) dX10_rule_62 rfl rfl rfl ?_
      refine R_dup (pc' := 64) dX10_rule_63 rfl (rf_cat _) ?_
      refine R_getI (pc' := 67) (q := (some this)) fl_X10_312 rfl dX10_rule_64 rfl (fun rules3 => ?_)
      refine R_aloadq_n (pc' := 68) (i := 0) (j := 0) (q := (some this)) dX10_rule_67 rfl rfl rfl ?_
      refine R_getI (pc' := 71) (q := (some this)) fl_X10_165 rfl dX10_rule_68 rfl (fun fault4 => ?_)
      refine R_if_ne (pc' := 74) (tgt := 78) (a := fault4) dX10_rule_71 (by decide) rfl ?_ ?_
      · refine R_iconst (pc' := 79) (x := (nI 0)) dX10_rule_78 rfl (by decide) ?_
        exact R_sub [0] rfl (rf_X10_rule_J79 this (nI 0) rules3 (some this) M)
      · refine R_iconst (pc' := 75) (x := (nI 1)) dX10_rule_74 rfl (by decide) ?_
        refine R_goto (tgt := 79) dX10_rule_75 (by decide) ?_
        exact R_sub [0] rfl (rf_X10_rule_J79 this (nI 1) rules3 (some this) M)
    · refine R_aloadq_n (pc' := 32) (i := 0) (j := 0) (q := (some this)) dX10_rule_31 rfl rfl rfl ?_
      refine R_iload_n (pc' := 33) (i := 1) (j := 1) (x := l1) dX10_rule_32 rfl rfl rfl ?_
      refine R_callV_V (pc' := 36) (q := (some this)) (As := [.int l1]) (fun o8 => rm_X10_ruleClause o8 l1 M) mf_X10_ruleClause lk_X10_315 im_X10_ruleClause se_X10_ruleClause rfl rfl rfl dX10_rule_33 rfl (by decide) (Nat.le_trans c_0 (by decide)) (fun u5 M => ?_)
      refine R_iinc (pc' := 39) (L' := [(1, .int (l1 + (nI 1))), (0, va_rf (some this)), (2, .int l2)]) (i := 1) (j := 1) (x := l1) (x2 := (l1 + (nI 1))) dX10_rule_36 rfl rfl rfl (by decide) rfl ?_
      refine R_aloadq_n (pc' := 40) (i := 0) (j := 1) (q := (some this)) dX10_rule_39 rfl rfl rfl ?_
      refine R_callV_I (pc' := 43) (q := (some this)) (As := []) (fun o7 => rm_X10_goesOn o7 M) mf_X10_goesOn lk_X10_286 im_X10_goesOn se_X10_goesOn rfl rfl rfl dX10_rule_40 rfl (by decide) (Nat.le_trans c_0 (by decide)) (fun r6 M => ?_)
      refine R_istore_n (pc' := 44) (L' := [(2, .int r6), (1, .int (l1 + (nI 1))), (0, va_rf (some this))]) (i := 2) (x := r6) dX10_rule_43 rfl rfl (by decide) rfl ?_
      refine R_goto (tgt := 27) dX10_rule_44 (by decide) ?_
      exact R_sub [2, 1, 0] rfl (ih (l1 + (nI 1)) r6 M)
def f_X10_rule (this : Nat) (M : Mem) : Option (Int32 × Mem) :=
  (gI M 10 21 (some this)).bind fun rules1 =>
  (if rules1 = (nI 6) then
    (some ((-1 : Int32), M))
  else
    ((gI M 10 21 (some this)).bind fun rules2 =>
    (pI M 10 20 (some this) rules2).bind fun M =>
    (oO M 10 (some this)).bind fun o4 => cl (f_X10_starts o4 M) fun u3 M =>
    f_X10_rule_L27 this FU (nI 0) (nI 1) M))
set_option maxHeartbeats 2000000 in
set_option maxRecDepth 20000 in
theorem rm_X10_rule (this : Nat) (M : Mem) : RFm yX10_rule cX10_rule 3 (some .int) 13 eI (f_X10_rule this M) [va_rf (some this)] M := by
  refine RFm_of (L := [(0, va_rf (some this))]) (by decide) rfl (Nat.le_trans (c_R c_0) (by decide)) ?_
  rw [f_X10_rule]
  refine R_aloadq_n (pc' := 1) (i := 0) (j := 0) (q := (some this)) dX10_rule_0 rfl rfl rfl ?_
  refine R_getI (pc' := 4) (q := (some this)) fl_X10_312 rfl dX10_rule_1 rfl (fun rules1 => ?_)
  refine R_bipush (pc' := 6) (x := (nI 6)) dX10_rule_4 rfl (by decide) ?_
  refine R_icmp_ne (pc' := 9) (tgt := 11) (a := rules1) (b := (nI 6)) dX10_rule_6 (by decide) rfl ?_ ?_
  · refine R_aloadq_n (pc' := 12) (i := 0) (j := 0) (q := (some this)) dX10_rule_11 rfl rfl rfl ?_
    refine R_aloadq_n (pc' := 13) (i := 0) (j := 0) (q := (some this)) dX10_rule_12 rfl rfl rfl ?_
    refine R_getI (pc' := 16) (q := (some this)) fl_X10_312 rfl dX10_rule_13 rfl (fun rules2 => ?_)
    refine R_putI (pc' := 19) (q := (some this)) (x := rules2) fl_X10_195 (Or.inl rfl) dX10_rule_16 rfl (fun M => ?_)
    refine R_aloadq_n (pc' := 20) (i := 0) (j := 0) (q := (some this)) dX10_rule_19 rfl rfl rfl ?_
    refine R_callV_V (pc' := 23) (q := (some this)) (As := []) (fun o4 => rm_X10_starts o4 M) mf_X10_starts lk_X10_280 im_X10_starts se_X10_starts rfl rfl rfl dX10_rule_20 rfl (by decide) (Nat.le_trans c_0 (by decide)) (fun u3 M => ?_)
    refine R_iconst (pc' := 24) (x := (nI 0)) dX10_rule_23 rfl (by decide) ?_
    refine R_istore_n (pc' := 25) (L' := [(1, .int (nI 0)), (0, va_rf (some this))]) (i := 1) (x := (nI 0)) dX10_rule_24 rfl rfl (by decide) rfl ?_
    refine R_iconst (pc' := 26) (x := (nI 1)) dX10_rule_25 rfl (by decide) ?_
    refine R_istore_n (pc' := 27) (L' := [(2, .int (nI 1)), (1, .int (nI 0)), (0, va_rf (some this))]) (i := 2) (x := (nI 1)) dX10_rule_26 rfl rfl (by decide) rfl ?_
    exact R_sub [2, 1, 0] rfl (rf_X10_rule_L27 this FU (nI 0) (nI 1) M)
  · refine R_iconst (pc' := 10) (x := (-1 : Int32)) dX10_rule_9 rfl (by decide) ?_
    exact R_iret dX10_rule_10
/-! BarPilotModel.force(I)I -/
def f_X10_force (this : Nat) (l1 : Int32) (M : Mem) : Option (Int32 × Mem) :=
  (gI M 10 21 (some this)).bind fun rules1 =>
  cl (f_X10_in (Int32.toInt64 l1) (-1 : Int64) (Int32.toInt64 (rules1 - (nI 1))) M) fun r2 M =>
  (if r2 = 0 then
    (some ((-2 : Int32), M))
  else
    ((gR M 10 1 (some this)).bind fun scalar3 =>
    (aI M 0 scalar3 (nI 8)).bind fun e4 =>
    (gR M 10 1 (some this)).bind fun scalar5 =>
    (wI M 0 scalar5 (nI 8) l1).bind fun M =>
    some (e4, M)))
set_option maxHeartbeats 2000000 in
set_option maxRecDepth 20000 in
theorem rm_X10_force (this : Nat) (l1 : Int32) (M : Mem) : RFm yX10_force cX10_force 3 (some .int) 2 eI (f_X10_force this l1 M) [va_rf (some this), .int l1] M := by
  refine RFm_of (L := [(0, va_rf (some this)), (1, .int l1)]) (by decide) rfl (Nat.le_trans (c_R (c_I c_0)) (by decide)) ?_
  rw [f_X10_force]
  refine R_iload_n (pc' := 1) (i := 1) (j := 1) (x := l1) dX10_force_0 rfl rfl rfl ?_
  refine R_i2l (pc' := 2) (a := l1) dX10_force_1 rfl ?_
  refine R_ldc2 (pc' := 5) (x := (-1 : Int64)) dX10_force_2 rfl c2_X10_318 ?_
  refine R_aloadq_n (pc' := 6) (i := 0) (j := 0) (q := (some this)) dX10_force_5 rfl rfl rfl ?_
  refine R_getI (pc' := 9) (q := (some this)) fl_X10_312 rfl dX10_force_6 rfl (fun rules1 => ?_)
  refine R_iconst (pc' := 10) (x := (nI 1)) dX10_force_9 rfl (by decide) ?_
  refine R_isub (pc' := 11) (a := rules1) (b := (nI 1)) dX10_force_10 rfl ?_
  refine R_i2l (pc' := 12) (a := (rules1 - (nI 1))) dX10_force_11 rfl ?_
  refine R_callS_I (pc' := 15) (As := [.long (Int32.toInt64 l1), .long (-1 : Int64), .long (Int32.toInt64 (rules1 - (nI 1)))]) (rm_X10_in (Int32.toInt64 l1) (-1 : Int64) (Int32.toInt64 (rules1 - (nI 1))) M) mf_X10_in lk_X10_131 sm_X10_in rfl rfl dX10_force_12 rfl (by decide) (Nat.le_trans c_0 (by decide)) (fun r2 M => ?_)
  refine R_if_ne (pc' := 18) (tgt := 21) (a := r2) dX10_force_15 (by decide) rfl ?_ ?_
  · refine R_aloadq_n (pc' := 22) (i := 0) (j := 0) (q := (some this)) dX10_force_21 rfl rfl rfl ?_
    refine R_getR (pc' := 25) (q := (some this)) fl_X10_9 rfl dX10_force_22 rfl (fun scalar3 => ?_)
    refine R_bipush (pc' := 27) (x := (nI 8)) dX10_force_25 rfl (by decide) ?_
    refine R_iald (pc' := 28) (q := scalar3) (i := (nI 8)) dX10_force_27 rfl (fun e4 => ?_)
    refine R_istore_n (pc' := 29) (L' := [(2, .int e4), (0, va_rf (some this)), (1, .int l1)]) (i := 2) (x := e4) dX10_force_28 rfl rfl (by decide) rfl ?_
    refine R_aloadq_n (pc' := 30) (i := 0) (j := 1) (q := (some this)) dX10_force_29 rfl rfl rfl ?_
    refine R_getR (pc' := 33) (q := (some this)) fl_X10_9 rfl dX10_force_30 rfl (fun scalar5 => ?_)
    refine R_bipush (pc' := 35) (x := (nI 8)) dX10_force_33 rfl (by decide) ?_
    refine R_iload_n (pc' := 36) (i := 1) (j := 2) (x := l1) dX10_force_35 rfl rfl rfl ?_
    refine R_iast (pc' := 37) (q := scalar5) (i := (nI 8)) (x := l1) dX10_force_36 rfl (fun M => ?_)
    refine R_iload_n (pc' := 38) (i := 2) (j := 0) (x := e4) dX10_force_37 rfl rfl rfl ?_
    exact R_iret dX10_force_38
  · refine R_bipush (pc' := 20) (x := (-2 : Int32)) dX10_force_18 rfl (by decide) ?_
    exact R_iret dX10_force_20
/-! BarPilotModel.truth(Z)J -/
def f_X10_truth_J9 (s0 : Int64) (M : Mem) : Option (Int64 × Mem) :=
  some (s0, M)
set_option maxHeartbeats 2000000 in
set_option maxRecDepth 20000 in
theorem rf_X10_truth_J9 (s0 : Int64) (M : Mem) : RF yX10_truth cX10_truth 1 (some .long) 1 eL (f_X10_truth_J9 s0 M) 9 [] [.long s0] M := by
  rw [f_X10_truth_J9]
  exact R_lret dX10_truth_9
def f_X10_truth (l0 : Int32) (M : Mem) : Option (Int64 × Mem) :=
  (if l0 = 0 then
    (f_X10_truth_J9 (0 : Int64) M)
  else
    (f_X10_truth_J9 (1 : Int64) M))
set_option maxHeartbeats 2000000 in
set_option maxRecDepth 20000 in
theorem rm_X10_truth (l0 : Int32) (M : Mem) : RFm yX10_truth cX10_truth 1 (some .long) 1 eL (f_X10_truth l0 M) [.int l0] M := by
  refine RFm_of (L := [(0, .int l0)]) (by decide) rfl (Nat.le_trans (c_I c_0) (by decide)) ?_
  rw [f_X10_truth]
  refine R_iload_n (pc' := 1) (i := 0) (j := 0) (x := l0) dX10_truth_0 rfl rfl rfl ?_
  refine R_if_eq (pc' := 4) (tgt := 8) (a := l0) dX10_truth_1 (by decide) rfl ?_ ?_
  · refine R_lconst (pc' := 9) (x := (0 : Int64)) dX10_truth_8 rfl (by decide) ?_
    exact R_sub [] rfl (rf_X10_truth_J9 (0 : Int64) M)
  · refine R_lconst (pc' := 5) (x := (1 : Int64)) dX10_truth_4 rfl (by decide) ?_
    refine R_goto (tgt := 9) dX10_truth_5 (by decide) ?_
    exact R_sub [] rfl (rf_X10_truth_J9 (1 : Int64) M)
/-! BarPilotModel.both(IJJ)J -/
def f_X10_both_J191 (l1 : Int64) (l3 : Int64) (M : Mem) : Option (Int64 × Mem) :=
  some ((l1 ||| l3), M)
set_option maxHeartbeats 2000000 in
set_option maxRecDepth 20000 in
theorem rf_X10_both_J191 (l1 : Int64) (l3 : Int64) (M : Mem) : RF yX10_both cX10_both 5 (some .long) 2 eL (f_X10_both_J191 l1 l3 M) 191 [(1, .long l1), (3, .long l3)] [] M := by
  rw [f_X10_both_J191]
  refine R_lload_n (pc' := 192) (i := 1) (j := 0) (x := l1) dX10_both_191 rfl rfl rfl ?_
  refine R_lload_n (pc' := 193) (i := 3) (j := 1) (x := l3) dX10_both_192 rfl rfl rfl ?_
  refine R_lor (pc' := 194) (a := l1) (b := l3) dX10_both_193 rfl ?_
  exact R_lret dX10_both_194
def f_X10_both_J123 (s0 : Int32) (M : Mem) : Option (Int64 × Mem) :=
  cl (f_X10_truth s0 M) fun r1 M =>
  some (r1, M)
set_option maxHeartbeats 2000000 in
set_option maxRecDepth 20000 in
theorem rf_X10_both_J123 (s0 : Int32) (M : Mem) : RF yX10_both cX10_both 5 (some .long) 2 eL (f_X10_both_J123 s0 M) 123 [] [.int s0] M := by
  rw [f_X10_both_J123]
  refine R_callS_L (pc' := 126) (As := [.int s0]) (rm_X10_truth s0 M) mf_X10_truth lk_X10_324 sm_X10_truth rfl rfl dX10_both_123 rfl (by decide) (Nat.le_trans c_0 (by decide)) (fun r1 M => ?_)
  exact R_lret dX10_both_126
def f_X10_both_J138 (s0 : Int32) (M : Mem) : Option (Int64 × Mem) :=
  cl (f_X10_truth s0 M) fun r1 M =>
  some (r1, M)
set_option maxHeartbeats 2000000 in
set_option maxRecDepth 20000 in
theorem rf_X10_both_J138 (s0 : Int32) (M : Mem) : RF yX10_both cX10_both 5 (some .long) 2 eL (f_X10_both_J138 s0 M) 138 [] [.int s0] M := by
  rw [f_X10_both_J138]
  refine R_callS_L (pc' := 141) (As := [.int s0]) (rm_X10_truth s0 M) mf_X10_truth lk_X10_324 sm_X10_truth rfl rfl dX10_both_138 rfl (by decide) (Nat.le_trans c_0 (by decide)) (fun r1 M => ?_)
  exact R_lret dX10_both_141
def f_X10_both_J153 (s0 : Int32) (M : Mem) : Option (Int64 × Mem) :=
  cl (f_X10_truth s0 M) fun r1 M =>
  some (r1, M)
set_option maxHeartbeats 2000000 in
set_option maxRecDepth 20000 in
theorem rf_X10_both_J153 (s0 : Int32) (M : Mem) : RF yX10_both cX10_both 5 (some .long) 2 eL (f_X10_both_J153 s0 M) 153 [] [.int s0] M := by
  rw [f_X10_both_J153]
  refine R_callS_L (pc' := 156) (As := [.int s0]) (rm_X10_truth s0 M) mf_X10_truth lk_X10_324 sm_X10_truth rfl rfl dX10_both_153 rfl (by decide) (Nat.le_trans c_0 (by decide)) (fun r1 M => ?_)
  exact R_lret dX10_both_156
def f_X10_both_J168 (s0 : Int32) (M : Mem) : Option (Int64 × Mem) :=
  cl (f_X10_truth s0 M) fun r1 M =>
  some (r1, M)
set_option maxHeartbeats 2000000 in
set_option maxRecDepth 20000 in
theorem rf_X10_both_J168 (s0 : Int32) (M : Mem) : RF yX10_both cX10_both 5 (some .long) 2 eL (f_X10_both_J168 s0 M) 168 [] [.int s0] M := by
  rw [f_X10_both_J168]
  refine R_callS_L (pc' := 171) (As := [.int s0]) (rm_X10_truth s0 M) mf_X10_truth lk_X10_324 sm_X10_truth rfl rfl dX10_both_168 rfl (by decide) (Nat.le_trans c_0 (by decide)) (fun r1 M => ?_)
  exact R_lret dX10_both_171
def f_X10_both_J183 (s0 : Int32) (M : Mem) : Option (Int64 × Mem) :=
  cl (f_X10_truth s0 M) fun r1 M =>
  some (r1, M)
set_option maxHeartbeats 2000000 in
set_option maxRecDepth 20000 in
theorem rf_X10_both_J183 (s0 : Int32) (M : Mem) : RF yX10_both cX10_both 5 (some .long) 2 eL (f_X10_both_J183 s0 M) 183 [] [.int s0] M := by
  rw [f_X10_both_J183]
  refine R_callS_L (pc' := 186) (As := [.int s0]) (rm_X10_truth s0 M) mf_X10_truth lk_X10_324 sm_X10_truth rfl rfl dX10_both_183 rfl (by decide) (Nat.le_trans c_0 (by decide)) (fun r1 M => ?_)
  exact R_lret dX10_both_186
def f_X10_both_J97 (s0 : Int64) (M : Mem) : Option (Int64 × Mem) :=
  some (s0, M)
set_option maxHeartbeats 2000000 in
set_option maxRecDepth 20000 in
theorem rf_X10_both_J97 (s0 : Int64) (M : Mem) : RF yX10_both cX10_both 5 (some .long) 2 eL (f_X10_both_J97 s0 M) 97 [] [.long s0] M := by
  rw [f_X10_both_J97]
  exact R_lret dX10_both_97
def f_X10_both_J111 (s0 : Int64) (M : Mem) : Option (Int64 × Mem) :=
  some (s0, M)
set_option maxHeartbeats 2000000 in
set_option maxRecDepth 20000 in
theorem rf_X10_both_J111 (s0 : Int64) (M : Mem) : RF yX10_both cX10_both 5 (some .long) 2 eL (f_X10_both_J111 s0 M) 111 [] [.long s0] M := by
  rw [f_X10_both_J111]
  exact R_lret dX10_both_111
def f_X10_both (l0 : Int32) (l1 : Int64) (l3 : Int64) (M : Mem) : Option (Int64 × Mem) :=
  (tsw l0 (2) [
    (some ((l1 + l3), M)),
    (some ((l1 - l3), M)),
    ((if 0 ≤ (lg_cmp l1 l3) then
      (f_X10_both_J123 (nI 0) M)
    else
      (f_X10_both_J123 (nI 1) M))),
    ((if 0 < (lg_cmp l1 l3) then
      (f_X10_both_J138 (nI 0) M)
    else
      (f_X10_both_J138 (nI 1) M))),
    ((if (lg_cmp l1 l3) = 0 then
      (f_X10_both_J153 (nI 1) M)
    else
      (f_X10_both_J153 (nI 0) M))),
    ((if (lg_cmp l1 l3) < 0 then
      (f_X10_both_J168 (nI 0) M)
    else
      (f_X10_both_J168 (nI 1) M))),
    ((if (lg_cmp l1 l3) ≤ 0 then
      (f_X10_both_J183 (nI 0) M)
    else
      (f_X10_both_J183 (nI 1) M))),
    (f_X10_both_J191 l1 l3 M),
    (some ((l1 &&& l3), M)),
    (f_X10_both_J191 l1 l3 M),
    (f_X10_both_J191 l1 l3 M),
    (some ((l1 * l3), M)),
    ((if (lg_cmp l3 (0 : Int64)) = 0 then
      (f_X10_both_J97 (0 : Int64) M)
    else
      (if l3 = 0 then none else
      f_X10_both_J97 (l1 / l3) M))),
    ((if (lg_cmp l3 (0 : Int64)) = 0 then
      (f_X10_both_J111 (0 : Int64) M)
    else
      (if l3 = 0 then none else
      f_X10_both_J111 (l1 - l1 / l3 * l3) M)))]
    (f_X10_both_J191 l1 l3 M))
set_option maxHeartbeats 2000000 in
set_option maxRecDepth 20000 in
theorem rm_X10_both (l0 : Int32) (l1 : Int64) (l3 : Int64) (M : Mem) : RFm yX10_both cX10_both 5 (some .long) 2 eL (f_X10_both l0 l1 l3 M) [.int l0, .long l1, .long l3] M := by
  refine RFm_of (L := [(0, .int l0), (1, .long l1), (3, .long l3)]) (by decide) rfl (Nat.le_trans (c_I (c_L (c_L c_0))) (by decide)) ?_
  rw [f_X10_both]
  refine R_iload_n (pc' := 1) (i := 0) (j := 0) (x := l0) dX10_both_0 rfl rfl rfl ?_
  refine R_tsw (tgt := 191) (x := l0) dX10_both_1 rfl (by decide) ?_ ⟨⟨72, by decide, ?_⟩, ⟨76, by decide, ?_⟩, ⟨112, by decide, ?_⟩, ⟨127, by decide, ?_⟩, ⟨142, by decide, ?_⟩, ⟨157, by decide, ?_⟩, ⟨172, by decide, ?_⟩, ⟨191, by decide, ?_⟩, ⟨187, by decide, ?_⟩, ⟨191, by decide, ?_⟩, ⟨191, by decide, ?_⟩, ⟨80, by decide, ?_⟩, ⟨84, by decide, ?_⟩, ⟨98, by decide, ?_⟩, trivial⟩
  · exact R_sub [1, 2] rfl (rf_X10_both_J191 l1 l3 M)
  · refine R_lload_n (pc' := 73) (i := 1) (j := 1) (x := l1) dX10_both_72 rfl rfl rfl ?_
    refine R_lload_n (pc' := 74) (i := 3) (j := 2) (x := l3) dX10_both_73 rfl rfl rfl ?_
    refine R_ladd (pc' := 75) (a := l1) (b := l3) dX10_both_74 rfl ?_
    exact R_lret dX10_both_75
  · refine R_lload_n (pc' := 77) (i := 1) (j := 1) (x := l1) dX10_both_76 rfl rfl rfl ?_
    refine R_lload_n (pc' := 78) (i := 3) (j := 2) (x := l3) dX10_both_77 rfl rfl rfl ?_
    refine R_lsub (pc' := 79) (a := l1) (b := l3) dX10_both_78 rfl ?_
    exact R_lret dX10_both_79
  · refine R_lload_n (pc' := 113) (i := 1) (j := 1) (x := l1) dX10_both_112 rfl rfl rfl ?_
    refine R_lload_n (pc' := 114) (i := 3) (j := 2) (x := l3) dX10_both_113 rfl rfl rfl ?_
    refine R_lcmp (pc' := 115) (a := l1) (b := l3) dX10_both_114 rfl ?_
    refine R_if_ge (pc' := 118) (tgt := 122) (a := (lg_cmp l1 l3)) dX10_both_115 (by decide) rfl ?_ ?_
    · refine R_iconst (pc' := 123) (x := (nI 0)) dX10_both_122 rfl (by decide) ?_
      exact R_sub [] rfl (rf_X10_both_J123 (nI 0) M)
    · refine R_iconst (pc' := 119) (x := (nI 1)) dX10_both_118 rfl (by decide) ?_
      refine R_goto (tgt := 123) dX10_both_119 (by decide) ?_
      exact R_sub [] rfl (rf_X10_both_J123 (nI 1) M)
  · refine R_lload_n (pc' := 128) (i := 1) (j := 1) (x := l1) dX10_both_127 rfl rfl rfl ?_
    refine R_lload_n (pc' := 129) (i := 3) (j := 2) (x := l3) dX10_both_128 rfl rfl rfl ?_
    refine R_lcmp (pc' := 130) (a := l1) (b := l3) dX10_both_129 rfl ?_
    refine R_if_gt (pc' := 133) (tgt := 137) (a := (lg_cmp l1 l3)) dX10_both_130 (by decide) rfl ?_ ?_
    · refine R_iconst (pc' := 138) (x := (nI 0)) dX10_both_137 rfl (by decide) ?_
      exact R_sub [] rfl (rf_X10_both_J138 (nI 0) M)
    · refine R_iconst (pc' := 134) (x := (nI 1)) dX10_both_133 rfl (by decide) ?_
      refine R_goto (tgt := 138) dX10_both_134 (by decide) ?_
      exact R_sub [] rfl (rf_X10_both_J138 (nI 1) M)
  · refine R_lload_n (pc' := 143) (i := 1) (j := 1) (x := l1) dX10_both_142 rfl rfl rfl ?_
    refine R_lload_n (pc' := 144) (i := 3) (j := 2) (x := l3) dX10_both_143 rfl rfl rfl ?_
    refine R_lcmp (pc' := 145) (a := l1) (b := l3) dX10_both_144 rfl ?_
    refine R_if_ne (pc' := 148) (tgt := 152) (a := (lg_cmp l1 l3)) dX10_both_145 (by decide) rfl ?_ ?_
    · refine R_iconst (pc' := 153) (x := (nI 0)) dX10_both_152 rfl (by decide) ?_
      exact R_sub [] rfl (rf_X10_both_J153 (nI 0) M)
    · refine R_iconst (pc' := 149) (x := (nI 1)) dX10_both_148 rfl (by decide) ?_
      refine R_goto (tgt := 153) dX10_both_149 (by decide) ?_
      exact R_sub [] rfl (rf_X10_both_J153 (nI 1) M)
  · refine R_lload_n (pc' := 158) (i := 1) (j := 1) (x := l1) dX10_both_157 rfl rfl rfl ?_
    refine R_lload_n (pc' := 159) (i := 3) (j := 2) (x := l3) dX10_both_158 rfl rfl rfl ?_
    refine R_lcmp (pc' := 160) (a := l1) (b := l3) dX10_both_159 rfl ?_
    refine R_if_lt (pc' := 163) (tgt := 167) (a := (lg_cmp l1 l3)) dX10_both_160 (by decide) rfl ?_ ?_
    · refine R_iconst (pc' := 168) (x := (nI 0)) dX10_both_167 rfl (by decide) ?_
      exact R_sub [] rfl (rf_X10_both_J168 (nI 0) M)
    · refine R_iconst (pc' := 164) (x := (nI 1)) dX10_both_163 rfl (by decide) ?_
      refine R_goto (tgt := 168) dX10_both_164 (by decide) ?_
      exact R_sub [] rfl (rf_X10_both_J168 (nI 1) M)
  · refine R_lload_n (pc' := 173) (i := 1) (j := 1) (x := l1) dX10_both_172 rfl rfl rfl ?_
    refine R_lload_n (pc' := 174) (i := 3) (j := 2) (x := l3) dX10_both_173 rfl rfl rfl ?_
    refine R_lcmp (pc' := 175) (a := l1) (b := l3) dX10_both_174 rfl ?_
    refine R_if_le (pc' := 178) (tgt := 182) (a := (lg_cmp l1 l3)) dX10_both_175 (by decide) rfl ?_ ?_
    · refine R_iconst (pc' := 183) (x := (nI 0)) dX10_both_182 rfl (by decide) ?_
      exact R_sub [] rfl (rf_X10_both_J183 (nI 0) M)
    · refine R_iconst (pc' := 179) (x := (nI 1)) dX10_both_178 rfl (by decide) ?_
      refine R_goto (tgt := 183) dX10_both_179 (by decide) ?_
      exact R_sub [] rfl (rf_X10_both_J183 (nI 1) M)
  · exact R_sub [1, 2] rfl (rf_X10_both_J191 l1 l3 M)
  · refine R_lload_n (pc' := 188) (i := 1) (j := 1) (x := l1) dX10_both_187 rfl rfl rfl ?_
    refine R_lload_n (pc' := 189) (i := 3) (j := 2) (x := l3) dX10_both_188 rfl rfl rfl ?_
    refine R_land (pc' := 190) (a := l1) (b := l3) dX10_both_189 rfl ?_
    exact R_lret dX10_both_190
  · exact R_sub [1, 2] rfl (rf_X10_both_J191 l1 l3 M)
  · exact R_sub [1, 2] rfl (rf_X10_both_J191 l1 l3 M)
  · refine R_lload_n (pc' := 81) (i := 1) (j := 1) (x := l1) dX10_both_80 rfl rfl rfl ?_
    refine R_lload_n (pc' := 82) (i := 3) (j := 2) (x := l3) dX10_both_81 rfl rfl rfl ?_
    refine R_lmul (pc' := 83) (a := l1) (b := l3) dX10_both_82 rfl ?_
    exact R_lret dX10_both_83
  · refine R_lload_n (pc' := 85) (i := 3) (j := 2) (x := l3) dX10_both_84 rfl rfl rfl ?_
    refine R_lconst (pc' := 86) (x := (0 : Int64)) dX10_both_85 rfl (by decide) ?_
    refine R_lcmp (pc' := 87) (a := l3) (b := (0 : Int64)) dX10_both_86 rfl ?_
    refine R_if_ne (pc' := 90) (tgt := 94) (a := (lg_cmp l3 (0 : Int64))) dX10_both_87 (by decide) rfl ?_ ?_
    · refine R_lload_n (pc' := 95) (i := 1) (j := 1) (x := l1) dX10_both_94 rfl rfl rfl ?_
      refine R_lload_n (pc' := 96) (i := 3) (j := 2) (x := l3) dX10_both_95 rfl rfl rfl ?_
      refine R_ldiv (pc' := 97) (a := l1) (b := l3) dX10_both_96 rfl ?_
      exact R_sub [] rfl (rf_X10_both_J97 (l1 / l3) M)
    · refine R_lconst (pc' := 91) (x := (0 : Int64)) dX10_both_90 rfl (by decide) ?_
      refine R_goto (tgt := 97) dX10_both_91 (by decide) ?_
      exact R_sub [] rfl (rf_X10_both_J97 (0 : Int64) M)
  · refine R_lload_n (pc' := 99) (i := 3) (j := 2) (x := l3) dX10_both_98 rfl rfl rfl ?_
    refine R_lconst (pc' := 100) (x := (0 : Int64)) dX10_both_99 rfl (by decide) ?_
    refine R_lcmp (pc' := 101) (a := l3) (b := (0 : Int64)) dX10_both_100 rfl ?_
    refine R_if_ne (pc' := 104) (tgt := 108) (a := (lg_cmp l3 (0 : Int64))) dX10_both_101 (by decide) rfl ?_ ?_
    · refine R_lload_n (pc' := 109) (i := 1) (j := 1) (x := l1) dX10_both_108 rfl rfl rfl ?_
      refine R_lload_n (pc' := 110) (i := 3) (j := 2) (x := l3) dX10_both_109 rfl rfl rfl ?_
      refine R_lrem (pc' := 111) (a := l1) (b := l3) dX10_both_110 rfl ?_
      exact R_sub [] rfl (rf_X10_both_J111 (l1 - l1 / l3 * l3) M)
    · refine R_lconst (pc' := 105) (x := (0 : Int64)) dX10_both_104 rfl (by decide) ?_
      refine R_goto (tgt := 111) dX10_both_105 (by decide) ?_
      exact R_sub [] rfl (rf_X10_both_J111 (0 : Int64) M)
/-! BarPilotModel.answer(III)J -/
def f_X10_answer_J147 (k6 : Int32 → Int32 → Int32 → Int32 → Mem → Option (Int64 × Mem)) (this : Nat) (l1 : Int32) (l3 : Int32) (l4 : Int32) (l5 : Int32) (M : Mem) : Option (Int64 × Mem) :=
  k6 l1 l3 l4 (l5 + (nI 1)) M
set_option maxHeartbeats 2000000 in
set_option maxRecDepth 20000 in
theorem rf_X10_answer_J147 (this : Nat) (k6 : Int32 → Int32 → Int32 → Int32 → Mem → Option (Int64 × Mem)) (hk6 : ∀ (l1 : Int32) (l3 : Int32) (l4 : Int32) (l5 : Int32) (M : Mem), RF yX10_answer cX10_answer 8 (some .long) 3 eL (k6 l1 l3 l4 l5 M) 6 [(0, va_rf (some this)), (1, .int l1), (3, .int l3), (4, .int l4), (5, .int l5)] [] M) (l1 : Int32) (l3 : Int32) (l4 : Int32) (l5 : Int32) (M : Mem) : RF yX10_answer cX10_answer 8 (some .long) 3 eL (f_X10_answer_J147 k6 this l1 l3 l4 l5 M) 147 [(0, va_rf (some this)), (1, .int l1), (3, .int l3), (4, .int l4), (5, .int l5)] [] M := by
  rw [f_X10_answer_J147]
  refine R_iinc (pc' := 150) (L' := [(5, .int (l5 + (nI 1))), (0, va_rf (some this)), (1, .int l1), (3, .int l3), (4, .int l4)]) (i := 5) (j := 4) (x := l5) (x2 := (l5 + (nI 1))) dX10_answer_147 rfl rfl rfl (by decide) rfl ?_
  refine R_goto (tgt := 6) dX10_answer_150 (by decide) ?_
  exact R_sub [1, 2, 3, 4, 0] rfl (hk6 l1 l3 l4 (l5 + (nI 1)) M)
def f_X10_answer_J77 (k6 : Int32 → Int32 → Int32 → Int32 → Mem → Option (Int64 × Mem)) (this : Nat) (l1 : Int32) (l3 : Int32) (l4 : Int32) (l5 : Int32) (s0 : Int64) (s1 : Int32) (s2 : Option Nat) (M : Mem) : Option (Int64 × Mem) :=
  (wL M s2 s1 s0).bind fun M =>
  f_X10_answer_J147 k6 this l1 l3 (l4 + (nI 1)) l5 M
set_option maxHeartbeats 2000000 in
set_option maxRecDepth 20000 in
theorem rf_X10_answer_J77 (this : Nat) (k6 : Int32 → Int32 → Int32 → Int32 → Mem → Option (Int64 × Mem)) (hk6 : ∀ (l1 : Int32) (l3 : Int32) (l4 : Int32) (l5 : Int32) (M : Mem), RF yX10_answer cX10_answer 8 (some .long) 3 eL (k6 l1 l3 l4 l5 M) 6 [(0, va_rf (some this)), (1, .int l1), (3, .int l3), (4, .int l4), (5, .int l5)] [] M) (l1 : Int32) (l3 : Int32) (l4 : Int32) (l5 : Int32) (s0 : Int64) (s1 : Int32) (s2 : Option Nat) (M : Mem) : RF yX10_answer cX10_answer 8 (some .long) 3 eL (f_X10_answer_J77 k6 this l1 l3 l4 l5 s0 s1 s2 M) 77 [(0, va_rf (some this)), (1, .int l1), (3, .int l3), (4, .int l4), (5, .int l5)] [.long s0, .int s1, va_rf s2] M := by
  rw [f_X10_answer_J77]
  refine R_last (pc' := 78) (q := s2) (i := s1) (x := s0) dX10_answer_77 rfl (fun M => ?_)
  refine R_iinc (pc' := 81) (L' := [(4, .int (l4 + (nI 1))), (0, va_rf (some this)), (1, .int l1), (3, .int l3), (5, .int l5)]) (i := 4) (j := 3) (x := l4) (x2 := (l4 + (nI 1))) dX10_answer_78 rfl rfl rfl (by decide) rfl ?_
  refine R_goto (tgt := 147) dX10_answer_81 (by decide) ?_
  exact R_sub [1, 2, 3, 0, 4] rfl (rf_X10_answer_J147 this k6 hk6 l1 l3 (l4 + (nI 1)) l5 M)
def f_X10_answer_J53 (k6 : Int32 → Int32 → Int32 → Int32 → Mem → Option (Int64 × Mem)) (this : Nat) (l1 : Int32) (l3 : Int32) (l4 : Int32) (l5 : Int32) (l6 : Int32) (l7 : Int32) (M : Mem) : Option (Int64 × Mem) :=
  (gR M 10 36 (some this)).bind fun stack1 =>
  (if l6 = 0 then
    (f_X10_answer_J77 k6 this l1 l3 l4 l5 (Int32.toInt64 l7) l4 stack1 M)
  else
    ((gR M 10 35 (some this)).bind fun asked2 =>
    (aL M asked2 l7).bind fun e3 =>
    f_X10_answer_J77 k6 this l1 l3 l4 l5 e3 l4 stack1 M))
set_option maxHeartbeats 2000000 in
set_option maxRecDepth 20000 in
theorem rf_X10_answer_J53 (this : Nat) (k6 : Int32 → Int32 → Int32 → Int32 → Mem → Option (Int64 × Mem)) (hk6 : ∀ (l1 : Int32) (l3 : Int32) (l4 : Int32) (l5 : Int32) (M : Mem), RF yX10_answer cX10_answer 8 (some .long) 3 eL (k6 l1 l3 l4 l5 M) 6 [(0, va_rf (some this)), (1, .int l1), (3, .int l3), (4, .int l4), (5, .int l5)] [] M) (l1 : Int32) (l3 : Int32) (l4 : Int32) (l5 : Int32) (l6 : Int32) (l7 : Int32) (M : Mem) : RF yX10_answer cX10_answer 8 (some .long) 3 eL (f_X10_answer_J53 k6 this l1 l3 l4 l5 l6 l7 M) 53 [(0, va_rf (some this)), (1, .int l1), (3, .int l3), (4, .int l4), (5, .int l5), (6, .int l6), (7, .int l7)] [] M := by
  rw [f_X10_answer_J53]
  refine R_aloadq_n (pc' := 54) (i := 0) (j := 0) (q := (some this)) dX10_answer_53 rfl rfl rfl ?_
  refine R_getR (pc' := 57) (q := (some this)) fl_X10_91 rfl dX10_answer_54 rfl (fun stack1 => ?_)
  refine R_iload (pc' := 59) (i := 4) (j := 3) (x := l4) dX10_answer_57 rfl rfl ?_
  refine R_iload (pc' := 61) (i := 6) (j := 5) (x := l6) dX10_answer_59 rfl rfl ?_
  refine R_if_ne (pc' := 64) (tgt := 70) (a := l6) dX10_answer_61 (by decide) rfl ?_ ?_
  · refine R_aloadq_n (pc' := 71) (i := 0) (j := 0) (q := (some this)) dX10_answer_70 rfl rfl rfl ?_
    refine R_getR (pc' := 74) (q := (some this)) fl_X10_87 rfl dX10_answer_71 rfl (fun asked2 => ?_)
    refine R_iload (pc' := 76) (i := 7) (j := 6) (x := l7) dX10_answer_74 rfl rfl ?_
    refine R_lald (pc' := 77) (q := asked2) (i := l7) dX10_answer_76 rfl (fun e3 => ?_)
    exact R_sub [0, 1, 2, 3, 4] rfl (rf_X10_answer_J77 this k6 hk6 l1 l3 l4 l5 e3 l4 stack1 M)
  · refine R_iload (pc' := 66) (i := 7) (j := 6) (x := l7) dX10_answer_64 rfl rfl ?_
    refine R_i2l (pc' := 67) (a := l7) dX10_answer_66 rfl ?_
    refine R_goto (tgt := 77) dX10_answer_67 (by decide) ?_
    exact R_sub [0, 1, 2, 3, 4] rfl (rf_X10_answer_J77 this k6 hk6 l1 l3 l4 l5 (Int32.toInt64 l7) l4 stack1 M)
def f_X10_answer_L6 (this : Nat) : Nat → Int32 → Int32 → Int32 → Int32 → Mem → Option (Int64 × Mem)
  | 0, _, _, _, _, _ => none
  | n + 1, l1, l3, l4, l5, M =>
    (if l3 ≤ l5 then
      ((gR M 10 36 (some this)).bind fun stack1 =>
      (aL M stack1 (nI 0)).bind fun e2 =>
      some (e2, M))
    else
      ((gR M 10 28 (some this)).bind fun sort3 =>
      (aI M 0 sort3 (((nI 300) * l1) + l5)).bind fun e4 =>
      (gR M 10 29 (some this)).bind fun number5 =>
      (aI M 0 number5 (((nI 300) * l1) + l5)).bind fun e6 =>
      (if e4 = 0 then
        (f_X10_answer_J53 (f_X10_answer_L6 this n) this l1 l3 l4 l5 e4 e6 M)
      else
        ((if e4 = (nI 1) then
          (f_X10_answer_J53 (f_X10_answer_L6 this n) this l1 l3 l4 l5 e4 e6 M)
        else
          ((if e4 = (nI 9) then
            ((gR M 10 36 (some this)).bind fun stack13 =>
            (gR M 10 36 (some this)).bind fun stack14 =>
            (aL M stack14 (l4 - (nI 1))).bind fun e15 =>
            (wL M stack13 (l4 - (nI 1)) ((1 : Int64) - e15)).bind fun M =>
            f_X10_answer_J147 (f_X10_answer_L6 this n) this l1 l3 l4 l5 M)
          else
            ((gR M 10 36 (some this)).bind fun stack7 =>
            (gR M 10 36 (some this)).bind fun stack8 =>
            (aL M stack8 ((l4 + (-1 : Int32)) - (nI 1))).bind fun e9 =>
            (gR M 10 36 (some this)).bind fun stack10 =>
            (aL M stack10 (l4 + (-1 : Int32))).bind fun e11 =>
            cl (f_X10_both e4 e9 e11 M) fun r12 M =>
            (wL M stack7 ((l4 + (-1 : Int32)) - (nI 1)) r12).bind fun M =>
            f_X10_answer_J147 (f_X10_answer_L6 this n) this l1 l3 (l4 + (-1 : Int32)) l5 M))))))))
set_option maxHeartbeats 2000000 in
set_option maxRecDepth 20000 in
theorem rf_X10_answer_L6 (this : Nat) : ∀ (n : Nat) (l1 : Int32) (l3 : Int32) (l4 : Int32) (l5 : Int32) (M : Mem), RF yX10_answer cX10_answer 8 (some .long) 3 eL (f_X10_answer_L6 this n l1 l3 l4 l5 M) 6 [(0, va_rf (some this)), (1, .int l1), (3, .int l3), (4, .int l4), (5, .int l5)] [] M := by
  intro n
  induction n with
  | zero => intro _ _ _ _ _; exact RF.none
  | succ n ih =>
    intro l1 l3 l4 l5 M
    rw [f_X10_answer_L6]
    refine R_iload (pc' := 8) (i := 5) (j := 4) (x := l5) dX10_answer_6 rfl rfl ?_
    refine R_iload_n (pc' := 9) (i := 3) (j := 2) (x := l3) dX10_answer_8 rfl rfl rfl ?_
    refine R_icmp_ge (pc' := 12) (tgt := 153) (a := l5) (b := l3) dX10_answer_9 (by decide) rfl ?_ ?_
    · refine R_aloadq_n (pc' := 154) (i := 0) (j := 0) (q := (some this)) dX10_answer_153 rfl rfl rfl ?_
      refine R_getR (pc' := 157) (q := (some this)) fl_X10_91 rfl dX10_answer_154 rfl (fun stack1 => ?_)
      refine R_iconst (pc' := 158) (x := (nI 0)) dX10_answer_157 rfl (by decide) ?_
      refine R_lald (pc' := 159) (q := stack1) (i := (nI 0)) dX10_answer_158 rfl (fun e2 => ?_)
      exact R_lret dX10_answer_159
    · refine R_aloadq_n (pc' := 13) (i := 0) (j := 0) (q := (some this)) dX10_answer_12 rfl rfl rfl ?_
      refine R_getR (pc' := 16) (q := (some this)) fl_X10_66 rfl dX10_answer_13 rfl (fun sort3 => ?_)
      refine R_sipush (pc' := 19) (x := (nI 300)) dX10_answer_16 rfl (by decide) ?_
      refine R_iload_n (pc' := 20) (i := 1) (j := 1) (x := l1) dX10_answer_19 rfl rfl rfl ?_
      refine R_imul (pc' := 21) (a := (nI 300)) (b := l1) dX10_answer_20 rfl ?_
      refine R_iload (pc' := 23) (i := 5) (j := 4) (x := l5) dX10_answer_21 rfl rfl ?_
      refine R_iadd (pc' := 24) (a := ((nI 300) * l1)) (b := l5) dX10_answer_23 rfl ?_
      refine R_iald (pc' := 25) (q := sort3) (i := (((nI 300) * l1) + l5)) dX10_answer_24 rfl (fun e4 => ?_)
      refine R_istore (pc' := 27) (L' := [(6, .int e4), (0, va_rf (some this)), (1, .int l1), (3, .int l3), (4, .int l4), (5, .int l5)]) (i := 6) (x := e4) dX10_answer_25 rfl (by decide) rfl ?_
      refine R_aloadq_n (pc' := 28) (i := 0) (j := 1) (q := (some this)) dX10_answer_27 rfl rfl rfl ?_
      refine R_getR (pc' := 31) (q := (some this)) fl_X10_69 rfl dX10_answer_28 rfl (fun number5 => ?_)
      refine R_sipush (pc' := 34) (x := (nI 300)) dX10_answer_31 rfl (by decide) ?_
      refine R_iload_n (pc' := 35) (i := 1) (j := 2) (x := l1) dX10_answer_34 rfl rfl rfl ?_
      refine R_imul (pc' := 36) (a := (nI 300)) (b := l1) dX10_answer_35 rfl ?_
      refine R_iload (pc' := 38) (i := 5) (j := 5) (x := l5) dX10_answer_36 rfl rfl ?_
      refine R_iadd (pc' := 39) (a := ((nI 300) * l1)) (b := l5) dX10_answer_38 rfl ?_
      refine R_iald (pc' := 40) (q := number5) (i := (((nI 300) * l1) + l5)) dX10_answer_39 rfl (fun e6 => ?_)
      refine R_istore (pc' := 42) (L' := [(7, .int e6), (6, .int e4), (0, va_rf (some this)), (1, .int l1), (3, .int l3), (4, .int l4), (5, .int l5)]) (i := 7) (x := e6) dX10_answer_40 rfl (by decide) rfl ?_
      refine R_iload (pc' := 44) (i := 6) (j := 1) (x := e4) dX10_answer_42 rfl rfl ?_
      refine R_if_eq (pc' := 47) (tgt := 53) (a := e4) dX10_answer_44 (by decide) rfl ?_ ?_
      · exact R_sub [2, 3, 4, 5, 6, 1, 0] rfl (rf_X10_answer_J53 this (f_X10_answer_L6 this n) ih l1 l3 l4 l5 e4 e6 M)
      · refine R_iload (pc' := 49) (i := 6) (j := 1) (x := e4) dX10_answer_47 rfl rfl ?_
        refine R_iconst (pc' := 50) (x := (nI 1)) dX10_answer_49 rfl (by decide) ?_
        refine R_icmp_ne (pc' := 53) (tgt := 84) (a := e4) (b := (nI 1)) dX10_answer_50 (by decide) rfl ?_ ?_
        · refine R_iload (pc' := 86) (i := 6) (j := 1) (x := e4) dX10_answer_84 rfl rfl ?_
          refine R_bipush (pc' := 88) (x := (nI 9)) dX10_answer_86 rfl (by decide) ?_
          refine R_icmp_ne (pc' := 91) (tgt := 114) (a := e4) (b := (nI 9)) dX10_answer_88 (by decide) rfl ?_ ?_
          · refine R_iinc (pc' := 117) (L' := [(4, .int (l4 + (-1 : Int32))), (7, .int e6), (6, .int e4), (0, va_rf (some this)), (1, .int l1), (3, .int l3), (5, .int l5)]) (i := 4) (j := 5) (x := l4) (x2 := (l4 + (-1 : Int32))) dX10_answer_114 rfl rfl rfl (by decide) rfl ?_
            refine R_aloadq_n (pc' := 118) (i := 0) (j := 3) (q := (some this)) dX10_answer_117 rfl rfl rfl ?_
            refine R_getR (pc' := 121) (q := (some this)) fl_X10_91 rfl dX10_answer_118 rfl (fun stack7 => ?_)
            refine R_iload (pc' := 123) (i := 4) (j := 0) (x := (l4 + (-1 : Int32))) dX10_answer_121 rfl rfl ?_
            refine R_iconst (pc' := 124) (x := (nI 1)) dX10_answer_123 rfl (by decide) ?_
            refine R_isub (pc' := 125) (a := (l4 + (-1 : Int32))) (b := (nI 1)) dX10_answer_124 rfl ?_
            refine R_iload (pc' := 127) (i := 6) (j := 2) (x := e4) dX10_answer_125 rfl rfl ?_
            refine R_aloadq_n (pc' := 128) (i := 0) (j := 3) (q := (some this)) dX10_answer_127 rfl rfl rfl ?_
            refine R_getR (pc' := 131) (q := (some this)) fl_X10_91 rfl dX10_answer_128 rfl (fun stack8 => ?_)
            refine R_iload (pc' := 133) (i := 4) (j := 0) (x := (l4 + (-1 : Int32))) dX10_answer_131 rfl rfl ?_
            refine R_iconst (pc' := 134) (x := (nI 1)) dX10_answer_133 rfl (by decide) ?_
            refine R_isub (pc' := 135) (a := (l4 + (-1 : Int32))) (b := (nI 1)) dX10_answer_134 rfl ?_
            refine R_lald (pc' := 136) (q := stack8) (i := ((l4 + (-1 : Int32)) - (nI 1))) dX10_answer_135 rfl (fun e9 => ?_)
            refine R_aloadq_n (pc' := 137) (i := 0) (j := 3) (q := (some this)) dX10_answer_136 rfl rfl rfl ?_
            refine R_getR (pc' := 140) (q := (some this)) fl_X10_91 rfl dX10_answer_137 rfl (fun stack10 => ?_)
            refine R_iload (pc' := 142) (i := 4) (j := 0) (x := (l4 + (-1 : Int32))) dX10_answer_140 rfl rfl ?_
            refine R_lald (pc' := 143) (q := stack10) (i := (l4 + (-1 : Int32))) dX10_answer_142 rfl (fun e11 => ?_)
            refine R_callS_L (pc' := 146) (As := [.int e4, .long e9, .long e11]) (rm_X10_both e4 e9 e11 M) mf_X10_both lk_X10_328 sm_X10_both rfl rfl dX10_answer_143 rfl (by decide) (Nat.le_trans (c_I (c_R c_0)) (by decide)) (fun r12 M => ?_)
            refine R_last (pc' := 147) (q := stack7) (i := ((l4 + (-1 : Int32)) - (nI 1))) (x := r12) dX10_answer_146 rfl (fun M => ?_)
            exact R_sub [3, 4, 5, 0, 6] rfl (rf_X10_answer_J147 this (f_X10_answer_L6 this n) ih l1 l3 (l4 + (-1 : Int32)) l5 M)
          · refine R_aloadq_n (pc' := 92) (i := 0) (j := 2) (q := (some this)) dX10_answer_91 rfl rfl rfl ?_
            refine R_getR (pc' := 95) (q := (some this)) fl_X10_91 rfl dX10_answer_92 rfl (fun stack13 => ?_)
            refine R_iload (pc' := 97) (i := 4) (j := 5) (x := l4) dX10_answer_95 rfl rfl ?_
            refine R_iconst (pc' := 98) (x := (nI 1)) dX10_answer_97 rfl (by decide) ?_
            refine R_isub (pc' := 99) (a := l4) (b := (nI 1)) dX10_answer_98 rfl ?_
            refine R_lconst (pc' := 100) (x := (1 : Int64)) dX10_answer_99 rfl (by decide) ?_
            refine R_aloadq_n (pc' := 101) (i := 0) (j := 2) (q := (some this)) dX10_answer_100 rfl rfl rfl ?_
            refine R_getR (pc' := 104) (q := (some this)) fl_X10_91 rfl dX10_answer_101 rfl (fun stack14 => ?_)
            refine R_iload (pc' := 106) (i := 4) (j := 5) (x := l4) dX10_answer_104 rfl rfl ?_
            refine R_iconst (pc' := 107) (x := (nI 1)) dX10_answer_106 rfl (by decide) ?_
            refine R_isub (pc' := 108) (a := l4) (b := (nI 1)) dX10_answer_107 rfl ?_
            refine R_lald (pc' := 109) (q := stack14) (i := (l4 - (nI 1))) dX10_answer_108 rfl (fun e15 => ?_)
            refine R_lsub (pc' := 110) (a := (1 : Int64)) (b := e15) dX10_answer_109 rfl ?_
            refine R_last (pc' := 111) (q := stack13) (i := (l4 - (nI 1))) (x := ((1 : Int64) - e15)) dX10_answer_110 rfl (fun M => ?_)
            refine R_goto (tgt := 147) dX10_answer_111 (by decide) ?_
            exact R_sub [2, 3, 4, 5, 6] rfl (rf_X10_answer_J147 this (f_X10_answer_L6 this n) ih l1 l3 l4 l5 M)
        · exact R_sub [2, 3, 4, 5, 6, 1, 0] rfl (rf_X10_answer_J53 this (f_X10_answer_L6 this n) ih l1 l3 l4 l5 e4 e6 M)
def f_X10_answer (this : Nat) (l1 : Int32) (l2 : Int32) (l3 : Int32) (M : Mem) : Option (Int64 × Mem) :=
  f_X10_answer_L6 this FU l1 l3 (nI 0) l2 M
set_option maxHeartbeats 2000000 in
set_option maxRecDepth 20000 in
theorem rm_X10_answer (this : Nat) (l1 : Int32) (l2 : Int32) (l3 : Int32) (M : Mem) : RFm yX10_answer cX10_answer 8 (some .long) 3 eL (f_X10_answer this l1 l2 l3 M) [va_rf (some this), .int l1, .int l2, .int l3] M := by
  refine RFm_of (L := [(0, va_rf (some this)), (1, .int l1), (2, .int l2), (3, .int l3)]) (by decide) rfl (Nat.le_trans (c_R (c_I (c_I (c_I c_0)))) (by decide)) ?_
  rw [f_X10_answer]
  refine R_iconst (pc' := 1) (x := (nI 0)) dX10_answer_0 rfl (by decide) ?_
  refine R_istore (pc' := 3) (L' := [(4, .int (nI 0)), (0, va_rf (some this)), (1, .int l1), (2, .int l2), (3, .int l3)]) (i := 4) (x := (nI 0)) dX10_answer_1 rfl (by decide) rfl ?_
  refine R_iload_n (pc' := 4) (i := 2) (j := 3) (x := l2) dX10_answer_3 rfl rfl rfl ?_
  refine R_istore (pc' := 6) (L' := [(5, .int l2), (4, .int (nI 0)), (0, va_rf (some this)), (1, .int l1), (2, .int l2), (3, .int l3)]) (i := 5) (x := l2) dX10_answer_4 rfl (by decide) rfl ?_
  exact R_sub [2, 3, 5, 1, 0] rfl (rf_X10_answer_L6 this FU l1 l3 (nI 0) l2 M)
/-! BarPilotModel.wanted()J -/
def f_X10_wanted_J65 (this : Nat) (l1 : Int32) (l2 : Int32) (M : Mem) : Option (Int64 × Mem) :=
  (gR M 10 31 (some this)).bind fun sumAt1 =>
  (aI M 0 sumAt1 l2).bind fun e2 =>
  (gR M 10 32 (some this)).bind fun testAt3 =>
  (aI M 0 testAt3 l2).bind fun e4 =>
  (oO M 10 (some this)).bind fun o6 => cl (f_X10_answer o6 l1 e2 e4 M) fun r5 M =>
  some (r5, M)
set_option maxHeartbeats 2000000 in
set_option maxRecDepth 20000 in
theorem rf_X10_wanted_J65 (this : Nat) (l1 : Int32) (l2 : Int32) (M : Mem) : RF yX10_wanted cX10_wanted 3 (some .long) 4 eL (f_X10_wanted_J65 this l1 l2 M) 65 [(0, va_rf (some this)), (1, .int l1), (2, .int l2)] [] M := by
  rw [f_X10_wanted_J65]
  refine R_aloadq_n (pc' := 66) (i := 0) (j := 0) (q := (some this)) dX10_wanted_65 rfl rfl rfl ?_
  refine R_iload_n (pc' := 67) (i := 1) (j := 1) (x := l1) dX10_wanted_66 rfl rfl rfl ?_
  refine R_aloadq_n (pc' := 68) (i := 0) (j := 0) (q := (some this)) dX10_wanted_67 rfl rfl rfl ?_
  refine R_getR (pc' := 71) (q := (some this)) fl_X10_75 rfl dX10_wanted_68 rfl (fun sumAt1 => ?_)
  refine R_iload_n (pc' := 72) (i := 2) (j := 2) (x := l2) dX10_wanted_71 rfl rfl rfl ?_
  refine R_iald (pc' := 73) (q := sumAt1) (i := l2) dX10_wanted_72 rfl (fun e2 => ?_)
  refine R_aloadq_n (pc' := 74) (i := 0) (j := 0) (q := (some this)) dX10_wanted_73 rfl rfl rfl ?_
  refine R_getR (pc' := 77) (q := (some this)) fl_X10_78 rfl dX10_wanted_74 rfl (fun testAt3 => ?_)
  refine R_iload_n (pc' := 78) (i := 2) (j := 2) (x := l2) dX10_wanted_77 rfl rfl rfl ?_
  refine R_iald (pc' := 79) (q := testAt3) (i := l2) dX10_wanted_78 rfl (fun e4 => ?_)
  refine R_callV_L (pc' := 82) (q := (some this)) (As := [.int l1, .int e2, .int e4]) (fun o6 => rm_X10_answer o6 l1 e2 e4 M) mf_X10_answer lk_X10_320 im_X10_answer se_X10_answer rfl rfl rfl dX10_wanted_79 rfl (by decide) (Nat.le_trans c_0 (by decide)) (fun r5 M => ?_)
  exact R_lret dX10_wanted_82
def f_X10_wanted_L13 (this : Nat) : Nat → Int32 → Int32 → Mem → Option (Int64 × Mem)
  | 0, _, _, _ => none
  | n + 1, l1, l2, M =>
    (gR M 10 30 (some this)).bind fun clauses1 =>
    (aI M 0 clauses1 l1).bind fun e2 =>
    (if (((nI 12) * l1) + e2) ≤ l2 then
      (some ((0 : Int64), M))
    else
      ((gR M 10 32 (some this)).bind fun testAt3 =>
      (aI M 0 testAt3 l2).bind fun e4 =>
      (gR M 10 33 (some this)).bind fun endAt5 =>
      (aI M 0 endAt5 l2).bind fun e6 =>
      (if e4 = e6 then
        (f_X10_wanted_J65 this l1 l2 M)
      else
        ((gR M 10 32 (some this)).bind fun testAt7 =>
        (aI M 0 testAt7 l2).bind fun e8 =>
        (gR M 10 33 (some this)).bind fun endAt9 =>
        (aI M 0 endAt9 l2).bind fun e10 =>
        (oO M 10 (some this)).bind fun o12 => cl (f_X10_answer o12 l1 e8 e10 M) fun r11 M =>
        (if (lg_cmp r11 (1 : Int64)) = 0 then
          (f_X10_wanted_J65 this l1 l2 M)
        else
          ((f_X10_wanted_L13 this n) l1 (l2 + (nI 1)) M))))))
set_option maxHeartbeats 2000000 in
set_option maxRecDepth 20000 in
theorem rf_X10_wanted_L13 (this : Nat) : ∀ (n : Nat) (l1 : Int32) (l2 : Int32) (M : Mem), RF yX10_wanted cX10_wanted 3 (some .long) 4 eL (f_X10_wanted_L13 this n l1 l2 M) 13 [(0, va_rf (some this)), (1, .int l1), (2, .int l2)] [] M := by
  intro n
  induction n with
  | zero => intro _ _ _; exact RF.none
  | succ n ih =>
    intro l1 l2 M
    rw [f_X10_wanted_L13]
    refine R_iload_n (pc' := 14) (i := 2) (j := 2) (x := l2) dX10_wanted_13 rfl rfl rfl ?_
    refine R_bipush (pc' := 16) (x := (nI 12)) dX10_wanted_14 rfl (by decide) ?_
    refine R_iload_n (pc' := 17) (i := 1) (j := 1) (x := l1) dX10_wanted_16 rfl rfl rfl ?_
    refine R_imul (pc' := 18) (a := (nI 12)) (b := l1) dX10_wanted_17 rfl ?_
    refine R_aloadq_n (pc' := 19) (i := 0) (j := 0) (q := (some this)) dX10_wanted_18 rfl rfl rfl ?_
    refine R_getR (pc' := 22) (q := (some this)) fl_X10_72 rfl dX10_wanted_19 rfl (fun clauses1 => ?_)
    refine R_iload_n (pc' := 23) (i := 1) (j := 1) (x := l1) dX10_wanted_22 rfl rfl rfl ?_
    refine R_iald (pc' := 24) (q := clauses1) (i := l1) dX10_wanted_23 rfl (fun e2 => ?_)
    refine R_iadd (pc' := 25) (a := ((nI 12) * l1)) (b := e2) dX10_wanted_24 rfl ?_
    refine R_icmp_ge (pc' := 28) (tgt := 89) (a := l2) (b := (((nI 12) * l1) + e2)) dX10_wanted_25 (by decide) rfl ?_ ?_
    · refine R_lconst (pc' := 90) (x := (0 : Int64)) dX10_wanted_89 rfl (by decide) ?_
      exact R_lret dX10_wanted_90
    · refine R_aloadq_n (pc' := 29) (i := 0) (j := 0) (q := (some this)) dX10_wanted_28 rfl rfl rfl ?_
      refine R_getR (pc' := 32) (q := (some this)) fl_X10_78 rfl dX10_wanted_29 rfl (fun testAt3 => ?_)
      refine R_iload_n (pc' := 33) (i := 2) (j := 2) (x := l2) dX10_wanted_32 rfl rfl rfl ?_
      refine R_iald (pc' := 34) (q := testAt3) (i := l2) dX10_wanted_33 rfl (fun e4 => ?_)
      refine R_aloadq_n (pc' := 35) (i := 0) (j := 0) (q := (some this)) dX10_wanted_34 rfl rfl rfl ?_
      refine R_getR (pc' := 38) (q := (some this)) fl_X10_81 rfl dX10_wanted_35 rfl (fun endAt5 => ?_)
      refine R_iload_n (pc' := 39) (i := 2) (j := 2) (x := l2) dX10_wanted_38 rfl rfl rfl ?_
      refine R_iald (pc' := 40) (q := endAt5) (i := l2) dX10_wanted_39 rfl (fun e6 => ?_)
      refine R_icmp_eq (pc' := 43) (tgt := 65) (a := e4) (b := e6) dX10_wanted_40 (by decide) rfl ?_ ?_
      · exact R_sub [0, 1, 2] rfl (rf_X10_wanted_J65 this l1 l2 M)
      · refine R_aloadq_n (pc' := 44) (i := 0) (j := 0) (q := (some this)) dX10_wanted_43 rfl rfl rfl ?_
        refine R_iload_n (pc' := 45) (i := 1) (j := 1) (x := l1) dX10_wanted_44 rfl rfl rfl ?_
        refine R_aloadq_n (pc' := 46) (i := 0) (j := 0) (q := (some this)) dX10_wanted_45 rfl rfl rfl ?_
        refine R_getR (pc' := 49) (q := (some this)) fl_X10_78 rfl dX10_wanted_46 rfl (fun testAt7 => ?_)
        refine R_iload_n (pc' := 50) (i := 2) (j := 2) (x := l2) dX10_wanted_49 rfl rfl rfl ?_
        refine R_iald (pc' := 51) (q := testAt7) (i := l2) dX10_wanted_50 rfl (fun e8 => ?_)
        refine R_aloadq_n (pc' := 52) (i := 0) (j := 0) (q := (some this)) dX10_wanted_51 rfl rfl rfl ?_
        refine R_getR (pc' := 55) (q := (some this)) fl_X10_81 rfl dX10_wanted_52 rfl (fun endAt9 => ?_)
        refine R_iload_n (pc' := 56) (i := 2) (j := 2) (x := l2) dX10_wanted_55 rfl rfl rfl ?_
        refine R_iald (pc' := 57) (q := endAt9) (i := l2) dX10_wanted_56 rfl (fun e10 => ?_)
        refine R_callV_L (pc' := 60) (q := (some this)) (As := [.int l1, .int e8, .int e10]) (fun o12 => rm_X10_answer o12 l1 e8 e10 M) mf_X10_answer lk_X10_320 im_X10_answer se_X10_answer rfl rfl rfl dX10_wanted_57 rfl (by decide) (Nat.le_trans c_0 (by decide)) (fun r11 M => ?_)
        refine R_lconst (pc' := 61) (x := (1 : Int64)) dX10_wanted_60 rfl (by decide) ?_
        refine R_lcmp (pc' := 62) (a := r11) (b := (1 : Int64)) dX10_wanted_61 rfl ?_
        refine R_if_ne (pc' := 65) (tgt := 83) (a := (lg_cmp r11 (1 : Int64))) dX10_wanted_62 (by decide) rfl ?_ ?_
        · refine R_iinc (pc' := 86) (L' := [(2, .int (l2 + (nI 1))), (0, va_rf (some this)), (1, .int l1)]) (i := 2) (j := 2) (x := l2) (x2 := (l2 + (nI 1))) dX10_wanted_83 rfl rfl rfl (by decide) rfl ?_
          refine R_goto (tgt := 13) dX10_wanted_86 (by decide) ?_
          exact R_sub [1, 2, 0] rfl (ih l1 (l2 + (nI 1)) M)
        · exact R_sub [0, 1, 2] rfl (rf_X10_wanted_J65 this l1 l2 M)
def f_X10_wanted (this : Nat) (M : Mem) : Option (Int64 × Mem) :=
  (gR M 10 1 (some this)).bind fun scalar1 =>
  (aI M 0 scalar1 (nI 8)).bind fun e2 =>
  nm ((nI 12) * e2) fun v3 =>
  f_X10_wanted_L13 this FU e2 v3 M
set_option maxHeartbeats 2000000 in
set_option maxRecDepth 20000 in
theorem rm_X10_wanted (this : Nat) (M : Mem) : RFm yX10_wanted cX10_wanted 3 (some .long) 4 eL (f_X10_wanted this M) [va_rf (some this)] M := by
  refine RFm_of (L := [(0, va_rf (some this))]) (by decide) rfl (Nat.le_trans (c_R c_0) (by decide)) ?_
  rw [f_X10_wanted]
  refine R_aloadq_n (pc' := 1) (i := 0) (j := 0) (q := (some this)) dX10_wanted_0 rfl rfl rfl ?_
  refine R_getR (pc' := 4) (q := (some this)) fl_X10_9 rfl dX10_wanted_1 rfl (fun scalar1 => ?_)
  refine R_bipush (pc' := 6) (x := (nI 8)) dX10_wanted_4 rfl (by decide) ?_
  refine R_iald (pc' := 7) (q := scalar1) (i := (nI 8)) dX10_wanted_6 rfl (fun e2 => ?_)
  refine R_istore_n (pc' := 8) (L' := [(1, .int e2), (0, va_rf (some this))]) (i := 1) (x := e2) dX10_wanted_7 rfl rfl (by decide) rfl ?_
  refine R_bipush (pc' := 10) (x := (nI 12)) dX10_wanted_8 rfl (by decide) ?_
  refine R_iload_n (pc' := 11) (i := 1) (j := 0) (x := e2) dX10_wanted_10 rfl rfl rfl ?_
  refine R_imul (pc' := 12) (a := (nI 12)) (b := e2) dX10_wanted_11 rfl ?_
  refine R_nmI (fun v3 => ?_)
  refine R_istore_n (pc' := 13) (L' := [(2, .int v3), (1, .int e2), (0, va_rf (some this))]) (i := 2) (x := v3) dX10_wanted_12 rfl rfl (by decide) rfl ?_
  exact R_sub [2, 1, 0] rfl (rf_X10_wanted_L13 this FU e2 v3 M)
/-! BarPilotModel.alikeOf(II)I -/
def f_X10_alikeOf_J42 (k5 : Int32 → Int32 → Int32 → Int32 → Mem → Option (Int32 × Mem)) (this : Nat) (l1 : Int32) (l2 : Int32) (l4 : Int32) (s0 : Int32) (s1 : Int32) (M : Mem) : Option (Int32 × Mem) :=
  nm (s1 + s0) fun v1 =>
  k5 l1 l2 v1 (l4 + (nI 1)) M
set_option maxHeartbeats 2000000 in
set_option maxRecDepth 20000 in
theorem rf_X10_alikeOf_J42 (this : Nat) (k5 : Int32 → Int32 → Int32 → Int32 → Mem → Option (Int32 × Mem)) (hk5 : ∀ (l1 : Int32) (l2 : Int32) (l3 : Int32) (l4 : Int32) (M : Mem), RF yX10_alikeOf cX10_alikeOf 5 (some .int) 1 eI (k5 l1 l2 l3 l4 M) 5 [(0, va_rf (some this)), (1, .int l1), (2, .int l2), (3, .int l3), (4, .int l4)] [] M) (l1 : Int32) (l2 : Int32) (l4 : Int32) (s0 : Int32) (s1 : Int32) (M : Mem) : RF yX10_alikeOf cX10_alikeOf 5 (some .int) 1 eI (f_X10_alikeOf_J42 k5 this l1 l2 l4 s0 s1 M) 42 [(0, va_rf (some this)), (1, .int l1), (2, .int l2), (4, .int l4)] [.int s0, .int s1] M := by
  rw [f_X10_alikeOf_J42]
  refine R_iadd (pc' := 43) (a := s1) (b := s0) dX10_alikeOf_42 rfl ?_
  refine R_nmI (fun v1 => ?_)
  refine R_istore_n (pc' := 44) (L' := [(3, .int v1), (0, va_rf (some this)), (1, .int l1), (2, .int l2), (4, .int l4)]) (i := 3) (x := v1) dX10_alikeOf_43 rfl rfl (by decide) rfl ?_
  refine R_iinc (pc' := 47) (L' := [(4, .int (l4 + (nI 1))), (3, .int v1), (0, va_rf (some this)), (1, .int l1), (2, .int l2)]) (i := 4) (j := 4) (x := l4) (x2 := (l4 + (nI 1))) dX10_alikeOf_44 rfl rfl rfl (by decide) rfl ?_
  refine R_goto (tgt := 5) dX10_alikeOf_47 (by decide) ?_
  exact R_sub [2, 3, 4, 1, 0] rfl (hk5 l1 l2 v1 (l4 + (nI 1)) M)
def f_X10_alikeOf_L5 (this : Nat) : Nat → Int32 → Int32 → Int32 → Int32 → Mem → Option (Int32 × Mem)
  | 0, _, _, _, _, _ => none
  | n + 1, l1, l2, l3, l4, M =>
    (if (nI 3) ≤ l4 then
      (some (l3, M))
    else
      ((gR M 10 2 (some this)).bind fun parts1 =>
      (aI M 0 parts1 (((nI 3) * l1) + l4)).bind fun e2 =>
      (gR M 10 2 (some this)).bind fun parts3 =>
      (aI M 0 parts3 (((nI 3) * l2) + l4)).bind fun e4 =>
      (if e2 = e4 then
        (f_X10_alikeOf_J42 (f_X10_alikeOf_L5 this n) this l1 l2 l4 (nI 1) l3 M)
      else
        (f_X10_alikeOf_J42 (f_X10_alikeOf_L5 this n) this l1 l2 l4 (nI 0) l3 M))))
set_option maxHeartbeats 2000000 in
set_option maxRecDepth 20000 in
theorem rf_X10_alikeOf_L5 (this : Nat) : ∀ (n : Nat) (l1 : Int32) (l2 : Int32) (l3 : Int32) (l4 : Int32) (M : Mem), RF yX10_alikeOf cX10_alikeOf 5 (some .int) 1 eI (f_X10_alikeOf_L5 this n l1 l2 l3 l4 M) 5 [(0, va_rf (some this)), (1, .int l1), (2, .int l2), (3, .int l3), (4, .int l4)] [] M := by
  intro n
  induction n with
  | zero => intro _ _ _ _ _; exact RF.none
  | succ n ih =>
    intro l1 l2 l3 l4 M
    rw [f_X10_alikeOf_L5]
    refine R_iload (pc' := 7) (i := 4) (j := 4) (x := l4) dX10_alikeOf_5 rfl rfl ?_
    refine R_iconst (pc' := 8) (x := (nI 3)) dX10_alikeOf_7 rfl (by decide) ?_
    refine R_icmp_ge (pc' := 11) (tgt := 50) (a := l4) (b := (nI 3)) dX10_alikeOf_8 (by decide) rfl ?_ ?_
    · refine R_iload_n (pc' := 51) (i := 3) (j := 3) (x := l3) dX10_alikeOf_50 rfl rfl rfl ?_
      exact R_iret dX10_alikeOf_51
    · refine R_iload_n (pc' := 12) (i := 3) (j := 3) (x := l3) dX10_alikeOf_11 rfl rfl rfl ?_
      refine R_aloadq_n (pc' := 13) (i := 0) (j := 0) (q := (some this)) dX10_alikeOf_12 rfl rfl rfl ?_
      refine R_getR (pc' := 16) (q := (some this)) fl_X10_13 rfl dX10_alikeOf_13 rfl (fun parts1 => ?_)
      refine R_iconst (pc' := 17) (x := (nI 3)) dX10_alikeOf_16 rfl (by decide) ?_
      refine R_iload_n (pc' := 18) (i := 1) (j := 1) (x := l1) dX10_alikeOf_17 rfl rfl rfl ?_
      refine R_imul (pc' := 19) (a := (nI 3)) (b := l1) dX10_alikeOf_18 rfl ?_
      refine R_iload (pc' := 21) (i := 4) (j := 4) (x := l4) dX10_alikeOf_19 rfl rfl ?_
      refine R_iadd (pc' := 22) (a := ((nI 3) * l1)) (b := l4) dX10_alikeOf_21 rfl ?_
      refine R_iald (pc' := 23) (q := parts1) (i := (((nI 3) * l1) + l4)) dX10_alikeOf_22 rfl (fun e2 => ?_)
      refine R_aloadq_n (pc' := 24) (i := 0) (j := 0) (q := (some this)) dX10_alikeOf_23 rfl rfl rfl ?_
      refine R_getR (pc' := 27) (q := (some this)) fl_X10_13 rfl dX10_alikeOf_24 rfl (fun parts3 => ?_)
      refine R_iconst (pc' := 28) (x := (nI 3)) dX10_alikeOf_27 rfl (by decide) ?_
      refine R_iload_n (pc' := 29) (i := 2) (j := 2) (x := l2) dX10_alikeOf_28 rfl rfl rfl ?_
      refine R_imul (pc' := 30) (a := (nI 3)) (b := l2) dX10_alikeOf_29 rfl ?_
      refine R_iload (pc' := 32) (i := 4) (j := 4) (x := l4) dX10_alikeOf_30 rfl rfl ?_
      refine R_iadd (pc' := 33) (a := ((nI 3) * l2)) (b := l4) dX10_alikeOf_32 rfl ?_
      refine R_iald (pc' := 34) (q := parts3) (i := (((nI 3) * l2) + l4)) dX10_alikeOf_33 rfl (fun e4 => ?_)
      refine R_icmp_ne (pc' := 37) (tgt := 41) (a := e2) (b := e4) dX10_alikeOf_34 (by decide) rfl ?_ ?_
      · refine R_iconst (pc' := 42) (x := (nI 0)) dX10_alikeOf_41 rfl (by decide) ?_
        exact R_sub [0, 1, 2, 4] rfl (rf_X10_alikeOf_J42 this (f_X10_alikeOf_L5 this n) ih l1 l2 l4 (nI 0) l3 M)
      · refine R_iconst (pc' := 38) (x := (nI 1)) dX10_alikeOf_37 rfl (by decide) ?_
        refine R_goto (tgt := 42) dX10_alikeOf_38 (by decide) ?_
        exact R_sub [0, 1, 2, 4] rfl (rf_X10_alikeOf_J42 this (f_X10_alikeOf_L5 this n) ih l1 l2 l4 (nI 1) l3 M)
def f_X10_alikeOf (this : Nat) (l1 : Int32) (l2 : Int32) (M : Mem) : Option (Int32 × Mem) :=
  f_X10_alikeOf_L5 this FU l1 l2 (nI 0) (nI 0) M
set_option maxHeartbeats 2000000 in
set_option maxRecDepth 20000 in
theorem rm_X10_alikeOf (this : Nat) (l1 : Int32) (l2 : Int32) (M : Mem) : RFm yX10_alikeOf cX10_alikeOf 5 (some .int) 1 eI (f_X10_alikeOf this l1 l2 M) [va_rf (some this), .int l1, .int l2] M := by
  refine RFm_of (L := [(0, va_rf (some this)), (1, .int l1), (2, .int l2)]) (by decide) rfl (Nat.le_trans (c_R (c_I (c_I c_0))) (by decide)) ?_
  rw [f_X10_alikeOf]
  refine R_iconst (pc' := 1) (x := (nI 0)) dX10_alikeOf_0 rfl (by decide) ?_
  refine R_istore_n (pc' := 2) (L' := [(3, .int (nI 0)), (0, va_rf (some this)), (1, .int l1), (2, .int l2)]) (i := 3) (x := (nI 0)) dX10_alikeOf_1 rfl rfl (by decide) rfl ?_
  refine R_iconst (pc' := 3) (x := (nI 0)) dX10_alikeOf_2 rfl (by decide) ?_
  refine R_istore (pc' := 5) (L' := [(4, .int (nI 0)), (3, .int (nI 0)), (0, va_rf (some this)), (1, .int l1), (2, .int l2)]) (i := 4) (x := (nI 0)) dX10_alikeOf_3 rfl (by decide) rfl ?_
  exact R_sub [2, 3, 4, 1, 0] rfl (rf_X10_alikeOf_L5 this FU l1 l2 (nI 0) (nI 0) M)
/-! BarPilotModel.remembers(I)Z -/
def f_X10_remembers_J27 (this : Nat) (s0 : Int32) (M : Mem) : Option (Int32 × Mem) :=
  ckZ s0 (some (s0, M))
set_option maxHeartbeats 2000000 in
set_option maxRecDepth 20000 in
theorem rf_X10_remembers_J27 (this : Nat) (s0 : Int32) (M : Mem) : RF yX10_remembers cX10_remembers 2 (some .boolean) 1 eI (f_X10_remembers_J27 this s0 M) 27 [] [.int s0] M := by
  rw [f_X10_remembers_J27]
  exact R_bret dX10_remembers_27
def f_X10_remembers (this : Nat) (l1 : Int32) (M : Mem) : Option (Int32 × Mem) :=
  (gR M 10 1 (some this)).bind fun scalar1 =>
  (aI M 0 scalar1 (nI 4)).bind fun e2 =>
  (gR M 10 5 (some this)).bind fun heard3 =>
  (aI M 0 heard3 l1).bind fun e4 =>
  (gR M 10 1 (some this)).bind fun scalar5 =>
  (aI M 0 scalar5 (nI 0)).bind fun e6 =>
  (if e6 ≤ (e2 - e4) then
    (f_X10_remembers_J27 this (nI 0) M)
  else
    (f_X10_remembers_J27 this (nI 1) M))
set_option maxHeartbeats 2000000 in
set_option maxRecDepth 20000 in
theorem rm_X10_remembers (this : Nat) (l1 : Int32) (M : Mem) : RFm yX10_remembers cX10_remembers 2 (some .boolean) 1 eI (f_X10_remembers this l1 M) [va_rf (some this), .int l1] M := by
  refine RFm_of (L := [(0, va_rf (some this)), (1, .int l1)]) (by decide) rfl (Nat.le_trans (c_R (c_I c_0)) (by decide)) ?_
  rw [f_X10_remembers]
  refine R_aloadq_n (pc' := 1) (i := 0) (j := 0) (q := (some this)) dX10_remembers_0 rfl rfl rfl ?_
  refine R_getR (pc' := 4) (q := (some this)) fl_X10_9 rfl dX10_remembers_1 rfl (fun scalar1 => ?_)
  refine R_iconst (pc' := 5) (x := (nI 4)) dX10_remembers_4 rfl (by decide) ?_
  refine R_iald (pc' := 6) (q := scalar1) (i := (nI 4)) dX10_remembers_5 rfl (fun e2 => ?_)
  refine R_aloadq_n (pc' := 7) (i := 0) (j := 0) (q := (some this)) dX10_remembers_6 rfl rfl rfl ?_
  refine R_getR (pc' := 10) (q := (some this)) fl_X10_22 rfl dX10_remembers_7 rfl (fun heard3 => ?_)
  refine R_iload_n (pc' := 11) (i := 1) (j := 1) (x := l1) dX10_remembers_10 rfl rfl rfl ?_
  refine R_iald (pc' := 12) (q := heard3) (i := l1) dX10_remembers_11 rfl (fun e4 => ?_)
  refine R_isub (pc' := 13) (a := e2) (b := e4) dX10_remembers_12 rfl ?_
  refine R_aloadq_n (pc' := 14) (i := 0) (j := 0) (q := (some this)) dX10_remembers_13 rfl rfl rfl ?_
  refine R_getR (pc' := 17) (q := (some this)) fl_X10_9 rfl dX10_remembers_14 rfl (fun scalar5 => ?_)
  refine R_iconst (pc' := 18) (x := (nI 0)) dX10_remembers_17 rfl (by decide) ?_
  refine R_iald (pc' := 19) (q := scalar5) (i := (nI 0)) dX10_remembers_18 rfl (fun e6 => ?_)
  refine R_icmp_ge (pc' := 22) (tgt := 26) (a := (e2 - e4)) (b := e6) dX10_remembers_19 (by decide) rfl ?_ ?_
  · refine R_iconst (pc' := 27) (x := (nI 0)) dX10_remembers_26 rfl (by decide) ?_
    exact R_sub [] rfl (rf_X10_remembers_J27 this (nI 0) M)
  · refine R_iconst (pc' := 23) (x := (nI 1)) dX10_remembers_22 rfl (by decide) ?_
    refine R_goto (tgt := 27) dX10_remembers_23 (by decide) ?_
    exact R_sub [] rfl (rf_X10_remembers_J27 this (nI 1) M)
/-! BarPilotModel.likeOf(I)I -/
def f_X10_likeOf_J46 (k4 : Int32 → Int32 → Int32 → Mem → Option (Int32 × Mem)) (this : Nat) (l1 : Int32) (l3 : Int32) (s0 : Int32) (M : Mem) : Option (Int32 × Mem) :=
  k4 l1 s0 (l3 + (nI 1)) M
set_option maxHeartbeats 2000000 in
set_option maxRecDepth 20000 in
theorem rf_X10_likeOf_J46 (this : Nat) (k4 : Int32 → Int32 → Int32 → Mem → Option (Int32 × Mem)) (hk4 : ∀ (l1 : Int32) (l2 : Int32) (l3 : Int32) (M : Mem), RF yX10_likeOf cX10_likeOf 5 (some .int) 2 eI (k4 l1 l2 l3 M) 4 [(0, va_rf (some this)), (1, .int l1), (2, .int l2), (3, .int l3)] [] M) (l1 : Int32) (l3 : Int32) (s0 : Int32) (M : Mem) : RF yX10_likeOf cX10_likeOf 5 (some .int) 2 eI (f_X10_likeOf_J46 k4 this l1 l3 s0 M) 46 [(0, va_rf (some this)), (1, .int l1), (3, .int l3)] [.int s0] M := by
  rw [f_X10_likeOf_J46]
  refine R_istore_n (pc' := 47) (L' := [(2, .int s0), (0, va_rf (some this)), (1, .int l1), (3, .int l3)]) (i := 2) (x := s0) dX10_likeOf_46 rfl rfl (by decide) rfl ?_
  refine R_iinc (pc' := 50) (L' := [(3, .int (l3 + (nI 1))), (2, .int s0), (0, va_rf (some this)), (1, .int l1)]) (i := 3) (j := 3) (x := l3) (x2 := (l3 + (nI 1))) dX10_likeOf_47 rfl rfl rfl (by decide) rfl ?_
  refine R_goto (tgt := 4) dX10_likeOf_50 (by decide) ?_
  exact R_sub [2, 3, 1, 0] rfl (hk4 l1 s0 (l3 + (nI 1)) M)
def f_X10_likeOf_J32 (k4 : Int32 → Int32 → Int32 → Mem → Option (Int32 × Mem)) (this : Nat) (l1 : Int32) (l2 : Int32) (l3 : Int32) (s0 : Int32) (M : Mem) : Option (Int32 × Mem) :=
  (if s0 ≤ l2 then
    (f_X10_likeOf_J46 k4 this l1 l3 l2 M)
  else
    (f_X10_likeOf_J46 k4 this l1 l3 s0 M))
set_option maxHeartbeats 2000000 in
set_option maxRecDepth 20000 in
theorem rf_X10_likeOf_J32 (this : Nat) (k4 : Int32 → Int32 → Int32 → Mem → Option (Int32 × Mem)) (hk4 : ∀ (l1 : Int32) (l2 : Int32) (l3 : Int32) (M : Mem), RF yX10_likeOf cX10_likeOf 5 (some .int) 2 eI (k4 l1 l2 l3 M) 4 [(0, va_rf (some this)), (1, .int l1), (2, .int l2), (3, .int l3)] [] M) (l1 : Int32) (l2 : Int32) (l3 : Int32) (s0 : Int32) (M : Mem) : RF yX10_likeOf cX10_likeOf 5 (some .int) 2 eI (f_X10_likeOf_J32 k4 this l1 l2 l3 s0 M) 32 [(0, va_rf (some this)), (1, .int l1), (2, .int l2), (3, .int l3)] [.int s0] M := by
  rw [f_X10_likeOf_J32]
  refine R_istore (pc' := 34) (L' := [(4, .int s0), (0, va_rf (some this)), (1, .int l1), (2, .int l2), (3, .int l3)]) (i := 4) (x := s0) dX10_likeOf_32 rfl (by decide) rfl ?_
  refine R_iload (pc' := 36) (i := 4) (j := 0) (x := s0) dX10_likeOf_34 rfl rfl ?_
  refine R_iload_n (pc' := 37) (i := 2) (j := 3) (x := l2) dX10_likeOf_36 rfl rfl rfl ?_
  refine R_icmp_le (pc' := 40) (tgt := 45) (a := s0) (b := l2) dX10_likeOf_37 (by decide) rfl ?_ ?_
  · refine R_iload_n (pc' := 46) (i := 2) (j := 3) (x := l2) dX10_likeOf_45 rfl rfl rfl ?_
    exact R_sub [1, 2, 4] rfl (rf_X10_likeOf_J46 this k4 hk4 l1 l3 l2 M)
  · refine R_iload (pc' := 42) (i := 4) (j := 0) (x := s0) dX10_likeOf_40 rfl rfl ?_
    refine R_goto (tgt := 46) dX10_likeOf_42 (by decide) ?_
    exact R_sub [1, 2, 4] rfl (rf_X10_likeOf_J46 this k4 hk4 l1 l3 s0 M)
def f_X10_likeOf_L4 (this : Nat) : Nat → Int32 → Int32 → Int32 → Mem → Option (Int32 × Mem)
  | 0, _, _, _, _ => none
  | n + 1, l1, l2, l3, M =>
    (gR M 10 1 (some this)).bind fun scalar1 =>
    (aI M 0 scalar1 (nI 2)).bind fun e2 =>
    (if e2 ≤ l3 then
      (some (l2, M))
    else
      ((oO M 10 (some this)).bind fun o6 => cl (f_X10_remembers o6 l3 M) fun r3 M =>
      (if r3 = 0 then
        (f_X10_likeOf_J32 (f_X10_likeOf_L4 this n) this l1 l2 l3 (nI 0) M)
      else
        ((oO M 10 (some this)).bind fun o5 => cl (f_X10_alikeOf o5 l1 l3 M) fun r4 M =>
        f_X10_likeOf_J32 (f_X10_likeOf_L4 this n) this l1 l2 l3 r4 M))))
set_option maxHeartbeats 2000000 in
set_option maxRecDepth 20000 in
theorem rf_X10_likeOf_L4 (this : Nat) : ∀ (n : Nat) (l1 : Int32) (l2 : Int32) (l3 : Int32) (M : Mem), RF yX10_likeOf cX10_likeOf 5 (some .int) 2 eI (f_X10_likeOf_L4 this n l1 l2 l3 M) 4 [(0, va_rf (some this)), (1, .int l1), (2, .int l2), (3, .int l3)] [] M := by
  intro n
  induction n with
  | zero => intro _ _ _ _; exact RF.none
  | succ n ih =>
    intro l1 l2 l3 M
    rw [f_X10_likeOf_L4]
    refine R_iload_n (pc' := 5) (i := 3) (j := 3) (x := l3) dX10_likeOf_4 rfl rfl rfl ?_
    refine R_aloadq_n (pc' := 6) (i := 0) (j := 0) (q := (some this)) dX10_likeOf_5 rfl rfl rfl ?_
    refine R_getR (pc' := 9) (q := (some this)) fl_X10_9 rfl dX10_likeOf_6 rfl (fun scalar1 => ?_)
    refine R_iconst (pc' := 10) (x := (nI 2)) dX10_likeOf_9 rfl (by decide) ?_
    refine R_iald (pc' := 11) (q := scalar1) (i := (nI 2)) dX10_likeOf_10 rfl (fun e2 => ?_)
    refine R_icmp_ge (pc' := 14) (tgt := 53) (a := l3) (b := e2) dX10_likeOf_11 (by decide) rfl ?_ ?_
    · refine R_iload_n (pc' := 54) (i := 2) (j := 2) (x := l2) dX10_likeOf_53 rfl rfl rfl ?_
      exact R_iret dX10_likeOf_54
    · refine R_aloadq_n (pc' := 15) (i := 0) (j := 0) (q := (some this)) dX10_likeOf_14 rfl rfl rfl ?_
      refine R_iload_n (pc' := 16) (i := 3) (j := 3) (x := l3) dX10_likeOf_15 rfl rfl rfl ?_
      refine R_callV_I (pc' := 19) (q := (some this)) (As := [.int l3]) (fun o6 => rm_X10_remembers o6 l3 M) mf_X10_remembers lk_X10_332 im_X10_remembers se_X10_remembers rfl rfl rfl dX10_likeOf_16 rfl (by decide) (Nat.le_trans c_0 (by decide)) (fun r3 M => ?_)
      refine R_if_eq (pc' := 22) (tgt := 31) (a := r3) dX10_likeOf_19 (by decide) rfl ?_ ?_
      · refine R_iconst (pc' := 32) (x := (nI 0)) dX10_likeOf_31 rfl (by decide) ?_
        exact R_sub [0, 1, 2, 3] rfl (rf_X10_likeOf_J32 this (f_X10_likeOf_L4 this n) ih l1 l2 l3 (nI 0) M)
      · refine R_aloadq_n (pc' := 23) (i := 0) (j := 0) (q := (some this)) dX10_likeOf_22 rfl rfl rfl ?_
        refine R_iload_n (pc' := 24) (i := 1) (j := 1) (x := l1) dX10_likeOf_23 rfl rfl rfl ?_
        refine R_iload_n (pc' := 25) (i := 3) (j := 3) (x := l3) dX10_likeOf_24 rfl rfl rfl ?_
        refine R_callV_I (pc' := 28) (q := (some this)) (As := [.int l1, .int l3]) (fun o5 => rm_X10_alikeOf o5 l1 l3 M) mf_X10_alikeOf lk_X10_335 im_X10_alikeOf se_X10_alikeOf rfl rfl rfl dX10_likeOf_25 rfl (by decide) (Nat.le_trans c_0 (by decide)) (fun r4 M => ?_)
        refine R_goto (tgt := 32) dX10_likeOf_28 (by decide) ?_
        exact R_sub [0, 1, 2, 3] rfl (rf_X10_likeOf_J32 this (f_X10_likeOf_L4 this n) ih l1 l2 l3 r4 M)
def f_X10_likeOf (this : Nat) (l1 : Int32) (M : Mem) : Option (Int32 × Mem) :=
  f_X10_likeOf_L4 this FU l1 (nI 0) (nI 0) M
set_option maxHeartbeats 2000000 in
set_option maxRecDepth 20000 in
theorem rm_X10_likeOf (this : Nat) (l1 : Int32) (M : Mem) : RFm yX10_likeOf cX10_likeOf 5 (some .int) 2 eI (f_X10_likeOf this l1 M) [va_rf (some this), .int l1] M := by
  refine RFm_of (L := [(0, va_rf (some this)), (1, .int l1)]) (by decide) rfl (Nat.le_trans (c_R (c_I c_0)) (by decide)) ?_
  rw [f_X10_likeOf]
  refine R_iconst (pc' := 1) (x := (nI 0)) dX10_likeOf_0 rfl (by decide) ?_
  refine R_istore_n (pc' := 2) (L' := [(2, .int (nI 0)), (0, va_rf (some this)), (1, .int l1)]) (i := 2) (x := (nI 0)) dX10_likeOf_1 rfl rfl (by decide) rfl ?_
  refine R_iconst (pc' := 3) (x := (nI 0)) dX10_likeOf_2 rfl (by decide) ?_
  refine R_istore_n (pc' := 4) (L' := [(3, .int (nI 0)), (2, .int (nI 0)), (0, va_rf (some this)), (1, .int l1)]) (i := 3) (x := (nI 0)) dX10_likeOf_3 rfl rfl (by decide) rfl ?_
  exact R_sub [2, 3, 1, 0] rfl (rf_X10_likeOf_L4 this FU l1 (nI 0) (nI 0) M)
/-! BarPilotModel.isNew(I)Z -/
def f_X10_isNew_J19 (this : Nat) (s0 : Int32) (M : Mem) : Option (Int32 × Mem) :=
  ckZ s0 (some (s0, M))
set_option maxHeartbeats 2000000 in
set_option maxRecDepth 20000 in
theorem rf_X10_isNew_J19 (this : Nat) (s0 : Int32) (M : Mem) : RF yX10_isNew cX10_isNew 2 (some .boolean) 3 eI (f_X10_isNew_J19 this s0 M) 19 [] [.int s0] M := by
  rw [f_X10_isNew_J19]
  exact R_bret dX10_isNew_19
def f_X10_isNew (this : Nat) (l1 : Int32) (M : Mem) : Option (Int32 × Mem) :=
  (oO M 10 (some this)).bind fun o4 => cl (f_X10_likeOf o4 l1 M) fun r1 M =>
  (gR M 10 1 (some this)).bind fun scalar2 =>
  (aI M 0 scalar2 (nI 1)).bind fun e3 =>
  (if e3 ≤ r1 then
    (f_X10_isNew_J19 this (nI 0) M)
  else
    (f_X10_isNew_J19 this (nI 1) M))
set_option maxHeartbeats 2000000 in
set_option maxRecDepth 20000 in
theorem rm_X10_isNew (this : Nat) (l1 : Int32) (M : Mem) : RFm yX10_isNew cX10_isNew 2 (some .boolean) 3 eI (f_X10_isNew this l1 M) [va_rf (some this), .int l1] M := by
  refine RFm_of (L := [(0, va_rf (some this)), (1, .int l1)]) (by decide) rfl (Nat.le_trans (c_R (c_I c_0)) (by decide)) ?_
  rw [f_X10_isNew]
  refine R_aloadq_n (pc' := 1) (i := 0) (j := 0) (q := (some this)) dX10_isNew_0 rfl rfl rfl ?_
  refine R_iload_n (pc' := 2) (i := 1) (j := 1) (x := l1) dX10_isNew_1 rfl rfl rfl ?_
  refine R_callV_I (pc' := 5) (q := (some this)) (As := [.int l1]) (fun o4 => rm_X10_likeOf o4 l1 M) mf_X10_likeOf lk_X10_338 im_X10_likeOf se_X10_likeOf rfl rfl rfl dX10_isNew_2 rfl (by decide) (Nat.le_trans c_0 (by decide)) (fun r1 M => ?_)
  refine R_aloadq_n (pc' := 6) (i := 0) (j := 0) (q := (some this)) dX10_isNew_5 rfl rfl rfl ?_
  refine R_getR (pc' := 9) (q := (some this)) fl_X10_9 rfl dX10_isNew_6 rfl (fun scalar2 => ?_)
  refine R_iconst (pc' := 10) (x := (nI 1)) dX10_isNew_9 rfl (by decide) ?_
  refine R_iald (pc' := 11) (q := scalar2) (i := (nI 1)) dX10_isNew_10 rfl (fun e3 => ?_)
  refine R_icmp_ge (pc' := 14) (tgt := 18) (a := r1) (b := e3) dX10_isNew_11 (by decide) rfl ?_ ?_
  · refine R_iconst (pc' := 19) (x := (nI 0)) dX10_isNew_18 rfl (by decide) ?_
    exact R_sub [] rfl (rf_X10_isNew_J19 this (nI 0) M)
  · refine R_iconst (pc' := 15) (x := (nI 1)) dX10_isNew_14 rfl (by decide) ?_
    refine R_goto (tgt := 19) dX10_isNew_15 (by decide) ?_
    exact R_sub [] rfl (rf_X10_isNew_J19 this (nI 1) M)
/-! BarPilotModel.sinceOf(I)I -/
def f_X10_sinceOf_J26 (this : Nat) (s0 : Int32) (M : Mem) : Option (Int32 × Mem) :=
  some (s0, M)
set_option maxHeartbeats 2000000 in
set_option maxRecDepth 20000 in
theorem rf_X10_sinceOf_J26 (this : Nat) (s0 : Int32) (M : Mem) : RF yX10_sinceOf cX10_sinceOf 3 (some .int) 1 eI (f_X10_sinceOf_J26 this s0 M) 26 [] [.int s0] M := by
  rw [f_X10_sinceOf_J26]
  exact R_iret dX10_sinceOf_26
def f_X10_sinceOf (this : Nat) (l1 : Int32) (M : Mem) : Option (Int32 × Mem) :=
  (gR M 10 1 (some this)).bind fun scalar1 =>
  (aI M 0 scalar1 (nI 4)).bind fun e2 =>
  (gR M 10 5 (some this)).bind fun heard3 =>
  (aI M 0 heard3 l1).bind fun e4 =>
  nm (e2 - e4) fun v5 =>
  (if v5 ≤ (nI 99) then
    (f_X10_sinceOf_J26 this v5 M)
  else
    (f_X10_sinceOf_J26 this (nI 99) M))
set_option maxHeartbeats 2000000 in
set_option maxRecDepth 20000 in
theorem rm_X10_sinceOf (this : Nat) (l1 : Int32) (M : Mem) : RFm yX10_sinceOf cX10_sinceOf 3 (some .int) 1 eI (f_X10_sinceOf this l1 M) [va_rf (some this), .int l1] M := by
  refine RFm_of (L := [(0, va_rf (some this)), (1, .int l1)]) (by decide) rfl (Nat.le_trans (c_R (c_I c_0)) (by decide)) ?_
  rw [f_X10_sinceOf]
  refine R_aloadq_n (pc' := 1) (i := 0) (j := 0) (q := (some this)) dX10_sinceOf_0 rfl rfl rfl ?_
  refine R_getR (pc' := 4) (q := (some this)) fl_X10_9 rfl dX10_sinceOf_1 rfl (fun scalar1 => ?_)
  refine R_iconst (pc' := 5) (x := (nI 4)) dX10_sinceOf_4 rfl (by decide) ?_
  refine R_iald (pc' := 6) (q := scalar1) (i := (nI 4)) dX10_sinceOf_5 rfl (fun e2 => ?_)
  refine R_aloadq_n (pc' := 7) (i := 0) (j := 0) (q := (some this)) dX10_sinceOf_6 rfl rfl rfl ?_
  refine R_getR (pc' := 10) (q := (some this)) fl_X10_22 rfl dX10_sinceOf_7 rfl (fun heard3 => ?_)
  refine R_iload_n (pc' := 11) (i := 1) (j := 1) (x := l1) dX10_sinceOf_10 rfl rfl rfl ?_
  refine R_iald (pc' := 12) (q := heard3) (i := l1) dX10_sinceOf_11 rfl (fun e4 => ?_)
  refine R_isub (pc' := 13) (a := e2) (b := e4) dX10_sinceOf_12 rfl ?_
  refine R_nmI (fun v5 => ?_)
  refine R_istore_n (pc' := 14) (L' := [(2, .int v5), (0, va_rf (some this)), (1, .int l1)]) (i := 2) (x := v5) dX10_sinceOf_13 rfl rfl (by decide) rfl ?_
  refine R_iload_n (pc' := 15) (i := 2) (j := 0) (x := v5) dX10_sinceOf_14 rfl rfl rfl ?_
  refine R_bipush (pc' := 17) (x := (nI 99)) dX10_sinceOf_15 rfl (by decide) ?_
  refine R_icmp_le (pc' := 20) (tgt := 25) (a := v5) (b := (nI 99)) dX10_sinceOf_17 (by decide) rfl ?_ ?_
  · refine R_iload_n (pc' := 26) (i := 2) (j := 0) (x := v5) dX10_sinceOf_25 rfl rfl rfl ?_
    exact R_sub [] rfl (rf_X10_sinceOf_J26 this v5 M)
  · refine R_bipush (pc' := 22) (x := (nI 99)) dX10_sinceOf_20 rfl (by decide) ?_
    refine R_goto (tgt := 26) dX10_sinceOf_22 (by decide) ?_
    exact R_sub [] rfl (rf_X10_sinceOf_J26 this (nI 99) M)
/-! BarPilotModel.joke(II)I -/
def f_X10_joke_J92 (this : Nat) (s0 : Int32) (M : Mem) : Option (Int32 × Mem) :=
  some (s0, M)
set_option maxHeartbeats 2000000 in
set_option maxRecDepth 20000 in
theorem rf_X10_joke_J92 (this : Nat) (s0 : Int32) (M : Mem) : RF yX10_joke cX10_joke 3 (some .int) 4 eI (f_X10_joke_J92 this s0 M) 92 [] [.int s0] M := by
  rw [f_X10_joke_J92]
  exact R_iret dX10_joke_92
def f_X10_joke_J106 (this : Nat) (s0 : Int32) (M : Mem) : Option (Int32 × Mem) :=
  some (s0, M)
set_option maxHeartbeats 2000000 in
set_option maxRecDepth 20000 in
theorem rf_X10_joke_J106 (this : Nat) (s0 : Int32) (M : Mem) : RF yX10_joke cX10_joke 3 (some .int) 4 eI (f_X10_joke_J106 this s0 M) 106 [] [.int s0] M := by
  rw [f_X10_joke_J106]
  exact R_iret dX10_joke_106
def f_X10_joke (this : Nat) (l1 : Int32) (l2 : Int32) (M : Mem) : Option (Int32 × Mem) :=
  (oO M 10 (some this)).bind fun o14 => cl (f_X10_isJoke o14 l1 M) fun r1 M =>
  (if r1 = 0 then
    (some ((-1 : Int32), M))
  else
    ((tsw l2 (0) [
      ((gR M 10 2 (some this)).bind fun parts2 =>
      (aI M 0 parts2 ((nI 3) * l1)).bind fun e3 =>
      some (e3, M)),
      ((gR M 10 2 (some this)).bind fun parts4 =>
      (aI M 0 parts4 (((nI 3) * l1) + (nI 1))).bind fun e5 =>
      some (e5, M)),
      ((gR M 10 2 (some this)).bind fun parts6 =>
      (aI M 0 parts6 (((nI 3) * l1) + (nI 2))).bind fun e7 =>
      some (e7, M)),
      ((oO M 10 (some this)).bind fun o9 => cl (f_X10_remembers o9 l1 M) fun r8 M =>
      (if r8 = 0 then
        (f_X10_joke_J92 this (nI 0) M)
      else
        (f_X10_joke_J92 this (nI 1) M))),
      ((oO M 10 (some this)).bind fun o11 => cl (f_X10_isNew o11 l1 M) fun r10 M =>
      (if r10 = 0 then
        (f_X10_joke_J106 this (nI 0) M)
      else
        (f_X10_joke_J106 this (nI 1) M))),
      ((oO M 10 (some this)).bind fun o13 => cl (f_X10_sinceOf o13 l1 M) fun r12 M =>
      some (r12, M))]
      (some ((-1 : Int32), M)))))
set_option maxHeartbeats 2000000 in
set_option maxRecDepth 20000 in
theorem rm_X10_joke (this : Nat) (l1 : Int32) (l2 : Int32) (M : Mem) : RFm yX10_joke cX10_joke 3 (some .int) 4 eI (f_X10_joke this l1 l2 M) [va_rf (some this), .int l1, .int l2] M := by
  refine RFm_of (L := [(0, va_rf (some this)), (1, .int l1), (2, .int l2)]) (by decide) rfl (Nat.le_trans (c_R (c_I (c_I c_0))) (by decide)) ?_
  rw [f_X10_joke]
  refine R_aloadq_n (pc' := 1) (i := 0) (j := 0) (q := (some this)) dX10_joke_0 rfl rfl rfl ?_
  refine R_iload_n (pc' := 2) (i := 1) (j := 1) (x := l1) dX10_joke_1 rfl rfl rfl ?_
  refine R_callV_I (pc' := 5) (q := (some this)) (As := [.int l1]) (fun o14 => rm_X10_isJoke o14 l1 M) mf_X10_isJoke lk_X10_341 im_X10_isJoke se_X10_isJoke rfl rfl rfl dX10_joke_2 rfl (by decide) (Nat.le_trans c_0 (by decide)) (fun r1 M => ?_)
  refine R_if_ne (pc' := 8) (tgt := 10) (a := r1) dX10_joke_5 (by decide) rfl ?_ ?_
  · refine R_iload_n (pc' := 11) (i := 2) (j := 2) (x := l2) dX10_joke_10 rfl rfl rfl ?_
    refine R_tsw (tgt := 113) (x := l2) dX10_joke_11 rfl (by decide) ?_ ⟨⟨48, by decide, ?_⟩, ⟨57, by decide, ?_⟩, ⟨68, by decide, ?_⟩, ⟨79, by decide, ?_⟩, ⟨93, by decide, ?_⟩, ⟨107, by decide, ?_⟩, trivial⟩
    · refine R_iconst (pc' := 114) (x := (-1 : Int32)) dX10_joke_113 rfl (by decide) ?_
      exact R_iret dX10_joke_114
    · refine R_aloadq_n (pc' := 49) (i := 0) (j := 0) (q := (some this)) dX10_joke_48 rfl rfl rfl ?_
      refine R_getR (pc' := 52) (q := (some this)) fl_X10_13 rfl dX10_joke_49 rfl (fun parts2 => ?_)
      refine R_iconst (pc' := 53) (x := (nI 3)) dX10_joke_52 rfl (by decide) ?_
      refine R_iload_n (pc' := 54) (i := 1) (j := 1) (x := l1) dX10_joke_53 rfl rfl rfl ?_
      refine R_imul (pc' := 55) (a := (nI 3)) (b := l1) dX10_joke_54 rfl ?_
      refine R_iald (pc' := 56) (q := parts2) (i := ((nI 3) * l1)) dX10_joke_55 rfl (fun e3 => ?_)
      exact R_iret dX10_joke_56
    · refine R_aloadq_n (pc' := 58) (i := 0) (j := 0) (q := (some this)) dX10_joke_57 rfl rfl rfl ?_
      refine R_getR (pc' := 61) (q := (some this)) fl_X10_13 rfl dX10_joke_58 rfl (fun parts4 => ?_)
      refine R_iconst (pc' := 62) (x := (nI 3)) dX10_joke_61 rfl (by decide) ?_
      refine R_iload_n (pc' := 63) (i := 1) (j := 1) (x := l1) dX10_joke_62 rfl rfl rfl ?_
      refine R_imul (pc' := 64) (a := (nI 3)) (b := l1) dX10_joke_63 rfl ?_
      refine R_iconst (pc' := 65) (x := (nI 1)) dX10_joke_64 rfl (by decide) ?_
      refine R_iadd (pc' := 66) (a := ((nI 3) * l1)) (b := (nI 1)) dX10_joke_65 rfl ?_
      refine R_iald (pc' := 67) (q := parts4) (i := (((nI 3) * l1) + (nI 1))) dX10_joke_66 rfl (fun e5 => ?_)
      exact R_iret dX10_joke_67
    · refine R_aloadq_n (pc' := 69) (i := 0) (j := 0) (q := (some this)) dX10_joke_68 rfl rfl rfl ?_
      refine R_getR (pc' := 72) (q := (some this)) fl_X10_13 rfl dX10_joke_69 rfl (fun parts6 => ?_)
      refine R_iconst (pc' := 73) (x := (nI 3)) dX10_joke_72 rfl (by decide) ?_
      refine R_iload_n (pc' := 74) (i := 1) (j := 1) (x := l1) dX10_joke_73 rfl rfl rfl ?_
      refine R_imul (pc' := 75) (a := (nI 3)) (b := l1) dX10_joke_74 rfl ?_
      refine R_iconst (pc' := 76) (x := (nI 2)) dX10_joke_75 rfl (by decide) ?_
      refine R_iadd (pc' := 77) (a := ((nI 3) * l1)) (b := (nI 2)) dX10_joke_76 rfl ?_
      refine R_iald (pc' := 78) (q := parts6) (i := (((nI 3) * l1) + (nI 2))) dX10_joke_77 rfl (fun e7 => ?_)
      exact R_iret dX10_joke_78
    · refine R_aloadq_n (pc' := 80) (i := 0) (j := 0) (q := (some this)) dX10_joke_79 rfl rfl rfl ?_
      refine R_iload_n (pc' := 81) (i := 1) (j := 1) (x := l1) dX10_joke_80 rfl rfl rfl ?_
      refine R_callV_I (pc' := 84) (q := (some this)) (As := [.int l1]) (fun o9 => rm_X10_remembers o9 l1 M) mf_X10_remembers lk_X10_332 im_X10_remembers se_X10_remembers rfl rfl rfl dX10_joke_81 rfl (by decide) (Nat.le_trans c_0 (by decide)) (fun r8 M => ?_)
      refine R_if_eq (pc' := 87) (tgt := 91) (a := r8) dX10_joke_84 (by decide) rfl ?_ ?_
      · refine R_iconst (pc' := 92) (x := (nI 0)) dX10_joke_91 rfl (by decide) ?_
        exact R_sub [] rfl (rf_X10_joke_J92 this (nI 0) M)
      · refine R_iconst (pc' := 88) (x := (nI 1)) dX10_joke_87 rfl (by decide) ?_
        refine R_goto (tgt := 92) dX10_joke_88 (by decide) ?_
        exact R_sub [] rfl (rf_X10_joke_J92 this (nI 1) M)
    · refine R_aloadq_n (pc' := 94) (i := 0) (j := 0) (q := (some this)) dX10_joke_93 rfl rfl rfl ?_
      refine R_iload_n (pc' := 95) (i := 1) (j := 1) (x := l1) dX10_joke_94 rfl rfl rfl ?_
      refine R_callV_I (pc' := 98) (q := (some this)) (As := [.int l1]) (fun o11 => rm_X10_isNew o11 l1 M) mf_X10_isNew lk_X10_344 im_X10_isNew se_X10_isNew rfl rfl rfl dX10_joke_95 rfl (by decide) (Nat.le_trans c_0 (by decide)) (fun r10 M => ?_)
      refine R_if_eq (pc' := 101) (tgt := 105) (a := r10) dX10_joke_98 (by decide) rfl ?_ ?_
      · refine R_iconst (pc' := 106) (x := (nI 0)) dX10_joke_105 rfl (by decide) ?_
        exact R_sub [] rfl (rf_X10_joke_J106 this (nI 0) M)
      · refine R_iconst (pc' := 102) (x := (nI 1)) dX10_joke_101 rfl (by decide) ?_
        refine R_goto (tgt := 106) dX10_joke_102 (by decide) ?_
        exact R_sub [] rfl (rf_X10_joke_J106 this (nI 1) M)
    · refine R_aloadq_n (pc' := 108) (i := 0) (j := 0) (q := (some this)) dX10_joke_107 rfl rfl rfl ?_
      refine R_iload_n (pc' := 109) (i := 1) (j := 1) (x := l1) dX10_joke_108 rfl rfl rfl ?_
      refine R_callV_I (pc' := 112) (q := (some this)) (As := [.int l1]) (fun o13 => rm_X10_sinceOf o13 l1 M) mf_X10_sinceOf lk_X10_347 im_X10_sinceOf se_X10_sinceOf rfl rfl rfl dX10_joke_109 rfl (by decide) (Nat.le_trans c_0 (by decide)) (fun r12 M => ?_)
      exact R_iret dX10_joke_112
  · refine R_iconst (pc' := 9) (x := (-1 : Int32)) dX10_joke_8 rfl (by decide) ?_
    exact R_iret dX10_joke_9
/-! BarPilotModel.ship(II)I -/
def f_X10_ship (this : Nat) (l1 : Int32) (l2 : Int32) (M : Mem) : Option (Int32 × Mem) :=
  (oO M 10 (some this)).bind fun o10 => cl (f_X10_isShip o10 l1 M) fun r1 M =>
  (if r1 = 0 then
    (some ((-2 : Int32), M))
  else
    ((tsw l2 (0) [
      ((gR M 10 3 (some this)).bind fun cargo2 =>
      (aI M 0 cargo2 l1).bind fun e3 =>
      some (e3, M)),
      ((gR M 10 4 (some this)).bind fun keeps4 =>
      (aI M 0 keeps4 l1).bind fun e5 =>
      some (e5, M)),
      ((gR M 10 6 (some this)).bind fun knows6 =>
      (aI M 0 knows6 l1).bind fun e7 =>
      some (e7, M)),
      ((gR M 10 7 (some this)).bind fun passed8 =>
      (aI M 0 passed8 l1).bind fun e9 =>
      some (e9, M))]
      (some ((-2 : Int32), M)))))
set_option maxHeartbeats 2000000 in
set_option maxRecDepth 20000 in
theorem rm_X10_ship (this : Nat) (l1 : Int32) (l2 : Int32) (M : Mem) : RFm yX10_ship cX10_ship 3 (some .int) 3 eI (f_X10_ship this l1 l2 M) [va_rf (some this), .int l1, .int l2] M := by
  refine RFm_of (L := [(0, va_rf (some this)), (1, .int l1), (2, .int l2)]) (by decide) rfl (Nat.le_trans (c_R (c_I (c_I c_0))) (by decide)) ?_
  rw [f_X10_ship]
  refine R_aloadq_n (pc' := 1) (i := 0) (j := 0) (q := (some this)) dX10_ship_0 rfl rfl rfl ?_
  refine R_iload_n (pc' := 2) (i := 1) (j := 1) (x := l1) dX10_ship_1 rfl rfl rfl ?_
  refine R_callV_I (pc' := 5) (q := (some this)) (As := [.int l1]) (fun o10 => rm_X10_isShip o10 l1 M) mf_X10_isShip lk_X10_135 im_X10_isShip se_X10_isShip rfl rfl rfl dX10_ship_2 rfl (by decide) (Nat.le_trans c_0 (by decide)) (fun r1 M => ?_)
  refine R_if_ne (pc' := 8) (tgt := 11) (a := r1) dX10_ship_5 (by decide) rfl ?_ ?_
  · refine R_iload_n (pc' := 12) (i := 2) (j := 2) (x := l2) dX10_ship_11 rfl rfl rfl ?_
    refine R_tsw (tgt := 72) (x := l2) dX10_ship_12 rfl (by decide) ?_ ⟨⟨44, by decide, ?_⟩, ⟨51, by decide, ?_⟩, ⟨58, by decide, ?_⟩, ⟨65, by decide, ?_⟩, trivial⟩
    · refine R_bipush (pc' := 74) (x := (-2 : Int32)) dX10_ship_72 rfl (by decide) ?_
      exact R_iret dX10_ship_74
    · refine R_aloadq_n (pc' := 45) (i := 0) (j := 0) (q := (some this)) dX10_ship_44 rfl rfl rfl ?_
      refine R_getR (pc' := 48) (q := (some this)) fl_X10_16 rfl dX10_ship_45 rfl (fun cargo2 => ?_)
      refine R_iload_n (pc' := 49) (i := 1) (j := 1) (x := l1) dX10_ship_48 rfl rfl rfl ?_
      refine R_iald (pc' := 50) (q := cargo2) (i := l1) dX10_ship_49 rfl (fun e3 => ?_)
      exact R_iret dX10_ship_50
    · refine R_aloadq_n (pc' := 52) (i := 0) (j := 0) (q := (some this)) dX10_ship_51 rfl rfl rfl ?_
      refine R_getR (pc' := 55) (q := (some this)) fl_X10_19 rfl dX10_ship_52 rfl (fun keeps4 => ?_)
      refine R_iload_n (pc' := 56) (i := 1) (j := 1) (x := l1) dX10_ship_55 rfl rfl rfl ?_
      refine R_iald (pc' := 57) (q := keeps4) (i := l1) dX10_ship_56 rfl (fun e5 => ?_)
      exact R_iret dX10_ship_57
    · refine R_aloadq_n (pc' := 59) (i := 0) (j := 0) (q := (some this)) dX10_ship_58 rfl rfl rfl ?_
      refine R_getR (pc' := 62) (q := (some this)) fl_X10_25 rfl dX10_ship_59 rfl (fun knows6 => ?_)
      refine R_iload_n (pc' := 63) (i := 1) (j := 1) (x := l1) dX10_ship_62 rfl rfl rfl ?_
      refine R_iald (pc' := 64) (q := knows6) (i := l1) dX10_ship_63 rfl (fun e7 => ?_)
      exact R_iret dX10_ship_64
    · refine R_aloadq_n (pc' := 66) (i := 0) (j := 0) (q := (some this)) dX10_ship_65 rfl rfl rfl ?_
      refine R_getR (pc' := 69) (q := (some this)) fl_X10_28 rfl dX10_ship_66 rfl (fun passed8 => ?_)
      refine R_iload_n (pc' := 70) (i := 1) (j := 1) (x := l1) dX10_ship_69 rfl rfl rfl ?_
      refine R_iald (pc' := 71) (q := passed8) (i := l1) dX10_ship_70 rfl (fun e9 => ?_)
      exact R_iret dX10_ship_71
  · refine R_bipush (pc' := 10) (x := (-2 : Int32)) dX10_ship_8 rfl (by decide) ?_
    exact R_iret dX10_ship_10
/-! BarPilotModel.waiting()I -/
def f_X10_waiting_J30 (k4 : Int32 → Int32 → Mem → Option (Int32 × Mem)) (this : Nat) (l2 : Int32) (s0 : Int32) (s1 : Int32) (M : Mem) : Option (Int32 × Mem) :=
  nm (s1 ||| s0) fun v1 =>
  k4 v1 (l2 + (nI 1)) M
set_option maxHeartbeats 2000000 in
set_option maxRecDepth 20000 in
theorem rf_X10_waiting_J30 (this : Nat) (k4 : Int32 → Int32 → Mem → Option (Int32 × Mem)) (hk4 : ∀ (l1 : Int32) (l2 : Int32) (M : Mem), RF yX10_waiting cX10_waiting 3 (some .int) 4 eI (k4 l1 l2 M) 4 [(0, va_rf (some this)), (1, .int l1), (2, .int l2)] [] M) (l2 : Int32) (s0 : Int32) (s1 : Int32) (M : Mem) : RF yX10_waiting cX10_waiting 3 (some .int) 4 eI (f_X10_waiting_J30 k4 this l2 s0 s1 M) 30 [(0, va_rf (some this)), (2, .int l2)] [.int s0, .int s1] M := by
  rw [f_X10_waiting_J30]
  refine R_ior (pc' := 31) (a := s1) (b := s0) dX10_waiting_30 rfl ?_
  refine R_nmI (fun v1 => ?_)
  refine R_istore_n (pc' := 32) (L' := [(1, .int v1), (0, va_rf (some this)), (2, .int l2)]) (i := 1) (x := v1) dX10_waiting_31 rfl rfl (by decide) rfl ?_
  refine R_iinc (pc' := 35) (L' := [(2, .int (l2 + (nI 1))), (1, .int v1), (0, va_rf (some this))]) (i := 2) (j := 2) (x := l2) (x2 := (l2 + (nI 1))) dX10_waiting_32 rfl rfl rfl (by decide) rfl ?_
  refine R_goto (tgt := 4) dX10_waiting_35 (by decide) ?_
  exact R_sub [2, 1, 0] rfl (hk4 v1 (l2 + (nI 1)) M)
def f_X10_waiting_L4 (this : Nat) : Nat → Int32 → Int32 → Mem → Option (Int32 × Mem)
  | 0, _, _, _ => none
  | n + 1, l1, l2, M =>
    (gR M 10 1 (some this)).bind fun scalar1 =>
    (aI M 0 scalar1 (nI 3)).bind fun e2 =>
    (if e2 ≤ l2 then
      (some (l1, M))
    else
      ((oO M 10 (some this)).bind fun o4 => cl (f_X10_waits o4 l2 M) fun r3 M =>
      (if r3 = 0 then
        (f_X10_waiting_J30 (f_X10_waiting_L4 this n) this l2 (nI 0) l1 M)
      else
        (f_X10_waiting_J30 (f_X10_waiting_L4 this n) this l2 ((nI 1) <<< (l2 &&& 31)) l1 M))))
set_option maxHeartbeats 2000000 in
set_option maxRecDepth 20000 in
theorem rf_X10_waiting_L4 (this : Nat) : ∀ (n : Nat) (l1 : Int32) (l2 : Int32) (M : Mem), RF yX10_waiting cX10_waiting 3 (some .int) 4 eI (f_X10_waiting_L4 this n l1 l2 M) 4 [(0, va_rf (some this)), (1, .int l1), (2, .int l2)] [] M := by
  intro n
  induction n with
  | zero => intro _ _ _; exact RF.none
  | succ n ih =>
    intro l1 l2 M
    rw [f_X10_waiting_L4]
    refine R_iload_n (pc' := 5) (i := 2) (j := 2) (x := l2) dX10_waiting_4 rfl rfl rfl ?_
    refine R_aloadq_n (pc' := 6) (i := 0) (j := 0) (q := (some this)) dX10_waiting_5 rfl rfl rfl ?_
    refine R_getR (pc' := 9) (q := (some this)) fl_X10_9 rfl dX10_waiting_6 rfl (fun scalar1 => ?_)
    refine R_iconst (pc' := 10) (x := (nI 3)) dX10_waiting_9 rfl (by decide) ?_
    refine R_iald (pc' := 11) (q := scalar1) (i := (nI 3)) dX10_waiting_10 rfl (fun e2 => ?_)
    refine R_icmp_ge (pc' := 14) (tgt := 38) (a := l2) (b := e2) dX10_waiting_11 (by decide) rfl ?_ ?_
    · refine R_iload_n (pc' := 39) (i := 1) (j := 1) (x := l1) dX10_waiting_38 rfl rfl rfl ?_
      exact R_iret dX10_waiting_39
    · refine R_iload_n (pc' := 15) (i := 1) (j := 1) (x := l1) dX10_waiting_14 rfl rfl rfl ?_
      refine R_aloadq_n (pc' := 16) (i := 0) (j := 0) (q := (some this)) dX10_waiting_15 rfl rfl rfl ?_
      refine R_iload_n (pc' := 17) (i := 2) (j := 2) (x := l2) dX10_waiting_16 rfl rfl rfl ?_
      refine R_callV_I (pc' := 20) (q := (some this)) (As := [.int l2]) (fun o4 => rm_X10_waits o4 l2 M) mf_X10_waits lk_X10_350 im_X10_waits se_X10_waits rfl rfl rfl dX10_waiting_17 rfl (by decide) (Nat.le_trans (c_I c_0) (by decide)) (fun r3 M => ?_)
      refine R_if_eq (pc' := 23) (tgt := 29) (a := r3) dX10_waiting_20 (by decide) rfl ?_ ?_
      · refine R_iconst (pc' := 30) (x := (nI 0)) dX10_waiting_29 rfl (by decide) ?_
        exact R_sub [0, 2] rfl (rf_X10_waiting_J30 this (f_X10_waiting_L4 this n) ih l2 (nI 0) l1 M)
      · refine R_iconst (pc' := 24) (x := (nI 1)) dX10_waiting_23 rfl (by decide) ?_
        refine R_iload_n (pc' := 25) (i := 2) (j := 2) (x := l2) dX10_waiting_24 rfl rfl rfl ?_
        refine R_ishl (pc' := 26) (a := (nI 1)) (b := l2) dX10_waiting_25 rfl ?_
        refine R_goto (tgt := 30) dX10_waiting_26 (by decide) ?_
        exact R_sub [0, 2] rfl (rf_X10_waiting_J30 this (f_X10_waiting_L4 this n) ih l2 ((nI 1) <<< (l2 &&& 31)) l1 M)
def f_X10_waiting (this : Nat) (M : Mem) : Option (Int32 × Mem) :=
  f_X10_waiting_L4 this FU (nI 0) (nI 0) M
set_option maxHeartbeats 2000000 in
set_option maxRecDepth 20000 in
theorem rm_X10_waiting (this : Nat) (M : Mem) : RFm yX10_waiting cX10_waiting 3 (some .int) 4 eI (f_X10_waiting this M) [va_rf (some this)] M := by
  refine RFm_of (L := [(0, va_rf (some this))]) (by decide) rfl (Nat.le_trans (c_R c_0) (by decide)) ?_
  rw [f_X10_waiting]
  refine R_iconst (pc' := 1) (x := (nI 0)) dX10_waiting_0 rfl (by decide) ?_
  refine R_istore_n (pc' := 2) (L' := [(1, .int (nI 0)), (0, va_rf (some this))]) (i := 1) (x := (nI 0)) dX10_waiting_1 rfl rfl (by decide) rfl ?_
  refine R_iconst (pc' := 3) (x := (nI 0)) dX10_waiting_2 rfl (by decide) ?_
  refine R_istore_n (pc' := 4) (L' := [(2, .int (nI 0)), (1, .int (nI 0)), (0, va_rf (some this))]) (i := 2) (x := (nI 0)) dX10_waiting_3 rfl rfl (by decide) rfl ?_
  exact R_sub [2, 1, 0] rfl (rf_X10_waiting_L4 this FU (nI 0) (nI 0) M)
/-! BarPilotModel.knownBy(I)I -/
def f_X10_knownBy_J41 (k4 : Int32 → Int32 → Int32 → Mem → Option (Int32 × Mem)) (this : Nat) (l1 : Int32) (l3 : Int32) (s0 : Int32) (s1 : Int32) (M : Mem) : Option (Int32 × Mem) :=
  nm (s1 + s0) fun v1 =>
  k4 l1 v1 (l3 + (nI 1)) M
set_option maxHeartbeats 2000000 in
set_option maxRecDepth 20000 in
theorem rf_X10_knownBy_J41 (this : Nat) (k4 : Int32 → Int32 → Int32 → Mem → Option (Int32 × Mem)) (hk4 : ∀ (l1 : Int32) (l2 : Int32) (l3 : Int32) (M : Mem), RF yX10_knownBy cX10_knownBy 4 (some .int) 4 eI (k4 l1 l2 l3 M) 4 [(0, va_rf (some this)), (1, .int l1), (2, .int l2), (3, .int l3)] [] M) (l1 : Int32) (l3 : Int32) (s0 : Int32) (s1 : Int32) (M : Mem) : RF yX10_knownBy cX10_knownBy 4 (some .int) 4 eI (f_X10_knownBy_J41 k4 this l1 l3 s0 s1 M) 41 [(0, va_rf (some this)), (1, .int l1), (3, .int l3)] [.int s0, .int s1] M := by
  rw [f_X10_knownBy_J41]
  refine R_iadd (pc' := 42) (a := s1) (b := s0) dX10_knownBy_41 rfl ?_
  refine R_nmI (fun v1 => ?_)
  refine R_istore_n (pc' := 43) (L' := [(2, .int v1), (0, va_rf (some this)), (1, .int l1), (3, .int l3)]) (i := 2) (x := v1) dX10_knownBy_42 rfl rfl (by decide) rfl ?_
  refine R_iinc (pc' := 46) (L' := [(3, .int (l3 + (nI 1))), (2, .int v1), (0, va_rf (some this)), (1, .int l1)]) (i := 3) (j := 3) (x := l3) (x2 := (l3 + (nI 1))) dX10_knownBy_43 rfl rfl rfl (by decide) rfl ?_
  refine R_goto (tgt := 4) dX10_knownBy_46 (by decide) ?_
  exact R_sub [2, 3, 1, 0] rfl (hk4 l1 v1 (l3 + (nI 1)) M)
def f_X10_knownBy_J40 (k4 : Int32 → Int32 → Int32 → Mem → Option (Int32 × Mem)) (this : Nat) (l1 : Int32) (l3 : Int32) (s0 : Int32) (M : Mem) : Option (Int32 × Mem) :=
  f_X10_knownBy_J41 k4 this l1 l3 (nI 0) s0 M
set_option maxHeartbeats 2000000 in
set_option maxRecDepth 20000 in
theorem rf_X10_knownBy_J40 (this : Nat) (k4 : Int32 → Int32 → Int32 → Mem → Option (Int32 × Mem)) (hk4 : ∀ (l1 : Int32) (l2 : Int32) (l3 : Int32) (M : Mem), RF yX10_knownBy cX10_knownBy 4 (some .int) 4 eI (k4 l1 l2 l3 M) 4 [(0, va_rf (some this)), (1, .int l1), (2, .int l2), (3, .int l3)] [] M) (l1 : Int32) (l3 : Int32) (s0 : Int32) (M : Mem) : RF yX10_knownBy cX10_knownBy 4 (some .int) 4 eI (f_X10_knownBy_J40 k4 this l1 l3 s0 M) 40 [(0, va_rf (some this)), (1, .int l1), (3, .int l3)] [.int s0] M := by
  rw [f_X10_knownBy_J40]
  refine R_iconst (pc' := 41) (x := (nI 0)) dX10_knownBy_40 rfl (by decide) ?_
  exact R_sub [0, 1, 2] rfl (rf_X10_knownBy_J41 this k4 hk4 l1 l3 (nI 0) s0 M)
def f_X10_knownBy_L4 (this : Nat) : Nat → Int32 → Int32 → Int32 → Mem → Option (Int32 × Mem)
  | 0, _, _, _, _ => none
  | n + 1, l1, l2, l3, M =>
    (gR M 10 1 (some this)).bind fun scalar1 =>
    (aI M 0 scalar1 (nI 3)).bind fun e2 =>
    (if e2 ≤ l3 then
      (some (l2, M))
    else
      ((oO M 10 (some this)).bind fun o7 => cl (f_X10_waits o7 l3 M) fun r3 M =>
      (if r3 = 0 then
        (f_X10_knownBy_J40 (f_X10_knownBy_L4 this n) this l1 l3 l2 M)
      else
        ((gR M 10 6 (some this)).bind fun knows4 =>
        (aI M 0 knows4 l3).bind fun e5 =>
        cl (f_X10_has e5 l1 M) fun r6 M =>
        (if r6 = 0 then
          (f_X10_knownBy_J40 (f_X10_knownBy_L4 this n) this l1 l3 l2 M)
        else
          (f_X10_knownBy_J41 (f_X10_knownBy_L4 this n) this l1 l3 (nI 1) l2 M))))))
set_option maxHeartbeats 2000000 in
set_option maxRecDepth 20000 in
theorem rf_X10_knownBy_L4 (this : Nat) : ∀ (n : Nat) (l1 : Int32) (l2 : Int32) (l3 : Int32) (M : Mem), RF yX10_knownBy cX10_knownBy 4 (some .int) 4 eI (f_X10_knownBy_L4 this n l1 l2 l3 M) 4 [(0, va_rf (some this)), (1, .int l1), (2, .int l2), (3, .int l3)] [] M := by
  intro n
  induction n with
  | zero => intro _ _ _ _; exact RF.none
  | succ n ih =>
    intro l1 l2 l3 M
    rw [f_X10_knownBy_L4]
    refine R_iload_n (pc' := 5) (i := 3) (j := 3) (x := l3) dX10_knownBy_4 rfl rfl rfl ?_
    refine R_aloadq_n (pc' := 6) (i := 0) (j := 0) (q := (some this)) dX10_knownBy_5 rfl rfl rfl ?_
    refine R_getR (pc' := 9) (q := (some this)) fl_X10_9 rfl dX10_knownBy_6 rfl (fun scalar1 => ?_)
    refine R_iconst (pc' := 10) (x := (nI 3)) dX10_knownBy_9 rfl (by decide) ?_
    refine R_iald (pc' := 11) (q := scalar1) (i := (nI 3)) dX10_knownBy_10 rfl (fun e2 => ?_)
    refine R_icmp_ge (pc' := 14) (tgt := 49) (a := l3) (b := e2) dX10_knownBy_11 (by decide) rfl ?_ ?_
    · refine R_iload_n (pc' := 50) (i := 2) (j := 2) (x := l2) dX10_knownBy_49 rfl rfl rfl ?_
      exact R_iret dX10_knownBy_50
    · refine R_iload_n (pc' := 15) (i := 2) (j := 2) (x := l2) dX10_knownBy_14 rfl rfl rfl ?_
      refine R_aloadq_n (pc' := 16) (i := 0) (j := 0) (q := (some this)) dX10_knownBy_15 rfl rfl rfl ?_
      refine R_iload_n (pc' := 17) (i := 3) (j := 3) (x := l3) dX10_knownBy_16 rfl rfl rfl ?_
      refine R_callV_I (pc' := 20) (q := (some this)) (As := [.int l3]) (fun o7 => rm_X10_waits o7 l3 M) mf_X10_waits lk_X10_350 im_X10_waits se_X10_waits rfl rfl rfl dX10_knownBy_17 rfl (by decide) (Nat.le_trans (c_I c_0) (by decide)) (fun r3 M => ?_)
      refine R_if_eq (pc' := 23) (tgt := 40) (a := r3) dX10_knownBy_20 (by decide) rfl ?_ ?_
      · exact R_sub [0, 1, 3] rfl (rf_X10_knownBy_J40 this (f_X10_knownBy_L4 this n) ih l1 l3 l2 M)
      · refine R_aloadq_n (pc' := 24) (i := 0) (j := 0) (q := (some this)) dX10_knownBy_23 rfl rfl rfl ?_
        refine R_getR (pc' := 27) (q := (some this)) fl_X10_25 rfl dX10_knownBy_24 rfl (fun knows4 => ?_)
        refine R_iload_n (pc' := 28) (i := 3) (j := 3) (x := l3) dX10_knownBy_27 rfl rfl rfl ?_
        refine R_iald (pc' := 29) (q := knows4) (i := l3) dX10_knownBy_28 rfl (fun e5 => ?_)
        refine R_iload_n (pc' := 30) (i := 1) (j := 1) (x := l1) dX10_knownBy_29 rfl rfl rfl ?_
        refine R_callS_I (pc' := 33) (As := [.int e5, .int l1]) (rm_X10_has e5 l1 M) mf_X10_has lk_X10_353 sm_X10_has rfl rfl dX10_knownBy_30 rfl (by decide) (Nat.le_trans (c_I c_0) (by decide)) (fun r6 M => ?_)
        refine R_if_eq (pc' := 36) (tgt := 40) (a := r6) dX10_knownBy_33 (by decide) rfl ?_ ?_
        · exact R_sub [0, 1, 3] rfl (rf_X10_knownBy_J40 this (f_X10_knownBy_L4 this n) ih l1 l3 l2 M)
        · refine R_iconst (pc' := 37) (x := (nI 1)) dX10_knownBy_36 rfl (by decide) ?_
          refine R_goto (tgt := 41) dX10_knownBy_37 (by decide) ?_
          exact R_sub [0, 1, 3] rfl (rf_X10_knownBy_J41 this (f_X10_knownBy_L4 this n) ih l1 l3 (nI 1) l2 M)
def f_X10_knownBy (this : Nat) (l1 : Int32) (M : Mem) : Option (Int32 × Mem) :=
  f_X10_knownBy_L4 this FU l1 (nI 0) (nI 0) M
set_option maxHeartbeats 2000000 in
set_option maxRecDepth 20000 in
theorem rm_X10_knownBy (this : Nat) (l1 : Int32) (M : Mem) : RFm yX10_knownBy cX10_knownBy 4 (some .int) 4 eI (f_X10_knownBy this l1 M) [va_rf (some this), .int l1] M := by
  refine RFm_of (L := [(0, va_rf (some this)), (1, .int l1)]) (by decide) rfl (Nat.le_trans (c_R (c_I c_0)) (by decide)) ?_
  rw [f_X10_knownBy]
  refine R_iconst (pc' := 1) (x := (nI 0)) dX10_knownBy_0 rfl (by decide) ?_
  refine R_istore_n (pc' := 2) (L' := [(2, .int (nI 0)), (0, va_rf (some this)), (1, .int l1)]) (i := 2) (x := (nI 0)) dX10_knownBy_1 rfl rfl (by decide) rfl ?_
  refine R_iconst (pc' := 3) (x := (nI 0)) dX10_knownBy_2 rfl (by decide) ?_
  refine R_istore_n (pc' := 4) (L' := [(3, .int (nI 0)), (2, .int (nI 0)), (0, va_rf (some this)), (1, .int l1)]) (i := 3) (x := (nI 0)) dX10_knownBy_3 rfl rfl (by decide) rfl ?_
  exact R_sub [2, 3, 1, 0] rfl (rf_X10_knownBy_L4 this FU l1 (nI 0) (nI 0) M)
/-! BarPilotModel.howManyPassed()I -/
def f_X10_howManyPassed (this : Nat) (M : Mem) : Option (Int32 × Mem) :=
  (gR M 10 1 (some this)).bind fun scalar1 =>
  (aI M 0 scalar1 (nI 3)).bind fun e2 =>
  (oO M 10 (some this)).bind fun o5 => cl (f_X10_waiting o5 M) fun r3 M =>
  cl (f_X10_bits r3 M) fun r4 M =>
  some ((e2 - r4), M)
set_option maxHeartbeats 2000000 in
set_option maxRecDepth 20000 in
theorem rm_X10_howManyPassed (this : Nat) (M : Mem) : RFm yX10_howManyPassed cX10_howManyPassed 1 (some .int) 5 eI (f_X10_howManyPassed this M) [va_rf (some this)] M := by
  refine RFm_of (L := [(0, va_rf (some this))]) (by decide) rfl (Nat.le_trans (c_R c_0) (by decide)) ?_
  rw [f_X10_howManyPassed]
  refine R_aloadq_n (pc' := 1) (i := 0) (j := 0) (q := (some this)) dX10_howManyPassed_0 rfl rfl rfl ?_
  refine R_getR (pc' := 4) (q := (some this)) fl_X10_9 rfl dX10_howManyPassed_1 rfl (fun scalar1 => ?_)
  refine R_iconst (pc' := 5) (x := (nI 3)) dX10_howManyPassed_4 rfl (by decide) ?_
  refine R_iald (pc' := 6) (q := scalar1) (i := (nI 3)) dX10_howManyPassed_5 rfl (fun e2 => ?_)
  refine R_aloadq_n (pc' := 7) (i := 0) (j := 0) (q := (some this)) dX10_howManyPassed_6 rfl rfl rfl ?_
  refine R_callV_I (pc' := 10) (q := (some this)) (As := []) (fun o5 => rm_X10_waiting o5 M) mf_X10_waiting lk_X10_356 im_X10_waiting se_X10_waiting rfl rfl rfl dX10_howManyPassed_7 rfl (by decide) (Nat.le_trans (c_I c_0) (by decide)) (fun r3 M => ?_)
  refine R_callS_I (pc' := 13) (As := [.int r3]) (rm_X10_bits r3 M) mf_X10_bits lk_X10_358 sm_X10_bits rfl rfl dX10_howManyPassed_10 rfl (by decide) (Nat.le_trans (c_I c_0) (by decide)) (fun r4 M => ?_)
  refine R_isub (pc' := 14) (a := e2) (b := r4) dX10_howManyPassed_13 rfl ?_
  exact R_iret dX10_howManyPassed_14
/-! BarPilotModel.earns(I)I -/
def f_X10_earns_J35 (this : Nat) (s0 : Int32) (M : Mem) : Option (Int32 × Mem) :=
  some (s0, M)
set_option maxHeartbeats 2000000 in
set_option maxRecDepth 20000 in
theorem rf_X10_earns_J35 (this : Nat) (s0 : Int32) (M : Mem) : RF yX10_earns cX10_earns 2 (some .int) 1 eI (f_X10_earns_J35 this s0 M) 35 [] [.int s0] M := by
  rw [f_X10_earns_J35]
  exact R_iret dX10_earns_35
def f_X10_earns_J34 (this : Nat) (M : Mem) : Option (Int32 × Mem) :=
  f_X10_earns_J35 this (nI 0) M
set_option maxHeartbeats 2000000 in
set_option maxRecDepth 20000 in
theorem rf_X10_earns_J34 (this : Nat) (M : Mem) : RF yX10_earns cX10_earns 2 (some .int) 1 eI (f_X10_earns_J34 this M) 34 [] [] M := by
  rw [f_X10_earns_J34]
  refine R_iconst (pc' := 35) (x := (nI 0)) dX10_earns_34 rfl (by decide) ?_
  exact R_sub [] rfl (rf_X10_earns_J35 this (nI 0) M)
def f_X10_earns (this : Nat) (l1 : Int32) (M : Mem) : Option (Int32 × Mem) :=
  (gR M 10 7 (some this)).bind fun passed1 =>
  (aI M 0 passed1 l1).bind fun e2 =>
  (if e2 = (-1 : Int32) then
    (f_X10_earns_J34 this M)
  else
    ((gR M 10 7 (some this)).bind fun passed3 =>
    (aI M 0 passed3 l1).bind fun e4 =>
    (gR M 10 4 (some this)).bind fun keeps5 =>
    (aI M 0 keeps5 l1).bind fun e6 =>
    (if e6 < e4 then
      (f_X10_earns_J34 this M)
    else
      ((gR M 10 3 (some this)).bind fun cargo7 =>
      (aI M 0 cargo7 l1).bind fun e8 =>
      f_X10_earns_J35 this e8 M))))
set_option maxHeartbeats 2000000 in
set_option maxRecDepth 20000 in
theorem rm_X10_earns (this : Nat) (l1 : Int32) (M : Mem) : RFm yX10_earns cX10_earns 2 (some .int) 1 eI (f_X10_earns this l1 M) [va_rf (some this), .int l1] M := by
  refine RFm_of (L := [(0, va_rf (some this)), (1, .int l1)]) (by decide) rfl (Nat.le_trans (c_R (c_I c_0)) (by decide)) ?_
  rw [f_X10_earns]
  refine R_aloadq_n (pc' := 1) (i := 0) (j := 0) (q := (some this)) dX10_earns_0 rfl rfl rfl ?_
  refine R_getR (pc' := 4) (q := (some this)) fl_X10_28 rfl dX10_earns_1 rfl (fun passed1 => ?_)
  refine R_iload_n (pc' := 5) (i := 1) (j := 1) (x := l1) dX10_earns_4 rfl rfl rfl ?_
  refine R_iald (pc' := 6) (q := passed1) (i := l1) dX10_earns_5 rfl (fun e2 => ?_)
  refine R_iconst (pc' := 7) (x := (-1 : Int32)) dX10_earns_6 rfl (by decide) ?_
  refine R_icmp_eq (pc' := 10) (tgt := 34) (a := e2) (b := (-1 : Int32)) dX10_earns_7 (by decide) rfl ?_ ?_
  · exact R_sub [] rfl (rf_X10_earns_J34 this M)
  · refine R_aloadq_n (pc' := 11) (i := 0) (j := 0) (q := (some this)) dX10_earns_10 rfl rfl rfl ?_
    refine R_getR (pc' := 14) (q := (some this)) fl_X10_28 rfl dX10_earns_11 rfl (fun passed3 => ?_)
    refine R_iload_n (pc' := 15) (i := 1) (j := 1) (x := l1) dX10_earns_14 rfl rfl rfl ?_
    refine R_iald (pc' := 16) (q := passed3) (i := l1) dX10_earns_15 rfl (fun e4 => ?_)
    refine R_aloadq_n (pc' := 17) (i := 0) (j := 0) (q := (some this)) dX10_earns_16 rfl rfl rfl ?_
    refine R_getR (pc' := 20) (q := (some this)) fl_X10_19 rfl dX10_earns_17 rfl (fun keeps5 => ?_)
    refine R_iload_n (pc' := 21) (i := 1) (j := 1) (x := l1) dX10_earns_20 rfl rfl rfl ?_
    refine R_iald (pc' := 22) (q := keeps5) (i := l1) dX10_earns_21 rfl (fun e6 => ?_)
    refine R_icmp_gt (pc' := 25) (tgt := 34) (a := e4) (b := e6) dX10_earns_22 (by decide) rfl ?_ ?_
    · exact R_sub [] rfl (rf_X10_earns_J34 this M)
    · refine R_aloadq_n (pc' := 26) (i := 0) (j := 0) (q := (some this)) dX10_earns_25 rfl rfl rfl ?_
      refine R_getR (pc' := 29) (q := (some this)) fl_X10_16 rfl dX10_earns_26 rfl (fun cargo7 => ?_)
      refine R_iload_n (pc' := 30) (i := 1) (j := 1) (x := l1) dX10_earns_29 rfl rfl rfl ?_
      refine R_iald (pc' := 31) (q := cargo7) (i := l1) dX10_earns_30 rfl (fun e8 => ?_)
      refine R_goto (tgt := 35) dX10_earns_31 (by decide) ?_
      exact R_sub [] rfl (rf_X10_earns_J35 this e8 M)
/-! BarPilotModel.tells(II)Z -/
def f_X10_tells_J48 (this : Nat) (l3 : Int32) (M : Mem) : Option (Int32 × Mem) :=
  ckZ l3 (some (l3, M))
set_option maxHeartbeats 2000000 in
set_option maxRecDepth 20000 in
theorem rf_X10_tells_J48 (this : Nat) (l3 : Int32) (M : Mem) : RF yX10_tells cX10_tells 4 (some .boolean) 4 eI (f_X10_tells_J48 this l3 M) 48 [(3, .int l3)] [] M := by
  rw [f_X10_tells_J48]
  refine R_iload_n (pc' := 49) (i := 3) (j := 0) (x := l3) dX10_tells_48 rfl rfl rfl ?_
  exact R_bret dX10_tells_49
def f_X10_tells (this : Nat) (l1 : Int32) (l2 : Int32) (M : Mem) : Option (Int32 × Mem) :=
  (oO M 10 (some this)).bind fun o12 => cl (f_X10_isNew o12 l2 M) fun r1 M =>
  (gR M 10 5 (some this)).bind fun heard2 =>
  (gR M 10 1 (some this)).bind fun scalar3 =>
  (aI M 0 scalar3 (nI 4)).bind fun e4 =>
  (wI M 0 heard2 l2 e4).bind fun M =>
  (if r1 = 0 then
    (f_X10_tells_J48 this r1 M)
  else
    ((gR M 10 7 (some this)).bind fun passed5 =>
    (gR M 10 1 (some this)).bind fun scalar6 =>
    (aI M 0 scalar6 (nI 4)).bind fun e7 =>
    (wI M 0 passed5 l1 e7).bind fun M =>
    (gR M 10 1 (some this)).bind fun scalar8 =>
    (aI M 0 scalar8 (nI 5)).bind fun e9 =>
    (oO M 10 (some this)).bind fun o11 => cl (f_X10_earns o11 l1 M) fun r10 M =>
    (wI M 0 scalar8 (nI 5) (e9 + r10)).bind fun M =>
    f_X10_tells_J48 this r1 M))
set_option maxHeartbeats 2000000 in
set_option maxRecDepth 20000 in
theorem rm_X10_tells (this : Nat) (l1 : Int32) (l2 : Int32) (M : Mem) : RFm yX10_tells cX10_tells 4 (some .boolean) 4 eI (f_X10_tells this l1 l2 M) [va_rf (some this), .int l1, .int l2] M := by
  refine RFm_of (L := [(0, va_rf (some this)), (1, .int l1), (2, .int l2)]) (by decide) rfl (Nat.le_trans (c_R (c_I (c_I c_0))) (by decide)) ?_
  rw [f_X10_tells]
  refine R_aloadq_n (pc' := 1) (i := 0) (j := 0) (q := (some this)) dX10_tells_0 rfl rfl rfl ?_
  refine R_iload_n (pc' := 2) (i := 2) (j := 2) (x := l2) dX10_tells_1 rfl rfl rfl ?_
  refine R_callV_I (pc' := 5) (q := (some this)) (As := [.int l2]) (fun o12 => rm_X10_isNew o12 l2 M) mf_X10_isNew lk_X10_344 im_X10_isNew se_X10_isNew rfl rfl rfl dX10_tells_2 rfl (by decide) (Nat.le_trans c_0 (by decide)) (fun r1 M => ?_)
  refine R_istore_n (pc' := 6) (L' := [(3, .int r1), (0, va_rf (some this)), (1, .int l1), (2, .int l2)]) (i := 3) (x := r1) dX10_tells_5 rfl rfl (by decide) rfl ?_
  refine R_aloadq_n (pc' := 7) (i := 0) (j := 1) (q := (some this)) dX10_tells_6 rfl rfl rfl ?_
  refine R_getR (pc' := 10) (q := (some this)) fl_X10_22 rfl dX10_tells_7 rfl (fun heard2 => ?_)
  refine R_iload_n (pc' := 11) (i := 2) (j := 3) (x := l2) dX10_tells_10 rfl rfl rfl ?_
  refine R_aloadq_n (pc' := 12) (i := 0) (j := 1) (q := (some this)) dX10_tells_11 rfl rfl rfl ?_
  refine R_getR (pc' := 15) (q := (some this)) fl_X10_9 rfl dX10_tells_12 rfl (fun scalar3 => ?_)
  refine R_iconst (pc' := 16) (x := (nI 4)) dX10_tells_15 rfl (by decide) ?_
  refine R_iald (pc' := 17) (q := scalar3) (i := (nI 4)) dX10_tells_16 rfl (fun e4 => ?_)
  refine R_iast (pc' := 18) (q := heard2) (i := l2) (x := e4) dX10_tells_17 rfl (fun M => ?_)
  refine R_iload_n (pc' := 19) (i := 3) (j := 0) (x := r1) dX10_tells_18 rfl rfl rfl ?_
  refine R_if_eq (pc' := 22) (tgt := 48) (a := r1) dX10_tells_19 (by decide) rfl ?_ ?_
  · exact R_sub [0] rfl (rf_X10_tells_J48 this r1 M)
  · refine R_aloadq_n (pc' := 23) (i := 0) (j := 1) (q := (some this)) dX10_tells_22 rfl rfl rfl ?_
    refine R_getR (pc' := 26) (q := (some this)) fl_X10_28 rfl dX10_tells_23 rfl (fun passed5 => ?_)
    refine R_iload_n (pc' := 27) (i := 1) (j := 2) (x := l1) dX10_tells_26 rfl rfl rfl ?_
    refine R_aloadq_n (pc' := 28) (i := 0) (j := 1) (q := (some this)) dX10_tells_27 rfl rfl rfl ?_
    refine R_getR (pc' := 31) (q := (some this)) fl_X10_9 rfl dX10_tells_28 rfl (fun scalar6 => ?_)
    refine R_iconst (pc' := 32) (x := (nI 4)) dX10_tells_31 rfl (by decide) ?_
    refine R_iald (pc' := 33) (q := scalar6) (i := (nI 4)) dX10_tells_32 rfl (fun e7 => ?_)
    refine R_iast (pc' := 34) (q := passed5) (i := l1) (x := e7) dX10_tells_33 rfl (fun M => ?_)
    refine R_aloadq_n (pc' := 35) (i := 0) (j := 1) (q := (some this)) dX10_tells_34 rfl rfl rfl ?_
    refine R_getR (pc' := 38) (q := (some this)) fl_X10_9 rfl dX10_tells_35 rfl (fun scalar8 => ?_)
    refine R_iconst (pc' := 39) (x := (nI 5)) dX10_tells_38 rfl (by decide) ?_
    refine R_dup2 (pc' := 40) dX10_tells_39 rfl rfl (rf_cat _) ?_
    refine R_iald (pc' := 41) (q := scalar8) (i := (nI 5)) dX10_tells_40 rfl (fun e9 => ?_)
    refine R_aloadq_n (pc' := 42) (i := 0) (j := 1) (q := (some this)) dX10_tells_41 rfl rfl rfl ?_
    refine R_iload_n (pc' := 43) (i := 1) (j := 2) (x := l1) dX10_tells_42 rfl rfl rfl ?_
    refine R_callV_I (pc' := 46) (q := (some this)) (As := [.int l1]) (fun o11 => rm_X10_earns o11 l1 M) mf_X10_earns lk_X10_361 im_X10_earns se_X10_earns rfl rfl rfl dX10_tells_43 rfl (by decide) (Nat.le_trans (c_I (c_I (c_R c_0))) (by decide)) (fun r10 M => ?_)
    refine R_iadd (pc' := 47) (a := e9) (b := r10) dX10_tells_46 rfl ?_
    refine R_iast (pc' := 48) (q := scalar8) (i := (nI 5)) (x := (e9 + r10)) dX10_tells_47 rfl (fun M => ?_)
    exact R_sub [0] rfl (rf_X10_tells_J48 this r1 M)
/-! BarPilotModel.sumOf(II)J -/
def f_X10_sumOf_J79 (this : Nat) (l2 : Int32) (s0 : Int64) (s1 : Int32) (s2 : Option Nat) (M : Mem) : Option (Int64 × Mem) :=
  (wL M s2 s1 s0).bind fun M =>
  (gR M 10 35 (some this)).bind fun asked1 =>
  (oO M 10 (some this)).bind fun o18 => cl (f_X10_knownBy o18 l2 M) fun r2 M =>
  (wL M asked1 (nI 6) (Int32.toInt64 r2)).bind fun M =>
  (gR M 10 35 (some this)).bind fun asked3 =>
  (oO M 10 (some this)).bind fun o17 => cl (f_X10_waiting o17 M) fun r4 M =>
  cl (f_X10_bits r4 M) fun r5 M =>
  (wL M asked3 (nI 7) (Int32.toInt64 r5)).bind fun M =>
  (gR M 10 35 (some this)).bind fun asked6 =>
  (oO M 10 (some this)).bind fun o16 => cl (f_X10_sinceOf o16 l2 M) fun r7 M =>
  (wL M asked6 (nI 8) (Int32.toInt64 r7)).bind fun M =>
  (gR M 10 35 (some this)).bind fun asked8 =>
  (oO M 10 (some this)).bind fun o15 => cl (f_X10_howManyPassed o15 M) fun r9 M =>
  (wL M asked8 (nI 9) (Int32.toInt64 r9)).bind fun M =>
  (gR M 10 35 (some this)).bind fun asked10 =>
  (gR M 10 1 (some this)).bind fun scalar11 =>
  (aI M 0 scalar11 (nI 4)).bind fun e12 =>
  (wL M asked10 (nI 10) (Int32.toInt64 e12)).bind fun M =>
  (oO M 10 (some this)).bind fun o14 => cl (f_X10_wanted o14 M) fun r13 M =>
  some (r13, M)
set_option maxHeartbeats 2000000 in
set_option maxRecDepth 20000 in
theorem rf_X10_sumOf_J79 (this : Nat) (l2 : Int32) (s0 : Int64) (s1 : Int32) (s2 : Option Nat) (M : Mem) : RF yX10_sumOf cX10_sumOf 3 (some .long) 6 eL (f_X10_sumOf_J79 this l2 s0 s1 s2 M) 79 [(0, va_rf (some this)), (2, .int l2)] [.long s0, .int s1, va_rf s2] M := by
  rw [f_X10_sumOf_J79]
  refine R_last (pc' := 80) (q := s2) (i := s1) (x := s0) dX10_sumOf_79 rfl (fun M => ?_)
  refine R_aloadq_n (pc' := 81) (i := 0) (j := 0) (q := (some this)) dX10_sumOf_80 rfl rfl rfl ?_
  refine R_getR (pc' := 84) (q := (some this)) fl_X10_87 rfl dX10_sumOf_81 rfl (fun asked1 => ?_)
  refine R_bipush (pc' := 86) (x := (nI 6)) dX10_sumOf_84 rfl (by decide) ?_
  refine R_aloadq_n (pc' := 87) (i := 0) (j := 0) (q := (some this)) dX10_sumOf_86 rfl rfl rfl ?_
  refine R_iload_n (pc' := 88) (i := 2) (j := 1) (x := l2) dX10_sumOf_87 rfl rfl rfl ?_
  refine R_callV_I (pc' := 91) (q := (some this)) (As := [.int l2]) (fun o18 => rm_X10_knownBy o18 l2 M) mf_X10_knownBy lk_X10_364 im_X10_knownBy se_X10_knownBy rfl rfl rfl dX10_sumOf_88 rfl (by decide) (Nat.le_trans (c_I (c_R c_0)) (by decide)) (fun r2 M => ?_)
  refine R_i2l (pc' := 92) (a := r2) dX10_sumOf_91 rfl ?_
  refine R_last (pc' := 93) (q := asked1) (i := (nI 6)) (x := (Int32.toInt64 r2)) dX10_sumOf_92 rfl (fun M => ?_)
  refine R_aloadq_n (pc' := 94) (i := 0) (j := 0) (q := (some this)) dX10_sumOf_93 rfl rfl rfl ?_
  refine R_getR (pc' := 97) (q := (some this)) fl_X10_87 rfl dX10_sumOf_94 rfl (fun asked3 => ?_)
  refine R_bipush (pc' := 99) (x := (nI 7)) dX10_sumOf_97 rfl (by decide) ?_
  refine R_aloadq_n (pc' := 100) (i := 0) (j := 0) (q := (some this)) dX10_sumOf_99 rfl rfl rfl ?_
  refine R_callV_I (pc' := 103) (q := (some this)) (As := []) (fun o17 => rm_X10_waiting o17 M) mf_X10_waiting lk_X10_356 im_X10_waiting se_X10_waiting rfl rfl rfl dX10_sumOf_100 rfl (by decide) (Nat.le_trans (c_I (c_R c_0)) (by decide)) (fun r4 M => ?_)
  refine R_callS_I (pc' := 106) (As := [.int r4]) (rm_X10_bits r4 M) mf_X10_bits lk_X10_358 sm_X10_bits rfl rfl dX10_sumOf_103 rfl (by decide) (Nat.le_trans (c_I (c_R c_0)) (by decide)) (fun r5 M => ?_)
  refine R_i2l (pc' := 107) (a := r5) dX10_sumOf_106 rfl ?_
  refine R_last (pc' := 108) (q := asked3) (i := (nI 7)) (x := (Int32.toInt64 r5)) dX10_sumOf_107 rfl (fun M => ?_)
  refine R_aloadq_n (pc' := 109) (i := 0) (j := 0) (q := (some this)) dX10_sumOf_108 rfl rfl rfl ?_
  refine R_getR (pc' := 112) (q := (some this)) fl_X10_87 rfl dX10_sumOf_109 rfl (fun asked6 => ?_)
  refine R_bipush (pc' := 114) (x := (nI 8)) dX10_sumOf_112 rfl (by decide) ?_
  refine R_aloadq_n (pc' := 115) (i := 0) (j := 0) (q := (some this)) dX10_sumOf_114 rfl rfl rfl ?_
  refine R_iload_n (pc' := 116) (i := 2) (j := 1) (x := l2) dX10_sumOf_115 rfl rfl rfl ?_
  refine R_callV_I (pc' := 119) (q := (some this)) (As := [.int l2]) (fun o16 => rm_X10_sinceOf o16 l2 M) mf_X10_sinceOf lk_X10_347 im_X10_sinceOf se_X10_sinceOf rfl rfl rfl dX10_sumOf_116 rfl (by decide) (Nat.le_trans (c_I (c_R c_0)) (by decide)) (fun r7 M => ?_)
  refine R_i2l (pc' := 120) (a := r7) dX10_sumOf_119 rfl ?_
  refine R_last (pc' := 121) (q := asked6) (i := (nI 8)) (x := (Int32.toInt64 r7)) dX10_sumOf_120 rfl (fun M => ?_)
  refine R_aloadq_n (pc' := 122) (i := 0) (j := 0) (q := (some this)) dX10_sumOf_121 rfl rfl rfl ?_
  refine R_getR (pc' := 125) (q := (some this)) fl_X10_87 rfl dX10_sumOf_122 rfl (fun asked8 => ?_)
  refine R_bipush (pc' := 127) (x := (nI 9)) dX10_sumOf_125 rfl (by decide) ?_
  refine R_aloadq_n (pc' := 128) (i := 0) (j := 0) (q := (some this)) dX10_sumOf_127 rfl rfl rfl ?_
  refine R_callV_I (pc' := 131) (q := (some this)) (As := []) (fun o15 => rm_X10_howManyPassed o15 M) mf_X10_howManyPassed lk_X10_367 im_X10_howManyPassed se_X10_howManyPassed rfl rfl rfl dX10_sumOf_128 rfl (by decide) (Nat.le_trans (c_I (c_R c_0)) (by decide)) (fun r9 M => ?_)
  refine R_i2l (pc' := 132) (a := r9) dX10_sumOf_131 rfl ?_
  refine R_last (pc' := 133) (q := asked8) (i := (nI 9)) (x := (Int32.toInt64 r9)) dX10_sumOf_132 rfl (fun M => ?_)
  refine R_aloadq_n (pc' := 134) (i := 0) (j := 0) (q := (some this)) dX10_sumOf_133 rfl rfl rfl ?_
  refine R_getR (pc' := 137) (q := (some this)) fl_X10_87 rfl dX10_sumOf_134 rfl (fun asked10 => ?_)
  refine R_bipush (pc' := 139) (x := (nI 10)) dX10_sumOf_137 rfl (by decide) ?_
  refine R_aloadq_n (pc' := 140) (i := 0) (j := 0) (q := (some this)) dX10_sumOf_139 rfl rfl rfl ?_
  refine R_getR (pc' := 143) (q := (some this)) fl_X10_9 rfl dX10_sumOf_140 rfl (fun scalar11 => ?_)
  refine R_iconst (pc' := 144) (x := (nI 4)) dX10_sumOf_143 rfl (by decide) ?_
  refine R_iald (pc' := 145) (q := scalar11) (i := (nI 4)) dX10_sumOf_144 rfl (fun e12 => ?_)
  refine R_i2l (pc' := 146) (a := e12) dX10_sumOf_145 rfl ?_
  refine R_last (pc' := 147) (q := asked10) (i := (nI 10)) (x := (Int32.toInt64 e12)) dX10_sumOf_146 rfl (fun M => ?_)
  refine R_aloadq_n (pc' := 148) (i := 0) (j := 0) (q := (some this)) dX10_sumOf_147 rfl rfl rfl ?_
  refine R_callV_L (pc' := 151) (q := (some this)) (As := []) (fun o14 => rm_X10_wanted o14 M) mf_X10_wanted lk_X10_370 im_X10_wanted se_X10_wanted rfl rfl rfl dX10_sumOf_148 rfl (by decide) (Nat.le_trans c_0 (by decide)) (fun r13 M => ?_)
  exact R_lret dX10_sumOf_151
def f_X10_sumOf (this : Nat) (l1 : Int32) (l2 : Int32) (M : Mem) : Option (Int64 × Mem) :=
  (gR M 10 35 (some this)).bind fun asked1 =>
  (wL M asked1 (nI 0) (Int32.toInt64 l1)).bind fun M =>
  (gR M 10 35 (some this)).bind fun asked2 =>
  (wL M asked2 (nI 1) (Int32.toInt64 l2)).bind fun M =>
  (gR M 10 35 (some this)).bind fun asked3 =>
  (gR M 10 3 (some this)).bind fun cargo4 =>
  (aI M 0 cargo4 l1).bind fun e5 =>
  (wL M asked3 (nI 2) (Int32.toInt64 e5)).bind fun M =>
  (gR M 10 35 (some this)).bind fun asked6 =>
  (gR M 10 4 (some this)).bind fun keeps7 =>
  (aI M 0 keeps7 l1).bind fun e8 =>
  (gR M 10 1 (some this)).bind fun scalar9 =>
  (aI M 0 scalar9 (nI 4)).bind fun e10 =>
  (wL M asked6 (nI 3) (Int32.toInt64 (e8 - e10))).bind fun M =>
  (gR M 10 35 (some this)).bind fun asked11 =>
  (oO M 10 (some this)).bind fun o16 => cl (f_X10_likeOf o16 l2 M) fun r12 M =>
  (wL M asked11 (nI 4) (Int32.toInt64 r12)).bind fun M =>
  (gR M 10 35 (some this)).bind fun asked13 =>
  (oO M 10 (some this)).bind fun o15 => cl (f_X10_isNew o15 l2 M) fun r14 M =>
  (if r14 = 0 then
    (f_X10_sumOf_J79 this l2 (0 : Int64) (nI 5) asked13 M)
  else
    (f_X10_sumOf_J79 this l2 (1 : Int64) (nI 5) asked13 M))
set_option maxHeartbeats 2000000 in
set_option maxRecDepth 20000 in
theorem rm_X10_sumOf (this : Nat) (l1 : Int32) (l2 : Int32) (M : Mem) : RFm yX10_sumOf cX10_sumOf 3 (some .long) 6 eL (f_X10_sumOf this l1 l2 M) [va_rf (some this), .int l1, .int l2] M := by
  refine RFm_of (L := [(0, va_rf (some this)), (1, .int l1), (2, .int l2)]) (by decide) rfl (Nat.le_trans (c_R (c_I (c_I c_0))) (by decide)) ?_
  rw [f_X10_sumOf]
  refine R_aloadq_n (pc' := 1) (i := 0) (j := 0) (q := (some this)) dX10_sumOf_0 rfl rfl rfl ?_
  refine R_getR (pc' := 4) (q := (some this)) fl_X10_87 rfl dX10_sumOf_1 rfl (fun asked1 => ?_)
  refine R_iconst (pc' := 5) (x := (nI 0)) dX10_sumOf_4 rfl (by decide) ?_
  refine R_iload_n (pc' := 6) (i := 1) (j := 1) (x := l1) dX10_sumOf_5 rfl rfl rfl ?_
  refine R_i2l (pc' := 7) (a := l1) dX10_sumOf_6 rfl ?_
  refine R_last (pc' := 8) (q := asked1) (i := (nI 0)) (x := (Int32.toInt64 l1)) dX10_sumOf_7 rfl (fun M => ?_)
  refine R_aloadq_n (pc' := 9) (i := 0) (j := 0) (q := (some this)) dX10_sumOf_8 rfl rfl rfl ?_
  refine R_getR (pc' := 12) (q := (some this)) fl_X10_87 rfl dX10_sumOf_9 rfl (fun asked2 => ?_)
  refine R_iconst (pc' := 13) (x := (nI 1)) dX10_sumOf_12 rfl (by decide) ?_
  refine R_iload_n (pc' := 14) (i := 2) (j := 2) (x := l2) dX10_sumOf_13 rfl rfl rfl ?_
  refine R_i2l (pc' := 15) (a := l2) dX10_sumOf_14 rfl ?_
  refine R_last (pc' := 16) (q := asked2) (i := (nI 1)) (x := (Int32.toInt64 l2)) dX10_sumOf_15 rfl (fun M => ?_)
  refine R_aloadq_n (pc' := 17) (i := 0) (j := 0) (q := (some this)) dX10_sumOf_16 rfl rfl rfl ?_
  refine R_getR (pc' := 20) (q := (some this)) fl_X10_87 rfl dX10_sumOf_17 rfl (fun asked3 => ?_)
  refine R_iconst (pc' := 21) (x := (nI 2)) dX10_sumOf_20 rfl (by decide) ?_
  refine R_aloadq_n (pc' := 22) (i := 0) (j := 0) (q := (some this)) dX10_sumOf_21 rfl rfl rfl ?_
  refine R_getR (pc' := 25) (q := (some this)) fl_X10_16 rfl dX10_sumOf_22 rfl (fun cargo4 => ?_)
  refine R_iload_n (pc' := 26) (i := 1) (j := 1) (x := l1) dX10_sumOf_25 rfl rfl rfl ?_
  refine R_iald (pc' := 27) (q := cargo4) (i := l1) dX10_sumOf_26 rfl (fun e5 => ?_)
  refine R_i2l (pc' := 28) (a := e5) dX10_sumOf_27 rfl ?_
  refine R_last (pc' := 29) (q := asked3) (i := (nI 2)) (x := (Int32.toInt64 e5)) dX10_sumOf_28 rfl (fun M => ?_)
  refine R_aloadq_n (pc' := 30) (i := 0) (j := 0) (q := (some this)) dX10_sumOf_29 rfl rfl rfl ?_
  refine R_getR (pc' := 33) (q := (some this)) fl_X10_87 rfl dX10_sumOf_30 rfl (fun asked6 => ?_)
  refine R_iconst (pc' := 34) (x := (nI 3)) dX10_sumOf_33 rfl (by decide) ?_
  refine R_aloadq_n (pc' := 35) (i := 0) (j := 0) (q := (some this)) dX10_sumOf_34 rfl rfl rfl ?_
  refine R_getR (pc' := 38) (q := (some this)) fl_X10_19 rfl dX10_sumOf_35 rfl (fun keeps7 => ?_)
  refine R_iload_n (pc' := 39) (i := 1) (j := 1) (x := l1) dX10_sumOf_38 rfl rfl rfl ?_
  refine R_iald (pc' := 40) (q := keeps7) (i := l1) dX10_sumOf_39 rfl (fun e8 => ?_)
  refine R_aloadq_n (pc' := 41) (i := 0) (j := 0) (q := (some this)) dX10_sumOf_40 rfl rfl rfl ?_
  refine R_getR (pc' := 44) (q := (some this)) fl_X10_9 rfl dX10_sumOf_41 rfl (fun scalar9 => ?_)
  refine R_iconst (pc' := 45) (x := (nI 4)) dX10_sumOf_44 rfl (by decide) ?_
  refine R_iald (pc' := 46) (q := scalar9) (i := (nI 4)) dX10_sumOf_45 rfl (fun e10 => ?_)
  refine R_isub (pc' := 47) (a := e8) (b := e10) dX10_sumOf_46 rfl ?_
  refine R_i2l (pc' := 48) (a := (e8 - e10)) dX10_sumOf_47 rfl ?_
  refine R_last (pc' := 49) (q := asked6) (i := (nI 3)) (x := (Int32.toInt64 (e8 - e10))) dX10_sumOf_48 rfl (fun M => ?_)
  refine R_aloadq_n (pc' := 50) (i := 0) (j := 0) (q := (some this)) dX10_sumOf_49 rfl rfl rfl ?_
  refine R_getR (pc' := 53) (q := (some this)) fl_X10_87 rfl dX10_sumOf_50 rfl (fun asked11 => ?_)
  refine R_iconst (pc' := 54) (x := (nI 4)) dX10_sumOf_53 rfl (by decide) ?_
  refine R_aloadq_n (pc' := 55) (i := 0) (j := 0) (q := (some this)) dX10_sumOf_54 rfl rfl rfl ?_
  refine R_iload_n (pc' := 56) (i := 2) (j := 2) (x := l2) dX10_sumOf_55 rfl rfl rfl ?_
  refine R_callV_I (pc' := 59) (q := (some this)) (As := [.int l2]) (fun o16 => rm_X10_likeOf o16 l2 M) mf_X10_likeOf lk_X10_338 im_X10_likeOf se_X10_likeOf rfl rfl rfl dX10_sumOf_56 rfl (by decide) (Nat.le_trans (c_I (c_R c_0)) (by decide)) (fun r12 M => ?_)
  refine R_i2l (pc' := 60) (a := r12) dX10_sumOf_59 rfl ?_
  refine R_last (pc' := 61) (q := asked11) (i := (nI 4)) (x := (Int32.toInt64 r12)) dX10_sumOf_60 rfl (fun M => ?_)
  refine R_aloadq_n (pc' := 62) (i := 0) (j := 0) (q := (some this)) dX10_sumOf_61 rfl rfl rfl ?_
  refine R_getR (pc' := 65) (q := (some this)) fl_X10_87 rfl dX10_sumOf_62 rfl (fun asked13 => ?_)
  refine R_iconst (pc' := 66) (x := (nI 5)) dX10_sumOf_65 rfl (by decide) ?_
  refine R_aloadq_n (pc' := 67) (i := 0) (j := 0) (q := (some this)) dX10_sumOf_66 rfl rfl rfl ?_
  refine R_iload_n (pc' := 68) (i := 2) (j := 2) (x := l2) dX10_sumOf_67 rfl rfl rfl ?_
  refine R_callV_I (pc' := 71) (q := (some this)) (As := [.int l2]) (fun o15 => rm_X10_isNew o15 l2 M) mf_X10_isNew lk_X10_344 im_X10_isNew se_X10_isNew rfl rfl rfl dX10_sumOf_68 rfl (by decide) (Nat.le_trans (c_I (c_R c_0)) (by decide)) (fun r14 M => ?_)
  refine R_if_eq (pc' := 74) (tgt := 78) (a := r14) dX10_sumOf_71 (by decide) rfl ?_ ?_
  · refine R_lconst (pc' := 79) (x := (0 : Int64)) dX10_sumOf_78 rfl (by decide) ?_
    exact R_sub [0, 2] rfl (rf_X10_sumOf_J79 this l2 (0 : Int64) (nI 5) asked13 M)
  · refine R_lconst (pc' := 75) (x := (1 : Int64)) dX10_sumOf_74 rfl (by decide) ?_
    refine R_goto (tgt := 79) dX10_sumOf_75 (by decide) ?_
    exact R_sub [0, 2] rfl (rf_X10_sumOf_J79 this l2 (1 : Int64) (nI 5) asked13 M)
/-! BarPilotModel.likes(II)J -/
def f_X10_likes_J31 (this : Nat) (s0 : Int64) (M : Mem) : Option (Int64 × Mem) :=
  some (s0, M)
set_option maxHeartbeats 2000000 in
set_option maxRecDepth 20000 in
theorem rf_X10_likes_J31 (this : Nat) (s0 : Int64) (M : Mem) : RF yX10_likes cX10_likes 3 (some .long) 7 eL (f_X10_likes_J31 this s0 M) 31 [] [.long s0] M := by
  rw [f_X10_likes_J31]
  exact R_lret dX10_likes_31
def f_X10_likes (this : Nat) (l1 : Int32) (l2 : Int32) (M : Mem) : Option (Int64 × Mem) :=
  (gR M 10 1 (some this)).bind fun scalar1 =>
  (aI M 0 scalar1 (nI 8)).bind fun e2 =>
  (if e2 = (-1 : Int32) then
    ((oO M 10 (some this)).bind fun o4 => cl (f_X10_isNew o4 l2 M) fun r3 M =>
    (if r3 = 0 then
      (f_X10_likes_J31 this (0 : Int64) M)
    else
      (f_X10_likes_J31 this (1 : Int64) M)))
  else
    ((oO M 10 (some this)).bind fun o6 => cl (f_X10_sumOf o6 l1 l2 M) fun r5 M =>
    some (r5, M)))
set_option maxHeartbeats 2000000 in
set_option maxRecDepth 20000 in
theorem rm_X10_likes (this : Nat) (l1 : Int32) (l2 : Int32) (M : Mem) : RFm yX10_likes cX10_likes 3 (some .long) 7 eL (f_X10_likes this l1 l2 M) [va_rf (some this), .int l1, .int l2] M := by
  refine RFm_of (L := [(0, va_rf (some this)), (1, .int l1), (2, .int l2)]) (by decide) rfl (Nat.le_trans (c_R (c_I (c_I c_0))) (by decide)) ?_
  rw [f_X10_likes]
  refine R_aloadq_n (pc' := 1) (i := 0) (j := 0) (q := (some this)) dX10_likes_0 rfl rfl rfl ?_
  refine R_getR (pc' := 4) (q := (some this)) fl_X10_9 rfl dX10_likes_1 rfl (fun scalar1 => ?_)
  refine R_bipush (pc' := 6) (x := (nI 8)) dX10_likes_4 rfl (by decide) ?_
  refine R_iald (pc' := 7) (q := scalar1) (i := (nI 8)) dX10_likes_6 rfl (fun e2 => ?_)
  refine R_iconst (pc' := 8) (x := (-1 : Int32)) dX10_likes_7 rfl (by decide) ?_
  refine R_icmp_eq (pc' := 11) (tgt := 18) (a := e2) (b := (-1 : Int32)) dX10_likes_8 (by decide) rfl ?_ ?_
  · refine R_aloadq_n (pc' := 19) (i := 0) (j := 0) (q := (some this)) dX10_likes_18 rfl rfl rfl ?_
    refine R_iload_n (pc' := 20) (i := 2) (j := 2) (x := l2) dX10_likes_19 rfl rfl rfl ?_
    refine R_callV_I (pc' := 23) (q := (some this)) (As := [.int l2]) (fun o4 => rm_X10_isNew o4 l2 M) mf_X10_isNew lk_X10_344 im_X10_isNew se_X10_isNew rfl rfl rfl dX10_likes_20 rfl (by decide) (Nat.le_trans c_0 (by decide)) (fun r3 M => ?_)
    refine R_if_eq (pc' := 26) (tgt := 30) (a := r3) dX10_likes_23 (by decide) rfl ?_ ?_
    · refine R_lconst (pc' := 31) (x := (0 : Int64)) dX10_likes_30 rfl (by decide) ?_
      exact R_sub [] rfl (rf_X10_likes_J31 this (0 : Int64) M)
    · refine R_lconst (pc' := 27) (x := (1 : Int64)) dX10_likes_26 rfl (by decide) ?_
      refine R_goto (tgt := 31) dX10_likes_27 (by decide) ?_
      exact R_sub [] rfl (rf_X10_likes_J31 this (1 : Int64) M)
  · refine R_aloadq_n (pc' := 12) (i := 0) (j := 0) (q := (some this)) dX10_likes_11 rfl rfl rfl ?_
    refine R_iload_n (pc' := 13) (i := 1) (j := 1) (x := l1) dX10_likes_12 rfl rfl rfl ?_
    refine R_iload_n (pc' := 14) (i := 2) (j := 2) (x := l2) dX10_likes_13 rfl rfl rfl ?_
    refine R_callV_L (pc' := 17) (q := (some this)) (As := [.int l1, .int l2]) (fun o6 => rm_X10_sumOf o6 l1 l2 M) mf_X10_sumOf lk_X10_374 im_X10_sumOf se_X10_sumOf rfl rfl rfl dX10_likes_14 rfl (by decide) (Nat.le_trans c_0 (by decide)) (fun r5 M => ?_)
    exact R_lret dX10_likes_17
/-! BarPilotModel.choice(I)I -/
def f_X10_choice_J67 (k20 : Int32 → Int32 → Int64 → Int32 → Mem → Option (Int32 × Mem)) (this : Nat) (l1 : Int32) (l2 : Int32) (l3 : Int64) (l5 : Int32) (M : Mem) : Option (Int32 × Mem) :=
  k20 l1 l2 l3 (l5 + (nI 1)) M
set_option maxHeartbeats 2000000 in
set_option maxRecDepth 20000 in
theorem rf_X10_choice_J67 (this : Nat) (k20 : Int32 → Int32 → Int64 → Int32 → Mem → Option (Int32 × Mem)) (hk20 : ∀ (l1 : Int32) (l2 : Int32) (l3 : Int64) (l5 : Int32) (M : Mem), RF yX10_choice cX10_choice 8 (some .int) 8 eI (k20 l1 l2 l3 l5 M) 20 [(0, va_rf (some this)), (1, .int l1), (2, .int l2), (3, .long l3), (5, .int l5)] [] M) (l1 : Int32) (l2 : Int32) (l3 : Int64) (l5 : Int32) (M : Mem) : RF yX10_choice cX10_choice 8 (some .int) 8 eI (f_X10_choice_J67 k20 this l1 l2 l3 l5 M) 67 [(0, va_rf (some this)), (1, .int l1), (2, .int l2), (3, .long l3), (5, .int l5)] [] M := by
  rw [f_X10_choice_J67]
  refine R_iinc (pc' := 70) (L' := [(5, .int (l5 + (nI 1))), (0, va_rf (some this)), (1, .int l1), (2, .int l2), (3, .long l3)]) (i := 5) (j := 4) (x := l5) (x2 := (l5 + (nI 1))) dX10_choice_67 rfl rfl rfl (by decide) rfl ?_
  refine R_goto (tgt := 20) dX10_choice_70 (by decide) ?_
  exact R_sub [1, 2, 3, 4, 0] rfl (hk20 l1 l2 l3 (l5 + (nI 1)) M)
def f_X10_choice_L20 (this : Nat) : Nat → Int32 → Int32 → Int64 → Int32 → Mem → Option (Int32 × Mem)
  | 0, _, _, _, _, _ => none
  | n + 1, l1, l2, l3, l5, M =>
    (gR M 10 1 (some this)).bind fun scalar1 =>
    (aI M 0 scalar1 (nI 2)).bind fun e2 =>
    (if e2 ≤ l5 then
      (some (l2, M))
    else
      ((gR M 10 6 (some this)).bind fun knows3 =>
      (aI M 0 knows3 l1).bind fun e4 =>
      cl (f_X10_has e4 l5 M) fun r5 M =>
      (if r5 = 0 then
        (f_X10_choice_J67 (f_X10_choice_L20 this n) this l1 l2 l3 l5 M)
      else
        ((oO M 10 (some this)).bind fun o7 => cl (f_X10_likes o7 l1 l5 M) fun r6 M =>
        (if (lg_cmp r6 l3) ≤ 0 then
          (f_X10_choice_J67 (f_X10_choice_L20 this n) this l1 l2 l3 l5 M)
        else
          (f_X10_choice_J67 (f_X10_choice_L20 this n) this l1 l5 r6 l5 M))))))
set_option maxHeartbeats 2000000 in
set_option maxRecDepth 20000 in
theorem rf_X10_choice_L20 (this : Nat) : ∀ (n : Nat) (l1 : Int32) (l2 : Int32) (l3 : Int64) (l5 : Int32) (M : Mem), RF yX10_choice cX10_choice 8 (some .int) 8 eI (f_X10_choice_L20 this n l1 l2 l3 l5 M) 20 [(0, va_rf (some this)), (1, .int l1), (2, .int l2), (3, .long l3), (5, .int l5)] [] M := by
  intro n
  induction n with
  | zero => intro _ _ _ _ _; exact RF.none
  | succ n ih =>
    intro l1 l2 l3 l5 M
    rw [f_X10_choice_L20]
    refine R_iload (pc' := 22) (i := 5) (j := 4) (x := l5) dX10_choice_20 rfl rfl ?_
    refine R_aloadq_n (pc' := 23) (i := 0) (j := 0) (q := (some this)) dX10_choice_22 rfl rfl rfl ?_
    refine R_getR (pc' := 26) (q := (some this)) fl_X10_9 rfl dX10_choice_23 rfl (fun scalar1 => ?_)
    refine R_iconst (pc' := 27) (x := (nI 2)) dX10_choice_26 rfl (by decide) ?_
    refine R_iald (pc' := 28) (q := scalar1) (i := (nI 2)) dX10_choice_27 rfl (fun e2 => ?_)
    refine R_icmp_ge (pc' := 31) (tgt := 73) (a := l5) (b := e2) dX10_choice_28 (by decide) rfl ?_ ?_
    · refine R_iload_n (pc' := 74) (i := 2) (j := 2) (x := l2) dX10_choice_73 rfl rfl rfl ?_
      exact R_iret dX10_choice_74
    · refine R_aloadq_n (pc' := 32) (i := 0) (j := 0) (q := (some this)) dX10_choice_31 rfl rfl rfl ?_
      refine R_getR (pc' := 35) (q := (some this)) fl_X10_25 rfl dX10_choice_32 rfl (fun knows3 => ?_)
      refine R_iload_n (pc' := 36) (i := 1) (j := 1) (x := l1) dX10_choice_35 rfl rfl rfl ?_
      refine R_iald (pc' := 37) (q := knows3) (i := l1) dX10_choice_36 rfl (fun e4 => ?_)
      refine R_iload (pc' := 39) (i := 5) (j := 4) (x := l5) dX10_choice_37 rfl rfl ?_
      refine R_callS_I (pc' := 42) (As := [.int e4, .int l5]) (rm_X10_has e4 l5 M) mf_X10_has lk_X10_353 sm_X10_has rfl rfl dX10_choice_39 rfl (by decide) (Nat.le_trans c_0 (by decide)) (fun r5 M => ?_)
      refine R_if_eq (pc' := 45) (tgt := 67) (a := r5) dX10_choice_42 (by decide) rfl ?_ ?_
      · exact R_sub [0, 1, 2, 3, 4] rfl (rf_X10_choice_J67 this (f_X10_choice_L20 this n) ih l1 l2 l3 l5 M)
      · refine R_aloadq_n (pc' := 46) (i := 0) (j := 0) (q := (some this)) dX10_choice_45 rfl rfl rfl ?_
        refine R_iload_n (pc' := 47) (i := 1) (j := 1) (x := l1) dX10_choice_46 rfl rfl rfl ?_
        refine R_iload (pc' := 49) (i := 5) (j := 4) (x := l5) dX10_choice_47 rfl rfl ?_
        refine R_callV_L (pc' := 52) (q := (some this)) (As := [.int l1, .int l5]) (fun o7 => rm_X10_likes o7 l1 l5 M) mf_X10_likes lk_X10_381 im_X10_likes se_X10_likes rfl rfl rfl dX10_choice_49 rfl (by decide) (Nat.le_trans c_0 (by decide)) (fun r6 M => ?_)
        refine R_lstore (pc' := 54) (L' := [(6, .long r6), (0, va_rf (some this)), (1, .int l1), (2, .int l2), (3, .long l3), (5, .int l5)]) (i := 6) (x := r6) dX10_choice_52 rfl (by decide) rfl ?_
        refine R_lload (pc' := 56) (i := 6) (j := 0) (x := r6) dX10_choice_54 rfl rfl ?_
        refine R_lload_n (pc' := 57) (i := 3) (j := 4) (x := l3) dX10_choice_56 rfl rfl rfl ?_
        refine R_lcmp (pc' := 58) (a := r6) (b := l3) dX10_choice_57 rfl ?_
        refine R_if_le (pc' := 61) (tgt := 67) (a := (lg_cmp r6 l3)) dX10_choice_58 (by decide) rfl ?_ ?_
        · exact R_sub [1, 2, 3, 4, 5] rfl (rf_X10_choice_J67 this (f_X10_choice_L20 this n) ih l1 l2 l3 l5 M)
        · refine R_iload (pc' := 63) (i := 5) (j := 5) (x := l5) dX10_choice_61 rfl rfl ?_
          refine R_istore_n (pc' := 64) (L' := [(2, .int l5), (6, .long r6), (0, va_rf (some this)), (1, .int l1), (3, .long l3), (5, .int l5)]) (i := 2) (x := l5) dX10_choice_63 rfl rfl (by decide) rfl ?_
          refine R_lload (pc' := 66) (i := 6) (j := 1) (x := r6) dX10_choice_64 rfl rfl ?_
          refine R_lstore_n (pc' := 67) (L' := [(3, .long r6), (2, .int l5), (6, .long r6), (0, va_rf (some this)), (1, .int l1), (5, .int l5)]) (i := 3) (x := r6) dX10_choice_66 rfl rfl (by decide) rfl ?_
          exact R_sub [3, 4, 1, 0, 5] rfl (rf_X10_choice_J67 this (f_X10_choice_L20 this n) ih l1 l5 r6 l5 M)
def f_X10_choice (this : Nat) (l1 : Int32) (M : Mem) : Option (Int32 × Mem) :=
  (gI M 10 38 (some this)).bind fun rowShip1 =>
  (if l1 = rowShip1 then
    ((gI M 10 39 (some this)).bind fun rowJoke2 =>
    some (rowJoke2, M))
  else
    (f_X10_choice_L20 this FU l1 (-1 : Int32) (0 : Int64) (nI 0) M))
set_option maxHeartbeats 2000000 in
set_option maxRecDepth 20000 in
theorem rm_X10_choice (this : Nat) (l1 : Int32) (M : Mem) : RFm yX10_choice cX10_choice 8 (some .int) 8 eI (f_X10_choice this l1 M) [va_rf (some this), .int l1] M := by
  refine RFm_of (L := [(0, va_rf (some this)), (1, .int l1)]) (by decide) rfl (Nat.le_trans (c_R (c_I c_0)) (by decide)) ?_
  rw [f_X10_choice]
  refine R_iload_n (pc' := 1) (i := 1) (j := 1) (x := l1) dX10_choice_0 rfl rfl rfl ?_
  refine R_aloadq_n (pc' := 2) (i := 0) (j := 0) (q := (some this)) dX10_choice_1 rfl rfl rfl ?_
  refine R_getI (pc' := 5) (q := (some this)) fl_X10_97 rfl dX10_choice_2 rfl (fun rowShip1 => ?_)
  refine R_icmp_ne (pc' := 8) (tgt := 13) (a := l1) (b := rowShip1) dX10_choice_5 (by decide) rfl ?_ ?_
  · refine R_iconst (pc' := 14) (x := (-1 : Int32)) dX10_choice_13 rfl (by decide) ?_
    refine R_istore_n (pc' := 15) (L' := [(2, .int (-1 : Int32)), (0, va_rf (some this)), (1, .int l1)]) (i := 2) (x := (-1 : Int32)) dX10_choice_14 rfl rfl (by decide) rfl ?_
    refine R_lconst (pc' := 16) (x := (0 : Int64)) dX10_choice_15 rfl (by decide) ?_
    refine R_lstore_n (pc' := 17) (L' := [(3, .long (0 : Int64)), (2, .int (-1 : Int32)), (0, va_rf (some this)), (1, .int l1)]) (i := 3) (x := (0 : Int64)) dX10_choice_16 rfl rfl (by decide) rfl ?_
    refine R_iconst (pc' := 18) (x := (nI 0)) dX10_choice_17 rfl (by decide) ?_
    refine R_istore (pc' := 20) (L' := [(5, .int (nI 0)), (3, .long (0 : Int64)), (2, .int (-1 : Int32)), (0, va_rf (some this)), (1, .int l1)]) (i := 5) (x := (nI 0)) dX10_choice_18 rfl (by decide) rfl ?_
    exact R_sub [3, 4, 2, 1, 0] rfl (rf_X10_choice_L20 this FU l1 (-1 : Int32) (0 : Int64) (nI 0) M)
  · refine R_aloadq_n (pc' := 9) (i := 0) (j := 0) (q := (some this)) dX10_choice_8 rfl rfl rfl ?_
    refine R_getI (pc' := 12) (q := (some this)) fl_X10_378 rfl dX10_choice_9 rfl (fun rowJoke2 => ?_)
    exact R_iret dX10_choice_12
/-! BarPilotModel.goes()I -/
def f_X10_goes_J67 (k4 : Int32 → Int32 → Mem → Option (Int32 × Mem)) (this : Nat) (l1 : Int32) (l2 : Int32) (M : Mem) : Option (Int32 × Mem) :=
  k4 l1 (l2 + (nI 1)) M
set_option maxHeartbeats 2000000 in
set_option maxRecDepth 20000 in
theorem rf_X10_goes_J67 (this : Nat) (k4 : Int32 → Int32 → Mem → Option (Int32 × Mem)) (hk4 : ∀ (l1 : Int32) (l2 : Int32) (M : Mem), RF yX10_goes cX10_goes 3 (some .int) 9 eI (k4 l1 l2 M) 4 [(0, va_rf (some this)), (1, .int l1), (2, .int l2)] [] M) (l1 : Int32) (l2 : Int32) (M : Mem) : RF yX10_goes cX10_goes 3 (some .int) 9 eI (f_X10_goes_J67 k4 this l1 l2 M) 67 [(0, va_rf (some this)), (1, .int l1), (2, .int l2)] [] M := by
  rw [f_X10_goes_J67]
  refine R_iinc (pc' := 70) (L' := [(2, .int (l2 + (nI 1))), (0, va_rf (some this)), (1, .int l1)]) (i := 2) (j := 2) (x := l2) (x2 := (l2 + (nI 1))) dX10_goes_67 rfl rfl rfl (by decide) rfl ?_
  refine R_goto (tgt := 4) dX10_goes_70 (by decide) ?_
  exact R_sub [1, 2, 0] rfl (hk4 l1 (l2 + (nI 1)) M)
def f_X10_goes_J36 (k4 : Int32 → Int32 → Mem → Option (Int32 × Mem)) (this : Nat) (l1 : Int32) (l2 : Int32) (s0 : Int32) (s1 : Int32) (s2 : Option Nat) (M : Mem) : Option (Int32 × Mem) :=
  (wI M 0 s2 s1 s0).bind fun M =>
  (gR M 10 37 (some this)).bind fun told1 =>
  (aI M 0 told1 l2).bind fun e2 =>
  (if e2 = (-1 : Int32) then
    (f_X10_goes_J67 k4 this l1 l2 M)
  else
    ((gR M 10 37 (some this)).bind fun told3 =>
    (aI M 0 told3 l2).bind fun e4 =>
    (oO M 10 (some this)).bind fun o7 => cl (f_X10_tells o7 l2 e4 M) fun r5 M =>
    (if r5 = 0 then
      (f_X10_goes_J67 k4 this l1 l2 M)
    else
      (nm (l1 ||| ((nI 1) <<< (l2 &&& 31))) fun v6 =>
      f_X10_goes_J67 k4 this v6 l2 M))))
set_option maxHeartbeats 2000000 in
set_option maxRecDepth 20000 in
theorem rf_X10_goes_J36 (this : Nat) (k4 : Int32 → Int32 → Mem → Option (Int32 × Mem)) (hk4 : ∀ (l1 : Int32) (l2 : Int32) (M : Mem), RF yX10_goes cX10_goes 3 (some .int) 9 eI (k4 l1 l2 M) 4 [(0, va_rf (some this)), (1, .int l1), (2, .int l2)] [] M) (l1 : Int32) (l2 : Int32) (s0 : Int32) (s1 : Int32) (s2 : Option Nat) (M : Mem) : RF yX10_goes cX10_goes 3 (some .int) 9 eI (f_X10_goes_J36 k4 this l1 l2 s0 s1 s2 M) 36 [(0, va_rf (some this)), (1, .int l1), (2, .int l2)] [.int s0, .int s1, va_rf s2] M := by
  rw [f_X10_goes_J36]
  refine R_iast (pc' := 37) (q := s2) (i := s1) (x := s0) dX10_goes_36 rfl (fun M => ?_)
  refine R_aloadq_n (pc' := 38) (i := 0) (j := 0) (q := (some this)) dX10_goes_37 rfl rfl rfl ?_
  refine R_getR (pc' := 41) (q := (some this)) fl_X10_94 rfl dX10_goes_38 rfl (fun told1 => ?_)
  refine R_iload_n (pc' := 42) (i := 2) (j := 2) (x := l2) dX10_goes_41 rfl rfl rfl ?_
  refine R_iald (pc' := 43) (q := told1) (i := l2) dX10_goes_42 rfl (fun e2 => ?_)
  refine R_iconst (pc' := 44) (x := (-1 : Int32)) dX10_goes_43 rfl (by decide) ?_
  refine R_icmp_eq (pc' := 47) (tgt := 67) (a := e2) (b := (-1 : Int32)) dX10_goes_44 (by decide) rfl ?_ ?_
  · exact R_sub [0, 1, 2] rfl (rf_X10_goes_J67 this k4 hk4 l1 l2 M)
  · refine R_aloadq_n (pc' := 48) (i := 0) (j := 0) (q := (some this)) dX10_goes_47 rfl rfl rfl ?_
    refine R_iload_n (pc' := 49) (i := 2) (j := 2) (x := l2) dX10_goes_48 rfl rfl rfl ?_
    refine R_aloadq_n (pc' := 50) (i := 0) (j := 0) (q := (some this)) dX10_goes_49 rfl rfl rfl ?_
    refine R_getR (pc' := 53) (q := (some this)) fl_X10_94 rfl dX10_goes_50 rfl (fun told3 => ?_)
    refine R_iload_n (pc' := 54) (i := 2) (j := 2) (x := l2) dX10_goes_53 rfl rfl rfl ?_
    refine R_iald (pc' := 55) (q := told3) (i := l2) dX10_goes_54 rfl (fun e4 => ?_)
    refine R_callV_I (pc' := 58) (q := (some this)) (As := [.int l2, .int e4]) (fun o7 => rm_X10_tells o7 l2 e4 M) mf_X10_tells lk_X10_387 im_X10_tells se_X10_tells rfl rfl rfl dX10_goes_55 rfl (by decide) (Nat.le_trans c_0 (by decide)) (fun r5 M => ?_)
    refine R_if_eq (pc' := 61) (tgt := 67) (a := r5) dX10_goes_58 (by decide) rfl ?_ ?_
    · exact R_sub [0, 1, 2] rfl (rf_X10_goes_J67 this k4 hk4 l1 l2 M)
    · refine R_iload_n (pc' := 62) (i := 1) (j := 1) (x := l1) dX10_goes_61 rfl rfl rfl ?_
      refine R_iconst (pc' := 63) (x := (nI 1)) dX10_goes_62 rfl (by decide) ?_
      refine R_iload_n (pc' := 64) (i := 2) (j := 2) (x := l2) dX10_goes_63 rfl rfl rfl ?_
      refine R_ishl (pc' := 65) (a := (nI 1)) (b := l2) dX10_goes_64 rfl ?_
      refine R_ior (pc' := 66) (a := l1) (b := ((nI 1) <<< (l2 &&& 31))) dX10_goes_65 rfl ?_
      refine R_nmI (fun v6 => ?_)
      refine R_istore_n (pc' := 67) (L' := [(1, .int v6), (0, va_rf (some this)), (2, .int l2)]) (i := 1) (x := v6) dX10_goes_66 rfl rfl (by decide) rfl ?_
      exact R_sub [1, 0, 2] rfl (rf_X10_goes_J67 this k4 hk4 v6 l2 M)
def f_X10_goes_L4 (this : Nat) : Nat → Int32 → Int32 → Mem → Option (Int32 × Mem)
  | 0, _, _, _ => none
  | n + 1, l1, l2, M =>
    (gR M 10 1 (some this)).bind fun scalar1 =>
    (aI M 0 scalar1 (nI 3)).bind fun e2 =>
    (if e2 ≤ l2 then
      ((gR M 10 1 (some this)).bind fun scalar3 =>
      (aI M 0 scalar3 (nI 4)).bind fun e4 =>
      (wI M 0 scalar3 (nI 4) (e4 + (nI 1))).bind fun M =>
      some (l1, M))
    else
      ((gR M 10 37 (some this)).bind fun told5 =>
      (oO M 10 (some this)).bind fun o9 => cl (f_X10_waits o9 l2 M) fun r6 M =>
      (if r6 = 0 then
        (f_X10_goes_J36 (f_X10_goes_L4 this n) this l1 l2 (-1 : Int32) l2 told5 M)
      else
        ((oO M 10 (some this)).bind fun o8 => cl (f_X10_choice o8 l2 M) fun r7 M =>
        f_X10_goes_J36 (f_X10_goes_L4 this n) this l1 l2 r7 l2 told5 M))))
set_option maxHeartbeats 2000000 in
set_option maxRecDepth 20000 in
theorem rf_X10_goes_L4 (this : Nat) : ∀ (n : Nat) (l1 : Int32) (l2 : Int32) (M : Mem), RF yX10_goes cX10_goes 3 (some .int) 9 eI (f_X10_goes_L4 this n l1 l2 M) 4 [(0, va_rf (some this)), (1, .int l1), (2, .int l2)] [] M := by
  intro n
  induction n with
  | zero => intro _ _ _; exact RF.none
  | succ n ih =>
    intro l1 l2 M
    rw [f_X10_goes_L4]
    refine R_iload_n (pc' := 5) (i := 2) (j := 2) (x := l2) dX10_goes_4 rfl rfl rfl ?_
    refine R_aloadq_n (pc' := 6) (i := 0) (j := 0) (q := (some this)) dX10_goes_5 rfl rfl rfl ?_
    refine R_getR (pc' := 9) (q := (some this)) fl_X10_9 rfl dX10_goes_6 rfl (fun scalar1 => ?_)
    refine R_iconst (pc' := 10) (x := (nI 3)) dX10_goes_9 rfl (by decide) ?_
    refine R_iald (pc' := 11) (q := scalar1) (i := (nI 3)) dX10_goes_10 rfl (fun e2 => ?_)
    refine R_icmp_ge (pc' := 14) (tgt := 73) (a := l2) (b := e2) dX10_goes_11 (by decide) rfl ?_ ?_
    · refine R_aloadq_n (pc' := 74) (i := 0) (j := 0) (q := (some this)) dX10_goes_73 rfl rfl rfl ?_
      refine R_getR (pc' := 77) (q := (some this)) fl_X10_9 rfl dX10_goes_74 rfl (fun scalar3 => ?_)
      refine R_iconst (pc' := 78) (x := (nI 4)) dX10_goes_77 rfl (by decide) ?_
      refine R_dup2 (pc' := 79) dX10_goes_78 rfl rfl (rf_cat _) ?_
      refine R_iald (pc' := 80) (q := scalar3) (i := (nI 4)) dX10_goes_79 rfl (fun e4 => ?_)
      refine R_iconst (pc' := 81) (x := (nI 1)) dX10_goes_80 rfl (by decide) ?_
      refine R_iadd (pc' := 82) (a := e4) (b := (nI 1)) dX10_goes_81 rfl ?_
      refine R_iast (pc' := 83) (q := scalar3) (i := (nI 4)) (x := (e4 + (nI 1))) dX10_goes_82 rfl (fun M => ?_)
      refine R_iload_n (pc' := 84) (i := 1) (j := 1) (x := l1) dX10_goes_83 rfl rfl rfl ?_
      exact R_iret dX10_goes_84
    · refine R_aloadq_n (pc' := 15) (i := 0) (j := 0) (q := (some this)) dX10_goes_14 rfl rfl rfl ?_
      refine R_getR (pc' := 18) (q := (some this)) fl_X10_94 rfl dX10_goes_15 rfl (fun told5 => ?_)
      refine R_iload_n (pc' := 19) (i := 2) (j := 2) (x := l2) dX10_goes_18 rfl rfl rfl ?_
      refine R_aloadq_n (pc' := 20) (i := 0) (j := 0) (q := (some this)) dX10_goes_19 rfl rfl rfl ?_
      refine R_iload_n (pc' := 21) (i := 2) (j := 2) (x := l2) dX10_goes_20 rfl rfl rfl ?_
      refine R_callV_I (pc' := 24) (q := (some this)) (As := [.int l2]) (fun o9 => rm_X10_waits o9 l2 M) mf_X10_waits lk_X10_350 im_X10_waits se_X10_waits rfl rfl rfl dX10_goes_21 rfl (by decide) (Nat.le_trans (c_I (c_R c_0)) (by decide)) (fun r6 M => ?_)
      refine R_if_eq (pc' := 27) (tgt := 35) (a := r6) dX10_goes_24 (by decide) rfl ?_ ?_
      · refine R_iconst (pc' := 36) (x := (-1 : Int32)) dX10_goes_35 rfl (by decide) ?_
        exact R_sub [0, 1, 2] rfl (rf_X10_goes_J36 this (f_X10_goes_L4 this n) ih l1 l2 (-1 : Int32) l2 told5 M)
      · refine R_aloadq_n (pc' := 28) (i := 0) (j := 0) (q := (some this)) dX10_goes_27 rfl rfl rfl ?_
        refine R_iload_n (pc' := 29) (i := 2) (j := 2) (x := l2) dX10_goes_28 rfl rfl rfl ?_
        refine R_callV_I (pc' := 32) (q := (some this)) (As := [.int l2]) (fun o8 => rm_X10_choice o8 l2 M) mf_X10_choice lk_X10_384 im_X10_choice se_X10_choice rfl rfl rfl dX10_goes_29 rfl (by decide) (Nat.le_trans (c_I (c_R c_0)) (by decide)) (fun r7 M => ?_)
        refine R_goto (tgt := 36) dX10_goes_32 (by decide) ?_
        exact R_sub [0, 1, 2] rfl (rf_X10_goes_J36 this (f_X10_goes_L4 this n) ih l1 l2 r7 l2 told5 M)
def f_X10_goes (this : Nat) (M : Mem) : Option (Int32 × Mem) :=
  f_X10_goes_L4 this FU (nI 0) (nI 0) M
set_option maxHeartbeats 2000000 in
set_option maxRecDepth 20000 in
theorem rm_X10_goes (this : Nat) (M : Mem) : RFm yX10_goes cX10_goes 3 (some .int) 9 eI (f_X10_goes this M) [va_rf (some this)] M := by
  refine RFm_of (L := [(0, va_rf (some this))]) (by decide) rfl (Nat.le_trans (c_R c_0) (by decide)) ?_
  rw [f_X10_goes]
  refine R_iconst (pc' := 1) (x := (nI 0)) dX10_goes_0 rfl (by decide) ?_
  refine R_istore_n (pc' := 2) (L' := [(1, .int (nI 0)), (0, va_rf (some this))]) (i := 1) (x := (nI 0)) dX10_goes_1 rfl rfl (by decide) rfl ?_
  refine R_iconst (pc' := 3) (x := (nI 0)) dX10_goes_2 rfl (by decide) ?_
  refine R_istore_n (pc' := 4) (L' := [(2, .int (nI 0)), (1, .int (nI 0)), (0, va_rf (some this))]) (i := 2) (x := (nI 0)) dX10_goes_3 rfl rfl (by decide) rfl ?_
  exact R_sub [2, 1, 0] rfl (rf_X10_goes_L4 this FU (nI 0) (nI 0) M)
/-! BarPilotModel.goFor(I)V -/
def f_X10_goFor_L2 (this : Nat) : Nat → Int32 → Int32 → Mem → Option (Unit × Mem)
  | 0, _, _, _ => none
  | n + 1, l1, l2, M =>
    (if l1 ≤ l2 then
      (some ((), M))
    else
      ((oO M 10 (some this)).bind fun o2 => cl (f_X10_goes o2 M) fun r1 M =>
      (f_X10_goFor_L2 this n) l1 (l2 + (nI 1)) M))
set_option maxHeartbeats 2000000 in
set_option maxRecDepth 20000 in
theorem rf_X10_goFor_L2 (this : Nat) : ∀ (n : Nat) (l1 : Int32) (l2 : Int32) (M : Mem), RF yX10_goFor cX10_goFor 3 none 10 eV (f_X10_goFor_L2 this n l1 l2 M) 2 [(0, va_rf (some this)), (1, .int l1), (2, .int l2)] [] M := by
  intro n
  induction n with
  | zero => intro _ _ _; exact RF.none
  | succ n ih =>
    intro l1 l2 M
    rw [f_X10_goFor_L2]
    refine R_iload_n (pc' := 3) (i := 2) (j := 2) (x := l2) dX10_goFor_2 rfl rfl rfl ?_
    refine R_iload_n (pc' := 4) (i := 1) (j := 1) (x := l1) dX10_goFor_3 rfl rfl rfl ?_
    refine R_icmp_ge (pc' := 7) (tgt := 18) (a := l2) (b := l1) dX10_goFor_4 (by decide) rfl ?_ ?_
    · exact R_vret dX10_goFor_18
    · refine R_aloadq_n (pc' := 8) (i := 0) (j := 0) (q := (some this)) dX10_goFor_7 rfl rfl rfl ?_
      refine R_callV_I (pc' := 11) (q := (some this)) (As := []) (fun o2 => rm_X10_goes o2 M) mf_X10_goes lk_X10_390 im_X10_goes se_X10_goes rfl rfl rfl dX10_goFor_8 rfl (by decide) (Nat.le_trans c_0 (by decide)) (fun r1 M => ?_)
      refine R_pop (pc' := 12) dX10_goFor_11 rfl rfl ?_
      refine R_iinc (pc' := 15) (L' := [(2, .int (l2 + (nI 1))), (0, va_rf (some this)), (1, .int l1)]) (i := 2) (j := 2) (x := l2) (x2 := (l2 + (nI 1))) dX10_goFor_12 rfl rfl rfl (by decide) rfl ?_
      refine R_goto (tgt := 2) dX10_goFor_15 (by decide) ?_
      exact R_sub [1, 2, 0] rfl (ih l1 (l2 + (nI 1)) M)
def f_X10_goFor (this : Nat) (l1 : Int32) (M : Mem) : Option (Unit × Mem) :=
  f_X10_goFor_L2 this FU l1 (nI 0) M
set_option maxHeartbeats 2000000 in
set_option maxRecDepth 20000 in
theorem rm_X10_goFor (this : Nat) (l1 : Int32) (M : Mem) : RFm yX10_goFor cX10_goFor 3 none 10 eV (f_X10_goFor this l1 M) [va_rf (some this), .int l1] M := by
  refine RFm_of (L := [(0, va_rf (some this)), (1, .int l1)]) (by decide) rfl (Nat.le_trans (c_R (c_I c_0)) (by decide)) ?_
  rw [f_X10_goFor]
  refine R_iconst (pc' := 1) (x := (nI 0)) dX10_goFor_0 rfl (by decide) ?_
  refine R_istore_n (pc' := 2) (L' := [(2, .int (nI 0)), (0, va_rf (some this)), (1, .int l1)]) (i := 2) (x := (nI 0)) dX10_goFor_1 rfl rfl (by decide) rfl ?_
  exact R_sub [1, 2, 0] rfl (rf_X10_goFor_L2 this FU l1 (nI 0) M)
/-! BarPilotModel.moves(I)I -/
def f_X10_moves_J20 (this : Nat) (s0 : Int32) (M : Mem) : Option (Int32 × Mem) :=
  (gR M 10 40 (some this)).bind fun past1 =>
  (gI M 10 43 (some this)).bind fun pastAt2 =>
  (wI M 0 past1 pastAt2 s0).bind fun M =>
  (gI M 10 43 (some this)).bind fun pastAt3 =>
  (pI M 10 43 (some this) (pastAt3 + (nI 1))).bind fun M =>
  some (s0, M)
set_option maxHeartbeats 2000000 in
set_option maxRecDepth 20000 in
theorem rf_X10_moves_J20 (this : Nat) (s0 : Int32) (M : Mem) : RF yX10_moves cX10_moves 3 (some .int) 1 eI (f_X10_moves_J20 this s0 M) 20 [(0, va_rf (some this))] [.int s0] M := by
  rw [f_X10_moves_J20]
  refine R_istore_n (pc' := 21) (L' := [(2, .int s0), (0, va_rf (some this))]) (i := 2) (x := s0) dX10_moves_20 rfl rfl (by decide) rfl ?_
  refine R_aloadq_n (pc' := 22) (i := 0) (j := 1) (q := (some this)) dX10_moves_21 rfl rfl rfl ?_
  refine R_getR (pc' := 25) (q := (some this)) fl_X10_100 rfl dX10_moves_22 rfl (fun past1 => ?_)
  refine R_aloadq_n (pc' := 26) (i := 0) (j := 1) (q := (some this)) dX10_moves_25 rfl rfl rfl ?_
  refine R_getI (pc' := 29) (q := (some this)) fl_X10_397 rfl dX10_moves_26 rfl (fun pastAt2 => ?_)
  refine R_iload_n (pc' := 30) (i := 2) (j := 0) (x := s0) dX10_moves_29 rfl rfl rfl ?_
  refine R_iast (pc' := 31) (q := past1) (i := pastAt2) (x := s0) dX10_moves_30 rfl (fun M => ?_)
  refine R_aloadq_n (pc' := 32) (i := 0) (j := 1) (q := (some this)) dX10_moves_31 rfl rfl rfl ?_
  refine R_dup (pc' := 33) dX10_moves_32 rfl (rf_cat _) ?_
  refine R_getI (pc' := 36) (q := (some this)) fl_X10_397 rfl dX10_moves_33 rfl (fun pastAt3 => ?_)
  refine R_iconst (pc' := 37) (x := (nI 1)) dX10_moves_36 rfl (by decide) ?_
  refine R_iadd (pc' := 38) (a := pastAt3) (b := (nI 1)) dX10_moves_37 rfl ?_
  refine R_putI (pc' := 41) (q := (some this)) (x := (pastAt3 + (nI 1))) fl_X10_397 (Or.inl rfl) dX10_moves_38 rfl (fun M => ?_)
  refine R_iload_n (pc' := 42) (i := 2) (j := 0) (x := s0) dX10_moves_41 rfl rfl rfl ?_
  exact R_iret dX10_moves_42
def f_X10_moves (this : Nat) (l1 : Int32) (M : Mem) : Option (Int32 × Mem) :=
  (gI M 10 44 (some this)).bind fun takesBack1 =>
  (if takesBack1 = 0 then
    (f_X10_moves_J20 this l1 M)
  else
    ((gR M 10 40 (some this)).bind fun past2 =>
    (gI M 10 43 (some this)).bind fun pastAt3 =>
    (aI M 0 past2 pastAt3).bind fun e4 =>
    f_X10_moves_J20 this e4 M))
set_option maxHeartbeats 2000000 in
set_option maxRecDepth 20000 in
theorem rm_X10_moves (this : Nat) (l1 : Int32) (M : Mem) : RFm yX10_moves cX10_moves 3 (some .int) 1 eI (f_X10_moves this l1 M) [va_rf (some this), .int l1] M := by
  refine RFm_of (L := [(0, va_rf (some this)), (1, .int l1)]) (by decide) rfl (Nat.le_trans (c_R (c_I c_0)) (by decide)) ?_
  rw [f_X10_moves]
  refine R_aloadq_n (pc' := 1) (i := 0) (j := 0) (q := (some this)) dX10_moves_0 rfl rfl rfl ?_
  refine R_getI (pc' := 4) (q := (some this)) fl_X10_393 rfl dX10_moves_1 rfl (fun takesBack1 => ?_)
  refine R_if_eq (pc' := 7) (tgt := 19) (a := takesBack1) dX10_moves_4 (by decide) rfl ?_ ?_
  · refine R_iload_n (pc' := 20) (i := 1) (j := 1) (x := l1) dX10_moves_19 rfl rfl rfl ?_
    exact R_sub [0] rfl (rf_X10_moves_J20 this l1 M)
  · refine R_aloadq_n (pc' := 8) (i := 0) (j := 0) (q := (some this)) dX10_moves_7 rfl rfl rfl ?_
    refine R_getR (pc' := 11) (q := (some this)) fl_X10_100 rfl dX10_moves_8 rfl (fun past2 => ?_)
    refine R_aloadq_n (pc' := 12) (i := 0) (j := 0) (q := (some this)) dX10_moves_11 rfl rfl rfl ?_
    refine R_getI (pc' := 15) (q := (some this)) fl_X10_397 rfl dX10_moves_12 rfl (fun pastAt3 => ?_)
    refine R_iald (pc' := 16) (q := past2) (i := pastAt3) dX10_moves_15 rfl (fun e4 => ?_)
    refine R_goto (tgt := 20) dX10_moves_16 (by decide) ?_
    exact R_sub [0] rfl (rf_X10_moves_J20 this e4 M)
/-! BarPilotModel.movesRow([I)V -/
def f_X10_movesRow_L2 (this : Nat) : Nat → Option Nat → Int32 → Mem → Option (Unit × Mem)
  | 0, _, _, _ => none
  | n + 1, l1, l2, M =>
    (lnA M l1).bind fun len1 =>
    (if len1 ≤ l2 then
      (some ((), M))
    else
      ((aI M 0 l1 l2).bind fun e2 =>
      (oO M 10 (some this)).bind fun o4 => cl (f_X10_moves o4 e2 M) fun r3 M =>
      (wI M 0 l1 l2 r3).bind fun M =>
      (f_X10_movesRow_L2 this n) l1 (l2 + (nI 1)) M))
set_option maxHeartbeats 2000000 in
set_option maxRecDepth 20000 in
theorem rf_X10_movesRow_L2 (this : Nat) : ∀ (n : Nat) (l1 : Option Nat) (l2 : Int32) (M : Mem), RF yX10_movesRow cX10_movesRow 3 none 2 eV (f_X10_movesRow_L2 this n l1 l2 M) 2 [(0, va_rf (some this)), (1, va_rf l1), (2, .int l2)] [] M := by
  intro n
  induction n with
  | zero => intro _ _ _; exact RF.none
  | succ n ih =>
    intro l1 l2 M
    rw [f_X10_movesRow_L2]
    refine R_iload_n (pc' := 3) (i := 2) (j := 2) (x := l2) dX10_movesRow_2 rfl rfl rfl ?_
    refine R_aloadq_n (pc' := 4) (i := 1) (j := 1) (q := l1) dX10_movesRow_3 rfl rfl rfl ?_
    refine R_alen (pc' := 5) (q := l1) dX10_movesRow_4 rfl (fun len1 => ?_)
    refine R_icmp_ge (pc' := 8) (tgt := 24) (a := l2) (b := len1) dX10_movesRow_5 (by decide) rfl ?_ ?_
    · exact R_vret dX10_movesRow_24
    · refine R_aloadq_n (pc' := 9) (i := 1) (j := 1) (q := l1) dX10_movesRow_8 rfl rfl rfl ?_
      refine R_iload_n (pc' := 10) (i := 2) (j := 2) (x := l2) dX10_movesRow_9 rfl rfl rfl ?_
      refine R_aloadq_n (pc' := 11) (i := 0) (j := 0) (q := (some this)) dX10_movesRow_10 rfl rfl rfl ?_
      refine R_aloadq_n (pc' := 12) (i := 1) (j := 1) (q := l1) dX10_movesRow_11 rfl rfl rfl ?_
      refine R_iload_n (pc' := 13) (i := 2) (j := 2) (x := l2) dX10_movesRow_12 rfl rfl rfl ?_
      refine R_iald (pc' := 14) (q := l1) (i := l2) dX10_movesRow_13 rfl (fun e2 => ?_)
      refine R_callV_I (pc' := 17) (q := (some this)) (As := [.int e2]) (fun o4 => rm_X10_moves o4 e2 M) mf_X10_moves lk_X10_400 im_X10_moves se_X10_moves rfl rfl rfl dX10_movesRow_14 rfl (by decide) (Nat.le_trans (c_I (c_R c_0)) (by decide)) (fun r3 M => ?_)
      refine R_iast (pc' := 18) (q := l1) (i := l2) (x := r3) dX10_movesRow_17 rfl (fun M => ?_)
      refine R_iinc (pc' := 21) (L' := [(2, .int (l2 + (nI 1))), (0, va_rf (some this)), (1, va_rf l1)]) (i := 2) (j := 2) (x := l2) (x2 := (l2 + (nI 1))) dX10_movesRow_18 rfl rfl rfl (by decide) (by simp [stL, rf_cat, cat_I, cat_L, cat_C]) ?_
      refine R_goto (tgt := 2) dX10_movesRow_21 (by decide) ?_
      exact R_sub [1, 2, 0] rfl (ih l1 (l2 + (nI 1)) M)
def f_X10_movesRow (this : Nat) (l1 : Option Nat) (M : Mem) : Option (Unit × Mem) :=
  f_X10_movesRow_L2 this FU l1 (nI 0) M
set_option maxHeartbeats 2000000 in
set_option maxRecDepth 20000 in
theorem rm_X10_movesRow (this : Nat) (l1 : Option Nat) (M : Mem) : RFm yX10_movesRow cX10_movesRow 3 none 2 eV (f_X10_movesRow this l1 M) [va_rf (some this), va_rf l1] M := by
  refine RFm_of (L := [(0, va_rf (some this)), (1, va_rf l1)]) (by decide) (by simp only [lva_R, lva_I, lva_L, lva_C, lva_0]) (Nat.le_trans (c_R (c_R c_0)) (by decide)) ?_
  rw [f_X10_movesRow]
  refine R_iconst (pc' := 1) (x := (nI 0)) dX10_movesRow_0 rfl (by decide) ?_
  refine R_istore_n (pc' := 2) (L' := [(2, .int (nI 0)), (0, va_rf (some this)), (1, va_rf l1)]) (i := 2) (x := (nI 0)) dX10_movesRow_1 rfl rfl (by decide) (by simp [stL, rf_cat, cat_I, cat_L, cat_C]) ?_
  exact R_sub [1, 2, 0] rfl (rf_X10_movesRow_L2 this FU l1 (nI 0) M)
/-! BarPilotModel.movesAll(IZ)V -/
def f_X10_movesAll (this : Nat) (l1 : Int32) (l2 : Int32) (M : Mem) : Option (Unit × Mem) :=
  (pI M 10 43 (some this) ((nI 20) * l1)).bind fun M =>
  ckZ l2 ((pI M 10 44 (some this) l2).bind fun M =>
  (gR M 10 1 (some this)).bind fun scalar1 =>
  (gR M 10 1 (some this)).bind fun scalar2 =>
  (aI M 0 scalar2 (nI 4)).bind fun e3 =>
  (oO M 10 (some this)).bind fun o19 => cl (f_X10_moves o19 e3 M) fun r4 M =>
  (wI M 0 scalar1 (nI 4) r4).bind fun M =>
  (gR M 10 1 (some this)).bind fun scalar5 =>
  (gR M 10 1 (some this)).bind fun scalar6 =>
  (aI M 0 scalar6 (nI 5)).bind fun e7 =>
  (oO M 10 (some this)).bind fun o18 => cl (f_X10_moves o18 e7 M) fun r8 M =>
  (wI M 0 scalar5 (nI 5) r8).bind fun M =>
  (gR M 10 5 (some this)).bind fun heard9 =>
  (oO M 10 (some this)).bind fun o17 => cl (f_X10_movesRow o17 heard9 M) fun u10 M =>
  (gR M 10 6 (some this)).bind fun knows11 =>
  (oO M 10 (some this)).bind fun o16 => cl (f_X10_movesRow o16 knows11 M) fun u12 M =>
  (gR M 10 7 (some this)).bind fun passed13 =>
  (oO M 10 (some this)).bind fun o15 => cl (f_X10_movesRow o15 passed13 M) fun u14 M =>
  some ((), M))
set_option maxHeartbeats 2000000 in
set_option maxRecDepth 20000 in
theorem rm_X10_movesAll (this : Nat) (l1 : Int32) (l2 : Int32) (M : Mem) : RFm yX10_movesAll cX10_movesAll 3 none 3 eV (f_X10_movesAll this l1 l2 M) [va_rf (some this), .int l1, .int l2] M := by
  refine RFm_of (L := [(0, va_rf (some this)), (1, .int l1), (2, .int l2)]) (by decide) rfl (Nat.le_trans (c_R (c_I (c_I c_0))) (by decide)) ?_
  rw [f_X10_movesAll]
  refine R_aloadq_n (pc' := 1) (i := 0) (j := 0) (q := (some this)) dX10_movesAll_0 rfl rfl rfl ?_
  refine R_bipush (pc' := 3) (x := (nI 20)) dX10_movesAll_1 rfl (by decide) ?_
  refine R_iload_n (pc' := 4) (i := 1) (j := 1) (x := l1) dX10_movesAll_3 rfl rfl rfl ?_
  refine R_imul (pc' := 5) (a := (nI 20)) (b := l1) dX10_movesAll_4 rfl ?_
  refine R_putI (pc' := 8) (q := (some this)) (x := ((nI 20) * l1)) fl_X10_397 (Or.inl rfl) dX10_movesAll_5 rfl (fun M => ?_)
  refine R_aloadq_n (pc' := 9) (i := 0) (j := 0) (q := (some this)) dX10_movesAll_8 rfl rfl rfl ?_
  refine R_iload_n (pc' := 10) (i := 2) (j := 2) (x := l2) dX10_movesAll_9 rfl rfl rfl ?_
  refine R_putZ (pc' := 13) (q := (some this)) (x := l2) fl_X10_393 (Or.inl rfl) dX10_movesAll_10 rfl (fun M => ?_)
  refine R_aloadq_n (pc' := 14) (i := 0) (j := 0) (q := (some this)) dX10_movesAll_13 rfl rfl rfl ?_
  refine R_getR (pc' := 17) (q := (some this)) fl_X10_9 rfl dX10_movesAll_14 rfl (fun scalar1 => ?_)
  refine R_iconst (pc' := 18) (x := (nI 4)) dX10_movesAll_17 rfl (by decide) ?_
  refine R_aloadq_n (pc' := 19) (i := 0) (j := 0) (q := (some this)) dX10_movesAll_18 rfl rfl rfl ?_
  refine R_aloadq_n (pc' := 20) (i := 0) (j := 0) (q := (some this)) dX10_movesAll_19 rfl rfl rfl ?_
  refine R_getR (pc' := 23) (q := (some this)) fl_X10_9 rfl dX10_movesAll_20 rfl (fun scalar2 => ?_)
  refine R_iconst (pc' := 24) (x := (nI 4)) dX10_movesAll_23 rfl (by decide) ?_
  refine R_iald (pc' := 25) (q := scalar2) (i := (nI 4)) dX10_movesAll_24 rfl (fun e3 => ?_)
  refine R_callV_I (pc' := 28) (q := (some this)) (As := [.int e3]) (fun o19 => rm_X10_moves o19 e3 M) mf_X10_moves lk_X10_400 im_X10_moves se_X10_moves rfl rfl rfl dX10_movesAll_25 rfl (by decide) (Nat.le_trans (c_I (c_R c_0)) (by decide)) (fun r4 M => ?_)
  refine R_iast (pc' := 29) (q := scalar1) (i := (nI 4)) (x := r4) dX10_movesAll_28 rfl (fun M => ?_)
  refine R_aloadq_n (pc' := 30) (i := 0) (j := 0) (q := (some this)) dX10_movesAll_29 rfl rfl rfl ?_
  refine R_getR (pc' := 33) (q := (some this)) fl_X10_9 rfl dX10_movesAll_30 rfl (fun scalar5 => ?_)
  refine R_iconst (pc' := 34) (x := (nI 5)) dX10_movesAll_33 rfl (by decide) ?_
  refine R_aloadq_n (pc' := 35) (i := 0) (j := 0) (q := (some this)) dX10_movesAll_34 rfl rfl rfl ?_
  refine R_aloadq_n (pc' := 36) (i := 0) (j := 0) (q := (some this)) dX10_movesAll_35 rfl rfl rfl ?_
  refine R_getR (pc' := 39) (q := (some this)) fl_X10_9 rfl dX10_movesAll_36 rfl (fun scalar6 => ?_)
  refine R_iconst (pc' := 40) (x := (nI 5)) dX10_movesAll_39 rfl (by decide) ?_
  refine R_iald (pc' := 41) (q := scalar6) (i := (nI 5)) dX10_movesAll_40 rfl (fun e7 => ?_)
  refine R_callV_I (pc' := 44) (q := (some this)) (As := [.int e7]) (fun o18 => rm_X10_moves o18 e7 M) mf_X10_moves lk_X10_400 im_X10_moves se_X10_moves rfl rfl rfl dX10_movesAll_41 rfl (by decide) (Nat.le_trans (c_I (c_R c_0)) (by decide)) (fun r8 M => ?_)
  refine R_iast (pc' := 45) (q := scalar5) (i := (nI 5)) (x := r8) dX10_movesAll_44 rfl (fun M => ?_)
  refine R_aloadq_n (pc' := 46) (i := 0) (j := 0) (q := (some this)) dX10_movesAll_45 rfl rfl rfl ?_
  refine R_aloadq_n (pc' := 47) (i := 0) (j := 0) (q := (some this)) dX10_movesAll_46 rfl rfl rfl ?_
  refine R_getR (pc' := 50) (q := (some this)) fl_X10_22 rfl dX10_movesAll_47 rfl (fun heard9 => ?_)
  refine R_callV_V (pc' := 53) (q := (some this)) (As := [va_rf heard9]) (fun o17 => rm_X10_movesRow o17 heard9 M) mf_X10_movesRow lk_X10_403 im_X10_movesRow se_X10_movesRow rfl rfl rfl dX10_movesAll_50 rfl (by decide) (Nat.le_trans c_0 (by decide)) (fun u10 M => ?_)
  refine R_aloadq_n (pc' := 54) (i := 0) (j := 0) (q := (some this)) dX10_movesAll_53 rfl rfl rfl ?_
  refine R_aloadq_n (pc' := 55) (i := 0) (j := 0) (q := (some this)) dX10_movesAll_54 rfl rfl rfl ?_
  refine R_getR (pc' := 58) (q := (some this)) fl_X10_25 rfl dX10_movesAll_55 rfl (fun knows11 => ?_)
  refine R_callV_V (pc' := 61) (q := (some this)) (As := [va_rf knows11]) (fun o16 => rm_X10_movesRow o16 knows11 M) mf_X10_movesRow lk_X10_403 im_X10_movesRow se_X10_movesRow rfl rfl rfl dX10_movesAll_58 rfl (by decide) (Nat.le_trans c_0 (by decide)) (fun u12 M => ?_)
  refine R_aloadq_n (pc' := 62) (i := 0) (j := 0) (q := (some this)) dX10_movesAll_61 rfl rfl rfl ?_
  refine R_aloadq_n (pc' := 63) (i := 0) (j := 0) (q := (some this)) dX10_movesAll_62 rfl rfl rfl ?_
  refine R_getR (pc' := 66) (q := (some this)) fl_X10_28 rfl dX10_movesAll_63 rfl (fun passed13 => ?_)
  refine R_callV_V (pc' := 69) (q := (some this)) (As := [va_rf passed13]) (fun o15 => rm_X10_movesRow o15 passed13 M) mf_X10_movesRow lk_X10_403 im_X10_movesRow se_X10_movesRow rfl rfl rfl dX10_movesAll_66 rfl (by decide) (Nat.le_trans c_0 (by decide)) (fun u14 M => ?_)
  exact R_vret dX10_movesAll_69
/-! BarPilotModel.keepsAct()V -/
def f_X10_keepsAct_J50 (this : Nat) (M : Mem) : Option (Unit × Mem) :=
  (gI M 10 42 (some this)).bind fun pastMany1 =>
  (oO M 10 (some this)).bind fun o4 => cl (f_X10_movesAll o4 pastMany1 (nI 0) M) fun u2 M =>
  (gI M 10 42 (some this)).bind fun pastMany3 =>
  (pI M 10 42 (some this) (pastMany3 + (nI 1))).bind fun M =>
  some ((), M)
set_option maxHeartbeats 2000000 in
set_option maxRecDepth 20000 in
theorem rf_X10_keepsAct_J50 (this : Nat) (M : Mem) : RF yX10_keepsAct cX10_keepsAct 2 none 4 eV (f_X10_keepsAct_J50 this M) 50 [(0, va_rf (some this))] [] M := by
  rw [f_X10_keepsAct_J50]
  refine R_aloadq_n (pc' := 51) (i := 0) (j := 0) (q := (some this)) dX10_keepsAct_50 rfl rfl rfl ?_
  refine R_aloadq_n (pc' := 52) (i := 0) (j := 0) (q := (some this)) dX10_keepsAct_51 rfl rfl rfl ?_
  refine R_getI (pc' := 55) (q := (some this)) fl_X10_299 rfl dX10_keepsAct_52 rfl (fun pastMany1 => ?_)
  refine R_iconst (pc' := 56) (x := (nI 0)) dX10_keepsAct_55 rfl (by decide) ?_
  refine R_callV_V (pc' := 59) (q := (some this)) (As := [.int pastMany1, .int (nI 0)]) (fun o4 => rm_X10_movesAll o4 pastMany1 (nI 0) M) mf_X10_movesAll lk_X10_407 im_X10_movesAll se_X10_movesAll rfl rfl rfl dX10_keepsAct_56 rfl (by decide) (Nat.le_trans c_0 (by decide)) (fun u2 M => ?_)
  refine R_aloadq_n (pc' := 60) (i := 0) (j := 0) (q := (some this)) dX10_keepsAct_59 rfl rfl rfl ?_
  refine R_dup (pc' := 61) dX10_keepsAct_60 rfl (rf_cat _) ?_
  refine R_getI (pc' := 64) (q := (some this)) fl_X10_299 rfl dX10_keepsAct_61 rfl (fun pastMany3 => ?_)
  refine R_iconst (pc' := 65) (x := (nI 1)) dX10_keepsAct_64 rfl (by decide) ?_
  refine R_iadd (pc' := 66) (a := pastMany3) (b := (nI 1)) dX10_keepsAct_65 rfl ?_
  refine R_putI (pc' := 69) (q := (some this)) (x := (pastMany3 + (nI 1))) fl_X10_299 (Or.inl rfl) dX10_keepsAct_66 rfl (fun M => ?_)
  exact R_vret dX10_keepsAct_69
def f_X10_keepsAct_L12 (this : Nat) : Nat → Int32 → Mem → Option (Unit × Mem)
  | 0, _, _ => none
  | n + 1, l1, M =>
    (if (nI 400) ≤ l1 then
      ((gI M 10 42 (some this)).bind fun pastMany1 =>
      (pI M 10 42 (some this) (pastMany1 - (nI 1))).bind fun M =>
      f_X10_keepsAct_J50 this M)
    else
      ((gR M 10 40 (some this)).bind fun past2 =>
      (gR M 10 40 (some this)).bind fun past3 =>
      (aI M 0 past3 l1).bind fun e4 =>
      (wI M 0 past2 (l1 - (nI 20)) e4).bind fun M =>
      (f_X10_keepsAct_L12 this n) (l1 + (nI 1)) M))
set_option maxHeartbeats 2000000 in
set_option maxRecDepth 20000 in
theorem rf_X10_keepsAct_L12 (this : Nat) : ∀ (n : Nat) (l1 : Int32) (M : Mem), RF yX10_keepsAct cX10_keepsAct 2 none 4 eV (f_X10_keepsAct_L12 this n l1 M) 12 [(0, va_rf (some this)), (1, .int l1)] [] M := by
  intro n
  induction n with
  | zero => intro _ _; exact RF.none
  | succ n ih =>
    intro l1 M
    rw [f_X10_keepsAct_L12]
    refine R_iload_n (pc' := 13) (i := 1) (j := 1) (x := l1) dX10_keepsAct_12 rfl rfl rfl ?_
    refine R_sipush (pc' := 16) (x := (nI 400)) dX10_keepsAct_13 rfl (by decide) ?_
    refine R_icmp_ge (pc' := 19) (tgt := 40) (a := l1) (b := (nI 400)) dX10_keepsAct_16 (by decide) rfl ?_ ?_
    · refine R_aloadq_n (pc' := 41) (i := 0) (j := 0) (q := (some this)) dX10_keepsAct_40 rfl rfl rfl ?_
      refine R_dup (pc' := 42) dX10_keepsAct_41 rfl (rf_cat _) ?_
      refine R_getI (pc' := 45) (q := (some this)) fl_X10_299 rfl dX10_keepsAct_42 rfl (fun pastMany1 => ?_)
      refine R_iconst (pc' := 46) (x := (nI 1)) dX10_keepsAct_45 rfl (by decide) ?_
      refine R_isub (pc' := 47) (a := pastMany1) (b := (nI 1)) dX10_keepsAct_46 rfl ?_
      refine R_putI (pc' := 50) (q := (some this)) (x := (pastMany1 - (nI 1))) fl_X10_299 (Or.inl rfl) dX10_keepsAct_47 rfl (fun M => ?_)
      exact R_sub [0] rfl (rf_X10_keepsAct_J50 this M)
    · refine R_aloadq_n (pc' := 20) (i := 0) (j := 0) (q := (some this)) dX10_keepsAct_19 rfl rfl rfl ?_
      refine R_getR (pc' := 23) (q := (some this)) fl_X10_100 rfl dX10_keepsAct_20 rfl (fun past2 => ?_)
      refine R_iload_n (pc' := 24) (i := 1) (j := 1) (x := l1) dX10_keepsAct_23 rfl rfl rfl ?_
      refine R_bipush (pc' := 26) (x := (nI 20)) dX10_keepsAct_24 rfl (by decide) ?_
      refine R_isub (pc' := 27) (a := l1) (b := (nI 20)) dX10_keepsAct_26 rfl ?_
      refine R_aloadq_n (pc' := 28) (i := 0) (j := 0) (q := (some this)) dX10_keepsAct_27 rfl rfl rfl ?_
      refine R_getR (pc' := 31) (q := (some this)) fl_X10_100 rfl dX10_keepsAct_28 rfl (fun past3 => ?_)
      refine R_iload_n (pc' := 32) (i := 1) (j := 1) (x := l1) dX10_keepsAct_31 rfl rfl rfl ?_
      refine R_iald (pc' := 33) (q := past3) (i := l1) dX10_keepsAct_32 rfl (fun e4 => ?_)
      refine R_iast (pc' := 34) (q := past2) (i := (l1 - (nI 20))) (x := e4) dX10_keepsAct_33 rfl (fun M => ?_)
      refine R_iinc (pc' := 37) (L' := [(1, .int (l1 + (nI 1))), (0, va_rf (some this))]) (i := 1) (j := 1) (x := l1) (x2 := (l1 + (nI 1))) dX10_keepsAct_34 rfl rfl rfl (by decide) rfl ?_
      refine R_goto (tgt := 12) dX10_keepsAct_37 (by decide) ?_
      exact R_sub [1, 0] rfl (ih (l1 + (nI 1)) M)
def f_X10_keepsAct (this : Nat) (M : Mem) : Option (Unit × Mem) :=
  (gI M 10 42 (some this)).bind fun pastMany1 =>
  (if pastMany1 = (nI 20) then
    (f_X10_keepsAct_L12 this FU (nI 20) M)
  else
    (f_X10_keepsAct_J50 this M))
set_option maxHeartbeats 2000000 in
set_option maxRecDepth 20000 in
theorem rm_X10_keepsAct (this : Nat) (M : Mem) : RFm yX10_keepsAct cX10_keepsAct 2 none 4 eV (f_X10_keepsAct this M) [va_rf (some this)] M := by
  refine RFm_of (L := [(0, va_rf (some this))]) (by decide) rfl (Nat.le_trans (c_R c_0) (by decide)) ?_
  rw [f_X10_keepsAct]
  refine R_aloadq_n (pc' := 1) (i := 0) (j := 0) (q := (some this)) dX10_keepsAct_0 rfl rfl rfl ?_
  refine R_getI (pc' := 4) (q := (some this)) fl_X10_299 rfl dX10_keepsAct_1 rfl (fun pastMany1 => ?_)
  refine R_bipush (pc' := 6) (x := (nI 20)) dX10_keepsAct_4 rfl (by decide) ?_
  refine R_icmp_ne (pc' := 9) (tgt := 50) (a := pastMany1) (b := (nI 20)) dX10_keepsAct_6 (by decide) rfl ?_ ?_
  · exact R_sub [0] rfl (rf_X10_keepsAct_J50 this M)
  · refine R_bipush (pc' := 11) (x := (nI 20)) dX10_keepsAct_9 rfl (by decide) ?_
    refine R_istore_n (pc' := 12) (L' := [(1, .int (nI 20)), (0, va_rf (some this))]) (i := 1) (x := (nI 20)) dX10_keepsAct_11 rfl rfl (by decide) rfl ?_
    exact R_sub [1, 0] rfl (rf_X10_keepsAct_L12 this FU (nI 20) M)
/-! BarPilotModel.undo()I -/
def f_X10_undo (this : Nat) (M : Mem) : Option (Int32 × Mem) :=
  (gI M 10 42 (some this)).bind fun pastMany1 =>
  (if pastMany1 = 0 then
    (some ((-2 : Int32), M))
  else
    ((gI M 10 42 (some this)).bind fun pastMany2 =>
    (pI M 10 42 (some this) (pastMany2 - (nI 1))).bind fun M =>
    (gI M 10 42 (some this)).bind fun pastMany3 =>
    (oO M 10 (some this)).bind fun o6 => cl (f_X10_movesAll o6 pastMany3 (nI 1) M) fun u4 M =>
    (gI M 10 42 (some this)).bind fun pastMany5 =>
    some (pastMany5, M)))
set_option maxHeartbeats 2000000 in
set_option maxRecDepth 20000 in
theorem rm_X10_undo (this : Nat) (M : Mem) : RFm yX10_undo cX10_undo 1 (some .int) 4 eI (f_X10_undo this M) [va_rf (some this)] M := by
  refine RFm_of (L := [(0, va_rf (some this))]) (by decide) rfl (Nat.le_trans (c_R c_0) (by decide)) ?_
  rw [f_X10_undo]
  refine R_aloadq_n (pc' := 1) (i := 0) (j := 0) (q := (some this)) dX10_undo_0 rfl rfl rfl ?_
  refine R_getI (pc' := 4) (q := (some this)) fl_X10_299 rfl dX10_undo_1 rfl (fun pastMany1 => ?_)
  refine R_if_ne (pc' := 7) (tgt := 10) (a := pastMany1) dX10_undo_4 (by decide) rfl ?_ ?_
  · refine R_aloadq_n (pc' := 11) (i := 0) (j := 0) (q := (some this)) dX10_undo_10 rfl rfl rfl ?_
    refine R_dup (pc' := 12) dX10_undo_11 rfl (rf_cat _) ?_
    refine R_getI (pc' := 15) (q := (some this)) fl_X10_299 rfl dX10_undo_12 rfl (fun pastMany2 => ?_)
    refine R_iconst (pc' := 16) (x := (nI 1)) dX10_undo_15 rfl (by decide) ?_
    refine R_isub (pc' := 17) (a := pastMany2) (b := (nI 1)) dX10_undo_16 rfl ?_
    refine R_putI (pc' := 20) (q := (some this)) (x := (pastMany2 - (nI 1))) fl_X10_299 (Or.inl rfl) dX10_undo_17 rfl (fun M => ?_)
    refine R_aloadq_n (pc' := 21) (i := 0) (j := 0) (q := (some this)) dX10_undo_20 rfl rfl rfl ?_
    refine R_aloadq_n (pc' := 22) (i := 0) (j := 0) (q := (some this)) dX10_undo_21 rfl rfl rfl ?_
    refine R_getI (pc' := 25) (q := (some this)) fl_X10_299 rfl dX10_undo_22 rfl (fun pastMany3 => ?_)
    refine R_iconst (pc' := 26) (x := (nI 1)) dX10_undo_25 rfl (by decide) ?_
    refine R_callV_V (pc' := 29) (q := (some this)) (As := [.int pastMany3, .int (nI 1)]) (fun o6 => rm_X10_movesAll o6 pastMany3 (nI 1) M) mf_X10_movesAll lk_X10_407 im_X10_movesAll se_X10_movesAll rfl rfl rfl dX10_undo_26 rfl (by decide) (Nat.le_trans c_0 (by decide)) (fun u4 M => ?_)
    refine R_aloadq_n (pc' := 30) (i := 0) (j := 0) (q := (some this)) dX10_undo_29 rfl rfl rfl ?_
    refine R_getI (pc' := 33) (q := (some this)) fl_X10_299 rfl dX10_undo_30 rfl (fun pastMany5 => ?_)
    exact R_iret dX10_undo_33
  · refine R_bipush (pc' := 9) (x := (-2 : Int32)) dX10_undo_7 rfl (by decide) ?_
    exact R_iret dX10_undo_9
/-! BarPilotModel.tide()I -/
def f_X10_tide_J19 (this : Nat) (M : Mem) : Option (Int32 × Mem) :=
  some ((-1 : Int32), M)
set_option maxHeartbeats 2000000 in
set_option maxRecDepth 20000 in
theorem rf_X10_tide_J19 (this : Nat) (M : Mem) : RF yX10_tide cX10_tide 1 (some .int) 10 eI (f_X10_tide_J19 this M) 19 [] [] M := by
  rw [f_X10_tide_J19]
  refine R_iconst (pc' := 20) (x := (-1 : Int32)) dX10_tide_19 rfl (by decide) ?_
  exact R_iret dX10_tide_20
def f_X10_tide (this : Nat) (M : Mem) : Option (Int32 × Mem) :=
  (oO M 10 (some this)).bind fun o8 => cl (f_X10_isBar o8 M) fun r1 M =>
  (if r1 = 0 then
    (f_X10_tide_J19 this M)
  else
    ((gR M 10 1 (some this)).bind fun scalar2 =>
    (aI M 0 scalar2 (nI 4)).bind fun e3 =>
    (if e3 = (nI 999) then
      (f_X10_tide_J19 this M)
    else
      ((oO M 10 (some this)).bind fun o7 => cl (f_X10_keepsAct o7 M) fun u4 M =>
      (oO M 10 (some this)).bind fun o6 => cl (f_X10_goes o6 M) fun r5 M =>
      some (r5, M)))))
set_option maxHeartbeats 2000000 in
set_option maxRecDepth 20000 in
theorem rm_X10_tide (this : Nat) (M : Mem) : RFm yX10_tide cX10_tide 1 (some .int) 10 eI (f_X10_tide this M) [va_rf (some this)] M := by
  refine RFm_of (L := [(0, va_rf (some this))]) (by decide) rfl (Nat.le_trans (c_R c_0) (by decide)) ?_
  rw [f_X10_tide]
  refine R_aloadq_n (pc' := 1) (i := 0) (j := 0) (q := (some this)) dX10_tide_0 rfl rfl rfl ?_
  refine R_callV_I (pc' := 4) (q := (some this)) (As := []) (fun o8 => rm_X10_isBar o8 M) mf_X10_isBar lk_X10_411 im_X10_isBar se_X10_isBar rfl rfl rfl dX10_tide_1 rfl (by decide) (Nat.le_trans c_0 (by decide)) (fun r1 M => ?_)
  refine R_if_eq (pc' := 7) (tgt := 19) (a := r1) dX10_tide_4 (by decide) rfl ?_ ?_
  · exact R_sub [] rfl (rf_X10_tide_J19 this M)
  · refine R_aloadq_n (pc' := 8) (i := 0) (j := 0) (q := (some this)) dX10_tide_7 rfl rfl rfl ?_
    refine R_getR (pc' := 11) (q := (some this)) fl_X10_9 rfl dX10_tide_8 rfl (fun scalar2 => ?_)
    refine R_iconst (pc' := 12) (x := (nI 4)) dX10_tide_11 rfl (by decide) ?_
    refine R_iald (pc' := 13) (q := scalar2) (i := (nI 4)) dX10_tide_12 rfl (fun e3 => ?_)
    refine R_sipush (pc' := 16) (x := (nI 999)) dX10_tide_13 rfl (by decide) ?_
    refine R_icmp_ne (pc' := 19) (tgt := 21) (a := e3) (b := (nI 999)) dX10_tide_16 (by decide) rfl ?_ ?_
    · refine R_aloadq_n (pc' := 22) (i := 0) (j := 0) (q := (some this)) dX10_tide_21 rfl rfl rfl ?_
      refine R_callV_V (pc' := 25) (q := (some this)) (As := []) (fun o7 => rm_X10_keepsAct o7 M) mf_X10_keepsAct lk_X10_414 im_X10_keepsAct se_X10_keepsAct rfl rfl rfl dX10_tide_22 rfl (by decide) (Nat.le_trans c_0 (by decide)) (fun u4 M => ?_)
      refine R_aloadq_n (pc' := 26) (i := 0) (j := 0) (q := (some this)) dX10_tide_25 rfl rfl rfl ?_
      refine R_callV_I (pc' := 29) (q := (some this)) (As := []) (fun o6 => rm_X10_goes o6 M) mf_X10_goes lk_X10_390 im_X10_goes se_X10_goes rfl rfl rfl dX10_tide_26 rfl (by decide) (Nat.le_trans c_0 (by decide)) (fun r5 M => ?_)
      exact R_iret dX10_tide_29
    · exact R_sub [] rfl (rf_X10_tide_J19 this M)
/-! BarPilotModel.say(II)I -/
def f_X10_say_J29 (this : Nat) (M : Mem) : Option (Int32 × Mem) :=
  some ((-1 : Int32), M)
set_option maxHeartbeats 2000000 in
set_option maxRecDepth 20000 in
theorem rf_X10_say_J29 (this : Nat) (M : Mem) : RF yX10_say cX10_say 3 (some .int) 5 eI (f_X10_say_J29 this M) 29 [] [] M := by
  rw [f_X10_say_J29]
  refine R_iconst (pc' := 30) (x := (-1 : Int32)) dX10_say_29 rfl (by decide) ?_
  exact R_iret dX10_say_30
def f_X10_say_J49 (this : Nat) (s0 : Int32) (M : Mem) : Option (Int32 × Mem) :=
  some (s0, M)
set_option maxHeartbeats 2000000 in
set_option maxRecDepth 20000 in
theorem rf_X10_say_J49 (this : Nat) (s0 : Int32) (M : Mem) : RF yX10_say cX10_say 3 (some .int) 5 eI (f_X10_say_J49 this s0 M) 49 [] [.int s0] M := by
  rw [f_X10_say_J49]
  exact R_iret dX10_say_49
def f_X10_say (this : Nat) (l1 : Int32) (l2 : Int32) (M : Mem) : Option (Int32 × Mem) :=
  (oO M 10 (some this)).bind fun o11 => cl (f_X10_waits o11 l1 M) fun r1 M =>
  (if r1 = 0 then
    (f_X10_say_J29 this M)
  else
    ((oO M 10 (some this)).bind fun o10 => cl (f_X10_isJoke o10 l2 M) fun r2 M =>
    (if r2 = 0 then
      (f_X10_say_J29 this M)
    else
      ((gR M 10 6 (some this)).bind fun knows3 =>
      (aI M 0 knows3 l1).bind fun e4 =>
      cl (f_X10_has e4 l2 M) fun r5 M =>
      (if r5 = 0 then
        (f_X10_say_J29 this M)
      else
        ((oO M 10 (some this)).bind fun o9 => cl (f_X10_keepsAct o9 M) fun u6 M =>
        (oO M 10 (some this)).bind fun o8 => cl (f_X10_tells o8 l1 l2 M) fun r7 M =>
        (if r7 = 0 then
          (f_X10_say_J49 this (nI 0) M)
        else
          (f_X10_say_J49 this (nI 1) M))))))))
set_option maxHeartbeats 2000000 in
set_option maxRecDepth 20000 in
theorem rm_X10_say (this : Nat) (l1 : Int32) (l2 : Int32) (M : Mem) : RFm yX10_say cX10_say 3 (some .int) 5 eI (f_X10_say this l1 l2 M) [va_rf (some this), .int l1, .int l2] M := by
  refine RFm_of (L := [(0, va_rf (some this)), (1, .int l1), (2, .int l2)]) (by decide) rfl (Nat.le_trans (c_R (c_I (c_I c_0))) (by decide)) ?_
  rw [f_X10_say]
  refine R_aloadq_n (pc' := 1) (i := 0) (j := 0) (q := (some this)) dX10_say_0 rfl rfl rfl ?_
  refine R_iload_n (pc' := 2) (i := 1) (j := 1) (x := l1) dX10_say_1 rfl rfl rfl ?_
  refine R_callV_I (pc' := 5) (q := (some this)) (As := [.int l1]) (fun o11 => rm_X10_waits o11 l1 M) mf_X10_waits lk_X10_350 im_X10_waits se_X10_waits rfl rfl rfl dX10_say_2 rfl (by decide) (Nat.le_trans c_0 (by decide)) (fun r1 M => ?_)
  refine R_if_eq (pc' := 8) (tgt := 29) (a := r1) dX10_say_5 (by decide) rfl ?_ ?_
  · exact R_sub [] rfl (rf_X10_say_J29 this M)
  · refine R_aloadq_n (pc' := 9) (i := 0) (j := 0) (q := (some this)) dX10_say_8 rfl rfl rfl ?_
    refine R_iload_n (pc' := 10) (i := 2) (j := 2) (x := l2) dX10_say_9 rfl rfl rfl ?_
    refine R_callV_I (pc' := 13) (q := (some this)) (As := [.int l2]) (fun o10 => rm_X10_isJoke o10 l2 M) mf_X10_isJoke lk_X10_341 im_X10_isJoke se_X10_isJoke rfl rfl rfl dX10_say_10 rfl (by decide) (Nat.le_trans c_0 (by decide)) (fun r2 M => ?_)
    refine R_if_eq (pc' := 16) (tgt := 29) (a := r2) dX10_say_13 (by decide) rfl ?_ ?_
    · exact R_sub [] rfl (rf_X10_say_J29 this M)
    · refine R_aloadq_n (pc' := 17) (i := 0) (j := 0) (q := (some this)) dX10_say_16 rfl rfl rfl ?_
      refine R_getR (pc' := 20) (q := (some this)) fl_X10_25 rfl dX10_say_17 rfl (fun knows3 => ?_)
      refine R_iload_n (pc' := 21) (i := 1) (j := 1) (x := l1) dX10_say_20 rfl rfl rfl ?_
      refine R_iald (pc' := 22) (q := knows3) (i := l1) dX10_say_21 rfl (fun e4 => ?_)
      refine R_iload_n (pc' := 23) (i := 2) (j := 2) (x := l2) dX10_say_22 rfl rfl rfl ?_
      refine R_callS_I (pc' := 26) (As := [.int e4, .int l2]) (rm_X10_has e4 l2 M) mf_X10_has lk_X10_353 sm_X10_has rfl rfl dX10_say_23 rfl (by decide) (Nat.le_trans c_0 (by decide)) (fun r5 M => ?_)
      refine R_if_ne (pc' := 29) (tgt := 31) (a := r5) dX10_say_26 (by decide) rfl ?_ ?_
      · refine R_aloadq_n (pc' := 32) (i := 0) (j := 0) (q := (some this)) dX10_say_31 rfl rfl rfl ?_
        refine R_callV_V (pc' := 35) (q := (some this)) (As := []) (fun o9 => rm_X10_keepsAct o9 M) mf_X10_keepsAct lk_X10_414 im_X10_keepsAct se_X10_keepsAct rfl rfl rfl dX10_say_32 rfl (by decide) (Nat.le_trans c_0 (by decide)) (fun u6 M => ?_)
        refine R_aloadq_n (pc' := 36) (i := 0) (j := 0) (q := (some this)) dX10_say_35 rfl rfl rfl ?_
        refine R_iload_n (pc' := 37) (i := 1) (j := 1) (x := l1) dX10_say_36 rfl rfl rfl ?_
        refine R_iload_n (pc' := 38) (i := 2) (j := 2) (x := l2) dX10_say_37 rfl rfl rfl ?_
        refine R_callV_I (pc' := 41) (q := (some this)) (As := [.int l1, .int l2]) (fun o8 => rm_X10_tells o8 l1 l2 M) mf_X10_tells lk_X10_387 im_X10_tells se_X10_tells rfl rfl rfl dX10_say_38 rfl (by decide) (Nat.le_trans c_0 (by decide)) (fun r7 M => ?_)
        refine R_if_eq (pc' := 44) (tgt := 48) (a := r7) dX10_say_41 (by decide) rfl ?_ ?_
        · refine R_iconst (pc' := 49) (x := (nI 0)) dX10_say_48 rfl (by decide) ?_
          exact R_sub [] rfl (rf_X10_say_J49 this (nI 0) M)
        · refine R_iconst (pc' := 45) (x := (nI 1)) dX10_say_44 rfl (by decide) ?_
          refine R_goto (tgt := 49) dX10_say_45 (by decide) ?_
          exact R_sub [] rfl (rf_X10_say_J49 this (nI 1) M)
      · exact R_sub [] rfl (rf_X10_say_J29 this M)
/-! BarPilotModel.trade(II)I -/
def f_X10_trade_J31 (this : Nat) (M : Mem) : Option (Int32 × Mem) :=
  some ((-1 : Int32), M)
set_option maxHeartbeats 2000000 in
set_option maxRecDepth 20000 in
theorem rf_X10_trade_J31 (this : Nat) (M : Mem) : RF yX10_trade cX10_trade 3 (some .int) 5 eI (f_X10_trade_J31 this M) 31 [] [] M := by
  rw [f_X10_trade_J31]
  refine R_iconst (pc' := 32) (x := (-1 : Int32)) dX10_trade_31 rfl (by decide) ?_
  exact R_iret dX10_trade_32
def f_X10_trade (this : Nat) (l1 : Int32) (l2 : Int32) (M : Mem) : Option (Int32 × Mem) :=
  (oO M 10 (some this)).bind fun o19 => cl (f_X10_waits o19 l1 M) fun r1 M =>
  (if r1 = 0 then
    (f_X10_trade_J31 this M)
  else
    ((oO M 10 (some this)).bind fun o18 => cl (f_X10_waits o18 l2 M) fun r2 M =>
    (if r2 = 0 then
      (f_X10_trade_J31 this M)
    else
      ((gR M 10 6 (some this)).bind fun knows3 =>
      (aI M 0 knows3 l1).bind fun e4 =>
      (gR M 10 6 (some this)).bind fun knows5 =>
      (aI M 0 knows5 l2).bind fun e6 =>
      (if e4 = e6 then
        (f_X10_trade_J31 this M)
      else
        ((oO M 10 (some this)).bind fun o17 => cl (f_X10_keepsAct o17 M) fun u7 M =>
        (gR M 10 6 (some this)).bind fun knows8 =>
        (aI M 0 knows8 l1).bind fun e9 =>
        (gR M 10 6 (some this)).bind fun knows10 =>
        (aI M 0 knows10 l2).bind fun e11 =>
        (wI M 0 knows8 l1 (e9 ||| e11)).bind fun M =>
        (gR M 10 6 (some this)).bind fun knows12 =>
        (gR M 10 6 (some this)).bind fun knows13 =>
        (aI M 0 knows13 l1).bind fun e14 =>
        (wI M 0 knows12 l2 e14).bind fun M =>
        (gR M 10 6 (some this)).bind fun knows15 =>
        (aI M 0 knows15 l1).bind fun e16 =>
        some (e16, M)))))))
set_option maxHeartbeats 2000000 in
set_option maxRecDepth 20000 in
theorem rm_X10_trade (this : Nat) (l1 : Int32) (l2 : Int32) (M : Mem) : RFm yX10_trade cX10_trade 3 (some .int) 5 eI (f_X10_trade this l1 l2 M) [va_rf (some this), .int l1, .int l2] M := by
  refine RFm_of (L := [(0, va_rf (some this)), (1, .int l1), (2, .int l2)]) (by decide) rfl (Nat.le_trans (c_R (c_I (c_I c_0))) (by decide)) ?_
  rw [f_X10_trade]
  refine R_aloadq_n (pc' := 1) (i := 0) (j := 0) (q := (some this)) dX10_trade_0 rfl rfl rfl ?_
  refine R_iload_n (pc' := 2) (i := 1) (j := 1) (x := l1) dX10_trade_1 rfl rfl rfl ?_
  refine R_callV_I (pc' := 5) (q := (some this)) (As := [.int l1]) (fun o19 => rm_X10_waits o19 l1 M) mf_X10_waits lk_X10_350 im_X10_waits se_X10_waits rfl rfl rfl dX10_trade_2 rfl (by decide) (Nat.le_trans c_0 (by decide)) (fun r1 M => ?_)
  refine R_if_eq (pc' := 8) (tgt := 31) (a := r1) dX10_trade_5 (by decide) rfl ?_ ?_
  · exact R_sub [] rfl (rf_X10_trade_J31 this M)
  · refine R_aloadq_n (pc' := 9) (i := 0) (j := 0) (q := (some this)) dX10_trade_8 rfl rfl rfl ?_
    refine R_iload_n (pc' := 10) (i := 2) (j := 2) (x := l2) dX10_trade_9 rfl rfl rfl ?_
    refine R_callV_I (pc' := 13) (q := (some this)) (As := [.int l2]) (fun o18 => rm_X10_waits o18 l2 M) mf_X10_waits lk_X10_350 im_X10_waits se_X10_waits rfl rfl rfl dX10_trade_10 rfl (by decide) (Nat.le_trans c_0 (by decide)) (fun r2 M => ?_)
    refine R_if_eq (pc' := 16) (tgt := 31) (a := r2) dX10_trade_13 (by decide) rfl ?_ ?_
    · exact R_sub [] rfl (rf_X10_trade_J31 this M)
    · refine R_aloadq_n (pc' := 17) (i := 0) (j := 0) (q := (some this)) dX10_trade_16 rfl rfl rfl ?_
      refine R_getR (pc' := 20) (q := (some this)) fl_X10_25 rfl dX10_trade_17 rfl (fun knows3 => ?_)
      refine R_iload_n (pc' := 21) (i := 1) (j := 1) (x := l1) dX10_trade_20 rfl rfl rfl ?_
      refine R_iald (pc' := 22) (q := knows3) (i := l1) dX10_trade_21 rfl (fun e4 => ?_)
      refine R_aloadq_n (pc' := 23) (i := 0) (j := 0) (q := (some this)) dX10_trade_22 rfl rfl rfl ?_
      refine R_getR (pc' := 26) (q := (some this)) fl_X10_25 rfl dX10_trade_23 rfl (fun knows5 => ?_)
      refine R_iload_n (pc' := 27) (i := 2) (j := 2) (x := l2) dX10_trade_26 rfl rfl rfl ?_
      refine R_iald (pc' := 28) (q := knows5) (i := l2) dX10_trade_27 rfl (fun e6 => ?_)
      refine R_icmp_ne (pc' := 31) (tgt := 33) (a := e4) (b := e6) dX10_trade_28 (by decide) rfl ?_ ?_
      · refine R_aloadq_n (pc' := 34) (i := 0) (j := 0) (q := (some this)) dX10_trade_33 rfl rfl rfl ?_
        refine R_callV_V (pc' := 37) (q := (some this)) (As := []) (fun o17 => rm_X10_keepsAct o17 M) mf_X10_keepsAct lk_X10_414 im_X10_keepsAct se_X10_keepsAct rfl rfl rfl dX10_trade_34 rfl (by decide) (Nat.le_trans c_0 (by decide)) (fun u7 M => ?_)
        refine R_aloadq_n (pc' := 38) (i := 0) (j := 0) (q := (some this)) dX10_trade_37 rfl rfl rfl ?_
        refine R_getR (pc' := 41) (q := (some this)) fl_X10_25 rfl dX10_trade_38 rfl (fun knows8 => ?_)
        refine R_iload_n (pc' := 42) (i := 1) (j := 1) (x := l1) dX10_trade_41 rfl rfl rfl ?_
        refine R_dup2 (pc' := 43) dX10_trade_42 rfl rfl (rf_cat _) ?_
        refine R_iald (pc' := 44) (q := knows8) (i := l1) dX10_trade_43 rfl (fun e9 => ?_)
        refine R_aloadq_n (pc' := 45) (i := 0) (j := 0) (q := (some this)) dX10_trade_44 rfl rfl rfl ?_
        refine R_getR (pc' := 48) (q := (some this)) fl_X10_25 rfl dX10_trade_45 rfl (fun knows10 => ?_)
        refine R_iload_n (pc' := 49) (i := 2) (j := 2) (x := l2) dX10_trade_48 rfl rfl rfl ?_
        refine R_iald (pc' := 50) (q := knows10) (i := l2) dX10_trade_49 rfl (fun e11 => ?_)
        refine R_ior (pc' := 51) (a := e9) (b := e11) dX10_trade_50 rfl ?_
        refine R_iast (pc' := 52) (q := knows8) (i := l1) (x := (e9 ||| e11)) dX10_trade_51 rfl (fun M => ?_)
        refine R_aloadq_n (pc' := 53) (i := 0) (j := 0) (q := (some this)) dX10_trade_52 rfl rfl rfl ?_
        refine R_getR (pc' := 56) (q := (some this)) fl_X10_25 rfl dX10_trade_53 rfl (fun knows12 => ?_)
        refine R_iload_n (pc' := 57) (i := 2) (j := 2) (x := l2) dX10_trade_56 rfl rfl rfl ?_
        refine R_aloadq_n (pc' := 58) (i := 0) (j := 0) (q := (some this)) dX10_trade_57 rfl rfl rfl ?_
        refine R_getR (pc' := 61) (q := (some this)) fl_X10_25 rfl dX10_trade_58 rfl (fun knows13 => ?_)
        refine R_iload_n (pc' := 62) (i := 1) (j := 1) (x := l1) dX10_trade_61 rfl rfl rfl ?_
        refine R_iald (pc' := 63) (q := knows13) (i := l1) dX10_trade_62 rfl (fun e14 => ?_)
        refine R_iast (pc' := 64) (q := knows12) (i := l2) (x := e14) dX10_trade_63 rfl (fun M => ?_)
        refine R_aloadq_n (pc' := 65) (i := 0) (j := 0) (q := (some this)) dX10_trade_64 rfl rfl rfl ?_
        refine R_getR (pc' := 68) (q := (some this)) fl_X10_25 rfl dX10_trade_65 rfl (fun knows15 => ?_)
        refine R_iload_n (pc' := 69) (i := 1) (j := 1) (x := l1) dX10_trade_68 rfl rfl rfl ?_
        refine R_iald (pc' := 70) (q := knows15) (i := l1) dX10_trade_69 rfl (fun e16 => ?_)
        exact R_iret dX10_trade_70
      · exact R_sub [] rfl (rf_X10_trade_J31 this M)
/-! BarPilotModel.coin(II)I -/
def f_X10_coin_J29 (this : Nat) (M : Mem) : Option (Int32 × Mem) :=
  some ((-1 : Int32), M)
set_option maxHeartbeats 2000000 in
set_option maxRecDepth 20000 in
theorem rf_X10_coin_J29 (this : Nat) (M : Mem) : RF yX10_coin cX10_coin 3 (some .int) 5 eI (f_X10_coin_J29 this M) 29 [] [] M := by
  rw [f_X10_coin_J29]
  refine R_iconst (pc' := 30) (x := (-1 : Int32)) dX10_coin_29 rfl (by decide) ?_
  exact R_iret dX10_coin_30
def f_X10_coin (this : Nat) (l1 : Int32) (l2 : Int32) (M : Mem) : Option (Int32 × Mem) :=
  (oO M 10 (some this)).bind fun o13 => cl (f_X10_waits o13 l1 M) fun r1 M =>
  (if r1 = 0 then
    (f_X10_coin_J29 this M)
  else
    ((oO M 10 (some this)).bind fun o12 => cl (f_X10_isJoke o12 l2 M) fun r2 M =>
    (if r2 = 0 then
      (f_X10_coin_J29 this M)
    else
      ((gR M 10 6 (some this)).bind fun knows3 =>
      (aI M 0 knows3 l1).bind fun e4 =>
      cl (f_X10_has e4 l2 M) fun r5 M =>
      (if r5 = 0 then
        ((oO M 10 (some this)).bind fun o11 => cl (f_X10_keepsAct o11 M) fun u6 M =>
        (gR M 10 6 (some this)).bind fun knows7 =>
        (aI M 0 knows7 l1).bind fun e8 =>
        (wI M 0 knows7 l1 (e8 ||| ((nI 1) <<< (l2 &&& 31)))).bind fun M =>
        (gR M 10 6 (some this)).bind fun knows9 =>
        (aI M 0 knows9 l1).bind fun e10 =>
        some (e10, M))
      else
        (f_X10_coin_J29 this M))))))
set_option maxHeartbeats 2000000 in
set_option maxRecDepth 20000 in
theorem rm_X10_coin (this : Nat) (l1 : Int32) (l2 : Int32) (M : Mem) : RFm yX10_coin cX10_coin 3 (some .int) 5 eI (f_X10_coin this l1 l2 M) [va_rf (some this), .int l1, .int l2] M := by
  refine RFm_of (L := [(0, va_rf (some this)), (1, .int l1), (2, .int l2)]) (by decide) rfl (Nat.le_trans (c_R (c_I (c_I c_0))) (by decide)) ?_
  rw [f_X10_coin]
  refine R_aloadq_n (pc' := 1) (i := 0) (j := 0) (q := (some this)) dX10_coin_0 rfl rfl rfl ?_
  refine R_iload_n (pc' := 2) (i := 1) (j := 1) (x := l1) dX10_coin_1 rfl rfl rfl ?_
  refine R_callV_I (pc' := 5) (q := (some this)) (As := [.int l1]) (fun o13 => rm_X10_waits o13 l1 M) mf_X10_waits lk_X10_350 im_X10_waits se_X10_waits rfl rfl rfl dX10_coin_2 rfl (by decide) (Nat.le_trans c_0 (by decide)) (fun r1 M => ?_)
  refine R_if_eq (pc' := 8) (tgt := 29) (a := r1) dX10_coin_5 (by decide) rfl ?_ ?_
  · exact R_sub [] rfl (rf_X10_coin_J29 this M)
  · refine R_aloadq_n (pc' := 9) (i := 0) (j := 0) (q := (some this)) dX10_coin_8 rfl rfl rfl ?_
    refine R_iload_n (pc' := 10) (i := 2) (j := 2) (x := l2) dX10_coin_9 rfl rfl rfl ?_
    refine R_callV_I (pc' := 13) (q := (some this)) (As := [.int l2]) (fun o12 => rm_X10_isJoke o12 l2 M) mf_X10_isJoke lk_X10_341 im_X10_isJoke se_X10_isJoke rfl rfl rfl dX10_coin_10 rfl (by decide) (Nat.le_trans c_0 (by decide)) (fun r2 M => ?_)
    refine R_if_eq (pc' := 16) (tgt := 29) (a := r2) dX10_coin_13 (by decide) rfl ?_ ?_
    · exact R_sub [] rfl (rf_X10_coin_J29 this M)
    · refine R_aloadq_n (pc' := 17) (i := 0) (j := 0) (q := (some this)) dX10_coin_16 rfl rfl rfl ?_
      refine R_getR (pc' := 20) (q := (some this)) fl_X10_25 rfl dX10_coin_17 rfl (fun knows3 => ?_)
      refine R_iload_n (pc' := 21) (i := 1) (j := 1) (x := l1) dX10_coin_20 rfl rfl rfl ?_
      refine R_iald (pc' := 22) (q := knows3) (i := l1) dX10_coin_21 rfl (fun e4 => ?_)
      refine R_iload_n (pc' := 23) (i := 2) (j := 2) (x := l2) dX10_coin_22 rfl rfl rfl ?_
      refine R_callS_I (pc' := 26) (As := [.int e4, .int l2]) (rm_X10_has e4 l2 M) mf_X10_has lk_X10_353 sm_X10_has rfl rfl dX10_coin_23 rfl (by decide) (Nat.le_trans c_0 (by decide)) (fun r5 M => ?_)
      refine R_if_eq (pc' := 29) (tgt := 31) (a := r5) dX10_coin_26 (by decide) rfl ?_ ?_
      · refine R_aloadq_n (pc' := 32) (i := 0) (j := 0) (q := (some this)) dX10_coin_31 rfl rfl rfl ?_
        refine R_callV_V (pc' := 35) (q := (some this)) (As := []) (fun o11 => rm_X10_keepsAct o11 M) mf_X10_keepsAct lk_X10_414 im_X10_keepsAct se_X10_keepsAct rfl rfl rfl dX10_coin_32 rfl (by decide) (Nat.le_trans c_0 (by decide)) (fun u6 M => ?_)
        refine R_aloadq_n (pc' := 36) (i := 0) (j := 0) (q := (some this)) dX10_coin_35 rfl rfl rfl ?_
        refine R_getR (pc' := 39) (q := (some this)) fl_X10_25 rfl dX10_coin_36 rfl (fun knows7 => ?_)
        refine R_iload_n (pc' := 40) (i := 1) (j := 1) (x := l1) dX10_coin_39 rfl rfl rfl ?_
        refine R_dup2 (pc' := 41) dX10_coin_40 rfl rfl (rf_cat _) ?_
        refine R_iald (pc' := 42) (q := knows7) (i := l1) dX10_coin_41 rfl (fun e8 => ?_)
        refine R_iconst (pc' := 43) (x := (nI 1)) dX10_coin_42 rfl (by decide) ?_
        refine R_iload_n (pc' := 44) (i := 2) (j := 2) (x := l2) dX10_coin_43 rfl rfl rfl ?_
        refine R_ishl (pc' := 45) (a := (nI 1)) (b := l2) dX10_coin_44 rfl ?_
        refine R_ior (pc' := 46) (a := e8) (b := ((nI 1) <<< (l2 &&& 31))) dX10_coin_45 rfl ?_
        refine R_iast (pc' := 47) (q := knows7) (i := l1) (x := (e8 ||| ((nI 1) <<< (l2 &&& 31)))) dX10_coin_46 rfl (fun M => ?_)
        refine R_aloadq_n (pc' := 48) (i := 0) (j := 0) (q := (some this)) dX10_coin_47 rfl rfl rfl ?_
        refine R_getR (pc' := 51) (q := (some this)) fl_X10_25 rfl dX10_coin_48 rfl (fun knows9 => ?_)
        refine R_iload_n (pc' := 52) (i := 1) (j := 1) (x := l1) dX10_coin_51 rfl rfl rfl ?_
        refine R_iald (pc' := 53) (q := knows9) (i := l1) dX10_coin_52 rfl (fun e10 => ?_)
        exact R_iret dX10_coin_53
      · exact R_sub [] rfl (rf_X10_coin_J29 this M)
/-! BarPilotModel.dull(I)I -/
def f_X10_dull_J16 (this : Nat) (M : Mem) : Option (Int32 × Mem) :=
  some ((-1 : Int32), M)
set_option maxHeartbeats 2000000 in
set_option maxRecDepth 20000 in
theorem rf_X10_dull_J16 (this : Nat) (M : Mem) : RF yX10_dull cX10_dull 3 (some .int) 5 eI (f_X10_dull_J16 this M) 16 [] [] M := by
  rw [f_X10_dull_J16]
  refine R_iconst (pc' := 17) (x := (-1 : Int32)) dX10_dull_16 rfl (by decide) ?_
  exact R_iret dX10_dull_17
def f_X10_dull (this : Nat) (l1 : Int32) (M : Mem) : Option (Int32 × Mem) :=
  (oO M 10 (some this)).bind fun o12 => cl (f_X10_isJoke o12 l1 M) fun r1 M =>
  (if r1 = 0 then
    (f_X10_dull_J16 this M)
  else
    ((oO M 10 (some this)).bind fun o11 => cl (f_X10_remembers o11 l1 M) fun r2 M =>
    (if r2 = 0 then
      (f_X10_dull_J16 this M)
    else
      ((oO M 10 (some this)).bind fun o10 => cl (f_X10_keepsAct o10 M) fun u3 M =>
      (gR M 10 1 (some this)).bind fun scalar4 =>
      (aI M 0 scalar4 (nI 4)).bind fun e5 =>
      (gR M 10 5 (some this)).bind fun heard6 =>
      (aI M 0 heard6 l1).bind fun e7 =>
      nm (e5 - e7) fun v8 =>
      (gR M 10 5 (some this)).bind fun heard9 =>
      (wI M 0 heard9 l1 (-1000 : Int32)).bind fun M =>
      some (v8, M)))))
set_option maxHeartbeats 2000000 in
set_option maxRecDepth 20000 in
theorem rm_X10_dull (this : Nat) (l1 : Int32) (M : Mem) : RFm yX10_dull cX10_dull 3 (some .int) 5 eI (f_X10_dull this l1 M) [va_rf (some this), .int l1] M := by
  refine RFm_of (L := [(0, va_rf (some this)), (1, .int l1)]) (by decide) rfl (Nat.le_trans (c_R (c_I c_0)) (by decide)) ?_
  rw [f_X10_dull]
  refine R_aloadq_n (pc' := 1) (i := 0) (j := 0) (q := (some this)) dX10_dull_0 rfl rfl rfl ?_
  refine R_iload_n (pc' := 2) (i := 1) (j := 1) (x := l1) dX10_dull_1 rfl rfl rfl ?_
  refine R_callV_I (pc' := 5) (q := (some this)) (As := [.int l1]) (fun o12 => rm_X10_isJoke o12 l1 M) mf_X10_isJoke lk_X10_341 im_X10_isJoke se_X10_isJoke rfl rfl rfl dX10_dull_2 rfl (by decide) (Nat.le_trans c_0 (by decide)) (fun r1 M => ?_)
  refine R_if_eq (pc' := 8) (tgt := 16) (a := r1) dX10_dull_5 (by decide) rfl ?_ ?_
  · exact R_sub [] rfl (rf_X10_dull_J16 this M)
  · refine R_aloadq_n (pc' := 9) (i := 0) (j := 0) (q := (some this)) dX10_dull_8 rfl rfl rfl ?_
    refine R_iload_n (pc' := 10) (i := 1) (j := 1) (x := l1) dX10_dull_9 rfl rfl rfl ?_
    refine R_callV_I (pc' := 13) (q := (some this)) (As := [.int l1]) (fun o11 => rm_X10_remembers o11 l1 M) mf_X10_remembers lk_X10_332 im_X10_remembers se_X10_remembers rfl rfl rfl dX10_dull_10 rfl (by decide) (Nat.le_trans c_0 (by decide)) (fun r2 M => ?_)
    refine R_if_ne (pc' := 16) (tgt := 18) (a := r2) dX10_dull_13 (by decide) rfl ?_ ?_
    · refine R_aloadq_n (pc' := 19) (i := 0) (j := 0) (q := (some this)) dX10_dull_18 rfl rfl rfl ?_
      refine R_callV_V (pc' := 22) (q := (some this)) (As := []) (fun o10 => rm_X10_keepsAct o10 M) mf_X10_keepsAct lk_X10_414 im_X10_keepsAct se_X10_keepsAct rfl rfl rfl dX10_dull_19 rfl (by decide) (Nat.le_trans c_0 (by decide)) (fun u3 M => ?_)
      refine R_aloadq_n (pc' := 23) (i := 0) (j := 0) (q := (some this)) dX10_dull_22 rfl rfl rfl ?_
      refine R_getR (pc' := 26) (q := (some this)) fl_X10_9 rfl dX10_dull_23 rfl (fun scalar4 => ?_)
      refine R_iconst (pc' := 27) (x := (nI 4)) dX10_dull_26 rfl (by decide) ?_
      refine R_iald (pc' := 28) (q := scalar4) (i := (nI 4)) dX10_dull_27 rfl (fun e5 => ?_)
      refine R_aloadq_n (pc' := 29) (i := 0) (j := 0) (q := (some this)) dX10_dull_28 rfl rfl rfl ?_
      refine R_getR (pc' := 32) (q := (some this)) fl_X10_22 rfl dX10_dull_29 rfl (fun heard6 => ?_)
      refine R_iload_n (pc' := 33) (i := 1) (j := 1) (x := l1) dX10_dull_32 rfl rfl rfl ?_
      refine R_iald (pc' := 34) (q := heard6) (i := l1) dX10_dull_33 rfl (fun e7 => ?_)
      refine R_isub (pc' := 35) (a := e5) (b := e7) dX10_dull_34 rfl ?_
      refine R_nmI (fun v8 => ?_)
      refine R_istore_n (pc' := 36) (L' := [(2, .int v8), (0, va_rf (some this)), (1, .int l1)]) (i := 2) (x := v8) dX10_dull_35 rfl rfl (by decide) rfl ?_
      refine R_aloadq_n (pc' := 37) (i := 0) (j := 1) (q := (some this)) dX10_dull_36 rfl rfl rfl ?_
      refine R_getR (pc' := 40) (q := (some this)) fl_X10_22 rfl dX10_dull_37 rfl (fun heard9 => ?_)
      refine R_iload_n (pc' := 41) (i := 1) (j := 2) (x := l1) dX10_dull_40 rfl rfl rfl ?_
      refine R_sipush (pc' := 44) (x := (-1000 : Int32)) dX10_dull_41 rfl (by decide) ?_
      refine R_iast (pc' := 45) (q := heard9) (i := l1) (x := (-1000 : Int32)) dX10_dull_44 rfl (fun M => ?_)
      refine R_iload_n (pc' := 46) (i := 2) (j := 0) (x := v8) dX10_dull_45 rfl rfl rfl ?_
      exact R_iret dX10_dull_46
    · exact R_sub [] rfl (rf_X10_dull_J16 this M)
