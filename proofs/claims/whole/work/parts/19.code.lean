/-! BarPilotModel.blanks()V -/
def f_X10_blanks_L0 (this : Nat) : Nat → Mem → Option (Unit × Mem)
  | 0, _ => none
  | n + 1, M =>
    (oO M 10 (some this)).bind fun o3 => cl (f_X10_sign o3 M) fun r1 M =>
    (if r1 = (nI 32) then
      ((gI M 10 18 (some this)).bind fun p2 =>
      (pI M 10 18 (some this) (p2 + (nI 1))).bind fun M =>
      (f_X10_blanks_L0 this n) M)
    else
      (some ((), M)))
set_option maxHeartbeats 2000000 in
set_option maxRecDepth 20000 in
theorem rf_X10_blanks_L0 (this : Nat) : ∀ (n : Nat) (M : Mem), RF yX10_blanks cX10_blanks 1 none 2 eV (f_X10_blanks_L0 this n M) 0 [(0, va_rf (some this))] [] M := by
  intro n
  induction n with
  | zero => intro _; exact RF.none
  | succ n ih =>
    intro M
    rw [f_X10_blanks_L0]
    refine R_aloadq_n (pc' := 1) (i := 0) (j := 0) (q := (some this)) dX10_blanks_0 rfl rfl rfl ?_
    refine R_callV_I (pc' := 4) (q := (some this)) (As := []) (fun o3 => rm_X10_sign o3 M) mf_X10_sign lk_X10_171 im_X10_sign se_X10_sign rfl rfl rfl dX10_blanks_1 rfl (by decide) (Nat.le_trans c_0 (by decide)) (fun r1 M => ?_)
    refine R_bipush (pc' := 6) (x := (nI 32)) dX10_blanks_4 rfl (by decide) ?_
    refine R_icmp_ne (pc' := 9) (tgt := 22) (a := r1) (b := (nI 32)) dX10_blanks_6 (by decide) rfl ?_ ?_
    · exact R_vret dX10_blanks_22
    · refine R_aloadq_n (pc' := 10) (i := 0) (j := 0) (q := (some this)) dX10_blanks_9 rfl rfl rfl ?_
      refine R_dup (pc' := 11) dX10_blanks_10 rfl (rf_cat _) ?_
      refine R_getI (pc' := 14) (q := (some this)) fl_X10_168 rfl dX10_blanks_11 rfl (fun p2 => ?_)
      refine R_iconst (pc' := 15) (x := (nI 1)) dX10_blanks_14 rfl (by decide) ?_
      refine R_iadd (pc' := 16) (a := p2) (b := (nI 1)) dX10_blanks_15 rfl ?_
      refine R_putI (pc' := 19) (q := (some this)) (x := (p2 + (nI 1))) fl_X10_168 (Or.inl rfl) dX10_blanks_16 rfl (fun M => ?_)
      refine R_goto (tgt := 0) dX10_blanks_19 (by decide) ?_
      exact R_sub [0] rfl (ih M)
def f_X10_blanks (this : Nat) (M : Mem) : Option (Unit × Mem) :=
  f_X10_blanks_L0 this FU M
set_option maxHeartbeats 2000000 in
set_option maxRecDepth 20000 in
theorem rm_X10_blanks (this : Nat) (M : Mem) : RFm yX10_blanks cX10_blanks 1 none 2 eV (f_X10_blanks this M) [va_rf (some this)] M := by
  refine RFm_of (L := [(0, va_rf (some this))]) (by decide) rfl (Nat.le_trans (c_R c_0) (by decide)) ?_
  rw [f_X10_blanks]
  exact R_sub [0] rfl (rf_X10_blanks_L0 this FU M)
/-! BarPilotModel.isDigit()Z -/
def f_X10_isDigit (this : Nat) (M : Mem) : Option (Int32 × Mem) :=
  (oO M 10 (some this)).bind fun o3 => cl (f_X10_sign o3 M) fun r1 M =>
  cl (f_X10_in (Int32.toInt64 r1) (48 : Int64) (57 : Int64) M) fun r2 M =>
  ckZ r2 (some (r2, M))
set_option maxHeartbeats 2000000 in
set_option maxRecDepth 20000 in
theorem rm_X10_isDigit (this : Nat) (M : Mem) : RFm yX10_isDigit cX10_isDigit 1 (some .boolean) 2 eI (f_X10_isDigit this M) [va_rf (some this)] M := by
  refine RFm_of (L := [(0, va_rf (some this))]) (by decide) rfl (Nat.le_trans (c_R c_0) (by decide)) ?_
  rw [f_X10_isDigit]
  refine R_aloadq_n (pc' := 1) (i := 0) (j := 0) (q := (some this)) dX10_isDigit_0 rfl rfl rfl ?_
  refine R_callV_I (pc' := 4) (q := (some this)) (As := []) (fun o3 => rm_X10_sign o3 M) mf_X10_sign lk_X10_171 im_X10_sign se_X10_sign rfl rfl rfl dX10_isDigit_1 rfl (by decide) (Nat.le_trans c_0 (by decide)) (fun r1 M => ?_)
  refine R_i2l (pc' := 5) (a := r1) dX10_isDigit_4 rfl ?_
  refine R_ldc2 (pc' := 8) (x := (48 : Int64)) dX10_isDigit_5 rfl c2_X10_175 ?_
  refine R_ldc2 (pc' := 11) (x := (57 : Int64)) dX10_isDigit_8 rfl c2_X10_177 ?_
  refine R_callS_I (pc' := 14) (As := [.long (Int32.toInt64 r1), .long (48 : Int64), .long (57 : Int64)]) (rm_X10_in (Int32.toInt64 r1) (48 : Int64) (57 : Int64) M) mf_X10_in lk_X10_131 sm_X10_in rfl rfl dX10_isDigit_11 rfl (by decide) (Nat.le_trans c_0 (by decide)) (fun r2 M => ?_)
  exact R_bret dX10_isDigit_14
/-! BarPilotModel.stood(Ljava/lang/String;)Z -/
def f_X10_stood_J109 (this : Nat) (l3 : Int32) (M : Mem) : Option (Int32 × Mem) :=
  ckZ l3 (some (l3, M))
set_option maxHeartbeats 2000000 in
set_option maxRecDepth 20000 in
theorem rf_X10_stood_J109 (this : Nat) (l3 : Int32) (M : Mem) : RF yX10_stood cX10_stood 5 (some .boolean) 5 eI (f_X10_stood_J109 this l3 M) 109 [(3, .int l3)] [] M := by
  rw [f_X10_stood_J109]
  refine R_iload_n (pc' := 110) (i := 3) (j := 0) (x := l3) dX10_stood_109 rfl rfl rfl ?_
  exact R_bret dX10_stood_110
def f_X10_stood_J102 (k63 : UInt32 → Int32 → Int32 → Mem → Option (Int32 × Mem)) (this : Nat) (l1 : UInt32) (l4 : Int32) (s0 : Int32) (M : Mem) : Option (Int32 × Mem) :=
  k63 l1 s0 (l4 + (nI 1)) M
set_option maxHeartbeats 2000000 in
set_option maxRecDepth 20000 in
theorem rf_X10_stood_J102 (this : Nat) (k63 : UInt32 → Int32 → Int32 → Mem → Option (Int32 × Mem)) (hk63 : ∀ (l1 : UInt32) (l3 : Int32) (l4 : Int32) (M : Mem), RF yX10_stood cX10_stood 5 (some .boolean) 5 eI (k63 l1 l3 l4 M) 63 [(0, va_rf (some this)), (1, .float l1), (3, .int l3), (4, .int l4)] [] M) (l1 : UInt32) (l4 : Int32) (s0 : Int32) (M : Mem) : RF yX10_stood cX10_stood 5 (some .boolean) 5 eI (f_X10_stood_J102 k63 this l1 l4 s0 M) 102 [(0, va_rf (some this)), (1, .float l1), (4, .int l4)] [.int s0] M := by
  rw [f_X10_stood_J102]
  refine R_istore_n (pc' := 103) (L' := [(3, .int s0), (0, va_rf (some this)), (1, .float l1), (4, .int l4)]) (i := 3) (x := s0) dX10_stood_102 rfl rfl (by decide) rfl ?_
  refine R_iinc (pc' := 106) (L' := [(4, .int (l4 + (nI 1))), (3, .int s0), (0, va_rf (some this)), (1, .float l1)]) (i := 4) (j := 3) (x := l4) (x2 := (l4 + (nI 1))) dX10_stood_103 rfl rfl rfl (by decide) rfl ?_
  refine R_goto (tgt := 63) dX10_stood_106 (by decide) ?_
  exact R_sub [2, 3, 1, 0] rfl (hk63 l1 s0 (l4 + (nI 1)) M)
def f_X10_stood_L63 (this : Nat) : Nat → UInt32 → Int32 → Int32 → Mem → Option (Int32 × Mem)
  | 0, _, _, _, _ => none
  | n + 1, l1, l3, l4, M =>
    kT l1 (cl (f_J0_length_8abf5 l1 M) fun r1 M =>
    (if r1 ≤ l4 then
      (f_X10_stood_J109 this l3 M)
    else
      ((if l3 = 0 then
        (f_X10_stood_J109 this l3 M)
      else
        ((gR M 10 27 (some this)).bind fun tape2 =>
        (gI M 10 18 (some this)).bind fun p3 =>
        (aI M 1 tape2 (p3 + l4)).bind fun e4 =>
        kT l1 (cl (f_J0_charAt_5068e l1 l4 M) fun r5 M =>
        (if e4 = r5 then
          (f_X10_stood_J102 (f_X10_stood_L63 this n) this l1 l4 (nI 1) M)
        else
          (f_X10_stood_J102 (f_X10_stood_L63 this n) this l1 l4 (nI 0) M))))))))
set_option maxHeartbeats 2000000 in
set_option maxRecDepth 20000 in
theorem rf_X10_stood_L63 (this : Nat) : ∀ (n : Nat) (l1 : UInt32) (l3 : Int32) (l4 : Int32) (M : Mem), RF yX10_stood cX10_stood 5 (some .boolean) 5 eI (f_X10_stood_L63 this n l1 l3 l4 M) 63 [(0, va_rf (some this)), (1, .float l1), (3, .int l3), (4, .int l4)] [] M := by
  intro n
  induction n with
  | zero => intro _ _ _ _; exact RF.none
  | succ n ih =>
    intro l1 l3 l4 M
    rw [f_X10_stood_L63]
    refine R_iload (pc' := 65) (i := 4) (j := 3) (x := l4) dX10_stood_63 rfl rfl ?_
    refine R_aloadc_n (pc' := 66) (i := 1) (j := 1) (u := l1) dX10_stood_65 rfl rfl rfl ?_
    refine R_callK_I (pc' := 69) (u := l1) (As := []) (rm_J0_length_8abf5 l1 M) mf_J0_length_8abf5 lk_X10_179 im_J0_length_8abf5 se_J0_length_8abf5 rfl rfl dX10_stood_66 rfl (by decide) (Nat.le_trans (c_I c_0) (by decide)) (fun r1 M => ?_)
    refine R_icmp_ge (pc' := 72) (tgt := 109) (a := l4) (b := r1) dX10_stood_69 (by decide) rfl ?_ ?_
    · exact R_sub [2] rfl (rf_X10_stood_J109 this l3 M)
    · refine R_iload_n (pc' := 73) (i := 3) (j := 2) (x := l3) dX10_stood_72 rfl rfl rfl ?_
      refine R_if_eq (pc' := 76) (tgt := 109) (a := l3) dX10_stood_73 (by decide) rfl ?_ ?_
      · exact R_sub [2] rfl (rf_X10_stood_J109 this l3 M)
      · refine R_aloadq_n (pc' := 77) (i := 0) (j := 0) (q := (some this)) dX10_stood_76 rfl rfl rfl ?_
        refine R_getR (pc' := 80) (q := (some this)) fl_X10_62 rfl dX10_stood_77 rfl (fun tape2 => ?_)
        refine R_aloadq_n (pc' := 81) (i := 0) (j := 0) (q := (some this)) dX10_stood_80 rfl rfl rfl ?_
        refine R_getI (pc' := 84) (q := (some this)) fl_X10_168 rfl dX10_stood_81 rfl (fun p3 => ?_)
        refine R_iload (pc' := 86) (i := 4) (j := 3) (x := l4) dX10_stood_84 rfl rfl ?_
        refine R_iadd (pc' := 87) (a := p3) (b := l4) dX10_stood_86 rfl ?_
        refine R_bald (pc' := 88) (q := tape2) (i := (p3 + l4)) dX10_stood_87 rfl (fun e4 => ?_)
        refine R_aloadc_n (pc' := 89) (i := 1) (j := 1) (u := l1) dX10_stood_88 rfl rfl rfl ?_
        refine R_iload (pc' := 91) (i := 4) (j := 3) (x := l4) dX10_stood_89 rfl rfl ?_
        refine R_callK_I (pc' := 94) (u := l1) (As := [.int l4]) (rm_J0_charAt_5068e l1 l4 M) mf_J0_charAt_5068e lk_X10_184 im_J0_charAt_5068e se_J0_charAt_5068e rfl rfl dX10_stood_91 rfl (by decide) (Nat.le_trans (c_I c_0) (by decide)) (fun r5 M => ?_)
        refine R_icmp_ne (pc' := 97) (tgt := 101) (a := e4) (b := r5) dX10_stood_94 (by decide) rfl ?_ ?_
        · refine R_iconst (pc' := 102) (x := (nI 0)) dX10_stood_101 rfl (by decide) ?_
          exact R_sub [0, 1, 3] rfl (rf_X10_stood_J102 this (f_X10_stood_L63 this n) ih l1 l4 (nI 0) M)
        · refine R_iconst (pc' := 98) (x := (nI 1)) dX10_stood_97 rfl (by decide) ?_
          refine R_goto (tgt := 102) dX10_stood_98 (by decide) ?_
          exact R_sub [0, 1, 3] rfl (rf_X10_stood_J102 this (f_X10_stood_L63 this n) ih l1 l4 (nI 1) M)
def f_X10_stood_J59 (this : Nat) (l1 : UInt32) (s0 : Int32) (M : Mem) : Option (Int32 × Mem) :=
  f_X10_stood_L63 this FU l1 s0 (nI 0) M
set_option maxHeartbeats 2000000 in
set_option maxRecDepth 20000 in
theorem rf_X10_stood_J59 (this : Nat) (l1 : UInt32) (s0 : Int32) (M : Mem) : RF yX10_stood cX10_stood 5 (some .boolean) 5 eI (f_X10_stood_J59 this l1 s0 M) 59 [(0, va_rf (some this)), (1, .float l1)] [.int s0] M := by
  rw [f_X10_stood_J59]
  refine R_istore_n (pc' := 60) (L' := [(3, .int s0), (0, va_rf (some this)), (1, .float l1)]) (i := 3) (x := s0) dX10_stood_59 rfl rfl (by decide) rfl ?_
  refine R_iconst (pc' := 61) (x := (nI 0)) dX10_stood_60 rfl (by decide) ?_
  refine R_istore (pc' := 63) (L' := [(4, .int (nI 0)), (3, .int s0), (0, va_rf (some this)), (1, .float l1)]) (i := 4) (x := (nI 0)) dX10_stood_61 rfl (by decide) rfl ?_
  exact R_sub [2, 3, 1, 0] rfl (rf_X10_stood_L63 this FU l1 s0 (nI 0) M)
def f_X10_stood_J41 (this : Nat) (l1 : UInt32) (l2 : Int32) (M : Mem) : Option (Int32 × Mem) :=
  (gI M 10 18 (some this)).bind fun p1 =>
  kT l1 (cl (f_J0_length_8abf5 l1 M) fun r2 M =>
  (if (l2 - p1) = r2 then
    (f_X10_stood_J59 this l1 (nI 1) M)
  else
    (f_X10_stood_J59 this l1 (nI 0) M)))
set_option maxHeartbeats 2000000 in
set_option maxRecDepth 20000 in
theorem rf_X10_stood_J41 (this : Nat) (l1 : UInt32) (l2 : Int32) (M : Mem) : RF yX10_stood cX10_stood 5 (some .boolean) 5 eI (f_X10_stood_J41 this l1 l2 M) 41 [(0, va_rf (some this)), (1, .float l1), (2, .int l2)] [] M := by
  rw [f_X10_stood_J41]
  refine R_iload_n (pc' := 42) (i := 2) (j := 2) (x := l2) dX10_stood_41 rfl rfl rfl ?_
  refine R_aloadq_n (pc' := 43) (i := 0) (j := 0) (q := (some this)) dX10_stood_42 rfl rfl rfl ?_
  refine R_getI (pc' := 46) (q := (some this)) fl_X10_168 rfl dX10_stood_43 rfl (fun p1 => ?_)
  refine R_isub (pc' := 47) (a := l2) (b := p1) dX10_stood_46 rfl ?_
  refine R_aloadc_n (pc' := 48) (i := 1) (j := 1) (u := l1) dX10_stood_47 rfl rfl rfl ?_
  refine R_callK_I (pc' := 51) (u := l1) (As := []) (rm_J0_length_8abf5 l1 M) mf_J0_length_8abf5 lk_X10_179 im_J0_length_8abf5 se_J0_length_8abf5 rfl rfl dX10_stood_48 rfl (by decide) (Nat.le_trans (c_I c_0) (by decide)) (fun r2 M => ?_)
  refine R_icmp_ne (pc' := 54) (tgt := 58) (a := (l2 - p1)) (b := r2) dX10_stood_51 (by decide) rfl ?_ ?_
  · refine R_iconst (pc' := 59) (x := (nI 0)) dX10_stood_58 rfl (by decide) ?_
    exact R_sub [0, 1] rfl (rf_X10_stood_J59 this l1 (nI 0) M)
  · refine R_iconst (pc' := 55) (x := (nI 1)) dX10_stood_54 rfl (by decide) ?_
    refine R_goto (tgt := 59) dX10_stood_55 (by decide) ?_
    exact R_sub [0, 1] rfl (rf_X10_stood_J59 this l1 (nI 1) M)
def f_X10_stood_L5 (this : Nat) : Nat → UInt32 → Int32 → Mem → Option (Int32 × Mem)
  | 0, _, _, _ => none
  | n + 1, l1, l2, M =>
    (gI M 10 17 (some this)).bind fun taped1 =>
    (if taped1 ≤ l2 then
      (f_X10_stood_J41 this l1 l2 M)
    else
      ((gR M 10 27 (some this)).bind fun tape2 =>
      (aI M 1 tape2 l2).bind fun e3 =>
      (if e3 < (nI 97) then
        (f_X10_stood_J41 this l1 l2 M)
      else
        ((gR M 10 27 (some this)).bind fun tape4 =>
        (aI M 1 tape4 l2).bind fun e5 =>
        (if (nI 122) < e5 then
          (f_X10_stood_J41 this l1 l2 M)
        else
          ((f_X10_stood_L5 this n) l1 (l2 + (nI 1)) M))))))
set_option maxHeartbeats 2000000 in
set_option maxRecDepth 20000 in
theorem rf_X10_stood_L5 (this : Nat) : ∀ (n : Nat) (l1 : UInt32) (l2 : Int32) (M : Mem), RF yX10_stood cX10_stood 5 (some .boolean) 5 eI (f_X10_stood_L5 this n l1 l2 M) 5 [(0, va_rf (some this)), (1, .float l1), (2, .int l2)] [] M := by
  intro n
  induction n with
  | zero => intro _ _ _; exact RF.none
  | succ n ih =>
    intro l1 l2 M
    rw [f_X10_stood_L5]
    refine R_iload_n (pc' := 6) (i := 2) (j := 2) (x := l2) dX10_stood_5 rfl rfl rfl ?_
    refine R_aloadq_n (pc' := 7) (i := 0) (j := 0) (q := (some this)) dX10_stood_6 rfl rfl rfl ?_
    refine R_getI (pc' := 10) (q := (some this)) fl_X10_139 rfl dX10_stood_7 rfl (fun taped1 => ?_)
    refine R_icmp_ge (pc' := 13) (tgt := 41) (a := l2) (b := taped1) dX10_stood_10 (by decide) rfl ?_ ?_
    · exact R_sub [0, 1, 2] rfl (rf_X10_stood_J41 this l1 l2 M)
    · refine R_aloadq_n (pc' := 14) (i := 0) (j := 0) (q := (some this)) dX10_stood_13 rfl rfl rfl ?_
      refine R_getR (pc' := 17) (q := (some this)) fl_X10_62 rfl dX10_stood_14 rfl (fun tape2 => ?_)
      refine R_iload_n (pc' := 18) (i := 2) (j := 2) (x := l2) dX10_stood_17 rfl rfl rfl ?_
      refine R_bald (pc' := 19) (q := tape2) (i := l2) dX10_stood_18 rfl (fun e3 => ?_)
      refine R_bipush (pc' := 21) (x := (nI 97)) dX10_stood_19 rfl (by decide) ?_
      refine R_icmp_lt (pc' := 24) (tgt := 41) (a := e3) (b := (nI 97)) dX10_stood_21 (by decide) rfl ?_ ?_
      · exact R_sub [0, 1, 2] rfl (rf_X10_stood_J41 this l1 l2 M)
      · refine R_aloadq_n (pc' := 25) (i := 0) (j := 0) (q := (some this)) dX10_stood_24 rfl rfl rfl ?_
        refine R_getR (pc' := 28) (q := (some this)) fl_X10_62 rfl dX10_stood_25 rfl (fun tape4 => ?_)
        refine R_iload_n (pc' := 29) (i := 2) (j := 2) (x := l2) dX10_stood_28 rfl rfl rfl ?_
        refine R_bald (pc' := 30) (q := tape4) (i := l2) dX10_stood_29 rfl (fun e5 => ?_)
        refine R_bipush (pc' := 32) (x := (nI 122)) dX10_stood_30 rfl (by decide) ?_
        refine R_icmp_gt (pc' := 35) (tgt := 41) (a := e5) (b := (nI 122)) dX10_stood_32 (by decide) rfl ?_ ?_
        · exact R_sub [0, 1, 2] rfl (rf_X10_stood_J41 this l1 l2 M)
        · refine R_iinc (pc' := 38) (L' := [(2, .int (l2 + (nI 1))), (0, va_rf (some this)), (1, .float l1)]) (i := 2) (j := 2) (x := l2) (x2 := (l2 + (nI 1))) dX10_stood_35 rfl rfl rfl (by decide) rfl ?_
          refine R_goto (tgt := 5) dX10_stood_38 (by decide) ?_
          exact R_sub [1, 2, 0] rfl (ih l1 (l2 + (nI 1)) M)
def f_X10_stood (this : Nat) (l1 : UInt32) (M : Mem) : Option (Int32 × Mem) :=
  (gI M 10 18 (some this)).bind fun p1 =>
  f_X10_stood_L5 this FU l1 p1 M
set_option maxHeartbeats 2000000 in
set_option maxRecDepth 20000 in
theorem rm_X10_stood (this : Nat) (l1 : UInt32) (M : Mem) : RFm yX10_stood cX10_stood 5 (some .boolean) 5 eI (f_X10_stood this l1 M) [va_rf (some this), .float l1] M := by
  refine RFm_of (L := [(0, va_rf (some this)), (1, .float l1)]) (by decide) rfl (Nat.le_trans (c_R (c_C c_0)) (by decide)) ?_
  rw [f_X10_stood]
  refine R_aloadq_n (pc' := 1) (i := 0) (j := 0) (q := (some this)) dX10_stood_0 rfl rfl rfl ?_
  refine R_getI (pc' := 4) (q := (some this)) fl_X10_168 rfl dX10_stood_1 rfl (fun p1 => ?_)
  refine R_istore_n (pc' := 5) (L' := [(2, .int p1), (0, va_rf (some this)), (1, .float l1)]) (i := 2) (x := p1) dX10_stood_4 rfl rfl (by decide) rfl ?_
  exact R_sub [1, 2, 0] rfl (rf_X10_stood_L5 this FU l1 p1 M)
/-! BarPilotModel.takes(Ljava/lang/String;)Z -/
def f_X10_takes_J27 (this : Nat) (l2 : Int32) (s0 : Int32) (s1 : Int32) (s2 : Option Nat) (M : Mem) : Option (Int32 × Mem) :=
  (pI M 10 18 s2 (s1 + s0)).bind fun M =>
  ckZ l2 (some (l2, M))
set_option maxHeartbeats 2000000 in
set_option maxRecDepth 20000 in
theorem rf_X10_takes_J27 (this : Nat) (l2 : Int32) (s0 : Int32) (s1 : Int32) (s2 : Option Nat) (M : Mem) : RF yX10_takes cX10_takes 3 (some .boolean) 6 eI (f_X10_takes_J27 this l2 s0 s1 s2 M) 27 [(2, .int l2)] [.int s0, .int s1, va_rf s2] M := by
  rw [f_X10_takes_J27]
  refine R_iadd (pc' := 28) (a := s1) (b := s0) dX10_takes_27 rfl ?_
  refine R_putI (pc' := 31) (q := s2) (x := (s1 + s0)) fl_X10_168 (Or.inl rfl) dX10_takes_28 rfl (fun M => ?_)
  refine R_iload_n (pc' := 32) (i := 2) (j := 0) (x := l2) dX10_takes_31 rfl rfl rfl ?_
  exact R_bret dX10_takes_32
def f_X10_takes (this : Nat) (l1 : UInt32) (M : Mem) : Option (Int32 × Mem) :=
  (oO M 10 (some this)).bind fun o6 => cl (f_X10_blanks o6 M) fun u1 M =>
  (oO M 10 (some this)).bind fun o5 => cl (f_X10_stood o5 l1 M) fun r2 M =>
  (gI M 10 18 (some this)).bind fun p3 =>
  (if r2 = 0 then
    (f_X10_takes_J27 this r2 (nI 0) p3 (some this) M)
  else
    (kT l1 (cl (f_J0_length_8abf5 l1 M) fun r4 M =>
    f_X10_takes_J27 this r2 r4 p3 (some this) M)))
set_option maxHeartbeats 2000000 in
set_option maxRecDepth 20000 in
theorem rm_X10_takes (this : Nat) (l1 : UInt32) (M : Mem) : RFm yX10_takes cX10_takes 3 (some .boolean) 6 eI (f_X10_takes this l1 M) [va_rf (some this), .float l1] M := by
  refine RFm_of (L := [(0, va_rf (some this)), (1, .float l1)]) (by decide) rfl (Nat.le_trans (c_R (c_C c_0)) (by decide)) ?_
  rw [f_X10_takes]
  refine R_aloadq_n (pc' := 1) (i := 0) (j := 0) (q := (some this)) dX10_takes_0 rfl rfl rfl ?_
  refine R_callV_V (pc' := 4) (q := (some this)) (As := []) (fun o6 => rm_X10_blanks o6 M) mf_X10_blanks lk_X10_188 im_X10_blanks se_X10_blanks rfl rfl rfl dX10_takes_1 rfl (by decide) (Nat.le_trans c_0 (by decide)) (fun u1 M => ?_)
  refine R_aloadq_n (pc' := 5) (i := 0) (j := 0) (q := (some this)) dX10_takes_4 rfl rfl rfl ?_
  refine R_aloadc_n (pc' := 6) (i := 1) (j := 1) (u := l1) dX10_takes_5 rfl rfl rfl ?_
  refine R_callV_I (pc' := 9) (q := (some this)) (As := [.float l1]) (fun o5 => rm_X10_stood o5 l1 M) mf_X10_stood lk_X10_191 im_X10_stood se_X10_stood rfl rfl rfl dX10_takes_6 rfl (by decide) (Nat.le_trans c_0 (by decide)) (fun r2 M => ?_)
  refine R_istore_n (pc' := 10) (L' := [(2, .int r2), (0, va_rf (some this)), (1, .float l1)]) (i := 2) (x := r2) dX10_takes_9 rfl rfl (by decide) rfl ?_
  refine R_aloadq_n (pc' := 11) (i := 0) (j := 1) (q := (some this)) dX10_takes_10 rfl rfl rfl ?_
  refine R_dup (pc' := 12) dX10_takes_11 rfl (rf_cat _) ?_
  refine R_getI (pc' := 15) (q := (some this)) fl_X10_168 rfl dX10_takes_12 rfl (fun p3 => ?_)
  refine R_iload_n (pc' := 16) (i := 2) (j := 0) (x := r2) dX10_takes_15 rfl rfl rfl ?_
  refine R_if_eq (pc' := 19) (tgt := 26) (a := r2) dX10_takes_16 (by decide) rfl ?_ ?_
  · refine R_iconst (pc' := 27) (x := (nI 0)) dX10_takes_26 rfl (by decide) ?_
    exact R_sub [0] rfl (rf_X10_takes_J27 this r2 (nI 0) p3 (some this) M)
  · refine R_aloadc_n (pc' := 20) (i := 1) (j := 2) (u := l1) dX10_takes_19 rfl rfl rfl ?_
    refine R_callK_I (pc' := 23) (u := l1) (As := []) (rm_J0_length_8abf5 l1 M) mf_J0_length_8abf5 lk_X10_179 im_J0_length_8abf5 se_J0_length_8abf5 rfl rfl dX10_takes_20 rfl (by decide) (Nat.le_trans (c_I (c_R c_0)) (by decide)) (fun r4 M => ?_)
    refine R_goto (tgt := 27) dX10_takes_23 (by decide) ?_
    exact R_sub [0] rfl (rf_X10_takes_J27 this r2 r4 p3 (some this) M)
/-! BarPilotModel.entry(II)V -/
def f_X10_entry_J55 (this : Nat) (M : Mem) : Option (Unit × Mem) :=
  some ((), M)
set_option maxHeartbeats 2000000 in
set_option maxRecDepth 20000 in
theorem rf_X10_entry_J55 (this : Nat) (M : Mem) : RF yX10_entry cX10_entry 3 none 1 eV (f_X10_entry_J55 this M) 55 [] [] M := by
  rw [f_X10_entry_J55]
  exact R_vret dX10_entry_55
def f_X10_entry (this : Nat) (l1 : Int32) (l2 : Int32) (M : Mem) : Option (Unit × Mem) :=
  (gI M 10 19 (some this)).bind fun fault1 =>
  (if fault1 = 0 then
    ((gR M 10 28 (some this)).bind fun sort2 =>
    (gI M 10 20 (some this)).bind fun slot3 =>
    (gI M 10 22 (some this)).bind fun entries4 =>
    (wI M 0 sort2 (((nI 300) * slot3) + entries4) l1).bind fun M =>
    (gR M 10 29 (some this)).bind fun number5 =>
    (gI M 10 20 (some this)).bind fun slot6 =>
    (gI M 10 22 (some this)).bind fun entries7 =>
    (wI M 0 number5 (((nI 300) * slot6) + entries7) l2).bind fun M =>
    (gI M 10 22 (some this)).bind fun entries8 =>
    (pI M 10 22 (some this) (entries8 + (nI 1))).bind fun M =>
    f_X10_entry_J55 this M)
  else
    (f_X10_entry_J55 this M))
set_option maxHeartbeats 2000000 in
set_option maxRecDepth 20000 in
theorem rm_X10_entry (this : Nat) (l1 : Int32) (l2 : Int32) (M : Mem) : RFm yX10_entry cX10_entry 3 none 1 eV (f_X10_entry this l1 l2 M) [va_rf (some this), .int l1, .int l2] M := by
  refine RFm_of (L := [(0, va_rf (some this)), (1, .int l1), (2, .int l2)]) (by decide) rfl (Nat.le_trans (c_R (c_I (c_I c_0))) (by decide)) ?_
  rw [f_X10_entry]
  refine R_aloadq_n (pc' := 1) (i := 0) (j := 0) (q := (some this)) dX10_entry_0 rfl rfl rfl ?_
  refine R_getI (pc' := 4) (q := (some this)) fl_X10_165 rfl dX10_entry_1 rfl (fun fault1 => ?_)
  refine R_if_ne (pc' := 7) (tgt := 55) (a := fault1) dX10_entry_4 (by decide) rfl ?_ ?_
  · exact R_sub [] rfl (rf_X10_entry_J55 this M)
  · refine R_aloadq_n (pc' := 8) (i := 0) (j := 0) (q := (some this)) dX10_entry_7 rfl rfl rfl ?_
    refine R_getR (pc' := 11) (q := (some this)) fl_X10_66 rfl dX10_entry_8 rfl (fun sort2 => ?_)
    refine R_sipush (pc' := 14) (x := (nI 300)) dX10_entry_11 rfl (by decide) ?_
    refine R_aloadq_n (pc' := 15) (i := 0) (j := 0) (q := (some this)) dX10_entry_14 rfl rfl rfl ?_
    refine R_getI (pc' := 18) (q := (some this)) fl_X10_195 rfl dX10_entry_15 rfl (fun slot3 => ?_)
    refine R_imul (pc' := 19) (a := (nI 300)) (b := slot3) dX10_entry_18 rfl ?_
    refine R_aloadq_n (pc' := 20) (i := 0) (j := 0) (q := (some this)) dX10_entry_19 rfl rfl rfl ?_
    refine R_getI (pc' := 23) (q := (some this)) fl_X10_198 rfl dX10_entry_20 rfl (fun entries4 => ?_)
    refine R_iadd (pc' := 24) (a := ((nI 300) * slot3)) (b := entries4) dX10_entry_23 rfl ?_
    refine R_iload_n (pc' := 25) (i := 1) (j := 1) (x := l1) dX10_entry_24 rfl rfl rfl ?_
    refine R_iast (pc' := 26) (q := sort2) (i := (((nI 300) * slot3) + entries4)) (x := l1) dX10_entry_25 rfl (fun M => ?_)
    refine R_aloadq_n (pc' := 27) (i := 0) (j := 0) (q := (some this)) dX10_entry_26 rfl rfl rfl ?_
    refine R_getR (pc' := 30) (q := (some this)) fl_X10_69 rfl dX10_entry_27 rfl (fun number5 => ?_)
    refine R_sipush (pc' := 33) (x := (nI 300)) dX10_entry_30 rfl (by decide) ?_
    refine R_aloadq_n (pc' := 34) (i := 0) (j := 0) (q := (some this)) dX10_entry_33 rfl rfl rfl ?_
    refine R_getI (pc' := 37) (q := (some this)) fl_X10_195 rfl dX10_entry_34 rfl (fun slot6 => ?_)
    refine R_imul (pc' := 38) (a := (nI 300)) (b := slot6) dX10_entry_37 rfl ?_
    refine R_aloadq_n (pc' := 39) (i := 0) (j := 0) (q := (some this)) dX10_entry_38 rfl rfl rfl ?_
    refine R_getI (pc' := 42) (q := (some this)) fl_X10_198 rfl dX10_entry_39 rfl (fun entries7 => ?_)
    refine R_iadd (pc' := 43) (a := ((nI 300) * slot6)) (b := entries7) dX10_entry_42 rfl ?_
    refine R_iload_n (pc' := 44) (i := 2) (j := 2) (x := l2) dX10_entry_43 rfl rfl rfl ?_
    refine R_iast (pc' := 45) (q := number5) (i := (((nI 300) * slot6) + entries7)) (x := l2) dX10_entry_44 rfl (fun M => ?_)
    refine R_aloadq_n (pc' := 46) (i := 0) (j := 0) (q := (some this)) dX10_entry_45 rfl rfl rfl ?_
    refine R_dup (pc' := 47) dX10_entry_46 rfl (rf_cat _) ?_
    refine R_getI (pc' := 50) (q := (some this)) fl_X10_198 rfl dX10_entry_47 rfl (fun entries8 => ?_)
    refine R_iconst (pc' := 51) (x := (nI 1)) dX10_entry_50 rfl (by decide) ?_
    refine R_iadd (pc' := 52) (a := entries8) (b := (nI 1)) dX10_entry_51 rfl ?_
    refine R_putI (pc' := 55) (q := (some this)) (x := (entries8 + (nI 1))) fl_X10_198 (Or.inl rfl) dX10_entry_52 rfl (fun M => ?_)
    exact R_sub [] rfl (rf_X10_entry_J55 this M)
/-! BarPilotModel.isCounted(I)V -/
def f_X10_isCounted_J15 (this : Nat) (M : Mem) : Option (Unit × Mem) :=
  (gI M 10 24 (some this)).bind fun counted1 =>
  (pI M 10 24 (some this) (counted1 + (nI 1))).bind fun M =>
  some ((), M)
set_option maxHeartbeats 2000000 in
set_option maxRecDepth 20000 in
theorem rf_X10_isCounted_J15 (this : Nat) (M : Mem) : RF yX10_isCounted cX10_isCounted 2 none 2 eV (f_X10_isCounted_J15 this M) 15 [(0, va_rf (some this))] [] M := by
  rw [f_X10_isCounted_J15]
  refine R_aloadq_n (pc' := 16) (i := 0) (j := 0) (q := (some this)) dX10_isCounted_15 rfl rfl rfl ?_
  refine R_dup (pc' := 17) dX10_isCounted_16 rfl (rf_cat _) ?_
  refine R_getI (pc' := 20) (q := (some this)) fl_X10_201 rfl dX10_isCounted_17 rfl (fun counted1 => ?_)
  refine R_iconst (pc' := 21) (x := (nI 1)) dX10_isCounted_20 rfl (by decide) ?_
  refine R_iadd (pc' := 22) (a := counted1) (b := (nI 1)) dX10_isCounted_21 rfl ?_
  refine R_putI (pc' := 25) (q := (some this)) (x := (counted1 + (nI 1))) fl_X10_201 (Or.inl rfl) dX10_isCounted_22 rfl (fun M => ?_)
  exact R_vret dX10_isCounted_25
def f_X10_isCounted (this : Nat) (l1 : Int32) (M : Mem) : Option (Unit × Mem) :=
  (gI M 10 24 (some this)).bind fun counted1 =>
  (if counted1 = (nI 60) then
    ((oO M 10 (some this)).bind fun o3 => cl (f_X10_fails o3 (nI 3) l1 M) fun u2 M =>
    f_X10_isCounted_J15 this M)
  else
    (f_X10_isCounted_J15 this M))
set_option maxHeartbeats 2000000 in
set_option maxRecDepth 20000 in
theorem rm_X10_isCounted (this : Nat) (l1 : Int32) (M : Mem) : RFm yX10_isCounted cX10_isCounted 2 none 2 eV (f_X10_isCounted this l1 M) [va_rf (some this), .int l1] M := by
  refine RFm_of (L := [(0, va_rf (some this)), (1, .int l1)]) (by decide) rfl (Nat.le_trans (c_R (c_I c_0)) (by decide)) ?_
  rw [f_X10_isCounted]
  refine R_aloadq_n (pc' := 1) (i := 0) (j := 0) (q := (some this)) dX10_isCounted_0 rfl rfl rfl ?_
  refine R_getI (pc' := 4) (q := (some this)) fl_X10_201 rfl dX10_isCounted_1 rfl (fun counted1 => ?_)
  refine R_bipush (pc' := 6) (x := (nI 60)) dX10_isCounted_4 rfl (by decide) ?_
  refine R_icmp_ne (pc' := 9) (tgt := 15) (a := counted1) (b := (nI 60)) dX10_isCounted_6 (by decide) rfl ?_ ?_
  · exact R_sub [0] rfl (rf_X10_isCounted_J15 this M)
  · refine R_aloadq_n (pc' := 10) (i := 0) (j := 0) (q := (some this)) dX10_isCounted_9 rfl rfl rfl ?_
    refine R_iconst (pc' := 11) (x := (nI 3)) dX10_isCounted_10 rfl (by decide) ?_
    refine R_iload_n (pc' := 12) (i := 1) (j := 1) (x := l1) dX10_isCounted_11 rfl rfl rfl ?_
    refine R_callV_V (pc' := 15) (q := (some this)) (As := [.int (nI 3), .int l1]) (fun o3 => rm_X10_fails o3 (nI 3) l1 M) mf_X10_fails lk_X10_204 im_X10_fails se_X10_fails rfl rfl rfl dX10_isCounted_12 rfl (by decide) (Nat.le_trans c_0 (by decide)) (fun u2 M => ?_)
    exact R_sub [0] rfl (rf_X10_isCounted_J15 this M)
/-! BarPilotModel.digits(I)I -/
def f_X10_digits_J93 (this : Nat) (l3 : Int32) (M : Mem) : Option (Int32 × Mem) :=
  some (l3, M)
set_option maxHeartbeats 2000000 in
set_option maxRecDepth 20000 in
theorem rf_X10_digits_J93 (this : Nat) (l3 : Int32) (M : Mem) : RF yX10_digits cX10_digits 4 (some .int) 3 eI (f_X10_digits_J93 this l3 M) 93 [(3, .int l3)] [] M := by
  rw [f_X10_digits_J93]
  refine R_iload_n (pc' := 94) (i := 3) (j := 0) (x := l3) dX10_digits_93 rfl rfl rfl ?_
  exact R_iret dX10_digits_94
def f_X10_digits_J87 (this : Nat) (l2 : Int32) (l3 : Int32) (M : Mem) : Option (Int32 × Mem) :=
  (oO M 10 (some this)).bind fun o2 => cl (f_X10_fails o2 (nI 1) l2 M) fun u1 M =>
  f_X10_digits_J93 this l3 M
set_option maxHeartbeats 2000000 in
set_option maxRecDepth 20000 in
theorem rf_X10_digits_J87 (this : Nat) (l2 : Int32) (l3 : Int32) (M : Mem) : RF yX10_digits cX10_digits 4 (some .int) 3 eI (f_X10_digits_J87 this l2 l3 M) 87 [(0, va_rf (some this)), (2, .int l2), (3, .int l3)] [] M := by
  rw [f_X10_digits_J87]
  refine R_aloadq_n (pc' := 88) (i := 0) (j := 0) (q := (some this)) dX10_digits_87 rfl rfl rfl ?_
  refine R_iconst (pc' := 89) (x := (nI 1)) dX10_digits_88 rfl (by decide) ?_
  refine R_iload_n (pc' := 90) (i := 2) (j := 1) (x := l2) dX10_digits_89 rfl rfl rfl ?_
  refine R_callV_V (pc' := 93) (q := (some this)) (As := [.int (nI 1), .int l2]) (fun o2 => rm_X10_fails o2 (nI 1) l2 M) mf_X10_fails lk_X10_204 im_X10_fails se_X10_fails rfl rfl rfl dX10_digits_90 rfl (by decide) (Nat.le_trans c_0 (by decide)) (fun u1 M => ?_)
  exact R_sub [2] rfl (rf_X10_digits_J93 this l3 M)
def f_X10_digits_J58 (k25 : Int32 → Int32 → Int32 → Mem → Option (Int32 × Mem)) (this : Nat) (l1 : Int32) (l2 : Int32) (s0 : Int32) (M : Mem) : Option (Int32 × Mem) :=
  (gI M 10 18 (some this)).bind fun p1 =>
  (pI M 10 18 (some this) (p1 + (nI 1))).bind fun M =>
  k25 l1 l2 s0 M
set_option maxHeartbeats 2000000 in
set_option maxRecDepth 20000 in
theorem rf_X10_digits_J58 (this : Nat) (k25 : Int32 → Int32 → Int32 → Mem → Option (Int32 × Mem)) (hk25 : ∀ (l1 : Int32) (l2 : Int32) (l3 : Int32) (M : Mem), RF yX10_digits cX10_digits 4 (some .int) 3 eI (k25 l1 l2 l3 M) 25 [(0, va_rf (some this)), (1, .int l1), (2, .int l2), (3, .int l3)] [] M) (l1 : Int32) (l2 : Int32) (s0 : Int32) (M : Mem) : RF yX10_digits cX10_digits 4 (some .int) 3 eI (f_X10_digits_J58 k25 this l1 l2 s0 M) 58 [(0, va_rf (some this)), (1, .int l1), (2, .int l2)] [.int s0] M := by
  rw [f_X10_digits_J58]
  refine R_istore_n (pc' := 59) (L' := [(3, .int s0), (0, va_rf (some this)), (1, .int l1), (2, .int l2)]) (i := 3) (x := s0) dX10_digits_58 rfl rfl (by decide) rfl ?_
  refine R_aloadq_n (pc' := 60) (i := 0) (j := 1) (q := (some this)) dX10_digits_59 rfl rfl rfl ?_
  refine R_dup (pc' := 61) dX10_digits_60 rfl (rf_cat _) ?_
  refine R_getI (pc' := 64) (q := (some this)) fl_X10_168 rfl dX10_digits_61 rfl (fun p1 => ?_)
  refine R_iconst (pc' := 65) (x := (nI 1)) dX10_digits_64 rfl (by decide) ?_
  refine R_iadd (pc' := 66) (a := p1) (b := (nI 1)) dX10_digits_65 rfl ?_
  refine R_putI (pc' := 69) (q := (some this)) (x := (p1 + (nI 1))) fl_X10_168 (Or.inl rfl) dX10_digits_66 rfl (fun M => ?_)
  refine R_goto (tgt := 25) dX10_digits_69 (by decide) ?_
  exact R_sub [1, 2, 3, 0] rfl (hk25 l1 l2 s0 M)
def f_X10_digits_L25 (this : Nat) : Nat → Int32 → Int32 → Int32 → Mem → Option (Int32 × Mem)
  | 0, _, _, _, _ => none
  | n + 1, l1, l2, l3, M =>
    (oO M 10 (some this)).bind fun o6 => cl (f_X10_isDigit o6 M) fun r1 M =>
    (if r1 = 0 then
      ((gI M 10 18 (some this)).bind fun p2 =>
      (if (nI 5) < (p2 - l2) then
        (f_X10_digits_J87 this l2 l3 M)
      else
        ((if l3 ≤ l1 then
          (f_X10_digits_J93 this l3 M)
        else
          (f_X10_digits_J87 this l2 l3 M)))))
    else
      ((gI M 10 18 (some this)).bind fun p3 =>
      (if (nI 5) ≤ (p3 - l2) then
        (f_X10_digits_J58 (f_X10_digits_L25 this n) this l1 l2 l3 M)
      else
        ((oO M 10 (some this)).bind fun o5 => cl (f_X10_sign o5 M) fun r4 M =>
        f_X10_digits_J58 (f_X10_digits_L25 this n) this l1 l2 ((((nI 10) * l3) + r4) - (nI 48)) M))))
set_option maxHeartbeats 2000000 in
set_option maxRecDepth 20000 in
theorem rf_X10_digits_L25 (this : Nat) : ∀ (n : Nat) (l1 : Int32) (l2 : Int32) (l3 : Int32) (M : Mem), RF yX10_digits cX10_digits 4 (some .int) 3 eI (f_X10_digits_L25 this n l1 l2 l3 M) 25 [(0, va_rf (some this)), (1, .int l1), (2, .int l2), (3, .int l3)] [] M := by
  intro n
  induction n with
  | zero => intro _ _ _ _; exact RF.none
  | succ n ih =>
    intro l1 l2 l3 M
    rw [f_X10_digits_L25]
    refine R_aloadq_n (pc' := 26) (i := 0) (j := 0) (q := (some this)) dX10_digits_25 rfl rfl rfl ?_
    refine R_callV_I (pc' := 29) (q := (some this)) (As := []) (fun o6 => rm_X10_isDigit o6 M) mf_X10_isDigit lk_X10_208 im_X10_isDigit se_X10_isDigit rfl rfl rfl dX10_digits_26 rfl (by decide) (Nat.le_trans c_0 (by decide)) (fun r1 M => ?_)
    refine R_if_eq (pc' := 32) (tgt := 72) (a := r1) dX10_digits_29 (by decide) rfl ?_ ?_
    · refine R_aloadq_n (pc' := 73) (i := 0) (j := 0) (q := (some this)) dX10_digits_72 rfl rfl rfl ?_
      refine R_getI (pc' := 76) (q := (some this)) fl_X10_168 rfl dX10_digits_73 rfl (fun p2 => ?_)
      refine R_iload_n (pc' := 77) (i := 2) (j := 2) (x := l2) dX10_digits_76 rfl rfl rfl ?_
      refine R_isub (pc' := 78) (a := p2) (b := l2) dX10_digits_77 rfl ?_
      refine R_iconst (pc' := 79) (x := (nI 5)) dX10_digits_78 rfl (by decide) ?_
      refine R_icmp_gt (pc' := 82) (tgt := 87) (a := (p2 - l2)) (b := (nI 5)) dX10_digits_79 (by decide) rfl ?_ ?_
      · exact R_sub [0, 2, 3] rfl (rf_X10_digits_J87 this l2 l3 M)
      · refine R_iload_n (pc' := 83) (i := 3) (j := 3) (x := l3) dX10_digits_82 rfl rfl rfl ?_
        refine R_iload_n (pc' := 84) (i := 1) (j := 1) (x := l1) dX10_digits_83 rfl rfl rfl ?_
        refine R_icmp_le (pc' := 87) (tgt := 93) (a := l3) (b := l1) dX10_digits_84 (by decide) rfl ?_ ?_
        · exact R_sub [3] rfl (rf_X10_digits_J93 this l3 M)
        · exact R_sub [0, 2, 3] rfl (rf_X10_digits_J87 this l2 l3 M)
    · refine R_aloadq_n (pc' := 33) (i := 0) (j := 0) (q := (some this)) dX10_digits_32 rfl rfl rfl ?_
      refine R_getI (pc' := 36) (q := (some this)) fl_X10_168 rfl dX10_digits_33 rfl (fun p3 => ?_)
      refine R_iload_n (pc' := 37) (i := 2) (j := 2) (x := l2) dX10_digits_36 rfl rfl rfl ?_
      refine R_isub (pc' := 38) (a := p3) (b := l2) dX10_digits_37 rfl ?_
      refine R_iconst (pc' := 39) (x := (nI 5)) dX10_digits_38 rfl (by decide) ?_
      refine R_icmp_ge (pc' := 42) (tgt := 57) (a := (p3 - l2)) (b := (nI 5)) dX10_digits_39 (by decide) rfl ?_ ?_
      · refine R_iload_n (pc' := 58) (i := 3) (j := 3) (x := l3) dX10_digits_57 rfl rfl rfl ?_
        exact R_sub [0, 1, 2] rfl (rf_X10_digits_J58 this (f_X10_digits_L25 this n) ih l1 l2 l3 M)
      · refine R_bipush (pc' := 44) (x := (nI 10)) dX10_digits_42 rfl (by decide) ?_
        refine R_iload_n (pc' := 45) (i := 3) (j := 3) (x := l3) dX10_digits_44 rfl rfl rfl ?_
        refine R_imul (pc' := 46) (a := (nI 10)) (b := l3) dX10_digits_45 rfl ?_
        refine R_aloadq_n (pc' := 47) (i := 0) (j := 0) (q := (some this)) dX10_digits_46 rfl rfl rfl ?_
        refine R_callV_I (pc' := 50) (q := (some this)) (As := []) (fun o5 => rm_X10_sign o5 M) mf_X10_sign lk_X10_171 im_X10_sign se_X10_sign rfl rfl rfl dX10_digits_47 rfl (by decide) (Nat.le_trans (c_I c_0) (by decide)) (fun r4 M => ?_)
        refine R_iadd (pc' := 51) (a := ((nI 10) * l3)) (b := r4) dX10_digits_50 rfl ?_
        refine R_bipush (pc' := 53) (x := (nI 48)) dX10_digits_51 rfl (by decide) ?_
        refine R_isub (pc' := 54) (a := (((nI 10) * l3) + r4)) (b := (nI 48)) dX10_digits_53 rfl ?_
        refine R_goto (tgt := 58) dX10_digits_54 (by decide) ?_
        exact R_sub [0, 1, 2] rfl (rf_X10_digits_J58 this (f_X10_digits_L25 this n) ih l1 l2 ((((nI 10) * l3) + r4) - (nI 48)) M)
def f_X10_digits (this : Nat) (l1 : Int32) (M : Mem) : Option (Int32 × Mem) :=
  (oO M 10 (some this)).bind fun o6 => cl (f_X10_isDigit o6 M) fun r1 M =>
  (if r1 = 0 then
    ((gI M 10 18 (some this)).bind fun p3 =>
    (oO M 10 (some this)).bind fun o5 => cl (f_X10_fails o5 (nI 0) p3 M) fun u4 M =>
    some ((nI 0), M))
  else
    ((gI M 10 18 (some this)).bind fun p2 =>
    f_X10_digits_L25 this FU l1 p2 (nI 0) M))
set_option maxHeartbeats 2000000 in
set_option maxRecDepth 20000 in
theorem rm_X10_digits (this : Nat) (l1 : Int32) (M : Mem) : RFm yX10_digits cX10_digits 4 (some .int) 3 eI (f_X10_digits this l1 M) [va_rf (some this), .int l1] M := by
  refine RFm_of (L := [(0, va_rf (some this)), (1, .int l1)]) (by decide) rfl (Nat.le_trans (c_R (c_I c_0)) (by decide)) ?_
  rw [f_X10_digits]
  refine R_aloadq_n (pc' := 1) (i := 0) (j := 0) (q := (some this)) dX10_digits_0 rfl rfl rfl ?_
  refine R_callV_I (pc' := 4) (q := (some this)) (As := []) (fun o6 => rm_X10_isDigit o6 M) mf_X10_isDigit lk_X10_208 im_X10_isDigit se_X10_isDigit rfl rfl rfl dX10_digits_1 rfl (by decide) (Nat.le_trans c_0 (by decide)) (fun r1 M => ?_)
  refine R_if_ne (pc' := 7) (tgt := 18) (a := r1) dX10_digits_4 (by decide) rfl ?_ ?_
  · refine R_aloadq_n (pc' := 19) (i := 0) (j := 0) (q := (some this)) dX10_digits_18 rfl rfl rfl ?_
    refine R_getI (pc' := 22) (q := (some this)) fl_X10_168 rfl dX10_digits_19 rfl (fun p2 => ?_)
    refine R_istore_n (pc' := 23) (L' := [(2, .int p2), (0, va_rf (some this)), (1, .int l1)]) (i := 2) (x := p2) dX10_digits_22 rfl rfl (by decide) rfl ?_
    refine R_iconst (pc' := 24) (x := (nI 0)) dX10_digits_23 rfl (by decide) ?_
    refine R_istore_n (pc' := 25) (L' := [(3, .int (nI 0)), (2, .int p2), (0, va_rf (some this)), (1, .int l1)]) (i := 3) (x := (nI 0)) dX10_digits_24 rfl rfl (by decide) rfl ?_
    exact R_sub [2, 3, 1, 0] rfl (rf_X10_digits_L25 this FU l1 p2 (nI 0) M)
  · refine R_aloadq_n (pc' := 8) (i := 0) (j := 0) (q := (some this)) dX10_digits_7 rfl rfl rfl ?_
    refine R_iconst (pc' := 9) (x := (nI 0)) dX10_digits_8 rfl (by decide) ?_
    refine R_aloadq_n (pc' := 10) (i := 0) (j := 0) (q := (some this)) dX10_digits_9 rfl rfl rfl ?_
    refine R_getI (pc' := 13) (q := (some this)) fl_X10_168 rfl dX10_digits_10 rfl (fun p3 => ?_)
    refine R_callV_V (pc' := 16) (q := (some this)) (As := [.int (nI 0), .int p3]) (fun o5 => rm_X10_fails o5 (nI 0) p3 M) mf_X10_fails lk_X10_204 im_X10_fails se_X10_fails rfl rfl rfl dX10_digits_13 rfl (by decide) (Nat.le_trans c_0 (by decide)) (fun u4 M => ?_)
    refine R_iconst (pc' := 17) (x := (nI 0)) dX10_digits_16 rfl (by decide) ?_
    exact R_iret dX10_digits_17
/-! BarPilotModel.value()V -/
def f_X10_value_J62 (this : Nat) (l1 : Int32) (l2 : Int32) (M : Mem) : Option (Unit × Mem) :=
  (gI M 10 26 (some this)).bind fun words1 =>
  (if l2 = words1 then
    ((oO M 10 (some this)).bind fun o10 => cl (f_X10_fails o10 (nI 0) l1 M) fun u9 M =>
    some ((), M))
  else
    ((oO M 10 (some this)).bind fun o8 => cl (f_X10_isCounted o8 l1 M) fun u2 M =>
    (gI M 10 18 (some this)).bind fun p3 =>
    cl (f_X10_wordOf l2 M) fun r4 M =>
    kT r4 (cl (f_J0_length_8abf5 r4 M) fun r5 M =>
    (pI M 10 18 (some this) (p3 + r5)).bind fun M =>
    (oO M 10 (some this)).bind fun o7 => cl (f_X10_entry o7 (nI 1) l2 M) fun u6 M =>
    some ((), M))))
set_option maxHeartbeats 2000000 in
set_option maxRecDepth 20000 in
theorem rf_X10_value_J62 (this : Nat) (l1 : Int32) (l2 : Int32) (M : Mem) : RF yX10_value cX10_value 3 none 6 eV (f_X10_value_J62 this l1 l2 M) 62 [(0, va_rf (some this)), (1, .int l1), (2, .int l2)] [] M := by
  rw [f_X10_value_J62]
  refine R_iload_n (pc' := 63) (i := 2) (j := 2) (x := l2) dX10_value_62 rfl rfl rfl ?_
  refine R_aloadq_n (pc' := 64) (i := 0) (j := 0) (q := (some this)) dX10_value_63 rfl rfl rfl ?_
  refine R_getI (pc' := 67) (q := (some this)) fl_X10_58 rfl dX10_value_64 rfl (fun words1 => ?_)
  refine R_icmp_ne (pc' := 70) (tgt := 77) (a := l2) (b := words1) dX10_value_67 (by decide) rfl ?_ ?_
  · refine R_aloadq_n (pc' := 78) (i := 0) (j := 0) (q := (some this)) dX10_value_77 rfl rfl rfl ?_
    refine R_iload_n (pc' := 79) (i := 1) (j := 1) (x := l1) dX10_value_78 rfl rfl rfl ?_
    refine R_callV_V (pc' := 82) (q := (some this)) (As := [.int l1]) (fun o8 => rm_X10_isCounted o8 l1 M) mf_X10_isCounted lk_X10_217 im_X10_isCounted se_X10_isCounted rfl rfl rfl dX10_value_79 rfl (by decide) (Nat.le_trans c_0 (by decide)) (fun u2 M => ?_)
    refine R_aloadq_n (pc' := 83) (i := 0) (j := 0) (q := (some this)) dX10_value_82 rfl rfl rfl ?_
    refine R_dup (pc' := 84) dX10_value_83 rfl (rf_cat _) ?_
    refine R_getI (pc' := 87) (q := (some this)) fl_X10_168 rfl dX10_value_84 rfl (fun p3 => ?_)
    refine R_iload_n (pc' := 88) (i := 2) (j := 2) (x := l2) dX10_value_87 rfl rfl rfl ?_
    refine R_callS_C (pc' := 91) (As := [.int l2]) (rm_X10_wordOf l2 M) mf_X10_wordOf lk_X10_223 sm_X10_wordOf rfl rfl dX10_value_88 rfl (by decide) (Nat.le_trans (c_I (c_R c_0)) (by decide)) (fun r4 M => ?_)
    refine R_callK_I (pc' := 94) (u := r4) (As := []) (rm_J0_length_8abf5 r4 M) mf_J0_length_8abf5 lk_X10_179 im_J0_length_8abf5 se_J0_length_8abf5 rfl rfl dX10_value_91 rfl (by decide) (Nat.le_trans (c_I (c_R c_0)) (by decide)) (fun r5 M => ?_)
    refine R_iadd (pc' := 95) (a := p3) (b := r5) dX10_value_94 rfl ?_
    refine R_putI (pc' := 98) (q := (some this)) (x := (p3 + r5)) fl_X10_168 (Or.inl rfl) dX10_value_95 rfl (fun M => ?_)
    refine R_aloadq_n (pc' := 99) (i := 0) (j := 0) (q := (some this)) dX10_value_98 rfl rfl rfl ?_
    refine R_iconst (pc' := 100) (x := (nI 1)) dX10_value_99 rfl (by decide) ?_
    refine R_iload_n (pc' := 101) (i := 2) (j := 2) (x := l2) dX10_value_100 rfl rfl rfl ?_
    refine R_callV_V (pc' := 104) (q := (some this)) (As := [.int (nI 1), .int l2]) (fun o7 => rm_X10_entry o7 (nI 1) l2 M) mf_X10_entry lk_X10_220 im_X10_entry se_X10_entry rfl rfl rfl dX10_value_101 rfl (by decide) (Nat.le_trans c_0 (by decide)) (fun u6 M => ?_)
    exact R_vret dX10_value_104
  · refine R_aloadq_n (pc' := 71) (i := 0) (j := 0) (q := (some this)) dX10_value_70 rfl rfl rfl ?_
    refine R_iconst (pc' := 72) (x := (nI 0)) dX10_value_71 rfl (by decide) ?_
    refine R_iload_n (pc' := 73) (i := 1) (j := 1) (x := l1) dX10_value_72 rfl rfl rfl ?_
    refine R_callV_V (pc' := 76) (q := (some this)) (As := [.int (nI 0), .int l1]) (fun o10 => rm_X10_fails o10 (nI 0) l1 M) mf_X10_fails lk_X10_204 im_X10_fails se_X10_fails rfl rfl rfl dX10_value_73 rfl (by decide) (Nat.le_trans c_0 (by decide)) (fun u9 M => ?_)
    exact R_vret dX10_value_76
def f_X10_value_L37 (this : Nat) : Nat → Int32 → Int32 → Mem → Option (Unit × Mem)
  | 0, _, _, _ => none
  | n + 1, l1, l2, M =>
    (gI M 10 26 (some this)).bind fun words1 =>
    (if words1 ≤ l2 then
      (f_X10_value_J62 this l1 l2 M)
    else
      (cl (f_X10_wordOf l2 M) fun r2 M =>
      (oO M 10 (some this)).bind fun o4 => cl (f_X10_stood o4 r2 M) fun r3 M =>
      (if r3 = 0 then
        ((f_X10_value_L37 this n) l1 (l2 + (nI 1)) M)
      else
        (f_X10_value_J62 this l1 l2 M))))
set_option maxHeartbeats 2000000 in
set_option maxRecDepth 20000 in
theorem rf_X10_value_L37 (this : Nat) : ∀ (n : Nat) (l1 : Int32) (l2 : Int32) (M : Mem), RF yX10_value cX10_value 3 none 6 eV (f_X10_value_L37 this n l1 l2 M) 37 [(0, va_rf (some this)), (1, .int l1), (2, .int l2)] [] M := by
  intro n
  induction n with
  | zero => intro _ _ _; exact RF.none
  | succ n ih =>
    intro l1 l2 M
    rw [f_X10_value_L37]
    refine R_iload_n (pc' := 38) (i := 2) (j := 2) (x := l2) dX10_value_37 rfl rfl rfl ?_
    refine R_aloadq_n (pc' := 39) (i := 0) (j := 0) (q := (some this)) dX10_value_38 rfl rfl rfl ?_
    refine R_getI (pc' := 42) (q := (some this)) fl_X10_58 rfl dX10_value_39 rfl (fun words1 => ?_)
    refine R_icmp_ge (pc' := 45) (tgt := 62) (a := l2) (b := words1) dX10_value_42 (by decide) rfl ?_ ?_
    · exact R_sub [0, 1, 2] rfl (rf_X10_value_J62 this l1 l2 M)
    · refine R_aloadq_n (pc' := 46) (i := 0) (j := 0) (q := (some this)) dX10_value_45 rfl rfl rfl ?_
      refine R_iload_n (pc' := 47) (i := 2) (j := 2) (x := l2) dX10_value_46 rfl rfl rfl ?_
      refine R_callS_C (pc' := 50) (As := [.int l2]) (rm_X10_wordOf l2 M) mf_X10_wordOf lk_X10_223 sm_X10_wordOf rfl rfl dX10_value_47 rfl (by decide) (Nat.le_trans (c_R c_0) (by decide)) (fun r2 M => ?_)
      refine R_callV_I (pc' := 53) (q := (some this)) (As := [.float r2]) (fun o4 => rm_X10_stood o4 r2 M) mf_X10_stood lk_X10_191 im_X10_stood se_X10_stood rfl rfl rfl dX10_value_50 rfl (by decide) (Nat.le_trans c_0 (by decide)) (fun r3 M => ?_)
      refine R_if_ne (pc' := 56) (tgt := 62) (a := r3) dX10_value_53 (by decide) rfl ?_ ?_
      · exact R_sub [0, 1, 2] rfl (rf_X10_value_J62 this l1 l2 M)
      · refine R_iinc (pc' := 59) (L' := [(2, .int (l2 + (nI 1))), (0, va_rf (some this)), (1, .int l1)]) (i := 2) (j := 2) (x := l2) (x2 := (l2 + (nI 1))) dX10_value_56 rfl rfl rfl (by decide) rfl ?_
        refine R_goto (tgt := 37) dX10_value_59 (by decide) ?_
        exact R_sub [1, 2, 0] rfl (ih l1 (l2 + (nI 1)) M)
def f_X10_value (this : Nat) (M : Mem) : Option (Unit × Mem) :=
  (oO M 10 (some this)).bind fun o11 => cl (f_X10_blanks o11 M) fun u1 M =>
  (gI M 10 18 (some this)).bind fun p2 =>
  (oO M 10 (some this)).bind fun o10 => cl (f_X10_isDigit o10 M) fun r3 M =>
  (if r3 = 0 then
    (f_X10_value_L37 this FU p2 (nI 0) M)
  else
    ((oO M 10 (some this)).bind fun o9 => cl (f_X10_digits o9 (nI 99999) M) fun r4 M =>
    (oO M 10 (some this)).bind fun o8 => cl (f_X10_isCounted o8 p2 M) fun u5 M =>
    (oO M 10 (some this)).bind fun o7 => cl (f_X10_entry o7 (nI 0) r4 M) fun u6 M =>
    some ((), M)))
set_option maxHeartbeats 2000000 in
set_option maxRecDepth 20000 in
theorem rm_X10_value (this : Nat) (M : Mem) : RFm yX10_value cX10_value 3 none 6 eV (f_X10_value this M) [va_rf (some this)] M := by
  refine RFm_of (L := [(0, va_rf (some this))]) (by decide) rfl (Nat.le_trans (c_R c_0) (by decide)) ?_
  rw [f_X10_value]
  refine R_aloadq_n (pc' := 1) (i := 0) (j := 0) (q := (some this)) dX10_value_0 rfl rfl rfl ?_
  refine R_callV_V (pc' := 4) (q := (some this)) (As := []) (fun o11 => rm_X10_blanks o11 M) mf_X10_blanks lk_X10_188 im_X10_blanks se_X10_blanks rfl rfl rfl dX10_value_1 rfl (by decide) (Nat.le_trans c_0 (by decide)) (fun u1 M => ?_)
  refine R_aloadq_n (pc' := 5) (i := 0) (j := 0) (q := (some this)) dX10_value_4 rfl rfl rfl ?_
  refine R_getI (pc' := 8) (q := (some this)) fl_X10_168 rfl dX10_value_5 rfl (fun p2 => ?_)
  refine R_istore_n (pc' := 9) (L' := [(1, .int p2), (0, va_rf (some this))]) (i := 1) (x := p2) dX10_value_8 rfl rfl (by decide) rfl ?_
  refine R_aloadq_n (pc' := 10) (i := 0) (j := 1) (q := (some this)) dX10_value_9 rfl rfl rfl ?_
  refine R_callV_I (pc' := 13) (q := (some this)) (As := []) (fun o10 => rm_X10_isDigit o10 M) mf_X10_isDigit lk_X10_208 im_X10_isDigit se_X10_isDigit rfl rfl rfl dX10_value_10 rfl (by decide) (Nat.le_trans c_0 (by decide)) (fun r3 M => ?_)
  refine R_if_eq (pc' := 16) (tgt := 35) (a := r3) dX10_value_13 (by decide) rfl ?_ ?_
  · refine R_iconst (pc' := 36) (x := (nI 0)) dX10_value_35 rfl (by decide) ?_
    refine R_istore_n (pc' := 37) (L' := [(2, .int (nI 0)), (1, .int p2), (0, va_rf (some this))]) (i := 2) (x := (nI 0)) dX10_value_36 rfl rfl (by decide) rfl ?_
    exact R_sub [2, 1, 0] rfl (rf_X10_value_L37 this FU p2 (nI 0) M)
  · refine R_aloadq_n (pc' := 17) (i := 0) (j := 1) (q := (some this)) dX10_value_16 rfl rfl rfl ?_
    refine R_ldc (pc' := 19) (x := (nI 99999)) dX10_value_17 rfl co_X10_212 ?_
    refine R_callV_I (pc' := 22) (q := (some this)) (As := [.int (nI 99999)]) (fun o9 => rm_X10_digits o9 (nI 99999) M) mf_X10_digits lk_X10_213 im_X10_digits se_X10_digits rfl rfl rfl dX10_value_19 rfl (by decide) (Nat.le_trans c_0 (by decide)) (fun r4 M => ?_)
    refine R_istore_n (pc' := 23) (L' := [(2, .int r4), (1, .int p2), (0, va_rf (some this))]) (i := 2) (x := r4) dX10_value_22 rfl rfl (by decide) rfl ?_
    refine R_aloadq_n (pc' := 24) (i := 0) (j := 2) (q := (some this)) dX10_value_23 rfl rfl rfl ?_
    refine R_iload_n (pc' := 25) (i := 1) (j := 1) (x := p2) dX10_value_24 rfl rfl rfl ?_
    refine R_callV_V (pc' := 28) (q := (some this)) (As := [.int p2]) (fun o8 => rm_X10_isCounted o8 p2 M) mf_X10_isCounted lk_X10_217 im_X10_isCounted se_X10_isCounted rfl rfl rfl dX10_value_25 rfl (by decide) (Nat.le_trans c_0 (by decide)) (fun u5 M => ?_)
    refine R_aloadq_n (pc' := 29) (i := 0) (j := 2) (q := (some this)) dX10_value_28 rfl rfl rfl ?_
    refine R_iconst (pc' := 30) (x := (nI 0)) dX10_value_29 rfl (by decide) ?_
    refine R_iload_n (pc' := 31) (i := 2) (j := 0) (x := r4) dX10_value_30 rfl rfl rfl ?_
    refine R_callV_V (pc' := 34) (q := (some this)) (As := [.int (nI 0), .int r4]) (fun o7 => rm_X10_entry o7 (nI 0) r4 M) mf_X10_entry lk_X10_220 im_X10_entry se_X10_entry rfl rfl rfl dX10_value_31 rfl (by decide) (Nat.le_trans c_0 (by decide)) (fun u6 M => ?_)
    exact R_vret dX10_value_34
/-! BarPilotModel.term()V -/
def f_X10_term_J100 (this : Nat) (M : Mem) : Option (Unit × Mem) :=
  some ((), M)
set_option maxHeartbeats 2000000 in
set_option maxRecDepth 20000 in
theorem rf_X10_term_J100 (this : Nat) (M : Mem) : RF yX10_term cX10_term 2 none 7 eV (f_X10_term_J100 this M) 100 [] [] M := by
  rw [f_X10_term_J100]
  exact R_vret dX10_term_100
def f_X10_term_J72 (k8 : Mem → Option (Unit × Mem)) (this : Nat) (s0 : Int32) (M : Mem) : Option (Unit × Mem) :=
  (gI M 10 18 (some this)).bind fun p1 =>
  (pI M 10 18 (some this) (p1 + (nI 1))).bind fun M =>
  (oO M 10 (some this)).bind fun o7 => cl (f_X10_value o7 M) fun u2 M =>
  (oO M 10 (some this)).bind fun o6 => cl (f_X10_entry o6 s0 (nI 0) M) fun u3 M =>
  (oO M 10 (some this)).bind fun o5 => cl (f_X10_blanks o5 M) fun u4 M =>
  k8 M
set_option maxHeartbeats 2000000 in
set_option maxRecDepth 20000 in
theorem rf_X10_term_J72 (this : Nat) (k8 : Mem → Option (Unit × Mem)) (hk8 : ∀ (M : Mem), RF yX10_term cX10_term 2 none 7 eV (k8 M) 8 [(0, va_rf (some this))] [] M) (s0 : Int32) (M : Mem) : RF yX10_term cX10_term 2 none 7 eV (f_X10_term_J72 k8 this s0 M) 72 [(0, va_rf (some this))] [.int s0] M := by
  rw [f_X10_term_J72]
  refine R_istore_n (pc' := 73) (L' := [(1, .int s0), (0, va_rf (some this))]) (i := 1) (x := s0) dX10_term_72 rfl rfl (by decide) rfl ?_
  refine R_aloadq_n (pc' := 74) (i := 0) (j := 1) (q := (some this)) dX10_term_73 rfl rfl rfl ?_
  refine R_dup (pc' := 75) dX10_term_74 rfl (rf_cat _) ?_
  refine R_getI (pc' := 78) (q := (some this)) fl_X10_168 rfl dX10_term_75 rfl (fun p1 => ?_)
  refine R_iconst (pc' := 79) (x := (nI 1)) dX10_term_78 rfl (by decide) ?_
  refine R_iadd (pc' := 80) (a := p1) (b := (nI 1)) dX10_term_79 rfl ?_
  refine R_putI (pc' := 83) (q := (some this)) (x := (p1 + (nI 1))) fl_X10_168 (Or.inl rfl) dX10_term_80 rfl (fun M => ?_)
  refine R_aloadq_n (pc' := 84) (i := 0) (j := 1) (q := (some this)) dX10_term_83 rfl rfl rfl ?_
  refine R_callV_V (pc' := 87) (q := (some this)) (As := []) (fun o7 => rm_X10_value o7 M) mf_X10_value lk_X10_227 im_X10_value se_X10_value rfl rfl rfl dX10_term_84 rfl (by decide) (Nat.le_trans c_0 (by decide)) (fun u2 M => ?_)
  refine R_aloadq_n (pc' := 88) (i := 0) (j := 1) (q := (some this)) dX10_term_87 rfl rfl rfl ?_
  refine R_iload_n (pc' := 89) (i := 1) (j := 0) (x := s0) dX10_term_88 rfl rfl rfl ?_
  refine R_iconst (pc' := 90) (x := (nI 0)) dX10_term_89 rfl (by decide) ?_
  refine R_callV_V (pc' := 93) (q := (some this)) (As := [.int s0, .int (nI 0)]) (fun o6 => rm_X10_entry o6 s0 (nI 0) M) mf_X10_entry lk_X10_220 im_X10_entry se_X10_entry rfl rfl rfl dX10_term_90 rfl (by decide) (Nat.le_trans c_0 (by decide)) (fun u3 M => ?_)
  refine R_aloadq_n (pc' := 94) (i := 0) (j := 1) (q := (some this)) dX10_term_93 rfl rfl rfl ?_
  refine R_callV_V (pc' := 97) (q := (some this)) (As := []) (fun o5 => rm_X10_blanks o5 M) mf_X10_blanks lk_X10_188 im_X10_blanks se_X10_blanks rfl rfl rfl dX10_term_94 rfl (by decide) (Nat.le_trans c_0 (by decide)) (fun u4 M => ?_)
  refine R_goto (tgt := 8) dX10_term_97 (by decide) ?_
  exact R_sub [1] rfl (hk8 M)
def f_X10_term_J42 (k8 : Mem → Option (Unit × Mem)) (this : Nat) (M : Mem) : Option (Unit × Mem) :=
  (oO M 10 (some this)).bind fun o4 => cl (f_X10_sign o4 M) fun r1 M =>
  (if r1 = (nI 42) then
    (f_X10_term_J72 k8 this (nI 13) M)
  else
    ((oO M 10 (some this)).bind fun o3 => cl (f_X10_sign o3 M) fun r2 M =>
    (if r2 = (nI 47) then
      (f_X10_term_J72 k8 this (nI 14) M)
    else
      (f_X10_term_J72 k8 this (nI 15) M))))
set_option maxHeartbeats 2000000 in
set_option maxRecDepth 20000 in
theorem rf_X10_term_J42 (this : Nat) (k8 : Mem → Option (Unit × Mem)) (hk8 : ∀ (M : Mem), RF yX10_term cX10_term 2 none 7 eV (k8 M) 8 [(0, va_rf (some this))] [] M) (M : Mem) : RF yX10_term cX10_term 2 none 7 eV (f_X10_term_J42 k8 this M) 42 [(0, va_rf (some this))] [] M := by
  rw [f_X10_term_J42]
  refine R_aloadq_n (pc' := 43) (i := 0) (j := 0) (q := (some this)) dX10_term_42 rfl rfl rfl ?_
  refine R_callV_I (pc' := 46) (q := (some this)) (As := []) (fun o4 => rm_X10_sign o4 M) mf_X10_sign lk_X10_171 im_X10_sign se_X10_sign rfl rfl rfl dX10_term_43 rfl (by decide) (Nat.le_trans c_0 (by decide)) (fun r1 M => ?_)
  refine R_bipush (pc' := 48) (x := (nI 42)) dX10_term_46 rfl (by decide) ?_
  refine R_icmp_ne (pc' := 51) (tgt := 56) (a := r1) (b := (nI 42)) dX10_term_48 (by decide) rfl ?_ ?_
  · refine R_aloadq_n (pc' := 57) (i := 0) (j := 0) (q := (some this)) dX10_term_56 rfl rfl rfl ?_
    refine R_callV_I (pc' := 60) (q := (some this)) (As := []) (fun o3 => rm_X10_sign o3 M) mf_X10_sign lk_X10_171 im_X10_sign se_X10_sign rfl rfl rfl dX10_term_57 rfl (by decide) (Nat.le_trans c_0 (by decide)) (fun r2 M => ?_)
    refine R_bipush (pc' := 62) (x := (nI 47)) dX10_term_60 rfl (by decide) ?_
    refine R_icmp_ne (pc' := 65) (tgt := 70) (a := r2) (b := (nI 47)) dX10_term_62 (by decide) rfl ?_ ?_
    · refine R_bipush (pc' := 72) (x := (nI 15)) dX10_term_70 rfl (by decide) ?_
      exact R_sub [0] rfl (rf_X10_term_J72 this k8 hk8 (nI 15) M)
    · refine R_bipush (pc' := 67) (x := (nI 14)) dX10_term_65 rfl (by decide) ?_
      refine R_goto (tgt := 72) dX10_term_67 (by decide) ?_
      exact R_sub [0] rfl (rf_X10_term_J72 this k8 hk8 (nI 14) M)
  · refine R_bipush (pc' := 53) (x := (nI 13)) dX10_term_51 rfl (by decide) ?_
    refine R_goto (tgt := 72) dX10_term_53 (by decide) ?_
    exact R_sub [0] rfl (rf_X10_term_J72 this k8 hk8 (nI 13) M)
def f_X10_term_L8 (this : Nat) : Nat → Mem → Option (Unit × Mem)
  | 0, _ => none
  | n + 1, M =>
    (gI M 10 19 (some this)).bind fun fault1 =>
    (if fault1 = 0 then
      ((oO M 10 (some this)).bind fun o7 => cl (f_X10_sign o7 M) fun r2 M =>
      (if r2 = (nI 42) then
        (f_X10_term_J42 (f_X10_term_L8 this n) this M)
      else
        ((oO M 10 (some this)).bind fun o6 => cl (f_X10_sign o6 M) fun r3 M =>
        (if r3 = (nI 47) then
          (f_X10_term_J42 (f_X10_term_L8 this n) this M)
        else
          ((oO M 10 (some this)).bind fun o5 => cl (f_X10_sign o5 M) fun r4 M =>
          (if r4 = (nI 37) then
            (f_X10_term_J42 (f_X10_term_L8 this n) this M)
          else
            (f_X10_term_J100 this M)))))))
    else
      (f_X10_term_J100 this M))
set_option maxHeartbeats 2000000 in
set_option maxRecDepth 20000 in
theorem rf_X10_term_L8 (this : Nat) : ∀ (n : Nat) (M : Mem), RF yX10_term cX10_term 2 none 7 eV (f_X10_term_L8 this n M) 8 [(0, va_rf (some this))] [] M := by
  intro n
  induction n with
  | zero => intro _; exact RF.none
  | succ n ih =>
    intro M
    rw [f_X10_term_L8]
    refine R_aloadq_n (pc' := 9) (i := 0) (j := 0) (q := (some this)) dX10_term_8 rfl rfl rfl ?_
    refine R_getI (pc' := 12) (q := (some this)) fl_X10_165 rfl dX10_term_9 rfl (fun fault1 => ?_)
    refine R_if_ne (pc' := 15) (tgt := 100) (a := fault1) dX10_term_12 (by decide) rfl ?_ ?_
    · exact R_sub [] rfl (rf_X10_term_J100 this M)
    · refine R_aloadq_n (pc' := 16) (i := 0) (j := 0) (q := (some this)) dX10_term_15 rfl rfl rfl ?_
      refine R_callV_I (pc' := 19) (q := (some this)) (As := []) (fun o7 => rm_X10_sign o7 M) mf_X10_sign lk_X10_171 im_X10_sign se_X10_sign rfl rfl rfl dX10_term_16 rfl (by decide) (Nat.le_trans c_0 (by decide)) (fun r2 M => ?_)
      refine R_bipush (pc' := 21) (x := (nI 42)) dX10_term_19 rfl (by decide) ?_
      refine R_icmp_eq (pc' := 24) (tgt := 42) (a := r2) (b := (nI 42)) dX10_term_21 (by decide) rfl ?_ ?_
      · exact R_sub [0] rfl (rf_X10_term_J42 this (f_X10_term_L8 this n) ih M)
      · refine R_aloadq_n (pc' := 25) (i := 0) (j := 0) (q := (some this)) dX10_term_24 rfl rfl rfl ?_
        refine R_callV_I (pc' := 28) (q := (some this)) (As := []) (fun o6 => rm_X10_sign o6 M) mf_X10_sign lk_X10_171 im_X10_sign se_X10_sign rfl rfl rfl dX10_term_25 rfl (by decide) (Nat.le_trans c_0 (by decide)) (fun r3 M => ?_)
        refine R_bipush (pc' := 30) (x := (nI 47)) dX10_term_28 rfl (by decide) ?_
        refine R_icmp_eq (pc' := 33) (tgt := 42) (a := r3) (b := (nI 47)) dX10_term_30 (by decide) rfl ?_ ?_
        · exact R_sub [0] rfl (rf_X10_term_J42 this (f_X10_term_L8 this n) ih M)
        · refine R_aloadq_n (pc' := 34) (i := 0) (j := 0) (q := (some this)) dX10_term_33 rfl rfl rfl ?_
          refine R_callV_I (pc' := 37) (q := (some this)) (As := []) (fun o5 => rm_X10_sign o5 M) mf_X10_sign lk_X10_171 im_X10_sign se_X10_sign rfl rfl rfl dX10_term_34 rfl (by decide) (Nat.le_trans c_0 (by decide)) (fun r4 M => ?_)
          refine R_bipush (pc' := 39) (x := (nI 37)) dX10_term_37 rfl (by decide) ?_
          refine R_icmp_ne (pc' := 42) (tgt := 100) (a := r4) (b := (nI 37)) dX10_term_39 (by decide) rfl ?_ ?_
          · exact R_sub [] rfl (rf_X10_term_J100 this M)
          · exact R_sub [0] rfl (rf_X10_term_J42 this (f_X10_term_L8 this n) ih M)
def f_X10_term (this : Nat) (M : Mem) : Option (Unit × Mem) :=
  (oO M 10 (some this)).bind fun o4 => cl (f_X10_value o4 M) fun u1 M =>
  (oO M 10 (some this)).bind fun o3 => cl (f_X10_blanks o3 M) fun u2 M =>
  f_X10_term_L8 this FU M
set_option maxHeartbeats 2000000 in
set_option maxRecDepth 20000 in
theorem rm_X10_term (this : Nat) (M : Mem) : RFm yX10_term cX10_term 2 none 7 eV (f_X10_term this M) [va_rf (some this)] M := by
  refine RFm_of (L := [(0, va_rf (some this))]) (by decide) rfl (Nat.le_trans (c_R c_0) (by decide)) ?_
  rw [f_X10_term]
  refine R_aloadq_n (pc' := 1) (i := 0) (j := 0) (q := (some this)) dX10_term_0 rfl rfl rfl ?_
  refine R_callV_V (pc' := 4) (q := (some this)) (As := []) (fun o4 => rm_X10_value o4 M) mf_X10_value lk_X10_227 im_X10_value se_X10_value rfl rfl rfl dX10_term_1 rfl (by decide) (Nat.le_trans c_0 (by decide)) (fun u1 M => ?_)
  refine R_aloadq_n (pc' := 5) (i := 0) (j := 0) (q := (some this)) dX10_term_4 rfl rfl rfl ?_
  refine R_callV_V (pc' := 8) (q := (some this)) (As := []) (fun o3 => rm_X10_blanks o3 M) mf_X10_blanks lk_X10_188 im_X10_blanks se_X10_blanks rfl rfl rfl dX10_term_5 rfl (by decide) (Nat.le_trans c_0 (by decide)) (fun u2 M => ?_)
  exact R_sub [0] rfl (rf_X10_term_L8 this FU M)
/-! BarPilotModel.sum()V -/
def f_X10_sum_J67 (this : Nat) (M : Mem) : Option (Unit × Mem) :=
  some ((), M)
set_option maxHeartbeats 2000000 in
set_option maxRecDepth 20000 in
theorem rf_X10_sum_J67 (this : Nat) (M : Mem) : RF yX10_sum cX10_sum 2 none 8 eV (f_X10_sum_J67 this M) 67 [] [] M := by
  rw [f_X10_sum_J67]
  exact R_vret dX10_sum_67
def f_X10_sum_J43 (k4 : Mem → Option (Unit × Mem)) (this : Nat) (s0 : Int32) (M : Mem) : Option (Unit × Mem) :=
  (gI M 10 18 (some this)).bind fun p1 =>
  (pI M 10 18 (some this) (p1 + (nI 1))).bind fun M =>
  (oO M 10 (some this)).bind fun o5 => cl (f_X10_term o5 M) fun u2 M =>
  (oO M 10 (some this)).bind fun o4 => cl (f_X10_entry o4 s0 (nI 0) M) fun u3 M =>
  k4 M
set_option maxHeartbeats 2000000 in
set_option maxRecDepth 20000 in
theorem rf_X10_sum_J43 (this : Nat) (k4 : Mem → Option (Unit × Mem)) (hk4 : ∀ (M : Mem), RF yX10_sum cX10_sum 2 none 8 eV (k4 M) 4 [(0, va_rf (some this))] [] M) (s0 : Int32) (M : Mem) : RF yX10_sum cX10_sum 2 none 8 eV (f_X10_sum_J43 k4 this s0 M) 43 [(0, va_rf (some this))] [.int s0] M := by
  rw [f_X10_sum_J43]
  refine R_istore_n (pc' := 44) (L' := [(1, .int s0), (0, va_rf (some this))]) (i := 1) (x := s0) dX10_sum_43 rfl rfl (by decide) rfl ?_
  refine R_aloadq_n (pc' := 45) (i := 0) (j := 1) (q := (some this)) dX10_sum_44 rfl rfl rfl ?_
  refine R_dup (pc' := 46) dX10_sum_45 rfl (rf_cat _) ?_
  refine R_getI (pc' := 49) (q := (some this)) fl_X10_168 rfl dX10_sum_46 rfl (fun p1 => ?_)
  refine R_iconst (pc' := 50) (x := (nI 1)) dX10_sum_49 rfl (by decide) ?_
  refine R_iadd (pc' := 51) (a := p1) (b := (nI 1)) dX10_sum_50 rfl ?_
  refine R_putI (pc' := 54) (q := (some this)) (x := (p1 + (nI 1))) fl_X10_168 (Or.inl rfl) dX10_sum_51 rfl (fun M => ?_)
  refine R_aloadq_n (pc' := 55) (i := 0) (j := 1) (q := (some this)) dX10_sum_54 rfl rfl rfl ?_
  refine R_callV_V (pc' := 58) (q := (some this)) (As := []) (fun o5 => rm_X10_term o5 M) mf_X10_term lk_X10_230 im_X10_term se_X10_term rfl rfl rfl dX10_sum_55 rfl (by decide) (Nat.le_trans c_0 (by decide)) (fun u2 M => ?_)
  refine R_aloadq_n (pc' := 59) (i := 0) (j := 1) (q := (some this)) dX10_sum_58 rfl rfl rfl ?_
  refine R_iload_n (pc' := 60) (i := 1) (j := 0) (x := s0) dX10_sum_59 rfl rfl rfl ?_
  refine R_iconst (pc' := 61) (x := (nI 0)) dX10_sum_60 rfl (by decide) ?_
  refine R_callV_V (pc' := 64) (q := (some this)) (As := [.int s0, .int (nI 0)]) (fun o4 => rm_X10_entry o4 s0 (nI 0) M) mf_X10_entry lk_X10_220 im_X10_entry se_X10_entry rfl rfl rfl dX10_sum_61 rfl (by decide) (Nat.le_trans c_0 (by decide)) (fun u3 M => ?_)
  refine R_goto (tgt := 4) dX10_sum_64 (by decide) ?_
  exact R_sub [1] rfl (hk4 M)
def f_X10_sum_J29 (k4 : Mem → Option (Unit × Mem)) (this : Nat) (M : Mem) : Option (Unit × Mem) :=
  (oO M 10 (some this)).bind fun o2 => cl (f_X10_sign o2 M) fun r1 M =>
  (if r1 = (nI 43) then
    (f_X10_sum_J43 k4 this (nI 2) M)
  else
    (f_X10_sum_J43 k4 this (nI 3) M))
set_option maxHeartbeats 2000000 in
set_option maxRecDepth 20000 in
theorem rf_X10_sum_J29 (this : Nat) (k4 : Mem → Option (Unit × Mem)) (hk4 : ∀ (M : Mem), RF yX10_sum cX10_sum 2 none 8 eV (k4 M) 4 [(0, va_rf (some this))] [] M) (M : Mem) : RF yX10_sum cX10_sum 2 none 8 eV (f_X10_sum_J29 k4 this M) 29 [(0, va_rf (some this))] [] M := by
  rw [f_X10_sum_J29]
  refine R_aloadq_n (pc' := 30) (i := 0) (j := 0) (q := (some this)) dX10_sum_29 rfl rfl rfl ?_
  refine R_callV_I (pc' := 33) (q := (some this)) (As := []) (fun o2 => rm_X10_sign o2 M) mf_X10_sign lk_X10_171 im_X10_sign se_X10_sign rfl rfl rfl dX10_sum_30 rfl (by decide) (Nat.le_trans c_0 (by decide)) (fun r1 M => ?_)
  refine R_bipush (pc' := 35) (x := (nI 43)) dX10_sum_33 rfl (by decide) ?_
  refine R_icmp_ne (pc' := 38) (tgt := 42) (a := r1) (b := (nI 43)) dX10_sum_35 (by decide) rfl ?_ ?_
  · refine R_iconst (pc' := 43) (x := (nI 3)) dX10_sum_42 rfl (by decide) ?_
    exact R_sub [0] rfl (rf_X10_sum_J43 this k4 hk4 (nI 3) M)
  · refine R_iconst (pc' := 39) (x := (nI 2)) dX10_sum_38 rfl (by decide) ?_
    refine R_goto (tgt := 43) dX10_sum_39 (by decide) ?_
    exact R_sub [0] rfl (rf_X10_sum_J43 this k4 hk4 (nI 2) M)
def f_X10_sum_L4 (this : Nat) : Nat → Mem → Option (Unit × Mem)
  | 0, _ => none
  | n + 1, M =>
    (gI M 10 19 (some this)).bind fun fault1 =>
    (if fault1 = 0 then
      ((oO M 10 (some this)).bind fun o5 => cl (f_X10_sign o5 M) fun r2 M =>
      (if r2 = (nI 43) then
        (f_X10_sum_J29 (f_X10_sum_L4 this n) this M)
      else
        ((oO M 10 (some this)).bind fun o4 => cl (f_X10_sign o4 M) fun r3 M =>
        (if r3 = (nI 45) then
          (f_X10_sum_J29 (f_X10_sum_L4 this n) this M)
        else
          (f_X10_sum_J67 this M)))))
    else
      (f_X10_sum_J67 this M))
set_option maxHeartbeats 2000000 in
set_option maxRecDepth 20000 in
theorem rf_X10_sum_L4 (this : Nat) : ∀ (n : Nat) (M : Mem), RF yX10_sum cX10_sum 2 none 8 eV (f_X10_sum_L4 this n M) 4 [(0, va_rf (some this))] [] M := by
  intro n
  induction n with
  | zero => intro _; exact RF.none
  | succ n ih =>
    intro M
    rw [f_X10_sum_L4]
    refine R_aloadq_n (pc' := 5) (i := 0) (j := 0) (q := (some this)) dX10_sum_4 rfl rfl rfl ?_
    refine R_getI (pc' := 8) (q := (some this)) fl_X10_165 rfl dX10_sum_5 rfl (fun fault1 => ?_)
    refine R_if_ne (pc' := 11) (tgt := 67) (a := fault1) dX10_sum_8 (by decide) rfl ?_ ?_
    · exact R_sub [] rfl (rf_X10_sum_J67 this M)
    · refine R_aloadq_n (pc' := 12) (i := 0) (j := 0) (q := (some this)) dX10_sum_11 rfl rfl rfl ?_
      refine R_callV_I (pc' := 15) (q := (some this)) (As := []) (fun o5 => rm_X10_sign o5 M) mf_X10_sign lk_X10_171 im_X10_sign se_X10_sign rfl rfl rfl dX10_sum_12 rfl (by decide) (Nat.le_trans c_0 (by decide)) (fun r2 M => ?_)
      refine R_bipush (pc' := 17) (x := (nI 43)) dX10_sum_15 rfl (by decide) ?_
      refine R_icmp_eq (pc' := 20) (tgt := 29) (a := r2) (b := (nI 43)) dX10_sum_17 (by decide) rfl ?_ ?_
      · exact R_sub [0] rfl (rf_X10_sum_J29 this (f_X10_sum_L4 this n) ih M)
      · refine R_aloadq_n (pc' := 21) (i := 0) (j := 0) (q := (some this)) dX10_sum_20 rfl rfl rfl ?_
        refine R_callV_I (pc' := 24) (q := (some this)) (As := []) (fun o4 => rm_X10_sign o4 M) mf_X10_sign lk_X10_171 im_X10_sign se_X10_sign rfl rfl rfl dX10_sum_21 rfl (by decide) (Nat.le_trans c_0 (by decide)) (fun r3 M => ?_)
        refine R_bipush (pc' := 26) (x := (nI 45)) dX10_sum_24 rfl (by decide) ?_
        refine R_icmp_ne (pc' := 29) (tgt := 67) (a := r3) (b := (nI 45)) dX10_sum_26 (by decide) rfl ?_ ?_
        · exact R_sub [] rfl (rf_X10_sum_J67 this M)
        · exact R_sub [0] rfl (rf_X10_sum_J29 this (f_X10_sum_L4 this n) ih M)
def f_X10_sum (this : Nat) (M : Mem) : Option (Unit × Mem) :=
  (oO M 10 (some this)).bind fun o2 => cl (f_X10_term o2 M) fun u1 M =>
  f_X10_sum_L4 this FU M
set_option maxHeartbeats 2000000 in
set_option maxRecDepth 20000 in
theorem rm_X10_sum (this : Nat) (M : Mem) : RFm yX10_sum cX10_sum 2 none 8 eV (f_X10_sum this M) [va_rf (some this)] M := by
  refine RFm_of (L := [(0, va_rf (some this))]) (by decide) rfl (Nat.le_trans (c_R c_0) (by decide)) ?_
  rw [f_X10_sum]
  refine R_aloadq_n (pc' := 1) (i := 0) (j := 0) (q := (some this)) dX10_sum_0 rfl rfl rfl ?_
  refine R_callV_V (pc' := 4) (q := (some this)) (As := []) (fun o2 => rm_X10_term o2 M) mf_X10_term lk_X10_230 im_X10_term se_X10_term rfl rfl rfl dX10_sum_1 rfl (by decide) (Nat.le_trans c_0 (by decide)) (fun u1 M => ?_)
  exact R_sub [0] rfl (rf_X10_sum_L4 this FU M)
/-! BarPilotModel.compared()V -/
def f_X10_compared_J139 (this : Nat) (s0 : Int32) (s1 : Option Nat) (M : Mem) : Option (Unit × Mem) :=
  (oO M 10 s1).bind fun o2 => cl (f_X10_entry o2 s0 (nI 0) M) fun u1 M =>
  some ((), M)
set_option maxHeartbeats 2000000 in
set_option maxRecDepth 20000 in
theorem rf_X10_compared_J139 (this : Nat) (s0 : Int32) (s1 : Option Nat) (M : Mem) : RF yX10_compared cX10_compared 3 none 9 eV (f_X10_compared_J139 this s0 s1 M) 139 [] [.int s0, va_rf s1] M := by
  rw [f_X10_compared_J139]
  refine R_iconst (pc' := 140) (x := (nI 0)) dX10_compared_139 rfl (by decide) ?_
  refine R_callV_V (pc' := 143) (q := s1) (As := [.int s0, .int (nI 0)]) (fun o2 => rm_X10_entry o2 s0 (nI 0) M) mf_X10_entry lk_X10_220 im_X10_entry se_X10_entry rfl rfl rfl dX10_compared_140 rfl (by decide) (Nat.le_trans c_0 (by decide)) (fun u1 M => ?_)
  exact R_vret dX10_compared_143
def f_X10_compared_J90 (this : Nat) (l1 : Int32) (l2 : Int32) (s0 : Int32) (s1 : Int32) (s2 : Option Nat) (M : Mem) : Option (Unit × Mem) :=
  (pI M 10 18 s2 (s1 + s0)).bind fun M =>
  (oO M 10 (some this)).bind fun o2 => cl (f_X10_sum o2 M) fun u1 M =>
  (if l1 = (nI 61) then
    (f_X10_compared_J139 this (nI 6) (some this) M)
  else
    ((if l1 = (nI 60) then
      ((if l2 = 0 then
        (f_X10_compared_J139 this (nI 4) (some this) M)
      else
        (f_X10_compared_J139 this (nI 5) (some this) M)))
    else
      ((if l2 = 0 then
        (f_X10_compared_J139 this (nI 8) (some this) M)
      else
        (f_X10_compared_J139 this (nI 7) (some this) M))))))
set_option maxHeartbeats 2000000 in
set_option maxRecDepth 20000 in
theorem rf_X10_compared_J90 (this : Nat) (l1 : Int32) (l2 : Int32) (s0 : Int32) (s1 : Int32) (s2 : Option Nat) (M : Mem) : RF yX10_compared cX10_compared 3 none 9 eV (f_X10_compared_J90 this l1 l2 s0 s1 s2 M) 90 [(0, va_rf (some this)), (1, .int l1), (2, .int l2)] [.int s0, .int s1, va_rf s2] M := by
  rw [f_X10_compared_J90]
  refine R_iadd (pc' := 91) (a := s1) (b := s0) dX10_compared_90 rfl ?_
  refine R_putI (pc' := 94) (q := s2) (x := (s1 + s0)) fl_X10_168 (Or.inl rfl) dX10_compared_91 rfl (fun M => ?_)
  refine R_aloadq_n (pc' := 95) (i := 0) (j := 0) (q := (some this)) dX10_compared_94 rfl rfl rfl ?_
  refine R_callV_V (pc' := 98) (q := (some this)) (As := []) (fun o2 => rm_X10_sum o2 M) mf_X10_sum lk_X10_233 im_X10_sum se_X10_sum rfl rfl rfl dX10_compared_95 rfl (by decide) (Nat.le_trans c_0 (by decide)) (fun u1 M => ?_)
  refine R_aloadq_n (pc' := 99) (i := 0) (j := 0) (q := (some this)) dX10_compared_98 rfl rfl rfl ?_
  refine R_iload_n (pc' := 100) (i := 1) (j := 1) (x := l1) dX10_compared_99 rfl rfl rfl ?_
  refine R_bipush (pc' := 102) (x := (nI 61)) dX10_compared_100 rfl (by decide) ?_
  refine R_icmp_ne (pc' := 105) (tgt := 110) (a := l1) (b := (nI 61)) dX10_compared_102 (by decide) rfl ?_ ?_
  · refine R_iload_n (pc' := 111) (i := 1) (j := 1) (x := l1) dX10_compared_110 rfl rfl rfl ?_
    refine R_bipush (pc' := 113) (x := (nI 60)) dX10_compared_111 rfl (by decide) ?_
    refine R_icmp_ne (pc' := 116) (tgt := 128) (a := l1) (b := (nI 60)) dX10_compared_113 (by decide) rfl ?_ ?_
    · refine R_iload_n (pc' := 129) (i := 2) (j := 2) (x := l2) dX10_compared_128 rfl rfl rfl ?_
      refine R_if_eq (pc' := 132) (tgt := 137) (a := l2) dX10_compared_129 (by decide) rfl ?_ ?_
      · refine R_bipush (pc' := 139) (x := (nI 8)) dX10_compared_137 rfl (by decide) ?_
        exact R_sub [] rfl (rf_X10_compared_J139 this (nI 8) (some this) M)
      · refine R_bipush (pc' := 134) (x := (nI 7)) dX10_compared_132 rfl (by decide) ?_
        refine R_goto (tgt := 139) dX10_compared_134 (by decide) ?_
        exact R_sub [] rfl (rf_X10_compared_J139 this (nI 7) (some this) M)
    · refine R_iload_n (pc' := 117) (i := 2) (j := 2) (x := l2) dX10_compared_116 rfl rfl rfl ?_
      refine R_if_eq (pc' := 120) (tgt := 124) (a := l2) dX10_compared_117 (by decide) rfl ?_ ?_
      · refine R_iconst (pc' := 125) (x := (nI 4)) dX10_compared_124 rfl (by decide) ?_
        refine R_goto (tgt := 139) dX10_compared_125 (by decide) ?_
        exact R_sub [] rfl (rf_X10_compared_J139 this (nI 4) (some this) M)
      · refine R_iconst (pc' := 121) (x := (nI 5)) dX10_compared_120 rfl (by decide) ?_
        refine R_goto (tgt := 139) dX10_compared_121 (by decide) ?_
        exact R_sub [] rfl (rf_X10_compared_J139 this (nI 5) (some this) M)
  · refine R_bipush (pc' := 107) (x := (nI 6)) dX10_compared_105 rfl (by decide) ?_
    refine R_goto (tgt := 139) dX10_compared_107 (by decide) ?_
    exact R_sub [] rfl (rf_X10_compared_J139 this (nI 6) (some this) M)
def f_X10_compared_J75 (this : Nat) (l1 : Int32) (s0 : Int32) (M : Mem) : Option (Unit × Mem) :=
  (gI M 10 18 (some this)).bind fun p1 =>
  (if s0 = 0 then
    (f_X10_compared_J90 this l1 s0 (nI 0) p1 (some this) M)
  else
    (f_X10_compared_J90 this l1 s0 (nI 1) p1 (some this) M))
set_option maxHeartbeats 2000000 in
set_option maxRecDepth 20000 in
theorem rf_X10_compared_J75 (this : Nat) (l1 : Int32) (s0 : Int32) (M : Mem) : RF yX10_compared cX10_compared 3 none 9 eV (f_X10_compared_J75 this l1 s0 M) 75 [(0, va_rf (some this)), (1, .int l1)] [.int s0] M := by
  rw [f_X10_compared_J75]
  refine R_istore_n (pc' := 76) (L' := [(2, .int s0), (0, va_rf (some this)), (1, .int l1)]) (i := 2) (x := s0) dX10_compared_75 rfl rfl (by decide) rfl ?_
  refine R_aloadq_n (pc' := 77) (i := 0) (j := 1) (q := (some this)) dX10_compared_76 rfl rfl rfl ?_
  refine R_dup (pc' := 78) dX10_compared_77 rfl (rf_cat _) ?_
  refine R_getI (pc' := 81) (q := (some this)) fl_X10_168 rfl dX10_compared_78 rfl (fun p1 => ?_)
  refine R_iload_n (pc' := 82) (i := 2) (j := 0) (x := s0) dX10_compared_81 rfl rfl rfl ?_
  refine R_if_eq (pc' := 85) (tgt := 89) (a := s0) dX10_compared_82 (by decide) rfl ?_ ?_
  · refine R_iconst (pc' := 90) (x := (nI 0)) dX10_compared_89 rfl (by decide) ?_
    exact R_sub [1, 2, 0] rfl (rf_X10_compared_J90 this l1 s0 (nI 0) p1 (some this) M)
  · refine R_iconst (pc' := 86) (x := (nI 1)) dX10_compared_85 rfl (by decide) ?_
    refine R_goto (tgt := 90) dX10_compared_86 (by decide) ?_
    exact R_sub [1, 2, 0] rfl (rf_X10_compared_J90 this l1 s0 (nI 1) p1 (some this) M)
def f_X10_compared_J74 (this : Nat) (l1 : Int32) (M : Mem) : Option (Unit × Mem) :=
  f_X10_compared_J75 this l1 (nI 0) M
set_option maxHeartbeats 2000000 in
set_option maxRecDepth 20000 in
theorem rf_X10_compared_J74 (this : Nat) (l1 : Int32) (M : Mem) : RF yX10_compared cX10_compared 3 none 9 eV (f_X10_compared_J74 this l1 M) 74 [(0, va_rf (some this)), (1, .int l1)] [] M := by
  rw [f_X10_compared_J74]
  refine R_iconst (pc' := 75) (x := (nI 0)) dX10_compared_74 rfl (by decide) ?_
  exact R_sub [0, 1] rfl (rf_X10_compared_J75 this l1 (nI 0) M)
def f_X10_compared_J37 (this : Nat) (l1 : Int32) (M : Mem) : Option (Unit × Mem) :=
  (gI M 10 18 (some this)).bind fun p1 =>
  (oO M 10 (some this)).bind fun o6 => cl (f_X10_isCounted o6 p1 M) fun u2 M =>
  (gI M 10 18 (some this)).bind fun p3 =>
  (pI M 10 18 (some this) (p3 + (nI 1))).bind fun M =>
  (if l1 = (nI 61) then
    (f_X10_compared_J74 this l1 M)
  else
    ((oO M 10 (some this)).bind fun o5 => cl (f_X10_sign o5 M) fun r4 M =>
    (if r4 = (nI 61) then
      (f_X10_compared_J75 this l1 (nI 1) M)
    else
      (f_X10_compared_J74 this l1 M))))
set_option maxHeartbeats 2000000 in
set_option maxRecDepth 20000 in
theorem rf_X10_compared_J37 (this : Nat) (l1 : Int32) (M : Mem) : RF yX10_compared cX10_compared 3 none 9 eV (f_X10_compared_J37 this l1 M) 37 [(0, va_rf (some this)), (1, .int l1)] [] M := by
  rw [f_X10_compared_J37]
  refine R_aloadq_n (pc' := 38) (i := 0) (j := 0) (q := (some this)) dX10_compared_37 rfl rfl rfl ?_
  refine R_aloadq_n (pc' := 39) (i := 0) (j := 0) (q := (some this)) dX10_compared_38 rfl rfl rfl ?_
  refine R_getI (pc' := 42) (q := (some this)) fl_X10_168 rfl dX10_compared_39 rfl (fun p1 => ?_)
  refine R_callV_V (pc' := 45) (q := (some this)) (As := [.int p1]) (fun o6 => rm_X10_isCounted o6 p1 M) mf_X10_isCounted lk_X10_217 im_X10_isCounted se_X10_isCounted rfl rfl rfl dX10_compared_42 rfl (by decide) (Nat.le_trans c_0 (by decide)) (fun u2 M => ?_)
  refine R_aloadq_n (pc' := 46) (i := 0) (j := 0) (q := (some this)) dX10_compared_45 rfl rfl rfl ?_
  refine R_dup (pc' := 47) dX10_compared_46 rfl (rf_cat _) ?_
  refine R_getI (pc' := 50) (q := (some this)) fl_X10_168 rfl dX10_compared_47 rfl (fun p3 => ?_)
  refine R_iconst (pc' := 51) (x := (nI 1)) dX10_compared_50 rfl (by decide) ?_
  refine R_iadd (pc' := 52) (a := p3) (b := (nI 1)) dX10_compared_51 rfl ?_
  refine R_putI (pc' := 55) (q := (some this)) (x := (p3 + (nI 1))) fl_X10_168 (Or.inl rfl) dX10_compared_52 rfl (fun M => ?_)
  refine R_iload_n (pc' := 56) (i := 1) (j := 1) (x := l1) dX10_compared_55 rfl rfl rfl ?_
  refine R_bipush (pc' := 58) (x := (nI 61)) dX10_compared_56 rfl (by decide) ?_
  refine R_icmp_eq (pc' := 61) (tgt := 74) (a := l1) (b := (nI 61)) dX10_compared_58 (by decide) rfl ?_ ?_
  · exact R_sub [0, 1] rfl (rf_X10_compared_J74 this l1 M)
  · refine R_aloadq_n (pc' := 62) (i := 0) (j := 0) (q := (some this)) dX10_compared_61 rfl rfl rfl ?_
    refine R_callV_I (pc' := 65) (q := (some this)) (As := []) (fun o5 => rm_X10_sign o5 M) mf_X10_sign lk_X10_171 im_X10_sign se_X10_sign rfl rfl rfl dX10_compared_62 rfl (by decide) (Nat.le_trans c_0 (by decide)) (fun r4 M => ?_)
    refine R_bipush (pc' := 67) (x := (nI 61)) dX10_compared_65 rfl (by decide) ?_
    refine R_icmp_ne (pc' := 70) (tgt := 74) (a := r4) (b := (nI 61)) dX10_compared_67 (by decide) rfl ?_ ?_
    · exact R_sub [0, 1] rfl (rf_X10_compared_J74 this l1 M)
    · refine R_iconst (pc' := 71) (x := (nI 1)) dX10_compared_70 rfl (by decide) ?_
      refine R_goto (tgt := 75) dX10_compared_71 (by decide) ?_
      exact R_sub [0, 1] rfl (rf_X10_compared_J75 this l1 (nI 1) M)
def f_X10_compared (this : Nat) (M : Mem) : Option (Unit × Mem) :=
  (oO M 10 (some this)).bind fun o7 => cl (f_X10_sum o7 M) fun u1 M =>
  (oO M 10 (some this)).bind fun o6 => cl (f_X10_sign o6 M) fun r2 M =>
  (if r2 = (nI 60) then
    (f_X10_compared_J37 this r2 M)
  else
    ((if r2 = (nI 61) then
      (f_X10_compared_J37 this r2 M)
    else
      ((if r2 = (nI 62) then
        (f_X10_compared_J37 this r2 M)
      else
        ((gI M 10 18 (some this)).bind fun p3 =>
        (oO M 10 (some this)).bind fun o5 => cl (f_X10_fails o5 (nI 0) p3 M) fun u4 M =>
        some ((), M)))))))
set_option maxHeartbeats 2000000 in
set_option maxRecDepth 20000 in
theorem rm_X10_compared (this : Nat) (M : Mem) : RFm yX10_compared cX10_compared 3 none 9 eV (f_X10_compared this M) [va_rf (some this)] M := by
  refine RFm_of (L := [(0, va_rf (some this))]) (by decide) rfl (Nat.le_trans (c_R c_0) (by decide)) ?_
  rw [f_X10_compared]
  refine R_aloadq_n (pc' := 1) (i := 0) (j := 0) (q := (some this)) dX10_compared_0 rfl rfl rfl ?_
  refine R_callV_V (pc' := 4) (q := (some this)) (As := []) (fun o7 => rm_X10_sum o7 M) mf_X10_sum lk_X10_233 im_X10_sum se_X10_sum rfl rfl rfl dX10_compared_1 rfl (by decide) (Nat.le_trans c_0 (by decide)) (fun u1 M => ?_)
  refine R_aloadq_n (pc' := 5) (i := 0) (j := 0) (q := (some this)) dX10_compared_4 rfl rfl rfl ?_
  refine R_callV_I (pc' := 8) (q := (some this)) (As := []) (fun o6 => rm_X10_sign o6 M) mf_X10_sign lk_X10_171 im_X10_sign se_X10_sign rfl rfl rfl dX10_compared_5 rfl (by decide) (Nat.le_trans c_0 (by decide)) (fun r2 M => ?_)
  refine R_istore_n (pc' := 9) (L' := [(1, .int r2), (0, va_rf (some this))]) (i := 1) (x := r2) dX10_compared_8 rfl rfl (by decide) rfl ?_
  refine R_iload_n (pc' := 10) (i := 1) (j := 0) (x := r2) dX10_compared_9 rfl rfl rfl ?_
  refine R_bipush (pc' := 12) (x := (nI 60)) dX10_compared_10 rfl (by decide) ?_
  refine R_icmp_eq (pc' := 15) (tgt := 37) (a := r2) (b := (nI 60)) dX10_compared_12 (by decide) rfl ?_ ?_
  · exact R_sub [1, 0] rfl (rf_X10_compared_J37 this r2 M)
  · refine R_iload_n (pc' := 16) (i := 1) (j := 0) (x := r2) dX10_compared_15 rfl rfl rfl ?_
    refine R_bipush (pc' := 18) (x := (nI 61)) dX10_compared_16 rfl (by decide) ?_
    refine R_icmp_eq (pc' := 21) (tgt := 37) (a := r2) (b := (nI 61)) dX10_compared_18 (by decide) rfl ?_ ?_
    · exact R_sub [1, 0] rfl (rf_X10_compared_J37 this r2 M)
    · refine R_iload_n (pc' := 22) (i := 1) (j := 0) (x := r2) dX10_compared_21 rfl rfl rfl ?_
      refine R_bipush (pc' := 24) (x := (nI 62)) dX10_compared_22 rfl (by decide) ?_
      refine R_icmp_eq (pc' := 27) (tgt := 37) (a := r2) (b := (nI 62)) dX10_compared_24 (by decide) rfl ?_ ?_
      · exact R_sub [1, 0] rfl (rf_X10_compared_J37 this r2 M)
      · refine R_aloadq_n (pc' := 28) (i := 0) (j := 1) (q := (some this)) dX10_compared_27 rfl rfl rfl ?_
        refine R_iconst (pc' := 29) (x := (nI 0)) dX10_compared_28 rfl (by decide) ?_
        refine R_aloadq_n (pc' := 30) (i := 0) (j := 1) (q := (some this)) dX10_compared_29 rfl rfl rfl ?_
        refine R_getI (pc' := 33) (q := (some this)) fl_X10_168 rfl dX10_compared_30 rfl (fun p3 => ?_)
        refine R_callV_V (pc' := 36) (q := (some this)) (As := [.int (nI 0), .int p3]) (fun o5 => rm_X10_fails o5 (nI 0) p3 M) mf_X10_fails lk_X10_204 im_X10_fails se_X10_fails rfl rfl rfl dX10_compared_33 rfl (by decide) (Nat.le_trans c_0 (by decide)) (fun u4 M => ?_)
        exact R_vret dX10_compared_36
/-! BarPilotModel.top()I -/
def f_X10_top_J22 (this : Nat) (s0 : Int32) (M : Mem) : Option (Int32 × Mem) :=
  some (s0, M)
set_option maxHeartbeats 2000000 in
set_option maxRecDepth 20000 in
theorem rf_X10_top_J22 (this : Nat) (s0 : Int32) (M : Mem) : RF yX10_top cX10_top 1 (some .int) 1 eI (f_X10_top_J22 this s0 M) 22 [] [.int s0] M := by
  rw [f_X10_top_J22]
  exact R_iret dX10_top_22
def f_X10_top (this : Nat) (M : Mem) : Option (Int32 × Mem) :=
  (gI M 10 25 (some this)).bind fun opened1 =>
  (if opened1 = 0 then
    (f_X10_top_J22 this (-1 : Int32) M)
  else
    ((gR M 10 34 (some this)).bind fun open2 =>
    (gI M 10 25 (some this)).bind fun opened3 =>
    (aI M 0 open2 (opened3 - (nI 1))).bind fun e4 =>
    f_X10_top_J22 this e4 M))
set_option maxHeartbeats 2000000 in
set_option maxRecDepth 20000 in
theorem rm_X10_top (this : Nat) (M : Mem) : RFm yX10_top cX10_top 1 (some .int) 1 eI (f_X10_top this M) [va_rf (some this)] M := by
  refine RFm_of (L := [(0, va_rf (some this))]) (by decide) rfl (Nat.le_trans (c_R c_0) (by decide)) ?_
  rw [f_X10_top]
  refine R_aloadq_n (pc' := 1) (i := 0) (j := 0) (q := (some this)) dX10_top_0 rfl rfl rfl ?_
  refine R_getI (pc' := 4) (q := (some this)) fl_X10_236 rfl dX10_top_1 rfl (fun opened1 => ?_)
  refine R_if_ne (pc' := 7) (tgt := 11) (a := opened1) dX10_top_4 (by decide) rfl ?_ ?_
  · refine R_aloadq_n (pc' := 12) (i := 0) (j := 0) (q := (some this)) dX10_top_11 rfl rfl rfl ?_
    refine R_getR (pc' := 15) (q := (some this)) fl_X10_84 rfl dX10_top_12 rfl (fun open2 => ?_)
    refine R_aloadq_n (pc' := 16) (i := 0) (j := 0) (q := (some this)) dX10_top_15 rfl rfl rfl ?_
    refine R_getI (pc' := 19) (q := (some this)) fl_X10_236 rfl dX10_top_16 rfl (fun opened3 => ?_)
    refine R_iconst (pc' := 20) (x := (nI 1)) dX10_top_19 rfl (by decide) ?_
    refine R_isub (pc' := 21) (a := opened3) (b := (nI 1)) dX10_top_20 rfl ?_
    refine R_iald (pc' := 22) (q := open2) (i := (opened3 - (nI 1))) dX10_top_21 rfl (fun e4 => ?_)
    exact R_sub [] rfl (rf_X10_top_J22 this e4 M)
  · refine R_iconst (pc' := 8) (x := (-1 : Int32)) dX10_top_7 rfl (by decide) ?_
    refine R_goto (tgt := 22) dX10_top_8 (by decide) ?_
    exact R_sub [] rfl (rf_X10_top_J22 this (-1 : Int32) M)
/-! BarPilotModel.opens(I)V -/
def f_X10_opens_J40 (this : Nat) (l1 : Int32) (M : Mem) : Option (Unit × Mem) :=
  (gR M 10 34 (some this)).bind fun open1 =>
  (gI M 10 25 (some this)).bind fun opened2 =>
  (wI M 0 open1 opened2 l1).bind fun M =>
  (gI M 10 25 (some this)).bind fun opened3 =>
  (pI M 10 25 (some this) (opened3 + (nI 1))).bind fun M =>
  some ((), M)
set_option maxHeartbeats 2000000 in
set_option maxRecDepth 20000 in
theorem rf_X10_opens_J40 (this : Nat) (l1 : Int32) (M : Mem) : RF yX10_opens cX10_opens 2 none 2 eV (f_X10_opens_J40 this l1 M) 40 [(0, va_rf (some this)), (1, .int l1)] [] M := by
  rw [f_X10_opens_J40]
  refine R_aloadq_n (pc' := 41) (i := 0) (j := 0) (q := (some this)) dX10_opens_40 rfl rfl rfl ?_
  refine R_getR (pc' := 44) (q := (some this)) fl_X10_84 rfl dX10_opens_41 rfl (fun open1 => ?_)
  refine R_aloadq_n (pc' := 45) (i := 0) (j := 0) (q := (some this)) dX10_opens_44 rfl rfl rfl ?_
  refine R_getI (pc' := 48) (q := (some this)) fl_X10_236 rfl dX10_opens_45 rfl (fun opened2 => ?_)
  refine R_iload_n (pc' := 49) (i := 1) (j := 1) (x := l1) dX10_opens_48 rfl rfl rfl ?_
  refine R_iast (pc' := 50) (q := open1) (i := opened2) (x := l1) dX10_opens_49 rfl (fun M => ?_)
  refine R_aloadq_n (pc' := 51) (i := 0) (j := 0) (q := (some this)) dX10_opens_50 rfl rfl rfl ?_
  refine R_dup (pc' := 52) dX10_opens_51 rfl (rf_cat _) ?_
  refine R_getI (pc' := 55) (q := (some this)) fl_X10_236 rfl dX10_opens_52 rfl (fun opened3 => ?_)
  refine R_iconst (pc' := 56) (x := (nI 1)) dX10_opens_55 rfl (by decide) ?_
  refine R_iadd (pc' := 57) (a := opened3) (b := (nI 1)) dX10_opens_56 rfl ?_
  refine R_putI (pc' := 60) (q := (some this)) (x := (opened3 + (nI 1))) fl_X10_236 (Or.inl rfl) dX10_opens_57 rfl (fun M => ?_)
  exact R_vret dX10_opens_60
def f_X10_opens_J30 (this : Nat) (l1 : Int32) (M : Mem) : Option (Unit × Mem) :=
  (gI M 10 23 (some this)).bind fun deep1 =>
  (pI M 10 23 (some this) (deep1 + (nI 1))).bind fun M =>
  f_X10_opens_J40 this l1 M
set_option maxHeartbeats 2000000 in
set_option maxRecDepth 20000 in
theorem rf_X10_opens_J30 (this : Nat) (l1 : Int32) (M : Mem) : RF yX10_opens cX10_opens 2 none 2 eV (f_X10_opens_J30 this l1 M) 30 [(0, va_rf (some this)), (1, .int l1)] [] M := by
  rw [f_X10_opens_J30]
  refine R_aloadq_n (pc' := 31) (i := 0) (j := 0) (q := (some this)) dX10_opens_30 rfl rfl rfl ?_
  refine R_dup (pc' := 32) dX10_opens_31 rfl (rf_cat _) ?_
  refine R_getI (pc' := 35) (q := (some this)) fl_X10_239 rfl dX10_opens_32 rfl (fun deep1 => ?_)
  refine R_iconst (pc' := 36) (x := (nI 1)) dX10_opens_35 rfl (by decide) ?_
  refine R_iadd (pc' := 37) (a := deep1) (b := (nI 1)) dX10_opens_36 rfl ?_
  refine R_putI (pc' := 40) (q := (some this)) (x := (deep1 + (nI 1))) fl_X10_239 (Or.inl rfl) dX10_opens_37 rfl (fun M => ?_)
  exact R_sub [0, 1] rfl (rf_X10_opens_J40 this l1 M)
def f_X10_opens_J12 (this : Nat) (l1 : Int32) (M : Mem) : Option (Unit × Mem) :=
  (gI M 10 23 (some this)).bind fun deep1 =>
  (if deep1 = (nI 10) then
    ((gI M 10 18 (some this)).bind fun p2 =>
    (oO M 10 (some this)).bind fun o4 => cl (f_X10_fails o4 (nI 2) p2 M) fun u3 M =>
    f_X10_opens_J30 this l1 M)
  else
    (f_X10_opens_J30 this l1 M))
set_option maxHeartbeats 2000000 in
set_option maxRecDepth 20000 in
theorem rf_X10_opens_J12 (this : Nat) (l1 : Int32) (M : Mem) : RF yX10_opens cX10_opens 2 none 2 eV (f_X10_opens_J12 this l1 M) 12 [(0, va_rf (some this)), (1, .int l1)] [] M := by
  rw [f_X10_opens_J12]
  refine R_aloadq_n (pc' := 13) (i := 0) (j := 0) (q := (some this)) dX10_opens_12 rfl rfl rfl ?_
  refine R_getI (pc' := 16) (q := (some this)) fl_X10_239 rfl dX10_opens_13 rfl (fun deep1 => ?_)
  refine R_bipush (pc' := 18) (x := (nI 10)) dX10_opens_16 rfl (by decide) ?_
  refine R_icmp_ne (pc' := 21) (tgt := 30) (a := deep1) (b := (nI 10)) dX10_opens_18 (by decide) rfl ?_ ?_
  · exact R_sub [0, 1] rfl (rf_X10_opens_J30 this l1 M)
  · refine R_aloadq_n (pc' := 22) (i := 0) (j := 0) (q := (some this)) dX10_opens_21 rfl rfl rfl ?_
    refine R_iconst (pc' := 23) (x := (nI 2)) dX10_opens_22 rfl (by decide) ?_
    refine R_aloadq_n (pc' := 24) (i := 0) (j := 0) (q := (some this)) dX10_opens_23 rfl rfl rfl ?_
    refine R_getI (pc' := 27) (q := (some this)) fl_X10_168 rfl dX10_opens_24 rfl (fun p2 => ?_)
    refine R_callV_V (pc' := 30) (q := (some this)) (As := [.int (nI 2), .int p2]) (fun o4 => rm_X10_fails o4 (nI 2) p2 M) mf_X10_fails lk_X10_204 im_X10_fails se_X10_fails rfl rfl rfl dX10_opens_27 rfl (by decide) (Nat.le_trans c_0 (by decide)) (fun u3 M => ?_)
    exact R_sub [0, 1] rfl (rf_X10_opens_J30 this l1 M)
def f_X10_opens (this : Nat) (l1 : Int32) (M : Mem) : Option (Unit × Mem) :=
  (if l1 = (nI 9) then
    (f_X10_opens_J12 this l1 M)
  else
    ((if l1 = (nI 12) then
      (f_X10_opens_J12 this l1 M)
    else
      (f_X10_opens_J40 this l1 M))))
set_option maxHeartbeats 2000000 in
set_option maxRecDepth 20000 in
theorem rm_X10_opens (this : Nat) (l1 : Int32) (M : Mem) : RFm yX10_opens cX10_opens 2 none 2 eV (f_X10_opens this l1 M) [va_rf (some this), .int l1] M := by
  refine RFm_of (L := [(0, va_rf (some this)), (1, .int l1)]) (by decide) rfl (Nat.le_trans (c_R (c_I c_0)) (by decide)) ?_
  rw [f_X10_opens]
  refine R_iload_n (pc' := 1) (i := 1) (j := 1) (x := l1) dX10_opens_0 rfl rfl rfl ?_
  refine R_bipush (pc' := 3) (x := (nI 9)) dX10_opens_1 rfl (by decide) ?_
  refine R_icmp_eq (pc' := 6) (tgt := 12) (a := l1) (b := (nI 9)) dX10_opens_3 (by decide) rfl ?_ ?_
  · exact R_sub [0, 1] rfl (rf_X10_opens_J12 this l1 M)
  · refine R_iload_n (pc' := 7) (i := 1) (j := 1) (x := l1) dX10_opens_6 rfl rfl rfl ?_
    refine R_bipush (pc' := 9) (x := (nI 12)) dX10_opens_7 rfl (by decide) ?_
    refine R_icmp_ne (pc' := 12) (tgt := 40) (a := l1) (b := (nI 12)) dX10_opens_9 (by decide) rfl ?_ ?_
    · exact R_sub [0, 1] rfl (rf_X10_opens_J40 this l1 M)
    · exact R_sub [0, 1] rfl (rf_X10_opens_J12 this l1 M)
/-! BarPilotModel.answers(I)V -/
def f_X10_answers_J54 (this : Nat) (M : Mem) : Option (Unit × Mem) :=
  some ((), M)
set_option maxHeartbeats 2000000 in
set_option maxRecDepth 20000 in
theorem rf_X10_answers_J54 (this : Nat) (M : Mem) : RF yX10_answers cX10_answers 2 none 2 eV (f_X10_answers_J54 this M) 54 [] [] M := by
  rw [f_X10_answers_J54]
  exact R_vret dX10_answers_54
def f_X10_answers_J47 (k0 : Int32 → Mem → Option (Unit × Mem)) (this : Nat) (l1 : Int32) (s0 : Int32) (s1 : Int32) (s2 : Option Nat) (M : Mem) : Option (Unit × Mem) :=
  (pI M 10 23 s2 (s1 - s0)).bind fun M =>
  k0 l1 M
set_option maxHeartbeats 2000000 in
set_option maxRecDepth 20000 in
theorem rf_X10_answers_J47 (this : Nat) (k0 : Int32 → Mem → Option (Unit × Mem)) (hk0 : ∀ (l1 : Int32) (M : Mem), RF yX10_answers cX10_answers 2 none 2 eV (k0 l1 M) 0 [(0, va_rf (some this)), (1, .int l1)] [] M) (l1 : Int32) (s0 : Int32) (s1 : Int32) (s2 : Option Nat) (M : Mem) : RF yX10_answers cX10_answers 2 none 2 eV (f_X10_answers_J47 k0 this l1 s0 s1 s2 M) 47 [(0, va_rf (some this)), (1, .int l1)] [.int s0, .int s1, va_rf s2] M := by
  rw [f_X10_answers_J47]
  refine R_isub (pc' := 48) (a := s1) (b := s0) dX10_answers_47 rfl ?_
  refine R_putI (pc' := 51) (q := s2) (x := (s1 - s0)) fl_X10_239 (Or.inl rfl) dX10_answers_48 rfl (fun M => ?_)
  refine R_goto (tgt := 0) dX10_answers_51 (by decide) ?_
  exact R_sub [0, 1] rfl (hk0 l1 M)
def f_X10_answers_L0 (this : Nat) : Nat → Int32 → Mem → Option (Unit × Mem)
  | 0, _, _ => none
  | n + 1, l1, M =>
    (oO M 10 (some this)).bind fun o7 => cl (f_X10_top o7 M) fun r1 M =>
    (if r1 = l1 then
      ((gI M 10 19 (some this)).bind fun fault2 =>
      (if fault2 = 0 then
        ((oO M 10 (some this)).bind fun o6 => cl (f_X10_entry o6 l1 (nI 0) M) fun u3 M =>
        (gI M 10 25 (some this)).bind fun opened4 =>
        (pI M 10 25 (some this) (opened4 - (nI 1))).bind fun M =>
        (gI M 10 23 (some this)).bind fun deep5 =>
        (if l1 = (nI 9) then
          (f_X10_answers_J47 (f_X10_answers_L0 this n) this l1 (nI 1) deep5 (some this) M)
        else
          (f_X10_answers_J47 (f_X10_answers_L0 this n) this l1 (nI 0) deep5 (some this) M)))
      else
        (f_X10_answers_J54 this M)))
    else
      (f_X10_answers_J54 this M))
set_option maxHeartbeats 2000000 in
set_option maxRecDepth 20000 in
theorem rf_X10_answers_L0 (this : Nat) : ∀ (n : Nat) (l1 : Int32) (M : Mem), RF yX10_answers cX10_answers 2 none 2 eV (f_X10_answers_L0 this n l1 M) 0 [(0, va_rf (some this)), (1, .int l1)] [] M := by
  intro n
  induction n with
  | zero => intro _ _; exact RF.none
  | succ n ih =>
    intro l1 M
    rw [f_X10_answers_L0]
    refine R_aloadq_n (pc' := 1) (i := 0) (j := 0) (q := (some this)) dX10_answers_0 rfl rfl rfl ?_
    refine R_callV_I (pc' := 4) (q := (some this)) (As := []) (fun o7 => rm_X10_top o7 M) mf_X10_top lk_X10_242 im_X10_top se_X10_top rfl rfl rfl dX10_answers_1 rfl (by decide) (Nat.le_trans c_0 (by decide)) (fun r1 M => ?_)
    refine R_iload_n (pc' := 5) (i := 1) (j := 1) (x := l1) dX10_answers_4 rfl rfl rfl ?_
    refine R_icmp_ne (pc' := 8) (tgt := 54) (a := r1) (b := l1) dX10_answers_5 (by decide) rfl ?_ ?_
    · exact R_sub [] rfl (rf_X10_answers_J54 this M)
    · refine R_aloadq_n (pc' := 9) (i := 0) (j := 0) (q := (some this)) dX10_answers_8 rfl rfl rfl ?_
      refine R_getI (pc' := 12) (q := (some this)) fl_X10_165 rfl dX10_answers_9 rfl (fun fault2 => ?_)
      refine R_if_ne (pc' := 15) (tgt := 54) (a := fault2) dX10_answers_12 (by decide) rfl ?_ ?_
      · exact R_sub [] rfl (rf_X10_answers_J54 this M)
      · refine R_aloadq_n (pc' := 16) (i := 0) (j := 0) (q := (some this)) dX10_answers_15 rfl rfl rfl ?_
        refine R_iload_n (pc' := 17) (i := 1) (j := 1) (x := l1) dX10_answers_16 rfl rfl rfl ?_
        refine R_iconst (pc' := 18) (x := (nI 0)) dX10_answers_17 rfl (by decide) ?_
        refine R_callV_V (pc' := 21) (q := (some this)) (As := [.int l1, .int (nI 0)]) (fun o6 => rm_X10_entry o6 l1 (nI 0) M) mf_X10_entry lk_X10_220 im_X10_entry se_X10_entry rfl rfl rfl dX10_answers_18 rfl (by decide) (Nat.le_trans c_0 (by decide)) (fun u3 M => ?_)
        refine R_aloadq_n (pc' := 22) (i := 0) (j := 0) (q := (some this)) dX10_answers_21 rfl rfl rfl ?_
        refine R_dup (pc' := 23) dX10_answers_22 rfl (rf_cat _) ?_
        refine R_getI (pc' := 26) (q := (some this)) fl_X10_236 rfl dX10_answers_23 rfl (fun opened4 => ?_)
        refine R_iconst (pc' := 27) (x := (nI 1)) dX10_answers_26 rfl (by decide) ?_
        refine R_isub (pc' := 28) (a := opened4) (b := (nI 1)) dX10_answers_27 rfl ?_
        refine R_putI (pc' := 31) (q := (some this)) (x := (opened4 - (nI 1))) fl_X10_236 (Or.inl rfl) dX10_answers_28 rfl (fun M => ?_)
        refine R_aloadq_n (pc' := 32) (i := 0) (j := 0) (q := (some this)) dX10_answers_31 rfl rfl rfl ?_
        refine R_dup (pc' := 33) dX10_answers_32 rfl (rf_cat _) ?_
        refine R_getI (pc' := 36) (q := (some this)) fl_X10_239 rfl dX10_answers_33 rfl (fun deep5 => ?_)
        refine R_iload_n (pc' := 37) (i := 1) (j := 1) (x := l1) dX10_answers_36 rfl rfl rfl ?_
        refine R_bipush (pc' := 39) (x := (nI 9)) dX10_answers_37 rfl (by decide) ?_
        refine R_icmp_ne (pc' := 42) (tgt := 46) (a := l1) (b := (nI 9)) dX10_answers_39 (by decide) rfl ?_ ?_
        · refine R_iconst (pc' := 47) (x := (nI 0)) dX10_answers_46 rfl (by decide) ?_
          exact R_sub [0, 1] rfl (rf_X10_answers_J47 this (f_X10_answers_L0 this n) ih l1 (nI 0) deep5 (some this) M)
        · refine R_iconst (pc' := 43) (x := (nI 1)) dX10_answers_42 rfl (by decide) ?_
          refine R_goto (tgt := 47) dX10_answers_43 (by decide) ?_
          exact R_sub [0, 1] rfl (rf_X10_answers_J47 this (f_X10_answers_L0 this n) ih l1 (nI 1) deep5 (some this) M)
def f_X10_answers (this : Nat) (l1 : Int32) (M : Mem) : Option (Unit × Mem) :=
  f_X10_answers_L0 this FU l1 M
set_option maxHeartbeats 2000000 in
set_option maxRecDepth 20000 in
theorem rm_X10_answers (this : Nat) (l1 : Int32) (M : Mem) : RFm yX10_answers cX10_answers 2 none 2 eV (f_X10_answers this l1 M) [va_rf (some this), .int l1] M := by
  refine RFm_of (L := [(0, va_rf (some this)), (1, .int l1)]) (by decide) rfl (Nat.le_trans (c_R (c_I c_0)) (by decide)) ?_
  rw [f_X10_answers]
  exact R_sub [0, 1] rfl (rf_X10_answers_L0 this FU l1 M)
/-! BarPilotModel.fact()Z -/
def f_X10_fact (this : Nat) (M : Mem) : Option (Int32 × Mem) :=
  (oO M 10 (some this)).bind fun o14 => cl (f_X10_blanks o14 M) fun u1 M =>
  (oO M 10 (some this)).bind fun o13 => cl (f_X10_stood o13 (12 : UInt32) M) fun r2 M =>
  (if r2 = 0 then
    ((oO M 10 (some this)).bind fun o9 => cl (f_X10_sign o9 M) fun r3 M =>
    (if r3 = (nI 91) then
      ((oO M 10 (some this)).bind fun o8 => cl (f_X10_opens o8 (nI 12) M) fun u6 M =>
      (gI M 10 18 (some this)).bind fun p7 =>
      (pI M 10 18 (some this) (p7 + (nI 1))).bind fun M =>
      ckZ (nI 0) (some ((nI 0), M)))
    else
      ((oO M 10 (some this)).bind fun o5 => cl (f_X10_compared o5 M) fun u4 M =>
      ckZ (nI 1) (some ((nI 1), M)))))
  else
    ((oO M 10 (some this)).bind fun o12 => cl (f_X10_opens o12 (nI 9) M) fun u10 M =>
    (gI M 10 18 (some this)).bind fun p11 =>
    (pI M 10 18 (some this) (p11 + (nI 3))).bind fun M =>
    ckZ (nI 0) (some ((nI 0), M))))
set_option maxHeartbeats 2000000 in
set_option maxRecDepth 20000 in
theorem rm_X10_fact (this : Nat) (M : Mem) : RFm yX10_fact cX10_fact 1 (some .boolean) 10 eI (f_X10_fact this M) [va_rf (some this)] M := by
  refine RFm_of (L := [(0, va_rf (some this))]) (by decide) rfl (Nat.le_trans (c_R c_0) (by decide)) ?_
  rw [f_X10_fact]
  refine R_aloadq_n (pc' := 1) (i := 0) (j := 0) (q := (some this)) dX10_fact_0 rfl rfl rfl ?_
  refine R_callV_V (pc' := 4) (q := (some this)) (As := []) (fun o14 => rm_X10_blanks o14 M) mf_X10_blanks lk_X10_188 im_X10_blanks se_X10_blanks rfl rfl rfl dX10_fact_1 rfl (by decide) (Nat.le_trans c_0 (by decide)) (fun u1 M => ?_)
  refine R_aloadq_n (pc' := 5) (i := 0) (j := 0) (q := (some this)) dX10_fact_4 rfl rfl rfl ?_
  refine R_kstr (pc' := 7) (u := (12 : UInt32)) (i := 11) rfl (by decide) rfl rfl dX10_fact_5 rfl ?_
  refine R_callV_I (pc' := 10) (q := (some this)) (As := [.float (12 : UInt32)]) (fun o13 => rm_X10_stood o13 (12 : UInt32) M) mf_X10_stood lk_X10_191 im_X10_stood se_X10_stood rfl rfl rfl dX10_fact_7 rfl (by decide) (Nat.le_trans c_0 (by decide)) (fun r2 M => ?_)
  refine R_if_eq (pc' := 13) (tgt := 31) (a := r2) dX10_fact_10 (by decide) rfl ?_ ?_
  · refine R_aloadq_n (pc' := 32) (i := 0) (j := 0) (q := (some this)) dX10_fact_31 rfl rfl rfl ?_
    refine R_callV_I (pc' := 35) (q := (some this)) (As := []) (fun o9 => rm_X10_sign o9 M) mf_X10_sign lk_X10_171 im_X10_sign se_X10_sign rfl rfl rfl dX10_fact_32 rfl (by decide) (Nat.le_trans c_0 (by decide)) (fun r3 M => ?_)
    refine R_bipush (pc' := 37) (x := (nI 91)) dX10_fact_35 rfl (by decide) ?_
    refine R_icmp_ne (pc' := 40) (tgt := 58) (a := r3) (b := (nI 91)) dX10_fact_37 (by decide) rfl ?_ ?_
    · refine R_aloadq_n (pc' := 59) (i := 0) (j := 0) (q := (some this)) dX10_fact_58 rfl rfl rfl ?_
      refine R_callV_V (pc' := 62) (q := (some this)) (As := []) (fun o5 => rm_X10_compared o5 M) mf_X10_compared lk_X10_250 im_X10_compared se_X10_compared rfl rfl rfl dX10_fact_59 rfl (by decide) (Nat.le_trans c_0 (by decide)) (fun u4 M => ?_)
      refine R_iconst (pc' := 63) (x := (nI 1)) dX10_fact_62 rfl (by decide) ?_
      exact R_bret dX10_fact_63
    · refine R_aloadq_n (pc' := 41) (i := 0) (j := 0) (q := (some this)) dX10_fact_40 rfl rfl rfl ?_
      refine R_bipush (pc' := 43) (x := (nI 12)) dX10_fact_41 rfl (by decide) ?_
      refine R_callV_V (pc' := 46) (q := (some this)) (As := [.int (nI 12)]) (fun o8 => rm_X10_opens o8 (nI 12) M) mf_X10_opens lk_X10_247 im_X10_opens se_X10_opens rfl rfl rfl dX10_fact_43 rfl (by decide) (Nat.le_trans c_0 (by decide)) (fun u6 M => ?_)
      refine R_aloadq_n (pc' := 47) (i := 0) (j := 0) (q := (some this)) dX10_fact_46 rfl rfl rfl ?_
      refine R_dup (pc' := 48) dX10_fact_47 rfl (rf_cat _) ?_
      refine R_getI (pc' := 51) (q := (some this)) fl_X10_168 rfl dX10_fact_48 rfl (fun p7 => ?_)
      refine R_iconst (pc' := 52) (x := (nI 1)) dX10_fact_51 rfl (by decide) ?_
      refine R_iadd (pc' := 53) (a := p7) (b := (nI 1)) dX10_fact_52 rfl ?_
      refine R_putI (pc' := 56) (q := (some this)) (x := (p7 + (nI 1))) fl_X10_168 (Or.inl rfl) dX10_fact_53 rfl (fun M => ?_)
      refine R_iconst (pc' := 57) (x := (nI 0)) dX10_fact_56 rfl (by decide) ?_
      exact R_bret dX10_fact_57
  · refine R_aloadq_n (pc' := 14) (i := 0) (j := 0) (q := (some this)) dX10_fact_13 rfl rfl rfl ?_
    refine R_bipush (pc' := 16) (x := (nI 9)) dX10_fact_14 rfl (by decide) ?_
    refine R_callV_V (pc' := 19) (q := (some this)) (As := [.int (nI 9)]) (fun o12 => rm_X10_opens o12 (nI 9) M) mf_X10_opens lk_X10_247 im_X10_opens se_X10_opens rfl rfl rfl dX10_fact_16 rfl (by decide) (Nat.le_trans c_0 (by decide)) (fun u10 M => ?_)
    refine R_aloadq_n (pc' := 20) (i := 0) (j := 0) (q := (some this)) dX10_fact_19 rfl rfl rfl ?_
    refine R_dup (pc' := 21) dX10_fact_20 rfl (rf_cat _) ?_
    refine R_getI (pc' := 24) (q := (some this)) fl_X10_168 rfl dX10_fact_21 rfl (fun p11 => ?_)
    refine R_iconst (pc' := 25) (x := (nI 3)) dX10_fact_24 rfl (by decide) ?_
    refine R_iadd (pc' := 26) (a := p11) (b := (nI 3)) dX10_fact_25 rfl ?_
    refine R_putI (pc' := 29) (q := (some this)) (x := (p11 + (nI 3))) fl_X10_168 (Or.inl rfl) dX10_fact_26 rfl (fun M => ?_)
    refine R_iconst (pc' := 30) (x := (nI 0)) dX10_fact_29 rfl (by decide) ?_
    exact R_bret dX10_fact_30
/-! BarPilotModel.test()V -/
def f_X10_test_J202 (this : Nat) (M : Mem) : Option (Unit × Mem) :=
  some ((), M)
set_option maxHeartbeats 2000000 in
set_option maxRecDepth 20000 in
theorem rf_X10_test_J202 (this : Nat) (M : Mem) : RF yX10_test cX10_test 5 none 11 eV (f_X10_test_J202 this M) 202 [] [] M := by
  rw [f_X10_test_J202]
  exact R_vret dX10_test_202
def f_X10_test_J199 (k9 : Int32 → Int32 → Mem → Option (Unit × Mem)) (this : Nat) (l1 : Int32) (l2 : Int32) (M : Mem) : Option (Unit × Mem) :=
  k9 l1 l2 M
set_option maxHeartbeats 2000000 in
set_option maxRecDepth 20000 in
theorem rf_X10_test_J199 (this : Nat) (k9 : Int32 → Int32 → Mem → Option (Unit × Mem)) (hk9 : ∀ (l1 : Int32) (l2 : Int32) (M : Mem), RF yX10_test cX10_test 5 none 11 eV (k9 l1 l2 M) 9 [(0, va_rf (some this)), (1, .int l1), (2, .int l2)] [] M) (l1 : Int32) (l2 : Int32) (M : Mem) : RF yX10_test cX10_test 5 none 11 eV (f_X10_test_J199 k9 this l1 l2 M) 199 [(0, va_rf (some this)), (1, .int l1), (2, .int l2)] [] M := by
  rw [f_X10_test_J199]
  refine R_goto (tgt := 9) dX10_test_199 (by decide) ?_
  exact R_sub [0, 1, 2] rfl (hk9 l1 l2 M)
def f_X10_test_J122 (k9 : Int32 → Int32 → Mem → Option (Unit × Mem)) (this : Nat) (l2 : Int32) (s0 : Int32) (s1 : Int32) (s2 : Option Nat) (M : Mem) : Option (Unit × Mem) :=
  (pI M 10 18 s2 (s1 + s0)).bind fun M =>
  f_X10_test_J199 k9 this (nI 1) l2 M
set_option maxHeartbeats 2000000 in
set_option maxRecDepth 20000 in
theorem rf_X10_test_J122 (this : Nat) (k9 : Int32 → Int32 → Mem → Option (Unit × Mem)) (hk9 : ∀ (l1 : Int32) (l2 : Int32) (M : Mem), RF yX10_test cX10_test 5 none 11 eV (k9 l1 l2 M) 9 [(0, va_rf (some this)), (1, .int l1), (2, .int l2)] [] M) (l2 : Int32) (s0 : Int32) (s1 : Int32) (s2 : Option Nat) (M : Mem) : RF yX10_test cX10_test 5 none 11 eV (f_X10_test_J122 k9 this l2 s0 s1 s2 M) 122 [(0, va_rf (some this)), (2, .int l2)] [.int s0, .int s1, va_rf s2] M := by
  rw [f_X10_test_J122]
  refine R_iadd (pc' := 123) (a := s1) (b := s0) dX10_test_122 rfl ?_
  refine R_putI (pc' := 126) (q := s2) (x := (s1 + s0)) fl_X10_168 (Or.inl rfl) dX10_test_123 rfl (fun M => ?_)
  refine R_iconst (pc' := 127) (x := (nI 1)) dX10_test_126 rfl (by decide) ?_
  refine R_istore_n (pc' := 128) (L' := [(1, .int (nI 1)), (0, va_rf (some this)), (2, .int l2)]) (i := 1) (x := (nI 1)) dX10_test_127 rfl rfl (by decide) rfl ?_
  refine R_goto (tgt := 199) dX10_test_128 (by decide) ?_
  exact R_sub [1, 0, 2] rfl (rf_X10_test_J199 this k9 hk9 (nI 1) l2 M)
def f_X10_test_J105 (k9 : Int32 → Int32 → Mem → Option (Unit × Mem)) (this : Nat) (l2 : Int32) (l3 : Int32) (s0 : Int32) (s1 : Option Nat) (M : Mem) : Option (Unit × Mem) :=
  (oO M 10 s1).bind fun o3 => cl (f_X10_opens o3 s0 M) fun u1 M =>
  (gI M 10 18 (some this)).bind fun p2 =>
  (if l3 = 0 then
    (f_X10_test_J122 k9 this l2 (nI 2) p2 (some this) M)
  else
    (f_X10_test_J122 k9 this l2 (nI 3) p2 (some this) M))
set_option maxHeartbeats 2000000 in
set_option maxRecDepth 20000 in
theorem rf_X10_test_J105 (this : Nat) (k9 : Int32 → Int32 → Mem → Option (Unit × Mem)) (hk9 : ∀ (l1 : Int32) (l2 : Int32) (M : Mem), RF yX10_test cX10_test 5 none 11 eV (k9 l1 l2 M) 9 [(0, va_rf (some this)), (1, .int l1), (2, .int l2)] [] M) (l2 : Int32) (l3 : Int32) (s0 : Int32) (s1 : Option Nat) (M : Mem) : RF yX10_test cX10_test 5 none 11 eV (f_X10_test_J105 k9 this l2 l3 s0 s1 M) 105 [(0, va_rf (some this)), (2, .int l2), (3, .int l3)] [.int s0, va_rf s1] M := by
  rw [f_X10_test_J105]
  refine R_callV_V (pc' := 108) (q := s1) (As := [.int s0]) (fun o3 => rm_X10_opens o3 s0 M) mf_X10_opens lk_X10_247 im_X10_opens se_X10_opens rfl rfl rfl dX10_test_105 rfl (by decide) (Nat.le_trans c_0 (by decide)) (fun u1 M => ?_)
  refine R_aloadq_n (pc' := 109) (i := 0) (j := 0) (q := (some this)) dX10_test_108 rfl rfl rfl ?_
  refine R_dup (pc' := 110) dX10_test_109 rfl (rf_cat _) ?_
  refine R_getI (pc' := 113) (q := (some this)) fl_X10_168 rfl dX10_test_110 rfl (fun p2 => ?_)
  refine R_iload_n (pc' := 114) (i := 3) (j := 2) (x := l3) dX10_test_113 rfl rfl rfl ?_
  refine R_if_eq (pc' := 117) (tgt := 121) (a := l3) dX10_test_114 (by decide) rfl ?_ ?_
  · refine R_iconst (pc' := 122) (x := (nI 2)) dX10_test_121 rfl (by decide) ?_
    exact R_sub [0, 1] rfl (rf_X10_test_J122 this k9 hk9 l2 (nI 2) p2 (some this) M)
  · refine R_iconst (pc' := 118) (x := (nI 3)) dX10_test_117 rfl (by decide) ?_
    refine R_goto (tgt := 122) dX10_test_118 (by decide) ?_
    exact R_sub [0, 1] rfl (rf_X10_test_J122 this k9 hk9 l2 (nI 3) p2 (some this) M)
def f_X10_test_J93 (k9 : Int32 → Int32 → Mem → Option (Unit × Mem)) (this : Nat) (l2 : Int32) (l3 : Int32) (M : Mem) : Option (Unit × Mem) :=
  (if l3 = 0 then
    (f_X10_test_J105 k9 this l2 l3 (nI 11) (some this) M)
  else
    (f_X10_test_J105 k9 this l2 l3 (nI 10) (some this) M))
set_option maxHeartbeats 2000000 in
set_option maxRecDepth 20000 in
theorem rf_X10_test_J93 (this : Nat) (k9 : Int32 → Int32 → Mem → Option (Unit × Mem)) (hk9 : ∀ (l1 : Int32) (l2 : Int32) (M : Mem), RF yX10_test cX10_test 5 none 11 eV (k9 l1 l2 M) 9 [(0, va_rf (some this)), (1, .int l1), (2, .int l2)] [] M) (l2 : Int32) (l3 : Int32) (M : Mem) : RF yX10_test cX10_test 5 none 11 eV (f_X10_test_J93 k9 this l2 l3 M) 93 [(0, va_rf (some this)), (2, .int l2), (3, .int l3)] [] M := by
  rw [f_X10_test_J93]
  refine R_aloadq_n (pc' := 94) (i := 0) (j := 0) (q := (some this)) dX10_test_93 rfl rfl rfl ?_
  refine R_iload_n (pc' := 95) (i := 3) (j := 2) (x := l3) dX10_test_94 rfl rfl rfl ?_
  refine R_if_eq (pc' := 98) (tgt := 103) (a := l3) dX10_test_95 (by decide) rfl ?_ ?_
  · refine R_bipush (pc' := 105) (x := (nI 11)) dX10_test_103 rfl (by decide) ?_
    exact R_sub [0, 1, 2] rfl (rf_X10_test_J105 this k9 hk9 l2 l3 (nI 11) (some this) M)
  · refine R_bipush (pc' := 100) (x := (nI 10)) dX10_test_98 rfl (by decide) ?_
    refine R_goto (tgt := 105) dX10_test_100 (by decide) ?_
    exact R_sub [0, 1, 2] rfl (rf_X10_test_J105 this k9 hk9 l2 l3 (nI 10) (some this) M)
def f_X10_test_J82 (k9 : Int32 → Int32 → Mem → Option (Unit × Mem)) (this : Nat) (l2 : Int32) (l3 : Int32) (l4 : Int32) (M : Mem) : Option (Unit × Mem) :=
  (if l4 = 0 then
    (f_X10_test_J93 k9 this l2 l3 M)
  else
    ((oO M 10 (some this)).bind fun o2 => cl (f_X10_answers o2 (nI 11) M) fun u1 M =>
    f_X10_test_J93 k9 this l2 l3 M))
set_option maxHeartbeats 2000000 in
set_option maxRecDepth 20000 in
theorem rf_X10_test_J82 (this : Nat) (k9 : Int32 → Int32 → Mem → Option (Unit × Mem)) (hk9 : ∀ (l1 : Int32) (l2 : Int32) (M : Mem), RF yX10_test cX10_test 5 none 11 eV (k9 l1 l2 M) 9 [(0, va_rf (some this)), (1, .int l1), (2, .int l2)] [] M) (l2 : Int32) (l3 : Int32) (l4 : Int32) (M : Mem) : RF yX10_test cX10_test 5 none 11 eV (f_X10_test_J82 k9 this l2 l3 l4 M) 82 [(0, va_rf (some this)), (2, .int l2), (3, .int l3), (4, .int l4)] [] M := by
  rw [f_X10_test_J82]
  refine R_iload (pc' := 84) (i := 4) (j := 3) (x := l4) dX10_test_82 rfl rfl ?_
  refine R_if_eq (pc' := 87) (tgt := 93) (a := l4) dX10_test_84 (by decide) rfl ?_ ?_
  · exact R_sub [0, 1, 2] rfl (rf_X10_test_J93 this k9 hk9 l2 l3 M)
  · refine R_aloadq_n (pc' := 88) (i := 0) (j := 0) (q := (some this)) dX10_test_87 rfl rfl rfl ?_
    refine R_bipush (pc' := 90) (x := (nI 11)) dX10_test_88 rfl (by decide) ?_
    refine R_callV_V (pc' := 93) (q := (some this)) (As := [.int (nI 11)]) (fun o2 => rm_X10_answers o2 (nI 11) M) mf_X10_answers lk_X10_256 im_X10_answers se_X10_answers rfl rfl rfl dX10_test_90 rfl (by decide) (Nat.le_trans c_0 (by decide)) (fun u1 M => ?_)
    exact R_sub [0, 1, 2] rfl (rf_X10_test_J93 this k9 hk9 l2 l3 M)
def f_X10_test_J164 (k9 : Int32 → Int32 → Mem → Option (Unit × Mem)) (this : Nat) (l1 : Int32) (l2 : Int32) (M : Mem) : Option (Unit × Mem) :=
  (gI M 10 18 (some this)).bind fun p1 =>
  (pI M 10 18 (some this) (p1 + (nI 1))).bind fun M =>
  (gI M 10 25 (some this)).bind fun opened2 =>
  (pI M 10 25 (some this) (opened2 - (nI 1))).bind fun M =>
  (gI M 10 23 (some this)).bind fun deep3 =>
  (pI M 10 23 (some this) (deep3 - (nI 1))).bind fun M =>
  f_X10_test_J199 k9 this l1 l2 M
set_option maxHeartbeats 2000000 in
set_option maxRecDepth 20000 in
theorem rf_X10_test_J164 (this : Nat) (k9 : Int32 → Int32 → Mem → Option (Unit × Mem)) (hk9 : ∀ (l1 : Int32) (l2 : Int32) (M : Mem), RF yX10_test cX10_test 5 none 11 eV (k9 l1 l2 M) 9 [(0, va_rf (some this)), (1, .int l1), (2, .int l2)] [] M) (l1 : Int32) (l2 : Int32) (M : Mem) : RF yX10_test cX10_test 5 none 11 eV (f_X10_test_J164 k9 this l1 l2 M) 164 [(0, va_rf (some this)), (1, .int l1), (2, .int l2)] [] M := by
  rw [f_X10_test_J164]
  refine R_aloadq_n (pc' := 165) (i := 0) (j := 0) (q := (some this)) dX10_test_164 rfl rfl rfl ?_
  refine R_dup (pc' := 166) dX10_test_165 rfl (rf_cat _) ?_
  refine R_getI (pc' := 169) (q := (some this)) fl_X10_168 rfl dX10_test_166 rfl (fun p1 => ?_)
  refine R_iconst (pc' := 170) (x := (nI 1)) dX10_test_169 rfl (by decide) ?_
  refine R_iadd (pc' := 171) (a := p1) (b := (nI 1)) dX10_test_170 rfl ?_
  refine R_putI (pc' := 174) (q := (some this)) (x := (p1 + (nI 1))) fl_X10_168 (Or.inl rfl) dX10_test_171 rfl (fun M => ?_)
  refine R_aloadq_n (pc' := 175) (i := 0) (j := 0) (q := (some this)) dX10_test_174 rfl rfl rfl ?_
  refine R_dup (pc' := 176) dX10_test_175 rfl (rf_cat _) ?_
  refine R_getI (pc' := 179) (q := (some this)) fl_X10_236 rfl dX10_test_176 rfl (fun opened2 => ?_)
  refine R_iconst (pc' := 180) (x := (nI 1)) dX10_test_179 rfl (by decide) ?_
  refine R_isub (pc' := 181) (a := opened2) (b := (nI 1)) dX10_test_180 rfl ?_
  refine R_putI (pc' := 184) (q := (some this)) (x := (opened2 - (nI 1))) fl_X10_236 (Or.inl rfl) dX10_test_181 rfl (fun M => ?_)
  refine R_aloadq_n (pc' := 185) (i := 0) (j := 0) (q := (some this)) dX10_test_184 rfl rfl rfl ?_
  refine R_dup (pc' := 186) dX10_test_185 rfl (rf_cat _) ?_
  refine R_getI (pc' := 189) (q := (some this)) fl_X10_239 rfl dX10_test_186 rfl (fun deep3 => ?_)
  refine R_iconst (pc' := 190) (x := (nI 1)) dX10_test_189 rfl (by decide) ?_
  refine R_isub (pc' := 191) (a := deep3) (b := (nI 1)) dX10_test_190 rfl ?_
  refine R_putI (pc' := 194) (q := (some this)) (x := (deep3 - (nI 1))) fl_X10_239 (Or.inl rfl) dX10_test_191 rfl (fun M => ?_)
  refine R_goto (tgt := 199) dX10_test_194 (by decide) ?_
  exact R_sub [0, 1, 2] rfl (rf_X10_test_J199 this k9 hk9 l1 l2 M)
def f_X10_test_J36 (k9 : Int32 → Int32 → Mem → Option (Unit × Mem)) (this : Nat) (l2 : Int32) (s0 : Int32) (M : Mem) : Option (Unit × Mem) :=
  k9 s0 l2 M
set_option maxHeartbeats 2000000 in
set_option maxRecDepth 20000 in
theorem rf_X10_test_J36 (this : Nat) (k9 : Int32 → Int32 → Mem → Option (Unit × Mem)) (hk9 : ∀ (l1 : Int32) (l2 : Int32) (M : Mem), RF yX10_test cX10_test 5 none 11 eV (k9 l1 l2 M) 9 [(0, va_rf (some this)), (1, .int l1), (2, .int l2)] [] M) (l2 : Int32) (s0 : Int32) (M : Mem) : RF yX10_test cX10_test 5 none 11 eV (f_X10_test_J36 k9 this l2 s0 M) 36 [(0, va_rf (some this)), (2, .int l2)] [.int s0] M := by
  rw [f_X10_test_J36]
  refine R_istore_n (pc' := 37) (L' := [(1, .int s0), (0, va_rf (some this)), (2, .int l2)]) (i := 1) (x := s0) dX10_test_36 rfl rfl (by decide) rfl ?_
  refine R_goto (tgt := 9) dX10_test_37 (by decide) ?_
  exact R_sub [1, 0, 2] rfl (hk9 s0 l2 M)
def f_X10_test_L9 (this : Nat) : Nat → Int32 → Int32 → Mem → Option (Unit × Mem)
  | 0, _, _, _ => none
  | n + 1, l1, l2, M =>
    (if l2 = 0 then
      (f_X10_test_J202 this M)
    else
      ((gI M 10 19 (some this)).bind fun fault1 =>
      (if fault1 = 0 then
        ((if l1 = 0 then
          ((oO M 10 (some this)).bind fun o20 => cl (f_X10_answers o20 (nI 9) M) fun u2 M =>
          (oO M 10 (some this)).bind fun o19 => cl (f_X10_blanks o19 M) fun u3 M =>
          (oO M 10 (some this)).bind fun o18 => cl (f_X10_stood o18 (13 : UInt32) M) fun r4 M =>
          (oO M 10 (some this)).bind fun o17 => cl (f_X10_stood o17 (14 : UInt32) M) fun r5 M =>
          (oO M 10 (some this)).bind fun o16 => cl (f_X10_answers o16 (nI 10) M) fun u6 M =>
          (if r4 = 0 then
            ((if r5 = 0 then
              ((oO M 10 (some this)).bind fun o15 => cl (f_X10_answers o15 (nI 11) M) fun u7 M =>
              (oO M 10 (some this)).bind fun o14 => cl (f_X10_top o14 M) fun r8 M =>
              (if r8 = (nI 12) then
                ((oO M 10 (some this)).bind fun o13 => cl (f_X10_sign o13 M) fun r9 M =>
                (if r9 = (nI 93) then
                  (f_X10_test_J164 (f_X10_test_L9 this n) this l1 l2 M)
                else
                  ((gI M 10 18 (some this)).bind fun p10 =>
                  (oO M 10 (some this)).bind fun o12 => cl (f_X10_fails o12 (nI 0) p10 M) fun u11 M =>
                  f_X10_test_J164 (f_X10_test_L9 this n) this l1 l2 M)))
              else
                (f_X10_test_J199 (f_X10_test_L9 this n) this l1 (nI 0) M)))
            else
              (f_X10_test_J82 (f_X10_test_L9 this n) this l2 r4 r5 M)))
          else
            (f_X10_test_J82 (f_X10_test_L9 this n) this l2 r4 r5 M)))
        else
          ((oO M 10 (some this)).bind fun o22 => cl (f_X10_fact o22 M) fun r21 M =>
          (if r21 = 0 then
            (f_X10_test_J36 (f_X10_test_L9 this n) this l2 (nI 1) M)
          else
            (f_X10_test_J36 (f_X10_test_L9 this n) this l2 (nI 0) M)))))
      else
        (f_X10_test_J202 this M))))
set_option maxHeartbeats 2000000 in
set_option maxRecDepth 20000 in
theorem rf_X10_test_L9 (this : Nat) : ∀ (n : Nat) (l1 : Int32) (l2 : Int32) (M : Mem), RF yX10_test cX10_test 5 none 11 eV (f_X10_test_L9 this n l1 l2 M) 9 [(0, va_rf (some this)), (1, .int l1), (2, .int l2)] [] M := by
  intro n
  induction n with
  | zero => intro _ _ _; exact RF.none
  | succ n ih =>
    intro l1 l2 M
    rw [f_X10_test_L9]
    refine R_iload_n (pc' := 10) (i := 2) (j := 2) (x := l2) dX10_test_9 rfl rfl rfl ?_
    refine R_if_eq (pc' := 13) (tgt := 202) (a := l2) dX10_test_10 (by decide) rfl ?_ ?_
    · exact R_sub [] rfl (rf_X10_test_J202 this M)
    · refine R_aloadq_n (pc' := 14) (i := 0) (j := 0) (q := (some this)) dX10_test_13 rfl rfl rfl ?_
      refine R_getI (pc' := 17) (q := (some this)) fl_X10_165 rfl dX10_test_14 rfl (fun fault1 => ?_)
      refine R_if_ne (pc' := 20) (tgt := 202) (a := fault1) dX10_test_17 (by decide) rfl ?_ ?_
      · exact R_sub [] rfl (rf_X10_test_J202 this M)
      · refine R_iload_n (pc' := 21) (i := 1) (j := 1) (x := l1) dX10_test_20 rfl rfl rfl ?_
        refine R_if_eq (pc' := 24) (tgt := 40) (a := l1) dX10_test_21 (by decide) rfl ?_ ?_
        · refine R_aloadq_n (pc' := 41) (i := 0) (j := 0) (q := (some this)) dX10_test_40 rfl rfl rfl ?_
          refine R_bipush (pc' := 43) (x := (nI 9)) dX10_test_41 rfl (by decide) ?_
          refine R_callV_V (pc' := 46) (q := (some this)) (As := [.int (nI 9)]) (fun o20 => rm_X10_answers o20 (nI 9) M) mf_X10_answers lk_X10_256 im_X10_answers se_X10_answers rfl rfl rfl dX10_test_43 rfl (by decide) (Nat.le_trans c_0 (by decide)) (fun u2 M => ?_)
          refine R_aloadq_n (pc' := 47) (i := 0) (j := 0) (q := (some this)) dX10_test_46 rfl rfl rfl ?_
          refine R_callV_V (pc' := 50) (q := (some this)) (As := []) (fun o19 => rm_X10_blanks o19 M) mf_X10_blanks lk_X10_188 im_X10_blanks se_X10_blanks rfl rfl rfl dX10_test_47 rfl (by decide) (Nat.le_trans c_0 (by decide)) (fun u3 M => ?_)
          refine R_aloadq_n (pc' := 51) (i := 0) (j := 0) (q := (some this)) dX10_test_50 rfl rfl rfl ?_
          refine R_kstrw (pc' := 54) (u := (13 : UInt32)) (i := 12) rfl (by decide) rfl rfl dX10_test_51 rfl ?_
          refine R_callV_I (pc' := 57) (q := (some this)) (As := [.float (13 : UInt32)]) (fun o18 => rm_X10_stood o18 (13 : UInt32) M) mf_X10_stood lk_X10_191 im_X10_stood se_X10_stood rfl rfl rfl dX10_test_54 rfl (by decide) (Nat.le_trans c_0 (by decide)) (fun r4 M => ?_)
          refine R_istore_n (pc' := 58) (L' := [(3, .int r4), (0, va_rf (some this)), (1, .int l1), (2, .int l2)]) (i := 3) (x := r4) dX10_test_57 rfl rfl (by decide) rfl ?_
          refine R_aloadq_n (pc' := 59) (i := 0) (j := 1) (q := (some this)) dX10_test_58 rfl rfl rfl ?_
          refine R_kstrw (pc' := 62) (u := (14 : UInt32)) (i := 13) rfl (by decide) rfl rfl dX10_test_59 rfl ?_
          refine R_callV_I (pc' := 65) (q := (some this)) (As := [.float (14 : UInt32)]) (fun o17 => rm_X10_stood o17 (14 : UInt32) M) mf_X10_stood lk_X10_191 im_X10_stood se_X10_stood rfl rfl rfl dX10_test_62 rfl (by decide) (Nat.le_trans c_0 (by decide)) (fun r5 M => ?_)
          refine R_istore (pc' := 67) (L' := [(4, .int r5), (3, .int r4), (0, va_rf (some this)), (1, .int l1), (2, .int l2)]) (i := 4) (x := r5) dX10_test_65 rfl (by decide) rfl ?_
          refine R_aloadq_n (pc' := 68) (i := 0) (j := 2) (q := (some this)) dX10_test_67 rfl rfl rfl ?_
          refine R_bipush (pc' := 70) (x := (nI 10)) dX10_test_68 rfl (by decide) ?_
          refine R_callV_V (pc' := 73) (q := (some this)) (As := [.int (nI 10)]) (fun o16 => rm_X10_answers o16 (nI 10) M) mf_X10_answers lk_X10_256 im_X10_answers se_X10_answers rfl rfl rfl dX10_test_70 rfl (by decide) (Nat.le_trans c_0 (by decide)) (fun u6 M => ?_)
          refine R_iload_n (pc' := 74) (i := 3) (j := 1) (x := r4) dX10_test_73 rfl rfl rfl ?_
          refine R_if_ne (pc' := 77) (tgt := 82) (a := r4) dX10_test_74 (by decide) rfl ?_ ?_
          · exact R_sub [2, 4, 1, 0] rfl (rf_X10_test_J82 this (f_X10_test_L9 this n) ih l2 r4 r5 M)
          · refine R_iload (pc' := 79) (i := 4) (j := 0) (x := r5) dX10_test_77 rfl rfl ?_
            refine R_if_eq (pc' := 82) (tgt := 131) (a := r5) dX10_test_79 (by decide) rfl ?_ ?_
            · refine R_aloadq_n (pc' := 132) (i := 0) (j := 2) (q := (some this)) dX10_test_131 rfl rfl rfl ?_
              refine R_bipush (pc' := 134) (x := (nI 11)) dX10_test_132 rfl (by decide) ?_
              refine R_callV_V (pc' := 137) (q := (some this)) (As := [.int (nI 11)]) (fun o15 => rm_X10_answers o15 (nI 11) M) mf_X10_answers lk_X10_256 im_X10_answers se_X10_answers rfl rfl rfl dX10_test_134 rfl (by decide) (Nat.le_trans c_0 (by decide)) (fun u7 M => ?_)
              refine R_aloadq_n (pc' := 138) (i := 0) (j := 2) (q := (some this)) dX10_test_137 rfl rfl rfl ?_
              refine R_callV_I (pc' := 141) (q := (some this)) (As := []) (fun o14 => rm_X10_top o14 M) mf_X10_top lk_X10_242 im_X10_top se_X10_top rfl rfl rfl dX10_test_138 rfl (by decide) (Nat.le_trans c_0 (by decide)) (fun r8 M => ?_)
              refine R_bipush (pc' := 143) (x := (nI 12)) dX10_test_141 rfl (by decide) ?_
              refine R_icmp_ne (pc' := 146) (tgt := 197) (a := r8) (b := (nI 12)) dX10_test_143 (by decide) rfl ?_ ?_
              · refine R_iconst (pc' := 198) (x := (nI 0)) dX10_test_197 rfl (by decide) ?_
                refine R_istore_n (pc' := 199) (L' := [(2, .int (nI 0)), (4, .int r5), (3, .int r4), (0, va_rf (some this)), (1, .int l1)]) (i := 2) (x := (nI 0)) dX10_test_198 rfl rfl (by decide) rfl ?_
                exact R_sub [3, 4, 0] rfl (rf_X10_test_J199 this (f_X10_test_L9 this n) ih l1 (nI 0) M)
              · refine R_aloadq_n (pc' := 147) (i := 0) (j := 2) (q := (some this)) dX10_test_146 rfl rfl rfl ?_
                refine R_callV_I (pc' := 150) (q := (some this)) (As := []) (fun o13 => rm_X10_sign o13 M) mf_X10_sign lk_X10_171 im_X10_sign se_X10_sign rfl rfl rfl dX10_test_147 rfl (by decide) (Nat.le_trans c_0 (by decide)) (fun r9 M => ?_)
                refine R_bipush (pc' := 152) (x := (nI 93)) dX10_test_150 rfl (by decide) ?_
                refine R_icmp_eq (pc' := 155) (tgt := 164) (a := r9) (b := (nI 93)) dX10_test_152 (by decide) rfl ?_ ?_
                · exact R_sub [2, 3, 4] rfl (rf_X10_test_J164 this (f_X10_test_L9 this n) ih l1 l2 M)
                · refine R_aloadq_n (pc' := 156) (i := 0) (j := 2) (q := (some this)) dX10_test_155 rfl rfl rfl ?_
                  refine R_iconst (pc' := 157) (x := (nI 0)) dX10_test_156 rfl (by decide) ?_
                  refine R_aloadq_n (pc' := 158) (i := 0) (j := 2) (q := (some this)) dX10_test_157 rfl rfl rfl ?_
                  refine R_getI (pc' := 161) (q := (some this)) fl_X10_168 rfl dX10_test_158 rfl (fun p10 => ?_)
                  refine R_callV_V (pc' := 164) (q := (some this)) (As := [.int (nI 0), .int p10]) (fun o12 => rm_X10_fails o12 (nI 0) p10 M) mf_X10_fails lk_X10_204 im_X10_fails se_X10_fails rfl rfl rfl dX10_test_161 rfl (by decide) (Nat.le_trans c_0 (by decide)) (fun u11 M => ?_)
                  exact R_sub [2, 3, 4] rfl (rf_X10_test_J164 this (f_X10_test_L9 this n) ih l1 l2 M)
            · exact R_sub [2, 4, 1, 0] rfl (rf_X10_test_J82 this (f_X10_test_L9 this n) ih l2 r4 r5 M)
        · refine R_aloadq_n (pc' := 25) (i := 0) (j := 0) (q := (some this)) dX10_test_24 rfl rfl rfl ?_
          refine R_callV_I (pc' := 28) (q := (some this)) (As := []) (fun o22 => rm_X10_fact o22 M) mf_X10_fact lk_X10_253 im_X10_fact se_X10_fact rfl rfl rfl dX10_test_25 rfl (by decide) (Nat.le_trans c_0 (by decide)) (fun r21 M => ?_)
          refine R_if_ne (pc' := 31) (tgt := 35) (a := r21) dX10_test_28 (by decide) rfl ?_ ?_
          · refine R_iconst (pc' := 36) (x := (nI 0)) dX10_test_35 rfl (by decide) ?_
            exact R_sub [0, 2] rfl (rf_X10_test_J36 this (f_X10_test_L9 this n) ih l2 (nI 0) M)
          · refine R_iconst (pc' := 32) (x := (nI 1)) dX10_test_31 rfl (by decide) ?_
            refine R_goto (tgt := 36) dX10_test_32 (by decide) ?_
            exact R_sub [0, 2] rfl (rf_X10_test_J36 this (f_X10_test_L9 this n) ih l2 (nI 1) M)
def f_X10_test (this : Nat) (M : Mem) : Option (Unit × Mem) :=
  (pI M 10 25 (some this) (nI 0)).bind fun M =>
  f_X10_test_L9 this FU (nI 1) (nI 1) M
set_option maxHeartbeats 2000000 in
set_option maxRecDepth 20000 in
theorem rm_X10_test (this : Nat) (M : Mem) : RFm yX10_test cX10_test 5 none 11 eV (f_X10_test this M) [va_rf (some this)] M := by
  refine RFm_of (L := [(0, va_rf (some this))]) (by decide) rfl (Nat.le_trans (c_R c_0) (by decide)) ?_
  rw [f_X10_test]
  refine R_aloadq_n (pc' := 1) (i := 0) (j := 0) (q := (some this)) dX10_test_0 rfl rfl rfl ?_
  refine R_iconst (pc' := 2) (x := (nI 0)) dX10_test_1 rfl (by decide) ?_
  refine R_putI (pc' := 5) (q := (some this)) (x := (nI 0)) fl_X10_236 (Or.inl rfl) dX10_test_2 rfl (fun M => ?_)
  refine R_iconst (pc' := 6) (x := (nI 1)) dX10_test_5 rfl (by decide) ?_
  refine R_istore_n (pc' := 7) (L' := [(1, .int (nI 1)), (0, va_rf (some this))]) (i := 1) (x := (nI 1)) dX10_test_6 rfl rfl (by decide) rfl ?_
  refine R_iconst (pc' := 8) (x := (nI 1)) dX10_test_7 rfl (by decide) ?_
  refine R_istore_n (pc' := 9) (L' := [(2, .int (nI 1)), (1, .int (nI 1)), (0, va_rf (some this))]) (i := 2) (x := (nI 1)) dX10_test_8 rfl rfl (by decide) rfl ?_
  exact R_sub [2, 1, 0] rfl (rf_X10_test_L9 this FU (nI 1) (nI 1) M)
/-! BarPilotModel.amount(II)I -/
def f_X10_amount_J54 (this : Nat) (l4 : Int32) (M : Mem) : Option (Int32 × Mem) :=
  some (l4, M)
set_option maxHeartbeats 2000000 in
set_option maxRecDepth 20000 in
theorem rf_X10_amount_J54 (this : Nat) (l4 : Int32) (M : Mem) : RF yX10_amount cX10_amount 5 (some .int) 4 eI (f_X10_amount_J54 this l4 M) 54 [(4, .int l4)] [] M := by
  rw [f_X10_amount_J54]
  refine R_iload (pc' := 56) (i := 4) (j := 0) (x := l4) dX10_amount_54 rfl rfl ?_
  exact R_iret dX10_amount_56
def f_X10_amount_J26 (this : Nat) (l1 : Int32) (l2 : Int32) (l3 : Int32) (s0 : Int32) (M : Mem) : Option (Int32 × Mem) :=
  (gI M 10 19 (some this)).bind fun fault1 =>
  (if fault1 = 0 then
    (cl (f_X10_in (Int32.toInt64 s0) (Int32.toInt64 l1) (Int32.toInt64 l2) M) fun r2 M =>
    (if r2 = 0 then
      ((oO M 10 (some this)).bind fun o4 => cl (f_X10_fails o4 (nI 1) l3 M) fun u3 M =>
      f_X10_amount_J54 this s0 M)
    else
      (f_X10_amount_J54 this s0 M)))
  else
    (f_X10_amount_J54 this s0 M))
set_option maxHeartbeats 2000000 in
set_option maxRecDepth 20000 in
theorem rf_X10_amount_J26 (this : Nat) (l1 : Int32) (l2 : Int32) (l3 : Int32) (s0 : Int32) (M : Mem) : RF yX10_amount cX10_amount 5 (some .int) 4 eI (f_X10_amount_J26 this l1 l2 l3 s0 M) 26 [(0, va_rf (some this)), (1, .int l1), (2, .int l2), (3, .int l3)] [.int s0] M := by
  rw [f_X10_amount_J26]
  refine R_istore (pc' := 28) (L' := [(4, .int s0), (0, va_rf (some this)), (1, .int l1), (2, .int l2), (3, .int l3)]) (i := 4) (x := s0) dX10_amount_26 rfl (by decide) rfl ?_
  refine R_aloadq_n (pc' := 29) (i := 0) (j := 1) (q := (some this)) dX10_amount_28 rfl rfl rfl ?_
  refine R_getI (pc' := 32) (q := (some this)) fl_X10_165 rfl dX10_amount_29 rfl (fun fault1 => ?_)
  refine R_if_ne (pc' := 35) (tgt := 54) (a := fault1) dX10_amount_32 (by decide) rfl ?_ ?_
  · exact R_sub [0] rfl (rf_X10_amount_J54 this s0 M)
  · refine R_iload (pc' := 37) (i := 4) (j := 0) (x := s0) dX10_amount_35 rfl rfl ?_
    refine R_i2l (pc' := 38) (a := s0) dX10_amount_37 rfl ?_
    refine R_iload_n (pc' := 39) (i := 1) (j := 2) (x := l1) dX10_amount_38 rfl rfl rfl ?_
    refine R_i2l (pc' := 40) (a := l1) dX10_amount_39 rfl ?_
    refine R_iload_n (pc' := 41) (i := 2) (j := 3) (x := l2) dX10_amount_40 rfl rfl rfl ?_
    refine R_i2l (pc' := 42) (a := l2) dX10_amount_41 rfl ?_
    refine R_callS_I (pc' := 45) (As := [.long (Int32.toInt64 s0), .long (Int32.toInt64 l1), .long (Int32.toInt64 l2)]) (rm_X10_in (Int32.toInt64 s0) (Int32.toInt64 l1) (Int32.toInt64 l2) M) mf_X10_in lk_X10_131 sm_X10_in rfl rfl dX10_amount_42 rfl (by decide) (Nat.le_trans c_0 (by decide)) (fun r2 M => ?_)
    refine R_if_ne (pc' := 48) (tgt := 54) (a := r2) dX10_amount_45 (by decide) rfl ?_ ?_
    · exact R_sub [0] rfl (rf_X10_amount_J54 this s0 M)
    · refine R_aloadq_n (pc' := 49) (i := 0) (j := 1) (q := (some this)) dX10_amount_48 rfl rfl rfl ?_
      refine R_iconst (pc' := 50) (x := (nI 1)) dX10_amount_49 rfl (by decide) ?_
      refine R_iload_n (pc' := 51) (i := 3) (j := 4) (x := l3) dX10_amount_50 rfl rfl rfl ?_
      refine R_callV_V (pc' := 54) (q := (some this)) (As := [.int (nI 1), .int l3]) (fun o4 => rm_X10_fails o4 (nI 1) l3 M) mf_X10_fails lk_X10_204 im_X10_fails se_X10_fails rfl rfl rfl dX10_amount_51 rfl (by decide) (Nat.le_trans c_0 (by decide)) (fun u3 M => ?_)
      exact R_sub [0] rfl (rf_X10_amount_J54 this s0 M)
def f_X10_amount (this : Nat) (l1 : Int32) (l2 : Int32) (M : Mem) : Option (Int32 × Mem) :=
  (oO M 10 (some this)).bind fun o6 => cl (f_X10_blanks o6 M) fun u1 M =>
  (gI M 10 18 (some this)).bind fun p2 =>
  (gI M 10 19 (some this)).bind fun fault3 =>
  (if fault3 = 0 then
    ((oO M 10 (some this)).bind fun o5 => cl (f_X10_digits o5 (nI 99999) M) fun r4 M =>
    f_X10_amount_J26 this l1 l2 p2 r4 M)
  else
    (f_X10_amount_J26 this l1 l2 p2 (nI 0) M))
set_option maxHeartbeats 2000000 in
set_option maxRecDepth 20000 in
theorem rm_X10_amount (this : Nat) (l1 : Int32) (l2 : Int32) (M : Mem) : RFm yX10_amount cX10_amount 5 (some .int) 4 eI (f_X10_amount this l1 l2 M) [va_rf (some this), .int l1, .int l2] M := by
  refine RFm_of (L := [(0, va_rf (some this)), (1, .int l1), (2, .int l2)]) (by decide) rfl (Nat.le_trans (c_R (c_I (c_I c_0))) (by decide)) ?_
  rw [f_X10_amount]
  refine R_aloadq_n (pc' := 1) (i := 0) (j := 0) (q := (some this)) dX10_amount_0 rfl rfl rfl ?_
  refine R_callV_V (pc' := 4) (q := (some this)) (As := []) (fun o6 => rm_X10_blanks o6 M) mf_X10_blanks lk_X10_188 im_X10_blanks se_X10_blanks rfl rfl rfl dX10_amount_1 rfl (by decide) (Nat.le_trans c_0 (by decide)) (fun u1 M => ?_)
  refine R_aloadq_n (pc' := 5) (i := 0) (j := 0) (q := (some this)) dX10_amount_4 rfl rfl rfl ?_
  refine R_getI (pc' := 8) (q := (some this)) fl_X10_168 rfl dX10_amount_5 rfl (fun p2 => ?_)
  refine R_istore_n (pc' := 9) (L' := [(3, .int p2), (0, va_rf (some this)), (1, .int l1), (2, .int l2)]) (i := 3) (x := p2) dX10_amount_8 rfl rfl (by decide) rfl ?_
  refine R_aloadq_n (pc' := 10) (i := 0) (j := 1) (q := (some this)) dX10_amount_9 rfl rfl rfl ?_
  refine R_getI (pc' := 13) (q := (some this)) fl_X10_165 rfl dX10_amount_10 rfl (fun fault3 => ?_)
  refine R_if_ne (pc' := 16) (tgt := 25) (a := fault3) dX10_amount_13 (by decide) rfl ?_ ?_
  · refine R_iconst (pc' := 26) (x := (nI 0)) dX10_amount_25 rfl (by decide) ?_
    exact R_sub [1, 2, 3, 0] rfl (rf_X10_amount_J26 this l1 l2 p2 (nI 0) M)
  · refine R_aloadq_n (pc' := 17) (i := 0) (j := 1) (q := (some this)) dX10_amount_16 rfl rfl rfl ?_
    refine R_ldc (pc' := 19) (x := (nI 99999)) dX10_amount_17 rfl co_X10_212 ?_
    refine R_callV_I (pc' := 22) (q := (some this)) (As := [.int (nI 99999)]) (fun o5 => rm_X10_digits o5 (nI 99999) M) mf_X10_digits lk_X10_213 im_X10_digits se_X10_digits rfl rfl rfl dX10_amount_19 rfl (by decide) (Nat.le_trans c_0 (by decide)) (fun r4 M => ?_)
    refine R_goto (tgt := 26) dX10_amount_22 (by decide) ?_
    exact R_sub [1, 2, 3, 0] rfl (rf_X10_amount_J26 this l1 l2 p2 r4 M)
/-! BarPilotModel.barWord(I)Ljava/lang/String; -/
def f_X10_barWord (l0 : Int32) (M : Mem) : Option (UInt32 × Mem) :=
  (tsw l0 (0) [
    (some ((15 : UInt32), M)),
    (some ((2 : UInt32), M)),
    (some ((1 : UInt32), M))]
    (some ((16 : UInt32), M)))
set_option maxHeartbeats 2000000 in
set_option maxRecDepth 20000 in
theorem rm_X10_barWord (l0 : Int32) (M : Mem) : RFm yX10_barWord cX10_barWord 1 (some (.object "java/lang/String")) 1 eC (f_X10_barWord l0 M) [.int l0] M := by
  refine RFm_of (L := [(0, .int l0)]) (by decide) rfl (Nat.le_trans (c_I c_0) (by decide)) ?_
  rw [f_X10_barWord]
  refine R_iload_n (pc' := 1) (i := 0) (j := 0) (x := l0) dX10_barWord_0 rfl rfl rfl ?_
  refine R_tsw (tgt := 38) (x := l0) dX10_barWord_1 rfl (by decide) ?_ ⟨⟨28, by decide, ?_⟩, ⟨32, by decide, ?_⟩, ⟨35, by decide, ?_⟩, trivial⟩
  · refine R_kstrw (pc' := 41) (u := (16 : UInt32)) (i := 15) rfl (by decide) rfl rfl dX10_barWord_38 rfl ?_
    exact R_cret (Or.inl ⟨_, rfl⟩) dX10_barWord_41
  · refine R_kstrw (pc' := 31) (u := (15 : UInt32)) (i := 14) rfl (by decide) rfl rfl dX10_barWord_28 rfl ?_
    exact R_cret (Or.inl ⟨_, rfl⟩) dX10_barWord_31
  · refine R_kstr (pc' := 34) (u := (2 : UInt32)) (i := 1) rfl (by decide) rfl rfl dX10_barWord_32 rfl ?_
    exact R_cret (Or.inl ⟨_, rfl⟩) dX10_barWord_34
  · refine R_kstr (pc' := 37) (u := (1 : UInt32)) (i := 0) rfl (by decide) rfl rfl dX10_barWord_35 rfl ?_
    exact R_cret (Or.inl ⟨_, rfl⟩) dX10_barWord_37
/-! BarPilotModel.barPart(I)V -/
def f_X10_barPart_J199 (this : Nat) (M : Mem) : Option (Unit × Mem) :=
  some ((), M)
set_option maxHeartbeats 2000000 in
set_option maxRecDepth 20000 in
theorem rf_X10_barPart_J199 (this : Nat) (M : Mem) : RF yX10_barPart cX10_barPart 4 none 5 eV (f_X10_barPart_J199 this M) 199 [] [] M := by
  rw [f_X10_barPart_J199]
  exact R_vret dX10_barPart_199
def f_X10_barPart_L65 (this : Nat) : Nat → Int32 → Int32 → Mem → Option (Unit × Mem)
  | 0, _, _, _ => none
  | n + 1, l2, l3, M =>
    (if (nI 3) ≤ l3 then
      ((gR M 10 12 (some this)).bind fun newScalar1 =>
      (aI M 0 newScalar1 (nI 2)).bind fun e2 =>
      (wI M 0 newScalar1 (nI 2) (e2 + (nI 1))).bind fun M =>
      f_X10_barPart_J199 this M)
    else
      ((gR M 10 13 (some this)).bind fun newParts3 =>
      (oO M 10 (some this)).bind fun o5 => cl (f_X10_amount o5 (nI 0) (nI 9) M) fun r4 M =>
      (wI M 0 newParts3 (((nI 3) * l2) + l3) r4).bind fun M =>
      (f_X10_barPart_L65 this n) l2 (l3 + (nI 1)) M))
set_option maxHeartbeats 2000000 in
set_option maxRecDepth 20000 in
theorem rf_X10_barPart_L65 (this : Nat) : ∀ (n : Nat) (l2 : Int32) (l3 : Int32) (M : Mem), RF yX10_barPart cX10_barPart 4 none 5 eV (f_X10_barPart_L65 this n l2 l3 M) 65 [(0, va_rf (some this)), (2, .int l2), (3, .int l3)] [] M := by
  intro n
  induction n with
  | zero => intro _ _ _; exact RF.none
  | succ n ih =>
    intro l2 l3 M
    rw [f_X10_barPart_L65]
    refine R_iload_n (pc' := 66) (i := 3) (j := 2) (x := l3) dX10_barPart_65 rfl rfl rfl ?_
    refine R_iconst (pc' := 67) (x := (nI 3)) dX10_barPart_66 rfl (by decide) ?_
    refine R_icmp_ge (pc' := 70) (tgt := 93) (a := l3) (b := (nI 3)) dX10_barPart_67 (by decide) rfl ?_ ?_
    · refine R_aloadq_n (pc' := 94) (i := 0) (j := 0) (q := (some this)) dX10_barPart_93 rfl rfl rfl ?_
      refine R_getR (pc' := 97) (q := (some this)) fl_X10_43 rfl dX10_barPart_94 rfl (fun newScalar1 => ?_)
      refine R_iconst (pc' := 98) (x := (nI 2)) dX10_barPart_97 rfl (by decide) ?_
      refine R_dup2 (pc' := 99) dX10_barPart_98 rfl rfl (rf_cat _) ?_
      refine R_iald (pc' := 100) (q := newScalar1) (i := (nI 2)) dX10_barPart_99 rfl (fun e2 => ?_)
      refine R_iconst (pc' := 101) (x := (nI 1)) dX10_barPart_100 rfl (by decide) ?_
      refine R_iadd (pc' := 102) (a := e2) (b := (nI 1)) dX10_barPart_101 rfl ?_
      refine R_iast (pc' := 103) (q := newScalar1) (i := (nI 2)) (x := (e2 + (nI 1))) dX10_barPart_102 rfl (fun M => ?_)
      refine R_goto (tgt := 199) dX10_barPart_103 (by decide) ?_
      exact R_sub [] rfl (rf_X10_barPart_J199 this M)
    · refine R_aloadq_n (pc' := 71) (i := 0) (j := 0) (q := (some this)) dX10_barPart_70 rfl rfl rfl ?_
      refine R_getR (pc' := 74) (q := (some this)) fl_X10_46 rfl dX10_barPart_71 rfl (fun newParts3 => ?_)
      refine R_iconst (pc' := 75) (x := (nI 3)) dX10_barPart_74 rfl (by decide) ?_
      refine R_iload_n (pc' := 76) (i := 2) (j := 1) (x := l2) dX10_barPart_75 rfl rfl rfl ?_
      refine R_imul (pc' := 77) (a := (nI 3)) (b := l2) dX10_barPart_76 rfl ?_
      refine R_iload_n (pc' := 78) (i := 3) (j := 2) (x := l3) dX10_barPart_77 rfl rfl rfl ?_
      refine R_iadd (pc' := 79) (a := ((nI 3) * l2)) (b := l3) dX10_barPart_78 rfl ?_
      refine R_aloadq_n (pc' := 80) (i := 0) (j := 0) (q := (some this)) dX10_barPart_79 rfl rfl rfl ?_
      refine R_iconst (pc' := 81) (x := (nI 0)) dX10_barPart_80 rfl (by decide) ?_
      refine R_bipush (pc' := 83) (x := (nI 9)) dX10_barPart_81 rfl (by decide) ?_
      refine R_callV_I (pc' := 86) (q := (some this)) (As := [.int (nI 0), .int (nI 9)]) (fun o5 => rm_X10_amount o5 (nI 0) (nI 9) M) mf_X10_amount lk_X10_266 im_X10_amount se_X10_amount rfl rfl rfl dX10_barPart_83 rfl (by decide) (Nat.le_trans (c_I (c_R c_0)) (by decide)) (fun r4 M => ?_)
      refine R_iast (pc' := 87) (q := newParts3) (i := (((nI 3) * l2) + l3)) (x := r4) dX10_barPart_86 rfl (fun M => ?_)
      refine R_iinc (pc' := 90) (L' := [(3, .int (l3 + (nI 1))), (0, va_rf (some this)), (2, .int l2)]) (i := 3) (j := 2) (x := l3) (x2 := (l3 + (nI 1))) dX10_barPart_87 rfl rfl rfl (by decide) rfl ?_
      refine R_goto (tgt := 65) dX10_barPart_90 (by decide) ?_
      exact R_sub [1, 2, 0] rfl (ih l2 (l3 + (nI 1)) M)
def f_X10_barPart (this : Nat) (l1 : Int32) (M : Mem) : Option (Unit × Mem) :=
  (tsw l1 (0) [
    ((gR M 10 12 (some this)).bind fun newScalar12 =>
    (oO M 10 (some this)).bind fun o17 => cl (f_X10_amount o17 (nI 1) (nI 60) M) fun r13 M =>
    (wI M 0 newScalar12 (nI 0) r13).bind fun M =>
    (gR M 10 12 (some this)).bind fun newScalar14 =>
    (oO M 10 (some this)).bind fun o16 => cl (f_X10_amount o16 (nI 1) (nI 3) M) fun r15 M =>
    (wI M 0 newScalar14 (nI 1) r15).bind fun M =>
    f_X10_barPart_J199 this M),
    ((gR M 10 12 (some this)).bind fun newScalar18 =>
    (aI M 0 newScalar18 (nI 2)).bind fun e19 =>
    f_X10_barPart_L65 this FU e19 (nI 0) M),
    ((gR M 10 12 (some this)).bind fun newScalar20 =>
    (aI M 0 newScalar20 (nI 3)).bind fun e21 =>
    (gR M 10 14 (some this)).bind fun newCargo22 =>
    (oO M 10 (some this)).bind fun o29 => cl (f_X10_amount o29 (nI 0) (nI 99) M) fun r23 M =>
    (wI M 0 newCargo22 e21 r23).bind fun M =>
    (gR M 10 15 (some this)).bind fun newKeeps24 =>
    (oO M 10 (some this)).bind fun o28 => cl (f_X10_amount o28 (nI 0) (nI 60) M) fun r25 M =>
    (wI M 0 newKeeps24 e21 r25).bind fun M =>
    (gR M 10 12 (some this)).bind fun newScalar26 =>
    (aI M 0 newScalar26 (nI 3)).bind fun e27 =>
    (wI M 0 newScalar26 (nI 3) (e27 + (nI 1))).bind fun M =>
    f_X10_barPart_J199 this M)]
    ((gR M 10 12 (some this)).bind fun newScalar1 =>
    (aI M 0 newScalar1 (nI 3)).bind fun e2 =>
    (oO M 10 (some this)).bind fun o11 => cl (f_X10_amount o11 (nI 0) (e2 - (nI 1)) M) fun r3 M =>
    (gR M 10 12 (some this)).bind fun newScalar4 =>
    (aI M 0 newScalar4 (nI 2)).bind fun e5 =>
    (oO M 10 (some this)).bind fun o10 => cl (f_X10_amount o10 (nI 0) (e5 - (nI 1)) M) fun r6 M =>
    (gI M 10 19 (some this)).bind fun fault7 =>
    (if fault7 = 0 then
      ((gR M 10 16 (some this)).bind fun newKnows8 =>
      (aI M 0 newKnows8 r3).bind fun e9 =>
      (wI M 0 newKnows8 r3 (e9 ||| ((nI 1) <<< (r6 &&& 31)))).bind fun M =>
      f_X10_barPart_J199 this M)
    else
      (f_X10_barPart_J199 this M))))
set_option maxHeartbeats 2000000 in
set_option maxRecDepth 20000 in
theorem rm_X10_barPart (this : Nat) (l1 : Int32) (M : Mem) : RFm yX10_barPart cX10_barPart 4 none 5 eV (f_X10_barPart this l1 M) [va_rf (some this), .int l1] M := by
  refine RFm_of (L := [(0, va_rf (some this)), (1, .int l1)]) (by decide) rfl (Nat.le_trans (c_R (c_I c_0)) (by decide)) ?_
  rw [f_X10_barPart]
  refine R_iload_n (pc' := 1) (i := 1) (j := 1) (x := l1) dX10_barPart_0 rfl rfl rfl ?_
  refine R_tsw (tgt := 152) (x := l1) dX10_barPart_1 rfl (by decide) ?_ ⟨⟨28, by decide, ?_⟩, ⟨56, by decide, ?_⟩, ⟨106, by decide, ?_⟩, trivial⟩
  · refine R_aloadq_n (pc' := 153) (i := 0) (j := 0) (q := (some this)) dX10_barPart_152 rfl rfl rfl ?_
    refine R_iconst (pc' := 154) (x := (nI 0)) dX10_barPart_153 rfl (by decide) ?_
    refine R_aloadq_n (pc' := 155) (i := 0) (j := 0) (q := (some this)) dX10_barPart_154 rfl rfl rfl ?_
    refine R_getR (pc' := 158) (q := (some this)) fl_X10_43 rfl dX10_barPart_155 rfl (fun newScalar1 => ?_)
    refine R_iconst (pc' := 159) (x := (nI 3)) dX10_barPart_158 rfl (by decide) ?_
    refine R_iald (pc' := 160) (q := newScalar1) (i := (nI 3)) dX10_barPart_159 rfl (fun e2 => ?_)
    refine R_iconst (pc' := 161) (x := (nI 1)) dX10_barPart_160 rfl (by decide) ?_
    refine R_isub (pc' := 162) (a := e2) (b := (nI 1)) dX10_barPart_161 rfl ?_
    refine R_callV_I (pc' := 165) (q := (some this)) (As := [.int (nI 0), .int (e2 - (nI 1))]) (fun o11 => rm_X10_amount o11 (nI 0) (e2 - (nI 1)) M) mf_X10_amount lk_X10_266 im_X10_amount se_X10_amount rfl rfl rfl dX10_barPart_162 rfl (by decide) (Nat.le_trans c_0 (by decide)) (fun r3 M => ?_)
    refine R_istore_n (pc' := 166) (L' := [(2, .int r3), (0, va_rf (some this)), (1, .int l1)]) (i := 2) (x := r3) dX10_barPart_165 rfl rfl (by decide) rfl ?_
    refine R_aloadq_n (pc' := 167) (i := 0) (j := 1) (q := (some this)) dX10_barPart_166 rfl rfl rfl ?_
    refine R_iconst (pc' := 168) (x := (nI 0)) dX10_barPart_167 rfl (by decide) ?_
    refine R_aloadq_n (pc' := 169) (i := 0) (j := 1) (q := (some this)) dX10_barPart_168 rfl rfl rfl ?_
    refine R_getR (pc' := 172) (q := (some this)) fl_X10_43 rfl dX10_barPart_169 rfl (fun newScalar4 => ?_)
    refine R_iconst (pc' := 173) (x := (nI 2)) dX10_barPart_172 rfl (by decide) ?_
    refine R_iald (pc' := 174) (q := newScalar4) (i := (nI 2)) dX10_barPart_173 rfl (fun e5 => ?_)
    refine R_iconst (pc' := 175) (x := (nI 1)) dX10_barPart_174 rfl (by decide) ?_
    refine R_isub (pc' := 176) (a := e5) (b := (nI 1)) dX10_barPart_175 rfl ?_
    refine R_callV_I (pc' := 179) (q := (some this)) (As := [.int (nI 0), .int (e5 - (nI 1))]) (fun o10 => rm_X10_amount o10 (nI 0) (e5 - (nI 1)) M) mf_X10_amount lk_X10_266 im_X10_amount se_X10_amount rfl rfl rfl dX10_barPart_176 rfl (by decide) (Nat.le_trans c_0 (by decide)) (fun r6 M => ?_)
    refine R_istore_n (pc' := 180) (L' := [(3, .int r6), (2, .int r3), (0, va_rf (some this)), (1, .int l1)]) (i := 3) (x := r6) dX10_barPart_179 rfl rfl (by decide) rfl ?_
    refine R_aloadq_n (pc' := 181) (i := 0) (j := 2) (q := (some this)) dX10_barPart_180 rfl rfl rfl ?_
    refine R_getI (pc' := 184) (q := (some this)) fl_X10_165 rfl dX10_barPart_181 rfl (fun fault7 => ?_)
    refine R_if_ne (pc' := 187) (tgt := 199) (a := fault7) dX10_barPart_184 (by decide) rfl ?_ ?_
    · exact R_sub [] rfl (rf_X10_barPart_J199 this M)
    · refine R_aloadq_n (pc' := 188) (i := 0) (j := 2) (q := (some this)) dX10_barPart_187 rfl rfl rfl ?_
      refine R_getR (pc' := 191) (q := (some this)) fl_X10_55 rfl dX10_barPart_188 rfl (fun newKnows8 => ?_)
      refine R_iload_n (pc' := 192) (i := 2) (j := 1) (x := r3) dX10_barPart_191 rfl rfl rfl ?_
      refine R_dup2 (pc' := 193) dX10_barPart_192 rfl rfl (rf_cat _) ?_
      refine R_iald (pc' := 194) (q := newKnows8) (i := r3) dX10_barPart_193 rfl (fun e9 => ?_)
      refine R_iconst (pc' := 195) (x := (nI 1)) dX10_barPart_194 rfl (by decide) ?_
      refine R_iload_n (pc' := 196) (i := 3) (j := 0) (x := r6) dX10_barPart_195 rfl rfl rfl ?_
      refine R_ishl (pc' := 197) (a := (nI 1)) (b := r6) dX10_barPart_196 rfl ?_
      refine R_ior (pc' := 198) (a := e9) (b := ((nI 1) <<< (r6 &&& 31))) dX10_barPart_197 rfl ?_
      refine R_iast (pc' := 199) (q := newKnows8) (i := r3) (x := (e9 ||| ((nI 1) <<< (r6 &&& 31)))) dX10_barPart_198 rfl (fun M => ?_)
      exact R_sub [] rfl (rf_X10_barPart_J199 this M)
  · refine R_aloadq_n (pc' := 29) (i := 0) (j := 0) (q := (some this)) dX10_barPart_28 rfl rfl rfl ?_
    refine R_getR (pc' := 32) (q := (some this)) fl_X10_43 rfl dX10_barPart_29 rfl (fun newScalar12 => ?_)
    refine R_iconst (pc' := 33) (x := (nI 0)) dX10_barPart_32 rfl (by decide) ?_
    refine R_aloadq_n (pc' := 34) (i := 0) (j := 0) (q := (some this)) dX10_barPart_33 rfl rfl rfl ?_
    refine R_iconst (pc' := 35) (x := (nI 1)) dX10_barPart_34 rfl (by decide) ?_
    refine R_bipush (pc' := 37) (x := (nI 60)) dX10_barPart_35 rfl (by decide) ?_
    refine R_callV_I (pc' := 40) (q := (some this)) (As := [.int (nI 1), .int (nI 60)]) (fun o17 => rm_X10_amount o17 (nI 1) (nI 60) M) mf_X10_amount lk_X10_266 im_X10_amount se_X10_amount rfl rfl rfl dX10_barPart_37 rfl (by decide) (Nat.le_trans (c_I (c_R c_0)) (by decide)) (fun r13 M => ?_)
    refine R_iast (pc' := 41) (q := newScalar12) (i := (nI 0)) (x := r13) dX10_barPart_40 rfl (fun M => ?_)
    refine R_aloadq_n (pc' := 42) (i := 0) (j := 0) (q := (some this)) dX10_barPart_41 rfl rfl rfl ?_
    refine R_getR (pc' := 45) (q := (some this)) fl_X10_43 rfl dX10_barPart_42 rfl (fun newScalar14 => ?_)
    refine R_iconst (pc' := 46) (x := (nI 1)) dX10_barPart_45 rfl (by decide) ?_
    refine R_aloadq_n (pc' := 47) (i := 0) (j := 0) (q := (some this)) dX10_barPart_46 rfl rfl rfl ?_
    refine R_iconst (pc' := 48) (x := (nI 1)) dX10_barPart_47 rfl (by decide) ?_
    refine R_iconst (pc' := 49) (x := (nI 3)) dX10_barPart_48 rfl (by decide) ?_
    refine R_callV_I (pc' := 52) (q := (some this)) (As := [.int (nI 1), .int (nI 3)]) (fun o16 => rm_X10_amount o16 (nI 1) (nI 3) M) mf_X10_amount lk_X10_266 im_X10_amount se_X10_amount rfl rfl rfl dX10_barPart_49 rfl (by decide) (Nat.le_trans (c_I (c_R c_0)) (by decide)) (fun r15 M => ?_)
    refine R_iast (pc' := 53) (q := newScalar14) (i := (nI 1)) (x := r15) dX10_barPart_52 rfl (fun M => ?_)
    refine R_goto (tgt := 199) dX10_barPart_53 (by decide) ?_
    exact R_sub [] rfl (rf_X10_barPart_J199 this M)
  · refine R_aloadq_n (pc' := 57) (i := 0) (j := 0) (q := (some this)) dX10_barPart_56 rfl rfl rfl ?_
    refine R_getR (pc' := 60) (q := (some this)) fl_X10_43 rfl dX10_barPart_57 rfl (fun newScalar18 => ?_)
    refine R_iconst (pc' := 61) (x := (nI 2)) dX10_barPart_60 rfl (by decide) ?_
    refine R_iald (pc' := 62) (q := newScalar18) (i := (nI 2)) dX10_barPart_61 rfl (fun e19 => ?_)
    refine R_istore_n (pc' := 63) (L' := [(2, .int e19), (0, va_rf (some this)), (1, .int l1)]) (i := 2) (x := e19) dX10_barPart_62 rfl rfl (by decide) rfl ?_
    refine R_iconst (pc' := 64) (x := (nI 0)) dX10_barPart_63 rfl (by decide) ?_
    refine R_istore_n (pc' := 65) (L' := [(3, .int (nI 0)), (2, .int e19), (0, va_rf (some this)), (1, .int l1)]) (i := 3) (x := (nI 0)) dX10_barPart_64 rfl rfl (by decide) rfl ?_
    exact R_sub [2, 1, 0] rfl (rf_X10_barPart_L65 this FU e19 (nI 0) M)
  · refine R_aloadq_n (pc' := 107) (i := 0) (j := 0) (q := (some this)) dX10_barPart_106 rfl rfl rfl ?_
    refine R_getR (pc' := 110) (q := (some this)) fl_X10_43 rfl dX10_barPart_107 rfl (fun newScalar20 => ?_)
    refine R_iconst (pc' := 111) (x := (nI 3)) dX10_barPart_110 rfl (by decide) ?_
    refine R_iald (pc' := 112) (q := newScalar20) (i := (nI 3)) dX10_barPart_111 rfl (fun e21 => ?_)
    refine R_istore_n (pc' := 113) (L' := [(2, .int e21), (0, va_rf (some this)), (1, .int l1)]) (i := 2) (x := e21) dX10_barPart_112 rfl rfl (by decide) rfl ?_
    refine R_aloadq_n (pc' := 114) (i := 0) (j := 1) (q := (some this)) dX10_barPart_113 rfl rfl rfl ?_
    refine R_getR (pc' := 117) (q := (some this)) fl_X10_49 rfl dX10_barPart_114 rfl (fun newCargo22 => ?_)
    refine R_iload_n (pc' := 118) (i := 2) (j := 0) (x := e21) dX10_barPart_117 rfl rfl rfl ?_
    refine R_aloadq_n (pc' := 119) (i := 0) (j := 1) (q := (some this)) dX10_barPart_118 rfl rfl rfl ?_
    refine R_iconst (pc' := 120) (x := (nI 0)) dX10_barPart_119 rfl (by decide) ?_
    refine R_bipush (pc' := 122) (x := (nI 99)) dX10_barPart_120 rfl (by decide) ?_
    refine R_callV_I (pc' := 125) (q := (some this)) (As := [.int (nI 0), .int (nI 99)]) (fun o29 => rm_X10_amount o29 (nI 0) (nI 99) M) mf_X10_amount lk_X10_266 im_X10_amount se_X10_amount rfl rfl rfl dX10_barPart_122 rfl (by decide) (Nat.le_trans (c_I (c_R c_0)) (by decide)) (fun r23 M => ?_)
    refine R_iast (pc' := 126) (q := newCargo22) (i := e21) (x := r23) dX10_barPart_125 rfl (fun M => ?_)
    refine R_aloadq_n (pc' := 127) (i := 0) (j := 1) (q := (some this)) dX10_barPart_126 rfl rfl rfl ?_
    refine R_getR (pc' := 130) (q := (some this)) fl_X10_52 rfl dX10_barPart_127 rfl (fun newKeeps24 => ?_)
    refine R_iload_n (pc' := 131) (i := 2) (j := 0) (x := e21) dX10_barPart_130 rfl rfl rfl ?_
    refine R_aloadq_n (pc' := 132) (i := 0) (j := 1) (q := (some this)) dX10_barPart_131 rfl rfl rfl ?_
    refine R_iconst (pc' := 133) (x := (nI 0)) dX10_barPart_132 rfl (by decide) ?_
    refine R_bipush (pc' := 135) (x := (nI 60)) dX10_barPart_133 rfl (by decide) ?_
    refine R_callV_I (pc' := 138) (q := (some this)) (As := [.int (nI 0), .int (nI 60)]) (fun o28 => rm_X10_amount o28 (nI 0) (nI 60) M) mf_X10_amount lk_X10_266 im_X10_amount se_X10_amount rfl rfl rfl dX10_barPart_135 rfl (by decide) (Nat.le_trans (c_I (c_R c_0)) (by decide)) (fun r25 M => ?_)
    refine R_iast (pc' := 139) (q := newKeeps24) (i := e21) (x := r25) dX10_barPart_138 rfl (fun M => ?_)
    refine R_aloadq_n (pc' := 140) (i := 0) (j := 1) (q := (some this)) dX10_barPart_139 rfl rfl rfl ?_
    refine R_getR (pc' := 143) (q := (some this)) fl_X10_43 rfl dX10_barPart_140 rfl (fun newScalar26 => ?_)
    refine R_iconst (pc' := 144) (x := (nI 3)) dX10_barPart_143 rfl (by decide) ?_
    refine R_dup2 (pc' := 145) dX10_barPart_144 rfl rfl (rf_cat _) ?_
    refine R_iald (pc' := 146) (q := newScalar26) (i := (nI 3)) dX10_barPart_145 rfl (fun e27 => ?_)
    refine R_iconst (pc' := 147) (x := (nI 1)) dX10_barPart_146 rfl (by decide) ?_
    refine R_iadd (pc' := 148) (a := e27) (b := (nI 1)) dX10_barPart_147 rfl ?_
    refine R_iast (pc' := 149) (q := newScalar26) (i := (nI 3)) (x := (e27 + (nI 1))) dX10_barPart_148 rfl (fun M => ?_)
    refine R_goto (tgt := 199) dX10_barPart_149 (by decide) ?_
    exact R_sub [] rfl (rf_X10_barPart_J199 this M)
/-! BarPilotModel.isFull(II)Z -/
def f_X10_isFull_J27 (this : Nat) (M : Mem) : Option (Int32 × Mem) :=
  ckZ (nI 1) (some ((nI 1), M))
set_option maxHeartbeats 2000000 in
set_option maxRecDepth 20000 in
theorem rf_X10_isFull_J27 (this : Nat) (M : Mem) : RF yX10_isFull cX10_isFull 3 (some .boolean) 1 eI (f_X10_isFull_J27 this M) 27 [] [] M := by
  rw [f_X10_isFull_J27]
  refine R_iconst (pc' := 28) (x := (nI 1)) dX10_isFull_27 rfl (by decide) ?_
  exact R_bret dX10_isFull_28
def f_X10_isFull_J65 (this : Nat) (s0 : Int32) (M : Mem) : Option (Int32 × Mem) :=
  ckZ s0 (some (s0, M))
set_option maxHeartbeats 2000000 in
set_option maxRecDepth 20000 in
theorem rf_X10_isFull_J65 (this : Nat) (s0 : Int32) (M : Mem) : RF yX10_isFull cX10_isFull 3 (some .boolean) 1 eI (f_X10_isFull_J65 this s0 M) 65 [] [.int s0] M := by
  rw [f_X10_isFull_J65]
  exact R_bret dX10_isFull_65
def f_X10_isFull_J64 (this : Nat) (M : Mem) : Option (Int32 × Mem) :=
  f_X10_isFull_J65 this (nI 0) M
set_option maxHeartbeats 2000000 in
set_option maxRecDepth 20000 in
theorem rf_X10_isFull_J64 (this : Nat) (M : Mem) : RF yX10_isFull cX10_isFull 3 (some .boolean) 1 eI (f_X10_isFull_J64 this M) 64 [] [] M := by
  rw [f_X10_isFull_J64]
  refine R_iconst (pc' := 65) (x := (nI 0)) dX10_isFull_64 rfl (by decide) ?_
  exact R_sub [] rfl (rf_X10_isFull_J65 this (nI 0) M)
def f_X10_isFull_J60 (this : Nat) (M : Mem) : Option (Int32 × Mem) :=
  f_X10_isFull_J65 this (nI 1) M
set_option maxHeartbeats 2000000 in
set_option maxRecDepth 20000 in
theorem rf_X10_isFull_J60 (this : Nat) (M : Mem) : RF yX10_isFull cX10_isFull 3 (some .boolean) 1 eI (f_X10_isFull_J60 this M) 60 [] [] M := by
  rw [f_X10_isFull_J60]
  refine R_iconst (pc' := 61) (x := (nI 1)) dX10_isFull_60 rfl (by decide) ?_
  refine R_goto (tgt := 65) dX10_isFull_61 (by decide) ?_
  exact R_sub [] rfl (rf_X10_isFull_J65 this (nI 1) M)
def f_X10_isFull_J45 (this : Nat) (l1 : Int32) (M : Mem) : Option (Int32 × Mem) :=
  (if l1 = (nI 2) then
    ((gR M 10 12 (some this)).bind fun newScalar1 =>
    (aI M 0 newScalar1 (nI 3)).bind fun e2 =>
    (if e2 = (nI 5) then
      (f_X10_isFull_J60 this M)
    else
      (f_X10_isFull_J64 this M)))
  else
    (f_X10_isFull_J64 this M))
set_option maxHeartbeats 2000000 in
set_option maxRecDepth 20000 in
theorem rf_X10_isFull_J45 (this : Nat) (l1 : Int32) (M : Mem) : RF yX10_isFull cX10_isFull 3 (some .boolean) 1 eI (f_X10_isFull_J45 this l1 M) 45 [(0, va_rf (some this)), (1, .int l1)] [] M := by
  rw [f_X10_isFull_J45]
  refine R_iload_n (pc' := 46) (i := 1) (j := 1) (x := l1) dX10_isFull_45 rfl rfl rfl ?_
  refine R_iconst (pc' := 47) (x := (nI 2)) dX10_isFull_46 rfl (by decide) ?_
  refine R_icmp_ne (pc' := 50) (tgt := 64) (a := l1) (b := (nI 2)) dX10_isFull_47 (by decide) rfl ?_ ?_
  · exact R_sub [] rfl (rf_X10_isFull_J64 this M)
  · refine R_aloadq_n (pc' := 51) (i := 0) (j := 0) (q := (some this)) dX10_isFull_50 rfl rfl rfl ?_
    refine R_getR (pc' := 54) (q := (some this)) fl_X10_43 rfl dX10_isFull_51 rfl (fun newScalar1 => ?_)
    refine R_iconst (pc' := 55) (x := (nI 3)) dX10_isFull_54 rfl (by decide) ?_
    refine R_iald (pc' := 56) (q := newScalar1) (i := (nI 3)) dX10_isFull_55 rfl (fun e2 => ?_)
    refine R_iconst (pc' := 57) (x := (nI 5)) dX10_isFull_56 rfl (by decide) ?_
    refine R_icmp_ne (pc' := 60) (tgt := 64) (a := e2) (b := (nI 5)) dX10_isFull_57 (by decide) rfl ?_ ?_
    · exact R_sub [] rfl (rf_X10_isFull_J64 this M)
    · exact R_sub [] rfl (rf_X10_isFull_J60 this M)
def f_X10_isFull_J24 (this : Nat) (l1 : Int32) (s0 : Int32) (s1 : Int32) (M : Mem) : Option (Int32 × Mem) :=
  (if s1 = s0 then
    ((if l1 = (nI 1) then
      ((gR M 10 12 (some this)).bind fun newScalar1 =>
      (aI M 0 newScalar1 (nI 2)).bind fun e2 =>
      (if e2 = (nI 8) then
        (f_X10_isFull_J60 this M)
      else
        (f_X10_isFull_J45 this l1 M)))
    else
      (f_X10_isFull_J45 this l1 M)))
  else
    (f_X10_isFull_J27 this M))
set_option maxHeartbeats 2000000 in
set_option maxRecDepth 20000 in
theorem rf_X10_isFull_J24 (this : Nat) (l1 : Int32) (s0 : Int32) (s1 : Int32) (M : Mem) : RF yX10_isFull cX10_isFull 3 (some .boolean) 1 eI (f_X10_isFull_J24 this l1 s0 s1 M) 24 [(0, va_rf (some this)), (1, .int l1)] [.int s0, .int s1] M := by
  rw [f_X10_isFull_J24]
  refine R_icmp_eq (pc' := 27) (tgt := 29) (a := s1) (b := s0) dX10_isFull_24 (by decide) rfl ?_ ?_
  · refine R_iload_n (pc' := 30) (i := 1) (j := 1) (x := l1) dX10_isFull_29 rfl rfl rfl ?_
    refine R_iconst (pc' := 31) (x := (nI 1)) dX10_isFull_30 rfl (by decide) ?_
    refine R_icmp_ne (pc' := 34) (tgt := 45) (a := l1) (b := (nI 1)) dX10_isFull_31 (by decide) rfl ?_ ?_
    · exact R_sub [0, 1] rfl (rf_X10_isFull_J45 this l1 M)
    · refine R_aloadq_n (pc' := 35) (i := 0) (j := 0) (q := (some this)) dX10_isFull_34 rfl rfl rfl ?_
      refine R_getR (pc' := 38) (q := (some this)) fl_X10_43 rfl dX10_isFull_35 rfl (fun newScalar1 => ?_)
      refine R_iconst (pc' := 39) (x := (nI 2)) dX10_isFull_38 rfl (by decide) ?_
      refine R_iald (pc' := 40) (q := newScalar1) (i := (nI 2)) dX10_isFull_39 rfl (fun e2 => ?_)
      refine R_bipush (pc' := 42) (x := (nI 8)) dX10_isFull_40 rfl (by decide) ?_
      refine R_icmp_eq (pc' := 45) (tgt := 60) (a := e2) (b := (nI 8)) dX10_isFull_42 (by decide) rfl ?_ ?_
      · exact R_sub [] rfl (rf_X10_isFull_J60 this M)
      · exact R_sub [0, 1] rfl (rf_X10_isFull_J45 this l1 M)
  · exact R_sub [] rfl (rf_X10_isFull_J27 this M)
def f_X10_isFull_J15 (this : Nat) (l1 : Int32) (l2 : Int32) (s0 : Int32) (M : Mem) : Option (Int32 × Mem) :=
  (if l2 = 0 then
    (f_X10_isFull_J24 this l1 (nI 1) s0 M)
  else
    (f_X10_isFull_J24 this l1 (nI 0) s0 M))
set_option maxHeartbeats 2000000 in
set_option maxRecDepth 20000 in
theorem rf_X10_isFull_J15 (this : Nat) (l1 : Int32) (l2 : Int32) (s0 : Int32) (M : Mem) : RF yX10_isFull cX10_isFull 3 (some .boolean) 1 eI (f_X10_isFull_J15 this l1 l2 s0 M) 15 [(0, va_rf (some this)), (1, .int l1), (2, .int l2)] [.int s0] M := by
  rw [f_X10_isFull_J15]
  refine R_iload_n (pc' := 16) (i := 2) (j := 2) (x := l2) dX10_isFull_15 rfl rfl rfl ?_
  refine R_if_ne (pc' := 19) (tgt := 23) (a := l2) dX10_isFull_16 (by decide) rfl ?_ ?_
  · refine R_iconst (pc' := 24) (x := (nI 0)) dX10_isFull_23 rfl (by decide) ?_
    exact R_sub [0, 1] rfl (rf_X10_isFull_J24 this l1 (nI 0) s0 M)
  · refine R_iconst (pc' := 20) (x := (nI 1)) dX10_isFull_19 rfl (by decide) ?_
    refine R_goto (tgt := 24) dX10_isFull_20 (by decide) ?_
    exact R_sub [0, 1] rfl (rf_X10_isFull_J24 this l1 (nI 1) s0 M)
def f_X10_isFull (this : Nat) (l1 : Int32) (l2 : Int32) (M : Mem) : Option (Int32 × Mem) :=
  (if l2 = (nI 40) then
    (f_X10_isFull_J27 this M)
  else
    ((if l1 = 0 then
      (f_X10_isFull_J15 this l1 l2 (nI 1) M)
    else
      (f_X10_isFull_J15 this l1 l2 (nI 0) M))))
set_option maxHeartbeats 2000000 in
set_option maxRecDepth 20000 in
theorem rm_X10_isFull (this : Nat) (l1 : Int32) (l2 : Int32) (M : Mem) : RFm yX10_isFull cX10_isFull 3 (some .boolean) 1 eI (f_X10_isFull this l1 l2 M) [va_rf (some this), .int l1, .int l2] M := by
  refine RFm_of (L := [(0, va_rf (some this)), (1, .int l1), (2, .int l2)]) (by decide) rfl (Nat.le_trans (c_R (c_I (c_I c_0))) (by decide)) ?_
  rw [f_X10_isFull]
  refine R_iload_n (pc' := 1) (i := 2) (j := 2) (x := l2) dX10_isFull_0 rfl rfl rfl ?_
  refine R_bipush (pc' := 3) (x := (nI 40)) dX10_isFull_1 rfl (by decide) ?_
  refine R_icmp_eq (pc' := 6) (tgt := 27) (a := l2) (b := (nI 40)) dX10_isFull_3 (by decide) rfl ?_ ?_
  · exact R_sub [] rfl (rf_X10_isFull_J27 this M)
  · refine R_iload_n (pc' := 7) (i := 1) (j := 1) (x := l1) dX10_isFull_6 rfl rfl rfl ?_
    refine R_if_ne (pc' := 10) (tgt := 14) (a := l1) dX10_isFull_7 (by decide) rfl ?_ ?_
    · refine R_iconst (pc' := 15) (x := (nI 0)) dX10_isFull_14 rfl (by decide) ?_
      exact R_sub [0, 1, 2] rfl (rf_X10_isFull_J15 this l1 l2 (nI 0) M)
    · refine R_iconst (pc' := 11) (x := (nI 1)) dX10_isFull_10 rfl (by decide) ?_
      refine R_goto (tgt := 15) dX10_isFull_11 (by decide) ?_
      exact R_sub [0, 1, 2] rfl (rf_X10_isFull_J15 this l1 l2 (nI 1) M)
/-! BarPilotModel.barClause(I)V -/
def f_X10_barClause_J33 (this : Nat) (l1 : Int32) (l2 : Int32) (l3 : Int32) (M : Mem) : Option (Unit × Mem) :=
  (if l3 = (nI 4) then
    ((oO M 10 (some this)).bind fun o11 => cl (f_X10_fails o11 (nI 0) l2 M) fun u10 M =>
    some ((), M))
  else
    ((oO M 10 (some this)).bind fun o9 => cl (f_X10_isFull o9 l3 l1 M) fun r1 M =>
    (if r1 = 0 then
      ((gI M 10 18 (some this)).bind fun p2 =>
      cl (f_X10_barWord l3 M) fun r3 M =>
      kT r3 (cl (f_J0_length_8abf5 r3 M) fun r4 M =>
      (pI M 10 18 (some this) (p2 + r4)).bind fun M =>
      (oO M 10 (some this)).bind fun o6 => cl (f_X10_barPart o6 l3 M) fun u5 M =>
      some ((), M)))
    else
      ((oO M 10 (some this)).bind fun o8 => cl (f_X10_fails o8 (nI 4) l2 M) fun u7 M =>
      some ((), M)))))
set_option maxHeartbeats 2000000 in
set_option maxRecDepth 20000 in
theorem rf_X10_barClause_J33 (this : Nat) (l1 : Int32) (l2 : Int32) (l3 : Int32) (M : Mem) : RF yX10_barClause cX10_barClause 4 none 6 eV (f_X10_barClause_J33 this l1 l2 l3 M) 33 [(0, va_rf (some this)), (1, .int l1), (2, .int l2), (3, .int l3)] [] M := by
  rw [f_X10_barClause_J33]
  refine R_iload_n (pc' := 34) (i := 3) (j := 3) (x := l3) dX10_barClause_33 rfl rfl rfl ?_
  refine R_iconst (pc' := 35) (x := (nI 4)) dX10_barClause_34 rfl (by decide) ?_
  refine R_icmp_ne (pc' := 38) (tgt := 45) (a := l3) (b := (nI 4)) dX10_barClause_35 (by decide) rfl ?_ ?_
  · refine R_aloadq_n (pc' := 46) (i := 0) (j := 0) (q := (some this)) dX10_barClause_45 rfl rfl rfl ?_
    refine R_iload_n (pc' := 47) (i := 3) (j := 3) (x := l3) dX10_barClause_46 rfl rfl rfl ?_
    refine R_iload_n (pc' := 48) (i := 1) (j := 1) (x := l1) dX10_barClause_47 rfl rfl rfl ?_
    refine R_callV_I (pc' := 51) (q := (some this)) (As := [.int l3, .int l1]) (fun o9 => rm_X10_isFull o9 l3 l1 M) mf_X10_isFull lk_X10_273 im_X10_isFull se_X10_isFull rfl rfl rfl dX10_barClause_48 rfl (by decide) (Nat.le_trans c_0 (by decide)) (fun r1 M => ?_)
    refine R_if_eq (pc' := 54) (tgt := 61) (a := r1) dX10_barClause_51 (by decide) rfl ?_ ?_
    · refine R_aloadq_n (pc' := 62) (i := 0) (j := 0) (q := (some this)) dX10_barClause_61 rfl rfl rfl ?_
      refine R_dup (pc' := 63) dX10_barClause_62 rfl (rf_cat _) ?_
      refine R_getI (pc' := 66) (q := (some this)) fl_X10_168 rfl dX10_barClause_63 rfl (fun p2 => ?_)
      refine R_iload_n (pc' := 67) (i := 3) (j := 3) (x := l3) dX10_barClause_66 rfl rfl rfl ?_
      refine R_callS_C (pc' := 70) (As := [.int l3]) (rm_X10_barWord l3 M) mf_X10_barWord lk_X10_270 sm_X10_barWord rfl rfl dX10_barClause_67 rfl (by decide) (Nat.le_trans (c_I (c_R c_0)) (by decide)) (fun r3 M => ?_)
      refine R_callK_I (pc' := 73) (u := r3) (As := []) (rm_J0_length_8abf5 r3 M) mf_J0_length_8abf5 lk_X10_179 im_J0_length_8abf5 se_J0_length_8abf5 rfl rfl dX10_barClause_70 rfl (by decide) (Nat.le_trans (c_I (c_R c_0)) (by decide)) (fun r4 M => ?_)
      refine R_iadd (pc' := 74) (a := p2) (b := r4) dX10_barClause_73 rfl ?_
      refine R_putI (pc' := 77) (q := (some this)) (x := (p2 + r4)) fl_X10_168 (Or.inl rfl) dX10_barClause_74 rfl (fun M => ?_)
      refine R_aloadq_n (pc' := 78) (i := 0) (j := 0) (q := (some this)) dX10_barClause_77 rfl rfl rfl ?_
      refine R_iload_n (pc' := 79) (i := 3) (j := 3) (x := l3) dX10_barClause_78 rfl rfl rfl ?_
      refine R_callV_V (pc' := 82) (q := (some this)) (As := [.int l3]) (fun o6 => rm_X10_barPart o6 l3 M) mf_X10_barPart lk_X10_277 im_X10_barPart se_X10_barPart rfl rfl rfl dX10_barClause_79 rfl (by decide) (Nat.le_trans c_0 (by decide)) (fun u5 M => ?_)
      exact R_vret dX10_barClause_82
    · refine R_aloadq_n (pc' := 55) (i := 0) (j := 0) (q := (some this)) dX10_barClause_54 rfl rfl rfl ?_
      refine R_iconst (pc' := 56) (x := (nI 4)) dX10_barClause_55 rfl (by decide) ?_
      refine R_iload_n (pc' := 57) (i := 2) (j := 2) (x := l2) dX10_barClause_56 rfl rfl rfl ?_
      refine R_callV_V (pc' := 60) (q := (some this)) (As := [.int (nI 4), .int l2]) (fun o8 => rm_X10_fails o8 (nI 4) l2 M) mf_X10_fails lk_X10_204 im_X10_fails se_X10_fails rfl rfl rfl dX10_barClause_57 rfl (by decide) (Nat.le_trans c_0 (by decide)) (fun u7 M => ?_)
      exact R_vret dX10_barClause_60
  · refine R_aloadq_n (pc' := 39) (i := 0) (j := 0) (q := (some this)) dX10_barClause_38 rfl rfl rfl ?_
    refine R_iconst (pc' := 40) (x := (nI 0)) dX10_barClause_39 rfl (by decide) ?_
    refine R_iload_n (pc' := 41) (i := 2) (j := 2) (x := l2) dX10_barClause_40 rfl rfl rfl ?_
    refine R_callV_V (pc' := 44) (q := (some this)) (As := [.int (nI 0), .int l2]) (fun o11 => rm_X10_fails o11 (nI 0) l2 M) mf_X10_fails lk_X10_204 im_X10_fails se_X10_fails rfl rfl rfl dX10_barClause_41 rfl (by decide) (Nat.le_trans c_0 (by decide)) (fun u10 M => ?_)
    exact R_vret dX10_barClause_44
def f_X10_barClause_L11 (this : Nat) : Nat → Int32 → Int32 → Int32 → Mem → Option (Unit × Mem)
  | 0, _, _, _, _ => none
  | n + 1, l1, l2, l3, M =>
    (if (nI 4) ≤ l3 then
      (f_X10_barClause_J33 this l1 l2 l3 M)
    else
      (cl (f_X10_barWord l3 M) fun r1 M =>
      (oO M 10 (some this)).bind fun o3 => cl (f_X10_stood o3 r1 M) fun r2 M =>
      (if r2 = 0 then
        ((f_X10_barClause_L11 this n) l1 l2 (l3 + (nI 1)) M)
      else
        (f_X10_barClause_J33 this l1 l2 l3 M))))
set_option maxHeartbeats 2000000 in
set_option maxRecDepth 20000 in
theorem rf_X10_barClause_L11 (this : Nat) : ∀ (n : Nat) (l1 : Int32) (l2 : Int32) (l3 : Int32) (M : Mem), RF yX10_barClause cX10_barClause 4 none 6 eV (f_X10_barClause_L11 this n l1 l2 l3 M) 11 [(0, va_rf (some this)), (1, .int l1), (2, .int l2), (3, .int l3)] [] M := by
  intro n
  induction n with
  | zero => intro _ _ _ _; exact RF.none
  | succ n ih =>
    intro l1 l2 l3 M
    rw [f_X10_barClause_L11]
    refine R_iload_n (pc' := 12) (i := 3) (j := 3) (x := l3) dX10_barClause_11 rfl rfl rfl ?_
    refine R_iconst (pc' := 13) (x := (nI 4)) dX10_barClause_12 rfl (by decide) ?_
    refine R_icmp_ge (pc' := 16) (tgt := 33) (a := l3) (b := (nI 4)) dX10_barClause_13 (by decide) rfl ?_ ?_
    · exact R_sub [0, 1, 2, 3] rfl (rf_X10_barClause_J33 this l1 l2 l3 M)
    · refine R_aloadq_n (pc' := 17) (i := 0) (j := 0) (q := (some this)) dX10_barClause_16 rfl rfl rfl ?_
      refine R_iload_n (pc' := 18) (i := 3) (j := 3) (x := l3) dX10_barClause_17 rfl rfl rfl ?_
      refine R_callS_C (pc' := 21) (As := [.int l3]) (rm_X10_barWord l3 M) mf_X10_barWord lk_X10_270 sm_X10_barWord rfl rfl dX10_barClause_18 rfl (by decide) (Nat.le_trans (c_R c_0) (by decide)) (fun r1 M => ?_)
      refine R_callV_I (pc' := 24) (q := (some this)) (As := [.float r1]) (fun o3 => rm_X10_stood o3 r1 M) mf_X10_stood lk_X10_191 im_X10_stood se_X10_stood rfl rfl rfl dX10_barClause_21 rfl (by decide) (Nat.le_trans c_0 (by decide)) (fun r2 M => ?_)
      refine R_if_ne (pc' := 27) (tgt := 33) (a := r2) dX10_barClause_24 (by decide) rfl ?_ ?_
      · exact R_sub [0, 1, 2, 3] rfl (rf_X10_barClause_J33 this l1 l2 l3 M)
      · refine R_iinc (pc' := 30) (L' := [(3, .int (l3 + (nI 1))), (0, va_rf (some this)), (1, .int l1), (2, .int l2)]) (i := 3) (j := 3) (x := l3) (x2 := (l3 + (nI 1))) dX10_barClause_27 rfl rfl rfl (by decide) rfl ?_
        refine R_goto (tgt := 11) dX10_barClause_30 (by decide) ?_
        exact R_sub [1, 2, 3, 0] rfl (ih l1 l2 (l3 + (nI 1)) M)
def f_X10_barClause (this : Nat) (l1 : Int32) (M : Mem) : Option (Unit × Mem) :=
  (oO M 10 (some this)).bind fun o3 => cl (f_X10_blanks o3 M) fun u1 M =>
  (gI M 10 18 (some this)).bind fun p2 =>
  f_X10_barClause_L11 this FU l1 p2 (nI 0) M
set_option maxHeartbeats 2000000 in
set_option maxRecDepth 20000 in
theorem rm_X10_barClause (this : Nat) (l1 : Int32) (M : Mem) : RFm yX10_barClause cX10_barClause 4 none 6 eV (f_X10_barClause this l1 M) [va_rf (some this), .int l1] M := by
  refine RFm_of (L := [(0, va_rf (some this)), (1, .int l1)]) (by decide) rfl (Nat.le_trans (c_R (c_I c_0)) (by decide)) ?_
  rw [f_X10_barClause]
  refine R_aloadq_n (pc' := 1) (i := 0) (j := 0) (q := (some this)) dX10_barClause_0 rfl rfl rfl ?_
  refine R_callV_V (pc' := 4) (q := (some this)) (As := []) (fun o3 => rm_X10_blanks o3 M) mf_X10_blanks lk_X10_188 im_X10_blanks se_X10_blanks rfl rfl rfl dX10_barClause_1 rfl (by decide) (Nat.le_trans c_0 (by decide)) (fun u1 M => ?_)
  refine R_aloadq_n (pc' := 5) (i := 0) (j := 0) (q := (some this)) dX10_barClause_4 rfl rfl rfl ?_
  refine R_getI (pc' := 8) (q := (some this)) fl_X10_168 rfl dX10_barClause_5 rfl (fun p2 => ?_)
  refine R_istore_n (pc' := 9) (L' := [(2, .int p2), (0, va_rf (some this)), (1, .int l1)]) (i := 2) (x := p2) dX10_barClause_8 rfl rfl (by decide) rfl ?_
  refine R_iconst (pc' := 10) (x := (nI 0)) dX10_barClause_9 rfl (by decide) ?_
  refine R_istore_n (pc' := 11) (L' := [(3, .int (nI 0)), (2, .int p2), (0, va_rf (some this)), (1, .int l1)]) (i := 3) (x := (nI 0)) dX10_barClause_10 rfl rfl (by decide) rfl ?_
  exact R_sub [2, 3, 1, 0] rfl (rf_X10_barClause_L11 this FU l1 p2 (nI 0) M)
/-! BarPilotModel.copies([I[I)V -/
def f_X10_copies_L2 : Nat → Option Nat → Option Nat → Int32 → Mem → Option (Unit × Mem)
  | 0, _, _, _, _ => none
  | n + 1, l0, l1, l2, M =>
    (lnA M l0).bind fun len1 =>
    (if len1 ≤ l2 then
      (some ((), M))
    else
      ((aI M 0 l0 l2).bind fun e2 =>
      (wI M 0 l1 l2 e2).bind fun M =>
      (f_X10_copies_L2 n) l0 l1 (l2 + (nI 1)) M))
set_option maxHeartbeats 2000000 in
set_option maxRecDepth 20000 in
theorem rf_X10_copies_L2 : ∀ (n : Nat) (l0 : Option Nat) (l1 : Option Nat) (l2 : Int32) (M : Mem), RF yX10_copies cX10_copies 3 none 1 eV (f_X10_copies_L2 n l0 l1 l2 M) 2 [(0, va_rf l0), (1, va_rf l1), (2, .int l2)] [] M := by
  intro n
  induction n with
  | zero => intro _ _ _ _; exact RF.none
  | succ n ih =>
    intro l0 l1 l2 M
    rw [f_X10_copies_L2]
    refine R_iload_n (pc' := 3) (i := 2) (j := 2) (x := l2) dX10_copies_2 rfl rfl rfl ?_
    refine R_aloadq_n (pc' := 4) (i := 0) (j := 0) (q := l0) dX10_copies_3 rfl rfl rfl ?_
    refine R_alen (pc' := 5) (q := l0) dX10_copies_4 rfl (fun len1 => ?_)
    refine R_icmp_ge (pc' := 8) (tgt := 20) (a := l2) (b := len1) dX10_copies_5 (by decide) rfl ?_ ?_
    · exact R_vret dX10_copies_20
    · refine R_aloadq_n (pc' := 9) (i := 1) (j := 1) (q := l1) dX10_copies_8 rfl rfl rfl ?_
      refine R_iload_n (pc' := 10) (i := 2) (j := 2) (x := l2) dX10_copies_9 rfl rfl rfl ?_
      refine R_aloadq_n (pc' := 11) (i := 0) (j := 0) (q := l0) dX10_copies_10 rfl rfl rfl ?_
      refine R_iload_n (pc' := 12) (i := 2) (j := 2) (x := l2) dX10_copies_11 rfl rfl rfl ?_
      refine R_iald (pc' := 13) (q := l0) (i := l2) dX10_copies_12 rfl (fun e2 => ?_)
      refine R_iast (pc' := 14) (q := l1) (i := l2) (x := e2) dX10_copies_13 rfl (fun M => ?_)
      refine R_iinc (pc' := 17) (L' := [(2, .int (l2 + (nI 1))), (0, va_rf l0), (1, va_rf l1)]) (i := 2) (j := 2) (x := l2) (x2 := (l2 + (nI 1))) dX10_copies_14 rfl rfl rfl (by decide) (by simp [stL, rf_cat, cat_I, cat_L, cat_C]) ?_
      refine R_goto (tgt := 2) dX10_copies_17 (by decide) ?_
      exact R_sub [1, 2, 0] rfl (ih l0 l1 (l2 + (nI 1)) M)
def f_X10_copies (l0 : Option Nat) (l1 : Option Nat) (M : Mem) : Option (Unit × Mem) :=
  f_X10_copies_L2 FU l0 l1 (nI 0) M
set_option maxHeartbeats 2000000 in
set_option maxRecDepth 20000 in
theorem rm_X10_copies (l0 : Option Nat) (l1 : Option Nat) (M : Mem) : RFm yX10_copies cX10_copies 3 none 1 eV (f_X10_copies l0 l1 M) [va_rf l0, va_rf l1] M := by
  refine RFm_of (L := [(0, va_rf l0), (1, va_rf l1)]) (by decide) (by simp only [lva_R, lva_I, lva_L, lva_C, lva_0]) (Nat.le_trans (c_R (c_R c_0)) (by decide)) ?_
  rw [f_X10_copies]
  refine R_iconst (pc' := 1) (x := (nI 0)) dX10_copies_0 rfl (by decide) ?_
  refine R_istore_n (pc' := 2) (L' := [(2, .int (nI 0)), (0, va_rf l0), (1, va_rf l1)]) (i := 2) (x := (nI 0)) dX10_copies_1 rfl rfl (by decide) (by simp [stL, rf_cat, cat_I, cat_L, cat_C]) ?_
  exact R_sub [1, 2, 0] rfl (rf_X10_copies_L2 FU l0 l1 (nI 0) M)
/-! BarPilotModel.goesOn()Z -/
def f_X10_goesOn_J63 (this : Nat) (s0 : Int32) (M : Mem) : Option (Int32 × Mem) :=
  (gI M 10 18 (some this)).bind fun p1 =>
  (pI M 10 18 (some this) (p1 + (nI 1))).bind fun M =>
  ckZ s0 (some (s0, M))
set_option maxHeartbeats 2000000 in
set_option maxRecDepth 20000 in
theorem rf_X10_goesOn_J63 (this : Nat) (s0 : Int32) (M : Mem) : RF yX10_goesOn cX10_goesOn 2 (some .boolean) 3 eI (f_X10_goesOn_J63 this s0 M) 63 [(0, va_rf (some this))] [.int s0] M := by
  rw [f_X10_goesOn_J63]
  refine R_istore_n (pc' := 64) (L' := [(1, .int s0), (0, va_rf (some this))]) (i := 1) (x := s0) dX10_goesOn_63 rfl rfl (by decide) rfl ?_
  refine R_aloadq_n (pc' := 65) (i := 0) (j := 1) (q := (some this)) dX10_goesOn_64 rfl rfl rfl ?_
  refine R_dup (pc' := 66) dX10_goesOn_65 rfl (rf_cat _) ?_
  refine R_getI (pc' := 69) (q := (some this)) fl_X10_168 rfl dX10_goesOn_66 rfl (fun p1 => ?_)
  refine R_iconst (pc' := 70) (x := (nI 1)) dX10_goesOn_69 rfl (by decide) ?_
  refine R_iadd (pc' := 71) (a := p1) (b := (nI 1)) dX10_goesOn_70 rfl ?_
  refine R_putI (pc' := 74) (q := (some this)) (x := (p1 + (nI 1))) fl_X10_168 (Or.inl rfl) dX10_goesOn_71 rfl (fun M => ?_)
  refine R_iload_n (pc' := 75) (i := 1) (j := 0) (x := s0) dX10_goesOn_74 rfl rfl rfl ?_
  exact R_bret dX10_goesOn_75
def f_X10_goesOn_J62 (this : Nat) (M : Mem) : Option (Int32 × Mem) :=
  f_X10_goesOn_J63 this (nI 0) M
set_option maxHeartbeats 2000000 in
set_option maxRecDepth 20000 in
theorem rf_X10_goesOn_J62 (this : Nat) (M : Mem) : RF yX10_goesOn cX10_goesOn 2 (some .boolean) 3 eI (f_X10_goesOn_J62 this M) 62 [(0, va_rf (some this))] [] M := by
  rw [f_X10_goesOn_J62]
  refine R_iconst (pc' := 63) (x := (nI 0)) dX10_goesOn_62 rfl (by decide) ?_
  exact R_sub [0] rfl (rf_X10_goesOn_J63 this (nI 0) M)
def f_X10_goesOn_J40 (this : Nat) (M : Mem) : Option (Int32 × Mem) :=
  (gI M 10 19 (some this)).bind fun fault1 =>
  (if fault1 = 0 then
    ((gI M 10 18 (some this)).bind fun p2 =>
    (gI M 10 17 (some this)).bind fun taped3 =>
    (if taped3 ≤ p2 then
      (f_X10_goesOn_J62 this M)
    else
      (f_X10_goesOn_J63 this (nI 1) M)))
  else
    (f_X10_goesOn_J62 this M))
set_option maxHeartbeats 2000000 in
set_option maxRecDepth 20000 in
theorem rf_X10_goesOn_J40 (this : Nat) (M : Mem) : RF yX10_goesOn cX10_goesOn 2 (some .boolean) 3 eI (f_X10_goesOn_J40 this M) 40 [(0, va_rf (some this))] [] M := by
  rw [f_X10_goesOn_J40]
  refine R_aloadq_n (pc' := 41) (i := 0) (j := 0) (q := (some this)) dX10_goesOn_40 rfl rfl rfl ?_
  refine R_getI (pc' := 44) (q := (some this)) fl_X10_165 rfl dX10_goesOn_41 rfl (fun fault1 => ?_)
  refine R_if_ne (pc' := 47) (tgt := 62) (a := fault1) dX10_goesOn_44 (by decide) rfl ?_ ?_
  · exact R_sub [0] rfl (rf_X10_goesOn_J62 this M)
  · refine R_aloadq_n (pc' := 48) (i := 0) (j := 0) (q := (some this)) dX10_goesOn_47 rfl rfl rfl ?_
    refine R_getI (pc' := 51) (q := (some this)) fl_X10_168 rfl dX10_goesOn_48 rfl (fun p2 => ?_)
    refine R_aloadq_n (pc' := 52) (i := 0) (j := 0) (q := (some this)) dX10_goesOn_51 rfl rfl rfl ?_
    refine R_getI (pc' := 55) (q := (some this)) fl_X10_139 rfl dX10_goesOn_52 rfl (fun taped3 => ?_)
    refine R_icmp_ge (pc' := 58) (tgt := 62) (a := p2) (b := taped3) dX10_goesOn_55 (by decide) rfl ?_ ?_
    · exact R_sub [0] rfl (rf_X10_goesOn_J62 this M)
    · refine R_iconst (pc' := 59) (x := (nI 1)) dX10_goesOn_58 rfl (by decide) ?_
      refine R_goto (tgt := 63) dX10_goesOn_59 (by decide) ?_
      exact R_sub [0] rfl (rf_X10_goesOn_J63 this (nI 1) M)
def f_X10_goesOn (this : Nat) (M : Mem) : Option (Int32 × Mem) :=
  (oO M 10 (some this)).bind fun o10 => cl (f_X10_blanks o10 M) fun u1 M =>
  (gI M 10 19 (some this)).bind fun fault2 =>
  (if fault2 = 0 then
    ((gI M 10 18 (some this)).bind fun p3 =>
    (gI M 10 17 (some this)).bind fun taped4 =>
    (if taped4 ≤ p3 then
      (f_X10_goesOn_J40 this M)
    else
      ((oO M 10 (some this)).bind fun o9 => cl (f_X10_sign o9 M) fun r5 M =>
      (if r5 = (nI 59) then
        (f_X10_goesOn_J40 this M)
      else
        ((gI M 10 18 (some this)).bind fun p6 =>
        (oO M 10 (some this)).bind fun o8 => cl (f_X10_fails o8 (nI 0) p6 M) fun u7 M =>
        f_X10_goesOn_J40 this M)))))
  else
    (f_X10_goesOn_J40 this M))
set_option maxHeartbeats 2000000 in
set_option maxRecDepth 20000 in
theorem rm_X10_goesOn (this : Nat) (M : Mem) : RFm yX10_goesOn cX10_goesOn 2 (some .boolean) 3 eI (f_X10_goesOn this M) [va_rf (some this)] M := by
  refine RFm_of (L := [(0, va_rf (some this))]) (by decide) rfl (Nat.le_trans (c_R c_0) (by decide)) ?_
  rw [f_X10_goesOn]
  refine R_aloadq_n (pc' := 1) (i := 0) (j := 0) (q := (some this)) dX10_goesOn_0 rfl rfl rfl ?_
  refine R_callV_V (pc' := 4) (q := (some this)) (As := []) (fun o10 => rm_X10_blanks o10 M) mf_X10_blanks lk_X10_188 im_X10_blanks se_X10_blanks rfl rfl rfl dX10_goesOn_1 rfl (by decide) (Nat.le_trans c_0 (by decide)) (fun u1 M => ?_)
  refine R_aloadq_n (pc' := 5) (i := 0) (j := 0) (q := (some this)) dX10_goesOn_4 rfl rfl rfl ?_
  refine R_getI (pc' := 8) (q := (some this)) fl_X10_165 rfl dX10_goesOn_5 rfl (fun fault2 => ?_)
  refine R_if_ne (pc' := 11) (tgt := 40) (a := fault2) dX10_goesOn_8 (by decide) rfl ?_ ?_
  · exact R_sub [0] rfl (rf_X10_goesOn_J40 this M)
  · refine R_aloadq_n (pc' := 12) (i := 0) (j := 0) (q := (some this)) dX10_goesOn_11 rfl rfl rfl ?_
    refine R_getI (pc' := 15) (q := (some this)) fl_X10_168 rfl dX10_goesOn_12 rfl (fun p3 => ?_)
    refine R_aloadq_n (pc' := 16) (i := 0) (j := 0) (q := (some this)) dX10_goesOn_15 rfl rfl rfl ?_
    refine R_getI (pc' := 19) (q := (some this)) fl_X10_139 rfl dX10_goesOn_16 rfl (fun taped4 => ?_)
    refine R_icmp_ge (pc' := 22) (tgt := 40) (a := p3) (b := taped4) dX10_goesOn_19 (by decide) rfl ?_ ?_
    · exact R_sub [0] rfl (rf_X10_goesOn_J40 this M)
    · refine R_aloadq_n (pc' := 23) (i := 0) (j := 0) (q := (some this)) dX10_goesOn_22 rfl rfl rfl ?_
      refine R_callV_I (pc' := 26) (q := (some this)) (As := []) (fun o9 => rm_X10_sign o9 M) mf_X10_sign lk_X10_171 im_X10_sign se_X10_sign rfl rfl rfl dX10_goesOn_23 rfl (by decide) (Nat.le_trans c_0 (by decide)) (fun r5 M => ?_)
      refine R_bipush (pc' := 28) (x := (nI 59)) dX10_goesOn_26 rfl (by decide) ?_
      refine R_icmp_eq (pc' := 31) (tgt := 40) (a := r5) (b := (nI 59)) dX10_goesOn_28 (by decide) rfl ?_ ?_
      · exact R_sub [0] rfl (rf_X10_goesOn_J40 this M)
      · refine R_aloadq_n (pc' := 32) (i := 0) (j := 0) (q := (some this)) dX10_goesOn_31 rfl rfl rfl ?_
        refine R_iconst (pc' := 33) (x := (nI 0)) dX10_goesOn_32 rfl (by decide) ?_
        refine R_aloadq_n (pc' := 34) (i := 0) (j := 0) (q := (some this)) dX10_goesOn_33 rfl rfl rfl ?_
        refine R_getI (pc' := 37) (q := (some this)) fl_X10_168 rfl dX10_goesOn_34 rfl (fun p6 => ?_)
        refine R_callV_V (pc' := 40) (q := (some this)) (As := [.int (nI 0), .int p6]) (fun o8 => rm_X10_fails o8 (nI 0) p6 M) mf_X10_fails lk_X10_204 im_X10_fails se_X10_fails rfl rfl rfl dX10_goesOn_37 rfl (by decide) (Nat.le_trans c_0 (by decide)) (fun u7 M => ?_)
        exact R_sub [0] rfl (rf_X10_goesOn_J40 this M)
/-! BarPilotModel.starts()V -/
def f_X10_starts (this : Nat) (M : Mem) : Option (Unit × Mem) :=
  (pI M 10 18 (some this) (nI 0)).bind fun M =>
  (pI M 10 19 (some this) (nI 0)).bind fun M =>
  (pI M 10 22 (some this) (nI 0)).bind fun M =>
  (pI M 10 23 (some this) (nI 0)).bind fun M =>
  (pI M 10 24 (some this) (nI 0)).bind fun M =>
  some ((), M)
set_option maxHeartbeats 2000000 in
set_option maxRecDepth 20000 in
theorem rm_X10_starts (this : Nat) (M : Mem) : RFm yX10_starts cX10_starts 1 none 1 eV (f_X10_starts this M) [va_rf (some this)] M := by
  refine RFm_of (L := [(0, va_rf (some this))]) (by decide) rfl (Nat.le_trans (c_R c_0) (by decide)) ?_
  rw [f_X10_starts]
  refine R_aloadq_n (pc' := 1) (i := 0) (j := 0) (q := (some this)) dX10_starts_0 rfl rfl rfl ?_
  refine R_iconst (pc' := 2) (x := (nI 0)) dX10_starts_1 rfl (by decide) ?_
  refine R_putI (pc' := 5) (q := (some this)) (x := (nI 0)) fl_X10_168 (Or.inl rfl) dX10_starts_2 rfl (fun M => ?_)
  refine R_aloadq_n (pc' := 6) (i := 0) (j := 0) (q := (some this)) dX10_starts_5 rfl rfl rfl ?_
  refine R_iconst (pc' := 7) (x := (nI 0)) dX10_starts_6 rfl (by decide) ?_
  refine R_putI (pc' := 10) (q := (some this)) (x := (nI 0)) fl_X10_165 (Or.inl rfl) dX10_starts_7 rfl (fun M => ?_)
  refine R_aloadq_n (pc' := 11) (i := 0) (j := 0) (q := (some this)) dX10_starts_10 rfl rfl rfl ?_
  refine R_iconst (pc' := 12) (x := (nI 0)) dX10_starts_11 rfl (by decide) ?_
  refine R_putI (pc' := 15) (q := (some this)) (x := (nI 0)) fl_X10_198 (Or.inl rfl) dX10_starts_12 rfl (fun M => ?_)
  refine R_aloadq_n (pc' := 16) (i := 0) (j := 0) (q := (some this)) dX10_starts_15 rfl rfl rfl ?_
  refine R_iconst (pc' := 17) (x := (nI 0)) dX10_starts_16 rfl (by decide) ?_
  refine R_putI (pc' := 20) (q := (some this)) (x := (nI 0)) fl_X10_239 (Or.inl rfl) dX10_starts_17 rfl (fun M => ?_)
  refine R_aloadq_n (pc' := 21) (i := 0) (j := 0) (q := (some this)) dX10_starts_20 rfl rfl rfl ?_
  refine R_iconst (pc' := 22) (x := (nI 0)) dX10_starts_21 rfl (by decide) ?_
  refine R_putI (pc' := 25) (q := (some this)) (x := (nI 0)) fl_X10_201 (Or.inl rfl) dX10_starts_22 rfl (fun M => ?_)
  exact R_vret dX10_starts_25
/-! BarPilotModel.readsAll()V -/
def f_X10_readsAll_L55 (this : Nat) : Nat → Int32 → Int32 → Mem → Option (Unit × Mem)
  | 0, _, _, _ => none
  | n + 1, l1, l2, M =>
    (if l2 = 0 then
      ((pI M 10 17 (some this) (nI 0)).bind fun M =>
      some ((), M))
    else
      ((oO M 10 (some this)).bind fun o4 => cl (f_X10_barClause o4 l1 M) fun u1 M =>
      (oO M 10 (some this)).bind fun o3 => cl (f_X10_goesOn o3 M) fun r2 M =>
      (f_X10_readsAll_L55 this n) (l1 + (nI 1)) r2 M))
set_option maxHeartbeats 2000000 in
set_option maxRecDepth 20000 in
theorem rf_X10_readsAll_L55 (this : Nat) : ∀ (n : Nat) (l1 : Int32) (l2 : Int32) (M : Mem), RF yX10_readsAll cX10_readsAll 3 none 7 eV (f_X10_readsAll_L55 this n l1 l2 M) 55 [(0, va_rf (some this)), (1, .int l1), (2, .int l2)] [] M := by
  intro n
  induction n with
  | zero => intro _ _ _; exact RF.none
  | succ n ih =>
    intro l1 l2 M
    rw [f_X10_readsAll_L55]
    refine R_iload_n (pc' := 56) (i := 2) (j := 2) (x := l2) dX10_readsAll_55 rfl rfl rfl ?_
    refine R_if_eq (pc' := 59) (tgt := 75) (a := l2) dX10_readsAll_56 (by decide) rfl ?_ ?_
    · refine R_aloadq_n (pc' := 76) (i := 0) (j := 0) (q := (some this)) dX10_readsAll_75 rfl rfl rfl ?_
      refine R_iconst (pc' := 77) (x := (nI 0)) dX10_readsAll_76 rfl (by decide) ?_
      refine R_putI (pc' := 80) (q := (some this)) (x := (nI 0)) fl_X10_139 (Or.inl rfl) dX10_readsAll_77 rfl (fun M => ?_)
      exact R_vret dX10_readsAll_80
    · refine R_aloadq_n (pc' := 60) (i := 0) (j := 0) (q := (some this)) dX10_readsAll_59 rfl rfl rfl ?_
      refine R_iload_n (pc' := 61) (i := 1) (j := 1) (x := l1) dX10_readsAll_60 rfl rfl rfl ?_
      refine R_callV_V (pc' := 64) (q := (some this)) (As := [.int l1]) (fun o4 => rm_X10_barClause o4 l1 M) mf_X10_barClause lk_X10_283 im_X10_barClause se_X10_barClause rfl rfl rfl dX10_readsAll_61 rfl (by decide) (Nat.le_trans c_0 (by decide)) (fun u1 M => ?_)
      refine R_iinc (pc' := 67) (L' := [(1, .int (l1 + (nI 1))), (0, va_rf (some this)), (2, .int l2)]) (i := 1) (j := 1) (x := l1) (x2 := (l1 + (nI 1))) dX10_readsAll_64 rfl rfl rfl (by decide) rfl ?_
      refine R_aloadq_n (pc' := 68) (i := 0) (j := 1) (q := (some this)) dX10_readsAll_67 rfl rfl rfl ?_
      refine R_callV_I (pc' := 71) (q := (some this)) (As := []) (fun o3 => rm_X10_goesOn o3 M) mf_X10_goesOn lk_X10_286 im_X10_goesOn se_X10_goesOn rfl rfl rfl dX10_readsAll_68 rfl (by decide) (Nat.le_trans c_0 (by decide)) (fun r2 M => ?_)
      refine R_istore_n (pc' := 72) (L' := [(2, .int r2), (1, .int (l1 + (nI 1))), (0, va_rf (some this))]) (i := 2) (x := r2) dX10_readsAll_71 rfl rfl (by decide) rfl ?_
      refine R_goto (tgt := 55) dX10_readsAll_72 (by decide) ?_
      exact R_sub [2, 1, 0] rfl (ih (l1 + (nI 1)) r2 M)
def f_X10_readsAll_L26 (this : Nat) : Nat → Int32 → Mem → Option (Unit × Mem)
  | 0, _, _ => none
  | n + 1, l1, M =>
    (if (nI 5) ≤ l1 then
      (f_X10_readsAll_L55 this FU (nI 0) (nI 1) M)
    else
      ((gR M 10 16 (some this)).bind fun newKnows1 =>
      (wI M 0 newKnows1 l1 (nI 0)).bind fun M =>
      (gR M 10 14 (some this)).bind fun newCargo2 =>
      (wI M 0 newCargo2 l1 (nI 0)).bind fun M =>
      (f_X10_readsAll_L26 this n) (l1 + (nI 1)) M))
set_option maxHeartbeats 2000000 in
set_option maxRecDepth 20000 in
theorem rf_X10_readsAll_L26 (this : Nat) : ∀ (n : Nat) (l1 : Int32) (M : Mem), RF yX10_readsAll cX10_readsAll 3 none 7 eV (f_X10_readsAll_L26 this n l1 M) 26 [(0, va_rf (some this)), (1, .int l1)] [] M := by
  intro n
  induction n with
  | zero => intro _ _; exact RF.none
  | succ n ih =>
    intro l1 M
    rw [f_X10_readsAll_L26]
    refine R_iload_n (pc' := 27) (i := 1) (j := 1) (x := l1) dX10_readsAll_26 rfl rfl rfl ?_
    refine R_iconst (pc' := 28) (x := (nI 5)) dX10_readsAll_27 rfl (by decide) ?_
    refine R_icmp_ge (pc' := 31) (tgt := 51) (a := l1) (b := (nI 5)) dX10_readsAll_28 (by decide) rfl ?_ ?_
    · refine R_iconst (pc' := 52) (x := (nI 0)) dX10_readsAll_51 rfl (by decide) ?_
      refine R_istore_n (pc' := 53) (L' := [(1, .int (nI 0)), (0, va_rf (some this))]) (i := 1) (x := (nI 0)) dX10_readsAll_52 rfl rfl (by decide) rfl ?_
      refine R_iconst (pc' := 54) (x := (nI 1)) dX10_readsAll_53 rfl (by decide) ?_
      refine R_istore_n (pc' := 55) (L' := [(2, .int (nI 1)), (1, .int (nI 0)), (0, va_rf (some this))]) (i := 2) (x := (nI 1)) dX10_readsAll_54 rfl rfl (by decide) rfl ?_
      exact R_sub [2, 1, 0] rfl (rf_X10_readsAll_L55 this FU (nI 0) (nI 1) M)
    · refine R_aloadq_n (pc' := 32) (i := 0) (j := 0) (q := (some this)) dX10_readsAll_31 rfl rfl rfl ?_
      refine R_getR (pc' := 35) (q := (some this)) fl_X10_55 rfl dX10_readsAll_32 rfl (fun newKnows1 => ?_)
      refine R_iload_n (pc' := 36) (i := 1) (j := 1) (x := l1) dX10_readsAll_35 rfl rfl rfl ?_
      refine R_iconst (pc' := 37) (x := (nI 0)) dX10_readsAll_36 rfl (by decide) ?_
      refine R_iast (pc' := 38) (q := newKnows1) (i := l1) (x := (nI 0)) dX10_readsAll_37 rfl (fun M => ?_)
      refine R_aloadq_n (pc' := 39) (i := 0) (j := 0) (q := (some this)) dX10_readsAll_38 rfl rfl rfl ?_
      refine R_getR (pc' := 42) (q := (some this)) fl_X10_49 rfl dX10_readsAll_39 rfl (fun newCargo2 => ?_)
      refine R_iload_n (pc' := 43) (i := 1) (j := 1) (x := l1) dX10_readsAll_42 rfl rfl rfl ?_
      refine R_iconst (pc' := 44) (x := (nI 0)) dX10_readsAll_43 rfl (by decide) ?_
      refine R_iast (pc' := 45) (q := newCargo2) (i := l1) (x := (nI 0)) dX10_readsAll_44 rfl (fun M => ?_)
      refine R_iinc (pc' := 48) (L' := [(1, .int (l1 + (nI 1))), (0, va_rf (some this))]) (i := 1) (j := 1) (x := l1) (x2 := (l1 + (nI 1))) dX10_readsAll_45 rfl rfl rfl (by decide) rfl ?_
      refine R_goto (tgt := 26) dX10_readsAll_48 (by decide) ?_
      exact R_sub [1, 0] rfl (ih (l1 + (nI 1)) M)
def f_X10_readsAll_L6 (this : Nat) : Nat → Int32 → Mem → Option (Unit × Mem)
  | 0, _, _ => none
  | n + 1, l1, M =>
    (if (nI 4) ≤ l1 then
      (f_X10_readsAll_L26 this FU (nI 0) M)
    else
      ((gR M 10 12 (some this)).bind fun newScalar1 =>
      (wI M 0 newScalar1 l1 (nI 0)).bind fun M =>
      (f_X10_readsAll_L6 this n) (l1 + (nI 1)) M))
set_option maxHeartbeats 2000000 in
set_option maxRecDepth 20000 in
theorem rf_X10_readsAll_L6 (this : Nat) : ∀ (n : Nat) (l1 : Int32) (M : Mem), RF yX10_readsAll cX10_readsAll 3 none 7 eV (f_X10_readsAll_L6 this n l1 M) 6 [(0, va_rf (some this)), (1, .int l1)] [] M := by
  intro n
  induction n with
  | zero => intro _ _; exact RF.none
  | succ n ih =>
    intro l1 M
    rw [f_X10_readsAll_L6]
    refine R_iload_n (pc' := 7) (i := 1) (j := 1) (x := l1) dX10_readsAll_6 rfl rfl rfl ?_
    refine R_iconst (pc' := 8) (x := (nI 4)) dX10_readsAll_7 rfl (by decide) ?_
    refine R_icmp_ge (pc' := 11) (tgt := 24) (a := l1) (b := (nI 4)) dX10_readsAll_8 (by decide) rfl ?_ ?_
    · refine R_iconst (pc' := 25) (x := (nI 0)) dX10_readsAll_24 rfl (by decide) ?_
      refine R_istore_n (pc' := 26) (L' := [(1, .int (nI 0)), (0, va_rf (some this))]) (i := 1) (x := (nI 0)) dX10_readsAll_25 rfl rfl (by decide) rfl ?_
      exact R_sub [1, 0] rfl (rf_X10_readsAll_L26 this FU (nI 0) M)
    · refine R_aloadq_n (pc' := 12) (i := 0) (j := 0) (q := (some this)) dX10_readsAll_11 rfl rfl rfl ?_
      refine R_getR (pc' := 15) (q := (some this)) fl_X10_43 rfl dX10_readsAll_12 rfl (fun newScalar1 => ?_)
      refine R_iload_n (pc' := 16) (i := 1) (j := 1) (x := l1) dX10_readsAll_15 rfl rfl rfl ?_
      refine R_iconst (pc' := 17) (x := (nI 0)) dX10_readsAll_16 rfl (by decide) ?_
      refine R_iast (pc' := 18) (q := newScalar1) (i := l1) (x := (nI 0)) dX10_readsAll_17 rfl (fun M => ?_)
      refine R_iinc (pc' := 21) (L' := [(1, .int (l1 + (nI 1))), (0, va_rf (some this))]) (i := 1) (j := 1) (x := l1) (x2 := (l1 + (nI 1))) dX10_readsAll_18 rfl rfl rfl (by decide) rfl ?_
      refine R_goto (tgt := 6) dX10_readsAll_21 (by decide) ?_
      exact R_sub [1, 0] rfl (ih (l1 + (nI 1)) M)
def f_X10_readsAll (this : Nat) (M : Mem) : Option (Unit × Mem) :=
  (oO M 10 (some this)).bind fun o2 => cl (f_X10_starts o2 M) fun u1 M =>
  f_X10_readsAll_L6 this FU (nI 0) M
set_option maxHeartbeats 2000000 in
set_option maxRecDepth 20000 in
theorem rm_X10_readsAll (this : Nat) (M : Mem) : RFm yX10_readsAll cX10_readsAll 3 none 7 eV (f_X10_readsAll this M) [va_rf (some this)] M := by
  refine RFm_of (L := [(0, va_rf (some this))]) (by decide) rfl (Nat.le_trans (c_R c_0) (by decide)) ?_
  rw [f_X10_readsAll]
  refine R_aloadq_n (pc' := 1) (i := 0) (j := 0) (q := (some this)) dX10_readsAll_0 rfl rfl rfl ?_
  refine R_callV_V (pc' := 4) (q := (some this)) (As := []) (fun o2 => rm_X10_starts o2 M) mf_X10_starts lk_X10_280 im_X10_starts se_X10_starts rfl rfl rfl dX10_readsAll_1 rfl (by decide) (Nat.le_trans c_0 (by decide)) (fun u1 M => ?_)
  refine R_iconst (pc' := 5) (x := (nI 0)) dX10_readsAll_4 rfl (by decide) ?_
  refine R_istore_n (pc' := 6) (L' := [(1, .int (nI 0)), (0, va_rf (some this))]) (i := 1) (x := (nI 0)) dX10_readsAll_5 rfl rfl (by decide) rfl ?_
  exact R_sub [1, 0] rfl (rf_X10_readsAll_L6 this FU (nI 0) M)
/-! BarPilotModel.begins()V -/
def f_X10_begins_L50 (this : Nat) : Nat → Int32 → Mem → Option (Unit × Mem)
  | 0, _, _ => none
  | n + 1, l1, M =>
    (if (nI 5) ≤ l1 then
      (some ((), M))
    else
      ((gR M 10 7 (some this)).bind fun passed1 =>
      (wI M 0 passed1 l1 (-1 : Int32)).bind fun M =>
      (f_X10_begins_L50 this n) (l1 + (nI 1)) M))
set_option maxHeartbeats 2000000 in
set_option maxRecDepth 20000 in
theorem rf_X10_begins_L50 (this : Nat) : ∀ (n : Nat) (l1 : Int32) (M : Mem), RF yX10_begins cX10_begins 2 none 2 eV (f_X10_begins_L50 this n l1 M) 50 [(0, va_rf (some this)), (1, .int l1)] [] M := by
  intro n
  induction n with
  | zero => intro _ _; exact RF.none
  | succ n ih =>
    intro l1 M
    rw [f_X10_begins_L50]
    refine R_iload_n (pc' := 51) (i := 1) (j := 1) (x := l1) dX10_begins_50 rfl rfl rfl ?_
    refine R_iconst (pc' := 52) (x := (nI 5)) dX10_begins_51 rfl (by decide) ?_
    refine R_icmp_ge (pc' := 55) (tgt := 68) (a := l1) (b := (nI 5)) dX10_begins_52 (by decide) rfl ?_ ?_
    · exact R_vret dX10_begins_68
    · refine R_aloadq_n (pc' := 56) (i := 0) (j := 0) (q := (some this)) dX10_begins_55 rfl rfl rfl ?_
      refine R_getR (pc' := 59) (q := (some this)) fl_X10_28 rfl dX10_begins_56 rfl (fun passed1 => ?_)
      refine R_iload_n (pc' := 60) (i := 1) (j := 1) (x := l1) dX10_begins_59 rfl rfl rfl ?_
      refine R_iconst (pc' := 61) (x := (-1 : Int32)) dX10_begins_60 rfl (by decide) ?_
      refine R_iast (pc' := 62) (q := passed1) (i := l1) (x := (-1 : Int32)) dX10_begins_61 rfl (fun M => ?_)
      refine R_iinc (pc' := 65) (L' := [(1, .int (l1 + (nI 1))), (0, va_rf (some this))]) (i := 1) (j := 1) (x := l1) (x2 := (l1 + (nI 1))) dX10_begins_62 rfl rfl rfl (by decide) rfl ?_
      refine R_goto (tgt := 50) dX10_begins_65 (by decide) ?_
      exact R_sub [1, 0] rfl (ih (l1 + (nI 1)) M)
def f_X10_begins_L27 (this : Nat) : Nat → Int32 → Mem → Option (Unit × Mem)
  | 0, _, _ => none
  | n + 1, l1, M =>
    (if (nI 8) ≤ l1 then
      (f_X10_begins_L50 this FU (nI 0) M)
    else
      ((gR M 10 5 (some this)).bind fun heard1 =>
      (wI M 0 heard1 l1 (-1000 : Int32)).bind fun M =>
      (f_X10_begins_L27 this n) (l1 + (nI 1)) M))
set_option maxHeartbeats 2000000 in
set_option maxRecDepth 20000 in
theorem rf_X10_begins_L27 (this : Nat) : ∀ (n : Nat) (l1 : Int32) (M : Mem), RF yX10_begins cX10_begins 2 none 2 eV (f_X10_begins_L27 this n l1 M) 27 [(0, va_rf (some this)), (1, .int l1)] [] M := by
  intro n
  induction n with
  | zero => intro _ _; exact RF.none
  | succ n ih =>
    intro l1 M
    rw [f_X10_begins_L27]
    refine R_iload_n (pc' := 28) (i := 1) (j := 1) (x := l1) dX10_begins_27 rfl rfl rfl ?_
    refine R_bipush (pc' := 30) (x := (nI 8)) dX10_begins_28 rfl (by decide) ?_
    refine R_icmp_ge (pc' := 33) (tgt := 48) (a := l1) (b := (nI 8)) dX10_begins_30 (by decide) rfl ?_ ?_
    · refine R_iconst (pc' := 49) (x := (nI 0)) dX10_begins_48 rfl (by decide) ?_
      refine R_istore_n (pc' := 50) (L' := [(1, .int (nI 0)), (0, va_rf (some this))]) (i := 1) (x := (nI 0)) dX10_begins_49 rfl rfl (by decide) rfl ?_
      exact R_sub [1, 0] rfl (rf_X10_begins_L50 this FU (nI 0) M)
    · refine R_aloadq_n (pc' := 34) (i := 0) (j := 0) (q := (some this)) dX10_begins_33 rfl rfl rfl ?_
      refine R_getR (pc' := 37) (q := (some this)) fl_X10_22 rfl dX10_begins_34 rfl (fun heard1 => ?_)
      refine R_iload_n (pc' := 38) (i := 1) (j := 1) (x := l1) dX10_begins_37 rfl rfl rfl ?_
      refine R_sipush (pc' := 41) (x := (-1000 : Int32)) dX10_begins_38 rfl (by decide) ?_
      refine R_iast (pc' := 42) (q := heard1) (i := l1) (x := (-1000 : Int32)) dX10_begins_41 rfl (fun M => ?_)
      refine R_iinc (pc' := 45) (L' := [(1, .int (l1 + (nI 1))), (0, va_rf (some this))]) (i := 1) (j := 1) (x := l1) (x2 := (l1 + (nI 1))) dX10_begins_42 rfl rfl rfl (by decide) rfl ?_
      refine R_goto (tgt := 27) dX10_begins_45 (by decide) ?_
      exact R_sub [1, 0] rfl (ih (l1 + (nI 1)) M)
def f_X10_begins (this : Nat) (M : Mem) : Option (Unit × Mem) :=
  (gR M 10 11 (some this)).bind fun toldKnows1 =>
  (gR M 10 6 (some this)).bind fun knows2 =>
  cl (f_X10_copies toldKnows1 knows2 M) fun u3 M =>
  (gR M 10 1 (some this)).bind fun scalar4 =>
  (wI M 0 scalar4 (nI 4) (nI 0)).bind fun M =>
  (gR M 10 1 (some this)).bind fun scalar5 =>
  (wI M 0 scalar5 (nI 5) (nI 0)).bind fun M =>
  f_X10_begins_L27 this FU (nI 0) M
set_option maxHeartbeats 2000000 in
set_option maxRecDepth 20000 in
theorem rm_X10_begins (this : Nat) (M : Mem) : RFm yX10_begins cX10_begins 2 none 2 eV (f_X10_begins this M) [va_rf (some this)] M := by
  refine RFm_of (L := [(0, va_rf (some this))]) (by decide) rfl (Nat.le_trans (c_R c_0) (by decide)) ?_
  rw [f_X10_begins]
  refine R_aloadq_n (pc' := 1) (i := 0) (j := 0) (q := (some this)) dX10_begins_0 rfl rfl rfl ?_
  refine R_getR (pc' := 4) (q := (some this)) fl_X10_40 rfl dX10_begins_1 rfl (fun toldKnows1 => ?_)
  refine R_aloadq_n (pc' := 5) (i := 0) (j := 0) (q := (some this)) dX10_begins_4 rfl rfl rfl ?_
  refine R_getR (pc' := 8) (q := (some this)) fl_X10_25 rfl dX10_begins_5 rfl (fun knows2 => ?_)
  refine R_callS_V (pc' := 11) (As := [va_rf toldKnows1, va_rf knows2]) (rm_X10_copies toldKnows1 knows2 M) mf_X10_copies lk_X10_289 sm_X10_copies rfl rfl dX10_begins_8 rfl (by decide) (Nat.le_trans c_0 (by decide)) (fun u3 M => ?_)
  refine R_aloadq_n (pc' := 12) (i := 0) (j := 0) (q := (some this)) dX10_begins_11 rfl rfl rfl ?_
  refine R_getR (pc' := 15) (q := (some this)) fl_X10_9 rfl dX10_begins_12 rfl (fun scalar4 => ?_)
  refine R_iconst (pc' := 16) (x := (nI 4)) dX10_begins_15 rfl (by decide) ?_
  refine R_iconst (pc' := 17) (x := (nI 0)) dX10_begins_16 rfl (by decide) ?_
  refine R_iast (pc' := 18) (q := scalar4) (i := (nI 4)) (x := (nI 0)) dX10_begins_17 rfl (fun M => ?_)
  refine R_aloadq_n (pc' := 19) (i := 0) (j := 0) (q := (some this)) dX10_begins_18 rfl rfl rfl ?_
  refine R_getR (pc' := 22) (q := (some this)) fl_X10_9 rfl dX10_begins_19 rfl (fun scalar5 => ?_)
  refine R_iconst (pc' := 23) (x := (nI 5)) dX10_begins_22 rfl (by decide) ?_
  refine R_iconst (pc' := 24) (x := (nI 0)) dX10_begins_23 rfl (by decide) ?_
  refine R_iast (pc' := 25) (q := scalar5) (i := (nI 5)) (x := (nI 0)) dX10_begins_24 rfl (fun M => ?_)
  refine R_iconst (pc' := 26) (x := (nI 0)) dX10_begins_25 rfl (by decide) ?_
  refine R_istore_n (pc' := 27) (L' := [(1, .int (nI 0)), (0, va_rf (some this))]) (i := 1) (x := (nI 0)) dX10_begins_26 rfl rfl (by decide) rfl ?_
  exact R_sub [1, 0] rfl (rf_X10_begins_L27 this FU (nI 0) M)
/-! BarPilotModel.bar()I -/
def f_X10_bar_L21 (this : Nat) : Nat → Int32 → Mem → Option (Int32 × Mem)
  | 0, _, _ => none
  | n + 1, l1, M =>
    (if (nI 4) ≤ l1 then
      ((gR M 10 1 (some this)).bind fun scalar1 =>
      (wI M 0 scalar1 (nI 6) (nI 0)).bind fun M =>
      (gR M 10 13 (some this)).bind fun newParts2 =>
      (gR M 10 2 (some this)).bind fun parts3 =>
      cl (f_X10_copies newParts2 parts3 M) fun u4 M =>
      (gR M 10 14 (some this)).bind fun newCargo5 =>
      (gR M 10 3 (some this)).bind fun cargo6 =>
      cl (f_X10_copies newCargo5 cargo6 M) fun u7 M =>
      (gR M 10 15 (some this)).bind fun newKeeps8 =>
      (gR M 10 4 (some this)).bind fun keeps9 =>
      cl (f_X10_copies newKeeps8 keeps9 M) fun u10 M =>
      (gR M 10 16 (some this)).bind fun newKnows11 =>
      (gR M 10 11 (some this)).bind fun toldKnows12 =>
      cl (f_X10_copies newKnows11 toldKnows12 M) fun u13 M =>
      (oO M 10 (some this)).bind fun o17 => cl (f_X10_begins o17 M) fun u14 M =>
      (pI M 10 42 (some this) (nI 0)).bind fun M =>
      (gR M 10 1 (some this)).bind fun scalar15 =>
      (aI M 0 scalar15 (nI 3)).bind fun e16 =>
      some (e16, M))
    else
      ((gR M 10 1 (some this)).bind fun scalar18 =>
      (gR M 10 12 (some this)).bind fun newScalar19 =>
      (aI M 0 newScalar19 l1).bind fun e20 =>
      (wI M 0 scalar18 l1 e20).bind fun M =>
      (f_X10_bar_L21 this n) (l1 + (nI 1)) M))
set_option maxHeartbeats 2000000 in
set_option maxRecDepth 20000 in
theorem rf_X10_bar_L21 (this : Nat) : ∀ (n : Nat) (l1 : Int32) (M : Mem), RF yX10_bar cX10_bar 2 (some .int) 8 eI (f_X10_bar_L21 this n l1 M) 21 [(0, va_rf (some this)), (1, .int l1)] [] M := by
  intro n
  induction n with
  | zero => intro _ _; exact RF.none
  | succ n ih =>
    intro l1 M
    rw [f_X10_bar_L21]
    refine R_iload_n (pc' := 22) (i := 1) (j := 1) (x := l1) dX10_bar_21 rfl rfl rfl ?_
    refine R_iconst (pc' := 23) (x := (nI 4)) dX10_bar_22 rfl (by decide) ?_
    refine R_icmp_ge (pc' := 26) (tgt := 44) (a := l1) (b := (nI 4)) dX10_bar_23 (by decide) rfl ?_ ?_
    · refine R_aloadq_n (pc' := 45) (i := 0) (j := 0) (q := (some this)) dX10_bar_44 rfl rfl rfl ?_
      refine R_getR (pc' := 48) (q := (some this)) fl_X10_9 rfl dX10_bar_45 rfl (fun scalar1 => ?_)
      refine R_bipush (pc' := 50) (x := (nI 6)) dX10_bar_48 rfl (by decide) ?_
      refine R_iconst (pc' := 51) (x := (nI 0)) dX10_bar_50 rfl (by decide) ?_
      refine R_iast (pc' := 52) (q := scalar1) (i := (nI 6)) (x := (nI 0)) dX10_bar_51 rfl (fun M => ?_)
      refine R_aloadq_n (pc' := 53) (i := 0) (j := 0) (q := (some this)) dX10_bar_52 rfl rfl rfl ?_
      refine R_getR (pc' := 56) (q := (some this)) fl_X10_46 rfl dX10_bar_53 rfl (fun newParts2 => ?_)
      refine R_aloadq_n (pc' := 57) (i := 0) (j := 0) (q := (some this)) dX10_bar_56 rfl rfl rfl ?_
      refine R_getR (pc' := 60) (q := (some this)) fl_X10_13 rfl dX10_bar_57 rfl (fun parts3 => ?_)
      refine R_callS_V (pc' := 63) (As := [va_rf newParts2, va_rf parts3]) (rm_X10_copies newParts2 parts3 M) mf_X10_copies lk_X10_289 sm_X10_copies rfl rfl dX10_bar_60 rfl (by decide) (Nat.le_trans c_0 (by decide)) (fun u4 M => ?_)
      refine R_aloadq_n (pc' := 64) (i := 0) (j := 0) (q := (some this)) dX10_bar_63 rfl rfl rfl ?_
      refine R_getR (pc' := 67) (q := (some this)) fl_X10_49 rfl dX10_bar_64 rfl (fun newCargo5 => ?_)
      refine R_aloadq_n (pc' := 68) (i := 0) (j := 0) (q := (some this)) dX10_bar_67 rfl rfl rfl ?_
      refine R_getR (pc' := 71) (q := (some this)) fl_X10_16 rfl dX10_bar_68 rfl (fun cargo6 => ?_)
      refine R_callS_V (pc' := 74) (As := [va_rf newCargo5, va_rf cargo6]) (rm_X10_copies newCargo5 cargo6 M) mf_X10_copies lk_X10_289 sm_X10_copies rfl rfl dX10_bar_71 rfl (by decide) (Nat.le_trans c_0 (by decide)) (fun u7 M => ?_)
      refine R_aloadq_n (pc' := 75) (i := 0) (j := 0) (q := (some this)) dX10_bar_74 rfl rfl rfl ?_
      refine R_getR (pc' := 78) (q := (some this)) fl_X10_52 rfl dX10_bar_75 rfl (fun newKeeps8 => ?_)
      refine R_aloadq_n (pc' := 79) (i := 0) (j := 0) (q := (some this)) dX10_bar_78 rfl rfl rfl ?_
      refine R_getR (pc' := 82) (q := (some this)) fl_X10_19 rfl dX10_bar_79 rfl (fun keeps9 => ?_)
      refine R_callS_V (pc' := 85) (As := [va_rf newKeeps8, va_rf keeps9]) (rm_X10_copies newKeeps8 keeps9 M) mf_X10_copies lk_X10_289 sm_X10_copies rfl rfl dX10_bar_82 rfl (by decide) (Nat.le_trans c_0 (by decide)) (fun u10 M => ?_)
      refine R_aloadq_n (pc' := 86) (i := 0) (j := 0) (q := (some this)) dX10_bar_85 rfl rfl rfl ?_
      refine R_getR (pc' := 89) (q := (some this)) fl_X10_55 rfl dX10_bar_86 rfl (fun newKnows11 => ?_)
      refine R_aloadq_n (pc' := 90) (i := 0) (j := 0) (q := (some this)) dX10_bar_89 rfl rfl rfl ?_
      refine R_getR (pc' := 93) (q := (some this)) fl_X10_40 rfl dX10_bar_90 rfl (fun toldKnows12 => ?_)
      refine R_callS_V (pc' := 96) (As := [va_rf newKnows11, va_rf toldKnows12]) (rm_X10_copies newKnows11 toldKnows12 M) mf_X10_copies lk_X10_289 sm_X10_copies rfl rfl dX10_bar_93 rfl (by decide) (Nat.le_trans c_0 (by decide)) (fun u13 M => ?_)
      refine R_aloadq_n (pc' := 97) (i := 0) (j := 0) (q := (some this)) dX10_bar_96 rfl rfl rfl ?_
      refine R_callV_V (pc' := 100) (q := (some this)) (As := []) (fun o17 => rm_X10_begins o17 M) mf_X10_begins lk_X10_296 im_X10_begins se_X10_begins rfl rfl rfl dX10_bar_97 rfl (by decide) (Nat.le_trans c_0 (by decide)) (fun u14 M => ?_)
      refine R_aloadq_n (pc' := 101) (i := 0) (j := 0) (q := (some this)) dX10_bar_100 rfl rfl rfl ?_
      refine R_iconst (pc' := 102) (x := (nI 0)) dX10_bar_101 rfl (by decide) ?_
      refine R_putI (pc' := 105) (q := (some this)) (x := (nI 0)) fl_X10_299 (Or.inl rfl) dX10_bar_102 rfl (fun M => ?_)
      refine R_aloadq_n (pc' := 106) (i := 0) (j := 0) (q := (some this)) dX10_bar_105 rfl rfl rfl ?_
      refine R_getR (pc' := 109) (q := (some this)) fl_X10_9 rfl dX10_bar_106 rfl (fun scalar15 => ?_)
      refine R_iconst (pc' := 110) (x := (nI 3)) dX10_bar_109 rfl (by decide) ?_
      refine R_iald (pc' := 111) (q := scalar15) (i := (nI 3)) dX10_bar_110 rfl (fun e16 => ?_)
      exact R_iret dX10_bar_111
    · refine R_aloadq_n (pc' := 27) (i := 0) (j := 0) (q := (some this)) dX10_bar_26 rfl rfl rfl ?_
      refine R_getR (pc' := 30) (q := (some this)) fl_X10_9 rfl dX10_bar_27 rfl (fun scalar18 => ?_)
      refine R_iload_n (pc' := 31) (i := 1) (j := 1) (x := l1) dX10_bar_30 rfl rfl rfl ?_
      refine R_aloadq_n (pc' := 32) (i := 0) (j := 0) (q := (some this)) dX10_bar_31 rfl rfl rfl ?_
      refine R_getR (pc' := 35) (q := (some this)) fl_X10_43 rfl dX10_bar_32 rfl (fun newScalar19 => ?_)
      refine R_iload_n (pc' := 36) (i := 1) (j := 1) (x := l1) dX10_bar_35 rfl rfl rfl ?_
      refine R_iald (pc' := 37) (q := newScalar19) (i := l1) dX10_bar_36 rfl (fun e20 => ?_)
      refine R_iast (pc' := 38) (q := scalar18) (i := l1) (x := e20) dX10_bar_37 rfl (fun M => ?_)
      refine R_iinc (pc' := 41) (L' := [(1, .int (l1 + (nI 1))), (0, va_rf (some this))]) (i := 1) (j := 1) (x := l1) (x2 := (l1 + (nI 1))) dX10_bar_38 rfl rfl rfl (by decide) rfl ?_
      refine R_goto (tgt := 21) dX10_bar_41 (by decide) ?_
      exact R_sub [1, 0] rfl (ih (l1 + (nI 1)) M)
def f_X10_bar (this : Nat) (M : Mem) : Option (Int32 × Mem) :=
  (oO M 10 (some this)).bind fun o4 => cl (f_X10_readsAll o4 M) fun u1 M =>
  (gI M 10 19 (some this)).bind fun fault2 =>
  (if fault2 ≤ 0 then
    (f_X10_bar_L21 this FU (nI 0) M)
  else
    ((gI M 10 19 (some this)).bind fun fault3 =>
    some (((-2 : Int32) - fault3), M)))
set_option maxHeartbeats 2000000 in
set_option maxRecDepth 20000 in
theorem rm_X10_bar (this : Nat) (M : Mem) : RFm yX10_bar cX10_bar 2 (some .int) 8 eI (f_X10_bar this M) [va_rf (some this)] M := by
  refine RFm_of (L := [(0, va_rf (some this))]) (by decide) rfl (Nat.le_trans (c_R c_0) (by decide)) ?_
  rw [f_X10_bar]
  refine R_aloadq_n (pc' := 1) (i := 0) (j := 0) (q := (some this)) dX10_bar_0 rfl rfl rfl ?_
  refine R_callV_V (pc' := 4) (q := (some this)) (As := []) (fun o4 => rm_X10_readsAll o4 M) mf_X10_readsAll lk_X10_293 im_X10_readsAll se_X10_readsAll rfl rfl rfl dX10_bar_1 rfl (by decide) (Nat.le_trans c_0 (by decide)) (fun u1 M => ?_)
  refine R_aloadq_n (pc' := 5) (i := 0) (j := 0) (q := (some this)) dX10_bar_4 rfl rfl rfl ?_
  refine R_getI (pc' := 8) (q := (some this)) fl_X10_165 rfl dX10_bar_5 rfl (fun fault2 => ?_)
  refine R_if_le (pc' := 11) (tgt := 19) (a := fault2) dX10_bar_8 (by decide) rfl ?_ ?_
  · refine R_iconst (pc' := 20) (x := (nI 0)) dX10_bar_19 rfl (by decide) ?_
    refine R_istore_n (pc' := 21) (L' := [(1, .int (nI 0)), (0, va_rf (some this))]) (i := 1) (x := (nI 0)) dX10_bar_20 rfl rfl (by decide) rfl ?_
    exact R_sub [1, 0] rfl (rf_X10_bar_L21 this FU (nI 0) M)
  · refine R_bipush (pc' := 13) (x := (-2 : Int32)) dX10_bar_11 rfl (by decide) ?_
    refine R_aloadq_n (pc' := 14) (i := 0) (j := 0) (q := (some this)) dX10_bar_13 rfl rfl rfl ?_
    refine R_getI (pc' := 17) (q := (some this)) fl_X10_165 rfl dX10_bar_14 rfl (fun fault3 => ?_)
    refine R_isub (pc' := 18) (a := (-2 : Int32)) (b := fault3) dX10_bar_17 rfl ?_
    exact R_iret dX10_bar_18
