/-! java/lang/Integer.bitCount(I)I -/
def f_J6_bitCount_0f7a4 (l0 : Int32) (M : Mem) : Option (Int32 × Mem) :=
  nm (l0 - (((Int32.toUInt32 l0 >>> (Int32.toUInt32 (nI 1) &&& Int32.toUInt32 31)).toInt32) &&& (nI 1431655765))) fun v1 =>
  nm ((v1 &&& (nI 858993459)) + (((Int32.toUInt32 v1 >>> (Int32.toUInt32 (nI 2) &&& Int32.toUInt32 31)).toInt32) &&& (nI 858993459))) fun v2 =>
  nm ((v2 + ((Int32.toUInt32 v2 >>> (Int32.toUInt32 (nI 4) &&& Int32.toUInt32 31)).toInt32)) &&& (nI 252645135)) fun v3 =>
  nm (v3 + ((Int32.toUInt32 v3 >>> (Int32.toUInt32 (nI 8) &&& Int32.toUInt32 31)).toInt32)) fun v4 =>
  nm (v4 + ((Int32.toUInt32 v4 >>> (Int32.toUInt32 (nI 16) &&& Int32.toUInt32 31)).toInt32)) fun v5 =>
  some ((v5 &&& (nI 63)), M)
set_option maxHeartbeats 2000000 in
set_option maxRecDepth 20000 in
theorem rm_J6_bitCount_0f7a4 (l0 : Int32) (M : Mem) : RFm yJ6_bitCount_0f7a4 cJ6_bitCount_0f7a4 1 (some .int) 1 eI (f_J6_bitCount_0f7a4 l0 M) [.int l0] M := by
  refine RFm_of (L := [(0, .int l0)]) (by decide) rfl (Nat.le_trans (c_I c_0) (by decide)) ?_
  rw [f_J6_bitCount_0f7a4]
  refine R_iload_n (pc' := 1) (i := 0) (j := 0) (x := l0) dJ6_bitCount_0f7a4_0 rfl rfl rfl ?_
  refine R_iload_n (pc' := 2) (i := 0) (j := 0) (x := l0) dJ6_bitCount_0f7a4_1 rfl rfl rfl ?_
  refine R_iconst (pc' := 3) (x := (nI 1)) dJ6_bitCount_0f7a4_2 rfl (by decide) ?_
  refine R_iushr (pc' := 4) (a := l0) (b := (nI 1)) dJ6_bitCount_0f7a4_3 rfl ?_
  refine R_ldcw (pc' := 7) (x := (nI 1431655765)) dJ6_bitCount_0f7a4_4 rfl co_J6_265 ?_
  refine R_iand (pc' := 8) (a := ((Int32.toUInt32 l0 >>> (Int32.toUInt32 (nI 1) &&& Int32.toUInt32 31)).toInt32)) (b := (nI 1431655765)) dJ6_bitCount_0f7a4_7 rfl ?_
  refine R_isub (pc' := 9) (a := l0) (b := (((Int32.toUInt32 l0 >>> (Int32.toUInt32 (nI 1) &&& Int32.toUInt32 31)).toInt32) &&& (nI 1431655765))) dJ6_bitCount_0f7a4_8 rfl ?_
  refine R_nmI (fun v1 => ?_)
  refine R_istore_n (pc' := 10) (L' := [(0, .int v1)]) (i := 0) (x := v1) dJ6_bitCount_0f7a4_9 rfl rfl (by decide) rfl ?_
  refine R_iload_n (pc' := 11) (i := 0) (j := 0) (x := v1) dJ6_bitCount_0f7a4_10 rfl rfl rfl ?_
  refine R_ldcw (pc' := 14) (x := (nI 858993459)) dJ6_bitCount_0f7a4_11 rfl co_J6_266 ?_
  refine R_iand (pc' := 15) (a := v1) (b := (nI 858993459)) dJ6_bitCount_0f7a4_14 rfl ?_
  refine R_iload_n (pc' := 16) (i := 0) (j := 0) (x := v1) dJ6_bitCount_0f7a4_15 rfl rfl rfl ?_
  refine R_iconst (pc' := 17) (x := (nI 2)) dJ6_bitCount_0f7a4_16 rfl (by decide) ?_
  refine R_iushr (pc' := 18) (a := v1) (b := (nI 2)) dJ6_bitCount_0f7a4_17 rfl ?_
  refine R_ldcw (pc' := 21) (x := (nI 858993459)) dJ6_bitCount_0f7a4_18 rfl co_J6_266 ?_
  refine R_iand (pc' := 22) (a := ((Int32.toUInt32 v1 >>> (Int32.toUInt32 (nI 2) &&& Int32.toUInt32 31)).toInt32)) (b := (nI 858993459)) dJ6_bitCount_0f7a4_21 rfl ?_
  refine R_iadd (pc' := 23) (a := (v1 &&& (nI 858993459))) (b := (((Int32.toUInt32 v1 >>> (Int32.toUInt32 (nI 2) &&& Int32.toUInt32 31)).toInt32) &&& (nI 858993459))) dJ6_bitCount_0f7a4_22 rfl ?_
  refine R_nmI (fun v2 => ?_)
  refine R_istore_n (pc' := 24) (L' := [(0, .int v2)]) (i := 0) (x := v2) dJ6_bitCount_0f7a4_23 rfl rfl (by decide) rfl ?_
  refine R_iload_n (pc' := 25) (i := 0) (j := 0) (x := v2) dJ6_bitCount_0f7a4_24 rfl rfl rfl ?_
  refine R_iload_n (pc' := 26) (i := 0) (j := 0) (x := v2) dJ6_bitCount_0f7a4_25 rfl rfl rfl ?_
  refine R_iconst (pc' := 27) (x := (nI 4)) dJ6_bitCount_0f7a4_26 rfl (by decide) ?_
  refine R_iushr (pc' := 28) (a := v2) (b := (nI 4)) dJ6_bitCount_0f7a4_27 rfl ?_
  refine R_iadd (pc' := 29) (a := v2) (b := ((Int32.toUInt32 v2 >>> (Int32.toUInt32 (nI 4) &&& Int32.toUInt32 31)).toInt32)) dJ6_bitCount_0f7a4_28 rfl ?_
  refine R_ldcw (pc' := 32) (x := (nI 252645135)) dJ6_bitCount_0f7a4_29 rfl co_J6_267 ?_
  refine R_iand (pc' := 33) (a := (v2 + ((Int32.toUInt32 v2 >>> (Int32.toUInt32 (nI 4) &&& Int32.toUInt32 31)).toInt32))) (b := (nI 252645135)) dJ6_bitCount_0f7a4_32 rfl ?_
  refine R_nmI (fun v3 => ?_)
  refine R_istore_n (pc' := 34) (L' := [(0, .int v3)]) (i := 0) (x := v3) dJ6_bitCount_0f7a4_33 rfl rfl (by decide) rfl ?_
  refine R_iload_n (pc' := 35) (i := 0) (j := 0) (x := v3) dJ6_bitCount_0f7a4_34 rfl rfl rfl ?_
  refine R_iload_n (pc' := 36) (i := 0) (j := 0) (x := v3) dJ6_bitCount_0f7a4_35 rfl rfl rfl ?_
  refine R_bipush (pc' := 38) (x := (nI 8)) dJ6_bitCount_0f7a4_36 rfl (by decide) ?_
  refine R_iushr (pc' := 39) (a := v3) (b := (nI 8)) dJ6_bitCount_0f7a4_38 rfl ?_
  refine R_iadd (pc' := 40) (a := v3) (b := ((Int32.toUInt32 v3 >>> (Int32.toUInt32 (nI 8) &&& Int32.toUInt32 31)).toInt32)) dJ6_bitCount_0f7a4_39 rfl ?_
  refine R_nmI (fun v4 => ?_)
  refine R_istore_n (pc' := 41) (L' := [(0, .int v4)]) (i := 0) (x := v4) dJ6_bitCount_0f7a4_40 rfl rfl (by decide) rfl ?_
  refine R_iload_n (pc' := 42) (i := 0) (j := 0) (x := v4) dJ6_bitCount_0f7a4_41 rfl rfl rfl ?_
  refine R_iload_n (pc' := 43) (i := 0) (j := 0) (x := v4) dJ6_bitCount_0f7a4_42 rfl rfl rfl ?_
  refine R_bipush (pc' := 45) (x := (nI 16)) dJ6_bitCount_0f7a4_43 rfl (by decide) ?_
  refine R_iushr (pc' := 46) (a := v4) (b := (nI 16)) dJ6_bitCount_0f7a4_45 rfl ?_
  refine R_iadd (pc' := 47) (a := v4) (b := ((Int32.toUInt32 v4 >>> (Int32.toUInt32 (nI 16) &&& Int32.toUInt32 31)).toInt32)) dJ6_bitCount_0f7a4_46 rfl ?_
  refine R_nmI (fun v5 => ?_)
  refine R_istore_n (pc' := 48) (L' := [(0, .int v5)]) (i := 0) (x := v5) dJ6_bitCount_0f7a4_47 rfl rfl (by decide) rfl ?_
  refine R_iload_n (pc' := 49) (i := 0) (j := 0) (x := v5) dJ6_bitCount_0f7a4_48 rfl rfl rfl ?_
  refine R_bipush (pc' := 51) (x := (nI 63)) dJ6_bitCount_0f7a4_49 rfl (by decide) ?_
  refine R_iand (pc' := 52) (a := v5) (b := (nI 63)) dJ6_bitCount_0f7a4_51 rfl ?_
  exact R_iret dJ6_bitCount_0f7a4_52
/-! java/util/Arrays.fill([II)V -/
def f_J7_fill_53178_L5 : Nat → Option Nat → Int32 → Int32 → Int32 → Mem → Option (Unit × Mem)
  | 0, _, _, _, _, _ => none
  | n + 1, l0, l1, l2, l3, M =>
    (if l3 ≤ l2 then
      (some ((), M))
    else
      ((wI M 0 l0 l2 l1).bind fun M =>
      (f_J7_fill_53178_L5 n) l0 l1 (l2 + (nI 1)) l3 M))
set_option maxHeartbeats 2000000 in
set_option maxRecDepth 20000 in
theorem rf_J7_fill_53178_L5 : ∀ (n : Nat) (l0 : Option Nat) (l1 : Int32) (l2 : Int32) (l3 : Int32) (M : Mem), RF yJ7_fill_53178 cJ7_fill_53178 4 none 1 eV (f_J7_fill_53178_L5 n l0 l1 l2 l3 M) 5 [(0, va_rf l0), (1, .int l1), (2, .int l2), (3, .int l3)] [] M := by
  intro n
  induction n with
  | zero => intro _ _ _ _ _; exact RF.none
  | succ n ih =>
    intro l0 l1 l2 l3 M
    rw [f_J7_fill_53178_L5]
    refine R_iload_n (pc' := 6) (i := 2) (j := 2) (x := l2) dJ7_fill_53178_5 rfl rfl rfl ?_
    refine R_iload_n (pc' := 7) (i := 3) (j := 3) (x := l3) dJ7_fill_53178_6 rfl rfl rfl ?_
    refine R_icmp_ge (pc' := 10) (tgt := 20) (a := l2) (b := l3) dJ7_fill_53178_7 (by decide) rfl ?_ ?_
    · exact R_vret dJ7_fill_53178_20
    · refine R_aloadq_n (pc' := 11) (i := 0) (j := 0) (q := l0) dJ7_fill_53178_10 rfl rfl rfl ?_
      refine R_iload_n (pc' := 12) (i := 2) (j := 2) (x := l2) dJ7_fill_53178_11 rfl rfl rfl ?_
      refine R_iload_n (pc' := 13) (i := 1) (j := 1) (x := l1) dJ7_fill_53178_12 rfl rfl rfl ?_
      refine R_iast (pc' := 14) (q := l0) (i := l2) (x := l1) dJ7_fill_53178_13 rfl (fun M => ?_)
      refine R_iinc (pc' := 17) (L' := [(2, .int (l2 + (nI 1))), (0, va_rf l0), (1, .int l1), (3, .int l3)]) (i := 2) (j := 2) (x := l2) (x2 := (l2 + (nI 1))) dJ7_fill_53178_14 rfl rfl rfl (by decide) rfl ?_
      refine R_goto (tgt := 5) dJ7_fill_53178_17 (by decide) ?_
      exact R_sub [1, 2, 0, 3] rfl (ih l0 l1 (l2 + (nI 1)) l3 M)
def f_J7_fill_53178 (l0 : Option Nat) (l1 : Int32) (M : Mem) : Option (Unit × Mem) :=
  (lnA M l0).bind fun len1 =>
  f_J7_fill_53178_L5 FU l0 l1 (nI 0) len1 M
set_option maxHeartbeats 2000000 in
set_option maxRecDepth 20000 in
theorem rm_J7_fill_53178 (l0 : Option Nat) (l1 : Int32) (M : Mem) : RFm yJ7_fill_53178 cJ7_fill_53178 4 none 1 eV (f_J7_fill_53178 l0 l1 M) [va_rf l0, .int l1] M := by
  refine RFm_of (L := [(0, va_rf l0), (1, .int l1)]) (by decide) (by simp only [lva_R, lva_I, lva_L, lva_C, lva_0]) (Nat.le_trans (c_R (c_I c_0)) (by decide)) ?_
  rw [f_J7_fill_53178]
  refine R_iconst (pc' := 1) (x := (nI 0)) dJ7_fill_53178_0 rfl (by decide) ?_
  refine R_istore_n (pc' := 2) (L' := [(2, .int (nI 0)), (0, va_rf l0), (1, .int l1)]) (i := 2) (x := (nI 0)) dJ7_fill_53178_1 rfl rfl (by decide) rfl ?_
  refine R_aloadq_n (pc' := 3) (i := 0) (j := 1) (q := l0) dJ7_fill_53178_2 rfl rfl rfl ?_
  refine R_alen (pc' := 4) (q := l0) dJ7_fill_53178_3 rfl (fun len1 => ?_)
  refine R_istore_n (pc' := 5) (L' := [(3, .int len1), (2, .int (nI 0)), (0, va_rf l0), (1, .int l1)]) (i := 3) (x := len1) dJ7_fill_53178_4 rfl rfl (by decide) rfl ?_
  exact R_sub [2, 3, 1, 0] rfl (rf_J7_fill_53178_L5 FU l0 l1 (nI 0) len1 M)
/-! java/util/Arrays.copyOf([II)[I -/
def f_J7_copyOf_59c91 (l0 : Option Nat) (l1 : Int32) (M : Mem) : Option (Option Nat × Mem) :=
  (lnA M l0).bind fun len1 =>
  (if l1 = len1 then
    (none)
  else
    (newA M 0 l1 fun a2 M =>
    (lnA M l0).bind fun len3 =>
    nm (if l1 < len3 then l1 else len3) fun r4 =>
    (cpy M l0 (nI 0) (some a2) (nI 0) r4).bind fun M =>
    some ((some a2), M)))
set_option maxHeartbeats 2000000 in
set_option maxRecDepth 20000 in
theorem rm_J7_copyOf_59c91 (l0 : Option Nat) (l1 : Int32) (M : Mem) : RFm yJ7_copyOf_59c91 cJ7_copyOf_59c91 3 (some (.array .int)) 1 eR (f_J7_copyOf_59c91 l0 l1 M) [va_rf l0, .int l1] M := by
  refine RFm_of (L := [(0, va_rf l0), (1, .int l1)]) (by decide) (by simp only [lva_R, lva_I, lva_L, lva_C, lva_0]) (Nat.le_trans (c_R (c_I c_0)) (by decide)) ?_
  rw [f_J7_copyOf_59c91]
  refine R_iload_n (pc' := 1) (i := 1) (j := 1) (x := l1) dJ7_copyOf_59c91_0 rfl rfl rfl ?_
  refine R_aloadq_n (pc' := 2) (i := 0) (j := 0) (q := l0) dJ7_copyOf_59c91_1 rfl rfl rfl ?_
  refine R_alen (pc' := 3) (q := l0) dJ7_copyOf_59c91_2 rfl (fun len1 => ?_)
  refine R_icmp_ne (pc' := 6) (tgt := 14) (a := l1) (b := len1) dJ7_copyOf_59c91_3 (by decide) rfl ?_ ?_
  · refine R_iload_n (pc' := 15) (i := 1) (j := 1) (x := l1) dJ7_copyOf_59c91_14 rfl rfl rfl ?_
    refine R_newa (pc' := 17) (at0 := .int) (ty := .int) (t := 0) (n := l1) rfl rfl (by decide) ac_int (by decide) rfl dJ7_copyOf_59c91_15 rfl (fun a2 M => ?_)
    refine R_astoreq_n (pc' := 18) (L' := [(2, va_rf (some a2)), (0, va_rf l0), (1, .int l1)]) (i := 2) (q := (some a2)) dJ7_copyOf_59c91_17 rfl rfl (by decide) rfl ?_
    refine R_aloadq_n (pc' := 19) (i := 0) (j := 1) (q := l0) dJ7_copyOf_59c91_18 rfl rfl rfl ?_
    refine R_iconst (pc' := 20) (x := (nI 0)) dJ7_copyOf_59c91_19 rfl (by decide) ?_
    refine R_aloadq_n (pc' := 21) (i := 2) (j := 0) (q := (some a2)) dJ7_copyOf_59c91_20 rfl rfl rfl ?_
    refine R_iconst (pc' := 22) (x := (nI 0)) dJ7_copyOf_59c91_21 rfl (by decide) ?_
    refine R_aloadq_n (pc' := 23) (i := 0) (j := 1) (q := l0) dJ7_copyOf_59c91_22 rfl rfl rfl ?_
    refine R_alen (pc' := 24) (q := l0) dJ7_copyOf_59c91_23 rfl (fun len3 => ?_)
    refine R_iload_n (pc' := 25) (i := 1) (j := 2) (x := l1) dJ7_copyOf_59c91_24 rfl rfl rfl ?_
    refine R_mmin (pc' := 28) (a := len3) (b := l1) lk_J7_304 dJ7_copyOf_59c91_25 rfl (by decide) (Nat.le_trans (c_I (c_R (c_I (c_R c_0)))) (by decide)) ?_
    refine R_nmI (fun r4 => ?_)
    refine R_acopy (pc' := 31) (q0 := l0) (sp := (nI 0)) (q1 := (some a2)) (dp := (nI 0)) (n := r4) lka_J7_150 sy_na sy_st sy_in dJ7_copyOf_59c91_28 rfl (by decide) (Nat.le_trans c_0 (by decide)) (fun M => ?_)
    refine R_aloadq_n (pc' := 32) (i := 2) (j := 0) (q := (some a2)) dJ7_copyOf_59c91_31 rfl rfl rfl ?_
    exact R_aret (Or.inr ⟨_, rfl⟩) dJ7_copyOf_59c91_32
  · refine R_aloadq_n (pc' := 7) (i := 0) (j := 0) (q := l0) dJ7_copyOf_59c91_6 rfl rfl rfl ?_
    exact RF.none
/-! jdk/internal/util/Preconditions.checkIndex(IILjava/util/function/BiFunction;)I -/
def f_J3_checkIndex_8e157 (l0 : Int32) (l1 : Int32) (M : Mem) : Option (Int32 × Mem) :=
  (if l0 < 0 then
    (none)
  else
    ((if l0 < l1 then
      (some (l0, M))
    else
      (none))))
theorem rm_J3_checkIndex_8e157 (X : Value) (hX : X = .null ∨ X = .float 200) (l0 : Int32) (l1 : Int32) (M : Mem) : RFm yJ3_checkIndex_8e157 cJ3_checkIndex_8e157 3 (some .int) 1 eI (f_J3_checkIndex_8e157 l0 l1 M) [.int l0, .int l1, X] M := by
  refine RFm_of (L := [(0, .int l0), (1, .int l1), (2, X)]) (by decide) rfl (by rcases hX with rfl | rfl <;> exact Nat.le_refl 3) ?_
  rw [f_J3_checkIndex_8e157]
  refine R_iload_n (pc' := 1) (i := 0) (j := 0) (x := l0) dJ3_checkIndex_8e157_0 rfl rfl rfl ?_
  refine R_if_lt (pc' := 4) (tgt := 9) (a := l0) dJ3_checkIndex_8e157_1 (by decide) rfl ?_ ?_
  · exact RF.none
  · refine R_iload_n (pc' := 5) (i := 0) (j := 0) (x := l0) dJ3_checkIndex_8e157_4 rfl rfl rfl ?_
    refine R_iload_n (pc' := 6) (i := 1) (j := 1) (x := l1) dJ3_checkIndex_8e157_5 rfl rfl rfl ?_
    refine R_icmp_lt (pc' := 9) (tgt := 16) (a := l0) (b := l1) dJ3_checkIndex_8e157_6 (by decide) rfl ?_ ?_
    · refine R_iload_n (pc' := 17) (i := 0) (j := 0) (x := l0) dJ3_checkIndex_8e157_16 rfl rfl rfl ?_
      exact R_iret dJ3_checkIndex_8e157_17
    · exact RF.none
/-! java/lang/String.coder()B -/
def f_J0_coder_7d493_J14 (this : UInt32) (s0 : Int32) (M : Mem) : Option (Int32 × Mem) :=
  ckN .byte s0 (some (s0, M))
set_option maxHeartbeats 2000000 in
set_option maxRecDepth 20000 in
theorem rf_J0_coder_7d493_J14 (this : UInt32) (s0 : Int32) (M : Mem) : RF yJ0_coder_7d493 cJ0_coder_7d493 1 (some .byte) 1 eI (f_J0_coder_7d493_J14 this s0 M) 14 [] [.int s0] M := by
  rw [f_J0_coder_7d493_J14]
  exact R_zret dJ0_coder_7d493_14
def f_J0_coder_7d493 (this : UInt32) (M : Mem) : Option (Int32 × Mem) :=
  (if (nI 1) = 0 then
    (f_J0_coder_7d493_J14 this (nI 1) M)
  else
    (kT this (f_J0_coder_7d493_J14 this (nI 0) M)))
set_option maxHeartbeats 2000000 in
set_option maxRecDepth 20000 in
theorem rm_J0_coder_7d493 (this : UInt32) (M : Mem) : RFm yJ0_coder_7d493 cJ0_coder_7d493 1 (some .byte) 1 eI (f_J0_coder_7d493 this M) [.float this] M := by
  refine RFm_of (L := [(0, .float this)]) (by decide) rfl (Nat.le_trans (c_C c_0) (by decide)) ?_
  rw [f_J0_coder_7d493]
  refine R_kcompact (pc' := 3) kf_J0_38 dJ0_coder_7d493_0 rfl ?_
  refine R_if_eq (pc' := 6) (tgt := 13) (a := (nI 1)) dJ0_coder_7d493_3 (by decide) rfl ?_ ?_
  · refine R_iconst (pc' := 14) (x := (nI 1)) dJ0_coder_7d493_13 rfl (by decide) ?_
    exact R_sub [] rfl (rf_J0_coder_7d493_J14 this (nI 1) M)
  · refine R_aloadc_n (pc' := 7) (i := 0) (j := 0) (u := this) dJ0_coder_7d493_6 rfl rfl rfl ?_
    refine R_kcoder (pc' := 10) (u := this) kf_J0_15 dJ0_coder_7d493_7 rfl ?_
    refine R_goto (tgt := 14) dJ0_coder_7d493_10 (by decide) ?_
    exact R_sub [] rfl (rf_J0_coder_7d493_J14 this (nI 0) M)
/-! java/lang/String.length()I -/
def f_J0_length_8abf5 (this : UInt32) (M : Mem) : Option (Int32 × Mem) :=
  kT this ((kLen (this + 99)).bind fun len1 =>
  kT this (cl (f_J0_coder_7d493 this M) fun r2 M =>
  some ((len1 >>> (r2 &&& 31)), M)))
set_option maxHeartbeats 2000000 in
set_option maxRecDepth 20000 in
theorem rm_J0_length_8abf5 (this : UInt32) (M : Mem) : RFm yJ0_length_8abf5 cJ0_length_8abf5 1 (some .int) 2 eI (f_J0_length_8abf5 this M) [.float this] M := by
  refine RFm_of (L := [(0, .float this)]) (by decide) rfl (Nat.le_trans (c_C c_0) (by decide)) ?_
  rw [f_J0_length_8abf5]
  refine R_aloadc_n (pc' := 1) (i := 0) (j := 0) (u := this) dJ0_length_8abf5_0 rfl rfl rfl ?_
  refine R_kval (pc' := 4) (u := this) kf_J0_9 dJ0_length_8abf5_1 rfl ?_
  refine R_klen (pc' := 5) (w := (this + 99)) dJ0_length_8abf5_4 rfl (fun len1 => ?_)
  refine R_aloadc_n (pc' := 6) (i := 0) (j := 0) (u := this) dJ0_length_8abf5_5 rfl rfl rfl ?_
  refine R_callK_I (pc' := 9) (u := this) (As := []) (rm_J0_coder_7d493 this M) mf_J0_coder_7d493 lk_J0_335 im_J0_coder_7d493 se_J0_coder_7d493 rfl rfl dJ0_length_8abf5_6 rfl (by decide) (Nat.le_trans (c_I c_0) (by decide)) (fun r2 M => ?_)
  refine R_ishr (pc' := 10) (a := len1) (b := r2) dJ0_length_8abf5_9 rfl ?_
  exact R_iret dJ0_length_8abf5_10
/-! java/lang/String.isLatin1()Z -/
def f_J0_isLatin1_aae02_J18 (this : UInt32) (s0 : Int32) (M : Mem) : Option (Int32 × Mem) :=
  ckZ s0 (some (s0, M))
set_option maxHeartbeats 2000000 in
set_option maxRecDepth 20000 in
theorem rf_J0_isLatin1_aae02_J18 (this : UInt32) (s0 : Int32) (M : Mem) : RF yJ0_isLatin1_aae02 cJ0_isLatin1_aae02 1 (some .boolean) 1 eI (f_J0_isLatin1_aae02_J18 this s0 M) 18 [] [.int s0] M := by
  rw [f_J0_isLatin1_aae02_J18]
  exact R_bret dJ0_isLatin1_aae02_18
def f_J0_isLatin1_aae02_J17 (this : UInt32) (M : Mem) : Option (Int32 × Mem) :=
  f_J0_isLatin1_aae02_J18 this (nI 0) M
set_option maxHeartbeats 2000000 in
set_option maxRecDepth 20000 in
theorem rf_J0_isLatin1_aae02_J17 (this : UInt32) (M : Mem) : RF yJ0_isLatin1_aae02 cJ0_isLatin1_aae02 1 (some .boolean) 1 eI (f_J0_isLatin1_aae02_J17 this M) 17 [] [] M := by
  rw [f_J0_isLatin1_aae02_J17]
  refine R_iconst (pc' := 18) (x := (nI 0)) dJ0_isLatin1_aae02_17 rfl (by decide) ?_
  exact R_sub [] rfl (rf_J0_isLatin1_aae02_J18 this (nI 0) M)
def f_J0_isLatin1_aae02 (this : UInt32) (M : Mem) : Option (Int32 × Mem) :=
  (if (nI 1) = 0 then
    (f_J0_isLatin1_aae02_J17 this M)
  else
    (kT this ((if (nI 0) = 0 then
      (f_J0_isLatin1_aae02_J18 this (nI 1) M)
    else
      (f_J0_isLatin1_aae02_J17 this M)))))
set_option maxHeartbeats 2000000 in
set_option maxRecDepth 20000 in
theorem rm_J0_isLatin1_aae02 (this : UInt32) (M : Mem) : RFm yJ0_isLatin1_aae02 cJ0_isLatin1_aae02 1 (some .boolean) 1 eI (f_J0_isLatin1_aae02 this M) [.float this] M := by
  refine RFm_of (L := [(0, .float this)]) (by decide) rfl (Nat.le_trans (c_C c_0) (by decide)) ?_
  rw [f_J0_isLatin1_aae02]
  refine R_kcompact (pc' := 3) kf_J0_38 dJ0_isLatin1_aae02_0 rfl ?_
  refine R_if_eq (pc' := 6) (tgt := 17) (a := (nI 1)) dJ0_isLatin1_aae02_3 (by decide) rfl ?_ ?_
  · exact R_sub [] rfl (rf_J0_isLatin1_aae02_J17 this M)
  · refine R_aloadc_n (pc' := 7) (i := 0) (j := 0) (u := this) dJ0_isLatin1_aae02_6 rfl rfl rfl ?_
    refine R_kcoder (pc' := 10) (u := this) kf_J0_15 dJ0_isLatin1_aae02_7 rfl ?_
    refine R_if_ne (pc' := 13) (tgt := 17) (a := (nI 0)) dJ0_isLatin1_aae02_10 (by decide) rfl ?_ ?_
    · exact R_sub [] rfl (rf_J0_isLatin1_aae02_J17 this M)
    · refine R_iconst (pc' := 14) (x := (nI 1)) dJ0_isLatin1_aae02_13 rfl (by decide) ?_
      refine R_goto (tgt := 18) dJ0_isLatin1_aae02_14 (by decide) ?_
      exact R_sub [] rfl (rf_J0_isLatin1_aae02_J18 this (nI 1) M)
/-! java/lang/String.checkIndex(II)V -/
def f_J0_checkIndex_df160 (l0 : Int32) (l1 : Int32) (M : Mem) : Option (Unit × Mem) :=
  cl (f_J3_checkIndex_8e157 l0 l1 M) fun r1 M =>
  some ((), M)
set_option maxHeartbeats 2000000 in
set_option maxRecDepth 20000 in
theorem rm_J0_checkIndex_df160 (l0 : Int32) (l1 : Int32) (M : Mem) : RFm yJ0_checkIndex_df160 cJ0_checkIndex_df160 2 none 2 eV (f_J0_checkIndex_df160 l0 l1 M) [.int l0, .int l1] M := by
  refine RFm_of (L := [(0, .int l0), (1, .int l1)]) (by decide) rfl (Nat.le_trans (c_I (c_I c_0)) (by decide)) ?_
  rw [f_J0_checkIndex_df160]
  refine R_iload_n (pc' := 1) (i := 0) (j := 0) (x := l0) dJ0_checkIndex_df160_0 rfl rfl rfl ?_
  refine R_iload_n (pc' := 2) (i := 1) (j := 1) (x := l1) dJ0_checkIndex_df160_1 rfl rfl rfl ?_
  refine R_kfmt (pc' := 5) kf_J0_1053 dJ0_checkIndex_df160_2 rfl (fun X hX => ?_)
  refine R_callS_I (pc' := 8) (As := [.int l0, .int l1, X]) (rm_J3_checkIndex_8e157 X hX l0 l1 M) mf_J3_checkIndex_8e157 lk_J0_1059 sm_J3_checkIndex_8e157 rfl rfl dJ0_checkIndex_df160_5 rfl (by decide) (Nat.le_trans c_0 (by decide)) (fun r1 M => ?_)
  refine R_pop (pc' := 9) dJ0_checkIndex_df160_8 rfl rfl ?_
  exact R_vret dJ0_checkIndex_df160_9
/-! java/lang/StringLatin1.charAt([BI)C -/
def f_J1_charAt_3b067 (l0 : UInt32) (l1 : Int32) (M : Mem) : Option (Int32 × Mem) :=
  (kLen l0).bind fun len1 =>
  cl (f_J0_checkIndex_df160 l1 len1 M) fun u2 M =>
  (kByte l0 l1).bind fun e3 =>
  ckN .char (Int32.toUInt32 (e3 &&& (nI 255)) % 65536).toInt32 (some ((Int32.toUInt32 (e3 &&& (nI 255)) % 65536).toInt32, M))
set_option maxHeartbeats 2000000 in
set_option maxRecDepth 20000 in
theorem rm_J1_charAt_3b067 (l0 : UInt32) (l1 : Int32) (M : Mem) : RFm yJ1_charAt_3b067 cJ1_charAt_3b067 2 (some .char) 3 eI (f_J1_charAt_3b067 l0 l1 M) [.float l0, .int l1] M := by
  refine RFm_of (L := [(0, .float l0), (1, .int l1)]) (by decide) rfl (Nat.le_trans (c_C (c_I c_0)) (by decide)) ?_
  rw [f_J1_charAt_3b067]
  refine R_iload_n (pc' := 1) (i := 1) (j := 1) (x := l1) dJ1_charAt_3b067_0 rfl rfl rfl ?_
  refine R_aloadc_n (pc' := 2) (i := 0) (j := 0) (u := l0) dJ1_charAt_3b067_1 rfl rfl rfl ?_
  refine R_klen (pc' := 3) (w := l0) dJ1_charAt_3b067_2 rfl (fun len1 => ?_)
  refine R_callS_V (pc' := 6) (As := [.int l1, .int len1]) (rm_J0_checkIndex_df160 l1 len1 M) mf_J0_checkIndex_df160 lk_J1_9 sm_J0_checkIndex_df160 rfl rfl dJ1_charAt_3b067_3 rfl (by decide) (Nat.le_trans c_0 (by decide)) (fun u2 M => ?_)
  refine R_aloadc_n (pc' := 7) (i := 0) (j := 0) (u := l0) dJ1_charAt_3b067_6 rfl rfl rfl ?_
  refine R_iload_n (pc' := 8) (i := 1) (j := 1) (x := l1) dJ1_charAt_3b067_7 rfl rfl rfl ?_
  refine R_kbyte (pc' := 9) (w := l0) (i := l1) dJ1_charAt_3b067_8 rfl (fun e3 => ?_)
  refine R_sipush (pc' := 12) (x := (nI 255)) dJ1_charAt_3b067_9 rfl (by decide) ?_
  refine R_iand (pc' := 13) (a := e3) (b := (nI 255)) dJ1_charAt_3b067_12 rfl ?_
  refine R_i2c (pc' := 14) (a := (e3 &&& (nI 255))) dJ1_charAt_3b067_13 rfl ?_
  exact R_zret dJ1_charAt_3b067_14
/-! java/lang/String.charAt(I)C -/
def f_J0_charAt_5068e (this : UInt32) (l1 : Int32) (M : Mem) : Option (Int32 × Mem) :=
  kT this (cl (f_J0_isLatin1_aae02 this M) fun r1 M =>
  (if r1 = 0 then
    (kT this (none))
  else
    (kT this (cl (f_J1_charAt_3b067 (this + 99) l1 M) fun r2 M =>
    ckN .char r2 (some (r2, M))))))
set_option maxHeartbeats 2000000 in
set_option maxRecDepth 20000 in
theorem rm_J0_charAt_5068e (this : UInt32) (l1 : Int32) (M : Mem) : RFm yJ0_charAt_5068e cJ0_charAt_5068e 2 (some .char) 4 eI (f_J0_charAt_5068e this l1 M) [.float this, .int l1] M := by
  refine RFm_of (L := [(0, .float this), (1, .int l1)]) (by decide) rfl (Nat.le_trans (c_C (c_I c_0)) (by decide)) ?_
  rw [f_J0_charAt_5068e]
  refine R_aloadc_n (pc' := 1) (i := 0) (j := 0) (u := this) dJ0_charAt_5068e_0 rfl rfl rfl ?_
  refine R_callK_I (pc' := 4) (u := this) (As := []) (rm_J0_isLatin1_aae02 this M) mf_J0_isLatin1_aae02 lk_J0_492 im_J0_isLatin1_aae02 se_J0_isLatin1_aae02 rfl rfl dJ0_charAt_5068e_1 rfl (by decide) (Nat.le_trans c_0 (by decide)) (fun r1 M => ?_)
  refine R_if_eq (pc' := 7) (tgt := 16) (a := r1) dJ0_charAt_5068e_4 (by decide) rfl ?_ ?_
  · refine R_aloadc_n (pc' := 17) (i := 0) (j := 0) (u := this) dJ0_charAt_5068e_16 rfl rfl rfl ?_
    refine R_kval (pc' := 20) (u := this) kf_J0_9 dJ0_charAt_5068e_17 rfl ?_
    refine R_iload_n (pc' := 21) (i := 1) (j := 1) (x := l1) dJ0_charAt_5068e_20 rfl rfl rfl ?_
    exact RF.none
  · refine R_aloadc_n (pc' := 8) (i := 0) (j := 0) (u := this) dJ0_charAt_5068e_7 rfl rfl rfl ?_
    refine R_kval (pc' := 11) (u := this) kf_J0_9 dJ0_charAt_5068e_8 rfl ?_
    refine R_iload_n (pc' := 12) (i := 1) (j := 1) (x := l1) dJ0_charAt_5068e_11 rfl rfl rfl ?_
    refine R_callS_I (pc' := 15) (As := [.float (this + 99), .int l1]) (rm_J1_charAt_3b067 (this + 99) l1 M) mf_J1_charAt_3b067 lk_J0_495 sm_J1_charAt_3b067 rfl rfl dJ0_charAt_5068e_12 rfl (by decide) (Nat.le_trans c_0 (by decide)) (fun r2 M => ?_)
    exact R_zret dJ0_charAt_5068e_15
/-! BarPilot$Tape.<init>()V -/
def f_X7_init (this : Nat) (M : Mem) : Option (Unit × Mem) :=
  newA M 0 (nI 400) fun a1 M =>
  (pR M 7 0 (some this) (some a1)).bind fun M =>
  some ((), M)
set_option maxHeartbeats 2000000 in
set_option maxRecDepth 20000 in
theorem rm_X7_init (this : Nat) (M : Mem) : RFm yX7_init cX7_init 1 none 1 eV (f_X7_init this M) [va_rf (some this)] M := by
  refine RFm_of (L := [(0, va_rf (some this))]) (by decide) rfl (Nat.le_trans (c_R c_0) (by decide)) ?_
  rw [f_X7_init]
  refine R_aloadq_n (pc' := 1) (i := 0) (j := 0) (q := (some this)) dX7_init_0 rfl rfl rfl ?_
  refine R_objInit (pc' := 4) (a := this) lko_X7_3 ob_in ob_co dX7_init_1 rfl (by decide) (Nat.le_trans c_0 (by decide)) ?_
  refine R_aloadq_n (pc' := 5) (i := 0) (j := 0) (q := (some this)) dX7_init_4 rfl rfl rfl ?_
  refine R_sipush (pc' := 8) (x := (nI 400)) dX7_init_5 rfl (by decide) ?_
  refine R_newa (pc' := 10) (at0 := .int) (ty := .int) (t := 0) (n := (nI 400)) rfl rfl (by decide) ac_int (by decide) rfl dX7_init_8 rfl (fun a1 M => ?_)
  refine R_putR (pc' := 13) (q := (some this)) (x := (some a1)) fl_X7_9 rfl (Or.inr ⟨rfl, rfl⟩) dX7_init_10 rfl (fun M => ?_)
  exact R_vret dX7_init_13
/-! BarPilot$Tape.put(I)V -/
def f_X7_put_J49 (this : Nat) (M : Mem) : Option (Unit × Mem) :=
  some ((), M)
set_option maxHeartbeats 2000000 in
set_option maxRecDepth 20000 in
theorem rf_X7_put_J49 (this : Nat) (M : Mem) : RF yX7_put cX7_put 3 none 1 eV (f_X7_put_J49 this M) 49 [] [] M := by
  rw [f_X7_put_J49]
  exact R_vret dX7_put_49
def f_X7_put_L3 (this : Nat) : Nat → Int32 → Int32 → Mem → Option (Unit × Mem)
  | 0, _, _, _ => none
  | n + 1, l1, l2, M =>
    (if l2 < 0 then
      (f_X7_put_J49 this M)
    else
      ((gI M 7 1 (some this)).bind fun length1 =>
      (if (nI 400) ≤ length1 then
        (f_X7_put_J49 this M)
      else
        ((gR M 7 0 (some this)).bind fun bytes2 =>
        (gI M 7 1 (some this)).bind fun length3 =>
        (wI M 0 bytes2 length3 ((l1 >>> (l2 &&& 31)) &&& (nI 255))).bind fun M =>
        (gI M 7 1 (some this)).bind fun length4 =>
        (pI M 7 1 (some this) (length4 + (nI 1))).bind fun M =>
        (f_X7_put_L3 this n) l1 (l2 + (-8 : Int32)) M))))
set_option maxHeartbeats 2000000 in
set_option maxRecDepth 20000 in
theorem rf_X7_put_L3 (this : Nat) : ∀ (n : Nat) (l1 : Int32) (l2 : Int32) (M : Mem), RF yX7_put cX7_put 3 none 1 eV (f_X7_put_L3 this n l1 l2 M) 3 [(0, va_rf (some this)), (1, .int l1), (2, .int l2)] [] M := by
  intro n
  induction n with
  | zero => intro _ _ _; exact RF.none
  | succ n ih =>
    intro l1 l2 M
    rw [f_X7_put_L3]
    refine R_iload_n (pc' := 4) (i := 2) (j := 2) (x := l2) dX7_put_3 rfl rfl rfl ?_
    refine R_if_lt (pc' := 7) (tgt := 49) (a := l2) dX7_put_4 (by decide) rfl ?_ ?_
    · exact R_sub [] rfl (rf_X7_put_J49 this M)
    · refine R_aloadq_n (pc' := 8) (i := 0) (j := 0) (q := (some this)) dX7_put_7 rfl rfl rfl ?_
      refine R_getI (pc' := 11) (q := (some this)) fl_X7_15 rfl dX7_put_8 rfl (fun length1 => ?_)
      refine R_sipush (pc' := 14) (x := (nI 400)) dX7_put_11 rfl (by decide) ?_
      refine R_icmp_ge (pc' := 17) (tgt := 49) (a := length1) (b := (nI 400)) dX7_put_14 (by decide) rfl ?_ ?_
      · exact R_sub [] rfl (rf_X7_put_J49 this M)
      · refine R_aloadq_n (pc' := 18) (i := 0) (j := 0) (q := (some this)) dX7_put_17 rfl rfl rfl ?_
        refine R_getR (pc' := 21) (q := (some this)) fl_X7_9 rfl dX7_put_18 rfl (fun bytes2 => ?_)
        refine R_aloadq_n (pc' := 22) (i := 0) (j := 0) (q := (some this)) dX7_put_21 rfl rfl rfl ?_
        refine R_getI (pc' := 25) (q := (some this)) fl_X7_15 rfl dX7_put_22 rfl (fun length3 => ?_)
        refine R_iload_n (pc' := 26) (i := 1) (j := 1) (x := l1) dX7_put_25 rfl rfl rfl ?_
        refine R_iload_n (pc' := 27) (i := 2) (j := 2) (x := l2) dX7_put_26 rfl rfl rfl ?_
        refine R_ishr (pc' := 28) (a := l1) (b := l2) dX7_put_27 rfl ?_
        refine R_sipush (pc' := 31) (x := (nI 255)) dX7_put_28 rfl (by decide) ?_
        refine R_iand (pc' := 32) (a := (l1 >>> (l2 &&& 31))) (b := (nI 255)) dX7_put_31 rfl ?_
        refine R_iast (pc' := 33) (q := bytes2) (i := length3) (x := ((l1 >>> (l2 &&& 31)) &&& (nI 255))) dX7_put_32 rfl (fun M => ?_)
        refine R_aloadq_n (pc' := 34) (i := 0) (j := 0) (q := (some this)) dX7_put_33 rfl rfl rfl ?_
        refine R_dup (pc' := 35) dX7_put_34 rfl (rf_cat _) ?_
        refine R_getI (pc' := 38) (q := (some this)) fl_X7_15 rfl dX7_put_35 rfl (fun length4 => ?_)
        refine R_iconst (pc' := 39) (x := (nI 1)) dX7_put_38 rfl (by decide) ?_
        refine R_iadd (pc' := 40) (a := length4) (b := (nI 1)) dX7_put_39 rfl ?_
        refine R_putI (pc' := 43) (q := (some this)) (x := (length4 + (nI 1))) fl_X7_15 (Or.inl rfl) dX7_put_40 rfl (fun M => ?_)
        refine R_iinc (pc' := 46) (L' := [(2, .int (l2 + (-8 : Int32))), (0, va_rf (some this)), (1, .int l1)]) (i := 2) (j := 2) (x := l2) (x2 := (l2 + (-8 : Int32))) dX7_put_43 rfl rfl rfl (by decide) rfl ?_
        refine R_goto (tgt := 3) dX7_put_46 (by decide) ?_
        exact R_sub [1, 2, 0] rfl (ih l1 (l2 + (-8 : Int32)) M)
def f_X7_put (this : Nat) (l1 : Int32) (M : Mem) : Option (Unit × Mem) :=
  f_X7_put_L3 this FU l1 (nI 24) M
set_option maxHeartbeats 2000000 in
set_option maxRecDepth 20000 in
theorem rm_X7_put (this : Nat) (l1 : Int32) (M : Mem) : RFm yX7_put cX7_put 3 none 1 eV (f_X7_put this l1 M) [va_rf (some this), .int l1] M := by
  refine RFm_of (L := [(0, va_rf (some this)), (1, .int l1)]) (by decide) rfl (Nat.le_trans (c_R (c_I c_0)) (by decide)) ?_
  rw [f_X7_put]
  refine R_bipush (pc' := 2) (x := (nI 24)) dX7_put_0 rfl (by decide) ?_
  refine R_istore_n (pc' := 3) (L' := [(2, .int (nI 24)), (0, va_rf (some this)), (1, .int l1)]) (i := 2) (x := (nI 24)) dX7_put_2 rfl rfl (by decide) rfl ?_
  exact R_sub [1, 2, 0] rfl (rf_X7_put_L3 this FU l1 (nI 24) M)
/-! BarPilot$Tape.next()V -/
def f_X7_next_J381 (this : Nat) (M : Mem) : Option (Unit × Mem) :=
  some ((), M)
set_option maxHeartbeats 2000000 in
set_option maxRecDepth 20000 in
theorem rf_X7_next_J381 (this : Nat) (M : Mem) : RF yX7_next cX7_next 1 none 1 eV (f_X7_next_J381 this M) 381 [] [] M := by
  rw [f_X7_next_J381]
  exact R_vret dX7_next_381
def f_X7_next_J334 (this : Nat) (M : Mem) : Option (Unit × Mem) :=
  (gI M 7 8 (some this)).bind fun stop1 =>
  (gI M 7 1 (some this)).bind fun length2 =>
  (if length2 ≤ stop1 then
    (f_X7_next_J381 this M)
  else
    ((gR M 7 0 (some this)).bind fun bytes3 =>
    (gI M 7 8 (some this)).bind fun stop4 =>
    (aI M 0 bytes3 stop4).bind fun e5 =>
    (if e5 = (nI 61) then
      ((gI M 7 7 (some this)).bind fun sign6 =>
      (pI M 7 7 (some this) (sign6 + (nI 256))).bind fun M =>
      (gI M 7 8 (some this)).bind fun stop7 =>
      (pI M 7 8 (some this) (stop7 + (nI 1))).bind fun M =>
      f_X7_next_J381 this M)
    else
      (f_X7_next_J381 this M))))
set_option maxHeartbeats 2000000 in
set_option maxRecDepth 20000 in
theorem rf_X7_next_J334 (this : Nat) (M : Mem) : RF yX7_next cX7_next 1 none 1 eV (f_X7_next_J334 this M) 334 [(0, va_rf (some this))] [] M := by
  rw [f_X7_next_J334]
  refine R_aloadq_n (pc' := 335) (i := 0) (j := 0) (q := (some this)) dX7_next_334 rfl rfl rfl ?_
  refine R_getI (pc' := 338) (q := (some this)) fl_X7_19 rfl dX7_next_335 rfl (fun stop1 => ?_)
  refine R_aloadq_n (pc' := 339) (i := 0) (j := 0) (q := (some this)) dX7_next_338 rfl rfl rfl ?_
  refine R_getI (pc' := 342) (q := (some this)) fl_X7_15 rfl dX7_next_339 rfl (fun length2 => ?_)
  refine R_icmp_ge (pc' := 345) (tgt := 381) (a := stop1) (b := length2) dX7_next_342 (by decide) rfl ?_ ?_
  · exact R_sub [] rfl (rf_X7_next_J381 this M)
  · refine R_aloadq_n (pc' := 346) (i := 0) (j := 0) (q := (some this)) dX7_next_345 rfl rfl rfl ?_
    refine R_getR (pc' := 349) (q := (some this)) fl_X7_9 rfl dX7_next_346 rfl (fun bytes3 => ?_)
    refine R_aloadq_n (pc' := 350) (i := 0) (j := 0) (q := (some this)) dX7_next_349 rfl rfl rfl ?_
    refine R_getI (pc' := 353) (q := (some this)) fl_X7_19 rfl dX7_next_350 rfl (fun stop4 => ?_)
    refine R_iald (pc' := 354) (q := bytes3) (i := stop4) dX7_next_353 rfl (fun e5 => ?_)
    refine R_bipush (pc' := 356) (x := (nI 61)) dX7_next_354 rfl (by decide) ?_
    refine R_icmp_ne (pc' := 359) (tgt := 381) (a := e5) (b := (nI 61)) dX7_next_356 (by decide) rfl ?_ ?_
    · exact R_sub [] rfl (rf_X7_next_J381 this M)
    · refine R_aloadq_n (pc' := 360) (i := 0) (j := 0) (q := (some this)) dX7_next_359 rfl rfl rfl ?_
      refine R_dup (pc' := 361) dX7_next_360 rfl (rf_cat _) ?_
      refine R_getI (pc' := 364) (q := (some this)) fl_X7_41 rfl dX7_next_361 rfl (fun sign6 => ?_)
      refine R_sipush (pc' := 367) (x := (nI 256)) dX7_next_364 rfl (by decide) ?_
      refine R_iadd (pc' := 368) (a := sign6) (b := (nI 256)) dX7_next_367 rfl ?_
      refine R_putI (pc' := 371) (q := (some this)) (x := (sign6 + (nI 256))) fl_X7_41 (Or.inl rfl) dX7_next_368 rfl (fun M => ?_)
      refine R_aloadq_n (pc' := 372) (i := 0) (j := 0) (q := (some this)) dX7_next_371 rfl rfl rfl ?_
      refine R_dup (pc' := 373) dX7_next_372 rfl (rf_cat _) ?_
      refine R_getI (pc' := 376) (q := (some this)) fl_X7_19 rfl dX7_next_373 rfl (fun stop7 => ?_)
      refine R_iconst (pc' := 377) (x := (nI 1)) dX7_next_376 rfl (by decide) ?_
      refine R_iadd (pc' := 378) (a := stop7) (b := (nI 1)) dX7_next_377 rfl ?_
      refine R_putI (pc' := 381) (q := (some this)) (x := (stop7 + (nI 1))) fl_X7_19 (Or.inl rfl) dX7_next_378 rfl (fun M => ?_)
      exact R_sub [] rfl (rf_X7_next_J381 this M)
def f_X7_next_J270 (this : Nat) (M : Mem) : Option (Unit × Mem) :=
  (gI M 7 3 (some this)).bind fun kind1 =>
  (if kind1 = 0 then
    ((gI M 7 8 (some this)).bind fun stop2 =>
    (gI M 7 1 (some this)).bind fun length3 =>
    (if length3 ≤ stop2 then
      (f_X7_next_J381 this M)
    else
      ((pI M 7 3 (some this) (nI 3)).bind fun M =>
      (gR M 7 0 (some this)).bind fun bytes4 =>
      (gI M 7 8 (some this)).bind fun stop5 =>
      (aI M 0 bytes4 stop5).bind fun e6 =>
      (pI M 7 7 (some this) e6).bind fun M =>
      (gI M 7 8 (some this)).bind fun stop7 =>
      (pI M 7 8 (some this) (stop7 + (nI 1))).bind fun M =>
      (gI M 7 7 (some this)).bind fun sign8 =>
      (if sign8 = (nI 60) then
        (f_X7_next_J334 this M)
      else
        ((gI M 7 7 (some this)).bind fun sign9 =>
        (if sign9 = (nI 62) then
          (f_X7_next_J334 this M)
        else
          (f_X7_next_J381 this M)))))))
  else
    (f_X7_next_J381 this M))
set_option maxHeartbeats 2000000 in
set_option maxRecDepth 20000 in
theorem rf_X7_next_J270 (this : Nat) (M : Mem) : RF yX7_next cX7_next 1 none 1 eV (f_X7_next_J270 this M) 270 [(0, va_rf (some this))] [] M := by
  rw [f_X7_next_J270]
  refine R_aloadq_n (pc' := 271) (i := 0) (j := 0) (q := (some this)) dX7_next_270 rfl rfl rfl ?_
  refine R_getI (pc' := 274) (q := (some this)) fl_X7_28 rfl dX7_next_271 rfl (fun kind1 => ?_)
  refine R_if_ne (pc' := 277) (tgt := 381) (a := kind1) dX7_next_274 (by decide) rfl ?_ ?_
  · exact R_sub [] rfl (rf_X7_next_J381 this M)
  · refine R_aloadq_n (pc' := 278) (i := 0) (j := 0) (q := (some this)) dX7_next_277 rfl rfl rfl ?_
    refine R_getI (pc' := 281) (q := (some this)) fl_X7_19 rfl dX7_next_278 rfl (fun stop2 => ?_)
    refine R_aloadq_n (pc' := 282) (i := 0) (j := 0) (q := (some this)) dX7_next_281 rfl rfl rfl ?_
    refine R_getI (pc' := 285) (q := (some this)) fl_X7_15 rfl dX7_next_282 rfl (fun length3 => ?_)
    refine R_icmp_ge (pc' := 288) (tgt := 381) (a := stop2) (b := length3) dX7_next_285 (by decide) rfl ?_ ?_
    · exact R_sub [] rfl (rf_X7_next_J381 this M)
    · refine R_aloadq_n (pc' := 289) (i := 0) (j := 0) (q := (some this)) dX7_next_288 rfl rfl rfl ?_
      refine R_iconst (pc' := 290) (x := (nI 3)) dX7_next_289 rfl (by decide) ?_
      refine R_putI (pc' := 293) (q := (some this)) (x := (nI 3)) fl_X7_28 (Or.inl rfl) dX7_next_290 rfl (fun M => ?_)
      refine R_aloadq_n (pc' := 294) (i := 0) (j := 0) (q := (some this)) dX7_next_293 rfl rfl rfl ?_
      refine R_aloadq_n (pc' := 295) (i := 0) (j := 0) (q := (some this)) dX7_next_294 rfl rfl rfl ?_
      refine R_getR (pc' := 298) (q := (some this)) fl_X7_9 rfl dX7_next_295 rfl (fun bytes4 => ?_)
      refine R_aloadq_n (pc' := 299) (i := 0) (j := 0) (q := (some this)) dX7_next_298 rfl rfl rfl ?_
      refine R_getI (pc' := 302) (q := (some this)) fl_X7_19 rfl dX7_next_299 rfl (fun stop5 => ?_)
      refine R_iald (pc' := 303) (q := bytes4) (i := stop5) dX7_next_302 rfl (fun e6 => ?_)
      refine R_putI (pc' := 306) (q := (some this)) (x := e6) fl_X7_41 (Or.inl rfl) dX7_next_303 rfl (fun M => ?_)
      refine R_aloadq_n (pc' := 307) (i := 0) (j := 0) (q := (some this)) dX7_next_306 rfl rfl rfl ?_
      refine R_dup (pc' := 308) dX7_next_307 rfl (rf_cat _) ?_
      refine R_getI (pc' := 311) (q := (some this)) fl_X7_19 rfl dX7_next_308 rfl (fun stop7 => ?_)
      refine R_iconst (pc' := 312) (x := (nI 1)) dX7_next_311 rfl (by decide) ?_
      refine R_iadd (pc' := 313) (a := stop7) (b := (nI 1)) dX7_next_312 rfl ?_
      refine R_putI (pc' := 316) (q := (some this)) (x := (stop7 + (nI 1))) fl_X7_19 (Or.inl rfl) dX7_next_313 rfl (fun M => ?_)
      refine R_aloadq_n (pc' := 317) (i := 0) (j := 0) (q := (some this)) dX7_next_316 rfl rfl rfl ?_
      refine R_getI (pc' := 320) (q := (some this)) fl_X7_41 rfl dX7_next_317 rfl (fun sign8 => ?_)
      refine R_bipush (pc' := 322) (x := (nI 60)) dX7_next_320 rfl (by decide) ?_
      refine R_icmp_eq (pc' := 325) (tgt := 334) (a := sign8) (b := (nI 60)) dX7_next_322 (by decide) rfl ?_ ?_
      · exact R_sub [0] rfl (rf_X7_next_J334 this M)
      · refine R_aloadq_n (pc' := 326) (i := 0) (j := 0) (q := (some this)) dX7_next_325 rfl rfl rfl ?_
        refine R_getI (pc' := 329) (q := (some this)) fl_X7_41 rfl dX7_next_326 rfl (fun sign9 => ?_)
        refine R_bipush (pc' := 331) (x := (nI 62)) dX7_next_329 rfl (by decide) ?_
        refine R_icmp_ne (pc' := 334) (tgt := 381) (a := sign9) (b := (nI 62)) dX7_next_331 (by decide) rfl ?_ ?_
        · exact R_sub [] rfl (rf_X7_next_J381 this M)
        · exact R_sub [0] rfl (rf_X7_next_J334 this M)
def f_X7_next_J254 (k165 : Mem → Option (Unit × Mem)) (this : Nat) (s0 : Int64) (s1 : Option Nat) (M : Mem) : Option (Unit × Mem) :=
  (pL M 7 6 s1 s0).bind fun M =>
  (gI M 7 8 (some this)).bind fun stop1 =>
  (pI M 7 8 (some this) (stop1 + (nI 1))).bind fun M =>
  k165 M
set_option maxHeartbeats 2000000 in
set_option maxRecDepth 20000 in
theorem rf_X7_next_J254 (this : Nat) (k165 : Mem → Option (Unit × Mem)) (hk165 : ∀ (M : Mem), RF yX7_next cX7_next 1 none 1 eV (k165 M) 165 [(0, va_rf (some this))] [] M) (s0 : Int64) (s1 : Option Nat) (M : Mem) : RF yX7_next cX7_next 1 none 1 eV (f_X7_next_J254 k165 this s0 s1 M) 254 [(0, va_rf (some this))] [.long s0, va_rf s1] M := by
  rw [f_X7_next_J254]
  refine R_putL (pc' := 257) (q := s1) (x := s0) fl_X7_37 (Or.inl rfl) dX7_next_254 rfl (fun M => ?_)
  refine R_aloadq_n (pc' := 258) (i := 0) (j := 0) (q := (some this)) dX7_next_257 rfl rfl rfl ?_
  refine R_dup (pc' := 259) dX7_next_258 rfl (rf_cat _) ?_
  refine R_getI (pc' := 262) (q := (some this)) fl_X7_19 rfl dX7_next_259 rfl (fun stop1 => ?_)
  refine R_iconst (pc' := 263) (x := (nI 1)) dX7_next_262 rfl (by decide) ?_
  refine R_iadd (pc' := 264) (a := stop1) (b := (nI 1)) dX7_next_263 rfl ?_
  refine R_putI (pc' := 267) (q := (some this)) (x := (stop1 + (nI 1))) fl_X7_19 (Or.inl rfl) dX7_next_264 rfl (fun M => ?_)
  refine R_goto (tgt := 165) dX7_next_267 (by decide) ?_
  exact R_sub [0] rfl (hk165 M)
def f_X7_next_L165 (this : Nat) : Nat → Mem → Option (Unit × Mem)
  | 0, _ => none
  | n + 1, M =>
    (gI M 7 3 (some this)).bind fun kind1 =>
    (if kind1 = (nI 1) then
      (f_X7_next_J270 this M)
    else
      ((gI M 7 8 (some this)).bind fun stop2 =>
      (gI M 7 1 (some this)).bind fun length3 =>
      (if length3 ≤ stop2 then
        (f_X7_next_J270 this M)
      else
        ((gR M 7 0 (some this)).bind fun bytes4 =>
        (gI M 7 8 (some this)).bind fun stop5 =>
        (aI M 0 bytes4 stop5).bind fun e6 =>
        (if e6 < (nI 97) then
          (f_X7_next_J270 this M)
        else
          ((gR M 7 0 (some this)).bind fun bytes7 =>
          (gI M 7 8 (some this)).bind fun stop8 =>
          (aI M 0 bytes7 stop8).bind fun e9 =>
          (if (nI 122) < e9 then
            (f_X7_next_J270 this M)
          else
            ((pI M 7 3 (some this) (nI 2)).bind fun M =>
            (gI M 7 8 (some this)).bind fun stop10 =>
            (gI M 7 4 (some this)).bind fun start11 =>
            (if (nI 7) ≤ (stop10 - start11) then
              (f_X7_next_J254 (f_X7_next_L165 this n) this (0 : Int64) (some this) M)
            else
              ((gL M 7 6 (some this)).bind fun word12 =>
              (gR M 7 0 (some this)).bind fun bytes13 =>
              (gI M 7 8 (some this)).bind fun stop14 =>
              (aI M 0 bytes13 stop14).bind fun e15 =>
              f_X7_next_J254 (f_X7_next_L165 this n) this ((word12 <<< (Int32.toInt64 (nI 8) &&& 63)) ||| (Int32.toInt64 e15)) (some this) M))))))))))
set_option maxHeartbeats 2000000 in
set_option maxRecDepth 20000 in
theorem rf_X7_next_L165 (this : Nat) : ∀ (n : Nat) (M : Mem), RF yX7_next cX7_next 1 none 1 eV (f_X7_next_L165 this n M) 165 [(0, va_rf (some this))] [] M := by
  intro n
  induction n with
  | zero => intro _; exact RF.none
  | succ n ih =>
    intro M
    rw [f_X7_next_L165]
    refine R_aloadq_n (pc' := 166) (i := 0) (j := 0) (q := (some this)) dX7_next_165 rfl rfl rfl ?_
    refine R_getI (pc' := 169) (q := (some this)) fl_X7_28 rfl dX7_next_166 rfl (fun kind1 => ?_)
    refine R_iconst (pc' := 170) (x := (nI 1)) dX7_next_169 rfl (by decide) ?_
    refine R_icmp_eq (pc' := 173) (tgt := 270) (a := kind1) (b := (nI 1)) dX7_next_170 (by decide) rfl ?_ ?_
    · exact R_sub [0] rfl (rf_X7_next_J270 this M)
    · refine R_aloadq_n (pc' := 174) (i := 0) (j := 0) (q := (some this)) dX7_next_173 rfl rfl rfl ?_
      refine R_getI (pc' := 177) (q := (some this)) fl_X7_19 rfl dX7_next_174 rfl (fun stop2 => ?_)
      refine R_aloadq_n (pc' := 178) (i := 0) (j := 0) (q := (some this)) dX7_next_177 rfl rfl rfl ?_
      refine R_getI (pc' := 181) (q := (some this)) fl_X7_15 rfl dX7_next_178 rfl (fun length3 => ?_)
      refine R_icmp_ge (pc' := 184) (tgt := 270) (a := stop2) (b := length3) dX7_next_181 (by decide) rfl ?_ ?_
      · exact R_sub [0] rfl (rf_X7_next_J270 this M)
      · refine R_aloadq_n (pc' := 185) (i := 0) (j := 0) (q := (some this)) dX7_next_184 rfl rfl rfl ?_
        refine R_getR (pc' := 188) (q := (some this)) fl_X7_9 rfl dX7_next_185 rfl (fun bytes4 => ?_)
        refine R_aloadq_n (pc' := 189) (i := 0) (j := 0) (q := (some this)) dX7_next_188 rfl rfl rfl ?_
        refine R_getI (pc' := 192) (q := (some this)) fl_X7_19 rfl dX7_next_189 rfl (fun stop5 => ?_)
        refine R_iald (pc' := 193) (q := bytes4) (i := stop5) dX7_next_192 rfl (fun e6 => ?_)
        refine R_bipush (pc' := 195) (x := (nI 97)) dX7_next_193 rfl (by decide) ?_
        refine R_icmp_lt (pc' := 198) (tgt := 270) (a := e6) (b := (nI 97)) dX7_next_195 (by decide) rfl ?_ ?_
        · exact R_sub [0] rfl (rf_X7_next_J270 this M)
        · refine R_aloadq_n (pc' := 199) (i := 0) (j := 0) (q := (some this)) dX7_next_198 rfl rfl rfl ?_
          refine R_getR (pc' := 202) (q := (some this)) fl_X7_9 rfl dX7_next_199 rfl (fun bytes7 => ?_)
          refine R_aloadq_n (pc' := 203) (i := 0) (j := 0) (q := (some this)) dX7_next_202 rfl rfl rfl ?_
          refine R_getI (pc' := 206) (q := (some this)) fl_X7_19 rfl dX7_next_203 rfl (fun stop8 => ?_)
          refine R_iald (pc' := 207) (q := bytes7) (i := stop8) dX7_next_206 rfl (fun e9 => ?_)
          refine R_bipush (pc' := 209) (x := (nI 122)) dX7_next_207 rfl (by decide) ?_
          refine R_icmp_gt (pc' := 212) (tgt := 270) (a := e9) (b := (nI 122)) dX7_next_209 (by decide) rfl ?_ ?_
          · exact R_sub [0] rfl (rf_X7_next_J270 this M)
          · refine R_aloadq_n (pc' := 213) (i := 0) (j := 0) (q := (some this)) dX7_next_212 rfl rfl rfl ?_
            refine R_iconst (pc' := 214) (x := (nI 2)) dX7_next_213 rfl (by decide) ?_
            refine R_putI (pc' := 217) (q := (some this)) (x := (nI 2)) fl_X7_28 (Or.inl rfl) dX7_next_214 rfl (fun M => ?_)
            refine R_aloadq_n (pc' := 218) (i := 0) (j := 0) (q := (some this)) dX7_next_217 rfl rfl rfl ?_
            refine R_aloadq_n (pc' := 219) (i := 0) (j := 0) (q := (some this)) dX7_next_218 rfl rfl rfl ?_
            refine R_getI (pc' := 222) (q := (some this)) fl_X7_19 rfl dX7_next_219 rfl (fun stop10 => ?_)
            refine R_aloadq_n (pc' := 223) (i := 0) (j := 0) (q := (some this)) dX7_next_222 rfl rfl rfl ?_
            refine R_getI (pc' := 226) (q := (some this)) fl_X7_31 rfl dX7_next_223 rfl (fun start11 => ?_)
            refine R_isub (pc' := 227) (a := stop10) (b := start11) dX7_next_226 rfl ?_
            refine R_bipush (pc' := 229) (x := (nI 7)) dX7_next_227 rfl (by decide) ?_
            refine R_icmp_ge (pc' := 232) (tgt := 253) (a := (stop10 - start11)) (b := (nI 7)) dX7_next_229 (by decide) rfl ?_ ?_
            · refine R_lconst (pc' := 254) (x := (0 : Int64)) dX7_next_253 rfl (by decide) ?_
              exact R_sub [0] rfl (rf_X7_next_J254 this (f_X7_next_L165 this n) ih (0 : Int64) (some this) M)
            · refine R_aloadq_n (pc' := 233) (i := 0) (j := 0) (q := (some this)) dX7_next_232 rfl rfl rfl ?_
              refine R_getL (pc' := 236) (q := (some this)) fl_X7_37 rfl dX7_next_233 rfl (fun word12 => ?_)
              refine R_bipush (pc' := 238) (x := (nI 8)) dX7_next_236 rfl (by decide) ?_
              refine R_lshl (pc' := 239) (a := word12) (b := (nI 8)) dX7_next_238 rfl ?_
              refine R_aloadq_n (pc' := 240) (i := 0) (j := 0) (q := (some this)) dX7_next_239 rfl rfl rfl ?_
              refine R_getR (pc' := 243) (q := (some this)) fl_X7_9 rfl dX7_next_240 rfl (fun bytes13 => ?_)
              refine R_aloadq_n (pc' := 244) (i := 0) (j := 0) (q := (some this)) dX7_next_243 rfl rfl rfl ?_
              refine R_getI (pc' := 247) (q := (some this)) fl_X7_19 rfl dX7_next_244 rfl (fun stop14 => ?_)
              refine R_iald (pc' := 248) (q := bytes13) (i := stop14) dX7_next_247 rfl (fun e15 => ?_)
              refine R_i2l (pc' := 249) (a := e15) dX7_next_248 rfl ?_
              refine R_lor (pc' := 250) (a := (word12 <<< (Int32.toInt64 (nI 8) &&& 63))) (b := (Int32.toInt64 e15)) dX7_next_249 rfl ?_
              refine R_goto (tgt := 254) dX7_next_250 (by decide) ?_
              exact R_sub [0] rfl (rf_X7_next_J254 this (f_X7_next_L165 this n) ih ((word12 <<< (Int32.toInt64 (nI 8) &&& 63)) ||| (Int32.toInt64 e15)) (some this) M)
def f_X7_next_J149 (k66 : Mem → Option (Unit × Mem)) (this : Nat) (s0 : Int32) (s1 : Option Nat) (M : Mem) : Option (Unit × Mem) :=
  (pI M 7 5 s1 s0).bind fun M =>
  (gI M 7 8 (some this)).bind fun stop1 =>
  (pI M 7 8 (some this) (stop1 + (nI 1))).bind fun M =>
  k66 M
set_option maxHeartbeats 2000000 in
set_option maxRecDepth 20000 in
theorem rf_X7_next_J149 (this : Nat) (k66 : Mem → Option (Unit × Mem)) (hk66 : ∀ (M : Mem), RF yX7_next cX7_next 1 none 1 eV (k66 M) 66 [(0, va_rf (some this))] [] M) (s0 : Int32) (s1 : Option Nat) (M : Mem) : RF yX7_next cX7_next 1 none 1 eV (f_X7_next_J149 k66 this s0 s1 M) 149 [(0, va_rf (some this))] [.int s0, va_rf s1] M := by
  rw [f_X7_next_J149]
  refine R_putI (pc' := 152) (q := s1) (x := s0) fl_X7_34 (Or.inl rfl) dX7_next_149 rfl (fun M => ?_)
  refine R_aloadq_n (pc' := 153) (i := 0) (j := 0) (q := (some this)) dX7_next_152 rfl rfl rfl ?_
  refine R_dup (pc' := 154) dX7_next_153 rfl (rf_cat _) ?_
  refine R_getI (pc' := 157) (q := (some this)) fl_X7_19 rfl dX7_next_154 rfl (fun stop1 => ?_)
  refine R_iconst (pc' := 158) (x := (nI 1)) dX7_next_157 rfl (by decide) ?_
  refine R_iadd (pc' := 159) (a := stop1) (b := (nI 1)) dX7_next_158 rfl ?_
  refine R_putI (pc' := 162) (q := (some this)) (x := (stop1 + (nI 1))) fl_X7_19 (Or.inl rfl) dX7_next_159 rfl (fun M => ?_)
  refine R_goto (tgt := 66) dX7_next_162 (by decide) ?_
  exact R_sub [0] rfl (hk66 M)
def f_X7_next_L66 (this : Nat) : Nat → Mem → Option (Unit × Mem)
  | 0, _ => none
  | n + 1, M =>
    (gI M 7 8 (some this)).bind fun stop1 =>
    (gI M 7 1 (some this)).bind fun length2 =>
    (if length2 ≤ stop1 then
      (f_X7_next_L165 this FU M)
    else
      ((gR M 7 0 (some this)).bind fun bytes3 =>
      (gI M 7 8 (some this)).bind fun stop4 =>
      (aI M 0 bytes3 stop4).bind fun e5 =>
      (if e5 < (nI 48) then
        (f_X7_next_L165 this FU M)
      else
        ((gR M 7 0 (some this)).bind fun bytes6 =>
        (gI M 7 8 (some this)).bind fun stop7 =>
        (aI M 0 bytes6 stop7).bind fun e8 =>
        (if (nI 57) < e8 then
          (f_X7_next_L165 this FU M)
        else
          ((pI M 7 3 (some this) (nI 1)).bind fun M =>
          (gI M 7 8 (some this)).bind fun stop9 =>
          (gI M 7 4 (some this)).bind fun start10 =>
          (if (nI 5) ≤ (stop9 - start10) then
            (f_X7_next_J149 (f_X7_next_L66 this n) this (nI 100000) (some this) M)
          else
            ((gI M 7 5 (some this)).bind fun value11 =>
            (gR M 7 0 (some this)).bind fun bytes12 =>
            (gI M 7 8 (some this)).bind fun stop13 =>
            (aI M 0 bytes12 stop13).bind fun e14 =>
            f_X7_next_J149 (f_X7_next_L66 this n) this ((((nI 10) * value11) + e14) - (nI 48)) (some this) M))))))))
set_option maxHeartbeats 2000000 in
set_option maxRecDepth 20000 in
theorem rf_X7_next_L66 (this : Nat) : ∀ (n : Nat) (M : Mem), RF yX7_next cX7_next 1 none 1 eV (f_X7_next_L66 this n M) 66 [(0, va_rf (some this))] [] M := by
  intro n
  induction n with
  | zero => intro _; exact RF.none
  | succ n ih =>
    intro M
    rw [f_X7_next_L66]
    refine R_aloadq_n (pc' := 67) (i := 0) (j := 0) (q := (some this)) dX7_next_66 rfl rfl rfl ?_
    refine R_getI (pc' := 70) (q := (some this)) fl_X7_19 rfl dX7_next_67 rfl (fun stop1 => ?_)
    refine R_aloadq_n (pc' := 71) (i := 0) (j := 0) (q := (some this)) dX7_next_70 rfl rfl rfl ?_
    refine R_getI (pc' := 74) (q := (some this)) fl_X7_15 rfl dX7_next_71 rfl (fun length2 => ?_)
    refine R_icmp_ge (pc' := 77) (tgt := 165) (a := stop1) (b := length2) dX7_next_74 (by decide) rfl ?_ ?_
    · exact R_sub [0] rfl (rf_X7_next_L165 this FU M)
    · refine R_aloadq_n (pc' := 78) (i := 0) (j := 0) (q := (some this)) dX7_next_77 rfl rfl rfl ?_
      refine R_getR (pc' := 81) (q := (some this)) fl_X7_9 rfl dX7_next_78 rfl (fun bytes3 => ?_)
      refine R_aloadq_n (pc' := 82) (i := 0) (j := 0) (q := (some this)) dX7_next_81 rfl rfl rfl ?_
      refine R_getI (pc' := 85) (q := (some this)) fl_X7_19 rfl dX7_next_82 rfl (fun stop4 => ?_)
      refine R_iald (pc' := 86) (q := bytes3) (i := stop4) dX7_next_85 rfl (fun e5 => ?_)
      refine R_bipush (pc' := 88) (x := (nI 48)) dX7_next_86 rfl (by decide) ?_
      refine R_icmp_lt (pc' := 91) (tgt := 165) (a := e5) (b := (nI 48)) dX7_next_88 (by decide) rfl ?_ ?_
      · exact R_sub [0] rfl (rf_X7_next_L165 this FU M)
      · refine R_aloadq_n (pc' := 92) (i := 0) (j := 0) (q := (some this)) dX7_next_91 rfl rfl rfl ?_
        refine R_getR (pc' := 95) (q := (some this)) fl_X7_9 rfl dX7_next_92 rfl (fun bytes6 => ?_)
        refine R_aloadq_n (pc' := 96) (i := 0) (j := 0) (q := (some this)) dX7_next_95 rfl rfl rfl ?_
        refine R_getI (pc' := 99) (q := (some this)) fl_X7_19 rfl dX7_next_96 rfl (fun stop7 => ?_)
        refine R_iald (pc' := 100) (q := bytes6) (i := stop7) dX7_next_99 rfl (fun e8 => ?_)
        refine R_bipush (pc' := 102) (x := (nI 57)) dX7_next_100 rfl (by decide) ?_
        refine R_icmp_gt (pc' := 105) (tgt := 165) (a := e8) (b := (nI 57)) dX7_next_102 (by decide) rfl ?_ ?_
        · exact R_sub [0] rfl (rf_X7_next_L165 this FU M)
        · refine R_aloadq_n (pc' := 106) (i := 0) (j := 0) (q := (some this)) dX7_next_105 rfl rfl rfl ?_
          refine R_iconst (pc' := 107) (x := (nI 1)) dX7_next_106 rfl (by decide) ?_
          refine R_putI (pc' := 110) (q := (some this)) (x := (nI 1)) fl_X7_28 (Or.inl rfl) dX7_next_107 rfl (fun M => ?_)
          refine R_aloadq_n (pc' := 111) (i := 0) (j := 0) (q := (some this)) dX7_next_110 rfl rfl rfl ?_
          refine R_aloadq_n (pc' := 112) (i := 0) (j := 0) (q := (some this)) dX7_next_111 rfl rfl rfl ?_
          refine R_getI (pc' := 115) (q := (some this)) fl_X7_19 rfl dX7_next_112 rfl (fun stop9 => ?_)
          refine R_aloadq_n (pc' := 116) (i := 0) (j := 0) (q := (some this)) dX7_next_115 rfl rfl rfl ?_
          refine R_getI (pc' := 119) (q := (some this)) fl_X7_31 rfl dX7_next_116 rfl (fun start10 => ?_)
          refine R_isub (pc' := 120) (a := stop9) (b := start10) dX7_next_119 rfl ?_
          refine R_iconst (pc' := 121) (x := (nI 5)) dX7_next_120 rfl (by decide) ?_
          refine R_icmp_ge (pc' := 124) (tgt := 147) (a := (stop9 - start10)) (b := (nI 5)) dX7_next_121 (by decide) rfl ?_ ?_
          · refine R_ldc (pc' := 149) (x := (nI 100000)) dX7_next_147 rfl co_X7_44 ?_
            exact R_sub [0] rfl (rf_X7_next_J149 this (f_X7_next_L66 this n) ih (nI 100000) (some this) M)
          · refine R_bipush (pc' := 126) (x := (nI 10)) dX7_next_124 rfl (by decide) ?_
            refine R_aloadq_n (pc' := 127) (i := 0) (j := 0) (q := (some this)) dX7_next_126 rfl rfl rfl ?_
            refine R_getI (pc' := 130) (q := (some this)) fl_X7_34 rfl dX7_next_127 rfl (fun value11 => ?_)
            refine R_imul (pc' := 131) (a := (nI 10)) (b := value11) dX7_next_130 rfl ?_
            refine R_aloadq_n (pc' := 132) (i := 0) (j := 0) (q := (some this)) dX7_next_131 rfl rfl rfl ?_
            refine R_getR (pc' := 135) (q := (some this)) fl_X7_9 rfl dX7_next_132 rfl (fun bytes12 => ?_)
            refine R_aloadq_n (pc' := 136) (i := 0) (j := 0) (q := (some this)) dX7_next_135 rfl rfl rfl ?_
            refine R_getI (pc' := 139) (q := (some this)) fl_X7_19 rfl dX7_next_136 rfl (fun stop13 => ?_)
            refine R_iald (pc' := 140) (q := bytes12) (i := stop13) dX7_next_139 rfl (fun e14 => ?_)
            refine R_iadd (pc' := 141) (a := ((nI 10) * value11)) (b := e14) dX7_next_140 rfl ?_
            refine R_bipush (pc' := 143) (x := (nI 48)) dX7_next_141 rfl (by decide) ?_
            refine R_isub (pc' := 144) (a := (((nI 10) * value11) + e14)) (b := (nI 48)) dX7_next_143 rfl ?_
            refine R_goto (tgt := 149) dX7_next_144 (by decide) ?_
            exact R_sub [0] rfl (rf_X7_next_J149 this (f_X7_next_L66 this n) ih ((((nI 10) * value11) + e14) - (nI 48)) (some this) M)
def f_X7_next_J38 (this : Nat) (M : Mem) : Option (Unit × Mem) :=
  (pI M 7 3 (some this) (nI 0)).bind fun M =>
  (gI M 7 8 (some this)).bind fun stop1 =>
  (pI M 7 4 (some this) stop1).bind fun M =>
  (pI M 7 5 (some this) (nI 0)).bind fun M =>
  (pL M 7 6 (some this) (0 : Int64)).bind fun M =>
  (pI M 7 7 (some this) (-1 : Int32)).bind fun M =>
  f_X7_next_L66 this FU M
set_option maxHeartbeats 2000000 in
set_option maxRecDepth 20000 in
theorem rf_X7_next_J38 (this : Nat) (M : Mem) : RF yX7_next cX7_next 1 none 1 eV (f_X7_next_J38 this M) 38 [(0, va_rf (some this))] [] M := by
  rw [f_X7_next_J38]
  refine R_aloadq_n (pc' := 39) (i := 0) (j := 0) (q := (some this)) dX7_next_38 rfl rfl rfl ?_
  refine R_iconst (pc' := 40) (x := (nI 0)) dX7_next_39 rfl (by decide) ?_
  refine R_putI (pc' := 43) (q := (some this)) (x := (nI 0)) fl_X7_28 (Or.inl rfl) dX7_next_40 rfl (fun M => ?_)
  refine R_aloadq_n (pc' := 44) (i := 0) (j := 0) (q := (some this)) dX7_next_43 rfl rfl rfl ?_
  refine R_aloadq_n (pc' := 45) (i := 0) (j := 0) (q := (some this)) dX7_next_44 rfl rfl rfl ?_
  refine R_getI (pc' := 48) (q := (some this)) fl_X7_19 rfl dX7_next_45 rfl (fun stop1 => ?_)
  refine R_putI (pc' := 51) (q := (some this)) (x := stop1) fl_X7_31 (Or.inl rfl) dX7_next_48 rfl (fun M => ?_)
  refine R_aloadq_n (pc' := 52) (i := 0) (j := 0) (q := (some this)) dX7_next_51 rfl rfl rfl ?_
  refine R_iconst (pc' := 53) (x := (nI 0)) dX7_next_52 rfl (by decide) ?_
  refine R_putI (pc' := 56) (q := (some this)) (x := (nI 0)) fl_X7_34 (Or.inl rfl) dX7_next_53 rfl (fun M => ?_)
  refine R_aloadq_n (pc' := 57) (i := 0) (j := 0) (q := (some this)) dX7_next_56 rfl rfl rfl ?_
  refine R_lconst (pc' := 58) (x := (0 : Int64)) dX7_next_57 rfl (by decide) ?_
  refine R_putL (pc' := 61) (q := (some this)) (x := (0 : Int64)) fl_X7_37 (Or.inl rfl) dX7_next_58 rfl (fun M => ?_)
  refine R_aloadq_n (pc' := 62) (i := 0) (j := 0) (q := (some this)) dX7_next_61 rfl rfl rfl ?_
  refine R_iconst (pc' := 63) (x := (-1 : Int32)) dX7_next_62 rfl (by decide) ?_
  refine R_putI (pc' := 66) (q := (some this)) (x := (-1 : Int32)) fl_X7_41 (Or.inl rfl) dX7_next_63 rfl (fun M => ?_)
  exact R_sub [0] rfl (rf_X7_next_L66 this FU M)
def f_X7_next_L0 (this : Nat) : Nat → Mem → Option (Unit × Mem)
  | 0, _ => none
  | n + 1, M =>
    (gI M 7 8 (some this)).bind fun stop1 =>
    (gI M 7 1 (some this)).bind fun length2 =>
    (if length2 ≤ stop1 then
      (f_X7_next_J38 this M)
    else
      ((gR M 7 0 (some this)).bind fun bytes3 =>
      (gI M 7 8 (some this)).bind fun stop4 =>
      (aI M 0 bytes3 stop4).bind fun e5 =>
      (if e5 = (nI 32) then
        ((gI M 7 8 (some this)).bind fun stop6 =>
        (pI M 7 8 (some this) (stop6 + (nI 1))).bind fun M =>
        (f_X7_next_L0 this n) M)
      else
        (f_X7_next_J38 this M))))
set_option maxHeartbeats 2000000 in
set_option maxRecDepth 20000 in
theorem rf_X7_next_L0 (this : Nat) : ∀ (n : Nat) (M : Mem), RF yX7_next cX7_next 1 none 1 eV (f_X7_next_L0 this n M) 0 [(0, va_rf (some this))] [] M := by
  intro n
  induction n with
  | zero => intro _; exact RF.none
  | succ n ih =>
    intro M
    rw [f_X7_next_L0]
    refine R_aloadq_n (pc' := 1) (i := 0) (j := 0) (q := (some this)) dX7_next_0 rfl rfl rfl ?_
    refine R_getI (pc' := 4) (q := (some this)) fl_X7_19 rfl dX7_next_1 rfl (fun stop1 => ?_)
    refine R_aloadq_n (pc' := 5) (i := 0) (j := 0) (q := (some this)) dX7_next_4 rfl rfl rfl ?_
    refine R_getI (pc' := 8) (q := (some this)) fl_X7_15 rfl dX7_next_5 rfl (fun length2 => ?_)
    refine R_icmp_ge (pc' := 11) (tgt := 38) (a := stop1) (b := length2) dX7_next_8 (by decide) rfl ?_ ?_
    · exact R_sub [0] rfl (rf_X7_next_J38 this M)
    · refine R_aloadq_n (pc' := 12) (i := 0) (j := 0) (q := (some this)) dX7_next_11 rfl rfl rfl ?_
      refine R_getR (pc' := 15) (q := (some this)) fl_X7_9 rfl dX7_next_12 rfl (fun bytes3 => ?_)
      refine R_aloadq_n (pc' := 16) (i := 0) (j := 0) (q := (some this)) dX7_next_15 rfl rfl rfl ?_
      refine R_getI (pc' := 19) (q := (some this)) fl_X7_19 rfl dX7_next_16 rfl (fun stop4 => ?_)
      refine R_iald (pc' := 20) (q := bytes3) (i := stop4) dX7_next_19 rfl (fun e5 => ?_)
      refine R_bipush (pc' := 22) (x := (nI 32)) dX7_next_20 rfl (by decide) ?_
      refine R_icmp_ne (pc' := 25) (tgt := 38) (a := e5) (b := (nI 32)) dX7_next_22 (by decide) rfl ?_ ?_
      · exact R_sub [0] rfl (rf_X7_next_J38 this M)
      · refine R_aloadq_n (pc' := 26) (i := 0) (j := 0) (q := (some this)) dX7_next_25 rfl rfl rfl ?_
        refine R_dup (pc' := 27) dX7_next_26 rfl (rf_cat _) ?_
        refine R_getI (pc' := 30) (q := (some this)) fl_X7_19 rfl dX7_next_27 rfl (fun stop6 => ?_)
        refine R_iconst (pc' := 31) (x := (nI 1)) dX7_next_30 rfl (by decide) ?_
        refine R_iadd (pc' := 32) (a := stop6) (b := (nI 1)) dX7_next_31 rfl ?_
        refine R_putI (pc' := 35) (q := (some this)) (x := (stop6 + (nI 1))) fl_X7_19 (Or.inl rfl) dX7_next_32 rfl (fun M => ?_)
        refine R_goto (tgt := 0) dX7_next_35 (by decide) ?_
        exact R_sub [0] rfl (ih M)
def f_X7_next (this : Nat) (M : Mem) : Option (Unit × Mem) :=
  f_X7_next_L0 this FU M
set_option maxHeartbeats 2000000 in
set_option maxRecDepth 20000 in
theorem rm_X7_next (this : Nat) (M : Mem) : RFm yX7_next cX7_next 1 none 1 eV (f_X7_next this M) [va_rf (some this)] M := by
  refine RFm_of (L := [(0, va_rf (some this))]) (by decide) rfl (Nat.le_trans (c_R c_0) (by decide)) ?_
  rw [f_X7_next]
  exact R_sub [0] rfl (rf_X7_next_L0 this FU M)
/-! BarPilot$Tape.rewind()V -/
def f_X7_rewind (this : Nat) (M : Mem) : Option (Unit × Mem) :=
  (pI M 7 8 (some this) (nI 0)).bind fun M =>
  (pI M 7 2 (some this) (nI 0)).bind fun M =>
  (oO M 7 (some this)).bind fun o2 => cl (f_X7_next o2 M) fun u1 M =>
  some ((), M)
set_option maxHeartbeats 2000000 in
set_option maxRecDepth 20000 in
theorem rm_X7_rewind (this : Nat) (M : Mem) : RFm yX7_rewind cX7_rewind 1 none 2 eV (f_X7_rewind this M) [va_rf (some this)] M := by
  refine RFm_of (L := [(0, va_rf (some this))]) (by decide) rfl (Nat.le_trans (c_R c_0) (by decide)) ?_
  rw [f_X7_rewind]
  refine R_aloadq_n (pc' := 1) (i := 0) (j := 0) (q := (some this)) dX7_rewind_0 rfl rfl rfl ?_
  refine R_iconst (pc' := 2) (x := (nI 0)) dX7_rewind_1 rfl (by decide) ?_
  refine R_putI (pc' := 5) (q := (some this)) (x := (nI 0)) fl_X7_19 (Or.inl rfl) dX7_rewind_2 rfl (fun M => ?_)
  refine R_aloadq_n (pc' := 6) (i := 0) (j := 0) (q := (some this)) dX7_rewind_5 rfl rfl rfl ?_
  refine R_iconst (pc' := 7) (x := (nI 0)) dX7_rewind_6 rfl (by decide) ?_
  refine R_putI (pc' := 10) (q := (some this)) (x := (nI 0)) fl_X7_22 (Or.inl rfl) dX7_rewind_7 rfl (fun M => ?_)
  refine R_aloadq_n (pc' := 11) (i := 0) (j := 0) (q := (some this)) dX7_rewind_10 rfl rfl rfl ?_
  refine R_callV_V (pc' := 14) (q := (some this)) (As := []) (fun o2 => rm_X7_next o2 M) mf_X7_next lk_X7_25 im_X7_next se_X7_next rfl rfl rfl dX7_rewind_11 rfl (by decide) (Nat.le_trans c_0 (by decide)) (fun u1 M => ?_)
  exact R_vret dX7_rewind_14
/-! BarPilot$Tape.failAt(II)Z -/
def f_X7_failAt_J19 (this : Nat) (M : Mem) : Option (Int32 × Mem) :=
  ckZ (nI 0) (some ((nI 0), M))
set_option maxHeartbeats 2000000 in
set_option maxRecDepth 20000 in
theorem rf_X7_failAt_J19 (this : Nat) (M : Mem) : RF yX7_failAt cX7_failAt 3 (some .boolean) 1 eI (f_X7_failAt_J19 this M) 19 [] [] M := by
  rw [f_X7_failAt_J19]
  refine R_iconst (pc' := 20) (x := (nI 0)) dX7_failAt_19 rfl (by decide) ?_
  exact R_bret dX7_failAt_20
def f_X7_failAt (this : Nat) (l1 : Int32) (l2 : Int32) (M : Mem) : Option (Int32 × Mem) :=
  (gI M 7 2 (some this)).bind fun fault1 =>
  (if fault1 = 0 then
    ((pI M 7 2 (some this) (((nI 1) + ((nI 8) * l1)) + l2)).bind fun M =>
    f_X7_failAt_J19 this M)
  else
    (f_X7_failAt_J19 this M))
set_option maxHeartbeats 2000000 in
set_option maxRecDepth 20000 in
theorem rm_X7_failAt (this : Nat) (l1 : Int32) (l2 : Int32) (M : Mem) : RFm yX7_failAt cX7_failAt 3 (some .boolean) 1 eI (f_X7_failAt this l1 l2 M) [va_rf (some this), .int l1, .int l2] M := by
  refine RFm_of (L := [(0, va_rf (some this)), (1, .int l1), (2, .int l2)]) (by decide) rfl (Nat.le_trans (c_R (c_I (c_I c_0))) (by decide)) ?_
  rw [f_X7_failAt]
  refine R_aloadq_n (pc' := 1) (i := 0) (j := 0) (q := (some this)) dX7_failAt_0 rfl rfl rfl ?_
  refine R_getI (pc' := 4) (q := (some this)) fl_X7_22 rfl dX7_failAt_1 rfl (fun fault1 => ?_)
  refine R_if_ne (pc' := 7) (tgt := 19) (a := fault1) dX7_failAt_4 (by decide) rfl ?_ ?_
  · exact R_sub [] rfl (rf_X7_failAt_J19 this M)
  · refine R_aloadq_n (pc' := 8) (i := 0) (j := 0) (q := (some this)) dX7_failAt_7 rfl rfl rfl ?_
    refine R_iconst (pc' := 9) (x := (nI 1)) dX7_failAt_8 rfl (by decide) ?_
    refine R_bipush (pc' := 11) (x := (nI 8)) dX7_failAt_9 rfl (by decide) ?_
    refine R_iload_n (pc' := 12) (i := 1) (j := 1) (x := l1) dX7_failAt_11 rfl rfl rfl ?_
    refine R_imul (pc' := 13) (a := (nI 8)) (b := l1) dX7_failAt_12 rfl ?_
    refine R_iadd (pc' := 14) (a := (nI 1)) (b := ((nI 8) * l1)) dX7_failAt_13 rfl ?_
    refine R_iload_n (pc' := 15) (i := 2) (j := 2) (x := l2) dX7_failAt_14 rfl rfl rfl ?_
    refine R_iadd (pc' := 16) (a := ((nI 1) + ((nI 8) * l1))) (b := l2) dX7_failAt_15 rfl ?_
    refine R_putI (pc' := 19) (q := (some this)) (x := (((nI 1) + ((nI 8) * l1)) + l2)) fl_X7_22 (Or.inl rfl) dX7_failAt_16 rfl (fun M => ?_)
    exact R_sub [] rfl (rf_X7_failAt_J19 this M)
/-! BarPilot$Tape.takeNumber(II)I -/
def f_X7_takeNumber_J36 (this : Nat) (M : Mem) : Option (Int32 × Mem) :=
  (gI M 7 4 (some this)).bind fun start1 =>
  (oO M 7 (some this)).bind fun o3 => cl (f_X7_failAt o3 start1 (nI 1) M) fun r2 M =>
  some ((-1 : Int32), M)
set_option maxHeartbeats 2000000 in
set_option maxRecDepth 20000 in
theorem rf_X7_takeNumber_J36 (this : Nat) (M : Mem) : RF yX7_takeNumber cX7_takeNumber 4 (some .int) 2 eI (f_X7_takeNumber_J36 this M) 36 [(0, va_rf (some this))] [] M := by
  rw [f_X7_takeNumber_J36]
  refine R_aloadq_n (pc' := 37) (i := 0) (j := 0) (q := (some this)) dX7_takeNumber_36 rfl rfl rfl ?_
  refine R_aloadq_n (pc' := 38) (i := 0) (j := 0) (q := (some this)) dX7_takeNumber_37 rfl rfl rfl ?_
  refine R_getI (pc' := 41) (q := (some this)) fl_X7_31 rfl dX7_takeNumber_38 rfl (fun start1 => ?_)
  refine R_iconst (pc' := 42) (x := (nI 1)) dX7_takeNumber_41 rfl (by decide) ?_
  refine R_callV_I (pc' := 45) (q := (some this)) (As := [.int start1, .int (nI 1)]) (fun o3 => rm_X7_failAt o3 start1 (nI 1) M) mf_X7_failAt lk_X7_45 im_X7_failAt se_X7_failAt rfl rfl rfl dX7_takeNumber_42 rfl (by decide) (Nat.le_trans c_0 (by decide)) (fun r2 M => ?_)
  refine R_pop (pc' := 46) dX7_takeNumber_45 rfl rfl ?_
  refine R_iconst (pc' := 47) (x := (-1 : Int32)) dX7_takeNumber_46 rfl (by decide) ?_
  exact R_iret dX7_takeNumber_47
def f_X7_takeNumber (this : Nat) (l1 : Int32) (l2 : Int32) (M : Mem) : Option (Int32 × Mem) :=
  (gI M 7 3 (some this)).bind fun kind1 =>
  (if kind1 = (nI 1) then
    ((gI M 7 5 (some this)).bind fun value2 =>
    (if value2 < l1 then
      (f_X7_takeNumber_J36 this M)
    else
      ((gI M 7 5 (some this)).bind fun value3 =>
      (if value3 ≤ l2 then
        ((gI M 7 5 (some this)).bind fun value4 =>
        (oO M 7 (some this)).bind fun o6 => cl (f_X7_next o6 M) fun u5 M =>
        some (value4, M))
      else
        (f_X7_takeNumber_J36 this M)))))
  else
    ((gI M 7 4 (some this)).bind fun start7 =>
    (oO M 7 (some this)).bind fun o9 => cl (f_X7_failAt o9 start7 (nI 0) M) fun r8 M =>
    some ((-1 : Int32), M)))
set_option maxHeartbeats 2000000 in
set_option maxRecDepth 20000 in
theorem rm_X7_takeNumber (this : Nat) (l1 : Int32) (l2 : Int32) (M : Mem) : RFm yX7_takeNumber cX7_takeNumber 4 (some .int) 2 eI (f_X7_takeNumber this l1 l2 M) [va_rf (some this), .int l1, .int l2] M := by
  refine RFm_of (L := [(0, va_rf (some this)), (1, .int l1), (2, .int l2)]) (by decide) rfl (Nat.le_trans (c_R (c_I (c_I c_0))) (by decide)) ?_
  rw [f_X7_takeNumber]
  refine R_aloadq_n (pc' := 1) (i := 0) (j := 0) (q := (some this)) dX7_takeNumber_0 rfl rfl rfl ?_
  refine R_getI (pc' := 4) (q := (some this)) fl_X7_28 rfl dX7_takeNumber_1 rfl (fun kind1 => ?_)
  refine R_iconst (pc' := 5) (x := (nI 1)) dX7_takeNumber_4 rfl (by decide) ?_
  refine R_icmp_eq (pc' := 8) (tgt := 20) (a := kind1) (b := (nI 1)) dX7_takeNumber_5 (by decide) rfl ?_ ?_
  · refine R_aloadq_n (pc' := 21) (i := 0) (j := 0) (q := (some this)) dX7_takeNumber_20 rfl rfl rfl ?_
    refine R_getI (pc' := 24) (q := (some this)) fl_X7_34 rfl dX7_takeNumber_21 rfl (fun value2 => ?_)
    refine R_iload_n (pc' := 25) (i := 1) (j := 1) (x := l1) dX7_takeNumber_24 rfl rfl rfl ?_
    refine R_icmp_lt (pc' := 28) (tgt := 36) (a := value2) (b := l1) dX7_takeNumber_25 (by decide) rfl ?_ ?_
    · exact R_sub [0] rfl (rf_X7_takeNumber_J36 this M)
    · refine R_aloadq_n (pc' := 29) (i := 0) (j := 0) (q := (some this)) dX7_takeNumber_28 rfl rfl rfl ?_
      refine R_getI (pc' := 32) (q := (some this)) fl_X7_34 rfl dX7_takeNumber_29 rfl (fun value3 => ?_)
      refine R_iload_n (pc' := 33) (i := 2) (j := 2) (x := l2) dX7_takeNumber_32 rfl rfl rfl ?_
      refine R_icmp_le (pc' := 36) (tgt := 48) (a := value3) (b := l2) dX7_takeNumber_33 (by decide) rfl ?_ ?_
      · refine R_aloadq_n (pc' := 49) (i := 0) (j := 0) (q := (some this)) dX7_takeNumber_48 rfl rfl rfl ?_
        refine R_getI (pc' := 52) (q := (some this)) fl_X7_34 rfl dX7_takeNumber_49 rfl (fun value4 => ?_)
        refine R_istore_n (pc' := 53) (L' := [(3, .int value4), (0, va_rf (some this)), (1, .int l1), (2, .int l2)]) (i := 3) (x := value4) dX7_takeNumber_52 rfl rfl (by decide) rfl ?_
        refine R_aloadq_n (pc' := 54) (i := 0) (j := 1) (q := (some this)) dX7_takeNumber_53 rfl rfl rfl ?_
        refine R_callV_V (pc' := 57) (q := (some this)) (As := []) (fun o6 => rm_X7_next o6 M) mf_X7_next lk_X7_25 im_X7_next se_X7_next rfl rfl rfl dX7_takeNumber_54 rfl (by decide) (Nat.le_trans c_0 (by decide)) (fun u5 M => ?_)
        refine R_iload_n (pc' := 58) (i := 3) (j := 0) (x := value4) dX7_takeNumber_57 rfl rfl rfl ?_
        exact R_iret dX7_takeNumber_58
      · exact R_sub [0] rfl (rf_X7_takeNumber_J36 this M)
  · refine R_aloadq_n (pc' := 9) (i := 0) (j := 0) (q := (some this)) dX7_takeNumber_8 rfl rfl rfl ?_
    refine R_aloadq_n (pc' := 10) (i := 0) (j := 0) (q := (some this)) dX7_takeNumber_9 rfl rfl rfl ?_
    refine R_getI (pc' := 13) (q := (some this)) fl_X7_31 rfl dX7_takeNumber_10 rfl (fun start7 => ?_)
    refine R_iconst (pc' := 14) (x := (nI 0)) dX7_takeNumber_13 rfl (by decide) ?_
    refine R_callV_I (pc' := 17) (q := (some this)) (As := [.int start7, .int (nI 0)]) (fun o9 => rm_X7_failAt o9 start7 (nI 0) M) mf_X7_failAt lk_X7_45 im_X7_failAt se_X7_failAt rfl rfl rfl dX7_takeNumber_14 rfl (by decide) (Nat.le_trans c_0 (by decide)) (fun r8 M => ?_)
    refine R_pop (pc' := 18) dX7_takeNumber_17 rfl rfl ?_
    refine R_iconst (pc' := 19) (x := (-1 : Int32)) dX7_takeNumber_18 rfl (by decide) ?_
    exact R_iret dX7_takeNumber_19
/-! BarPilot$Tape.takesSeparator()Z -/
def f_X7_takesSeparator_J39 (this : Nat) (s0 : Int32) (M : Mem) : Option (Int32 × Mem) :=
  ckZ s0 (some (s0, M))
set_option maxHeartbeats 2000000 in
set_option maxRecDepth 20000 in
theorem rf_X7_takesSeparator_J39 (this : Nat) (s0 : Int32) (M : Mem) : RF yX7_takesSeparator cX7_takesSeparator 1 (some .boolean) 2 eI (f_X7_takesSeparator_J39 this s0 M) 39 [] [.int s0] M := by
  rw [f_X7_takesSeparator_J39]
  exact R_bret dX7_takesSeparator_39
def f_X7_takesSeparator_J38 (this : Nat) (M : Mem) : Option (Int32 × Mem) :=
  f_X7_takesSeparator_J39 this (nI 0) M
set_option maxHeartbeats 2000000 in
set_option maxRecDepth 20000 in
theorem rf_X7_takesSeparator_J38 (this : Nat) (M : Mem) : RF yX7_takesSeparator cX7_takesSeparator 1 (some .boolean) 2 eI (f_X7_takesSeparator_J38 this M) 38 [] [] M := by
  rw [f_X7_takesSeparator_J38]
  refine R_iconst (pc' := 39) (x := (nI 0)) dX7_takesSeparator_38 rfl (by decide) ?_
  exact R_sub [] rfl (rf_X7_takesSeparator_J39 this (nI 0) M)
def f_X7_takesSeparator (this : Nat) (M : Mem) : Option (Int32 × Mem) :=
  (gI M 7 7 (some this)).bind fun sign1 =>
  (if sign1 = (nI 59) then
    ((oO M 7 (some this)).bind fun o7 => cl (f_X7_next o7 M) fun u6 M =>
    ckZ (nI 1) (some ((nI 1), M)))
  else
    ((gI M 7 3 (some this)).bind fun kind2 =>
    (if kind2 = 0 then
      (f_X7_takesSeparator_J38 this M)
    else
      ((gI M 7 4 (some this)).bind fun start3 =>
      (oO M 7 (some this)).bind fun o5 => cl (f_X7_failAt o5 start3 (nI 0) M) fun r4 M =>
      (if r4 = 0 then
        (f_X7_takesSeparator_J38 this M)
      else
        (f_X7_takesSeparator_J39 this (nI 1) M))))))
set_option maxHeartbeats 2000000 in
set_option maxRecDepth 20000 in
theorem rm_X7_takesSeparator (this : Nat) (M : Mem) : RFm yX7_takesSeparator cX7_takesSeparator 1 (some .boolean) 2 eI (f_X7_takesSeparator this M) [va_rf (some this)] M := by
  refine RFm_of (L := [(0, va_rf (some this))]) (by decide) rfl (Nat.le_trans (c_R c_0) (by decide)) ?_
  rw [f_X7_takesSeparator]
  refine R_aloadq_n (pc' := 1) (i := 0) (j := 0) (q := (some this)) dX7_takesSeparator_0 rfl rfl rfl ?_
  refine R_getI (pc' := 4) (q := (some this)) fl_X7_41 rfl dX7_takesSeparator_1 rfl (fun sign1 => ?_)
  refine R_bipush (pc' := 6) (x := (nI 59)) dX7_takesSeparator_4 rfl (by decide) ?_
  refine R_icmp_ne (pc' := 9) (tgt := 15) (a := sign1) (b := (nI 59)) dX7_takesSeparator_6 (by decide) rfl ?_ ?_
  · refine R_aloadq_n (pc' := 16) (i := 0) (j := 0) (q := (some this)) dX7_takesSeparator_15 rfl rfl rfl ?_
    refine R_getI (pc' := 19) (q := (some this)) fl_X7_28 rfl dX7_takesSeparator_16 rfl (fun kind2 => ?_)
    refine R_if_eq (pc' := 22) (tgt := 38) (a := kind2) dX7_takesSeparator_19 (by decide) rfl ?_ ?_
    · exact R_sub [] rfl (rf_X7_takesSeparator_J38 this M)
    · refine R_aloadq_n (pc' := 23) (i := 0) (j := 0) (q := (some this)) dX7_takesSeparator_22 rfl rfl rfl ?_
      refine R_aloadq_n (pc' := 24) (i := 0) (j := 0) (q := (some this)) dX7_takesSeparator_23 rfl rfl rfl ?_
      refine R_getI (pc' := 27) (q := (some this)) fl_X7_31 rfl dX7_takesSeparator_24 rfl (fun start3 => ?_)
      refine R_iconst (pc' := 28) (x := (nI 0)) dX7_takesSeparator_27 rfl (by decide) ?_
      refine R_callV_I (pc' := 31) (q := (some this)) (As := [.int start3, .int (nI 0)]) (fun o5 => rm_X7_failAt o5 start3 (nI 0) M) mf_X7_failAt lk_X7_45 im_X7_failAt se_X7_failAt rfl rfl rfl dX7_takesSeparator_28 rfl (by decide) (Nat.le_trans c_0 (by decide)) (fun r4 M => ?_)
      refine R_if_eq (pc' := 34) (tgt := 38) (a := r4) dX7_takesSeparator_31 (by decide) rfl ?_ ?_
      · exact R_sub [] rfl (rf_X7_takesSeparator_J38 this M)
      · refine R_iconst (pc' := 35) (x := (nI 1)) dX7_takesSeparator_34 rfl (by decide) ?_
        refine R_goto (tgt := 39) dX7_takesSeparator_35 (by decide) ?_
        exact R_sub [] rfl (rf_X7_takesSeparator_J39 this (nI 1) M)
  · refine R_aloadq_n (pc' := 10) (i := 0) (j := 0) (q := (some this)) dX7_takesSeparator_9 rfl rfl rfl ?_
    refine R_callV_V (pc' := 13) (q := (some this)) (As := []) (fun o7 => rm_X7_next o7 M) mf_X7_next lk_X7_25 im_X7_next se_X7_next rfl rfl rfl dX7_takesSeparator_10 rfl (by decide) (Nat.le_trans c_0 (by decide)) (fun u6 M => ?_)
    refine R_iconst (pc' := 14) (x := (nI 1)) dX7_takesSeparator_13 rfl (by decide) ?_
    exact R_bret dX7_takesSeparator_14
/-! BarPilot$Rule.<init>([II)V -/
def f_X4_init_J63 (this : Nat) (s0 : Int32) (s1 : Option Nat) (M : Mem) : Option (Unit × Mem) :=
  ckZ s0 ((pI M 4 2 s1 s0).bind fun M =>
  some ((), M))
set_option maxHeartbeats 2000000 in
set_option maxRecDepth 20000 in
theorem rf_X4_init_J63 (this : Nat) (s0 : Int32) (s1 : Option Nat) (M : Mem) : RF yX4_init cX4_init 3 none 1 eV (f_X4_init_J63 this s0 s1 M) 63 [] [.int s0, va_rf s1] M := by
  rw [f_X4_init_J63]
  refine R_putZ (pc' := 66) (q := s1) (x := s0) fl_X4_24 (Or.inr ⟨rfl, rfl⟩) dX4_init_63 rfl (fun M => ?_)
  exact R_vret dX4_init_66
def f_X4_init_J47 (this : Nat) (l2 : Int32) (s0 : Int32) (s1 : Option Nat) (M : Mem) : Option (Unit × Mem) :=
  ckZ s0 ((pI M 4 1 s1 s0).bind fun M =>
  (if (l2 &&& (nI 64)) = 0 then
    (f_X4_init_J63 this (nI 0) (some this) M)
  else
    (f_X4_init_J63 this (nI 1) (some this) M)))
set_option maxHeartbeats 2000000 in
set_option maxRecDepth 20000 in
theorem rf_X4_init_J47 (this : Nat) (l2 : Int32) (s0 : Int32) (s1 : Option Nat) (M : Mem) : RF yX4_init cX4_init 3 none 1 eV (f_X4_init_J47 this l2 s0 s1 M) 47 [(0, va_rf (some this)), (2, .int l2)] [.int s0, va_rf s1] M := by
  rw [f_X4_init_J47]
  refine R_putZ (pc' := 50) (q := s1) (x := s0) fl_X4_21 (Or.inr ⟨rfl, rfl⟩) dX4_init_47 rfl (fun M => ?_)
  refine R_aloadq_n (pc' := 51) (i := 0) (j := 0) (q := (some this)) dX4_init_50 rfl rfl rfl ?_
  refine R_iload_n (pc' := 52) (i := 2) (j := 1) (x := l2) dX4_init_51 rfl rfl rfl ?_
  refine R_bipush (pc' := 54) (x := (nI 64)) dX4_init_52 rfl (by decide) ?_
  refine R_iand (pc' := 55) (a := l2) (b := (nI 64)) dX4_init_54 rfl ?_
  refine R_if_eq (pc' := 58) (tgt := 62) (a := (l2 &&& (nI 64))) dX4_init_55 (by decide) rfl ?_ ?_
  · refine R_iconst (pc' := 63) (x := (nI 0)) dX4_init_62 rfl (by decide) ?_
    exact R_sub [] rfl (rf_X4_init_J63 this (nI 0) (some this) M)
  · refine R_iconst (pc' := 59) (x := (nI 1)) dX4_init_58 rfl (by decide) ?_
    refine R_goto (tgt := 63) dX4_init_59 (by decide) ?_
    exact R_sub [] rfl (rf_X4_init_J63 this (nI 1) (some this) M)
def f_X4_init_J31 (this : Nat) (l2 : Int32) (s0 : Int32) (s1 : Option Nat) (M : Mem) : Option (Unit × Mem) :=
  ckZ s0 ((pI M 4 0 s1 s0).bind fun M =>
  (if (l2 &&& (nI 16)) = 0 then
    (f_X4_init_J47 this l2 (nI 0) (some this) M)
  else
    (f_X4_init_J47 this l2 (nI 1) (some this) M)))
set_option maxHeartbeats 2000000 in
set_option maxRecDepth 20000 in
theorem rf_X4_init_J31 (this : Nat) (l2 : Int32) (s0 : Int32) (s1 : Option Nat) (M : Mem) : RF yX4_init cX4_init 3 none 1 eV (f_X4_init_J31 this l2 s0 s1 M) 31 [(0, va_rf (some this)), (2, .int l2)] [.int s0, va_rf s1] M := by
  rw [f_X4_init_J31]
  refine R_putZ (pc' := 34) (q := s1) (x := s0) fl_X4_17 (Or.inr ⟨rfl, rfl⟩) dX4_init_31 rfl (fun M => ?_)
  refine R_aloadq_n (pc' := 35) (i := 0) (j := 0) (q := (some this)) dX4_init_34 rfl rfl rfl ?_
  refine R_iload_n (pc' := 36) (i := 2) (j := 1) (x := l2) dX4_init_35 rfl rfl rfl ?_
  refine R_bipush (pc' := 38) (x := (nI 16)) dX4_init_36 rfl (by decide) ?_
  refine R_iand (pc' := 39) (a := l2) (b := (nI 16)) dX4_init_38 rfl ?_
  refine R_if_eq (pc' := 42) (tgt := 46) (a := (l2 &&& (nI 16))) dX4_init_39 (by decide) rfl ?_ ?_
  · refine R_iconst (pc' := 47) (x := (nI 0)) dX4_init_46 rfl (by decide) ?_
    exact R_sub [0, 1] rfl (rf_X4_init_J47 this l2 (nI 0) (some this) M)
  · refine R_iconst (pc' := 43) (x := (nI 1)) dX4_init_42 rfl (by decide) ?_
    refine R_goto (tgt := 47) dX4_init_43 (by decide) ?_
    exact R_sub [0, 1] rfl (rf_X4_init_J47 this l2 (nI 1) (some this) M)
def f_X4_init (this : Nat) (l1 : Option Nat) (l2 : Int32) (M : Mem) : Option (Unit × Mem) :=
  newA M 3 (nI 8) fun a1 M =>
  (pR M 4 4 (some this) (some a1)).bind fun M =>
  (pR M 4 3 (some this) l1).bind fun M =>
  (if (l2 &&& (nI 1288)) = 0 then
    (f_X4_init_J31 this l2 (nI 0) (some this) M)
  else
    (f_X4_init_J31 this l2 (nI 1) (some this) M))
set_option maxHeartbeats 2000000 in
set_option maxRecDepth 20000 in
theorem rm_X4_init (this : Nat) (l1 : Option Nat) (l2 : Int32) (M : Mem) : RFm yX4_init cX4_init 3 none 1 eV (f_X4_init this l1 l2 M) [va_rf (some this), va_rf l1, .int l2] M := by
  refine RFm_of (L := [(0, va_rf (some this)), (1, va_rf l1), (2, .int l2)]) (by decide) (by simp only [lva_R, lva_I, lva_L, lva_C, lva_0]) (Nat.le_trans (c_R (c_R (c_I c_0))) (by decide)) ?_
  rw [f_X4_init]
  refine R_aloadq_n (pc' := 1) (i := 0) (j := 0) (q := (some this)) dX4_init_0 rfl rfl rfl ?_
  refine R_objInit (pc' := 4) (a := this) lko_X4_3 ob_in ob_co dX4_init_1 rfl (by decide) (Nat.le_trans c_0 (by decide)) ?_
  refine R_aloadq_n (pc' := 5) (i := 0) (j := 0) (q := (some this)) dX4_init_4 rfl rfl rfl ?_
  refine R_bipush (pc' := 7) (x := (nI 8)) dX4_init_5 rfl (by decide) ?_
  refine R_newa (pc' := 9) (at0 := .long) (ty := .long) (t := 3) (n := (nI 8)) rfl rfl (by decide) ac_long (by decide) rfl dX4_init_7 rfl (fun a1 M => ?_)
  refine R_putR (pc' := 12) (q := (some this)) (x := (some a1)) fl_X4_9 rfl (Or.inr ⟨rfl, rfl⟩) dX4_init_9 rfl (fun M => ?_)
  refine R_aloadq_n (pc' := 13) (i := 0) (j := 0) (q := (some this)) dX4_init_12 rfl rfl rfl ?_
  refine R_aloadq_n (pc' := 14) (i := 1) (j := 1) (q := l1) dX4_init_13 rfl rfl rfl ?_
  refine R_putR (pc' := 17) (q := (some this)) (x := l1) fl_X4_13 rfl (Or.inr ⟨rfl, rfl⟩) dX4_init_14 rfl (fun M => ?_)
  refine R_aloadq_n (pc' := 18) (i := 0) (j := 0) (q := (some this)) dX4_init_17 rfl rfl rfl ?_
  refine R_iload_n (pc' := 19) (i := 2) (j := 2) (x := l2) dX4_init_18 rfl rfl rfl ?_
  refine R_sipush (pc' := 22) (x := (nI 1288)) dX4_init_19 rfl (by decide) ?_
  refine R_iand (pc' := 23) (a := l2) (b := (nI 1288)) dX4_init_22 rfl ?_
  refine R_if_eq (pc' := 26) (tgt := 30) (a := (l2 &&& (nI 1288))) dX4_init_23 (by decide) rfl ?_ ?_
  · refine R_iconst (pc' := 31) (x := (nI 0)) dX4_init_30 rfl (by decide) ?_
    exact R_sub [0, 2] rfl (rf_X4_init_J31 this l2 (nI 0) (some this) M)
  · refine R_iconst (pc' := 27) (x := (nI 1)) dX4_init_26 rfl (by decide) ?_
    refine R_goto (tgt := 31) dX4_init_27 (by decide) ?_
    exact R_sub [0, 2] rfl (rf_X4_init_J31 this l2 (nI 1) (some this) M)
/-! BarPilot$Rule.fits(III)Z -/
def f_X4_fits_J52 (this : Nat) (s0 : Int32) (M : Mem) : Option (Int32 × Mem) :=
  ckZ s0 (some (s0, M))
set_option maxHeartbeats 2000000 in
set_option maxRecDepth 20000 in
theorem rf_X4_fits_J52 (this : Nat) (s0 : Int32) (M : Mem) : RF yX4_fits cX4_fits 4 (some .boolean) 1 eI (f_X4_fits_J52 this s0 M) 52 [] [.int s0] M := by
  rw [f_X4_fits_J52]
  exact R_bret dX4_fits_52
def f_X4_fits_J44 (this : Nat) (s0 : Int32) (s1 : Int32) (M : Mem) : Option (Int32 × Mem) :=
  (if s1 < s0 then
    (f_X4_fits_J52 this (nI 0) M)
  else
    (f_X4_fits_J52 this (nI 1) M))
set_option maxHeartbeats 2000000 in
set_option maxRecDepth 20000 in
theorem rf_X4_fits_J44 (this : Nat) (s0 : Int32) (s1 : Int32) (M : Mem) : RF yX4_fits cX4_fits 4 (some .boolean) 1 eI (f_X4_fits_J44 this s0 s1 M) 44 [] [.int s0, .int s1] M := by
  rw [f_X4_fits_J44]
  refine R_icmp_lt (pc' := 47) (tgt := 51) (a := s1) (b := s0) dX4_fits_44 (by decide) rfl ?_ ?_
  · refine R_iconst (pc' := 52) (x := (nI 0)) dX4_fits_51 rfl (by decide) ?_
    exact R_sub [] rfl (rf_X4_fits_J52 this (nI 0) M)
  · refine R_iconst (pc' := 48) (x := (nI 1)) dX4_fits_47 rfl (by decide) ?_
    refine R_goto (tgt := 52) dX4_fits_48 (by decide) ?_
    exact R_sub [] rfl (rf_X4_fits_J52 this (nI 1) M)
def f_X4_fits_J31 (this : Nat) (s0 : Int32) (M : Mem) : Option (Int32 × Mem) :=
  ckZ s0 (some (s0, M))
set_option maxHeartbeats 2000000 in
set_option maxRecDepth 20000 in
theorem rf_X4_fits_J31 (this : Nat) (s0 : Int32) (M : Mem) : RF yX4_fits cX4_fits 4 (some .boolean) 1 eI (f_X4_fits_J31 this s0 M) 31 [] [.int s0] M := by
  rw [f_X4_fits_J31]
  exact R_bret dX4_fits_31
def f_X4_fits_J30 (this : Nat) (M : Mem) : Option (Int32 × Mem) :=
  f_X4_fits_J31 this (nI 0) M
set_option maxHeartbeats 2000000 in
set_option maxRecDepth 20000 in
theorem rf_X4_fits_J30 (this : Nat) (M : Mem) : RF yX4_fits cX4_fits 4 (some .boolean) 1 eI (f_X4_fits_J30 this M) 30 [] [] M := by
  rw [f_X4_fits_J30]
  refine R_iconst (pc' := 31) (x := (nI 0)) dX4_fits_30 rfl (by decide) ?_
  exact R_sub [] rfl (rf_X4_fits_J31 this (nI 0) M)
def f_X4_fits_J26 (this : Nat) (M : Mem) : Option (Int32 × Mem) :=
  f_X4_fits_J31 this (nI 1) M
set_option maxHeartbeats 2000000 in
set_option maxRecDepth 20000 in
theorem rf_X4_fits_J26 (this : Nat) (M : Mem) : RF yX4_fits cX4_fits 4 (some .boolean) 1 eI (f_X4_fits_J26 this M) 26 [] [] M := by
  rw [f_X4_fits_J26]
  refine R_iconst (pc' := 27) (x := (nI 1)) dX4_fits_26 rfl (by decide) ?_
  refine R_goto (tgt := 31) dX4_fits_27 (by decide) ?_
  exact R_sub [] rfl (rf_X4_fits_J31 this (nI 1) M)
def f_X4_fits (this : Nat) (l1 : Int32) (l2 : Int32) (l3 : Int32) (M : Mem) : Option (Int32 × Mem) :=
  (if (nI 1) < l1 then
    ((if l1 < (nI 7) then
      (f_X4_fits_J44 this (nI 0) l3 M)
    else
      (f_X4_fits_J44 this (nI 1) l3 M)))
  else
    ((gR M 4 4 (some this)).bind fun stack1 =>
    (lnA M stack1).bind fun len2 =>
    (if (len2 - (nI 1)) ≤ l3 then
      (f_X4_fits_J30 this M)
    else
      ((if l1 = 0 then
        (f_X4_fits_J26 this M)
      else
        ((if (nI 11) ≤ l2 then
          (f_X4_fits_J30 this M)
        else
          (f_X4_fits_J26 this M))))))))
set_option maxHeartbeats 2000000 in
set_option maxRecDepth 20000 in
theorem rm_X4_fits (this : Nat) (l1 : Int32) (l2 : Int32) (l3 : Int32) (M : Mem) : RFm yX4_fits cX4_fits 4 (some .boolean) 1 eI (f_X4_fits this l1 l2 l3 M) [va_rf (some this), .int l1, .int l2, .int l3] M := by
  refine RFm_of (L := [(0, va_rf (some this)), (1, .int l1), (2, .int l2), (3, .int l3)]) (by decide) rfl (Nat.le_trans (c_R (c_I (c_I (c_I c_0)))) (by decide)) ?_
  rw [f_X4_fits]
  refine R_iload_n (pc' := 1) (i := 1) (j := 1) (x := l1) dX4_fits_0 rfl rfl rfl ?_
  refine R_iconst (pc' := 2) (x := (nI 1)) dX4_fits_1 rfl (by decide) ?_
  refine R_icmp_gt (pc' := 5) (tgt := 32) (a := l1) (b := (nI 1)) dX4_fits_2 (by decide) rfl ?_ ?_
  · refine R_iload_n (pc' := 33) (i := 3) (j := 3) (x := l3) dX4_fits_32 rfl rfl rfl ?_
    refine R_iload_n (pc' := 34) (i := 1) (j := 1) (x := l1) dX4_fits_33 rfl rfl rfl ?_
    refine R_bipush (pc' := 36) (x := (nI 7)) dX4_fits_34 rfl (by decide) ?_
    refine R_icmp_lt (pc' := 39) (tgt := 43) (a := l1) (b := (nI 7)) dX4_fits_36 (by decide) rfl ?_ ?_
    · refine R_iconst (pc' := 44) (x := (nI 0)) dX4_fits_43 rfl (by decide) ?_
      exact R_sub [] rfl (rf_X4_fits_J44 this (nI 0) l3 M)
    · refine R_iconst (pc' := 40) (x := (nI 1)) dX4_fits_39 rfl (by decide) ?_
      refine R_goto (tgt := 44) dX4_fits_40 (by decide) ?_
      exact R_sub [] rfl (rf_X4_fits_J44 this (nI 1) l3 M)
  · refine R_iload_n (pc' := 6) (i := 3) (j := 3) (x := l3) dX4_fits_5 rfl rfl rfl ?_
    refine R_aloadq_n (pc' := 7) (i := 0) (j := 0) (q := (some this)) dX4_fits_6 rfl rfl rfl ?_
    refine R_getR (pc' := 10) (q := (some this)) fl_X4_9 rfl dX4_fits_7 rfl (fun stack1 => ?_)
    refine R_alen (pc' := 11) (q := stack1) dX4_fits_10 rfl (fun len2 => ?_)
    refine R_iconst (pc' := 12) (x := (nI 1)) dX4_fits_11 rfl (by decide) ?_
    refine R_isub (pc' := 13) (a := len2) (b := (nI 1)) dX4_fits_12 rfl ?_
    refine R_icmp_ge (pc' := 16) (tgt := 30) (a := l3) (b := (len2 - (nI 1))) dX4_fits_13 (by decide) rfl ?_ ?_
    · exact R_sub [] rfl (rf_X4_fits_J30 this M)
    · refine R_iload_n (pc' := 17) (i := 1) (j := 1) (x := l1) dX4_fits_16 rfl rfl rfl ?_
      refine R_if_eq (pc' := 20) (tgt := 26) (a := l1) dX4_fits_17 (by decide) rfl ?_ ?_
      · exact R_sub [] rfl (rf_X4_fits_J26 this M)
      · refine R_iload_n (pc' := 21) (i := 2) (j := 2) (x := l2) dX4_fits_20 rfl rfl rfl ?_
        refine R_bipush (pc' := 23) (x := (nI 11)) dX4_fits_21 rfl (by decide) ?_
        refine R_icmp_ge (pc' := 26) (tgt := 30) (a := l2) (b := (nI 11)) dX4_fits_23 (by decide) rfl ?_ ?_
        · exact R_sub [] rfl (rf_X4_fits_J30 this M)
        · exact R_sub [] rfl (rf_X4_fits_J26 this M)
/-! BarPilot$Rule.joined(IJJ)J -/
def f_X4_joined_J151 (s0 : Int64) (M : Mem) : Option (Int64 × Mem) :=
  some (s0, M)
set_option maxHeartbeats 2000000 in
set_option maxRecDepth 20000 in
theorem rf_X4_joined_J151 (s0 : Int64) (M : Mem) : RF yX4_joined cX4_joined 5 (some .long) 1 eL (f_X4_joined_J151 s0 M) 151 [] [.long s0] M := by
  rw [f_X4_joined_J151]
  exact R_lret dX4_joined_151
def f_X4_joined_J77 (s0 : Int64) (M : Mem) : Option (Int64 × Mem) :=
  some (s0, M)
set_option maxHeartbeats 2000000 in
set_option maxRecDepth 20000 in
theorem rf_X4_joined_J77 (s0 : Int64) (M : Mem) : RF yX4_joined cX4_joined 5 (some .long) 1 eL (f_X4_joined_J77 s0 M) 77 [] [.long s0] M := by
  rw [f_X4_joined_J77]
  exact R_lret dX4_joined_77
def f_X4_joined_J91 (s0 : Int64) (M : Mem) : Option (Int64 × Mem) :=
  some (s0, M)
set_option maxHeartbeats 2000000 in
set_option maxRecDepth 20000 in
theorem rf_X4_joined_J91 (s0 : Int64) (M : Mem) : RF yX4_joined cX4_joined 5 (some .long) 1 eL (f_X4_joined_J91 s0 M) 91 [] [.long s0] M := by
  rw [f_X4_joined_J91]
  exact R_lret dX4_joined_91
def f_X4_joined_J103 (s0 : Int64) (M : Mem) : Option (Int64 × Mem) :=
  some (s0, M)
set_option maxHeartbeats 2000000 in
set_option maxRecDepth 20000 in
theorem rf_X4_joined_J103 (s0 : Int64) (M : Mem) : RF yX4_joined cX4_joined 5 (some .long) 1 eL (f_X4_joined_J103 s0 M) 103 [] [.long s0] M := by
  rw [f_X4_joined_J103]
  exact R_lret dX4_joined_103
def f_X4_joined_J115 (s0 : Int64) (M : Mem) : Option (Int64 × Mem) :=
  some (s0, M)
set_option maxHeartbeats 2000000 in
set_option maxRecDepth 20000 in
theorem rf_X4_joined_J115 (s0 : Int64) (M : Mem) : RF yX4_joined cX4_joined 5 (some .long) 1 eL (f_X4_joined_J115 s0 M) 115 [] [.long s0] M := by
  rw [f_X4_joined_J115]
  exact R_lret dX4_joined_115
def f_X4_joined_J127 (s0 : Int64) (M : Mem) : Option (Int64 × Mem) :=
  some (s0, M)
set_option maxHeartbeats 2000000 in
set_option maxRecDepth 20000 in
theorem rf_X4_joined_J127 (s0 : Int64) (M : Mem) : RF yX4_joined cX4_joined 5 (some .long) 1 eL (f_X4_joined_J127 s0 M) 127 [] [.long s0] M := by
  rw [f_X4_joined_J127]
  exact R_lret dX4_joined_127
def f_X4_joined_J139 (s0 : Int64) (M : Mem) : Option (Int64 × Mem) :=
  some (s0, M)
set_option maxHeartbeats 2000000 in
set_option maxRecDepth 20000 in
theorem rf_X4_joined_J139 (s0 : Int64) (M : Mem) : RF yX4_joined cX4_joined 5 (some .long) 1 eL (f_X4_joined_J139 s0 M) 139 [] [.long s0] M := by
  rw [f_X4_joined_J139]
  exact R_lret dX4_joined_139
def f_X4_joined (l0 : Int32) (l1 : Int64) (l3 : Int64) (M : Mem) : Option (Int64 × Mem) :=
  (tsw l0 (7) [
    (some ((l1 + l3), M)),
    (some ((l1 - l3), M)),
    (some ((l1 * l3), M)),
    ((if (lg_cmp l3 (0 : Int64)) = 0 then
      (f_X4_joined_J77 (0 : Int64) M)
    else
      (if l3 = 0 then none else
      f_X4_joined_J77 (l1 / l3) M))),
    ((if (lg_cmp l3 (0 : Int64)) = 0 then
      (f_X4_joined_J91 (0 : Int64) M)
    else
      (if l3 = 0 then none else
      f_X4_joined_J91 (l1 - l1 / l3 * l3) M))),
    ((if 0 ≤ (lg_cmp l1 l3) then
      (f_X4_joined_J103 (0 : Int64) M)
    else
      (f_X4_joined_J103 (1 : Int64) M))),
    ((if 0 < (lg_cmp l1 l3) then
      (f_X4_joined_J115 (0 : Int64) M)
    else
      (f_X4_joined_J115 (1 : Int64) M))),
    ((if (lg_cmp l1 l3) = 0 then
      (f_X4_joined_J127 (1 : Int64) M)
    else
      (f_X4_joined_J127 (0 : Int64) M))),
    ((if (lg_cmp l1 l3) < 0 then
      (f_X4_joined_J139 (0 : Int64) M)
    else
      (f_X4_joined_J139 (1 : Int64) M)))]
    ((if (lg_cmp l1 l3) ≤ 0 then
      (f_X4_joined_J151 (0 : Int64) M)
    else
      (f_X4_joined_J151 (1 : Int64) M))))
set_option maxHeartbeats 2000000 in
set_option maxRecDepth 20000 in
theorem rm_X4_joined (l0 : Int32) (l1 : Int64) (l3 : Int64) (M : Mem) : RFm yX4_joined cX4_joined 5 (some .long) 1 eL (f_X4_joined l0 l1 l3 M) [.int l0, .long l1, .long l3] M := by
  refine RFm_of (L := [(0, .int l0), (1, .long l1), (3, .long l3)]) (by decide) rfl (Nat.le_trans (c_I (c_L (c_L c_0))) (by decide)) ?_
  rw [f_X4_joined]
  refine R_iload_n (pc' := 1) (i := 0) (j := 0) (x := l0) dX4_joined_0 rfl rfl rfl ?_
  refine R_tsw (tgt := 140) (x := l0) dX4_joined_1 rfl (by decide) ?_ ⟨⟨52, by decide, ?_⟩, ⟨56, by decide, ?_⟩, ⟨60, by decide, ?_⟩, ⟨64, by decide, ?_⟩, ⟨78, by decide, ?_⟩, ⟨92, by decide, ?_⟩, ⟨104, by decide, ?_⟩, ⟨116, by decide, ?_⟩, ⟨128, by decide, ?_⟩, trivial⟩
  · refine R_lload_n (pc' := 141) (i := 1) (j := 1) (x := l1) dX4_joined_140 rfl rfl rfl ?_
    refine R_lload_n (pc' := 142) (i := 3) (j := 2) (x := l3) dX4_joined_141 rfl rfl rfl ?_
    refine R_lcmp (pc' := 143) (a := l1) (b := l3) dX4_joined_142 rfl ?_
    refine R_if_le (pc' := 146) (tgt := 150) (a := (lg_cmp l1 l3)) dX4_joined_143 (by decide) rfl ?_ ?_
    · refine R_lconst (pc' := 151) (x := (0 : Int64)) dX4_joined_150 rfl (by decide) ?_
      exact R_sub [] rfl (rf_X4_joined_J151 (0 : Int64) M)
    · refine R_lconst (pc' := 147) (x := (1 : Int64)) dX4_joined_146 rfl (by decide) ?_
      refine R_goto (tgt := 151) dX4_joined_147 (by decide) ?_
      exact R_sub [] rfl (rf_X4_joined_J151 (1 : Int64) M)
  · refine R_lload_n (pc' := 53) (i := 1) (j := 1) (x := l1) dX4_joined_52 rfl rfl rfl ?_
    refine R_lload_n (pc' := 54) (i := 3) (j := 2) (x := l3) dX4_joined_53 rfl rfl rfl ?_
    refine R_ladd (pc' := 55) (a := l1) (b := l3) dX4_joined_54 rfl ?_
    exact R_lret dX4_joined_55
  · refine R_lload_n (pc' := 57) (i := 1) (j := 1) (x := l1) dX4_joined_56 rfl rfl rfl ?_
    refine R_lload_n (pc' := 58) (i := 3) (j := 2) (x := l3) dX4_joined_57 rfl rfl rfl ?_
    refine R_lsub (pc' := 59) (a := l1) (b := l3) dX4_joined_58 rfl ?_
    exact R_lret dX4_joined_59
  · refine R_lload_n (pc' := 61) (i := 1) (j := 1) (x := l1) dX4_joined_60 rfl rfl rfl ?_
    refine R_lload_n (pc' := 62) (i := 3) (j := 2) (x := l3) dX4_joined_61 rfl rfl rfl ?_
    refine R_lmul (pc' := 63) (a := l1) (b := l3) dX4_joined_62 rfl ?_
    exact R_lret dX4_joined_63
  · refine R_lload_n (pc' := 65) (i := 3) (j := 2) (x := l3) dX4_joined_64 rfl rfl rfl ?_
    refine R_lconst (pc' := 66) (x := (0 : Int64)) dX4_joined_65 rfl (by decide) ?_
    refine R_lcmp (pc' := 67) (a := l3) (b := (0 : Int64)) dX4_joined_66 rfl ?_
    refine R_if_ne (pc' := 70) (tgt := 74) (a := (lg_cmp l3 (0 : Int64))) dX4_joined_67 (by decide) rfl ?_ ?_
    · refine R_lload_n (pc' := 75) (i := 1) (j := 1) (x := l1) dX4_joined_74 rfl rfl rfl ?_
      refine R_lload_n (pc' := 76) (i := 3) (j := 2) (x := l3) dX4_joined_75 rfl rfl rfl ?_
      refine R_ldiv (pc' := 77) (a := l1) (b := l3) dX4_joined_76 rfl ?_
      exact R_sub [] rfl (rf_X4_joined_J77 (l1 / l3) M)
    · refine R_lconst (pc' := 71) (x := (0 : Int64)) dX4_joined_70 rfl (by decide) ?_
      refine R_goto (tgt := 77) dX4_joined_71 (by decide) ?_
      exact R_sub [] rfl (rf_X4_joined_J77 (0 : Int64) M)
  · refine R_lload_n (pc' := 79) (i := 3) (j := 2) (x := l3) dX4_joined_78 rfl rfl rfl ?_
    refine R_lconst (pc' := 80) (x := (0 : Int64)) dX4_joined_79 rfl (by decide) ?_
    refine R_lcmp (pc' := 81) (a := l3) (b := (0 : Int64)) dX4_joined_80 rfl ?_
    refine R_if_ne (pc' := 84) (tgt := 88) (a := (lg_cmp l3 (0 : Int64))) dX4_joined_81 (by decide) rfl ?_ ?_
    · refine R_lload_n (pc' := 89) (i := 1) (j := 1) (x := l1) dX4_joined_88 rfl rfl rfl ?_
      refine R_lload_n (pc' := 90) (i := 3) (j := 2) (x := l3) dX4_joined_89 rfl rfl rfl ?_
      refine R_lrem (pc' := 91) (a := l1) (b := l3) dX4_joined_90 rfl ?_
      exact R_sub [] rfl (rf_X4_joined_J91 (l1 - l1 / l3 * l3) M)
    · refine R_lconst (pc' := 85) (x := (0 : Int64)) dX4_joined_84 rfl (by decide) ?_
      refine R_goto (tgt := 91) dX4_joined_85 (by decide) ?_
      exact R_sub [] rfl (rf_X4_joined_J91 (0 : Int64) M)
  · refine R_lload_n (pc' := 93) (i := 1) (j := 1) (x := l1) dX4_joined_92 rfl rfl rfl ?_
    refine R_lload_n (pc' := 94) (i := 3) (j := 2) (x := l3) dX4_joined_93 rfl rfl rfl ?_
    refine R_lcmp (pc' := 95) (a := l1) (b := l3) dX4_joined_94 rfl ?_
    refine R_if_ge (pc' := 98) (tgt := 102) (a := (lg_cmp l1 l3)) dX4_joined_95 (by decide) rfl ?_ ?_
    · refine R_lconst (pc' := 103) (x := (0 : Int64)) dX4_joined_102 rfl (by decide) ?_
      exact R_sub [] rfl (rf_X4_joined_J103 (0 : Int64) M)
    · refine R_lconst (pc' := 99) (x := (1 : Int64)) dX4_joined_98 rfl (by decide) ?_
      refine R_goto (tgt := 103) dX4_joined_99 (by decide) ?_
      exact R_sub [] rfl (rf_X4_joined_J103 (1 : Int64) M)
  · refine R_lload_n (pc' := 105) (i := 1) (j := 1) (x := l1) dX4_joined_104 rfl rfl rfl ?_
    refine R_lload_n (pc' := 106) (i := 3) (j := 2) (x := l3) dX4_joined_105 rfl rfl rfl ?_
    refine R_lcmp (pc' := 107) (a := l1) (b := l3) dX4_joined_106 rfl ?_
    refine R_if_gt (pc' := 110) (tgt := 114) (a := (lg_cmp l1 l3)) dX4_joined_107 (by decide) rfl ?_ ?_
    · refine R_lconst (pc' := 115) (x := (0 : Int64)) dX4_joined_114 rfl (by decide) ?_
      exact R_sub [] rfl (rf_X4_joined_J115 (0 : Int64) M)
    · refine R_lconst (pc' := 111) (x := (1 : Int64)) dX4_joined_110 rfl (by decide) ?_
      refine R_goto (tgt := 115) dX4_joined_111 (by decide) ?_
      exact R_sub [] rfl (rf_X4_joined_J115 (1 : Int64) M)
  · refine R_lload_n (pc' := 117) (i := 1) (j := 1) (x := l1) dX4_joined_116 rfl rfl rfl ?_
    refine R_lload_n (pc' := 118) (i := 3) (j := 2) (x := l3) dX4_joined_117 rfl rfl rfl ?_
    refine R_lcmp (pc' := 119) (a := l1) (b := l3) dX4_joined_118 rfl ?_
    refine R_if_ne (pc' := 122) (tgt := 126) (a := (lg_cmp l1 l3)) dX4_joined_119 (by decide) rfl ?_ ?_
    · refine R_lconst (pc' := 127) (x := (0 : Int64)) dX4_joined_126 rfl (by decide) ?_
      exact R_sub [] rfl (rf_X4_joined_J127 (0 : Int64) M)
    · refine R_lconst (pc' := 123) (x := (1 : Int64)) dX4_joined_122 rfl (by decide) ?_
      refine R_goto (tgt := 127) dX4_joined_123 (by decide) ?_
      exact R_sub [] rfl (rf_X4_joined_J127 (1 : Int64) M)
  · refine R_lload_n (pc' := 129) (i := 1) (j := 1) (x := l1) dX4_joined_128 rfl rfl rfl ?_
    refine R_lload_n (pc' := 130) (i := 3) (j := 2) (x := l3) dX4_joined_129 rfl rfl rfl ?_
    refine R_lcmp (pc' := 131) (a := l1) (b := l3) dX4_joined_130 rfl ?_
    refine R_if_lt (pc' := 134) (tgt := 138) (a := (lg_cmp l1 l3)) dX4_joined_131 (by decide) rfl ?_ ?_
    · refine R_lconst (pc' := 139) (x := (0 : Int64)) dX4_joined_138 rfl (by decide) ?_
      exact R_sub [] rfl (rf_X4_joined_J139 (0 : Int64) M)
    · refine R_lconst (pc' := 135) (x := (1 : Int64)) dX4_joined_134 rfl (by decide) ?_
      refine R_goto (tgt := 139) dX4_joined_135 (by decide) ?_
      exact R_sub [] rfl (rf_X4_joined_J139 (1 : Int64) M)
/-! BarPilot$Rule.worth([I)J -/
def f_X4_worth_J240 (k16 : Option Nat → Option Nat → Option Nat → Int32 → Int32 → Mem → Option (Int64 × Mem)) (this : Nat) (l1 : Option Nat) (l2 : Option Nat) (l3 : Option Nat) (l4 : Int32) (l5 : Int32) (M : Mem) : Option (Int64 × Mem) :=
  k16 l1 l2 l3 l4 (l5 + (nI 1)) M
set_option maxHeartbeats 2000000 in
set_option maxRecDepth 20000 in
theorem rf_X4_worth_J240 (this : Nat) (k16 : Option Nat → Option Nat → Option Nat → Int32 → Int32 → Mem → Option (Int64 × Mem)) (hk16 : ∀ (l1 : Option Nat) (l2 : Option Nat) (l3 : Option Nat) (l4 : Int32) (l5 : Int32) (M : Mem), RF yX4_worth cX4_worth 8 (some .long) 2 eL (k16 l1 l2 l3 l4 l5 M) 16 [(0, va_rf (some this)), (1, va_rf l1), (2, va_rf l2), (3, va_rf l3), (4, .int l4), (5, .int l5)] [] M) (l1 : Option Nat) (l2 : Option Nat) (l3 : Option Nat) (l4 : Int32) (l5 : Int32) (M : Mem) : RF yX4_worth cX4_worth 8 (some .long) 2 eL (f_X4_worth_J240 k16 this l1 l2 l3 l4 l5 M) 240 [(0, va_rf (some this)), (1, va_rf l1), (2, va_rf l2), (3, va_rf l3), (4, .int l4), (5, .int l5)] [] M := by
  rw [f_X4_worth_J240]
  refine R_iinc (pc' := 243) (L' := [(5, .int (l5 + (nI 1))), (0, va_rf (some this)), (1, va_rf l1), (2, va_rf l2), (3, va_rf l3), (4, .int l4)]) (i := 5) (j := 5) (x := l5) (x2 := (l5 + (nI 1))) dX4_worth_240 rfl rfl rfl (by decide) rfl ?_
  refine R_goto (tgt := 16) dX4_worth_243 (by decide) ?_
  exact R_sub [1, 2, 3, 4, 5, 0] rfl (hk16 l1 l2 l3 l4 (l5 + (nI 1)) M)
def f_X4_worth_J207 (k16 : Option Nat → Option Nat → Option Nat → Int32 → Int32 → Mem → Option (Int64 × Mem)) (this : Nat) (l1 : Option Nat) (l2 : Option Nat) (l3 : Option Nat) (l4 : Int32) (l5 : Int32) (M : Mem) : Option (Int64 × Mem) :=
  f_X4_worth_J240 k16 this l1 l2 l3 (l4 + (-1 : Int32)) l5 M
set_option maxHeartbeats 2000000 in
set_option maxRecDepth 20000 in
theorem rf_X4_worth_J207 (this : Nat) (k16 : Option Nat → Option Nat → Option Nat → Int32 → Int32 → Mem → Option (Int64 × Mem)) (hk16 : ∀ (l1 : Option Nat) (l2 : Option Nat) (l3 : Option Nat) (l4 : Int32) (l5 : Int32) (M : Mem), RF yX4_worth cX4_worth 8 (some .long) 2 eL (k16 l1 l2 l3 l4 l5 M) 16 [(0, va_rf (some this)), (1, va_rf l1), (2, va_rf l2), (3, va_rf l3), (4, .int l4), (5, .int l5)] [] M) (l1 : Option Nat) (l2 : Option Nat) (l3 : Option Nat) (l4 : Int32) (l5 : Int32) (M : Mem) : RF yX4_worth cX4_worth 8 (some .long) 2 eL (f_X4_worth_J207 k16 this l1 l2 l3 l4 l5 M) 207 [(0, va_rf (some this)), (1, va_rf l1), (2, va_rf l2), (3, va_rf l3), (4, .int l4), (5, .int l5)] [] M := by
  rw [f_X4_worth_J207]
  refine R_iinc (pc' := 210) (L' := [(4, .int (l4 + (-1 : Int32))), (0, va_rf (some this)), (1, va_rf l1), (2, va_rf l2), (3, va_rf l3), (5, .int l5)]) (i := 4) (j := 4) (x := l4) (x2 := (l4 + (-1 : Int32))) dX4_worth_207 rfl rfl rfl (by decide) (by simp [stL, rf_cat, cat_I, cat_L, cat_C]) ?_
  refine R_goto (tgt := 240) dX4_worth_210 (by decide) ?_
  exact R_sub [1, 2, 3, 4, 0, 5] rfl (rf_X4_worth_J240 this k16 hk16 l1 l2 l3 (l4 + (-1 : Int32)) l5 M)
def f_X4_worth_L16 (this : Nat) : Nat → Option Nat → Option Nat → Option Nat → Int32 → Int32 → Mem → Option (Int64 × Mem)
  | 0, _, _, _, _, _, _ => none
  | n + 1, l1, l2, l3, l4, l5, M =>
    (lnA M l2).bind fun len1 =>
    (if len1 ≤ l5 then
      (some ((0 : Int64), M))
    else
      ((aI M 0 l2 l5).bind fun e2 =>
      nm (e2 >>> ((nI 20) &&& 31)) fun v3 =>
      (aI M 0 l2 l5).bind fun e4 =>
      nm (e4 &&& (nI 1048575)) fun v5 =>
      (oO M 4 (some this)).bind fun o19 => cl (f_X4_fits o19 v3 v5 l4 M) fun r6 M =>
      (if r6 = 0 then
        (some ((0 : Int64), M))
      else
        ((tsw v3 (0) [
          ((wL M l3 (l4 + (nI 1)) (Int32.toInt64 v5)).bind fun M =>
          f_X4_worth_J240 (f_X4_worth_L16 this n) this l1 l2 l3 (l4 + (nI 1)) l5 M),
          ((aI M 0 l1 v5).bind fun e10 =>
          (wL M l3 (l4 + (nI 1)) (Int32.toInt64 e10)).bind fun M =>
          f_X4_worth_J240 (f_X4_worth_L16 this n) this l1 l2 l3 (l4 + (nI 1)) l5 M),
          ((aL M l3 l4).bind fun e11 =>
          (wL M l3 l4 ((1 : Int64) - e11)).bind fun M =>
          f_X4_worth_J240 (f_X4_worth_L16 this n) this l1 l2 l3 l4 l5 M),
          ((aL M l3 l4).bind fun e12 =>
          (if (lg_cmp e12 (0 : Int64)) = 0 then
            (nm (l5 + v5) fun v13 =>
            f_X4_worth_J240 (f_X4_worth_L16 this n) this l1 l2 l3 l4 v13 M)
          else
            (f_X4_worth_J240 (f_X4_worth_L16 this n) this l1 l2 l3 (l4 + (-1 : Int32)) l5 M))),
          ((aL M l3 l4).bind fun e14 =>
          (if (lg_cmp e14 (0 : Int64)) = 0 then
            (f_X4_worth_J240 (f_X4_worth_L16 this n) this l1 l2 l3 (l4 + (-1 : Int32)) l5 M)
          else
            (nm (l5 + v5) fun v15 =>
            f_X4_worth_J240 (f_X4_worth_L16 this n) this l1 l2 l3 l4 v15 M))),
          ((aL M l3 l4).bind fun e16 =>
          (if (lg_cmp e16 (0 : Int64)) = 0 then
            (nm (l5 + v5) fun v17 =>
            f_X4_worth_J207 (f_X4_worth_L16 this n) this l1 l2 l3 l4 v17 M)
          else
            (f_X4_worth_J207 (f_X4_worth_L16 this n) this l1 l2 l3 l4 l5 M))),
          ((aL M l3 l4).bind fun e18 =>
          some (e18, M))]
          ((aL M l3 (l4 + (-1 : Int32))).bind fun e7 =>
          (aL M l3 ((l4 + (-1 : Int32)) + (nI 1))).bind fun e8 =>
          cl (f_X4_joined v3 e7 e8 M) fun r9 M =>
          (wL M l3 (l4 + (-1 : Int32)) r9).bind fun M =>
          f_X4_worth_J240 (f_X4_worth_L16 this n) this l1 l2 l3 (l4 + (-1 : Int32)) l5 M))))))
set_option maxHeartbeats 2000000 in
set_option maxRecDepth 20000 in
theorem rf_X4_worth_L16 (this : Nat) : ∀ (n : Nat) (l1 : Option Nat) (l2 : Option Nat) (l3 : Option Nat) (l4 : Int32) (l5 : Int32) (M : Mem), RF yX4_worth cX4_worth 8 (some .long) 2 eL (f_X4_worth_L16 this n l1 l2 l3 l4 l5 M) 16 [(0, va_rf (some this)), (1, va_rf l1), (2, va_rf l2), (3, va_rf l3), (4, .int l4), (5, .int l5)] [] M := by
  intro n
  induction n with
  | zero => intro _ _ _ _ _ _; exact RF.none
  | succ n ih =>
    intro l1 l2 l3 l4 l5 M
    rw [f_X4_worth_L16]
    refine R_iload (pc' := 18) (i := 5) (j := 5) (x := l5) dX4_worth_16 rfl rfl ?_
    refine R_aloadq_n (pc' := 19) (i := 2) (j := 2) (q := l2) dX4_worth_18 rfl rfl rfl ?_
    refine R_alen (pc' := 20) (q := l2) dX4_worth_19 rfl (fun len1 => ?_)
    refine R_icmp_ge (pc' := 23) (tgt := 246) (a := l5) (b := len1) dX4_worth_20 (by decide) rfl ?_ ?_
    · refine R_lconst (pc' := 247) (x := (0 : Int64)) dX4_worth_246 rfl (by decide) ?_
      exact R_lret dX4_worth_247
    · refine R_aloadq_n (pc' := 24) (i := 2) (j := 2) (q := l2) dX4_worth_23 rfl rfl rfl ?_
      refine R_iload (pc' := 26) (i := 5) (j := 5) (x := l5) dX4_worth_24 rfl rfl ?_
      refine R_iald (pc' := 27) (q := l2) (i := l5) dX4_worth_26 rfl (fun e2 => ?_)
      refine R_bipush (pc' := 29) (x := (nI 20)) dX4_worth_27 rfl (by decide) ?_
      refine R_ishr (pc' := 30) (a := e2) (b := (nI 20)) dX4_worth_29 rfl ?_
      refine R_nmI (fun v3 => ?_)
      refine R_istore (pc' := 32) (L' := [(6, .int v3), (0, va_rf (some this)), (1, va_rf l1), (2, va_rf l2), (3, va_rf l3), (4, .int l4), (5, .int l5)]) (i := 6) (x := v3) dX4_worth_30 rfl (by decide) rfl ?_
      refine R_aloadq_n (pc' := 33) (i := 2) (j := 3) (q := l2) dX4_worth_32 rfl rfl rfl ?_
      refine R_iload (pc' := 35) (i := 5) (j := 6) (x := l5) dX4_worth_33 rfl rfl ?_
      refine R_iald (pc' := 36) (q := l2) (i := l5) dX4_worth_35 rfl (fun e4 => ?_)
      refine R_ldc (pc' := 38) (x := (nI 1048575)) dX4_worth_36 rfl co_X4_27 ?_
      refine R_iand (pc' := 39) (a := e4) (b := (nI 1048575)) dX4_worth_38 rfl ?_
      refine R_nmI (fun v5 => ?_)
      refine R_istore (pc' := 41) (L' := [(7, .int v5), (6, .int v3), (0, va_rf (some this)), (1, va_rf l1), (2, va_rf l2), (3, va_rf l3), (4, .int l4), (5, .int l5)]) (i := 7) (x := v5) dX4_worth_39 rfl (by decide) rfl ?_
      refine R_aloadq_n (pc' := 42) (i := 0) (j := 2) (q := (some this)) dX4_worth_41 rfl rfl rfl ?_
      refine R_iload (pc' := 44) (i := 6) (j := 1) (x := v3) dX4_worth_42 rfl rfl ?_
      refine R_iload (pc' := 46) (i := 7) (j := 0) (x := v5) dX4_worth_44 rfl rfl ?_
      refine R_iload (pc' := 48) (i := 4) (j := 6) (x := l4) dX4_worth_46 rfl rfl ?_
      refine R_callV_I (pc' := 51) (q := (some this)) (As := [.int v3, .int v5, .int l4]) (fun o19 => rm_X4_fits o19 v3 v5 l4 M) mf_X4_fits lk_X4_28 im_X4_fits se_X4_fits rfl rfl rfl dX4_worth_48 rfl (by decide) (Nat.le_trans c_0 (by decide)) (fun r6 M => ?_)
      refine R_if_ne (pc' := 54) (tgt := 56) (a := r6) dX4_worth_51 (by decide) rfl ?_ ?_
      · refine R_iload (pc' := 58) (i := 6) (j := 1) (x := v3) dX4_worth_56 rfl rfl ?_
        refine R_tsw (tgt := 218) (x := v3) dX4_worth_58 rfl (by decide) ?_ ⟨⟨100, by decide, ?_⟩, ⟨113, by decide, ?_⟩, ⟨128, by decide, ?_⟩, ⟨141, by decide, ?_⟩, ⟨166, by decide, ?_⟩, ⟨191, by decide, ?_⟩, ⟨213, by decide, ?_⟩, trivial⟩
        · refine R_iinc (pc' := 221) (L' := [(4, .int (l4 + (-1 : Int32))), (7, .int v5), (6, .int v3), (0, va_rf (some this)), (1, va_rf l1), (2, va_rf l2), (3, va_rf l3), (5, .int l5)]) (i := 4) (j := 6) (x := l4) (x2 := (l4 + (-1 : Int32))) dX4_worth_218 rfl rfl rfl (by decide) (by simp [stL, rf_cat, cat_I, cat_L, cat_C]) ?_
          refine R_aloadq_n (pc' := 222) (i := 3) (j := 6) (q := l3) dX4_worth_221 rfl rfl rfl ?_
          refine R_iload (pc' := 224) (i := 4) (j := 0) (x := (l4 + (-1 : Int32))) dX4_worth_222 rfl rfl ?_
          refine R_iload (pc' := 226) (i := 6) (j := 2) (x := v3) dX4_worth_224 rfl rfl ?_
          refine R_aloadq_n (pc' := 227) (i := 3) (j := 6) (q := l3) dX4_worth_226 rfl rfl rfl ?_
          refine R_iload (pc' := 229) (i := 4) (j := 0) (x := (l4 + (-1 : Int32))) dX4_worth_227 rfl rfl ?_
          refine R_lald (pc' := 230) (q := l3) (i := (l4 + (-1 : Int32))) dX4_worth_229 rfl (fun e7 => ?_)
          refine R_aloadq_n (pc' := 231) (i := 3) (j := 6) (q := l3) dX4_worth_230 rfl rfl rfl ?_
          refine R_iload (pc' := 233) (i := 4) (j := 0) (x := (l4 + (-1 : Int32))) dX4_worth_231 rfl rfl ?_
          refine R_iconst (pc' := 234) (x := (nI 1)) dX4_worth_233 rfl (by decide) ?_
          refine R_iadd (pc' := 235) (a := (l4 + (-1 : Int32))) (b := (nI 1)) dX4_worth_234 rfl ?_
          refine R_lald (pc' := 236) (q := l3) (i := ((l4 + (-1 : Int32)) + (nI 1))) dX4_worth_235 rfl (fun e8 => ?_)
          refine R_callS_L (pc' := 239) (As := [.int v3, .long e7, .long e8]) (rm_X4_joined v3 e7 e8 M) mf_X4_joined lk_X4_32 sm_X4_joined rfl rfl dX4_worth_236 rfl (by decide) (Nat.le_trans (c_I (c_R c_0)) (by decide)) (fun r9 M => ?_)
          refine R_last (pc' := 240) (q := l3) (i := (l4 + (-1 : Int32))) (x := r9) dX4_worth_239 rfl (fun M => ?_)
          exact R_sub [3, 4, 5, 6, 0, 7] rfl (rf_X4_worth_J240 this (f_X4_worth_L16 this n) ih l1 l2 l3 (l4 + (-1 : Int32)) l5 M)
        · refine R_iinc (pc' := 103) (L' := [(4, .int (l4 + (nI 1))), (7, .int v5), (6, .int v3), (0, va_rf (some this)), (1, va_rf l1), (2, va_rf l2), (3, va_rf l3), (5, .int l5)]) (i := 4) (j := 6) (x := l4) (x2 := (l4 + (nI 1))) dX4_worth_100 rfl rfl rfl (by decide) (by simp [stL, rf_cat, cat_I, cat_L, cat_C]) ?_
          refine R_aloadq_n (pc' := 104) (i := 3) (j := 6) (q := l3) dX4_worth_103 rfl rfl rfl ?_
          refine R_iload (pc' := 106) (i := 4) (j := 0) (x := (l4 + (nI 1))) dX4_worth_104 rfl rfl ?_
          refine R_iload (pc' := 108) (i := 7) (j := 1) (x := v5) dX4_worth_106 rfl rfl ?_
          refine R_i2l (pc' := 109) (a := v5) dX4_worth_108 rfl ?_
          refine R_last (pc' := 110) (q := l3) (i := (l4 + (nI 1))) (x := (Int32.toInt64 v5)) dX4_worth_109 rfl (fun M => ?_)
          refine R_goto (tgt := 240) dX4_worth_110 (by decide) ?_
          exact R_sub [3, 4, 5, 6, 0, 7] rfl (rf_X4_worth_J240 this (f_X4_worth_L16 this n) ih l1 l2 l3 (l4 + (nI 1)) l5 M)
        · refine R_iinc (pc' := 116) (L' := [(4, .int (l4 + (nI 1))), (7, .int v5), (6, .int v3), (0, va_rf (some this)), (1, va_rf l1), (2, va_rf l2), (3, va_rf l3), (5, .int l5)]) (i := 4) (j := 6) (x := l4) (x2 := (l4 + (nI 1))) dX4_worth_113 rfl rfl rfl (by decide) (by simp [stL, rf_cat, cat_I, cat_L, cat_C]) ?_
          refine R_aloadq_n (pc' := 117) (i := 3) (j := 6) (q := l3) dX4_worth_116 rfl rfl rfl ?_
          refine R_iload (pc' := 119) (i := 4) (j := 0) (x := (l4 + (nI 1))) dX4_worth_117 rfl rfl ?_
          refine R_aloadq_n (pc' := 120) (i := 1) (j := 4) (q := l1) dX4_worth_119 rfl rfl rfl ?_
          refine R_iload (pc' := 122) (i := 7) (j := 1) (x := v5) dX4_worth_120 rfl rfl ?_
          refine R_iald (pc' := 123) (q := l1) (i := v5) dX4_worth_122 rfl (fun e10 => ?_)
          refine R_i2l (pc' := 124) (a := e10) dX4_worth_123 rfl ?_
          refine R_last (pc' := 125) (q := l3) (i := (l4 + (nI 1))) (x := (Int32.toInt64 e10)) dX4_worth_124 rfl (fun M => ?_)
          refine R_goto (tgt := 240) dX4_worth_125 (by decide) ?_
          exact R_sub [3, 4, 5, 6, 0, 7] rfl (rf_X4_worth_J240 this (f_X4_worth_L16 this n) ih l1 l2 l3 (l4 + (nI 1)) l5 M)
        · refine R_aloadq_n (pc' := 129) (i := 3) (j := 5) (q := l3) dX4_worth_128 rfl rfl rfl ?_
          refine R_iload (pc' := 131) (i := 4) (j := 6) (x := l4) dX4_worth_129 rfl rfl ?_
          refine R_lconst (pc' := 132) (x := (1 : Int64)) dX4_worth_131 rfl (by decide) ?_
          refine R_aloadq_n (pc' := 133) (i := 3) (j := 5) (q := l3) dX4_worth_132 rfl rfl rfl ?_
          refine R_iload (pc' := 135) (i := 4) (j := 6) (x := l4) dX4_worth_133 rfl rfl ?_
          refine R_lald (pc' := 136) (q := l3) (i := l4) dX4_worth_135 rfl (fun e11 => ?_)
          refine R_lsub (pc' := 137) (a := (1 : Int64)) (b := e11) dX4_worth_136 rfl ?_
          refine R_last (pc' := 138) (q := l3) (i := l4) (x := ((1 : Int64) - e11)) dX4_worth_137 rfl (fun M => ?_)
          refine R_goto (tgt := 240) dX4_worth_138 (by decide) ?_
          exact R_sub [2, 3, 4, 5, 6, 7] rfl (rf_X4_worth_J240 this (f_X4_worth_L16 this n) ih l1 l2 l3 l4 l5 M)
        · refine R_aloadq_n (pc' := 142) (i := 3) (j := 5) (q := l3) dX4_worth_141 rfl rfl rfl ?_
          refine R_iload (pc' := 144) (i := 4) (j := 6) (x := l4) dX4_worth_142 rfl rfl ?_
          refine R_lald (pc' := 145) (q := l3) (i := l4) dX4_worth_144 rfl (fun e12 => ?_)
          refine R_lconst (pc' := 146) (x := (0 : Int64)) dX4_worth_145 rfl (by decide) ?_
          refine R_lcmp (pc' := 147) (a := e12) (b := (0 : Int64)) dX4_worth_146 rfl ?_
          refine R_if_ne (pc' := 150) (tgt := 160) (a := (lg_cmp e12 (0 : Int64))) dX4_worth_147 (by decide) rfl ?_ ?_
          · refine R_iinc (pc' := 163) (L' := [(4, .int (l4 + (-1 : Int32))), (7, .int v5), (6, .int v3), (0, va_rf (some this)), (1, va_rf l1), (2, va_rf l2), (3, va_rf l3), (5, .int l5)]) (i := 4) (j := 6) (x := l4) (x2 := (l4 + (-1 : Int32))) dX4_worth_160 rfl rfl rfl (by decide) (by simp [stL, rf_cat, cat_I, cat_L, cat_C]) ?_
            refine R_goto (tgt := 240) dX4_worth_163 (by decide) ?_
            exact R_sub [3, 4, 5, 6, 0, 7] rfl (rf_X4_worth_J240 this (f_X4_worth_L16 this n) ih l1 l2 l3 (l4 + (-1 : Int32)) l5 M)
          · refine R_iload (pc' := 152) (i := 5) (j := 7) (x := l5) dX4_worth_150 rfl rfl ?_
            refine R_iload (pc' := 154) (i := 7) (j := 0) (x := v5) dX4_worth_152 rfl rfl ?_
            refine R_iadd (pc' := 155) (a := l5) (b := v5) dX4_worth_154 rfl ?_
            refine R_nmI (fun v13 => ?_)
            refine R_istore (pc' := 157) (L' := [(5, .int v13), (7, .int v5), (6, .int v3), (0, va_rf (some this)), (1, va_rf l1), (2, va_rf l2), (3, va_rf l3), (4, .int l4)]) (i := 5) (x := v13) dX4_worth_155 rfl (by decide) rfl ?_
            refine R_goto (tgt := 240) dX4_worth_157 (by decide) ?_
            exact R_sub [3, 4, 5, 6, 7, 0] rfl (rf_X4_worth_J240 this (f_X4_worth_L16 this n) ih l1 l2 l3 l4 v13 M)
        · refine R_aloadq_n (pc' := 167) (i := 3) (j := 5) (q := l3) dX4_worth_166 rfl rfl rfl ?_
          refine R_iload (pc' := 169) (i := 4) (j := 6) (x := l4) dX4_worth_167 rfl rfl ?_
          refine R_lald (pc' := 170) (q := l3) (i := l4) dX4_worth_169 rfl (fun e14 => ?_)
          refine R_lconst (pc' := 171) (x := (0 : Int64)) dX4_worth_170 rfl (by decide) ?_
          refine R_lcmp (pc' := 172) (a := e14) (b := (0 : Int64)) dX4_worth_171 rfl ?_
          refine R_if_eq (pc' := 175) (tgt := 185) (a := (lg_cmp e14 (0 : Int64))) dX4_worth_172 (by decide) rfl ?_ ?_
          · refine R_iinc (pc' := 188) (L' := [(4, .int (l4 + (-1 : Int32))), (7, .int v5), (6, .int v3), (0, va_rf (some this)), (1, va_rf l1), (2, va_rf l2), (3, va_rf l3), (5, .int l5)]) (i := 4) (j := 6) (x := l4) (x2 := (l4 + (-1 : Int32))) dX4_worth_185 rfl rfl rfl (by decide) (by simp [stL, rf_cat, cat_I, cat_L, cat_C]) ?_
            refine R_goto (tgt := 240) dX4_worth_188 (by decide) ?_
            exact R_sub [3, 4, 5, 6, 0, 7] rfl (rf_X4_worth_J240 this (f_X4_worth_L16 this n) ih l1 l2 l3 (l4 + (-1 : Int32)) l5 M)
          · refine R_iload (pc' := 177) (i := 5) (j := 7) (x := l5) dX4_worth_175 rfl rfl ?_
            refine R_iload (pc' := 179) (i := 7) (j := 0) (x := v5) dX4_worth_177 rfl rfl ?_
            refine R_iadd (pc' := 180) (a := l5) (b := v5) dX4_worth_179 rfl ?_
            refine R_nmI (fun v15 => ?_)
            refine R_istore (pc' := 182) (L' := [(5, .int v15), (7, .int v5), (6, .int v3), (0, va_rf (some this)), (1, va_rf l1), (2, va_rf l2), (3, va_rf l3), (4, .int l4)]) (i := 5) (x := v15) dX4_worth_180 rfl (by decide) rfl ?_
            refine R_goto (tgt := 240) dX4_worth_182 (by decide) ?_
            exact R_sub [3, 4, 5, 6, 7, 0] rfl (rf_X4_worth_J240 this (f_X4_worth_L16 this n) ih l1 l2 l3 l4 v15 M)
        · refine R_aloadq_n (pc' := 192) (i := 3) (j := 5) (q := l3) dX4_worth_191 rfl rfl rfl ?_
          refine R_iload (pc' := 194) (i := 4) (j := 6) (x := l4) dX4_worth_192 rfl rfl ?_
          refine R_lald (pc' := 195) (q := l3) (i := l4) dX4_worth_194 rfl (fun e16 => ?_)
          refine R_lconst (pc' := 196) (x := (0 : Int64)) dX4_worth_195 rfl (by decide) ?_
          refine R_lcmp (pc' := 197) (a := e16) (b := (0 : Int64)) dX4_worth_196 rfl ?_
          refine R_if_ne (pc' := 200) (tgt := 207) (a := (lg_cmp e16 (0 : Int64))) dX4_worth_197 (by decide) rfl ?_ ?_
          · exact R_sub [2, 3, 4, 5, 6, 7] rfl (rf_X4_worth_J207 this (f_X4_worth_L16 this n) ih l1 l2 l3 l4 l5 M)
          · refine R_iload (pc' := 202) (i := 5) (j := 7) (x := l5) dX4_worth_200 rfl rfl ?_
            refine R_iload (pc' := 204) (i := 7) (j := 0) (x := v5) dX4_worth_202 rfl rfl ?_
            refine R_iadd (pc' := 205) (a := l5) (b := v5) dX4_worth_204 rfl ?_
            refine R_nmI (fun v17 => ?_)
            refine R_istore (pc' := 207) (L' := [(5, .int v17), (7, .int v5), (6, .int v3), (0, va_rf (some this)), (1, va_rf l1), (2, va_rf l2), (3, va_rf l3), (4, .int l4)]) (i := 5) (x := v17) dX4_worth_205 rfl (by decide) rfl ?_
            exact R_sub [3, 4, 5, 6, 7, 0] rfl (rf_X4_worth_J207 this (f_X4_worth_L16 this n) ih l1 l2 l3 l4 v17 M)
        · refine R_aloadq_n (pc' := 214) (i := 3) (j := 5) (q := l3) dX4_worth_213 rfl rfl rfl ?_
          refine R_iload (pc' := 216) (i := 4) (j := 6) (x := l4) dX4_worth_214 rfl rfl ?_
          refine R_lald (pc' := 217) (q := l3) (i := l4) dX4_worth_216 rfl (fun e18 => ?_)
          exact R_lret dX4_worth_217
      · refine R_lconst (pc' := 55) (x := (0 : Int64)) dX4_worth_54 rfl (by decide) ?_
        exact R_lret dX4_worth_55
def f_X4_worth (this : Nat) (l1 : Option Nat) (M : Mem) : Option (Int64 × Mem) :=
  (gR M 4 3 (some this)).bind fun code1 =>
  (gR M 4 4 (some this)).bind fun stack2 =>
  f_X4_worth_L16 this FU l1 code1 stack2 (-1 : Int32) (nI 0) M
set_option maxHeartbeats 2000000 in
set_option maxRecDepth 20000 in
theorem rm_X4_worth (this : Nat) (l1 : Option Nat) (M : Mem) : RFm yX4_worth cX4_worth 8 (some .long) 2 eL (f_X4_worth this l1 M) [va_rf (some this), va_rf l1] M := by
  refine RFm_of (L := [(0, va_rf (some this)), (1, va_rf l1)]) (by decide) (by simp only [lva_R, lva_I, lva_L, lva_C, lva_0]) (Nat.le_trans (c_R (c_R c_0)) (by decide)) ?_
  rw [f_X4_worth]
  refine R_aloadq_n (pc' := 1) (i := 0) (j := 0) (q := (some this)) dX4_worth_0 rfl rfl rfl ?_
  refine R_getR (pc' := 4) (q := (some this)) fl_X4_13 rfl dX4_worth_1 rfl (fun code1 => ?_)
  refine R_astoreq_n (pc' := 5) (L' := [(2, va_rf code1), (0, va_rf (some this)), (1, va_rf l1)]) (i := 2) (q := code1) dX4_worth_4 rfl rfl (by decide) (by simp [stL, rf_cat, cat_I, cat_L, cat_C]) ?_
  refine R_aloadq_n (pc' := 6) (i := 0) (j := 1) (q := (some this)) dX4_worth_5 rfl rfl rfl ?_
  refine R_getR (pc' := 9) (q := (some this)) fl_X4_9 rfl dX4_worth_6 rfl (fun stack2 => ?_)
  refine R_astoreq_n (pc' := 10) (L' := [(3, va_rf stack2), (2, va_rf code1), (0, va_rf (some this)), (1, va_rf l1)]) (i := 3) (q := stack2) dX4_worth_9 rfl rfl (by decide) (by simp [stL, rf_cat, cat_I, cat_L, cat_C]) ?_
  refine R_iconst (pc' := 11) (x := (-1 : Int32)) dX4_worth_10 rfl (by decide) ?_
  refine R_istore (pc' := 13) (L' := [(4, .int (-1 : Int32)), (3, va_rf stack2), (2, va_rf code1), (0, va_rf (some this)), (1, va_rf l1)]) (i := 4) (x := (-1 : Int32)) dX4_worth_11 rfl (by decide) (by simp [stL, rf_cat, cat_I, cat_L, cat_C]) ?_
  refine R_iconst (pc' := 14) (x := (nI 0)) dX4_worth_13 rfl (by decide) ?_
  refine R_istore (pc' := 16) (L' := [(5, .int (nI 0)), (4, .int (-1 : Int32)), (3, va_rf stack2), (2, va_rf code1), (0, va_rf (some this)), (1, va_rf l1)]) (i := 5) (x := (nI 0)) dX4_worth_14 rfl (by decide) rfl ?_
  exact R_sub [4, 5, 3, 2, 1, 0] rfl (rf_X4_worth_L16 this FU l1 code1 stack2 (-1 : Int32) (nI 0) M)
/-! BarPilot$Scene.<init>()V -/
def f_X6_init (this : Nat) (M : Mem) : Option (Unit × Mem) :=
  newA M 0 (nI 8) fun a1 M =>
  (pR M 6 1 (some this) (some a1)).bind fun M =>
  newA M 0 (nI 5) fun a2 M =>
  (pR M 6 2 (some this) (some a2)).bind fun M =>
  newA M 0 (nI 5) fun a3 M =>
  (pR M 6 3 (some this) (some a3)).bind fun M =>
  (gR M 6 1 (some this)).bind fun heard4 =>
  cl (f_J7_fill_53178 heard4 (-100000 : Int32) M) fun u5 M =>
  (gR M 6 3 (some this)).bind fun passed6 =>
  cl (f_J7_fill_53178 passed6 (-1 : Int32) M) fun u7 M =>
  some ((), M)
set_option maxHeartbeats 2000000 in
set_option maxRecDepth 20000 in
theorem rm_X6_init (this : Nat) (M : Mem) : RFm yX6_init cX6_init 1 none 2 eV (f_X6_init this M) [va_rf (some this)] M := by
  refine RFm_of (L := [(0, va_rf (some this))]) (by decide) rfl (Nat.le_trans (c_R c_0) (by decide)) ?_
  rw [f_X6_init]
  refine R_aloadq_n (pc' := 1) (i := 0) (j := 0) (q := (some this)) dX6_init_0 rfl rfl rfl ?_
  refine R_objInit (pc' := 4) (a := this) lko_X6_3 ob_in ob_co dX6_init_1 rfl (by decide) (Nat.le_trans c_0 (by decide)) ?_
  refine R_aloadq_n (pc' := 5) (i := 0) (j := 0) (q := (some this)) dX6_init_4 rfl rfl rfl ?_
  refine R_bipush (pc' := 7) (x := (nI 8)) dX6_init_5 rfl (by decide) ?_
  refine R_newa (pc' := 9) (at0 := .int) (ty := .int) (t := 0) (n := (nI 8)) rfl rfl (by decide) ac_int (by decide) rfl dX6_init_7 rfl (fun a1 M => ?_)
  refine R_putR (pc' := 12) (q := (some this)) (x := (some a1)) fl_X6_9 rfl (Or.inr ⟨rfl, rfl⟩) dX6_init_9 rfl (fun M => ?_)
  refine R_aloadq_n (pc' := 13) (i := 0) (j := 0) (q := (some this)) dX6_init_12 rfl rfl rfl ?_
  refine R_iconst (pc' := 14) (x := (nI 5)) dX6_init_13 rfl (by decide) ?_
  refine R_newa (pc' := 16) (at0 := .int) (ty := .int) (t := 0) (n := (nI 5)) rfl rfl (by decide) ac_int (by decide) rfl dX6_init_14 rfl (fun a2 M => ?_)
  refine R_putR (pc' := 19) (q := (some this)) (x := (some a2)) fl_X6_15 rfl (Or.inr ⟨rfl, rfl⟩) dX6_init_16 rfl (fun M => ?_)
  refine R_aloadq_n (pc' := 20) (i := 0) (j := 0) (q := (some this)) dX6_init_19 rfl rfl rfl ?_
  refine R_iconst (pc' := 21) (x := (nI 5)) dX6_init_20 rfl (by decide) ?_
  refine R_newa (pc' := 23) (at0 := .int) (ty := .int) (t := 0) (n := (nI 5)) rfl rfl (by decide) ac_int (by decide) rfl dX6_init_21 rfl (fun a3 M => ?_)
  refine R_putR (pc' := 26) (q := (some this)) (x := (some a3)) fl_X6_18 rfl (Or.inr ⟨rfl, rfl⟩) dX6_init_23 rfl (fun M => ?_)
  refine R_aloadq_n (pc' := 27) (i := 0) (j := 0) (q := (some this)) dX6_init_26 rfl rfl rfl ?_
  refine R_getR (pc' := 30) (q := (some this)) fl_X6_9 rfl dX6_init_27 rfl (fun heard4 => ?_)
  refine R_ldc (pc' := 32) (x := (-100000 : Int32)) dX6_init_30 rfl co_X6_21 ?_
  refine R_callS_V (pc' := 35) (As := [va_rf heard4, .int (-100000 : Int32)]) (rm_J7_fill_53178 heard4 (-100000 : Int32) M) mf_J7_fill_53178 lk_X6_22 sm_J7_fill_53178 rfl rfl dX6_init_32 rfl (by decide) (Nat.le_trans c_0 (by decide)) (fun u5 M => ?_)
  refine R_aloadq_n (pc' := 36) (i := 0) (j := 0) (q := (some this)) dX6_init_35 rfl rfl rfl ?_
  refine R_getR (pc' := 39) (q := (some this)) fl_X6_18 rfl dX6_init_36 rfl (fun passed6 => ?_)
  refine R_iconst (pc' := 40) (x := (-1 : Int32)) dX6_init_39 rfl (by decide) ?_
  refine R_callS_V (pc' := 43) (As := [va_rf passed6, .int (-1 : Int32)]) (rm_J7_fill_53178 passed6 (-1 : Int32) M) mf_J7_fill_53178 lk_X6_22 sm_J7_fill_53178 rfl rfl dX6_init_40 rfl (by decide) (Nat.le_trans c_0 (by decide)) (fun u7 M => ?_)
  exact R_vret dX6_init_43
/-! BarPilot$Scene.begin(LBarPilot$Told;)V -/
def f_X6_begin (this : Nat) (l1 : Option Nat) (M : Mem) : Option (Unit × Mem) :=
  (pI M 6 0 (some this) (nI 0)).bind fun M =>
  (gR M 6 1 (some this)).bind fun heard1 =>
  cl (f_J7_fill_53178 heard1 (-100000 : Int32) M) fun u2 M =>
  (gR M 6 3 (some this)).bind fun passed3 =>
  cl (f_J7_fill_53178 passed3 (-1 : Int32) M) fun u4 M =>
  (gR M 8 8 l1).bind fun knows5 =>
  (gR M 6 2 (some this)).bind fun knows6 =>
  (cpy M knows5 (nI 0) knows6 (nI 0) (nI 5)).bind fun M =>
  some ((), M)
set_option maxHeartbeats 2000000 in
set_option maxRecDepth 20000 in
theorem rm_X6_begin (this : Nat) (l1 : Option Nat) (M : Mem) : RFm yX6_begin cX6_begin 2 none 2 eV (f_X6_begin this l1 M) [va_rf (some this), va_rf l1] M := by
  refine RFm_of (L := [(0, va_rf (some this)), (1, va_rf l1)]) (by decide) (by simp only [lva_R, lva_I, lva_L, lva_C, lva_0]) (Nat.le_trans (c_R (c_R c_0)) (by decide)) ?_
  rw [f_X6_begin]
  refine R_aloadq_n (pc' := 1) (i := 0) (j := 0) (q := (some this)) dX6_begin_0 rfl rfl rfl ?_
  refine R_iconst (pc' := 2) (x := (nI 0)) dX6_begin_1 rfl (by decide) ?_
  refine R_putI (pc' := 5) (q := (some this)) (x := (nI 0)) fl_X6_28 (Or.inl rfl) dX6_begin_2 rfl (fun M => ?_)
  refine R_aloadq_n (pc' := 6) (i := 0) (j := 0) (q := (some this)) dX6_begin_5 rfl rfl rfl ?_
  refine R_getR (pc' := 9) (q := (some this)) fl_X6_9 rfl dX6_begin_6 rfl (fun heard1 => ?_)
  refine R_ldc (pc' := 11) (x := (-100000 : Int32)) dX6_begin_9 rfl co_X6_21 ?_
  refine R_callS_V (pc' := 14) (As := [va_rf heard1, .int (-100000 : Int32)]) (rm_J7_fill_53178 heard1 (-100000 : Int32) M) mf_J7_fill_53178 lk_X6_22 sm_J7_fill_53178 rfl rfl dX6_begin_11 rfl (by decide) (Nat.le_trans c_0 (by decide)) (fun u2 M => ?_)
  refine R_aloadq_n (pc' := 15) (i := 0) (j := 0) (q := (some this)) dX6_begin_14 rfl rfl rfl ?_
  refine R_getR (pc' := 18) (q := (some this)) fl_X6_18 rfl dX6_begin_15 rfl (fun passed3 => ?_)
  refine R_iconst (pc' := 19) (x := (-1 : Int32)) dX6_begin_18 rfl (by decide) ?_
  refine R_callS_V (pc' := 22) (As := [va_rf passed3, .int (-1 : Int32)]) (rm_J7_fill_53178 passed3 (-1 : Int32) M) mf_J7_fill_53178 lk_X6_22 sm_J7_fill_53178 rfl rfl dX6_begin_19 rfl (by decide) (Nat.le_trans c_0 (by decide)) (fun u4 M => ?_)
  refine R_aloadq_n (pc' := 23) (i := 1) (j := 1) (q := l1) dX6_begin_22 rfl rfl rfl ?_
  refine R_getR (pc' := 26) (q := l1) fl_X6_32 rfl dX6_begin_23 rfl (fun knows5 => ?_)
  refine R_iconst (pc' := 27) (x := (nI 0)) dX6_begin_26 rfl (by decide) ?_
  refine R_aloadq_n (pc' := 28) (i := 0) (j := 0) (q := (some this)) dX6_begin_27 rfl rfl rfl ?_
  refine R_getR (pc' := 31) (q := (some this)) fl_X6_15 rfl dX6_begin_28 rfl (fun knows6 => ?_)
  refine R_iconst (pc' := 32) (x := (nI 0)) dX6_begin_31 rfl (by decide) ?_
  refine R_iconst (pc' := 33) (x := (nI 5)) dX6_begin_32 rfl (by decide) ?_
  refine R_acopy (pc' := 36) (q0 := knows5) (sp := (nI 0)) (q1 := knows6) (dp := (nI 0)) (n := (nI 5)) lka_X6_35 sy_na sy_st sy_in dX6_begin_33 rfl (by decide) (Nat.le_trans c_0 (by decide)) (fun M => ?_)
  exact R_vret dX6_begin_36
/-! BarPilot$Scene.copyFrom(LBarPilot$Scene;)V -/
def f_X6_copyFrom (this : Nat) (l1 : Option Nat) (M : Mem) : Option (Unit × Mem) :=
  (gI M 6 0 l1).bind fun tide1 =>
  (pI M 6 0 (some this) tide1).bind fun M =>
  (gR M 6 1 l1).bind fun heard2 =>
  (gR M 6 1 (some this)).bind fun heard3 =>
  (cpy M heard2 (nI 0) heard3 (nI 0) (nI 8)).bind fun M =>
  (gR M 6 2 l1).bind fun knows4 =>
  (gR M 6 2 (some this)).bind fun knows5 =>
  (cpy M knows4 (nI 0) knows5 (nI 0) (nI 5)).bind fun M =>
  (gR M 6 3 l1).bind fun passed6 =>
  (gR M 6 3 (some this)).bind fun passed7 =>
  (cpy M passed6 (nI 0) passed7 (nI 0) (nI 5)).bind fun M =>
  some ((), M)
set_option maxHeartbeats 2000000 in
set_option maxRecDepth 20000 in
theorem rm_X6_copyFrom (this : Nat) (l1 : Option Nat) (M : Mem) : RFm yX6_copyFrom cX6_copyFrom 2 none 1 eV (f_X6_copyFrom this l1 M) [va_rf (some this), va_rf l1] M := by
  refine RFm_of (L := [(0, va_rf (some this)), (1, va_rf l1)]) (by decide) (by simp only [lva_R, lva_I, lva_L, lva_C, lva_0]) (Nat.le_trans (c_R (c_R c_0)) (by decide)) ?_
  rw [f_X6_copyFrom]
  refine R_aloadq_n (pc' := 1) (i := 0) (j := 0) (q := (some this)) dX6_copyFrom_0 rfl rfl rfl ?_
  refine R_aloadq_n (pc' := 2) (i := 1) (j := 1) (q := l1) dX6_copyFrom_1 rfl rfl rfl ?_
  refine R_getI (pc' := 5) (q := l1) fl_X6_28 rfl dX6_copyFrom_2 rfl (fun tide1 => ?_)
  refine R_putI (pc' := 8) (q := (some this)) (x := tide1) fl_X6_28 (Or.inl rfl) dX6_copyFrom_5 rfl (fun M => ?_)
  refine R_aloadq_n (pc' := 9) (i := 1) (j := 1) (q := l1) dX6_copyFrom_8 rfl rfl rfl ?_
  refine R_getR (pc' := 12) (q := l1) fl_X6_9 rfl dX6_copyFrom_9 rfl (fun heard2 => ?_)
  refine R_iconst (pc' := 13) (x := (nI 0)) dX6_copyFrom_12 rfl (by decide) ?_
  refine R_aloadq_n (pc' := 14) (i := 0) (j := 0) (q := (some this)) dX6_copyFrom_13 rfl rfl rfl ?_
  refine R_getR (pc' := 17) (q := (some this)) fl_X6_9 rfl dX6_copyFrom_14 rfl (fun heard3 => ?_)
  refine R_iconst (pc' := 18) (x := (nI 0)) dX6_copyFrom_17 rfl (by decide) ?_
  refine R_bipush (pc' := 20) (x := (nI 8)) dX6_copyFrom_18 rfl (by decide) ?_
  refine R_acopy (pc' := 23) (q0 := heard2) (sp := (nI 0)) (q1 := heard3) (dp := (nI 0)) (n := (nI 8)) lka_X6_35 sy_na sy_st sy_in dX6_copyFrom_20 rfl (by decide) (Nat.le_trans c_0 (by decide)) (fun M => ?_)
  refine R_aloadq_n (pc' := 24) (i := 1) (j := 1) (q := l1) dX6_copyFrom_23 rfl rfl rfl ?_
  refine R_getR (pc' := 27) (q := l1) fl_X6_15 rfl dX6_copyFrom_24 rfl (fun knows4 => ?_)
  refine R_iconst (pc' := 28) (x := (nI 0)) dX6_copyFrom_27 rfl (by decide) ?_
  refine R_aloadq_n (pc' := 29) (i := 0) (j := 0) (q := (some this)) dX6_copyFrom_28 rfl rfl rfl ?_
  refine R_getR (pc' := 32) (q := (some this)) fl_X6_15 rfl dX6_copyFrom_29 rfl (fun knows5 => ?_)
  refine R_iconst (pc' := 33) (x := (nI 0)) dX6_copyFrom_32 rfl (by decide) ?_
  refine R_iconst (pc' := 34) (x := (nI 5)) dX6_copyFrom_33 rfl (by decide) ?_
  refine R_acopy (pc' := 37) (q0 := knows4) (sp := (nI 0)) (q1 := knows5) (dp := (nI 0)) (n := (nI 5)) lka_X6_35 sy_na sy_st sy_in dX6_copyFrom_34 rfl (by decide) (Nat.le_trans c_0 (by decide)) (fun M => ?_)
  refine R_aloadq_n (pc' := 38) (i := 1) (j := 1) (q := l1) dX6_copyFrom_37 rfl rfl rfl ?_
  refine R_getR (pc' := 41) (q := l1) fl_X6_18 rfl dX6_copyFrom_38 rfl (fun passed6 => ?_)
  refine R_iconst (pc' := 42) (x := (nI 0)) dX6_copyFrom_41 rfl (by decide) ?_
  refine R_aloadq_n (pc' := 43) (i := 0) (j := 0) (q := (some this)) dX6_copyFrom_42 rfl rfl rfl ?_
  refine R_getR (pc' := 46) (q := (some this)) fl_X6_18 rfl dX6_copyFrom_43 rfl (fun passed7 => ?_)
  refine R_iconst (pc' := 47) (x := (nI 0)) dX6_copyFrom_46 rfl (by decide) ?_
  refine R_iconst (pc' := 48) (x := (nI 5)) dX6_copyFrom_47 rfl (by decide) ?_
  refine R_acopy (pc' := 51) (q0 := passed6) (sp := (nI 0)) (q1 := passed7) (dp := (nI 0)) (n := (nI 5)) lka_X6_35 sy_na sy_st sy_in dX6_copyFrom_48 rfl (by decide) (Nat.le_trans c_0 (by decide)) (fun M => ?_)
  exact R_vret dX6_copyFrom_51
/-! BarPilot$Scene.store([II)V -/
def f_X6_store (this : Nat) (l1 : Option Nat) (l2 : Int32) (M : Mem) : Option (Unit × Mem) :=
  (gI M 6 0 (some this)).bind fun tide1 =>
  (wI M 0 l1 l2 tide1).bind fun M =>
  (gR M 6 1 (some this)).bind fun heard2 =>
  (cpy M heard2 (nI 0) l1 (l2 + (nI 1)) (nI 8)).bind fun M =>
  (gR M 6 2 (some this)).bind fun knows3 =>
  (cpy M knows3 (nI 0) l1 ((l2 + (nI 1)) + (nI 8)) (nI 5)).bind fun M =>
  (gR M 6 3 (some this)).bind fun passed4 =>
  (cpy M passed4 (nI 0) l1 (((l2 + (nI 1)) + (nI 8)) + (nI 5)) (nI 5)).bind fun M =>
  some ((), M)
set_option maxHeartbeats 2000000 in
set_option maxRecDepth 20000 in
theorem rm_X6_store (this : Nat) (l1 : Option Nat) (l2 : Int32) (M : Mem) : RFm yX6_store cX6_store 3 none 1 eV (f_X6_store this l1 l2 M) [va_rf (some this), va_rf l1, .int l2] M := by
  refine RFm_of (L := [(0, va_rf (some this)), (1, va_rf l1), (2, .int l2)]) (by decide) (by simp only [lva_R, lva_I, lva_L, lva_C, lva_0]) (Nat.le_trans (c_R (c_R (c_I c_0))) (by decide)) ?_
  rw [f_X6_store]
  refine R_aloadq_n (pc' := 1) (i := 1) (j := 1) (q := l1) dX6_store_0 rfl rfl rfl ?_
  refine R_iload_n (pc' := 2) (i := 2) (j := 2) (x := l2) dX6_store_1 rfl rfl rfl ?_
  refine R_aloadq_n (pc' := 3) (i := 0) (j := 0) (q := (some this)) dX6_store_2 rfl rfl rfl ?_
  refine R_getI (pc' := 6) (q := (some this)) fl_X6_28 rfl dX6_store_3 rfl (fun tide1 => ?_)
  refine R_iast (pc' := 7) (q := l1) (i := l2) (x := tide1) dX6_store_6 rfl (fun M => ?_)
  refine R_aloadq_n (pc' := 8) (i := 0) (j := 0) (q := (some this)) dX6_store_7 rfl rfl rfl ?_
  refine R_getR (pc' := 11) (q := (some this)) fl_X6_9 rfl dX6_store_8 rfl (fun heard2 => ?_)
  refine R_iconst (pc' := 12) (x := (nI 0)) dX6_store_11 rfl (by decide) ?_
  refine R_aloadq_n (pc' := 13) (i := 1) (j := 1) (q := l1) dX6_store_12 rfl rfl rfl ?_
  refine R_iload_n (pc' := 14) (i := 2) (j := 2) (x := l2) dX6_store_13 rfl rfl rfl ?_
  refine R_iconst (pc' := 15) (x := (nI 1)) dX6_store_14 rfl (by decide) ?_
  refine R_iadd (pc' := 16) (a := l2) (b := (nI 1)) dX6_store_15 rfl ?_
  refine R_bipush (pc' := 18) (x := (nI 8)) dX6_store_16 rfl (by decide) ?_
  refine R_acopy (pc' := 21) (q0 := heard2) (sp := (nI 0)) (q1 := l1) (dp := (l2 + (nI 1))) (n := (nI 8)) lka_X6_35 sy_na sy_st sy_in dX6_store_18 rfl (by decide) (Nat.le_trans c_0 (by decide)) (fun M => ?_)
  refine R_aloadq_n (pc' := 22) (i := 0) (j := 0) (q := (some this)) dX6_store_21 rfl rfl rfl ?_
  refine R_getR (pc' := 25) (q := (some this)) fl_X6_15 rfl dX6_store_22 rfl (fun knows3 => ?_)
  refine R_iconst (pc' := 26) (x := (nI 0)) dX6_store_25 rfl (by decide) ?_
  refine R_aloadq_n (pc' := 27) (i := 1) (j := 1) (q := l1) dX6_store_26 rfl rfl rfl ?_
  refine R_iload_n (pc' := 28) (i := 2) (j := 2) (x := l2) dX6_store_27 rfl rfl rfl ?_
  refine R_iconst (pc' := 29) (x := (nI 1)) dX6_store_28 rfl (by decide) ?_
  refine R_iadd (pc' := 30) (a := l2) (b := (nI 1)) dX6_store_29 rfl ?_
  refine R_bipush (pc' := 32) (x := (nI 8)) dX6_store_30 rfl (by decide) ?_
  refine R_iadd (pc' := 33) (a := (l2 + (nI 1))) (b := (nI 8)) dX6_store_32 rfl ?_
  refine R_iconst (pc' := 34) (x := (nI 5)) dX6_store_33 rfl (by decide) ?_
  refine R_acopy (pc' := 37) (q0 := knows3) (sp := (nI 0)) (q1 := l1) (dp := ((l2 + (nI 1)) + (nI 8))) (n := (nI 5)) lka_X6_35 sy_na sy_st sy_in dX6_store_34 rfl (by decide) (Nat.le_trans c_0 (by decide)) (fun M => ?_)
  refine R_aloadq_n (pc' := 38) (i := 0) (j := 0) (q := (some this)) dX6_store_37 rfl rfl rfl ?_
  refine R_getR (pc' := 41) (q := (some this)) fl_X6_18 rfl dX6_store_38 rfl (fun passed4 => ?_)
  refine R_iconst (pc' := 42) (x := (nI 0)) dX6_store_41 rfl (by decide) ?_
  refine R_aloadq_n (pc' := 43) (i := 1) (j := 1) (q := l1) dX6_store_42 rfl rfl rfl ?_
  refine R_iload_n (pc' := 44) (i := 2) (j := 2) (x := l2) dX6_store_43 rfl rfl rfl ?_
  refine R_iconst (pc' := 45) (x := (nI 1)) dX6_store_44 rfl (by decide) ?_
  refine R_iadd (pc' := 46) (a := l2) (b := (nI 1)) dX6_store_45 rfl ?_
  refine R_bipush (pc' := 48) (x := (nI 8)) dX6_store_46 rfl (by decide) ?_
  refine R_iadd (pc' := 49) (a := (l2 + (nI 1))) (b := (nI 8)) dX6_store_48 rfl ?_
  refine R_iconst (pc' := 50) (x := (nI 5)) dX6_store_49 rfl (by decide) ?_
  refine R_iadd (pc' := 51) (a := ((l2 + (nI 1)) + (nI 8))) (b := (nI 5)) dX6_store_50 rfl ?_
  refine R_iconst (pc' := 52) (x := (nI 5)) dX6_store_51 rfl (by decide) ?_
  refine R_acopy (pc' := 55) (q0 := passed4) (sp := (nI 0)) (q1 := l1) (dp := (((l2 + (nI 1)) + (nI 8)) + (nI 5))) (n := (nI 5)) lka_X6_35 sy_na sy_st sy_in dX6_store_52 rfl (by decide) (Nat.le_trans c_0 (by decide)) (fun M => ?_)
  exact R_vret dX6_store_55
/-! BarPilot$Scene.restore([II)V -/
def f_X6_restore (this : Nat) (l1 : Option Nat) (l2 : Int32) (M : Mem) : Option (Unit × Mem) :=
  (aI M 0 l1 l2).bind fun e1 =>
  (pI M 6 0 (some this) e1).bind fun M =>
  (gR M 6 1 (some this)).bind fun heard2 =>
  (cpy M l1 (l2 + (nI 1)) heard2 (nI 0) (nI 8)).bind fun M =>
  (gR M 6 2 (some this)).bind fun knows3 =>
  (cpy M l1 ((l2 + (nI 1)) + (nI 8)) knows3 (nI 0) (nI 5)).bind fun M =>
  (gR M 6 3 (some this)).bind fun passed4 =>
  (cpy M l1 (((l2 + (nI 1)) + (nI 8)) + (nI 5)) passed4 (nI 0) (nI 5)).bind fun M =>
  some ((), M)
set_option maxHeartbeats 2000000 in
set_option maxRecDepth 20000 in
theorem rm_X6_restore (this : Nat) (l1 : Option Nat) (l2 : Int32) (M : Mem) : RFm yX6_restore cX6_restore 3 none 1 eV (f_X6_restore this l1 l2 M) [va_rf (some this), va_rf l1, .int l2] M := by
  refine RFm_of (L := [(0, va_rf (some this)), (1, va_rf l1), (2, .int l2)]) (by decide) (by simp only [lva_R, lva_I, lva_L, lva_C, lva_0]) (Nat.le_trans (c_R (c_R (c_I c_0))) (by decide)) ?_
  rw [f_X6_restore]
  refine R_aloadq_n (pc' := 1) (i := 0) (j := 0) (q := (some this)) dX6_restore_0 rfl rfl rfl ?_
  refine R_aloadq_n (pc' := 2) (i := 1) (j := 1) (q := l1) dX6_restore_1 rfl rfl rfl ?_
  refine R_iload_n (pc' := 3) (i := 2) (j := 2) (x := l2) dX6_restore_2 rfl rfl rfl ?_
  refine R_iald (pc' := 4) (q := l1) (i := l2) dX6_restore_3 rfl (fun e1 => ?_)
  refine R_putI (pc' := 7) (q := (some this)) (x := e1) fl_X6_28 (Or.inl rfl) dX6_restore_4 rfl (fun M => ?_)
  refine R_aloadq_n (pc' := 8) (i := 1) (j := 1) (q := l1) dX6_restore_7 rfl rfl rfl ?_
  refine R_iload_n (pc' := 9) (i := 2) (j := 2) (x := l2) dX6_restore_8 rfl rfl rfl ?_
  refine R_iconst (pc' := 10) (x := (nI 1)) dX6_restore_9 rfl (by decide) ?_
  refine R_iadd (pc' := 11) (a := l2) (b := (nI 1)) dX6_restore_10 rfl ?_
  refine R_aloadq_n (pc' := 12) (i := 0) (j := 0) (q := (some this)) dX6_restore_11 rfl rfl rfl ?_
  refine R_getR (pc' := 15) (q := (some this)) fl_X6_9 rfl dX6_restore_12 rfl (fun heard2 => ?_)
  refine R_iconst (pc' := 16) (x := (nI 0)) dX6_restore_15 rfl (by decide) ?_
  refine R_bipush (pc' := 18) (x := (nI 8)) dX6_restore_16 rfl (by decide) ?_
  refine R_acopy (pc' := 21) (q0 := l1) (sp := (l2 + (nI 1))) (q1 := heard2) (dp := (nI 0)) (n := (nI 8)) lka_X6_35 sy_na sy_st sy_in dX6_restore_18 rfl (by decide) (Nat.le_trans c_0 (by decide)) (fun M => ?_)
  refine R_aloadq_n (pc' := 22) (i := 1) (j := 1) (q := l1) dX6_restore_21 rfl rfl rfl ?_
  refine R_iload_n (pc' := 23) (i := 2) (j := 2) (x := l2) dX6_restore_22 rfl rfl rfl ?_
  refine R_iconst (pc' := 24) (x := (nI 1)) dX6_restore_23 rfl (by decide) ?_
  refine R_iadd (pc' := 25) (a := l2) (b := (nI 1)) dX6_restore_24 rfl ?_
  refine R_bipush (pc' := 27) (x := (nI 8)) dX6_restore_25 rfl (by decide) ?_
  refine R_iadd (pc' := 28) (a := (l2 + (nI 1))) (b := (nI 8)) dX6_restore_27 rfl ?_
  refine R_aloadq_n (pc' := 29) (i := 0) (j := 0) (q := (some this)) dX6_restore_28 rfl rfl rfl ?_
  refine R_getR (pc' := 32) (q := (some this)) fl_X6_15 rfl dX6_restore_29 rfl (fun knows3 => ?_)
  refine R_iconst (pc' := 33) (x := (nI 0)) dX6_restore_32 rfl (by decide) ?_
  refine R_iconst (pc' := 34) (x := (nI 5)) dX6_restore_33 rfl (by decide) ?_
  refine R_acopy (pc' := 37) (q0 := l1) (sp := ((l2 + (nI 1)) + (nI 8))) (q1 := knows3) (dp := (nI 0)) (n := (nI 5)) lka_X6_35 sy_na sy_st sy_in dX6_restore_34 rfl (by decide) (Nat.le_trans c_0 (by decide)) (fun M => ?_)
  refine R_aloadq_n (pc' := 38) (i := 1) (j := 1) (q := l1) dX6_restore_37 rfl rfl rfl ?_
  refine R_iload_n (pc' := 39) (i := 2) (j := 2) (x := l2) dX6_restore_38 rfl rfl rfl ?_
  refine R_iconst (pc' := 40) (x := (nI 1)) dX6_restore_39 rfl (by decide) ?_
  refine R_iadd (pc' := 41) (a := l2) (b := (nI 1)) dX6_restore_40 rfl ?_
  refine R_bipush (pc' := 43) (x := (nI 8)) dX6_restore_41 rfl (by decide) ?_
  refine R_iadd (pc' := 44) (a := (l2 + (nI 1))) (b := (nI 8)) dX6_restore_43 rfl ?_
  refine R_iconst (pc' := 45) (x := (nI 5)) dX6_restore_44 rfl (by decide) ?_
  refine R_iadd (pc' := 46) (a := ((l2 + (nI 1)) + (nI 8))) (b := (nI 5)) dX6_restore_45 rfl ?_
  refine R_aloadq_n (pc' := 47) (i := 0) (j := 0) (q := (some this)) dX6_restore_46 rfl rfl rfl ?_
  refine R_getR (pc' := 50) (q := (some this)) fl_X6_18 rfl dX6_restore_47 rfl (fun passed4 => ?_)
  refine R_iconst (pc' := 51) (x := (nI 0)) dX6_restore_50 rfl (by decide) ?_
  refine R_iconst (pc' := 52) (x := (nI 5)) dX6_restore_51 rfl (by decide) ?_
  refine R_acopy (pc' := 55) (q0 := l1) (sp := (((l2 + (nI 1)) + (nI 8)) + (nI 5))) (q1 := passed4) (dp := (nI 0)) (n := (nI 5)) lka_X6_35 sy_na sy_st sy_in dX6_restore_52 rfl (by decide) (Nat.le_trans c_0 (by decide)) (fun M => ?_)
  exact R_vret dX6_restore_55
/-! BarPilot$Scene.since(I)I -/
def f_X6_since_J24 (this : Nat) (s0 : Int32) (M : Mem) : Option (Int32 × Mem) :=
  some (s0, M)
set_option maxHeartbeats 2000000 in
set_option maxRecDepth 20000 in
theorem rf_X6_since_J24 (this : Nat) (s0 : Int32) (M : Mem) : RF yX6_since cX6_since 3 (some .int) 1 eI (f_X6_since_J24 this s0 M) 24 [] [.int s0] M := by
  rw [f_X6_since_J24]
  exact R_iret dX6_since_24
def f_X6_since (this : Nat) (l1 : Int32) (M : Mem) : Option (Int32 × Mem) :=
  (gI M 6 0 (some this)).bind fun tide1 =>
  (gR M 6 1 (some this)).bind fun heard2 =>
  (aI M 0 heard2 l1).bind fun e3 =>
  nm (tide1 - e3) fun v4 =>
  (if (nI 99) ≤ v4 then
    (f_X6_since_J24 this (nI 99) M)
  else
    (f_X6_since_J24 this v4 M))
set_option maxHeartbeats 2000000 in
set_option maxRecDepth 20000 in
theorem rm_X6_since (this : Nat) (l1 : Int32) (M : Mem) : RFm yX6_since cX6_since 3 (some .int) 1 eI (f_X6_since this l1 M) [va_rf (some this), .int l1] M := by
  refine RFm_of (L := [(0, va_rf (some this)), (1, .int l1)]) (by decide) rfl (Nat.le_trans (c_R (c_I c_0)) (by decide)) ?_
  rw [f_X6_since]
  refine R_aloadq_n (pc' := 1) (i := 0) (j := 0) (q := (some this)) dX6_since_0 rfl rfl rfl ?_
  refine R_getI (pc' := 4) (q := (some this)) fl_X6_28 rfl dX6_since_1 rfl (fun tide1 => ?_)
  refine R_aloadq_n (pc' := 5) (i := 0) (j := 0) (q := (some this)) dX6_since_4 rfl rfl rfl ?_
  refine R_getR (pc' := 8) (q := (some this)) fl_X6_9 rfl dX6_since_5 rfl (fun heard2 => ?_)
  refine R_iload_n (pc' := 9) (i := 1) (j := 1) (x := l1) dX6_since_8 rfl rfl rfl ?_
  refine R_iald (pc' := 10) (q := heard2) (i := l1) dX6_since_9 rfl (fun e3 => ?_)
  refine R_isub (pc' := 11) (a := tide1) (b := e3) dX6_since_10 rfl ?_
  refine R_nmI (fun v4 => ?_)
  refine R_istore_n (pc' := 12) (L' := [(2, .int v4), (0, va_rf (some this)), (1, .int l1)]) (i := 2) (x := v4) dX6_since_11 rfl rfl (by decide) rfl ?_
  refine R_iload_n (pc' := 13) (i := 2) (j := 0) (x := v4) dX6_since_12 rfl rfl rfl ?_
  refine R_bipush (pc' := 15) (x := (nI 99)) dX6_since_13 rfl (by decide) ?_
  refine R_icmp_ge (pc' := 18) (tgt := 22) (a := v4) (b := (nI 99)) dX6_since_15 (by decide) rfl ?_ ?_
  · refine R_bipush (pc' := 24) (x := (nI 99)) dX6_since_22 rfl (by decide) ?_
    exact R_sub [] rfl (rf_X6_since_J24 this (nI 99) M)
  · refine R_iload_n (pc' := 19) (i := 2) (j := 0) (x := v4) dX6_since_18 rfl rfl rfl ?_
    refine R_goto (tgt := 24) dX6_since_19 (by decide) ?_
    exact R_sub [] rfl (rf_X6_since_J24 this v4 M)
/-! BarPilot$Scene.isKnown(II)Z -/
def f_X6_isKnown_J18 (this : Nat) (s0 : Int32) (M : Mem) : Option (Int32 × Mem) :=
  ckZ s0 (some (s0, M))
set_option maxHeartbeats 2000000 in
set_option maxRecDepth 20000 in
theorem rf_X6_isKnown_J18 (this : Nat) (s0 : Int32) (M : Mem) : RF yX6_isKnown cX6_isKnown 3 (some .boolean) 1 eI (f_X6_isKnown_J18 this s0 M) 18 [] [.int s0] M := by
  rw [f_X6_isKnown_J18]
  exact R_bret dX6_isKnown_18
def f_X6_isKnown (this : Nat) (l1 : Int32) (l2 : Int32) (M : Mem) : Option (Int32 × Mem) :=
  (gR M 6 2 (some this)).bind fun knows1 =>
  (aI M 0 knows1 l1).bind fun e2 =>
  (if ((e2 >>> (l2 &&& 31)) &&& (nI 1)) = 0 then
    (f_X6_isKnown_J18 this (nI 0) M)
  else
    (f_X6_isKnown_J18 this (nI 1) M))
set_option maxHeartbeats 2000000 in
set_option maxRecDepth 20000 in
theorem rm_X6_isKnown (this : Nat) (l1 : Int32) (l2 : Int32) (M : Mem) : RFm yX6_isKnown cX6_isKnown 3 (some .boolean) 1 eI (f_X6_isKnown this l1 l2 M) [va_rf (some this), .int l1, .int l2] M := by
  refine RFm_of (L := [(0, va_rf (some this)), (1, .int l1), (2, .int l2)]) (by decide) rfl (Nat.le_trans (c_R (c_I (c_I c_0))) (by decide)) ?_
  rw [f_X6_isKnown]
  refine R_aloadq_n (pc' := 1) (i := 0) (j := 0) (q := (some this)) dX6_isKnown_0 rfl rfl rfl ?_
  refine R_getR (pc' := 4) (q := (some this)) fl_X6_15 rfl dX6_isKnown_1 rfl (fun knows1 => ?_)
  refine R_iload_n (pc' := 5) (i := 1) (j := 1) (x := l1) dX6_isKnown_4 rfl rfl rfl ?_
  refine R_iald (pc' := 6) (q := knows1) (i := l1) dX6_isKnown_5 rfl (fun e2 => ?_)
  refine R_iload_n (pc' := 7) (i := 2) (j := 2) (x := l2) dX6_isKnown_6 rfl rfl rfl ?_
  refine R_ishr (pc' := 8) (a := e2) (b := l2) dX6_isKnown_7 rfl ?_
  refine R_iconst (pc' := 9) (x := (nI 1)) dX6_isKnown_8 rfl (by decide) ?_
  refine R_iand (pc' := 10) (a := (e2 >>> (l2 &&& 31))) (b := (nI 1)) dX6_isKnown_9 rfl ?_
  refine R_if_eq (pc' := 13) (tgt := 17) (a := ((e2 >>> (l2 &&& 31)) &&& (nI 1))) dX6_isKnown_10 (by decide) rfl ?_ ?_
  · refine R_iconst (pc' := 18) (x := (nI 0)) dX6_isKnown_17 rfl (by decide) ?_
    exact R_sub [] rfl (rf_X6_isKnown_J18 this (nI 0) M)
  · refine R_iconst (pc' := 14) (x := (nI 1)) dX6_isKnown_13 rfl (by decide) ?_
    refine R_goto (tgt := 18) dX6_isKnown_14 (by decide) ?_
    exact R_sub [] rfl (rf_X6_isKnown_J18 this (nI 1) M)
/-! BarPilot$Scene.teach(I)V -/
def f_X6_teach_J27 (k2 : Int32 → Int32 → Mem → Option (Unit × Mem)) (this : Nat) (l1 : Int32) (l2 : Int32) (M : Mem) : Option (Unit × Mem) :=
  k2 l1 (l2 + (nI 1)) M
set_option maxHeartbeats 2000000 in
set_option maxRecDepth 20000 in
theorem rf_X6_teach_J27 (this : Nat) (k2 : Int32 → Int32 → Mem → Option (Unit × Mem)) (hk2 : ∀ (l1 : Int32) (l2 : Int32) (M : Mem), RF yX6_teach cX6_teach 3 none 1 eV (k2 l1 l2 M) 2 [(0, va_rf (some this)), (1, .int l1), (2, .int l2)] [] M) (l1 : Int32) (l2 : Int32) (M : Mem) : RF yX6_teach cX6_teach 3 none 1 eV (f_X6_teach_J27 k2 this l1 l2 M) 27 [(0, va_rf (some this)), (1, .int l1), (2, .int l2)] [] M := by
  rw [f_X6_teach_J27]
  refine R_iinc (pc' := 30) (L' := [(2, .int (l2 + (nI 1))), (0, va_rf (some this)), (1, .int l1)]) (i := 2) (j := 2) (x := l2) (x2 := (l2 + (nI 1))) dX6_teach_27 rfl rfl rfl (by decide) rfl ?_
  refine R_goto (tgt := 2) dX6_teach_30 (by decide) ?_
  exact R_sub [1, 2, 0] rfl (hk2 l1 (l2 + (nI 1)) M)
def f_X6_teach_L2 (this : Nat) : Nat → Int32 → Int32 → Mem → Option (Unit × Mem)
  | 0, _, _, _ => none
  | n + 1, l1, l2, M =>
    (if (nI 5) ≤ l2 then
      (some ((), M))
    else
      ((gR M 6 3 (some this)).bind fun passed1 =>
      (aI M 0 passed1 l2).bind fun e2 =>
      (if e2 = (-1 : Int32) then
        ((gR M 6 2 (some this)).bind fun knows3 =>
        (aI M 0 knows3 l2).bind fun e4 =>
        (wI M 0 knows3 l2 (e4 ||| l1)).bind fun M =>
        f_X6_teach_J27 (f_X6_teach_L2 this n) this l1 l2 M)
      else
        (f_X6_teach_J27 (f_X6_teach_L2 this n) this l1 l2 M))))
set_option maxHeartbeats 2000000 in
set_option maxRecDepth 20000 in
theorem rf_X6_teach_L2 (this : Nat) : ∀ (n : Nat) (l1 : Int32) (l2 : Int32) (M : Mem), RF yX6_teach cX6_teach 3 none 1 eV (f_X6_teach_L2 this n l1 l2 M) 2 [(0, va_rf (some this)), (1, .int l1), (2, .int l2)] [] M := by
  intro n
  induction n with
  | zero => intro _ _ _; exact RF.none
  | succ n ih =>
    intro l1 l2 M
    rw [f_X6_teach_L2]
    refine R_iload_n (pc' := 3) (i := 2) (j := 2) (x := l2) dX6_teach_2 rfl rfl rfl ?_
    refine R_iconst (pc' := 4) (x := (nI 5)) dX6_teach_3 rfl (by decide) ?_
    refine R_icmp_ge (pc' := 7) (tgt := 33) (a := l2) (b := (nI 5)) dX6_teach_4 (by decide) rfl ?_ ?_
    · exact R_vret dX6_teach_33
    · refine R_aloadq_n (pc' := 8) (i := 0) (j := 0) (q := (some this)) dX6_teach_7 rfl rfl rfl ?_
      refine R_getR (pc' := 11) (q := (some this)) fl_X6_18 rfl dX6_teach_8 rfl (fun passed1 => ?_)
      refine R_iload_n (pc' := 12) (i := 2) (j := 2) (x := l2) dX6_teach_11 rfl rfl rfl ?_
      refine R_iald (pc' := 13) (q := passed1) (i := l2) dX6_teach_12 rfl (fun e2 => ?_)
      refine R_iconst (pc' := 14) (x := (-1 : Int32)) dX6_teach_13 rfl (by decide) ?_
      refine R_icmp_ne (pc' := 17) (tgt := 27) (a := e2) (b := (-1 : Int32)) dX6_teach_14 (by decide) rfl ?_ ?_
      · exact R_sub [0, 1, 2] rfl (rf_X6_teach_J27 this (f_X6_teach_L2 this n) ih l1 l2 M)
      · refine R_aloadq_n (pc' := 18) (i := 0) (j := 0) (q := (some this)) dX6_teach_17 rfl rfl rfl ?_
        refine R_getR (pc' := 21) (q := (some this)) fl_X6_15 rfl dX6_teach_18 rfl (fun knows3 => ?_)
        refine R_iload_n (pc' := 22) (i := 2) (j := 2) (x := l2) dX6_teach_21 rfl rfl rfl ?_
        refine R_dup2 (pc' := 23) dX6_teach_22 rfl rfl (rf_cat _) ?_
        refine R_iald (pc' := 24) (q := knows3) (i := l2) dX6_teach_23 rfl (fun e4 => ?_)
        refine R_iload_n (pc' := 25) (i := 1) (j := 1) (x := l1) dX6_teach_24 rfl rfl rfl ?_
        refine R_ior (pc' := 26) (a := e4) (b := l1) dX6_teach_25 rfl ?_
        refine R_iast (pc' := 27) (q := knows3) (i := l2) (x := (e4 ||| l1)) dX6_teach_26 rfl (fun M => ?_)
        exact R_sub [0, 1, 2] rfl (rf_X6_teach_J27 this (f_X6_teach_L2 this n) ih l1 l2 M)
def f_X6_teach (this : Nat) (l1 : Int32) (M : Mem) : Option (Unit × Mem) :=
  f_X6_teach_L2 this FU l1 (nI 0) M
set_option maxHeartbeats 2000000 in
set_option maxRecDepth 20000 in
theorem rm_X6_teach (this : Nat) (l1 : Int32) (M : Mem) : RFm yX6_teach cX6_teach 3 none 1 eV (f_X6_teach this l1 M) [va_rf (some this), .int l1] M := by
  refine RFm_of (L := [(0, va_rf (some this)), (1, .int l1)]) (by decide) rfl (Nat.le_trans (c_R (c_I c_0)) (by decide)) ?_
  rw [f_X6_teach]
  refine R_iconst (pc' := 1) (x := (nI 0)) dX6_teach_0 rfl (by decide) ?_
  refine R_istore_n (pc' := 2) (L' := [(2, .int (nI 0)), (0, va_rf (some this)), (1, .int l1)]) (i := 2) (x := (nI 0)) dX6_teach_1 rfl rfl (by decide) rfl ?_
  exact R_sub [1, 2, 0] rfl (rf_X6_teach_L2 this FU l1 (nI 0) M)
/-! BarPilot$Scene.share(II)I -/
def f_X6_share (this : Nat) (l1 : Int32) (l2 : Int32) (M : Mem) : Option (Int32 × Mem) :=
  (gR M 6 2 (some this)).bind fun knows1 =>
  (aI M 0 knows1 l1).bind fun e2 =>
  (gR M 6 2 (some this)).bind fun knows3 =>
  (aI M 0 knows3 l2).bind fun e4 =>
  nm (e2 ||| e4) fun v5 =>
  (gR M 6 2 (some this)).bind fun knows6 =>
  (wI M 0 knows6 l1 v5).bind fun M =>
  (gR M 6 2 (some this)).bind fun knows7 =>
  (wI M 0 knows7 l2 v5).bind fun M =>
  some (v5, M)
set_option maxHeartbeats 2000000 in
set_option maxRecDepth 20000 in
theorem rm_X6_share (this : Nat) (l1 : Int32) (l2 : Int32) (M : Mem) : RFm yX6_share cX6_share 4 (some .int) 1 eI (f_X6_share this l1 l2 M) [va_rf (some this), .int l1, .int l2] M := by
  refine RFm_of (L := [(0, va_rf (some this)), (1, .int l1), (2, .int l2)]) (by decide) rfl (Nat.le_trans (c_R (c_I (c_I c_0))) (by decide)) ?_
  rw [f_X6_share]
  refine R_aloadq_n (pc' := 1) (i := 0) (j := 0) (q := (some this)) dX6_share_0 rfl rfl rfl ?_
  refine R_getR (pc' := 4) (q := (some this)) fl_X6_15 rfl dX6_share_1 rfl (fun knows1 => ?_)
  refine R_iload_n (pc' := 5) (i := 1) (j := 1) (x := l1) dX6_share_4 rfl rfl rfl ?_
  refine R_iald (pc' := 6) (q := knows1) (i := l1) dX6_share_5 rfl (fun e2 => ?_)
  refine R_aloadq_n (pc' := 7) (i := 0) (j := 0) (q := (some this)) dX6_share_6 rfl rfl rfl ?_
  refine R_getR (pc' := 10) (q := (some this)) fl_X6_15 rfl dX6_share_7 rfl (fun knows3 => ?_)
  refine R_iload_n (pc' := 11) (i := 2) (j := 2) (x := l2) dX6_share_10 rfl rfl rfl ?_
  refine R_iald (pc' := 12) (q := knows3) (i := l2) dX6_share_11 rfl (fun e4 => ?_)
  refine R_ior (pc' := 13) (a := e2) (b := e4) dX6_share_12 rfl ?_
  refine R_nmI (fun v5 => ?_)
  refine R_istore_n (pc' := 14) (L' := [(3, .int v5), (0, va_rf (some this)), (1, .int l1), (2, .int l2)]) (i := 3) (x := v5) dX6_share_13 rfl rfl (by decide) rfl ?_
  refine R_aloadq_n (pc' := 15) (i := 0) (j := 1) (q := (some this)) dX6_share_14 rfl rfl rfl ?_
  refine R_getR (pc' := 18) (q := (some this)) fl_X6_15 rfl dX6_share_15 rfl (fun knows6 => ?_)
  refine R_iload_n (pc' := 19) (i := 1) (j := 2) (x := l1) dX6_share_18 rfl rfl rfl ?_
  refine R_iload_n (pc' := 20) (i := 3) (j := 0) (x := v5) dX6_share_19 rfl rfl rfl ?_
  refine R_iast (pc' := 21) (q := knows6) (i := l1) (x := v5) dX6_share_20 rfl (fun M => ?_)
  refine R_aloadq_n (pc' := 22) (i := 0) (j := 1) (q := (some this)) dX6_share_21 rfl rfl rfl ?_
  refine R_getR (pc' := 25) (q := (some this)) fl_X6_15 rfl dX6_share_22 rfl (fun knows7 => ?_)
  refine R_iload_n (pc' := 26) (i := 2) (j := 3) (x := l2) dX6_share_25 rfl rfl rfl ?_
  refine R_iload_n (pc' := 27) (i := 3) (j := 0) (x := v5) dX6_share_26 rfl rfl rfl ?_
  refine R_iast (pc' := 28) (q := knows7) (i := l2) (x := v5) dX6_share_27 rfl (fun M => ?_)
  refine R_iload_n (pc' := 29) (i := 3) (j := 0) (x := v5) dX6_share_28 rfl rfl rfl ?_
  exact R_iret dX6_share_29
/-! BarPilot$Told.<init>()V -/
def f_X8_init (this : Nat) (M : Mem) : Option (Unit × Mem) :=
  newA M 0 (nI 24) fun a1 M =>
  (pR M 8 5 (some this) (some a1)).bind fun M =>
  newA M 0 (nI 5) fun a2 M =>
  (pR M 8 6 (some this) (some a2)).bind fun M =>
  newA M 0 (nI 5) fun a3 M =>
  (pR M 8 7 (some this) (some a3)).bind fun M =>
  newA M 0 (nI 5) fun a4 M =>
  (pR M 8 8 (some this) (some a4)).bind fun M =>
  newA M 0 (nI 32) fun a5 M =>
  (pR M 8 9 (some this) (some a5)).bind fun M =>
  some ((), M)
set_option maxHeartbeats 2000000 in
set_option maxRecDepth 20000 in
theorem rm_X8_init (this : Nat) (M : Mem) : RFm yX8_init cX8_init 1 none 1 eV (f_X8_init this M) [va_rf (some this)] M := by
  refine RFm_of (L := [(0, va_rf (some this))]) (by decide) rfl (Nat.le_trans (c_R c_0) (by decide)) ?_
  rw [f_X8_init]
  refine R_aloadq_n (pc' := 1) (i := 0) (j := 0) (q := (some this)) dX8_init_0 rfl rfl rfl ?_
  refine R_objInit (pc' := 4) (a := this) lko_X8_3 ob_in ob_co dX8_init_1 rfl (by decide) (Nat.le_trans c_0 (by decide)) ?_
  refine R_aloadq_n (pc' := 5) (i := 0) (j := 0) (q := (some this)) dX8_init_4 rfl rfl rfl ?_
  refine R_bipush (pc' := 7) (x := (nI 24)) dX8_init_5 rfl (by decide) ?_
  refine R_newa (pc' := 9) (at0 := .int) (ty := .int) (t := 0) (n := (nI 24)) rfl rfl (by decide) ac_int (by decide) rfl dX8_init_7 rfl (fun a1 M => ?_)
  refine R_putR (pc' := 12) (q := (some this)) (x := (some a1)) fl_X8_9 rfl (Or.inr ⟨rfl, rfl⟩) dX8_init_9 rfl (fun M => ?_)
  refine R_aloadq_n (pc' := 13) (i := 0) (j := 0) (q := (some this)) dX8_init_12 rfl rfl rfl ?_
  refine R_iconst (pc' := 14) (x := (nI 5)) dX8_init_13 rfl (by decide) ?_
  refine R_newa (pc' := 16) (at0 := .int) (ty := .int) (t := 0) (n := (nI 5)) rfl rfl (by decide) ac_int (by decide) rfl dX8_init_14 rfl (fun a2 M => ?_)
  refine R_putR (pc' := 19) (q := (some this)) (x := (some a2)) fl_X8_15 rfl (Or.inr ⟨rfl, rfl⟩) dX8_init_16 rfl (fun M => ?_)
  refine R_aloadq_n (pc' := 20) (i := 0) (j := 0) (q := (some this)) dX8_init_19 rfl rfl rfl ?_
  refine R_iconst (pc' := 21) (x := (nI 5)) dX8_init_20 rfl (by decide) ?_
  refine R_newa (pc' := 23) (at0 := .int) (ty := .int) (t := 0) (n := (nI 5)) rfl rfl (by decide) ac_int (by decide) rfl dX8_init_21 rfl (fun a3 M => ?_)
  refine R_putR (pc' := 26) (q := (some this)) (x := (some a3)) fl_X8_18 rfl (Or.inr ⟨rfl, rfl⟩) dX8_init_23 rfl (fun M => ?_)
  refine R_aloadq_n (pc' := 27) (i := 0) (j := 0) (q := (some this)) dX8_init_26 rfl rfl rfl ?_
  refine R_iconst (pc' := 28) (x := (nI 5)) dX8_init_27 rfl (by decide) ?_
  refine R_newa (pc' := 30) (at0 := .int) (ty := .int) (t := 0) (n := (nI 5)) rfl rfl (by decide) ac_int (by decide) rfl dX8_init_28 rfl (fun a4 M => ?_)
  refine R_putR (pc' := 33) (q := (some this)) (x := (some a4)) fl_X8_21 rfl (Or.inr ⟨rfl, rfl⟩) dX8_init_30 rfl (fun M => ?_)
  refine R_aloadq_n (pc' := 34) (i := 0) (j := 0) (q := (some this)) dX8_init_33 rfl rfl rfl ?_
  refine R_bipush (pc' := 36) (x := (nI 32)) dX8_init_34 rfl (by decide) ?_
  refine R_newa (pc' := 38) (at0 := .int) (ty := .int) (t := 0) (n := (nI 32)) rfl rfl (by decide) ac_int (by decide) rfl dX8_init_36 rfl (fun a5 M => ?_)
  refine R_putR (pc' := 41) (q := (some this)) (x := (some a5)) fl_X8_24 rfl (Or.inr ⟨rfl, rfl⟩) dX8_init_38 rfl (fun M => ?_)
  exact R_vret dX8_init_41
/-! BarPilot$Told.clear()V -/
def f_X8_clear (this : Nat) (M : Mem) : Option (Unit × Mem) :=
  ckZ (nI 0) ((pI M 8 0 (some this) (nI 0)).bind fun M =>
  (pI M 8 1 (some this) (nI 0)).bind fun M =>
  (pI M 8 2 (some this) (nI 0)).bind fun M =>
  (pI M 8 3 (some this) (nI 0)).bind fun M =>
  (pI M 8 4 (some this) (nI 0)).bind fun M =>
  (gR M 8 8 (some this)).bind fun knows1 =>
  cl (f_J7_fill_53178 knows1 (nI 0) M) fun u2 M =>
  (gR M 8 9 (some this)).bind fun near3 =>
  cl (f_J7_fill_53178 near3 (nI 0) M) fun u4 M =>
  some ((), M))
set_option maxHeartbeats 2000000 in
set_option maxRecDepth 20000 in
theorem rm_X8_clear (this : Nat) (M : Mem) : RFm yX8_clear cX8_clear 1 none 2 eV (f_X8_clear this M) [va_rf (some this)] M := by
  refine RFm_of (L := [(0, va_rf (some this))]) (by decide) rfl (Nat.le_trans (c_R c_0) (by decide)) ?_
  rw [f_X8_clear]
  refine R_aloadq_n (pc' := 1) (i := 0) (j := 0) (q := (some this)) dX8_clear_0 rfl rfl rfl ?_
  refine R_iconst (pc' := 2) (x := (nI 0)) dX8_clear_1 rfl (by decide) ?_
  refine R_putZ (pc' := 5) (q := (some this)) (x := (nI 0)) fl_X8_27 (Or.inl rfl) dX8_clear_2 rfl (fun M => ?_)
  refine R_aloadq_n (pc' := 6) (i := 0) (j := 0) (q := (some this)) dX8_clear_5 rfl rfl rfl ?_
  refine R_iconst (pc' := 7) (x := (nI 0)) dX8_clear_6 rfl (by decide) ?_
  refine R_putI (pc' := 10) (q := (some this)) (x := (nI 0)) fl_X8_31 (Or.inl rfl) dX8_clear_7 rfl (fun M => ?_)
  refine R_aloadq_n (pc' := 11) (i := 0) (j := 0) (q := (some this)) dX8_clear_10 rfl rfl rfl ?_
  refine R_iconst (pc' := 12) (x := (nI 0)) dX8_clear_11 rfl (by decide) ?_
  refine R_putI (pc' := 15) (q := (some this)) (x := (nI 0)) fl_X8_35 (Or.inl rfl) dX8_clear_12 rfl (fun M => ?_)
  refine R_aloadq_n (pc' := 16) (i := 0) (j := 0) (q := (some this)) dX8_clear_15 rfl rfl rfl ?_
  refine R_iconst (pc' := 17) (x := (nI 0)) dX8_clear_16 rfl (by decide) ?_
  refine R_putI (pc' := 20) (q := (some this)) (x := (nI 0)) fl_X8_38 (Or.inl rfl) dX8_clear_17 rfl (fun M => ?_)
  refine R_aloadq_n (pc' := 21) (i := 0) (j := 0) (q := (some this)) dX8_clear_20 rfl rfl rfl ?_
  refine R_iconst (pc' := 22) (x := (nI 0)) dX8_clear_21 rfl (by decide) ?_
  refine R_putI (pc' := 25) (q := (some this)) (x := (nI 0)) fl_X8_41 (Or.inl rfl) dX8_clear_22 rfl (fun M => ?_)
  refine R_aloadq_n (pc' := 26) (i := 0) (j := 0) (q := (some this)) dX8_clear_25 rfl rfl rfl ?_
  refine R_getR (pc' := 29) (q := (some this)) fl_X8_21 rfl dX8_clear_26 rfl (fun knows1 => ?_)
  refine R_iconst (pc' := 30) (x := (nI 0)) dX8_clear_29 rfl (by decide) ?_
  refine R_callS_V (pc' := 33) (As := [va_rf knows1, .int (nI 0)]) (rm_J7_fill_53178 knows1 (nI 0) M) mf_J7_fill_53178 lk_X8_44 sm_J7_fill_53178 rfl rfl dX8_clear_30 rfl (by decide) (Nat.le_trans c_0 (by decide)) (fun u2 M => ?_)
  refine R_aloadq_n (pc' := 34) (i := 0) (j := 0) (q := (some this)) dX8_clear_33 rfl rfl rfl ?_
  refine R_getR (pc' := 37) (q := (some this)) fl_X8_24 rfl dX8_clear_34 rfl (fun near3 => ?_)
  refine R_iconst (pc' := 38) (x := (nI 0)) dX8_clear_37 rfl (by decide) ?_
  refine R_callS_V (pc' := 41) (As := [va_rf near3, .int (nI 0)]) (rm_J7_fill_53178 near3 (nI 0) M) mf_J7_fill_53178 lk_X8_44 sm_J7_fill_53178 rfl rfl dX8_clear_38 rfl (by decide) (Nat.le_trans c_0 (by decide)) (fun u4 M => ?_)
  exact R_vret dX8_clear_41
/-! BarPilot$Told.copyFrom(LBarPilot$Told;)V -/
def f_X8_copyFrom (this : Nat) (l1 : Option Nat) (M : Mem) : Option (Unit × Mem) :=
  (gI M 8 0 l1).bind fun there1 =>
  ckZ there1 ((pI M 8 0 (some this) there1).bind fun M =>
  (gI M 8 1 l1).bind fun fades2 =>
  (pI M 8 1 (some this) fades2).bind fun M =>
  (gI M 8 2 l1).bind fun like3 =>
  (pI M 8 2 (some this) like3).bind fun M =>
  (gI M 8 3 l1).bind fun jokes4 =>
  (pI M 8 3 (some this) jokes4).bind fun M =>
  (gI M 8 4 l1).bind fun ships5 =>
  (pI M 8 4 (some this) ships5).bind fun M =>
  (gR M 8 5 l1).bind fun part6 =>
  (gR M 8 5 (some this)).bind fun part7 =>
  (gR M 8 5 (some this)).bind fun part8 =>
  (lnA M part8).bind fun len9 =>
  (cpy M part6 (nI 0) part7 (nI 0) len9).bind fun M =>
  (gR M 8 6 l1).bind fun cargo10 =>
  (gR M 8 6 (some this)).bind fun cargo11 =>
  (cpy M cargo10 (nI 0) cargo11 (nI 0) (nI 5)).bind fun M =>
  (gR M 8 7 l1).bind fun keeps12 =>
  (gR M 8 7 (some this)).bind fun keeps13 =>
  (cpy M keeps12 (nI 0) keeps13 (nI 0) (nI 5)).bind fun M =>
  (gR M 8 8 l1).bind fun knows14 =>
  (gR M 8 8 (some this)).bind fun knows15 =>
  (cpy M knows14 (nI 0) knows15 (nI 0) (nI 5)).bind fun M =>
  (gR M 8 9 l1).bind fun near16 =>
  (gR M 8 9 (some this)).bind fun near17 =>
  (gR M 8 9 (some this)).bind fun near18 =>
  (lnA M near18).bind fun len19 =>
  (cpy M near16 (nI 0) near17 (nI 0) len19).bind fun M =>
  some ((), M))
set_option maxHeartbeats 2000000 in
set_option maxRecDepth 20000 in
theorem rm_X8_copyFrom (this : Nat) (l1 : Option Nat) (M : Mem) : RFm yX8_copyFrom cX8_copyFrom 2 none 1 eV (f_X8_copyFrom this l1 M) [va_rf (some this), va_rf l1] M := by
  refine RFm_of (L := [(0, va_rf (some this)), (1, va_rf l1)]) (by decide) (by simp only [lva_R, lva_I, lva_L, lva_C, lva_0]) (Nat.le_trans (c_R (c_R c_0)) (by decide)) ?_
  rw [f_X8_copyFrom]
  refine R_aloadq_n (pc' := 1) (i := 0) (j := 0) (q := (some this)) dX8_copyFrom_0 rfl rfl rfl ?_
  refine R_aloadq_n (pc' := 2) (i := 1) (j := 1) (q := l1) dX8_copyFrom_1 rfl rfl rfl ?_
  refine R_getI (pc' := 5) (q := l1) fl_X8_27 rfl dX8_copyFrom_2 rfl (fun there1 => ?_)
  refine R_putZ (pc' := 8) (q := (some this)) (x := there1) fl_X8_27 (Or.inl rfl) dX8_copyFrom_5 rfl (fun M => ?_)
  refine R_aloadq_n (pc' := 9) (i := 0) (j := 0) (q := (some this)) dX8_copyFrom_8 rfl rfl rfl ?_
  refine R_aloadq_n (pc' := 10) (i := 1) (j := 1) (q := l1) dX8_copyFrom_9 rfl rfl rfl ?_
  refine R_getI (pc' := 13) (q := l1) fl_X8_31 rfl dX8_copyFrom_10 rfl (fun fades2 => ?_)
  refine R_putI (pc' := 16) (q := (some this)) (x := fades2) fl_X8_31 (Or.inl rfl) dX8_copyFrom_13 rfl (fun M => ?_)
  refine R_aloadq_n (pc' := 17) (i := 0) (j := 0) (q := (some this)) dX8_copyFrom_16 rfl rfl rfl ?_
  refine R_aloadq_n (pc' := 18) (i := 1) (j := 1) (q := l1) dX8_copyFrom_17 rfl rfl rfl ?_
  refine R_getI (pc' := 21) (q := l1) fl_X8_35 rfl dX8_copyFrom_18 rfl (fun like3 => ?_)
  refine R_putI (pc' := 24) (q := (some this)) (x := like3) fl_X8_35 (Or.inl rfl) dX8_copyFrom_21 rfl (fun M => ?_)
  refine R_aloadq_n (pc' := 25) (i := 0) (j := 0) (q := (some this)) dX8_copyFrom_24 rfl rfl rfl ?_
  refine R_aloadq_n (pc' := 26) (i := 1) (j := 1) (q := l1) dX8_copyFrom_25 rfl rfl rfl ?_
  refine R_getI (pc' := 29) (q := l1) fl_X8_38 rfl dX8_copyFrom_26 rfl (fun jokes4 => ?_)
  refine R_putI (pc' := 32) (q := (some this)) (x := jokes4) fl_X8_38 (Or.inl rfl) dX8_copyFrom_29 rfl (fun M => ?_)
  refine R_aloadq_n (pc' := 33) (i := 0) (j := 0) (q := (some this)) dX8_copyFrom_32 rfl rfl rfl ?_
  refine R_aloadq_n (pc' := 34) (i := 1) (j := 1) (q := l1) dX8_copyFrom_33 rfl rfl rfl ?_
  refine R_getI (pc' := 37) (q := l1) fl_X8_41 rfl dX8_copyFrom_34 rfl (fun ships5 => ?_)
  refine R_putI (pc' := 40) (q := (some this)) (x := ships5) fl_X8_41 (Or.inl rfl) dX8_copyFrom_37 rfl (fun M => ?_)
  refine R_aloadq_n (pc' := 41) (i := 1) (j := 1) (q := l1) dX8_copyFrom_40 rfl rfl rfl ?_
  refine R_getR (pc' := 44) (q := l1) fl_X8_9 rfl dX8_copyFrom_41 rfl (fun part6 => ?_)
  refine R_iconst (pc' := 45) (x := (nI 0)) dX8_copyFrom_44 rfl (by decide) ?_
  refine R_aloadq_n (pc' := 46) (i := 0) (j := 0) (q := (some this)) dX8_copyFrom_45 rfl rfl rfl ?_
  refine R_getR (pc' := 49) (q := (some this)) fl_X8_9 rfl dX8_copyFrom_46 rfl (fun part7 => ?_)
  refine R_iconst (pc' := 50) (x := (nI 0)) dX8_copyFrom_49 rfl (by decide) ?_
  refine R_aloadq_n (pc' := 51) (i := 0) (j := 0) (q := (some this)) dX8_copyFrom_50 rfl rfl rfl ?_
  refine R_getR (pc' := 54) (q := (some this)) fl_X8_9 rfl dX8_copyFrom_51 rfl (fun part8 => ?_)
  refine R_alen (pc' := 55) (q := part8) dX8_copyFrom_54 rfl (fun len9 => ?_)
  refine R_acopy (pc' := 58) (q0 := part6) (sp := (nI 0)) (q1 := part7) (dp := (nI 0)) (n := len9) lka_X8_50 sy_na sy_st sy_in dX8_copyFrom_55 rfl (by decide) (Nat.le_trans c_0 (by decide)) (fun M => ?_)
  refine R_aloadq_n (pc' := 59) (i := 1) (j := 1) (q := l1) dX8_copyFrom_58 rfl rfl rfl ?_
  refine R_getR (pc' := 62) (q := l1) fl_X8_15 rfl dX8_copyFrom_59 rfl (fun cargo10 => ?_)
  refine R_iconst (pc' := 63) (x := (nI 0)) dX8_copyFrom_62 rfl (by decide) ?_
  refine R_aloadq_n (pc' := 64) (i := 0) (j := 0) (q := (some this)) dX8_copyFrom_63 rfl rfl rfl ?_
  refine R_getR (pc' := 67) (q := (some this)) fl_X8_15 rfl dX8_copyFrom_64 rfl (fun cargo11 => ?_)
  refine R_iconst (pc' := 68) (x := (nI 0)) dX8_copyFrom_67 rfl (by decide) ?_
  refine R_iconst (pc' := 69) (x := (nI 5)) dX8_copyFrom_68 rfl (by decide) ?_
  refine R_acopy (pc' := 72) (q0 := cargo10) (sp := (nI 0)) (q1 := cargo11) (dp := (nI 0)) (n := (nI 5)) lka_X8_50 sy_na sy_st sy_in dX8_copyFrom_69 rfl (by decide) (Nat.le_trans c_0 (by decide)) (fun M => ?_)
  refine R_aloadq_n (pc' := 73) (i := 1) (j := 1) (q := l1) dX8_copyFrom_72 rfl rfl rfl ?_
  refine R_getR (pc' := 76) (q := l1) fl_X8_18 rfl dX8_copyFrom_73 rfl (fun keeps12 => ?_)
  refine R_iconst (pc' := 77) (x := (nI 0)) dX8_copyFrom_76 rfl (by decide) ?_
  refine R_aloadq_n (pc' := 78) (i := 0) (j := 0) (q := (some this)) dX8_copyFrom_77 rfl rfl rfl ?_
  refine R_getR (pc' := 81) (q := (some this)) fl_X8_18 rfl dX8_copyFrom_78 rfl (fun keeps13 => ?_)
  refine R_iconst (pc' := 82) (x := (nI 0)) dX8_copyFrom_81 rfl (by decide) ?_
  refine R_iconst (pc' := 83) (x := (nI 5)) dX8_copyFrom_82 rfl (by decide) ?_
  refine R_acopy (pc' := 86) (q0 := keeps12) (sp := (nI 0)) (q1 := keeps13) (dp := (nI 0)) (n := (nI 5)) lka_X8_50 sy_na sy_st sy_in dX8_copyFrom_83 rfl (by decide) (Nat.le_trans c_0 (by decide)) (fun M => ?_)
  refine R_aloadq_n (pc' := 87) (i := 1) (j := 1) (q := l1) dX8_copyFrom_86 rfl rfl rfl ?_
  refine R_getR (pc' := 90) (q := l1) fl_X8_21 rfl dX8_copyFrom_87 rfl (fun knows14 => ?_)
  refine R_iconst (pc' := 91) (x := (nI 0)) dX8_copyFrom_90 rfl (by decide) ?_
  refine R_aloadq_n (pc' := 92) (i := 0) (j := 0) (q := (some this)) dX8_copyFrom_91 rfl rfl rfl ?_
  refine R_getR (pc' := 95) (q := (some this)) fl_X8_21 rfl dX8_copyFrom_92 rfl (fun knows15 => ?_)
  refine R_iconst (pc' := 96) (x := (nI 0)) dX8_copyFrom_95 rfl (by decide) ?_
  refine R_iconst (pc' := 97) (x := (nI 5)) dX8_copyFrom_96 rfl (by decide) ?_
  refine R_acopy (pc' := 100) (q0 := knows14) (sp := (nI 0)) (q1 := knows15) (dp := (nI 0)) (n := (nI 5)) lka_X8_50 sy_na sy_st sy_in dX8_copyFrom_97 rfl (by decide) (Nat.le_trans c_0 (by decide)) (fun M => ?_)
  refine R_aloadq_n (pc' := 101) (i := 1) (j := 1) (q := l1) dX8_copyFrom_100 rfl rfl rfl ?_
  refine R_getR (pc' := 104) (q := l1) fl_X8_24 rfl dX8_copyFrom_101 rfl (fun near16 => ?_)
  refine R_iconst (pc' := 105) (x := (nI 0)) dX8_copyFrom_104 rfl (by decide) ?_
  refine R_aloadq_n (pc' := 106) (i := 0) (j := 0) (q := (some this)) dX8_copyFrom_105 rfl rfl rfl ?_
  refine R_getR (pc' := 109) (q := (some this)) fl_X8_24 rfl dX8_copyFrom_106 rfl (fun near17 => ?_)
  refine R_iconst (pc' := 110) (x := (nI 0)) dX8_copyFrom_109 rfl (by decide) ?_
  refine R_aloadq_n (pc' := 111) (i := 0) (j := 0) (q := (some this)) dX8_copyFrom_110 rfl rfl rfl ?_
  refine R_getR (pc' := 114) (q := (some this)) fl_X8_24 rfl dX8_copyFrom_111 rfl (fun near18 => ?_)
  refine R_alen (pc' := 115) (q := near18) dX8_copyFrom_114 rfl (fun len19 => ?_)
  refine R_acopy (pc' := 118) (q0 := near16) (sp := (nI 0)) (q1 := near17) (dp := (nI 0)) (n := len19) lka_X8_50 sy_na sy_st sy_in dX8_copyFrom_115 rfl (by decide) (Nat.le_trans c_0 (by decide)) (fun M => ?_)
  exact R_vret dX8_copyFrom_118
/-! BarPilot$Told.countAlike(IIII)I -/
def f_X8_countAlike_J57 (this : Nat) (s0 : Int32) (s1 : Int32) (M : Mem) : Option (Int32 × Mem) :=
  some ((s1 + s0), M)
set_option maxHeartbeats 2000000 in
set_option maxRecDepth 20000 in
theorem rf_X8_countAlike_J57 (this : Nat) (s0 : Int32) (s1 : Int32) (M : Mem) : RF yX8_countAlike cX8_countAlike 5 (some .int) 1 eI (f_X8_countAlike_J57 this s0 s1 M) 57 [] [.int s0, .int s1] M := by
  rw [f_X8_countAlike_J57]
  refine R_iadd (pc' := 58) (a := s1) (b := s0) dX8_countAlike_57 rfl ?_
  exact R_iret dX8_countAlike_58
def f_X8_countAlike_J36 (this : Nat) (l1 : Int32) (l4 : Int32) (s0 : Int32) (s1 : Int32) (M : Mem) : Option (Int32 × Mem) :=
  (gR M 8 5 (some this)).bind fun part1 =>
  (aI M 0 part1 (((nI 3) * l1) + (nI 2))).bind fun e2 =>
  (if e2 = l4 then
    (f_X8_countAlike_J57 this (nI 1) (s1 + s0) M)
  else
    (f_X8_countAlike_J57 this (nI 0) (s1 + s0) M))
set_option maxHeartbeats 2000000 in
set_option maxRecDepth 20000 in
theorem rf_X8_countAlike_J36 (this : Nat) (l1 : Int32) (l4 : Int32) (s0 : Int32) (s1 : Int32) (M : Mem) : RF yX8_countAlike cX8_countAlike 5 (some .int) 1 eI (f_X8_countAlike_J36 this l1 l4 s0 s1 M) 36 [(0, va_rf (some this)), (1, .int l1), (4, .int l4)] [.int s0, .int s1] M := by
  rw [f_X8_countAlike_J36]
  refine R_iadd (pc' := 37) (a := s1) (b := s0) dX8_countAlike_36 rfl ?_
  refine R_aloadq_n (pc' := 38) (i := 0) (j := 0) (q := (some this)) dX8_countAlike_37 rfl rfl rfl ?_
  refine R_getR (pc' := 41) (q := (some this)) fl_X8_9 rfl dX8_countAlike_38 rfl (fun part1 => ?_)
  refine R_iconst (pc' := 42) (x := (nI 3)) dX8_countAlike_41 rfl (by decide) ?_
  refine R_iload_n (pc' := 43) (i := 1) (j := 1) (x := l1) dX8_countAlike_42 rfl rfl rfl ?_
  refine R_imul (pc' := 44) (a := (nI 3)) (b := l1) dX8_countAlike_43 rfl ?_
  refine R_iconst (pc' := 45) (x := (nI 2)) dX8_countAlike_44 rfl (by decide) ?_
  refine R_iadd (pc' := 46) (a := ((nI 3) * l1)) (b := (nI 2)) dX8_countAlike_45 rfl ?_
  refine R_iald (pc' := 47) (q := part1) (i := (((nI 3) * l1) + (nI 2))) dX8_countAlike_46 rfl (fun e2 => ?_)
  refine R_iload (pc' := 49) (i := 4) (j := 2) (x := l4) dX8_countAlike_47 rfl rfl ?_
  refine R_icmp_ne (pc' := 52) (tgt := 56) (a := e2) (b := l4) dX8_countAlike_49 (by decide) rfl ?_ ?_
  · refine R_iconst (pc' := 57) (x := (nI 0)) dX8_countAlike_56 rfl (by decide) ?_
    exact R_sub [] rfl (rf_X8_countAlike_J57 this (nI 0) (s1 + s0) M)
  · refine R_iconst (pc' := 53) (x := (nI 1)) dX8_countAlike_52 rfl (by decide) ?_
    refine R_goto (tgt := 57) dX8_countAlike_53 (by decide) ?_
    exact R_sub [] rfl (rf_X8_countAlike_J57 this (nI 1) (s1 + s0) M)
def f_X8_countAlike_J17 (this : Nat) (l1 : Int32) (l3 : Int32) (l4 : Int32) (s0 : Int32) (M : Mem) : Option (Int32 × Mem) :=
  (gR M 8 5 (some this)).bind fun part1 =>
  (aI M 0 part1 (((nI 3) * l1) + (nI 1))).bind fun e2 =>
  (if e2 = l3 then
    (f_X8_countAlike_J36 this l1 l4 (nI 1) s0 M)
  else
    (f_X8_countAlike_J36 this l1 l4 (nI 0) s0 M))
set_option maxHeartbeats 2000000 in
set_option maxRecDepth 20000 in
theorem rf_X8_countAlike_J17 (this : Nat) (l1 : Int32) (l3 : Int32) (l4 : Int32) (s0 : Int32) (M : Mem) : RF yX8_countAlike cX8_countAlike 5 (some .int) 1 eI (f_X8_countAlike_J17 this l1 l3 l4 s0 M) 17 [(0, va_rf (some this)), (1, .int l1), (3, .int l3), (4, .int l4)] [.int s0] M := by
  rw [f_X8_countAlike_J17]
  refine R_aloadq_n (pc' := 18) (i := 0) (j := 0) (q := (some this)) dX8_countAlike_17 rfl rfl rfl ?_
  refine R_getR (pc' := 21) (q := (some this)) fl_X8_9 rfl dX8_countAlike_18 rfl (fun part1 => ?_)
  refine R_iconst (pc' := 22) (x := (nI 3)) dX8_countAlike_21 rfl (by decide) ?_
  refine R_iload_n (pc' := 23) (i := 1) (j := 1) (x := l1) dX8_countAlike_22 rfl rfl rfl ?_
  refine R_imul (pc' := 24) (a := (nI 3)) (b := l1) dX8_countAlike_23 rfl ?_
  refine R_iconst (pc' := 25) (x := (nI 1)) dX8_countAlike_24 rfl (by decide) ?_
  refine R_iadd (pc' := 26) (a := ((nI 3) * l1)) (b := (nI 1)) dX8_countAlike_25 rfl ?_
  refine R_iald (pc' := 27) (q := part1) (i := (((nI 3) * l1) + (nI 1))) dX8_countAlike_26 rfl (fun e2 => ?_)
  refine R_iload_n (pc' := 28) (i := 3) (j := 2) (x := l3) dX8_countAlike_27 rfl rfl rfl ?_
  refine R_icmp_ne (pc' := 31) (tgt := 35) (a := e2) (b := l3) dX8_countAlike_28 (by decide) rfl ?_ ?_
  · refine R_iconst (pc' := 36) (x := (nI 0)) dX8_countAlike_35 rfl (by decide) ?_
    exact R_sub [0, 1, 3] rfl (rf_X8_countAlike_J36 this l1 l4 (nI 0) s0 M)
  · refine R_iconst (pc' := 32) (x := (nI 1)) dX8_countAlike_31 rfl (by decide) ?_
    refine R_goto (tgt := 36) dX8_countAlike_32 (by decide) ?_
    exact R_sub [0, 1, 3] rfl (rf_X8_countAlike_J36 this l1 l4 (nI 1) s0 M)
def f_X8_countAlike (this : Nat) (l1 : Int32) (l2 : Int32) (l3 : Int32) (l4 : Int32) (M : Mem) : Option (Int32 × Mem) :=
  (gR M 8 5 (some this)).bind fun part1 =>
  (aI M 0 part1 ((nI 3) * l1)).bind fun e2 =>
  (if e2 = l2 then
    (f_X8_countAlike_J17 this l1 l3 l4 (nI 1) M)
  else
    (f_X8_countAlike_J17 this l1 l3 l4 (nI 0) M))
set_option maxHeartbeats 2000000 in
set_option maxRecDepth 20000 in
theorem rm_X8_countAlike (this : Nat) (l1 : Int32) (l2 : Int32) (l3 : Int32) (l4 : Int32) (M : Mem) : RFm yX8_countAlike cX8_countAlike 5 (some .int) 1 eI (f_X8_countAlike this l1 l2 l3 l4 M) [va_rf (some this), .int l1, .int l2, .int l3, .int l4] M := by
  refine RFm_of (L := [(0, va_rf (some this)), (1, .int l1), (2, .int l2), (3, .int l3), (4, .int l4)]) (by decide) rfl (Nat.le_trans (c_R (c_I (c_I (c_I (c_I c_0))))) (by decide)) ?_
  rw [f_X8_countAlike]
  refine R_aloadq_n (pc' := 1) (i := 0) (j := 0) (q := (some this)) dX8_countAlike_0 rfl rfl rfl ?_
  refine R_getR (pc' := 4) (q := (some this)) fl_X8_9 rfl dX8_countAlike_1 rfl (fun part1 => ?_)
  refine R_iconst (pc' := 5) (x := (nI 3)) dX8_countAlike_4 rfl (by decide) ?_
  refine R_iload_n (pc' := 6) (i := 1) (j := 1) (x := l1) dX8_countAlike_5 rfl rfl rfl ?_
  refine R_imul (pc' := 7) (a := (nI 3)) (b := l1) dX8_countAlike_6 rfl ?_
  refine R_iald (pc' := 8) (q := part1) (i := ((nI 3) * l1)) dX8_countAlike_7 rfl (fun e2 => ?_)
  refine R_iload_n (pc' := 9) (i := 2) (j := 2) (x := l2) dX8_countAlike_8 rfl rfl rfl ?_
  refine R_icmp_ne (pc' := 12) (tgt := 16) (a := e2) (b := l2) dX8_countAlike_9 (by decide) rfl ?_ ?_
  · refine R_iconst (pc' := 17) (x := (nI 0)) dX8_countAlike_16 rfl (by decide) ?_
    exact R_sub [0, 1, 3, 4] rfl (rf_X8_countAlike_J17 this l1 l3 l4 (nI 0) M)
  · refine R_iconst (pc' := 13) (x := (nI 1)) dX8_countAlike_12 rfl (by decide) ?_
    refine R_goto (tgt := 17) dX8_countAlike_13 (by decide) ?_
    exact R_sub [0, 1, 3, 4] rfl (rf_X8_countAlike_J17 this l1 l3 l4 (nI 1) M)
/-! BarPilot$Told.partsAlike(II)I -/
def f_X8_partsAlike (this : Nat) (l1 : Int32) (l2 : Int32) (M : Mem) : Option (Int32 × Mem) :=
  (gR M 8 5 (some this)).bind fun part1 =>
  (aI M 0 part1 ((nI 3) * l2)).bind fun e2 =>
  (gR M 8 5 (some this)).bind fun part3 =>
  (aI M 0 part3 (((nI 3) * l2) + (nI 1))).bind fun e4 =>
  (gR M 8 5 (some this)).bind fun part5 =>
  (aI M 0 part5 (((nI 3) * l2) + (nI 2))).bind fun e6 =>
  (oO M 8 (some this)).bind fun o8 => cl (f_X8_countAlike o8 l1 e2 e4 e6 M) fun r7 M =>
  some (r7, M)
set_option maxHeartbeats 2000000 in
set_option maxRecDepth 20000 in
theorem rm_X8_partsAlike (this : Nat) (l1 : Int32) (l2 : Int32) (M : Mem) : RFm yX8_partsAlike cX8_partsAlike 3 (some .int) 2 eI (f_X8_partsAlike this l1 l2 M) [va_rf (some this), .int l1, .int l2] M := by
  refine RFm_of (L := [(0, va_rf (some this)), (1, .int l1), (2, .int l2)]) (by decide) rfl (Nat.le_trans (c_R (c_I (c_I c_0))) (by decide)) ?_
  rw [f_X8_partsAlike]
  refine R_aloadq_n (pc' := 1) (i := 0) (j := 0) (q := (some this)) dX8_partsAlike_0 rfl rfl rfl ?_
  refine R_iload_n (pc' := 2) (i := 1) (j := 1) (x := l1) dX8_partsAlike_1 rfl rfl rfl ?_
  refine R_aloadq_n (pc' := 3) (i := 0) (j := 0) (q := (some this)) dX8_partsAlike_2 rfl rfl rfl ?_
  refine R_getR (pc' := 6) (q := (some this)) fl_X8_9 rfl dX8_partsAlike_3 rfl (fun part1 => ?_)
  refine R_iconst (pc' := 7) (x := (nI 3)) dX8_partsAlike_6 rfl (by decide) ?_
  refine R_iload_n (pc' := 8) (i := 2) (j := 2) (x := l2) dX8_partsAlike_7 rfl rfl rfl ?_
  refine R_imul (pc' := 9) (a := (nI 3)) (b := l2) dX8_partsAlike_8 rfl ?_
  refine R_iald (pc' := 10) (q := part1) (i := ((nI 3) * l2)) dX8_partsAlike_9 rfl (fun e2 => ?_)
  refine R_aloadq_n (pc' := 11) (i := 0) (j := 0) (q := (some this)) dX8_partsAlike_10 rfl rfl rfl ?_
  refine R_getR (pc' := 14) (q := (some this)) fl_X8_9 rfl dX8_partsAlike_11 rfl (fun part3 => ?_)
  refine R_iconst (pc' := 15) (x := (nI 3)) dX8_partsAlike_14 rfl (by decide) ?_
  refine R_iload_n (pc' := 16) (i := 2) (j := 2) (x := l2) dX8_partsAlike_15 rfl rfl rfl ?_
  refine R_imul (pc' := 17) (a := (nI 3)) (b := l2) dX8_partsAlike_16 rfl ?_
  refine R_iconst (pc' := 18) (x := (nI 1)) dX8_partsAlike_17 rfl (by decide) ?_
  refine R_iadd (pc' := 19) (a := ((nI 3) * l2)) (b := (nI 1)) dX8_partsAlike_18 rfl ?_
  refine R_iald (pc' := 20) (q := part3) (i := (((nI 3) * l2) + (nI 1))) dX8_partsAlike_19 rfl (fun e4 => ?_)
  refine R_aloadq_n (pc' := 21) (i := 0) (j := 0) (q := (some this)) dX8_partsAlike_20 rfl rfl rfl ?_
  refine R_getR (pc' := 24) (q := (some this)) fl_X8_9 rfl dX8_partsAlike_21 rfl (fun part5 => ?_)
  refine R_iconst (pc' := 25) (x := (nI 3)) dX8_partsAlike_24 rfl (by decide) ?_
  refine R_iload_n (pc' := 26) (i := 2) (j := 2) (x := l2) dX8_partsAlike_25 rfl rfl rfl ?_
  refine R_imul (pc' := 27) (a := (nI 3)) (b := l2) dX8_partsAlike_26 rfl ?_
  refine R_iconst (pc' := 28) (x := (nI 2)) dX8_partsAlike_27 rfl (by decide) ?_
  refine R_iadd (pc' := 29) (a := ((nI 3) * l2)) (b := (nI 2)) dX8_partsAlike_28 rfl ?_
  refine R_iald (pc' := 30) (q := part5) (i := (((nI 3) * l2) + (nI 2))) dX8_partsAlike_29 rfl (fun e6 => ?_)
  refine R_callV_I (pc' := 33) (q := (some this)) (As := [.int l1, .int e2, .int e4, .int e6]) (fun o8 => rm_X8_countAlike o8 l1 e2 e4 e6 M) mf_X8_countAlike lk_X8_60 im_X8_countAlike se_X8_countAlike rfl rfl rfl dX8_partsAlike_30 rfl (by decide) (Nat.le_trans c_0 (by decide)) (fun r7 M => ?_)
  exact R_iret dX8_partsAlike_33
/-! BarPilot$Told.addJoke(III)V -/
def f_X8_addJoke_L75 (k53 : Int32 → Int32 → Mem → Option (Unit × Mem)) (this : Nat) : Nat → Int32 → Int32 → Int32 → Int32 → Mem → Option (Unit × Mem)
  | 0, _, _, _, _, _ => none
  | n + 1, l4, l5, l6, l7, M =>
    (if l6 < l7 then
      (k53 l4 (l5 + (nI 1)) M)
    else
      ((gR M 8 9 (some this)).bind fun near1 =>
      (aI M 0 near1 (((nI 8) * l7) + l5)).bind fun e2 =>
      (wI M 0 near1 (((nI 8) * l7) + l5) (e2 ||| ((nI 1) <<< (l4 &&& 31)))).bind fun M =>
      (gR M 8 9 (some this)).bind fun near3 =>
      (aI M 0 near3 (((nI 8) * l7) + l4)).bind fun e4 =>
      (wI M 0 near3 (((nI 8) * l7) + l4) (e4 ||| ((nI 1) <<< (l5 &&& 31)))).bind fun M =>
      (f_X8_addJoke_L75 k53 this n) l4 l5 l6 (l7 + (nI 1)) M))
set_option maxHeartbeats 2000000 in
set_option maxRecDepth 20000 in
theorem rf_X8_addJoke_L75 (this : Nat) (k53 : Int32 → Int32 → Mem → Option (Unit × Mem)) (hk53 : ∀ (l4 : Int32) (l5 : Int32) (M : Mem), RF yX8_addJoke cX8_addJoke 8 none 3 eV (k53 l4 l5 M) 53 [(0, va_rf (some this)), (4, .int l4), (5, .int l5)] [] M) : ∀ (n : Nat) (l4 : Int32) (l5 : Int32) (l6 : Int32) (l7 : Int32) (M : Mem), RF yX8_addJoke cX8_addJoke 8 none 3 eV (f_X8_addJoke_L75 k53 this n l4 l5 l6 l7 M) 75 [(0, va_rf (some this)), (4, .int l4), (5, .int l5), (6, .int l6), (7, .int l7)] [] M := by
  intro n
  induction n with
  | zero => intro _ _ _ _ _; exact RF.none
  | succ n ih =>
    intro l4 l5 l6 l7 M
    rw [f_X8_addJoke_L75]
    refine R_iload (pc' := 77) (i := 7) (j := 4) (x := l7) dX8_addJoke_75 rfl rfl ?_
    refine R_iload (pc' := 79) (i := 6) (j := 3) (x := l6) dX8_addJoke_77 rfl rfl ?_
    refine R_icmp_gt (pc' := 82) (tgt := 128) (a := l7) (b := l6) dX8_addJoke_79 (by decide) rfl ?_ ?_
    · refine R_iinc (pc' := 131) (L' := [(5, .int (l5 + (nI 1))), (0, va_rf (some this)), (4, .int l4), (6, .int l6), (7, .int l7)]) (i := 5) (j := 2) (x := l5) (x2 := (l5 + (nI 1))) dX8_addJoke_128 rfl rfl rfl (by decide) rfl ?_
      refine R_goto (tgt := 53) dX8_addJoke_131 (by decide) ?_
      exact R_sub [1, 2, 0] rfl (hk53 l4 (l5 + (nI 1)) M)
    · refine R_aloadq_n (pc' := 83) (i := 0) (j := 0) (q := (some this)) dX8_addJoke_82 rfl rfl rfl ?_
      refine R_getR (pc' := 86) (q := (some this)) fl_X8_24 rfl dX8_addJoke_83 rfl (fun near1 => ?_)
      refine R_bipush (pc' := 88) (x := (nI 8)) dX8_addJoke_86 rfl (by decide) ?_
      refine R_iload (pc' := 90) (i := 7) (j := 4) (x := l7) dX8_addJoke_88 rfl rfl ?_
      refine R_imul (pc' := 91) (a := (nI 8)) (b := l7) dX8_addJoke_90 rfl ?_
      refine R_iload (pc' := 93) (i := 5) (j := 2) (x := l5) dX8_addJoke_91 rfl rfl ?_
      refine R_iadd (pc' := 94) (a := ((nI 8) * l7)) (b := l5) dX8_addJoke_93 rfl ?_
      refine R_dup2 (pc' := 95) dX8_addJoke_94 rfl rfl (rf_cat _) ?_
      refine R_iald (pc' := 96) (q := near1) (i := (((nI 8) * l7) + l5)) dX8_addJoke_95 rfl (fun e2 => ?_)
      refine R_iconst (pc' := 97) (x := (nI 1)) dX8_addJoke_96 rfl (by decide) ?_
      refine R_iload (pc' := 99) (i := 4) (j := 1) (x := l4) dX8_addJoke_97 rfl rfl ?_
      refine R_ishl (pc' := 100) (a := (nI 1)) (b := l4) dX8_addJoke_99 rfl ?_
      refine R_ior (pc' := 101) (a := e2) (b := ((nI 1) <<< (l4 &&& 31))) dX8_addJoke_100 rfl ?_
      refine R_iast (pc' := 102) (q := near1) (i := (((nI 8) * l7) + l5)) (x := (e2 ||| ((nI 1) <<< (l4 &&& 31)))) dX8_addJoke_101 rfl (fun M => ?_)
      refine R_aloadq_n (pc' := 103) (i := 0) (j := 0) (q := (some this)) dX8_addJoke_102 rfl rfl rfl ?_
      refine R_getR (pc' := 106) (q := (some this)) fl_X8_24 rfl dX8_addJoke_103 rfl (fun near3 => ?_)
      refine R_bipush (pc' := 108) (x := (nI 8)) dX8_addJoke_106 rfl (by decide) ?_
      refine R_iload (pc' := 110) (i := 7) (j := 4) (x := l7) dX8_addJoke_108 rfl rfl ?_
      refine R_imul (pc' := 111) (a := (nI 8)) (b := l7) dX8_addJoke_110 rfl ?_
      refine R_iload (pc' := 113) (i := 4) (j := 1) (x := l4) dX8_addJoke_111 rfl rfl ?_
      refine R_iadd (pc' := 114) (a := ((nI 8) * l7)) (b := l4) dX8_addJoke_113 rfl ?_
      refine R_dup2 (pc' := 115) dX8_addJoke_114 rfl rfl (rf_cat _) ?_
      refine R_iald (pc' := 116) (q := near3) (i := (((nI 8) * l7) + l4)) dX8_addJoke_115 rfl (fun e4 => ?_)
      refine R_iconst (pc' := 117) (x := (nI 1)) dX8_addJoke_116 rfl (by decide) ?_
      refine R_iload (pc' := 119) (i := 5) (j := 2) (x := l5) dX8_addJoke_117 rfl rfl ?_
      refine R_ishl (pc' := 120) (a := (nI 1)) (b := l5) dX8_addJoke_119 rfl ?_
      refine R_ior (pc' := 121) (a := e4) (b := ((nI 1) <<< (l5 &&& 31))) dX8_addJoke_120 rfl ?_
      refine R_iast (pc' := 122) (q := near3) (i := (((nI 8) * l7) + l4)) (x := (e4 ||| ((nI 1) <<< (l5 &&& 31)))) dX8_addJoke_121 rfl (fun M => ?_)
      refine R_iinc (pc' := 125) (L' := [(7, .int (l7 + (nI 1))), (0, va_rf (some this)), (4, .int l4), (5, .int l5), (6, .int l6)]) (i := 7) (j := 4) (x := l7) (x2 := (l7 + (nI 1))) dX8_addJoke_122 rfl rfl rfl (by decide) rfl ?_
      refine R_goto (tgt := 75) dX8_addJoke_125 (by decide) ?_
      exact R_sub [1, 2, 3, 4, 0] rfl (ih l4 l5 l6 (l7 + (nI 1)) M)
def f_X8_addJoke_L53 (this : Nat) : Nat → Int32 → Int32 → Mem → Option (Unit × Mem)
  | 0, _, _, _ => none
  | n + 1, l4, l5, M =>
    (gI M 8 3 (some this)).bind fun jokes1 =>
    (if jokes1 ≤ l5 then
      (some ((), M))
    else
      ((oO M 8 (some this)).bind fun o3 => cl (f_X8_partsAlike o3 l5 l4 M) fun r2 M =>
      f_X8_addJoke_L75 (f_X8_addJoke_L53 this n) this FU l4 l5 r2 (nI 1) M))
set_option maxHeartbeats 2000000 in
set_option maxRecDepth 20000 in
theorem rf_X8_addJoke_L53 (this : Nat) : ∀ (n : Nat) (l4 : Int32) (l5 : Int32) (M : Mem), RF yX8_addJoke cX8_addJoke 8 none 3 eV (f_X8_addJoke_L53 this n l4 l5 M) 53 [(0, va_rf (some this)), (4, .int l4), (5, .int l5)] [] M := by
  intro n
  induction n with
  | zero => intro _ _ _; exact RF.none
  | succ n ih =>
    intro l4 l5 M
    rw [f_X8_addJoke_L53]
    refine R_iload (pc' := 55) (i := 5) (j := 2) (x := l5) dX8_addJoke_53 rfl rfl ?_
    refine R_aloadq_n (pc' := 56) (i := 0) (j := 0) (q := (some this)) dX8_addJoke_55 rfl rfl rfl ?_
    refine R_getI (pc' := 59) (q := (some this)) fl_X8_38 rfl dX8_addJoke_56 rfl (fun jokes1 => ?_)
    refine R_icmp_ge (pc' := 62) (tgt := 134) (a := l5) (b := jokes1) dX8_addJoke_59 (by decide) rfl ?_ ?_
    · exact R_vret dX8_addJoke_134
    · refine R_aloadq_n (pc' := 63) (i := 0) (j := 0) (q := (some this)) dX8_addJoke_62 rfl rfl rfl ?_
      refine R_iload (pc' := 65) (i := 5) (j := 2) (x := l5) dX8_addJoke_63 rfl rfl ?_
      refine R_iload (pc' := 67) (i := 4) (j := 1) (x := l4) dX8_addJoke_65 rfl rfl ?_
      refine R_callV_I (pc' := 70) (q := (some this)) (As := [.int l5, .int l4]) (fun o3 => rm_X8_partsAlike o3 l5 l4 M) mf_X8_partsAlike lk_X8_56 im_X8_partsAlike se_X8_partsAlike rfl rfl rfl dX8_addJoke_67 rfl (by decide) (Nat.le_trans c_0 (by decide)) (fun r2 M => ?_)
      refine R_istore (pc' := 72) (L' := [(6, .int r2), (0, va_rf (some this)), (4, .int l4), (5, .int l5)]) (i := 6) (x := r2) dX8_addJoke_70 rfl (by decide) rfl ?_
      refine R_iconst (pc' := 73) (x := (nI 1)) dX8_addJoke_72 rfl (by decide) ?_
      refine R_istore (pc' := 75) (L' := [(7, .int (nI 1)), (6, .int r2), (0, va_rf (some this)), (4, .int l4), (5, .int l5)]) (i := 7) (x := (nI 1)) dX8_addJoke_73 rfl (by decide) rfl ?_
      exact R_sub [2, 3, 4, 1, 0] rfl (rf_X8_addJoke_L75 this (f_X8_addJoke_L53 this n) ih FU l4 l5 r2 (nI 1) M)
def f_X8_addJoke (this : Nat) (l1 : Int32) (l2 : Int32) (l3 : Int32) (M : Mem) : Option (Unit × Mem) :=
  (gI M 8 3 (some this)).bind fun jokes1 =>
  (gR M 8 5 (some this)).bind fun part2 =>
  (wI M 0 part2 ((nI 3) * jokes1) l1).bind fun M =>
  (gR M 8 5 (some this)).bind fun part3 =>
  (wI M 0 part3 (((nI 3) * jokes1) + (nI 1)) l2).bind fun M =>
  (gR M 8 5 (some this)).bind fun part4 =>
  (wI M 0 part4 (((nI 3) * jokes1) + (nI 2)) l3).bind fun M =>
  (gI M 8 3 (some this)).bind fun jokes5 =>
  (pI M 8 3 (some this) (jokes5 + (nI 1))).bind fun M =>
  f_X8_addJoke_L53 this FU jokes1 (nI 0) M
set_option maxHeartbeats 2000000 in
set_option maxRecDepth 20000 in
theorem rm_X8_addJoke (this : Nat) (l1 : Int32) (l2 : Int32) (l3 : Int32) (M : Mem) : RFm yX8_addJoke cX8_addJoke 8 none 3 eV (f_X8_addJoke this l1 l2 l3 M) [va_rf (some this), .int l1, .int l2, .int l3] M := by
  refine RFm_of (L := [(0, va_rf (some this)), (1, .int l1), (2, .int l2), (3, .int l3)]) (by decide) rfl (Nat.le_trans (c_R (c_I (c_I (c_I c_0)))) (by decide)) ?_
  rw [f_X8_addJoke]
  refine R_aloadq_n (pc' := 1) (i := 0) (j := 0) (q := (some this)) dX8_addJoke_0 rfl rfl rfl ?_
  refine R_getI (pc' := 4) (q := (some this)) fl_X8_38 rfl dX8_addJoke_1 rfl (fun jokes1 => ?_)
  refine R_istore (pc' := 6) (L' := [(4, .int jokes1), (0, va_rf (some this)), (1, .int l1), (2, .int l2), (3, .int l3)]) (i := 4) (x := jokes1) dX8_addJoke_4 rfl (by decide) rfl ?_
  refine R_aloadq_n (pc' := 7) (i := 0) (j := 1) (q := (some this)) dX8_addJoke_6 rfl rfl rfl ?_
  refine R_getR (pc' := 10) (q := (some this)) fl_X8_9 rfl dX8_addJoke_7 rfl (fun part2 => ?_)
  refine R_iconst (pc' := 11) (x := (nI 3)) dX8_addJoke_10 rfl (by decide) ?_
  refine R_iload (pc' := 13) (i := 4) (j := 0) (x := jokes1) dX8_addJoke_11 rfl rfl ?_
  refine R_imul (pc' := 14) (a := (nI 3)) (b := jokes1) dX8_addJoke_13 rfl ?_
  refine R_iload_n (pc' := 15) (i := 1) (j := 2) (x := l1) dX8_addJoke_14 rfl rfl rfl ?_
  refine R_iast (pc' := 16) (q := part2) (i := ((nI 3) * jokes1)) (x := l1) dX8_addJoke_15 rfl (fun M => ?_)
  refine R_aloadq_n (pc' := 17) (i := 0) (j := 1) (q := (some this)) dX8_addJoke_16 rfl rfl rfl ?_
  refine R_getR (pc' := 20) (q := (some this)) fl_X8_9 rfl dX8_addJoke_17 rfl (fun part3 => ?_)
  refine R_iconst (pc' := 21) (x := (nI 3)) dX8_addJoke_20 rfl (by decide) ?_
  refine R_iload (pc' := 23) (i := 4) (j := 0) (x := jokes1) dX8_addJoke_21 rfl rfl ?_
  refine R_imul (pc' := 24) (a := (nI 3)) (b := jokes1) dX8_addJoke_23 rfl ?_
  refine R_iconst (pc' := 25) (x := (nI 1)) dX8_addJoke_24 rfl (by decide) ?_
  refine R_iadd (pc' := 26) (a := ((nI 3) * jokes1)) (b := (nI 1)) dX8_addJoke_25 rfl ?_
  refine R_iload_n (pc' := 27) (i := 2) (j := 3) (x := l2) dX8_addJoke_26 rfl rfl rfl ?_
  refine R_iast (pc' := 28) (q := part3) (i := (((nI 3) * jokes1) + (nI 1))) (x := l2) dX8_addJoke_27 rfl (fun M => ?_)
  refine R_aloadq_n (pc' := 29) (i := 0) (j := 1) (q := (some this)) dX8_addJoke_28 rfl rfl rfl ?_
  refine R_getR (pc' := 32) (q := (some this)) fl_X8_9 rfl dX8_addJoke_29 rfl (fun part4 => ?_)
  refine R_iconst (pc' := 33) (x := (nI 3)) dX8_addJoke_32 rfl (by decide) ?_
  refine R_iload (pc' := 35) (i := 4) (j := 0) (x := jokes1) dX8_addJoke_33 rfl rfl ?_
  refine R_imul (pc' := 36) (a := (nI 3)) (b := jokes1) dX8_addJoke_35 rfl ?_
  refine R_iconst (pc' := 37) (x := (nI 2)) dX8_addJoke_36 rfl (by decide) ?_
  refine R_iadd (pc' := 38) (a := ((nI 3) * jokes1)) (b := (nI 2)) dX8_addJoke_37 rfl ?_
  refine R_iload_n (pc' := 39) (i := 3) (j := 4) (x := l3) dX8_addJoke_38 rfl rfl rfl ?_
  refine R_iast (pc' := 40) (q := part4) (i := (((nI 3) * jokes1) + (nI 2))) (x := l3) dX8_addJoke_39 rfl (fun M => ?_)
  refine R_aloadq_n (pc' := 41) (i := 0) (j := 1) (q := (some this)) dX8_addJoke_40 rfl rfl rfl ?_
  refine R_dup (pc' := 42) dX8_addJoke_41 rfl (rf_cat _) ?_
  refine R_getI (pc' := 45) (q := (some this)) fl_X8_38 rfl dX8_addJoke_42 rfl (fun jokes5 => ?_)
  refine R_iconst (pc' := 46) (x := (nI 1)) dX8_addJoke_45 rfl (by decide) ?_
  refine R_iadd (pc' := 47) (a := jokes5) (b := (nI 1)) dX8_addJoke_46 rfl ?_
  refine R_putI (pc' := 50) (q := (some this)) (x := (jokes5 + (nI 1))) fl_X8_38 (Or.inl rfl) dX8_addJoke_47 rfl (fun M => ?_)
  refine R_iconst (pc' := 51) (x := (nI 0)) dX8_addJoke_50 rfl (by decide) ?_
  refine R_istore (pc' := 53) (L' := [(5, .int (nI 0)), (4, .int jokes1), (0, va_rf (some this)), (1, .int l1), (2, .int l2), (3, .int l3)]) (i := 5) (x := (nI 0)) dX8_addJoke_51 rfl (by decide) rfl ?_
  exact R_sub [2, 1, 0] rfl (rf_X8_addJoke_L53 this FU jokes1 (nI 0) M)
/-! BarPilot$Told.addShip(II)V -/
def f_X8_addShip (this : Nat) (l1 : Int32) (l2 : Int32) (M : Mem) : Option (Unit × Mem) :=
  (gR M 8 6 (some this)).bind fun cargo1 =>
  (gI M 8 4 (some this)).bind fun ships2 =>
  (wI M 0 cargo1 ships2 l1).bind fun M =>
  (gR M 8 7 (some this)).bind fun keeps3 =>
  (gI M 8 4 (some this)).bind fun ships4 =>
  (wI M 0 keeps3 ships4 l2).bind fun M =>
  (gI M 8 4 (some this)).bind fun ships5 =>
  (pI M 8 4 (some this) (ships5 + (nI 1))).bind fun M =>
  some ((), M)
set_option maxHeartbeats 2000000 in
set_option maxRecDepth 20000 in
theorem rm_X8_addShip (this : Nat) (l1 : Int32) (l2 : Int32) (M : Mem) : RFm yX8_addShip cX8_addShip 3 none 1 eV (f_X8_addShip this l1 l2 M) [va_rf (some this), .int l1, .int l2] M := by
  refine RFm_of (L := [(0, va_rf (some this)), (1, .int l1), (2, .int l2)]) (by decide) rfl (Nat.le_trans (c_R (c_I (c_I c_0))) (by decide)) ?_
  rw [f_X8_addShip]
  refine R_aloadq_n (pc' := 1) (i := 0) (j := 0) (q := (some this)) dX8_addShip_0 rfl rfl rfl ?_
  refine R_getR (pc' := 4) (q := (some this)) fl_X8_15 rfl dX8_addShip_1 rfl (fun cargo1 => ?_)
  refine R_aloadq_n (pc' := 5) (i := 0) (j := 0) (q := (some this)) dX8_addShip_4 rfl rfl rfl ?_
  refine R_getI (pc' := 8) (q := (some this)) fl_X8_41 rfl dX8_addShip_5 rfl (fun ships2 => ?_)
  refine R_iload_n (pc' := 9) (i := 1) (j := 1) (x := l1) dX8_addShip_8 rfl rfl rfl ?_
  refine R_iast (pc' := 10) (q := cargo1) (i := ships2) (x := l1) dX8_addShip_9 rfl (fun M => ?_)
  refine R_aloadq_n (pc' := 11) (i := 0) (j := 0) (q := (some this)) dX8_addShip_10 rfl rfl rfl ?_
  refine R_getR (pc' := 14) (q := (some this)) fl_X8_18 rfl dX8_addShip_11 rfl (fun keeps3 => ?_)
  refine R_aloadq_n (pc' := 15) (i := 0) (j := 0) (q := (some this)) dX8_addShip_14 rfl rfl rfl ?_
  refine R_getI (pc' := 18) (q := (some this)) fl_X8_41 rfl dX8_addShip_15 rfl (fun ships4 => ?_)
  refine R_iload_n (pc' := 19) (i := 2) (j := 2) (x := l2) dX8_addShip_18 rfl rfl rfl ?_
  refine R_iast (pc' := 20) (q := keeps3) (i := ships4) (x := l2) dX8_addShip_19 rfl (fun M => ?_)
  refine R_aloadq_n (pc' := 21) (i := 0) (j := 0) (q := (some this)) dX8_addShip_20 rfl rfl rfl ?_
  refine R_dup (pc' := 22) dX8_addShip_21 rfl (rf_cat _) ?_
  refine R_getI (pc' := 25) (q := (some this)) fl_X8_41 rfl dX8_addShip_22 rfl (fun ships5 => ?_)
  refine R_iconst (pc' := 26) (x := (nI 1)) dX8_addShip_25 rfl (by decide) ?_
  refine R_iadd (pc' := 27) (a := ships5) (b := (nI 1)) dX8_addShip_26 rfl ?_
  refine R_putI (pc' := 30) (q := (some this)) (x := (ships5 + (nI 1))) fl_X8_41 (Or.inl rfl) dX8_addShip_27 rfl (fun M => ?_)
  exact R_vret dX8_addShip_30
/-! BarPilot$Told.isNew(II)Z -/
def f_X8_isNew_J24 (this : Nat) (s0 : Int32) (M : Mem) : Option (Int32 × Mem) :=
  ckZ s0 (some (s0, M))
set_option maxHeartbeats 2000000 in
set_option maxRecDepth 20000 in
theorem rf_X8_isNew_J24 (this : Nat) (s0 : Int32) (M : Mem) : RF yX8_isNew cX8_isNew 3 (some .boolean) 1 eI (f_X8_isNew_J24 this s0 M) 24 [] [.int s0] M := by
  rw [f_X8_isNew_J24]
  exact R_bret dX8_isNew_24
def f_X8_isNew (this : Nat) (l1 : Int32) (l2 : Int32) (M : Mem) : Option (Int32 × Mem) :=
  (gR M 8 9 (some this)).bind fun near1 =>
  (gI M 8 2 (some this)).bind fun like2 =>
  (aI M 0 near1 (((nI 8) * like2) + l1)).bind fun e3 =>
  (if (e3 &&& l2) = 0 then
    (f_X8_isNew_J24 this (nI 1) M)
  else
    (f_X8_isNew_J24 this (nI 0) M))
set_option maxHeartbeats 2000000 in
set_option maxRecDepth 20000 in
theorem rm_X8_isNew (this : Nat) (l1 : Int32) (l2 : Int32) (M : Mem) : RFm yX8_isNew cX8_isNew 3 (some .boolean) 1 eI (f_X8_isNew this l1 l2 M) [va_rf (some this), .int l1, .int l2] M := by
  refine RFm_of (L := [(0, va_rf (some this)), (1, .int l1), (2, .int l2)]) (by decide) rfl (Nat.le_trans (c_R (c_I (c_I c_0))) (by decide)) ?_
  rw [f_X8_isNew]
  refine R_aloadq_n (pc' := 1) (i := 0) (j := 0) (q := (some this)) dX8_isNew_0 rfl rfl rfl ?_
  refine R_getR (pc' := 4) (q := (some this)) fl_X8_24 rfl dX8_isNew_1 rfl (fun near1 => ?_)
  refine R_bipush (pc' := 6) (x := (nI 8)) dX8_isNew_4 rfl (by decide) ?_
  refine R_aloadq_n (pc' := 7) (i := 0) (j := 0) (q := (some this)) dX8_isNew_6 rfl rfl rfl ?_
  refine R_getI (pc' := 10) (q := (some this)) fl_X8_35 rfl dX8_isNew_7 rfl (fun like2 => ?_)
  refine R_imul (pc' := 11) (a := (nI 8)) (b := like2) dX8_isNew_10 rfl ?_
  refine R_iload_n (pc' := 12) (i := 1) (j := 1) (x := l1) dX8_isNew_11 rfl rfl rfl ?_
  refine R_iadd (pc' := 13) (a := ((nI 8) * like2)) (b := l1) dX8_isNew_12 rfl ?_
  refine R_iald (pc' := 14) (q := near1) (i := (((nI 8) * like2) + l1)) dX8_isNew_13 rfl (fun e3 => ?_)
  refine R_iload_n (pc' := 15) (i := 2) (j := 2) (x := l2) dX8_isNew_14 rfl rfl rfl ?_
  refine R_iand (pc' := 16) (a := e3) (b := l2) dX8_isNew_15 rfl ?_
  refine R_if_ne (pc' := 19) (tgt := 23) (a := (e3 &&& l2)) dX8_isNew_16 (by decide) rfl ?_ ?_
  · refine R_iconst (pc' := 24) (x := (nI 0)) dX8_isNew_23 rfl (by decide) ?_
    exact R_sub [] rfl (rf_X8_isNew_J24 this (nI 0) M)
  · refine R_iconst (pc' := 20) (x := (nI 1)) dX8_isNew_19 rfl (by decide) ?_
    refine R_goto (tgt := 24) dX8_isNew_20 (by decide) ?_
    exact R_sub [] rfl (rf_X8_isNew_J24 this (nI 1) M)
/-! BarPilot$Told.newOnes(I)I -/
def f_X8_newOnes_J27 (k4 : Int32 → Int32 → Int32 → Mem → Option (Int32 × Mem)) (this : Nat) (l1 : Int32) (l2 : Int32) (l3 : Int32) (M : Mem) : Option (Int32 × Mem) :=
  k4 l1 l2 (l3 + (nI 1)) M
set_option maxHeartbeats 2000000 in
set_option maxRecDepth 20000 in
theorem rf_X8_newOnes_J27 (this : Nat) (k4 : Int32 → Int32 → Int32 → Mem → Option (Int32 × Mem)) (hk4 : ∀ (l1 : Int32) (l2 : Int32) (l3 : Int32) (M : Mem), RF yX8_newOnes cX8_newOnes 4 (some .int) 2 eI (k4 l1 l2 l3 M) 4 [(0, va_rf (some this)), (1, .int l1), (2, .int l2), (3, .int l3)] [] M) (l1 : Int32) (l2 : Int32) (l3 : Int32) (M : Mem) : RF yX8_newOnes cX8_newOnes 4 (some .int) 2 eI (f_X8_newOnes_J27 k4 this l1 l2 l3 M) 27 [(0, va_rf (some this)), (1, .int l1), (2, .int l2), (3, .int l3)] [] M := by
  rw [f_X8_newOnes_J27]
  refine R_iinc (pc' := 30) (L' := [(3, .int (l3 + (nI 1))), (0, va_rf (some this)), (1, .int l1), (2, .int l2)]) (i := 3) (j := 3) (x := l3) (x2 := (l3 + (nI 1))) dX8_newOnes_27 rfl rfl rfl (by decide) rfl ?_
  refine R_goto (tgt := 4) dX8_newOnes_30 (by decide) ?_
  exact R_sub [1, 2, 3, 0] rfl (hk4 l1 l2 (l3 + (nI 1)) M)
def f_X8_newOnes_L4 (this : Nat) : Nat → Int32 → Int32 → Int32 → Mem → Option (Int32 × Mem)
  | 0, _, _, _, _ => none
  | n + 1, l1, l2, l3, M =>
    (gI M 8 3 (some this)).bind fun jokes1 =>
    (if jokes1 ≤ l3 then
      (some (l2, M))
    else
      ((oO M 8 (some this)).bind fun o4 => cl (f_X8_isNew o4 l3 l1 M) fun r2 M =>
      (if r2 = 0 then
        (f_X8_newOnes_J27 (f_X8_newOnes_L4 this n) this l1 l2 l3 M)
      else
        (nm (l2 ||| ((nI 1) <<< (l3 &&& 31))) fun v3 =>
        f_X8_newOnes_J27 (f_X8_newOnes_L4 this n) this l1 v3 l3 M))))
set_option maxHeartbeats 2000000 in
set_option maxRecDepth 20000 in
theorem rf_X8_newOnes_L4 (this : Nat) : ∀ (n : Nat) (l1 : Int32) (l2 : Int32) (l3 : Int32) (M : Mem), RF yX8_newOnes cX8_newOnes 4 (some .int) 2 eI (f_X8_newOnes_L4 this n l1 l2 l3 M) 4 [(0, va_rf (some this)), (1, .int l1), (2, .int l2), (3, .int l3)] [] M := by
  intro n
  induction n with
  | zero => intro _ _ _ _; exact RF.none
  | succ n ih =>
    intro l1 l2 l3 M
    rw [f_X8_newOnes_L4]
    refine R_iload_n (pc' := 5) (i := 3) (j := 3) (x := l3) dX8_newOnes_4 rfl rfl rfl ?_
    refine R_aloadq_n (pc' := 6) (i := 0) (j := 0) (q := (some this)) dX8_newOnes_5 rfl rfl rfl ?_
    refine R_getI (pc' := 9) (q := (some this)) fl_X8_38 rfl dX8_newOnes_6 rfl (fun jokes1 => ?_)
    refine R_icmp_ge (pc' := 12) (tgt := 33) (a := l3) (b := jokes1) dX8_newOnes_9 (by decide) rfl ?_ ?_
    · refine R_iload_n (pc' := 34) (i := 2) (j := 2) (x := l2) dX8_newOnes_33 rfl rfl rfl ?_
      exact R_iret dX8_newOnes_34
    · refine R_aloadq_n (pc' := 13) (i := 0) (j := 0) (q := (some this)) dX8_newOnes_12 rfl rfl rfl ?_
      refine R_iload_n (pc' := 14) (i := 3) (j := 3) (x := l3) dX8_newOnes_13 rfl rfl rfl ?_
      refine R_iload_n (pc' := 15) (i := 1) (j := 1) (x := l1) dX8_newOnes_14 rfl rfl rfl ?_
      refine R_callV_I (pc' := 18) (q := (some this)) (As := [.int l3, .int l1]) (fun o4 => rm_X8_isNew o4 l3 l1 M) mf_X8_isNew lk_X8_64 im_X8_isNew se_X8_isNew rfl rfl rfl dX8_newOnes_15 rfl (by decide) (Nat.le_trans c_0 (by decide)) (fun r2 M => ?_)
      refine R_if_eq (pc' := 21) (tgt := 27) (a := r2) dX8_newOnes_18 (by decide) rfl ?_ ?_
      · exact R_sub [0, 1, 2, 3] rfl (rf_X8_newOnes_J27 this (f_X8_newOnes_L4 this n) ih l1 l2 l3 M)
      · refine R_iload_n (pc' := 22) (i := 2) (j := 2) (x := l2) dX8_newOnes_21 rfl rfl rfl ?_
        refine R_iconst (pc' := 23) (x := (nI 1)) dX8_newOnes_22 rfl (by decide) ?_
        refine R_iload_n (pc' := 24) (i := 3) (j := 3) (x := l3) dX8_newOnes_23 rfl rfl rfl ?_
        refine R_ishl (pc' := 25) (a := (nI 1)) (b := l3) dX8_newOnes_24 rfl ?_
        refine R_ior (pc' := 26) (a := l2) (b := ((nI 1) <<< (l3 &&& 31))) dX8_newOnes_25 rfl ?_
        refine R_nmI (fun v3 => ?_)
        refine R_istore_n (pc' := 27) (L' := [(2, .int v3), (0, va_rf (some this)), (1, .int l1), (3, .int l3)]) (i := 2) (x := v3) dX8_newOnes_26 rfl rfl (by decide) rfl ?_
        exact R_sub [1, 2, 0, 3] rfl (rf_X8_newOnes_J27 this (f_X8_newOnes_L4 this n) ih l1 v3 l3 M)
def f_X8_newOnes (this : Nat) (l1 : Int32) (M : Mem) : Option (Int32 × Mem) :=
  f_X8_newOnes_L4 this FU l1 (nI 0) (nI 0) M
set_option maxHeartbeats 2000000 in
set_option maxRecDepth 20000 in
theorem rm_X8_newOnes (this : Nat) (l1 : Int32) (M : Mem) : RFm yX8_newOnes cX8_newOnes 4 (some .int) 2 eI (f_X8_newOnes this l1 M) [va_rf (some this), .int l1] M := by
  refine RFm_of (L := [(0, va_rf (some this)), (1, .int l1)]) (by decide) rfl (Nat.le_trans (c_R (c_I c_0)) (by decide)) ?_
  rw [f_X8_newOnes]
  refine R_iconst (pc' := 1) (x := (nI 0)) dX8_newOnes_0 rfl (by decide) ?_
  refine R_istore_n (pc' := 2) (L' := [(2, .int (nI 0)), (0, va_rf (some this)), (1, .int l1)]) (i := 2) (x := (nI 0)) dX8_newOnes_1 rfl rfl (by decide) rfl ?_
  refine R_iconst (pc' := 3) (x := (nI 0)) dX8_newOnes_2 rfl (by decide) ?_
  refine R_istore_n (pc' := 4) (L' := [(3, .int (nI 0)), (2, .int (nI 0)), (0, va_rf (some this)), (1, .int l1)]) (i := 3) (x := (nI 0)) dX8_newOnes_3 rfl rfl (by decide) rfl ?_
  exact R_sub [2, 3, 1, 0] rfl (rf_X8_newOnes_L4 this FU l1 (nI 0) (nI 0) M)
