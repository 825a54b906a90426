/-! BarPilotModel.carryRow([I)V -/
def f_X10_carryRow_J42 (k2 : Option Nat → Int32 → Mem → Option (Unit × Mem)) (this : Nat) (l1 : Option Nat) (l2 : Int32) (M : Mem) : Option (Unit × Mem) :=
  (gI M 10 52 (some this)).bind fun imageAt1 =>
  (pI M 10 52 (some this) (imageAt1 + (nI 1))).bind fun M =>
  k2 l1 (l2 + (nI 1)) M
set_option maxHeartbeats 2000000 in
set_option maxRecDepth 20000 in
theorem rf_X10_carryRow_J42 (this : Nat) (k2 : Option Nat → Int32 → Mem → Option (Unit × Mem)) (hk2 : ∀ (l1 : Option Nat) (l2 : Int32) (M : Mem), RF yX10_carryRow cX10_carryRow 3 none 1 eV (k2 l1 l2 M) 2 [(0, va_rf (some this)), (1, va_rf l1), (2, .int l2)] [] M) (l1 : Option Nat) (l2 : Int32) (M : Mem) : RF yX10_carryRow cX10_carryRow 3 none 1 eV (f_X10_carryRow_J42 k2 this l1 l2 M) 42 [(0, va_rf (some this)), (1, va_rf l1), (2, .int l2)] [] M := by
  rw [f_X10_carryRow_J42]
  refine R_aloadq_n (pc' := 43) (i := 0) (j := 0) (q := (some this)) dX10_carryRow_42 rfl rfl rfl ?_
  refine R_dup (pc' := 44) dX10_carryRow_43 rfl (rf_cat _) ?_
  refine R_getI (pc' := 47) (q := (some this)) fl_X10_495 rfl dX10_carryRow_44 rfl (fun imageAt1 => ?_)
  refine R_iconst (pc' := 48) (x := (nI 1)) dX10_carryRow_47 rfl (by decide) ?_
  refine R_iadd (pc' := 49) (a := imageAt1) (b := (nI 1)) dX10_carryRow_48 rfl ?_
  refine R_putI (pc' := 52) (q := (some this)) (x := (imageAt1 + (nI 1))) fl_X10_495 (Or.inl rfl) dX10_carryRow_49 rfl (fun M => ?_)
  refine R_iinc (pc' := 55) (L' := [(2, .int (l2 + (nI 1))), (0, va_rf (some this)), (1, va_rf l1)]) (i := 2) (j := 2) (x := l2) (x2 := (l2 + (nI 1))) dX10_carryRow_52 rfl rfl rfl (by decide) (by simp [stL, rf_cat, cat_I, cat_L, cat_C]) ?_
  refine R_goto (tgt := 2) dX10_carryRow_55 (by decide) ?_
  exact R_sub [1, 2, 0] rfl (hk2 l1 (l2 + (nI 1)) M)
def f_X10_carryRow_L2 (this : Nat) : Nat → Option Nat → Int32 → Mem → Option (Unit × Mem)
  | 0, _, _, _ => none
  | n + 1, l1, l2, M =>
    (lnA M l1).bind fun len1 =>
    (if len1 ≤ l2 then
      (some ((), M))
    else
      ((gI M 10 53 (some this)).bind fun goesBack2 =>
      (if goesBack2 = 0 then
        ((gR M 10 50 (some this)).bind fun images3 =>
        (gI M 10 52 (some this)).bind fun imageAt4 =>
        (aI M 0 l1 l2).bind fun e5 =>
        (wI M 0 images3 imageAt4 e5).bind fun M =>
        f_X10_carryRow_J42 (f_X10_carryRow_L2 this n) this l1 l2 M)
      else
        ((gR M 10 50 (some this)).bind fun images6 =>
        (gI M 10 52 (some this)).bind fun imageAt7 =>
        (aI M 0 images6 imageAt7).bind fun e8 =>
        (wI M 0 l1 l2 e8).bind fun M =>
        f_X10_carryRow_J42 (f_X10_carryRow_L2 this n) this l1 l2 M))))
set_option maxHeartbeats 2000000 in
set_option maxRecDepth 20000 in
theorem rf_X10_carryRow_L2 (this : Nat) : ∀ (n : Nat) (l1 : Option Nat) (l2 : Int32) (M : Mem), RF yX10_carryRow cX10_carryRow 3 none 1 eV (f_X10_carryRow_L2 this n l1 l2 M) 2 [(0, va_rf (some this)), (1, va_rf l1), (2, .int l2)] [] M := by
  intro n
  induction n with
  | zero => intro _ _ _; exact RF.none
  | succ n ih =>
    intro l1 l2 M
    rw [f_X10_carryRow_L2]
    refine R_iload_n (pc' := 3) (i := 2) (j := 2) (x := l2) dX10_carryRow_2 rfl rfl rfl ?_
    refine R_aloadq_n (pc' := 4) (i := 1) (j := 1) (q := l1) dX10_carryRow_3 rfl rfl rfl ?_
    refine R_alen (pc' := 5) (q := l1) dX10_carryRow_4 rfl (fun len1 => ?_)
    refine R_icmp_ge (pc' := 8) (tgt := 58) (a := l2) (b := len1) dX10_carryRow_5 (by decide) rfl ?_ ?_
    · exact R_vret dX10_carryRow_58
    · refine R_aloadq_n (pc' := 9) (i := 0) (j := 0) (q := (some this)) dX10_carryRow_8 rfl rfl rfl ?_
      refine R_getI (pc' := 12) (q := (some this)) fl_X10_492 rfl dX10_carryRow_9 rfl (fun goesBack2 => ?_)
      refine R_if_eq (pc' := 15) (tgt := 30) (a := goesBack2) dX10_carryRow_12 (by decide) rfl ?_ ?_
      · refine R_aloadq_n (pc' := 31) (i := 0) (j := 0) (q := (some this)) dX10_carryRow_30 rfl rfl rfl ?_
        refine R_getR (pc' := 34) (q := (some this)) fl_X10_121 rfl dX10_carryRow_31 rfl (fun images3 => ?_)
        refine R_aloadq_n (pc' := 35) (i := 0) (j := 0) (q := (some this)) dX10_carryRow_34 rfl rfl rfl ?_
        refine R_getI (pc' := 38) (q := (some this)) fl_X10_495 rfl dX10_carryRow_35 rfl (fun imageAt4 => ?_)
        refine R_aloadq_n (pc' := 39) (i := 1) (j := 1) (q := l1) dX10_carryRow_38 rfl rfl rfl ?_
        refine R_iload_n (pc' := 40) (i := 2) (j := 2) (x := l2) dX10_carryRow_39 rfl rfl rfl ?_
        refine R_iald (pc' := 41) (q := l1) (i := l2) dX10_carryRow_40 rfl (fun e5 => ?_)
        refine R_iast (pc' := 42) (q := images3) (i := imageAt4) (x := e5) dX10_carryRow_41 rfl (fun M => ?_)
        exact R_sub [0, 1, 2] rfl (rf_X10_carryRow_J42 this (f_X10_carryRow_L2 this n) ih l1 l2 M)
      · refine R_aloadq_n (pc' := 16) (i := 1) (j := 1) (q := l1) dX10_carryRow_15 rfl rfl rfl ?_
        refine R_iload_n (pc' := 17) (i := 2) (j := 2) (x := l2) dX10_carryRow_16 rfl rfl rfl ?_
        refine R_aloadq_n (pc' := 18) (i := 0) (j := 0) (q := (some this)) dX10_carryRow_17 rfl rfl rfl ?_
        refine R_getR (pc' := 21) (q := (some this)) fl_X10_121 rfl dX10_carryRow_18 rfl (fun images6 => ?_)
        refine R_aloadq_n (pc' := 22) (i := 0) (j := 0) (q := (some this)) dX10_carryRow_21 rfl rfl rfl ?_
        refine R_getI (pc' := 25) (q := (some this)) fl_X10_495 rfl dX10_carryRow_22 rfl (fun imageAt7 => ?_)
        refine R_iald (pc' := 26) (q := images6) (i := imageAt7) dX10_carryRow_25 rfl (fun e8 => ?_)
        refine R_iast (pc' := 27) (q := l1) (i := l2) (x := e8) dX10_carryRow_26 rfl (fun M => ?_)
        refine R_goto (tgt := 42) dX10_carryRow_27 (by decide) ?_
        exact R_sub [0, 1, 2] rfl (rf_X10_carryRow_J42 this (f_X10_carryRow_L2 this n) ih l1 l2 M)
def f_X10_carryRow (this : Nat) (l1 : Option Nat) (M : Mem) : Option (Unit × Mem) :=
  f_X10_carryRow_L2 this FU l1 (nI 0) M
set_option maxHeartbeats 2000000 in
set_option maxRecDepth 20000 in
theorem rm_X10_carryRow (this : Nat) (l1 : Option Nat) (M : Mem) : RFm yX10_carryRow cX10_carryRow 3 none 1 eV (f_X10_carryRow this l1 M) [va_rf (some this), va_rf l1] M := by
  refine RFm_of (L := [(0, va_rf (some this)), (1, va_rf l1)]) (by decide) (by simp only [lva_R, lva_I, lva_L, lva_C, lva_0]) (Nat.le_trans (c_R (c_R c_0)) (by decide)) ?_
  rw [f_X10_carryRow]
  refine R_iconst (pc' := 1) (x := (nI 0)) dX10_carryRow_0 rfl (by decide) ?_
  refine R_istore_n (pc' := 2) (L' := [(2, .int (nI 0)), (0, va_rf (some this)), (1, va_rf l1)]) (i := 2) (x := (nI 0)) dX10_carryRow_1 rfl rfl (by decide) (by simp [stL, rf_cat, cat_I, cat_L, cat_C]) ?_
  exact R_sub [1, 2, 0] rfl (rf_X10_carryRow_L2 this FU l1 (nI 0) M)
/-! BarPilotModel.carriesAll(IZ)V -/
def f_X10_carriesAll (this : Nat) (l1 : Int32) (l2 : Int32) (M : Mem) : Option (Unit × Mem) :=
  (pI M 10 52 (some this) ((nI 600) * l1)).bind fun M =>
  ckZ l2 ((pI M 10 53 (some this) l2).bind fun M =>
  (gR M 10 1 (some this)).bind fun scalar1 =>
  (oO M 10 (some this)).bind fun o43 => cl (f_X10_carryRow o43 scalar1 M) fun u2 M =>
  (gR M 10 5 (some this)).bind fun heard3 =>
  (oO M 10 (some this)).bind fun o42 => cl (f_X10_carryRow o42 heard3 M) fun u4 M =>
  (gR M 10 6 (some this)).bind fun knows5 =>
  (oO M 10 (some this)).bind fun o41 => cl (f_X10_carryRow o41 knows5 M) fun u6 M =>
  (gR M 10 7 (some this)).bind fun passed7 =>
  (oO M 10 (some this)).bind fun o40 => cl (f_X10_carryRow o40 passed7 M) fun u8 M =>
  (if l1 = (nI 4) then
    (some ((), M))
  else
    ((gR M 10 41 (some this)).bind fun pastOf9 =>
    (gI M 10 42 (some this)).bind fun pastMany10 =>
    (wI M 0 pastOf9 (nI 0) pastMany10).bind fun M =>
    (gR M 10 41 (some this)).bind fun pastOf11 =>
    (oO M 10 (some this)).bind fun o39 => cl (f_X10_carryRow o39 pastOf11 M) fun u12 M =>
    (gR M 10 41 (some this)).bind fun pastOf13 =>
    (aI M 0 pastOf13 (nI 0)).bind fun e14 =>
    (pI M 10 42 (some this) e14).bind fun M =>
    (gR M 10 2 (some this)).bind fun parts15 =>
    (oO M 10 (some this)).bind fun o38 => cl (f_X10_carryRow o38 parts15 M) fun u16 M =>
    (gR M 10 3 (some this)).bind fun cargo17 =>
    (oO M 10 (some this)).bind fun o37 => cl (f_X10_carryRow o37 cargo17 M) fun u18 M =>
    (gR M 10 4 (some this)).bind fun keeps19 =>
    (oO M 10 (some this)).bind fun o36 => cl (f_X10_carryRow o36 keeps19 M) fun u20 M =>
    (gR M 10 11 (some this)).bind fun toldKnows21 =>
    (oO M 10 (some this)).bind fun o35 => cl (f_X10_carryRow o35 toldKnows21 M) fun u22 M =>
    (gR M 10 8 (some this)).bind fun noteTide23 =>
    (oO M 10 (some this)).bind fun o34 => cl (f_X10_carryRow o34 noteTide23 M) fun u24 M =>
    (gR M 10 9 (some this)).bind fun noteShip25 =>
    (oO M 10 (some this)).bind fun o33 => cl (f_X10_carryRow o33 noteShip25 M) fun u26 M =>
    (gR M 10 10 (some this)).bind fun noteJoke27 =>
    (oO M 10 (some this)).bind fun o32 => cl (f_X10_carryRow o32 noteJoke27 M) fun u28 M =>
    (gR M 10 40 (some this)).bind fun past29 =>
    (oO M 10 (some this)).bind fun o31 => cl (f_X10_carryRow o31 past29 M) fun u30 M =>
    some ((), M))))
set_option maxHeartbeats 2000000 in
set_option maxRecDepth 20000 in
theorem rm_X10_carriesAll (this : Nat) (l1 : Int32) (l2 : Int32) (M : Mem) : RFm yX10_carriesAll cX10_carriesAll 3 none 2 eV (f_X10_carriesAll this l1 l2 M) [va_rf (some this), .int l1, .int l2] M := by
  refine RFm_of (L := [(0, va_rf (some this)), (1, .int l1), (2, .int l2)]) (by decide) rfl (Nat.le_trans (c_R (c_I (c_I c_0))) (by decide)) ?_
  rw [f_X10_carriesAll]
  refine R_aloadq_n (pc' := 1) (i := 0) (j := 0) (q := (some this)) dX10_carriesAll_0 rfl rfl rfl ?_
  refine R_sipush (pc' := 4) (x := (nI 600)) dX10_carriesAll_1 rfl (by decide) ?_
  refine R_iload_n (pc' := 5) (i := 1) (j := 1) (x := l1) dX10_carriesAll_4 rfl rfl rfl ?_
  refine R_imul (pc' := 6) (a := (nI 600)) (b := l1) dX10_carriesAll_5 rfl ?_
  refine R_putI (pc' := 9) (q := (some this)) (x := ((nI 600) * l1)) fl_X10_495 (Or.inl rfl) dX10_carriesAll_6 rfl (fun M => ?_)
  refine R_aloadq_n (pc' := 10) (i := 0) (j := 0) (q := (some this)) dX10_carriesAll_9 rfl rfl rfl ?_
  refine R_iload_n (pc' := 11) (i := 2) (j := 2) (x := l2) dX10_carriesAll_10 rfl rfl rfl ?_
  refine R_putZ (pc' := 14) (q := (some this)) (x := l2) fl_X10_492 (Or.inl rfl) dX10_carriesAll_11 rfl (fun M => ?_)
  refine R_aloadq_n (pc' := 15) (i := 0) (j := 0) (q := (some this)) dX10_carriesAll_14 rfl rfl rfl ?_
  refine R_aloadq_n (pc' := 16) (i := 0) (j := 0) (q := (some this)) dX10_carriesAll_15 rfl rfl rfl ?_
  refine R_getR (pc' := 19) (q := (some this)) fl_X10_9 rfl dX10_carriesAll_16 rfl (fun scalar1 => ?_)
  refine R_callV_V (pc' := 22) (q := (some this)) (As := [va_rf scalar1]) (fun o43 => rm_X10_carryRow o43 scalar1 M) mf_X10_carryRow lk_X10_498 im_X10_carryRow se_X10_carryRow rfl rfl rfl dX10_carriesAll_19 rfl (by decide) (Nat.le_trans c_0 (by decide)) (fun u2 M => ?_)
  refine R_aloadq_n (pc' := 23) (i := 0) (j := 0) (q := (some this)) dX10_carriesAll_22 rfl rfl rfl ?_
  refine R_aloadq_n (pc' := 24) (i := 0) (j := 0) (q := (some this)) dX10_carriesAll_23 rfl rfl rfl ?_
  refine R_getR (pc' := 27) (q := (some this)) fl_X10_22 rfl dX10_carriesAll_24 rfl (fun heard3 => ?_)
  refine R_callV_V (pc' := 30) (q := (some this)) (As := [va_rf heard3]) (fun o42 => rm_X10_carryRow o42 heard3 M) mf_X10_carryRow lk_X10_498 im_X10_carryRow se_X10_carryRow rfl rfl rfl dX10_carriesAll_27 rfl (by decide) (Nat.le_trans c_0 (by decide)) (fun u4 M => ?_)
  refine R_aloadq_n (pc' := 31) (i := 0) (j := 0) (q := (some this)) dX10_carriesAll_30 rfl rfl rfl ?_
  refine R_aloadq_n (pc' := 32) (i := 0) (j := 0) (q := (some this)) dX10_carriesAll_31 rfl rfl rfl ?_
  refine R_getR (pc' := 35) (q := (some this)) fl_X10_25 rfl dX10_carriesAll_32 rfl (fun knows5 => ?_)
  refine R_callV_V (pc' := 38) (q := (some this)) (As := [va_rf knows5]) (fun o41 => rm_X10_carryRow o41 knows5 M) mf_X10_carryRow lk_X10_498 im_X10_carryRow se_X10_carryRow rfl rfl rfl dX10_carriesAll_35 rfl (by decide) (Nat.le_trans c_0 (by decide)) (fun u6 M => ?_)
  refine R_aloadq_n (pc' := 39) (i := 0) (j := 0) (q := (some this)) dX10_carriesAll_38 rfl rfl rfl ?_
  refine R_aloadq_n (pc' := 40) (i := 0) (j := 0) (q := (some this)) dX10_carriesAll_39 rfl rfl rfl ?_
  refine R_getR (pc' := 43) (q := (some this)) fl_X10_28 rfl dX10_carriesAll_40 rfl (fun passed7 => ?_)
  refine R_callV_V (pc' := 46) (q := (some this)) (As := [va_rf passed7]) (fun o40 => rm_X10_carryRow o40 passed7 M) mf_X10_carryRow lk_X10_498 im_X10_carryRow se_X10_carryRow rfl rfl rfl dX10_carriesAll_43 rfl (by decide) (Nat.le_trans c_0 (by decide)) (fun u8 M => ?_)
  refine R_iload_n (pc' := 47) (i := 1) (j := 1) (x := l1) dX10_carriesAll_46 rfl rfl rfl ?_
  refine R_iconst (pc' := 48) (x := (nI 4)) dX10_carriesAll_47 rfl (by decide) ?_
  refine R_icmp_ne (pc' := 51) (tgt := 52) (a := l1) (b := (nI 4)) dX10_carriesAll_48 (by decide) rfl ?_ ?_
  · refine R_aloadq_n (pc' := 53) (i := 0) (j := 0) (q := (some this)) dX10_carriesAll_52 rfl rfl rfl ?_
    refine R_getR (pc' := 56) (q := (some this)) fl_X10_103 rfl dX10_carriesAll_53 rfl (fun pastOf9 => ?_)
    refine R_iconst (pc' := 57) (x := (nI 0)) dX10_carriesAll_56 rfl (by decide) ?_
    refine R_aloadq_n (pc' := 58) (i := 0) (j := 0) (q := (some this)) dX10_carriesAll_57 rfl rfl rfl ?_
    refine R_getI (pc' := 61) (q := (some this)) fl_X10_299 rfl dX10_carriesAll_58 rfl (fun pastMany10 => ?_)
    refine R_iast (pc' := 62) (q := pastOf9) (i := (nI 0)) (x := pastMany10) dX10_carriesAll_61 rfl (fun M => ?_)
    refine R_aloadq_n (pc' := 63) (i := 0) (j := 0) (q := (some this)) dX10_carriesAll_62 rfl rfl rfl ?_
    refine R_aloadq_n (pc' := 64) (i := 0) (j := 0) (q := (some this)) dX10_carriesAll_63 rfl rfl rfl ?_
    refine R_getR (pc' := 67) (q := (some this)) fl_X10_103 rfl dX10_carriesAll_64 rfl (fun pastOf11 => ?_)
    refine R_callV_V (pc' := 70) (q := (some this)) (As := [va_rf pastOf11]) (fun o39 => rm_X10_carryRow o39 pastOf11 M) mf_X10_carryRow lk_X10_498 im_X10_carryRow se_X10_carryRow rfl rfl rfl dX10_carriesAll_67 rfl (by decide) (Nat.le_trans c_0 (by decide)) (fun u12 M => ?_)
    refine R_aloadq_n (pc' := 71) (i := 0) (j := 0) (q := (some this)) dX10_carriesAll_70 rfl rfl rfl ?_
    refine R_aloadq_n (pc' := 72) (i := 0) (j := 0) (q := (some this)) dX10_carriesAll_71 rfl rfl rfl ?_
    refine R_getR (pc' := 75) (q := (some this)) fl_X10_103 rfl dX10_carriesAll_72 rfl (fun pastOf13 => ?_)
    refine R_iconst (pc' := 76) (x := (nI 0)) dX10_carriesAll_75 rfl (by decide) ?_
    refine R_iald (pc' := 77) (q := pastOf13) (i := (nI 0)) dX10_carriesAll_76 rfl (fun e14 => ?_)
    refine R_putI (pc' := 80) (q := (some this)) (x := e14) fl_X10_299 (Or.inl rfl) dX10_carriesAll_77 rfl (fun M => ?_)
    refine R_aloadq_n (pc' := 81) (i := 0) (j := 0) (q := (some this)) dX10_carriesAll_80 rfl rfl rfl ?_
    refine R_aloadq_n (pc' := 82) (i := 0) (j := 0) (q := (some this)) dX10_carriesAll_81 rfl rfl rfl ?_
    refine R_getR (pc' := 85) (q := (some this)) fl_X10_13 rfl dX10_carriesAll_82 rfl (fun parts15 => ?_)
    refine R_callV_V (pc' := 88) (q := (some this)) (As := [va_rf parts15]) (fun o38 => rm_X10_carryRow o38 parts15 M) mf_X10_carryRow lk_X10_498 im_X10_carryRow se_X10_carryRow rfl rfl rfl dX10_carriesAll_85 rfl (by decide) (Nat.le_trans c_0 (by decide)) (fun u16 M => ?_)
    refine R_aloadq_n (pc' := 89) (i := 0) (j := 0) (q := (some this)) dX10_carriesAll_88 rfl rfl rfl ?_
    refine R_aloadq_n (pc' := 90) (i := 0) (j := 0) (q := (some this)) dX10_carriesAll_89 rfl rfl rfl ?_
    refine R_getR (pc' := 93) (q := (some this)) fl_X10_16 rfl dX10_carriesAll_90 rfl (fun cargo17 => ?_)
    refine R_callV_V (pc' := 96) (q := (some this)) (As := [va_rf cargo17]) (fun o37 => rm_X10_carryRow o37 cargo17 M) mf_X10_carryRow lk_X10_498 im_X10_carryRow se_X10_carryRow rfl rfl rfl dX10_carriesAll_93 rfl (by decide) (Nat.le_trans c_0 (by decide)) (fun u18 M => ?_)
    refine R_aloadq_n (pc' := 97) (i := 0) (j := 0) (q := (some this)) dX10_carriesAll_96 rfl rfl rfl ?_
    refine R_aloadq_n (pc' := 98) (i := 0) (j := 0) (q := (some this)) dX10_carriesAll_97 rfl rfl rfl ?_
    refine R_getR (pc' := 101) (q := (some this)) fl_X10_19 rfl dX10_carriesAll_98 rfl (fun keeps19 => ?_)
    refine R_callV_V (pc' := 104) (q := (some this)) (As := [va_rf keeps19]) (fun o36 => rm_X10_carryRow o36 keeps19 M) mf_X10_carryRow lk_X10_498 im_X10_carryRow se_X10_carryRow rfl rfl rfl dX10_carriesAll_101 rfl (by decide) (Nat.le_trans c_0 (by decide)) (fun u20 M => ?_)
    refine R_aloadq_n (pc' := 105) (i := 0) (j := 0) (q := (some this)) dX10_carriesAll_104 rfl rfl rfl ?_
    refine R_aloadq_n (pc' := 106) (i := 0) (j := 0) (q := (some this)) dX10_carriesAll_105 rfl rfl rfl ?_
    refine R_getR (pc' := 109) (q := (some this)) fl_X10_40 rfl dX10_carriesAll_106 rfl (fun toldKnows21 => ?_)
    refine R_callV_V (pc' := 112) (q := (some this)) (As := [va_rf toldKnows21]) (fun o35 => rm_X10_carryRow o35 toldKnows21 M) mf_X10_carryRow lk_X10_498 im_X10_carryRow se_X10_carryRow rfl rfl rfl dX10_carriesAll_109 rfl (by decide) (Nat.le_trans c_0 (by decide)) (fun u22 M => ?_)
    refine R_aloadq_n (pc' := 113) (i := 0) (j := 0) (q := (some this)) dX10_carriesAll_112 rfl rfl rfl ?_
    refine R_aloadq_n (pc' := 114) (i := 0) (j := 0) (q := (some this)) dX10_carriesAll_113 rfl rfl rfl ?_
    refine R_getR (pc' := 117) (q := (some this)) fl_X10_31 rfl dX10_carriesAll_114 rfl (fun noteTide23 => ?_)
    refine R_callV_V (pc' := 120) (q := (some this)) (As := [va_rf noteTide23]) (fun o34 => rm_X10_carryRow o34 noteTide23 M) mf_X10_carryRow lk_X10_498 im_X10_carryRow se_X10_carryRow rfl rfl rfl dX10_carriesAll_117 rfl (by decide) (Nat.le_trans c_0 (by decide)) (fun u24 M => ?_)
    refine R_aloadq_n (pc' := 121) (i := 0) (j := 0) (q := (some this)) dX10_carriesAll_120 rfl rfl rfl ?_
    refine R_aloadq_n (pc' := 122) (i := 0) (j := 0) (q := (some this)) dX10_carriesAll_121 rfl rfl rfl ?_
    refine R_getR (pc' := 125) (q := (some this)) fl_X10_34 rfl dX10_carriesAll_122 rfl (fun noteShip25 => ?_)
    refine R_callV_V (pc' := 128) (q := (some this)) (As := [va_rf noteShip25]) (fun o33 => rm_X10_carryRow o33 noteShip25 M) mf_X10_carryRow lk_X10_498 im_X10_carryRow se_X10_carryRow rfl rfl rfl dX10_carriesAll_125 rfl (by decide) (Nat.le_trans c_0 (by decide)) (fun u26 M => ?_)
    refine R_aloadq_n (pc' := 129) (i := 0) (j := 0) (q := (some this)) dX10_carriesAll_128 rfl rfl rfl ?_
    refine R_aloadq_n (pc' := 130) (i := 0) (j := 0) (q := (some this)) dX10_carriesAll_129 rfl rfl rfl ?_
    refine R_getR (pc' := 133) (q := (some this)) fl_X10_37 rfl dX10_carriesAll_130 rfl (fun noteJoke27 => ?_)
    refine R_callV_V (pc' := 136) (q := (some this)) (As := [va_rf noteJoke27]) (fun o32 => rm_X10_carryRow o32 noteJoke27 M) mf_X10_carryRow lk_X10_498 im_X10_carryRow se_X10_carryRow rfl rfl rfl dX10_carriesAll_133 rfl (by decide) (Nat.le_trans c_0 (by decide)) (fun u28 M => ?_)
    refine R_aloadq_n (pc' := 137) (i := 0) (j := 0) (q := (some this)) dX10_carriesAll_136 rfl rfl rfl ?_
    refine R_aloadq_n (pc' := 138) (i := 0) (j := 0) (q := (some this)) dX10_carriesAll_137 rfl rfl rfl ?_
    refine R_getR (pc' := 141) (q := (some this)) fl_X10_100 rfl dX10_carriesAll_138 rfl (fun past29 => ?_)
    refine R_callV_V (pc' := 144) (q := (some this)) (As := [va_rf past29]) (fun o31 => rm_X10_carryRow o31 past29 M) mf_X10_carryRow lk_X10_498 im_X10_carryRow se_X10_carryRow rfl rfl rfl dX10_carriesAll_141 rfl (by decide) (Nat.le_trans c_0 (by decide)) (fun u30 M => ?_)
    exact R_vret dX10_carriesAll_144
  · exact R_vret dX10_carriesAll_51
/-! BarPilotModel.keepsAll()V -/
def f_X10_keepsAll (this : Nat) (M : Mem) : Option (Unit × Mem) :=
  (oO M 10 (some this)).bind fun o2 => cl (f_X10_carriesAll o2 (nI 4) (nI 0) M) fun u1 M =>
  some ((), M)
set_option maxHeartbeats 2000000 in
set_option maxRecDepth 20000 in
theorem rm_X10_keepsAll (this : Nat) (M : Mem) : RFm yX10_keepsAll cX10_keepsAll 1 none 3 eV (f_X10_keepsAll this M) [va_rf (some this)] M := by
  refine RFm_of (L := [(0, va_rf (some this))]) (by decide) rfl (Nat.le_trans (c_R c_0) (by decide)) ?_
  rw [f_X10_keepsAll]
  refine R_aloadq_n (pc' := 1) (i := 0) (j := 0) (q := (some this)) dX10_keepsAll_0 rfl rfl rfl ?_
  refine R_iconst (pc' := 2) (x := (nI 4)) dX10_keepsAll_1 rfl (by decide) ?_
  refine R_iconst (pc' := 3) (x := (nI 0)) dX10_keepsAll_2 rfl (by decide) ?_
  refine R_callV_V (pc' := 6) (q := (some this)) (As := [.int (nI 4), .int (nI 0)]) (fun o2 => rm_X10_carriesAll o2 (nI 4) (nI 0) M) mf_X10_carriesAll lk_X10_417 im_X10_carriesAll se_X10_carriesAll rfl rfl rfl dX10_keepsAll_3 rfl (by decide) (Nat.le_trans c_0 (by decide)) (fun u1 M => ?_)
  exact R_vret dX10_keepsAll_6
/-! BarPilotModel.laysBack()V -/
def f_X10_laysBack (this : Nat) (M : Mem) : Option (Unit × Mem) :=
  (oO M 10 (some this)).bind fun o2 => cl (f_X10_carriesAll o2 (nI 4) (nI 1) M) fun u1 M =>
  some ((), M)
set_option maxHeartbeats 2000000 in
set_option maxRecDepth 20000 in
theorem rm_X10_laysBack (this : Nat) (M : Mem) : RFm yX10_laysBack cX10_laysBack 1 none 3 eV (f_X10_laysBack this M) [va_rf (some this)] M := by
  refine RFm_of (L := [(0, va_rf (some this))]) (by decide) rfl (Nat.le_trans (c_R c_0) (by decide)) ?_
  rw [f_X10_laysBack]
  refine R_aloadq_n (pc' := 1) (i := 0) (j := 0) (q := (some this)) dX10_laysBack_0 rfl rfl rfl ?_
  refine R_iconst (pc' := 2) (x := (nI 4)) dX10_laysBack_1 rfl (by decide) ?_
  refine R_iconst (pc' := 3) (x := (nI 1)) dX10_laysBack_2 rfl (by decide) ?_
  refine R_callV_V (pc' := 6) (q := (some this)) (As := [.int (nI 4), .int (nI 1)]) (fun o2 => rm_X10_carriesAll o2 (nI 4) (nI 1) M) mf_X10_carriesAll lk_X10_417 im_X10_carriesAll se_X10_carriesAll rfl rfl rfl dX10_laysBack_3 rfl (by decide) (Nat.le_trans c_0 (by decide)) (fun u1 M => ?_)
  exact R_vret dX10_laysBack_6
/-! BarPilotModel.earnedIn(I)I -/
def f_X10_earnedIn (this : Nat) (l1 : Int32) (M : Mem) : Option (Int32 × Mem) :=
  (oO M 10 (some this)).bind fun o6 => cl (f_X10_goFor o6 l1 M) fun u1 M =>
  (gR M 10 1 (some this)).bind fun scalar2 =>
  (aI M 0 scalar2 (nI 5)).bind fun e3 =>
  (oO M 10 (some this)).bind fun o5 => cl (f_X10_laysBack o5 M) fun u4 M =>
  some (e3, M)
set_option maxHeartbeats 2000000 in
set_option maxRecDepth 20000 in
theorem rm_X10_earnedIn (this : Nat) (l1 : Int32) (M : Mem) : RFm yX10_earnedIn cX10_earnedIn 3 (some .int) 11 eI (f_X10_earnedIn this l1 M) [va_rf (some this), .int l1] M := by
  refine RFm_of (L := [(0, va_rf (some this)), (1, .int l1)]) (by decide) rfl (Nat.le_trans (c_R (c_I c_0)) (by decide)) ?_
  rw [f_X10_earnedIn]
  refine R_aloadq_n (pc' := 1) (i := 0) (j := 0) (q := (some this)) dX10_earnedIn_0 rfl rfl rfl ?_
  refine R_iload_n (pc' := 2) (i := 1) (j := 1) (x := l1) dX10_earnedIn_1 rfl rfl rfl ?_
  refine R_callV_V (pc' := 5) (q := (some this)) (As := [.int l1]) (fun o6 => rm_X10_goFor o6 l1 M) mf_X10_goFor lk_X10_420 im_X10_goFor se_X10_goFor rfl rfl rfl dX10_earnedIn_2 rfl (by decide) (Nat.le_trans c_0 (by decide)) (fun u1 M => ?_)
  refine R_aloadq_n (pc' := 6) (i := 0) (j := 0) (q := (some this)) dX10_earnedIn_5 rfl rfl rfl ?_
  refine R_getR (pc' := 9) (q := (some this)) fl_X10_9 rfl dX10_earnedIn_6 rfl (fun scalar2 => ?_)
  refine R_iconst (pc' := 10) (x := (nI 5)) dX10_earnedIn_9 rfl (by decide) ?_
  refine R_iald (pc' := 11) (q := scalar2) (i := (nI 5)) dX10_earnedIn_10 rfl (fun e3 => ?_)
  refine R_istore_n (pc' := 12) (L' := [(2, .int e3), (0, va_rf (some this)), (1, .int l1)]) (i := 2) (x := e3) dX10_earnedIn_11 rfl rfl (by decide) rfl ?_
  refine R_aloadq_n (pc' := 13) (i := 0) (j := 1) (q := (some this)) dX10_earnedIn_12 rfl rfl rfl ?_
  refine R_callV_V (pc' := 16) (q := (some this)) (As := []) (fun o5 => rm_X10_laysBack o5 M) mf_X10_laysBack lk_X10_423 im_X10_laysBack se_X10_laysBack rfl rfl rfl dX10_earnedIn_13 rfl (by decide) (Nat.le_trans c_0 (by decide)) (fun u4 M => ?_)
  refine R_iload_n (pc' := 17) (i := 2) (j := 0) (x := e3) dX10_earnedIn_16 rfl rfl rfl ?_
  exact R_iret dX10_earnedIn_17
/-! BarPilotModel.ahead(III)I -/
def f_X10_ahead_J43 (this : Nat) (M : Mem) : Option (Int32 × Mem) :=
  some ((-2 : Int32), M)
set_option maxHeartbeats 2000000 in
set_option maxRecDepth 20000 in
theorem rf_X10_ahead_J43 (this : Nat) (M : Mem) : RF yX10_ahead cX10_ahead 5 (some .int) 11 eI (f_X10_ahead_J43 this M) 43 [] [] M := by
  rw [f_X10_ahead_J43]
  refine R_bipush (pc' := 45) (x := (-2 : Int32)) dX10_ahead_43 rfl (by decide) ?_
  exact R_iret dX10_ahead_45
def f_X10_ahead_J86 (this : Nat) (s0 : Int32) (M : Mem) : Option (Int32 × Mem) :=
  (oO M 10 (some this)).bind fun o2 => cl (f_X10_laysBack o2 M) fun u1 M =>
  some (s0, M)
set_option maxHeartbeats 2000000 in
set_option maxRecDepth 20000 in
theorem rf_X10_ahead_J86 (this : Nat) (s0 : Int32) (M : Mem) : RF yX10_ahead cX10_ahead 5 (some .int) 11 eI (f_X10_ahead_J86 this s0 M) 86 [(0, va_rf (some this))] [.int s0] M := by
  rw [f_X10_ahead_J86]
  refine R_istore (pc' := 88) (L' := [(4, .int s0), (0, va_rf (some this))]) (i := 4) (x := s0) dX10_ahead_86 rfl (by decide) rfl ?_
  refine R_aloadq_n (pc' := 89) (i := 0) (j := 1) (q := (some this)) dX10_ahead_88 rfl rfl rfl ?_
  refine R_callV_V (pc' := 92) (q := (some this)) (As := []) (fun o2 => rm_X10_laysBack o2 M) mf_X10_laysBack lk_X10_423 im_X10_laysBack se_X10_laysBack rfl rfl rfl dX10_ahead_89 rfl (by decide) (Nat.le_trans c_0 (by decide)) (fun u1 M => ?_)
  refine R_iload (pc' := 94) (i := 4) (j := 0) (x := s0) dX10_ahead_92 rfl rfl ?_
  exact R_iret dX10_ahead_94
def f_X10_ahead_J31 (this : Nat) (l1 : Int32) (l2 : Int32) (l3 : Int32) (M : Mem) : Option (Int32 × Mem) :=
  cl (f_X10_in (Int32.toInt64 l2) (0 : Int64) (100 : Int64) M) fun r1 M =>
  (if r1 = 0 then
    (f_X10_ahead_J43 this M)
  else
    ((oO M 10 (some this)).bind fun o11 => cl (f_X10_keepsAll o11 M) fun u2 M =>
    (oO M 10 (some this)).bind fun o10 => cl (f_X10_goFor o10 l2 M) fun u3 M =>
    (if l3 = 0 then
      ((gR M 10 7 (some this)).bind fun passed8 =>
      (aI M 0 passed8 l1).bind fun e9 =>
      f_X10_ahead_J86 this e9 M)
    else
      ((if l3 = (nI 1) then
        ((gR M 10 1 (some this)).bind fun scalar6 =>
        (aI M 0 scalar6 (nI 5)).bind fun e7 =>
        f_X10_ahead_J86 this e7 M)
      else
        ((oO M 10 (some this)).bind fun o5 => cl (f_X10_howManyPassed o5 M) fun r4 M =>
        f_X10_ahead_J86 this r4 M))))))
set_option maxHeartbeats 2000000 in
set_option maxRecDepth 20000 in
theorem rf_X10_ahead_J31 (this : Nat) (l1 : Int32) (l2 : Int32) (l3 : Int32) (M : Mem) : RF yX10_ahead cX10_ahead 5 (some .int) 11 eI (f_X10_ahead_J31 this l1 l2 l3 M) 31 [(0, va_rf (some this)), (1, .int l1), (2, .int l2), (3, .int l3)] [] M := by
  rw [f_X10_ahead_J31]
  refine R_iload_n (pc' := 32) (i := 2) (j := 2) (x := l2) dX10_ahead_31 rfl rfl rfl ?_
  refine R_i2l (pc' := 33) (a := l2) dX10_ahead_32 rfl ?_
  refine R_lconst (pc' := 34) (x := (0 : Int64)) dX10_ahead_33 rfl (by decide) ?_
  refine R_ldc2 (pc' := 37) (x := (100 : Int64)) dX10_ahead_34 rfl c2_X10_428 ?_
  refine R_callS_I (pc' := 40) (As := [.long (Int32.toInt64 l2), .long (0 : Int64), .long (100 : Int64)]) (rm_X10_in (Int32.toInt64 l2) (0 : Int64) (100 : Int64) M) mf_X10_in lk_X10_131 sm_X10_in rfl rfl dX10_ahead_37 rfl (by decide) (Nat.le_trans c_0 (by decide)) (fun r1 M => ?_)
  refine R_if_ne (pc' := 43) (tgt := 46) (a := r1) dX10_ahead_40 (by decide) rfl ?_ ?_
  · refine R_aloadq_n (pc' := 47) (i := 0) (j := 0) (q := (some this)) dX10_ahead_46 rfl rfl rfl ?_
    refine R_callV_V (pc' := 50) (q := (some this)) (As := []) (fun o11 => rm_X10_keepsAll o11 M) mf_X10_keepsAll lk_X10_430 im_X10_keepsAll se_X10_keepsAll rfl rfl rfl dX10_ahead_47 rfl (by decide) (Nat.le_trans c_0 (by decide)) (fun u2 M => ?_)
    refine R_aloadq_n (pc' := 51) (i := 0) (j := 0) (q := (some this)) dX10_ahead_50 rfl rfl rfl ?_
    refine R_iload_n (pc' := 52) (i := 2) (j := 2) (x := l2) dX10_ahead_51 rfl rfl rfl ?_
    refine R_callV_V (pc' := 55) (q := (some this)) (As := [.int l2]) (fun o10 => rm_X10_goFor o10 l2 M) mf_X10_goFor lk_X10_420 im_X10_goFor se_X10_goFor rfl rfl rfl dX10_ahead_52 rfl (by decide) (Nat.le_trans c_0 (by decide)) (fun u3 M => ?_)
    refine R_iload_n (pc' := 56) (i := 3) (j := 3) (x := l3) dX10_ahead_55 rfl rfl rfl ?_
    refine R_if_ne (pc' := 59) (tgt := 68) (a := l3) dX10_ahead_56 (by decide) rfl ?_ ?_
    · refine R_iload_n (pc' := 69) (i := 3) (j := 3) (x := l3) dX10_ahead_68 rfl rfl rfl ?_
      refine R_iconst (pc' := 70) (x := (nI 1)) dX10_ahead_69 rfl (by decide) ?_
      refine R_icmp_ne (pc' := 73) (tgt := 82) (a := l3) (b := (nI 1)) dX10_ahead_70 (by decide) rfl ?_ ?_
      · refine R_aloadq_n (pc' := 83) (i := 0) (j := 0) (q := (some this)) dX10_ahead_82 rfl rfl rfl ?_
        refine R_callV_I (pc' := 86) (q := (some this)) (As := []) (fun o5 => rm_X10_howManyPassed o5 M) mf_X10_howManyPassed lk_X10_367 im_X10_howManyPassed se_X10_howManyPassed rfl rfl rfl dX10_ahead_83 rfl (by decide) (Nat.le_trans c_0 (by decide)) (fun r4 M => ?_)
        exact R_sub [0] rfl (rf_X10_ahead_J86 this r4 M)
      · refine R_aloadq_n (pc' := 74) (i := 0) (j := 0) (q := (some this)) dX10_ahead_73 rfl rfl rfl ?_
        refine R_getR (pc' := 77) (q := (some this)) fl_X10_9 rfl dX10_ahead_74 rfl (fun scalar6 => ?_)
        refine R_iconst (pc' := 78) (x := (nI 5)) dX10_ahead_77 rfl (by decide) ?_
        refine R_iald (pc' := 79) (q := scalar6) (i := (nI 5)) dX10_ahead_78 rfl (fun e7 => ?_)
        refine R_goto (tgt := 86) dX10_ahead_79 (by decide) ?_
        exact R_sub [0] rfl (rf_X10_ahead_J86 this e7 M)
    · refine R_aloadq_n (pc' := 60) (i := 0) (j := 0) (q := (some this)) dX10_ahead_59 rfl rfl rfl ?_
      refine R_getR (pc' := 63) (q := (some this)) fl_X10_28 rfl dX10_ahead_60 rfl (fun passed8 => ?_)
      refine R_iload_n (pc' := 64) (i := 1) (j := 1) (x := l1) dX10_ahead_63 rfl rfl rfl ?_
      refine R_iald (pc' := 65) (q := passed8) (i := l1) dX10_ahead_64 rfl (fun e9 => ?_)
      refine R_goto (tgt := 86) dX10_ahead_65 (by decide) ?_
      exact R_sub [0] rfl (rf_X10_ahead_J86 this e9 M)
  · exact R_sub [] rfl (rf_X10_ahead_J43 this M)
def f_X10_ahead (this : Nat) (l1 : Int32) (l2 : Int32) (l3 : Int32) (M : Mem) : Option (Int32 × Mem) :=
  (oO M 10 (some this)).bind fun o5 => cl (f_X10_isBar o5 M) fun r1 M =>
  (if r1 = 0 then
    (f_X10_ahead_J43 this M)
  else
    (cl (f_X10_in (Int32.toInt64 l3) (0 : Int64) (2 : Int64) M) fun r2 M =>
    (if r2 = 0 then
      (f_X10_ahead_J43 this M)
    else
      ((if l3 = 0 then
        ((oO M 10 (some this)).bind fun o4 => cl (f_X10_isShip o4 l1 M) fun r3 M =>
        (if r3 = 0 then
          (f_X10_ahead_J43 this M)
        else
          (f_X10_ahead_J31 this l1 l2 l3 M)))
      else
        (f_X10_ahead_J31 this l1 l2 l3 M))))))
set_option maxHeartbeats 2000000 in
set_option maxRecDepth 20000 in
theorem rm_X10_ahead (this : Nat) (l1 : Int32) (l2 : Int32) (l3 : Int32) (M : Mem) : RFm yX10_ahead cX10_ahead 5 (some .int) 11 eI (f_X10_ahead this l1 l2 l3 M) [va_rf (some this), .int l1, .int l2, .int l3] M := by
  refine RFm_of (L := [(0, va_rf (some this)), (1, .int l1), (2, .int l2), (3, .int l3)]) (by decide) rfl (Nat.le_trans (c_R (c_I (c_I (c_I c_0)))) (by decide)) ?_
  rw [f_X10_ahead]
  refine R_aloadq_n (pc' := 1) (i := 0) (j := 0) (q := (some this)) dX10_ahead_0 rfl rfl rfl ?_
  refine R_callV_I (pc' := 4) (q := (some this)) (As := []) (fun o5 => rm_X10_isBar o5 M) mf_X10_isBar lk_X10_411 im_X10_isBar se_X10_isBar rfl rfl rfl dX10_ahead_1 rfl (by decide) (Nat.le_trans c_0 (by decide)) (fun r1 M => ?_)
  refine R_if_eq (pc' := 7) (tgt := 43) (a := r1) dX10_ahead_4 (by decide) rfl ?_ ?_
  · exact R_sub [] rfl (rf_X10_ahead_J43 this M)
  · refine R_iload_n (pc' := 8) (i := 3) (j := 3) (x := l3) dX10_ahead_7 rfl rfl rfl ?_
    refine R_i2l (pc' := 9) (a := l3) dX10_ahead_8 rfl ?_
    refine R_lconst (pc' := 10) (x := (0 : Int64)) dX10_ahead_9 rfl (by decide) ?_
    refine R_ldc2 (pc' := 13) (x := (2 : Int64)) dX10_ahead_10 rfl c2_X10_426 ?_
    refine R_callS_I (pc' := 16) (As := [.long (Int32.toInt64 l3), .long (0 : Int64), .long (2 : Int64)]) (rm_X10_in (Int32.toInt64 l3) (0 : Int64) (2 : Int64) M) mf_X10_in lk_X10_131 sm_X10_in rfl rfl dX10_ahead_13 rfl (by decide) (Nat.le_trans c_0 (by decide)) (fun r2 M => ?_)
    refine R_if_eq (pc' := 19) (tgt := 43) (a := r2) dX10_ahead_16 (by decide) rfl ?_ ?_
    · exact R_sub [] rfl (rf_X10_ahead_J43 this M)
    · refine R_iload_n (pc' := 20) (i := 3) (j := 3) (x := l3) dX10_ahead_19 rfl rfl rfl ?_
      refine R_if_ne (pc' := 23) (tgt := 31) (a := l3) dX10_ahead_20 (by decide) rfl ?_ ?_
      · exact R_sub [0, 1, 2, 3] rfl (rf_X10_ahead_J31 this l1 l2 l3 M)
      · refine R_aloadq_n (pc' := 24) (i := 0) (j := 0) (q := (some this)) dX10_ahead_23 rfl rfl rfl ?_
        refine R_iload_n (pc' := 25) (i := 1) (j := 1) (x := l1) dX10_ahead_24 rfl rfl rfl ?_
        refine R_callV_I (pc' := 28) (q := (some this)) (As := [.int l1]) (fun o4 => rm_X10_isShip o4 l1 M) mf_X10_isShip lk_X10_135 im_X10_isShip se_X10_isShip rfl rfl rfl dX10_ahead_25 rfl (by decide) (Nat.le_trans c_0 (by decide)) (fun r3 M => ?_)
        refine R_if_eq (pc' := 31) (tgt := 43) (a := r3) dX10_ahead_28 (by decide) rfl ?_ ?_
        · exact R_sub [] rfl (rf_X10_ahead_J43 this M)
        · exact R_sub [0, 1, 2, 3] rfl (rf_X10_ahead_J31 this l1 l2 l3 M)
/-! BarPilotModel.over(II)I -/
def f_X10_over_J18 (this : Nat) (M : Mem) : Option (Int32 × Mem) :=
  some ((-1 : Int32), M)
set_option maxHeartbeats 2000000 in
set_option maxRecDepth 20000 in
theorem rf_X10_over_J18 (this : Nat) (M : Mem) : RF yX10_over cX10_over 5 (some .int) 10 eI (f_X10_over_J18 this M) 18 [] [] M := by
  rw [f_X10_over_J18]
  refine R_iconst (pc' := 19) (x := (-1 : Int32)) dX10_over_18 rfl (by decide) ?_
  exact R_iret dX10_over_19
def f_X10_over_J80 (this : Nat) (l3 : Int32) (M : Mem) : Option (Int32 × Mem) :=
  (oO M 10 (some this)).bind fun o2 => cl (f_X10_laysBack o2 M) fun u1 M =>
  some (l3, M)
set_option maxHeartbeats 2000000 in
set_option maxRecDepth 20000 in
theorem rf_X10_over_J80 (this : Nat) (l3 : Int32) (M : Mem) : RF yX10_over cX10_over 5 (some .int) 10 eI (f_X10_over_J80 this l3 M) 80 [(0, va_rf (some this)), (3, .int l3)] [] M := by
  rw [f_X10_over_J80]
  refine R_aloadq_n (pc' := 81) (i := 0) (j := 0) (q := (some this)) dX10_over_80 rfl rfl rfl ?_
  refine R_callV_V (pc' := 84) (q := (some this)) (As := []) (fun o2 => rm_X10_laysBack o2 M) mf_X10_laysBack lk_X10_423 im_X10_laysBack se_X10_laysBack rfl rfl rfl dX10_over_81 rfl (by decide) (Nat.le_trans c_0 (by decide)) (fun u1 M => ?_)
  refine R_iload_n (pc' := 85) (i := 3) (j := 1) (x := l3) dX10_over_84 rfl rfl rfl ?_
  exact R_iret dX10_over_85
def f_X10_over_J74 (k30 : Int32 → Int32 → Int32 → Int32 → Mem → Option (Int32 × Mem)) (this : Nat) (l1 : Int32) (l2 : Int32) (l3 : Int32) (l4 : Int32) (M : Mem) : Option (Int32 × Mem) :=
  k30 l1 l2 l3 (l4 + (nI 1)) M
set_option maxHeartbeats 2000000 in
set_option maxRecDepth 20000 in
theorem rf_X10_over_J74 (this : Nat) (k30 : Int32 → Int32 → Int32 → Int32 → Mem → Option (Int32 × Mem)) (hk30 : ∀ (l1 : Int32) (l2 : Int32) (l3 : Int32) (l4 : Int32) (M : Mem), RF yX10_over cX10_over 5 (some .int) 10 eI (k30 l1 l2 l3 l4 M) 30 [(0, va_rf (some this)), (1, .int l1), (2, .int l2), (3, .int l3), (4, .int l4)] [] M) (l1 : Int32) (l2 : Int32) (l3 : Int32) (l4 : Int32) (M : Mem) : RF yX10_over cX10_over 5 (some .int) 10 eI (f_X10_over_J74 k30 this l1 l2 l3 l4 M) 74 [(0, va_rf (some this)), (1, .int l1), (2, .int l2), (3, .int l3), (4, .int l4)] [] M := by
  rw [f_X10_over_J74]
  refine R_iinc (pc' := 77) (L' := [(4, .int (l4 + (nI 1))), (0, va_rf (some this)), (1, .int l1), (2, .int l2), (3, .int l3)]) (i := 4) (j := 4) (x := l4) (x2 := (l4 + (nI 1))) dX10_over_74 rfl rfl rfl (by decide) rfl ?_
  refine R_goto (tgt := 30) dX10_over_77 (by decide) ?_
  exact R_sub [1, 2, 3, 4, 0] rfl (hk30 l1 l2 l3 (l4 + (nI 1)) M)
def f_X10_over_J73 (k30 : Int32 → Int32 → Int32 → Int32 → Mem → Option (Int32 × Mem)) (this : Nat) (l1 : Int32) (l2 : Int32) (l4 : Int32) (s0 : Int32) (M : Mem) : Option (Int32 × Mem) :=
  f_X10_over_J74 k30 this l1 l2 s0 l4 M
set_option maxHeartbeats 2000000 in
set_option maxRecDepth 20000 in
theorem rf_X10_over_J73 (this : Nat) (k30 : Int32 → Int32 → Int32 → Int32 → Mem → Option (Int32 × Mem)) (hk30 : ∀ (l1 : Int32) (l2 : Int32) (l3 : Int32) (l4 : Int32) (M : Mem), RF yX10_over cX10_over 5 (some .int) 10 eI (k30 l1 l2 l3 l4 M) 30 [(0, va_rf (some this)), (1, .int l1), (2, .int l2), (3, .int l3), (4, .int l4)] [] M) (l1 : Int32) (l2 : Int32) (l4 : Int32) (s0 : Int32) (M : Mem) : RF yX10_over cX10_over 5 (some .int) 10 eI (f_X10_over_J73 k30 this l1 l2 l4 s0 M) 73 [(0, va_rf (some this)), (1, .int l1), (2, .int l2), (4, .int l4)] [.int s0] M := by
  rw [f_X10_over_J73]
  refine R_istore_n (pc' := 74) (L' := [(3, .int s0), (0, va_rf (some this)), (1, .int l1), (2, .int l2), (4, .int l4)]) (i := 3) (x := s0) dX10_over_73 rfl rfl (by decide) rfl ?_
  exact R_sub [1, 2, 3, 0, 4] rfl (rf_X10_over_J74 this k30 hk30 l1 l2 s0 l4 M)
def f_X10_over_L30 (this : Nat) : Nat → Int32 → Int32 → Int32 → Int32 → Mem → Option (Int32 × Mem)
  | 0, _, _, _, _, _ => none
  | n + 1, l1, l2, l3, l4, M =>
    (if (nI 100) ≤ l4 then
      (f_X10_over_J80 this l3 M)
    else
      ((if l3 = (-2 : Int32) then
        ((oO M 10 (some this)).bind fun o7 => cl (f_X10_goes o7 M) fun r1 M =>
        cl (f_X10_has r1 l1 M) fun r2 M =>
        (if r2 = 0 then
          (f_X10_over_J74 (f_X10_over_L30 this n) this l1 l2 l3 l4 M)
        else
          ((if l2 = 0 then
            ((gR M 10 7 (some this)).bind fun passed5 =>
            (aI M 0 passed5 l1).bind fun e6 =>
            f_X10_over_J73 (f_X10_over_L30 this n) this l1 l2 l4 e6 M)
          else
            ((gR M 10 37 (some this)).bind fun told3 =>
            (aI M 0 told3 l1).bind fun e4 =>
            f_X10_over_J73 (f_X10_over_L30 this n) this l1 l2 l4 e4 M)))))
      else
        (f_X10_over_J80 this l3 M))))
set_option maxHeartbeats 2000000 in
set_option maxRecDepth 20000 in
theorem rf_X10_over_L30 (this : Nat) : ∀ (n : Nat) (l1 : Int32) (l2 : Int32) (l3 : Int32) (l4 : Int32) (M : Mem), RF yX10_over cX10_over 5 (some .int) 10 eI (f_X10_over_L30 this n l1 l2 l3 l4 M) 30 [(0, va_rf (some this)), (1, .int l1), (2, .int l2), (3, .int l3), (4, .int l4)] [] M := by
  intro n
  induction n with
  | zero => intro _ _ _ _ _; exact RF.none
  | succ n ih =>
    intro l1 l2 l3 l4 M
    rw [f_X10_over_L30]
    refine R_iload (pc' := 32) (i := 4) (j := 4) (x := l4) dX10_over_30 rfl rfl ?_
    refine R_bipush (pc' := 34) (x := (nI 100)) dX10_over_32 rfl (by decide) ?_
    refine R_icmp_ge (pc' := 37) (tgt := 80) (a := l4) (b := (nI 100)) dX10_over_34 (by decide) rfl ?_ ?_
    · exact R_sub [0, 3] rfl (rf_X10_over_J80 this l3 M)
    · refine R_iload_n (pc' := 38) (i := 3) (j := 3) (x := l3) dX10_over_37 rfl rfl rfl ?_
      refine R_bipush (pc' := 40) (x := (-2 : Int32)) dX10_over_38 rfl (by decide) ?_
      refine R_icmp_ne (pc' := 43) (tgt := 80) (a := l3) (b := (-2 : Int32)) dX10_over_40 (by decide) rfl ?_ ?_
      · exact R_sub [0, 3] rfl (rf_X10_over_J80 this l3 M)
      · refine R_aloadq_n (pc' := 44) (i := 0) (j := 0) (q := (some this)) dX10_over_43 rfl rfl rfl ?_
        refine R_callV_I (pc' := 47) (q := (some this)) (As := []) (fun o7 => rm_X10_goes o7 M) mf_X10_goes lk_X10_390 im_X10_goes se_X10_goes rfl rfl rfl dX10_over_44 rfl (by decide) (Nat.le_trans c_0 (by decide)) (fun r1 M => ?_)
        refine R_iload_n (pc' := 48) (i := 1) (j := 1) (x := l1) dX10_over_47 rfl rfl rfl ?_
        refine R_callS_I (pc' := 51) (As := [.int r1, .int l1]) (rm_X10_has r1 l1 M) mf_X10_has lk_X10_353 sm_X10_has rfl rfl dX10_over_48 rfl (by decide) (Nat.le_trans c_0 (by decide)) (fun r2 M => ?_)
        refine R_if_eq (pc' := 54) (tgt := 74) (a := r2) dX10_over_51 (by decide) rfl ?_ ?_
        · exact R_sub [0, 1, 2, 3, 4] rfl (rf_X10_over_J74 this (f_X10_over_L30 this n) ih l1 l2 l3 l4 M)
        · refine R_iload_n (pc' := 55) (i := 2) (j := 2) (x := l2) dX10_over_54 rfl rfl rfl ?_
          refine R_if_ne (pc' := 58) (tgt := 67) (a := l2) dX10_over_55 (by decide) rfl ?_ ?_
          · refine R_aloadq_n (pc' := 68) (i := 0) (j := 0) (q := (some this)) dX10_over_67 rfl rfl rfl ?_
            refine R_getR (pc' := 71) (q := (some this)) fl_X10_94 rfl dX10_over_68 rfl (fun told3 => ?_)
            refine R_iload_n (pc' := 72) (i := 1) (j := 1) (x := l1) dX10_over_71 rfl rfl rfl ?_
            refine R_iald (pc' := 73) (q := told3) (i := l1) dX10_over_72 rfl (fun e4 => ?_)
            exact R_sub [0, 1, 2, 4] rfl (rf_X10_over_J73 this (f_X10_over_L30 this n) ih l1 l2 l4 e4 M)
          · refine R_aloadq_n (pc' := 59) (i := 0) (j := 0) (q := (some this)) dX10_over_58 rfl rfl rfl ?_
            refine R_getR (pc' := 62) (q := (some this)) fl_X10_28 rfl dX10_over_59 rfl (fun passed5 => ?_)
            refine R_iload_n (pc' := 63) (i := 1) (j := 1) (x := l1) dX10_over_62 rfl rfl rfl ?_
            refine R_iald (pc' := 64) (q := passed5) (i := l1) dX10_over_63 rfl (fun e6 => ?_)
            refine R_goto (tgt := 73) dX10_over_64 (by decide) ?_
            exact R_sub [0, 1, 2, 4] rfl (rf_X10_over_J73 this (f_X10_over_L30 this n) ih l1 l2 l4 e6 M)
def f_X10_over (this : Nat) (l1 : Int32) (l2 : Int32) (M : Mem) : Option (Int32 × Mem) :=
  (oO M 10 (some this)).bind fun o5 => cl (f_X10_waits o5 l1 M) fun r1 M =>
  (if r1 = 0 then
    (f_X10_over_J18 this M)
  else
    (cl (f_X10_in (Int32.toInt64 l2) (0 : Int64) (1 : Int64) M) fun r2 M =>
    (if r2 = 0 then
      (f_X10_over_J18 this M)
    else
      ((oO M 10 (some this)).bind fun o4 => cl (f_X10_keepsAll o4 M) fun u3 M =>
      f_X10_over_L30 this FU l1 l2 (-2 : Int32) (nI 0) M))))
set_option maxHeartbeats 2000000 in
set_option maxRecDepth 20000 in
theorem rm_X10_over (this : Nat) (l1 : Int32) (l2 : Int32) (M : Mem) : RFm yX10_over cX10_over 5 (some .int) 10 eI (f_X10_over this l1 l2 M) [va_rf (some this), .int l1, .int l2] M := by
  refine RFm_of (L := [(0, va_rf (some this)), (1, .int l1), (2, .int l2)]) (by decide) rfl (Nat.le_trans (c_R (c_I (c_I c_0))) (by decide)) ?_
  rw [f_X10_over]
  refine R_aloadq_n (pc' := 1) (i := 0) (j := 0) (q := (some this)) dX10_over_0 rfl rfl rfl ?_
  refine R_iload_n (pc' := 2) (i := 1) (j := 1) (x := l1) dX10_over_1 rfl rfl rfl ?_
  refine R_callV_I (pc' := 5) (q := (some this)) (As := [.int l1]) (fun o5 => rm_X10_waits o5 l1 M) mf_X10_waits lk_X10_350 im_X10_waits se_X10_waits rfl rfl rfl dX10_over_2 rfl (by decide) (Nat.le_trans c_0 (by decide)) (fun r1 M => ?_)
  refine R_if_eq (pc' := 8) (tgt := 18) (a := r1) dX10_over_5 (by decide) rfl ?_ ?_
  · exact R_sub [] rfl (rf_X10_over_J18 this M)
  · refine R_iload_n (pc' := 9) (i := 2) (j := 2) (x := l2) dX10_over_8 rfl rfl rfl ?_
    refine R_i2l (pc' := 10) (a := l2) dX10_over_9 rfl ?_
    refine R_lconst (pc' := 11) (x := (0 : Int64)) dX10_over_10 rfl (by decide) ?_
    refine R_lconst (pc' := 12) (x := (1 : Int64)) dX10_over_11 rfl (by decide) ?_
    refine R_callS_I (pc' := 15) (As := [.long (Int32.toInt64 l2), .long (0 : Int64), .long (1 : Int64)]) (rm_X10_in (Int32.toInt64 l2) (0 : Int64) (1 : Int64) M) mf_X10_in lk_X10_131 sm_X10_in rfl rfl dX10_over_12 rfl (by decide) (Nat.le_trans c_0 (by decide)) (fun r2 M => ?_)
    refine R_if_ne (pc' := 18) (tgt := 20) (a := r2) dX10_over_15 (by decide) rfl ?_ ?_
    · refine R_aloadq_n (pc' := 21) (i := 0) (j := 0) (q := (some this)) dX10_over_20 rfl rfl rfl ?_
      refine R_callV_V (pc' := 24) (q := (some this)) (As := []) (fun o4 => rm_X10_keepsAll o4 M) mf_X10_keepsAll lk_X10_430 im_X10_keepsAll se_X10_keepsAll rfl rfl rfl dX10_over_21 rfl (by decide) (Nat.le_trans c_0 (by decide)) (fun u3 M => ?_)
      refine R_bipush (pc' := 26) (x := (-2 : Int32)) dX10_over_24 rfl (by decide) ?_
      refine R_istore_n (pc' := 27) (L' := [(3, .int (-2 : Int32)), (0, va_rf (some this)), (1, .int l1), (2, .int l2)]) (i := 3) (x := (-2 : Int32)) dX10_over_26 rfl rfl (by decide) rfl ?_
      refine R_iconst (pc' := 28) (x := (nI 0)) dX10_over_27 rfl (by decide) ?_
      refine R_istore (pc' := 30) (L' := [(4, .int (nI 0)), (3, .int (-2 : Int32)), (0, va_rf (some this)), (1, .int l1), (2, .int l2)]) (i := 4) (x := (nI 0)) dX10_over_28 rfl (by decide) rfl ?_
      exact R_sub [2, 3, 4, 1, 0] rfl (rf_X10_over_L30 this FU l1 l2 (-2 : Int32) (nI 0) M)
    · exact R_sub [] rfl (rf_X10_over_J18 this M)
/-! BarPilotModel.alike(II)I -/
def f_X10_alike_J26 (this : Nat) (s0 : Int32) (M : Mem) : Option (Int32 × Mem) :=
  some (s0, M)
set_option maxHeartbeats 2000000 in
set_option maxRecDepth 20000 in
theorem rf_X10_alike_J26 (this : Nat) (s0 : Int32) (M : Mem) : RF yX10_alike cX10_alike 3 (some .int) 3 eI (f_X10_alike_J26 this s0 M) 26 [] [.int s0] M := by
  rw [f_X10_alike_J26]
  exact R_iret dX10_alike_26
def f_X10_alike_J25 (this : Nat) (M : Mem) : Option (Int32 × Mem) :=
  f_X10_alike_J26 this (-1 : Int32) M
set_option maxHeartbeats 2000000 in
set_option maxRecDepth 20000 in
theorem rf_X10_alike_J25 (this : Nat) (M : Mem) : RF yX10_alike cX10_alike 3 (some .int) 3 eI (f_X10_alike_J25 this M) 25 [] [] M := by
  rw [f_X10_alike_J25]
  refine R_iconst (pc' := 26) (x := (-1 : Int32)) dX10_alike_25 rfl (by decide) ?_
  exact R_sub [] rfl (rf_X10_alike_J26 this (-1 : Int32) M)
def f_X10_alike (this : Nat) (l1 : Int32) (l2 : Int32) (M : Mem) : Option (Int32 × Mem) :=
  (oO M 10 (some this)).bind fun o6 => cl (f_X10_isJoke o6 l1 M) fun r1 M =>
  (if r1 = 0 then
    (f_X10_alike_J25 this M)
  else
    ((oO M 10 (some this)).bind fun o5 => cl (f_X10_isJoke o5 l2 M) fun r2 M =>
    (if r2 = 0 then
      (f_X10_alike_J25 this M)
    else
      ((oO M 10 (some this)).bind fun o4 => cl (f_X10_alikeOf o4 l1 l2 M) fun r3 M =>
      f_X10_alike_J26 this r3 M))))
set_option maxHeartbeats 2000000 in
set_option maxRecDepth 20000 in
theorem rm_X10_alike (this : Nat) (l1 : Int32) (l2 : Int32) (M : Mem) : RFm yX10_alike cX10_alike 3 (some .int) 3 eI (f_X10_alike this l1 l2 M) [va_rf (some this), .int l1, .int l2] M := by
  refine RFm_of (L := [(0, va_rf (some this)), (1, .int l1), (2, .int l2)]) (by decide) rfl (Nat.le_trans (c_R (c_I (c_I c_0))) (by decide)) ?_
  rw [f_X10_alike]
  refine R_aloadq_n (pc' := 1) (i := 0) (j := 0) (q := (some this)) dX10_alike_0 rfl rfl rfl ?_
  refine R_iload_n (pc' := 2) (i := 1) (j := 1) (x := l1) dX10_alike_1 rfl rfl rfl ?_
  refine R_callV_I (pc' := 5) (q := (some this)) (As := [.int l1]) (fun o6 => rm_X10_isJoke o6 l1 M) mf_X10_isJoke lk_X10_341 im_X10_isJoke se_X10_isJoke rfl rfl rfl dX10_alike_2 rfl (by decide) (Nat.le_trans c_0 (by decide)) (fun r1 M => ?_)
  refine R_if_eq (pc' := 8) (tgt := 25) (a := r1) dX10_alike_5 (by decide) rfl ?_ ?_
  · exact R_sub [] rfl (rf_X10_alike_J25 this M)
  · refine R_aloadq_n (pc' := 9) (i := 0) (j := 0) (q := (some this)) dX10_alike_8 rfl rfl rfl ?_
    refine R_iload_n (pc' := 10) (i := 2) (j := 2) (x := l2) dX10_alike_9 rfl rfl rfl ?_
    refine R_callV_I (pc' := 13) (q := (some this)) (As := [.int l2]) (fun o5 => rm_X10_isJoke o5 l2 M) mf_X10_isJoke lk_X10_341 im_X10_isJoke se_X10_isJoke rfl rfl rfl dX10_alike_10 rfl (by decide) (Nat.le_trans c_0 (by decide)) (fun r2 M => ?_)
    refine R_if_eq (pc' := 16) (tgt := 25) (a := r2) dX10_alike_13 (by decide) rfl ?_ ?_
    · exact R_sub [] rfl (rf_X10_alike_J25 this M)
    · refine R_aloadq_n (pc' := 17) (i := 0) (j := 0) (q := (some this)) dX10_alike_16 rfl rfl rfl ?_
      refine R_iload_n (pc' := 18) (i := 1) (j := 1) (x := l1) dX10_alike_17 rfl rfl rfl ?_
      refine R_iload_n (pc' := 19) (i := 2) (j := 2) (x := l2) dX10_alike_18 rfl rfl rfl ?_
      refine R_callV_I (pc' := 22) (q := (some this)) (As := [.int l1, .int l2]) (fun o4 => rm_X10_alikeOf o4 l1 l2 M) mf_X10_alikeOf lk_X10_335 im_X10_alikeOf se_X10_alikeOf rfl rfl rfl dX10_alike_19 rfl (by decide) (Nat.le_trans c_0 (by decide)) (fun r3 M => ?_)
      refine R_goto (tgt := 26) dX10_alike_22 (by decide) ?_
      exact R_sub [] rfl (rf_X10_alike_J26 this r3 M)
/-! BarPilotModel.fresh()I -/
def f_X10_fresh_J39 (k13 : Int32 → Int32 → Mem → Option (Int32 × Mem)) (this : Nat) (l2 : Int32) (s0 : Int32) (s1 : Int32) (M : Mem) : Option (Int32 × Mem) :=
  nm (s1 ||| s0) fun v1 =>
  k13 v1 (l2 + (nI 1)) M
set_option maxHeartbeats 2000000 in
set_option maxRecDepth 20000 in
theorem rf_X10_fresh_J39 (this : Nat) (k13 : Int32 → Int32 → Mem → Option (Int32 × Mem)) (hk13 : ∀ (l1 : Int32) (l2 : Int32) (M : Mem), RF yX10_fresh cX10_fresh 3 (some .int) 4 eI (k13 l1 l2 M) 13 [(0, va_rf (some this)), (1, .int l1), (2, .int l2)] [] M) (l2 : Int32) (s0 : Int32) (s1 : Int32) (M : Mem) : RF yX10_fresh cX10_fresh 3 (some .int) 4 eI (f_X10_fresh_J39 k13 this l2 s0 s1 M) 39 [(0, va_rf (some this)), (2, .int l2)] [.int s0, .int s1] M := by
  rw [f_X10_fresh_J39]
  refine R_ior (pc' := 40) (a := s1) (b := s0) dX10_fresh_39 rfl ?_
  refine R_nmI (fun v1 => ?_)
  refine R_istore_n (pc' := 41) (L' := [(1, .int v1), (0, va_rf (some this)), (2, .int l2)]) (i := 1) (x := v1) dX10_fresh_40 rfl rfl (by decide) rfl ?_
  refine R_iinc (pc' := 44) (L' := [(2, .int (l2 + (nI 1))), (1, .int v1), (0, va_rf (some this))]) (i := 2) (j := 2) (x := l2) (x2 := (l2 + (nI 1))) dX10_fresh_41 rfl rfl rfl (by decide) rfl ?_
  refine R_goto (tgt := 13) dX10_fresh_44 (by decide) ?_
  exact R_sub [2, 1, 0] rfl (hk13 v1 (l2 + (nI 1)) M)
def f_X10_fresh_L13 (this : Nat) : Nat → Int32 → Int32 → Mem → Option (Int32 × Mem)
  | 0, _, _, _ => none
  | n + 1, l1, l2, M =>
    (gR M 10 1 (some this)).bind fun scalar1 =>
    (aI M 0 scalar1 (nI 2)).bind fun e2 =>
    (if e2 ≤ l2 then
      (some (l1, M))
    else
      ((oO M 10 (some this)).bind fun o4 => cl (f_X10_isNew o4 l2 M) fun r3 M =>
      (if r3 = 0 then
        (f_X10_fresh_J39 (f_X10_fresh_L13 this n) this l2 (nI 0) l1 M)
      else
        (f_X10_fresh_J39 (f_X10_fresh_L13 this n) this l2 ((nI 1) <<< (l2 &&& 31)) l1 M))))
set_option maxHeartbeats 2000000 in
set_option maxRecDepth 20000 in
theorem rf_X10_fresh_L13 (this : Nat) : ∀ (n : Nat) (l1 : Int32) (l2 : Int32) (M : Mem), RF yX10_fresh cX10_fresh 3 (some .int) 4 eI (f_X10_fresh_L13 this n l1 l2 M) 13 [(0, va_rf (some this)), (1, .int l1), (2, .int l2)] [] M := by
  intro n
  induction n with
  | zero => intro _ _ _; exact RF.none
  | succ n ih =>
    intro l1 l2 M
    rw [f_X10_fresh_L13]
    refine R_iload_n (pc' := 14) (i := 2) (j := 2) (x := l2) dX10_fresh_13 rfl rfl rfl ?_
    refine R_aloadq_n (pc' := 15) (i := 0) (j := 0) (q := (some this)) dX10_fresh_14 rfl rfl rfl ?_
    refine R_getR (pc' := 18) (q := (some this)) fl_X10_9 rfl dX10_fresh_15 rfl (fun scalar1 => ?_)
    refine R_iconst (pc' := 19) (x := (nI 2)) dX10_fresh_18 rfl (by decide) ?_
    refine R_iald (pc' := 20) (q := scalar1) (i := (nI 2)) dX10_fresh_19 rfl (fun e2 => ?_)
    refine R_icmp_ge (pc' := 23) (tgt := 47) (a := l2) (b := e2) dX10_fresh_20 (by decide) rfl ?_ ?_
    · refine R_iload_n (pc' := 48) (i := 1) (j := 1) (x := l1) dX10_fresh_47 rfl rfl rfl ?_
      exact R_iret dX10_fresh_48
    · refine R_iload_n (pc' := 24) (i := 1) (j := 1) (x := l1) dX10_fresh_23 rfl rfl rfl ?_
      refine R_aloadq_n (pc' := 25) (i := 0) (j := 0) (q := (some this)) dX10_fresh_24 rfl rfl rfl ?_
      refine R_iload_n (pc' := 26) (i := 2) (j := 2) (x := l2) dX10_fresh_25 rfl rfl rfl ?_
      refine R_callV_I (pc' := 29) (q := (some this)) (As := [.int l2]) (fun o4 => rm_X10_isNew o4 l2 M) mf_X10_isNew lk_X10_344 im_X10_isNew se_X10_isNew rfl rfl rfl dX10_fresh_26 rfl (by decide) (Nat.le_trans (c_I c_0) (by decide)) (fun r3 M => ?_)
      refine R_if_eq (pc' := 32) (tgt := 38) (a := r3) dX10_fresh_29 (by decide) rfl ?_ ?_
      · refine R_iconst (pc' := 39) (x := (nI 0)) dX10_fresh_38 rfl (by decide) ?_
        exact R_sub [0, 2] rfl (rf_X10_fresh_J39 this (f_X10_fresh_L13 this n) ih l2 (nI 0) l1 M)
      · refine R_iconst (pc' := 33) (x := (nI 1)) dX10_fresh_32 rfl (by decide) ?_
        refine R_iload_n (pc' := 34) (i := 2) (j := 2) (x := l2) dX10_fresh_33 rfl rfl rfl ?_
        refine R_ishl (pc' := 35) (a := (nI 1)) (b := l2) dX10_fresh_34 rfl ?_
        refine R_goto (tgt := 39) dX10_fresh_35 (by decide) ?_
        exact R_sub [0, 2] rfl (rf_X10_fresh_J39 this (f_X10_fresh_L13 this n) ih l2 ((nI 1) <<< (l2 &&& 31)) l1 M)
def f_X10_fresh (this : Nat) (M : Mem) : Option (Int32 × Mem) :=
  (oO M 10 (some this)).bind fun o2 => cl (f_X10_isBar o2 M) fun r1 M =>
  (if r1 = 0 then
    (some ((-1 : Int32), M))
  else
    (f_X10_fresh_L13 this FU (nI 0) (nI 0) M))
set_option maxHeartbeats 2000000 in
set_option maxRecDepth 20000 in
theorem rm_X10_fresh (this : Nat) (M : Mem) : RFm yX10_fresh cX10_fresh 3 (some .int) 4 eI (f_X10_fresh this M) [va_rf (some this)] M := by
  refine RFm_of (L := [(0, va_rf (some this))]) (by decide) rfl (Nat.le_trans (c_R c_0) (by decide)) ?_
  rw [f_X10_fresh]
  refine R_aloadq_n (pc' := 1) (i := 0) (j := 0) (q := (some this)) dX10_fresh_0 rfl rfl rfl ?_
  refine R_callV_I (pc' := 4) (q := (some this)) (As := []) (fun o2 => rm_X10_isBar o2 M) mf_X10_isBar lk_X10_411 im_X10_isBar se_X10_isBar rfl rfl rfl dX10_fresh_1 rfl (by decide) (Nat.le_trans c_0 (by decide)) (fun r1 M => ?_)
  refine R_if_ne (pc' := 7) (tgt := 9) (a := r1) dX10_fresh_4 (by decide) rfl ?_ ?_
  · refine R_iconst (pc' := 10) (x := (nI 0)) dX10_fresh_9 rfl (by decide) ?_
    refine R_istore_n (pc' := 11) (L' := [(1, .int (nI 0)), (0, va_rf (some this))]) (i := 1) (x := (nI 0)) dX10_fresh_10 rfl rfl (by decide) rfl ?_
    refine R_iconst (pc' := 12) (x := (nI 0)) dX10_fresh_11 rfl (by decide) ?_
    refine R_istore_n (pc' := 13) (L' := [(2, .int (nI 0)), (1, .int (nI 0)), (0, va_rf (some this))]) (i := 2) (x := (nI 0)) dX10_fresh_12 rfl rfl (by decide) rfl ?_
    exact R_sub [2, 1, 0] rfl (rf_X10_fresh_L13 this FU (nI 0) (nI 0) M)
  · refine R_iconst (pc' := 8) (x := (-1 : Int32)) dX10_fresh_7 rfl (by decide) ?_
    exact R_iret dX10_fresh_8
/-! BarPilotModel.isLikeNone(III)Z -/
def f_X10_isLikeNone_J73 (k3 : Int32 → Int32 → Int32 → Int32 → Mem → Option (Int32 × Mem)) (this : Nat) (l1 : Int32) (l2 : Int32) (l3 : Int32) (l4 : Int32) (s0 : Int32) (s1 : Int32) (M : Mem) : Option (Int32 × Mem) :=
  nm (s1 + s0) fun v1 =>
  (gR M 10 1 (some this)).bind fun scalar2 =>
  (aI M 0 scalar2 (nI 1)).bind fun e3 =>
  (if v1 < e3 then
    (k3 l1 l2 l3 (l4 + (nI 1)) M)
  else
    (ckZ (nI 0) (some ((nI 0), M))))
set_option maxHeartbeats 2000000 in
set_option maxRecDepth 20000 in
theorem rf_X10_isLikeNone_J73 (this : Nat) (k3 : Int32 → Int32 → Int32 → Int32 → Mem → Option (Int32 × Mem)) (hk3 : ∀ (l1 : Int32) (l2 : Int32) (l3 : Int32) (l4 : Int32) (M : Mem), RF yX10_isLikeNone cX10_isLikeNone 6 (some .boolean) 1 eI (k3 l1 l2 l3 l4 M) 3 [(0, va_rf (some this)), (1, .int l1), (2, .int l2), (3, .int l3), (4, .int l4)] [] M) (l1 : Int32) (l2 : Int32) (l3 : Int32) (l4 : Int32) (s0 : Int32) (s1 : Int32) (M : Mem) : RF yX10_isLikeNone cX10_isLikeNone 6 (some .boolean) 1 eI (f_X10_isLikeNone_J73 k3 this l1 l2 l3 l4 s0 s1 M) 73 [(0, va_rf (some this)), (1, .int l1), (2, .int l2), (3, .int l3), (4, .int l4)] [.int s0, .int s1] M := by
  rw [f_X10_isLikeNone_J73]
  refine R_iadd (pc' := 74) (a := s1) (b := s0) dX10_isLikeNone_73 rfl ?_
  refine R_nmI (fun v1 => ?_)
  refine R_istore (pc' := 76) (L' := [(5, .int v1), (0, va_rf (some this)), (1, .int l1), (2, .int l2), (3, .int l3), (4, .int l4)]) (i := 5) (x := v1) dX10_isLikeNone_74 rfl (by decide) rfl ?_
  refine R_iload (pc' := 78) (i := 5) (j := 0) (x := v1) dX10_isLikeNone_76 rfl rfl ?_
  refine R_aloadq_n (pc' := 79) (i := 0) (j := 1) (q := (some this)) dX10_isLikeNone_78 rfl rfl rfl ?_
  refine R_getR (pc' := 82) (q := (some this)) fl_X10_9 rfl dX10_isLikeNone_79 rfl (fun scalar2 => ?_)
  refine R_iconst (pc' := 83) (x := (nI 1)) dX10_isLikeNone_82 rfl (by decide) ?_
  refine R_iald (pc' := 84) (q := scalar2) (i := (nI 1)) dX10_isLikeNone_83 rfl (fun e3 => ?_)
  refine R_icmp_lt (pc' := 87) (tgt := 89) (a := v1) (b := e3) dX10_isLikeNone_84 (by decide) rfl ?_ ?_
  · refine R_iinc (pc' := 92) (L' := [(4, .int (l4 + (nI 1))), (5, .int v1), (0, va_rf (some this)), (1, .int l1), (2, .int l2), (3, .int l3)]) (i := 4) (j := 5) (x := l4) (x2 := (l4 + (nI 1))) dX10_isLikeNone_89 rfl rfl rfl (by decide) rfl ?_
    refine R_goto (tgt := 3) dX10_isLikeNone_92 (by decide) ?_
    exact R_sub [2, 3, 4, 5, 0] rfl (hk3 l1 l2 l3 (l4 + (nI 1)) M)
  · refine R_iconst (pc' := 88) (x := (nI 0)) dX10_isLikeNone_87 rfl (by decide) ?_
    exact R_bret dX10_isLikeNone_88
def f_X10_isLikeNone_J52 (k3 : Int32 → Int32 → Int32 → Int32 → Mem → Option (Int32 × Mem)) (this : Nat) (l1 : Int32) (l2 : Int32) (l3 : Int32) (l4 : Int32) (s0 : Int32) (s1 : Int32) (M : Mem) : Option (Int32 × Mem) :=
  (gR M 10 2 (some this)).bind fun parts1 =>
  (aI M 0 parts1 (((nI 3) * l4) + (nI 2))).bind fun e2 =>
  (if e2 = l3 then
    (f_X10_isLikeNone_J73 k3 this l1 l2 l3 l4 (nI 1) (s1 + s0) M)
  else
    (f_X10_isLikeNone_J73 k3 this l1 l2 l3 l4 (nI 0) (s1 + s0) M))
set_option maxHeartbeats 2000000 in
set_option maxRecDepth 20000 in
theorem rf_X10_isLikeNone_J52 (this : Nat) (k3 : Int32 → Int32 → Int32 → Int32 → Mem → Option (Int32 × Mem)) (hk3 : ∀ (l1 : Int32) (l2 : Int32) (l3 : Int32) (l4 : Int32) (M : Mem), RF yX10_isLikeNone cX10_isLikeNone 6 (some .boolean) 1 eI (k3 l1 l2 l3 l4 M) 3 [(0, va_rf (some this)), (1, .int l1), (2, .int l2), (3, .int l3), (4, .int l4)] [] M) (l1 : Int32) (l2 : Int32) (l3 : Int32) (l4 : Int32) (s0 : Int32) (s1 : Int32) (M : Mem) : RF yX10_isLikeNone cX10_isLikeNone 6 (some .boolean) 1 eI (f_X10_isLikeNone_J52 k3 this l1 l2 l3 l4 s0 s1 M) 52 [(0, va_rf (some this)), (1, .int l1), (2, .int l2), (3, .int l3), (4, .int l4)] [.int s0, .int s1] M := by
  rw [f_X10_isLikeNone_J52]
  refine R_iadd (pc' := 53) (a := s1) (b := s0) dX10_isLikeNone_52 rfl ?_
  refine R_aloadq_n (pc' := 54) (i := 0) (j := 0) (q := (some this)) dX10_isLikeNone_53 rfl rfl rfl ?_
  refine R_getR (pc' := 57) (q := (some this)) fl_X10_13 rfl dX10_isLikeNone_54 rfl (fun parts1 => ?_)
  refine R_iconst (pc' := 58) (x := (nI 3)) dX10_isLikeNone_57 rfl (by decide) ?_
  refine R_iload (pc' := 60) (i := 4) (j := 4) (x := l4) dX10_isLikeNone_58 rfl rfl ?_
  refine R_imul (pc' := 61) (a := (nI 3)) (b := l4) dX10_isLikeNone_60 rfl ?_
  refine R_iconst (pc' := 62) (x := (nI 2)) dX10_isLikeNone_61 rfl (by decide) ?_
  refine R_iadd (pc' := 63) (a := ((nI 3) * l4)) (b := (nI 2)) dX10_isLikeNone_62 rfl ?_
  refine R_iald (pc' := 64) (q := parts1) (i := (((nI 3) * l4) + (nI 2))) dX10_isLikeNone_63 rfl (fun e2 => ?_)
  refine R_iload_n (pc' := 65) (i := 3) (j := 3) (x := l3) dX10_isLikeNone_64 rfl rfl rfl ?_
  refine R_icmp_ne (pc' := 68) (tgt := 72) (a := e2) (b := l3) dX10_isLikeNone_65 (by decide) rfl ?_ ?_
  · refine R_iconst (pc' := 73) (x := (nI 0)) dX10_isLikeNone_72 rfl (by decide) ?_
    exact R_sub [0, 1, 2, 3, 4] rfl (rf_X10_isLikeNone_J73 this k3 hk3 l1 l2 l3 l4 (nI 0) (s1 + s0) M)
  · refine R_iconst (pc' := 69) (x := (nI 1)) dX10_isLikeNone_68 rfl (by decide) ?_
    refine R_goto (tgt := 73) dX10_isLikeNone_69 (by decide) ?_
    exact R_sub [0, 1, 2, 3, 4] rfl (rf_X10_isLikeNone_J73 this k3 hk3 l1 l2 l3 l4 (nI 1) (s1 + s0) M)
def f_X10_isLikeNone_J32 (k3 : Int32 → Int32 → Int32 → Int32 → Mem → Option (Int32 × Mem)) (this : Nat) (l1 : Int32) (l2 : Int32) (l3 : Int32) (l4 : Int32) (s0 : Int32) (M : Mem) : Option (Int32 × Mem) :=
  (gR M 10 2 (some this)).bind fun parts1 =>
  (aI M 0 parts1 (((nI 3) * l4) + (nI 1))).bind fun e2 =>
  (if e2 = l2 then
    (f_X10_isLikeNone_J52 k3 this l1 l2 l3 l4 (nI 1) s0 M)
  else
    (f_X10_isLikeNone_J52 k3 this l1 l2 l3 l4 (nI 0) s0 M))
set_option maxHeartbeats 2000000 in
set_option maxRecDepth 20000 in
theorem rf_X10_isLikeNone_J32 (this : Nat) (k3 : Int32 → Int32 → Int32 → Int32 → Mem → Option (Int32 × Mem)) (hk3 : ∀ (l1 : Int32) (l2 : Int32) (l3 : Int32) (l4 : Int32) (M : Mem), RF yX10_isLikeNone cX10_isLikeNone 6 (some .boolean) 1 eI (k3 l1 l2 l3 l4 M) 3 [(0, va_rf (some this)), (1, .int l1), (2, .int l2), (3, .int l3), (4, .int l4)] [] M) (l1 : Int32) (l2 : Int32) (l3 : Int32) (l4 : Int32) (s0 : Int32) (M : Mem) : RF yX10_isLikeNone cX10_isLikeNone 6 (some .boolean) 1 eI (f_X10_isLikeNone_J32 k3 this l1 l2 l3 l4 s0 M) 32 [(0, va_rf (some this)), (1, .int l1), (2, .int l2), (3, .int l3), (4, .int l4)] [.int s0] M := by
  rw [f_X10_isLikeNone_J32]
  refine R_aloadq_n (pc' := 33) (i := 0) (j := 0) (q := (some this)) dX10_isLikeNone_32 rfl rfl rfl ?_
  refine R_getR (pc' := 36) (q := (some this)) fl_X10_13 rfl dX10_isLikeNone_33 rfl (fun parts1 => ?_)
  refine R_iconst (pc' := 37) (x := (nI 3)) dX10_isLikeNone_36 rfl (by decide) ?_
  refine R_iload (pc' := 39) (i := 4) (j := 4) (x := l4) dX10_isLikeNone_37 rfl rfl ?_
  refine R_imul (pc' := 40) (a := (nI 3)) (b := l4) dX10_isLikeNone_39 rfl ?_
  refine R_iconst (pc' := 41) (x := (nI 1)) dX10_isLikeNone_40 rfl (by decide) ?_
  refine R_iadd (pc' := 42) (a := ((nI 3) * l4)) (b := (nI 1)) dX10_isLikeNone_41 rfl ?_
  refine R_iald (pc' := 43) (q := parts1) (i := (((nI 3) * l4) + (nI 1))) dX10_isLikeNone_42 rfl (fun e2 => ?_)
  refine R_iload_n (pc' := 44) (i := 2) (j := 2) (x := l2) dX10_isLikeNone_43 rfl rfl rfl ?_
  refine R_icmp_ne (pc' := 47) (tgt := 51) (a := e2) (b := l2) dX10_isLikeNone_44 (by decide) rfl ?_ ?_
  · refine R_iconst (pc' := 52) (x := (nI 0)) dX10_isLikeNone_51 rfl (by decide) ?_
    exact R_sub [0, 1, 2, 3, 4] rfl (rf_X10_isLikeNone_J52 this k3 hk3 l1 l2 l3 l4 (nI 0) s0 M)
  · refine R_iconst (pc' := 48) (x := (nI 1)) dX10_isLikeNone_47 rfl (by decide) ?_
    refine R_goto (tgt := 52) dX10_isLikeNone_48 (by decide) ?_
    exact R_sub [0, 1, 2, 3, 4] rfl (rf_X10_isLikeNone_J52 this k3 hk3 l1 l2 l3 l4 (nI 1) s0 M)
def f_X10_isLikeNone_L3 (this : Nat) : Nat → Int32 → Int32 → Int32 → Int32 → Mem → Option (Int32 × Mem)
  | 0, _, _, _, _, _ => none
  | n + 1, l1, l2, l3, l4, M =>
    (gR M 10 1 (some this)).bind fun scalar1 =>
    (aI M 0 scalar1 (nI 2)).bind fun e2 =>
    (if e2 ≤ l4 then
      (ckZ (nI 1) (some ((nI 1), M)))
    else
      ((gR M 10 2 (some this)).bind fun parts3 =>
      (aI M 0 parts3 ((nI 3) * l4)).bind fun e4 =>
      (if e4 = l1 then
        (f_X10_isLikeNone_J32 (f_X10_isLikeNone_L3 this n) this l1 l2 l3 l4 (nI 1) M)
      else
        (f_X10_isLikeNone_J32 (f_X10_isLikeNone_L3 this n) this l1 l2 l3 l4 (nI 0) M))))
set_option maxHeartbeats 2000000 in
set_option maxRecDepth 20000 in
theorem rf_X10_isLikeNone_L3 (this : Nat) : ∀ (n : Nat) (l1 : Int32) (l2 : Int32) (l3 : Int32) (l4 : Int32) (M : Mem), RF yX10_isLikeNone cX10_isLikeNone 6 (some .boolean) 1 eI (f_X10_isLikeNone_L3 this n l1 l2 l3 l4 M) 3 [(0, va_rf (some this)), (1, .int l1), (2, .int l2), (3, .int l3), (4, .int l4)] [] M := by
  intro n
  induction n with
  | zero => intro _ _ _ _ _; exact RF.none
  | succ n ih =>
    intro l1 l2 l3 l4 M
    rw [f_X10_isLikeNone_L3]
    refine R_iload (pc' := 5) (i := 4) (j := 4) (x := l4) dX10_isLikeNone_3 rfl rfl ?_
    refine R_aloadq_n (pc' := 6) (i := 0) (j := 0) (q := (some this)) dX10_isLikeNone_5 rfl rfl rfl ?_
    refine R_getR (pc' := 9) (q := (some this)) fl_X10_9 rfl dX10_isLikeNone_6 rfl (fun scalar1 => ?_)
    refine R_iconst (pc' := 10) (x := (nI 2)) dX10_isLikeNone_9 rfl (by decide) ?_
    refine R_iald (pc' := 11) (q := scalar1) (i := (nI 2)) dX10_isLikeNone_10 rfl (fun e2 => ?_)
    refine R_icmp_ge (pc' := 14) (tgt := 95) (a := l4) (b := e2) dX10_isLikeNone_11 (by decide) rfl ?_ ?_
    · refine R_iconst (pc' := 96) (x := (nI 1)) dX10_isLikeNone_95 rfl (by decide) ?_
      exact R_bret dX10_isLikeNone_96
    · refine R_aloadq_n (pc' := 15) (i := 0) (j := 0) (q := (some this)) dX10_isLikeNone_14 rfl rfl rfl ?_
      refine R_getR (pc' := 18) (q := (some this)) fl_X10_13 rfl dX10_isLikeNone_15 rfl (fun parts3 => ?_)
      refine R_iconst (pc' := 19) (x := (nI 3)) dX10_isLikeNone_18 rfl (by decide) ?_
      refine R_iload (pc' := 21) (i := 4) (j := 4) (x := l4) dX10_isLikeNone_19 rfl rfl ?_
      refine R_imul (pc' := 22) (a := (nI 3)) (b := l4) dX10_isLikeNone_21 rfl ?_
      refine R_iald (pc' := 23) (q := parts3) (i := ((nI 3) * l4)) dX10_isLikeNone_22 rfl (fun e4 => ?_)
      refine R_iload_n (pc' := 24) (i := 1) (j := 1) (x := l1) dX10_isLikeNone_23 rfl rfl rfl ?_
      refine R_icmp_ne (pc' := 27) (tgt := 31) (a := e4) (b := l1) dX10_isLikeNone_24 (by decide) rfl ?_ ?_
      · refine R_iconst (pc' := 32) (x := (nI 0)) dX10_isLikeNone_31 rfl (by decide) ?_
        exact R_sub [0, 1, 2, 3, 4] rfl (rf_X10_isLikeNone_J32 this (f_X10_isLikeNone_L3 this n) ih l1 l2 l3 l4 (nI 0) M)
      · refine R_iconst (pc' := 28) (x := (nI 1)) dX10_isLikeNone_27 rfl (by decide) ?_
        refine R_goto (tgt := 32) dX10_isLikeNone_28 (by decide) ?_
        exact R_sub [0, 1, 2, 3, 4] rfl (rf_X10_isLikeNone_J32 this (f_X10_isLikeNone_L3 this n) ih l1 l2 l3 l4 (nI 1) M)
def f_X10_isLikeNone (this : Nat) (l1 : Int32) (l2 : Int32) (l3 : Int32) (M : Mem) : Option (Int32 × Mem) :=
  f_X10_isLikeNone_L3 this FU l1 l2 l3 (nI 0) M
set_option maxHeartbeats 2000000 in
set_option maxRecDepth 20000 in
theorem rm_X10_isLikeNone (this : Nat) (l1 : Int32) (l2 : Int32) (l3 : Int32) (M : Mem) : RFm yX10_isLikeNone cX10_isLikeNone 6 (some .boolean) 1 eI (f_X10_isLikeNone this l1 l2 l3 M) [va_rf (some this), .int l1, .int l2, .int l3] M := by
  refine RFm_of (L := [(0, va_rf (some this)), (1, .int l1), (2, .int l2), (3, .int l3)]) (by decide) rfl (Nat.le_trans (c_R (c_I (c_I (c_I c_0)))) (by decide)) ?_
  rw [f_X10_isLikeNone]
  refine R_iconst (pc' := 1) (x := (nI 0)) dX10_isLikeNone_0 rfl (by decide) ?_
  refine R_istore (pc' := 3) (L' := [(4, .int (nI 0)), (0, va_rf (some this)), (1, .int l1), (2, .int l2), (3, .int l3)]) (i := 4) (x := (nI 0)) dX10_isLikeNone_1 rfl (by decide) rfl ?_
  exact R_sub [1, 2, 3, 4, 0] rfl (rf_X10_isLikeNone_L3 this FU l1 l2 l3 (nI 0) M)
/-! BarPilotModel.least()I -/
def f_X10_least_L11 (this : Nat) : Nat → Int32 → Mem → Option (Int32 × Mem)
  | 0, _, _ => none
  | n + 1, l1, M =>
    (if (nI 1000) ≤ l1 then
      (some ((-2 : Int32), M))
    else
      (if (nI 100) = 0 then none else
      if (nI 10) = 0 then none else
      if (nI 10) = 0 then none else
      if (nI 10) = 0 then none else
      (oO M 10 (some this)).bind fun o2 => cl (f_X10_isLikeNone o2 (l1 / (nI 100)) ((l1 / (nI 10)) - (l1 / (nI 10)) / (nI 10) * (nI 10)) (l1 - l1 / (nI 10) * (nI 10)) M) fun r1 M =>
      (if r1 = 0 then
        ((f_X10_least_L11 this n) (l1 + (nI 1)) M)
      else
        (some (l1, M)))))
set_option maxHeartbeats 2000000 in
set_option maxRecDepth 20000 in
theorem rf_X10_least_L11 (this : Nat) : ∀ (n : Nat) (l1 : Int32) (M : Mem), RF yX10_least cX10_least 2 (some .int) 2 eI (f_X10_least_L11 this n l1 M) 11 [(0, va_rf (some this)), (1, .int l1)] [] M := by
  intro n
  induction n with
  | zero => intro _ _; exact RF.none
  | succ n ih =>
    intro l1 M
    rw [f_X10_least_L11]
    refine R_iload_n (pc' := 12) (i := 1) (j := 1) (x := l1) dX10_least_11 rfl rfl rfl ?_
    refine R_sipush (pc' := 15) (x := (nI 1000)) dX10_least_12 rfl (by decide) ?_
    refine R_icmp_ge (pc' := 18) (tgt := 48) (a := l1) (b := (nI 1000)) dX10_least_15 (by decide) rfl ?_ ?_
    · refine R_bipush (pc' := 50) (x := (-2 : Int32)) dX10_least_48 rfl (by decide) ?_
      exact R_iret dX10_least_50
    · refine R_aloadq_n (pc' := 19) (i := 0) (j := 0) (q := (some this)) dX10_least_18 rfl rfl rfl ?_
      refine R_iload_n (pc' := 20) (i := 1) (j := 1) (x := l1) dX10_least_19 rfl rfl rfl ?_
      refine R_bipush (pc' := 22) (x := (nI 100)) dX10_least_20 rfl (by decide) ?_
      refine R_idiv (pc' := 23) (a := l1) (b := (nI 100)) dX10_least_22 rfl ?_
      refine R_iload_n (pc' := 24) (i := 1) (j := 1) (x := l1) dX10_least_23 rfl rfl rfl ?_
      refine R_bipush (pc' := 26) (x := (nI 10)) dX10_least_24 rfl (by decide) ?_
      refine R_idiv (pc' := 27) (a := l1) (b := (nI 10)) dX10_least_26 rfl ?_
      refine R_bipush (pc' := 29) (x := (nI 10)) dX10_least_27 rfl (by decide) ?_
      refine R_irem (pc' := 30) (a := (l1 / (nI 10))) (b := (nI 10)) dX10_least_29 rfl ?_
      refine R_iload_n (pc' := 31) (i := 1) (j := 1) (x := l1) dX10_least_30 rfl rfl rfl ?_
      refine R_bipush (pc' := 33) (x := (nI 10)) dX10_least_31 rfl (by decide) ?_
      refine R_irem (pc' := 34) (a := l1) (b := (nI 10)) dX10_least_33 rfl ?_
      refine R_callV_I (pc' := 37) (q := (some this)) (As := [.int (l1 / (nI 100)), .int ((l1 / (nI 10)) - (l1 / (nI 10)) / (nI 10) * (nI 10)), .int (l1 - l1 / (nI 10) * (nI 10))]) (fun o2 => rm_X10_isLikeNone o2 (l1 / (nI 100)) ((l1 / (nI 10)) - (l1 / (nI 10)) / (nI 10) * (nI 10)) (l1 - l1 / (nI 10) * (nI 10)) M) mf_X10_isLikeNone lk_X10_433 im_X10_isLikeNone se_X10_isLikeNone rfl rfl rfl dX10_least_34 rfl (by decide) (Nat.le_trans c_0 (by decide)) (fun r1 M => ?_)
      refine R_if_eq (pc' := 40) (tgt := 42) (a := r1) dX10_least_37 (by decide) rfl ?_ ?_
      · refine R_iinc (pc' := 45) (L' := [(1, .int (l1 + (nI 1))), (0, va_rf (some this))]) (i := 1) (j := 1) (x := l1) (x2 := (l1 + (nI 1))) dX10_least_42 rfl rfl rfl (by decide) rfl ?_
        refine R_goto (tgt := 11) dX10_least_45 (by decide) ?_
        exact R_sub [1, 0] rfl (ih (l1 + (nI 1)) M)
      · refine R_iload_n (pc' := 41) (i := 1) (j := 1) (x := l1) dX10_least_40 rfl rfl rfl ?_
        exact R_iret dX10_least_41
def f_X10_least (this : Nat) (M : Mem) : Option (Int32 × Mem) :=
  (oO M 10 (some this)).bind fun o2 => cl (f_X10_isBar o2 M) fun r1 M =>
  (if r1 = 0 then
    (some ((-1 : Int32), M))
  else
    (f_X10_least_L11 this FU (nI 0) M))
set_option maxHeartbeats 2000000 in
set_option maxRecDepth 20000 in
theorem rm_X10_least (this : Nat) (M : Mem) : RFm yX10_least cX10_least 2 (some .int) 2 eI (f_X10_least this M) [va_rf (some this)] M := by
  refine RFm_of (L := [(0, va_rf (some this))]) (by decide) rfl (Nat.le_trans (c_R c_0) (by decide)) ?_
  rw [f_X10_least]
  refine R_aloadq_n (pc' := 1) (i := 0) (j := 0) (q := (some this)) dX10_least_0 rfl rfl rfl ?_
  refine R_callV_I (pc' := 4) (q := (some this)) (As := []) (fun o2 => rm_X10_isBar o2 M) mf_X10_isBar lk_X10_411 im_X10_isBar se_X10_isBar rfl rfl rfl dX10_least_1 rfl (by decide) (Nat.le_trans c_0 (by decide)) (fun r1 M => ?_)
  refine R_if_ne (pc' := 7) (tgt := 9) (a := r1) dX10_least_4 (by decide) rfl ?_ ?_
  · refine R_iconst (pc' := 10) (x := (nI 0)) dX10_least_9 rfl (by decide) ?_
    refine R_istore_n (pc' := 11) (L' := [(1, .int (nI 0)), (0, va_rf (some this))]) (i := 1) (x := (nI 0)) dX10_least_10 rfl rfl (by decide) rfl ?_
    exact R_sub [1, 0] rfl (rf_X10_least_L11 this FU (nI 0) M)
  · refine R_iconst (pc' := 8) (x := (-1 : Int32)) dX10_least_7 rfl (by decide) ?_
    exact R_iret dX10_least_8
/-! BarPilotModel.passesByRow(IIII)I -/
def f_X10_passesByRow_J156 (this : Nat) (s0 : Int32) (M : Mem) : Option (Int32 × Mem) :=
  (oO M 10 (some this)).bind fun o2 => cl (f_X10_laysBack o2 M) fun u1 M =>
  some (s0, M)
set_option maxHeartbeats 2000000 in
set_option maxRecDepth 20000 in
theorem rf_X10_passesByRow_J156 (this : Nat) (s0 : Int32) (M : Mem) : RF yX10_passesByRow cX10_passesByRow 8 (some .int) 10 eI (f_X10_passesByRow_J156 this s0 M) 156 [(0, va_rf (some this))] [.int s0] M := by
  rw [f_X10_passesByRow_J156]
  refine R_istore (pc' := 158) (L' := [(7, .int s0), (0, va_rf (some this))]) (i := 7) (x := s0) dX10_passesByRow_156 rfl (by decide) rfl ?_
  refine R_aloadq_n (pc' := 159) (i := 0) (j := 1) (q := (some this)) dX10_passesByRow_158 rfl rfl rfl ?_
  refine R_callV_V (pc' := 162) (q := (some this)) (As := []) (fun o2 => rm_X10_laysBack o2 M) mf_X10_laysBack lk_X10_423 im_X10_laysBack se_X10_laysBack rfl rfl rfl dX10_passesByRow_159 rfl (by decide) (Nat.le_trans c_0 (by decide)) (fun u1 M => ?_)
  refine R_iload (pc' := 164) (i := 7) (j := 0) (x := s0) dX10_passesByRow_162 rfl rfl ?_
  exact R_iret dX10_passesByRow_164
def f_X10_passesByRow_J153 (this : Nat) (M : Mem) : Option (Int32 × Mem) :=
  f_X10_passesByRow_J156 this (nI 100000) M
set_option maxHeartbeats 2000000 in
set_option maxRecDepth 20000 in
theorem rf_X10_passesByRow_J153 (this : Nat) (M : Mem) : RF yX10_passesByRow cX10_passesByRow 8 (some .int) 10 eI (f_X10_passesByRow_J153 this M) 153 [(0, va_rf (some this))] [] M := by
  rw [f_X10_passesByRow_J153]
  refine R_ldcw (pc' := 156) (x := (nI 100000)) dX10_passesByRow_153 rfl co_X10_437 ?_
  exact R_sub [0] rfl (rf_X10_passesByRow_J156 this (nI 100000) M)
def f_X10_passesByRow_J124 (this : Nat) (l1 : Int32) (l6 : Int32) (M : Mem) : Option (Int32 × Mem) :=
  (pI M 10 38 (some this) (-1 : Int32)).bind fun M =>
  (if l6 = 0 then
    (f_X10_passesByRow_J153 this M)
  else
    ((gR M 10 7 (some this)).bind fun passed1 =>
    (aI M 0 passed1 l1).bind fun e2 =>
    (if e2 = (-1 : Int32) then
      (f_X10_passesByRow_J153 this M)
    else
      ((gR M 10 7 (some this)).bind fun passed3 =>
      (aI M 0 passed3 l1).bind fun e4 =>
      f_X10_passesByRow_J156 this e4 M))))
set_option maxHeartbeats 2000000 in
set_option maxRecDepth 20000 in
theorem rf_X10_passesByRow_J124 (this : Nat) (l1 : Int32) (l6 : Int32) (M : Mem) : RF yX10_passesByRow cX10_passesByRow 8 (some .int) 10 eI (f_X10_passesByRow_J124 this l1 l6 M) 124 [(0, va_rf (some this)), (1, .int l1), (6, .int l6)] [] M := by
  rw [f_X10_passesByRow_J124]
  refine R_aloadq_n (pc' := 125) (i := 0) (j := 0) (q := (some this)) dX10_passesByRow_124 rfl rfl rfl ?_
  refine R_iconst (pc' := 126) (x := (-1 : Int32)) dX10_passesByRow_125 rfl (by decide) ?_
  refine R_putI (pc' := 129) (q := (some this)) (x := (-1 : Int32)) fl_X10_97 (Or.inl rfl) dX10_passesByRow_126 rfl (fun M => ?_)
  refine R_iload (pc' := 131) (i := 6) (j := 2) (x := l6) dX10_passesByRow_129 rfl rfl ?_
  refine R_if_eq (pc' := 134) (tgt := 153) (a := l6) dX10_passesByRow_131 (by decide) rfl ?_ ?_
  · exact R_sub [0] rfl (rf_X10_passesByRow_J153 this M)
  · refine R_aloadq_n (pc' := 135) (i := 0) (j := 0) (q := (some this)) dX10_passesByRow_134 rfl rfl rfl ?_
    refine R_getR (pc' := 138) (q := (some this)) fl_X10_28 rfl dX10_passesByRow_135 rfl (fun passed1 => ?_)
    refine R_iload_n (pc' := 139) (i := 1) (j := 1) (x := l1) dX10_passesByRow_138 rfl rfl rfl ?_
    refine R_iald (pc' := 140) (q := passed1) (i := l1) dX10_passesByRow_139 rfl (fun e2 => ?_)
    refine R_iconst (pc' := 141) (x := (-1 : Int32)) dX10_passesByRow_140 rfl (by decide) ?_
    refine R_icmp_eq (pc' := 144) (tgt := 153) (a := e2) (b := (-1 : Int32)) dX10_passesByRow_141 (by decide) rfl ?_ ?_
    · exact R_sub [0] rfl (rf_X10_passesByRow_J153 this M)
    · refine R_aloadq_n (pc' := 145) (i := 0) (j := 0) (q := (some this)) dX10_passesByRow_144 rfl rfl rfl ?_
      refine R_getR (pc' := 148) (q := (some this)) fl_X10_28 rfl dX10_passesByRow_145 rfl (fun passed3 => ?_)
      refine R_iload_n (pc' := 149) (i := 1) (j := 1) (x := l1) dX10_passesByRow_148 rfl rfl rfl ?_
      refine R_iald (pc' := 150) (q := passed3) (i := l1) dX10_passesByRow_149 rfl (fun e4 => ?_)
      refine R_goto (tgt := 156) dX10_passesByRow_150 (by decide) ?_
      exact R_sub [0] rfl (rf_X10_passesByRow_J156 this e4 M)
def f_X10_passesByRow_J118 (k15 : Int32 → Int32 → Int32 → Int32 → Int32 → Int32 → Mem → Option (Int32 × Mem)) (this : Nat) (l1 : Int32) (l2 : Int32) (l3 : Int32) (l5 : Int32) (l6 : Int32) (l7 : Int32) (M : Mem) : Option (Int32 × Mem) :=
  k15 l1 l2 l3 l5 l6 (l7 + (nI 1)) M
set_option maxHeartbeats 2000000 in
set_option maxRecDepth 20000 in
theorem rf_X10_passesByRow_J118 (this : Nat) (k15 : Int32 → Int32 → Int32 → Int32 → Int32 → Int32 → Mem → Option (Int32 × Mem)) (hk15 : ∀ (l1 : Int32) (l2 : Int32) (l3 : Int32) (l5 : Int32) (l6 : Int32) (l7 : Int32) (M : Mem), RF yX10_passesByRow cX10_passesByRow 8 (some .int) 10 eI (k15 l1 l2 l3 l5 l6 l7 M) 15 [(0, va_rf (some this)), (1, .int l1), (2, .int l2), (3, .int l3), (5, .int l5), (6, .int l6), (7, .int l7)] [] M) (l1 : Int32) (l2 : Int32) (l3 : Int32) (l5 : Int32) (l6 : Int32) (l7 : Int32) (M : Mem) : RF yX10_passesByRow cX10_passesByRow 8 (some .int) 10 eI (f_X10_passesByRow_J118 k15 this l1 l2 l3 l5 l6 l7 M) 118 [(0, va_rf (some this)), (1, .int l1), (2, .int l2), (3, .int l3), (5, .int l5), (6, .int l6), (7, .int l7)] [] M := by
  rw [f_X10_passesByRow_J118]
  refine R_iinc (pc' := 121) (L' := [(7, .int (l7 + (nI 1))), (0, va_rf (some this)), (1, .int l1), (2, .int l2), (3, .int l3), (5, .int l5), (6, .int l6)]) (i := 7) (j := 6) (x := l7) (x2 := (l7 + (nI 1))) dX10_passesByRow_118 rfl rfl rfl (by decide) rfl ?_
  refine R_goto (tgt := 15) dX10_passesByRow_121 (by decide) ?_
  exact R_sub [1, 2, 3, 4, 5, 6, 0] rfl (hk15 l1 l2 l3 l5 l6 (l7 + (nI 1)) M)
def f_X10_passesByRow_J106 (k15 : Int32 → Int32 → Int32 → Int32 → Int32 → Int32 → Mem → Option (Int32 × Mem)) (this : Nat) (l1 : Int32) (l2 : Int32) (l3 : Int32) (l5 : Int32) (l7 : Int32) (s0 : Int32) (M : Mem) : Option (Int32 × Mem) :=
  (if s0 = 0 then
    (f_X10_passesByRow_J118 k15 this l1 l2 l3 l5 s0 l7 M)
  else
    ((oO M 10 (some this)).bind fun o2 => cl (f_X10_goes o2 M) fun r1 M =>
    f_X10_passesByRow_J118 k15 this l1 l2 l3 l5 s0 l7 M))
set_option maxHeartbeats 2000000 in
set_option maxRecDepth 20000 in
theorem rf_X10_passesByRow_J106 (this : Nat) (k15 : Int32 → Int32 → Int32 → Int32 → Int32 → Int32 → Mem → Option (Int32 × Mem)) (hk15 : ∀ (l1 : Int32) (l2 : Int32) (l3 : Int32) (l5 : Int32) (l6 : Int32) (l7 : Int32) (M : Mem), RF yX10_passesByRow cX10_passesByRow 8 (some .int) 10 eI (k15 l1 l2 l3 l5 l6 l7 M) 15 [(0, va_rf (some this)), (1, .int l1), (2, .int l2), (3, .int l3), (5, .int l5), (6, .int l6), (7, .int l7)] [] M) (l1 : Int32) (l2 : Int32) (l3 : Int32) (l5 : Int32) (l7 : Int32) (s0 : Int32) (M : Mem) : RF yX10_passesByRow cX10_passesByRow 8 (some .int) 10 eI (f_X10_passesByRow_J106 k15 this l1 l2 l3 l5 l7 s0 M) 106 [(0, va_rf (some this)), (1, .int l1), (2, .int l2), (3, .int l3), (5, .int l5), (7, .int l7)] [.int s0] M := by
  rw [f_X10_passesByRow_J106]
  refine R_istore (pc' := 108) (L' := [(6, .int s0), (0, va_rf (some this)), (1, .int l1), (2, .int l2), (3, .int l3), (5, .int l5), (7, .int l7)]) (i := 6) (x := s0) dX10_passesByRow_106 rfl (by decide) rfl ?_
  refine R_iload (pc' := 110) (i := 6) (j := 0) (x := s0) dX10_passesByRow_108 rfl rfl ?_
  refine R_if_eq (pc' := 113) (tgt := 118) (a := s0) dX10_passesByRow_110 (by decide) rfl ?_ ?_
  · exact R_sub [1, 2, 3, 4, 5, 0, 6] rfl (rf_X10_passesByRow_J118 this k15 hk15 l1 l2 l3 l5 s0 l7 M)
  · refine R_aloadq_n (pc' := 114) (i := 0) (j := 1) (q := (some this)) dX10_passesByRow_113 rfl rfl rfl ?_
    refine R_callV_I (pc' := 117) (q := (some this)) (As := []) (fun o2 => rm_X10_goes o2 M) mf_X10_goes lk_X10_390 im_X10_goes se_X10_goes rfl rfl rfl dX10_passesByRow_114 rfl (by decide) (Nat.le_trans c_0 (by decide)) (fun r1 M => ?_)
    refine R_pop (pc' := 118) dX10_passesByRow_117 rfl rfl ?_
    exact R_sub [1, 2, 3, 4, 5, 0, 6] rfl (rf_X10_passesByRow_J118 this k15 hk15 l1 l2 l3 l5 s0 l7 M)
def f_X10_passesByRow_J101 (k15 : Int32 → Int32 → Int32 → Int32 → Int32 → Int32 → Mem → Option (Int32 × Mem)) (this : Nat) (l1 : Int32) (l2 : Int32) (l3 : Int32) (l5 : Int32) (l7 : Int32) (M : Mem) : Option (Int32 × Mem) :=
  f_X10_passesByRow_J106 k15 this l1 l2 l3 l5 l7 (nI 1) M
set_option maxHeartbeats 2000000 in
set_option maxRecDepth 20000 in
theorem rf_X10_passesByRow_J101 (this : Nat) (k15 : Int32 → Int32 → Int32 → Int32 → Int32 → Int32 → Mem → Option (Int32 × Mem)) (hk15 : ∀ (l1 : Int32) (l2 : Int32) (l3 : Int32) (l5 : Int32) (l6 : Int32) (l7 : Int32) (M : Mem), RF yX10_passesByRow cX10_passesByRow 8 (some .int) 10 eI (k15 l1 l2 l3 l5 l6 l7 M) 15 [(0, va_rf (some this)), (1, .int l1), (2, .int l2), (3, .int l3), (5, .int l5), (6, .int l6), (7, .int l7)] [] M) (l1 : Int32) (l2 : Int32) (l3 : Int32) (l5 : Int32) (l7 : Int32) (M : Mem) : RF yX10_passesByRow cX10_passesByRow 8 (some .int) 10 eI (f_X10_passesByRow_J101 k15 this l1 l2 l3 l5 l7 M) 101 [(0, va_rf (some this)), (1, .int l1), (2, .int l2), (3, .int l3), (5, .int l5), (7, .int l7)] [] M := by
  rw [f_X10_passesByRow_J101]
  refine R_iconst (pc' := 102) (x := (nI 1)) dX10_passesByRow_101 rfl (by decide) ?_
  refine R_goto (tgt := 106) dX10_passesByRow_102 (by decide) ?_
  exact R_sub [0, 1, 2, 3, 4, 5] rfl (rf_X10_passesByRow_J106 this k15 hk15 l1 l2 l3 l5 l7 (nI 1) M)
def f_X10_passesByRow_J105 (k15 : Int32 → Int32 → Int32 → Int32 → Int32 → Int32 → Mem → Option (Int32 × Mem)) (this : Nat) (l1 : Int32) (l2 : Int32) (l3 : Int32) (l5 : Int32) (l7 : Int32) (M : Mem) : Option (Int32 × Mem) :=
  f_X10_passesByRow_J106 k15 this l1 l2 l3 l5 l7 (nI 0) M
set_option maxHeartbeats 2000000 in
set_option maxRecDepth 20000 in
theorem rf_X10_passesByRow_J105 (this : Nat) (k15 : Int32 → Int32 → Int32 → Int32 → Int32 → Int32 → Mem → Option (Int32 × Mem)) (hk15 : ∀ (l1 : Int32) (l2 : Int32) (l3 : Int32) (l5 : Int32) (l6 : Int32) (l7 : Int32) (M : Mem), RF yX10_passesByRow cX10_passesByRow 8 (some .int) 10 eI (k15 l1 l2 l3 l5 l6 l7 M) 15 [(0, va_rf (some this)), (1, .int l1), (2, .int l2), (3, .int l3), (5, .int l5), (6, .int l6), (7, .int l7)] [] M) (l1 : Int32) (l2 : Int32) (l3 : Int32) (l5 : Int32) (l7 : Int32) (M : Mem) : RF yX10_passesByRow cX10_passesByRow 8 (some .int) 10 eI (f_X10_passesByRow_J105 k15 this l1 l2 l3 l5 l7 M) 105 [(0, va_rf (some this)), (1, .int l1), (2, .int l2), (3, .int l3), (5, .int l5), (7, .int l7)] [] M := by
  rw [f_X10_passesByRow_J105]
  refine R_iconst (pc' := 106) (x := (nI 0)) dX10_passesByRow_105 rfl (by decide) ?_
  exact R_sub [0, 1, 2, 3, 4, 5] rfl (rf_X10_passesByRow_J106 this k15 hk15 l1 l2 l3 l5 l7 (nI 0) M)
def f_X10_passesByRow_L15 (this : Nat) : Nat → Int32 → Int32 → Int32 → Int32 → Int32 → Int32 → Mem → Option (Int32 × Mem)
  | 0, _, _, _, _, _, _, _ => none
  | n + 1, l1, l2, l3, l5, l6, l7, M =>
    (if l2 ≤ l7 then
      (f_X10_passesByRow_J124 this l1 l6 M)
    else
      ((if l6 = 0 then
        (f_X10_passesByRow_J124 this l1 l6 M)
      else
        ((gR M 10 1 (some this)).bind fun scalar1 =>
        (aI M 0 scalar1 (nI 2)).bind fun e2 =>
        if (e2 + (nI 1)) = 0 then none else
        nm (l5 / (e2 + (nI 1))) fun v3 =>
        if v3 = 0 then none else
        (gR M 10 1 (some this)).bind fun scalar4 =>
        (aI M 0 scalar4 (nI 2)).bind fun e5 =>
        if (e5 + (nI 1)) = 0 then none else
        (pI M 10 39 (some this) (((l3 / v3) - (l3 / v3) / (e5 + (nI 1)) * (e5 + (nI 1))) - (nI 1))).bind fun M =>
        (gR M 10 45 (some this)).bind fun tried6 =>
        (gI M 10 39 (some this)).bind fun rowJoke7 =>
        (wI M 0 tried6 l7 rowJoke7).bind fun M =>
        (gI M 10 39 (some this)).bind fun rowJoke8 =>
        (if rowJoke8 = (-1 : Int32) then
          (f_X10_passesByRow_J101 (f_X10_passesByRow_L15 this n) this l1 l2 l3 v3 l7 M)
        else
          ((oO M 10 (some this)).bind fun o14 => cl (f_X10_waits o14 l1 M) fun r9 M =>
          (if r9 = 0 then
            (f_X10_passesByRow_J105 (f_X10_passesByRow_L15 this n) this l1 l2 l3 v3 l7 M)
          else
            ((gR M 10 6 (some this)).bind fun knows10 =>
            (aI M 0 knows10 l1).bind fun e11 =>
            (gI M 10 39 (some this)).bind fun rowJoke12 =>
            cl (f_X10_has e11 rowJoke12 M) fun r13 M =>
            (if r13 = 0 then
              (f_X10_passesByRow_J105 (f_X10_passesByRow_L15 this n) this l1 l2 l3 v3 l7 M)
            else
              (f_X10_passesByRow_J101 (f_X10_passesByRow_L15 this n) this l1 l2 l3 v3 l7 M))))))))))
set_option maxHeartbeats 2000000 in
set_option maxRecDepth 20000 in
theorem rf_X10_passesByRow_L15 (this : Nat) : ∀ (n : Nat) (l1 : Int32) (l2 : Int32) (l3 : Int32) (l5 : Int32) (l6 : Int32) (l7 : Int32) (M : Mem), RF yX10_passesByRow cX10_passesByRow 8 (some .int) 10 eI (f_X10_passesByRow_L15 this n l1 l2 l3 l5 l6 l7 M) 15 [(0, va_rf (some this)), (1, .int l1), (2, .int l2), (3, .int l3), (5, .int l5), (6, .int l6), (7, .int l7)] [] M := by
  intro n
  induction n with
  | zero => intro _ _ _ _ _ _ _; exact RF.none
  | succ n ih =>
    intro l1 l2 l3 l5 l6 l7 M
    rw [f_X10_passesByRow_L15]
    refine R_iload (pc' := 17) (i := 7) (j := 6) (x := l7) dX10_passesByRow_15 rfl rfl ?_
    refine R_iload_n (pc' := 18) (i := 2) (j := 2) (x := l2) dX10_passesByRow_17 rfl rfl rfl ?_
    refine R_icmp_ge (pc' := 21) (tgt := 124) (a := l7) (b := l2) dX10_passesByRow_18 (by decide) rfl ?_ ?_
    · exact R_sub [0, 1, 5] rfl (rf_X10_passesByRow_J124 this l1 l6 M)
    · refine R_iload (pc' := 23) (i := 6) (j := 5) (x := l6) dX10_passesByRow_21 rfl rfl ?_
      refine R_if_eq (pc' := 26) (tgt := 124) (a := l6) dX10_passesByRow_23 (by decide) rfl ?_ ?_
      · exact R_sub [0, 1, 5] rfl (rf_X10_passesByRow_J124 this l1 l6 M)
      · refine R_iload (pc' := 28) (i := 5) (j := 4) (x := l5) dX10_passesByRow_26 rfl rfl ?_
        refine R_aloadq_n (pc' := 29) (i := 0) (j := 0) (q := (some this)) dX10_passesByRow_28 rfl rfl rfl ?_
        refine R_getR (pc' := 32) (q := (some this)) fl_X10_9 rfl dX10_passesByRow_29 rfl (fun scalar1 => ?_)
        refine R_iconst (pc' := 33) (x := (nI 2)) dX10_passesByRow_32 rfl (by decide) ?_
        refine R_iald (pc' := 34) (q := scalar1) (i := (nI 2)) dX10_passesByRow_33 rfl (fun e2 => ?_)
        refine R_iconst (pc' := 35) (x := (nI 1)) dX10_passesByRow_34 rfl (by decide) ?_
        refine R_iadd (pc' := 36) (a := e2) (b := (nI 1)) dX10_passesByRow_35 rfl ?_
        refine R_idiv (pc' := 37) (a := l5) (b := (e2 + (nI 1))) dX10_passesByRow_36 rfl ?_
        refine R_nmI (fun v3 => ?_)
        refine R_istore (pc' := 39) (L' := [(5, .int v3), (0, va_rf (some this)), (1, .int l1), (2, .int l2), (3, .int l3), (6, .int l6), (7, .int l7)]) (i := 5) (x := v3) dX10_passesByRow_37 rfl (by decide) rfl ?_
        refine R_aloadq_n (pc' := 40) (i := 0) (j := 1) (q := (some this)) dX10_passesByRow_39 rfl rfl rfl ?_
        refine R_iload_n (pc' := 41) (i := 3) (j := 4) (x := l3) dX10_passesByRow_40 rfl rfl rfl ?_
        refine R_iload (pc' := 43) (i := 5) (j := 0) (x := v3) dX10_passesByRow_41 rfl rfl ?_
        refine R_idiv (pc' := 44) (a := l3) (b := v3) dX10_passesByRow_43 rfl ?_
        refine R_aloadq_n (pc' := 45) (i := 0) (j := 1) (q := (some this)) dX10_passesByRow_44 rfl rfl rfl ?_
        refine R_getR (pc' := 48) (q := (some this)) fl_X10_9 rfl dX10_passesByRow_45 rfl (fun scalar4 => ?_)
        refine R_iconst (pc' := 49) (x := (nI 2)) dX10_passesByRow_48 rfl (by decide) ?_
        refine R_iald (pc' := 50) (q := scalar4) (i := (nI 2)) dX10_passesByRow_49 rfl (fun e5 => ?_)
        refine R_iconst (pc' := 51) (x := (nI 1)) dX10_passesByRow_50 rfl (by decide) ?_
        refine R_iadd (pc' := 52) (a := e5) (b := (nI 1)) dX10_passesByRow_51 rfl ?_
        refine R_irem (pc' := 53) (a := (l3 / v3)) (b := (e5 + (nI 1))) dX10_passesByRow_52 rfl ?_
        refine R_iconst (pc' := 54) (x := (nI 1)) dX10_passesByRow_53 rfl (by decide) ?_
        refine R_isub (pc' := 55) (a := ((l3 / v3) - (l3 / v3) / (e5 + (nI 1)) * (e5 + (nI 1)))) (b := (nI 1)) dX10_passesByRow_54 rfl ?_
        refine R_putI (pc' := 58) (q := (some this)) (x := (((l3 / v3) - (l3 / v3) / (e5 + (nI 1)) * (e5 + (nI 1))) - (nI 1))) fl_X10_378 (Or.inl rfl) dX10_passesByRow_55 rfl (fun M => ?_)
        refine R_aloadq_n (pc' := 59) (i := 0) (j := 1) (q := (some this)) dX10_passesByRow_58 rfl rfl rfl ?_
        refine R_getR (pc' := 62) (q := (some this)) fl_X10_106 rfl dX10_passesByRow_59 rfl (fun tried6 => ?_)
        refine R_iload (pc' := 64) (i := 7) (j := 6) (x := l7) dX10_passesByRow_62 rfl rfl ?_
        refine R_aloadq_n (pc' := 65) (i := 0) (j := 1) (q := (some this)) dX10_passesByRow_64 rfl rfl rfl ?_
        refine R_getI (pc' := 68) (q := (some this)) fl_X10_378 rfl dX10_passesByRow_65 rfl (fun rowJoke7 => ?_)
        refine R_iast (pc' := 69) (q := tried6) (i := l7) (x := rowJoke7) dX10_passesByRow_68 rfl (fun M => ?_)
        refine R_aloadq_n (pc' := 70) (i := 0) (j := 1) (q := (some this)) dX10_passesByRow_69 rfl rfl rfl ?_
        refine R_getI (pc' := 73) (q := (some this)) fl_X10_378 rfl dX10_passesByRow_70 rfl (fun rowJoke8 => ?_)
        refine R_iconst (pc' := 74) (x := (-1 : Int32)) dX10_passesByRow_73 rfl (by decide) ?_
        refine R_icmp_eq (pc' := 77) (tgt := 101) (a := rowJoke8) (b := (-1 : Int32)) dX10_passesByRow_74 (by decide) rfl ?_ ?_
        · exact R_sub [1, 2, 3, 4, 0, 6] rfl (rf_X10_passesByRow_J101 this (f_X10_passesByRow_L15 this n) ih l1 l2 l3 v3 l7 M)
        · refine R_aloadq_n (pc' := 78) (i := 0) (j := 1) (q := (some this)) dX10_passesByRow_77 rfl rfl rfl ?_
          refine R_iload_n (pc' := 79) (i := 1) (j := 2) (x := l1) dX10_passesByRow_78 rfl rfl rfl ?_
          refine R_callV_I (pc' := 82) (q := (some this)) (As := [.int l1]) (fun o14 => rm_X10_waits o14 l1 M) mf_X10_waits lk_X10_350 im_X10_waits se_X10_waits rfl rfl rfl dX10_passesByRow_79 rfl (by decide) (Nat.le_trans c_0 (by decide)) (fun r9 M => ?_)
          refine R_if_eq (pc' := 85) (tgt := 105) (a := r9) dX10_passesByRow_82 (by decide) rfl ?_ ?_
          · exact R_sub [1, 2, 3, 4, 0, 6] rfl (rf_X10_passesByRow_J105 this (f_X10_passesByRow_L15 this n) ih l1 l2 l3 v3 l7 M)
          · refine R_aloadq_n (pc' := 86) (i := 0) (j := 1) (q := (some this)) dX10_passesByRow_85 rfl rfl rfl ?_
            refine R_getR (pc' := 89) (q := (some this)) fl_X10_25 rfl dX10_passesByRow_86 rfl (fun knows10 => ?_)
            refine R_iload_n (pc' := 90) (i := 1) (j := 2) (x := l1) dX10_passesByRow_89 rfl rfl rfl ?_
            refine R_iald (pc' := 91) (q := knows10) (i := l1) dX10_passesByRow_90 rfl (fun e11 => ?_)
            refine R_aloadq_n (pc' := 92) (i := 0) (j := 1) (q := (some this)) dX10_passesByRow_91 rfl rfl rfl ?_
            refine R_getI (pc' := 95) (q := (some this)) fl_X10_378 rfl dX10_passesByRow_92 rfl (fun rowJoke12 => ?_)
            refine R_callS_I (pc' := 98) (As := [.int e11, .int rowJoke12]) (rm_X10_has e11 rowJoke12 M) mf_X10_has lk_X10_353 sm_X10_has rfl rfl dX10_passesByRow_95 rfl (by decide) (Nat.le_trans c_0 (by decide)) (fun r13 M => ?_)
            refine R_if_eq (pc' := 101) (tgt := 105) (a := r13) dX10_passesByRow_98 (by decide) rfl ?_ ?_
            · exact R_sub [1, 2, 3, 4, 0, 6] rfl (rf_X10_passesByRow_J105 this (f_X10_passesByRow_L15 this n) ih l1 l2 l3 v3 l7 M)
            · exact R_sub [1, 2, 3, 4, 0, 6] rfl (rf_X10_passesByRow_J101 this (f_X10_passesByRow_L15 this n) ih l1 l2 l3 v3 l7 M)
def f_X10_passesByRow (this : Nat) (l1 : Int32) (l2 : Int32) (l3 : Int32) (l4 : Int32) (M : Mem) : Option (Int32 × Mem) :=
  (pI M 10 38 (some this) l1).bind fun M =>
  f_X10_passesByRow_L15 this FU l1 l2 l3 l4 (nI 1) (nI 0) M
set_option maxHeartbeats 2000000 in
set_option maxRecDepth 20000 in
theorem rm_X10_passesByRow (this : Nat) (l1 : Int32) (l2 : Int32) (l3 : Int32) (l4 : Int32) (M : Mem) : RFm yX10_passesByRow cX10_passesByRow 8 (some .int) 10 eI (f_X10_passesByRow this l1 l2 l3 l4 M) [va_rf (some this), .int l1, .int l2, .int l3, .int l4] M := by
  refine RFm_of (L := [(0, va_rf (some this)), (1, .int l1), (2, .int l2), (3, .int l3), (4, .int l4)]) (by decide) rfl (Nat.le_trans (c_R (c_I (c_I (c_I (c_I c_0))))) (by decide)) ?_
  rw [f_X10_passesByRow]
  refine R_iload (pc' := 2) (i := 4) (j := 4) (x := l4) dX10_passesByRow_0 rfl rfl ?_
  refine R_istore (pc' := 4) (L' := [(5, .int l4), (0, va_rf (some this)), (1, .int l1), (2, .int l2), (3, .int l3), (4, .int l4)]) (i := 5) (x := l4) dX10_passesByRow_2 rfl (by decide) rfl ?_
  refine R_iconst (pc' := 5) (x := (nI 1)) dX10_passesByRow_4 rfl (by decide) ?_
  refine R_istore (pc' := 7) (L' := [(6, .int (nI 1)), (5, .int l4), (0, va_rf (some this)), (1, .int l1), (2, .int l2), (3, .int l3), (4, .int l4)]) (i := 6) (x := (nI 1)) dX10_passesByRow_5 rfl (by decide) rfl ?_
  refine R_aloadq_n (pc' := 8) (i := 0) (j := 2) (q := (some this)) dX10_passesByRow_7 rfl rfl rfl ?_
  refine R_iload_n (pc' := 9) (i := 1) (j := 3) (x := l1) dX10_passesByRow_8 rfl rfl rfl ?_
  refine R_putI (pc' := 12) (q := (some this)) (x := l1) fl_X10_97 (Or.inl rfl) dX10_passesByRow_9 rfl (fun M => ?_)
  refine R_iconst (pc' := 13) (x := (nI 0)) dX10_passesByRow_12 rfl (by decide) ?_
  refine R_istore (pc' := 15) (L' := [(7, .int (nI 0)), (6, .int (nI 1)), (5, .int l4), (0, va_rf (some this)), (1, .int l1), (2, .int l2), (3, .int l3), (4, .int l4)]) (i := 7) (x := (nI 0)) dX10_passesByRow_13 rfl (by decide) rfl ?_
  exact R_sub [3, 4, 5, 6, 2, 1, 0] rfl (rf_X10_passesByRow_L15 this FU l1 l2 l3 l4 (nI 1) (nI 0) M)
/-! BarPilotModel.row(III)I -/
def f_X10_row_J32 (this : Nat) (M : Mem) : Option (Int32 × Mem) :=
  some ((-3 : Int32), M)
set_option maxHeartbeats 2000000 in
set_option maxRecDepth 20000 in
theorem rf_X10_row_J32 (this : Nat) (M : Mem) : RF yX10_row cX10_row 8 (some .int) 11 eI (f_X10_row_J32 this M) 32 [] [] M := by
  rw [f_X10_row_J32]
  refine R_bipush (pc' := 34) (x := (-3 : Int32)) dX10_row_32 rfl (by decide) ?_
  exact R_iret dX10_row_34
def f_X10_row_J163 (this : Nat) (s0 : Int32) (M : Mem) : Option (Int32 × Mem) :=
  some (s0, M)
set_option maxHeartbeats 2000000 in
set_option maxRecDepth 20000 in
theorem rf_X10_row_J163 (this : Nat) (s0 : Int32) (M : Mem) : RF yX10_row cX10_row 8 (some .int) 11 eI (f_X10_row_J163 this s0 M) 163 [] [.int s0] M := by
  rw [f_X10_row_J163]
  exact R_iret dX10_row_163
def f_X10_row_J119 (k78 : Int32 → Int32 → Int32 → Int32 → Int32 → Int32 → Mem → Option (Int32 × Mem)) (this : Nat) (l1 : Int32) (l2 : Int32) (l3 : Int32) (l4 : Int32) (l5 : Int32) (l6 : Int32) (M : Mem) : Option (Int32 × Mem) :=
  k78 l1 l2 l3 l4 l5 (l6 + (nI 1)) M
set_option maxHeartbeats 2000000 in
set_option maxRecDepth 20000 in
theorem rf_X10_row_J119 (this : Nat) (k78 : Int32 → Int32 → Int32 → Int32 → Int32 → Int32 → Mem → Option (Int32 × Mem)) (hk78 : ∀ (l1 : Int32) (l2 : Int32) (l3 : Int32) (l4 : Int32) (l5 : Int32) (l6 : Int32) (M : Mem), RF yX10_row cX10_row 8 (some .int) 11 eI (k78 l1 l2 l3 l4 l5 l6 M) 78 [(0, va_rf (some this)), (1, .int l1), (2, .int l2), (3, .int l3), (4, .int l4), (5, .int l5), (6, .int l6)] [] M) (l1 : Int32) (l2 : Int32) (l3 : Int32) (l4 : Int32) (l5 : Int32) (l6 : Int32) (M : Mem) : RF yX10_row cX10_row 8 (some .int) 11 eI (f_X10_row_J119 k78 this l1 l2 l3 l4 l5 l6 M) 119 [(0, va_rf (some this)), (1, .int l1), (2, .int l2), (3, .int l3), (4, .int l4), (5, .int l5), (6, .int l6)] [] M := by
  rw [f_X10_row_J119]
  refine R_iinc (pc' := 122) (L' := [(6, .int (l6 + (nI 1))), (0, va_rf (some this)), (1, .int l1), (2, .int l2), (3, .int l3), (4, .int l4), (5, .int l5)]) (i := 6) (j := 6) (x := l6) (x2 := (l6 + (nI 1))) dX10_row_119 rfl rfl rfl (by decide) rfl ?_
  refine R_goto (tgt := 78) dX10_row_122 (by decide) ?_
  exact R_sub [1, 2, 3, 4, 5, 6, 0] rfl (hk78 l1 l2 l3 l4 l5 (l6 + (nI 1)) M)
def f_X10_row_L78 (this : Nat) : Nat → Int32 → Int32 → Int32 → Int32 → Int32 → Int32 → Mem → Option (Int32 × Mem)
  | 0, _, _, _, _, _, _, _ => none
  | n + 1, l1, l2, l3, l4, l5, l6, M =>
    (if l4 ≤ l6 then
      ((if l5 = (nI 100000) then
        (some ((-2 : Int32), M))
      else
        ((if l3 = 0 then
          (f_X10_row_J163 this l5 M)
        else
          ((if l2 < l3 then
            (f_X10_row_J163 this (-2 : Int32) M)
          else
            ((gR M 10 46 (some this)).bind fun bestRow1 =>
            (aI M 0 bestRow1 (l3 - (nI 1))).bind fun e2 =>
            f_X10_row_J163 this e2 M)))))))
    else
      ((oO M 10 (some this)).bind fun o7 => cl (f_X10_passesByRow o7 l1 l2 l6 l4 M) fun r3 M =>
      (if l5 ≤ r3 then
        (f_X10_row_J119 (f_X10_row_L78 this n) this l1 l2 l3 l4 l5 l6 M)
      else
        ((gR M 10 45 (some this)).bind fun tried4 =>
        (gR M 10 46 (some this)).bind fun bestRow5 =>
        cl (f_X10_copies tried4 bestRow5 M) fun u6 M =>
        f_X10_row_J119 (f_X10_row_L78 this n) this l1 l2 l3 l4 r3 l6 M))))
set_option maxHeartbeats 2000000 in
set_option maxRecDepth 20000 in
theorem rf_X10_row_L78 (this : Nat) : ∀ (n : Nat) (l1 : Int32) (l2 : Int32) (l3 : Int32) (l4 : Int32) (l5 : Int32) (l6 : Int32) (M : Mem), RF yX10_row cX10_row 8 (some .int) 11 eI (f_X10_row_L78 this n l1 l2 l3 l4 l5 l6 M) 78 [(0, va_rf (some this)), (1, .int l1), (2, .int l2), (3, .int l3), (4, .int l4), (5, .int l5), (6, .int l6)] [] M := by
  intro n
  induction n with
  | zero => intro _ _ _ _ _ _ _; exact RF.none
  | succ n ih =>
    intro l1 l2 l3 l4 l5 l6 M
    rw [f_X10_row_L78]
    refine R_iload (pc' := 80) (i := 6) (j := 6) (x := l6) dX10_row_78 rfl rfl ?_
    refine R_iload (pc' := 82) (i := 4) (j := 4) (x := l4) dX10_row_80 rfl rfl ?_
    refine R_icmp_ge (pc' := 85) (tgt := 125) (a := l6) (b := l4) dX10_row_82 (by decide) rfl ?_ ?_
    · refine R_iload (pc' := 127) (i := 5) (j := 5) (x := l5) dX10_row_125 rfl rfl ?_
      refine R_ldcw (pc' := 130) (x := (nI 100000)) dX10_row_127 rfl co_X10_437 ?_
      refine R_icmp_ne (pc' := 133) (tgt := 136) (a := l5) (b := (nI 100000)) dX10_row_130 (by decide) rfl ?_ ?_
      · refine R_iload_n (pc' := 137) (i := 3) (j := 3) (x := l3) dX10_row_136 rfl rfl rfl ?_
        refine R_if_ne (pc' := 140) (tgt := 145) (a := l3) dX10_row_137 (by decide) rfl ?_ ?_
        · refine R_iload_n (pc' := 146) (i := 3) (j := 3) (x := l3) dX10_row_145 rfl rfl rfl ?_
          refine R_iload_n (pc' := 147) (i := 2) (j := 2) (x := l2) dX10_row_146 rfl rfl rfl ?_
          refine R_icmp_gt (pc' := 150) (tgt := 161) (a := l3) (b := l2) dX10_row_147 (by decide) rfl ?_ ?_
          · refine R_bipush (pc' := 163) (x := (-2 : Int32)) dX10_row_161 rfl (by decide) ?_
            exact R_sub [] rfl (rf_X10_row_J163 this (-2 : Int32) M)
          · refine R_aloadq_n (pc' := 151) (i := 0) (j := 0) (q := (some this)) dX10_row_150 rfl rfl rfl ?_
            refine R_getR (pc' := 154) (q := (some this)) fl_X10_109 rfl dX10_row_151 rfl (fun bestRow1 => ?_)
            refine R_iload_n (pc' := 155) (i := 3) (j := 3) (x := l3) dX10_row_154 rfl rfl rfl ?_
            refine R_iconst (pc' := 156) (x := (nI 1)) dX10_row_155 rfl (by decide) ?_
            refine R_isub (pc' := 157) (a := l3) (b := (nI 1)) dX10_row_156 rfl ?_
            refine R_iald (pc' := 158) (q := bestRow1) (i := (l3 - (nI 1))) dX10_row_157 rfl (fun e2 => ?_)
            refine R_goto (tgt := 163) dX10_row_158 (by decide) ?_
            exact R_sub [] rfl (rf_X10_row_J163 this e2 M)
        · refine R_iload (pc' := 142) (i := 5) (j := 5) (x := l5) dX10_row_140 rfl rfl ?_
          refine R_goto (tgt := 163) dX10_row_142 (by decide) ?_
          exact R_sub [] rfl (rf_X10_row_J163 this l5 M)
      · refine R_bipush (pc' := 135) (x := (-2 : Int32)) dX10_row_133 rfl (by decide) ?_
        exact R_iret dX10_row_135
    · refine R_aloadq_n (pc' := 86) (i := 0) (j := 0) (q := (some this)) dX10_row_85 rfl rfl rfl ?_
      refine R_iload_n (pc' := 87) (i := 1) (j := 1) (x := l1) dX10_row_86 rfl rfl rfl ?_
      refine R_iload_n (pc' := 88) (i := 2) (j := 2) (x := l2) dX10_row_87 rfl rfl rfl ?_
      refine R_iload (pc' := 90) (i := 6) (j := 6) (x := l6) dX10_row_88 rfl rfl ?_
      refine R_iload (pc' := 92) (i := 4) (j := 4) (x := l4) dX10_row_90 rfl rfl ?_
      refine R_callV_I (pc' := 95) (q := (some this)) (As := [.int l1, .int l2, .int l6, .int l4]) (fun o7 => rm_X10_passesByRow o7 l1 l2 l6 l4 M) mf_X10_passesByRow lk_X10_440 im_X10_passesByRow se_X10_passesByRow rfl rfl rfl dX10_row_92 rfl (by decide) (Nat.le_trans c_0 (by decide)) (fun r3 M => ?_)
      refine R_istore (pc' := 97) (L' := [(7, .int r3), (0, va_rf (some this)), (1, .int l1), (2, .int l2), (3, .int l3), (4, .int l4), (5, .int l5), (6, .int l6)]) (i := 7) (x := r3) dX10_row_95 rfl (by decide) rfl ?_
      refine R_iload (pc' := 99) (i := 7) (j := 0) (x := r3) dX10_row_97 rfl rfl ?_
      refine R_iload (pc' := 101) (i := 5) (j := 6) (x := l5) dX10_row_99 rfl rfl ?_
      refine R_icmp_ge (pc' := 104) (tgt := 119) (a := r3) (b := l5) dX10_row_101 (by decide) rfl ?_ ?_
      · exact R_sub [1, 2, 3, 4, 5, 6, 7] rfl (rf_X10_row_J119 this (f_X10_row_L78 this n) ih l1 l2 l3 l4 l5 l6 M)
      · refine R_iload (pc' := 106) (i := 7) (j := 0) (x := r3) dX10_row_104 rfl rfl ?_
        refine R_istore (pc' := 108) (L' := [(5, .int r3), (7, .int r3), (0, va_rf (some this)), (1, .int l1), (2, .int l2), (3, .int l3), (4, .int l4), (6, .int l6)]) (i := 5) (x := r3) dX10_row_106 rfl (by decide) rfl ?_
        refine R_aloadq_n (pc' := 109) (i := 0) (j := 2) (q := (some this)) dX10_row_108 rfl rfl rfl ?_
        refine R_getR (pc' := 112) (q := (some this)) fl_X10_106 rfl dX10_row_109 rfl (fun tried4 => ?_)
        refine R_aloadq_n (pc' := 113) (i := 0) (j := 2) (q := (some this)) dX10_row_112 rfl rfl rfl ?_
        refine R_getR (pc' := 116) (q := (some this)) fl_X10_109 rfl dX10_row_113 rfl (fun bestRow5 => ?_)
        refine R_callS_V (pc' := 119) (As := [va_rf tried4, va_rf bestRow5]) (rm_X10_copies tried4 bestRow5 M) mf_X10_copies lk_X10_289 sm_X10_copies rfl rfl dX10_row_116 rfl (by decide) (Nat.le_trans c_0 (by decide)) (fun u6 M => ?_)
        exact R_sub [2, 3, 4, 5, 6, 0, 7] rfl (rf_X10_row_J119 this (f_X10_row_L78 this n) ih l1 l2 l3 l4 r3 l6 M)
def f_X10_row_L41 (this : Nat) : Nat → Int32 → Int32 → Int32 → Int32 → Int32 → Mem → Option (Int32 × Mem)
  | 0, _, _, _, _, _, _ => none
  | n + 1, l1, l2, l3, l4, l5, M =>
    (if l2 ≤ l5 then
      ((oO M 10 (some this)).bind fun o2 => cl (f_X10_keepsAll o2 M) fun u1 M =>
      f_X10_row_L78 this FU l1 l2 l3 l4 (nI 100000) (nI 0) M)
    else
      ((gR M 10 1 (some this)).bind fun scalar3 =>
      (aI M 0 scalar3 (nI 2)).bind fun e4 =>
      nm (l4 * (e4 + (nI 1))) fun v5 =>
      (f_X10_row_L41 this n) l1 l2 l3 v5 (l5 + (nI 1)) M))
set_option maxHeartbeats 2000000 in
set_option maxRecDepth 20000 in
theorem rf_X10_row_L41 (this : Nat) : ∀ (n : Nat) (l1 : Int32) (l2 : Int32) (l3 : Int32) (l4 : Int32) (l5 : Int32) (M : Mem), RF yX10_row cX10_row 8 (some .int) 11 eI (f_X10_row_L41 this n l1 l2 l3 l4 l5 M) 41 [(0, va_rf (some this)), (1, .int l1), (2, .int l2), (3, .int l3), (4, .int l4), (5, .int l5)] [] M := by
  intro n
  induction n with
  | zero => intro _ _ _ _ _ _; exact RF.none
  | succ n ih =>
    intro l1 l2 l3 l4 l5 M
    rw [f_X10_row_L41]
    refine R_iload (pc' := 43) (i := 5) (j := 5) (x := l5) dX10_row_41 rfl rfl ?_
    refine R_iload_n (pc' := 44) (i := 2) (j := 2) (x := l2) dX10_row_43 rfl rfl rfl ?_
    refine R_icmp_ge (pc' := 47) (tgt := 66) (a := l5) (b := l2) dX10_row_44 (by decide) rfl ?_ ?_
    · refine R_ldcw (pc' := 69) (x := (nI 100000)) dX10_row_66 rfl co_X10_437 ?_
      refine R_istore (pc' := 71) (L' := [(5, .int (nI 100000)), (0, va_rf (some this)), (1, .int l1), (2, .int l2), (3, .int l3), (4, .int l4)]) (i := 5) (x := (nI 100000)) dX10_row_69 rfl (by decide) rfl ?_
      refine R_aloadq_n (pc' := 72) (i := 0) (j := 1) (q := (some this)) dX10_row_71 rfl rfl rfl ?_
      refine R_callV_V (pc' := 75) (q := (some this)) (As := []) (fun o2 => rm_X10_keepsAll o2 M) mf_X10_keepsAll lk_X10_430 im_X10_keepsAll se_X10_keepsAll rfl rfl rfl dX10_row_72 rfl (by decide) (Nat.le_trans c_0 (by decide)) (fun u1 M => ?_)
      refine R_iconst (pc' := 76) (x := (nI 0)) dX10_row_75 rfl (by decide) ?_
      refine R_istore (pc' := 78) (L' := [(6, .int (nI 0)), (5, .int (nI 100000)), (0, va_rf (some this)), (1, .int l1), (2, .int l2), (3, .int l3), (4, .int l4)]) (i := 6) (x := (nI 0)) dX10_row_76 rfl (by decide) rfl ?_
      exact R_sub [2, 3, 4, 5, 6, 1, 0] rfl (rf_X10_row_L78 this FU l1 l2 l3 l4 (nI 100000) (nI 0) M)
    · refine R_iload (pc' := 49) (i := 4) (j := 4) (x := l4) dX10_row_47 rfl rfl ?_
      refine R_aloadq_n (pc' := 50) (i := 0) (j := 0) (q := (some this)) dX10_row_49 rfl rfl rfl ?_
      refine R_getR (pc' := 53) (q := (some this)) fl_X10_9 rfl dX10_row_50 rfl (fun scalar3 => ?_)
      refine R_iconst (pc' := 54) (x := (nI 2)) dX10_row_53 rfl (by decide) ?_
      refine R_iald (pc' := 55) (q := scalar3) (i := (nI 2)) dX10_row_54 rfl (fun e4 => ?_)
      refine R_iconst (pc' := 56) (x := (nI 1)) dX10_row_55 rfl (by decide) ?_
      refine R_iadd (pc' := 57) (a := e4) (b := (nI 1)) dX10_row_56 rfl ?_
      refine R_imul (pc' := 58) (a := l4) (b := (e4 + (nI 1))) dX10_row_57 rfl ?_
      refine R_nmI (fun v5 => ?_)
      refine R_istore (pc' := 60) (L' := [(4, .int v5), (0, va_rf (some this)), (1, .int l1), (2, .int l2), (3, .int l3), (5, .int l5)]) (i := 4) (x := v5) dX10_row_58 rfl (by decide) rfl ?_
      refine R_iinc (pc' := 63) (L' := [(5, .int (l5 + (nI 1))), (4, .int v5), (0, va_rf (some this)), (1, .int l1), (2, .int l2), (3, .int l3)]) (i := 5) (j := 5) (x := l5) (x2 := (l5 + (nI 1))) dX10_row_60 rfl rfl rfl (by decide) rfl ?_
      refine R_goto (tgt := 41) dX10_row_63 (by decide) ?_
      exact R_sub [2, 3, 4, 5, 1, 0] rfl (ih l1 l2 l3 v5 (l5 + (nI 1)) M)
def f_X10_row (this : Nat) (l1 : Int32) (l2 : Int32) (l3 : Int32) (M : Mem) : Option (Int32 × Mem) :=
  (oO M 10 (some this)).bind fun o4 => cl (f_X10_waits o4 l1 M) fun r1 M =>
  (if r1 = 0 then
    (f_X10_row_J32 this M)
  else
    (cl (f_X10_in (Int32.toInt64 l2) (1 : Int64) (4 : Int64) M) fun r2 M =>
    (if r2 = 0 then
      (f_X10_row_J32 this M)
    else
      (cl (f_X10_in (Int32.toInt64 l3) (0 : Int64) (4 : Int64) M) fun r3 M =>
      (if r3 = 0 then
        (f_X10_row_J32 this M)
      else
        (f_X10_row_L41 this FU l1 l2 l3 (nI 1) (nI 0) M))))))
set_option maxHeartbeats 2000000 in
set_option maxRecDepth 20000 in
theorem rm_X10_row (this : Nat) (l1 : Int32) (l2 : Int32) (l3 : Int32) (M : Mem) : RFm yX10_row cX10_row 8 (some .int) 11 eI (f_X10_row this l1 l2 l3 M) [va_rf (some this), .int l1, .int l2, .int l3] M := by
  refine RFm_of (L := [(0, va_rf (some this)), (1, .int l1), (2, .int l2), (3, .int l3)]) (by decide) rfl (Nat.le_trans (c_R (c_I (c_I (c_I c_0)))) (by decide)) ?_
  rw [f_X10_row]
  refine R_aloadq_n (pc' := 1) (i := 0) (j := 0) (q := (some this)) dX10_row_0 rfl rfl rfl ?_
  refine R_iload_n (pc' := 2) (i := 1) (j := 1) (x := l1) dX10_row_1 rfl rfl rfl ?_
  refine R_callV_I (pc' := 5) (q := (some this)) (As := [.int l1]) (fun o4 => rm_X10_waits o4 l1 M) mf_X10_waits lk_X10_350 im_X10_waits se_X10_waits rfl rfl rfl dX10_row_2 rfl (by decide) (Nat.le_trans c_0 (by decide)) (fun r1 M => ?_)
  refine R_if_eq (pc' := 8) (tgt := 32) (a := r1) dX10_row_5 (by decide) rfl ?_ ?_
  · exact R_sub [] rfl (rf_X10_row_J32 this M)
  · refine R_iload_n (pc' := 9) (i := 2) (j := 2) (x := l2) dX10_row_8 rfl rfl rfl ?_
    refine R_i2l (pc' := 10) (a := l2) dX10_row_9 rfl ?_
    refine R_lconst (pc' := 11) (x := (1 : Int64)) dX10_row_10 rfl (by decide) ?_
    refine R_ldc2 (pc' := 14) (x := (4 : Int64)) dX10_row_11 rfl c2_X10_438 ?_
    refine R_callS_I (pc' := 17) (As := [.long (Int32.toInt64 l2), .long (1 : Int64), .long (4 : Int64)]) (rm_X10_in (Int32.toInt64 l2) (1 : Int64) (4 : Int64) M) mf_X10_in lk_X10_131 sm_X10_in rfl rfl dX10_row_14 rfl (by decide) (Nat.le_trans c_0 (by decide)) (fun r2 M => ?_)
    refine R_if_eq (pc' := 20) (tgt := 32) (a := r2) dX10_row_17 (by decide) rfl ?_ ?_
    · exact R_sub [] rfl (rf_X10_row_J32 this M)
    · refine R_iload_n (pc' := 21) (i := 3) (j := 3) (x := l3) dX10_row_20 rfl rfl rfl ?_
      refine R_i2l (pc' := 22) (a := l3) dX10_row_21 rfl ?_
      refine R_lconst (pc' := 23) (x := (0 : Int64)) dX10_row_22 rfl (by decide) ?_
      refine R_ldc2 (pc' := 26) (x := (4 : Int64)) dX10_row_23 rfl c2_X10_438 ?_
      refine R_callS_I (pc' := 29) (As := [.long (Int32.toInt64 l3), .long (0 : Int64), .long (4 : Int64)]) (rm_X10_in (Int32.toInt64 l3) (0 : Int64) (4 : Int64) M) mf_X10_in lk_X10_131 sm_X10_in rfl rfl dX10_row_26 rfl (by decide) (Nat.le_trans c_0 (by decide)) (fun r3 M => ?_)
      refine R_if_ne (pc' := 32) (tgt := 35) (a := r3) dX10_row_29 (by decide) rfl ?_ ?_
      · refine R_iconst (pc' := 36) (x := (nI 1)) dX10_row_35 rfl (by decide) ?_
        refine R_istore (pc' := 38) (L' := [(4, .int (nI 1)), (0, va_rf (some this)), (1, .int l1), (2, .int l2), (3, .int l3)]) (i := 4) (x := (nI 1)) dX10_row_36 rfl (by decide) rfl ?_
        refine R_iconst (pc' := 39) (x := (nI 0)) dX10_row_38 rfl (by decide) ?_
        refine R_istore (pc' := 41) (L' := [(5, .int (nI 0)), (4, .int (nI 1)), (0, va_rf (some this)), (1, .int l1), (2, .int l2), (3, .int l3)]) (i := 5) (x := (nI 0)) dX10_row_39 rfl (by decide) rfl ?_
        exact R_sub [2, 3, 4, 5, 1, 0] rfl (rf_X10_row_L41 this FU l1 l2 l3 (nI 1) (nI 0) M)
      · exact R_sub [] rfl (rf_X10_row_J32 this M)
/-! BarPilotModel.forget(II)I -/
def f_X10_forget_J29 (this : Nat) (M : Mem) : Option (Int32 × Mem) :=
  some ((-2 : Int32), M)
set_option maxHeartbeats 2000000 in
set_option maxRecDepth 20000 in
theorem rf_X10_forget_J29 (this : Nat) (M : Mem) : RF yX10_forget cX10_forget 7 (some .int) 12 eI (f_X10_forget_J29 this M) 29 [] [] M := by
  rw [f_X10_forget_J29]
  refine R_bipush (pc' := 31) (x := (-2 : Int32)) dX10_forget_29 rfl (by decide) ?_
  exact R_iret dX10_forget_31
def f_X10_forget_J115 (this : Nat) (s0 : Int32) (M : Mem) : Option (Int32 × Mem) :=
  some (s0, M)
set_option maxHeartbeats 2000000 in
set_option maxRecDepth 20000 in
theorem rf_X10_forget_J115 (this : Nat) (s0 : Int32) (M : Mem) : RF yX10_forget cX10_forget 7 (some .int) 12 eI (f_X10_forget_J115 this s0 M) 115 [] [.int s0] M := by
  rw [f_X10_forget_J115]
  exact R_iret dX10_forget_115
def f_X10_forget_J99 (k48 : Int32 → Int32 → Int32 → Int32 → Int32 → Mem → Option (Int32 × Mem)) (this : Nat) (l1 : Int32) (l2 : Int32) (l3 : Int32) (l4 : Int32) (l5 : Int32) (M : Mem) : Option (Int32 × Mem) :=
  k48 l1 l2 l3 l4 (l5 + (nI 1)) M
set_option maxHeartbeats 2000000 in
set_option maxRecDepth 20000 in
theorem rf_X10_forget_J99 (this : Nat) (k48 : Int32 → Int32 → Int32 → Int32 → Int32 → Mem → Option (Int32 × Mem)) (hk48 : ∀ (l1 : Int32) (l2 : Int32) (l3 : Int32) (l4 : Int32) (l5 : Int32) (M : Mem), RF yX10_forget cX10_forget 7 (some .int) 12 eI (k48 l1 l2 l3 l4 l5 M) 48 [(0, va_rf (some this)), (1, .int l1), (2, .int l2), (3, .int l3), (4, .int l4), (5, .int l5)] [] M) (l1 : Int32) (l2 : Int32) (l3 : Int32) (l4 : Int32) (l5 : Int32) (M : Mem) : RF yX10_forget cX10_forget 7 (some .int) 12 eI (f_X10_forget_J99 k48 this l1 l2 l3 l4 l5 M) 99 [(0, va_rf (some this)), (1, .int l1), (2, .int l2), (3, .int l3), (4, .int l4), (5, .int l5)] [] M := by
  rw [f_X10_forget_J99]
  refine R_iinc (pc' := 102) (L' := [(5, .int (l5 + (nI 1))), (0, va_rf (some this)), (1, .int l1), (2, .int l2), (3, .int l3), (4, .int l4)]) (i := 5) (j := 5) (x := l5) (x2 := (l5 + (nI 1))) dX10_forget_99 rfl rfl rfl (by decide) rfl ?_
  refine R_goto (tgt := 48) dX10_forget_102 (by decide) ?_
  exact R_sub [1, 2, 3, 4, 5, 0] rfl (hk48 l1 l2 l3 l4 (l5 + (nI 1)) M)
def f_X10_forget_L48 (this : Nat) : Nat → Int32 → Int32 → Int32 → Int32 → Int32 → Mem → Option (Int32 × Mem)
  | 0, _, _, _, _, _, _ => none
  | n + 1, l1, l2, l3, l4, l5, M =>
    (gR M 10 1 (some this)).bind fun scalar1 =>
    (aI M 0 scalar1 (nI 2)).bind fun e2 =>
    (if e2 ≤ l5 then
      ((if l2 = 0 then
        (f_X10_forget_J115 this l3 M)
      else
        (f_X10_forget_J115 this l4 M)))
    else
      ((oO M 10 (some this)).bind fun o7 => cl (f_X10_remembers o7 l5 M) fun r3 M =>
      (if r3 = 0 then
        (f_X10_forget_J99 (f_X10_forget_L48 this n) this l1 l2 l3 l4 l5 M)
      else
        ((gR M 10 5 (some this)).bind fun heard4 =>
        (wI M 0 heard4 l5 (-1000 : Int32)).bind fun M =>
        (oO M 10 (some this)).bind fun o6 => cl (f_X10_earnedIn o6 l1 M) fun r5 M =>
        (if r5 ≤ l4 then
          (f_X10_forget_J99 (f_X10_forget_L48 this n) this l1 l2 l3 l4 l5 M)
        else
          (f_X10_forget_J99 (f_X10_forget_L48 this n) this l1 l2 l5 r5 l5 M))))))
set_option maxHeartbeats 2000000 in
set_option maxRecDepth 20000 in
theorem rf_X10_forget_L48 (this : Nat) : ∀ (n : Nat) (l1 : Int32) (l2 : Int32) (l3 : Int32) (l4 : Int32) (l5 : Int32) (M : Mem), RF yX10_forget cX10_forget 7 (some .int) 12 eI (f_X10_forget_L48 this n l1 l2 l3 l4 l5 M) 48 [(0, va_rf (some this)), (1, .int l1), (2, .int l2), (3, .int l3), (4, .int l4), (5, .int l5)] [] M := by
  intro n
  induction n with
  | zero => intro _ _ _ _ _ _; exact RF.none
  | succ n ih =>
    intro l1 l2 l3 l4 l5 M
    rw [f_X10_forget_L48]
    refine R_iload (pc' := 50) (i := 5) (j := 5) (x := l5) dX10_forget_48 rfl rfl ?_
    refine R_aloadq_n (pc' := 51) (i := 0) (j := 0) (q := (some this)) dX10_forget_50 rfl rfl rfl ?_
    refine R_getR (pc' := 54) (q := (some this)) fl_X10_9 rfl dX10_forget_51 rfl (fun scalar1 => ?_)
    refine R_iconst (pc' := 55) (x := (nI 2)) dX10_forget_54 rfl (by decide) ?_
    refine R_iald (pc' := 56) (q := scalar1) (i := (nI 2)) dX10_forget_55 rfl (fun e2 => ?_)
    refine R_icmp_ge (pc' := 59) (tgt := 105) (a := l5) (b := e2) dX10_forget_56 (by decide) rfl ?_ ?_
    · refine R_iload_n (pc' := 106) (i := 2) (j := 2) (x := l2) dX10_forget_105 rfl rfl rfl ?_
      refine R_if_ne (pc' := 109) (tgt := 113) (a := l2) dX10_forget_106 (by decide) rfl ?_ ?_
      · refine R_iload (pc' := 115) (i := 4) (j := 4) (x := l4) dX10_forget_113 rfl rfl ?_
        exact R_sub [] rfl (rf_X10_forget_J115 this l4 M)
      · refine R_iload_n (pc' := 110) (i := 3) (j := 3) (x := l3) dX10_forget_109 rfl rfl rfl ?_
        refine R_goto (tgt := 115) dX10_forget_110 (by decide) ?_
        exact R_sub [] rfl (rf_X10_forget_J115 this l3 M)
    · refine R_aloadq_n (pc' := 60) (i := 0) (j := 0) (q := (some this)) dX10_forget_59 rfl rfl rfl ?_
      refine R_iload (pc' := 62) (i := 5) (j := 5) (x := l5) dX10_forget_60 rfl rfl ?_
      refine R_callV_I (pc' := 65) (q := (some this)) (As := [.int l5]) (fun o7 => rm_X10_remembers o7 l5 M) mf_X10_remembers lk_X10_332 im_X10_remembers se_X10_remembers rfl rfl rfl dX10_forget_62 rfl (by decide) (Nat.le_trans c_0 (by decide)) (fun r3 M => ?_)
      refine R_if_eq (pc' := 68) (tgt := 99) (a := r3) dX10_forget_65 (by decide) rfl ?_ ?_
      · exact R_sub [0, 1, 2, 3, 4, 5] rfl (rf_X10_forget_J99 this (f_X10_forget_L48 this n) ih l1 l2 l3 l4 l5 M)
      · refine R_aloadq_n (pc' := 69) (i := 0) (j := 0) (q := (some this)) dX10_forget_68 rfl rfl rfl ?_
        refine R_getR (pc' := 72) (q := (some this)) fl_X10_22 rfl dX10_forget_69 rfl (fun heard4 => ?_)
        refine R_iload (pc' := 74) (i := 5) (j := 5) (x := l5) dX10_forget_72 rfl rfl ?_
        refine R_sipush (pc' := 77) (x := (-1000 : Int32)) dX10_forget_74 rfl (by decide) ?_
        refine R_iast (pc' := 78) (q := heard4) (i := l5) (x := (-1000 : Int32)) dX10_forget_77 rfl (fun M => ?_)
        refine R_aloadq_n (pc' := 79) (i := 0) (j := 0) (q := (some this)) dX10_forget_78 rfl rfl rfl ?_
        refine R_iload_n (pc' := 80) (i := 1) (j := 1) (x := l1) dX10_forget_79 rfl rfl rfl ?_
        refine R_callV_I (pc' := 83) (q := (some this)) (As := [.int l1]) (fun o6 => rm_X10_earnedIn o6 l1 M) mf_X10_earnedIn lk_X10_446 im_X10_earnedIn se_X10_earnedIn rfl rfl rfl dX10_forget_80 rfl (by decide) (Nat.le_trans c_0 (by decide)) (fun r5 M => ?_)
        refine R_istore (pc' := 85) (L' := [(6, .int r5), (0, va_rf (some this)), (1, .int l1), (2, .int l2), (3, .int l3), (4, .int l4), (5, .int l5)]) (i := 6) (x := r5) dX10_forget_83 rfl (by decide) rfl ?_
        refine R_iload (pc' := 87) (i := 6) (j := 0) (x := r5) dX10_forget_85 rfl rfl ?_
        refine R_iload (pc' := 89) (i := 4) (j := 5) (x := l4) dX10_forget_87 rfl rfl ?_
        refine R_icmp_le (pc' := 92) (tgt := 99) (a := r5) (b := l4) dX10_forget_89 (by decide) rfl ?_ ?_
        · exact R_sub [1, 2, 3, 4, 5, 6] rfl (rf_X10_forget_J99 this (f_X10_forget_L48 this n) ih l1 l2 l3 l4 l5 M)
        · refine R_iload (pc' := 94) (i := 5) (j := 6) (x := l5) dX10_forget_92 rfl rfl ?_
          refine R_istore_n (pc' := 95) (L' := [(3, .int l5), (6, .int r5), (0, va_rf (some this)), (1, .int l1), (2, .int l2), (4, .int l4), (5, .int l5)]) (i := 3) (x := l5) dX10_forget_94 rfl rfl (by decide) rfl ?_
          refine R_iload (pc' := 97) (i := 6) (j := 1) (x := r5) dX10_forget_95 rfl rfl ?_
          refine R_istore (pc' := 99) (L' := [(4, .int r5), (3, .int l5), (6, .int r5), (0, va_rf (some this)), (1, .int l1), (2, .int l2), (5, .int l5)]) (i := 4) (x := r5) dX10_forget_97 rfl (by decide) rfl ?_
          exact R_sub [3, 4, 5, 1, 0, 6] rfl (rf_X10_forget_J99 this (f_X10_forget_L48 this n) ih l1 l2 l5 r5 l5 M)
def f_X10_forget (this : Nat) (l1 : Int32) (l2 : Int32) (M : Mem) : Option (Int32 × Mem) :=
  (oO M 10 (some this)).bind fun o8 => cl (f_X10_isBar o8 M) fun r1 M =>
  (if r1 = 0 then
    (f_X10_forget_J29 this M)
  else
    (cl (f_X10_in (Int32.toInt64 l1) (1 : Int64) (60 : Int64) M) fun r2 M =>
    (if r2 = 0 then
      (f_X10_forget_J29 this M)
    else
      (cl (f_X10_in (Int32.toInt64 l2) (0 : Int64) (1 : Int64) M) fun r3 M =>
      (if r3 = 0 then
        (f_X10_forget_J29 this M)
      else
        ((oO M 10 (some this)).bind fun o7 => cl (f_X10_keepsAll o7 M) fun u4 M =>
        (oO M 10 (some this)).bind fun o6 => cl (f_X10_earnedIn o6 l1 M) fun r5 M =>
        f_X10_forget_L48 this FU l1 l2 (-1 : Int32) r5 (nI 0) M))))))
set_option maxHeartbeats 2000000 in
set_option maxRecDepth 20000 in
theorem rm_X10_forget (this : Nat) (l1 : Int32) (l2 : Int32) (M : Mem) : RFm yX10_forget cX10_forget 7 (some .int) 12 eI (f_X10_forget this l1 l2 M) [va_rf (some this), .int l1, .int l2] M := by
  refine RFm_of (L := [(0, va_rf (some this)), (1, .int l1), (2, .int l2)]) (by decide) rfl (Nat.le_trans (c_R (c_I (c_I c_0))) (by decide)) ?_
  rw [f_X10_forget]
  refine R_aloadq_n (pc' := 1) (i := 0) (j := 0) (q := (some this)) dX10_forget_0 rfl rfl rfl ?_
  refine R_callV_I (pc' := 4) (q := (some this)) (As := []) (fun o8 => rm_X10_isBar o8 M) mf_X10_isBar lk_X10_411 im_X10_isBar se_X10_isBar rfl rfl rfl dX10_forget_1 rfl (by decide) (Nat.le_trans c_0 (by decide)) (fun r1 M => ?_)
  refine R_if_eq (pc' := 7) (tgt := 29) (a := r1) dX10_forget_4 (by decide) rfl ?_ ?_
  · exact R_sub [] rfl (rf_X10_forget_J29 this M)
  · refine R_iload_n (pc' := 8) (i := 1) (j := 1) (x := l1) dX10_forget_7 rfl rfl rfl ?_
    refine R_i2l (pc' := 9) (a := l1) dX10_forget_8 rfl ?_
    refine R_lconst (pc' := 10) (x := (1 : Int64)) dX10_forget_9 rfl (by decide) ?_
    refine R_ldc2 (pc' := 13) (x := (60 : Int64)) dX10_forget_10 rfl c2_X10_444 ?_
    refine R_callS_I (pc' := 16) (As := [.long (Int32.toInt64 l1), .long (1 : Int64), .long (60 : Int64)]) (rm_X10_in (Int32.toInt64 l1) (1 : Int64) (60 : Int64) M) mf_X10_in lk_X10_131 sm_X10_in rfl rfl dX10_forget_13 rfl (by decide) (Nat.le_trans c_0 (by decide)) (fun r2 M => ?_)
    refine R_if_eq (pc' := 19) (tgt := 29) (a := r2) dX10_forget_16 (by decide) rfl ?_ ?_
    · exact R_sub [] rfl (rf_X10_forget_J29 this M)
    · refine R_iload_n (pc' := 20) (i := 2) (j := 2) (x := l2) dX10_forget_19 rfl rfl rfl ?_
      refine R_i2l (pc' := 21) (a := l2) dX10_forget_20 rfl ?_
      refine R_lconst (pc' := 22) (x := (0 : Int64)) dX10_forget_21 rfl (by decide) ?_
      refine R_lconst (pc' := 23) (x := (1 : Int64)) dX10_forget_22 rfl (by decide) ?_
      refine R_callS_I (pc' := 26) (As := [.long (Int32.toInt64 l2), .long (0 : Int64), .long (1 : Int64)]) (rm_X10_in (Int32.toInt64 l2) (0 : Int64) (1 : Int64) M) mf_X10_in lk_X10_131 sm_X10_in rfl rfl dX10_forget_23 rfl (by decide) (Nat.le_trans c_0 (by decide)) (fun r3 M => ?_)
      refine R_if_ne (pc' := 29) (tgt := 32) (a := r3) dX10_forget_26 (by decide) rfl ?_ ?_
      · refine R_aloadq_n (pc' := 33) (i := 0) (j := 0) (q := (some this)) dX10_forget_32 rfl rfl rfl ?_
        refine R_callV_V (pc' := 36) (q := (some this)) (As := []) (fun o7 => rm_X10_keepsAll o7 M) mf_X10_keepsAll lk_X10_430 im_X10_keepsAll se_X10_keepsAll rfl rfl rfl dX10_forget_33 rfl (by decide) (Nat.le_trans c_0 (by decide)) (fun u4 M => ?_)
        refine R_iconst (pc' := 37) (x := (-1 : Int32)) dX10_forget_36 rfl (by decide) ?_
        refine R_istore_n (pc' := 38) (L' := [(3, .int (-1 : Int32)), (0, va_rf (some this)), (1, .int l1), (2, .int l2)]) (i := 3) (x := (-1 : Int32)) dX10_forget_37 rfl rfl (by decide) rfl ?_
        refine R_aloadq_n (pc' := 39) (i := 0) (j := 1) (q := (some this)) dX10_forget_38 rfl rfl rfl ?_
        refine R_iload_n (pc' := 40) (i := 1) (j := 2) (x := l1) dX10_forget_39 rfl rfl rfl ?_
        refine R_callV_I (pc' := 43) (q := (some this)) (As := [.int l1]) (fun o6 => rm_X10_earnedIn o6 l1 M) mf_X10_earnedIn lk_X10_446 im_X10_earnedIn se_X10_earnedIn rfl rfl rfl dX10_forget_40 rfl (by decide) (Nat.le_trans c_0 (by decide)) (fun r5 M => ?_)
        refine R_istore (pc' := 45) (L' := [(4, .int r5), (3, .int (-1 : Int32)), (0, va_rf (some this)), (1, .int l1), (2, .int l2)]) (i := 4) (x := r5) dX10_forget_43 rfl (by decide) rfl ?_
        refine R_iconst (pc' := 46) (x := (nI 0)) dX10_forget_45 rfl (by decide) ?_
        refine R_istore (pc' := 48) (L' := [(5, .int (nI 0)), (4, .int r5), (3, .int (-1 : Int32)), (0, va_rf (some this)), (1, .int l1), (2, .int l2)]) (i := 5) (x := (nI 0)) dX10_forget_46 rfl (by decide) rfl ?_
        exact R_sub [3, 4, 5, 2, 1, 0] rfl (rf_X10_forget_L48 this FU l1 l2 (-1 : Int32) r5 (nI 0) M)
      · exact R_sub [] rfl (rf_X10_forget_J29 this M)
/-! BarPilotModel.barter(II)I -/
def f_X10_barter_J31 (this : Nat) (M : Mem) : Option (Int32 × Mem) :=
  some ((-2 : Int32), M)
set_option maxHeartbeats 2000000 in
set_option maxRecDepth 20000 in
theorem rf_X10_barter_J31 (this : Nat) (M : Mem) : RF yX10_barter cX10_barter 9 (some .int) 12 eI (f_X10_barter_J31 this M) 31 [] [] M := by
  rw [f_X10_barter_J31]
  refine R_bipush (pc' := 33) (x := (-2 : Int32)) dX10_barter_31 rfl (by decide) ?_
  exact R_iret dX10_barter_33
def f_X10_barter_J187 (this : Nat) (s0 : Int32) (M : Mem) : Option (Int32 × Mem) :=
  some (s0, M)
set_option maxHeartbeats 2000000 in
set_option maxRecDepth 20000 in
theorem rf_X10_barter_J187 (this : Nat) (s0 : Int32) (M : Mem) : RF yX10_barter cX10_barter 9 (some .int) 12 eI (f_X10_barter_J187 this s0 M) 187 [] [.int s0] M := by
  rw [f_X10_barter_J187]
  exact R_iret dX10_barter_187
def f_X10_barter_J155 (k53 : Int32 → Int32 → Int32 → Int32 → Int32 → Int32 → Mem → Option (Int32 × Mem)) (k70 : Int32 → Int32 → Int32 → Int32 → Int32 → Int32 → Int32 → Mem → Option (Int32 × Mem)) (this : Nat) (l1 : Int32) (l2 : Int32) (l3 : Int32) (l4 : Int32) (l5 : Int32) (l6 : Int32) (l7 : Int32) (M : Mem) : Option (Int32 × Mem) :=
  k70 l1 l2 l3 l4 l5 l6 (l7 + (nI 1)) M
set_option maxHeartbeats 2000000 in
set_option maxRecDepth 20000 in
theorem rf_X10_barter_J155 (this : Nat) (k53 : Int32 → Int32 → Int32 → Int32 → Int32 → Int32 → Mem → Option (Int32 × Mem)) (k70 : Int32 → Int32 → Int32 → Int32 → Int32 → Int32 → Int32 → Mem → Option (Int32 × Mem)) (hk53 : ∀ (l1 : Int32) (l2 : Int32) (l3 : Int32) (l4 : Int32) (l5 : Int32) (l6 : Int32) (M : Mem), RF yX10_barter cX10_barter 9 (some .int) 12 eI (k53 l1 l2 l3 l4 l5 l6 M) 53 [(0, va_rf (some this)), (1, .int l1), (2, .int l2), (3, .int l3), (4, .int l4), (5, .int l5), (6, .int l6)] [] M) (hk70 : ∀ (l1 : Int32) (l2 : Int32) (l3 : Int32) (l4 : Int32) (l5 : Int32) (l6 : Int32) (l7 : Int32) (M : Mem), RF yX10_barter cX10_barter 9 (some .int) 12 eI (k70 l1 l2 l3 l4 l5 l6 l7 M) 70 [(0, va_rf (some this)), (1, .int l1), (2, .int l2), (3, .int l3), (4, .int l4), (5, .int l5), (6, .int l6), (7, .int l7)] [] M) (l1 : Int32) (l2 : Int32) (l3 : Int32) (l4 : Int32) (l5 : Int32) (l6 : Int32) (l7 : Int32) (M : Mem) : RF yX10_barter cX10_barter 9 (some .int) 12 eI (f_X10_barter_J155 k53 k70 this l1 l2 l3 l4 l5 l6 l7 M) 155 [(0, va_rf (some this)), (1, .int l1), (2, .int l2), (3, .int l3), (4, .int l4), (5, .int l5), (6, .int l6), (7, .int l7)] [] M := by
  rw [f_X10_barter_J155]
  refine R_iinc (pc' := 158) (L' := [(7, .int (l7 + (nI 1))), (0, va_rf (some this)), (1, .int l1), (2, .int l2), (3, .int l3), (4, .int l4), (5, .int l5), (6, .int l6)]) (i := 7) (j := 7) (x := l7) (x2 := (l7 + (nI 1))) dX10_barter_155 rfl rfl rfl (by decide) rfl ?_
  refine R_goto (tgt := 70) dX10_barter_158 (by decide) ?_
  exact R_sub [1, 2, 3, 4, 5, 6, 7, 0] rfl (hk70 l1 l2 l3 l4 l5 l6 (l7 + (nI 1)) M)
def f_X10_barter_L70 (k53 : Int32 → Int32 → Int32 → Int32 → Int32 → Int32 → Mem → Option (Int32 × Mem)) (this : Nat) : Nat → Int32 → Int32 → Int32 → Int32 → Int32 → Int32 → Int32 → Mem → Option (Int32 × Mem)
  | 0, _, _, _, _, _, _, _, _ => none
  | n + 1, l1, l2, l3, l4, l5, l6, l7, M =>
    (gR M 10 1 (some this)).bind fun scalar1 =>
    (aI M 0 scalar1 (nI 3)).bind fun e2 =>
    (if e2 ≤ l7 then
      (k53 l1 l2 l3 l4 l5 (l6 + (nI 1)) M)
    else
      ((oO M 10 (some this)).bind fun o15 => cl (f_X10_waits o15 l6 M) fun r3 M =>
      (if r3 = 0 then
        (f_X10_barter_J155 k53 (f_X10_barter_L70 k53 this n) this l1 l2 l3 l4 l5 l6 l7 M)
      else
        ((oO M 10 (some this)).bind fun o14 => cl (f_X10_waits o14 l7 M) fun r4 M =>
        (if r4 = 0 then
          (f_X10_barter_J155 k53 (f_X10_barter_L70 k53 this n) this l1 l2 l3 l4 l5 l6 l7 M)
        else
          ((gR M 10 6 (some this)).bind fun knows5 =>
          (aI M 0 knows5 l6).bind fun e6 =>
          (gR M 10 6 (some this)).bind fun knows7 =>
          (aI M 0 knows7 l7).bind fun e8 =>
          (wI M 0 knows5 l6 (e6 ||| e8)).bind fun M =>
          (gR M 10 6 (some this)).bind fun knows9 =>
          (gR M 10 6 (some this)).bind fun knows10 =>
          (aI M 0 knows10 l6).bind fun e11 =>
          (wI M 0 knows9 l7 e11).bind fun M =>
          (oO M 10 (some this)).bind fun o13 => cl (f_X10_earnedIn o13 l1 M) fun r12 M =>
          (if r12 ≤ l5 then
            (f_X10_barter_J155 k53 (f_X10_barter_L70 k53 this n) this l1 l2 l3 l4 l5 l6 l7 M)
          else
            (f_X10_barter_J155 k53 (f_X10_barter_L70 k53 this n) this l1 l2 l6 l7 r12 l6 l7 M))))))))
set_option maxHeartbeats 2000000 in
set_option maxRecDepth 20000 in
theorem rf_X10_barter_L70 (this : Nat) (k53 : Int32 → Int32 → Int32 → Int32 → Int32 → Int32 → Mem → Option (Int32 × Mem)) (hk53 : ∀ (l1 : Int32) (l2 : Int32) (l3 : Int32) (l4 : Int32) (l5 : Int32) (l6 : Int32) (M : Mem), RF yX10_barter cX10_barter 9 (some .int) 12 eI (k53 l1 l2 l3 l4 l5 l6 M) 53 [(0, va_rf (some this)), (1, .int l1), (2, .int l2), (3, .int l3), (4, .int l4), (5, .int l5), (6, .int l6)] [] M) : ∀ (n : Nat) (l1 : Int32) (l2 : Int32) (l3 : Int32) (l4 : Int32) (l5 : Int32) (l6 : Int32) (l7 : Int32) (M : Mem), RF yX10_barter cX10_barter 9 (some .int) 12 eI (f_X10_barter_L70 k53 this n l1 l2 l3 l4 l5 l6 l7 M) 70 [(0, va_rf (some this)), (1, .int l1), (2, .int l2), (3, .int l3), (4, .int l4), (5, .int l5), (6, .int l6), (7, .int l7)] [] M := by
  intro n
  induction n with
  | zero => intro _ _ _ _ _ _ _ _; exact RF.none
  | succ n ih =>
    intro l1 l2 l3 l4 l5 l6 l7 M
    rw [f_X10_barter_L70]
    refine R_iload (pc' := 72) (i := 7) (j := 7) (x := l7) dX10_barter_70 rfl rfl ?_
    refine R_aloadq_n (pc' := 73) (i := 0) (j := 0) (q := (some this)) dX10_barter_72 rfl rfl rfl ?_
    refine R_getR (pc' := 76) (q := (some this)) fl_X10_9 rfl dX10_barter_73 rfl (fun scalar1 => ?_)
    refine R_iconst (pc' := 77) (x := (nI 3)) dX10_barter_76 rfl (by decide) ?_
    refine R_iald (pc' := 78) (q := scalar1) (i := (nI 3)) dX10_barter_77 rfl (fun e2 => ?_)
    refine R_icmp_ge (pc' := 81) (tgt := 161) (a := l7) (b := e2) dX10_barter_78 (by decide) rfl ?_ ?_
    · refine R_iinc (pc' := 164) (L' := [(6, .int (l6 + (nI 1))), (0, va_rf (some this)), (1, .int l1), (2, .int l2), (3, .int l3), (4, .int l4), (5, .int l5), (7, .int l7)]) (i := 6) (j := 6) (x := l6) (x2 := (l6 + (nI 1))) dX10_barter_161 rfl rfl rfl (by decide) rfl ?_
      refine R_goto (tgt := 53) dX10_barter_164 (by decide) ?_
      exact R_sub [1, 2, 3, 4, 5, 6, 0] rfl (hk53 l1 l2 l3 l4 l5 (l6 + (nI 1)) M)
    · refine R_aloadq_n (pc' := 82) (i := 0) (j := 0) (q := (some this)) dX10_barter_81 rfl rfl rfl ?_
      refine R_iload (pc' := 84) (i := 6) (j := 6) (x := l6) dX10_barter_82 rfl rfl ?_
      refine R_callV_I (pc' := 87) (q := (some this)) (As := [.int l6]) (fun o15 => rm_X10_waits o15 l6 M) mf_X10_waits lk_X10_350 im_X10_waits se_X10_waits rfl rfl rfl dX10_barter_84 rfl (by decide) (Nat.le_trans c_0 (by decide)) (fun r3 M => ?_)
      refine R_if_eq (pc' := 90) (tgt := 155) (a := r3) dX10_barter_87 (by decide) rfl ?_ ?_
      · exact R_sub [0, 1, 2, 3, 4, 5, 6, 7] rfl (rf_X10_barter_J155 this k53 (f_X10_barter_L70 k53 this n) hk53 ih l1 l2 l3 l4 l5 l6 l7 M)
      · refine R_aloadq_n (pc' := 91) (i := 0) (j := 0) (q := (some this)) dX10_barter_90 rfl rfl rfl ?_
        refine R_iload (pc' := 93) (i := 7) (j := 7) (x := l7) dX10_barter_91 rfl rfl ?_
        refine R_callV_I (pc' := 96) (q := (some this)) (As := [.int l7]) (fun o14 => rm_X10_waits o14 l7 M) mf_X10_waits lk_X10_350 im_X10_waits se_X10_waits rfl rfl rfl dX10_barter_93 rfl (by decide) (Nat.le_trans c_0 (by decide)) (fun r4 M => ?_)
        refine R_if_eq (pc' := 99) (tgt := 155) (a := r4) dX10_barter_96 (by decide) rfl ?_ ?_
        · exact R_sub [0, 1, 2, 3, 4, 5, 6, 7] rfl (rf_X10_barter_J155 this k53 (f_X10_barter_L70 k53 this n) hk53 ih l1 l2 l3 l4 l5 l6 l7 M)
        · refine R_aloadq_n (pc' := 100) (i := 0) (j := 0) (q := (some this)) dX10_barter_99 rfl rfl rfl ?_
          refine R_getR (pc' := 103) (q := (some this)) fl_X10_25 rfl dX10_barter_100 rfl (fun knows5 => ?_)
          refine R_iload (pc' := 105) (i := 6) (j := 6) (x := l6) dX10_barter_103 rfl rfl ?_
          refine R_dup2 (pc' := 106) dX10_barter_105 rfl rfl (rf_cat _) ?_
          refine R_iald (pc' := 107) (q := knows5) (i := l6) dX10_barter_106 rfl (fun e6 => ?_)
          refine R_aloadq_n (pc' := 108) (i := 0) (j := 0) (q := (some this)) dX10_barter_107 rfl rfl rfl ?_
          refine R_getR (pc' := 111) (q := (some this)) fl_X10_25 rfl dX10_barter_108 rfl (fun knows7 => ?_)
          refine R_iload (pc' := 113) (i := 7) (j := 7) (x := l7) dX10_barter_111 rfl rfl ?_
          refine R_iald (pc' := 114) (q := knows7) (i := l7) dX10_barter_113 rfl (fun e8 => ?_)
          refine R_ior (pc' := 115) (a := e6) (b := e8) dX10_barter_114 rfl ?_
          refine R_iast (pc' := 116) (q := knows5) (i := l6) (x := (e6 ||| e8)) dX10_barter_115 rfl (fun M => ?_)
          refine R_aloadq_n (pc' := 117) (i := 0) (j := 0) (q := (some this)) dX10_barter_116 rfl rfl rfl ?_
          refine R_getR (pc' := 120) (q := (some this)) fl_X10_25 rfl dX10_barter_117 rfl (fun knows9 => ?_)
          refine R_iload (pc' := 122) (i := 7) (j := 7) (x := l7) dX10_barter_120 rfl rfl ?_
          refine R_aloadq_n (pc' := 123) (i := 0) (j := 0) (q := (some this)) dX10_barter_122 rfl rfl rfl ?_
          refine R_getR (pc' := 126) (q := (some this)) fl_X10_25 rfl dX10_barter_123 rfl (fun knows10 => ?_)
          refine R_iload (pc' := 128) (i := 6) (j := 6) (x := l6) dX10_barter_126 rfl rfl ?_
          refine R_iald (pc' := 129) (q := knows10) (i := l6) dX10_barter_128 rfl (fun e11 => ?_)
          refine R_iast (pc' := 130) (q := knows9) (i := l7) (x := e11) dX10_barter_129 rfl (fun M => ?_)
          refine R_aloadq_n (pc' := 131) (i := 0) (j := 0) (q := (some this)) dX10_barter_130 rfl rfl rfl ?_
          refine R_iload_n (pc' := 132) (i := 1) (j := 1) (x := l1) dX10_barter_131 rfl rfl rfl ?_
          refine R_callV_I (pc' := 135) (q := (some this)) (As := [.int l1]) (fun o13 => rm_X10_earnedIn o13 l1 M) mf_X10_earnedIn lk_X10_446 im_X10_earnedIn se_X10_earnedIn rfl rfl rfl dX10_barter_132 rfl (by decide) (Nat.le_trans c_0 (by decide)) (fun r12 M => ?_)
          refine R_istore (pc' := 137) (L' := [(8, .int r12), (0, va_rf (some this)), (1, .int l1), (2, .int l2), (3, .int l3), (4, .int l4), (5, .int l5), (6, .int l6), (7, .int l7)]) (i := 8) (x := r12) dX10_barter_135 rfl (by decide) rfl ?_
          refine R_iload (pc' := 139) (i := 8) (j := 0) (x := r12) dX10_barter_137 rfl rfl ?_
          refine R_iload (pc' := 141) (i := 5) (j := 6) (x := l5) dX10_barter_139 rfl rfl ?_
          refine R_icmp_le (pc' := 144) (tgt := 155) (a := r12) (b := l5) dX10_barter_141 (by decide) rfl ?_ ?_
          · exact R_sub [1, 2, 3, 4, 5, 6, 7, 8] rfl (rf_X10_barter_J155 this k53 (f_X10_barter_L70 k53 this n) hk53 ih l1 l2 l3 l4 l5 l6 l7 M)
          · refine R_iload (pc' := 146) (i := 6) (j := 7) (x := l6) dX10_barter_144 rfl rfl ?_
            refine R_istore_n (pc' := 147) (L' := [(3, .int l6), (8, .int r12), (0, va_rf (some this)), (1, .int l1), (2, .int l2), (4, .int l4), (5, .int l5), (6, .int l6), (7, .int l7)]) (i := 3) (x := l6) dX10_barter_146 rfl rfl (by decide) rfl ?_
            refine R_iload (pc' := 149) (i := 7) (j := 8) (x := l7) dX10_barter_147 rfl rfl ?_
            refine R_istore (pc' := 151) (L' := [(4, .int l7), (3, .int l6), (8, .int r12), (0, va_rf (some this)), (1, .int l1), (2, .int l2), (5, .int l5), (6, .int l6), (7, .int l7)]) (i := 4) (x := l7) dX10_barter_149 rfl (by decide) rfl ?_
            refine R_iload (pc' := 153) (i := 8) (j := 2) (x := r12) dX10_barter_151 rfl rfl ?_
            refine R_istore (pc' := 155) (L' := [(5, .int r12), (4, .int l7), (3, .int l6), (8, .int r12), (0, va_rf (some this)), (1, .int l1), (2, .int l2), (6, .int l6), (7, .int l7)]) (i := 5) (x := r12) dX10_barter_153 rfl (by decide) rfl ?_
            exact R_sub [4, 5, 6, 2, 1, 0, 7, 8] rfl (rf_X10_barter_J155 this k53 (f_X10_barter_L70 k53 this n) hk53 ih l1 l2 l6 l7 r12 l6 l7 M)
def f_X10_barter_L53 (this : Nat) : Nat → Int32 → Int32 → Int32 → Int32 → Int32 → Int32 → Mem → Option (Int32 × Mem)
  | 0, _, _, _, _, _, _, _ => none
  | n + 1, l1, l2, l3, l4, l5, l6, M =>
    (gR M 10 1 (some this)).bind fun scalar1 =>
    (aI M 0 scalar1 (nI 3)).bind fun e2 =>
    (if e2 ≤ l6 then
      ((if l2 = 0 then
        (f_X10_barter_J187 this l3 M)
      else
        ((if l2 = (nI 1) then
          (f_X10_barter_J187 this l4 M)
        else
          (f_X10_barter_J187 this l5 M)))))
    else
      (nm (l6 + (nI 1)) fun v3 =>
      f_X10_barter_L70 (f_X10_barter_L53 this n) this FU l1 l2 l3 l4 l5 l6 v3 M))
set_option maxHeartbeats 2000000 in
set_option maxRecDepth 20000 in
theorem rf_X10_barter_L53 (this : Nat) : ∀ (n : Nat) (l1 : Int32) (l2 : Int32) (l3 : Int32) (l4 : Int32) (l5 : Int32) (l6 : Int32) (M : Mem), RF yX10_barter cX10_barter 9 (some .int) 12 eI (f_X10_barter_L53 this n l1 l2 l3 l4 l5 l6 M) 53 [(0, va_rf (some this)), (1, .int l1), (2, .int l2), (3, .int l3), (4, .int l4), (5, .int l5), (6, .int l6)] [] M := by
  intro n
  induction n with
  | zero => intro _ _ _ _ _ _ _; exact RF.none
  | succ n ih =>
    intro l1 l2 l3 l4 l5 l6 M
    rw [f_X10_barter_L53]
    refine R_iload (pc' := 55) (i := 6) (j := 6) (x := l6) dX10_barter_53 rfl rfl ?_
    refine R_aloadq_n (pc' := 56) (i := 0) (j := 0) (q := (some this)) dX10_barter_55 rfl rfl rfl ?_
    refine R_getR (pc' := 59) (q := (some this)) fl_X10_9 rfl dX10_barter_56 rfl (fun scalar1 => ?_)
    refine R_iconst (pc' := 60) (x := (nI 3)) dX10_barter_59 rfl (by decide) ?_
    refine R_iald (pc' := 61) (q := scalar1) (i := (nI 3)) dX10_barter_60 rfl (fun e2 => ?_)
    refine R_icmp_ge (pc' := 64) (tgt := 167) (a := l6) (b := e2) dX10_barter_61 (by decide) rfl ?_ ?_
    · refine R_iload_n (pc' := 168) (i := 2) (j := 2) (x := l2) dX10_barter_167 rfl rfl rfl ?_
      refine R_if_ne (pc' := 171) (tgt := 175) (a := l2) dX10_barter_168 (by decide) rfl ?_ ?_
      · refine R_iload_n (pc' := 176) (i := 2) (j := 2) (x := l2) dX10_barter_175 rfl rfl rfl ?_
        refine R_iconst (pc' := 177) (x := (nI 1)) dX10_barter_176 rfl (by decide) ?_
        refine R_icmp_ne (pc' := 180) (tgt := 185) (a := l2) (b := (nI 1)) dX10_barter_177 (by decide) rfl ?_ ?_
        · refine R_iload (pc' := 187) (i := 5) (j := 5) (x := l5) dX10_barter_185 rfl rfl ?_
          exact R_sub [] rfl (rf_X10_barter_J187 this l5 M)
        · refine R_iload (pc' := 182) (i := 4) (j := 4) (x := l4) dX10_barter_180 rfl rfl ?_
          refine R_goto (tgt := 187) dX10_barter_182 (by decide) ?_
          exact R_sub [] rfl (rf_X10_barter_J187 this l4 M)
      · refine R_iload_n (pc' := 172) (i := 3) (j := 3) (x := l3) dX10_barter_171 rfl rfl rfl ?_
        refine R_goto (tgt := 187) dX10_barter_172 (by decide) ?_
        exact R_sub [] rfl (rf_X10_barter_J187 this l3 M)
    · refine R_iload (pc' := 66) (i := 6) (j := 6) (x := l6) dX10_barter_64 rfl rfl ?_
      refine R_iconst (pc' := 67) (x := (nI 1)) dX10_barter_66 rfl (by decide) ?_
      refine R_iadd (pc' := 68) (a := l6) (b := (nI 1)) dX10_barter_67 rfl ?_
      refine R_nmI (fun v3 => ?_)
      refine R_istore (pc' := 70) (L' := [(7, .int v3), (0, va_rf (some this)), (1, .int l1), (2, .int l2), (3, .int l3), (4, .int l4), (5, .int l5), (6, .int l6)]) (i := 7) (x := v3) dX10_barter_68 rfl (by decide) rfl ?_
      exact R_sub [1, 2, 3, 4, 5, 6, 7, 0] rfl (rf_X10_barter_L70 this (f_X10_barter_L53 this n) ih FU l1 l2 l3 l4 l5 l6 v3 M)
def f_X10_barter (this : Nat) (l1 : Int32) (l2 : Int32) (M : Mem) : Option (Int32 × Mem) :=
  (oO M 10 (some this)).bind fun o8 => cl (f_X10_isBar o8 M) fun r1 M =>
  (if r1 = 0 then
    (f_X10_barter_J31 this M)
  else
    (cl (f_X10_in (Int32.toInt64 l1) (1 : Int64) (60 : Int64) M) fun r2 M =>
    (if r2 = 0 then
      (f_X10_barter_J31 this M)
    else
      (cl (f_X10_in (Int32.toInt64 l2) (0 : Int64) (2 : Int64) M) fun r3 M =>
      (if r3 = 0 then
        (f_X10_barter_J31 this M)
      else
        ((oO M 10 (some this)).bind fun o7 => cl (f_X10_keepsAll o7 M) fun u4 M =>
        (oO M 10 (some this)).bind fun o6 => cl (f_X10_earnedIn o6 l1 M) fun r5 M =>
        f_X10_barter_L53 this FU l1 l2 (-1 : Int32) (-1 : Int32) r5 (nI 0) M))))))
set_option maxHeartbeats 2000000 in
set_option maxRecDepth 20000 in
theorem rm_X10_barter (this : Nat) (l1 : Int32) (l2 : Int32) (M : Mem) : RFm yX10_barter cX10_barter 9 (some .int) 12 eI (f_X10_barter this l1 l2 M) [va_rf (some this), .int l1, .int l2] M := by
  refine RFm_of (L := [(0, va_rf (some this)), (1, .int l1), (2, .int l2)]) (by decide) rfl (Nat.le_trans (c_R (c_I (c_I c_0))) (by decide)) ?_
  rw [f_X10_barter]
  refine R_aloadq_n (pc' := 1) (i := 0) (j := 0) (q := (some this)) dX10_barter_0 rfl rfl rfl ?_
  refine R_callV_I (pc' := 4) (q := (some this)) (As := []) (fun o8 => rm_X10_isBar o8 M) mf_X10_isBar lk_X10_411 im_X10_isBar se_X10_isBar rfl rfl rfl dX10_barter_1 rfl (by decide) (Nat.le_trans c_0 (by decide)) (fun r1 M => ?_)
  refine R_if_eq (pc' := 7) (tgt := 31) (a := r1) dX10_barter_4 (by decide) rfl ?_ ?_
  · exact R_sub [] rfl (rf_X10_barter_J31 this M)
  · refine R_iload_n (pc' := 8) (i := 1) (j := 1) (x := l1) dX10_barter_7 rfl rfl rfl ?_
    refine R_i2l (pc' := 9) (a := l1) dX10_barter_8 rfl ?_
    refine R_lconst (pc' := 10) (x := (1 : Int64)) dX10_barter_9 rfl (by decide) ?_
    refine R_ldc2 (pc' := 13) (x := (60 : Int64)) dX10_barter_10 rfl c2_X10_444 ?_
    refine R_callS_I (pc' := 16) (As := [.long (Int32.toInt64 l1), .long (1 : Int64), .long (60 : Int64)]) (rm_X10_in (Int32.toInt64 l1) (1 : Int64) (60 : Int64) M) mf_X10_in lk_X10_131 sm_X10_in rfl rfl dX10_barter_13 rfl (by decide) (Nat.le_trans c_0 (by decide)) (fun r2 M => ?_)
    refine R_if_eq (pc' := 19) (tgt := 31) (a := r2) dX10_barter_16 (by decide) rfl ?_ ?_
    · exact R_sub [] rfl (rf_X10_barter_J31 this M)
    · refine R_iload_n (pc' := 20) (i := 2) (j := 2) (x := l2) dX10_barter_19 rfl rfl rfl ?_
      refine R_i2l (pc' := 21) (a := l2) dX10_barter_20 rfl ?_
      refine R_lconst (pc' := 22) (x := (0 : Int64)) dX10_barter_21 rfl (by decide) ?_
      refine R_ldc2 (pc' := 25) (x := (2 : Int64)) dX10_barter_22 rfl c2_X10_426 ?_
      refine R_callS_I (pc' := 28) (As := [.long (Int32.toInt64 l2), .long (0 : Int64), .long (2 : Int64)]) (rm_X10_in (Int32.toInt64 l2) (0 : Int64) (2 : Int64) M) mf_X10_in lk_X10_131 sm_X10_in rfl rfl dX10_barter_25 rfl (by decide) (Nat.le_trans c_0 (by decide)) (fun r3 M => ?_)
      refine R_if_ne (pc' := 31) (tgt := 34) (a := r3) dX10_barter_28 (by decide) rfl ?_ ?_
      · refine R_aloadq_n (pc' := 35) (i := 0) (j := 0) (q := (some this)) dX10_barter_34 rfl rfl rfl ?_
        refine R_callV_V (pc' := 38) (q := (some this)) (As := []) (fun o7 => rm_X10_keepsAll o7 M) mf_X10_keepsAll lk_X10_430 im_X10_keepsAll se_X10_keepsAll rfl rfl rfl dX10_barter_35 rfl (by decide) (Nat.le_trans c_0 (by decide)) (fun u4 M => ?_)
        refine R_iconst (pc' := 39) (x := (-1 : Int32)) dX10_barter_38 rfl (by decide) ?_
        refine R_istore_n (pc' := 40) (L' := [(3, .int (-1 : Int32)), (0, va_rf (some this)), (1, .int l1), (2, .int l2)]) (i := 3) (x := (-1 : Int32)) dX10_barter_39 rfl rfl (by decide) rfl ?_
        refine R_iconst (pc' := 41) (x := (-1 : Int32)) dX10_barter_40 rfl (by decide) ?_
        refine R_istore (pc' := 43) (L' := [(4, .int (-1 : Int32)), (3, .int (-1 : Int32)), (0, va_rf (some this)), (1, .int l1), (2, .int l2)]) (i := 4) (x := (-1 : Int32)) dX10_barter_41 rfl (by decide) rfl ?_
        refine R_aloadq_n (pc' := 44) (i := 0) (j := 2) (q := (some this)) dX10_barter_43 rfl rfl rfl ?_
        refine R_iload_n (pc' := 45) (i := 1) (j := 3) (x := l1) dX10_barter_44 rfl rfl rfl ?_
        refine R_callV_I (pc' := 48) (q := (some this)) (As := [.int l1]) (fun o6 => rm_X10_earnedIn o6 l1 M) mf_X10_earnedIn lk_X10_446 im_X10_earnedIn se_X10_earnedIn rfl rfl rfl dX10_barter_45 rfl (by decide) (Nat.le_trans c_0 (by decide)) (fun r5 M => ?_)
        refine R_istore (pc' := 50) (L' := [(5, .int r5), (4, .int (-1 : Int32)), (3, .int (-1 : Int32)), (0, va_rf (some this)), (1, .int l1), (2, .int l2)]) (i := 5) (x := r5) dX10_barter_48 rfl (by decide) rfl ?_
        refine R_iconst (pc' := 51) (x := (nI 0)) dX10_barter_50 rfl (by decide) ?_
        refine R_istore (pc' := 53) (L' := [(6, .int (nI 0)), (5, .int r5), (4, .int (-1 : Int32)), (3, .int (-1 : Int32)), (0, va_rf (some this)), (1, .int l1), (2, .int l2)]) (i := 6) (x := (nI 0)) dX10_barter_51 rfl (by decide) rfl ?_
        exact R_sub [4, 5, 6, 3, 2, 1, 0] rfl (rf_X10_barter_L53 this FU l1 l2 (-1 : Int32) (-1 : Int32) r5 (nI 0) M)
      · exact R_sub [] rfl (rf_X10_barter_J31 this M)
/-! BarPilotModel.school(II)I -/
def f_X10_school_J29 (this : Nat) (M : Mem) : Option (Int32 × Mem) :=
  some ((-1 : Int32), M)
set_option maxHeartbeats 2000000 in
set_option maxRecDepth 20000 in
theorem rf_X10_school_J29 (this : Nat) (M : Mem) : RF yX10_school cX10_school 6 (some .int) 11 eI (f_X10_school_J29 this M) 29 [] [] M := by
  rw [f_X10_school_J29]
  refine R_iconst (pc' := 30) (x := (-1 : Int32)) dX10_school_29 rfl (by decide) ?_
  exact R_iret dX10_school_30
def f_X10_school_J165 (this : Nat) (s0 : Int32) (M : Mem) : Option (Int32 × Mem) :=
  some (s0, M)
set_option maxHeartbeats 2000000 in
set_option maxRecDepth 20000 in
theorem rf_X10_school_J165 (this : Nat) (s0 : Int32) (M : Mem) : RF yX10_school cX10_school 6 (some .int) 11 eI (f_X10_school_J165 this s0 M) 165 [] [.int s0] M := by
  rw [f_X10_school_J165]
  exact R_iret dX10_school_165
def f_X10_school_J157 (this : Nat) (l3 : Int32) (M : Mem) : Option (Int32 × Mem) :=
  f_X10_school_J165 this l3 M
set_option maxHeartbeats 2000000 in
set_option maxRecDepth 20000 in
theorem rf_X10_school_J157 (this : Nat) (l3 : Int32) (M : Mem) : RF yX10_school cX10_school 6 (some .int) 11 eI (f_X10_school_J157 this l3 M) 157 [(3, .int l3)] [] M := by
  rw [f_X10_school_J157]
  refine R_iload_n (pc' := 158) (i := 3) (j := 0) (x := l3) dX10_school_157 rfl rfl rfl ?_
  refine R_goto (tgt := 165) dX10_school_158 (by decide) ?_
  exact R_sub [] rfl (rf_X10_school_J165 this l3 M)
def f_X10_school_J140 (k41 : Int32 → Int32 → Int32 → Int32 → Mem → Option (Int32 × Mem)) (this : Nat) (l1 : Int32) (l2 : Int32) (l3 : Int32) (l4 : Int32) (M : Mem) : Option (Int32 × Mem) :=
  k41 l1 l2 l3 (l4 + (nI 1)) M
set_option maxHeartbeats 2000000 in
set_option maxRecDepth 20000 in
theorem rf_X10_school_J140 (this : Nat) (k41 : Int32 → Int32 → Int32 → Int32 → Mem → Option (Int32 × Mem)) (hk41 : ∀ (l1 : Int32) (l2 : Int32) (l3 : Int32) (l4 : Int32) (M : Mem), RF yX10_school cX10_school 6 (some .int) 11 eI (k41 l1 l2 l3 l4 M) 41 [(0, va_rf (some this)), (1, .int l1), (2, .int l2), (3, .int l3), (4, .int l4)] [] M) (l1 : Int32) (l2 : Int32) (l3 : Int32) (l4 : Int32) (M : Mem) : RF yX10_school cX10_school 6 (some .int) 11 eI (f_X10_school_J140 k41 this l1 l2 l3 l4 M) 140 [(0, va_rf (some this)), (1, .int l1), (2, .int l2), (3, .int l3), (4, .int l4)] [] M := by
  rw [f_X10_school_J140]
  refine R_iinc (pc' := 143) (L' := [(4, .int (l4 + (nI 1))), (0, va_rf (some this)), (1, .int l1), (2, .int l2), (3, .int l3)]) (i := 4) (j := 4) (x := l4) (x2 := (l4 + (nI 1))) dX10_school_140 rfl rfl rfl (by decide) rfl ?_
  refine R_goto (tgt := 41) dX10_school_143 (by decide) ?_
  exact R_sub [1, 2, 3, 4, 0] rfl (hk41 l1 l2 l3 (l4 + (nI 1)) M)
def f_X10_school_J135 (k41 : Int32 → Int32 → Int32 → Int32 → Mem → Option (Int32 × Mem)) (this : Nat) (l1 : Int32) (l2 : Int32) (l4 : Int32) (s0 : Int32) (M : Mem) : Option (Int32 × Mem) :=
  (oO M 10 (some this)).bind fun o2 => cl (f_X10_laysBack o2 M) fun u1 M =>
  f_X10_school_J140 k41 this l1 l2 s0 l4 M
set_option maxHeartbeats 2000000 in
set_option maxRecDepth 20000 in
theorem rf_X10_school_J135 (this : Nat) (k41 : Int32 → Int32 → Int32 → Int32 → Mem → Option (Int32 × Mem)) (hk41 : ∀ (l1 : Int32) (l2 : Int32) (l3 : Int32) (l4 : Int32) (M : Mem), RF yX10_school cX10_school 6 (some .int) 11 eI (k41 l1 l2 l3 l4 M) 41 [(0, va_rf (some this)), (1, .int l1), (2, .int l2), (3, .int l3), (4, .int l4)] [] M) (l1 : Int32) (l2 : Int32) (l4 : Int32) (s0 : Int32) (M : Mem) : RF yX10_school cX10_school 6 (some .int) 11 eI (f_X10_school_J135 k41 this l1 l2 l4 s0 M) 135 [(0, va_rf (some this)), (1, .int l1), (2, .int l2), (4, .int l4)] [.int s0] M := by
  rw [f_X10_school_J135]
  refine R_istore_n (pc' := 136) (L' := [(3, .int s0), (0, va_rf (some this)), (1, .int l1), (2, .int l2), (4, .int l4)]) (i := 3) (x := s0) dX10_school_135 rfl rfl (by decide) rfl ?_
  refine R_aloadq_n (pc' := 137) (i := 0) (j := 1) (q := (some this)) dX10_school_136 rfl rfl rfl ?_
  refine R_callV_V (pc' := 140) (q := (some this)) (As := []) (fun o2 => rm_X10_laysBack o2 M) mf_X10_laysBack lk_X10_423 im_X10_laysBack se_X10_laysBack rfl rfl rfl dX10_school_137 rfl (by decide) (Nat.le_trans c_0 (by decide)) (fun u1 M => ?_)
  exact R_sub [1, 2, 3, 0, 4] rfl (rf_X10_school_J140 this k41 hk41 l1 l2 s0 l4 M)
def f_X10_school_J109 (k41 : Int32 → Int32 → Int32 → Int32 → Mem → Option (Int32 × Mem)) (k75 : Int32 → Int32 → Int32 → Int32 → Int32 → Mem → Option (Int32 × Mem)) (this : Nat) (l1 : Int32) (l2 : Int32) (l3 : Int32) (l4 : Int32) (l5 : Int32) (s0 : Int32) (s1 : Int32) (s2 : Int32) (s3 : Option Nat) (M : Mem) : Option (Int32 × Mem) :=
  (wI M 0 s3 s2 (s1 ||| s0)).bind fun M =>
  k75 l1 l2 l3 l4 (l5 + (nI 1)) M
set_option maxHeartbeats 2000000 in
set_option maxRecDepth 20000 in
theorem rf_X10_school_J109 (this : Nat) (k41 : Int32 → Int32 → Int32 → Int32 → Mem → Option (Int32 × Mem)) (k75 : Int32 → Int32 → Int32 → Int32 → Int32 → Mem → Option (Int32 × Mem)) (hk41 : ∀ (l1 : Int32) (l2 : Int32) (l3 : Int32) (l4 : Int32) (M : Mem), RF yX10_school cX10_school 6 (some .int) 11 eI (k41 l1 l2 l3 l4 M) 41 [(0, va_rf (some this)), (1, .int l1), (2, .int l2), (3, .int l3), (4, .int l4)] [] M) (hk75 : ∀ (l1 : Int32) (l2 : Int32) (l3 : Int32) (l4 : Int32) (l5 : Int32) (M : Mem), RF yX10_school cX10_school 6 (some .int) 11 eI (k75 l1 l2 l3 l4 l5 M) 75 [(0, va_rf (some this)), (1, .int l1), (2, .int l2), (3, .int l3), (4, .int l4), (5, .int l5)] [] M) (l1 : Int32) (l2 : Int32) (l3 : Int32) (l4 : Int32) (l5 : Int32) (s0 : Int32) (s1 : Int32) (s2 : Int32) (s3 : Option Nat) (M : Mem) : RF yX10_school cX10_school 6 (some .int) 11 eI (f_X10_school_J109 k41 k75 this l1 l2 l3 l4 l5 s0 s1 s2 s3 M) 109 [(0, va_rf (some this)), (1, .int l1), (2, .int l2), (3, .int l3), (4, .int l4), (5, .int l5)] [.int s0, .int s1, .int s2, va_rf s3] M := by
  rw [f_X10_school_J109]
  refine R_ior (pc' := 110) (a := s1) (b := s0) dX10_school_109 rfl ?_
  refine R_iast (pc' := 111) (q := s3) (i := s2) (x := (s1 ||| s0)) dX10_school_110 rfl (fun M => ?_)
  refine R_iinc (pc' := 114) (L' := [(5, .int (l5 + (nI 1))), (0, va_rf (some this)), (1, .int l1), (2, .int l2), (3, .int l3), (4, .int l4)]) (i := 5) (j := 5) (x := l5) (x2 := (l5 + (nI 1))) dX10_school_111 rfl rfl rfl (by decide) rfl ?_
  refine R_goto (tgt := 75) dX10_school_114 (by decide) ?_
  exact R_sub [1, 2, 3, 4, 5, 0] rfl (hk75 l1 l2 l3 l4 (l5 + (nI 1)) M)
def f_X10_school_L75 (k41 : Int32 → Int32 → Int32 → Int32 → Mem → Option (Int32 × Mem)) (this : Nat) : Nat → Int32 → Int32 → Int32 → Int32 → Int32 → Mem → Option (Int32 × Mem)
  | 0, _, _, _, _, _, _ => none
  | n + 1, l1, l2, l3, l4, l5, M =>
    (gR M 10 1 (some this)).bind fun scalar1 =>
    (aI M 0 scalar1 (nI 3)).bind fun e2 =>
    (if e2 ≤ l5 then
      ((oO M 10 (some this)).bind fun o6 => cl (f_X10_goFor o6 l1 M) fun u3 M =>
      (oO M 10 (some this)).bind fun o5 => cl (f_X10_waiting o5 M) fun r4 M =>
      (if r4 = 0 then
        (f_X10_school_J135 k41 this l1 l2 l4 l4 M)
      else
        (f_X10_school_J135 k41 this l1 l2 l4 l3 M)))
    else
      ((gR M 10 6 (some this)).bind fun knows7 =>
      (aI M 0 knows7 l5).bind fun e8 =>
      (oO M 10 (some this)).bind fun o10 => cl (f_X10_waits o10 l5 M) fun r9 M =>
      (if r9 = 0 then
        (f_X10_school_J109 k41 (f_X10_school_L75 k41 this n) this l1 l2 l3 l4 l5 (nI 0) e8 l5 knows7 M)
      else
        (f_X10_school_J109 k41 (f_X10_school_L75 k41 this n) this l1 l2 l3 l4 l5 l4 e8 l5 knows7 M))))
set_option maxHeartbeats 2000000 in
set_option maxRecDepth 20000 in
theorem rf_X10_school_L75 (this : Nat) (k41 : Int32 → Int32 → Int32 → Int32 → Mem → Option (Int32 × Mem)) (hk41 : ∀ (l1 : Int32) (l2 : Int32) (l3 : Int32) (l4 : Int32) (M : Mem), RF yX10_school cX10_school 6 (some .int) 11 eI (k41 l1 l2 l3 l4 M) 41 [(0, va_rf (some this)), (1, .int l1), (2, .int l2), (3, .int l3), (4, .int l4)] [] M) : ∀ (n : Nat) (l1 : Int32) (l2 : Int32) (l3 : Int32) (l4 : Int32) (l5 : Int32) (M : Mem), RF yX10_school cX10_school 6 (some .int) 11 eI (f_X10_school_L75 k41 this n l1 l2 l3 l4 l5 M) 75 [(0, va_rf (some this)), (1, .int l1), (2, .int l2), (3, .int l3), (4, .int l4), (5, .int l5)] [] M := by
  intro n
  induction n with
  | zero => intro _ _ _ _ _ _; exact RF.none
  | succ n ih =>
    intro l1 l2 l3 l4 l5 M
    rw [f_X10_school_L75]
    refine R_iload (pc' := 77) (i := 5) (j := 5) (x := l5) dX10_school_75 rfl rfl ?_
    refine R_aloadq_n (pc' := 78) (i := 0) (j := 0) (q := (some this)) dX10_school_77 rfl rfl rfl ?_
    refine R_getR (pc' := 81) (q := (some this)) fl_X10_9 rfl dX10_school_78 rfl (fun scalar1 => ?_)
    refine R_iconst (pc' := 82) (x := (nI 3)) dX10_school_81 rfl (by decide) ?_
    refine R_iald (pc' := 83) (q := scalar1) (i := (nI 3)) dX10_school_82 rfl (fun e2 => ?_)
    refine R_icmp_ge (pc' := 86) (tgt := 117) (a := l5) (b := e2) dX10_school_83 (by decide) rfl ?_ ?_
    · refine R_aloadq_n (pc' := 118) (i := 0) (j := 0) (q := (some this)) dX10_school_117 rfl rfl rfl ?_
      refine R_iload_n (pc' := 119) (i := 1) (j := 1) (x := l1) dX10_school_118 rfl rfl rfl ?_
      refine R_callV_V (pc' := 122) (q := (some this)) (As := [.int l1]) (fun o6 => rm_X10_goFor o6 l1 M) mf_X10_goFor lk_X10_420 im_X10_goFor se_X10_goFor rfl rfl rfl dX10_school_119 rfl (by decide) (Nat.le_trans c_0 (by decide)) (fun u3 M => ?_)
      refine R_aloadq_n (pc' := 123) (i := 0) (j := 0) (q := (some this)) dX10_school_122 rfl rfl rfl ?_
      refine R_callV_I (pc' := 126) (q := (some this)) (As := []) (fun o5 => rm_X10_waiting o5 M) mf_X10_waiting lk_X10_356 im_X10_waiting se_X10_waiting rfl rfl rfl dX10_school_123 rfl (by decide) (Nat.le_trans c_0 (by decide)) (fun r4 M => ?_)
      refine R_if_ne (pc' := 129) (tgt := 134) (a := r4) dX10_school_126 (by decide) rfl ?_ ?_
      · refine R_iload_n (pc' := 135) (i := 3) (j := 3) (x := l3) dX10_school_134 rfl rfl rfl ?_
        exact R_sub [0, 1, 2, 4] rfl (rf_X10_school_J135 this k41 hk41 l1 l2 l4 l3 M)
      · refine R_iload (pc' := 131) (i := 4) (j := 4) (x := l4) dX10_school_129 rfl rfl ?_
        refine R_goto (tgt := 135) dX10_school_131 (by decide) ?_
        exact R_sub [0, 1, 2, 4] rfl (rf_X10_school_J135 this k41 hk41 l1 l2 l4 l4 M)
    · refine R_aloadq_n (pc' := 87) (i := 0) (j := 0) (q := (some this)) dX10_school_86 rfl rfl rfl ?_
      refine R_getR (pc' := 90) (q := (some this)) fl_X10_25 rfl dX10_school_87 rfl (fun knows7 => ?_)
      refine R_iload (pc' := 92) (i := 5) (j := 5) (x := l5) dX10_school_90 rfl rfl ?_
      refine R_dup2 (pc' := 93) dX10_school_92 rfl rfl (rf_cat _) ?_
      refine R_iald (pc' := 94) (q := knows7) (i := l5) dX10_school_93 rfl (fun e8 => ?_)
      refine R_aloadq_n (pc' := 95) (i := 0) (j := 0) (q := (some this)) dX10_school_94 rfl rfl rfl ?_
      refine R_iload (pc' := 97) (i := 5) (j := 5) (x := l5) dX10_school_95 rfl rfl ?_
      refine R_callV_I (pc' := 100) (q := (some this)) (As := [.int l5]) (fun o10 => rm_X10_waits o10 l5 M) mf_X10_waits lk_X10_350 im_X10_waits se_X10_waits rfl rfl rfl dX10_school_97 rfl (by decide) (Nat.le_trans (c_I (c_I (c_R c_0))) (by decide)) (fun r9 M => ?_)
      refine R_if_eq (pc' := 103) (tgt := 108) (a := r9) dX10_school_100 (by decide) rfl ?_ ?_
      · refine R_iconst (pc' := 109) (x := (nI 0)) dX10_school_108 rfl (by decide) ?_
        exact R_sub [0, 1, 2, 3, 4, 5] rfl (rf_X10_school_J109 this k41 (f_X10_school_L75 k41 this n) hk41 ih l1 l2 l3 l4 l5 (nI 0) e8 l5 knows7 M)
      · refine R_iload (pc' := 105) (i := 4) (j := 4) (x := l4) dX10_school_103 rfl rfl ?_
        refine R_goto (tgt := 109) dX10_school_105 (by decide) ?_
        exact R_sub [0, 1, 2, 3, 4, 5] rfl (rf_X10_school_J109 this k41 (f_X10_school_L75 k41 this n) hk41 ih l1 l2 l3 l4 l5 l4 e8 l5 knows7 M)
def f_X10_school_J72 (k41 : Int32 → Int32 → Int32 → Int32 → Mem → Option (Int32 × Mem)) (this : Nat) (l1 : Int32) (l2 : Int32) (l3 : Int32) (l4 : Int32) (M : Mem) : Option (Int32 × Mem) :=
  f_X10_school_L75 k41 this FU l1 l2 l3 l4 (nI 0) M
set_option maxHeartbeats 2000000 in
set_option maxRecDepth 20000 in
theorem rf_X10_school_J72 (this : Nat) (k41 : Int32 → Int32 → Int32 → Int32 → Mem → Option (Int32 × Mem)) (hk41 : ∀ (l1 : Int32) (l2 : Int32) (l3 : Int32) (l4 : Int32) (M : Mem), RF yX10_school cX10_school 6 (some .int) 11 eI (k41 l1 l2 l3 l4 M) 41 [(0, va_rf (some this)), (1, .int l1), (2, .int l2), (3, .int l3), (4, .int l4)] [] M) (l1 : Int32) (l2 : Int32) (l3 : Int32) (l4 : Int32) (M : Mem) : RF yX10_school cX10_school 6 (some .int) 11 eI (f_X10_school_J72 k41 this l1 l2 l3 l4 M) 72 [(0, va_rf (some this)), (1, .int l1), (2, .int l2), (3, .int l3), (4, .int l4)] [] M := by
  rw [f_X10_school_J72]
  refine R_iconst (pc' := 73) (x := (nI 0)) dX10_school_72 rfl (by decide) ?_
  refine R_istore (pc' := 75) (L' := [(5, .int (nI 0)), (0, va_rf (some this)), (1, .int l1), (2, .int l2), (3, .int l3), (4, .int l4)]) (i := 5) (x := (nI 0)) dX10_school_73 rfl (by decide) rfl ?_
  exact R_sub [1, 2, 3, 4, 5, 0] rfl (rf_X10_school_L75 this k41 hk41 FU l1 l2 l3 l4 (nI 0) M)
def f_X10_school_L41 (this : Nat) : Nat → Int32 → Int32 → Int32 → Int32 → Mem → Option (Int32 × Mem)
  | 0, _, _, _, _, _ => none
  | n + 1, l1, l2, l3, l4, M =>
    (gR M 10 1 (some this)).bind fun scalar1 =>
    (aI M 0 scalar1 (nI 2)).bind fun e2 =>
    (if ((nI 1) <<< (e2 &&& 31)) ≤ l4 then
      ((if l3 = (-2 : Int32) then
        (f_X10_school_J157 this l3 M)
      else
        ((if l2 = (nI 1) then
          (f_X10_school_J157 this l3 M)
        else
          (cl (f_X10_bits l3 M) fun r3 M =>
          f_X10_school_J165 this r3 M)))))
    else
      ((if l3 = (-2 : Int32) then
        (f_X10_school_J72 (f_X10_school_L41 this n) this l1 l2 l3 l4 M)
      else
        (cl (f_X10_bits l4 M) fun r4 M =>
        cl (f_X10_bits l3 M) fun r5 M =>
        (if r5 ≤ r4 then
          (f_X10_school_J140 (f_X10_school_L41 this n) this l1 l2 l3 l4 M)
        else
          (f_X10_school_J72 (f_X10_school_L41 this n) this l1 l2 l3 l4 M))))))
set_option maxHeartbeats 2000000 in
set_option maxRecDepth 20000 in
theorem rf_X10_school_L41 (this : Nat) : ∀ (n : Nat) (l1 : Int32) (l2 : Int32) (l3 : Int32) (l4 : Int32) (M : Mem), RF yX10_school cX10_school 6 (some .int) 11 eI (f_X10_school_L41 this n l1 l2 l3 l4 M) 41 [(0, va_rf (some this)), (1, .int l1), (2, .int l2), (3, .int l3), (4, .int l4)] [] M := by
  intro n
  induction n with
  | zero => intro _ _ _ _ _; exact RF.none
  | succ n ih =>
    intro l1 l2 l3 l4 M
    rw [f_X10_school_L41]
    refine R_iload (pc' := 43) (i := 4) (j := 4) (x := l4) dX10_school_41 rfl rfl ?_
    refine R_iconst (pc' := 44) (x := (nI 1)) dX10_school_43 rfl (by decide) ?_
    refine R_aloadq_n (pc' := 45) (i := 0) (j := 0) (q := (some this)) dX10_school_44 rfl rfl rfl ?_
    refine R_getR (pc' := 48) (q := (some this)) fl_X10_9 rfl dX10_school_45 rfl (fun scalar1 => ?_)
    refine R_iconst (pc' := 49) (x := (nI 2)) dX10_school_48 rfl (by decide) ?_
    refine R_iald (pc' := 50) (q := scalar1) (i := (nI 2)) dX10_school_49 rfl (fun e2 => ?_)
    refine R_ishl (pc' := 51) (a := (nI 1)) (b := e2) dX10_school_50 rfl ?_
    refine R_icmp_ge (pc' := 54) (tgt := 146) (a := l4) (b := ((nI 1) <<< (e2 &&& 31))) dX10_school_51 (by decide) rfl ?_ ?_
    · refine R_iload_n (pc' := 147) (i := 3) (j := 3) (x := l3) dX10_school_146 rfl rfl rfl ?_
      refine R_bipush (pc' := 149) (x := (-2 : Int32)) dX10_school_147 rfl (by decide) ?_
      refine R_icmp_eq (pc' := 152) (tgt := 157) (a := l3) (b := (-2 : Int32)) dX10_school_149 (by decide) rfl ?_ ?_
      · exact R_sub [3] rfl (rf_X10_school_J157 this l3 M)
      · refine R_iload_n (pc' := 153) (i := 2) (j := 2) (x := l2) dX10_school_152 rfl rfl rfl ?_
        refine R_iconst (pc' := 154) (x := (nI 1)) dX10_school_153 rfl (by decide) ?_
        refine R_icmp_ne (pc' := 157) (tgt := 161) (a := l2) (b := (nI 1)) dX10_school_154 (by decide) rfl ?_ ?_
        · refine R_iload_n (pc' := 162) (i := 3) (j := 3) (x := l3) dX10_school_161 rfl rfl rfl ?_
          refine R_callS_I (pc' := 165) (As := [.int l3]) (rm_X10_bits l3 M) mf_X10_bits lk_X10_358 sm_X10_bits rfl rfl dX10_school_162 rfl (by decide) (Nat.le_trans c_0 (by decide)) (fun r3 M => ?_)
          exact R_sub [] rfl (rf_X10_school_J165 this r3 M)
        · exact R_sub [3] rfl (rf_X10_school_J157 this l3 M)
    · refine R_iload_n (pc' := 55) (i := 3) (j := 3) (x := l3) dX10_school_54 rfl rfl rfl ?_
      refine R_bipush (pc' := 57) (x := (-2 : Int32)) dX10_school_55 rfl (by decide) ?_
      refine R_icmp_eq (pc' := 60) (tgt := 72) (a := l3) (b := (-2 : Int32)) dX10_school_57 (by decide) rfl ?_ ?_
      · exact R_sub [0, 1, 2, 3, 4] rfl (rf_X10_school_J72 this (f_X10_school_L41 this n) ih l1 l2 l3 l4 M)
      · refine R_iload (pc' := 62) (i := 4) (j := 4) (x := l4) dX10_school_60 rfl rfl ?_
        refine R_callS_I (pc' := 65) (As := [.int l4]) (rm_X10_bits l4 M) mf_X10_bits lk_X10_358 sm_X10_bits rfl rfl dX10_school_62 rfl (by decide) (Nat.le_trans c_0 (by decide)) (fun r4 M => ?_)
        refine R_iload_n (pc' := 66) (i := 3) (j := 3) (x := l3) dX10_school_65 rfl rfl rfl ?_
        refine R_callS_I (pc' := 69) (As := [.int l3]) (rm_X10_bits l3 M) mf_X10_bits lk_X10_358 sm_X10_bits rfl rfl dX10_school_66 rfl (by decide) (Nat.le_trans (c_I c_0) (by decide)) (fun r5 M => ?_)
        refine R_icmp_ge (pc' := 72) (tgt := 140) (a := r4) (b := r5) dX10_school_69 (by decide) rfl ?_ ?_
        · exact R_sub [0, 1, 2, 3, 4] rfl (rf_X10_school_J140 this (f_X10_school_L41 this n) ih l1 l2 l3 l4 M)
        · exact R_sub [0, 1, 2, 3, 4] rfl (rf_X10_school_J72 this (f_X10_school_L41 this n) ih l1 l2 l3 l4 M)
def f_X10_school (this : Nat) (l1 : Int32) (l2 : Int32) (M : Mem) : Option (Int32 × Mem) :=
  (oO M 10 (some this)).bind fun o6 => cl (f_X10_isBar o6 M) fun r1 M =>
  (if r1 = 0 then
    (f_X10_school_J29 this M)
  else
    (cl (f_X10_in (Int32.toInt64 l1) (1 : Int64) (60 : Int64) M) fun r2 M =>
    (if r2 = 0 then
      (f_X10_school_J29 this M)
    else
      (cl (f_X10_in (Int32.toInt64 l2) (0 : Int64) (1 : Int64) M) fun r3 M =>
      (if r3 = 0 then
        (f_X10_school_J29 this M)
      else
        ((oO M 10 (some this)).bind fun o5 => cl (f_X10_keepsAll o5 M) fun u4 M =>
        f_X10_school_L41 this FU l1 l2 (-2 : Int32) (nI 0) M))))))
set_option maxHeartbeats 2000000 in
set_option maxRecDepth 20000 in
theorem rm_X10_school (this : Nat) (l1 : Int32) (l2 : Int32) (M : Mem) : RFm yX10_school cX10_school 6 (some .int) 11 eI (f_X10_school this l1 l2 M) [va_rf (some this), .int l1, .int l2] M := by
  refine RFm_of (L := [(0, va_rf (some this)), (1, .int l1), (2, .int l2)]) (by decide) rfl (Nat.le_trans (c_R (c_I (c_I c_0))) (by decide)) ?_
  rw [f_X10_school]
  refine R_aloadq_n (pc' := 1) (i := 0) (j := 0) (q := (some this)) dX10_school_0 rfl rfl rfl ?_
  refine R_callV_I (pc' := 4) (q := (some this)) (As := []) (fun o6 => rm_X10_isBar o6 M) mf_X10_isBar lk_X10_411 im_X10_isBar se_X10_isBar rfl rfl rfl dX10_school_1 rfl (by decide) (Nat.le_trans c_0 (by decide)) (fun r1 M => ?_)
  refine R_if_eq (pc' := 7) (tgt := 29) (a := r1) dX10_school_4 (by decide) rfl ?_ ?_
  · exact R_sub [] rfl (rf_X10_school_J29 this M)
  · refine R_iload_n (pc' := 8) (i := 1) (j := 1) (x := l1) dX10_school_7 rfl rfl rfl ?_
    refine R_i2l (pc' := 9) (a := l1) dX10_school_8 rfl ?_
    refine R_lconst (pc' := 10) (x := (1 : Int64)) dX10_school_9 rfl (by decide) ?_
    refine R_ldc2 (pc' := 13) (x := (60 : Int64)) dX10_school_10 rfl c2_X10_444 ?_
    refine R_callS_I (pc' := 16) (As := [.long (Int32.toInt64 l1), .long (1 : Int64), .long (60 : Int64)]) (rm_X10_in (Int32.toInt64 l1) (1 : Int64) (60 : Int64) M) mf_X10_in lk_X10_131 sm_X10_in rfl rfl dX10_school_13 rfl (by decide) (Nat.le_trans c_0 (by decide)) (fun r2 M => ?_)
    refine R_if_eq (pc' := 19) (tgt := 29) (a := r2) dX10_school_16 (by decide) rfl ?_ ?_
    · exact R_sub [] rfl (rf_X10_school_J29 this M)
    · refine R_iload_n (pc' := 20) (i := 2) (j := 2) (x := l2) dX10_school_19 rfl rfl rfl ?_
      refine R_i2l (pc' := 21) (a := l2) dX10_school_20 rfl ?_
      refine R_lconst (pc' := 22) (x := (0 : Int64)) dX10_school_21 rfl (by decide) ?_
      refine R_lconst (pc' := 23) (x := (1 : Int64)) dX10_school_22 rfl (by decide) ?_
      refine R_callS_I (pc' := 26) (As := [.long (Int32.toInt64 l2), .long (0 : Int64), .long (1 : Int64)]) (rm_X10_in (Int32.toInt64 l2) (0 : Int64) (1 : Int64) M) mf_X10_in lk_X10_131 sm_X10_in rfl rfl dX10_school_23 rfl (by decide) (Nat.le_trans c_0 (by decide)) (fun r3 M => ?_)
      refine R_if_ne (pc' := 29) (tgt := 31) (a := r3) dX10_school_26 (by decide) rfl ?_ ?_
      · refine R_bipush (pc' := 33) (x := (-2 : Int32)) dX10_school_31 rfl (by decide) ?_
        refine R_istore_n (pc' := 34) (L' := [(3, .int (-2 : Int32)), (0, va_rf (some this)), (1, .int l1), (2, .int l2)]) (i := 3) (x := (-2 : Int32)) dX10_school_33 rfl rfl (by decide) rfl ?_
        refine R_aloadq_n (pc' := 35) (i := 0) (j := 1) (q := (some this)) dX10_school_34 rfl rfl rfl ?_
        refine R_callV_V (pc' := 38) (q := (some this)) (As := []) (fun o5 => rm_X10_keepsAll o5 M) mf_X10_keepsAll lk_X10_430 im_X10_keepsAll se_X10_keepsAll rfl rfl rfl dX10_school_35 rfl (by decide) (Nat.le_trans c_0 (by decide)) (fun u4 M => ?_)
        refine R_iconst (pc' := 39) (x := (nI 0)) dX10_school_38 rfl (by decide) ?_
        refine R_istore (pc' := 41) (L' := [(4, .int (nI 0)), (3, .int (-2 : Int32)), (0, va_rf (some this)), (1, .int l1), (2, .int l2)]) (i := 4) (x := (nI 0)) dX10_school_39 rfl (by decide) rfl ?_
        exact R_sub [2, 3, 4, 1, 0] rfl (rf_X10_school_L41 this FU l1 l2 (-2 : Int32) (nI 0) M)
      · exact R_sub [] rfl (rf_X10_school_J29 this M)
/-! BarPilotModel.howManyBy(III)I -/
def f_X10_howManyBy_J48 (k15 : Int32 → Int32 → Int32 → Mem → Option (Int32 × Mem)) (this : Nat) (l1 : Int32) (l3 : Int32) (l4 : Int32) (s0 : Int32) (s1 : Int32) (s2 : Option Nat) (M : Mem) : Option (Int32 × Mem) :=
  (wI M 0 s2 s1 s0).bind fun M =>
  k15 l1 l3 (l4 + (nI 1)) M
set_option maxHeartbeats 2000000 in
set_option maxRecDepth 20000 in
theorem rf_X10_howManyBy_J48 (this : Nat) (k15 : Int32 → Int32 → Int32 → Mem → Option (Int32 × Mem)) (hk15 : ∀ (l1 : Int32) (l3 : Int32) (l4 : Int32) (M : Mem), RF yX10_howManyBy cX10_howManyBy 5 (some .int) 11 eI (k15 l1 l3 l4 M) 15 [(0, va_rf (some this)), (1, .int l1), (3, .int l3), (4, .int l4)] [] M) (l1 : Int32) (l3 : Int32) (l4 : Int32) (s0 : Int32) (s1 : Int32) (s2 : Option Nat) (M : Mem) : RF yX10_howManyBy cX10_howManyBy 5 (some .int) 11 eI (f_X10_howManyBy_J48 k15 this l1 l3 l4 s0 s1 s2 M) 48 [(0, va_rf (some this)), (1, .int l1), (3, .int l3), (4, .int l4)] [.int s0, .int s1, va_rf s2] M := by
  rw [f_X10_howManyBy_J48]
  refine R_iast (pc' := 49) (q := s2) (i := s1) (x := s0) dX10_howManyBy_48 rfl (fun M => ?_)
  refine R_iinc (pc' := 52) (L' := [(4, .int (l4 + (nI 1))), (0, va_rf (some this)), (1, .int l1), (3, .int l3)]) (i := 4) (j := 3) (x := l4) (x2 := (l4 + (nI 1))) dX10_howManyBy_49 rfl rfl rfl (by decide) rfl ?_
  refine R_goto (tgt := 15) dX10_howManyBy_52 (by decide) ?_
  exact R_sub [1, 2, 3, 0] rfl (hk15 l1 l3 (l4 + (nI 1)) M)
def f_X10_howManyBy_L15 (this : Nat) : Nat → Int32 → Int32 → Int32 → Mem → Option (Int32 × Mem)
  | 0, _, _, _, _ => none
  | n + 1, l1, l3, l4, M =>
    (gR M 10 1 (some this)).bind fun scalar1 =>
    (aI M 0 scalar1 (nI 2)).bind fun e2 =>
    (if e2 ≤ l4 then
      ((oO M 10 (some this)).bind fun o8 => cl (f_X10_goFor o8 l3 M) fun u3 M =>
      (oO M 10 (some this)).bind fun o7 => cl (f_X10_howManyPassed o7 M) fun r4 M =>
      (oO M 10 (some this)).bind fun o6 => cl (f_X10_laysBack o6 M) fun u5 M =>
      some (r4, M))
    else
      ((gR M 10 5 (some this)).bind fun heard9 =>
      cl (f_X10_has l1 l4 M) fun r10 M =>
      (if r10 = 0 then
        (f_X10_howManyBy_J48 (f_X10_howManyBy_L15 this n) this l1 l3 l4 (-1000 : Int32) l4 heard9 M)
      else
        (f_X10_howManyBy_J48 (f_X10_howManyBy_L15 this n) this l1 l3 l4 (-1 : Int32) l4 heard9 M))))
set_option maxHeartbeats 2000000 in
set_option maxRecDepth 20000 in
theorem rf_X10_howManyBy_L15 (this : Nat) : ∀ (n : Nat) (l1 : Int32) (l3 : Int32) (l4 : Int32) (M : Mem), RF yX10_howManyBy cX10_howManyBy 5 (some .int) 11 eI (f_X10_howManyBy_L15 this n l1 l3 l4 M) 15 [(0, va_rf (some this)), (1, .int l1), (3, .int l3), (4, .int l4)] [] M := by
  intro n
  induction n with
  | zero => intro _ _ _ _; exact RF.none
  | succ n ih =>
    intro l1 l3 l4 M
    rw [f_X10_howManyBy_L15]
    refine R_iload (pc' := 17) (i := 4) (j := 3) (x := l4) dX10_howManyBy_15 rfl rfl ?_
    refine R_aloadq_n (pc' := 18) (i := 0) (j := 0) (q := (some this)) dX10_howManyBy_17 rfl rfl rfl ?_
    refine R_getR (pc' := 21) (q := (some this)) fl_X10_9 rfl dX10_howManyBy_18 rfl (fun scalar1 => ?_)
    refine R_iconst (pc' := 22) (x := (nI 2)) dX10_howManyBy_21 rfl (by decide) ?_
    refine R_iald (pc' := 23) (q := scalar1) (i := (nI 2)) dX10_howManyBy_22 rfl (fun e2 => ?_)
    refine R_icmp_ge (pc' := 26) (tgt := 55) (a := l4) (b := e2) dX10_howManyBy_23 (by decide) rfl ?_ ?_
    · refine R_aloadq_n (pc' := 56) (i := 0) (j := 0) (q := (some this)) dX10_howManyBy_55 rfl rfl rfl ?_
      refine R_iload_n (pc' := 57) (i := 3) (j := 2) (x := l3) dX10_howManyBy_56 rfl rfl rfl ?_
      refine R_callV_V (pc' := 60) (q := (some this)) (As := [.int l3]) (fun o8 => rm_X10_goFor o8 l3 M) mf_X10_goFor lk_X10_420 im_X10_goFor se_X10_goFor rfl rfl rfl dX10_howManyBy_57 rfl (by decide) (Nat.le_trans c_0 (by decide)) (fun u3 M => ?_)
      refine R_aloadq_n (pc' := 61) (i := 0) (j := 0) (q := (some this)) dX10_howManyBy_60 rfl rfl rfl ?_
      refine R_callV_I (pc' := 64) (q := (some this)) (As := []) (fun o7 => rm_X10_howManyPassed o7 M) mf_X10_howManyPassed lk_X10_367 im_X10_howManyPassed se_X10_howManyPassed rfl rfl rfl dX10_howManyBy_61 rfl (by decide) (Nat.le_trans c_0 (by decide)) (fun r4 M => ?_)
      refine R_istore (pc' := 66) (L' := [(4, .int r4), (0, va_rf (some this)), (1, .int l1), (3, .int l3)]) (i := 4) (x := r4) dX10_howManyBy_64 rfl (by decide) rfl ?_
      refine R_aloadq_n (pc' := 67) (i := 0) (j := 1) (q := (some this)) dX10_howManyBy_66 rfl rfl rfl ?_
      refine R_callV_V (pc' := 70) (q := (some this)) (As := []) (fun o6 => rm_X10_laysBack o6 M) mf_X10_laysBack lk_X10_423 im_X10_laysBack se_X10_laysBack rfl rfl rfl dX10_howManyBy_67 rfl (by decide) (Nat.le_trans c_0 (by decide)) (fun u5 M => ?_)
      refine R_iload (pc' := 72) (i := 4) (j := 0) (x := r4) dX10_howManyBy_70 rfl rfl ?_
      exact R_iret dX10_howManyBy_72
    · refine R_aloadq_n (pc' := 27) (i := 0) (j := 0) (q := (some this)) dX10_howManyBy_26 rfl rfl rfl ?_
      refine R_getR (pc' := 30) (q := (some this)) fl_X10_22 rfl dX10_howManyBy_27 rfl (fun heard9 => ?_)
      refine R_iload (pc' := 32) (i := 4) (j := 3) (x := l4) dX10_howManyBy_30 rfl rfl ?_
      refine R_iload_n (pc' := 33) (i := 1) (j := 1) (x := l1) dX10_howManyBy_32 rfl rfl rfl ?_
      refine R_iload (pc' := 35) (i := 4) (j := 3) (x := l4) dX10_howManyBy_33 rfl rfl ?_
      refine R_callS_I (pc' := 38) (As := [.int l1, .int l4]) (rm_X10_has l1 l4 M) mf_X10_has lk_X10_353 sm_X10_has rfl rfl dX10_howManyBy_35 rfl (by decide) (Nat.le_trans (c_I (c_R c_0)) (by decide)) (fun r10 M => ?_)
      refine R_if_eq (pc' := 41) (tgt := 45) (a := r10) dX10_howManyBy_38 (by decide) rfl ?_ ?_
      · refine R_sipush (pc' := 48) (x := (-1000 : Int32)) dX10_howManyBy_45 rfl (by decide) ?_
        exact R_sub [0, 1, 2, 3] rfl (rf_X10_howManyBy_J48 this (f_X10_howManyBy_L15 this n) ih l1 l3 l4 (-1000 : Int32) l4 heard9 M)
      · refine R_iconst (pc' := 42) (x := (-1 : Int32)) dX10_howManyBy_41 rfl (by decide) ?_
        refine R_goto (tgt := 48) dX10_howManyBy_42 (by decide) ?_
        exact R_sub [0, 1, 2, 3] rfl (rf_X10_howManyBy_J48 this (f_X10_howManyBy_L15 this n) ih l1 l3 l4 (-1 : Int32) l4 heard9 M)
def f_X10_howManyBy (this : Nat) (l1 : Int32) (l2 : Int32) (l3 : Int32) (M : Mem) : Option (Int32 × Mem) :=
  (gR M 10 1 (some this)).bind fun scalar1 =>
  (wI M 0 scalar1 (nI 8) l2).bind fun M =>
  (oO M 10 (some this)).bind fun o3 => cl (f_X10_begins o3 M) fun u2 M =>
  f_X10_howManyBy_L15 this FU l1 l3 (nI 0) M
set_option maxHeartbeats 2000000 in
set_option maxRecDepth 20000 in
theorem rm_X10_howManyBy (this : Nat) (l1 : Int32) (l2 : Int32) (l3 : Int32) (M : Mem) : RFm yX10_howManyBy cX10_howManyBy 5 (some .int) 11 eI (f_X10_howManyBy this l1 l2 l3 M) [va_rf (some this), .int l1, .int l2, .int l3] M := by
  refine RFm_of (L := [(0, va_rf (some this)), (1, .int l1), (2, .int l2), (3, .int l3)]) (by decide) rfl (Nat.le_trans (c_R (c_I (c_I (c_I c_0)))) (by decide)) ?_
  rw [f_X10_howManyBy]
  refine R_aloadq_n (pc' := 1) (i := 0) (j := 0) (q := (some this)) dX10_howManyBy_0 rfl rfl rfl ?_
  refine R_getR (pc' := 4) (q := (some this)) fl_X10_9 rfl dX10_howManyBy_1 rfl (fun scalar1 => ?_)
  refine R_bipush (pc' := 6) (x := (nI 8)) dX10_howManyBy_4 rfl (by decide) ?_
  refine R_iload_n (pc' := 7) (i := 2) (j := 2) (x := l2) dX10_howManyBy_6 rfl rfl rfl ?_
  refine R_iast (pc' := 8) (q := scalar1) (i := (nI 8)) (x := l2) dX10_howManyBy_7 rfl (fun M => ?_)
  refine R_aloadq_n (pc' := 9) (i := 0) (j := 0) (q := (some this)) dX10_howManyBy_8 rfl rfl rfl ?_
  refine R_callV_V (pc' := 12) (q := (some this)) (As := []) (fun o3 => rm_X10_begins o3 M) mf_X10_begins lk_X10_296 im_X10_begins se_X10_begins rfl rfl rfl dX10_howManyBy_9 rfl (by decide) (Nat.le_trans c_0 (by decide)) (fun u2 M => ?_)
  refine R_iconst (pc' := 13) (x := (nI 0)) dX10_howManyBy_12 rfl (by decide) ?_
  refine R_istore (pc' := 15) (L' := [(4, .int (nI 0)), (0, va_rf (some this)), (1, .int l1), (2, .int l2), (3, .int l3)]) (i := 4) (x := (nI 0)) dX10_howManyBy_13 rfl (by decide) rfl ?_
  exact R_sub [1, 2, 4, 0] rfl (rf_X10_howManyBy_L15 this FU l1 l3 (nI 0) M)
/-! BarPilotModel.old(IIII)I -/
def f_X10_old_J62 (this : Nat) (M : Mem) : Option (Int32 × Mem) :=
  some ((-3 : Int32), M)
set_option maxHeartbeats 2000000 in
set_option maxRecDepth 20000 in
theorem rf_X10_old_J62 (this : Nat) (M : Mem) : RF yX10_old cX10_old 9 (some .int) 12 eI (f_X10_old_J62 this M) 62 [] [] M := by
  rw [f_X10_old_J62]
  refine R_bipush (pc' := 64) (x := (-3 : Int32)) dX10_old_62 rfl (by decide) ?_
  exact R_iret dX10_old_64
def f_X10_old_J170 (this : Nat) (s0 : Int32) (M : Mem) : Option (Int32 × Mem) :=
  some (s0, M)
set_option maxHeartbeats 2000000 in
set_option maxRecDepth 20000 in
theorem rf_X10_old_J170 (this : Nat) (s0 : Int32) (M : Mem) : RF yX10_old cX10_old 9 (some .int) 12 eI (f_X10_old_J170 this s0 M) 170 [] [.int s0] M := by
  rw [f_X10_old_J170]
  exact R_iret dX10_old_170
def f_X10_old_J141 (k82 : Int32 → Int32 → Int32 → Int32 → Int32 → Int32 → Int32 → Int32 → Mem → Option (Int32 × Mem)) (this : Nat) (l1 : Int32) (l2 : Int32) (l3 : Int32) (l4 : Int32) (l5 : Int32) (l6 : Int32) (l7 : Int32) (l8 : Int32) (M : Mem) : Option (Int32 × Mem) :=
  k82 l1 l2 l3 l4 l5 l6 l7 (l8 + (nI 1)) M
set_option maxHeartbeats 2000000 in
set_option maxRecDepth 20000 in
theorem rf_X10_old_J141 (this : Nat) (k82 : Int32 → Int32 → Int32 → Int32 → Int32 → Int32 → Int32 → Int32 → Mem → Option (Int32 × Mem)) (hk82 : ∀ (l1 : Int32) (l2 : Int32) (l3 : Int32) (l4 : Int32) (l5 : Int32) (l6 : Int32) (l7 : Int32) (l8 : Int32) (M : Mem), RF yX10_old cX10_old 9 (some .int) 12 eI (k82 l1 l2 l3 l4 l5 l6 l7 l8 M) 82 [(0, va_rf (some this)), (1, .int l1), (2, .int l2), (3, .int l3), (4, .int l4), (5, .int l5), (6, .int l6), (7, .int l7), (8, .int l8)] [] M) (l1 : Int32) (l2 : Int32) (l3 : Int32) (l4 : Int32) (l5 : Int32) (l6 : Int32) (l7 : Int32) (l8 : Int32) (M : Mem) : RF yX10_old cX10_old 9 (some .int) 12 eI (f_X10_old_J141 k82 this l1 l2 l3 l4 l5 l6 l7 l8 M) 141 [(0, va_rf (some this)), (1, .int l1), (2, .int l2), (3, .int l3), (4, .int l4), (5, .int l5), (6, .int l6), (7, .int l7), (8, .int l8)] [] M := by
  rw [f_X10_old_J141]
  refine R_iinc (pc' := 144) (L' := [(8, .int (l8 + (nI 1))), (0, va_rf (some this)), (1, .int l1), (2, .int l2), (3, .int l3), (4, .int l4), (5, .int l5), (6, .int l6), (7, .int l7)]) (i := 8) (j := 8) (x := l8) (x2 := (l8 + (nI 1))) dX10_old_141 rfl rfl rfl (by decide) rfl ?_
  refine R_goto (tgt := 82) dX10_old_144 (by decide) ?_
  exact R_sub [1, 2, 3, 4, 5, 6, 7, 8, 0] rfl (hk82 l1 l2 l3 l4 l5 l6 l7 (l8 + (nI 1)) M)
def f_X10_old_J136 (k82 : Int32 → Int32 → Int32 → Int32 → Int32 → Int32 → Int32 → Int32 → Mem → Option (Int32 × Mem)) (this : Nat) (l1 : Int32) (l2 : Int32) (l3 : Int32) (l4 : Int32) (l5 : Int32) (l6 : Int32) (l8 : Int32) (s0 : Int32) (M : Mem) : Option (Int32 × Mem) :=
  f_X10_old_J141 k82 this l1 l2 l3 l4 (l5 + (nI 1)) l6 s0 l8 M
set_option maxHeartbeats 2000000 in
set_option maxRecDepth 20000 in
theorem rf_X10_old_J136 (this : Nat) (k82 : Int32 → Int32 → Int32 → Int32 → Int32 → Int32 → Int32 → Int32 → Mem → Option (Int32 × Mem)) (hk82 : ∀ (l1 : Int32) (l2 : Int32) (l3 : Int32) (l4 : Int32) (l5 : Int32) (l6 : Int32) (l7 : Int32) (l8 : Int32) (M : Mem), RF yX10_old cX10_old 9 (some .int) 12 eI (k82 l1 l2 l3 l4 l5 l6 l7 l8 M) 82 [(0, va_rf (some this)), (1, .int l1), (2, .int l2), (3, .int l3), (4, .int l4), (5, .int l5), (6, .int l6), (7, .int l7), (8, .int l8)] [] M) (l1 : Int32) (l2 : Int32) (l3 : Int32) (l4 : Int32) (l5 : Int32) (l6 : Int32) (l8 : Int32) (s0 : Int32) (M : Mem) : RF yX10_old cX10_old 9 (some .int) 12 eI (f_X10_old_J136 k82 this l1 l2 l3 l4 l5 l6 l8 s0 M) 136 [(0, va_rf (some this)), (1, .int l1), (2, .int l2), (3, .int l3), (4, .int l4), (5, .int l5), (6, .int l6), (8, .int l8)] [.int s0] M := by
  rw [f_X10_old_J136]
  refine R_istore (pc' := 138) (L' := [(7, .int s0), (0, va_rf (some this)), (1, .int l1), (2, .int l2), (3, .int l3), (4, .int l4), (5, .int l5), (6, .int l6), (8, .int l8)]) (i := 7) (x := s0) dX10_old_136 rfl (by decide) rfl ?_
  refine R_iinc (pc' := 141) (L' := [(5, .int (l5 + (nI 1))), (7, .int s0), (0, va_rf (some this)), (1, .int l1), (2, .int l2), (3, .int l3), (4, .int l4), (6, .int l6), (8, .int l8)]) (i := 5) (j := 6) (x := l5) (x2 := (l5 + (nI 1))) dX10_old_138 rfl rfl rfl (by decide) rfl ?_
  exact R_sub [2, 3, 4, 5, 6, 0, 7, 1, 8] rfl (rf_X10_old_J141 this k82 hk82 l1 l2 l3 l4 (l5 + (nI 1)) l6 s0 l8 M)
def f_X10_old_J119 (k82 : Int32 → Int32 → Int32 → Int32 → Int32 → Int32 → Int32 → Int32 → Mem → Option (Int32 × Mem)) (this : Nat) (l1 : Int32) (l2 : Int32) (l3 : Int32) (l4 : Int32) (l5 : Int32) (l7 : Int32) (l8 : Int32) (s0 : Int32) (M : Mem) : Option (Int32 × Mem) :=
  (if l5 = 0 then
    (f_X10_old_J136 k82 this l1 l2 l3 l4 l5 s0 l8 l8 M)
  else
    (f_X10_old_J136 k82 this l1 l2 l3 l4 l5 s0 l8 (l7 &&& l8) M))
set_option maxHeartbeats 2000000 in
set_option maxRecDepth 20000 in
theorem rf_X10_old_J119 (this : Nat) (k82 : Int32 → Int32 → Int32 → Int32 → Int32 → Int32 → Int32 → Int32 → Mem → Option (Int32 × Mem)) (hk82 : ∀ (l1 : Int32) (l2 : Int32) (l3 : Int32) (l4 : Int32) (l5 : Int32) (l6 : Int32) (l7 : Int32) (l8 : Int32) (M : Mem), RF yX10_old cX10_old 9 (some .int) 12 eI (k82 l1 l2 l3 l4 l5 l6 l7 l8 M) 82 [(0, va_rf (some this)), (1, .int l1), (2, .int l2), (3, .int l3), (4, .int l4), (5, .int l5), (6, .int l6), (7, .int l7), (8, .int l8)] [] M) (l1 : Int32) (l2 : Int32) (l3 : Int32) (l4 : Int32) (l5 : Int32) (l7 : Int32) (l8 : Int32) (s0 : Int32) (M : Mem) : RF yX10_old cX10_old 9 (some .int) 12 eI (f_X10_old_J119 k82 this l1 l2 l3 l4 l5 l7 l8 s0 M) 119 [(0, va_rf (some this)), (1, .int l1), (2, .int l2), (3, .int l3), (4, .int l4), (5, .int l5), (7, .int l7), (8, .int l8)] [.int s0] M := by
  rw [f_X10_old_J119]
  refine R_istore (pc' := 121) (L' := [(6, .int s0), (0, va_rf (some this)), (1, .int l1), (2, .int l2), (3, .int l3), (4, .int l4), (5, .int l5), (7, .int l7), (8, .int l8)]) (i := 6) (x := s0) dX10_old_119 rfl (by decide) rfl ?_
  refine R_iload (pc' := 123) (i := 5) (j := 6) (x := l5) dX10_old_121 rfl rfl ?_
  refine R_if_ne (pc' := 126) (tgt := 131) (a := l5) dX10_old_123 (by decide) rfl ?_ ?_
  · refine R_iload (pc' := 133) (i := 7) (j := 7) (x := l7) dX10_old_131 rfl rfl ?_
    refine R_iload (pc' := 135) (i := 8) (j := 8) (x := l8) dX10_old_133 rfl rfl ?_
    refine R_iand (pc' := 136) (a := l7) (b := l8) dX10_old_135 rfl ?_
    exact R_sub [1, 2, 3, 4, 5, 6, 0, 8] rfl (rf_X10_old_J136 this k82 hk82 l1 l2 l3 l4 l5 s0 l8 (l7 &&& l8) M)
  · refine R_iload (pc' := 128) (i := 8) (j := 8) (x := l8) dX10_old_126 rfl rfl ?_
    refine R_goto (tgt := 136) dX10_old_128 (by decide) ?_
    exact R_sub [1, 2, 3, 4, 5, 6, 0, 8] rfl (rf_X10_old_J136 this k82 hk82 l1 l2 l3 l4 l5 s0 l8 l8 M)
def f_X10_old_L82 (this : Nat) : Nat → Int32 → Int32 → Int32 → Int32 → Int32 → Int32 → Int32 → Int32 → Mem → Option (Int32 × Mem)
  | 0, _, _, _, _, _, _, _, _, _ => none
  | n + 1, l1, l2, l3, l4, l5, l6, l7, l8, M =>
    (gR M 10 1 (some this)).bind fun scalar1 =>
    (aI M 0 scalar1 (nI 2)).bind fun e2 =>
    (if ((nI 1) <<< (e2 &&& 31)) ≤ l8 then
      ((if l4 = 0 then
        (f_X10_old_J170 this l5 M)
      else
        ((if l4 = (nI 1) then
          (f_X10_old_J170 this l6 M)
        else
          (f_X10_old_J170 this l7 M)))))
    else
      ((oO M 10 (some this)).bind fun o4 => cl (f_X10_howManyBy o4 l8 l1 l2 M) fun r3 M =>
      (if r3 = l3 then
        ((if l5 = 0 then
          (f_X10_old_J119 (f_X10_old_L82 this n) this l1 l2 l3 l4 l5 l7 l8 l8 M)
        else
          (f_X10_old_J119 (f_X10_old_L82 this n) this l1 l2 l3 l4 l5 l7 l8 l6 M)))
      else
        (f_X10_old_J141 (f_X10_old_L82 this n) this l1 l2 l3 l4 l5 l6 l7 l8 M))))
set_option maxHeartbeats 2000000 in
set_option maxRecDepth 20000 in
theorem rf_X10_old_L82 (this : Nat) : ∀ (n : Nat) (l1 : Int32) (l2 : Int32) (l3 : Int32) (l4 : Int32) (l5 : Int32) (l6 : Int32) (l7 : Int32) (l8 : Int32) (M : Mem), RF yX10_old cX10_old 9 (some .int) 12 eI (f_X10_old_L82 this n l1 l2 l3 l4 l5 l6 l7 l8 M) 82 [(0, va_rf (some this)), (1, .int l1), (2, .int l2), (3, .int l3), (4, .int l4), (5, .int l5), (6, .int l6), (7, .int l7), (8, .int l8)] [] M := by
  intro n
  induction n with
  | zero => intro _ _ _ _ _ _ _ _ _; exact RF.none
  | succ n ih =>
    intro l1 l2 l3 l4 l5 l6 l7 l8 M
    rw [f_X10_old_L82]
    refine R_iload (pc' := 84) (i := 8) (j := 8) (x := l8) dX10_old_82 rfl rfl ?_
    refine R_iconst (pc' := 85) (x := (nI 1)) dX10_old_84 rfl (by decide) ?_
    refine R_aloadq_n (pc' := 86) (i := 0) (j := 0) (q := (some this)) dX10_old_85 rfl rfl rfl ?_
    refine R_getR (pc' := 89) (q := (some this)) fl_X10_9 rfl dX10_old_86 rfl (fun scalar1 => ?_)
    refine R_iconst (pc' := 90) (x := (nI 2)) dX10_old_89 rfl (by decide) ?_
    refine R_iald (pc' := 91) (q := scalar1) (i := (nI 2)) dX10_old_90 rfl (fun e2 => ?_)
    refine R_ishl (pc' := 92) (a := (nI 1)) (b := e2) dX10_old_91 rfl ?_
    refine R_icmp_ge (pc' := 95) (tgt := 147) (a := l8) (b := ((nI 1) <<< (e2 &&& 31))) dX10_old_92 (by decide) rfl ?_ ?_
    · refine R_iload (pc' := 149) (i := 4) (j := 4) (x := l4) dX10_old_147 rfl rfl ?_
      refine R_if_ne (pc' := 152) (tgt := 157) (a := l4) dX10_old_149 (by decide) rfl ?_ ?_
      · refine R_iload (pc' := 159) (i := 4) (j := 4) (x := l4) dX10_old_157 rfl rfl ?_
        refine R_iconst (pc' := 160) (x := (nI 1)) dX10_old_159 rfl (by decide) ?_
        refine R_icmp_ne (pc' := 163) (tgt := 168) (a := l4) (b := (nI 1)) dX10_old_160 (by decide) rfl ?_ ?_
        · refine R_iload (pc' := 170) (i := 7) (j := 7) (x := l7) dX10_old_168 rfl rfl ?_
          exact R_sub [] rfl (rf_X10_old_J170 this l7 M)
        · refine R_iload (pc' := 165) (i := 6) (j := 6) (x := l6) dX10_old_163 rfl rfl ?_
          refine R_goto (tgt := 170) dX10_old_165 (by decide) ?_
          exact R_sub [] rfl (rf_X10_old_J170 this l6 M)
      · refine R_iload (pc' := 154) (i := 5) (j := 5) (x := l5) dX10_old_152 rfl rfl ?_
        refine R_goto (tgt := 170) dX10_old_154 (by decide) ?_
        exact R_sub [] rfl (rf_X10_old_J170 this l5 M)
    · refine R_aloadq_n (pc' := 96) (i := 0) (j := 0) (q := (some this)) dX10_old_95 rfl rfl rfl ?_
      refine R_iload (pc' := 98) (i := 8) (j := 8) (x := l8) dX10_old_96 rfl rfl ?_
      refine R_iload_n (pc' := 99) (i := 1) (j := 1) (x := l1) dX10_old_98 rfl rfl rfl ?_
      refine R_iload_n (pc' := 100) (i := 2) (j := 2) (x := l2) dX10_old_99 rfl rfl rfl ?_
      refine R_callV_I (pc' := 103) (q := (some this)) (As := [.int l8, .int l1, .int l2]) (fun o4 => rm_X10_howManyBy o4 l8 l1 l2 M) mf_X10_howManyBy lk_X10_451 im_X10_howManyBy se_X10_howManyBy rfl rfl rfl dX10_old_100 rfl (by decide) (Nat.le_trans c_0 (by decide)) (fun r3 M => ?_)
      refine R_iload_n (pc' := 104) (i := 3) (j := 3) (x := l3) dX10_old_103 rfl rfl rfl ?_
      refine R_icmp_ne (pc' := 107) (tgt := 141) (a := r3) (b := l3) dX10_old_104 (by decide) rfl ?_ ?_
      · exact R_sub [0, 1, 2, 3, 4, 5, 6, 7, 8] rfl (rf_X10_old_J141 this (f_X10_old_L82 this n) ih l1 l2 l3 l4 l5 l6 l7 l8 M)
      · refine R_iload (pc' := 109) (i := 5) (j := 5) (x := l5) dX10_old_107 rfl rfl ?_
        refine R_if_ne (pc' := 112) (tgt := 117) (a := l5) dX10_old_109 (by decide) rfl ?_ ?_
        · refine R_iload (pc' := 119) (i := 6) (j := 6) (x := l6) dX10_old_117 rfl rfl ?_
          exact R_sub [0, 1, 2, 3, 4, 5, 7, 8] rfl (rf_X10_old_J119 this (f_X10_old_L82 this n) ih l1 l2 l3 l4 l5 l7 l8 l6 M)
        · refine R_iload (pc' := 114) (i := 8) (j := 8) (x := l8) dX10_old_112 rfl rfl ?_
          refine R_goto (tgt := 119) dX10_old_114 (by decide) ?_
          exact R_sub [0, 1, 2, 3, 4, 5, 7, 8] rfl (rf_X10_old_J119 this (f_X10_old_L82 this n) ih l1 l2 l3 l4 l5 l7 l8 l8 M)
def f_X10_old (this : Nat) (l1 : Int32) (l2 : Int32) (l3 : Int32) (l4 : Int32) (M : Mem) : Option (Int32 × Mem) :=
  (oO M 10 (some this)).bind fun o9 => cl (f_X10_isBar o9 M) fun r1 M =>
  (if r1 = 0 then
    (f_X10_old_J62 this M)
  else
    ((gI M 10 21 (some this)).bind fun rules2 =>
    cl (f_X10_in (Int32.toInt64 l1) (-1 : Int64) (Int32.toInt64 (rules2 - (nI 1))) M) fun r3 M =>
    (if r3 = 0 then
      (f_X10_old_J62 this M)
    else
      (cl (f_X10_in (Int32.toInt64 l2) (1 : Int64) (60 : Int64) M) fun r4 M =>
      (if r4 = 0 then
        (f_X10_old_J62 this M)
      else
        (cl (f_X10_in (Int32.toInt64 l3) (0 : Int64) (5 : Int64) M) fun r5 M =>
        (if r5 = 0 then
          (f_X10_old_J62 this M)
        else
          (cl (f_X10_in (Int32.toInt64 l4) (0 : Int64) (2 : Int64) M) fun r6 M =>
          (if r6 = 0 then
            (f_X10_old_J62 this M)
          else
            ((oO M 10 (some this)).bind fun o8 => cl (f_X10_keepsAll o8 M) fun u7 M =>
            f_X10_old_L82 this FU l1 l2 l3 l4 (nI 0) (-2 : Int32) (nI 0) (nI 0) M))))))))))
set_option maxHeartbeats 2000000 in
set_option maxRecDepth 20000 in
theorem rm_X10_old (this : Nat) (l1 : Int32) (l2 : Int32) (l3 : Int32) (l4 : Int32) (M : Mem) : RFm yX10_old cX10_old 9 (some .int) 12 eI (f_X10_old this l1 l2 l3 l4 M) [va_rf (some this), .int l1, .int l2, .int l3, .int l4] M := by
  refine RFm_of (L := [(0, va_rf (some this)), (1, .int l1), (2, .int l2), (3, .int l3), (4, .int l4)]) (by decide) rfl (Nat.le_trans (c_R (c_I (c_I (c_I (c_I c_0))))) (by decide)) ?_
  rw [f_X10_old]
  refine R_aloadq_n (pc' := 1) (i := 0) (j := 0) (q := (some this)) dX10_old_0 rfl rfl rfl ?_
  refine R_callV_I (pc' := 4) (q := (some this)) (As := []) (fun o9 => rm_X10_isBar o9 M) mf_X10_isBar lk_X10_411 im_X10_isBar se_X10_isBar rfl rfl rfl dX10_old_1 rfl (by decide) (Nat.le_trans c_0 (by decide)) (fun r1 M => ?_)
  refine R_if_eq (pc' := 7) (tgt := 62) (a := r1) dX10_old_4 (by decide) rfl ?_ ?_
  · exact R_sub [] rfl (rf_X10_old_J62 this M)
  · refine R_iload_n (pc' := 8) (i := 1) (j := 1) (x := l1) dX10_old_7 rfl rfl rfl ?_
    refine R_i2l (pc' := 9) (a := l1) dX10_old_8 rfl ?_
    refine R_ldc2 (pc' := 12) (x := (-1 : Int64)) dX10_old_9 rfl c2_X10_318 ?_
    refine R_aloadq_n (pc' := 13) (i := 0) (j := 0) (q := (some this)) dX10_old_12 rfl rfl rfl ?_
    refine R_getI (pc' := 16) (q := (some this)) fl_X10_312 rfl dX10_old_13 rfl (fun rules2 => ?_)
    refine R_iconst (pc' := 17) (x := (nI 1)) dX10_old_16 rfl (by decide) ?_
    refine R_isub (pc' := 18) (a := rules2) (b := (nI 1)) dX10_old_17 rfl ?_
    refine R_i2l (pc' := 19) (a := (rules2 - (nI 1))) dX10_old_18 rfl ?_
    refine R_callS_I (pc' := 22) (As := [.long (Int32.toInt64 l1), .long (-1 : Int64), .long (Int32.toInt64 (rules2 - (nI 1)))]) (rm_X10_in (Int32.toInt64 l1) (-1 : Int64) (Int32.toInt64 (rules2 - (nI 1))) M) mf_X10_in lk_X10_131 sm_X10_in rfl rfl dX10_old_19 rfl (by decide) (Nat.le_trans c_0 (by decide)) (fun r3 M => ?_)
    refine R_if_eq (pc' := 25) (tgt := 62) (a := r3) dX10_old_22 (by decide) rfl ?_ ?_
    · exact R_sub [] rfl (rf_X10_old_J62 this M)
    · refine R_iload_n (pc' := 26) (i := 2) (j := 2) (x := l2) dX10_old_25 rfl rfl rfl ?_
      refine R_i2l (pc' := 27) (a := l2) dX10_old_26 rfl ?_
      refine R_lconst (pc' := 28) (x := (1 : Int64)) dX10_old_27 rfl (by decide) ?_
      refine R_ldc2 (pc' := 31) (x := (60 : Int64)) dX10_old_28 rfl c2_X10_444 ?_
      refine R_callS_I (pc' := 34) (As := [.long (Int32.toInt64 l2), .long (1 : Int64), .long (60 : Int64)]) (rm_X10_in (Int32.toInt64 l2) (1 : Int64) (60 : Int64) M) mf_X10_in lk_X10_131 sm_X10_in rfl rfl dX10_old_31 rfl (by decide) (Nat.le_trans c_0 (by decide)) (fun r4 M => ?_)
      refine R_if_eq (pc' := 37) (tgt := 62) (a := r4) dX10_old_34 (by decide) rfl ?_ ?_
      · exact R_sub [] rfl (rf_X10_old_J62 this M)
      · refine R_iload_n (pc' := 38) (i := 3) (j := 3) (x := l3) dX10_old_37 rfl rfl rfl ?_
        refine R_i2l (pc' := 39) (a := l3) dX10_old_38 rfl ?_
        refine R_lconst (pc' := 40) (x := (0 : Int64)) dX10_old_39 rfl (by decide) ?_
        refine R_ldc2 (pc' := 43) (x := (5 : Int64)) dX10_old_40 rfl c2_X10_449 ?_
        refine R_callS_I (pc' := 46) (As := [.long (Int32.toInt64 l3), .long (0 : Int64), .long (5 : Int64)]) (rm_X10_in (Int32.toInt64 l3) (0 : Int64) (5 : Int64) M) mf_X10_in lk_X10_131 sm_X10_in rfl rfl dX10_old_43 rfl (by decide) (Nat.le_trans c_0 (by decide)) (fun r5 M => ?_)
        refine R_if_eq (pc' := 49) (tgt := 62) (a := r5) dX10_old_46 (by decide) rfl ?_ ?_
        · exact R_sub [] rfl (rf_X10_old_J62 this M)
        · refine R_iload (pc' := 51) (i := 4) (j := 4) (x := l4) dX10_old_49 rfl rfl ?_
          refine R_i2l (pc' := 52) (a := l4) dX10_old_51 rfl ?_
          refine R_lconst (pc' := 53) (x := (0 : Int64)) dX10_old_52 rfl (by decide) ?_
          refine R_ldc2 (pc' := 56) (x := (2 : Int64)) dX10_old_53 rfl c2_X10_426 ?_
          refine R_callS_I (pc' := 59) (As := [.long (Int32.toInt64 l4), .long (0 : Int64), .long (2 : Int64)]) (rm_X10_in (Int32.toInt64 l4) (0 : Int64) (2 : Int64) M) mf_X10_in lk_X10_131 sm_X10_in rfl rfl dX10_old_56 rfl (by decide) (Nat.le_trans c_0 (by decide)) (fun r6 M => ?_)
          refine R_if_ne (pc' := 62) (tgt := 65) (a := r6) dX10_old_59 (by decide) rfl ?_ ?_
          · refine R_iconst (pc' := 66) (x := (nI 0)) dX10_old_65 rfl (by decide) ?_
            refine R_istore (pc' := 68) (L' := [(5, .int (nI 0)), (0, va_rf (some this)), (1, .int l1), (2, .int l2), (3, .int l3), (4, .int l4)]) (i := 5) (x := (nI 0)) dX10_old_66 rfl (by decide) rfl ?_
            refine R_bipush (pc' := 70) (x := (-2 : Int32)) dX10_old_68 rfl (by decide) ?_
            refine R_istore (pc' := 72) (L' := [(6, .int (-2 : Int32)), (5, .int (nI 0)), (0, va_rf (some this)), (1, .int l1), (2, .int l2), (3, .int l3), (4, .int l4)]) (i := 6) (x := (-2 : Int32)) dX10_old_70 rfl (by decide) rfl ?_
            refine R_iconst (pc' := 73) (x := (nI 0)) dX10_old_72 rfl (by decide) ?_
            refine R_istore (pc' := 75) (L' := [(7, .int (nI 0)), (6, .int (-2 : Int32)), (5, .int (nI 0)), (0, va_rf (some this)), (1, .int l1), (2, .int l2), (3, .int l3), (4, .int l4)]) (i := 7) (x := (nI 0)) dX10_old_73 rfl (by decide) rfl ?_
            refine R_aloadq_n (pc' := 76) (i := 0) (j := 3) (q := (some this)) dX10_old_75 rfl rfl rfl ?_
            refine R_callV_V (pc' := 79) (q := (some this)) (As := []) (fun o8 => rm_X10_keepsAll o8 M) mf_X10_keepsAll lk_X10_430 im_X10_keepsAll se_X10_keepsAll rfl rfl rfl dX10_old_76 rfl (by decide) (Nat.le_trans c_0 (by decide)) (fun u7 M => ?_)
            refine R_iconst (pc' := 80) (x := (nI 0)) dX10_old_79 rfl (by decide) ?_
            refine R_istore (pc' := 82) (L' := [(8, .int (nI 0)), (7, .int (nI 0)), (6, .int (-2 : Int32)), (5, .int (nI 0)), (0, va_rf (some this)), (1, .int l1), (2, .int l2), (3, .int l3), (4, .int l4)]) (i := 8) (x := (nI 0)) dX10_old_80 rfl (by decide) rfl ?_
            exact R_sub [4, 5, 6, 7, 8, 3, 2, 1, 0] rfl (rf_X10_old_L82 this FU l1 l2 l3 l4 (nI 0) (-2 : Int32) (nI 0) (nI 0) M)
          · exact R_sub [] rfl (rf_X10_old_J62 this M)
/-! BarPilotModel.playOf(IIIII)I -/
def f_X10_playOf_J161 (this : Nat) (s0 : Int32) (M : Mem) : Option (Int32 × Mem) :=
  (oO M 10 (some this)).bind fun o2 => cl (f_X10_laysBack o2 M) fun u1 M =>
  some (s0, M)
set_option maxHeartbeats 2000000 in
set_option maxRecDepth 20000 in
theorem rf_X10_playOf_J161 (this : Nat) (s0 : Int32) (M : Mem) : RF yX10_playOf cX10_playOf 11 (some .int) 5 eI (f_X10_playOf_J161 this s0 M) 161 [(0, va_rf (some this))] [.int s0] M := by
  rw [f_X10_playOf_J161]
  refine R_istore (pc' := 163) (L' := [(8, .int s0), (0, va_rf (some this))]) (i := 8) (x := s0) dX10_playOf_161 rfl (by decide) rfl ?_
  refine R_aloadq_n (pc' := 164) (i := 0) (j := 1) (q := (some this)) dX10_playOf_163 rfl rfl rfl ?_
  refine R_callV_V (pc' := 167) (q := (some this)) (As := []) (fun o2 => rm_X10_laysBack o2 M) mf_X10_laysBack lk_X10_423 im_X10_laysBack se_X10_laysBack rfl rfl rfl dX10_playOf_164 rfl (by decide) (Nat.le_trans c_0 (by decide)) (fun u1 M => ?_)
  refine R_iload (pc' := 169) (i := 8) (j := 0) (x := s0) dX10_playOf_167 rfl rfl ?_
  exact R_iret dX10_playOf_169
def f_X10_playOf_J139 (this : Nat) (l1 : Int32) (l2 : Int32) (l7 : Int32) (M : Mem) : Option (Int32 × Mem) :=
  (if l7 = 0 then
    (f_X10_playOf_J161 this (-100000 : Int32) M)
  else
    ((oO M 10 (some this)).bind fun o4 => cl (f_X10_earns o4 l1 M) fun r1 M =>
    (oO M 10 (some this)).bind fun o3 => cl (f_X10_earns o3 l2 M) fun r2 M =>
    f_X10_playOf_J161 this (r1 - r2) M))
set_option maxHeartbeats 2000000 in
set_option maxRecDepth 20000 in
theorem rf_X10_playOf_J139 (this : Nat) (l1 : Int32) (l2 : Int32) (l7 : Int32) (M : Mem) : RF yX10_playOf cX10_playOf 11 (some .int) 5 eI (f_X10_playOf_J139 this l1 l2 l7 M) 139 [(0, va_rf (some this)), (1, .int l1), (2, .int l2), (7, .int l7)] [] M := by
  rw [f_X10_playOf_J139]
  refine R_iload (pc' := 141) (i := 7) (j := 3) (x := l7) dX10_playOf_139 rfl rfl ?_
  refine R_if_eq (pc' := 144) (tgt := 158) (a := l7) dX10_playOf_141 (by decide) rfl ?_ ?_
  · refine R_ldcw (pc' := 161) (x := (-100000 : Int32)) dX10_playOf_158 rfl co_X10_455 ?_
    exact R_sub [0] rfl (rf_X10_playOf_J161 this (-100000 : Int32) M)
  · refine R_aloadq_n (pc' := 145) (i := 0) (j := 0) (q := (some this)) dX10_playOf_144 rfl rfl rfl ?_
    refine R_iload_n (pc' := 146) (i := 1) (j := 1) (x := l1) dX10_playOf_145 rfl rfl rfl ?_
    refine R_callV_I (pc' := 149) (q := (some this)) (As := [.int l1]) (fun o4 => rm_X10_earns o4 l1 M) mf_X10_earns lk_X10_361 im_X10_earns se_X10_earns rfl rfl rfl dX10_playOf_146 rfl (by decide) (Nat.le_trans c_0 (by decide)) (fun r1 M => ?_)
    refine R_aloadq_n (pc' := 150) (i := 0) (j := 0) (q := (some this)) dX10_playOf_149 rfl rfl rfl ?_
    refine R_iload_n (pc' := 151) (i := 2) (j := 2) (x := l2) dX10_playOf_150 rfl rfl rfl ?_
    refine R_callV_I (pc' := 154) (q := (some this)) (As := [.int l2]) (fun o3 => rm_X10_earns o3 l2 M) mf_X10_earns lk_X10_361 im_X10_earns se_X10_earns rfl rfl rfl dX10_playOf_151 rfl (by decide) (Nat.le_trans (c_I c_0) (by decide)) (fun r2 M => ?_)
    refine R_isub (pc' := 155) (a := r1) (b := r2) dX10_playOf_154 rfl ?_
    refine R_goto (tgt := 161) dX10_playOf_155 (by decide) ?_
    exact R_sub [0] rfl (rf_X10_playOf_J161 this (r1 - r2) M)
def f_X10_playOf_J123 (k10 : Int32 → Int32 → Int32 → Int32 → Int32 → Int32 → Int32 → Mem → Option (Int32 × Mem)) (this : Nat) (l1 : Int32) (l2 : Int32) (l3 : Int32) (l4 : Int32) (l6 : Int32) (l7 : Int32) (l8 : Int32) (M : Mem) : Option (Int32 × Mem) :=
  (gR M 10 1 (some this)).bind fun scalar1 =>
  (aI M 0 scalar1 (nI 4)).bind fun e2 =>
  (wI M 0 scalar1 (nI 4) (e2 + (nI 1))).bind fun M =>
  k10 l1 l2 l3 l4 l6 l7 (l8 + (nI 1)) M
set_option maxHeartbeats 2000000 in
set_option maxRecDepth 20000 in
theorem rf_X10_playOf_J123 (this : Nat) (k10 : Int32 → Int32 → Int32 → Int32 → Int32 → Int32 → Int32 → Mem → Option (Int32 × Mem)) (hk10 : ∀ (l1 : Int32) (l2 : Int32) (l3 : Int32) (l4 : Int32) (l6 : Int32) (l7 : Int32) (l8 : Int32) (M : Mem), RF yX10_playOf cX10_playOf 11 (some .int) 5 eI (k10 l1 l2 l3 l4 l6 l7 l8 M) 10 [(0, va_rf (some this)), (1, .int l1), (2, .int l2), (3, .int l3), (4, .int l4), (6, .int l6), (7, .int l7), (8, .int l8)] [] M) (l1 : Int32) (l2 : Int32) (l3 : Int32) (l4 : Int32) (l6 : Int32) (l7 : Int32) (l8 : Int32) (M : Mem) : RF yX10_playOf cX10_playOf 11 (some .int) 5 eI (f_X10_playOf_J123 k10 this l1 l2 l3 l4 l6 l7 l8 M) 123 [(0, va_rf (some this)), (1, .int l1), (2, .int l2), (3, .int l3), (4, .int l4), (6, .int l6), (7, .int l7), (8, .int l8)] [] M := by
  rw [f_X10_playOf_J123]
  refine R_aloadq_n (pc' := 124) (i := 0) (j := 0) (q := (some this)) dX10_playOf_123 rfl rfl rfl ?_
  refine R_getR (pc' := 127) (q := (some this)) fl_X10_9 rfl dX10_playOf_124 rfl (fun scalar1 => ?_)
  refine R_iconst (pc' := 128) (x := (nI 4)) dX10_playOf_127 rfl (by decide) ?_
  refine R_dup2 (pc' := 129) dX10_playOf_128 rfl rfl (rf_cat _) ?_
  refine R_iald (pc' := 130) (q := scalar1) (i := (nI 4)) dX10_playOf_129 rfl (fun e2 => ?_)
  refine R_iconst (pc' := 131) (x := (nI 1)) dX10_playOf_130 rfl (by decide) ?_
  refine R_iadd (pc' := 132) (a := e2) (b := (nI 1)) dX10_playOf_131 rfl ?_
  refine R_iast (pc' := 133) (q := scalar1) (i := (nI 4)) (x := (e2 + (nI 1))) dX10_playOf_132 rfl (fun M => ?_)
  refine R_iinc (pc' := 136) (L' := [(8, .int (l8 + (nI 1))), (0, va_rf (some this)), (1, .int l1), (2, .int l2), (3, .int l3), (4, .int l4), (6, .int l6), (7, .int l7)]) (i := 8) (j := 7) (x := l8) (x2 := (l8 + (nI 1))) dX10_playOf_133 rfl rfl rfl (by decide) rfl ?_
  refine R_goto (tgt := 10) dX10_playOf_136 (by decide) ?_
  exact R_sub [1, 2, 3, 4, 5, 6, 7, 0] rfl (hk10 l1 l2 l3 l4 l6 l7 (l8 + (nI 1)) M)
def f_X10_playOf_J101 (k10 : Int32 → Int32 → Int32 → Int32 → Int32 → Int32 → Int32 → Mem → Option (Int32 × Mem)) (this : Nat) (l1 : Int32) (l2 : Int32) (l3 : Int32) (l4 : Int32) (l6 : Int32) (l8 : Int32) (l9 : Int32) (l10 : Int32) (s0 : Int32) (M : Mem) : Option (Int32 × Mem) :=
  (if s0 = 0 then
    (f_X10_playOf_J123 k10 this l1 l2 l3 l4 l6 s0 l8 M)
  else
    ((if l10 = (-1 : Int32) then
      (f_X10_playOf_J123 k10 this l1 l2 l3 l4 l6 s0 l8 M)
    else
      ((oO M 10 (some this)).bind fun o2 => cl (f_X10_tells o2 l9 l10 M) fun r1 M =>
      f_X10_playOf_J123 k10 this l1 l2 l3 l4 l6 s0 l8 M))))
set_option maxHeartbeats 2000000 in
set_option maxRecDepth 20000 in
theorem rf_X10_playOf_J101 (this : Nat) (k10 : Int32 → Int32 → Int32 → Int32 → Int32 → Int32 → Int32 → Mem → Option (Int32 × Mem)) (hk10 : ∀ (l1 : Int32) (l2 : Int32) (l3 : Int32) (l4 : Int32) (l6 : Int32) (l7 : Int32) (l8 : Int32) (M : Mem), RF yX10_playOf cX10_playOf 11 (some .int) 5 eI (k10 l1 l2 l3 l4 l6 l7 l8 M) 10 [(0, va_rf (some this)), (1, .int l1), (2, .int l2), (3, .int l3), (4, .int l4), (6, .int l6), (7, .int l7), (8, .int l8)] [] M) (l1 : Int32) (l2 : Int32) (l3 : Int32) (l4 : Int32) (l6 : Int32) (l8 : Int32) (l9 : Int32) (l10 : Int32) (s0 : Int32) (M : Mem) : RF yX10_playOf cX10_playOf 11 (some .int) 5 eI (f_X10_playOf_J101 k10 this l1 l2 l3 l4 l6 l8 l9 l10 s0 M) 101 [(0, va_rf (some this)), (1, .int l1), (2, .int l2), (3, .int l3), (4, .int l4), (6, .int l6), (8, .int l8), (9, .int l9), (10, .int l10)] [.int s0] M := by
  rw [f_X10_playOf_J101]
  refine R_istore (pc' := 103) (L' := [(7, .int s0), (0, va_rf (some this)), (1, .int l1), (2, .int l2), (3, .int l3), (4, .int l4), (6, .int l6), (8, .int l8), (9, .int l9), (10, .int l10)]) (i := 7) (x := s0) dX10_playOf_101 rfl (by decide) rfl ?_
  refine R_iload (pc' := 105) (i := 7) (j := 0) (x := s0) dX10_playOf_103 rfl rfl ?_
  refine R_if_eq (pc' := 108) (tgt := 123) (a := s0) dX10_playOf_105 (by decide) rfl ?_ ?_
  · exact R_sub [1, 2, 3, 4, 5, 6, 0, 7] rfl (rf_X10_playOf_J123 this k10 hk10 l1 l2 l3 l4 l6 s0 l8 M)
  · refine R_iload (pc' := 110) (i := 10) (j := 9) (x := l10) dX10_playOf_108 rfl rfl ?_
    refine R_iconst (pc' := 111) (x := (-1 : Int32)) dX10_playOf_110 rfl (by decide) ?_
    refine R_icmp_eq (pc' := 114) (tgt := 123) (a := l10) (b := (-1 : Int32)) dX10_playOf_111 (by decide) rfl ?_ ?_
    · exact R_sub [1, 2, 3, 4, 5, 6, 0, 7] rfl (rf_X10_playOf_J123 this k10 hk10 l1 l2 l3 l4 l6 s0 l8 M)
    · refine R_aloadq_n (pc' := 115) (i := 0) (j := 1) (q := (some this)) dX10_playOf_114 rfl rfl rfl ?_
      refine R_iload (pc' := 117) (i := 9) (j := 8) (x := l9) dX10_playOf_115 rfl rfl ?_
      refine R_iload (pc' := 119) (i := 10) (j := 9) (x := l10) dX10_playOf_117 rfl rfl ?_
      refine R_callV_I (pc' := 122) (q := (some this)) (As := [.int l9, .int l10]) (fun o2 => rm_X10_tells o2 l9 l10 M) mf_X10_tells lk_X10_387 im_X10_tells se_X10_tells rfl rfl rfl dX10_playOf_119 rfl (by decide) (Nat.le_trans c_0 (by decide)) (fun r1 M => ?_)
      refine R_pop (pc' := 123) dX10_playOf_122 rfl rfl ?_
      exact R_sub [1, 2, 3, 4, 5, 6, 0, 7] rfl (rf_X10_playOf_J123 this k10 hk10 l1 l2 l3 l4 l6 s0 l8 M)
def f_X10_playOf_J96 (k10 : Int32 → Int32 → Int32 → Int32 → Int32 → Int32 → Int32 → Mem → Option (Int32 × Mem)) (this : Nat) (l1 : Int32) (l2 : Int32) (l3 : Int32) (l4 : Int32) (l6 : Int32) (l8 : Int32) (l9 : Int32) (l10 : Int32) (M : Mem) : Option (Int32 × Mem) :=
  f_X10_playOf_J101 k10 this l1 l2 l3 l4 l6 l8 l9 l10 (nI 1) M
set_option maxHeartbeats 2000000 in
set_option maxRecDepth 20000 in
theorem rf_X10_playOf_J96 (this : Nat) (k10 : Int32 → Int32 → Int32 → Int32 → Int32 → Int32 → Int32 → Mem → Option (Int32 × Mem)) (hk10 : ∀ (l1 : Int32) (l2 : Int32) (l3 : Int32) (l4 : Int32) (l6 : Int32) (l7 : Int32) (l8 : Int32) (M : Mem), RF yX10_playOf cX10_playOf 11 (some .int) 5 eI (k10 l1 l2 l3 l4 l6 l7 l8 M) 10 [(0, va_rf (some this)), (1, .int l1), (2, .int l2), (3, .int l3), (4, .int l4), (6, .int l6), (7, .int l7), (8, .int l8)] [] M) (l1 : Int32) (l2 : Int32) (l3 : Int32) (l4 : Int32) (l6 : Int32) (l8 : Int32) (l9 : Int32) (l10 : Int32) (M : Mem) : RF yX10_playOf cX10_playOf 11 (some .int) 5 eI (f_X10_playOf_J96 k10 this l1 l2 l3 l4 l6 l8 l9 l10 M) 96 [(0, va_rf (some this)), (1, .int l1), (2, .int l2), (3, .int l3), (4, .int l4), (6, .int l6), (8, .int l8), (9, .int l9), (10, .int l10)] [] M := by
  rw [f_X10_playOf_J96]
  refine R_iconst (pc' := 97) (x := (nI 1)) dX10_playOf_96 rfl (by decide) ?_
  refine R_goto (tgt := 101) dX10_playOf_97 (by decide) ?_
  exact R_sub [0, 1, 2, 3, 4, 5, 6, 7, 8] rfl (rf_X10_playOf_J101 this k10 hk10 l1 l2 l3 l4 l6 l8 l9 l10 (nI 1) M)
def f_X10_playOf_J100 (k10 : Int32 → Int32 → Int32 → Int32 → Int32 → Int32 → Int32 → Mem → Option (Int32 × Mem)) (this : Nat) (l1 : Int32) (l2 : Int32) (l3 : Int32) (l4 : Int32) (l6 : Int32) (l8 : Int32) (l9 : Int32) (l10 : Int32) (M : Mem) : Option (Int32 × Mem) :=
  f_X10_playOf_J101 k10 this l1 l2 l3 l4 l6 l8 l9 l10 (nI 0) M
set_option maxHeartbeats 2000000 in
set_option maxRecDepth 20000 in
theorem rf_X10_playOf_J100 (this : Nat) (k10 : Int32 → Int32 → Int32 → Int32 → Int32 → Int32 → Int32 → Mem → Option (Int32 × Mem)) (hk10 : ∀ (l1 : Int32) (l2 : Int32) (l3 : Int32) (l4 : Int32) (l6 : Int32) (l7 : Int32) (l8 : Int32) (M : Mem), RF yX10_playOf cX10_playOf 11 (some .int) 5 eI (k10 l1 l2 l3 l4 l6 l7 l8 M) 10 [(0, va_rf (some this)), (1, .int l1), (2, .int l2), (3, .int l3), (4, .int l4), (6, .int l6), (7, .int l7), (8, .int l8)] [] M) (l1 : Int32) (l2 : Int32) (l3 : Int32) (l4 : Int32) (l6 : Int32) (l8 : Int32) (l9 : Int32) (l10 : Int32) (M : Mem) : RF yX10_playOf cX10_playOf 11 (some .int) 5 eI (f_X10_playOf_J100 k10 this l1 l2 l3 l4 l6 l8 l9 l10 M) 100 [(0, va_rf (some this)), (1, .int l1), (2, .int l2), (3, .int l3), (4, .int l4), (6, .int l6), (8, .int l8), (9, .int l9), (10, .int l10)] [] M := by
  rw [f_X10_playOf_J100]
  refine R_iconst (pc' := 101) (x := (nI 0)) dX10_playOf_100 rfl (by decide) ?_
  exact R_sub [0, 1, 2, 3, 4, 5, 6, 7, 8] rfl (rf_X10_playOf_J101 this k10 hk10 l1 l2 l3 l4 l6 l8 l9 l10 (nI 0) M)
def f_X10_playOf_J33 (k10 : Int32 → Int32 → Int32 → Int32 → Int32 → Int32 → Int32 → Mem → Option (Int32 × Mem)) (this : Nat) (l1 : Int32) (l2 : Int32) (l3 : Int32) (l4 : Int32) (l6 : Int32) (l8 : Int32) (s0 : Int32) (M : Mem) : Option (Int32 × Mem) :=
  (gR M 10 1 (some this)).bind fun scalar1 =>
  (aI M 0 scalar1 (nI 2)).bind fun e2 =>
  if (e2 + (nI 1)) = 0 then none else
  nm (l6 / (e2 + (nI 1))) fun v3 =>
  if v3 = 0 then none else
  (gR M 10 1 (some this)).bind fun scalar4 =>
  (aI M 0 scalar4 (nI 2)).bind fun e5 =>
  if (e5 + (nI 1)) = 0 then none else
  nm (((l4 / v3) - (l4 / v3) / (e5 + (nI 1)) * (e5 + (nI 1))) - (nI 1)) fun v6 =>
  (if v6 = (-1 : Int32) then
    (f_X10_playOf_J96 k10 this l1 l2 l3 l4 v3 l8 s0 v6 M)
  else
    ((oO M 10 (some this)).bind fun o11 => cl (f_X10_waits o11 s0 M) fun r7 M =>
    (if r7 = 0 then
      (f_X10_playOf_J100 k10 this l1 l2 l3 l4 v3 l8 s0 v6 M)
    else
      ((gR M 10 6 (some this)).bind fun knows8 =>
      (aI M 0 knows8 s0).bind fun e9 =>
      cl (f_X10_has e9 v6 M) fun r10 M =>
      (if r10 = 0 then
        (f_X10_playOf_J100 k10 this l1 l2 l3 l4 v3 l8 s0 v6 M)
      else
        (f_X10_playOf_J96 k10 this l1 l2 l3 l4 v3 l8 s0 v6 M))))))
set_option maxHeartbeats 2000000 in
set_option maxRecDepth 20000 in
theorem rf_X10_playOf_J33 (this : Nat) (k10 : Int32 → Int32 → Int32 → Int32 → Int32 → Int32 → Int32 → Mem → Option (Int32 × Mem)) (hk10 : ∀ (l1 : Int32) (l2 : Int32) (l3 : Int32) (l4 : Int32) (l6 : Int32) (l7 : Int32) (l8 : Int32) (M : Mem), RF yX10_playOf cX10_playOf 11 (some .int) 5 eI (k10 l1 l2 l3 l4 l6 l7 l8 M) 10 [(0, va_rf (some this)), (1, .int l1), (2, .int l2), (3, .int l3), (4, .int l4), (6, .int l6), (7, .int l7), (8, .int l8)] [] M) (l1 : Int32) (l2 : Int32) (l3 : Int32) (l4 : Int32) (l6 : Int32) (l8 : Int32) (s0 : Int32) (M : Mem) : RF yX10_playOf cX10_playOf 11 (some .int) 5 eI (f_X10_playOf_J33 k10 this l1 l2 l3 l4 l6 l8 s0 M) 33 [(0, va_rf (some this)), (1, .int l1), (2, .int l2), (3, .int l3), (4, .int l4), (6, .int l6), (8, .int l8)] [.int s0] M := by
  rw [f_X10_playOf_J33]
  refine R_istore (pc' := 35) (L' := [(9, .int s0), (0, va_rf (some this)), (1, .int l1), (2, .int l2), (3, .int l3), (4, .int l4), (6, .int l6), (8, .int l8)]) (i := 9) (x := s0) dX10_playOf_33 rfl (by decide) rfl ?_
  refine R_iload (pc' := 37) (i := 6) (j := 6) (x := l6) dX10_playOf_35 rfl rfl ?_
  refine R_aloadq_n (pc' := 38) (i := 0) (j := 1) (q := (some this)) dX10_playOf_37 rfl rfl rfl ?_
  refine R_getR (pc' := 41) (q := (some this)) fl_X10_9 rfl dX10_playOf_38 rfl (fun scalar1 => ?_)
  refine R_iconst (pc' := 42) (x := (nI 2)) dX10_playOf_41 rfl (by decide) ?_
  refine R_iald (pc' := 43) (q := scalar1) (i := (nI 2)) dX10_playOf_42 rfl (fun e2 => ?_)
  refine R_iconst (pc' := 44) (x := (nI 1)) dX10_playOf_43 rfl (by decide) ?_
  refine R_iadd (pc' := 45) (a := e2) (b := (nI 1)) dX10_playOf_44 rfl ?_
  refine R_idiv (pc' := 46) (a := l6) (b := (e2 + (nI 1))) dX10_playOf_45 rfl ?_
  refine R_nmI (fun v3 => ?_)
  refine R_istore (pc' := 48) (L' := [(6, .int v3), (9, .int s0), (0, va_rf (some this)), (1, .int l1), (2, .int l2), (3, .int l3), (4, .int l4), (8, .int l8)]) (i := 6) (x := v3) dX10_playOf_46 rfl (by decide) rfl ?_
  refine R_iload (pc' := 50) (i := 4) (j := 6) (x := l4) dX10_playOf_48 rfl rfl ?_
  refine R_iload (pc' := 52) (i := 6) (j := 0) (x := v3) dX10_playOf_50 rfl rfl ?_
  refine R_idiv (pc' := 53) (a := l4) (b := v3) dX10_playOf_52 rfl ?_
  refine R_aloadq_n (pc' := 54) (i := 0) (j := 2) (q := (some this)) dX10_playOf_53 rfl rfl rfl ?_
  refine R_getR (pc' := 57) (q := (some this)) fl_X10_9 rfl dX10_playOf_54 rfl (fun scalar4 => ?_)
  refine R_iconst (pc' := 58) (x := (nI 2)) dX10_playOf_57 rfl (by decide) ?_
  refine R_iald (pc' := 59) (q := scalar4) (i := (nI 2)) dX10_playOf_58 rfl (fun e5 => ?_)
  refine R_iconst (pc' := 60) (x := (nI 1)) dX10_playOf_59 rfl (by decide) ?_
  refine R_iadd (pc' := 61) (a := e5) (b := (nI 1)) dX10_playOf_60 rfl ?_
  refine R_irem (pc' := 62) (a := (l4 / v3)) (b := (e5 + (nI 1))) dX10_playOf_61 rfl ?_
  refine R_iconst (pc' := 63) (x := (nI 1)) dX10_playOf_62 rfl (by decide) ?_
  refine R_isub (pc' := 64) (a := ((l4 / v3) - (l4 / v3) / (e5 + (nI 1)) * (e5 + (nI 1)))) (b := (nI 1)) dX10_playOf_63 rfl ?_
  refine R_nmI (fun v6 => ?_)
  refine R_istore (pc' := 66) (L' := [(10, .int v6), (6, .int v3), (9, .int s0), (0, va_rf (some this)), (1, .int l1), (2, .int l2), (3, .int l3), (4, .int l4), (8, .int l8)]) (i := 10) (x := v6) dX10_playOf_64 rfl (by decide) rfl ?_
  refine R_iload (pc' := 68) (i := 10) (j := 0) (x := v6) dX10_playOf_66 rfl rfl ?_
  refine R_iconst (pc' := 69) (x := (-1 : Int32)) dX10_playOf_68 rfl (by decide) ?_
  refine R_icmp_eq (pc' := 72) (tgt := 96) (a := v6) (b := (-1 : Int32)) dX10_playOf_69 (by decide) rfl ?_ ?_
  · exact R_sub [3, 4, 5, 6, 7, 1, 8, 2, 0] rfl (rf_X10_playOf_J96 this k10 hk10 l1 l2 l3 l4 v3 l8 s0 v6 M)
  · refine R_aloadq_n (pc' := 73) (i := 0) (j := 3) (q := (some this)) dX10_playOf_72 rfl rfl rfl ?_
    refine R_iload (pc' := 75) (i := 9) (j := 2) (x := s0) dX10_playOf_73 rfl rfl ?_
    refine R_callV_I (pc' := 78) (q := (some this)) (As := [.int s0]) (fun o11 => rm_X10_waits o11 s0 M) mf_X10_waits lk_X10_350 im_X10_waits se_X10_waits rfl rfl rfl dX10_playOf_75 rfl (by decide) (Nat.le_trans c_0 (by decide)) (fun r7 M => ?_)
    refine R_if_eq (pc' := 81) (tgt := 100) (a := r7) dX10_playOf_78 (by decide) rfl ?_ ?_
    · exact R_sub [3, 4, 5, 6, 7, 1, 8, 2, 0] rfl (rf_X10_playOf_J100 this k10 hk10 l1 l2 l3 l4 v3 l8 s0 v6 M)
    · refine R_aloadq_n (pc' := 82) (i := 0) (j := 3) (q := (some this)) dX10_playOf_81 rfl rfl rfl ?_
      refine R_getR (pc' := 85) (q := (some this)) fl_X10_25 rfl dX10_playOf_82 rfl (fun knows8 => ?_)
      refine R_iload (pc' := 87) (i := 9) (j := 2) (x := s0) dX10_playOf_85 rfl rfl ?_
      refine R_iald (pc' := 88) (q := knows8) (i := s0) dX10_playOf_87 rfl (fun e9 => ?_)
      refine R_iload (pc' := 90) (i := 10) (j := 0) (x := v6) dX10_playOf_88 rfl rfl ?_
      refine R_callS_I (pc' := 93) (As := [.int e9, .int v6]) (rm_X10_has e9 v6 M) mf_X10_has lk_X10_353 sm_X10_has rfl rfl dX10_playOf_90 rfl (by decide) (Nat.le_trans c_0 (by decide)) (fun r10 M => ?_)
      refine R_if_eq (pc' := 96) (tgt := 100) (a := r10) dX10_playOf_93 (by decide) rfl ?_ ?_
      · exact R_sub [3, 4, 5, 6, 7, 1, 8, 2, 0] rfl (rf_X10_playOf_J100 this k10 hk10 l1 l2 l3 l4 v3 l8 s0 v6 M)
      · exact R_sub [3, 4, 5, 6, 7, 1, 8, 2, 0] rfl (rf_X10_playOf_J96 this k10 hk10 l1 l2 l3 l4 v3 l8 s0 v6 M)
def f_X10_playOf_L10 (this : Nat) : Nat → Int32 → Int32 → Int32 → Int32 → Int32 → Int32 → Int32 → Mem → Option (Int32 × Mem)
  | 0, _, _, _, _, _, _, _, _ => none
  | n + 1, l1, l2, l3, l4, l6, l7, l8, M =>
    (if l3 ≤ l8 then
      (f_X10_playOf_J139 this l1 l2 l7 M)
    else
      ((if l7 = 0 then
        (f_X10_playOf_J139 this l1 l2 l7 M)
      else
        (if (nI 2) = 0 then none else
        (if (l8 - l8 / (nI 2) * (nI 2)) = 0 then
          (f_X10_playOf_J33 (f_X10_playOf_L10 this n) this l1 l2 l3 l4 l6 l8 l1 M)
        else
          (f_X10_playOf_J33 (f_X10_playOf_L10 this n) this l1 l2 l3 l4 l6 l8 l2 M))))))
set_option maxHeartbeats 2000000 in
set_option maxRecDepth 20000 in
theorem rf_X10_playOf_L10 (this : Nat) : ∀ (n : Nat) (l1 : Int32) (l2 : Int32) (l3 : Int32) (l4 : Int32) (l6 : Int32) (l7 : Int32) (l8 : Int32) (M : Mem), RF yX10_playOf cX10_playOf 11 (some .int) 5 eI (f_X10_playOf_L10 this n l1 l2 l3 l4 l6 l7 l8 M) 10 [(0, va_rf (some this)), (1, .int l1), (2, .int l2), (3, .int l3), (4, .int l4), (6, .int l6), (7, .int l7), (8, .int l8)] [] M := by
  intro n
  induction n with
  | zero => intro _ _ _ _ _ _ _ _; exact RF.none
  | succ n ih =>
    intro l1 l2 l3 l4 l6 l7 l8 M
    rw [f_X10_playOf_L10]
    refine R_iload (pc' := 12) (i := 8) (j := 7) (x := l8) dX10_playOf_10 rfl rfl ?_
    refine R_iload_n (pc' := 13) (i := 3) (j := 3) (x := l3) dX10_playOf_12 rfl rfl rfl ?_
    refine R_icmp_ge (pc' := 16) (tgt := 139) (a := l8) (b := l3) dX10_playOf_13 (by decide) rfl ?_ ?_
    · exact R_sub [0, 1, 2, 6] rfl (rf_X10_playOf_J139 this l1 l2 l7 M)
    · refine R_iload (pc' := 18) (i := 7) (j := 6) (x := l7) dX10_playOf_16 rfl rfl ?_
      refine R_if_eq (pc' := 21) (tgt := 139) (a := l7) dX10_playOf_18 (by decide) rfl ?_ ?_
      · exact R_sub [0, 1, 2, 6] rfl (rf_X10_playOf_J139 this l1 l2 l7 M)
      · refine R_iload (pc' := 23) (i := 8) (j := 7) (x := l8) dX10_playOf_21 rfl rfl ?_
        refine R_iconst (pc' := 24) (x := (nI 2)) dX10_playOf_23 rfl (by decide) ?_
        refine R_irem (pc' := 25) (a := l8) (b := (nI 2)) dX10_playOf_24 rfl ?_
        refine R_if_ne (pc' := 28) (tgt := 32) (a := (l8 - l8 / (nI 2) * (nI 2))) dX10_playOf_25 (by decide) rfl ?_ ?_
        · refine R_iload_n (pc' := 33) (i := 2) (j := 2) (x := l2) dX10_playOf_32 rfl rfl rfl ?_
          exact R_sub [0, 1, 2, 3, 4, 5, 7] rfl (rf_X10_playOf_J33 this (f_X10_playOf_L10 this n) ih l1 l2 l3 l4 l6 l8 l2 M)
        · refine R_iload_n (pc' := 29) (i := 1) (j := 1) (x := l1) dX10_playOf_28 rfl rfl rfl ?_
          refine R_goto (tgt := 33) dX10_playOf_29 (by decide) ?_
          exact R_sub [0, 1, 2, 3, 4, 5, 7] rfl (rf_X10_playOf_J33 this (f_X10_playOf_L10 this n) ih l1 l2 l3 l4 l6 l8 l1 M)
def f_X10_playOf (this : Nat) (l1 : Int32) (l2 : Int32) (l3 : Int32) (l4 : Int32) (l5 : Int32) (M : Mem) : Option (Int32 × Mem) :=
  f_X10_playOf_L10 this FU l1 l2 l3 l4 l5 (nI 1) (nI 0) M
set_option maxHeartbeats 2000000 in
set_option maxRecDepth 20000 in
theorem rm_X10_playOf (this : Nat) (l1 : Int32) (l2 : Int32) (l3 : Int32) (l4 : Int32) (l5 : Int32) (M : Mem) : RFm yX10_playOf cX10_playOf 11 (some .int) 5 eI (f_X10_playOf this l1 l2 l3 l4 l5 M) [va_rf (some this), .int l1, .int l2, .int l3, .int l4, .int l5] M := by
  refine RFm_of (L := [(0, va_rf (some this)), (1, .int l1), (2, .int l2), (3, .int l3), (4, .int l4), (5, .int l5)]) (by decide) rfl (Nat.le_trans (c_R (c_I (c_I (c_I (c_I (c_I c_0)))))) (by decide)) ?_
  rw [f_X10_playOf]
  refine R_iload (pc' := 2) (i := 5) (j := 5) (x := l5) dX10_playOf_0 rfl rfl ?_
  refine R_istore (pc' := 4) (L' := [(6, .int l5), (0, va_rf (some this)), (1, .int l1), (2, .int l2), (3, .int l3), (4, .int l4), (5, .int l5)]) (i := 6) (x := l5) dX10_playOf_2 rfl (by decide) rfl ?_
  refine R_iconst (pc' := 5) (x := (nI 1)) dX10_playOf_4 rfl (by decide) ?_
  refine R_istore (pc' := 7) (L' := [(7, .int (nI 1)), (6, .int l5), (0, va_rf (some this)), (1, .int l1), (2, .int l2), (3, .int l3), (4, .int l4), (5, .int l5)]) (i := 7) (x := (nI 1)) dX10_playOf_5 rfl (by decide) rfl ?_
  refine R_iconst (pc' := 8) (x := (nI 0)) dX10_playOf_7 rfl (by decide) ?_
  refine R_istore (pc' := 10) (L' := [(8, .int (nI 0)), (7, .int (nI 1)), (6, .int l5), (0, va_rf (some this)), (1, .int l1), (2, .int l2), (3, .int l3), (4, .int l4), (5, .int l5)]) (i := 8) (x := (nI 0)) dX10_playOf_8 rfl (by decide) rfl ?_
  exact R_sub [3, 4, 5, 6, 7, 2, 1, 0] rfl (rf_X10_playOf_L10 this FU l1 l2 l3 l4 l5 (nI 1) (nI 0) M)
/-! BarPilotModel.bestAt(IIZ)I -/
def f_X10_bestAt_J74 (k8 : Int32 → Int32 → Int32 → Int32 → Int32 → Mem → Option (Int32 × Mem)) (this : Nat) (l1 : Int32) (l2 : Int32) (l3 : Int32) (l4 : Int32) (l5 : Int32) (M : Mem) : Option (Int32 × Mem) :=
  k8 l1 l2 l3 l4 (l5 + (nI 1)) M
set_option maxHeartbeats 2000000 in
set_option maxRecDepth 20000 in
theorem rf_X10_bestAt_J74 (this : Nat) (k8 : Int32 → Int32 → Int32 → Int32 → Int32 → Mem → Option (Int32 × Mem)) (hk8 : ∀ (l1 : Int32) (l2 : Int32) (l3 : Int32) (l4 : Int32) (l5 : Int32) (M : Mem), RF yX10_bestAt cX10_bestAt 6 (some .int) 1 eI (k8 l1 l2 l3 l4 l5 M) 8 [(0, va_rf (some this)), (1, .int l1), (2, .int l2), (3, .int l3), (4, .int l4), (5, .int l5)] [] M) (l1 : Int32) (l2 : Int32) (l3 : Int32) (l4 : Int32) (l5 : Int32) (M : Mem) : RF yX10_bestAt cX10_bestAt 6 (some .int) 1 eI (f_X10_bestAt_J74 k8 this l1 l2 l3 l4 l5 M) 74 [(0, va_rf (some this)), (1, .int l1), (2, .int l2), (3, .int l3), (4, .int l4), (5, .int l5)] [] M := by
  rw [f_X10_bestAt_J74]
  refine R_iinc (pc' := 77) (L' := [(5, .int (l5 + (nI 1))), (0, va_rf (some this)), (1, .int l1), (2, .int l2), (3, .int l3), (4, .int l4)]) (i := 5) (j := 5) (x := l5) (x2 := (l5 + (nI 1))) dX10_bestAt_74 rfl rfl rfl (by decide) rfl ?_
  refine R_goto (tgt := 8) dX10_bestAt_77 (by decide) ?_
  exact R_sub [1, 2, 3, 4, 5, 0] rfl (hk8 l1 l2 l3 l4 (l5 + (nI 1)) M)
def f_X10_bestAt_J70 (k8 : Int32 → Int32 → Int32 → Int32 → Int32 → Mem → Option (Int32 × Mem)) (this : Nat) (l1 : Int32) (l2 : Int32) (l3 : Int32) (l5 : Int32) (M : Mem) : Option (Int32 × Mem) :=
  f_X10_bestAt_J74 k8 this l1 l2 l3 l5 l5 M
set_option maxHeartbeats 2000000 in
set_option maxRecDepth 20000 in
theorem rf_X10_bestAt_J70 (this : Nat) (k8 : Int32 → Int32 → Int32 → Int32 → Int32 → Mem → Option (Int32 × Mem)) (hk8 : ∀ (l1 : Int32) (l2 : Int32) (l3 : Int32) (l4 : Int32) (l5 : Int32) (M : Mem), RF yX10_bestAt cX10_bestAt 6 (some .int) 1 eI (k8 l1 l2 l3 l4 l5 M) 8 [(0, va_rf (some this)), (1, .int l1), (2, .int l2), (3, .int l3), (4, .int l4), (5, .int l5)] [] M) (l1 : Int32) (l2 : Int32) (l3 : Int32) (l5 : Int32) (M : Mem) : RF yX10_bestAt cX10_bestAt 6 (some .int) 1 eI (f_X10_bestAt_J70 k8 this l1 l2 l3 l5 M) 70 [(0, va_rf (some this)), (1, .int l1), (2, .int l2), (3, .int l3), (5, .int l5)] [] M := by
  rw [f_X10_bestAt_J70]
  refine R_iload (pc' := 72) (i := 5) (j := 4) (x := l5) dX10_bestAt_70 rfl rfl ?_
  refine R_istore (pc' := 74) (L' := [(4, .int l5), (0, va_rf (some this)), (1, .int l1), (2, .int l2), (3, .int l3), (5, .int l5)]) (i := 4) (x := l5) dX10_bestAt_72 rfl (by decide) rfl ?_
  exact R_sub [1, 2, 3, 4, 0, 5] rfl (rf_X10_bestAt_J74 this k8 hk8 l1 l2 l3 l5 l5 M)
def f_X10_bestAt_L8 (this : Nat) : Nat → Int32 → Int32 → Int32 → Int32 → Int32 → Mem → Option (Int32 × Mem)
  | 0, _, _, _, _, _, _ => none
  | n + 1, l1, l2, l3, l4, l5, M =>
    (if (l1 + l2) ≤ l5 then
      (some (l4, M))
    else
      ((gR M 10 47 (some this)).bind fun plays1 =>
      (aI M 0 plays1 l5).bind fun e2 =>
      (if e2 = (-100000 : Int32) then
        (f_X10_bestAt_J74 (f_X10_bestAt_L8 this n) this l1 l2 l3 l4 l5 M)
      else
        ((if l3 = 0 then
          ((gR M 10 47 (some this)).bind fun plays3 =>
          (aI M 0 plays3 l5).bind fun e4 =>
          (gR M 10 47 (some this)).bind fun plays5 =>
          (aI M 0 plays5 l4).bind fun e6 =>
          (if e6 ≤ e4 then
            (f_X10_bestAt_J74 (f_X10_bestAt_L8 this n) this l1 l2 l3 l4 l5 M)
          else
            (f_X10_bestAt_J70 (f_X10_bestAt_L8 this n) this l1 l2 l3 l5 M)))
        else
          ((gR M 10 47 (some this)).bind fun plays7 =>
          (aI M 0 plays7 l5).bind fun e8 =>
          (gR M 10 47 (some this)).bind fun plays9 =>
          (aI M 0 plays9 l4).bind fun e10 =>
          (if e8 ≤ e10 then
            (f_X10_bestAt_J74 (f_X10_bestAt_L8 this n) this l1 l2 l3 l4 l5 M)
          else
            (f_X10_bestAt_J70 (f_X10_bestAt_L8 this n) this l1 l2 l3 l5 M))))))))
set_option maxHeartbeats 2000000 in
set_option maxRecDepth 20000 in
theorem rf_X10_bestAt_L8 (this : Nat) : ∀ (n : Nat) (l1 : Int32) (l2 : Int32) (l3 : Int32) (l4 : Int32) (l5 : Int32) (M : Mem), RF yX10_bestAt cX10_bestAt 6 (some .int) 1 eI (f_X10_bestAt_L8 this n l1 l2 l3 l4 l5 M) 8 [(0, va_rf (some this)), (1, .int l1), (2, .int l2), (3, .int l3), (4, .int l4), (5, .int l5)] [] M := by
  intro n
  induction n with
  | zero => intro _ _ _ _ _ _; exact RF.none
  | succ n ih =>
    intro l1 l2 l3 l4 l5 M
    rw [f_X10_bestAt_L8]
    refine R_iload (pc' := 10) (i := 5) (j := 5) (x := l5) dX10_bestAt_8 rfl rfl ?_
    refine R_iload_n (pc' := 11) (i := 1) (j := 1) (x := l1) dX10_bestAt_10 rfl rfl rfl ?_
    refine R_iload_n (pc' := 12) (i := 2) (j := 2) (x := l2) dX10_bestAt_11 rfl rfl rfl ?_
    refine R_iadd (pc' := 13) (a := l1) (b := l2) dX10_bestAt_12 rfl ?_
    refine R_icmp_ge (pc' := 16) (tgt := 80) (a := l5) (b := (l1 + l2)) dX10_bestAt_13 (by decide) rfl ?_ ?_
    · refine R_iload (pc' := 82) (i := 4) (j := 4) (x := l4) dX10_bestAt_80 rfl rfl ?_
      exact R_iret dX10_bestAt_82
    · refine R_aloadq_n (pc' := 17) (i := 0) (j := 0) (q := (some this)) dX10_bestAt_16 rfl rfl rfl ?_
      refine R_getR (pc' := 20) (q := (some this)) fl_X10_112 rfl dX10_bestAt_17 rfl (fun plays1 => ?_)
      refine R_iload (pc' := 22) (i := 5) (j := 5) (x := l5) dX10_bestAt_20 rfl rfl ?_
      refine R_iald (pc' := 23) (q := plays1) (i := l5) dX10_bestAt_22 rfl (fun e2 => ?_)
      refine R_ldcw (pc' := 26) (x := (-100000 : Int32)) dX10_bestAt_23 rfl co_X10_455 ?_
      refine R_icmp_eq (pc' := 29) (tgt := 74) (a := e2) (b := (-100000 : Int32)) dX10_bestAt_26 (by decide) rfl ?_ ?_
      · exact R_sub [0, 1, 2, 3, 4, 5] rfl (rf_X10_bestAt_J74 this (f_X10_bestAt_L8 this n) ih l1 l2 l3 l4 l5 M)
      · refine R_iload_n (pc' := 30) (i := 3) (j := 3) (x := l3) dX10_bestAt_29 rfl rfl rfl ?_
        refine R_if_eq (pc' := 33) (tgt := 53) (a := l3) dX10_bestAt_30 (by decide) rfl ?_ ?_
        · refine R_aloadq_n (pc' := 54) (i := 0) (j := 0) (q := (some this)) dX10_bestAt_53 rfl rfl rfl ?_
          refine R_getR (pc' := 57) (q := (some this)) fl_X10_112 rfl dX10_bestAt_54 rfl (fun plays3 => ?_)
          refine R_iload (pc' := 59) (i := 5) (j := 5) (x := l5) dX10_bestAt_57 rfl rfl ?_
          refine R_iald (pc' := 60) (q := plays3) (i := l5) dX10_bestAt_59 rfl (fun e4 => ?_)
          refine R_aloadq_n (pc' := 61) (i := 0) (j := 0) (q := (some this)) dX10_bestAt_60 rfl rfl rfl ?_
          refine R_getR (pc' := 64) (q := (some this)) fl_X10_112 rfl dX10_bestAt_61 rfl (fun plays5 => ?_)
          refine R_iload (pc' := 66) (i := 4) (j := 4) (x := l4) dX10_bestAt_64 rfl rfl ?_
          refine R_iald (pc' := 67) (q := plays5) (i := l4) dX10_bestAt_66 rfl (fun e6 => ?_)
          refine R_icmp_ge (pc' := 70) (tgt := 74) (a := e4) (b := e6) dX10_bestAt_67 (by decide) rfl ?_ ?_
          · exact R_sub [0, 1, 2, 3, 4, 5] rfl (rf_X10_bestAt_J74 this (f_X10_bestAt_L8 this n) ih l1 l2 l3 l4 l5 M)
          · exact R_sub [0, 1, 2, 3, 5] rfl (rf_X10_bestAt_J70 this (f_X10_bestAt_L8 this n) ih l1 l2 l3 l5 M)
        · refine R_aloadq_n (pc' := 34) (i := 0) (j := 0) (q := (some this)) dX10_bestAt_33 rfl rfl rfl ?_
          refine R_getR (pc' := 37) (q := (some this)) fl_X10_112 rfl dX10_bestAt_34 rfl (fun plays7 => ?_)
          refine R_iload (pc' := 39) (i := 5) (j := 5) (x := l5) dX10_bestAt_37 rfl rfl ?_
          refine R_iald (pc' := 40) (q := plays7) (i := l5) dX10_bestAt_39 rfl (fun e8 => ?_)
          refine R_aloadq_n (pc' := 41) (i := 0) (j := 0) (q := (some this)) dX10_bestAt_40 rfl rfl rfl ?_
          refine R_getR (pc' := 44) (q := (some this)) fl_X10_112 rfl dX10_bestAt_41 rfl (fun plays9 => ?_)
          refine R_iload (pc' := 46) (i := 4) (j := 4) (x := l4) dX10_bestAt_44 rfl rfl ?_
          refine R_iald (pc' := 47) (q := plays9) (i := l4) dX10_bestAt_46 rfl (fun e10 => ?_)
          refine R_icmp_le (pc' := 50) (tgt := 74) (a := e8) (b := e10) dX10_bestAt_47 (by decide) rfl ?_ ?_
          · exact R_sub [0, 1, 2, 3, 4, 5] rfl (rf_X10_bestAt_J74 this (f_X10_bestAt_L8 this n) ih l1 l2 l3 l4 l5 M)
          · refine R_goto (tgt := 70) dX10_bestAt_50 (by decide) ?_
            exact R_sub [0, 1, 2, 3, 5] rfl (rf_X10_bestAt_J70 this (f_X10_bestAt_L8 this n) ih l1 l2 l3 l5 M)
def f_X10_bestAt (this : Nat) (l1 : Int32) (l2 : Int32) (l3 : Int32) (M : Mem) : Option (Int32 × Mem) :=
  nm (l1 + (nI 1)) fun v1 =>
  f_X10_bestAt_L8 this FU l1 l2 l3 l1 v1 M
set_option maxHeartbeats 2000000 in
set_option maxRecDepth 20000 in
theorem rm_X10_bestAt (this : Nat) (l1 : Int32) (l2 : Int32) (l3 : Int32) (M : Mem) : RFm yX10_bestAt cX10_bestAt 6 (some .int) 1 eI (f_X10_bestAt this l1 l2 l3 M) [va_rf (some this), .int l1, .int l2, .int l3] M := by
  refine RFm_of (L := [(0, va_rf (some this)), (1, .int l1), (2, .int l2), (3, .int l3)]) (by decide) rfl (Nat.le_trans (c_R (c_I (c_I (c_I c_0)))) (by decide)) ?_
  rw [f_X10_bestAt]
  refine R_iload_n (pc' := 1) (i := 1) (j := 1) (x := l1) dX10_bestAt_0 rfl rfl rfl ?_
  refine R_istore (pc' := 3) (L' := [(4, .int l1), (0, va_rf (some this)), (1, .int l1), (2, .int l2), (3, .int l3)]) (i := 4) (x := l1) dX10_bestAt_1 rfl (by decide) rfl ?_
  refine R_iload_n (pc' := 4) (i := 1) (j := 2) (x := l1) dX10_bestAt_3 rfl rfl rfl ?_
  refine R_iconst (pc' := 5) (x := (nI 1)) dX10_bestAt_4 rfl (by decide) ?_
  refine R_iadd (pc' := 6) (a := l1) (b := (nI 1)) dX10_bestAt_5 rfl ?_
  refine R_nmI (fun v1 => ?_)
  refine R_istore (pc' := 8) (L' := [(5, .int v1), (4, .int l1), (0, va_rf (some this)), (1, .int l1), (2, .int l2), (3, .int l3)]) (i := 5) (x := v1) dX10_bestAt_6 rfl (by decide) rfl ?_
  exact R_sub [2, 3, 4, 5, 1, 0] rfl (rf_X10_bestAt_L8 this FU l1 l2 l3 l1 v1 M)
