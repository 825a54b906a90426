/-! BarPilot.coin(II)I -/
def f_X9_coin_J31 (this : Nat) (M : Mem) : Option (Int32 × Mem) :=
  some ((-1 : Int32), M)
set_option maxHeartbeats 2000000 in
set_option maxRecDepth 20000 in
theorem rf_X9_coin_J31 (this : Nat) (M : Mem) : RF yX9_coin cX9_coin 3 (some .int) 3 eI (f_X9_coin_J31 this M) 31 [] [] M := by
  rw [f_X9_coin_J31]
  refine R_iconst (pc' := 32) (x := (-1 : Int32)) dX9_coin_31 rfl (by decide) ?_
  exact R_iret dX9_coin_32
def f_X9_coin (this : Nat) (l1 : Int32) (l2 : Int32) (M : Mem) : Option (Int32 × Mem) :=
  (oO M 9 (some this)).bind fun o19 => cl (f_X9_isWaiting o19 l1 M) fun r1 M =>
  (if r1 = 0 then
    (f_X9_coin_J31 this M)
  else
    ((oO M 9 (some this)).bind fun o18 => cl (f_X9_isJoke o18 l2 M) fun r2 M =>
    (if r2 = 0 then
      (f_X9_coin_J31 this M)
    else
      ((gR M 9 4 (some this)).bind fun book3 =>
      (gR M 2 1 book3).bind fun scene4 =>
      (oO M 6 scene4).bind fun o17 => cl (f_X6_isKnown o17 l1 l2 M) fun r5 M =>
      (if r5 = 0 then
        ((gR M 9 4 (some this)).bind fun book6 =>
        (oO M 2 book6).bind fun o16 => cl (f_X2_keepAct o16 M) fun u7 M =>
        (gR M 9 4 (some this)).bind fun book8 =>
        (gR M 2 1 book8).bind fun scene9 =>
        (gR M 6 2 scene9).bind fun knows10 =>
        (aI M 0 knows10 l1).bind fun e11 =>
        (wI M 0 knows10 l1 (e11 ||| ((nI 1) <<< (l2 &&& 31)))).bind fun M =>
        (gR M 9 4 (some this)).bind fun book12 =>
        (gR M 2 1 book12).bind fun scene13 =>
        (gR M 6 2 scene13).bind fun knows14 =>
        (aI M 0 knows14 l1).bind fun e15 =>
        some (e15, M))
      else
        (f_X9_coin_J31 this M))))))
set_option maxHeartbeats 2000000 in
set_option maxRecDepth 20000 in
theorem rm_X9_coin (this : Nat) (l1 : Int32) (l2 : Int32) (M : Mem) : RFm yX9_coin cX9_coin 3 (some .int) 3 eI (f_X9_coin this l1 l2 M) [va_rf (some this), .int l1, .int l2] M := by
  refine RFm_of (L := [(0, va_rf (some this)), (1, .int l1), (2, .int l2)]) (by decide) rfl (Nat.le_trans (c_R (c_I (c_I c_0))) (by decide)) ?_
  rw [f_X9_coin]
  refine R_aloadq_n (pc' := 1) (i := 0) (j := 0) (q := (some this)) dX9_coin_0 rfl rfl rfl ?_
  refine R_iload_n (pc' := 2) (i := 1) (j := 1) (x := l1) dX9_coin_1 rfl rfl rfl ?_
  refine R_callV_I (pc' := 5) (q := (some this)) (As := [.int l1]) (fun o19 => rm_X9_isWaiting o19 l1 M) mf_X9_isWaiting lk_X9_192 im_X9_isWaiting se_X9_isWaiting rfl rfl rfl dX9_coin_2 rfl (by decide) (Nat.le_trans c_0 (by decide)) (fun r1 M => ?_)
  refine R_if_eq (pc' := 8) (tgt := 31) (a := r1) dX9_coin_5 (by decide) rfl ?_ ?_
  · exact R_sub [] rfl (rf_X9_coin_J31 this M)
  · refine R_aloadq_n (pc' := 9) (i := 0) (j := 0) (q := (some this)) dX9_coin_8 rfl rfl rfl ?_
    refine R_iload_n (pc' := 10) (i := 2) (j := 2) (x := l2) dX9_coin_9 rfl rfl rfl ?_
    refine R_callV_I (pc' := 13) (q := (some this)) (As := [.int l2]) (fun o18 => rm_X9_isJoke o18 l2 M) mf_X9_isJoke lk_X9_107 im_X9_isJoke se_X9_isJoke rfl rfl rfl dX9_coin_10 rfl (by decide) (Nat.le_trans c_0 (by decide)) (fun r2 M => ?_)
    refine R_if_eq (pc' := 16) (tgt := 31) (a := r2) dX9_coin_13 (by decide) rfl ?_ ?_
    · exact R_sub [] rfl (rf_X9_coin_J31 this M)
    · refine R_aloadq_n (pc' := 17) (i := 0) (j := 0) (q := (some this)) dX9_coin_16 rfl rfl rfl ?_
      refine R_getR (pc' := 20) (q := (some this)) fl_X9_41 rfl dX9_coin_17 rfl (fun book3 => ?_)
      refine R_getR (pc' := 23) (q := book3) fl_X9_110 rfl dX9_coin_20 rfl (fun scene4 => ?_)
      refine R_iload_n (pc' := 24) (i := 1) (j := 1) (x := l1) dX9_coin_23 rfl rfl rfl ?_
      refine R_iload_n (pc' := 25) (i := 2) (j := 2) (x := l2) dX9_coin_24 rfl rfl rfl ?_
      refine R_callV_I (pc' := 28) (q := scene4) (As := [.int l1, .int l2]) (fun o17 => rm_X6_isKnown o17 l1 l2 M) mf_X6_isKnown lk_X9_195 im_X6_isKnown se_X6_isKnown rfl rfl rfl dX9_coin_25 rfl (by decide) (Nat.le_trans c_0 (by decide)) (fun r5 M => ?_)
      refine R_if_eq (pc' := 31) (tgt := 33) (a := r5) dX9_coin_28 (by decide) rfl ?_ ?_
      · refine R_aloadq_n (pc' := 34) (i := 0) (j := 0) (q := (some this)) dX9_coin_33 rfl rfl rfl ?_
        refine R_getR (pc' := 37) (q := (some this)) fl_X9_41 rfl dX9_coin_34 rfl (fun book6 => ?_)
        refine R_callV_V (pc' := 40) (q := book6) (As := []) (fun o16 => rm_X2_keepAct o16 M) mf_X2_keepAct lk_X9_178 im_X2_keepAct se_X2_keepAct rfl rfl rfl dX9_coin_37 rfl (by decide) (Nat.le_trans c_0 (by decide)) (fun u7 M => ?_)
        refine R_aloadq_n (pc' := 41) (i := 0) (j := 0) (q := (some this)) dX9_coin_40 rfl rfl rfl ?_
        refine R_getR (pc' := 44) (q := (some this)) fl_X9_41 rfl dX9_coin_41 rfl (fun book8 => ?_)
        refine R_getR (pc' := 47) (q := book8) fl_X9_110 rfl dX9_coin_44 rfl (fun scene9 => ?_)
        refine R_getR (pc' := 50) (q := scene9) fl_X9_141 rfl dX9_coin_47 rfl (fun knows10 => ?_)
        refine R_iload_n (pc' := 51) (i := 1) (j := 1) (x := l1) dX9_coin_50 rfl rfl rfl ?_
        refine R_dup2 (pc' := 52) dX9_coin_51 rfl rfl (rf_cat _) ?_
        refine R_iald (pc' := 53) (q := knows10) (i := l1) dX9_coin_52 rfl (fun e11 => ?_)
        refine R_iconst (pc' := 54) (x := (nI 1)) dX9_coin_53 rfl (by decide) ?_
        refine R_iload_n (pc' := 55) (i := 2) (j := 2) (x := l2) dX9_coin_54 rfl rfl rfl ?_
        refine R_ishl (pc' := 56) (a := (nI 1)) (b := l2) dX9_coin_55 rfl ?_
        refine R_ior (pc' := 57) (a := e11) (b := ((nI 1) <<< (l2 &&& 31))) dX9_coin_56 rfl ?_
        refine R_iast (pc' := 58) (q := knows10) (i := l1) (x := (e11 ||| ((nI 1) <<< (l2 &&& 31)))) dX9_coin_57 rfl (fun M => ?_)
        refine R_aloadq_n (pc' := 59) (i := 0) (j := 0) (q := (some this)) dX9_coin_58 rfl rfl rfl ?_
        refine R_getR (pc' := 62) (q := (some this)) fl_X9_41 rfl dX9_coin_59 rfl (fun book12 => ?_)
        refine R_getR (pc' := 65) (q := book12) fl_X9_110 rfl dX9_coin_62 rfl (fun scene13 => ?_)
        refine R_getR (pc' := 68) (q := scene13) fl_X9_141 rfl dX9_coin_65 rfl (fun knows14 => ?_)
        refine R_iload_n (pc' := 69) (i := 1) (j := 1) (x := l1) dX9_coin_68 rfl rfl rfl ?_
        refine R_iald (pc' := 70) (q := knows14) (i := l1) dX9_coin_69 rfl (fun e15 => ?_)
        exact R_iret dX9_coin_70
      · exact R_sub [] rfl (rf_X9_coin_J31 this M)
/-! BarPilot.dull(I)I -/
def f_X9_dull_J32 (this : Nat) (M : Mem) : Option (Int32 × Mem) :=
  some ((-1 : Int32), M)
set_option maxHeartbeats 2000000 in
set_option maxRecDepth 20000 in
theorem rf_X9_dull_J32 (this : Nat) (M : Mem) : RF yX9_dull cX9_dull 3 (some .int) 3 eI (f_X9_dull_J32 this M) 32 [] [] M := by
  rw [f_X9_dull_J32]
  refine R_iconst (pc' := 33) (x := (-1 : Int32)) dX9_dull_32 rfl (by decide) ?_
  exact R_iret dX9_dull_33
def f_X9_dull (this : Nat) (l1 : Int32) (M : Mem) : Option (Int32 × Mem) :=
  (oO M 9 (some this)).bind fun o18 => cl (f_X9_isJoke o18 l1 M) fun r1 M =>
  (if r1 = 0 then
    (f_X9_dull_J32 this M)
  else
    ((gR M 9 4 (some this)).bind fun book2 =>
    (gR M 2 0 book2).bind fun told3 =>
    (gR M 9 4 (some this)).bind fun book4 =>
    (gR M 2 1 book4).bind fun scene5 =>
    (oO M 8 told3).bind fun o17 => cl (f_X8_remembered o17 scene5 M) fun r6 M =>
    (if ((r6 >>> (l1 &&& 31)) &&& (nI 1)) = 0 then
      (f_X9_dull_J32 this M)
    else
      ((gR M 9 4 (some this)).bind fun book7 =>
      (oO M 2 book7).bind fun o16 => cl (f_X2_keepAct o16 M) fun u8 M =>
      (gR M 9 4 (some this)).bind fun book9 =>
      (gR M 2 1 book9).bind fun scene10 =>
      (oO M 6 scene10).bind fun o15 => cl (f_X6_since o15 l1 M) fun r11 M =>
      (gR M 9 4 (some this)).bind fun book12 =>
      (gR M 2 1 book12).bind fun scene13 =>
      (gR M 6 1 scene13).bind fun heard14 =>
      (wI M 0 heard14 l1 (-100000 : Int32)).bind fun M =>
      some (r11, M)))))
set_option maxHeartbeats 2000000 in
set_option maxRecDepth 20000 in
theorem rm_X9_dull (this : Nat) (l1 : Int32) (M : Mem) : RFm yX9_dull cX9_dull 3 (some .int) 3 eI (f_X9_dull this l1 M) [va_rf (some this), .int l1] M := by
  refine RFm_of (L := [(0, va_rf (some this)), (1, .int l1)]) (by decide) rfl (Nat.le_trans (c_R (c_I c_0)) (by decide)) ?_
  rw [f_X9_dull]
  refine R_aloadq_n (pc' := 1) (i := 0) (j := 0) (q := (some this)) dX9_dull_0 rfl rfl rfl ?_
  refine R_iload_n (pc' := 2) (i := 1) (j := 1) (x := l1) dX9_dull_1 rfl rfl rfl ?_
  refine R_callV_I (pc' := 5) (q := (some this)) (As := [.int l1]) (fun o18 => rm_X9_isJoke o18 l1 M) mf_X9_isJoke lk_X9_107 im_X9_isJoke se_X9_isJoke rfl rfl rfl dX9_dull_2 rfl (by decide) (Nat.le_trans c_0 (by decide)) (fun r1 M => ?_)
  refine R_if_eq (pc' := 8) (tgt := 32) (a := r1) dX9_dull_5 (by decide) rfl ?_ ?_
  · exact R_sub [] rfl (rf_X9_dull_J32 this M)
  · refine R_aloadq_n (pc' := 9) (i := 0) (j := 0) (q := (some this)) dX9_dull_8 rfl rfl rfl ?_
    refine R_getR (pc' := 12) (q := (some this)) fl_X9_41 rfl dX9_dull_9 rfl (fun book2 => ?_)
    refine R_getR (pc' := 15) (q := book2) fl_X9_51 rfl dX9_dull_12 rfl (fun told3 => ?_)
    refine R_aloadq_n (pc' := 16) (i := 0) (j := 0) (q := (some this)) dX9_dull_15 rfl rfl rfl ?_
    refine R_getR (pc' := 19) (q := (some this)) fl_X9_41 rfl dX9_dull_16 rfl (fun book4 => ?_)
    refine R_getR (pc' := 22) (q := book4) fl_X9_110 rfl dX9_dull_19 rfl (fun scene5 => ?_)
    refine R_callV_I (pc' := 25) (q := told3) (As := [va_rf scene5]) (fun o17 => rm_X8_remembered o17 scene5 M) mf_X8_remembered lk_X9_114 im_X8_remembered se_X8_remembered rfl rfl rfl dX9_dull_22 rfl (by decide) (Nat.le_trans c_0 (by decide)) (fun r6 M => ?_)
    refine R_iload_n (pc' := 26) (i := 1) (j := 1) (x := l1) dX9_dull_25 rfl rfl rfl ?_
    refine R_ishr (pc' := 27) (a := r6) (b := l1) dX9_dull_26 rfl ?_
    refine R_iconst (pc' := 28) (x := (nI 1)) dX9_dull_27 rfl (by decide) ?_
    refine R_iand (pc' := 29) (a := (r6 >>> (l1 &&& 31))) (b := (nI 1)) dX9_dull_28 rfl ?_
    refine R_if_ne (pc' := 32) (tgt := 34) (a := ((r6 >>> (l1 &&& 31)) &&& (nI 1))) dX9_dull_29 (by decide) rfl ?_ ?_
    · refine R_aloadq_n (pc' := 35) (i := 0) (j := 0) (q := (some this)) dX9_dull_34 rfl rfl rfl ?_
      refine R_getR (pc' := 38) (q := (some this)) fl_X9_41 rfl dX9_dull_35 rfl (fun book7 => ?_)
      refine R_callV_V (pc' := 41) (q := book7) (As := []) (fun o16 => rm_X2_keepAct o16 M) mf_X2_keepAct lk_X9_178 im_X2_keepAct se_X2_keepAct rfl rfl rfl dX9_dull_38 rfl (by decide) (Nat.le_trans c_0 (by decide)) (fun u8 M => ?_)
      refine R_aloadq_n (pc' := 42) (i := 0) (j := 0) (q := (some this)) dX9_dull_41 rfl rfl rfl ?_
      refine R_getR (pc' := 45) (q := (some this)) fl_X9_41 rfl dX9_dull_42 rfl (fun book9 => ?_)
      refine R_getR (pc' := 48) (q := book9) fl_X9_110 rfl dX9_dull_45 rfl (fun scene10 => ?_)
      refine R_iload_n (pc' := 49) (i := 1) (j := 1) (x := l1) dX9_dull_48 rfl rfl rfl ?_
      refine R_callV_I (pc' := 52) (q := scene10) (As := [.int l1]) (fun o15 => rm_X6_since o15 l1 M) mf_X6_since lk_X9_126 im_X6_since se_X6_since rfl rfl rfl dX9_dull_49 rfl (by decide) (Nat.le_trans c_0 (by decide)) (fun r11 M => ?_)
      refine R_istore_n (pc' := 53) (L' := [(2, .int r11), (0, va_rf (some this)), (1, .int l1)]) (i := 2) (x := r11) dX9_dull_52 rfl rfl (by decide) rfl ?_
      refine R_aloadq_n (pc' := 54) (i := 0) (j := 1) (q := (some this)) dX9_dull_53 rfl rfl rfl ?_
      refine R_getR (pc' := 57) (q := (some this)) fl_X9_41 rfl dX9_dull_54 rfl (fun book12 => ?_)
      refine R_getR (pc' := 60) (q := book12) fl_X9_110 rfl dX9_dull_57 rfl (fun scene13 => ?_)
      refine R_getR (pc' := 63) (q := scene13) fl_X9_209 rfl dX9_dull_60 rfl (fun heard14 => ?_)
      refine R_iload_n (pc' := 64) (i := 1) (j := 2) (x := l1) dX9_dull_63 rfl rfl rfl ?_
      refine R_ldc (pc' := 66) (x := (-100000 : Int32)) dX9_dull_64 rfl co_X9_212 ?_
      refine R_iast (pc' := 67) (q := heard14) (i := l1) (x := (-100000 : Int32)) dX9_dull_66 rfl (fun M => ?_)
      refine R_iload_n (pc' := 68) (i := 2) (j := 0) (x := r11) dX9_dull_67 rfl rfl rfl ?_
      exact R_iret dX9_dull_68
    · exact R_sub [] rfl (rf_X9_dull_J32 this M)
/-! BarPilot.undo()I -/
def f_X9_undo_J22 (this : Nat) (s0 : Int32) (M : Mem) : Option (Int32 × Mem) :=
  some (s0, M)
set_option maxHeartbeats 2000000 in
set_option maxRecDepth 20000 in
theorem rf_X9_undo_J22 (this : Nat) (s0 : Int32) (M : Mem) : RF yX9_undo cX9_undo 1 (some .int) 3 eI (f_X9_undo_J22 this s0 M) 22 [] [.int s0] M := by
  rw [f_X9_undo_J22]
  exact R_iret dX9_undo_22
def f_X9_undo (this : Nat) (M : Mem) : Option (Int32 × Mem) :=
  (gR M 9 4 (some this)).bind fun book1 =>
  (oO M 2 book1).bind fun o5 => cl (f_X2_undoAct o5 M) fun r2 M =>
  (if r2 = 0 then
    (f_X9_undo_J22 this (-2 : Int32) M)
  else
    ((gR M 9 4 (some this)).bind fun book3 =>
    (gI M 2 6 book3).bind fun acts4 =>
    f_X9_undo_J22 this acts4 M))
set_option maxHeartbeats 2000000 in
set_option maxRecDepth 20000 in
theorem rm_X9_undo (this : Nat) (M : Mem) : RFm yX9_undo cX9_undo 1 (some .int) 3 eI (f_X9_undo this M) [va_rf (some this)] M := by
  refine RFm_of (L := [(0, va_rf (some this))]) (by decide) rfl (Nat.le_trans (c_R c_0) (by decide)) ?_
  rw [f_X9_undo]
  refine R_aloadq_n (pc' := 1) (i := 0) (j := 0) (q := (some this)) dX9_undo_0 rfl rfl rfl ?_
  refine R_getR (pc' := 4) (q := (some this)) fl_X9_41 rfl dX9_undo_1 rfl (fun book1 => ?_)
  refine R_callV_I (pc' := 7) (q := book1) (As := []) (fun o5 => rm_X2_undoAct o5 M) mf_X2_undoAct lk_X9_213 im_X2_undoAct se_X2_undoAct rfl rfl rfl dX9_undo_4 rfl (by decide) (Nat.le_trans c_0 (by decide)) (fun r2 M => ?_)
  refine R_if_eq (pc' := 10) (tgt := 20) (a := r2) dX9_undo_7 (by decide) rfl ?_ ?_
  · refine R_bipush (pc' := 22) (x := (-2 : Int32)) dX9_undo_20 rfl (by decide) ?_
    exact R_sub [] rfl (rf_X9_undo_J22 this (-2 : Int32) M)
  · refine R_aloadq_n (pc' := 11) (i := 0) (j := 0) (q := (some this)) dX9_undo_10 rfl rfl rfl ?_
    refine R_getR (pc' := 14) (q := (some this)) fl_X9_41 rfl dX9_undo_11 rfl (fun book3 => ?_)
    refine R_getI (pc' := 17) (q := book3) fl_X9_168 rfl dX9_undo_14 rfl (fun acts4 => ?_)
    refine R_goto (tgt := 22) dX9_undo_17 (by decide) ?_
    exact R_sub [] rfl (rf_X9_undo_J22 this acts4 M)
/-! BarPilot.asking()LBarPilot$Asker; -/
def f_X9_asking (this : Nat) (M : Mem) : Option (Option Nat × Mem) :=
  (gR M 9 6 (some this)).bind fun pilot1 =>
  (gR M 9 4 (some this)).bind fun book2 =>
  (gI M 2 8 book2).bind fun force3 =>
  (oO M 9 (some this)).bind fun o6 => cl (f_X9_ruleAt o6 force3 M) fun r4 M =>
  (pR M 3 0 pilot1 r4).bind fun M =>
  (gR M 9 7 (some this)).bind fun asker5 =>
  some (asker5, M)
set_option maxHeartbeats 2000000 in
set_option maxRecDepth 20000 in
theorem rm_X9_asking (this : Nat) (M : Mem) : RFm yX9_asking cX9_asking 1 (some (.object "BarPilot$Asker")) 2 eR (f_X9_asking this M) [va_rf (some this)] M := by
  refine RFm_of (L := [(0, va_rf (some this))]) (by decide) rfl (Nat.le_trans (c_R c_0) (by decide)) ?_
  rw [f_X9_asking]
  refine R_aloadq_n (pc' := 1) (i := 0) (j := 0) (q := (some this)) dX9_asking_0 rfl rfl rfl ?_
  refine R_getR (pc' := 4) (q := (some this)) fl_X9_58 rfl dX9_asking_1 rfl (fun pilot1 => ?_)
  refine R_aloadq_n (pc' := 5) (i := 0) (j := 0) (q := (some this)) dX9_asking_4 rfl rfl rfl ?_
  refine R_aloadq_n (pc' := 6) (i := 0) (j := 0) (q := (some this)) dX9_asking_5 rfl rfl rfl ?_
  refine R_getR (pc' := 9) (q := (some this)) fl_X9_41 rfl dX9_asking_6 rfl (fun book2 => ?_)
  refine R_getI (pc' := 12) (q := book2) fl_X9_104 rfl dX9_asking_9 rfl (fun force3 => ?_)
  refine R_callV_R (pc' := 15) (q := (some this)) (As := [.int force3]) (fun o6 => rm_X9_ruleAt o6 force3 M) mf_X9_ruleAt lk_X9_181 im_X9_ruleAt se_X9_ruleAt rfl rfl rfl dX9_asking_12 rfl (by decide) (Nat.le_trans (c_R c_0) (by decide)) (fun r4 M => ?_)
  refine R_putR (pc' := 18) (q := pilot1) (x := r4) fl_X9_185 rfl (Or.inl rfl) dX9_asking_15 rfl (fun M => ?_)
  refine R_aloadq_n (pc' := 19) (i := 0) (j := 0) (q := (some this)) dX9_asking_18 rfl rfl rfl ?_
  refine R_getR (pc' := 22) (q := (some this)) fl_X9_67 rfl dX9_asking_19 rfl (fun asker5 => ?_)
  exact R_aret (Or.inl ⟨_, rfl⟩) dX9_asking_22
/-! BarPilot.isWithin(III)Z -/
def f_X9_isWithin_J15 (s0 : Int32) (M : Mem) : Option (Int32 × Mem) :=
  ckZ s0 (some (s0, M))
set_option maxHeartbeats 2000000 in
set_option maxRecDepth 20000 in
theorem rf_X9_isWithin_J15 (s0 : Int32) (M : Mem) : RF yX9_isWithin cX9_isWithin 3 (some .boolean) 1 eI (f_X9_isWithin_J15 s0 M) 15 [] [.int s0] M := by
  rw [f_X9_isWithin_J15]
  exact R_bret dX9_isWithin_15
def f_X9_isWithin_J14 (M : Mem) : Option (Int32 × Mem) :=
  f_X9_isWithin_J15 (nI 0) M
set_option maxHeartbeats 2000000 in
set_option maxRecDepth 20000 in
theorem rf_X9_isWithin_J14 (M : Mem) : RF yX9_isWithin cX9_isWithin 3 (some .boolean) 1 eI (f_X9_isWithin_J14 M) 14 [] [] M := by
  rw [f_X9_isWithin_J14]
  refine R_iconst (pc' := 15) (x := (nI 0)) dX9_isWithin_14 rfl (by decide) ?_
  exact R_sub [] rfl (rf_X9_isWithin_J15 (nI 0) M)
def f_X9_isWithin (l0 : Int32) (l1 : Int32) (l2 : Int32) (M : Mem) : Option (Int32 × Mem) :=
  (if l0 < l1 then
    (f_X9_isWithin_J14 M)
  else
    ((if l2 < l0 then
      (f_X9_isWithin_J14 M)
    else
      (f_X9_isWithin_J15 (nI 1) M))))
set_option maxHeartbeats 2000000 in
set_option maxRecDepth 20000 in
theorem rm_X9_isWithin (l0 : Int32) (l1 : Int32) (l2 : Int32) (M : Mem) : RFm yX9_isWithin cX9_isWithin 3 (some .boolean) 1 eI (f_X9_isWithin l0 l1 l2 M) [.int l0, .int l1, .int l2] M := by
  refine RFm_of (L := [(0, .int l0), (1, .int l1), (2, .int l2)]) (by decide) rfl (Nat.le_trans (c_I (c_I (c_I c_0))) (by decide)) ?_
  rw [f_X9_isWithin]
  refine R_iload_n (pc' := 1) (i := 0) (j := 0) (x := l0) dX9_isWithin_0 rfl rfl rfl ?_
  refine R_iload_n (pc' := 2) (i := 1) (j := 1) (x := l1) dX9_isWithin_1 rfl rfl rfl ?_
  refine R_icmp_lt (pc' := 5) (tgt := 14) (a := l0) (b := l1) dX9_isWithin_2 (by decide) rfl ?_ ?_
  · exact R_sub [] rfl (rf_X9_isWithin_J14 M)
  · refine R_iload_n (pc' := 6) (i := 0) (j := 0) (x := l0) dX9_isWithin_5 rfl rfl rfl ?_
    refine R_iload_n (pc' := 7) (i := 2) (j := 2) (x := l2) dX9_isWithin_6 rfl rfl rfl ?_
    refine R_icmp_gt (pc' := 10) (tgt := 14) (a := l0) (b := l2) dX9_isWithin_7 (by decide) rfl ?_ ?_
    · exact R_sub [] rfl (rf_X9_isWithin_J14 M)
    · refine R_iconst (pc' := 11) (x := (nI 1)) dX9_isWithin_10 rfl (by decide) ?_
      refine R_goto (tgt := 15) dX9_isWithin_11 (by decide) ?_
      exact R_sub [] rfl (rf_X9_isWithin_J15 (nI 1) M)
/-! BarPilot.ahead(III)I -/
def f_X9_ahead_J57 (this : Nat) (M : Mem) : Option (Int32 × Mem) :=
  some ((-2 : Int32), M)
set_option maxHeartbeats 2000000 in
set_option maxRecDepth 20000 in
theorem rf_X9_ahead_J57 (this : Nat) (M : Mem) : RF yX9_ahead cX9_ahead 6 (some .int) 7 eI (f_X9_ahead_J57 this M) 57 [] [] M := by
  rw [f_X9_ahead_J57]
  refine R_bipush (pc' := 59) (x := (-2 : Int32)) dX9_ahead_57 rfl (by decide) ?_
  exact R_iret dX9_ahead_59
def f_X9_ahead_J115 (this : Nat) (s0 : Int32) (M : Mem) : Option (Int32 × Mem) :=
  some (s0, M)
set_option maxHeartbeats 2000000 in
set_option maxRecDepth 20000 in
theorem rf_X9_ahead_J115 (this : Nat) (s0 : Int32) (M : Mem) : RF yX9_ahead cX9_ahead 6 (some .int) 7 eI (f_X9_ahead_J115 this s0 M) 115 [] [.int s0] M := by
  rw [f_X9_ahead_J115]
  exact R_iret dX9_ahead_115
def f_X9_ahead_J60 (this : Nat) (l1 : Int32) (l2 : Int32) (l3 : Int32) (l4 : Int32) (M : Mem) : Option (Int32 × Mem) :=
  (oO M 9 (some this)).bind fun o14 => cl (f_X9_asking o14 M) fun r1 M =>
  (oO M 0 r1).bind fun o13 => cl (f_X0_later o13 l2 M) fun r2 M =>
  (if l4 = 0 then
    ((if l3 = (nI 1) then
      ((gR M 9 4 (some this)).bind fun book7 =>
      (gR M 2 0 book7).bind fun told8 =>
      (oO M 8 told8).bind fun o10 => cl (f_X8_earned o10 r2 M) fun r9 M =>
      f_X9_ahead_J115 this r9 M)
    else
      ((gR M 9 4 (some this)).bind fun book3 =>
      (gR M 2 0 book3).bind fun told4 =>
      (oO M 8 told4).bind fun o6 => cl (f_X8_passed o6 r2 M) fun r5 M =>
      f_X9_ahead_J115 this r5 M)))
  else
    ((gR M 6 3 r2).bind fun passed11 =>
    (aI M 0 passed11 l1).bind fun e12 =>
    some (e12, M)))
set_option maxHeartbeats 2000000 in
set_option maxRecDepth 20000 in
theorem rf_X9_ahead_J60 (this : Nat) (l1 : Int32) (l2 : Int32) (l3 : Int32) (l4 : Int32) (M : Mem) : RF yX9_ahead cX9_ahead 6 (some .int) 7 eI (f_X9_ahead_J60 this l1 l2 l3 l4 M) 60 [(0, va_rf (some this)), (1, .int l1), (2, .int l2), (3, .int l3), (4, .int l4)] [] M := by
  rw [f_X9_ahead_J60]
  refine R_aloadq_n (pc' := 61) (i := 0) (j := 0) (q := (some this)) dX9_ahead_60 rfl rfl rfl ?_
  refine R_callV_R (pc' := 64) (q := (some this)) (As := []) (fun o14 => rm_X9_asking o14 M) mf_X9_asking lk_X9_221 im_X9_asking se_X9_asking rfl rfl rfl dX9_ahead_61 rfl (by decide) (Nat.le_trans c_0 (by decide)) (fun r1 M => ?_)
  refine R_iload_n (pc' := 65) (i := 2) (j := 2) (x := l2) dX9_ahead_64 rfl rfl rfl ?_
  refine R_callV_R (pc' := 68) (q := r1) (As := [.int l2]) (fun o13 => rm_X0_later o13 l2 M) mf_X0_later lk_X9_225 im_X0_later se_X0_later rfl rfl rfl dX9_ahead_65 rfl (by decide) (Nat.le_trans c_0 (by decide)) (fun r2 M => ?_)
  refine R_astoreq (pc' := 70) (L' := [(5, va_rf r2), (0, va_rf (some this)), (1, .int l1), (2, .int l2), (3, .int l3), (4, .int l4)]) (i := 5) (q := r2) dX9_ahead_68 rfl (by decide) rfl ?_
  refine R_iload (pc' := 72) (i := 4) (j := 5) (x := l4) dX9_ahead_70 rfl rfl ?_
  refine R_if_eq (pc' := 75) (tgt := 83) (a := l4) dX9_ahead_72 (by decide) rfl ?_ ?_
  · refine R_iload_n (pc' := 84) (i := 3) (j := 4) (x := l3) dX9_ahead_83 rfl rfl rfl ?_
    refine R_iconst (pc' := 85) (x := (nI 1)) dX9_ahead_84 rfl (by decide) ?_
    refine R_icmp_ne (pc' := 88) (tgt := 103) (a := l3) (b := (nI 1)) dX9_ahead_85 (by decide) rfl ?_ ?_
    · refine R_aloadq_n (pc' := 104) (i := 0) (j := 1) (q := (some this)) dX9_ahead_103 rfl rfl rfl ?_
      refine R_getR (pc' := 107) (q := (some this)) fl_X9_41 rfl dX9_ahead_104 rfl (fun book3 => ?_)
      refine R_getR (pc' := 110) (q := book3) fl_X9_51 rfl dX9_ahead_107 rfl (fun told4 => ?_)
      refine R_aloadq (pc' := 112) (i := 5) (j := 0) (q := r2) dX9_ahead_110 rfl rfl ?_
      refine R_callV_I (pc' := 115) (q := told4) (As := [va_rf r2]) (fun o6 => rm_X8_passed o6 r2 M) mf_X8_passed lk_X9_229 im_X8_passed se_X8_passed rfl rfl rfl dX9_ahead_112 rfl (by decide) (Nat.le_trans c_0 (by decide)) (fun r5 M => ?_)
      exact R_sub [] rfl (rf_X9_ahead_J115 this r5 M)
    · refine R_aloadq_n (pc' := 89) (i := 0) (j := 1) (q := (some this)) dX9_ahead_88 rfl rfl rfl ?_
      refine R_getR (pc' := 92) (q := (some this)) fl_X9_41 rfl dX9_ahead_89 rfl (fun book7 => ?_)
      refine R_getR (pc' := 95) (q := book7) fl_X9_51 rfl dX9_ahead_92 rfl (fun told8 => ?_)
      refine R_aloadq (pc' := 97) (i := 5) (j := 0) (q := r2) dX9_ahead_95 rfl rfl ?_
      refine R_callV_I (pc' := 100) (q := told8) (As := [va_rf r2]) (fun o10 => rm_X8_earned o10 r2 M) mf_X8_earned lk_X9_159 im_X8_earned se_X8_earned rfl rfl rfl dX9_ahead_97 rfl (by decide) (Nat.le_trans c_0 (by decide)) (fun r9 M => ?_)
      refine R_goto (tgt := 115) dX9_ahead_100 (by decide) ?_
      exact R_sub [] rfl (rf_X9_ahead_J115 this r9 M)
  · refine R_aloadq (pc' := 77) (i := 5) (j := 0) (q := r2) dX9_ahead_75 rfl rfl ?_
    refine R_getR (pc' := 80) (q := r2) fl_X9_144 rfl dX9_ahead_77 rfl (fun passed11 => ?_)
    refine R_iload_n (pc' := 81) (i := 1) (j := 2) (x := l1) dX9_ahead_80 rfl rfl rfl ?_
    refine R_iald (pc' := 82) (q := passed11) (i := l1) dX9_ahead_81 rfl (fun e12 => ?_)
    exact R_iret dX9_ahead_82
def f_X9_ahead_J17 (this : Nat) (l1 : Int32) (l2 : Int32) (l3 : Int32) (s0 : Int32) (M : Mem) : Option (Int32 × Mem) :=
  (gR M 9 4 (some this)).bind fun book1 =>
  (gR M 2 0 book1).bind fun told2 =>
  (gI M 8 0 told2).bind fun there3 =>
  (if there3 = 0 then
    (f_X9_ahead_J57 this M)
  else
    (cl (f_X9_isWithin l2 (nI 0) (nI 100) M) fun r4 M =>
    (if r4 = 0 then
      (f_X9_ahead_J57 this M)
    else
      ((if s0 = 0 then
        ((if l3 = (nI 1) then
          (f_X9_ahead_J60 this l1 l2 l3 s0 M)
        else
          ((if l3 = (nI 2) then
            (f_X9_ahead_J60 this l1 l2 l3 s0 M)
          else
            (f_X9_ahead_J57 this M)))))
      else
        (f_X9_ahead_J60 this l1 l2 l3 s0 M))))))
set_option maxHeartbeats 2000000 in
set_option maxRecDepth 20000 in
theorem rf_X9_ahead_J17 (this : Nat) (l1 : Int32) (l2 : Int32) (l3 : Int32) (s0 : Int32) (M : Mem) : RF yX9_ahead cX9_ahead 6 (some .int) 7 eI (f_X9_ahead_J17 this l1 l2 l3 s0 M) 17 [(0, va_rf (some this)), (1, .int l1), (2, .int l2), (3, .int l3)] [.int s0] M := by
  rw [f_X9_ahead_J17]
  refine R_istore (pc' := 19) (L' := [(4, .int s0), (0, va_rf (some this)), (1, .int l1), (2, .int l2), (3, .int l3)]) (i := 4) (x := s0) dX9_ahead_17 rfl (by decide) rfl ?_
  refine R_aloadq_n (pc' := 20) (i := 0) (j := 1) (q := (some this)) dX9_ahead_19 rfl rfl rfl ?_
  refine R_getR (pc' := 23) (q := (some this)) fl_X9_41 rfl dX9_ahead_20 rfl (fun book1 => ?_)
  refine R_getR (pc' := 26) (q := book1) fl_X9_51 rfl dX9_ahead_23 rfl (fun told2 => ?_)
  refine R_getI (pc' := 29) (q := told2) fl_X9_174 rfl dX9_ahead_26 rfl (fun there3 => ?_)
  refine R_if_eq (pc' := 32) (tgt := 57) (a := there3) dX9_ahead_29 (by decide) rfl ?_ ?_
  · exact R_sub [] rfl (rf_X9_ahead_J57 this M)
  · refine R_iload_n (pc' := 33) (i := 2) (j := 3) (x := l2) dX9_ahead_32 rfl rfl rfl ?_
    refine R_iconst (pc' := 34) (x := (nI 0)) dX9_ahead_33 rfl (by decide) ?_
    refine R_bipush (pc' := 36) (x := (nI 100)) dX9_ahead_34 rfl (by decide) ?_
    refine R_callS_I (pc' := 39) (As := [.int l2, .int (nI 0), .int (nI 100)]) (rm_X9_isWithin l2 (nI 0) (nI 100) M) mf_X9_isWithin lk_X9_217 sm_X9_isWithin rfl rfl dX9_ahead_36 rfl (by decide) (Nat.le_trans c_0 (by decide)) (fun r4 M => ?_)
    refine R_if_eq (pc' := 42) (tgt := 57) (a := r4) dX9_ahead_39 (by decide) rfl ?_ ?_
    · exact R_sub [] rfl (rf_X9_ahead_J57 this M)
    · refine R_iload (pc' := 44) (i := 4) (j := 0) (x := s0) dX9_ahead_42 rfl rfl ?_
      refine R_if_ne (pc' := 47) (tgt := 60) (a := s0) dX9_ahead_44 (by decide) rfl ?_ ?_
      · exact R_sub [1, 2, 3, 4, 0] rfl (rf_X9_ahead_J60 this l1 l2 l3 s0 M)
      · refine R_iload_n (pc' := 48) (i := 3) (j := 4) (x := l3) dX9_ahead_47 rfl rfl rfl ?_
        refine R_iconst (pc' := 49) (x := (nI 1)) dX9_ahead_48 rfl (by decide) ?_
        refine R_icmp_eq (pc' := 52) (tgt := 60) (a := l3) (b := (nI 1)) dX9_ahead_49 (by decide) rfl ?_ ?_
        · exact R_sub [1, 2, 3, 4, 0] rfl (rf_X9_ahead_J60 this l1 l2 l3 s0 M)
        · refine R_iload_n (pc' := 53) (i := 3) (j := 4) (x := l3) dX9_ahead_52 rfl rfl rfl ?_
          refine R_iconst (pc' := 54) (x := (nI 2)) dX9_ahead_53 rfl (by decide) ?_
          refine R_icmp_eq (pc' := 57) (tgt := 60) (a := l3) (b := (nI 2)) dX9_ahead_54 (by decide) rfl ?_ ?_
          · exact R_sub [1, 2, 3, 4, 0] rfl (rf_X9_ahead_J60 this l1 l2 l3 s0 M)
          · exact R_sub [] rfl (rf_X9_ahead_J57 this M)
def f_X9_ahead_J16 (this : Nat) (l1 : Int32) (l2 : Int32) (l3 : Int32) (M : Mem) : Option (Int32 × Mem) :=
  f_X9_ahead_J17 this l1 l2 l3 (nI 0) M
set_option maxHeartbeats 2000000 in
set_option maxRecDepth 20000 in
theorem rf_X9_ahead_J16 (this : Nat) (l1 : Int32) (l2 : Int32) (l3 : Int32) (M : Mem) : RF yX9_ahead cX9_ahead 6 (some .int) 7 eI (f_X9_ahead_J16 this l1 l2 l3 M) 16 [(0, va_rf (some this)), (1, .int l1), (2, .int l2), (3, .int l3)] [] M := by
  rw [f_X9_ahead_J16]
  refine R_iconst (pc' := 17) (x := (nI 0)) dX9_ahead_16 rfl (by decide) ?_
  exact R_sub [0, 1, 2, 3] rfl (rf_X9_ahead_J17 this l1 l2 l3 (nI 0) M)
def f_X9_ahead (this : Nat) (l1 : Int32) (l2 : Int32) (l3 : Int32) (M : Mem) : Option (Int32 × Mem) :=
  (if l3 = 0 then
    ((oO M 9 (some this)).bind fun o2 => cl (f_X9_isShip o2 l1 M) fun r1 M =>
    (if r1 = 0 then
      (f_X9_ahead_J16 this l1 l2 l3 M)
    else
      (f_X9_ahead_J17 this l1 l2 l3 (nI 1) M)))
  else
    (f_X9_ahead_J16 this l1 l2 l3 M))
set_option maxHeartbeats 2000000 in
set_option maxRecDepth 20000 in
theorem rm_X9_ahead (this : Nat) (l1 : Int32) (l2 : Int32) (l3 : Int32) (M : Mem) : RFm yX9_ahead cX9_ahead 6 (some .int) 7 eI (f_X9_ahead this l1 l2 l3 M) [va_rf (some this), .int l1, .int l2, .int l3] M := by
  refine RFm_of (L := [(0, va_rf (some this)), (1, .int l1), (2, .int l2), (3, .int l3)]) (by decide) rfl (Nat.le_trans (c_R (c_I (c_I (c_I c_0)))) (by decide)) ?_
  rw [f_X9_ahead]
  refine R_iload_n (pc' := 1) (i := 3) (j := 3) (x := l3) dX9_ahead_0 rfl rfl rfl ?_
  refine R_if_ne (pc' := 4) (tgt := 16) (a := l3) dX9_ahead_1 (by decide) rfl ?_ ?_
  · exact R_sub [0, 1, 2, 3] rfl (rf_X9_ahead_J16 this l1 l2 l3 M)
  · refine R_aloadq_n (pc' := 5) (i := 0) (j := 0) (q := (some this)) dX9_ahead_4 rfl rfl rfl ?_
    refine R_iload_n (pc' := 6) (i := 1) (j := 1) (x := l1) dX9_ahead_5 rfl rfl rfl ?_
    refine R_callV_I (pc' := 9) (q := (some this)) (As := [.int l1]) (fun o2 => rm_X9_isShip o2 l1 M) mf_X9_isShip lk_X9_132 im_X9_isShip se_X9_isShip rfl rfl rfl dX9_ahead_6 rfl (by decide) (Nat.le_trans c_0 (by decide)) (fun r1 M => ?_)
    refine R_if_eq (pc' := 12) (tgt := 16) (a := r1) dX9_ahead_9 (by decide) rfl ?_ ?_
    · exact R_sub [0, 1, 2, 3] rfl (rf_X9_ahead_J16 this l1 l2 l3 M)
    · refine R_iconst (pc' := 13) (x := (nI 1)) dX9_ahead_12 rfl (by decide) ?_
      refine R_goto (tgt := 17) dX9_ahead_13 (by decide) ?_
      exact R_sub [0, 1, 2, 3] rfl (rf_X9_ahead_J17 this l1 l2 l3 (nI 1) M)
/-! BarPilot.over(II)I -/
def f_X9_over_J17 (this : Nat) (M : Mem) : Option (Int32 × Mem) :=
  some ((-1 : Int32), M)
set_option maxHeartbeats 2000000 in
set_option maxRecDepth 20000 in
theorem rf_X9_over_J17 (this : Nat) (M : Mem) : RF yX9_over cX9_over 3 (some .int) 7 eI (f_X9_over_J17 this M) 17 [] [] M := by
  rw [f_X9_over_J17]
  refine R_iconst (pc' := 18) (x := (-1 : Int32)) dX9_over_17 rfl (by decide) ?_
  exact R_iret dX9_over_18
def f_X9_over_J54 (this : Nat) (s0 : Int32) (M : Mem) : Option (Int32 × Mem) :=
  some (s0, M)
set_option maxHeartbeats 2000000 in
set_option maxRecDepth 20000 in
theorem rf_X9_over_J54 (this : Nat) (s0 : Int32) (M : Mem) : RF yX9_over cX9_over 3 (some .int) 7 eI (f_X9_over_J54 this s0 M) 54 [] [.int s0] M := by
  rw [f_X9_over_J54]
  exact R_iret dX9_over_54
def f_X9_over (this : Nat) (l1 : Int32) (l2 : Int32) (M : Mem) : Option (Int32 × Mem) :=
  (oO M 9 (some this)).bind fun o11 => cl (f_X9_isWaiting o11 l1 M) fun r1 M =>
  (if r1 = 0 then
    (f_X9_over_J17 this M)
  else
    (cl (f_X9_isWithin l2 (nI 0) (nI 1) M) fun r2 M =>
    (if r2 = 0 then
      (f_X9_over_J17 this M)
    else
      ((oO M 9 (some this)).bind fun o10 => cl (f_X9_asking o10 M) fun r3 M =>
      (oO M 0 r3).bind fun o9 => cl (f_X0_findPassing o9 l1 M) fun r4 M =>
      (if r4 = 0 then
        (some ((-2 : Int32), M))
      else
        ((if l2 = 0 then
          ((gR M 9 7 (some this)).bind fun asker7 =>
          (gI M 0 0 asker7).bind fun amount8 =>
          f_X9_over_J54 this amount8 M)
        else
          ((gR M 9 7 (some this)).bind fun asker5 =>
          (gI M 0 1 asker5).bind fun first6 =>
          f_X9_over_J54 this first6 M))))))))
set_option maxHeartbeats 2000000 in
set_option maxRecDepth 20000 in
theorem rm_X9_over (this : Nat) (l1 : Int32) (l2 : Int32) (M : Mem) : RFm yX9_over cX9_over 3 (some .int) 7 eI (f_X9_over this l1 l2 M) [va_rf (some this), .int l1, .int l2] M := by
  refine RFm_of (L := [(0, va_rf (some this)), (1, .int l1), (2, .int l2)]) (by decide) rfl (Nat.le_trans (c_R (c_I (c_I c_0))) (by decide)) ?_
  rw [f_X9_over]
  refine R_aloadq_n (pc' := 1) (i := 0) (j := 0) (q := (some this)) dX9_over_0 rfl rfl rfl ?_
  refine R_iload_n (pc' := 2) (i := 1) (j := 1) (x := l1) dX9_over_1 rfl rfl rfl ?_
  refine R_callV_I (pc' := 5) (q := (some this)) (As := [.int l1]) (fun o11 => rm_X9_isWaiting o11 l1 M) mf_X9_isWaiting lk_X9_192 im_X9_isWaiting se_X9_isWaiting rfl rfl rfl dX9_over_2 rfl (by decide) (Nat.le_trans c_0 (by decide)) (fun r1 M => ?_)
  refine R_if_eq (pc' := 8) (tgt := 17) (a := r1) dX9_over_5 (by decide) rfl ?_ ?_
  · exact R_sub [] rfl (rf_X9_over_J17 this M)
  · refine R_iload_n (pc' := 9) (i := 2) (j := 2) (x := l2) dX9_over_8 rfl rfl rfl ?_
    refine R_iconst (pc' := 10) (x := (nI 0)) dX9_over_9 rfl (by decide) ?_
    refine R_iconst (pc' := 11) (x := (nI 1)) dX9_over_10 rfl (by decide) ?_
    refine R_callS_I (pc' := 14) (As := [.int l2, .int (nI 0), .int (nI 1)]) (rm_X9_isWithin l2 (nI 0) (nI 1) M) mf_X9_isWithin lk_X9_217 sm_X9_isWithin rfl rfl dX9_over_11 rfl (by decide) (Nat.le_trans c_0 (by decide)) (fun r2 M => ?_)
    refine R_if_ne (pc' := 17) (tgt := 19) (a := r2) dX9_over_14 (by decide) rfl ?_ ?_
    · refine R_aloadq_n (pc' := 20) (i := 0) (j := 0) (q := (some this)) dX9_over_19 rfl rfl rfl ?_
      refine R_callV_R (pc' := 23) (q := (some this)) (As := []) (fun o10 => rm_X9_asking o10 M) mf_X9_asking lk_X9_221 im_X9_asking se_X9_asking rfl rfl rfl dX9_over_20 rfl (by decide) (Nat.le_trans c_0 (by decide)) (fun r3 M => ?_)
      refine R_iload_n (pc' := 24) (i := 1) (j := 1) (x := l1) dX9_over_23 rfl rfl rfl ?_
      refine R_callV_I (pc' := 27) (q := r3) (As := [.int l1]) (fun o9 => rm_X0_findPassing o9 l1 M) mf_X0_findPassing lk_X9_231 im_X0_findPassing se_X0_findPassing rfl rfl rfl dX9_over_24 rfl (by decide) (Nat.le_trans c_0 (by decide)) (fun r4 M => ?_)
      refine R_if_ne (pc' := 30) (tgt := 33) (a := r4) dX9_over_27 (by decide) rfl ?_ ?_
      · refine R_iload_n (pc' := 34) (i := 2) (j := 2) (x := l2) dX9_over_33 rfl rfl rfl ?_
        refine R_if_ne (pc' := 37) (tgt := 47) (a := l2) dX9_over_34 (by decide) rfl ?_ ?_
        · refine R_aloadq_n (pc' := 48) (i := 0) (j := 0) (q := (some this)) dX9_over_47 rfl rfl rfl ?_
          refine R_getR (pc' := 51) (q := (some this)) fl_X9_67 rfl dX9_over_48 rfl (fun asker5 => ?_)
          refine R_getI (pc' := 54) (q := asker5) fl_X9_237 rfl dX9_over_51 rfl (fun first6 => ?_)
          exact R_sub [] rfl (rf_X9_over_J54 this first6 M)
        · refine R_aloadq_n (pc' := 38) (i := 0) (j := 0) (q := (some this)) dX9_over_37 rfl rfl rfl ?_
          refine R_getR (pc' := 41) (q := (some this)) fl_X9_67 rfl dX9_over_38 rfl (fun asker7 => ?_)
          refine R_getI (pc' := 44) (q := asker7) fl_X9_234 rfl dX9_over_41 rfl (fun amount8 => ?_)
          refine R_goto (tgt := 54) dX9_over_44 (by decide) ?_
          exact R_sub [] rfl (rf_X9_over_J54 this amount8 M)
      · refine R_bipush (pc' := 32) (x := (-2 : Int32)) dX9_over_30 rfl (by decide) ?_
        exact R_iret dX9_over_32
    · exact R_sub [] rfl (rf_X9_over_J17 this M)
/-! BarPilot.alike(II)I -/
def f_X9_alike_J16 (this : Nat) (M : Mem) : Option (Int32 × Mem) :=
  some ((-1 : Int32), M)
set_option maxHeartbeats 2000000 in
set_option maxRecDepth 20000 in
theorem rf_X9_alike_J16 (this : Nat) (M : Mem) : RF yX9_alike cX9_alike 3 (some .int) 3 eI (f_X9_alike_J16 this M) 16 [] [] M := by
  rw [f_X9_alike_J16]
  refine R_iconst (pc' := 17) (x := (-1 : Int32)) dX9_alike_16 rfl (by decide) ?_
  exact R_iret dX9_alike_17
def f_X9_alike (this : Nat) (l1 : Int32) (l2 : Int32) (M : Mem) : Option (Int32 × Mem) :=
  (oO M 9 (some this)).bind fun o8 => cl (f_X9_isJoke o8 l1 M) fun r1 M =>
  (if r1 = 0 then
    (f_X9_alike_J16 this M)
  else
    ((oO M 9 (some this)).bind fun o7 => cl (f_X9_isJoke o7 l2 M) fun r2 M =>
    (if r2 = 0 then
      (f_X9_alike_J16 this M)
    else
      ((gR M 9 4 (some this)).bind fun book3 =>
      (gR M 2 0 book3).bind fun told4 =>
      (oO M 8 told4).bind fun o6 => cl (f_X8_partsAlike o6 l1 l2 M) fun r5 M =>
      some (r5, M)))))
set_option maxHeartbeats 2000000 in
set_option maxRecDepth 20000 in
theorem rm_X9_alike (this : Nat) (l1 : Int32) (l2 : Int32) (M : Mem) : RFm yX9_alike cX9_alike 3 (some .int) 3 eI (f_X9_alike this l1 l2 M) [va_rf (some this), .int l1, .int l2] M := by
  refine RFm_of (L := [(0, va_rf (some this)), (1, .int l1), (2, .int l2)]) (by decide) rfl (Nat.le_trans (c_R (c_I (c_I c_0))) (by decide)) ?_
  rw [f_X9_alike]
  refine R_aloadq_n (pc' := 1) (i := 0) (j := 0) (q := (some this)) dX9_alike_0 rfl rfl rfl ?_
  refine R_iload_n (pc' := 2) (i := 1) (j := 1) (x := l1) dX9_alike_1 rfl rfl rfl ?_
  refine R_callV_I (pc' := 5) (q := (some this)) (As := [.int l1]) (fun o8 => rm_X9_isJoke o8 l1 M) mf_X9_isJoke lk_X9_107 im_X9_isJoke se_X9_isJoke rfl rfl rfl dX9_alike_2 rfl (by decide) (Nat.le_trans c_0 (by decide)) (fun r1 M => ?_)
  refine R_if_eq (pc' := 8) (tgt := 16) (a := r1) dX9_alike_5 (by decide) rfl ?_ ?_
  · exact R_sub [] rfl (rf_X9_alike_J16 this M)
  · refine R_aloadq_n (pc' := 9) (i := 0) (j := 0) (q := (some this)) dX9_alike_8 rfl rfl rfl ?_
    refine R_iload_n (pc' := 10) (i := 2) (j := 2) (x := l2) dX9_alike_9 rfl rfl rfl ?_
    refine R_callV_I (pc' := 13) (q := (some this)) (As := [.int l2]) (fun o7 => rm_X9_isJoke o7 l2 M) mf_X9_isJoke lk_X9_107 im_X9_isJoke se_X9_isJoke rfl rfl rfl dX9_alike_10 rfl (by decide) (Nat.le_trans c_0 (by decide)) (fun r2 M => ?_)
    refine R_if_ne (pc' := 16) (tgt := 18) (a := r2) dX9_alike_13 (by decide) rfl ?_ ?_
    · refine R_aloadq_n (pc' := 19) (i := 0) (j := 0) (q := (some this)) dX9_alike_18 rfl rfl rfl ?_
      refine R_getR (pc' := 22) (q := (some this)) fl_X9_41 rfl dX9_alike_19 rfl (fun book3 => ?_)
      refine R_getR (pc' := 25) (q := book3) fl_X9_51 rfl dX9_alike_22 rfl (fun told4 => ?_)
      refine R_iload_n (pc' := 26) (i := 1) (j := 1) (x := l1) dX9_alike_25 rfl rfl rfl ?_
      refine R_iload_n (pc' := 27) (i := 2) (j := 2) (x := l2) dX9_alike_26 rfl rfl rfl ?_
      refine R_callV_I (pc' := 30) (q := told4) (As := [.int l1, .int l2]) (fun o6 => rm_X8_partsAlike o6 l1 l2 M) mf_X8_partsAlike lk_X9_240 im_X8_partsAlike se_X8_partsAlike rfl rfl rfl dX9_alike_27 rfl (by decide) (Nat.le_trans c_0 (by decide)) (fun r5 M => ?_)
      exact R_iret dX9_alike_30
    · exact R_sub [] rfl (rf_X9_alike_J16 this M)
/-! BarPilot.fresh()I -/
def f_X9_fresh (this : Nat) (M : Mem) : Option (Int32 × Mem) :=
  (gR M 9 4 (some this)).bind fun book1 =>
  (gR M 2 0 book1).bind fun told2 =>
  (gI M 8 0 told2).bind fun there3 =>
  (if there3 = 0 then
    (some ((-1 : Int32), M))
  else
    ((gR M 9 4 (some this)).bind fun book4 =>
    (gR M 2 0 book4).bind fun told5 =>
    (gR M 9 4 (some this)).bind fun book6 =>
    (gR M 2 0 book6).bind fun told7 =>
    (gR M 9 4 (some this)).bind fun book8 =>
    (gR M 2 1 book8).bind fun scene9 =>
    (oO M 8 told7).bind fun o13 => cl (f_X8_remembered o13 scene9 M) fun r10 M =>
    (oO M 8 told5).bind fun o12 => cl (f_X8_newOnes o12 r10 M) fun r11 M =>
    some (r11, M)))
set_option maxHeartbeats 2000000 in
set_option maxRecDepth 20000 in
theorem rm_X9_fresh (this : Nat) (M : Mem) : RFm yX9_fresh cX9_fresh 1 (some .int) 3 eI (f_X9_fresh this M) [va_rf (some this)] M := by
  refine RFm_of (L := [(0, va_rf (some this))]) (by decide) rfl (Nat.le_trans (c_R c_0) (by decide)) ?_
  rw [f_X9_fresh]
  refine R_aloadq_n (pc' := 1) (i := 0) (j := 0) (q := (some this)) dX9_fresh_0 rfl rfl rfl ?_
  refine R_getR (pc' := 4) (q := (some this)) fl_X9_41 rfl dX9_fresh_1 rfl (fun book1 => ?_)
  refine R_getR (pc' := 7) (q := book1) fl_X9_51 rfl dX9_fresh_4 rfl (fun told2 => ?_)
  refine R_getI (pc' := 10) (q := told2) fl_X9_174 rfl dX9_fresh_7 rfl (fun there3 => ?_)
  refine R_if_ne (pc' := 13) (tgt := 15) (a := there3) dX9_fresh_10 (by decide) rfl ?_ ?_
  · refine R_aloadq_n (pc' := 16) (i := 0) (j := 0) (q := (some this)) dX9_fresh_15 rfl rfl rfl ?_
    refine R_getR (pc' := 19) (q := (some this)) fl_X9_41 rfl dX9_fresh_16 rfl (fun book4 => ?_)
    refine R_getR (pc' := 22) (q := book4) fl_X9_51 rfl dX9_fresh_19 rfl (fun told5 => ?_)
    refine R_aloadq_n (pc' := 23) (i := 0) (j := 0) (q := (some this)) dX9_fresh_22 rfl rfl rfl ?_
    refine R_getR (pc' := 26) (q := (some this)) fl_X9_41 rfl dX9_fresh_23 rfl (fun book6 => ?_)
    refine R_getR (pc' := 29) (q := book6) fl_X9_51 rfl dX9_fresh_26 rfl (fun told7 => ?_)
    refine R_aloadq_n (pc' := 30) (i := 0) (j := 0) (q := (some this)) dX9_fresh_29 rfl rfl rfl ?_
    refine R_getR (pc' := 33) (q := (some this)) fl_X9_41 rfl dX9_fresh_30 rfl (fun book8 => ?_)
    refine R_getR (pc' := 36) (q := book8) fl_X9_110 rfl dX9_fresh_33 rfl (fun scene9 => ?_)
    refine R_callV_I (pc' := 39) (q := told7) (As := [va_rf scene9]) (fun o13 => rm_X8_remembered o13 scene9 M) mf_X8_remembered lk_X9_114 im_X8_remembered se_X8_remembered rfl rfl rfl dX9_fresh_36 rfl (by decide) (Nat.le_trans (c_R c_0) (by decide)) (fun r10 M => ?_)
    refine R_callV_I (pc' := 42) (q := told5) (As := [.int r10]) (fun o12 => rm_X8_newOnes o12 r10 M) mf_X8_newOnes lk_X9_243 im_X8_newOnes se_X8_newOnes rfl rfl rfl dX9_fresh_39 rfl (by decide) (Nat.le_trans c_0 (by decide)) (fun r11 M => ?_)
    exact R_iret dX9_fresh_42
  · refine R_iconst (pc' := 14) (x := (-1 : Int32)) dX9_fresh_13 rfl (by decide) ?_
    exact R_iret dX9_fresh_14
/-! BarPilot.least()I -/
def f_X9_least (this : Nat) (M : Mem) : Option (Int32 × Mem) :=
  (gR M 9 4 (some this)).bind fun book1 =>
  (gR M 2 0 book1).bind fun told2 =>
  (gI M 8 0 told2).bind fun there3 =>
  (if there3 = 0 then
    (some ((-1 : Int32), M))
  else
    ((gR M 9 4 (some this)).bind fun book4 =>
    (gR M 2 0 book4).bind fun told5 =>
    (oO M 8 told5).bind fun o7 => cl (f_X8_leastUnlike o7 M) fun r6 M =>
    some (r6, M)))
set_option maxHeartbeats 2000000 in
set_option maxRecDepth 20000 in
theorem rm_X9_least (this : Nat) (M : Mem) : RFm yX9_least cX9_least 1 (some .int) 4 eI (f_X9_least this M) [va_rf (some this)] M := by
  refine RFm_of (L := [(0, va_rf (some this))]) (by decide) rfl (Nat.le_trans (c_R c_0) (by decide)) ?_
  rw [f_X9_least]
  refine R_aloadq_n (pc' := 1) (i := 0) (j := 0) (q := (some this)) dX9_least_0 rfl rfl rfl ?_
  refine R_getR (pc' := 4) (q := (some this)) fl_X9_41 rfl dX9_least_1 rfl (fun book1 => ?_)
  refine R_getR (pc' := 7) (q := book1) fl_X9_51 rfl dX9_least_4 rfl (fun told2 => ?_)
  refine R_getI (pc' := 10) (q := told2) fl_X9_174 rfl dX9_least_7 rfl (fun there3 => ?_)
  refine R_if_ne (pc' := 13) (tgt := 15) (a := there3) dX9_least_10 (by decide) rfl ?_ ?_
  · refine R_aloadq_n (pc' := 16) (i := 0) (j := 0) (q := (some this)) dX9_least_15 rfl rfl rfl ?_
    refine R_getR (pc' := 19) (q := (some this)) fl_X9_41 rfl dX9_least_16 rfl (fun book4 => ?_)
    refine R_getR (pc' := 22) (q := book4) fl_X9_51 rfl dX9_least_19 rfl (fun told5 => ?_)
    refine R_callV_I (pc' := 25) (q := told5) (As := []) (fun o7 => rm_X8_leastUnlike o7 M) mf_X8_leastUnlike lk_X9_246 im_X8_leastUnlike se_X8_leastUnlike rfl rfl rfl dX9_least_22 rfl (by decide) (Nat.le_trans c_0 (by decide)) (fun r6 M => ?_)
    exact R_iret dX9_least_25
  · refine R_iconst (pc' := 14) (x := (-1 : Int32)) dX9_least_13 rfl (by decide) ?_
    exact R_iret dX9_least_14
/-! BarPilot.row(III)I -/
def f_X9_row_J26 (this : Nat) (M : Mem) : Option (Int32 × Mem) :=
  some ((-3 : Int32), M)
set_option maxHeartbeats 2000000 in
set_option maxRecDepth 20000 in
theorem rf_X9_row_J26 (this : Nat) (M : Mem) : RF yX9_row cX9_row 5 (some .int) 14 eI (f_X9_row_J26 this M) 26 [] [] M := by
  rw [f_X9_row_J26]
  refine R_bipush (pc' := 28) (x := (-3 : Int32)) dX9_row_26 rfl (by decide) ?_
  exact R_iret dX9_row_28
def f_X9_row_J99 (this : Nat) (s0 : Int32) (M : Mem) : Option (Int32 × Mem) :=
  some (s0, M)
set_option maxHeartbeats 2000000 in
set_option maxRecDepth 20000 in
theorem rf_X9_row_J99 (this : Nat) (s0 : Int32) (M : Mem) : RF yX9_row cX9_row 5 (some .int) 14 eI (f_X9_row_J99 this s0 M) 99 [] [.int s0] M := by
  rw [f_X9_row_J99]
  exact R_iret dX9_row_99
def f_X9_row_J47 (this : Nat) (l3 : Int32) (s0 : Int32) (M : Mem) : Option (Int32 × Mem) :=
  (if s0 = (-1 : Int32) then
    (some ((-2 : Int32), M))
  else
    ((if l3 = 0 then
      ((gR M 9 4 (some this)).bind fun book4 =>
      (gR M 2 1 book4).bind fun scene5 =>
      (gI M 6 0 scene5).bind fun tide6 =>
      some ((tide6 + s0), M))
    else
      ((if s0 < (l3 - (nI 1)) then
        (f_X9_row_J99 this (-1 : Int32) M)
      else
        ((gR M 9 7 (some this)).bind fun asker1 =>
        (gR M 0 3 asker1).bind fun choice2 =>
        (aI M 0 choice2 (l3 - (nI 1))).bind fun e3 =>
        f_X9_row_J99 this e3 M))))))
set_option maxHeartbeats 2000000 in
set_option maxRecDepth 20000 in
theorem rf_X9_row_J47 (this : Nat) (l3 : Int32) (s0 : Int32) (M : Mem) : RF yX9_row cX9_row 5 (some .int) 14 eI (f_X9_row_J47 this l3 s0 M) 47 [(0, va_rf (some this)), (3, .int l3)] [.int s0] M := by
  rw [f_X9_row_J47]
  refine R_istore (pc' := 49) (L' := [(4, .int s0), (0, va_rf (some this)), (3, .int l3)]) (i := 4) (x := s0) dX9_row_47 rfl (by decide) rfl ?_
  refine R_iload (pc' := 51) (i := 4) (j := 0) (x := s0) dX9_row_49 rfl rfl ?_
  refine R_iconst (pc' := 52) (x := (-1 : Int32)) dX9_row_51 rfl (by decide) ?_
  refine R_icmp_ne (pc' := 55) (tgt := 58) (a := s0) (b := (-1 : Int32)) dX9_row_52 (by decide) rfl ?_ ?_
  · refine R_iload_n (pc' := 59) (i := 3) (j := 2) (x := l3) dX9_row_58 rfl rfl rfl ?_
    refine R_if_ne (pc' := 62) (tgt := 76) (a := l3) dX9_row_59 (by decide) rfl ?_ ?_
    · refine R_iload_n (pc' := 77) (i := 3) (j := 2) (x := l3) dX9_row_76 rfl rfl rfl ?_
      refine R_iconst (pc' := 78) (x := (nI 1)) dX9_row_77 rfl (by decide) ?_
      refine R_isub (pc' := 79) (a := l3) (b := (nI 1)) dX9_row_78 rfl ?_
      refine R_iload (pc' := 81) (i := 4) (j := 0) (x := s0) dX9_row_79 rfl rfl ?_
      refine R_icmp_gt (pc' := 84) (tgt := 98) (a := (l3 - (nI 1))) (b := s0) dX9_row_81 (by decide) rfl ?_ ?_
      · refine R_iconst (pc' := 99) (x := (-1 : Int32)) dX9_row_98 rfl (by decide) ?_
        exact R_sub [] rfl (rf_X9_row_J99 this (-1 : Int32) M)
      · refine R_aloadq_n (pc' := 85) (i := 0) (j := 1) (q := (some this)) dX9_row_84 rfl rfl rfl ?_
        refine R_getR (pc' := 88) (q := (some this)) fl_X9_67 rfl dX9_row_85 rfl (fun asker1 => ?_)
        refine R_getR (pc' := 91) (q := asker1) fl_X9_252 rfl dX9_row_88 rfl (fun choice2 => ?_)
        refine R_iload_n (pc' := 92) (i := 3) (j := 2) (x := l3) dX9_row_91 rfl rfl rfl ?_
        refine R_iconst (pc' := 93) (x := (nI 1)) dX9_row_92 rfl (by decide) ?_
        refine R_isub (pc' := 94) (a := l3) (b := (nI 1)) dX9_row_93 rfl ?_
        refine R_iald (pc' := 95) (q := choice2) (i := (l3 - (nI 1))) dX9_row_94 rfl (fun e3 => ?_)
        refine R_goto (tgt := 99) dX9_row_95 (by decide) ?_
        exact R_sub [] rfl (rf_X9_row_J99 this e3 M)
    · refine R_aloadq_n (pc' := 63) (i := 0) (j := 1) (q := (some this)) dX9_row_62 rfl rfl rfl ?_
      refine R_getR (pc' := 66) (q := (some this)) fl_X9_41 rfl dX9_row_63 rfl (fun book4 => ?_)
      refine R_getR (pc' := 69) (q := book4) fl_X9_110 rfl dX9_row_66 rfl (fun scene5 => ?_)
      refine R_getI (pc' := 72) (q := scene5) fl_X9_156 rfl dX9_row_69 rfl (fun tide6 => ?_)
      refine R_iload (pc' := 74) (i := 4) (j := 0) (x := s0) dX9_row_72 rfl rfl ?_
      refine R_iadd (pc' := 75) (a := tide6) (b := s0) dX9_row_74 rfl ?_
      exact R_iret dX9_row_75
  · refine R_bipush (pc' := 57) (x := (-2 : Int32)) dX9_row_55 rfl (by decide) ?_
    exact R_iret dX9_row_57
def f_X9_row (this : Nat) (l1 : Int32) (l2 : Int32) (l3 : Int32) (M : Mem) : Option (Int32 × Mem) :=
  (oO M 9 (some this)).bind fun o8 => cl (f_X9_isWaiting o8 l1 M) fun r1 M =>
  (if r1 = 0 then
    (f_X9_row_J26 this M)
  else
    (cl (f_X9_isWithin l2 (nI 1) (nI 4) M) fun r2 M =>
    (if r2 = 0 then
      (f_X9_row_J26 this M)
    else
      (cl (f_X9_isWithin l3 (nI 0) (nI 4) M) fun r3 M =>
      (if r3 = 0 then
        (f_X9_row_J26 this M)
      else
        ((if l3 ≤ l2 then
          ((oO M 9 (some this)).bind fun o7 => cl (f_X9_asking o7 M) fun r4 M =>
          (oO M 0 r4).bind fun o6 => cl (f_X0_findRow o6 l1 l2 M) fun r5 M =>
          f_X9_row_J47 this l3 r5 M)
        else
          (f_X9_row_J47 this l3 (-1 : Int32) M))))))))
set_option maxHeartbeats 2000000 in
set_option maxRecDepth 20000 in
theorem rm_X9_row (this : Nat) (l1 : Int32) (l2 : Int32) (l3 : Int32) (M : Mem) : RFm yX9_row cX9_row 5 (some .int) 14 eI (f_X9_row this l1 l2 l3 M) [va_rf (some this), .int l1, .int l2, .int l3] M := by
  refine RFm_of (L := [(0, va_rf (some this)), (1, .int l1), (2, .int l2), (3, .int l3)]) (by decide) rfl (Nat.le_trans (c_R (c_I (c_I (c_I c_0)))) (by decide)) ?_
  rw [f_X9_row]
  refine R_aloadq_n (pc' := 1) (i := 0) (j := 0) (q := (some this)) dX9_row_0 rfl rfl rfl ?_
  refine R_iload_n (pc' := 2) (i := 1) (j := 1) (x := l1) dX9_row_1 rfl rfl rfl ?_
  refine R_callV_I (pc' := 5) (q := (some this)) (As := [.int l1]) (fun o8 => rm_X9_isWaiting o8 l1 M) mf_X9_isWaiting lk_X9_192 im_X9_isWaiting se_X9_isWaiting rfl rfl rfl dX9_row_2 rfl (by decide) (Nat.le_trans c_0 (by decide)) (fun r1 M => ?_)
  refine R_if_eq (pc' := 8) (tgt := 26) (a := r1) dX9_row_5 (by decide) rfl ?_ ?_
  · exact R_sub [] rfl (rf_X9_row_J26 this M)
  · refine R_iload_n (pc' := 9) (i := 2) (j := 2) (x := l2) dX9_row_8 rfl rfl rfl ?_
    refine R_iconst (pc' := 10) (x := (nI 1)) dX9_row_9 rfl (by decide) ?_
    refine R_iconst (pc' := 11) (x := (nI 4)) dX9_row_10 rfl (by decide) ?_
    refine R_callS_I (pc' := 14) (As := [.int l2, .int (nI 1), .int (nI 4)]) (rm_X9_isWithin l2 (nI 1) (nI 4) M) mf_X9_isWithin lk_X9_217 sm_X9_isWithin rfl rfl dX9_row_11 rfl (by decide) (Nat.le_trans c_0 (by decide)) (fun r2 M => ?_)
    refine R_if_eq (pc' := 17) (tgt := 26) (a := r2) dX9_row_14 (by decide) rfl ?_ ?_
    · exact R_sub [] rfl (rf_X9_row_J26 this M)
    · refine R_iload_n (pc' := 18) (i := 3) (j := 3) (x := l3) dX9_row_17 rfl rfl rfl ?_
      refine R_iconst (pc' := 19) (x := (nI 0)) dX9_row_18 rfl (by decide) ?_
      refine R_iconst (pc' := 20) (x := (nI 4)) dX9_row_19 rfl (by decide) ?_
      refine R_callS_I (pc' := 23) (As := [.int l3, .int (nI 0), .int (nI 4)]) (rm_X9_isWithin l3 (nI 0) (nI 4) M) mf_X9_isWithin lk_X9_217 sm_X9_isWithin rfl rfl dX9_row_20 rfl (by decide) (Nat.le_trans c_0 (by decide)) (fun r3 M => ?_)
      refine R_if_ne (pc' := 26) (tgt := 29) (a := r3) dX9_row_23 (by decide) rfl ?_ ?_
      · refine R_iload_n (pc' := 30) (i := 3) (j := 3) (x := l3) dX9_row_29 rfl rfl rfl ?_
        refine R_iload_n (pc' := 31) (i := 2) (j := 2) (x := l2) dX9_row_30 rfl rfl rfl ?_
        refine R_icmp_le (pc' := 34) (tgt := 38) (a := l3) (b := l2) dX9_row_31 (by decide) rfl ?_ ?_
        · refine R_aloadq_n (pc' := 39) (i := 0) (j := 0) (q := (some this)) dX9_row_38 rfl rfl rfl ?_
          refine R_callV_R (pc' := 42) (q := (some this)) (As := []) (fun o7 => rm_X9_asking o7 M) mf_X9_asking lk_X9_221 im_X9_asking se_X9_asking rfl rfl rfl dX9_row_39 rfl (by decide) (Nat.le_trans c_0 (by decide)) (fun r4 M => ?_)
          refine R_iload_n (pc' := 43) (i := 1) (j := 1) (x := l1) dX9_row_42 rfl rfl rfl ?_
          refine R_iload_n (pc' := 44) (i := 2) (j := 2) (x := l2) dX9_row_43 rfl rfl rfl ?_
          refine R_callV_I (pc' := 47) (q := r4) (As := [.int l1, .int l2]) (fun o6 => rm_X0_findRow o6 l1 l2 M) mf_X0_findRow lk_X9_249 im_X0_findRow se_X0_findRow rfl rfl rfl dX9_row_44 rfl (by decide) (Nat.le_trans c_0 (by decide)) (fun r5 M => ?_)
          exact R_sub [0, 3] rfl (rf_X9_row_J47 this l3 r5 M)
        · refine R_iconst (pc' := 35) (x := (-1 : Int32)) dX9_row_34 rfl (by decide) ?_
          refine R_goto (tgt := 47) dX9_row_35 (by decide) ?_
          exact R_sub [0, 3] rfl (rf_X9_row_J47 this l3 (-1 : Int32) M)
      · exact R_sub [] rfl (rf_X9_row_J26 this M)
/-! BarPilot.forget(II)I -/
def f_X9_forget_J32 (this : Nat) (M : Mem) : Option (Int32 × Mem) :=
  some ((-2 : Int32), M)
set_option maxHeartbeats 2000000 in
set_option maxRecDepth 20000 in
theorem rf_X9_forget_J32 (this : Nat) (M : Mem) : RF yX9_forget cX9_forget 3 (some .int) 7 eI (f_X9_forget_J32 this M) 32 [] [] M := by
  rw [f_X9_forget_J32]
  refine R_bipush (pc' := 34) (x := (-2 : Int32)) dX9_forget_32 rfl (by decide) ?_
  exact R_iret dX9_forget_34
def f_X9_forget_J64 (this : Nat) (s0 : Int32) (M : Mem) : Option (Int32 × Mem) :=
  some (s0, M)
set_option maxHeartbeats 2000000 in
set_option maxRecDepth 20000 in
theorem rf_X9_forget_J64 (this : Nat) (s0 : Int32) (M : Mem) : RF yX9_forget cX9_forget 3 (some .int) 7 eI (f_X9_forget_J64 this s0 M) 64 [] [.int s0] M := by
  rw [f_X9_forget_J64]
  exact R_iret dX9_forget_64
def f_X9_forget (this : Nat) (l1 : Int32) (l2 : Int32) (M : Mem) : Option (Int32 × Mem) :=
  (gR M 9 4 (some this)).bind fun book1 =>
  (gR M 2 0 book1).bind fun told2 =>
  (gI M 8 0 told2).bind fun there3 =>
  (if there3 = 0 then
    (f_X9_forget_J32 this M)
  else
    (cl (f_X9_isWithin l1 (nI 1) (nI 60) M) fun r4 M =>
    (if r4 = 0 then
      (f_X9_forget_J32 this M)
    else
      (cl (f_X9_isWithin l2 (nI 0) (nI 1) M) fun r5 M =>
      (if r5 = 0 then
        (f_X9_forget_J32 this M)
      else
        ((oO M 9 (some this)).bind fun o13 => cl (f_X9_asking o13 M) fun r6 M =>
        (oO M 0 r6).bind fun o12 => cl (f_X0_findForgotten o12 l1 M) fun u7 M =>
        (if l2 = 0 then
          ((gR M 9 7 (some this)).bind fun asker10 =>
          (gI M 0 1 asker10).bind fun first11 =>
          f_X9_forget_J64 this first11 M)
        else
          ((gR M 9 7 (some this)).bind fun asker8 =>
          (gI M 0 0 asker8).bind fun amount9 =>
          f_X9_forget_J64 this amount9 M))))))))
set_option maxHeartbeats 2000000 in
set_option maxRecDepth 20000 in
theorem rm_X9_forget (this : Nat) (l1 : Int32) (l2 : Int32) (M : Mem) : RFm yX9_forget cX9_forget 3 (some .int) 7 eI (f_X9_forget this l1 l2 M) [va_rf (some this), .int l1, .int l2] M := by
  refine RFm_of (L := [(0, va_rf (some this)), (1, .int l1), (2, .int l2)]) (by decide) rfl (Nat.le_trans (c_R (c_I (c_I c_0))) (by decide)) ?_
  rw [f_X9_forget]
  refine R_aloadq_n (pc' := 1) (i := 0) (j := 0) (q := (some this)) dX9_forget_0 rfl rfl rfl ?_
  refine R_getR (pc' := 4) (q := (some this)) fl_X9_41 rfl dX9_forget_1 rfl (fun book1 => ?_)
  refine R_getR (pc' := 7) (q := book1) fl_X9_51 rfl dX9_forget_4 rfl (fun told2 => ?_)
  refine R_getI (pc' := 10) (q := told2) fl_X9_174 rfl dX9_forget_7 rfl (fun there3 => ?_)
  refine R_if_eq (pc' := 13) (tgt := 32) (a := there3) dX9_forget_10 (by decide) rfl ?_ ?_
  · exact R_sub [] rfl (rf_X9_forget_J32 this M)
  · refine R_iload_n (pc' := 14) (i := 1) (j := 1) (x := l1) dX9_forget_13 rfl rfl rfl ?_
    refine R_iconst (pc' := 15) (x := (nI 1)) dX9_forget_14 rfl (by decide) ?_
    refine R_bipush (pc' := 17) (x := (nI 60)) dX9_forget_15 rfl (by decide) ?_
    refine R_callS_I (pc' := 20) (As := [.int l1, .int (nI 1), .int (nI 60)]) (rm_X9_isWithin l1 (nI 1) (nI 60) M) mf_X9_isWithin lk_X9_217 sm_X9_isWithin rfl rfl dX9_forget_17 rfl (by decide) (Nat.le_trans c_0 (by decide)) (fun r4 M => ?_)
    refine R_if_eq (pc' := 23) (tgt := 32) (a := r4) dX9_forget_20 (by decide) rfl ?_ ?_
    · exact R_sub [] rfl (rf_X9_forget_J32 this M)
    · refine R_iload_n (pc' := 24) (i := 2) (j := 2) (x := l2) dX9_forget_23 rfl rfl rfl ?_
      refine R_iconst (pc' := 25) (x := (nI 0)) dX9_forget_24 rfl (by decide) ?_
      refine R_iconst (pc' := 26) (x := (nI 1)) dX9_forget_25 rfl (by decide) ?_
      refine R_callS_I (pc' := 29) (As := [.int l2, .int (nI 0), .int (nI 1)]) (rm_X9_isWithin l2 (nI 0) (nI 1) M) mf_X9_isWithin lk_X9_217 sm_X9_isWithin rfl rfl dX9_forget_26 rfl (by decide) (Nat.le_trans c_0 (by decide)) (fun r5 M => ?_)
      refine R_if_ne (pc' := 32) (tgt := 35) (a := r5) dX9_forget_29 (by decide) rfl ?_ ?_
      · refine R_aloadq_n (pc' := 36) (i := 0) (j := 0) (q := (some this)) dX9_forget_35 rfl rfl rfl ?_
        refine R_callV_R (pc' := 39) (q := (some this)) (As := []) (fun o13 => rm_X9_asking o13 M) mf_X9_asking lk_X9_221 im_X9_asking se_X9_asking rfl rfl rfl dX9_forget_36 rfl (by decide) (Nat.le_trans c_0 (by decide)) (fun r6 M => ?_)
        refine R_iload_n (pc' := 40) (i := 1) (j := 1) (x := l1) dX9_forget_39 rfl rfl rfl ?_
        refine R_callV_V (pc' := 43) (q := r6) (As := [.int l1]) (fun o12 => rm_X0_findForgotten o12 l1 M) mf_X0_findForgotten lk_X9_255 im_X0_findForgotten se_X0_findForgotten rfl rfl rfl dX9_forget_40 rfl (by decide) (Nat.le_trans c_0 (by decide)) (fun u7 M => ?_)
        refine R_iload_n (pc' := 44) (i := 2) (j := 2) (x := l2) dX9_forget_43 rfl rfl rfl ?_
        refine R_if_ne (pc' := 47) (tgt := 57) (a := l2) dX9_forget_44 (by decide) rfl ?_ ?_
        · refine R_aloadq_n (pc' := 58) (i := 0) (j := 0) (q := (some this)) dX9_forget_57 rfl rfl rfl ?_
          refine R_getR (pc' := 61) (q := (some this)) fl_X9_67 rfl dX9_forget_58 rfl (fun asker8 => ?_)
          refine R_getI (pc' := 64) (q := asker8) fl_X9_234 rfl dX9_forget_61 rfl (fun amount9 => ?_)
          exact R_sub [] rfl (rf_X9_forget_J64 this amount9 M)
        · refine R_aloadq_n (pc' := 48) (i := 0) (j := 0) (q := (some this)) dX9_forget_47 rfl rfl rfl ?_
          refine R_getR (pc' := 51) (q := (some this)) fl_X9_67 rfl dX9_forget_48 rfl (fun asker10 => ?_)
          refine R_getI (pc' := 54) (q := asker10) fl_X9_237 rfl dX9_forget_51 rfl (fun first11 => ?_)
          refine R_goto (tgt := 64) dX9_forget_54 (by decide) ?_
          exact R_sub [] rfl (rf_X9_forget_J64 this first11 M)
      · exact R_sub [] rfl (rf_X9_forget_J32 this M)
/-! BarPilot.barter(II)I -/
def f_X9_barter_J32 (this : Nat) (M : Mem) : Option (Int32 × Mem) :=
  some ((-2 : Int32), M)
set_option maxHeartbeats 2000000 in
set_option maxRecDepth 20000 in
theorem rf_X9_barter_J32 (this : Nat) (M : Mem) : RF yX9_barter cX9_barter 3 (some .int) 8 eI (f_X9_barter_J32 this M) 32 [] [] M := by
  rw [f_X9_barter_J32]
  refine R_bipush (pc' := 34) (x := (-2 : Int32)) dX9_barter_32 rfl (by decide) ?_
  exact R_iret dX9_barter_34
def f_X9_barter_J77 (this : Nat) (s0 : Int32) (M : Mem) : Option (Int32 × Mem) :=
  some (s0, M)
set_option maxHeartbeats 2000000 in
set_option maxRecDepth 20000 in
theorem rf_X9_barter_J77 (this : Nat) (s0 : Int32) (M : Mem) : RF yX9_barter cX9_barter 3 (some .int) 8 eI (f_X9_barter_J77 this s0 M) 77 [] [.int s0] M := by
  rw [f_X9_barter_J77]
  exact R_iret dX9_barter_77
def f_X9_barter (this : Nat) (l1 : Int32) (l2 : Int32) (M : Mem) : Option (Int32 × Mem) :=
  (gR M 9 4 (some this)).bind fun book1 =>
  (gR M 2 0 book1).bind fun told2 =>
  (gI M 8 0 told2).bind fun there3 =>
  (if there3 = 0 then
    (f_X9_barter_J32 this M)
  else
    (cl (f_X9_isWithin l1 (nI 1) (nI 60) M) fun r4 M =>
    (if r4 = 0 then
      (f_X9_barter_J32 this M)
    else
      (cl (f_X9_isWithin l2 (nI 0) (nI 2) M) fun r5 M =>
      (if r5 = 0 then
        (f_X9_barter_J32 this M)
      else
        ((oO M 9 (some this)).bind fun o15 => cl (f_X9_asking o15 M) fun r6 M =>
        (oO M 0 r6).bind fun o14 => cl (f_X0_findTraders o14 l1 M) fun u7 M =>
        (if l2 = (nI 2) then
          ((gR M 9 7 (some this)).bind fun asker12 =>
          (gI M 0 0 asker12).bind fun amount13 =>
          some (amount13, M))
        else
          ((if l2 = 0 then
            ((gR M 9 7 (some this)).bind fun asker10 =>
            (gI M 0 1 asker10).bind fun first11 =>
            f_X9_barter_J77 this first11 M)
          else
            ((gR M 9 7 (some this)).bind fun asker8 =>
            (gI M 0 2 asker8).bind fun second9 =>
            f_X9_barter_J77 this second9 M))))))))))
set_option maxHeartbeats 2000000 in
set_option maxRecDepth 20000 in
theorem rm_X9_barter (this : Nat) (l1 : Int32) (l2 : Int32) (M : Mem) : RFm yX9_barter cX9_barter 3 (some .int) 8 eI (f_X9_barter this l1 l2 M) [va_rf (some this), .int l1, .int l2] M := by
  refine RFm_of (L := [(0, va_rf (some this)), (1, .int l1), (2, .int l2)]) (by decide) rfl (Nat.le_trans (c_R (c_I (c_I c_0))) (by decide)) ?_
  rw [f_X9_barter]
  refine R_aloadq_n (pc' := 1) (i := 0) (j := 0) (q := (some this)) dX9_barter_0 rfl rfl rfl ?_
  refine R_getR (pc' := 4) (q := (some this)) fl_X9_41 rfl dX9_barter_1 rfl (fun book1 => ?_)
  refine R_getR (pc' := 7) (q := book1) fl_X9_51 rfl dX9_barter_4 rfl (fun told2 => ?_)
  refine R_getI (pc' := 10) (q := told2) fl_X9_174 rfl dX9_barter_7 rfl (fun there3 => ?_)
  refine R_if_eq (pc' := 13) (tgt := 32) (a := there3) dX9_barter_10 (by decide) rfl ?_ ?_
  · exact R_sub [] rfl (rf_X9_barter_J32 this M)
  · refine R_iload_n (pc' := 14) (i := 1) (j := 1) (x := l1) dX9_barter_13 rfl rfl rfl ?_
    refine R_iconst (pc' := 15) (x := (nI 1)) dX9_barter_14 rfl (by decide) ?_
    refine R_bipush (pc' := 17) (x := (nI 60)) dX9_barter_15 rfl (by decide) ?_
    refine R_callS_I (pc' := 20) (As := [.int l1, .int (nI 1), .int (nI 60)]) (rm_X9_isWithin l1 (nI 1) (nI 60) M) mf_X9_isWithin lk_X9_217 sm_X9_isWithin rfl rfl dX9_barter_17 rfl (by decide) (Nat.le_trans c_0 (by decide)) (fun r4 M => ?_)
    refine R_if_eq (pc' := 23) (tgt := 32) (a := r4) dX9_barter_20 (by decide) rfl ?_ ?_
    · exact R_sub [] rfl (rf_X9_barter_J32 this M)
    · refine R_iload_n (pc' := 24) (i := 2) (j := 2) (x := l2) dX9_barter_23 rfl rfl rfl ?_
      refine R_iconst (pc' := 25) (x := (nI 0)) dX9_barter_24 rfl (by decide) ?_
      refine R_iconst (pc' := 26) (x := (nI 2)) dX9_barter_25 rfl (by decide) ?_
      refine R_callS_I (pc' := 29) (As := [.int l2, .int (nI 0), .int (nI 2)]) (rm_X9_isWithin l2 (nI 0) (nI 2) M) mf_X9_isWithin lk_X9_217 sm_X9_isWithin rfl rfl dX9_barter_26 rfl (by decide) (Nat.le_trans c_0 (by decide)) (fun r5 M => ?_)
      refine R_if_ne (pc' := 32) (tgt := 35) (a := r5) dX9_barter_29 (by decide) rfl ?_ ?_
      · refine R_aloadq_n (pc' := 36) (i := 0) (j := 0) (q := (some this)) dX9_barter_35 rfl rfl rfl ?_
        refine R_callV_R (pc' := 39) (q := (some this)) (As := []) (fun o15 => rm_X9_asking o15 M) mf_X9_asking lk_X9_221 im_X9_asking se_X9_asking rfl rfl rfl dX9_barter_36 rfl (by decide) (Nat.le_trans c_0 (by decide)) (fun r6 M => ?_)
        refine R_iload_n (pc' := 40) (i := 1) (j := 1) (x := l1) dX9_barter_39 rfl rfl rfl ?_
        refine R_callV_V (pc' := 43) (q := r6) (As := [.int l1]) (fun o14 => rm_X0_findTraders o14 l1 M) mf_X0_findTraders lk_X9_258 im_X0_findTraders se_X0_findTraders rfl rfl rfl dX9_barter_40 rfl (by decide) (Nat.le_trans c_0 (by decide)) (fun u7 M => ?_)
        refine R_iload_n (pc' := 44) (i := 2) (j := 2) (x := l2) dX9_barter_43 rfl rfl rfl ?_
        refine R_iconst (pc' := 45) (x := (nI 2)) dX9_barter_44 rfl (by decide) ?_
        refine R_icmp_ne (pc' := 48) (tgt := 56) (a := l2) (b := (nI 2)) dX9_barter_45 (by decide) rfl ?_ ?_
        · refine R_iload_n (pc' := 57) (i := 2) (j := 2) (x := l2) dX9_barter_56 rfl rfl rfl ?_
          refine R_if_ne (pc' := 60) (tgt := 70) (a := l2) dX9_barter_57 (by decide) rfl ?_ ?_
          · refine R_aloadq_n (pc' := 71) (i := 0) (j := 0) (q := (some this)) dX9_barter_70 rfl rfl rfl ?_
            refine R_getR (pc' := 74) (q := (some this)) fl_X9_67 rfl dX9_barter_71 rfl (fun asker8 => ?_)
            refine R_getI (pc' := 77) (q := asker8) fl_X9_261 rfl dX9_barter_74 rfl (fun second9 => ?_)
            exact R_sub [] rfl (rf_X9_barter_J77 this second9 M)
          · refine R_aloadq_n (pc' := 61) (i := 0) (j := 0) (q := (some this)) dX9_barter_60 rfl rfl rfl ?_
            refine R_getR (pc' := 64) (q := (some this)) fl_X9_67 rfl dX9_barter_61 rfl (fun asker10 => ?_)
            refine R_getI (pc' := 67) (q := asker10) fl_X9_237 rfl dX9_barter_64 rfl (fun first11 => ?_)
            refine R_goto (tgt := 77) dX9_barter_67 (by decide) ?_
            exact R_sub [] rfl (rf_X9_barter_J77 this first11 M)
        · refine R_aloadq_n (pc' := 49) (i := 0) (j := 0) (q := (some this)) dX9_barter_48 rfl rfl rfl ?_
          refine R_getR (pc' := 52) (q := (some this)) fl_X9_67 rfl dX9_barter_49 rfl (fun asker12 => ?_)
          refine R_getI (pc' := 55) (q := asker12) fl_X9_234 rfl dX9_barter_52 rfl (fun amount13 => ?_)
          exact R_iret dX9_barter_55
      · exact R_sub [] rfl (rf_X9_barter_J32 this M)
/-! BarPilot.school(II)I -/
def f_X9_school_J32 (this : Nat) (M : Mem) : Option (Int32 × Mem) :=
  some ((-1 : Int32), M)
set_option maxHeartbeats 2000000 in
set_option maxRecDepth 20000 in
theorem rf_X9_school_J32 (this : Nat) (M : Mem) : RF yX9_school cX9_school 4 (some .int) 7 eI (f_X9_school_J32 this M) 32 [] [] M := by
  rw [f_X9_school_J32]
  refine R_iconst (pc' := 33) (x := (-1 : Int32)) dX9_school_32 rfl (by decide) ?_
  exact R_iret dX9_school_33
def f_X9_school_J63 (this : Nat) (s0 : Int32) (M : Mem) : Option (Int32 × Mem) :=
  some (s0, M)
set_option maxHeartbeats 2000000 in
set_option maxRecDepth 20000 in
theorem rf_X9_school_J63 (this : Nat) (s0 : Int32) (M : Mem) : RF yX9_school cX9_school 4 (some .int) 7 eI (f_X9_school_J63 this s0 M) 63 [] [.int s0] M := by
  rw [f_X9_school_J63]
  exact R_iret dX9_school_63
def f_X9_school (this : Nat) (l1 : Int32) (l2 : Int32) (M : Mem) : Option (Int32 × Mem) :=
  (gR M 9 4 (some this)).bind fun book1 =>
  (gR M 2 0 book1).bind fun told2 =>
  (gI M 8 0 told2).bind fun there3 =>
  (if there3 = 0 then
    (f_X9_school_J32 this M)
  else
    (cl (f_X9_isWithin l1 (nI 1) (nI 60) M) fun r4 M =>
    (if r4 = 0 then
      (f_X9_school_J32 this M)
    else
      (cl (f_X9_isWithin l2 (nI 0) (nI 1) M) fun r5 M =>
      (if r5 = 0 then
        (f_X9_school_J32 this M)
      else
        ((oO M 9 (some this)).bind fun o10 => cl (f_X9_asking o10 M) fun r6 M =>
        (oO M 0 r6).bind fun o9 => cl (f_X0_findLessons o9 l1 M) fun r7 M =>
        (if r7 = (-1 : Int32) then
          (some ((-2 : Int32), M))
        else
          ((if l2 = 0 then
            (cl (f_J6_bitCount_0f7a4 r7 M) fun r8 M =>
            f_X9_school_J63 this r8 M)
          else
            (f_X9_school_J63 this r7 M))))))))))
set_option maxHeartbeats 2000000 in
set_option maxRecDepth 20000 in
theorem rm_X9_school (this : Nat) (l1 : Int32) (l2 : Int32) (M : Mem) : RFm yX9_school cX9_school 4 (some .int) 7 eI (f_X9_school this l1 l2 M) [va_rf (some this), .int l1, .int l2] M := by
  refine RFm_of (L := [(0, va_rf (some this)), (1, .int l1), (2, .int l2)]) (by decide) rfl (Nat.le_trans (c_R (c_I (c_I c_0))) (by decide)) ?_
  rw [f_X9_school]
  refine R_aloadq_n (pc' := 1) (i := 0) (j := 0) (q := (some this)) dX9_school_0 rfl rfl rfl ?_
  refine R_getR (pc' := 4) (q := (some this)) fl_X9_41 rfl dX9_school_1 rfl (fun book1 => ?_)
  refine R_getR (pc' := 7) (q := book1) fl_X9_51 rfl dX9_school_4 rfl (fun told2 => ?_)
  refine R_getI (pc' := 10) (q := told2) fl_X9_174 rfl dX9_school_7 rfl (fun there3 => ?_)
  refine R_if_eq (pc' := 13) (tgt := 32) (a := there3) dX9_school_10 (by decide) rfl ?_ ?_
  · exact R_sub [] rfl (rf_X9_school_J32 this M)
  · refine R_iload_n (pc' := 14) (i := 1) (j := 1) (x := l1) dX9_school_13 rfl rfl rfl ?_
    refine R_iconst (pc' := 15) (x := (nI 1)) dX9_school_14 rfl (by decide) ?_
    refine R_bipush (pc' := 17) (x := (nI 60)) dX9_school_15 rfl (by decide) ?_
    refine R_callS_I (pc' := 20) (As := [.int l1, .int (nI 1), .int (nI 60)]) (rm_X9_isWithin l1 (nI 1) (nI 60) M) mf_X9_isWithin lk_X9_217 sm_X9_isWithin rfl rfl dX9_school_17 rfl (by decide) (Nat.le_trans c_0 (by decide)) (fun r4 M => ?_)
    refine R_if_eq (pc' := 23) (tgt := 32) (a := r4) dX9_school_20 (by decide) rfl ?_ ?_
    · exact R_sub [] rfl (rf_X9_school_J32 this M)
    · refine R_iload_n (pc' := 24) (i := 2) (j := 2) (x := l2) dX9_school_23 rfl rfl rfl ?_
      refine R_iconst (pc' := 25) (x := (nI 0)) dX9_school_24 rfl (by decide) ?_
      refine R_iconst (pc' := 26) (x := (nI 1)) dX9_school_25 rfl (by decide) ?_
      refine R_callS_I (pc' := 29) (As := [.int l2, .int (nI 0), .int (nI 1)]) (rm_X9_isWithin l2 (nI 0) (nI 1) M) mf_X9_isWithin lk_X9_217 sm_X9_isWithin rfl rfl dX9_school_26 rfl (by decide) (Nat.le_trans c_0 (by decide)) (fun r5 M => ?_)
      refine R_if_ne (pc' := 32) (tgt := 34) (a := r5) dX9_school_29 (by decide) rfl ?_ ?_
      · refine R_aloadq_n (pc' := 35) (i := 0) (j := 0) (q := (some this)) dX9_school_34 rfl rfl rfl ?_
        refine R_callV_R (pc' := 38) (q := (some this)) (As := []) (fun o10 => rm_X9_asking o10 M) mf_X9_asking lk_X9_221 im_X9_asking se_X9_asking rfl rfl rfl dX9_school_35 rfl (by decide) (Nat.le_trans c_0 (by decide)) (fun r6 M => ?_)
        refine R_iload_n (pc' := 39) (i := 1) (j := 1) (x := l1) dX9_school_38 rfl rfl rfl ?_
        refine R_callV_I (pc' := 42) (q := r6) (As := [.int l1]) (fun o9 => rm_X0_findLessons o9 l1 M) mf_X0_findLessons lk_X9_264 im_X0_findLessons se_X0_findLessons rfl rfl rfl dX9_school_39 rfl (by decide) (Nat.le_trans c_0 (by decide)) (fun r7 M => ?_)
        refine R_istore_n (pc' := 43) (L' := [(3, .int r7), (0, va_rf (some this)), (1, .int l1), (2, .int l2)]) (i := 3) (x := r7) dX9_school_42 rfl rfl (by decide) rfl ?_
        refine R_iload_n (pc' := 44) (i := 3) (j := 0) (x := r7) dX9_school_43 rfl rfl rfl ?_
        refine R_iconst (pc' := 45) (x := (-1 : Int32)) dX9_school_44 rfl (by decide) ?_
        refine R_icmp_ne (pc' := 48) (tgt := 51) (a := r7) (b := (-1 : Int32)) dX9_school_45 (by decide) rfl ?_ ?_
        · refine R_iload_n (pc' := 52) (i := 2) (j := 3) (x := l2) dX9_school_51 rfl rfl rfl ?_
          refine R_if_ne (pc' := 55) (tgt := 62) (a := l2) dX9_school_52 (by decide) rfl ?_ ?_
          · refine R_iload_n (pc' := 63) (i := 3) (j := 0) (x := r7) dX9_school_62 rfl rfl rfl ?_
            exact R_sub [] rfl (rf_X9_school_J63 this r7 M)
          · refine R_iload_n (pc' := 56) (i := 3) (j := 0) (x := r7) dX9_school_55 rfl rfl rfl ?_
            refine R_callS_I (pc' := 59) (As := [.int r7]) (rm_J6_bitCount_0f7a4 r7 M) mf_J6_bitCount_0f7a4 lk_X9_267 sm_J6_bitCount_0f7a4 rfl rfl dX9_school_56 rfl (by decide) (Nat.le_trans c_0 (by decide)) (fun r8 M => ?_)
            refine R_goto (tgt := 63) dX9_school_59 (by decide) ?_
            exact R_sub [] rfl (rf_X9_school_J63 this r8 M)
        · refine R_bipush (pc' := 50) (x := (-2 : Int32)) dX9_school_48 rfl (by decide) ?_
          exact R_iret dX9_school_50
      · exact R_sub [] rfl (rf_X9_school_J32 this M)
/-! BarPilot.old(IIII)I -/
def f_X9_old_J50 (this : Nat) (M : Mem) : Option (Int32 × Mem) :=
  some ((-3 : Int32), M)
set_option maxHeartbeats 2000000 in
set_option maxRecDepth 20000 in
theorem rf_X9_old_J50 (this : Nat) (M : Mem) : RF yX9_old cX9_old 5 (some .int) 7 eI (f_X9_old_J50 this M) 50 [] [] M := by
  rw [f_X9_old_J50]
  refine R_bipush (pc' := 52) (x := (-3 : Int32)) dX9_old_50 rfl (by decide) ?_
  exact R_iret dX9_old_52
def f_X9_old_J130 (this : Nat) (s0 : Int32) (M : Mem) : Option (Int32 × Mem) :=
  some (s0, M)
set_option maxHeartbeats 2000000 in
set_option maxRecDepth 20000 in
theorem rf_X9_old_J130 (this : Nat) (s0 : Int32) (M : Mem) : RF yX9_old cX9_old 5 (some .int) 7 eI (f_X9_old_J130 this s0 M) 130 [] [.int s0] M := by
  rw [f_X9_old_J130]
  exact R_iret dX9_old_130
def f_X9_old_J108 (this : Nat) (s0 : Int32) (M : Mem) : Option (Int32 × Mem) :=
  some (s0, M)
set_option maxHeartbeats 2000000 in
set_option maxRecDepth 20000 in
theorem rf_X9_old_J108 (this : Nat) (s0 : Int32) (M : Mem) : RF yX9_old cX9_old 5 (some .int) 7 eI (f_X9_old_J108 this s0 M) 108 [] [.int s0] M := by
  rw [f_X9_old_J108]
  exact R_iret dX9_old_108
def f_X9_old (this : Nat) (l1 : Int32) (l2 : Int32) (l3 : Int32) (l4 : Int32) (M : Mem) : Option (Int32 × Mem) :=
  (gR M 9 4 (some this)).bind fun book1 =>
  (gR M 2 0 book1).bind fun told2 =>
  (gI M 8 0 told2).bind fun there3 =>
  (if there3 = 0 then
    (f_X9_old_J50 this M)
  else
    ((oO M 9 (some this)).bind fun o23 => cl (f_X9_isRuleOrNone o23 l1 M) fun r4 M =>
    (if r4 = 0 then
      (f_X9_old_J50 this M)
    else
      (cl (f_X9_isWithin l2 (nI 1) (nI 60) M) fun r5 M =>
      (if r5 = 0 then
        (f_X9_old_J50 this M)
      else
        (cl (f_X9_isWithin l3 (nI 0) (nI 5) M) fun r6 M =>
        (if r6 = 0 then
          (f_X9_old_J50 this M)
        else
          (cl (f_X9_isWithin l4 (nI 0) (nI 2) M) fun r7 M =>
          (if r7 = 0 then
            (f_X9_old_J50 this M)
          else
            ((gR M 9 7 (some this)).bind fun asker8 =>
            (oO M 9 (some this)).bind fun o22 => cl (f_X9_ruleAt o22 l1 M) fun r9 M =>
            (oO M 0 asker8).bind fun o21 => cl (f_X0_findOldSets o21 r9 l2 l3 M) fun u10 M =>
            (if l4 = 0 then
              ((gR M 9 7 (some this)).bind fun asker19 =>
              (gI M 0 0 asker19).bind fun amount20 =>
              some (amount20, M))
            else
              ((if l4 = (nI 1) then
                ((gR M 9 7 (some this)).bind fun asker15 =>
                (gI M 0 0 asker15).bind fun amount16 =>
                (if amount16 = 0 then
                  (f_X9_old_J108 this (-2 : Int32) M)
                else
                  ((gR M 9 7 (some this)).bind fun asker17 =>
                  (gI M 0 1 asker17).bind fun first18 =>
                  f_X9_old_J108 this first18 M)))
              else
                ((gR M 9 7 (some this)).bind fun asker11 =>
                (gI M 0 0 asker11).bind fun amount12 =>
                (if amount12 = 0 then
                  (f_X9_old_J130 this (nI 0) M)
                else
                  ((gR M 9 7 (some this)).bind fun asker13 =>
                  (gI M 0 2 asker13).bind fun second14 =>
                  f_X9_old_J130 this second14 M))))))))))))))))
set_option maxHeartbeats 2000000 in
set_option maxRecDepth 20000 in
theorem rm_X9_old (this : Nat) (l1 : Int32) (l2 : Int32) (l3 : Int32) (l4 : Int32) (M : Mem) : RFm yX9_old cX9_old 5 (some .int) 7 eI (f_X9_old this l1 l2 l3 l4 M) [va_rf (some this), .int l1, .int l2, .int l3, .int l4] M := by
  refine RFm_of (L := [(0, va_rf (some this)), (1, .int l1), (2, .int l2), (3, .int l3), (4, .int l4)]) (by decide) rfl (Nat.le_trans (c_R (c_I (c_I (c_I (c_I c_0))))) (by decide)) ?_
  rw [f_X9_old]
  refine R_aloadq_n (pc' := 1) (i := 0) (j := 0) (q := (some this)) dX9_old_0 rfl rfl rfl ?_
  refine R_getR (pc' := 4) (q := (some this)) fl_X9_41 rfl dX9_old_1 rfl (fun book1 => ?_)
  refine R_getR (pc' := 7) (q := book1) fl_X9_51 rfl dX9_old_4 rfl (fun told2 => ?_)
  refine R_getI (pc' := 10) (q := told2) fl_X9_174 rfl dX9_old_7 rfl (fun there3 => ?_)
  refine R_if_eq (pc' := 13) (tgt := 50) (a := there3) dX9_old_10 (by decide) rfl ?_ ?_
  · exact R_sub [] rfl (rf_X9_old_J50 this M)
  · refine R_aloadq_n (pc' := 14) (i := 0) (j := 0) (q := (some this)) dX9_old_13 rfl rfl rfl ?_
    refine R_iload_n (pc' := 15) (i := 1) (j := 1) (x := l1) dX9_old_14 rfl rfl rfl ?_
    refine R_callV_I (pc' := 18) (q := (some this)) (As := [.int l1]) (fun o23 => rm_X9_isRuleOrNone o23 l1 M) mf_X9_isRuleOrNone lk_X9_100 im_X9_isRuleOrNone se_X9_isRuleOrNone rfl rfl rfl dX9_old_15 rfl (by decide) (Nat.le_trans c_0 (by decide)) (fun r4 M => ?_)
    refine R_if_eq (pc' := 21) (tgt := 50) (a := r4) dX9_old_18 (by decide) rfl ?_ ?_
    · exact R_sub [] rfl (rf_X9_old_J50 this M)
    · refine R_iload_n (pc' := 22) (i := 2) (j := 2) (x := l2) dX9_old_21 rfl rfl rfl ?_
      refine R_iconst (pc' := 23) (x := (nI 1)) dX9_old_22 rfl (by decide) ?_
      refine R_bipush (pc' := 25) (x := (nI 60)) dX9_old_23 rfl (by decide) ?_
      refine R_callS_I (pc' := 28) (As := [.int l2, .int (nI 1), .int (nI 60)]) (rm_X9_isWithin l2 (nI 1) (nI 60) M) mf_X9_isWithin lk_X9_217 sm_X9_isWithin rfl rfl dX9_old_25 rfl (by decide) (Nat.le_trans c_0 (by decide)) (fun r5 M => ?_)
      refine R_if_eq (pc' := 31) (tgt := 50) (a := r5) dX9_old_28 (by decide) rfl ?_ ?_
      · exact R_sub [] rfl (rf_X9_old_J50 this M)
      · refine R_iload_n (pc' := 32) (i := 3) (j := 3) (x := l3) dX9_old_31 rfl rfl rfl ?_
        refine R_iconst (pc' := 33) (x := (nI 0)) dX9_old_32 rfl (by decide) ?_
        refine R_iconst (pc' := 34) (x := (nI 5)) dX9_old_33 rfl (by decide) ?_
        refine R_callS_I (pc' := 37) (As := [.int l3, .int (nI 0), .int (nI 5)]) (rm_X9_isWithin l3 (nI 0) (nI 5) M) mf_X9_isWithin lk_X9_217 sm_X9_isWithin rfl rfl dX9_old_34 rfl (by decide) (Nat.le_trans c_0 (by decide)) (fun r6 M => ?_)
        refine R_if_eq (pc' := 40) (tgt := 50) (a := r6) dX9_old_37 (by decide) rfl ?_ ?_
        · exact R_sub [] rfl (rf_X9_old_J50 this M)
        · refine R_iload (pc' := 42) (i := 4) (j := 4) (x := l4) dX9_old_40 rfl rfl ?_
          refine R_iconst (pc' := 43) (x := (nI 0)) dX9_old_42 rfl (by decide) ?_
          refine R_iconst (pc' := 44) (x := (nI 2)) dX9_old_43 rfl (by decide) ?_
          refine R_callS_I (pc' := 47) (As := [.int l4, .int (nI 0), .int (nI 2)]) (rm_X9_isWithin l4 (nI 0) (nI 2) M) mf_X9_isWithin lk_X9_217 sm_X9_isWithin rfl rfl dX9_old_44 rfl (by decide) (Nat.le_trans c_0 (by decide)) (fun r7 M => ?_)
          refine R_if_ne (pc' := 50) (tgt := 53) (a := r7) dX9_old_47 (by decide) rfl ?_ ?_
          · refine R_aloadq_n (pc' := 54) (i := 0) (j := 0) (q := (some this)) dX9_old_53 rfl rfl rfl ?_
            refine R_getR (pc' := 57) (q := (some this)) fl_X9_67 rfl dX9_old_54 rfl (fun asker8 => ?_)
            refine R_aloadq_n (pc' := 58) (i := 0) (j := 0) (q := (some this)) dX9_old_57 rfl rfl rfl ?_
            refine R_iload_n (pc' := 59) (i := 1) (j := 1) (x := l1) dX9_old_58 rfl rfl rfl ?_
            refine R_callV_R (pc' := 62) (q := (some this)) (As := [.int l1]) (fun o22 => rm_X9_ruleAt o22 l1 M) mf_X9_ruleAt lk_X9_181 im_X9_ruleAt se_X9_ruleAt rfl rfl rfl dX9_old_59 rfl (by decide) (Nat.le_trans (c_R c_0) (by decide)) (fun r9 M => ?_)
            refine R_iload_n (pc' := 63) (i := 2) (j := 2) (x := l2) dX9_old_62 rfl rfl rfl ?_
            refine R_iload_n (pc' := 64) (i := 3) (j := 3) (x := l3) dX9_old_63 rfl rfl rfl ?_
            refine R_callV_V (pc' := 67) (q := asker8) (As := [va_rf r9, .int l2, .int l3]) (fun o21 => rm_X0_findOldSets o21 r9 l2 l3 M) mf_X0_findOldSets lk_X9_272 im_X0_findOldSets se_X0_findOldSets rfl rfl rfl dX9_old_64 rfl (by decide) (Nat.le_trans c_0 (by decide)) (fun u10 M => ?_)
            refine R_iload (pc' := 69) (i := 4) (j := 4) (x := l4) dX9_old_67 rfl rfl ?_
            refine R_if_ne (pc' := 72) (tgt := 80) (a := l4) dX9_old_69 (by decide) rfl ?_ ?_
            · refine R_iload (pc' := 82) (i := 4) (j := 4) (x := l4) dX9_old_80 rfl rfl ?_
              refine R_iconst (pc' := 83) (x := (nI 1)) dX9_old_82 rfl (by decide) ?_
              refine R_icmp_ne (pc' := 86) (tgt := 109) (a := l4) (b := (nI 1)) dX9_old_83 (by decide) rfl ?_ ?_
              · refine R_aloadq_n (pc' := 110) (i := 0) (j := 0) (q := (some this)) dX9_old_109 rfl rfl rfl ?_
                refine R_getR (pc' := 113) (q := (some this)) fl_X9_67 rfl dX9_old_110 rfl (fun asker11 => ?_)
                refine R_getI (pc' := 116) (q := asker11) fl_X9_234 rfl dX9_old_113 rfl (fun amount12 => ?_)
                refine R_if_ne (pc' := 119) (tgt := 123) (a := amount12) dX9_old_116 (by decide) rfl ?_ ?_
                · refine R_aloadq_n (pc' := 124) (i := 0) (j := 0) (q := (some this)) dX9_old_123 rfl rfl rfl ?_
                  refine R_getR (pc' := 127) (q := (some this)) fl_X9_67 rfl dX9_old_124 rfl (fun asker13 => ?_)
                  refine R_getI (pc' := 130) (q := asker13) fl_X9_261 rfl dX9_old_127 rfl (fun second14 => ?_)
                  exact R_sub [] rfl (rf_X9_old_J130 this second14 M)
                · refine R_iconst (pc' := 120) (x := (nI 0)) dX9_old_119 rfl (by decide) ?_
                  refine R_goto (tgt := 130) dX9_old_120 (by decide) ?_
                  exact R_sub [] rfl (rf_X9_old_J130 this (nI 0) M)
              · refine R_aloadq_n (pc' := 87) (i := 0) (j := 0) (q := (some this)) dX9_old_86 rfl rfl rfl ?_
                refine R_getR (pc' := 90) (q := (some this)) fl_X9_67 rfl dX9_old_87 rfl (fun asker15 => ?_)
                refine R_getI (pc' := 93) (q := asker15) fl_X9_234 rfl dX9_old_90 rfl (fun amount16 => ?_)
                refine R_if_ne (pc' := 96) (tgt := 101) (a := amount16) dX9_old_93 (by decide) rfl ?_ ?_
                · refine R_aloadq_n (pc' := 102) (i := 0) (j := 0) (q := (some this)) dX9_old_101 rfl rfl rfl ?_
                  refine R_getR (pc' := 105) (q := (some this)) fl_X9_67 rfl dX9_old_102 rfl (fun asker17 => ?_)
                  refine R_getI (pc' := 108) (q := asker17) fl_X9_237 rfl dX9_old_105 rfl (fun first18 => ?_)
                  exact R_sub [] rfl (rf_X9_old_J108 this first18 M)
                · refine R_bipush (pc' := 98) (x := (-2 : Int32)) dX9_old_96 rfl (by decide) ?_
                  refine R_goto (tgt := 108) dX9_old_98 (by decide) ?_
                  exact R_sub [] rfl (rf_X9_old_J108 this (-2 : Int32) M)
            · refine R_aloadq_n (pc' := 73) (i := 0) (j := 0) (q := (some this)) dX9_old_72 rfl rfl rfl ?_
              refine R_getR (pc' := 76) (q := (some this)) fl_X9_67 rfl dX9_old_73 rfl (fun asker19 => ?_)
              refine R_getI (pc' := 79) (q := asker19) fl_X9_234 rfl dX9_old_76 rfl (fun amount20 => ?_)
              exact R_iret dX9_old_79
          · exact R_sub [] rfl (rf_X9_old_J50 this M)
/-! BarPilot.game(IIII)I -/
def f_X9_game_J40 (this : Nat) (M : Mem) : Option (Int32 × Mem) :=
  some ((-1000 : Int32), M)
set_option maxHeartbeats 2000000 in
set_option maxRecDepth 20000 in
theorem rf_X9_game_J40 (this : Nat) (M : Mem) : RF yX9_game cX9_game 5 (some .int) 12 eI (f_X9_game_J40 this M) 40 [] [] M := by
  rw [f_X9_game_J40]
  refine R_sipush (pc' := 43) (x := (-1000 : Int32)) dX9_game_40 rfl (by decide) ?_
  exact R_iret dX9_game_43
def f_X9_game_J76 (this : Nat) (s0 : Int32) (M : Mem) : Option (Int32 × Mem) :=
  some (s0, M)
set_option maxHeartbeats 2000000 in
set_option maxRecDepth 20000 in
theorem rf_X9_game_J76 (this : Nat) (s0 : Int32) (M : Mem) : RF yX9_game cX9_game 5 (some .int) 12 eI (f_X9_game_J76 this s0 M) 76 [] [.int s0] M := by
  rw [f_X9_game_J76]
  exact R_iret dX9_game_76
def f_X9_game (this : Nat) (l1 : Int32) (l2 : Int32) (l3 : Int32) (l4 : Int32) (M : Mem) : Option (Int32 × Mem) :=
  (if l1 = l2 then
    (f_X9_game_J40 this M)
  else
    ((oO M 9 (some this)).bind fun o13 => cl (f_X9_isWaiting o13 l1 M) fun r1 M =>
    (if r1 = 0 then
      (f_X9_game_J40 this M)
    else
      ((oO M 9 (some this)).bind fun o12 => cl (f_X9_isWaiting o12 l2 M) fun r2 M =>
      (if r2 = 0 then
        (f_X9_game_J40 this M)
      else
        (cl (f_X9_isWithin l3 (nI 1) (nI 3) M) fun r3 M =>
        (if r3 = 0 then
          (f_X9_game_J40 this M)
        else
          (cl (f_X9_isWithin l4 (nI 0) (nI 1) M) fun r4 M =>
          (if r4 = 0 then
            (f_X9_game_J40 this M)
          else
            ((gR M 9 7 (some this)).bind fun asker5 =>
            (oO M 0 asker5).bind fun o11 => cl (f_X0_playGame o11 l1 l2 l3 M) fun u6 M =>
            (if l4 = 0 then
              ((gR M 9 7 (some this)).bind fun asker9 =>
              (gI M 0 0 asker9).bind fun amount10 =>
              f_X9_game_J76 this amount10 M)
            else
              ((gR M 9 7 (some this)).bind fun asker7 =>
              (gI M 0 1 asker7).bind fun first8 =>
              f_X9_game_J76 this first8 M))))))))))))
set_option maxHeartbeats 2000000 in
set_option maxRecDepth 20000 in
theorem rm_X9_game (this : Nat) (l1 : Int32) (l2 : Int32) (l3 : Int32) (l4 : Int32) (M : Mem) : RFm yX9_game cX9_game 5 (some .int) 12 eI (f_X9_game this l1 l2 l3 l4 M) [va_rf (some this), .int l1, .int l2, .int l3, .int l4] M := by
  refine RFm_of (L := [(0, va_rf (some this)), (1, .int l1), (2, .int l2), (3, .int l3), (4, .int l4)]) (by decide) rfl (Nat.le_trans (c_R (c_I (c_I (c_I (c_I c_0))))) (by decide)) ?_
  rw [f_X9_game]
  refine R_iload_n (pc' := 1) (i := 1) (j := 1) (x := l1) dX9_game_0 rfl rfl rfl ?_
  refine R_iload_n (pc' := 2) (i := 2) (j := 2) (x := l2) dX9_game_1 rfl rfl rfl ?_
  refine R_icmp_eq (pc' := 5) (tgt := 40) (a := l1) (b := l2) dX9_game_2 (by decide) rfl ?_ ?_
  · exact R_sub [] rfl (rf_X9_game_J40 this M)
  · refine R_aloadq_n (pc' := 6) (i := 0) (j := 0) (q := (some this)) dX9_game_5 rfl rfl rfl ?_
    refine R_iload_n (pc' := 7) (i := 1) (j := 1) (x := l1) dX9_game_6 rfl rfl rfl ?_
    refine R_callV_I (pc' := 10) (q := (some this)) (As := [.int l1]) (fun o13 => rm_X9_isWaiting o13 l1 M) mf_X9_isWaiting lk_X9_192 im_X9_isWaiting se_X9_isWaiting rfl rfl rfl dX9_game_7 rfl (by decide) (Nat.le_trans c_0 (by decide)) (fun r1 M => ?_)
    refine R_if_eq (pc' := 13) (tgt := 40) (a := r1) dX9_game_10 (by decide) rfl ?_ ?_
    · exact R_sub [] rfl (rf_X9_game_J40 this M)
    · refine R_aloadq_n (pc' := 14) (i := 0) (j := 0) (q := (some this)) dX9_game_13 rfl rfl rfl ?_
      refine R_iload_n (pc' := 15) (i := 2) (j := 2) (x := l2) dX9_game_14 rfl rfl rfl ?_
      refine R_callV_I (pc' := 18) (q := (some this)) (As := [.int l2]) (fun o12 => rm_X9_isWaiting o12 l2 M) mf_X9_isWaiting lk_X9_192 im_X9_isWaiting se_X9_isWaiting rfl rfl rfl dX9_game_15 rfl (by decide) (Nat.le_trans c_0 (by decide)) (fun r2 M => ?_)
      refine R_if_eq (pc' := 21) (tgt := 40) (a := r2) dX9_game_18 (by decide) rfl ?_ ?_
      · exact R_sub [] rfl (rf_X9_game_J40 this M)
      · refine R_iload_n (pc' := 22) (i := 3) (j := 3) (x := l3) dX9_game_21 rfl rfl rfl ?_
        refine R_iconst (pc' := 23) (x := (nI 1)) dX9_game_22 rfl (by decide) ?_
        refine R_iconst (pc' := 24) (x := (nI 3)) dX9_game_23 rfl (by decide) ?_
        refine R_callS_I (pc' := 27) (As := [.int l3, .int (nI 1), .int (nI 3)]) (rm_X9_isWithin l3 (nI 1) (nI 3) M) mf_X9_isWithin lk_X9_217 sm_X9_isWithin rfl rfl dX9_game_24 rfl (by decide) (Nat.le_trans c_0 (by decide)) (fun r3 M => ?_)
        refine R_if_eq (pc' := 30) (tgt := 40) (a := r3) dX9_game_27 (by decide) rfl ?_ ?_
        · exact R_sub [] rfl (rf_X9_game_J40 this M)
        · refine R_iload (pc' := 32) (i := 4) (j := 4) (x := l4) dX9_game_30 rfl rfl ?_
          refine R_iconst (pc' := 33) (x := (nI 0)) dX9_game_32 rfl (by decide) ?_
          refine R_iconst (pc' := 34) (x := (nI 1)) dX9_game_33 rfl (by decide) ?_
          refine R_callS_I (pc' := 37) (As := [.int l4, .int (nI 0), .int (nI 1)]) (rm_X9_isWithin l4 (nI 0) (nI 1) M) mf_X9_isWithin lk_X9_217 sm_X9_isWithin rfl rfl dX9_game_34 rfl (by decide) (Nat.le_trans c_0 (by decide)) (fun r4 M => ?_)
          refine R_if_ne (pc' := 40) (tgt := 44) (a := r4) dX9_game_37 (by decide) rfl ?_ ?_
          · refine R_aloadq_n (pc' := 45) (i := 0) (j := 0) (q := (some this)) dX9_game_44 rfl rfl rfl ?_
            refine R_getR (pc' := 48) (q := (some this)) fl_X9_67 rfl dX9_game_45 rfl (fun asker5 => ?_)
            refine R_iload_n (pc' := 49) (i := 1) (j := 1) (x := l1) dX9_game_48 rfl rfl rfl ?_
            refine R_iload_n (pc' := 50) (i := 2) (j := 2) (x := l2) dX9_game_49 rfl rfl rfl ?_
            refine R_iload_n (pc' := 51) (i := 3) (j := 3) (x := l3) dX9_game_50 rfl rfl rfl ?_
            refine R_callV_V (pc' := 54) (q := asker5) (As := [.int l1, .int l2, .int l3]) (fun o11 => rm_X0_playGame o11 l1 l2 l3 M) mf_X0_playGame lk_X9_276 im_X0_playGame se_X0_playGame rfl rfl rfl dX9_game_51 rfl (by decide) (Nat.le_trans c_0 (by decide)) (fun u6 M => ?_)
            refine R_iload (pc' := 56) (i := 4) (j := 4) (x := l4) dX9_game_54 rfl rfl ?_
            refine R_if_ne (pc' := 59) (tgt := 69) (a := l4) dX9_game_56 (by decide) rfl ?_ ?_
            · refine R_aloadq_n (pc' := 70) (i := 0) (j := 0) (q := (some this)) dX9_game_69 rfl rfl rfl ?_
              refine R_getR (pc' := 73) (q := (some this)) fl_X9_67 rfl dX9_game_70 rfl (fun asker7 => ?_)
              refine R_getI (pc' := 76) (q := asker7) fl_X9_237 rfl dX9_game_73 rfl (fun first8 => ?_)
              exact R_sub [] rfl (rf_X9_game_J76 this first8 M)
            · refine R_aloadq_n (pc' := 60) (i := 0) (j := 0) (q := (some this)) dX9_game_59 rfl rfl rfl ?_
              refine R_getR (pc' := 63) (q := (some this)) fl_X9_67 rfl dX9_game_60 rfl (fun asker9 => ?_)
              refine R_getI (pc' := 66) (q := asker9) fl_X9_234 rfl dX9_game_63 rfl (fun amount10 => ?_)
              refine R_goto (tgt := 76) dX9_game_66 (by decide) ?_
              exact R_sub [] rfl (rf_X9_game_J76 this amount10 M)
          · exact R_sub [] rfl (rf_X9_game_J40 this M)
/-! BarPilot.parts(II)I -/
def f_X9_parts_J19 (this : Nat) (M : Mem) : Option (Int32 × Mem) :=
  some ((-1 : Int32), M)
set_option maxHeartbeats 2000000 in
set_option maxRecDepth 20000 in
theorem rf_X9_parts_J19 (this : Nat) (M : Mem) : RF yX9_parts cX9_parts 3 (some .int) 3 eI (f_X9_parts_J19 this M) 19 [] [] M := by
  rw [f_X9_parts_J19]
  refine R_iconst (pc' := 20) (x := (-1 : Int32)) dX9_parts_19 rfl (by decide) ?_
  exact R_iret dX9_parts_20
def f_X9_parts (this : Nat) (l1 : Int32) (l2 : Int32) (M : Mem) : Option (Int32 × Mem) :=
  (oO M 9 (some this)).bind fun o9 => cl (f_X9_isShip o9 l2 M) fun r1 M =>
  (if r1 = 0 then
    (f_X9_parts_J19 this M)
  else
    (cl (f_X9_isWithin l1 (nI 0) (nI 9999) M) fun r2 M =>
    (if r2 = 0 then
      (f_X9_parts_J19 this M)
    else
      ((gR M 9 4 (some this)).bind fun book3 =>
      (gR M 2 0 book3).bind fun told4 =>
      (gR M 9 4 (some this)).bind fun book5 =>
      (gR M 2 1 book5).bind fun scene6 =>
      (oO M 8 told4).bind fun o8 => cl (f_X8_partOf o8 l1 l2 scene6 M) fun r7 M =>
      some (r7, M)))))
set_option maxHeartbeats 2000000 in
set_option maxRecDepth 20000 in
theorem rm_X9_parts (this : Nat) (l1 : Int32) (l2 : Int32) (M : Mem) : RFm yX9_parts cX9_parts 3 (some .int) 3 eI (f_X9_parts this l1 l2 M) [va_rf (some this), .int l1, .int l2] M := by
  refine RFm_of (L := [(0, va_rf (some this)), (1, .int l1), (2, .int l2)]) (by decide) rfl (Nat.le_trans (c_R (c_I (c_I c_0))) (by decide)) ?_
  rw [f_X9_parts]
  refine R_aloadq_n (pc' := 1) (i := 0) (j := 0) (q := (some this)) dX9_parts_0 rfl rfl rfl ?_
  refine R_iload_n (pc' := 2) (i := 2) (j := 2) (x := l2) dX9_parts_1 rfl rfl rfl ?_
  refine R_callV_I (pc' := 5) (q := (some this)) (As := [.int l2]) (fun o9 => rm_X9_isShip o9 l2 M) mf_X9_isShip lk_X9_132 im_X9_isShip se_X9_isShip rfl rfl rfl dX9_parts_2 rfl (by decide) (Nat.le_trans c_0 (by decide)) (fun r1 M => ?_)
  refine R_if_eq (pc' := 8) (tgt := 19) (a := r1) dX9_parts_5 (by decide) rfl ?_ ?_
  · exact R_sub [] rfl (rf_X9_parts_J19 this M)
  · refine R_iload_n (pc' := 9) (i := 1) (j := 1) (x := l1) dX9_parts_8 rfl rfl rfl ?_
    refine R_iconst (pc' := 10) (x := (nI 0)) dX9_parts_9 rfl (by decide) ?_
    refine R_sipush (pc' := 13) (x := (nI 9999)) dX9_parts_10 rfl (by decide) ?_
    refine R_callS_I (pc' := 16) (As := [.int l1, .int (nI 0), .int (nI 9999)]) (rm_X9_isWithin l1 (nI 0) (nI 9999) M) mf_X9_isWithin lk_X9_217 sm_X9_isWithin rfl rfl dX9_parts_13 rfl (by decide) (Nat.le_trans c_0 (by decide)) (fun r2 M => ?_)
    refine R_if_ne (pc' := 19) (tgt := 21) (a := r2) dX9_parts_16 (by decide) rfl ?_ ?_
    · refine R_aloadq_n (pc' := 22) (i := 0) (j := 0) (q := (some this)) dX9_parts_21 rfl rfl rfl ?_
      refine R_getR (pc' := 25) (q := (some this)) fl_X9_41 rfl dX9_parts_22 rfl (fun book3 => ?_)
      refine R_getR (pc' := 28) (q := book3) fl_X9_51 rfl dX9_parts_25 rfl (fun told4 => ?_)
      refine R_iload_n (pc' := 29) (i := 1) (j := 1) (x := l1) dX9_parts_28 rfl rfl rfl ?_
      refine R_iload_n (pc' := 30) (i := 2) (j := 2) (x := l2) dX9_parts_29 rfl rfl rfl ?_
      refine R_aloadq_n (pc' := 31) (i := 0) (j := 0) (q := (some this)) dX9_parts_30 rfl rfl rfl ?_
      refine R_getR (pc' := 34) (q := (some this)) fl_X9_41 rfl dX9_parts_31 rfl (fun book5 => ?_)
      refine R_getR (pc' := 37) (q := book5) fl_X9_110 rfl dX9_parts_34 rfl (fun scene6 => ?_)
      refine R_callV_I (pc' := 40) (q := told4) (As := [.int l1, .int l2, va_rf scene6]) (fun o8 => rm_X8_partOf o8 l1 l2 scene6 M) mf_X8_partOf lk_X9_280 im_X8_partOf se_X8_partOf rfl rfl rfl dX9_parts_37 rfl (by decide) (Nat.le_trans c_0 (by decide)) (fun r7 M => ?_)
      exact R_iret dX9_parts_40
    · exact R_sub [] rfl (rf_X9_parts_J19 this M)
/-! BarPilot.order(I)I -/
def f_X9_order (this : Nat) (l1 : Int32) (M : Mem) : Option (Int32 × Mem) :=
  (oO M 9 (some this)).bind fun o6 => cl (f_X9_isShip o6 l1 M) fun r1 M =>
  (if r1 = 0 then
    (some ((-1 : Int32), M))
  else
    ((oO M 9 (some this)).bind fun o5 => cl (f_X9_asking o5 M) fun r2 M =>
    (oO M 0 r2).bind fun o4 => cl (f_X0_placeOf o4 l1 M) fun r3 M =>
    some (r3, M)))
set_option maxHeartbeats 2000000 in
set_option maxRecDepth 20000 in
theorem rm_X9_order (this : Nat) (l1 : Int32) (M : Mem) : RFm yX9_order cX9_order 2 (some .int) 8 eI (f_X9_order this l1 M) [va_rf (some this), .int l1] M := by
  refine RFm_of (L := [(0, va_rf (some this)), (1, .int l1)]) (by decide) rfl (Nat.le_trans (c_R (c_I c_0)) (by decide)) ?_
  rw [f_X9_order]
  refine R_aloadq_n (pc' := 1) (i := 0) (j := 0) (q := (some this)) dX9_order_0 rfl rfl rfl ?_
  refine R_iload_n (pc' := 2) (i := 1) (j := 1) (x := l1) dX9_order_1 rfl rfl rfl ?_
  refine R_callV_I (pc' := 5) (q := (some this)) (As := [.int l1]) (fun o6 => rm_X9_isShip o6 l1 M) mf_X9_isShip lk_X9_132 im_X9_isShip se_X9_isShip rfl rfl rfl dX9_order_2 rfl (by decide) (Nat.le_trans c_0 (by decide)) (fun r1 M => ?_)
  refine R_if_ne (pc' := 8) (tgt := 10) (a := r1) dX9_order_5 (by decide) rfl ?_ ?_
  · refine R_aloadq_n (pc' := 11) (i := 0) (j := 0) (q := (some this)) dX9_order_10 rfl rfl rfl ?_
    refine R_callV_R (pc' := 14) (q := (some this)) (As := []) (fun o5 => rm_X9_asking o5 M) mf_X9_asking lk_X9_221 im_X9_asking se_X9_asking rfl rfl rfl dX9_order_11 rfl (by decide) (Nat.le_trans c_0 (by decide)) (fun r2 M => ?_)
    refine R_iload_n (pc' := 15) (i := 1) (j := 1) (x := l1) dX9_order_14 rfl rfl rfl ?_
    refine R_callV_I (pc' := 18) (q := r2) (As := [.int l1]) (fun o4 => rm_X0_placeOf o4 l1 M) mf_X0_placeOf lk_X9_284 im_X0_placeOf se_X0_placeOf rfl rfl rfl dX9_order_15 rfl (by decide) (Nat.le_trans c_0 (by decide)) (fun r3 M => ?_)
    exact R_iret dX9_order_18
  · refine R_iconst (pc' := 9) (x := (-1 : Int32)) dX9_order_8 rfl (by decide) ?_
    exact R_iret dX9_order_9
/-! BarPilot.note(III)I -/
def f_X9_note_J70 (this : Nat) (M : Mem) : Option (Int32 × Mem) :=
  some ((-2 : Int32), M)
set_option maxHeartbeats 2000000 in
set_option maxRecDepth 20000 in
theorem rf_X9_note_J70 (this : Nat) (M : Mem) : RF yX9_note cX9_note 5 (some .int) 2 eI (f_X9_note_J70 this M) 70 [] [] M := by
  rw [f_X9_note_J70]
  refine R_bipush (pc' := 72) (x := (-2 : Int32)) dX9_note_70 rfl (by decide) ?_
  exact R_iret dX9_note_72
def f_X9_note_J51 (this : Nat) (l1 : Int32) (l2 : Int32) (l3 : Int32) (s0 : Int32) (M : Mem) : Option (Int32 × Mem) :=
  (if s0 = 0 then
    (f_X9_note_J70 this M)
  else
    ((gR M 9 4 (some this)).bind fun book1 =>
    (gI M 2 5 book1).bind fun notes2 =>
    (if notes2 < (nI 10) then
      ((gR M 9 4 (some this)).bind fun book3 =>
      (oO M 2 book3).bind fun o7 => cl (f_X2_addNote o7 l1 l2 l3 M) fun u4 M =>
      (gR M 9 4 (some this)).bind fun book5 =>
      (gI M 2 5 book5).bind fun notes6 =>
      some (notes6, M))
    else
      (f_X9_note_J70 this M))))
set_option maxHeartbeats 2000000 in
set_option maxRecDepth 20000 in
theorem rf_X9_note_J51 (this : Nat) (l1 : Int32) (l2 : Int32) (l3 : Int32) (s0 : Int32) (M : Mem) : RF yX9_note cX9_note 5 (some .int) 2 eI (f_X9_note_J51 this l1 l2 l3 s0 M) 51 [(0, va_rf (some this)), (1, .int l1), (2, .int l2), (3, .int l3)] [.int s0] M := by
  rw [f_X9_note_J51]
  refine R_istore (pc' := 53) (L' := [(4, .int s0), (0, va_rf (some this)), (1, .int l1), (2, .int l2), (3, .int l3)]) (i := 4) (x := s0) dX9_note_51 rfl (by decide) rfl ?_
  refine R_iload (pc' := 55) (i := 4) (j := 0) (x := s0) dX9_note_53 rfl rfl ?_
  refine R_if_eq (pc' := 58) (tgt := 70) (a := s0) dX9_note_55 (by decide) rfl ?_ ?_
  · exact R_sub [] rfl (rf_X9_note_J70 this M)
  · refine R_aloadq_n (pc' := 59) (i := 0) (j := 1) (q := (some this)) dX9_note_58 rfl rfl rfl ?_
    refine R_getR (pc' := 62) (q := (some this)) fl_X9_41 rfl dX9_note_59 rfl (fun book1 => ?_)
    refine R_getI (pc' := 65) (q := book1) fl_X9_165 rfl dX9_note_62 rfl (fun notes2 => ?_)
    refine R_bipush (pc' := 67) (x := (nI 10)) dX9_note_65 rfl (by decide) ?_
    refine R_icmp_lt (pc' := 70) (tgt := 73) (a := notes2) (b := (nI 10)) dX9_note_67 (by decide) rfl ?_ ?_
    · refine R_aloadq_n (pc' := 74) (i := 0) (j := 1) (q := (some this)) dX9_note_73 rfl rfl rfl ?_
      refine R_getR (pc' := 77) (q := (some this)) fl_X9_41 rfl dX9_note_74 rfl (fun book3 => ?_)
      refine R_iload_n (pc' := 78) (i := 1) (j := 2) (x := l1) dX9_note_77 rfl rfl rfl ?_
      refine R_iload_n (pc' := 79) (i := 2) (j := 3) (x := l2) dX9_note_78 rfl rfl rfl ?_
      refine R_iload_n (pc' := 80) (i := 3) (j := 4) (x := l3) dX9_note_79 rfl rfl rfl ?_
      refine R_callV_V (pc' := 83) (q := book3) (As := [.int l1, .int l2, .int l3]) (fun o7 => rm_X2_addNote o7 l1 l2 l3 M) mf_X2_addNote lk_X9_287 im_X2_addNote se_X2_addNote rfl rfl rfl dX9_note_80 rfl (by decide) (Nat.le_trans c_0 (by decide)) (fun u4 M => ?_)
      refine R_aloadq_n (pc' := 84) (i := 0) (j := 1) (q := (some this)) dX9_note_83 rfl rfl rfl ?_
      refine R_getR (pc' := 87) (q := (some this)) fl_X9_41 rfl dX9_note_84 rfl (fun book5 => ?_)
      refine R_getI (pc' := 90) (q := book5) fl_X9_165 rfl dX9_note_87 rfl (fun notes6 => ?_)
      exact R_iret dX9_note_90
    · exact R_sub [] rfl (rf_X9_note_J70 this M)
def f_X9_note_J50 (this : Nat) (l1 : Int32) (l2 : Int32) (l3 : Int32) (M : Mem) : Option (Int32 × Mem) :=
  f_X9_note_J51 this l1 l2 l3 (nI 0) M
set_option maxHeartbeats 2000000 in
set_option maxRecDepth 20000 in
theorem rf_X9_note_J50 (this : Nat) (l1 : Int32) (l2 : Int32) (l3 : Int32) (M : Mem) : RF yX9_note cX9_note 5 (some .int) 2 eI (f_X9_note_J50 this l1 l2 l3 M) 50 [(0, va_rf (some this)), (1, .int l1), (2, .int l2), (3, .int l3)] [] M := by
  rw [f_X9_note_J50]
  refine R_iconst (pc' := 51) (x := (nI 0)) dX9_note_50 rfl (by decide) ?_
  exact R_sub [0, 1, 2, 3] rfl (rf_X9_note_J51 this l1 l2 l3 (nI 0) M)
def f_X9_note_J46 (this : Nat) (l1 : Int32) (l2 : Int32) (l3 : Int32) (M : Mem) : Option (Int32 × Mem) :=
  f_X9_note_J51 this l1 l2 l3 (nI 1) M
set_option maxHeartbeats 2000000 in
set_option maxRecDepth 20000 in
theorem rf_X9_note_J46 (this : Nat) (l1 : Int32) (l2 : Int32) (l3 : Int32) (M : Mem) : RF yX9_note cX9_note 5 (some .int) 2 eI (f_X9_note_J46 this l1 l2 l3 M) 46 [(0, va_rf (some this)), (1, .int l1), (2, .int l2), (3, .int l3)] [] M := by
  rw [f_X9_note_J46]
  refine R_iconst (pc' := 47) (x := (nI 1)) dX9_note_46 rfl (by decide) ?_
  refine R_goto (tgt := 51) dX9_note_47 (by decide) ?_
  exact R_sub [0, 1, 2, 3] rfl (rf_X9_note_J51 this l1 l2 l3 (nI 1) M)
def f_X9_note (this : Nat) (l1 : Int32) (l2 : Int32) (l3 : Int32) (M : Mem) : Option (Int32 × Mem) :=
  (if l1 = (-1 : Int32) then
    ((gR M 9 4 (some this)).bind fun book6 =>
    (pI M 2 5 book6 (nI 0)).bind fun M =>
    some ((nI 0), M))
  else
    (cl (f_X9_isWithin l1 (nI 0) (nI 60) M) fun r1 M =>
    (if r1 = 0 then
      (f_X9_note_J50 this l1 l2 l3 M)
    else
      ((oO M 9 (some this)).bind fun o5 => cl (f_X9_isShip o5 l2 M) fun r2 M =>
      (if r2 = 0 then
        (f_X9_note_J50 this l1 l2 l3 M)
      else
        ((if l3 = (-1 : Int32) then
          (f_X9_note_J46 this l1 l2 l3 M)
        else
          ((oO M 9 (some this)).bind fun o4 => cl (f_X9_isJoke o4 l3 M) fun r3 M =>
          (if r3 = 0 then
            (f_X9_note_J50 this l1 l2 l3 M)
          else
            (f_X9_note_J46 this l1 l2 l3 M))))))))))
set_option maxHeartbeats 2000000 in
set_option maxRecDepth 20000 in
theorem rm_X9_note (this : Nat) (l1 : Int32) (l2 : Int32) (l3 : Int32) (M : Mem) : RFm yX9_note cX9_note 5 (some .int) 2 eI (f_X9_note this l1 l2 l3 M) [va_rf (some this), .int l1, .int l2, .int l3] M := by
  refine RFm_of (L := [(0, va_rf (some this)), (1, .int l1), (2, .int l2), (3, .int l3)]) (by decide) rfl (Nat.le_trans (c_R (c_I (c_I (c_I c_0)))) (by decide)) ?_
  rw [f_X9_note]
  refine R_iload_n (pc' := 1) (i := 1) (j := 1) (x := l1) dX9_note_0 rfl rfl rfl ?_
  refine R_iconst (pc' := 2) (x := (-1 : Int32)) dX9_note_1 rfl (by decide) ?_
  refine R_icmp_ne (pc' := 5) (tgt := 15) (a := l1) (b := (-1 : Int32)) dX9_note_2 (by decide) rfl ?_ ?_
  · refine R_iload_n (pc' := 16) (i := 1) (j := 1) (x := l1) dX9_note_15 rfl rfl rfl ?_
    refine R_iconst (pc' := 17) (x := (nI 0)) dX9_note_16 rfl (by decide) ?_
    refine R_bipush (pc' := 19) (x := (nI 60)) dX9_note_17 rfl (by decide) ?_
    refine R_callS_I (pc' := 22) (As := [.int l1, .int (nI 0), .int (nI 60)]) (rm_X9_isWithin l1 (nI 0) (nI 60) M) mf_X9_isWithin lk_X9_217 sm_X9_isWithin rfl rfl dX9_note_19 rfl (by decide) (Nat.le_trans c_0 (by decide)) (fun r1 M => ?_)
    refine R_if_eq (pc' := 25) (tgt := 50) (a := r1) dX9_note_22 (by decide) rfl ?_ ?_
    · exact R_sub [0, 1, 2, 3] rfl (rf_X9_note_J50 this l1 l2 l3 M)
    · refine R_aloadq_n (pc' := 26) (i := 0) (j := 0) (q := (some this)) dX9_note_25 rfl rfl rfl ?_
      refine R_iload_n (pc' := 27) (i := 2) (j := 2) (x := l2) dX9_note_26 rfl rfl rfl ?_
      refine R_callV_I (pc' := 30) (q := (some this)) (As := [.int l2]) (fun o5 => rm_X9_isShip o5 l2 M) mf_X9_isShip lk_X9_132 im_X9_isShip se_X9_isShip rfl rfl rfl dX9_note_27 rfl (by decide) (Nat.le_trans c_0 (by decide)) (fun r2 M => ?_)
      refine R_if_eq (pc' := 33) (tgt := 50) (a := r2) dX9_note_30 (by decide) rfl ?_ ?_
      · exact R_sub [0, 1, 2, 3] rfl (rf_X9_note_J50 this l1 l2 l3 M)
      · refine R_iload_n (pc' := 34) (i := 3) (j := 3) (x := l3) dX9_note_33 rfl rfl rfl ?_
        refine R_iconst (pc' := 35) (x := (-1 : Int32)) dX9_note_34 rfl (by decide) ?_
        refine R_icmp_eq (pc' := 38) (tgt := 46) (a := l3) (b := (-1 : Int32)) dX9_note_35 (by decide) rfl ?_ ?_
        · exact R_sub [0, 1, 2, 3] rfl (rf_X9_note_J46 this l1 l2 l3 M)
        · refine R_aloadq_n (pc' := 39) (i := 0) (j := 0) (q := (some this)) dX9_note_38 rfl rfl rfl ?_
          refine R_iload_n (pc' := 40) (i := 3) (j := 3) (x := l3) dX9_note_39 rfl rfl rfl ?_
          refine R_callV_I (pc' := 43) (q := (some this)) (As := [.int l3]) (fun o4 => rm_X9_isJoke o4 l3 M) mf_X9_isJoke lk_X9_107 im_X9_isJoke se_X9_isJoke rfl rfl rfl dX9_note_40 rfl (by decide) (Nat.le_trans c_0 (by decide)) (fun r3 M => ?_)
          refine R_if_eq (pc' := 46) (tgt := 50) (a := r3) dX9_note_43 (by decide) rfl ?_ ?_
          · exact R_sub [0, 1, 2, 3] rfl (rf_X9_note_J50 this l1 l2 l3 M)
          · exact R_sub [0, 1, 2, 3] rfl (rf_X9_note_J46 this l1 l2 l3 M)
  · refine R_aloadq_n (pc' := 6) (i := 0) (j := 0) (q := (some this)) dX9_note_5 rfl rfl rfl ?_
    refine R_getR (pc' := 9) (q := (some this)) fl_X9_41 rfl dX9_note_6 rfl (fun book6 => ?_)
    refine R_iconst (pc' := 10) (x := (nI 0)) dX9_note_9 rfl (by decide) ?_
    refine R_putI (pc' := 13) (q := book6) (x := (nI 0)) fl_X9_165 (Or.inl rfl) dX9_note_10 rfl (fun M => ?_)
    refine R_iconst (pc' := 14) (x := (nI 0)) dX9_note_13 rfl (by decide) ?_
    exact R_iret dX9_note_14
/-! BarPilot.ruled(I)I -/
def f_X9_ruled_J22 (this : Nat) (M : Mem) : Option (Int32 × Mem) :=
  some ((-3 : Int32), M)
set_option maxHeartbeats 2000000 in
set_option maxRecDepth 20000 in
theorem rf_X9_ruled_J22 (this : Nat) (M : Mem) : RF yX9_ruled cX9_ruled 2 (some .int) 8 eI (f_X9_ruled_J22 this M) 22 [] [] M := by
  rw [f_X9_ruled_J22]
  refine R_bipush (pc' := 24) (x := (-3 : Int32)) dX9_ruled_22 rfl (by decide) ?_
  exact R_iret dX9_ruled_24
def f_X9_ruled_J75 (this : Nat) (s0 : Int32) (M : Mem) : Option (Int32 × Mem) :=
  some (s0, M)
set_option maxHeartbeats 2000000 in
set_option maxRecDepth 20000 in
theorem rf_X9_ruled_J75 (this : Nat) (s0 : Int32) (M : Mem) : RF yX9_ruled cX9_ruled 2 (some .int) 8 eI (f_X9_ruled_J75 this s0 M) 75 [] [.int s0] M := by
  rw [f_X9_ruled_J75]
  exact R_iret dX9_ruled_75
def f_X9_ruled (this : Nat) (l1 : Int32) (M : Mem) : Option (Int32 × Mem) :=
  (gR M 9 4 (some this)).bind fun book1 =>
  (gR M 2 0 book1).bind fun told2 =>
  (gI M 8 0 told2).bind fun there3 =>
  (if there3 = 0 then
    (f_X9_ruled_J22 this M)
  else
    (cl (f_X9_isWithin l1 (nI 0) (nI 1) M) fun r4 M =>
    (if r4 = 0 then
      (f_X9_ruled_J22 this M)
    else
      ((gR M 9 7 (some this)).bind fun asker5 =>
      (gR M 9 3 (some this)).bind fun rules6 =>
      (gI M 9 8 (some this)).bind fun ruleCount7 =>
      (oO M 0 asker5).bind fun o15 => cl (f_X0_tryRules o15 rules6 ruleCount7 (-1 : Int32) M) fun u8 M =>
      (if l1 = 0 then
        ((gR M 9 7 (some this)).bind fun asker13 =>
        (gI M 0 0 asker13).bind fun amount14 =>
        some (amount14, M))
      else
        ((gR M 9 7 (some this)).bind fun asker9 =>
        (gI M 0 0 asker9).bind fun amount10 =>
        (if amount10 = 0 then
          (f_X9_ruled_J75 this (-2 : Int32) M)
        else
          ((gR M 9 7 (some this)).bind fun asker11 =>
          (gI M 0 1 asker11).bind fun first12 =>
          f_X9_ruled_J75 this first12 M))))))))
set_option maxHeartbeats 2000000 in
set_option maxRecDepth 20000 in
theorem rm_X9_ruled (this : Nat) (l1 : Int32) (M : Mem) : RFm yX9_ruled cX9_ruled 2 (some .int) 8 eI (f_X9_ruled this l1 M) [va_rf (some this), .int l1] M := by
  refine RFm_of (L := [(0, va_rf (some this)), (1, .int l1)]) (by decide) rfl (Nat.le_trans (c_R (c_I c_0)) (by decide)) ?_
  rw [f_X9_ruled]
  refine R_aloadq_n (pc' := 1) (i := 0) (j := 0) (q := (some this)) dX9_ruled_0 rfl rfl rfl ?_
  refine R_getR (pc' := 4) (q := (some this)) fl_X9_41 rfl dX9_ruled_1 rfl (fun book1 => ?_)
  refine R_getR (pc' := 7) (q := book1) fl_X9_51 rfl dX9_ruled_4 rfl (fun told2 => ?_)
  refine R_getI (pc' := 10) (q := told2) fl_X9_174 rfl dX9_ruled_7 rfl (fun there3 => ?_)
  refine R_if_eq (pc' := 13) (tgt := 22) (a := there3) dX9_ruled_10 (by decide) rfl ?_ ?_
  · exact R_sub [] rfl (rf_X9_ruled_J22 this M)
  · refine R_iload_n (pc' := 14) (i := 1) (j := 1) (x := l1) dX9_ruled_13 rfl rfl rfl ?_
    refine R_iconst (pc' := 15) (x := (nI 0)) dX9_ruled_14 rfl (by decide) ?_
    refine R_iconst (pc' := 16) (x := (nI 1)) dX9_ruled_15 rfl (by decide) ?_
    refine R_callS_I (pc' := 19) (As := [.int l1, .int (nI 0), .int (nI 1)]) (rm_X9_isWithin l1 (nI 0) (nI 1) M) mf_X9_isWithin lk_X9_217 sm_X9_isWithin rfl rfl dX9_ruled_16 rfl (by decide) (Nat.le_trans c_0 (by decide)) (fun r4 M => ?_)
    refine R_if_ne (pc' := 22) (tgt := 25) (a := r4) dX9_ruled_19 (by decide) rfl ?_ ?_
    · refine R_aloadq_n (pc' := 26) (i := 0) (j := 0) (q := (some this)) dX9_ruled_25 rfl rfl rfl ?_
      refine R_getR (pc' := 29) (q := (some this)) fl_X9_67 rfl dX9_ruled_26 rfl (fun asker5 => ?_)
      refine R_aloadq_n (pc' := 30) (i := 0) (j := 0) (q := (some this)) dX9_ruled_29 rfl rfl rfl ?_
      refine R_getR (pc' := 33) (q := (some this)) fl_X9_34 rfl dX9_ruled_30 rfl (fun rules6 => ?_)
      refine R_aloadq_n (pc' := 34) (i := 0) (j := 0) (q := (some this)) dX9_ruled_33 rfl rfl rfl ?_
      refine R_getI (pc' := 37) (q := (some this)) fl_X9_71 rfl dX9_ruled_34 rfl (fun ruleCount7 => ?_)
      refine R_iconst (pc' := 38) (x := (-1 : Int32)) dX9_ruled_37 rfl (by decide) ?_
      refine R_callV_V (pc' := 41) (q := asker5) (As := [va_rf rules6, .int ruleCount7, .int (-1 : Int32)]) (fun o15 => rm_X0_tryRules o15 rules6 ruleCount7 (-1 : Int32) M) mf_X0_tryRules lk_X9_290 im_X0_tryRules se_X0_tryRules rfl rfl rfl dX9_ruled_38 rfl (by decide) (Nat.le_trans c_0 (by decide)) (fun u8 M => ?_)
      refine R_iload_n (pc' := 42) (i := 1) (j := 1) (x := l1) dX9_ruled_41 rfl rfl rfl ?_
      refine R_if_ne (pc' := 45) (tgt := 53) (a := l1) dX9_ruled_42 (by decide) rfl ?_ ?_
      · refine R_aloadq_n (pc' := 54) (i := 0) (j := 0) (q := (some this)) dX9_ruled_53 rfl rfl rfl ?_
        refine R_getR (pc' := 57) (q := (some this)) fl_X9_67 rfl dX9_ruled_54 rfl (fun asker9 => ?_)
        refine R_getI (pc' := 60) (q := asker9) fl_X9_234 rfl dX9_ruled_57 rfl (fun amount10 => ?_)
        refine R_if_ne (pc' := 63) (tgt := 68) (a := amount10) dX9_ruled_60 (by decide) rfl ?_ ?_
        · refine R_aloadq_n (pc' := 69) (i := 0) (j := 0) (q := (some this)) dX9_ruled_68 rfl rfl rfl ?_
          refine R_getR (pc' := 72) (q := (some this)) fl_X9_67 rfl dX9_ruled_69 rfl (fun asker11 => ?_)
          refine R_getI (pc' := 75) (q := asker11) fl_X9_237 rfl dX9_ruled_72 rfl (fun first12 => ?_)
          exact R_sub [] rfl (rf_X9_ruled_J75 this first12 M)
        · refine R_bipush (pc' := 65) (x := (-2 : Int32)) dX9_ruled_63 rfl (by decide) ?_
          refine R_goto (tgt := 75) dX9_ruled_65 (by decide) ?_
          exact R_sub [] rfl (rf_X9_ruled_J75 this (-2 : Int32) M)
      · refine R_aloadq_n (pc' := 46) (i := 0) (j := 0) (q := (some this)) dX9_ruled_45 rfl rfl rfl ?_
        refine R_getR (pc' := 49) (q := (some this)) fl_X9_67 rfl dX9_ruled_46 rfl (fun asker13 => ?_)
        refine R_getI (pc' := 52) (q := asker13) fl_X9_234 rfl dX9_ruled_49 rfl (fun amount14 => ?_)
        exact R_iret dX9_ruled_52
    · exact R_sub [] rfl (rf_X9_ruled_J22 this M)
/-! BarPilot.look(II)I -/
def f_X9_look_J32 (this : Nat) (M : Mem) : Option (Int32 × Mem) :=
  some ((-1 : Int32), M)
set_option maxHeartbeats 2000000 in
set_option maxRecDepth 20000 in
theorem rf_X9_look_J32 (this : Nat) (M : Mem) : RF yX9_look cX9_look 3 (some .int) 8 eI (f_X9_look_J32 this M) 32 [] [] M := by
  rw [f_X9_look_J32]
  refine R_iconst (pc' := 33) (x := (-1 : Int32)) dX9_look_32 rfl (by decide) ?_
  exact R_iret dX9_look_33
def f_X9_look_J73 (this : Nat) (M : Mem) : Option (Int32 × Mem) :=
  some ((-2 : Int32), M)
set_option maxHeartbeats 2000000 in
set_option maxRecDepth 20000 in
theorem rf_X9_look_J73 (this : Nat) (M : Mem) : RF yX9_look cX9_look 3 (some .int) 8 eI (f_X9_look_J73 this M) 73 [] [] M := by
  rw [f_X9_look_J73]
  refine R_bipush (pc' := 75) (x := (-2 : Int32)) dX9_look_73 rfl (by decide) ?_
  exact R_iret dX9_look_75
def f_X9_look_J108 (this : Nat) (s0 : Int32) (M : Mem) : Option (Int32 × Mem) :=
  some (s0, M)
set_option maxHeartbeats 2000000 in
set_option maxRecDepth 20000 in
theorem rf_X9_look_J108 (this : Nat) (s0 : Int32) (M : Mem) : RF yX9_look cX9_look 3 (some .int) 8 eI (f_X9_look_J108 this s0 M) 108 [] [.int s0] M := by
  rw [f_X9_look_J108]
  exact R_iret dX9_look_108
def f_X9_look (this : Nat) (l1 : Int32) (l2 : Int32) (M : Mem) : Option (Int32 × Mem) :=
  (gR M 9 4 (some this)).bind fun book1 =>
  (gR M 2 0 book1).bind fun told2 =>
  (gI M 8 0 told2).bind fun there3 =>
  (if there3 = 0 then
    (f_X9_look_J32 this M)
  else
    (cl (f_X9_isWithin l1 (nI 0) (nI 60) M) fun r4 M =>
    (if r4 = 0 then
      (f_X9_look_J32 this M)
    else
      (cl (f_X9_isWithin l2 (nI 0) (nI 1) M) fun r5 M =>
      (if r5 = 0 then
        (f_X9_look_J32 this M)
      else
        ((gR M 9 7 (some this)).bind fun asker6 =>
        (gR M 9 3 (some this)).bind fun rules7 =>
        (gI M 9 8 (some this)).bind fun ruleCount8 =>
        (oO M 0 asker6).bind fun o23 => cl (f_X0_tryRules o23 rules7 ruleCount8 l1 M) fun u9 M =>
        (gR M 9 7 (some this)).bind fun asker10 =>
        (gI M 0 0 asker10).bind fun amount11 =>
        (if amount11 = 0 then
          (f_X9_look_J73 this M)
        else
          ((gR M 9 4 (some this)).bind fun book12 =>
          (gR M 2 0 book12).bind fun told13 =>
          (gI M 8 4 told13).bind fun ships14 =>
          (if ships14 = 0 then
            (f_X9_look_J73 this M)
          else
            ((gR M 9 7 (some this)).bind fun asker15 =>
            (gI M 9 8 (some this)).bind fun ruleCount16 =>
            (oO M 0 asker15).bind fun o22 => cl (f_X0_findParting o22 ruleCount16 M) fun u17 M =>
            (if l2 = 0 then
              ((gR M 9 7 (some this)).bind fun asker20 =>
              (gI M 0 1 asker20).bind fun first21 =>
              f_X9_look_J108 this first21 M)
            else
              ((gR M 9 7 (some this)).bind fun asker18 =>
              (gI M 0 0 asker18).bind fun amount19 =>
              f_X9_look_J108 this amount19 M))))))))))))
set_option maxHeartbeats 2000000 in
set_option maxRecDepth 20000 in
theorem rm_X9_look (this : Nat) (l1 : Int32) (l2 : Int32) (M : Mem) : RFm yX9_look cX9_look 3 (some .int) 8 eI (f_X9_look this l1 l2 M) [va_rf (some this), .int l1, .int l2] M := by
  refine RFm_of (L := [(0, va_rf (some this)), (1, .int l1), (2, .int l2)]) (by decide) rfl (Nat.le_trans (c_R (c_I (c_I c_0))) (by decide)) ?_
  rw [f_X9_look]
  refine R_aloadq_n (pc' := 1) (i := 0) (j := 0) (q := (some this)) dX9_look_0 rfl rfl rfl ?_
  refine R_getR (pc' := 4) (q := (some this)) fl_X9_41 rfl dX9_look_1 rfl (fun book1 => ?_)
  refine R_getR (pc' := 7) (q := book1) fl_X9_51 rfl dX9_look_4 rfl (fun told2 => ?_)
  refine R_getI (pc' := 10) (q := told2) fl_X9_174 rfl dX9_look_7 rfl (fun there3 => ?_)
  refine R_if_eq (pc' := 13) (tgt := 32) (a := there3) dX9_look_10 (by decide) rfl ?_ ?_
  · exact R_sub [] rfl (rf_X9_look_J32 this M)
  · refine R_iload_n (pc' := 14) (i := 1) (j := 1) (x := l1) dX9_look_13 rfl rfl rfl ?_
    refine R_iconst (pc' := 15) (x := (nI 0)) dX9_look_14 rfl (by decide) ?_
    refine R_bipush (pc' := 17) (x := (nI 60)) dX9_look_15 rfl (by decide) ?_
    refine R_callS_I (pc' := 20) (As := [.int l1, .int (nI 0), .int (nI 60)]) (rm_X9_isWithin l1 (nI 0) (nI 60) M) mf_X9_isWithin lk_X9_217 sm_X9_isWithin rfl rfl dX9_look_17 rfl (by decide) (Nat.le_trans c_0 (by decide)) (fun r4 M => ?_)
    refine R_if_eq (pc' := 23) (tgt := 32) (a := r4) dX9_look_20 (by decide) rfl ?_ ?_
    · exact R_sub [] rfl (rf_X9_look_J32 this M)
    · refine R_iload_n (pc' := 24) (i := 2) (j := 2) (x := l2) dX9_look_23 rfl rfl rfl ?_
      refine R_iconst (pc' := 25) (x := (nI 0)) dX9_look_24 rfl (by decide) ?_
      refine R_iconst (pc' := 26) (x := (nI 1)) dX9_look_25 rfl (by decide) ?_
      refine R_callS_I (pc' := 29) (As := [.int l2, .int (nI 0), .int (nI 1)]) (rm_X9_isWithin l2 (nI 0) (nI 1) M) mf_X9_isWithin lk_X9_217 sm_X9_isWithin rfl rfl dX9_look_26 rfl (by decide) (Nat.le_trans c_0 (by decide)) (fun r5 M => ?_)
      refine R_if_ne (pc' := 32) (tgt := 34) (a := r5) dX9_look_29 (by decide) rfl ?_ ?_
      · refine R_aloadq_n (pc' := 35) (i := 0) (j := 0) (q := (some this)) dX9_look_34 rfl rfl rfl ?_
        refine R_getR (pc' := 38) (q := (some this)) fl_X9_67 rfl dX9_look_35 rfl (fun asker6 => ?_)
        refine R_aloadq_n (pc' := 39) (i := 0) (j := 0) (q := (some this)) dX9_look_38 rfl rfl rfl ?_
        refine R_getR (pc' := 42) (q := (some this)) fl_X9_34 rfl dX9_look_39 rfl (fun rules7 => ?_)
        refine R_aloadq_n (pc' := 43) (i := 0) (j := 0) (q := (some this)) dX9_look_42 rfl rfl rfl ?_
        refine R_getI (pc' := 46) (q := (some this)) fl_X9_71 rfl dX9_look_43 rfl (fun ruleCount8 => ?_)
        refine R_iload_n (pc' := 47) (i := 1) (j := 1) (x := l1) dX9_look_46 rfl rfl rfl ?_
        refine R_callV_V (pc' := 50) (q := asker6) (As := [va_rf rules7, .int ruleCount8, .int l1]) (fun o23 => rm_X0_tryRules o23 rules7 ruleCount8 l1 M) mf_X0_tryRules lk_X9_290 im_X0_tryRules se_X0_tryRules rfl rfl rfl dX9_look_47 rfl (by decide) (Nat.le_trans c_0 (by decide)) (fun u9 M => ?_)
        refine R_aloadq_n (pc' := 51) (i := 0) (j := 0) (q := (some this)) dX9_look_50 rfl rfl rfl ?_
        refine R_getR (pc' := 54) (q := (some this)) fl_X9_67 rfl dX9_look_51 rfl (fun asker10 => ?_)
        refine R_getI (pc' := 57) (q := asker10) fl_X9_234 rfl dX9_look_54 rfl (fun amount11 => ?_)
        refine R_if_eq (pc' := 60) (tgt := 73) (a := amount11) dX9_look_57 (by decide) rfl ?_ ?_
        · exact R_sub [] rfl (rf_X9_look_J73 this M)
        · refine R_aloadq_n (pc' := 61) (i := 0) (j := 0) (q := (some this)) dX9_look_60 rfl rfl rfl ?_
          refine R_getR (pc' := 64) (q := (some this)) fl_X9_41 rfl dX9_look_61 rfl (fun book12 => ?_)
          refine R_getR (pc' := 67) (q := book12) fl_X9_51 rfl dX9_look_64 rfl (fun told13 => ?_)
          refine R_getI (pc' := 70) (q := told13) fl_X9_90 rfl dX9_look_67 rfl (fun ships14 => ?_)
          refine R_if_ne (pc' := 73) (tgt := 76) (a := ships14) dX9_look_70 (by decide) rfl ?_ ?_
          · refine R_aloadq_n (pc' := 77) (i := 0) (j := 0) (q := (some this)) dX9_look_76 rfl rfl rfl ?_
            refine R_getR (pc' := 80) (q := (some this)) fl_X9_67 rfl dX9_look_77 rfl (fun asker15 => ?_)
            refine R_aloadq_n (pc' := 81) (i := 0) (j := 0) (q := (some this)) dX9_look_80 rfl rfl rfl ?_
            refine R_getI (pc' := 84) (q := (some this)) fl_X9_71 rfl dX9_look_81 rfl (fun ruleCount16 => ?_)
            refine R_callV_V (pc' := 87) (q := asker15) (As := [.int ruleCount16]) (fun o22 => rm_X0_findParting o22 ruleCount16 M) mf_X0_findParting lk_X9_294 im_X0_findParting se_X0_findParting rfl rfl rfl dX9_look_84 rfl (by decide) (Nat.le_trans c_0 (by decide)) (fun u17 M => ?_)
            refine R_iload_n (pc' := 88) (i := 2) (j := 2) (x := l2) dX9_look_87 rfl rfl rfl ?_
            refine R_if_ne (pc' := 91) (tgt := 101) (a := l2) dX9_look_88 (by decide) rfl ?_ ?_
            · refine R_aloadq_n (pc' := 102) (i := 0) (j := 0) (q := (some this)) dX9_look_101 rfl rfl rfl ?_
              refine R_getR (pc' := 105) (q := (some this)) fl_X9_67 rfl dX9_look_102 rfl (fun asker18 => ?_)
              refine R_getI (pc' := 108) (q := asker18) fl_X9_234 rfl dX9_look_105 rfl (fun amount19 => ?_)
              exact R_sub [] rfl (rf_X9_look_J108 this amount19 M)
            · refine R_aloadq_n (pc' := 92) (i := 0) (j := 0) (q := (some this)) dX9_look_91 rfl rfl rfl ?_
              refine R_getR (pc' := 95) (q := (some this)) fl_X9_67 rfl dX9_look_92 rfl (fun asker20 => ?_)
              refine R_getI (pc' := 98) (q := asker20) fl_X9_237 rfl dX9_look_95 rfl (fun first21 => ?_)
              refine R_goto (tgt := 108) dX9_look_98 (by decide) ?_
              exact R_sub [] rfl (rf_X9_look_J108 this first21 M)
          · exact R_sub [] rfl (rf_X9_look_J73 this M)
      · exact R_sub [] rfl (rf_X9_look_J32 this M)
/-! BarPilot.seed(I)I -/
def f_X9_seed (this : Nat) (l1 : Int32) (M : Mem) : Option (Int32 × Mem) :=
  (if 0 ≤ l1 then
    ((gR M 9 4 (some this)).bind fun book1 =>
    (gI M 2 7 book1).bind fun x2 =>
    (gR M 9 4 (some this)).bind fun book3 =>
    (pI M 2 7 book3 l1).bind fun M =>
    some (x2, M))
  else
    (some ((-1 : Int32), M)))
set_option maxHeartbeats 2000000 in
set_option maxRecDepth 20000 in
theorem rm_X9_seed (this : Nat) (l1 : Int32) (M : Mem) : RFm yX9_seed cX9_seed 3 (some .int) 1 eI (f_X9_seed this l1 M) [va_rf (some this), .int l1] M := by
  refine RFm_of (L := [(0, va_rf (some this)), (1, .int l1)]) (by decide) rfl (Nat.le_trans (c_R (c_I c_0)) (by decide)) ?_
  rw [f_X9_seed]
  refine R_iload_n (pc' := 1) (i := 1) (j := 1) (x := l1) dX9_seed_0 rfl rfl rfl ?_
  refine R_if_ge (pc' := 4) (tgt := 6) (a := l1) dX9_seed_1 (by decide) rfl ?_ ?_
  · refine R_aloadq_n (pc' := 7) (i := 0) (j := 0) (q := (some this)) dX9_seed_6 rfl rfl rfl ?_
    refine R_getR (pc' := 10) (q := (some this)) fl_X9_41 rfl dX9_seed_7 rfl (fun book1 => ?_)
    refine R_getI (pc' := 13) (q := book1) fl_X9_171 rfl dX9_seed_10 rfl (fun x2 => ?_)
    refine R_istore_n (pc' := 14) (L' := [(2, .int x2), (0, va_rf (some this)), (1, .int l1)]) (i := 2) (x := x2) dX9_seed_13 rfl rfl (by decide) rfl ?_
    refine R_aloadq_n (pc' := 15) (i := 0) (j := 1) (q := (some this)) dX9_seed_14 rfl rfl rfl ?_
    refine R_getR (pc' := 18) (q := (some this)) fl_X9_41 rfl dX9_seed_15 rfl (fun book3 => ?_)
    refine R_iload_n (pc' := 19) (i := 1) (j := 2) (x := l1) dX9_seed_18 rfl rfl rfl ?_
    refine R_putI (pc' := 22) (q := book3) (x := l1) fl_X9_171 (Or.inl rfl) dX9_seed_19 rfl (fun M => ?_)
    refine R_iload_n (pc' := 23) (i := 2) (j := 0) (x := x2) dX9_seed_22 rfl rfl rfl ?_
    exact R_iret dX9_seed_23
  · refine R_iconst (pc' := 5) (x := (-1 : Int32)) dX9_seed_4 rfl (by decide) ?_
    exact R_iret dX9_seed_5
/-! BarPilot.parrots(IIII)I -/
def f_X9_parrots_J53 (this : Nat) (M : Mem) : Option (Int32 × Mem) :=
  some ((-1 : Int32), M)
set_option maxHeartbeats 2000000 in
set_option maxRecDepth 20000 in
theorem rf_X9_parrots_J53 (this : Nat) (M : Mem) : RF yX9_parrots cX9_parrots 5 (some .int) 7 eI (f_X9_parrots_J53 this M) 53 [] [] M := by
  rw [f_X9_parrots_J53]
  refine R_iconst (pc' := 54) (x := (-1 : Int32)) dX9_parrots_53 rfl (by decide) ?_
  exact R_iret dX9_parrots_54
def f_X9_parrots_J87 (this : Nat) (s0 : Int32) (M : Mem) : Option (Int32 × Mem) :=
  some (s0, M)
set_option maxHeartbeats 2000000 in
set_option maxRecDepth 20000 in
theorem rf_X9_parrots_J87 (this : Nat) (s0 : Int32) (M : Mem) : RF yX9_parrots cX9_parrots 5 (some .int) 7 eI (f_X9_parrots_J87 this s0 M) 87 [] [.int s0] M := by
  rw [f_X9_parrots_J87]
  exact R_iret dX9_parrots_87
def f_X9_parrots (this : Nat) (l1 : Int32) (l2 : Int32) (l3 : Int32) (l4 : Int32) (M : Mem) : Option (Int32 × Mem) :=
  (gR M 9 4 (some this)).bind fun book1 =>
  (gR M 2 0 book1).bind fun told2 =>
  (gI M 8 0 told2).bind fun there3 =>
  (if there3 = 0 then
    (f_X9_parrots_J53 this M)
  else
    (cl (f_X9_isWithin l1 (nI 1) (nI 10) M) fun r4 M =>
    (if r4 = 0 then
      (f_X9_parrots_J53 this M)
    else
      (cl (f_X9_isWithin l2 (nI 1) (nI 60) M) fun r5 M =>
      (if r5 = 0 then
        (f_X9_parrots_J53 this M)
      else
        (cl (f_X9_isWithin l3 (nI 0) (nI 100) M) fun r6 M =>
        (if r6 = 0 then
          (f_X9_parrots_J53 this M)
        else
          (cl (f_X9_isWithin l4 (nI 0) (nI 1) M) fun r7 M =>
          (if r7 = 0 then
            (f_X9_parrots_J53 this M)
          else
            ((oO M 9 (some this)).bind fun o15 => cl (f_X9_asking o15 M) fun r8 M =>
            (oO M 0 r8).bind fun o14 => cl (f_X0_drawYears o14 l1 l2 l3 M) fun u9 M =>
            (if l4 = 0 then
              ((gR M 9 7 (some this)).bind fun asker12 =>
              (gI M 0 0 asker12).bind fun amount13 =>
              f_X9_parrots_J87 this amount13 M)
            else
              ((gR M 9 7 (some this)).bind fun asker10 =>
              (gI M 0 1 asker10).bind fun first11 =>
              f_X9_parrots_J87 this first11 M))))))))))))
set_option maxHeartbeats 2000000 in
set_option maxRecDepth 20000 in
theorem rm_X9_parrots (this : Nat) (l1 : Int32) (l2 : Int32) (l3 : Int32) (l4 : Int32) (M : Mem) : RFm yX9_parrots cX9_parrots 5 (some .int) 7 eI (f_X9_parrots this l1 l2 l3 l4 M) [va_rf (some this), .int l1, .int l2, .int l3, .int l4] M := by
  refine RFm_of (L := [(0, va_rf (some this)), (1, .int l1), (2, .int l2), (3, .int l3), (4, .int l4)]) (by decide) rfl (Nat.le_trans (c_R (c_I (c_I (c_I (c_I c_0))))) (by decide)) ?_
  rw [f_X9_parrots]
  refine R_aloadq_n (pc' := 1) (i := 0) (j := 0) (q := (some this)) dX9_parrots_0 rfl rfl rfl ?_
  refine R_getR (pc' := 4) (q := (some this)) fl_X9_41 rfl dX9_parrots_1 rfl (fun book1 => ?_)
  refine R_getR (pc' := 7) (q := book1) fl_X9_51 rfl dX9_parrots_4 rfl (fun told2 => ?_)
  refine R_getI (pc' := 10) (q := told2) fl_X9_174 rfl dX9_parrots_7 rfl (fun there3 => ?_)
  refine R_if_eq (pc' := 13) (tgt := 53) (a := there3) dX9_parrots_10 (by decide) rfl ?_ ?_
  · exact R_sub [] rfl (rf_X9_parrots_J53 this M)
  · refine R_iload_n (pc' := 14) (i := 1) (j := 1) (x := l1) dX9_parrots_13 rfl rfl rfl ?_
    refine R_iconst (pc' := 15) (x := (nI 1)) dX9_parrots_14 rfl (by decide) ?_
    refine R_bipush (pc' := 17) (x := (nI 10)) dX9_parrots_15 rfl (by decide) ?_
    refine R_callS_I (pc' := 20) (As := [.int l1, .int (nI 1), .int (nI 10)]) (rm_X9_isWithin l1 (nI 1) (nI 10) M) mf_X9_isWithin lk_X9_217 sm_X9_isWithin rfl rfl dX9_parrots_17 rfl (by decide) (Nat.le_trans c_0 (by decide)) (fun r4 M => ?_)
    refine R_if_eq (pc' := 23) (tgt := 53) (a := r4) dX9_parrots_20 (by decide) rfl ?_ ?_
    · exact R_sub [] rfl (rf_X9_parrots_J53 this M)
    · refine R_iload_n (pc' := 24) (i := 2) (j := 2) (x := l2) dX9_parrots_23 rfl rfl rfl ?_
      refine R_iconst (pc' := 25) (x := (nI 1)) dX9_parrots_24 rfl (by decide) ?_
      refine R_bipush (pc' := 27) (x := (nI 60)) dX9_parrots_25 rfl (by decide) ?_
      refine R_callS_I (pc' := 30) (As := [.int l2, .int (nI 1), .int (nI 60)]) (rm_X9_isWithin l2 (nI 1) (nI 60) M) mf_X9_isWithin lk_X9_217 sm_X9_isWithin rfl rfl dX9_parrots_27 rfl (by decide) (Nat.le_trans c_0 (by decide)) (fun r5 M => ?_)
      refine R_if_eq (pc' := 33) (tgt := 53) (a := r5) dX9_parrots_30 (by decide) rfl ?_ ?_
      · exact R_sub [] rfl (rf_X9_parrots_J53 this M)
      · refine R_iload_n (pc' := 34) (i := 3) (j := 3) (x := l3) dX9_parrots_33 rfl rfl rfl ?_
        refine R_iconst (pc' := 35) (x := (nI 0)) dX9_parrots_34 rfl (by decide) ?_
        refine R_bipush (pc' := 37) (x := (nI 100)) dX9_parrots_35 rfl (by decide) ?_
        refine R_callS_I (pc' := 40) (As := [.int l3, .int (nI 0), .int (nI 100)]) (rm_X9_isWithin l3 (nI 0) (nI 100) M) mf_X9_isWithin lk_X9_217 sm_X9_isWithin rfl rfl dX9_parrots_37 rfl (by decide) (Nat.le_trans c_0 (by decide)) (fun r6 M => ?_)
        refine R_if_eq (pc' := 43) (tgt := 53) (a := r6) dX9_parrots_40 (by decide) rfl ?_ ?_
        · exact R_sub [] rfl (rf_X9_parrots_J53 this M)
        · refine R_iload (pc' := 45) (i := 4) (j := 4) (x := l4) dX9_parrots_43 rfl rfl ?_
          refine R_iconst (pc' := 46) (x := (nI 0)) dX9_parrots_45 rfl (by decide) ?_
          refine R_iconst (pc' := 47) (x := (nI 1)) dX9_parrots_46 rfl (by decide) ?_
          refine R_callS_I (pc' := 50) (As := [.int l4, .int (nI 0), .int (nI 1)]) (rm_X9_isWithin l4 (nI 0) (nI 1) M) mf_X9_isWithin lk_X9_217 sm_X9_isWithin rfl rfl dX9_parrots_47 rfl (by decide) (Nat.le_trans c_0 (by decide)) (fun r7 M => ?_)
          refine R_if_ne (pc' := 53) (tgt := 55) (a := r7) dX9_parrots_50 (by decide) rfl ?_ ?_
          · refine R_aloadq_n (pc' := 56) (i := 0) (j := 0) (q := (some this)) dX9_parrots_55 rfl rfl rfl ?_
            refine R_callV_R (pc' := 59) (q := (some this)) (As := []) (fun o15 => rm_X9_asking o15 M) mf_X9_asking lk_X9_221 im_X9_asking se_X9_asking rfl rfl rfl dX9_parrots_56 rfl (by decide) (Nat.le_trans c_0 (by decide)) (fun r8 M => ?_)
            refine R_iload_n (pc' := 60) (i := 1) (j := 1) (x := l1) dX9_parrots_59 rfl rfl rfl ?_
            refine R_iload_n (pc' := 61) (i := 2) (j := 2) (x := l2) dX9_parrots_60 rfl rfl rfl ?_
            refine R_iload_n (pc' := 62) (i := 3) (j := 3) (x := l3) dX9_parrots_61 rfl rfl rfl ?_
            refine R_callV_V (pc' := 65) (q := r8) (As := [.int l1, .int l2, .int l3]) (fun o14 => rm_X0_drawYears o14 l1 l2 l3 M) mf_X0_drawYears lk_X9_297 im_X0_drawYears se_X0_drawYears rfl rfl rfl dX9_parrots_62 rfl (by decide) (Nat.le_trans c_0 (by decide)) (fun u9 M => ?_)
            refine R_iload (pc' := 67) (i := 4) (j := 4) (x := l4) dX9_parrots_65 rfl rfl ?_
            refine R_if_ne (pc' := 70) (tgt := 80) (a := l4) dX9_parrots_67 (by decide) rfl ?_ ?_
            · refine R_aloadq_n (pc' := 81) (i := 0) (j := 0) (q := (some this)) dX9_parrots_80 rfl rfl rfl ?_
              refine R_getR (pc' := 84) (q := (some this)) fl_X9_67 rfl dX9_parrots_81 rfl (fun asker10 => ?_)
              refine R_getI (pc' := 87) (q := asker10) fl_X9_237 rfl dX9_parrots_84 rfl (fun first11 => ?_)
              exact R_sub [] rfl (rf_X9_parrots_J87 this first11 M)
            · refine R_aloadq_n (pc' := 71) (i := 0) (j := 0) (q := (some this)) dX9_parrots_70 rfl rfl rfl ?_
              refine R_getR (pc' := 74) (q := (some this)) fl_X9_67 rfl dX9_parrots_71 rfl (fun asker12 => ?_)
              refine R_getI (pc' := 77) (q := asker12) fl_X9_234 rfl dX9_parrots_74 rfl (fun amount13 => ?_)
              refine R_goto (tgt := 87) dX9_parrots_77 (by decide) ?_
              exact R_sub [] rfl (rf_X9_parrots_J87 this amount13 M)
          · exact R_sub [] rfl (rf_X9_parrots_J53 this M)
/-! BarPilot.image(I)I -/
def f_X9_image_J33 (this : Nat) (l1 : Int32) (M : Mem) : Option (Int32 × Mem) :=
  (gR M 9 5 (some this)).bind fun images1 =>
  (aR M 5 images1 l1).bind fun e2 =>
  (gR M 9 4 (some this)).bind fun book3 =>
  (oO M 2 e2).bind fun o8 => cl (f_X2_copyFrom o8 book3 M) fun u4 M =>
  (gR M 9 4 (some this)).bind fun book5 =>
  (gR M 2 1 book5).bind fun scene6 =>
  (gI M 6 0 scene6).bind fun tide7 =>
  some (tide7, M)
set_option maxHeartbeats 2000000 in
set_option maxRecDepth 20000 in
theorem rf_X9_image_J33 (this : Nat) (l1 : Int32) (M : Mem) : RF yX9_image cX9_image 2 (some .int) 4 eI (f_X9_image_J33 this l1 M) 33 [(0, va_rf (some this)), (1, .int l1)] [] M := by
  rw [f_X9_image_J33]
  refine R_aloadq_n (pc' := 34) (i := 0) (j := 0) (q := (some this)) dX9_image_33 rfl rfl rfl ?_
  refine R_getR (pc' := 37) (q := (some this)) fl_X9_45 rfl dX9_image_34 rfl (fun images1 => ?_)
  refine R_iload_n (pc' := 38) (i := 1) (j := 1) (x := l1) dX9_image_37 rfl rfl rfl ?_
  refine R_aald (pc' := 39) (q := images1) (i := l1) (by decide) rfl dX9_image_38 rfl (fun e2 => ?_)
  refine R_aloadq_n (pc' := 40) (i := 0) (j := 0) (q := (some this)) dX9_image_39 rfl rfl rfl ?_
  refine R_getR (pc' := 43) (q := (some this)) fl_X9_41 rfl dX9_image_40 rfl (fun book3 => ?_)
  refine R_callV_V (pc' := 46) (q := e2) (As := [va_rf book3]) (fun o8 => rm_X2_copyFrom o8 book3 M) mf_X2_copyFrom lk_X9_300 im_X2_copyFrom se_X2_copyFrom rfl rfl rfl dX9_image_43 rfl (by decide) (Nat.le_trans c_0 (by decide)) (fun u4 M => ?_)
  refine R_aloadq_n (pc' := 47) (i := 0) (j := 0) (q := (some this)) dX9_image_46 rfl rfl rfl ?_
  refine R_getR (pc' := 50) (q := (some this)) fl_X9_41 rfl dX9_image_47 rfl (fun book5 => ?_)
  refine R_getR (pc' := 53) (q := book5) fl_X9_110 rfl dX9_image_50 rfl (fun scene6 => ?_)
  refine R_getI (pc' := 56) (q := scene6) fl_X9_156 rfl dX9_image_53 rfl (fun tide7 => ?_)
  exact R_iret dX9_image_56
def f_X9_image (this : Nat) (l1 : Int32) (M : Mem) : Option (Int32 × Mem) :=
  cl (f_X9_isWithin l1 (nI 0) (nI 3) M) fun r1 M =>
  (if r1 = 0 then
    (some ((-1 : Int32), M))
  else
    ((gR M 9 5 (some this)).bind fun images2 =>
    (aR M 5 images2 l1).bind fun e3 =>
    (if e3 = none then
      ((gR M 9 5 (some this)).bind fun images4 =>
      newO M 2 fun a5 M =>
      cl (f_X2_init a5 M) fun u6 M =>
      (wR M 5 2 images4 l1 (some a5)).bind fun M =>
      f_X9_image_J33 this l1 M)
    else
      (f_X9_image_J33 this l1 M))))
set_option maxHeartbeats 2000000 in
set_option maxRecDepth 20000 in
theorem rm_X9_image (this : Nat) (l1 : Int32) (M : Mem) : RFm yX9_image cX9_image 2 (some .int) 4 eI (f_X9_image this l1 M) [va_rf (some this), .int l1] M := by
  refine RFm_of (L := [(0, va_rf (some this)), (1, .int l1)]) (by decide) rfl (Nat.le_trans (c_R (c_I c_0)) (by decide)) ?_
  rw [f_X9_image]
  refine R_iload_n (pc' := 1) (i := 1) (j := 1) (x := l1) dX9_image_0 rfl rfl rfl ?_
  refine R_iconst (pc' := 2) (x := (nI 0)) dX9_image_1 rfl (by decide) ?_
  refine R_iconst (pc' := 3) (x := (nI 3)) dX9_image_2 rfl (by decide) ?_
  refine R_callS_I (pc' := 6) (As := [.int l1, .int (nI 0), .int (nI 3)]) (rm_X9_isWithin l1 (nI 0) (nI 3) M) mf_X9_isWithin lk_X9_217 sm_X9_isWithin rfl rfl dX9_image_3 rfl (by decide) (Nat.le_trans c_0 (by decide)) (fun r1 M => ?_)
  refine R_if_ne (pc' := 9) (tgt := 11) (a := r1) dX9_image_6 (by decide) rfl ?_ ?_
  · refine R_aloadq_n (pc' := 12) (i := 0) (j := 0) (q := (some this)) dX9_image_11 rfl rfl rfl ?_
    refine R_getR (pc' := 15) (q := (some this)) fl_X9_45 rfl dX9_image_12 rfl (fun images2 => ?_)
    refine R_iload_n (pc' := 16) (i := 1) (j := 1) (x := l1) dX9_image_15 rfl rfl rfl ?_
    refine R_aald (pc' := 17) (q := images2) (i := l1) (by decide) rfl dX9_image_16 rfl (fun e3 => ?_)
    refine R_ifnonnull (pc' := 20) (tgt := 33) (q := e3) dX9_image_17 (by decide) rfl ?_ ?_
    · exact R_sub [0, 1] rfl (rf_X9_image_J33 this l1 M)
    · refine R_aloadq_n (pc' := 21) (i := 0) (j := 0) (q := (some this)) dX9_image_20 rfl rfl rfl ?_
      refine R_getR (pc' := 24) (q := (some this)) fl_X9_45 rfl dX9_image_21 rfl (fun images4 => ?_)
      refine R_iload_n (pc' := 25) (i := 1) (j := 1) (x := l1) dX9_image_24 rfl rfl rfl ?_
      refine R_new (pc' := 28) cl_X2 ck_X9_38 dX9_image_25 rfl (fun a5 M => ?_)
      refine R_dup (pc' := 29) dX9_image_28 rfl (rf_cat _) ?_
      refine R_callIN_V (pc' := 32) (a := a5) (As := []) (host := "BarPilot") (rm_X2_init a5 M) mf_X2_init (fun _ h => h.1.2.2.1) im_X2_init rfl rfl rfl dX9_image_29 rfl (by decide) (Nat.le_trans (c_R (c_I (c_R c_0))) (by decide)) (fun u6 M => ?_)
      refine R_aast (pc' := 33) (q := images4) (i := l1) (v := (some a5)) (by decide) rfl rfl dX9_image_32 rfl (fun M => ?_)
      exact R_sub [0, 1] rfl (rf_X9_image_J33 this l1 M)
  · refine R_iconst (pc' := 10) (x := (-1 : Int32)) dX9_image_9 rfl (by decide) ?_
    exact R_iret dX9_image_10
/-! BarPilot.back(I)I -/
def f_X9_back_J18 (this : Nat) (M : Mem) : Option (Int32 × Mem) :=
  some ((-1 : Int32), M)
set_option maxHeartbeats 2000000 in
set_option maxRecDepth 20000 in
theorem rf_X9_back_J18 (this : Nat) (M : Mem) : RF yX9_back cX9_back 2 (some .int) 3 eI (f_X9_back_J18 this M) 18 [] [] M := by
  rw [f_X9_back_J18]
  refine R_iconst (pc' := 19) (x := (-1 : Int32)) dX9_back_18 rfl (by decide) ?_
  exact R_iret dX9_back_19
def f_X9_back (this : Nat) (l1 : Int32) (M : Mem) : Option (Int32 × Mem) :=
  cl (f_X9_isWithin l1 (nI 0) (nI 3) M) fun r1 M =>
  (if r1 = 0 then
    (f_X9_back_J18 this M)
  else
    ((gR M 9 5 (some this)).bind fun images2 =>
    (aR M 5 images2 l1).bind fun e3 =>
    (if e3 = none then
      (f_X9_back_J18 this M)
    else
      ((gR M 9 4 (some this)).bind fun book4 =>
      (gR M 9 5 (some this)).bind fun images5 =>
      (aR M 5 images5 l1).bind fun e6 =>
      (oO M 2 book4).bind fun o11 => cl (f_X2_copyFrom o11 e6 M) fun u7 M =>
      (gR M 9 4 (some this)).bind fun book8 =>
      (gR M 2 1 book8).bind fun scene9 =>
      (gI M 6 0 scene9).bind fun tide10 =>
      some (tide10, M)))))
set_option maxHeartbeats 2000000 in
set_option maxRecDepth 20000 in
theorem rm_X9_back (this : Nat) (l1 : Int32) (M : Mem) : RFm yX9_back cX9_back 2 (some .int) 3 eI (f_X9_back this l1 M) [va_rf (some this), .int l1] M := by
  refine RFm_of (L := [(0, va_rf (some this)), (1, .int l1)]) (by decide) rfl (Nat.le_trans (c_R (c_I c_0)) (by decide)) ?_
  rw [f_X9_back]
  refine R_iload_n (pc' := 1) (i := 1) (j := 1) (x := l1) dX9_back_0 rfl rfl rfl ?_
  refine R_iconst (pc' := 2) (x := (nI 0)) dX9_back_1 rfl (by decide) ?_
  refine R_iconst (pc' := 3) (x := (nI 3)) dX9_back_2 rfl (by decide) ?_
  refine R_callS_I (pc' := 6) (As := [.int l1, .int (nI 0), .int (nI 3)]) (rm_X9_isWithin l1 (nI 0) (nI 3) M) mf_X9_isWithin lk_X9_217 sm_X9_isWithin rfl rfl dX9_back_3 rfl (by decide) (Nat.le_trans c_0 (by decide)) (fun r1 M => ?_)
  refine R_if_eq (pc' := 9) (tgt := 18) (a := r1) dX9_back_6 (by decide) rfl ?_ ?_
  · exact R_sub [] rfl (rf_X9_back_J18 this M)
  · refine R_aloadq_n (pc' := 10) (i := 0) (j := 0) (q := (some this)) dX9_back_9 rfl rfl rfl ?_
    refine R_getR (pc' := 13) (q := (some this)) fl_X9_45 rfl dX9_back_10 rfl (fun images2 => ?_)
    refine R_iload_n (pc' := 14) (i := 1) (j := 1) (x := l1) dX9_back_13 rfl rfl rfl ?_
    refine R_aald (pc' := 15) (q := images2) (i := l1) (by decide) rfl dX9_back_14 rfl (fun e3 => ?_)
    refine R_ifnonnull (pc' := 18) (tgt := 20) (q := e3) dX9_back_15 (by decide) rfl ?_ ?_
    · refine R_aloadq_n (pc' := 21) (i := 0) (j := 0) (q := (some this)) dX9_back_20 rfl rfl rfl ?_
      refine R_getR (pc' := 24) (q := (some this)) fl_X9_41 rfl dX9_back_21 rfl (fun book4 => ?_)
      refine R_aloadq_n (pc' := 25) (i := 0) (j := 0) (q := (some this)) dX9_back_24 rfl rfl rfl ?_
      refine R_getR (pc' := 28) (q := (some this)) fl_X9_45 rfl dX9_back_25 rfl (fun images5 => ?_)
      refine R_iload_n (pc' := 29) (i := 1) (j := 1) (x := l1) dX9_back_28 rfl rfl rfl ?_
      refine R_aald (pc' := 30) (q := images5) (i := l1) (by decide) rfl dX9_back_29 rfl (fun e6 => ?_)
      refine R_callV_V (pc' := 33) (q := book4) (As := [va_rf e6]) (fun o11 => rm_X2_copyFrom o11 e6 M) mf_X2_copyFrom lk_X9_300 im_X2_copyFrom se_X2_copyFrom rfl rfl rfl dX9_back_30 rfl (by decide) (Nat.le_trans c_0 (by decide)) (fun u7 M => ?_)
      refine R_aloadq_n (pc' := 34) (i := 0) (j := 0) (q := (some this)) dX9_back_33 rfl rfl rfl ?_
      refine R_getR (pc' := 37) (q := (some this)) fl_X9_41 rfl dX9_back_34 rfl (fun book8 => ?_)
      refine R_getR (pc' := 40) (q := book8) fl_X9_110 rfl dX9_back_37 rfl (fun scene9 => ?_)
      refine R_getI (pc' := 43) (q := scene9) fl_X9_156 rfl dX9_back_40 rfl (fun tide10 => ?_)
      exact R_iret dX9_back_43
    · exact R_sub [] rfl (rf_X9_back_J18 this M)
/-! BarPilotModel.<init>()V -/
def f_X10_init (this : Nat) (M : Mem) : Option (Unit × Mem) :=
  newA M 0 (nI 9) fun a1 M =>
  (wI M 0 (some a1) (nI 0) (nI 0)).bind fun M =>
  (wI M 0 (some a1) (nI 1) (nI 0)).bind fun M =>
  (wI M 0 (some a1) (nI 2) (nI 0)).bind fun M =>
  (wI M 0 (some a1) (nI 3) (nI 0)).bind fun M =>
  (wI M 0 (some a1) (nI 4) (nI 0)).bind fun M =>
  (wI M 0 (some a1) (nI 5) (nI 0)).bind fun M =>
  (wI M 0 (some a1) (nI 6) (nI 0)).bind fun M =>
  (wI M 0 (some a1) (nI 7) (nI 0)).bind fun M =>
  (wI M 0 (some a1) (nI 8) (-1 : Int32)).bind fun M =>
  (pR M 10 1 (some this) (some a1)).bind fun M =>
  newA M 0 (nI 24) fun a2 M =>
  (pR M 10 2 (some this) (some a2)).bind fun M =>
  newA M 0 (nI 5) fun a3 M =>
  (pR M 10 3 (some this) (some a3)).bind fun M =>
  newA M 0 (nI 5) fun a4 M =>
  (pR M 10 4 (some this) (some a4)).bind fun M =>
  newA M 0 (nI 8) fun a5 M =>
  (pR M 10 5 (some this) (some a5)).bind fun M =>
  newA M 0 (nI 5) fun a6 M =>
  (pR M 10 6 (some this) (some a6)).bind fun M =>
  newA M 0 (nI 5) fun a7 M =>
  (pR M 10 7 (some this) (some a7)).bind fun M =>
  newA M 0 (nI 10) fun a8 M =>
  (pR M 10 8 (some this) (some a8)).bind fun M =>
  newA M 0 (nI 10) fun a9 M =>
  (pR M 10 9 (some this) (some a9)).bind fun M =>
  newA M 0 (nI 10) fun a10 M =>
  (pR M 10 10 (some this) (some a10)).bind fun M =>
  newA M 0 (nI 5) fun a11 M =>
  (pR M 10 11 (some this) (some a11)).bind fun M =>
  newA M 0 (nI 4) fun a12 M =>
  (pR M 10 12 (some this) (some a12)).bind fun M =>
  newA M 0 (nI 24) fun a13 M =>
  (pR M 10 13 (some this) (some a13)).bind fun M =>
  newA M 0 (nI 5) fun a14 M =>
  (pR M 10 14 (some this) (some a14)).bind fun M =>
  newA M 0 (nI 5) fun a15 M =>
  (pR M 10 15 (some this) (some a15)).bind fun M =>
  newA M 0 (nI 5) fun a16 M =>
  (pR M 10 16 (some this) (some a16)).bind fun M =>
  (pI M 10 26 (some this) (nI 11)).bind fun M =>
  newA M 1 (nI 400) fun a17 M =>
  (pR M 10 27 (some this) (some a17)).bind fun M =>
  newA M 0 (nI 1800) fun a18 M =>
  (pR M 10 28 (some this) (some a18)).bind fun M =>
  newA M 0 (nI 1800) fun a19 M =>
  (pR M 10 29 (some this) (some a19)).bind fun M =>
  newA M 0 (nI 6) fun a20 M =>
  (pR M 10 30 (some this) (some a20)).bind fun M =>
  newA M 0 (nI 72) fun a21 M =>
  (pR M 10 31 (some this) (some a21)).bind fun M =>
  newA M 0 (nI 72) fun a22 M =>
  (pR M 10 32 (some this) (some a22)).bind fun M =>
  newA M 0 (nI 72) fun a23 M =>
  (pR M 10 33 (some this) (some a23)).bind fun M =>
  newA M 0 (nI 402) fun a24 M =>
  (pR M 10 34 (some this) (some a24)).bind fun M =>
  newA M 3 (nI 11) fun a25 M =>
  (pR M 10 35 (some this) (some a25)).bind fun M =>
  newA M 3 (nI 300) fun a26 M =>
  (pR M 10 36 (some this) (some a26)).bind fun M =>
  newA M 0 (nI 5) fun a27 M =>
  (pR M 10 37 (some this) (some a27)).bind fun M =>
  (pI M 10 38 (some this) (-1 : Int32)).bind fun M =>
  newA M 0 (nI 400) fun a28 M =>
  (pR M 10 40 (some this) (some a28)).bind fun M =>
  newA M 0 (nI 1) fun a29 M =>
  (pR M 10 41 (some this) (some a29)).bind fun M =>
  newA M 0 (nI 4) fun a30 M =>
  (pR M 10 45 (some this) (some a30)).bind fun M =>
  newA M 0 (nI 4) fun a31 M =>
  (pR M 10 46 (some this) (some a31)).bind fun M =>
  newA M 0 (nI 729) fun a32 M =>
  (pR M 10 47 (some this) (some a32)).bind fun M =>
  newA M 0 (nI 305) fun a33 M =>
  (pR M 10 48 (some this) (some a33)).bind fun M =>
  newA M 0 (nI 35) fun a34 M =>
  (pR M 10 49 (some this) (some a34)).bind fun M =>
  newA M 0 (nI 3000) fun a35 M =>
  (pR M 10 50 (some this) (some a35)).bind fun M =>
  newA M 2 (nI 4) fun a36 M =>
  (pR M 10 51 (some this) (some a36)).bind fun M =>
  some ((), M)
set_option maxHeartbeats 2000000 in
set_option maxRecDepth 20000 in
theorem rm_X10_init (this : Nat) (M : Mem) : RFm yX10_init cX10_init 1 none 1 eV (f_X10_init this M) [va_rf (some this)] M := by
  refine RFm_of (L := [(0, va_rf (some this))]) (by decide) rfl (Nat.le_trans (c_R c_0) (by decide)) ?_
  rw [f_X10_init]
  refine R_aloadq_n (pc' := 1) (i := 0) (j := 0) (q := (some this)) dX10_init_0 rfl rfl rfl ?_
  refine R_objInit (pc' := 4) (a := this) lko_X10_3 ob_in ob_co dX10_init_1 rfl (by decide) (Nat.le_trans c_0 (by decide)) ?_
  refine R_aloadq_n (pc' := 5) (i := 0) (j := 0) (q := (some this)) dX10_init_4 rfl rfl rfl ?_
  refine R_bipush (pc' := 7) (x := (nI 9)) dX10_init_5 rfl (by decide) ?_
  refine R_newa (pc' := 9) (at0 := .int) (ty := .int) (t := 0) (n := (nI 9)) rfl rfl (by decide) ac_int (by decide) rfl dX10_init_7 rfl (fun a1 M => ?_)
  refine R_dup (pc' := 10) dX10_init_9 rfl (rf_cat _) ?_
  refine R_iconst (pc' := 11) (x := (nI 0)) dX10_init_10 rfl (by decide) ?_
  refine R_iconst (pc' := 12) (x := (nI 0)) dX10_init_11 rfl (by decide) ?_
  refine R_iast (pc' := 13) (q := (some a1)) (i := (nI 0)) (x := (nI 0)) dX10_init_12 rfl (fun M => ?_)
  refine R_dup (pc' := 14) dX10_init_13 rfl (rf_cat _) ?_
  refine R_iconst (pc' := 15) (x := (nI 1)) dX10_init_14 rfl (by decide) ?_
  refine R_iconst (pc' := 16) (x := (nI 0)) dX10_init_15 rfl (by decide) ?_
  refine R_iast (pc' := 17) (q := (some a1)) (i := (nI 1)) (x := (nI 0)) dX10_init_16 rfl (fun M => ?_)
  refine R_dup (pc' := 18) dX10_init_17 rfl (rf_cat _) ?_
  refine R_iconst (pc' := 19) (x := (nI 2)) dX10_init_18 rfl (by decide) ?_
  refine R_iconst (pc' := 20) (x := (nI 0)) dX10_init_19 rfl (by decide) ?_
  refine R_iast (pc' := 21) (q := (some a1)) (i := (nI 2)) (x := (nI 0)) dX10_init_20 rfl (fun M => ?_)
  refine R_dup (pc' := 22) dX10_init_21 rfl (rf_cat _) ?_
  refine R_iconst (pc' := 23) (x := (nI 3)) dX10_init_22 rfl (by decide) ?_
  refine R_iconst (pc' := 24) (x := (nI 0)) dX10_init_23 rfl (by decide) ?_
  refine R_iast (pc' := 25) (q := (some a1)) (i := (nI 3)) (x := (nI 0)) dX10_init_24 rfl (fun M => ?_)
  refine R_dup (pc' := 26) dX10_init_25 rfl (rf_cat _) ?_
  refine R_iconst (pc' := 27) (x := (nI 4)) dX10_init_26 rfl (by decide) ?_
  refine R_iconst (pc' := 28) (x := (nI 0)) dX10_init_27 rfl (by decide) ?_
  refine R_iast (pc' := 29) (q := (some a1)) (i := (nI 4)) (x := (nI 0)) dX10_init_28 rfl (fun M => ?_)
  refine R_dup (pc' := 30) dX10_init_29 rfl (rf_cat _) ?_
  refine R_iconst (pc' := 31) (x := (nI 5)) dX10_init_30 rfl (by decide) ?_
  refine R_iconst (pc' := 32) (x := (nI 0)) dX10_init_31 rfl (by decide) ?_
  refine R_iast (pc' := 33) (q := (some a1)) (i := (nI 5)) (x := (nI 0)) dX10_init_32 rfl (fun M => ?_)
  refine R_dup (pc' := 34) dX10_init_33 rfl (rf_cat _) ?_
  refine R_bipush (pc' := 36) (x := (nI 6)) dX10_init_34 rfl (by decide) ?_
  refine R_iconst (pc' := 37) (x := (nI 0)) dX10_init_36 rfl (by decide) ?_
  refine R_iast (pc' := 38) (q := (some a1)) (i := (nI 6)) (x := (nI 0)) dX10_init_37 rfl (fun M => ?_)
  refine R_dup (pc' := 39) dX10_init_38 rfl (rf_cat _) ?_
  refine R_bipush (pc' := 41) (x := (nI 7)) dX10_init_39 rfl (by decide) ?_
  refine R_iconst (pc' := 42) (x := (nI 0)) dX10_init_41 rfl (by decide) ?_
  refine R_iast (pc' := 43) (q := (some a1)) (i := (nI 7)) (x := (nI 0)) dX10_init_42 rfl (fun M => ?_)
  refine R_dup (pc' := 44) dX10_init_43 rfl (rf_cat _) ?_
  refine R_bipush (pc' := 46) (x := (nI 8)) dX10_init_44 rfl (by decide) ?_
  refine R_iconst (pc' := 47) (x := (-1 : Int32)) dX10_init_46 rfl (by decide) ?_
  refine R_iast (pc' := 48) (q := (some a1)) (i := (nI 8)) (x := (-1 : Int32)) dX10_init_47 rfl (fun M => ?_)
  refine R_putR (pc' := 51) (q := (some this)) (x := (some a1)) fl_X10_9 rfl (Or.inr ⟨rfl, rfl⟩) dX10_init_48 rfl (fun M => ?_)
  refine R_aloadq_n (pc' := 52) (i := 0) (j := 0) (q := (some this)) dX10_init_51 rfl rfl rfl ?_
  refine R_bipush (pc' := 54) (x := (nI 24)) dX10_init_52 rfl (by decide) ?_
  refine R_newa (pc' := 56) (at0 := .int) (ty := .int) (t := 0) (n := (nI 24)) rfl rfl (by decide) ac_int (by decide) rfl dX10_init_54 rfl (fun a2 M => ?_)
  refine R_putR (pc' := 59) (q := (some this)) (x := (some a2)) fl_X10_13 rfl (Or.inr ⟨rfl, rfl⟩) dX10_init_56 rfl (fun M => ?_)
  refine R_aloadq_n (pc' := 60) (i := 0) (j := 0) (q := (some this)) dX10_init_59 rfl rfl rfl ?_
  refine R_iconst (pc' := 61) (x := (nI 5)) dX10_init_60 rfl (by decide) ?_
  refine R_newa (pc' := 63) (at0 := .int) (ty := .int) (t := 0) (n := (nI 5)) rfl rfl (by decide) ac_int (by decide) rfl dX10_init_61 rfl (fun a3 M => ?_)
  refine R_putR (pc' := 66) (q := (some this)) (x := (some a3)) fl_X10_16 rfl (Or.inr ⟨rfl, rfl⟩) dX10_init_63 rfl (fun M => ?_)
  refine R_aloadq_n (pc' := 67) (i := 0) (j := 0) (q := (some this)) dX10_init_66 rfl rfl rfl ?_
  refine R_iconst (pc' := 68) (x := (nI 5)) dX10_init_67 rfl (by decide) ?_
  refine R_newa (pc' := 70) (at0 := .int) (ty := .int) (t := 0) (n := (nI 5)) rfl rfl (by decide) ac_int (by decide) rfl dX10_init_68 rfl (fun a4 M => ?_)
  refine R_putR (pc' := 73) (q := (some this)) (x := (some a4)) fl_X10_19 rfl (Or.inr ⟨rfl, rfl⟩) dX10_init_70 rfl (fun M => ?_)
  refine R_aloadq_n (pc' := 74) (i := 0) (j := 0) (q := (some this)) dX10_init_73 rfl rfl rfl ?_
  refine R_bipush (pc' := 76) (x := (nI 8)) dX10_init_74 rfl (by decide) ?_
  refine R_newa (pc' := 78) (at0 := .int) (ty := .int) (t := 0) (n := (nI 8)) rfl rfl (by decide) ac_int (by decide) rfl dX10_init_76 rfl (fun a5 M => ?_)
  refine R_putR (pc' := 81) (q := (some this)) (x := (some a5)) fl_X10_22 rfl (Or.inr ⟨rfl, rfl⟩) dX10_init_78 rfl (fun M => ?_)
  refine R_aloadq_n (pc' := 82) (i := 0) (j := 0) (q := (some this)) dX10_init_81 rfl rfl rfl ?_
  refine R_iconst (pc' := 83) (x := (nI 5)) dX10_init_82 rfl (by decide) ?_
  refine R_newa (pc' := 85) (at0 := .int) (ty := .int) (t := 0) (n := (nI 5)) rfl rfl (by decide) ac_int (by decide) rfl dX10_init_83 rfl (fun a6 M => ?_)
  refine R_putR (pc' := 88) (q := (some this)) (x := (some a6)) fl_X10_25 rfl (Or.inr ⟨rfl, rfl⟩) dX10_init_85 rfl (fun M => ?_)
  refine R_aloadq_n (pc' := 89) (i := 0) (j := 0) (q := (some this)) dX10_init_88 rfl rfl rfl ?_
  refine R_iconst (pc' := 90) (x := (nI 5)) dX10_init_89 rfl (by decide) ?_
  refine R_newa (pc' := 92) (at0 := .int) (ty := .int) (t := 0) (n := (nI 5)) rfl rfl (by decide) ac_int (by decide) rfl dX10_init_90 rfl (fun a7 M => ?_)
  refine R_putR (pc' := 95) (q := (some this)) (x := (some a7)) fl_X10_28 rfl (Or.inr ⟨rfl, rfl⟩) dX10_init_92 rfl (fun M => ?_)
  refine R_aloadq_n (pc' := 96) (i := 0) (j := 0) (q := (some this)) dX10_init_95 rfl rfl rfl ?_
  refine R_bipush (pc' := 98) (x := (nI 10)) dX10_init_96 rfl (by decide) ?_
  refine R_newa (pc' := 100) (at0 := .int) (ty := .int) (t := 0) (n := (nI 10)) rfl rfl (by decide) ac_int (by decide) rfl dX10_init_98 rfl (fun a8 M => ?_)
  refine R_putR (pc' := 103) (q := (some this)) (x := (some a8)) fl_X10_31 rfl (Or.inr ⟨rfl, rfl⟩) dX10_init_100 rfl (fun M => ?_)
  refine R_aloadq_n (pc' := 104) (i := 0) (j := 0) (q := (some this)) dX10_init_103 rfl rfl rfl ?_
  refine R_bipush (pc' := 106) (x := (nI 10)) dX10_init_104 rfl (by decide) ?_
  refine R_newa (pc' := 108) (at0 := .int) (ty := .int) (t := 0) (n := (nI 10)) rfl rfl (by decide) ac_int (by decide) rfl dX10_init_106 rfl (fun a9 M => ?_)
  refine R_putR (pc' := 111) (q := (some this)) (x := (some a9)) fl_X10_34 rfl (Or.inr ⟨rfl, rfl⟩) dX10_init_108 rfl (fun M => ?_)
  refine R_aloadq_n (pc' := 112) (i := 0) (j := 0) (q := (some this)) dX10_init_111 rfl rfl rfl ?_
  refine R_bipush (pc' := 114) (x := (nI 10)) dX10_init_112 rfl (by decide) ?_
  refine R_newa (pc' := 116) (at0 := .int) (ty := .int) (t := 0) (n := (nI 10)) rfl rfl (by decide) ac_int (by decide) rfl dX10_init_114 rfl (fun a10 M => ?_)
  refine R_putR (pc' := 119) (q := (some this)) (x := (some a10)) fl_X10_37 rfl (Or.inr ⟨rfl, rfl⟩) dX10_init_116 rfl (fun M => ?_)
  refine R_aloadq_n (pc' := 120) (i := 0) (j := 0) (q := (some this)) dX10_init_119 rfl rfl rfl ?_
  refine R_iconst (pc' := 121) (x := (nI 5)) dX10_init_120 rfl (by decide) ?_
  refine R_newa (pc' := 123) (at0 := .int) (ty := .int) (t := 0) (n := (nI 5)) rfl rfl (by decide) ac_int (by decide) rfl dX10_init_121 rfl (fun a11 M => ?_)
  refine R_putR (pc' := 126) (q := (some this)) (x := (some a11)) fl_X10_40 rfl (Or.inr ⟨rfl, rfl⟩) dX10_init_123 rfl (fun M => ?_)
  refine R_aloadq_n (pc' := 127) (i := 0) (j := 0) (q := (some this)) dX10_init_126 rfl rfl rfl ?_
  refine R_iconst (pc' := 128) (x := (nI 4)) dX10_init_127 rfl (by decide) ?_
  refine R_newa (pc' := 130) (at0 := .int) (ty := .int) (t := 0) (n := (nI 4)) rfl rfl (by decide) ac_int (by decide) rfl dX10_init_128 rfl (fun a12 M => ?_)
  refine R_putR (pc' := 133) (q := (some this)) (x := (some a12)) fl_X10_43 rfl (Or.inr ⟨rfl, rfl⟩) dX10_init_130 rfl (fun M => ?_)
  refine R_aloadq_n (pc' := 134) (i := 0) (j := 0) (q := (some this)) dX10_init_133 rfl rfl rfl ?_
  refine R_bipush (pc' := 136) (x := (nI 24)) dX10_init_134 rfl (by decide) ?_
  refine R_newa (pc' := 138) (at0 := .int) (ty := .int) (t := 0) (n := (nI 24)) rfl rfl (by decide) ac_int (by decide) rfl dX10_init_136 rfl (fun a13 M => ?_)
  refine R_putR (pc' := 141) (q := (some this)) (x := (some a13)) fl_X10_46 rfl (Or.inr ⟨rfl, rfl⟩) dX10_init_138 rfl (fun M => ?_)
  refine R_aloadq_n (pc' := 142) (i := 0) (j := 0) (q := (some this)) dX10_init_141 rfl rfl rfl ?_
  refine R_iconst (pc' := 143) (x := (nI 5)) dX10_init_142 rfl (by decide) ?_
  refine R_newa (pc' := 145) (at0 := .int) (ty := .int) (t := 0) (n := (nI 5)) rfl rfl (by decide) ac_int (by decide) rfl dX10_init_143 rfl (fun a14 M => ?_)
  refine R_putR (pc' := 148) (q := (some this)) (x := (some a14)) fl_X10_49 rfl (Or.inr ⟨rfl, rfl⟩) dX10_init_145 rfl (fun M => ?_)
  refine R_aloadq_n (pc' := 149) (i := 0) (j := 0) (q := (some this)) dX10_init_148 rfl rfl rfl ?_
  refine R_iconst (pc' := 150) (x := (nI 5)) dX10_init_149 rfl (by decide) ?_
  refine R_newa (pc' := 152) (at0 := .int) (ty := .int) (t := 0) (n := (nI 5)) rfl rfl (by decide) ac_int (by decide) rfl dX10_init_150 rfl (fun a15 M => ?_)
  refine R_putR (pc' := 155) (q := (some this)) (x := (some a15)) fl_X10_52 rfl (Or.inr ⟨rfl, rfl⟩) dX10_init_152 rfl (fun M => ?_)
  refine R_aloadq_n (pc' := 156) (i := 0) (j := 0) (q := (some this)) dX10_init_155 rfl rfl rfl ?_
  refine R_iconst (pc' := 157) (x := (nI 5)) dX10_init_156 rfl (by decide) ?_
  refine R_newa (pc' := 159) (at0 := .int) (ty := .int) (t := 0) (n := (nI 5)) rfl rfl (by decide) ac_int (by decide) rfl dX10_init_157 rfl (fun a16 M => ?_)
  refine R_putR (pc' := 162) (q := (some this)) (x := (some a16)) fl_X10_55 rfl (Or.inr ⟨rfl, rfl⟩) dX10_init_159 rfl (fun M => ?_)
  refine R_aloadq_n (pc' := 163) (i := 0) (j := 0) (q := (some this)) dX10_init_162 rfl rfl rfl ?_
  refine R_bipush (pc' := 165) (x := (nI 11)) dX10_init_163 rfl (by decide) ?_
  refine R_putI (pc' := 168) (q := (some this)) (x := (nI 11)) fl_X10_58 (Or.inl rfl) dX10_init_165 rfl (fun M => ?_)
  refine R_aloadq_n (pc' := 169) (i := 0) (j := 0) (q := (some this)) dX10_init_168 rfl rfl rfl ?_
  refine R_sipush (pc' := 172) (x := (nI 400)) dX10_init_169 rfl (by decide) ?_
  refine R_newa (pc' := 174) (at0 := .byte) (ty := .byte) (t := 1) (n := (nI 400)) rfl rfl (by decide) ac_byte (by decide) rfl dX10_init_172 rfl (fun a17 M => ?_)
  refine R_putR (pc' := 177) (q := (some this)) (x := (some a17)) fl_X10_62 rfl (Or.inr ⟨rfl, rfl⟩) dX10_init_174 rfl (fun M => ?_)
  refine R_aloadq_n (pc' := 178) (i := 0) (j := 0) (q := (some this)) dX10_init_177 rfl rfl rfl ?_
  refine R_sipush (pc' := 181) (x := (nI 1800)) dX10_init_178 rfl (by decide) ?_
  refine R_newa (pc' := 183) (at0 := .int) (ty := .int) (t := 0) (n := (nI 1800)) rfl rfl (by decide) ac_int (by decide) rfl dX10_init_181 rfl (fun a18 M => ?_)
  refine R_putR (pc' := 186) (q := (some this)) (x := (some a18)) fl_X10_66 rfl (Or.inr ⟨rfl, rfl⟩) dX10_init_183 rfl (fun M => ?_)
  refine R_aloadq_n (pc' := 187) (i := 0) (j := 0) (q := (some this)) dX10_init_186 rfl rfl rfl ?_
  refine R_sipush (pc' := 190) (x := (nI 1800)) dX10_init_187 rfl (by decide) ?_
  refine R_newa (pc' := 192) (at0 := .int) (ty := .int) (t := 0) (n := (nI 1800)) rfl rfl (by decide) ac_int (by decide) rfl dX10_init_190 rfl (fun a19 M => ?_)
  refine R_putR (pc' := 195) (q := (some this)) (x := (some a19)) fl_X10_69 rfl (Or.inr ⟨rfl, rfl⟩) dX10_init_192 rfl (fun M => ?_)
  refine R_aloadq_n (pc' := 196) (i := 0) (j := 0) (q := (some this)) dX10_init_195 rfl rfl rfl ?_
  refine R_bipush (pc' := 198) (x := (nI 6)) dX10_init_196 rfl (by decide) ?_
  refine R_newa (pc' := 200) (at0 := .int) (ty := .int) (t := 0) (n := (nI 6)) rfl rfl (by decide) ac_int (by decide) rfl dX10_init_198 rfl (fun a20 M => ?_)
  refine R_putR (pc' := 203) (q := (some this)) (x := (some a20)) fl_X10_72 rfl (Or.inr ⟨rfl, rfl⟩) dX10_init_200 rfl (fun M => ?_)
  refine R_aloadq_n (pc' := 204) (i := 0) (j := 0) (q := (some this)) dX10_init_203 rfl rfl rfl ?_
  refine R_bipush (pc' := 206) (x := (nI 72)) dX10_init_204 rfl (by decide) ?_
  refine R_newa (pc' := 208) (at0 := .int) (ty := .int) (t := 0) (n := (nI 72)) rfl rfl (by decide) ac_int (by decide) rfl dX10_init_206 rfl (fun a21 M => ?_)
  refine R_putR (pc' := 211) (q := (some this)) (x := (some a21)) fl_X10_75 rfl (Or.inr ⟨rfl, rfl⟩) dX10_init_208 rfl (fun M => ?_)
  refine R_aloadq_n (pc' := 212) (i := 0) (j := 0) (q := (some this)) dX10_init_211 rfl rfl rfl ?_
  refine R_bipush (pc' := 214) (x := (nI 72)) dX10_init_212 rfl (by decide) ?_
  refine R_newa (pc' := 216) (at0 := .int) (ty := .int) (t := 0) (n := (nI 72)) rfl rfl (by decide) ac_int (by decide) rfl dX10_init_214 rfl (fun a22 M => ?_)
  refine R_putR (pc' := 219) (q := (some this)) (x := (some a22)) fl_X10_78 rfl (Or.inr ⟨rfl, rfl⟩) dX10_init_216 rfl (fun M => ?_)
  refine R_aloadq_n (pc' := 220) (i := 0) (j := 0) (q := (some this)) dX10_init_219 rfl rfl rfl ?_
  refine R_bipush (pc' := 222) (x := (nI 72)) dX10_init_220 rfl (by decide) ?_
  refine R_newa (pc' := 224) (at0 := .int) (ty := .int) (t := 0) (n := (nI 72)) rfl rfl (by decide) ac_int (by decide) rfl dX10_init_222 rfl (fun a23 M => ?_)
  refine R_putR (pc' := 227) (q := (some this)) (x := (some a23)) fl_X10_81 rfl (Or.inr ⟨rfl, rfl⟩) dX10_init_224 rfl (fun M => ?_)
  refine R_aloadq_n (pc' := 228) (i := 0) (j := 0) (q := (some this)) dX10_init_227 rfl rfl rfl ?_
  refine R_sipush (pc' := 231) (x := (nI 402)) dX10_init_228 rfl (by decide) ?_
  refine R_newa (pc' := 233) (at0 := .int) (ty := .int) (t := 0) (n := (nI 402)) rfl rfl (by decide) ac_int (by decide) rfl dX10_init_231 rfl (fun a24 M => ?_)
  refine R_putR (pc' := 236) (q := (some this)) (x := (some a24)) fl_X10_84 rfl (Or.inr ⟨rfl, rfl⟩) dX10_init_233 rfl (fun M => ?_)
  refine R_aloadq_n (pc' := 237) (i := 0) (j := 0) (q := (some this)) dX10_init_236 rfl rfl rfl ?_
  refine R_bipush (pc' := 239) (x := (nI 11)) dX10_init_237 rfl (by decide) ?_
  refine R_newa (pc' := 241) (at0 := .long) (ty := .long) (t := 3) (n := (nI 11)) rfl rfl (by decide) ac_long (by decide) rfl dX10_init_239 rfl (fun a25 M => ?_)
  refine R_putR (pc' := 244) (q := (some this)) (x := (some a25)) fl_X10_87 rfl (Or.inr ⟨rfl, rfl⟩) dX10_init_241 rfl (fun M => ?_)
  refine R_aloadq_n (pc' := 245) (i := 0) (j := 0) (q := (some this)) dX10_init_244 rfl rfl rfl ?_
  refine R_sipush (pc' := 248) (x := (nI 300)) dX10_init_245 rfl (by decide) ?_
  refine R_newa (pc' := 250) (at0 := .long) (ty := .long) (t := 3) (n := (nI 300)) rfl rfl (by decide) ac_long (by decide) rfl dX10_init_248 rfl (fun a26 M => ?_)
  refine R_putR (pc' := 253) (q := (some this)) (x := (some a26)) fl_X10_91 rfl (Or.inr ⟨rfl, rfl⟩) dX10_init_250 rfl (fun M => ?_)
  refine R_aloadq_n (pc' := 254) (i := 0) (j := 0) (q := (some this)) dX10_init_253 rfl rfl rfl ?_
  refine R_iconst (pc' := 255) (x := (nI 5)) dX10_init_254 rfl (by decide) ?_
  refine R_newa (pc' := 257) (at0 := .int) (ty := .int) (t := 0) (n := (nI 5)) rfl rfl (by decide) ac_int (by decide) rfl dX10_init_255 rfl (fun a27 M => ?_)
  refine R_putR (pc' := 260) (q := (some this)) (x := (some a27)) fl_X10_94 rfl (Or.inr ⟨rfl, rfl⟩) dX10_init_257 rfl (fun M => ?_)
  refine R_aloadq_n (pc' := 261) (i := 0) (j := 0) (q := (some this)) dX10_init_260 rfl rfl rfl ?_
  refine R_iconst (pc' := 262) (x := (-1 : Int32)) dX10_init_261 rfl (by decide) ?_
  refine R_putI (pc' := 265) (q := (some this)) (x := (-1 : Int32)) fl_X10_97 (Or.inl rfl) dX10_init_262 rfl (fun M => ?_)
  refine R_aloadq_n (pc' := 266) (i := 0) (j := 0) (q := (some this)) dX10_init_265 rfl rfl rfl ?_
  refine R_sipush (pc' := 269) (x := (nI 400)) dX10_init_266 rfl (by decide) ?_
  refine R_newa (pc' := 271) (at0 := .int) (ty := .int) (t := 0) (n := (nI 400)) rfl rfl (by decide) ac_int (by decide) rfl dX10_init_269 rfl (fun a28 M => ?_)
  refine R_putR (pc' := 274) (q := (some this)) (x := (some a28)) fl_X10_100 rfl (Or.inr ⟨rfl, rfl⟩) dX10_init_271 rfl (fun M => ?_)
  refine R_aloadq_n (pc' := 275) (i := 0) (j := 0) (q := (some this)) dX10_init_274 rfl rfl rfl ?_
  refine R_iconst (pc' := 276) (x := (nI 1)) dX10_init_275 rfl (by decide) ?_
  refine R_newa (pc' := 278) (at0 := .int) (ty := .int) (t := 0) (n := (nI 1)) rfl rfl (by decide) ac_int (by decide) rfl dX10_init_276 rfl (fun a29 M => ?_)
  refine R_putR (pc' := 281) (q := (some this)) (x := (some a29)) fl_X10_103 rfl (Or.inr ⟨rfl, rfl⟩) dX10_init_278 rfl (fun M => ?_)
  refine R_aloadq_n (pc' := 282) (i := 0) (j := 0) (q := (some this)) dX10_init_281 rfl rfl rfl ?_
  refine R_iconst (pc' := 283) (x := (nI 4)) dX10_init_282 rfl (by decide) ?_
  refine R_newa (pc' := 285) (at0 := .int) (ty := .int) (t := 0) (n := (nI 4)) rfl rfl (by decide) ac_int (by decide) rfl dX10_init_283 rfl (fun a30 M => ?_)
  refine R_putR (pc' := 288) (q := (some this)) (x := (some a30)) fl_X10_106 rfl (Or.inr ⟨rfl, rfl⟩) dX10_init_285 rfl (fun M => ?_)
  refine R_aloadq_n (pc' := 289) (i := 0) (j := 0) (q := (some this)) dX10_init_288 rfl rfl rfl ?_
  refine R_iconst (pc' := 290) (x := (nI 4)) dX10_init_289 rfl (by decide) ?_
  refine R_newa (pc' := 292) (at0 := .int) (ty := .int) (t := 0) (n := (nI 4)) rfl rfl (by decide) ac_int (by decide) rfl dX10_init_290 rfl (fun a31 M => ?_)
  refine R_putR (pc' := 295) (q := (some this)) (x := (some a31)) fl_X10_109 rfl (Or.inr ⟨rfl, rfl⟩) dX10_init_292 rfl (fun M => ?_)
  refine R_aloadq_n (pc' := 296) (i := 0) (j := 0) (q := (some this)) dX10_init_295 rfl rfl rfl ?_
  refine R_sipush (pc' := 299) (x := (nI 729)) dX10_init_296 rfl (by decide) ?_
  refine R_newa (pc' := 301) (at0 := .int) (ty := .int) (t := 0) (n := (nI 729)) rfl rfl (by decide) ac_int (by decide) rfl dX10_init_299 rfl (fun a32 M => ?_)
  refine R_putR (pc' := 304) (q := (some this)) (x := (some a32)) fl_X10_112 rfl (Or.inr ⟨rfl, rfl⟩) dX10_init_301 rfl (fun M => ?_)
  refine R_aloadq_n (pc' := 305) (i := 0) (j := 0) (q := (some this)) dX10_init_304 rfl rfl rfl ?_
  refine R_sipush (pc' := 308) (x := (nI 305)) dX10_init_305 rfl (by decide) ?_
  refine R_newa (pc' := 310) (at0 := .int) (ty := .int) (t := 0) (n := (nI 305)) rfl rfl (by decide) ac_int (by decide) rfl dX10_init_308 rfl (fun a33 M => ?_)
  refine R_putR (pc' := 313) (q := (some this)) (x := (some a33)) fl_X10_115 rfl (Or.inr ⟨rfl, rfl⟩) dX10_init_310 rfl (fun M => ?_)
  refine R_aloadq_n (pc' := 314) (i := 0) (j := 0) (q := (some this)) dX10_init_313 rfl rfl rfl ?_
  refine R_bipush (pc' := 316) (x := (nI 35)) dX10_init_314 rfl (by decide) ?_
  refine R_newa (pc' := 318) (at0 := .int) (ty := .int) (t := 0) (n := (nI 35)) rfl rfl (by decide) ac_int (by decide) rfl dX10_init_316 rfl (fun a34 M => ?_)
  refine R_putR (pc' := 321) (q := (some this)) (x := (some a34)) fl_X10_118 rfl (Or.inr ⟨rfl, rfl⟩) dX10_init_318 rfl (fun M => ?_)
  refine R_aloadq_n (pc' := 322) (i := 0) (j := 0) (q := (some this)) dX10_init_321 rfl rfl rfl ?_
  refine R_sipush (pc' := 325) (x := (nI 3000)) dX10_init_322 rfl (by decide) ?_
  refine R_newa (pc' := 327) (at0 := .int) (ty := .int) (t := 0) (n := (nI 3000)) rfl rfl (by decide) ac_int (by decide) rfl dX10_init_325 rfl (fun a35 M => ?_)
  refine R_putR (pc' := 330) (q := (some this)) (x := (some a35)) fl_X10_121 rfl (Or.inr ⟨rfl, rfl⟩) dX10_init_327 rfl (fun M => ?_)
  refine R_aloadq_n (pc' := 331) (i := 0) (j := 0) (q := (some this)) dX10_init_330 rfl rfl rfl ?_
  refine R_iconst (pc' := 332) (x := (nI 4)) dX10_init_331 rfl (by decide) ?_
  refine R_newa (pc' := 334) (at0 := .boolean) (ty := .boolean) (t := 2) (n := (nI 4)) rfl rfl (by decide) ac_boolean (by decide) rfl dX10_init_332 rfl (fun a36 M => ?_)
  refine R_putR (pc' := 337) (q := (some this)) (x := (some a36)) fl_X10_124 rfl (Or.inr ⟨rfl, rfl⟩) dX10_init_334 rfl (fun M => ?_)
  exact R_vret dX10_init_337
/-! BarPilotModel.in(JJJ)Z -/
def f_X10_in_J18 (s0 : Int32) (M : Mem) : Option (Int32 × Mem) :=
  ckZ s0 (some (s0, M))
set_option maxHeartbeats 2000000 in
set_option maxRecDepth 20000 in
theorem rf_X10_in_J18 (s0 : Int32) (M : Mem) : RF yX10_in cX10_in 6 (some .boolean) 1 eI (f_X10_in_J18 s0 M) 18 [] [.int s0] M := by
  rw [f_X10_in_J18]
  exact R_bret dX10_in_18
def f_X10_in_J17 (M : Mem) : Option (Int32 × Mem) :=
  f_X10_in_J18 (nI 0) M
set_option maxHeartbeats 2000000 in
set_option maxRecDepth 20000 in
theorem rf_X10_in_J17 (M : Mem) : RF yX10_in cX10_in 6 (some .boolean) 1 eI (f_X10_in_J17 M) 17 [] [] M := by
  rw [f_X10_in_J17]
  refine R_iconst (pc' := 18) (x := (nI 0)) dX10_in_17 rfl (by decide) ?_
  exact R_sub [] rfl (rf_X10_in_J18 (nI 0) M)
def f_X10_in (l0 : Int64) (l2 : Int64) (l4 : Int64) (M : Mem) : Option (Int32 × Mem) :=
  (if (lg_cmp l0 l2) < 0 then
    (f_X10_in_J17 M)
  else
    ((if 0 < (lg_cmp l0 l4) then
      (f_X10_in_J17 M)
    else
      (f_X10_in_J18 (nI 1) M))))
set_option maxHeartbeats 2000000 in
set_option maxRecDepth 20000 in
theorem rm_X10_in (l0 : Int64) (l2 : Int64) (l4 : Int64) (M : Mem) : RFm yX10_in cX10_in 6 (some .boolean) 1 eI (f_X10_in l0 l2 l4 M) [.long l0, .long l2, .long l4] M := by
  refine RFm_of (L := [(0, .long l0), (2, .long l2), (4, .long l4)]) (by decide) rfl (Nat.le_trans (c_L (c_L (c_L c_0))) (by decide)) ?_
  rw [f_X10_in]
  refine R_lload_n (pc' := 1) (i := 0) (j := 0) (x := l0) dX10_in_0 rfl rfl rfl ?_
  refine R_lload_n (pc' := 2) (i := 2) (j := 1) (x := l2) dX10_in_1 rfl rfl rfl ?_
  refine R_lcmp (pc' := 3) (a := l0) (b := l2) dX10_in_2 rfl ?_
  refine R_if_lt (pc' := 6) (tgt := 17) (a := (lg_cmp l0 l2)) dX10_in_3 (by decide) rfl ?_ ?_
  · exact R_sub [] rfl (rf_X10_in_J17 M)
  · refine R_lload_n (pc' := 7) (i := 0) (j := 0) (x := l0) dX10_in_6 rfl rfl rfl ?_
    refine R_lload (pc' := 9) (i := 4) (j := 2) (x := l4) dX10_in_7 rfl rfl ?_
    refine R_lcmp (pc' := 10) (a := l0) (b := l4) dX10_in_9 rfl ?_
    refine R_if_gt (pc' := 13) (tgt := 17) (a := (lg_cmp l0 l4)) dX10_in_10 (by decide) rfl ?_ ?_
    · exact R_sub [] rfl (rf_X10_in_J17 M)
    · refine R_iconst (pc' := 14) (x := (nI 1)) dX10_in_13 rfl (by decide) ?_
      refine R_goto (tgt := 18) dX10_in_14 (by decide) ?_
      exact R_sub [] rfl (rf_X10_in_J18 (nI 1) M)
/-! BarPilotModel.bits(I)I -/
def f_X10_bits_L4 : Nat → Int32 → Int32 → Int32 → Mem → Option (Int32 × Mem)
  | 0, _, _, _, _ => none
  | n + 1, l0, l1, l2, M =>
    (if (nI 16) ≤ l2 then
      (some (l1, M))
    else
      (nm (l1 + ((l0 >>> (l2 &&& 31)) &&& (nI 1))) fun v1 =>
      (f_X10_bits_L4 n) l0 v1 (l2 + (nI 1)) M))
set_option maxHeartbeats 2000000 in
set_option maxRecDepth 20000 in
theorem rf_X10_bits_L4 : ∀ (n : Nat) (l0 : Int32) (l1 : Int32) (l2 : Int32) (M : Mem), RF yX10_bits cX10_bits 3 (some .int) 1 eI (f_X10_bits_L4 n l0 l1 l2 M) 4 [(0, .int l0), (1, .int l1), (2, .int l2)] [] M := by
  intro n
  induction n with
  | zero => intro _ _ _ _; exact RF.none
  | succ n ih =>
    intro l0 l1 l2 M
    rw [f_X10_bits_L4]
    refine R_iload_n (pc' := 5) (i := 2) (j := 2) (x := l2) dX10_bits_4 rfl rfl rfl ?_
    refine R_bipush (pc' := 7) (x := (nI 16)) dX10_bits_5 rfl (by decide) ?_
    refine R_icmp_ge (pc' := 10) (tgt := 24) (a := l2) (b := (nI 16)) dX10_bits_7 (by decide) rfl ?_ ?_
    · refine R_iload_n (pc' := 25) (i := 1) (j := 1) (x := l1) dX10_bits_24 rfl rfl rfl ?_
      exact R_iret dX10_bits_25
    · refine R_iload_n (pc' := 11) (i := 1) (j := 1) (x := l1) dX10_bits_10 rfl rfl rfl ?_
      refine R_iload_n (pc' := 12) (i := 0) (j := 0) (x := l0) dX10_bits_11 rfl rfl rfl ?_
      refine R_iload_n (pc' := 13) (i := 2) (j := 2) (x := l2) dX10_bits_12 rfl rfl rfl ?_
      refine R_ishr (pc' := 14) (a := l0) (b := l2) dX10_bits_13 rfl ?_
      refine R_iconst (pc' := 15) (x := (nI 1)) dX10_bits_14 rfl (by decide) ?_
      refine R_iand (pc' := 16) (a := (l0 >>> (l2 &&& 31))) (b := (nI 1)) dX10_bits_15 rfl ?_
      refine R_iadd (pc' := 17) (a := l1) (b := ((l0 >>> (l2 &&& 31)) &&& (nI 1))) dX10_bits_16 rfl ?_
      refine R_nmI (fun v1 => ?_)
      refine R_istore_n (pc' := 18) (L' := [(1, .int v1), (0, .int l0), (2, .int l2)]) (i := 1) (x := v1) dX10_bits_17 rfl rfl (by decide) rfl ?_
      refine R_iinc (pc' := 21) (L' := [(2, .int (l2 + (nI 1))), (1, .int v1), (0, .int l0)]) (i := 2) (j := 2) (x := l2) (x2 := (l2 + (nI 1))) dX10_bits_18 rfl rfl rfl (by decide) rfl ?_
      refine R_goto (tgt := 4) dX10_bits_21 (by decide) ?_
      exact R_sub [2, 1, 0] rfl (ih l0 v1 (l2 + (nI 1)) M)
def f_X10_bits (l0 : Int32) (M : Mem) : Option (Int32 × Mem) :=
  f_X10_bits_L4 FU l0 (nI 0) (nI 0) M
set_option maxHeartbeats 2000000 in
set_option maxRecDepth 20000 in
theorem rm_X10_bits (l0 : Int32) (M : Mem) : RFm yX10_bits cX10_bits 3 (some .int) 1 eI (f_X10_bits l0 M) [.int l0] M := by
  refine RFm_of (L := [(0, .int l0)]) (by decide) rfl (Nat.le_trans (c_I c_0) (by decide)) ?_
  rw [f_X10_bits]
  refine R_iconst (pc' := 1) (x := (nI 0)) dX10_bits_0 rfl (by decide) ?_
  refine R_istore_n (pc' := 2) (L' := [(1, .int (nI 0)), (0, .int l0)]) (i := 1) (x := (nI 0)) dX10_bits_1 rfl rfl (by decide) rfl ?_
  refine R_iconst (pc' := 3) (x := (nI 0)) dX10_bits_2 rfl (by decide) ?_
  refine R_istore_n (pc' := 4) (L' := [(2, .int (nI 0)), (1, .int (nI 0)), (0, .int l0)]) (i := 2) (x := (nI 0)) dX10_bits_3 rfl rfl (by decide) rfl ?_
  exact R_sub [2, 1, 0] rfl (rf_X10_bits_L4 FU l0 (nI 0) (nI 0) M)
/-! BarPilotModel.has(II)Z -/
def f_X10_has_J14 (s0 : Int32) (M : Mem) : Option (Int32 × Mem) :=
  ckZ s0 (some (s0, M))
set_option maxHeartbeats 2000000 in
set_option maxRecDepth 20000 in
theorem rf_X10_has_J14 (s0 : Int32) (M : Mem) : RF yX10_has cX10_has 2 (some .boolean) 1 eI (f_X10_has_J14 s0 M) 14 [] [.int s0] M := by
  rw [f_X10_has_J14]
  exact R_bret dX10_has_14
def f_X10_has (l0 : Int32) (l1 : Int32) (M : Mem) : Option (Int32 × Mem) :=
  (if ((l0 >>> (l1 &&& 31)) &&& (nI 1)) = (nI 1) then
    (f_X10_has_J14 (nI 1) M)
  else
    (f_X10_has_J14 (nI 0) M))
set_option maxHeartbeats 2000000 in
set_option maxRecDepth 20000 in
theorem rm_X10_has (l0 : Int32) (l1 : Int32) (M : Mem) : RFm yX10_has cX10_has 2 (some .boolean) 1 eI (f_X10_has l0 l1 M) [.int l0, .int l1] M := by
  refine RFm_of (L := [(0, .int l0), (1, .int l1)]) (by decide) rfl (Nat.le_trans (c_I (c_I c_0)) (by decide)) ?_
  rw [f_X10_has]
  refine R_iload_n (pc' := 1) (i := 0) (j := 0) (x := l0) dX10_has_0 rfl rfl rfl ?_
  refine R_iload_n (pc' := 2) (i := 1) (j := 1) (x := l1) dX10_has_1 rfl rfl rfl ?_
  refine R_ishr (pc' := 3) (a := l0) (b := l1) dX10_has_2 rfl ?_
  refine R_iconst (pc' := 4) (x := (nI 1)) dX10_has_3 rfl (by decide) ?_
  refine R_iand (pc' := 5) (a := (l0 >>> (l1 &&& 31))) (b := (nI 1)) dX10_has_4 rfl ?_
  refine R_iconst (pc' := 6) (x := (nI 1)) dX10_has_5 rfl (by decide) ?_
  refine R_icmp_ne (pc' := 9) (tgt := 13) (a := ((l0 >>> (l1 &&& 31)) &&& (nI 1))) (b := (nI 1)) dX10_has_6 (by decide) rfl ?_ ?_
  · refine R_iconst (pc' := 14) (x := (nI 0)) dX10_has_13 rfl (by decide) ?_
    exact R_sub [] rfl (rf_X10_has_J14 (nI 0) M)
  · refine R_iconst (pc' := 10) (x := (nI 1)) dX10_has_9 rfl (by decide) ?_
    refine R_goto (tgt := 14) dX10_has_10 (by decide) ?_
    exact R_sub [] rfl (rf_X10_has_J14 (nI 1) M)
/-! BarPilotModel.isBar()Z -/
def f_X10_isBar_J14 (this : Nat) (s0 : Int32) (M : Mem) : Option (Int32 × Mem) :=
  ckZ s0 (some (s0, M))
set_option maxHeartbeats 2000000 in
set_option maxRecDepth 20000 in
theorem rf_X10_isBar_J14 (this : Nat) (s0 : Int32) (M : Mem) : RF yX10_isBar cX10_isBar 1 (some .boolean) 1 eI (f_X10_isBar_J14 this s0 M) 14 [] [.int s0] M := by
  rw [f_X10_isBar_J14]
  exact R_bret dX10_isBar_14
def f_X10_isBar (this : Nat) (M : Mem) : Option (Int32 × Mem) :=
  (gR M 10 1 (some this)).bind fun scalar1 =>
  (aI M 0 scalar1 (nI 0)).bind fun e2 =>
  (if e2 ≤ 0 then
    (f_X10_isBar_J14 this (nI 0) M)
  else
    (f_X10_isBar_J14 this (nI 1) M))
set_option maxHeartbeats 2000000 in
set_option maxRecDepth 20000 in
theorem rm_X10_isBar (this : Nat) (M : Mem) : RFm yX10_isBar cX10_isBar 1 (some .boolean) 1 eI (f_X10_isBar this M) [va_rf (some this)] M := by
  refine RFm_of (L := [(0, va_rf (some this))]) (by decide) rfl (Nat.le_trans (c_R c_0) (by decide)) ?_
  rw [f_X10_isBar]
  refine R_aloadq_n (pc' := 1) (i := 0) (j := 0) (q := (some this)) dX10_isBar_0 rfl rfl rfl ?_
  refine R_getR (pc' := 4) (q := (some this)) fl_X10_9 rfl dX10_isBar_1 rfl (fun scalar1 => ?_)
  refine R_iconst (pc' := 5) (x := (nI 0)) dX10_isBar_4 rfl (by decide) ?_
  refine R_iald (pc' := 6) (q := scalar1) (i := (nI 0)) dX10_isBar_5 rfl (fun e2 => ?_)
  refine R_if_le (pc' := 9) (tgt := 13) (a := e2) dX10_isBar_6 (by decide) rfl ?_ ?_
  · refine R_iconst (pc' := 14) (x := (nI 0)) dX10_isBar_13 rfl (by decide) ?_
    exact R_sub [] rfl (rf_X10_isBar_J14 this (nI 0) M)
  · refine R_iconst (pc' := 10) (x := (nI 1)) dX10_isBar_9 rfl (by decide) ?_
    refine R_goto (tgt := 14) dX10_isBar_10 (by decide) ?_
    exact R_sub [] rfl (rf_X10_isBar_J14 this (nI 1) M)
/-! BarPilotModel.isJoke(I)Z -/
def f_X10_isJoke (this : Nat) (l1 : Int32) (M : Mem) : Option (Int32 × Mem) :=
  (gR M 10 1 (some this)).bind fun scalar1 =>
  (aI M 0 scalar1 (nI 2)).bind fun e2 =>
  cl (f_X10_in (Int32.toInt64 l1) (0 : Int64) (Int32.toInt64 (e2 - (nI 1))) M) fun r3 M =>
  ckZ r3 (some (r3, M))
set_option maxHeartbeats 2000000 in
set_option maxRecDepth 20000 in
theorem rm_X10_isJoke (this : Nat) (l1 : Int32) (M : Mem) : RFm yX10_isJoke cX10_isJoke 2 (some .boolean) 2 eI (f_X10_isJoke this l1 M) [va_rf (some this), .int l1] M := by
  refine RFm_of (L := [(0, va_rf (some this)), (1, .int l1)]) (by decide) rfl (Nat.le_trans (c_R (c_I c_0)) (by decide)) ?_
  rw [f_X10_isJoke]
  refine R_iload_n (pc' := 1) (i := 1) (j := 1) (x := l1) dX10_isJoke_0 rfl rfl rfl ?_
  refine R_i2l (pc' := 2) (a := l1) dX10_isJoke_1 rfl ?_
  refine R_lconst (pc' := 3) (x := (0 : Int64)) dX10_isJoke_2 rfl (by decide) ?_
  refine R_aloadq_n (pc' := 4) (i := 0) (j := 0) (q := (some this)) dX10_isJoke_3 rfl rfl rfl ?_
  refine R_getR (pc' := 7) (q := (some this)) fl_X10_9 rfl dX10_isJoke_4 rfl (fun scalar1 => ?_)
  refine R_iconst (pc' := 8) (x := (nI 2)) dX10_isJoke_7 rfl (by decide) ?_
  refine R_iald (pc' := 9) (q := scalar1) (i := (nI 2)) dX10_isJoke_8 rfl (fun e2 => ?_)
  refine R_iconst (pc' := 10) (x := (nI 1)) dX10_isJoke_9 rfl (by decide) ?_
  refine R_isub (pc' := 11) (a := e2) (b := (nI 1)) dX10_isJoke_10 rfl ?_
  refine R_i2l (pc' := 12) (a := (e2 - (nI 1))) dX10_isJoke_11 rfl ?_
  refine R_callS_I (pc' := 15) (As := [.long (Int32.toInt64 l1), .long (0 : Int64), .long (Int32.toInt64 (e2 - (nI 1)))]) (rm_X10_in (Int32.toInt64 l1) (0 : Int64) (Int32.toInt64 (e2 - (nI 1))) M) mf_X10_in lk_X10_131 sm_X10_in rfl rfl dX10_isJoke_12 rfl (by decide) (Nat.le_trans c_0 (by decide)) (fun r3 M => ?_)
  exact R_bret dX10_isJoke_15
/-! BarPilotModel.isShip(I)Z -/
def f_X10_isShip (this : Nat) (l1 : Int32) (M : Mem) : Option (Int32 × Mem) :=
  (gR M 10 1 (some this)).bind fun scalar1 =>
  (aI M 0 scalar1 (nI 3)).bind fun e2 =>
  cl (f_X10_in (Int32.toInt64 l1) (0 : Int64) (Int32.toInt64 (e2 - (nI 1))) M) fun r3 M =>
  ckZ r3 (some (r3, M))
set_option maxHeartbeats 2000000 in
set_option maxRecDepth 20000 in
theorem rm_X10_isShip (this : Nat) (l1 : Int32) (M : Mem) : RFm yX10_isShip cX10_isShip 2 (some .boolean) 2 eI (f_X10_isShip this l1 M) [va_rf (some this), .int l1] M := by
  refine RFm_of (L := [(0, va_rf (some this)), (1, .int l1)]) (by decide) rfl (Nat.le_trans (c_R (c_I c_0)) (by decide)) ?_
  rw [f_X10_isShip]
  refine R_iload_n (pc' := 1) (i := 1) (j := 1) (x := l1) dX10_isShip_0 rfl rfl rfl ?_
  refine R_i2l (pc' := 2) (a := l1) dX10_isShip_1 rfl ?_
  refine R_lconst (pc' := 3) (x := (0 : Int64)) dX10_isShip_2 rfl (by decide) ?_
  refine R_aloadq_n (pc' := 4) (i := 0) (j := 0) (q := (some this)) dX10_isShip_3 rfl rfl rfl ?_
  refine R_getR (pc' := 7) (q := (some this)) fl_X10_9 rfl dX10_isShip_4 rfl (fun scalar1 => ?_)
  refine R_iconst (pc' := 8) (x := (nI 3)) dX10_isShip_7 rfl (by decide) ?_
  refine R_iald (pc' := 9) (q := scalar1) (i := (nI 3)) dX10_isShip_8 rfl (fun e2 => ?_)
  refine R_iconst (pc' := 10) (x := (nI 1)) dX10_isShip_9 rfl (by decide) ?_
  refine R_isub (pc' := 11) (a := e2) (b := (nI 1)) dX10_isShip_10 rfl ?_
  refine R_i2l (pc' := 12) (a := (e2 - (nI 1))) dX10_isShip_11 rfl ?_
  refine R_callS_I (pc' := 15) (As := [.long (Int32.toInt64 l1), .long (0 : Int64), .long (Int32.toInt64 (e2 - (nI 1)))]) (rm_X10_in (Int32.toInt64 l1) (0 : Int64) (Int32.toInt64 (e2 - (nI 1))) M) mf_X10_in lk_X10_131 sm_X10_in rfl rfl dX10_isShip_12 rfl (by decide) (Nat.le_trans c_0 (by decide)) (fun r3 M => ?_)
  exact R_bret dX10_isShip_15
/-! BarPilotModel.waits(I)Z -/
def f_X10_waits_J23 (this : Nat) (s0 : Int32) (M : Mem) : Option (Int32 × Mem) :=
  ckZ s0 (some (s0, M))
set_option maxHeartbeats 2000000 in
set_option maxRecDepth 20000 in
theorem rf_X10_waits_J23 (this : Nat) (s0 : Int32) (M : Mem) : RF yX10_waits cX10_waits 2 (some .boolean) 3 eI (f_X10_waits_J23 this s0 M) 23 [] [.int s0] M := by
  rw [f_X10_waits_J23]
  exact R_bret dX10_waits_23
def f_X10_waits_J22 (this : Nat) (M : Mem) : Option (Int32 × Mem) :=
  f_X10_waits_J23 this (nI 0) M
set_option maxHeartbeats 2000000 in
set_option maxRecDepth 20000 in
theorem rf_X10_waits_J22 (this : Nat) (M : Mem) : RF yX10_waits cX10_waits 2 (some .boolean) 3 eI (f_X10_waits_J22 this M) 22 [] [] M := by
  rw [f_X10_waits_J22]
  refine R_iconst (pc' := 23) (x := (nI 0)) dX10_waits_22 rfl (by decide) ?_
  exact R_sub [] rfl (rf_X10_waits_J23 this (nI 0) M)
def f_X10_waits (this : Nat) (l1 : Int32) (M : Mem) : Option (Int32 × Mem) :=
  (oO M 10 (some this)).bind fun o4 => cl (f_X10_isShip o4 l1 M) fun r1 M =>
  (if r1 = 0 then
    (f_X10_waits_J22 this M)
  else
    ((gR M 10 7 (some this)).bind fun passed2 =>
    (aI M 0 passed2 l1).bind fun e3 =>
    (if e3 = (-1 : Int32) then
      (f_X10_waits_J23 this (nI 1) M)
    else
      (f_X10_waits_J22 this M))))
set_option maxHeartbeats 2000000 in
set_option maxRecDepth 20000 in
theorem rm_X10_waits (this : Nat) (l1 : Int32) (M : Mem) : RFm yX10_waits cX10_waits 2 (some .boolean) 3 eI (f_X10_waits this l1 M) [va_rf (some this), .int l1] M := by
  refine RFm_of (L := [(0, va_rf (some this)), (1, .int l1)]) (by decide) rfl (Nat.le_trans (c_R (c_I c_0)) (by decide)) ?_
  rw [f_X10_waits]
  refine R_aloadq_n (pc' := 1) (i := 0) (j := 0) (q := (some this)) dX10_waits_0 rfl rfl rfl ?_
  refine R_iload_n (pc' := 2) (i := 1) (j := 1) (x := l1) dX10_waits_1 rfl rfl rfl ?_
  refine R_callV_I (pc' := 5) (q := (some this)) (As := [.int l1]) (fun o4 => rm_X10_isShip o4 l1 M) mf_X10_isShip lk_X10_135 im_X10_isShip se_X10_isShip rfl rfl rfl dX10_waits_2 rfl (by decide) (Nat.le_trans c_0 (by decide)) (fun r1 M => ?_)
  refine R_if_eq (pc' := 8) (tgt := 22) (a := r1) dX10_waits_5 (by decide) rfl ?_ ?_
  · exact R_sub [] rfl (rf_X10_waits_J22 this M)
  · refine R_aloadq_n (pc' := 9) (i := 0) (j := 0) (q := (some this)) dX10_waits_8 rfl rfl rfl ?_
    refine R_getR (pc' := 12) (q := (some this)) fl_X10_28 rfl dX10_waits_9 rfl (fun passed2 => ?_)
    refine R_iload_n (pc' := 13) (i := 1) (j := 1) (x := l1) dX10_waits_12 rfl rfl rfl ?_
    refine R_iald (pc' := 14) (q := passed2) (i := l1) dX10_waits_13 rfl (fun e3 => ?_)
    refine R_iconst (pc' := 15) (x := (-1 : Int32)) dX10_waits_14 rfl (by decide) ?_
    refine R_icmp_ne (pc' := 18) (tgt := 22) (a := e3) (b := (-1 : Int32)) dX10_waits_15 (by decide) rfl ?_ ?_
    · exact R_sub [] rfl (rf_X10_waits_J22 this M)
    · refine R_iconst (pc' := 19) (x := (nI 1)) dX10_waits_18 rfl (by decide) ?_
      refine R_goto (tgt := 23) dX10_waits_19 (by decide) ?_
      exact R_sub [] rfl (rf_X10_waits_J23 this (nI 1) M)
/-! BarPilotModel.put(I)V -/
def f_X10_put_L3 (this : Nat) : Nat → Int32 → Int32 → Mem → Option (Unit × Mem)
  | 0, _, _, _ => none
  | n + 1, l1, l2, M =>
    (if l2 < 0 then
      (some ((), M))
    else
      ((gR M 10 27 (some this)).bind fun tape1 =>
      (gI M 10 17 (some this)).bind fun taped2 =>
      (wI M 1 tape1 taped2 (vp_nar .byte (Int32.toInt8 (l1 >>> (l2 &&& 31))).toInt32)).bind fun M =>
      (gI M 10 17 (some this)).bind fun taped3 =>
      (pI M 10 17 (some this) (taped3 + (nI 1))).bind fun M =>
      (f_X10_put_L3 this n) l1 (l2 + (-8 : Int32)) M))
set_option maxHeartbeats 2000000 in
set_option maxRecDepth 20000 in
theorem rf_X10_put_L3 (this : Nat) : ∀ (n : Nat) (l1 : Int32) (l2 : Int32) (M : Mem), RF yX10_put cX10_put 3 none 1 eV (f_X10_put_L3 this n l1 l2 M) 3 [(0, va_rf (some this)), (1, .int l1), (2, .int l2)] [] M := by
  intro n
  induction n with
  | zero => intro _ _ _; exact RF.none
  | succ n ih =>
    intro l1 l2 M
    rw [f_X10_put_L3]
    refine R_iload_n (pc' := 4) (i := 2) (j := 2) (x := l2) dX10_put_3 rfl rfl rfl ?_
    refine R_if_lt (pc' := 7) (tgt := 36) (a := l2) dX10_put_4 (by decide) rfl ?_ ?_
    · exact R_vret dX10_put_36
    · refine R_aloadq_n (pc' := 8) (i := 0) (j := 0) (q := (some this)) dX10_put_7 rfl rfl rfl ?_
      refine R_getR (pc' := 11) (q := (some this)) fl_X10_62 rfl dX10_put_8 rfl (fun tape1 => ?_)
      refine R_aloadq_n (pc' := 12) (i := 0) (j := 0) (q := (some this)) dX10_put_11 rfl rfl rfl ?_
      refine R_getI (pc' := 15) (q := (some this)) fl_X10_139 rfl dX10_put_12 rfl (fun taped2 => ?_)
      refine R_iload_n (pc' := 16) (i := 1) (j := 1) (x := l1) dX10_put_15 rfl rfl rfl ?_
      refine R_iload_n (pc' := 17) (i := 2) (j := 2) (x := l2) dX10_put_16 rfl rfl rfl ?_
      refine R_ishr (pc' := 18) (a := l1) (b := l2) dX10_put_17 rfl ?_
      refine R_i2b (pc' := 19) (a := (l1 >>> (l2 &&& 31))) dX10_put_18 rfl ?_
      refine R_bast (pc' := 20) (q := tape1) (i := taped2) (x := (Int32.toInt8 (l1 >>> (l2 &&& 31))).toInt32) dX10_put_19 rfl (fun M => ?_)
      refine R_aloadq_n (pc' := 21) (i := 0) (j := 0) (q := (some this)) dX10_put_20 rfl rfl rfl ?_
      refine R_dup (pc' := 22) dX10_put_21 rfl (rf_cat _) ?_
      refine R_getI (pc' := 25) (q := (some this)) fl_X10_139 rfl dX10_put_22 rfl (fun taped3 => ?_)
      refine R_iconst (pc' := 26) (x := (nI 1)) dX10_put_25 rfl (by decide) ?_
      refine R_iadd (pc' := 27) (a := taped3) (b := (nI 1)) dX10_put_26 rfl ?_
      refine R_putI (pc' := 30) (q := (some this)) (x := (taped3 + (nI 1))) fl_X10_139 (Or.inl rfl) dX10_put_27 rfl (fun M => ?_)
      refine R_iinc (pc' := 33) (L' := [(2, .int (l2 + (-8 : Int32))), (0, va_rf (some this)), (1, .int l1)]) (i := 2) (j := 2) (x := l2) (x2 := (l2 + (-8 : Int32))) dX10_put_30 rfl rfl rfl (by decide) rfl ?_
      refine R_goto (tgt := 3) dX10_put_33 (by decide) ?_
      exact R_sub [1, 2, 0] rfl (ih l1 (l2 + (-8 : Int32)) M)
def f_X10_put (this : Nat) (l1 : Int32) (M : Mem) : Option (Unit × Mem) :=
  f_X10_put_L3 this FU l1 (nI 24) M
set_option maxHeartbeats 2000000 in
set_option maxRecDepth 20000 in
theorem rm_X10_put (this : Nat) (l1 : Int32) (M : Mem) : RFm yX10_put cX10_put 3 none 1 eV (f_X10_put this l1 M) [va_rf (some this), .int l1] M := by
  refine RFm_of (L := [(0, va_rf (some this)), (1, .int l1)]) (by decide) rfl (Nat.le_trans (c_R (c_I c_0)) (by decide)) ?_
  rw [f_X10_put]
  refine R_bipush (pc' := 2) (x := (nI 24)) dX10_put_0 rfl (by decide) ?_
  refine R_istore_n (pc' := 3) (L' := [(2, .int (nI 24)), (0, va_rf (some this)), (1, .int l1)]) (i := 2) (x := (nI 24)) dX10_put_2 rfl rfl (by decide) rfl ?_
  exact R_sub [1, 2, 0] rfl (rf_X10_put_L3 this FU l1 (nI 24) M)
/-! BarPilotModel.feed(IIIII)I -/
def f_X10_feed (this : Nat) (l1 : Int32) (l2 : Int32) (l3 : Int32) (l4 : Int32) (l5 : Int32) (M : Mem) : Option (Int32 × Mem) :=
  (gI M 10 17 (some this)).bind fun taped1 =>
  (if (taped1 + (nI 20)) ≤ (nI 400) then
    ((oO M 10 (some this)).bind fun o12 => cl (f_X10_put o12 l1 M) fun u2 M =>
    (oO M 10 (some this)).bind fun o11 => cl (f_X10_put o11 l2 M) fun u3 M =>
    (oO M 10 (some this)).bind fun o10 => cl (f_X10_put o10 l3 M) fun u4 M =>
    (oO M 10 (some this)).bind fun o9 => cl (f_X10_put o9 l4 M) fun u5 M =>
    (oO M 10 (some this)).bind fun o8 => cl (f_X10_put o8 l5 M) fun u6 M =>
    (gI M 10 17 (some this)).bind fun taped7 =>
    some (taped7, M))
  else
    (some ((-1 : Int32), M)))
set_option maxHeartbeats 2000000 in
set_option maxRecDepth 20000 in
theorem rm_X10_feed (this : Nat) (l1 : Int32) (l2 : Int32) (l3 : Int32) (l4 : Int32) (l5 : Int32) (M : Mem) : RFm yX10_feed cX10_feed 6 (some .int) 2 eI (f_X10_feed this l1 l2 l3 l4 l5 M) [va_rf (some this), .int l1, .int l2, .int l3, .int l4, .int l5] M := by
  refine RFm_of (L := [(0, va_rf (some this)), (1, .int l1), (2, .int l2), (3, .int l3), (4, .int l4), (5, .int l5)]) (by decide) rfl (Nat.le_trans (c_R (c_I (c_I (c_I (c_I (c_I c_0)))))) (by decide)) ?_
  rw [f_X10_feed]
  refine R_aloadq_n (pc' := 1) (i := 0) (j := 0) (q := (some this)) dX10_feed_0 rfl rfl rfl ?_
  refine R_getI (pc' := 4) (q := (some this)) fl_X10_139 rfl dX10_feed_1 rfl (fun taped1 => ?_)
  refine R_bipush (pc' := 6) (x := (nI 20)) dX10_feed_4 rfl (by decide) ?_
  refine R_iadd (pc' := 7) (a := taped1) (b := (nI 20)) dX10_feed_6 rfl ?_
  refine R_sipush (pc' := 10) (x := (nI 400)) dX10_feed_7 rfl (by decide) ?_
  refine R_icmp_le (pc' := 13) (tgt := 15) (a := (taped1 + (nI 20))) (b := (nI 400)) dX10_feed_10 (by decide) rfl ?_ ?_
  · refine R_aloadq_n (pc' := 16) (i := 0) (j := 0) (q := (some this)) dX10_feed_15 rfl rfl rfl ?_
    refine R_iload_n (pc' := 17) (i := 1) (j := 1) (x := l1) dX10_feed_16 rfl rfl rfl ?_
    refine R_callV_V (pc' := 20) (q := (some this)) (As := [.int l1]) (fun o12 => rm_X10_put o12 l1 M) mf_X10_put lk_X10_142 im_X10_put se_X10_put rfl rfl rfl dX10_feed_17 rfl (by decide) (Nat.le_trans c_0 (by decide)) (fun u2 M => ?_)
    refine R_aloadq_n (pc' := 21) (i := 0) (j := 0) (q := (some this)) dX10_feed_20 rfl rfl rfl ?_
    refine R_iload_n (pc' := 22) (i := 2) (j := 2) (x := l2) dX10_feed_21 rfl rfl rfl ?_
    refine R_callV_V (pc' := 25) (q := (some this)) (As := [.int l2]) (fun o11 => rm_X10_put o11 l2 M) mf_X10_put lk_X10_142 im_X10_put se_X10_put rfl rfl rfl dX10_feed_22 rfl (by decide) (Nat.le_trans c_0 (by decide)) (fun u3 M => ?_)
    refine R_aloadq_n (pc' := 26) (i := 0) (j := 0) (q := (some this)) dX10_feed_25 rfl rfl rfl ?_
    refine R_iload_n (pc' := 27) (i := 3) (j := 3) (x := l3) dX10_feed_26 rfl rfl rfl ?_
    refine R_callV_V (pc' := 30) (q := (some this)) (As := [.int l3]) (fun o10 => rm_X10_put o10 l3 M) mf_X10_put lk_X10_142 im_X10_put se_X10_put rfl rfl rfl dX10_feed_27 rfl (by decide) (Nat.le_trans c_0 (by decide)) (fun u4 M => ?_)
    refine R_aloadq_n (pc' := 31) (i := 0) (j := 0) (q := (some this)) dX10_feed_30 rfl rfl rfl ?_
    refine R_iload (pc' := 33) (i := 4) (j := 4) (x := l4) dX10_feed_31 rfl rfl ?_
    refine R_callV_V (pc' := 36) (q := (some this)) (As := [.int l4]) (fun o9 => rm_X10_put o9 l4 M) mf_X10_put lk_X10_142 im_X10_put se_X10_put rfl rfl rfl dX10_feed_33 rfl (by decide) (Nat.le_trans c_0 (by decide)) (fun u5 M => ?_)
    refine R_aloadq_n (pc' := 37) (i := 0) (j := 0) (q := (some this)) dX10_feed_36 rfl rfl rfl ?_
    refine R_iload (pc' := 39) (i := 5) (j := 5) (x := l5) dX10_feed_37 rfl rfl ?_
    refine R_callV_V (pc' := 42) (q := (some this)) (As := [.int l5]) (fun o8 => rm_X10_put o8 l5 M) mf_X10_put lk_X10_142 im_X10_put se_X10_put rfl rfl rfl dX10_feed_39 rfl (by decide) (Nat.le_trans c_0 (by decide)) (fun u6 M => ?_)
    refine R_aloadq_n (pc' := 43) (i := 0) (j := 0) (q := (some this)) dX10_feed_42 rfl rfl rfl ?_
    refine R_getI (pc' := 46) (q := (some this)) fl_X10_139 rfl dX10_feed_43 rfl (fun taped7 => ?_)
    exact R_iret dX10_feed_46
  · refine R_iconst (pc' := 14) (x := (-1 : Int32)) dX10_feed_13 rfl (by decide) ?_
    exact R_iret dX10_feed_14
/-! BarPilotModel.end(I)I -/
def f_X10_end_J12 (this : Nat) (M : Mem) : Option (Int32 × Mem) :=
  some ((-1 : Int32), M)
set_option maxHeartbeats 2000000 in
set_option maxRecDepth 20000 in
theorem rf_X10_end_J12 (this : Nat) (M : Mem) : RF yX10_end cX10_end 2 (some .int) 1 eI (f_X10_end_J12 this M) 12 [] [] M := by
  rw [f_X10_end_J12]
  refine R_iconst (pc' := 13) (x := (-1 : Int32)) dX10_end_12 rfl (by decide) ?_
  exact R_iret dX10_end_13
def f_X10_end (this : Nat) (l1 : Int32) (M : Mem) : Option (Int32 × Mem) :=
  (if l1 < 0 then
    (f_X10_end_J12 this M)
  else
    ((gI M 10 17 (some this)).bind fun taped1 =>
    (if l1 ≤ taped1 then
      ((pI M 10 17 (some this) l1).bind fun M =>
      some (l1, M))
    else
      (f_X10_end_J12 this M))))
set_option maxHeartbeats 2000000 in
set_option maxRecDepth 20000 in
theorem rm_X10_end (this : Nat) (l1 : Int32) (M : Mem) : RFm yX10_end cX10_end 2 (some .int) 1 eI (f_X10_end this l1 M) [va_rf (some this), .int l1] M := by
  refine RFm_of (L := [(0, va_rf (some this)), (1, .int l1)]) (by decide) rfl (Nat.le_trans (c_R (c_I c_0)) (by decide)) ?_
  rw [f_X10_end]
  refine R_iload_n (pc' := 1) (i := 1) (j := 1) (x := l1) dX10_end_0 rfl rfl rfl ?_
  refine R_if_lt (pc' := 4) (tgt := 12) (a := l1) dX10_end_1 (by decide) rfl ?_ ?_
  · exact R_sub [] rfl (rf_X10_end_J12 this M)
  · refine R_iload_n (pc' := 5) (i := 1) (j := 1) (x := l1) dX10_end_4 rfl rfl rfl ?_
    refine R_aloadq_n (pc' := 6) (i := 0) (j := 0) (q := (some this)) dX10_end_5 rfl rfl rfl ?_
    refine R_getI (pc' := 9) (q := (some this)) fl_X10_139 rfl dX10_end_6 rfl (fun taped1 => ?_)
    refine R_icmp_le (pc' := 12) (tgt := 14) (a := l1) (b := taped1) dX10_end_9 (by decide) rfl ?_ ?_
    · refine R_aloadq_n (pc' := 15) (i := 0) (j := 0) (q := (some this)) dX10_end_14 rfl rfl rfl ?_
      refine R_iload_n (pc' := 16) (i := 1) (j := 1) (x := l1) dX10_end_15 rfl rfl rfl ?_
      refine R_putI (pc' := 19) (q := (some this)) (x := l1) fl_X10_139 (Or.inl rfl) dX10_end_16 rfl (fun M => ?_)
      refine R_iload_n (pc' := 20) (i := 1) (j := 1) (x := l1) dX10_end_19 rfl rfl rfl ?_
      exact R_iret dX10_end_20
    · exact R_sub [] rfl (rf_X10_end_J12 this M)
/-! BarPilotModel.wordOf(I)Ljava/lang/String; -/
def f_X10_wordOf (l0 : Int32) (M : Mem) : Option (UInt32 × Mem) :=
  (tsw l0 (0) [
    (some ((1 : UInt32), M)),
    (some ((2 : UInt32), M)),
    (some ((3 : UInt32), M)),
    (some ((4 : UInt32), M)),
    (some ((5 : UInt32), M)),
    (some ((6 : UInt32), M)),
    (some ((7 : UInt32), M)),
    (some ((8 : UInt32), M)),
    (some ((9 : UInt32), M)),
    (some ((10 : UInt32), M))]
    (some ((11 : UInt32), M)))
set_option maxHeartbeats 2000000 in
set_option maxRecDepth 20000 in
theorem rm_X10_wordOf (l0 : Int32) (M : Mem) : RFm yX10_wordOf cX10_wordOf 1 (some (.object "java/lang/String")) 1 eC (f_X10_wordOf l0 M) [.int l0] M := by
  refine RFm_of (L := [(0, .int l0)]) (by decide) rfl (Nat.le_trans (c_I c_0) (by decide)) ?_
  rw [f_X10_wordOf]
  refine R_iload_n (pc' := 1) (i := 0) (j := 0) (x := l0) dX10_wordOf_0 rfl rfl rfl ?_
  refine R_tsw (tgt := 86) (x := l0) dX10_wordOf_1 rfl (by decide) ?_ ⟨⟨56, by decide, ?_⟩, ⟨59, by decide, ?_⟩, ⟨62, by decide, ?_⟩, ⟨65, by decide, ?_⟩, ⟨68, by decide, ?_⟩, ⟨71, by decide, ?_⟩, ⟨74, by decide, ?_⟩, ⟨77, by decide, ?_⟩, ⟨80, by decide, ?_⟩, ⟨83, by decide, ?_⟩, trivial⟩
  · refine R_kstr (pc' := 88) (u := (11 : UInt32)) (i := 10) rfl (by decide) rfl rfl dX10_wordOf_86 rfl ?_
    exact R_cret (Or.inl ⟨_, rfl⟩) dX10_wordOf_88
  · refine R_kstr (pc' := 58) (u := (1 : UInt32)) (i := 0) rfl (by decide) rfl rfl dX10_wordOf_56 rfl ?_
    exact R_cret (Or.inl ⟨_, rfl⟩) dX10_wordOf_58
  · refine R_kstr (pc' := 61) (u := (2 : UInt32)) (i := 1) rfl (by decide) rfl rfl dX10_wordOf_59 rfl ?_
    exact R_cret (Or.inl ⟨_, rfl⟩) dX10_wordOf_61
  · refine R_kstr (pc' := 64) (u := (3 : UInt32)) (i := 2) rfl (by decide) rfl rfl dX10_wordOf_62 rfl ?_
    exact R_cret (Or.inl ⟨_, rfl⟩) dX10_wordOf_64
  · refine R_kstr (pc' := 67) (u := (4 : UInt32)) (i := 3) rfl (by decide) rfl rfl dX10_wordOf_65 rfl ?_
    exact R_cret (Or.inl ⟨_, rfl⟩) dX10_wordOf_67
  · refine R_kstr (pc' := 70) (u := (5 : UInt32)) (i := 4) rfl (by decide) rfl rfl dX10_wordOf_68 rfl ?_
    exact R_cret (Or.inl ⟨_, rfl⟩) dX10_wordOf_70
  · refine R_kstr (pc' := 73) (u := (6 : UInt32)) (i := 5) rfl (by decide) rfl rfl dX10_wordOf_71 rfl ?_
    exact R_cret (Or.inl ⟨_, rfl⟩) dX10_wordOf_73
  · refine R_kstr (pc' := 76) (u := (7 : UInt32)) (i := 6) rfl (by decide) rfl rfl dX10_wordOf_74 rfl ?_
    exact R_cret (Or.inl ⟨_, rfl⟩) dX10_wordOf_76
  · refine R_kstr (pc' := 79) (u := (8 : UInt32)) (i := 7) rfl (by decide) rfl rfl dX10_wordOf_77 rfl ?_
    exact R_cret (Or.inl ⟨_, rfl⟩) dX10_wordOf_79
  · refine R_kstr (pc' := 82) (u := (9 : UInt32)) (i := 8) rfl (by decide) rfl rfl dX10_wordOf_80 rfl ?_
    exact R_cret (Or.inl ⟨_, rfl⟩) dX10_wordOf_82
  · refine R_kstr (pc' := 85) (u := (10 : UInt32)) (i := 9) rfl (by decide) rfl rfl dX10_wordOf_83 rfl ?_
    exact R_cret (Or.inl ⟨_, rfl⟩) dX10_wordOf_85
/-! BarPilotModel.fails(II)V -/
def f_X10_fails_J23 (this : Nat) (s0 : Int32) (s1 : Option Nat) (M : Mem) : Option (Unit × Mem) :=
  (pI M 10 19 s1 s0).bind fun M =>
  some ((), M)
set_option maxHeartbeats 2000000 in
set_option maxRecDepth 20000 in
theorem rf_X10_fails_J23 (this : Nat) (s0 : Int32) (s1 : Option Nat) (M : Mem) : RF yX10_fails cX10_fails 3 none 1 eV (f_X10_fails_J23 this s0 s1 M) 23 [] [.int s0, va_rf s1] M := by
  rw [f_X10_fails_J23]
  refine R_putI (pc' := 26) (q := s1) (x := s0) fl_X10_165 (Or.inl rfl) dX10_fails_23 rfl (fun M => ?_)
  exact R_vret dX10_fails_26
def f_X10_fails (this : Nat) (l1 : Int32) (l2 : Int32) (M : Mem) : Option (Unit × Mem) :=
  (gI M 10 19 (some this)).bind fun fault1 =>
  (if fault1 = 0 then
    (f_X10_fails_J23 this (((nI 1) + ((nI 8) * l2)) + l1) (some this) M)
  else
    ((gI M 10 19 (some this)).bind fun fault2 =>
    f_X10_fails_J23 this fault2 (some this) M))
set_option maxHeartbeats 2000000 in
set_option maxRecDepth 20000 in
theorem rm_X10_fails (this : Nat) (l1 : Int32) (l2 : Int32) (M : Mem) : RFm yX10_fails cX10_fails 3 none 1 eV (f_X10_fails this l1 l2 M) [va_rf (some this), .int l1, .int l2] M := by
  refine RFm_of (L := [(0, va_rf (some this)), (1, .int l1), (2, .int l2)]) (by decide) rfl (Nat.le_trans (c_R (c_I (c_I c_0))) (by decide)) ?_
  rw [f_X10_fails]
  refine R_aloadq_n (pc' := 1) (i := 0) (j := 0) (q := (some this)) dX10_fails_0 rfl rfl rfl ?_
  refine R_aloadq_n (pc' := 2) (i := 0) (j := 0) (q := (some this)) dX10_fails_1 rfl rfl rfl ?_
  refine R_getI (pc' := 5) (q := (some this)) fl_X10_165 rfl dX10_fails_2 rfl (fun fault1 => ?_)
  refine R_if_ne (pc' := 8) (tgt := 19) (a := fault1) dX10_fails_5 (by decide) rfl ?_ ?_
  · refine R_aloadq_n (pc' := 20) (i := 0) (j := 0) (q := (some this)) dX10_fails_19 rfl rfl rfl ?_
    refine R_getI (pc' := 23) (q := (some this)) fl_X10_165 rfl dX10_fails_20 rfl (fun fault2 => ?_)
    exact R_sub [] rfl (rf_X10_fails_J23 this fault2 (some this) M)
  · refine R_iconst (pc' := 9) (x := (nI 1)) dX10_fails_8 rfl (by decide) ?_
    refine R_bipush (pc' := 11) (x := (nI 8)) dX10_fails_9 rfl (by decide) ?_
    refine R_iload_n (pc' := 12) (i := 2) (j := 2) (x := l2) dX10_fails_11 rfl rfl rfl ?_
    refine R_imul (pc' := 13) (a := (nI 8)) (b := l2) dX10_fails_12 rfl ?_
    refine R_iadd (pc' := 14) (a := (nI 1)) (b := ((nI 8) * l2)) dX10_fails_13 rfl ?_
    refine R_iload_n (pc' := 15) (i := 1) (j := 1) (x := l1) dX10_fails_14 rfl rfl rfl ?_
    refine R_iadd (pc' := 16) (a := ((nI 1) + ((nI 8) * l2))) (b := l1) dX10_fails_15 rfl ?_
    refine R_goto (tgt := 23) dX10_fails_16 (by decide) ?_
    exact R_sub [] rfl (rf_X10_fails_J23 this (((nI 1) + ((nI 8) * l2)) + l1) (some this) M)
/-! BarPilotModel.sign()I -/
def f_X10_sign_J28 (this : Nat) (s0 : Int32) (M : Mem) : Option (Int32 × Mem) :=
  some (s0, M)
set_option maxHeartbeats 2000000 in
set_option maxRecDepth 20000 in
theorem rf_X10_sign_J28 (this : Nat) (s0 : Int32) (M : Mem) : RF yX10_sign cX10_sign 1 (some .int) 1 eI (f_X10_sign_J28 this s0 M) 28 [] [.int s0] M := by
  rw [f_X10_sign_J28]
  exact R_iret dX10_sign_28
def f_X10_sign (this : Nat) (M : Mem) : Option (Int32 × Mem) :=
  (gI M 10 18 (some this)).bind fun p1 =>
  (gI M 10 17 (some this)).bind fun taped2 =>
  (if taped2 ≤ p1 then
    (f_X10_sign_J28 this (-1 : Int32) M)
  else
    ((gR M 10 27 (some this)).bind fun tape3 =>
    (gI M 10 18 (some this)).bind fun p4 =>
    (aI M 1 tape3 p4).bind fun e5 =>
    f_X10_sign_J28 this (e5 &&& (nI 255)) M))
set_option maxHeartbeats 2000000 in
set_option maxRecDepth 20000 in
theorem rm_X10_sign (this : Nat) (M : Mem) : RFm yX10_sign cX10_sign 1 (some .int) 1 eI (f_X10_sign this M) [va_rf (some this)] M := by
  refine RFm_of (L := [(0, va_rf (some this))]) (by decide) rfl (Nat.le_trans (c_R c_0) (by decide)) ?_
  rw [f_X10_sign]
  refine R_aloadq_n (pc' := 1) (i := 0) (j := 0) (q := (some this)) dX10_sign_0 rfl rfl rfl ?_
  refine R_getI (pc' := 4) (q := (some this)) fl_X10_168 rfl dX10_sign_1 rfl (fun p1 => ?_)
  refine R_aloadq_n (pc' := 5) (i := 0) (j := 0) (q := (some this)) dX10_sign_4 rfl rfl rfl ?_
  refine R_getI (pc' := 8) (q := (some this)) fl_X10_139 rfl dX10_sign_5 rfl (fun taped2 => ?_)
  refine R_icmp_ge (pc' := 11) (tgt := 27) (a := p1) (b := taped2) dX10_sign_8 (by decide) rfl ?_ ?_
  · refine R_iconst (pc' := 28) (x := (-1 : Int32)) dX10_sign_27 rfl (by decide) ?_
    exact R_sub [] rfl (rf_X10_sign_J28 this (-1 : Int32) M)
  · refine R_aloadq_n (pc' := 12) (i := 0) (j := 0) (q := (some this)) dX10_sign_11 rfl rfl rfl ?_
    refine R_getR (pc' := 15) (q := (some this)) fl_X10_62 rfl dX10_sign_12 rfl (fun tape3 => ?_)
    refine R_aloadq_n (pc' := 16) (i := 0) (j := 0) (q := (some this)) dX10_sign_15 rfl rfl rfl ?_
    refine R_getI (pc' := 19) (q := (some this)) fl_X10_168 rfl dX10_sign_16 rfl (fun p4 => ?_)
    refine R_bald (pc' := 20) (q := tape3) (i := p4) dX10_sign_19 rfl (fun e5 => ?_)
    refine R_sipush (pc' := 23) (x := (nI 255)) dX10_sign_20 rfl (by decide) ?_
    refine R_iand (pc' := 24) (a := e5) (b := (nI 255)) dX10_sign_23 rfl ?_
    refine R_goto (tgt := 28) dX10_sign_24 (by decide) ?_
    exact R_sub [] rfl (rf_X10_sign_J28 this (e5 &&& (nI 255)) M)
