/-! what the statement gives of the texts and of WORDS -/
def FLt : List Cond := flatC (Jvm.Cond.and given_1 narrow_1)
theorem fs_ex : (List.range 18).all (fun i => decide (Cond.exactly (tmS i) "java/lang/String" ∈ FLt)) = true := by decide +kernel
theorem fs_co : (List.range 18).all (fun i => decide (Cond.eq (.field (tmS i) "java/lang/String" "coder" "B") (.int 0) ∈ FLt)) = true := by decide +kernel
theorem fs_ar : (List.range 18).all (fun i => decide (Cond.arrayOf (.field (tmS i) "java/lang/String" "value" "[B") .byte ∈ FLt)) = true := by decide +kernel
theorem fs_le : (List.range 18).all (fun i => decide (Cond.eq (.length (.field (tmS i) "java/lang/String" "value" "[B")) (.int (Int32.ofNat (STRn.getD i 0))) ∈ FLt)) = true := by decide +kernel
theorem fs_el : (List.range 18).all (fun i => (List.range (STRn.getD i 0)).all (fun j => decide (Cond.eq (.elem (.field (tmS i) "java/lang/String" "value" "[B") (.int (Int32.ofNat j))) (.int ((STRb.getD i []).getD j 0)) ∈ FLt))) = true := by decide +kernel
theorem fs_rf : (List.range 18).all (fun i => decide (Cond.stringRef RX10 (STRk.getD i 0) (STRt.getD i "") ∈ lw_tbl)) = true := by decide +kernel
theorem fw_ar : Cond.arrayOf (.static RX5 "WORDS" "[J") .long ∈ FLt := by decide +kernel
theorem fw_le : Cond.eq (.length (.static RX5 "WORDS" "[J")) (.int (Int32.ofNat 11)) ∈ FLt := by decide +kernel
theorem fw_el : (List.range 11).all (fun j => decide (Cond.eq (.elem (.static RX5 "WORDS" "[J") (.int (Int32.ofNat j))) (.long (WRD.getD j 0)) ∈ FLt)) = true := by decide +kernel
theorem fc_cs : Cond.eq (.static "java/lang/String" "COMPACT_STRINGS" "Z") (.int 1) ∈ FLt := by decide +kernel
theorem fc_si : Cond.isRef (.static "jdk/internal/util/Preconditions" "SIOOBE_FORMATTER" "Ljava/util/function/BiFunction;") ∈ FLt := by decide +kernel
theorem fl_w : Cond.laysStatic RX5 "WORDS" "[J" ∈ lw_tbl := List.mem_of_getElem? (i := 627) (by decide +kernel)
theorem fl_c : Cond.laysStatic "java/lang/String" "COMPACT_STRINGS" "Z" ∈ lw_tbl := List.mem_of_getElem? (i := 1358) (by decide +kernel)
theorem fl_s : Cond.laysStatic "jdk/internal/util/Preconditions" "SIOOBE_FORMATTER" "Ljava/util/function/BiFunction;" ∈ lw_tbl := List.mem_of_getElem? (i := 1374) (by decide +kernel)
theorem fi_w : Cond.initialized RX5 ∈ lw_tbl := List.mem_of_getElem? (i := 112) (by decide +kernel)
theorem fi_c : Cond.initialized "java/lang/String" ∈ lw_tbl := List.mem_of_getElem? (i := 120) (by decide +kernel)
theorem fi_s : Cond.initialized "jdk/internal/util/Preconditions" ∈ lw_tbl := List.mem_of_getElem? (i := 122) (by decide +kernel)
