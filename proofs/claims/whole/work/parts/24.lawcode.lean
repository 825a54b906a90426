def f_L_law_J1216 (Lx : Nat) (xs : Nat → Int32) (k18 : Nat → Nat → Int32 → Mem → Option (Int32 × Mem)) (l1 : Nat) (l2 : Nat) (l3 : Int32) (M : Mem) : Option (Int32 × Mem) :=
  k18 l1 l2 (l3 + (nI 6)) M
set_option maxHeartbeats 4000000 in
set_option maxRecDepth 40000 in
theorem rf_L_law_J1216 {b : Nat} (Lx : Nat) (xs : Nat → Int32) (k18 : Nat → Nat → Int32 → Mem → Option (Int32 × Mem)) (hk18 : ∀ (l1 : Nat) (l2 : Nat) (l3 : Int32) (M : Mem), LF b Lx xs (k18 l1 l2 l3 M) 18 [(0, .float (300 : UInt32)), (1, va_rf (some l1)), (2, va_rf (some l2)), (3, .int l3)] [] M) (l1 : Nat) (l2 : Nat) (l3 : Int32) (M : Mem) : LF b Lx xs (f_L_law_J1216 Lx xs k18 l1 l2 l3 M) 1216 [(0, .float (300 : UInt32)), (1, va_rf (some l1)), (2, va_rf (some l2)), (3, .int l3)] [] M := by
  rw [f_L_law_J1216]
  refine L_iinc (pc' := 1219) (L' := [(3, .int (l3 + (nI 6))), (0, .float (300 : UInt32)), (1, va_rf (some l1)), (2, va_rf (some l2))]) (i := 3) (j := 3) (x := l3) (x2 := (l3 + (nI 6))) dL_law_1216 rfl rfl rfl (by decide) (by simp [stL, rf_cat, cat_I, cat_L, cat_C]) ?_
  refine L_goto (tgt := 18) dL_law_1219 (by decide) ?_
  exact L_sub [1, 2, 3, 0] rfl (hk18 l1 l2 (l3 + (nI 6)) M)
def f_L_law_L18 (Lx : Nat) (xs : Nat → Int32) : Nat → Nat → Nat → Int32 → Mem → Option (Int32 × Mem)
  | 0, _, _, _, _ => none
  | n + 1, l1, l2, l3, M =>
    (if ((Int32.ofNat Lx) - (nI 6)) < l3 then
      (some ((1 : Int32), M))
    else
      ((scr Lx xs l3).bind fun e1 =>
      (tsw (e1 &&& (nI 63)) (0) [
        ((scr Lx xs (l3 + (nI 1))).bind fun e2 =>
        (scr Lx xs (l3 + (nI 2))).bind fun e3 =>
        (scr Lx xs (l3 + (nI 3))).bind fun e4 =>
        (scr Lx xs (l3 + (nI 4))).bind fun e5 =>
        (scr Lx xs (l3 + (nI 5))).bind fun e6 =>
        (oO M 9 (some l1)).bind fun o15 => cl (f_X9_feed o15 e2 e3 e4 e5 e6 M) fun r7 M =>
        (scr Lx xs (l3 + (nI 1))).bind fun e8 =>
        (scr Lx xs (l3 + (nI 2))).bind fun e9 =>
        (scr Lx xs (l3 + (nI 3))).bind fun e10 =>
        (scr Lx xs (l3 + (nI 4))).bind fun e11 =>
        (scr Lx xs (l3 + (nI 5))).bind fun e12 =>
        (oO M 10 (some l2)).bind fun o14 => cl (f_X10_feed o14 e8 e9 e10 e11 e12 M) fun r13 M =>
        (if r7 = r13 then
          (f_L_law_J1216 Lx xs (f_L_law_L18 Lx xs n) l1 l2 l3 M)
        else
          (some ((0 : Int32), M)))),
        ((scr Lx xs (l3 + (nI 1))).bind fun e16 =>
        (oO M 9 (some l1)).bind fun o21 => cl (f_X9_end o21 e16 M) fun r17 M =>
        (scr Lx xs (l3 + (nI 1))).bind fun e18 =>
        (oO M 10 (some l2)).bind fun o20 => cl (f_X10_end o20 e18 M) fun r19 M =>
        (if r17 = r19 then
          (f_L_law_J1216 Lx xs (f_L_law_L18 Lx xs n) l1 l2 l3 M)
        else
          (some ((0 : Int32), M)))),
        ((oO M 9 (some l1)).bind fun o25 => cl (f_X9_bar o25 M) fun r22 M =>
        (oO M 10 (some l2)).bind fun o24 => cl (f_X10_bar o24 M) fun r23 M =>
        (if r22 = r23 then
          (f_L_law_J1216 Lx xs (f_L_law_L18 Lx xs n) l1 l2 l3 M)
        else
          (some ((0 : Int32), M)))),
        ((oO M 9 (some l1)).bind fun o29 => cl (f_X9_rule o29 M) fun r26 M =>
        (oO M 10 (some l2)).bind fun o28 => cl (f_X10_rule o28 M) fun r27 M =>
        (if r26 = r27 then
          (f_L_law_J1216 Lx xs (f_L_law_L18 Lx xs n) l1 l2 l3 M)
        else
          (some ((0 : Int32), M)))),
        ((scr Lx xs (l3 + (nI 1))).bind fun e30 =>
        (oO M 9 (some l1)).bind fun o35 => cl (f_X9_force o35 e30 M) fun r31 M =>
        (scr Lx xs (l3 + (nI 1))).bind fun e32 =>
        (oO M 10 (some l2)).bind fun o34 => cl (f_X10_force o34 e32 M) fun r33 M =>
        (if r31 = r33 then
          (f_L_law_J1216 Lx xs (f_L_law_L18 Lx xs n) l1 l2 l3 M)
        else
          (some ((0 : Int32), M)))),
        ((scr Lx xs (l3 + (nI 1))).bind fun e36 =>
        (scr Lx xs (l3 + (nI 2))).bind fun e37 =>
        (oO M 9 (some l1)).bind fun o43 => cl (f_X9_joke o43 e36 e37 M) fun r38 M =>
        (scr Lx xs (l3 + (nI 1))).bind fun e39 =>
        (scr Lx xs (l3 + (nI 2))).bind fun e40 =>
        (oO M 10 (some l2)).bind fun o42 => cl (f_X10_joke o42 e39 e40 M) fun r41 M =>
        (if r38 = r41 then
          (f_L_law_J1216 Lx xs (f_L_law_L18 Lx xs n) l1 l2 l3 M)
        else
          (some ((0 : Int32), M)))),
        ((scr Lx xs (l3 + (nI 1))).bind fun e44 =>
        (scr Lx xs (l3 + (nI 2))).bind fun e45 =>
        (oO M 9 (some l1)).bind fun o51 => cl (f_X9_ship o51 e44 e45 M) fun r46 M =>
        (scr Lx xs (l3 + (nI 1))).bind fun e47 =>
        (scr Lx xs (l3 + (nI 2))).bind fun e48 =>
        (oO M 10 (some l2)).bind fun o50 => cl (f_X10_ship o50 e47 e48 M) fun r49 M =>
        (if r46 = r49 then
          (f_L_law_J1216 Lx xs (f_L_law_L18 Lx xs n) l1 l2 l3 M)
        else
          (some ((0 : Int32), M)))),
        ((oO M 9 (some l1)).bind fun o55 => cl (f_X9_tide o55 M) fun r52 M =>
        (oO M 10 (some l2)).bind fun o54 => cl (f_X10_tide o54 M) fun r53 M =>
        (if r52 = r53 then
          (f_L_law_J1216 Lx xs (f_L_law_L18 Lx xs n) l1 l2 l3 M)
        else
          (some ((0 : Int32), M)))),
        ((scr Lx xs (l3 + (nI 1))).bind fun e56 =>
        (scr Lx xs (l3 + (nI 2))).bind fun e57 =>
        (oO M 9 (some l1)).bind fun o63 => cl (f_X9_say o63 e56 e57 M) fun r58 M =>
        (scr Lx xs (l3 + (nI 1))).bind fun e59 =>
        (scr Lx xs (l3 + (nI 2))).bind fun e60 =>
        (oO M 10 (some l2)).bind fun o62 => cl (f_X10_say o62 e59 e60 M) fun r61 M =>
        (if r58 = r61 then
          (f_L_law_J1216 Lx xs (f_L_law_L18 Lx xs n) l1 l2 l3 M)
        else
          (some ((0 : Int32), M)))),
        ((scr Lx xs (l3 + (nI 1))).bind fun e64 =>
        (scr Lx xs (l3 + (nI 2))).bind fun e65 =>
        (oO M 9 (some l1)).bind fun o71 => cl (f_X9_trade o71 e64 e65 M) fun r66 M =>
        (scr Lx xs (l3 + (nI 1))).bind fun e67 =>
        (scr Lx xs (l3 + (nI 2))).bind fun e68 =>
        (oO M 10 (some l2)).bind fun o70 => cl (f_X10_trade o70 e67 e68 M) fun r69 M =>
        (if r66 = r69 then
          (f_L_law_J1216 Lx xs (f_L_law_L18 Lx xs n) l1 l2 l3 M)
        else
          (some ((0 : Int32), M)))),
        ((scr Lx xs (l3 + (nI 1))).bind fun e72 =>
        (scr Lx xs (l3 + (nI 2))).bind fun e73 =>
        (oO M 9 (some l1)).bind fun o79 => cl (f_X9_coin o79 e72 e73 M) fun r74 M =>
        (scr Lx xs (l3 + (nI 1))).bind fun e75 =>
        (scr Lx xs (l3 + (nI 2))).bind fun e76 =>
        (oO M 10 (some l2)).bind fun o78 => cl (f_X10_coin o78 e75 e76 M) fun r77 M =>
        (if r74 = r77 then
          (f_L_law_J1216 Lx xs (f_L_law_L18 Lx xs n) l1 l2 l3 M)
        else
          (some ((0 : Int32), M)))),
        ((scr Lx xs (l3 + (nI 1))).bind fun e80 =>
        (oO M 9 (some l1)).bind fun o85 => cl (f_X9_dull o85 e80 M) fun r81 M =>
        (scr Lx xs (l3 + (nI 1))).bind fun e82 =>
        (oO M 10 (some l2)).bind fun o84 => cl (f_X10_dull o84 e82 M) fun r83 M =>
        (if r81 = r83 then
          (f_L_law_J1216 Lx xs (f_L_law_L18 Lx xs n) l1 l2 l3 M)
        else
          (some ((0 : Int32), M)))),
        ((oO M 9 (some l1)).bind fun o89 => cl (f_X9_undo o89 M) fun r86 M =>
        (oO M 10 (some l2)).bind fun o88 => cl (f_X10_undo o88 M) fun r87 M =>
        (if r86 = r87 then
          (f_L_law_J1216 Lx xs (f_L_law_L18 Lx xs n) l1 l2 l3 M)
        else
          (some ((0 : Int32), M)))),
        ((scr Lx xs (l3 + (nI 1))).bind fun e90 =>
        (scr Lx xs (l3 + (nI 2))).bind fun e91 =>
        (scr Lx xs (l3 + (nI 3))).bind fun e92 =>
        (oO M 9 (some l1)).bind fun o99 => cl (f_X9_ahead o99 e90 e91 e92 M) fun r93 M =>
        (scr Lx xs (l3 + (nI 1))).bind fun e94 =>
        (scr Lx xs (l3 + (nI 2))).bind fun e95 =>
        (scr Lx xs (l3 + (nI 3))).bind fun e96 =>
        (oO M 10 (some l2)).bind fun o98 => cl (f_X10_ahead o98 e94 e95 e96 M) fun r97 M =>
        (if r93 = r97 then
          (f_L_law_J1216 Lx xs (f_L_law_L18 Lx xs n) l1 l2 l3 M)
        else
          (some ((0 : Int32), M)))),
        ((scr Lx xs (l3 + (nI 1))).bind fun e100 =>
        (scr Lx xs (l3 + (nI 2))).bind fun e101 =>
        (oO M 9 (some l1)).bind fun o107 => cl (f_X9_over o107 e100 e101 M) fun r102 M =>
        (scr Lx xs (l3 + (nI 1))).bind fun e103 =>
        (scr Lx xs (l3 + (nI 2))).bind fun e104 =>
        (oO M 10 (some l2)).bind fun o106 => cl (f_X10_over o106 e103 e104 M) fun r105 M =>
        (if r102 = r105 then
          (f_L_law_J1216 Lx xs (f_L_law_L18 Lx xs n) l1 l2 l3 M)
        else
          (some ((0 : Int32), M)))),
        ((scr Lx xs (l3 + (nI 1))).bind fun e108 =>
        (scr Lx xs (l3 + (nI 2))).bind fun e109 =>
        (oO M 9 (some l1)).bind fun o115 => cl (f_X9_alike o115 e108 e109 M) fun r110 M =>
        (scr Lx xs (l3 + (nI 1))).bind fun e111 =>
        (scr Lx xs (l3 + (nI 2))).bind fun e112 =>
        (oO M 10 (some l2)).bind fun o114 => cl (f_X10_alike o114 e111 e112 M) fun r113 M =>
        (if r110 = r113 then
          (f_L_law_J1216 Lx xs (f_L_law_L18 Lx xs n) l1 l2 l3 M)
        else
          (some ((0 : Int32), M)))),
        ((oO M 9 (some l1)).bind fun o119 => cl (f_X9_fresh o119 M) fun r116 M =>
        (oO M 10 (some l2)).bind fun o118 => cl (f_X10_fresh o118 M) fun r117 M =>
        (if r116 = r117 then
          (f_L_law_J1216 Lx xs (f_L_law_L18 Lx xs n) l1 l2 l3 M)
        else
          (some ((0 : Int32), M)))),
        ((oO M 9 (some l1)).bind fun o123 => cl (f_X9_least o123 M) fun r120 M =>
        (oO M 10 (some l2)).bind fun o122 => cl (f_X10_least o122 M) fun r121 M =>
        (if r120 = r121 then
          (f_L_law_J1216 Lx xs (f_L_law_L18 Lx xs n) l1 l2 l3 M)
        else
          (some ((0 : Int32), M)))),
        ((scr Lx xs (l3 + (nI 1))).bind fun e124 =>
        (scr Lx xs (l3 + (nI 2))).bind fun e125 =>
        (scr Lx xs (l3 + (nI 3))).bind fun e126 =>
        (oO M 9 (some l1)).bind fun o133 => cl (f_X9_row o133 e124 e125 e126 M) fun r127 M =>
        (scr Lx xs (l3 + (nI 1))).bind fun e128 =>
        (scr Lx xs (l3 + (nI 2))).bind fun e129 =>
        (scr Lx xs (l3 + (nI 3))).bind fun e130 =>
        (oO M 10 (some l2)).bind fun o132 => cl (f_X10_row o132 e128 e129 e130 M) fun r131 M =>
        (if r127 = r131 then
          (f_L_law_J1216 Lx xs (f_L_law_L18 Lx xs n) l1 l2 l3 M)
        else
          (some ((0 : Int32), M)))),
        ((scr Lx xs (l3 + (nI 1))).bind fun e134 =>
        (scr Lx xs (l3 + (nI 2))).bind fun e135 =>
        (oO M 9 (some l1)).bind fun o141 => cl (f_X9_forget o141 e134 e135 M) fun r136 M =>
        (scr Lx xs (l3 + (nI 1))).bind fun e137 =>
        (scr Lx xs (l3 + (nI 2))).bind fun e138 =>
        (oO M 10 (some l2)).bind fun o140 => cl (f_X10_forget o140 e137 e138 M) fun r139 M =>
        (if r136 = r139 then
          (f_L_law_J1216 Lx xs (f_L_law_L18 Lx xs n) l1 l2 l3 M)
        else
          (some ((0 : Int32), M)))),
        ((scr Lx xs (l3 + (nI 1))).bind fun e142 =>
        (scr Lx xs (l3 + (nI 2))).bind fun e143 =>
        (oO M 9 (some l1)).bind fun o149 => cl (f_X9_barter o149 e142 e143 M) fun r144 M =>
        (scr Lx xs (l3 + (nI 1))).bind fun e145 =>
        (scr Lx xs (l3 + (nI 2))).bind fun e146 =>
        (oO M 10 (some l2)).bind fun o148 => cl (f_X10_barter o148 e145 e146 M) fun r147 M =>
        (if r144 = r147 then
          (f_L_law_J1216 Lx xs (f_L_law_L18 Lx xs n) l1 l2 l3 M)
        else
          (some ((0 : Int32), M)))),
        ((scr Lx xs (l3 + (nI 1))).bind fun e150 =>
        (scr Lx xs (l3 + (nI 2))).bind fun e151 =>
        (oO M 9 (some l1)).bind fun o157 => cl (f_X9_school o157 e150 e151 M) fun r152 M =>
        (scr Lx xs (l3 + (nI 1))).bind fun e153 =>
        (scr Lx xs (l3 + (nI 2))).bind fun e154 =>
        (oO M 10 (some l2)).bind fun o156 => cl (f_X10_school o156 e153 e154 M) fun r155 M =>
        (if r152 = r155 then
          (f_L_law_J1216 Lx xs (f_L_law_L18 Lx xs n) l1 l2 l3 M)
        else
          (some ((0 : Int32), M)))),
        ((scr Lx xs (l3 + (nI 1))).bind fun e158 =>
        (scr Lx xs (l3 + (nI 2))).bind fun e159 =>
        (scr Lx xs (l3 + (nI 3))).bind fun e160 =>
        (scr Lx xs (l3 + (nI 4))).bind fun e161 =>
        (oO M 9 (some l1)).bind fun o169 => cl (f_X9_old o169 e158 e159 e160 e161 M) fun r162 M =>
        (scr Lx xs (l3 + (nI 1))).bind fun e163 =>
        (scr Lx xs (l3 + (nI 2))).bind fun e164 =>
        (scr Lx xs (l3 + (nI 3))).bind fun e165 =>
        (scr Lx xs (l3 + (nI 4))).bind fun e166 =>
        (oO M 10 (some l2)).bind fun o168 => cl (f_X10_old o168 e163 e164 e165 e166 M) fun r167 M =>
        (if r162 = r167 then
          (f_L_law_J1216 Lx xs (f_L_law_L18 Lx xs n) l1 l2 l3 M)
        else
          (some ((0 : Int32), M)))),
        ((scr Lx xs (l3 + (nI 1))).bind fun e170 =>
        (scr Lx xs (l3 + (nI 2))).bind fun e171 =>
        (scr Lx xs (l3 + (nI 3))).bind fun e172 =>
        (scr Lx xs (l3 + (nI 4))).bind fun e173 =>
        (oO M 9 (some l1)).bind fun o181 => cl (f_X9_game o181 e170 e171 e172 e173 M) fun r174 M =>
        (scr Lx xs (l3 + (nI 1))).bind fun e175 =>
        (scr Lx xs (l3 + (nI 2))).bind fun e176 =>
        (scr Lx xs (l3 + (nI 3))).bind fun e177 =>
        (scr Lx xs (l3 + (nI 4))).bind fun e178 =>
        (oO M 10 (some l2)).bind fun o180 => cl (f_X10_game o180 e175 e176 e177 e178 M) fun r179 M =>
        (if r174 = r179 then
          (f_L_law_J1216 Lx xs (f_L_law_L18 Lx xs n) l1 l2 l3 M)
        else
          (some ((0 : Int32), M)))),
        ((scr Lx xs (l3 + (nI 1))).bind fun e182 =>
        (scr Lx xs (l3 + (nI 2))).bind fun e183 =>
        (oO M 9 (some l1)).bind fun o189 => cl (f_X9_parts o189 e182 e183 M) fun r184 M =>
        (scr Lx xs (l3 + (nI 1))).bind fun e185 =>
        (scr Lx xs (l3 + (nI 2))).bind fun e186 =>
        (oO M 10 (some l2)).bind fun o188 => cl (f_X10_parts o188 e185 e186 M) fun r187 M =>
        (if r184 = r187 then
          (f_L_law_J1216 Lx xs (f_L_law_L18 Lx xs n) l1 l2 l3 M)
        else
          (some ((0 : Int32), M)))),
        ((scr Lx xs (l3 + (nI 1))).bind fun e190 =>
        (oO M 9 (some l1)).bind fun o195 => cl (f_X9_order o195 e190 M) fun r191 M =>
        (scr Lx xs (l3 + (nI 1))).bind fun e192 =>
        (oO M 10 (some l2)).bind fun o194 => cl (f_X10_order o194 e192 M) fun r193 M =>
        (if r191 = r193 then
          (f_L_law_J1216 Lx xs (f_L_law_L18 Lx xs n) l1 l2 l3 M)
        else
          (some ((0 : Int32), M)))),
        ((scr Lx xs (l3 + (nI 1))).bind fun e196 =>
        (scr Lx xs (l3 + (nI 2))).bind fun e197 =>
        (scr Lx xs (l3 + (nI 3))).bind fun e198 =>
        (oO M 9 (some l1)).bind fun o205 => cl (f_X9_note o205 e196 e197 e198 M) fun r199 M =>
        (scr Lx xs (l3 + (nI 1))).bind fun e200 =>
        (scr Lx xs (l3 + (nI 2))).bind fun e201 =>
        (scr Lx xs (l3 + (nI 3))).bind fun e202 =>
        (oO M 10 (some l2)).bind fun o204 => cl (f_X10_note o204 e200 e201 e202 M) fun r203 M =>
        (if r199 = r203 then
          (f_L_law_J1216 Lx xs (f_L_law_L18 Lx xs n) l1 l2 l3 M)
        else
          (some ((0 : Int32), M)))),
        ((scr Lx xs (l3 + (nI 1))).bind fun e206 =>
        (oO M 9 (some l1)).bind fun o211 => cl (f_X9_ruled o211 e206 M) fun r207 M =>
        (scr Lx xs (l3 + (nI 1))).bind fun e208 =>
        (oO M 10 (some l2)).bind fun o210 => cl (f_X10_ruled o210 e208 M) fun r209 M =>
        (if r207 = r209 then
          (f_L_law_J1216 Lx xs (f_L_law_L18 Lx xs n) l1 l2 l3 M)
        else
          (some ((0 : Int32), M)))),
        ((scr Lx xs (l3 + (nI 1))).bind fun e212 =>
        (scr Lx xs (l3 + (nI 2))).bind fun e213 =>
        (oO M 9 (some l1)).bind fun o219 => cl (f_X9_look o219 e212 e213 M) fun r214 M =>
        (scr Lx xs (l3 + (nI 1))).bind fun e215 =>
        (scr Lx xs (l3 + (nI 2))).bind fun e216 =>
        (oO M 10 (some l2)).bind fun o218 => cl (f_X10_look o218 e215 e216 M) fun r217 M =>
        (if r214 = r217 then
          (f_L_law_J1216 Lx xs (f_L_law_L18 Lx xs n) l1 l2 l3 M)
        else
          (some ((0 : Int32), M)))),
        ((scr Lx xs (l3 + (nI 1))).bind fun e220 =>
        (oO M 9 (some l1)).bind fun o225 => cl (f_X9_seed o225 e220 M) fun r221 M =>
        (scr Lx xs (l3 + (nI 1))).bind fun e222 =>
        (oO M 10 (some l2)).bind fun o224 => cl (f_X10_seed o224 e222 M) fun r223 M =>
        (if r221 = r223 then
          (f_L_law_J1216 Lx xs (f_L_law_L18 Lx xs n) l1 l2 l3 M)
        else
          (some ((0 : Int32), M)))),
        ((scr Lx xs (l3 + (nI 1))).bind fun e226 =>
        (scr Lx xs (l3 + (nI 2))).bind fun e227 =>
        (scr Lx xs (l3 + (nI 3))).bind fun e228 =>
        (scr Lx xs (l3 + (nI 4))).bind fun e229 =>
        (oO M 9 (some l1)).bind fun o237 => cl (f_X9_parrots o237 e226 e227 e228 e229 M) fun r230 M =>
        (scr Lx xs (l3 + (nI 1))).bind fun e231 =>
        (scr Lx xs (l3 + (nI 2))).bind fun e232 =>
        (scr Lx xs (l3 + (nI 3))).bind fun e233 =>
        (scr Lx xs (l3 + (nI 4))).bind fun e234 =>
        (oO M 10 (some l2)).bind fun o236 => cl (f_X10_parrots o236 e231 e232 e233 e234 M) fun r235 M =>
        (if r230 = r235 then
          (f_L_law_J1216 Lx xs (f_L_law_L18 Lx xs n) l1 l2 l3 M)
        else
          (some ((0 : Int32), M)))),
        ((scr Lx xs (l3 + (nI 1))).bind fun e238 =>
        (oO M 9 (some l1)).bind fun o243 => cl (f_X9_count o243 e238 M) fun r239 M =>
        (scr Lx xs (l3 + (nI 1))).bind fun e240 =>
        (oO M 10 (some l2)).bind fun o242 => cl (f_X10_count o242 e240 M) fun r241 M =>
        (if r239 = r241 then
          (f_L_law_J1216 Lx xs (f_L_law_L18 Lx xs n) l1 l2 l3 M)
        else
          (some ((0 : Int32), M)))),
        ((scr Lx xs (l3 + (nI 1))).bind fun e244 =>
        (oO M 9 (some l1)).bind fun o249 => cl (f_X9_image o249 e244 M) fun r245 M =>
        (scr Lx xs (l3 + (nI 1))).bind fun e246 =>
        (oO M 10 (some l2)).bind fun o248 => cl (f_X10_image o248 e246 M) fun r247 M =>
        (if r245 = r247 then
          (f_L_law_J1216 Lx xs (f_L_law_L18 Lx xs n) l1 l2 l3 M)
        else
          (some ((0 : Int32), M)))),
        ((scr Lx xs (l3 + (nI 1))).bind fun e250 =>
        (oO M 9 (some l1)).bind fun o255 => cl (f_X9_back o255 e250 M) fun r251 M =>
        (scr Lx xs (l3 + (nI 1))).bind fun e252 =>
        (oO M 10 (some l2)).bind fun o254 => cl (f_X10_back o254 e252 M) fun r253 M =>
        (if r251 = r253 then
          (f_L_law_J1216 Lx xs (f_L_law_L18 Lx xs n) l1 l2 l3 M)
        else
          (some ((0 : Int32), M))))]
        (f_L_law_J1216 Lx xs (f_L_law_L18 Lx xs n) l1 l2 l3 M))))
set_option maxHeartbeats 4000000 in
set_option maxRecDepth 40000 in
theorem rf_L_law_L18 {b : Nat} (Lx : Nat) (xs : Nat → Int32) : ∀ (n : Nat) (l1 : Nat) (l2 : Nat) (l3 : Int32) (M : Mem), LF b Lx xs (f_L_law_L18 Lx xs n l1 l2 l3 M) 18 [(0, .float (300 : UInt32)), (1, va_rf (some l1)), (2, va_rf (some l2)), (3, .int l3)] [] M := by
  intro n
  induction n with
  | zero => intro _ _ _ _; exact LF.none
  | succ n ih =>
    intro l1 l2 l3 M
    rw [f_L_law_L18]
    refine L_iload_n (pc' := 19) (i := 3) (j := 3) (x := l3) dL_law_18 rfl rfl rfl ?_
    refine L_aloadc_n (pc' := 20) (i := 0) (j := 0) (u := (300 : UInt32)) dL_law_19 rfl rfl rfl ?_
    refine L_slen (pc' := 21) dL_law_20 rfl ?_
    refine L_bipush (pc' := 23) (x := (nI 6)) dL_law_21 rfl (by decide) ?_
    refine L_isub (pc' := 24) (a := (Int32.ofNat Lx)) (a2 := (nI 6)) dL_law_23 rfl ?_
    refine L_icmp_gt (pc' := 27) (tgt := 1222) (a := l3) (a2 := ((Int32.ofNat Lx) - (nI 6))) dL_law_24 (by decide) rfl ?_ ?_
    · refine L_iconst (pc' := 1223) (x := (nI 1)) dL_law_1222 rfl (by decide) ?_
      exact L_ret1 dL_law_1223
    · refine L_aloadc_n (pc' := 28) (i := 0) (j := 0) (u := (300 : UInt32)) dL_law_27 rfl rfl rfl ?_
      refine L_iload_n (pc' := 29) (i := 3) (j := 3) (x := l3) dL_law_28 rfl rfl rfl ?_
      refine L_sld (pc' := 30) (i := l3) dL_law_29 rfl (fun e1 => ?_)
      refine L_bipush (pc' := 32) (x := (nI 63)) dL_law_30 rfl (by decide) ?_
      refine L_iand (pc' := 33) (a := e1) (a2 := (nI 63)) dL_law_32 rfl ?_
      refine L_tsw (tgt := 1216) (x := (e1 &&& (nI 63))) dL_law_33 rfl (by decide) ?_ ⟨⟨184, by decide, ?_⟩, ⟨247, by decide, ?_⟩, ⟨270, by decide, ?_⟩, ⟨283, by decide, ?_⟩, ⟨296, by decide, ?_⟩, ⟨319, by decide, ?_⟩, ⟨352, by decide, ?_⟩, ⟨385, by decide, ?_⟩, ⟨398, by decide, ?_⟩, ⟨431, by decide, ?_⟩, ⟨464, by decide, ?_⟩, ⟨497, by decide, ?_⟩, ⟨520, by decide, ?_⟩, ⟨533, by decide, ?_⟩, ⟨576, by decide, ?_⟩, ⟨609, by decide, ?_⟩, ⟨642, by decide, ?_⟩, ⟨655, by decide, ?_⟩, ⟨668, by decide, ?_⟩, ⟨711, by decide, ?_⟩, ⟨744, by decide, ?_⟩, ⟨777, by decide, ?_⟩, ⟨810, by decide, ?_⟩, ⟨863, by decide, ?_⟩, ⟨916, by decide, ?_⟩, ⟨949, by decide, ?_⟩, ⟨972, by decide, ?_⟩, ⟨1015, by decide, ?_⟩, ⟨1038, by decide, ?_⟩, ⟨1071, by decide, ?_⟩, ⟨1094, by decide, ?_⟩, ⟨1147, by decide, ?_⟩, ⟨1170, by decide, ?_⟩, ⟨1193, by decide, ?_⟩, trivial⟩
      · exact L_sub [0, 1, 2, 3] rfl (rf_L_law_J1216 (b := b) Lx xs (f_L_law_L18 Lx xs n) ih l1 l2 l3 M)
      · refine L_aloadq_n (pc' := 185) (i := 1) (j := 1) (a := l1) dL_law_184 rfl rfl rfl ?_
        refine L_aloadc_n (pc' := 186) (i := 0) (j := 0) (u := (300 : UInt32)) dL_law_185 rfl rfl rfl ?_
        refine L_iload_n (pc' := 187) (i := 3) (j := 3) (x := l3) dL_law_186 rfl rfl rfl ?_
        refine L_iconst (pc' := 188) (x := (nI 1)) dL_law_187 rfl (by decide) ?_
        refine L_iadd (pc' := 189) (a := l3) (a2 := (nI 1)) dL_law_188 rfl ?_
        refine L_sld (pc' := 190) (i := (l3 + (nI 1))) dL_law_189 rfl (fun e2 => ?_)
        refine L_aloadc_n (pc' := 191) (i := 0) (j := 0) (u := (300 : UInt32)) dL_law_190 rfl rfl rfl ?_
        refine L_iload_n (pc' := 192) (i := 3) (j := 3) (x := l3) dL_law_191 rfl rfl rfl ?_
        refine L_iconst (pc' := 193) (x := (nI 2)) dL_law_192 rfl (by decide) ?_
        refine L_iadd (pc' := 194) (a := l3) (a2 := (nI 2)) dL_law_193 rfl ?_
        refine L_sld (pc' := 195) (i := (l3 + (nI 2))) dL_law_194 rfl (fun e3 => ?_)
        refine L_aloadc_n (pc' := 196) (i := 0) (j := 0) (u := (300 : UInt32)) dL_law_195 rfl rfl rfl ?_
        refine L_iload_n (pc' := 197) (i := 3) (j := 3) (x := l3) dL_law_196 rfl rfl rfl ?_
        refine L_iconst (pc' := 198) (x := (nI 3)) dL_law_197 rfl (by decide) ?_
        refine L_iadd (pc' := 199) (a := l3) (a2 := (nI 3)) dL_law_198 rfl ?_
        refine L_sld (pc' := 200) (i := (l3 + (nI 3))) dL_law_199 rfl (fun e4 => ?_)
        refine L_aloadc_n (pc' := 201) (i := 0) (j := 0) (u := (300 : UInt32)) dL_law_200 rfl rfl rfl ?_
        refine L_iload_n (pc' := 202) (i := 3) (j := 3) (x := l3) dL_law_201 rfl rfl rfl ?_
        refine L_iconst (pc' := 203) (x := (nI 4)) dL_law_202 rfl (by decide) ?_
        refine L_iadd (pc' := 204) (a := l3) (a2 := (nI 4)) dL_law_203 rfl ?_
        refine L_sld (pc' := 205) (i := (l3 + (nI 4))) dL_law_204 rfl (fun e5 => ?_)
        refine L_aloadc_n (pc' := 206) (i := 0) (j := 0) (u := (300 : UInt32)) dL_law_205 rfl rfl rfl ?_
        refine L_iload_n (pc' := 207) (i := 3) (j := 3) (x := l3) dL_law_206 rfl rfl rfl ?_
        refine L_iconst (pc' := 208) (x := (nI 5)) dL_law_207 rfl (by decide) ?_
        refine L_iadd (pc' := 209) (a := l3) (a2 := (nI 5)) dL_law_208 rfl ?_
        refine L_sld (pc' := 210) (i := (l3 + (nI 5))) dL_law_209 rfl (fun e6 => ?_)
        refine L_callV_I (pc' := 213) (q := (some l1)) (As := [.int e2, .int e3, .int e4, .int e5, .int e6]) (fun o15 => rm_X9_feed o15 e2 e3 e4 e5 e6 M) mf_X9_feed lk_L_13 im_X9_feed se_X9_feed rfl rfl rfl dL_law_210 rfl (by decide) (Nat.le_trans c_0 (by decide)) (fun r7 M => ?_)
        refine L_aloadq_n (pc' := 214) (i := 2) (j := 2) (a := l2) dL_law_213 rfl rfl rfl ?_
        refine L_aloadc_n (pc' := 215) (i := 0) (j := 0) (u := (300 : UInt32)) dL_law_214 rfl rfl rfl ?_
        refine L_iload_n (pc' := 216) (i := 3) (j := 3) (x := l3) dL_law_215 rfl rfl rfl ?_
        refine L_iconst (pc' := 217) (x := (nI 1)) dL_law_216 rfl (by decide) ?_
        refine L_iadd (pc' := 218) (a := l3) (a2 := (nI 1)) dL_law_217 rfl ?_
        refine L_sld (pc' := 219) (i := (l3 + (nI 1))) dL_law_218 rfl (fun e8 => ?_)
        refine L_aloadc_n (pc' := 220) (i := 0) (j := 0) (u := (300 : UInt32)) dL_law_219 rfl rfl rfl ?_
        refine L_iload_n (pc' := 221) (i := 3) (j := 3) (x := l3) dL_law_220 rfl rfl rfl ?_
        refine L_iconst (pc' := 222) (x := (nI 2)) dL_law_221 rfl (by decide) ?_
        refine L_iadd (pc' := 223) (a := l3) (a2 := (nI 2)) dL_law_222 rfl ?_
        refine L_sld (pc' := 224) (i := (l3 + (nI 2))) dL_law_223 rfl (fun e9 => ?_)
        refine L_aloadc_n (pc' := 225) (i := 0) (j := 0) (u := (300 : UInt32)) dL_law_224 rfl rfl rfl ?_
        refine L_iload_n (pc' := 226) (i := 3) (j := 3) (x := l3) dL_law_225 rfl rfl rfl ?_
        refine L_iconst (pc' := 227) (x := (nI 3)) dL_law_226 rfl (by decide) ?_
        refine L_iadd (pc' := 228) (a := l3) (a2 := (nI 3)) dL_law_227 rfl ?_
        refine L_sld (pc' := 229) (i := (l3 + (nI 3))) dL_law_228 rfl (fun e10 => ?_)
        refine L_aloadc_n (pc' := 230) (i := 0) (j := 0) (u := (300 : UInt32)) dL_law_229 rfl rfl rfl ?_
        refine L_iload_n (pc' := 231) (i := 3) (j := 3) (x := l3) dL_law_230 rfl rfl rfl ?_
        refine L_iconst (pc' := 232) (x := (nI 4)) dL_law_231 rfl (by decide) ?_
        refine L_iadd (pc' := 233) (a := l3) (a2 := (nI 4)) dL_law_232 rfl ?_
        refine L_sld (pc' := 234) (i := (l3 + (nI 4))) dL_law_233 rfl (fun e11 => ?_)
        refine L_aloadc_n (pc' := 235) (i := 0) (j := 0) (u := (300 : UInt32)) dL_law_234 rfl rfl rfl ?_
        refine L_iload_n (pc' := 236) (i := 3) (j := 3) (x := l3) dL_law_235 rfl rfl rfl ?_
        refine L_iconst (pc' := 237) (x := (nI 5)) dL_law_236 rfl (by decide) ?_
        refine L_iadd (pc' := 238) (a := l3) (a2 := (nI 5)) dL_law_237 rfl ?_
        refine L_sld (pc' := 239) (i := (l3 + (nI 5))) dL_law_238 rfl (fun e12 => ?_)
        refine L_callV_I (pc' := 242) (q := (some l2)) (As := [.int e8, .int e9, .int e10, .int e11, .int e12]) (fun o14 => rm_X10_feed o14 e8 e9 e10 e11 e12 M) mf_X10_feed lk_L_17 im_X10_feed se_X10_feed rfl rfl rfl dL_law_239 rfl (by decide) (Nat.le_trans (c_I c_0) (by decide)) (fun r13 M => ?_)
        refine L_icmp_eq (pc' := 245) (tgt := 1216) (a := r7) (a2 := r13) dL_law_242 (by decide) rfl ?_ ?_
        · exact L_sub [0, 1, 2, 3] rfl (rf_L_law_J1216 (b := b) Lx xs (f_L_law_L18 Lx xs n) ih l1 l2 l3 M)
        · refine L_iconst (pc' := 246) (x := (nI 0)) dL_law_245 rfl (by decide) ?_
          exact LF.zero
      · refine L_aloadq_n (pc' := 248) (i := 1) (j := 1) (a := l1) dL_law_247 rfl rfl rfl ?_
        refine L_aloadc_n (pc' := 249) (i := 0) (j := 0) (u := (300 : UInt32)) dL_law_248 rfl rfl rfl ?_
        refine L_iload_n (pc' := 250) (i := 3) (j := 3) (x := l3) dL_law_249 rfl rfl rfl ?_
        refine L_iconst (pc' := 251) (x := (nI 1)) dL_law_250 rfl (by decide) ?_
        refine L_iadd (pc' := 252) (a := l3) (a2 := (nI 1)) dL_law_251 rfl ?_
        refine L_sld (pc' := 253) (i := (l3 + (nI 1))) dL_law_252 rfl (fun e16 => ?_)
        refine L_callV_I (pc' := 256) (q := (some l1)) (As := [.int e16]) (fun o21 => rm_X9_end o21 e16 M) mf_X9_end lk_L_18 im_X9_end se_X9_end rfl rfl rfl dL_law_253 rfl (by decide) (Nat.le_trans c_0 (by decide)) (fun r17 M => ?_)
        refine L_aloadq_n (pc' := 257) (i := 2) (j := 2) (a := l2) dL_law_256 rfl rfl rfl ?_
        refine L_aloadc_n (pc' := 258) (i := 0) (j := 0) (u := (300 : UInt32)) dL_law_257 rfl rfl rfl ?_
        refine L_iload_n (pc' := 259) (i := 3) (j := 3) (x := l3) dL_law_258 rfl rfl rfl ?_
        refine L_iconst (pc' := 260) (x := (nI 1)) dL_law_259 rfl (by decide) ?_
        refine L_iadd (pc' := 261) (a := l3) (a2 := (nI 1)) dL_law_260 rfl ?_
        refine L_sld (pc' := 262) (i := (l3 + (nI 1))) dL_law_261 rfl (fun e18 => ?_)
        refine L_callV_I (pc' := 265) (q := (some l2)) (As := [.int e18]) (fun o20 => rm_X10_end o20 e18 M) mf_X10_end lk_L_22 im_X10_end se_X10_end rfl rfl rfl dL_law_262 rfl (by decide) (Nat.le_trans (c_I c_0) (by decide)) (fun r19 M => ?_)
        refine L_icmp_eq (pc' := 268) (tgt := 1216) (a := r17) (a2 := r19) dL_law_265 (by decide) rfl ?_ ?_
        · exact L_sub [0, 1, 2, 3] rfl (rf_L_law_J1216 (b := b) Lx xs (f_L_law_L18 Lx xs n) ih l1 l2 l3 M)
        · refine L_iconst (pc' := 269) (x := (nI 0)) dL_law_268 rfl (by decide) ?_
          exact LF.zero
      · refine L_aloadq_n (pc' := 271) (i := 1) (j := 1) (a := l1) dL_law_270 rfl rfl rfl ?_
        refine L_callV_I (pc' := 274) (q := (some l1)) (As := []) (fun o25 => rm_X9_bar o25 M) mf_X9_bar lk_L_23 im_X9_bar se_X9_bar rfl rfl rfl dL_law_271 rfl (by decide) (Nat.le_trans c_0 (by decide)) (fun r22 M => ?_)
        refine L_aloadq_n (pc' := 275) (i := 2) (j := 2) (a := l2) dL_law_274 rfl rfl rfl ?_
        refine L_callV_I (pc' := 278) (q := (some l2)) (As := []) (fun o24 => rm_X10_bar o24 M) mf_X10_bar lk_L_27 im_X10_bar se_X10_bar rfl rfl rfl dL_law_275 rfl (by decide) (Nat.le_trans (c_I c_0) (by decide)) (fun r23 M => ?_)
        refine L_icmp_eq (pc' := 281) (tgt := 1216) (a := r22) (a2 := r23) dL_law_278 (by decide) rfl ?_ ?_
        · exact L_sub [0, 1, 2, 3] rfl (rf_L_law_J1216 (b := b) Lx xs (f_L_law_L18 Lx xs n) ih l1 l2 l3 M)
        · refine L_iconst (pc' := 282) (x := (nI 0)) dL_law_281 rfl (by decide) ?_
          exact LF.zero
      · refine L_aloadq_n (pc' := 284) (i := 1) (j := 1) (a := l1) dL_law_283 rfl rfl rfl ?_
        refine L_callV_I (pc' := 287) (q := (some l1)) (As := []) (fun o29 => rm_X9_rule o29 M) mf_X9_rule lk_L_28 im_X9_rule se_X9_rule rfl rfl rfl dL_law_284 rfl (by decide) (Nat.le_trans c_0 (by decide)) (fun r26 M => ?_)
        refine L_aloadq_n (pc' := 288) (i := 2) (j := 2) (a := l2) dL_law_287 rfl rfl rfl ?_
        refine L_callV_I (pc' := 291) (q := (some l2)) (As := []) (fun o28 => rm_X10_rule o28 M) mf_X10_rule lk_L_31 im_X10_rule se_X10_rule rfl rfl rfl dL_law_288 rfl (by decide) (Nat.le_trans (c_I c_0) (by decide)) (fun r27 M => ?_)
        refine L_icmp_eq (pc' := 294) (tgt := 1216) (a := r26) (a2 := r27) dL_law_291 (by decide) rfl ?_ ?_
        · exact L_sub [0, 1, 2, 3] rfl (rf_L_law_J1216 (b := b) Lx xs (f_L_law_L18 Lx xs n) ih l1 l2 l3 M)
        · refine L_iconst (pc' := 295) (x := (nI 0)) dL_law_294 rfl (by decide) ?_
          exact LF.zero
      · refine L_aloadq_n (pc' := 297) (i := 1) (j := 1) (a := l1) dL_law_296 rfl rfl rfl ?_
        refine L_aloadc_n (pc' := 298) (i := 0) (j := 0) (u := (300 : UInt32)) dL_law_297 rfl rfl rfl ?_
        refine L_iload_n (pc' := 299) (i := 3) (j := 3) (x := l3) dL_law_298 rfl rfl rfl ?_
        refine L_iconst (pc' := 300) (x := (nI 1)) dL_law_299 rfl (by decide) ?_
        refine L_iadd (pc' := 301) (a := l3) (a2 := (nI 1)) dL_law_300 rfl ?_
        refine L_sld (pc' := 302) (i := (l3 + (nI 1))) dL_law_301 rfl (fun e30 => ?_)
        refine L_callV_I (pc' := 305) (q := (some l1)) (As := [.int e30]) (fun o35 => rm_X9_force o35 e30 M) mf_X9_force lk_L_32 im_X9_force se_X9_force rfl rfl rfl dL_law_302 rfl (by decide) (Nat.le_trans c_0 (by decide)) (fun r31 M => ?_)
        refine L_aloadq_n (pc' := 306) (i := 2) (j := 2) (a := l2) dL_law_305 rfl rfl rfl ?_
        refine L_aloadc_n (pc' := 307) (i := 0) (j := 0) (u := (300 : UInt32)) dL_law_306 rfl rfl rfl ?_
        refine L_iload_n (pc' := 308) (i := 3) (j := 3) (x := l3) dL_law_307 rfl rfl rfl ?_
        refine L_iconst (pc' := 309) (x := (nI 1)) dL_law_308 rfl (by decide) ?_
        refine L_iadd (pc' := 310) (a := l3) (a2 := (nI 1)) dL_law_309 rfl ?_
        refine L_sld (pc' := 311) (i := (l3 + (nI 1))) dL_law_310 rfl (fun e32 => ?_)
        refine L_callV_I (pc' := 314) (q := (some l2)) (As := [.int e32]) (fun o34 => rm_X10_force o34 e32 M) mf_X10_force lk_L_35 im_X10_force se_X10_force rfl rfl rfl dL_law_311 rfl (by decide) (Nat.le_trans (c_I c_0) (by decide)) (fun r33 M => ?_)
        refine L_icmp_eq (pc' := 317) (tgt := 1216) (a := r31) (a2 := r33) dL_law_314 (by decide) rfl ?_ ?_
        · exact L_sub [0, 1, 2, 3] rfl (rf_L_law_J1216 (b := b) Lx xs (f_L_law_L18 Lx xs n) ih l1 l2 l3 M)
        · refine L_iconst (pc' := 318) (x := (nI 0)) dL_law_317 rfl (by decide) ?_
          exact LF.zero
      · refine L_aloadq_n (pc' := 320) (i := 1) (j := 1) (a := l1) dL_law_319 rfl rfl rfl ?_
        refine L_aloadc_n (pc' := 321) (i := 0) (j := 0) (u := (300 : UInt32)) dL_law_320 rfl rfl rfl ?_
        refine L_iload_n (pc' := 322) (i := 3) (j := 3) (x := l3) dL_law_321 rfl rfl rfl ?_
        refine L_iconst (pc' := 323) (x := (nI 1)) dL_law_322 rfl (by decide) ?_
        refine L_iadd (pc' := 324) (a := l3) (a2 := (nI 1)) dL_law_323 rfl ?_
        refine L_sld (pc' := 325) (i := (l3 + (nI 1))) dL_law_324 rfl (fun e36 => ?_)
        refine L_aloadc_n (pc' := 326) (i := 0) (j := 0) (u := (300 : UInt32)) dL_law_325 rfl rfl rfl ?_
        refine L_iload_n (pc' := 327) (i := 3) (j := 3) (x := l3) dL_law_326 rfl rfl rfl ?_
        refine L_iconst (pc' := 328) (x := (nI 2)) dL_law_327 rfl (by decide) ?_
        refine L_iadd (pc' := 329) (a := l3) (a2 := (nI 2)) dL_law_328 rfl ?_
        refine L_sld (pc' := 330) (i := (l3 + (nI 2))) dL_law_329 rfl (fun e37 => ?_)
        refine L_callV_I (pc' := 333) (q := (some l1)) (As := [.int e36, .int e37]) (fun o43 => rm_X9_joke o43 e36 e37 M) mf_X9_joke lk_L_36 im_X9_joke se_X9_joke rfl rfl rfl dL_law_330 rfl (by decide) (Nat.le_trans c_0 (by decide)) (fun r38 M => ?_)
        refine L_aloadq_n (pc' := 334) (i := 2) (j := 2) (a := l2) dL_law_333 rfl rfl rfl ?_
        refine L_aloadc_n (pc' := 335) (i := 0) (j := 0) (u := (300 : UInt32)) dL_law_334 rfl rfl rfl ?_
        refine L_iload_n (pc' := 336) (i := 3) (j := 3) (x := l3) dL_law_335 rfl rfl rfl ?_
        refine L_iconst (pc' := 337) (x := (nI 1)) dL_law_336 rfl (by decide) ?_
        refine L_iadd (pc' := 338) (a := l3) (a2 := (nI 1)) dL_law_337 rfl ?_
        refine L_sld (pc' := 339) (i := (l3 + (nI 1))) dL_law_338 rfl (fun e39 => ?_)
        refine L_aloadc_n (pc' := 340) (i := 0) (j := 0) (u := (300 : UInt32)) dL_law_339 rfl rfl rfl ?_
        refine L_iload_n (pc' := 341) (i := 3) (j := 3) (x := l3) dL_law_340 rfl rfl rfl ?_
        refine L_iconst (pc' := 342) (x := (nI 2)) dL_law_341 rfl (by decide) ?_
        refine L_iadd (pc' := 343) (a := l3) (a2 := (nI 2)) dL_law_342 rfl ?_
        refine L_sld (pc' := 344) (i := (l3 + (nI 2))) dL_law_343 rfl (fun e40 => ?_)
        refine L_callV_I (pc' := 347) (q := (some l2)) (As := [.int e39, .int e40]) (fun o42 => rm_X10_joke o42 e39 e40 M) mf_X10_joke lk_L_40 im_X10_joke se_X10_joke rfl rfl rfl dL_law_344 rfl (by decide) (Nat.le_trans (c_I c_0) (by decide)) (fun r41 M => ?_)
        refine L_icmp_eq (pc' := 350) (tgt := 1216) (a := r38) (a2 := r41) dL_law_347 (by decide) rfl ?_ ?_
        · exact L_sub [0, 1, 2, 3] rfl (rf_L_law_J1216 (b := b) Lx xs (f_L_law_L18 Lx xs n) ih l1 l2 l3 M)
        · refine L_iconst (pc' := 351) (x := (nI 0)) dL_law_350 rfl (by decide) ?_
          exact LF.zero
      · refine L_aloadq_n (pc' := 353) (i := 1) (j := 1) (a := l1) dL_law_352 rfl rfl rfl ?_
        refine L_aloadc_n (pc' := 354) (i := 0) (j := 0) (u := (300 : UInt32)) dL_law_353 rfl rfl rfl ?_
        refine L_iload_n (pc' := 355) (i := 3) (j := 3) (x := l3) dL_law_354 rfl rfl rfl ?_
        refine L_iconst (pc' := 356) (x := (nI 1)) dL_law_355 rfl (by decide) ?_
        refine L_iadd (pc' := 357) (a := l3) (a2 := (nI 1)) dL_law_356 rfl ?_
        refine L_sld (pc' := 358) (i := (l3 + (nI 1))) dL_law_357 rfl (fun e44 => ?_)
        refine L_aloadc_n (pc' := 359) (i := 0) (j := 0) (u := (300 : UInt32)) dL_law_358 rfl rfl rfl ?_
        refine L_iload_n (pc' := 360) (i := 3) (j := 3) (x := l3) dL_law_359 rfl rfl rfl ?_
        refine L_iconst (pc' := 361) (x := (nI 2)) dL_law_360 rfl (by decide) ?_
        refine L_iadd (pc' := 362) (a := l3) (a2 := (nI 2)) dL_law_361 rfl ?_
        refine L_sld (pc' := 363) (i := (l3 + (nI 2))) dL_law_362 rfl (fun e45 => ?_)
        refine L_callV_I (pc' := 366) (q := (some l1)) (As := [.int e44, .int e45]) (fun o51 => rm_X9_ship o51 e44 e45 M) mf_X9_ship lk_L_41 im_X9_ship se_X9_ship rfl rfl rfl dL_law_363 rfl (by decide) (Nat.le_trans c_0 (by decide)) (fun r46 M => ?_)
        refine L_aloadq_n (pc' := 367) (i := 2) (j := 2) (a := l2) dL_law_366 rfl rfl rfl ?_
        refine L_aloadc_n (pc' := 368) (i := 0) (j := 0) (u := (300 : UInt32)) dL_law_367 rfl rfl rfl ?_
        refine L_iload_n (pc' := 369) (i := 3) (j := 3) (x := l3) dL_law_368 rfl rfl rfl ?_
        refine L_iconst (pc' := 370) (x := (nI 1)) dL_law_369 rfl (by decide) ?_
        refine L_iadd (pc' := 371) (a := l3) (a2 := (nI 1)) dL_law_370 rfl ?_
        refine L_sld (pc' := 372) (i := (l3 + (nI 1))) dL_law_371 rfl (fun e47 => ?_)
        refine L_aloadc_n (pc' := 373) (i := 0) (j := 0) (u := (300 : UInt32)) dL_law_372 rfl rfl rfl ?_
        refine L_iload_n (pc' := 374) (i := 3) (j := 3) (x := l3) dL_law_373 rfl rfl rfl ?_
        refine L_iconst (pc' := 375) (x := (nI 2)) dL_law_374 rfl (by decide) ?_
        refine L_iadd (pc' := 376) (a := l3) (a2 := (nI 2)) dL_law_375 rfl ?_
        refine L_sld (pc' := 377) (i := (l3 + (nI 2))) dL_law_376 rfl (fun e48 => ?_)
        refine L_callV_I (pc' := 380) (q := (some l2)) (As := [.int e47, .int e48]) (fun o50 => rm_X10_ship o50 e47 e48 M) mf_X10_ship lk_L_44 im_X10_ship se_X10_ship rfl rfl rfl dL_law_377 rfl (by decide) (Nat.le_trans (c_I c_0) (by decide)) (fun r49 M => ?_)
        refine L_icmp_eq (pc' := 383) (tgt := 1216) (a := r46) (a2 := r49) dL_law_380 (by decide) rfl ?_ ?_
        · exact L_sub [0, 1, 2, 3] rfl (rf_L_law_J1216 (b := b) Lx xs (f_L_law_L18 Lx xs n) ih l1 l2 l3 M)
        · refine L_iconst (pc' := 384) (x := (nI 0)) dL_law_383 rfl (by decide) ?_
          exact LF.zero
      · refine L_aloadq_n (pc' := 386) (i := 1) (j := 1) (a := l1) dL_law_385 rfl rfl rfl ?_
        refine L_callV_I (pc' := 389) (q := (some l1)) (As := []) (fun o55 => rm_X9_tide o55 M) mf_X9_tide lk_L_45 im_X9_tide se_X9_tide rfl rfl rfl dL_law_386 rfl (by decide) (Nat.le_trans c_0 (by decide)) (fun r52 M => ?_)
        refine L_aloadq_n (pc' := 390) (i := 2) (j := 2) (a := l2) dL_law_389 rfl rfl rfl ?_
        refine L_callV_I (pc' := 393) (q := (some l2)) (As := []) (fun o54 => rm_X10_tide o54 M) mf_X10_tide lk_L_48 im_X10_tide se_X10_tide rfl rfl rfl dL_law_390 rfl (by decide) (Nat.le_trans (c_I c_0) (by decide)) (fun r53 M => ?_)
        refine L_icmp_eq (pc' := 396) (tgt := 1216) (a := r52) (a2 := r53) dL_law_393 (by decide) rfl ?_ ?_
        · exact L_sub [0, 1, 2, 3] rfl (rf_L_law_J1216 (b := b) Lx xs (f_L_law_L18 Lx xs n) ih l1 l2 l3 M)
        · refine L_iconst (pc' := 397) (x := (nI 0)) dL_law_396 rfl (by decide) ?_
          exact LF.zero
      · refine L_aloadq_n (pc' := 399) (i := 1) (j := 1) (a := l1) dL_law_398 rfl rfl rfl ?_
        refine L_aloadc_n (pc' := 400) (i := 0) (j := 0) (u := (300 : UInt32)) dL_law_399 rfl rfl rfl ?_
        refine L_iload_n (pc' := 401) (i := 3) (j := 3) (x := l3) dL_law_400 rfl rfl rfl ?_
        refine L_iconst (pc' := 402) (x := (nI 1)) dL_law_401 rfl (by decide) ?_
        refine L_iadd (pc' := 403) (a := l3) (a2 := (nI 1)) dL_law_402 rfl ?_
        refine L_sld (pc' := 404) (i := (l3 + (nI 1))) dL_law_403 rfl (fun e56 => ?_)
        refine L_aloadc_n (pc' := 405) (i := 0) (j := 0) (u := (300 : UInt32)) dL_law_404 rfl rfl rfl ?_
        refine L_iload_n (pc' := 406) (i := 3) (j := 3) (x := l3) dL_law_405 rfl rfl rfl ?_
        refine L_iconst (pc' := 407) (x := (nI 2)) dL_law_406 rfl (by decide) ?_
        refine L_iadd (pc' := 408) (a := l3) (a2 := (nI 2)) dL_law_407 rfl ?_
        refine L_sld (pc' := 409) (i := (l3 + (nI 2))) dL_law_408 rfl (fun e57 => ?_)
        refine L_callV_I (pc' := 412) (q := (some l1)) (As := [.int e56, .int e57]) (fun o63 => rm_X9_say o63 e56 e57 M) mf_X9_say lk_L_49 im_X9_say se_X9_say rfl rfl rfl dL_law_409 rfl (by decide) (Nat.le_trans c_0 (by decide)) (fun r58 M => ?_)
        refine L_aloadq_n (pc' := 413) (i := 2) (j := 2) (a := l2) dL_law_412 rfl rfl rfl ?_
        refine L_aloadc_n (pc' := 414) (i := 0) (j := 0) (u := (300 : UInt32)) dL_law_413 rfl rfl rfl ?_
        refine L_iload_n (pc' := 415) (i := 3) (j := 3) (x := l3) dL_law_414 rfl rfl rfl ?_
        refine L_iconst (pc' := 416) (x := (nI 1)) dL_law_415 rfl (by decide) ?_
        refine L_iadd (pc' := 417) (a := l3) (a2 := (nI 1)) dL_law_416 rfl ?_
        refine L_sld (pc' := 418) (i := (l3 + (nI 1))) dL_law_417 rfl (fun e59 => ?_)
        refine L_aloadc_n (pc' := 419) (i := 0) (j := 0) (u := (300 : UInt32)) dL_law_418 rfl rfl rfl ?_
        refine L_iload_n (pc' := 420) (i := 3) (j := 3) (x := l3) dL_law_419 rfl rfl rfl ?_
        refine L_iconst (pc' := 421) (x := (nI 2)) dL_law_420 rfl (by decide) ?_
        refine L_iadd (pc' := 422) (a := l3) (a2 := (nI 2)) dL_law_421 rfl ?_
        refine L_sld (pc' := 423) (i := (l3 + (nI 2))) dL_law_422 rfl (fun e60 => ?_)
        refine L_callV_I (pc' := 426) (q := (some l2)) (As := [.int e59, .int e60]) (fun o62 => rm_X10_say o62 e59 e60 M) mf_X10_say lk_L_52 im_X10_say se_X10_say rfl rfl rfl dL_law_423 rfl (by decide) (Nat.le_trans (c_I c_0) (by decide)) (fun r61 M => ?_)
        refine L_icmp_eq (pc' := 429) (tgt := 1216) (a := r58) (a2 := r61) dL_law_426 (by decide) rfl ?_ ?_
        · exact L_sub [0, 1, 2, 3] rfl (rf_L_law_J1216 (b := b) Lx xs (f_L_law_L18 Lx xs n) ih l1 l2 l3 M)
        · refine L_iconst (pc' := 430) (x := (nI 0)) dL_law_429 rfl (by decide) ?_
          exact LF.zero
      · refine L_aloadq_n (pc' := 432) (i := 1) (j := 1) (a := l1) dL_law_431 rfl rfl rfl ?_
        refine L_aloadc_n (pc' := 433) (i := 0) (j := 0) (u := (300 : UInt32)) dL_law_432 rfl rfl rfl ?_
        refine L_iload_n (pc' := 434) (i := 3) (j := 3) (x := l3) dL_law_433 rfl rfl rfl ?_
        refine L_iconst (pc' := 435) (x := (nI 1)) dL_law_434 rfl (by decide) ?_
        refine L_iadd (pc' := 436) (a := l3) (a2 := (nI 1)) dL_law_435 rfl ?_
        refine L_sld (pc' := 437) (i := (l3 + (nI 1))) dL_law_436 rfl (fun e64 => ?_)
        refine L_aloadc_n (pc' := 438) (i := 0) (j := 0) (u := (300 : UInt32)) dL_law_437 rfl rfl rfl ?_
        refine L_iload_n (pc' := 439) (i := 3) (j := 3) (x := l3) dL_law_438 rfl rfl rfl ?_
        refine L_iconst (pc' := 440) (x := (nI 2)) dL_law_439 rfl (by decide) ?_
        refine L_iadd (pc' := 441) (a := l3) (a2 := (nI 2)) dL_law_440 rfl ?_
        refine L_sld (pc' := 442) (i := (l3 + (nI 2))) dL_law_441 rfl (fun e65 => ?_)
        refine L_callV_I (pc' := 445) (q := (some l1)) (As := [.int e64, .int e65]) (fun o71 => rm_X9_trade o71 e64 e65 M) mf_X9_trade lk_L_53 im_X9_trade se_X9_trade rfl rfl rfl dL_law_442 rfl (by decide) (Nat.le_trans c_0 (by decide)) (fun r66 M => ?_)
        refine L_aloadq_n (pc' := 446) (i := 2) (j := 2) (a := l2) dL_law_445 rfl rfl rfl ?_
        refine L_aloadc_n (pc' := 447) (i := 0) (j := 0) (u := (300 : UInt32)) dL_law_446 rfl rfl rfl ?_
        refine L_iload_n (pc' := 448) (i := 3) (j := 3) (x := l3) dL_law_447 rfl rfl rfl ?_
        refine L_iconst (pc' := 449) (x := (nI 1)) dL_law_448 rfl (by decide) ?_
        refine L_iadd (pc' := 450) (a := l3) (a2 := (nI 1)) dL_law_449 rfl ?_
        refine L_sld (pc' := 451) (i := (l3 + (nI 1))) dL_law_450 rfl (fun e67 => ?_)
        refine L_aloadc_n (pc' := 452) (i := 0) (j := 0) (u := (300 : UInt32)) dL_law_451 rfl rfl rfl ?_
        refine L_iload_n (pc' := 453) (i := 3) (j := 3) (x := l3) dL_law_452 rfl rfl rfl ?_
        refine L_iconst (pc' := 454) (x := (nI 2)) dL_law_453 rfl (by decide) ?_
        refine L_iadd (pc' := 455) (a := l3) (a2 := (nI 2)) dL_law_454 rfl ?_
        refine L_sld (pc' := 456) (i := (l3 + (nI 2))) dL_law_455 rfl (fun e68 => ?_)
        refine L_callV_I (pc' := 459) (q := (some l2)) (As := [.int e67, .int e68]) (fun o70 => rm_X10_trade o70 e67 e68 M) mf_X10_trade lk_L_56 im_X10_trade se_X10_trade rfl rfl rfl dL_law_456 rfl (by decide) (Nat.le_trans (c_I c_0) (by decide)) (fun r69 M => ?_)
        refine L_icmp_eq (pc' := 462) (tgt := 1216) (a := r66) (a2 := r69) dL_law_459 (by decide) rfl ?_ ?_
        · exact L_sub [0, 1, 2, 3] rfl (rf_L_law_J1216 (b := b) Lx xs (f_L_law_L18 Lx xs n) ih l1 l2 l3 M)
        · refine L_iconst (pc' := 463) (x := (nI 0)) dL_law_462 rfl (by decide) ?_
          exact LF.zero
      · refine L_aloadq_n (pc' := 465) (i := 1) (j := 1) (a := l1) dL_law_464 rfl rfl rfl ?_
        refine L_aloadc_n (pc' := 466) (i := 0) (j := 0) (u := (300 : UInt32)) dL_law_465 rfl rfl rfl ?_
        refine L_iload_n (pc' := 467) (i := 3) (j := 3) (x := l3) dL_law_466 rfl rfl rfl ?_
        refine L_iconst (pc' := 468) (x := (nI 1)) dL_law_467 rfl (by decide) ?_
        refine L_iadd (pc' := 469) (a := l3) (a2 := (nI 1)) dL_law_468 rfl ?_
        refine L_sld (pc' := 470) (i := (l3 + (nI 1))) dL_law_469 rfl (fun e72 => ?_)
        refine L_aloadc_n (pc' := 471) (i := 0) (j := 0) (u := (300 : UInt32)) dL_law_470 rfl rfl rfl ?_
        refine L_iload_n (pc' := 472) (i := 3) (j := 3) (x := l3) dL_law_471 rfl rfl rfl ?_
        refine L_iconst (pc' := 473) (x := (nI 2)) dL_law_472 rfl (by decide) ?_
        refine L_iadd (pc' := 474) (a := l3) (a2 := (nI 2)) dL_law_473 rfl ?_
        refine L_sld (pc' := 475) (i := (l3 + (nI 2))) dL_law_474 rfl (fun e73 => ?_)
        refine L_callV_I (pc' := 478) (q := (some l1)) (As := [.int e72, .int e73]) (fun o79 => rm_X9_coin o79 e72 e73 M) mf_X9_coin lk_L_57 im_X9_coin se_X9_coin rfl rfl rfl dL_law_475 rfl (by decide) (Nat.le_trans c_0 (by decide)) (fun r74 M => ?_)
        refine L_aloadq_n (pc' := 479) (i := 2) (j := 2) (a := l2) dL_law_478 rfl rfl rfl ?_
        refine L_aloadc_n (pc' := 480) (i := 0) (j := 0) (u := (300 : UInt32)) dL_law_479 rfl rfl rfl ?_
        refine L_iload_n (pc' := 481) (i := 3) (j := 3) (x := l3) dL_law_480 rfl rfl rfl ?_
        refine L_iconst (pc' := 482) (x := (nI 1)) dL_law_481 rfl (by decide) ?_
        refine L_iadd (pc' := 483) (a := l3) (a2 := (nI 1)) dL_law_482 rfl ?_
        refine L_sld (pc' := 484) (i := (l3 + (nI 1))) dL_law_483 rfl (fun e75 => ?_)
        refine L_aloadc_n (pc' := 485) (i := 0) (j := 0) (u := (300 : UInt32)) dL_law_484 rfl rfl rfl ?_
        refine L_iload_n (pc' := 486) (i := 3) (j := 3) (x := l3) dL_law_485 rfl rfl rfl ?_
        refine L_iconst (pc' := 487) (x := (nI 2)) dL_law_486 rfl (by decide) ?_
        refine L_iadd (pc' := 488) (a := l3) (a2 := (nI 2)) dL_law_487 rfl ?_
        refine L_sld (pc' := 489) (i := (l3 + (nI 2))) dL_law_488 rfl (fun e76 => ?_)
        refine L_callV_I (pc' := 492) (q := (some l2)) (As := [.int e75, .int e76]) (fun o78 => rm_X10_coin o78 e75 e76 M) mf_X10_coin lk_L_60 im_X10_coin se_X10_coin rfl rfl rfl dL_law_489 rfl (by decide) (Nat.le_trans (c_I c_0) (by decide)) (fun r77 M => ?_)
        refine L_icmp_eq (pc' := 495) (tgt := 1216) (a := r74) (a2 := r77) dL_law_492 (by decide) rfl ?_ ?_
        · exact L_sub [0, 1, 2, 3] rfl (rf_L_law_J1216 (b := b) Lx xs (f_L_law_L18 Lx xs n) ih l1 l2 l3 M)
        · refine L_iconst (pc' := 496) (x := (nI 0)) dL_law_495 rfl (by decide) ?_
          exact LF.zero
      · refine L_aloadq_n (pc' := 498) (i := 1) (j := 1) (a := l1) dL_law_497 rfl rfl rfl ?_
        refine L_aloadc_n (pc' := 499) (i := 0) (j := 0) (u := (300 : UInt32)) dL_law_498 rfl rfl rfl ?_
        refine L_iload_n (pc' := 500) (i := 3) (j := 3) (x := l3) dL_law_499 rfl rfl rfl ?_
        refine L_iconst (pc' := 501) (x := (nI 1)) dL_law_500 rfl (by decide) ?_
        refine L_iadd (pc' := 502) (a := l3) (a2 := (nI 1)) dL_law_501 rfl ?_
        refine L_sld (pc' := 503) (i := (l3 + (nI 1))) dL_law_502 rfl (fun e80 => ?_)
        refine L_callV_I (pc' := 506) (q := (some l1)) (As := [.int e80]) (fun o85 => rm_X9_dull o85 e80 M) mf_X9_dull lk_L_61 im_X9_dull se_X9_dull rfl rfl rfl dL_law_503 rfl (by decide) (Nat.le_trans c_0 (by decide)) (fun r81 M => ?_)
        refine L_aloadq_n (pc' := 507) (i := 2) (j := 2) (a := l2) dL_law_506 rfl rfl rfl ?_
        refine L_aloadc_n (pc' := 508) (i := 0) (j := 0) (u := (300 : UInt32)) dL_law_507 rfl rfl rfl ?_
        refine L_iload_n (pc' := 509) (i := 3) (j := 3) (x := l3) dL_law_508 rfl rfl rfl ?_
        refine L_iconst (pc' := 510) (x := (nI 1)) dL_law_509 rfl (by decide) ?_
        refine L_iadd (pc' := 511) (a := l3) (a2 := (nI 1)) dL_law_510 rfl ?_
        refine L_sld (pc' := 512) (i := (l3 + (nI 1))) dL_law_511 rfl (fun e82 => ?_)
        refine L_callV_I (pc' := 515) (q := (some l2)) (As := [.int e82]) (fun o84 => rm_X10_dull o84 e82 M) mf_X10_dull lk_L_64 im_X10_dull se_X10_dull rfl rfl rfl dL_law_512 rfl (by decide) (Nat.le_trans (c_I c_0) (by decide)) (fun r83 M => ?_)
        refine L_icmp_eq (pc' := 518) (tgt := 1216) (a := r81) (a2 := r83) dL_law_515 (by decide) rfl ?_ ?_
        · exact L_sub [0, 1, 2, 3] rfl (rf_L_law_J1216 (b := b) Lx xs (f_L_law_L18 Lx xs n) ih l1 l2 l3 M)
        · refine L_iconst (pc' := 519) (x := (nI 0)) dL_law_518 rfl (by decide) ?_
          exact LF.zero
      · refine L_aloadq_n (pc' := 521) (i := 1) (j := 1) (a := l1) dL_law_520 rfl rfl rfl ?_
        refine L_callV_I (pc' := 524) (q := (some l1)) (As := []) (fun o89 => rm_X9_undo o89 M) mf_X9_undo lk_L_65 im_X9_undo se_X9_undo rfl rfl rfl dL_law_521 rfl (by decide) (Nat.le_trans c_0 (by decide)) (fun r86 M => ?_)
        refine L_aloadq_n (pc' := 525) (i := 2) (j := 2) (a := l2) dL_law_524 rfl rfl rfl ?_
        refine L_callV_I (pc' := 528) (q := (some l2)) (As := []) (fun o88 => rm_X10_undo o88 M) mf_X10_undo lk_L_68 im_X10_undo se_X10_undo rfl rfl rfl dL_law_525 rfl (by decide) (Nat.le_trans (c_I c_0) (by decide)) (fun r87 M => ?_)
        refine L_icmp_eq (pc' := 531) (tgt := 1216) (a := r86) (a2 := r87) dL_law_528 (by decide) rfl ?_ ?_
        · exact L_sub [0, 1, 2, 3] rfl (rf_L_law_J1216 (b := b) Lx xs (f_L_law_L18 Lx xs n) ih l1 l2 l3 M)
        · refine L_iconst (pc' := 532) (x := (nI 0)) dL_law_531 rfl (by decide) ?_
          exact LF.zero
      · refine L_aloadq_n (pc' := 534) (i := 1) (j := 1) (a := l1) dL_law_533 rfl rfl rfl ?_
        refine L_aloadc_n (pc' := 535) (i := 0) (j := 0) (u := (300 : UInt32)) dL_law_534 rfl rfl rfl ?_
        refine L_iload_n (pc' := 536) (i := 3) (j := 3) (x := l3) dL_law_535 rfl rfl rfl ?_
        refine L_iconst (pc' := 537) (x := (nI 1)) dL_law_536 rfl (by decide) ?_
        refine L_iadd (pc' := 538) (a := l3) (a2 := (nI 1)) dL_law_537 rfl ?_
        refine L_sld (pc' := 539) (i := (l3 + (nI 1))) dL_law_538 rfl (fun e90 => ?_)
        refine L_aloadc_n (pc' := 540) (i := 0) (j := 0) (u := (300 : UInt32)) dL_law_539 rfl rfl rfl ?_
        refine L_iload_n (pc' := 541) (i := 3) (j := 3) (x := l3) dL_law_540 rfl rfl rfl ?_
        refine L_iconst (pc' := 542) (x := (nI 2)) dL_law_541 rfl (by decide) ?_
        refine L_iadd (pc' := 543) (a := l3) (a2 := (nI 2)) dL_law_542 rfl ?_
        refine L_sld (pc' := 544) (i := (l3 + (nI 2))) dL_law_543 rfl (fun e91 => ?_)
        refine L_aloadc_n (pc' := 545) (i := 0) (j := 0) (u := (300 : UInt32)) dL_law_544 rfl rfl rfl ?_
        refine L_iload_n (pc' := 546) (i := 3) (j := 3) (x := l3) dL_law_545 rfl rfl rfl ?_
        refine L_iconst (pc' := 547) (x := (nI 3)) dL_law_546 rfl (by decide) ?_
        refine L_iadd (pc' := 548) (a := l3) (a2 := (nI 3)) dL_law_547 rfl ?_
        refine L_sld (pc' := 549) (i := (l3 + (nI 3))) dL_law_548 rfl (fun e92 => ?_)
        refine L_callV_I (pc' := 552) (q := (some l1)) (As := [.int e90, .int e91, .int e92]) (fun o99 => rm_X9_ahead o99 e90 e91 e92 M) mf_X9_ahead lk_L_69 im_X9_ahead se_X9_ahead rfl rfl rfl dL_law_549 rfl (by decide) (Nat.le_trans c_0 (by decide)) (fun r93 M => ?_)
        refine L_aloadq_n (pc' := 553) (i := 2) (j := 2) (a := l2) dL_law_552 rfl rfl rfl ?_
        refine L_aloadc_n (pc' := 554) (i := 0) (j := 0) (u := (300 : UInt32)) dL_law_553 rfl rfl rfl ?_
        refine L_iload_n (pc' := 555) (i := 3) (j := 3) (x := l3) dL_law_554 rfl rfl rfl ?_
        refine L_iconst (pc' := 556) (x := (nI 1)) dL_law_555 rfl (by decide) ?_
        refine L_iadd (pc' := 557) (a := l3) (a2 := (nI 1)) dL_law_556 rfl ?_
        refine L_sld (pc' := 558) (i := (l3 + (nI 1))) dL_law_557 rfl (fun e94 => ?_)
        refine L_aloadc_n (pc' := 559) (i := 0) (j := 0) (u := (300 : UInt32)) dL_law_558 rfl rfl rfl ?_
        refine L_iload_n (pc' := 560) (i := 3) (j := 3) (x := l3) dL_law_559 rfl rfl rfl ?_
        refine L_iconst (pc' := 561) (x := (nI 2)) dL_law_560 rfl (by decide) ?_
        refine L_iadd (pc' := 562) (a := l3) (a2 := (nI 2)) dL_law_561 rfl ?_
        refine L_sld (pc' := 563) (i := (l3 + (nI 2))) dL_law_562 rfl (fun e95 => ?_)
        refine L_aloadc_n (pc' := 564) (i := 0) (j := 0) (u := (300 : UInt32)) dL_law_563 rfl rfl rfl ?_
        refine L_iload_n (pc' := 565) (i := 3) (j := 3) (x := l3) dL_law_564 rfl rfl rfl ?_
        refine L_iconst (pc' := 566) (x := (nI 3)) dL_law_565 rfl (by decide) ?_
        refine L_iadd (pc' := 567) (a := l3) (a2 := (nI 3)) dL_law_566 rfl ?_
        refine L_sld (pc' := 568) (i := (l3 + (nI 3))) dL_law_567 rfl (fun e96 => ?_)
        refine L_callV_I (pc' := 571) (q := (some l2)) (As := [.int e94, .int e95, .int e96]) (fun o98 => rm_X10_ahead o98 e94 e95 e96 M) mf_X10_ahead lk_L_73 im_X10_ahead se_X10_ahead rfl rfl rfl dL_law_568 rfl (by decide) (Nat.le_trans (c_I c_0) (by decide)) (fun r97 M => ?_)
        refine L_icmp_eq (pc' := 574) (tgt := 1216) (a := r93) (a2 := r97) dL_law_571 (by decide) rfl ?_ ?_
        · exact L_sub [0, 1, 2, 3] rfl (rf_L_law_J1216 (b := b) Lx xs (f_L_law_L18 Lx xs n) ih l1 l2 l3 M)
        · refine L_iconst (pc' := 575) (x := (nI 0)) dL_law_574 rfl (by decide) ?_
          exact LF.zero
      · refine L_aloadq_n (pc' := 577) (i := 1) (j := 1) (a := l1) dL_law_576 rfl rfl rfl ?_
        refine L_aloadc_n (pc' := 578) (i := 0) (j := 0) (u := (300 : UInt32)) dL_law_577 rfl rfl rfl ?_
        refine L_iload_n (pc' := 579) (i := 3) (j := 3) (x := l3) dL_law_578 rfl rfl rfl ?_
        refine L_iconst (pc' := 580) (x := (nI 1)) dL_law_579 rfl (by decide) ?_
        refine L_iadd (pc' := 581) (a := l3) (a2 := (nI 1)) dL_law_580 rfl ?_
        refine L_sld (pc' := 582) (i := (l3 + (nI 1))) dL_law_581 rfl (fun e100 => ?_)
        refine L_aloadc_n (pc' := 583) (i := 0) (j := 0) (u := (300 : UInt32)) dL_law_582 rfl rfl rfl ?_
        refine L_iload_n (pc' := 584) (i := 3) (j := 3) (x := l3) dL_law_583 rfl rfl rfl ?_
        refine L_iconst (pc' := 585) (x := (nI 2)) dL_law_584 rfl (by decide) ?_
        refine L_iadd (pc' := 586) (a := l3) (a2 := (nI 2)) dL_law_585 rfl ?_
        refine L_sld (pc' := 587) (i := (l3 + (nI 2))) dL_law_586 rfl (fun e101 => ?_)
        refine L_callV_I (pc' := 590) (q := (some l1)) (As := [.int e100, .int e101]) (fun o107 => rm_X9_over o107 e100 e101 M) mf_X9_over lk_L_74 im_X9_over se_X9_over rfl rfl rfl dL_law_587 rfl (by decide) (Nat.le_trans c_0 (by decide)) (fun r102 M => ?_)
        refine L_aloadq_n (pc' := 591) (i := 2) (j := 2) (a := l2) dL_law_590 rfl rfl rfl ?_
        refine L_aloadc_n (pc' := 592) (i := 0) (j := 0) (u := (300 : UInt32)) dL_law_591 rfl rfl rfl ?_
        refine L_iload_n (pc' := 593) (i := 3) (j := 3) (x := l3) dL_law_592 rfl rfl rfl ?_
        refine L_iconst (pc' := 594) (x := (nI 1)) dL_law_593 rfl (by decide) ?_
        refine L_iadd (pc' := 595) (a := l3) (a2 := (nI 1)) dL_law_594 rfl ?_
        refine L_sld (pc' := 596) (i := (l3 + (nI 1))) dL_law_595 rfl (fun e103 => ?_)
        refine L_aloadc_n (pc' := 597) (i := 0) (j := 0) (u := (300 : UInt32)) dL_law_596 rfl rfl rfl ?_
        refine L_iload_n (pc' := 598) (i := 3) (j := 3) (x := l3) dL_law_597 rfl rfl rfl ?_
        refine L_iconst (pc' := 599) (x := (nI 2)) dL_law_598 rfl (by decide) ?_
        refine L_iadd (pc' := 600) (a := l3) (a2 := (nI 2)) dL_law_599 rfl ?_
        refine L_sld (pc' := 601) (i := (l3 + (nI 2))) dL_law_600 rfl (fun e104 => ?_)
        refine L_callV_I (pc' := 604) (q := (some l2)) (As := [.int e103, .int e104]) (fun o106 => rm_X10_over o106 e103 e104 M) mf_X10_over lk_L_77 im_X10_over se_X10_over rfl rfl rfl dL_law_601 rfl (by decide) (Nat.le_trans (c_I c_0) (by decide)) (fun r105 M => ?_)
        refine L_icmp_eq (pc' := 607) (tgt := 1216) (a := r102) (a2 := r105) dL_law_604 (by decide) rfl ?_ ?_
        · exact L_sub [0, 1, 2, 3] rfl (rf_L_law_J1216 (b := b) Lx xs (f_L_law_L18 Lx xs n) ih l1 l2 l3 M)
        · refine L_iconst (pc' := 608) (x := (nI 0)) dL_law_607 rfl (by decide) ?_
          exact LF.zero
      · refine L_aloadq_n (pc' := 610) (i := 1) (j := 1) (a := l1) dL_law_609 rfl rfl rfl ?_
        refine L_aloadc_n (pc' := 611) (i := 0) (j := 0) (u := (300 : UInt32)) dL_law_610 rfl rfl rfl ?_
        refine L_iload_n (pc' := 612) (i := 3) (j := 3) (x := l3) dL_law_611 rfl rfl rfl ?_
        refine L_iconst (pc' := 613) (x := (nI 1)) dL_law_612 rfl (by decide) ?_
        refine L_iadd (pc' := 614) (a := l3) (a2 := (nI 1)) dL_law_613 rfl ?_
        refine L_sld (pc' := 615) (i := (l3 + (nI 1))) dL_law_614 rfl (fun e108 => ?_)
        refine L_aloadc_n (pc' := 616) (i := 0) (j := 0) (u := (300 : UInt32)) dL_law_615 rfl rfl rfl ?_
        refine L_iload_n (pc' := 617) (i := 3) (j := 3) (x := l3) dL_law_616 rfl rfl rfl ?_
        refine L_iconst (pc' := 618) (x := (nI 2)) dL_law_617 rfl (by decide) ?_
        refine L_iadd (pc' := 619) (a := l3) (a2 := (nI 2)) dL_law_618 rfl ?_
        refine L_sld (pc' := 620) (i := (l3 + (nI 2))) dL_law_619 rfl (fun e109 => ?_)
        refine L_callV_I (pc' := 623) (q := (some l1)) (As := [.int e108, .int e109]) (fun o115 => rm_X9_alike o115 e108 e109 M) mf_X9_alike lk_L_78 im_X9_alike se_X9_alike rfl rfl rfl dL_law_620 rfl (by decide) (Nat.le_trans c_0 (by decide)) (fun r110 M => ?_)
        refine L_aloadq_n (pc' := 624) (i := 2) (j := 2) (a := l2) dL_law_623 rfl rfl rfl ?_
        refine L_aloadc_n (pc' := 625) (i := 0) (j := 0) (u := (300 : UInt32)) dL_law_624 rfl rfl rfl ?_
        refine L_iload_n (pc' := 626) (i := 3) (j := 3) (x := l3) dL_law_625 rfl rfl rfl ?_
        refine L_iconst (pc' := 627) (x := (nI 1)) dL_law_626 rfl (by decide) ?_
        refine L_iadd (pc' := 628) (a := l3) (a2 := (nI 1)) dL_law_627 rfl ?_
        refine L_sld (pc' := 629) (i := (l3 + (nI 1))) dL_law_628 rfl (fun e111 => ?_)
        refine L_aloadc_n (pc' := 630) (i := 0) (j := 0) (u := (300 : UInt32)) dL_law_629 rfl rfl rfl ?_
        refine L_iload_n (pc' := 631) (i := 3) (j := 3) (x := l3) dL_law_630 rfl rfl rfl ?_
        refine L_iconst (pc' := 632) (x := (nI 2)) dL_law_631 rfl (by decide) ?_
        refine L_iadd (pc' := 633) (a := l3) (a2 := (nI 2)) dL_law_632 rfl ?_
        refine L_sld (pc' := 634) (i := (l3 + (nI 2))) dL_law_633 rfl (fun e112 => ?_)
        refine L_callV_I (pc' := 637) (q := (some l2)) (As := [.int e111, .int e112]) (fun o114 => rm_X10_alike o114 e111 e112 M) mf_X10_alike lk_L_81 im_X10_alike se_X10_alike rfl rfl rfl dL_law_634 rfl (by decide) (Nat.le_trans (c_I c_0) (by decide)) (fun r113 M => ?_)
        refine L_icmp_eq (pc' := 640) (tgt := 1216) (a := r110) (a2 := r113) dL_law_637 (by decide) rfl ?_ ?_
        · exact L_sub [0, 1, 2, 3] rfl (rf_L_law_J1216 (b := b) Lx xs (f_L_law_L18 Lx xs n) ih l1 l2 l3 M)
        · refine L_iconst (pc' := 641) (x := (nI 0)) dL_law_640 rfl (by decide) ?_
          exact LF.zero
      · refine L_aloadq_n (pc' := 643) (i := 1) (j := 1) (a := l1) dL_law_642 rfl rfl rfl ?_
        refine L_callV_I (pc' := 646) (q := (some l1)) (As := []) (fun o119 => rm_X9_fresh o119 M) mf_X9_fresh lk_L_82 im_X9_fresh se_X9_fresh rfl rfl rfl dL_law_643 rfl (by decide) (Nat.le_trans c_0 (by decide)) (fun r116 M => ?_)
        refine L_aloadq_n (pc' := 647) (i := 2) (j := 2) (a := l2) dL_law_646 rfl rfl rfl ?_
        refine L_callV_I (pc' := 650) (q := (some l2)) (As := []) (fun o118 => rm_X10_fresh o118 M) mf_X10_fresh lk_L_85 im_X10_fresh se_X10_fresh rfl rfl rfl dL_law_647 rfl (by decide) (Nat.le_trans (c_I c_0) (by decide)) (fun r117 M => ?_)
        refine L_icmp_eq (pc' := 653) (tgt := 1216) (a := r116) (a2 := r117) dL_law_650 (by decide) rfl ?_ ?_
        · exact L_sub [0, 1, 2, 3] rfl (rf_L_law_J1216 (b := b) Lx xs (f_L_law_L18 Lx xs n) ih l1 l2 l3 M)
        · refine L_iconst (pc' := 654) (x := (nI 0)) dL_law_653 rfl (by decide) ?_
          exact LF.zero
      · refine L_aloadq_n (pc' := 656) (i := 1) (j := 1) (a := l1) dL_law_655 rfl rfl rfl ?_
        refine L_callV_I (pc' := 659) (q := (some l1)) (As := []) (fun o123 => rm_X9_least o123 M) mf_X9_least lk_L_86 im_X9_least se_X9_least rfl rfl rfl dL_law_656 rfl (by decide) (Nat.le_trans c_0 (by decide)) (fun r120 M => ?_)
        refine L_aloadq_n (pc' := 660) (i := 2) (j := 2) (a := l2) dL_law_659 rfl rfl rfl ?_
        refine L_callV_I (pc' := 663) (q := (some l2)) (As := []) (fun o122 => rm_X10_least o122 M) mf_X10_least lk_L_89 im_X10_least se_X10_least rfl rfl rfl dL_law_660 rfl (by decide) (Nat.le_trans (c_I c_0) (by decide)) (fun r121 M => ?_)
        refine L_icmp_eq (pc' := 666) (tgt := 1216) (a := r120) (a2 := r121) dL_law_663 (by decide) rfl ?_ ?_
        · exact L_sub [0, 1, 2, 3] rfl (rf_L_law_J1216 (b := b) Lx xs (f_L_law_L18 Lx xs n) ih l1 l2 l3 M)
        · refine L_iconst (pc' := 667) (x := (nI 0)) dL_law_666 rfl (by decide) ?_
          exact LF.zero
      · refine L_aloadq_n (pc' := 669) (i := 1) (j := 1) (a := l1) dL_law_668 rfl rfl rfl ?_
        refine L_aloadc_n (pc' := 670) (i := 0) (j := 0) (u := (300 : UInt32)) dL_law_669 rfl rfl rfl ?_
        refine L_iload_n (pc' := 671) (i := 3) (j := 3) (x := l3) dL_law_670 rfl rfl rfl ?_
        refine L_iconst (pc' := 672) (x := (nI 1)) dL_law_671 rfl (by decide) ?_
        refine L_iadd (pc' := 673) (a := l3) (a2 := (nI 1)) dL_law_672 rfl ?_
        refine L_sld (pc' := 674) (i := (l3 + (nI 1))) dL_law_673 rfl (fun e124 => ?_)
        refine L_aloadc_n (pc' := 675) (i := 0) (j := 0) (u := (300 : UInt32)) dL_law_674 rfl rfl rfl ?_
        refine L_iload_n (pc' := 676) (i := 3) (j := 3) (x := l3) dL_law_675 rfl rfl rfl ?_
        refine L_iconst (pc' := 677) (x := (nI 2)) dL_law_676 rfl (by decide) ?_
        refine L_iadd (pc' := 678) (a := l3) (a2 := (nI 2)) dL_law_677 rfl ?_
        refine L_sld (pc' := 679) (i := (l3 + (nI 2))) dL_law_678 rfl (fun e125 => ?_)
        refine L_aloadc_n (pc' := 680) (i := 0) (j := 0) (u := (300 : UInt32)) dL_law_679 rfl rfl rfl ?_
        refine L_iload_n (pc' := 681) (i := 3) (j := 3) (x := l3) dL_law_680 rfl rfl rfl ?_
        refine L_iconst (pc' := 682) (x := (nI 3)) dL_law_681 rfl (by decide) ?_
        refine L_iadd (pc' := 683) (a := l3) (a2 := (nI 3)) dL_law_682 rfl ?_
        refine L_sld (pc' := 684) (i := (l3 + (nI 3))) dL_law_683 rfl (fun e126 => ?_)
        refine L_callV_I (pc' := 687) (q := (some l1)) (As := [.int e124, .int e125, .int e126]) (fun o133 => rm_X9_row o133 e124 e125 e126 M) mf_X9_row lk_L_90 im_X9_row se_X9_row rfl rfl rfl dL_law_684 rfl (by decide) (Nat.le_trans c_0 (by decide)) (fun r127 M => ?_)
        refine L_aloadq_n (pc' := 688) (i := 2) (j := 2) (a := l2) dL_law_687 rfl rfl rfl ?_
        refine L_aloadc_n (pc' := 689) (i := 0) (j := 0) (u := (300 : UInt32)) dL_law_688 rfl rfl rfl ?_
        refine L_iload_n (pc' := 690) (i := 3) (j := 3) (x := l3) dL_law_689 rfl rfl rfl ?_
        refine L_iconst (pc' := 691) (x := (nI 1)) dL_law_690 rfl (by decide) ?_
        refine L_iadd (pc' := 692) (a := l3) (a2 := (nI 1)) dL_law_691 rfl ?_
        refine L_sld (pc' := 693) (i := (l3 + (nI 1))) dL_law_692 rfl (fun e128 => ?_)
        refine L_aloadc_n (pc' := 694) (i := 0) (j := 0) (u := (300 : UInt32)) dL_law_693 rfl rfl rfl ?_
        refine L_iload_n (pc' := 695) (i := 3) (j := 3) (x := l3) dL_law_694 rfl rfl rfl ?_
        refine L_iconst (pc' := 696) (x := (nI 2)) dL_law_695 rfl (by decide) ?_
        refine L_iadd (pc' := 697) (a := l3) (a2 := (nI 2)) dL_law_696 rfl ?_
        refine L_sld (pc' := 698) (i := (l3 + (nI 2))) dL_law_697 rfl (fun e129 => ?_)
        refine L_aloadc_n (pc' := 699) (i := 0) (j := 0) (u := (300 : UInt32)) dL_law_698 rfl rfl rfl ?_
        refine L_iload_n (pc' := 700) (i := 3) (j := 3) (x := l3) dL_law_699 rfl rfl rfl ?_
        refine L_iconst (pc' := 701) (x := (nI 3)) dL_law_700 rfl (by decide) ?_
        refine L_iadd (pc' := 702) (a := l3) (a2 := (nI 3)) dL_law_701 rfl ?_
        refine L_sld (pc' := 703) (i := (l3 + (nI 3))) dL_law_702 rfl (fun e130 => ?_)
        refine L_callV_I (pc' := 706) (q := (some l2)) (As := [.int e128, .int e129, .int e130]) (fun o132 => rm_X10_row o132 e128 e129 e130 M) mf_X10_row lk_L_93 im_X10_row se_X10_row rfl rfl rfl dL_law_703 rfl (by decide) (Nat.le_trans (c_I c_0) (by decide)) (fun r131 M => ?_)
        refine L_icmp_eq (pc' := 709) (tgt := 1216) (a := r127) (a2 := r131) dL_law_706 (by decide) rfl ?_ ?_
        · exact L_sub [0, 1, 2, 3] rfl (rf_L_law_J1216 (b := b) Lx xs (f_L_law_L18 Lx xs n) ih l1 l2 l3 M)
        · refine L_iconst (pc' := 710) (x := (nI 0)) dL_law_709 rfl (by decide) ?_
          exact LF.zero
      · refine L_aloadq_n (pc' := 712) (i := 1) (j := 1) (a := l1) dL_law_711 rfl rfl rfl ?_
        refine L_aloadc_n (pc' := 713) (i := 0) (j := 0) (u := (300 : UInt32)) dL_law_712 rfl rfl rfl ?_
        refine L_iload_n (pc' := 714) (i := 3) (j := 3) (x := l3) dL_law_713 rfl rfl rfl ?_
        refine L_iconst (pc' := 715) (x := (nI 1)) dL_law_714 rfl (by decide) ?_
        refine L_iadd (pc' := 716) (a := l3) (a2 := (nI 1)) dL_law_715 rfl ?_
        refine L_sld (pc' := 717) (i := (l3 + (nI 1))) dL_law_716 rfl (fun e134 => ?_)
        refine L_aloadc_n (pc' := 718) (i := 0) (j := 0) (u := (300 : UInt32)) dL_law_717 rfl rfl rfl ?_
        refine L_iload_n (pc' := 719) (i := 3) (j := 3) (x := l3) dL_law_718 rfl rfl rfl ?_
        refine L_iconst (pc' := 720) (x := (nI 2)) dL_law_719 rfl (by decide) ?_
        refine L_iadd (pc' := 721) (a := l3) (a2 := (nI 2)) dL_law_720 rfl ?_
        refine L_sld (pc' := 722) (i := (l3 + (nI 2))) dL_law_721 rfl (fun e135 => ?_)
        refine L_callV_I (pc' := 725) (q := (some l1)) (As := [.int e134, .int e135]) (fun o141 => rm_X9_forget o141 e134 e135 M) mf_X9_forget lk_L_94 im_X9_forget se_X9_forget rfl rfl rfl dL_law_722 rfl (by decide) (Nat.le_trans c_0 (by decide)) (fun r136 M => ?_)
        refine L_aloadq_n (pc' := 726) (i := 2) (j := 2) (a := l2) dL_law_725 rfl rfl rfl ?_
        refine L_aloadc_n (pc' := 727) (i := 0) (j := 0) (u := (300 : UInt32)) dL_law_726 rfl rfl rfl ?_
        refine L_iload_n (pc' := 728) (i := 3) (j := 3) (x := l3) dL_law_727 rfl rfl rfl ?_
        refine L_iconst (pc' := 729) (x := (nI 1)) dL_law_728 rfl (by decide) ?_
        refine L_iadd (pc' := 730) (a := l3) (a2 := (nI 1)) dL_law_729 rfl ?_
        refine L_sld (pc' := 731) (i := (l3 + (nI 1))) dL_law_730 rfl (fun e137 => ?_)
        refine L_aloadc_n (pc' := 732) (i := 0) (j := 0) (u := (300 : UInt32)) dL_law_731 rfl rfl rfl ?_
        refine L_iload_n (pc' := 733) (i := 3) (j := 3) (x := l3) dL_law_732 rfl rfl rfl ?_
        refine L_iconst (pc' := 734) (x := (nI 2)) dL_law_733 rfl (by decide) ?_
        refine L_iadd (pc' := 735) (a := l3) (a2 := (nI 2)) dL_law_734 rfl ?_
        refine L_sld (pc' := 736) (i := (l3 + (nI 2))) dL_law_735 rfl (fun e138 => ?_)
        refine L_callV_I (pc' := 739) (q := (some l2)) (As := [.int e137, .int e138]) (fun o140 => rm_X10_forget o140 e137 e138 M) mf_X10_forget lk_L_97 im_X10_forget se_X10_forget rfl rfl rfl dL_law_736 rfl (by decide) (Nat.le_trans (c_I c_0) (by decide)) (fun r139 M => ?_)
        refine L_icmp_eq (pc' := 742) (tgt := 1216) (a := r136) (a2 := r139) dL_law_739 (by decide) rfl ?_ ?_
        · exact L_sub [0, 1, 2, 3] rfl (rf_L_law_J1216 (b := b) Lx xs (f_L_law_L18 Lx xs n) ih l1 l2 l3 M)
        · refine L_iconst (pc' := 743) (x := (nI 0)) dL_law_742 rfl (by decide) ?_
          exact LF.zero
      · refine L_aloadq_n (pc' := 745) (i := 1) (j := 1) (a := l1) dL_law_744 rfl rfl rfl ?_
        refine L_aloadc_n (pc' := 746) (i := 0) (j := 0) (u := (300 : UInt32)) dL_law_745 rfl rfl rfl ?_
        refine L_iload_n (pc' := 747) (i := 3) (j := 3) (x := l3) dL_law_746 rfl rfl rfl ?_
        refine L_iconst (pc' := 748) (x := (nI 1)) dL_law_747 rfl (by decide) ?_
        refine L_iadd (pc' := 749) (a := l3) (a2 := (nI 1)) dL_law_748 rfl ?_
        refine L_sld (pc' := 750) (i := (l3 + (nI 1))) dL_law_749 rfl (fun e142 => ?_)
        refine L_aloadc_n (pc' := 751) (i := 0) (j := 0) (u := (300 : UInt32)) dL_law_750 rfl rfl rfl ?_
        refine L_iload_n (pc' := 752) (i := 3) (j := 3) (x := l3) dL_law_751 rfl rfl rfl ?_
        refine L_iconst (pc' := 753) (x := (nI 2)) dL_law_752 rfl (by decide) ?_
        refine L_iadd (pc' := 754) (a := l3) (a2 := (nI 2)) dL_law_753 rfl ?_
        refine L_sld (pc' := 755) (i := (l3 + (nI 2))) dL_law_754 rfl (fun e143 => ?_)
        refine L_callV_I (pc' := 758) (q := (some l1)) (As := [.int e142, .int e143]) (fun o149 => rm_X9_barter o149 e142 e143 M) mf_X9_barter lk_L_98 im_X9_barter se_X9_barter rfl rfl rfl dL_law_755 rfl (by decide) (Nat.le_trans c_0 (by decide)) (fun r144 M => ?_)
        refine L_aloadq_n (pc' := 759) (i := 2) (j := 2) (a := l2) dL_law_758 rfl rfl rfl ?_
        refine L_aloadc_n (pc' := 760) (i := 0) (j := 0) (u := (300 : UInt32)) dL_law_759 rfl rfl rfl ?_
        refine L_iload_n (pc' := 761) (i := 3) (j := 3) (x := l3) dL_law_760 rfl rfl rfl ?_
        refine L_iconst (pc' := 762) (x := (nI 1)) dL_law_761 rfl (by decide) ?_
        refine L_iadd (pc' := 763) (a := l3) (a2 := (nI 1)) dL_law_762 rfl ?_
        refine L_sld (pc' := 764) (i := (l3 + (nI 1))) dL_law_763 rfl (fun e145 => ?_)
        refine L_aloadc_n (pc' := 765) (i := 0) (j := 0) (u := (300 : UInt32)) dL_law_764 rfl rfl rfl ?_
        refine L_iload_n (pc' := 766) (i := 3) (j := 3) (x := l3) dL_law_765 rfl rfl rfl ?_
        refine L_iconst (pc' := 767) (x := (nI 2)) dL_law_766 rfl (by decide) ?_
        refine L_iadd (pc' := 768) (a := l3) (a2 := (nI 2)) dL_law_767 rfl ?_
        refine L_sld (pc' := 769) (i := (l3 + (nI 2))) dL_law_768 rfl (fun e146 => ?_)
        refine L_callV_I (pc' := 772) (q := (some l2)) (As := [.int e145, .int e146]) (fun o148 => rm_X10_barter o148 e145 e146 M) mf_X10_barter lk_L_101 im_X10_barter se_X10_barter rfl rfl rfl dL_law_769 rfl (by decide) (Nat.le_trans (c_I c_0) (by decide)) (fun r147 M => ?_)
        refine L_icmp_eq (pc' := 775) (tgt := 1216) (a := r144) (a2 := r147) dL_law_772 (by decide) rfl ?_ ?_
        · exact L_sub [0, 1, 2, 3] rfl (rf_L_law_J1216 (b := b) Lx xs (f_L_law_L18 Lx xs n) ih l1 l2 l3 M)
        · refine L_iconst (pc' := 776) (x := (nI 0)) dL_law_775 rfl (by decide) ?_
          exact LF.zero
      · refine L_aloadq_n (pc' := 778) (i := 1) (j := 1) (a := l1) dL_law_777 rfl rfl rfl ?_
        refine L_aloadc_n (pc' := 779) (i := 0) (j := 0) (u := (300 : UInt32)) dL_law_778 rfl rfl rfl ?_
        refine L_iload_n (pc' := 780) (i := 3) (j := 3) (x := l3) dL_law_779 rfl rfl rfl ?_
        refine L_iconst (pc' := 781) (x := (nI 1)) dL_law_780 rfl (by decide) ?_
        refine L_iadd (pc' := 782) (a := l3) (a2 := (nI 1)) dL_law_781 rfl ?_
        refine L_sld (pc' := 783) (i := (l3 + (nI 1))) dL_law_782 rfl (fun e150 => ?_)
        refine L_aloadc_n (pc' := 784) (i := 0) (j := 0) (u := (300 : UInt32)) dL_law_783 rfl rfl rfl ?_
        refine L_iload_n (pc' := 785) (i := 3) (j := 3) (x := l3) dL_law_784 rfl rfl rfl ?_
        refine L_iconst (pc' := 786) (x := (nI 2)) dL_law_785 rfl (by decide) ?_
        refine L_iadd (pc' := 787) (a := l3) (a2 := (nI 2)) dL_law_786 rfl ?_
        refine L_sld (pc' := 788) (i := (l3 + (nI 2))) dL_law_787 rfl (fun e151 => ?_)
        refine L_callV_I (pc' := 791) (q := (some l1)) (As := [.int e150, .int e151]) (fun o157 => rm_X9_school o157 e150 e151 M) mf_X9_school lk_L_102 im_X9_school se_X9_school rfl rfl rfl dL_law_788 rfl (by decide) (Nat.le_trans c_0 (by decide)) (fun r152 M => ?_)
        refine L_aloadq_n (pc' := 792) (i := 2) (j := 2) (a := l2) dL_law_791 rfl rfl rfl ?_
        refine L_aloadc_n (pc' := 793) (i := 0) (j := 0) (u := (300 : UInt32)) dL_law_792 rfl rfl rfl ?_
        refine L_iload_n (pc' := 794) (i := 3) (j := 3) (x := l3) dL_law_793 rfl rfl rfl ?_
        refine L_iconst (pc' := 795) (x := (nI 1)) dL_law_794 rfl (by decide) ?_
        refine L_iadd (pc' := 796) (a := l3) (a2 := (nI 1)) dL_law_795 rfl ?_
        refine L_sld (pc' := 797) (i := (l3 + (nI 1))) dL_law_796 rfl (fun e153 => ?_)
        refine L_aloadc_n (pc' := 798) (i := 0) (j := 0) (u := (300 : UInt32)) dL_law_797 rfl rfl rfl ?_
        refine L_iload_n (pc' := 799) (i := 3) (j := 3) (x := l3) dL_law_798 rfl rfl rfl ?_
        refine L_iconst (pc' := 800) (x := (nI 2)) dL_law_799 rfl (by decide) ?_
        refine L_iadd (pc' := 801) (a := l3) (a2 := (nI 2)) dL_law_800 rfl ?_
        refine L_sld (pc' := 802) (i := (l3 + (nI 2))) dL_law_801 rfl (fun e154 => ?_)
        refine L_callV_I (pc' := 805) (q := (some l2)) (As := [.int e153, .int e154]) (fun o156 => rm_X10_school o156 e153 e154 M) mf_X10_school lk_L_105 im_X10_school se_X10_school rfl rfl rfl dL_law_802 rfl (by decide) (Nat.le_trans (c_I c_0) (by decide)) (fun r155 M => ?_)
        refine L_icmp_eq (pc' := 808) (tgt := 1216) (a := r152) (a2 := r155) dL_law_805 (by decide) rfl ?_ ?_
        · exact L_sub [0, 1, 2, 3] rfl (rf_L_law_J1216 (b := b) Lx xs (f_L_law_L18 Lx xs n) ih l1 l2 l3 M)
        · refine L_iconst (pc' := 809) (x := (nI 0)) dL_law_808 rfl (by decide) ?_
          exact LF.zero
      · refine L_aloadq_n (pc' := 811) (i := 1) (j := 1) (a := l1) dL_law_810 rfl rfl rfl ?_
        refine L_aloadc_n (pc' := 812) (i := 0) (j := 0) (u := (300 : UInt32)) dL_law_811 rfl rfl rfl ?_
        refine L_iload_n (pc' := 813) (i := 3) (j := 3) (x := l3) dL_law_812 rfl rfl rfl ?_
        refine L_iconst (pc' := 814) (x := (nI 1)) dL_law_813 rfl (by decide) ?_
        refine L_iadd (pc' := 815) (a := l3) (a2 := (nI 1)) dL_law_814 rfl ?_
        refine L_sld (pc' := 816) (i := (l3 + (nI 1))) dL_law_815 rfl (fun e158 => ?_)
        refine L_aloadc_n (pc' := 817) (i := 0) (j := 0) (u := (300 : UInt32)) dL_law_816 rfl rfl rfl ?_
        refine L_iload_n (pc' := 818) (i := 3) (j := 3) (x := l3) dL_law_817 rfl rfl rfl ?_
        refine L_iconst (pc' := 819) (x := (nI 2)) dL_law_818 rfl (by decide) ?_
        refine L_iadd (pc' := 820) (a := l3) (a2 := (nI 2)) dL_law_819 rfl ?_
        refine L_sld (pc' := 821) (i := (l3 + (nI 2))) dL_law_820 rfl (fun e159 => ?_)
        refine L_aloadc_n (pc' := 822) (i := 0) (j := 0) (u := (300 : UInt32)) dL_law_821 rfl rfl rfl ?_
        refine L_iload_n (pc' := 823) (i := 3) (j := 3) (x := l3) dL_law_822 rfl rfl rfl ?_
        refine L_iconst (pc' := 824) (x := (nI 3)) dL_law_823 rfl (by decide) ?_
        refine L_iadd (pc' := 825) (a := l3) (a2 := (nI 3)) dL_law_824 rfl ?_
        refine L_sld (pc' := 826) (i := (l3 + (nI 3))) dL_law_825 rfl (fun e160 => ?_)
        refine L_aloadc_n (pc' := 827) (i := 0) (j := 0) (u := (300 : UInt32)) dL_law_826 rfl rfl rfl ?_
        refine L_iload_n (pc' := 828) (i := 3) (j := 3) (x := l3) dL_law_827 rfl rfl rfl ?_
        refine L_iconst (pc' := 829) (x := (nI 4)) dL_law_828 rfl (by decide) ?_
        refine L_iadd (pc' := 830) (a := l3) (a2 := (nI 4)) dL_law_829 rfl ?_
        refine L_sld (pc' := 831) (i := (l3 + (nI 4))) dL_law_830 rfl (fun e161 => ?_)
        refine L_callV_I (pc' := 834) (q := (some l1)) (As := [.int e158, .int e159, .int e160, .int e161]) (fun o169 => rm_X9_old o169 e158 e159 e160 e161 M) mf_X9_old lk_L_106 im_X9_old se_X9_old rfl rfl rfl dL_law_831 rfl (by decide) (Nat.le_trans c_0 (by decide)) (fun r162 M => ?_)
        refine L_aloadq_n (pc' := 835) (i := 2) (j := 2) (a := l2) dL_law_834 rfl rfl rfl ?_
        refine L_aloadc_n (pc' := 836) (i := 0) (j := 0) (u := (300 : UInt32)) dL_law_835 rfl rfl rfl ?_
        refine L_iload_n (pc' := 837) (i := 3) (j := 3) (x := l3) dL_law_836 rfl rfl rfl ?_
        refine L_iconst (pc' := 838) (x := (nI 1)) dL_law_837 rfl (by decide) ?_
        refine L_iadd (pc' := 839) (a := l3) (a2 := (nI 1)) dL_law_838 rfl ?_
        refine L_sld (pc' := 840) (i := (l3 + (nI 1))) dL_law_839 rfl (fun e163 => ?_)
        refine L_aloadc_n (pc' := 841) (i := 0) (j := 0) (u := (300 : UInt32)) dL_law_840 rfl rfl rfl ?_
        refine L_iload_n (pc' := 842) (i := 3) (j := 3) (x := l3) dL_law_841 rfl rfl rfl ?_
        refine L_iconst (pc' := 843) (x := (nI 2)) dL_law_842 rfl (by decide) ?_
        refine L_iadd (pc' := 844) (a := l3) (a2 := (nI 2)) dL_law_843 rfl ?_
        refine L_sld (pc' := 845) (i := (l3 + (nI 2))) dL_law_844 rfl (fun e164 => ?_)
        refine L_aloadc_n (pc' := 846) (i := 0) (j := 0) (u := (300 : UInt32)) dL_law_845 rfl rfl rfl ?_
        refine L_iload_n (pc' := 847) (i := 3) (j := 3) (x := l3) dL_law_846 rfl rfl rfl ?_
        refine L_iconst (pc' := 848) (x := (nI 3)) dL_law_847 rfl (by decide) ?_
        refine L_iadd (pc' := 849) (a := l3) (a2 := (nI 3)) dL_law_848 rfl ?_
        refine L_sld (pc' := 850) (i := (l3 + (nI 3))) dL_law_849 rfl (fun e165 => ?_)
        refine L_aloadc_n (pc' := 851) (i := 0) (j := 0) (u := (300 : UInt32)) dL_law_850 rfl rfl rfl ?_
        refine L_iload_n (pc' := 852) (i := 3) (j := 3) (x := l3) dL_law_851 rfl rfl rfl ?_
        refine L_iconst (pc' := 853) (x := (nI 4)) dL_law_852 rfl (by decide) ?_
        refine L_iadd (pc' := 854) (a := l3) (a2 := (nI 4)) dL_law_853 rfl ?_
        refine L_sld (pc' := 855) (i := (l3 + (nI 4))) dL_law_854 rfl (fun e166 => ?_)
        refine L_callV_I (pc' := 858) (q := (some l2)) (As := [.int e163, .int e164, .int e165, .int e166]) (fun o168 => rm_X10_old o168 e163 e164 e165 e166 M) mf_X10_old lk_L_110 im_X10_old se_X10_old rfl rfl rfl dL_law_855 rfl (by decide) (Nat.le_trans (c_I c_0) (by decide)) (fun r167 M => ?_)
        refine L_icmp_eq (pc' := 861) (tgt := 1216) (a := r162) (a2 := r167) dL_law_858 (by decide) rfl ?_ ?_
        · exact L_sub [0, 1, 2, 3] rfl (rf_L_law_J1216 (b := b) Lx xs (f_L_law_L18 Lx xs n) ih l1 l2 l3 M)
        · refine L_iconst (pc' := 862) (x := (nI 0)) dL_law_861 rfl (by decide) ?_
          exact LF.zero
      · refine L_aloadq_n (pc' := 864) (i := 1) (j := 1) (a := l1) dL_law_863 rfl rfl rfl ?_
        refine L_aloadc_n (pc' := 865) (i := 0) (j := 0) (u := (300 : UInt32)) dL_law_864 rfl rfl rfl ?_
        refine L_iload_n (pc' := 866) (i := 3) (j := 3) (x := l3) dL_law_865 rfl rfl rfl ?_
        refine L_iconst (pc' := 867) (x := (nI 1)) dL_law_866 rfl (by decide) ?_
        refine L_iadd (pc' := 868) (a := l3) (a2 := (nI 1)) dL_law_867 rfl ?_
        refine L_sld (pc' := 869) (i := (l3 + (nI 1))) dL_law_868 rfl (fun e170 => ?_)
        refine L_aloadc_n (pc' := 870) (i := 0) (j := 0) (u := (300 : UInt32)) dL_law_869 rfl rfl rfl ?_
        refine L_iload_n (pc' := 871) (i := 3) (j := 3) (x := l3) dL_law_870 rfl rfl rfl ?_
        refine L_iconst (pc' := 872) (x := (nI 2)) dL_law_871 rfl (by decide) ?_
        refine L_iadd (pc' := 873) (a := l3) (a2 := (nI 2)) dL_law_872 rfl ?_
        refine L_sld (pc' := 874) (i := (l3 + (nI 2))) dL_law_873 rfl (fun e171 => ?_)
        refine L_aloadc_n (pc' := 875) (i := 0) (j := 0) (u := (300 : UInt32)) dL_law_874 rfl rfl rfl ?_
        refine L_iload_n (pc' := 876) (i := 3) (j := 3) (x := l3) dL_law_875 rfl rfl rfl ?_
        refine L_iconst (pc' := 877) (x := (nI 3)) dL_law_876 rfl (by decide) ?_
        refine L_iadd (pc' := 878) (a := l3) (a2 := (nI 3)) dL_law_877 rfl ?_
        refine L_sld (pc' := 879) (i := (l3 + (nI 3))) dL_law_878 rfl (fun e172 => ?_)
        refine L_aloadc_n (pc' := 880) (i := 0) (j := 0) (u := (300 : UInt32)) dL_law_879 rfl rfl rfl ?_
        refine L_iload_n (pc' := 881) (i := 3) (j := 3) (x := l3) dL_law_880 rfl rfl rfl ?_
        refine L_iconst (pc' := 882) (x := (nI 4)) dL_law_881 rfl (by decide) ?_
        refine L_iadd (pc' := 883) (a := l3) (a2 := (nI 4)) dL_law_882 rfl ?_
        refine L_sld (pc' := 884) (i := (l3 + (nI 4))) dL_law_883 rfl (fun e173 => ?_)
        refine L_callV_I (pc' := 887) (q := (some l1)) (As := [.int e170, .int e171, .int e172, .int e173]) (fun o181 => rm_X9_game o181 e170 e171 e172 e173 M) mf_X9_game lk_L_111 im_X9_game se_X9_game rfl rfl rfl dL_law_884 rfl (by decide) (Nat.le_trans c_0 (by decide)) (fun r174 M => ?_)
        refine L_aloadq_n (pc' := 888) (i := 2) (j := 2) (a := l2) dL_law_887 rfl rfl rfl ?_
        refine L_aloadc_n (pc' := 889) (i := 0) (j := 0) (u := (300 : UInt32)) dL_law_888 rfl rfl rfl ?_
        refine L_iload_n (pc' := 890) (i := 3) (j := 3) (x := l3) dL_law_889 rfl rfl rfl ?_
        refine L_iconst (pc' := 891) (x := (nI 1)) dL_law_890 rfl (by decide) ?_
        refine L_iadd (pc' := 892) (a := l3) (a2 := (nI 1)) dL_law_891 rfl ?_
        refine L_sld (pc' := 893) (i := (l3 + (nI 1))) dL_law_892 rfl (fun e175 => ?_)
        refine L_aloadc_n (pc' := 894) (i := 0) (j := 0) (u := (300 : UInt32)) dL_law_893 rfl rfl rfl ?_
        refine L_iload_n (pc' := 895) (i := 3) (j := 3) (x := l3) dL_law_894 rfl rfl rfl ?_
        refine L_iconst (pc' := 896) (x := (nI 2)) dL_law_895 rfl (by decide) ?_
        refine L_iadd (pc' := 897) (a := l3) (a2 := (nI 2)) dL_law_896 rfl ?_
        refine L_sld (pc' := 898) (i := (l3 + (nI 2))) dL_law_897 rfl (fun e176 => ?_)
        refine L_aloadc_n (pc' := 899) (i := 0) (j := 0) (u := (300 : UInt32)) dL_law_898 rfl rfl rfl ?_
        refine L_iload_n (pc' := 900) (i := 3) (j := 3) (x := l3) dL_law_899 rfl rfl rfl ?_
        refine L_iconst (pc' := 901) (x := (nI 3)) dL_law_900 rfl (by decide) ?_
        refine L_iadd (pc' := 902) (a := l3) (a2 := (nI 3)) dL_law_901 rfl ?_
        refine L_sld (pc' := 903) (i := (l3 + (nI 3))) dL_law_902 rfl (fun e177 => ?_)
        refine L_aloadc_n (pc' := 904) (i := 0) (j := 0) (u := (300 : UInt32)) dL_law_903 rfl rfl rfl ?_
        refine L_iload_n (pc' := 905) (i := 3) (j := 3) (x := l3) dL_law_904 rfl rfl rfl ?_
        refine L_iconst (pc' := 906) (x := (nI 4)) dL_law_905 rfl (by decide) ?_
        refine L_iadd (pc' := 907) (a := l3) (a2 := (nI 4)) dL_law_906 rfl ?_
        refine L_sld (pc' := 908) (i := (l3 + (nI 4))) dL_law_907 rfl (fun e178 => ?_)
        refine L_callV_I (pc' := 911) (q := (some l2)) (As := [.int e175, .int e176, .int e177, .int e178]) (fun o180 => rm_X10_game o180 e175 e176 e177 e178 M) mf_X10_game lk_L_114 im_X10_game se_X10_game rfl rfl rfl dL_law_908 rfl (by decide) (Nat.le_trans (c_I c_0) (by decide)) (fun r179 M => ?_)
        refine L_icmp_eq (pc' := 914) (tgt := 1216) (a := r174) (a2 := r179) dL_law_911 (by decide) rfl ?_ ?_
        · exact L_sub [0, 1, 2, 3] rfl (rf_L_law_J1216 (b := b) Lx xs (f_L_law_L18 Lx xs n) ih l1 l2 l3 M)
        · refine L_iconst (pc' := 915) (x := (nI 0)) dL_law_914 rfl (by decide) ?_
          exact LF.zero
      · refine L_aloadq_n (pc' := 917) (i := 1) (j := 1) (a := l1) dL_law_916 rfl rfl rfl ?_
        refine L_aloadc_n (pc' := 918) (i := 0) (j := 0) (u := (300 : UInt32)) dL_law_917 rfl rfl rfl ?_
        refine L_iload_n (pc' := 919) (i := 3) (j := 3) (x := l3) dL_law_918 rfl rfl rfl ?_
        refine L_iconst (pc' := 920) (x := (nI 1)) dL_law_919 rfl (by decide) ?_
        refine L_iadd (pc' := 921) (a := l3) (a2 := (nI 1)) dL_law_920 rfl ?_
        refine L_sld (pc' := 922) (i := (l3 + (nI 1))) dL_law_921 rfl (fun e182 => ?_)
        refine L_aloadc_n (pc' := 923) (i := 0) (j := 0) (u := (300 : UInt32)) dL_law_922 rfl rfl rfl ?_
        refine L_iload_n (pc' := 924) (i := 3) (j := 3) (x := l3) dL_law_923 rfl rfl rfl ?_
        refine L_iconst (pc' := 925) (x := (nI 2)) dL_law_924 rfl (by decide) ?_
        refine L_iadd (pc' := 926) (a := l3) (a2 := (nI 2)) dL_law_925 rfl ?_
        refine L_sld (pc' := 927) (i := (l3 + (nI 2))) dL_law_926 rfl (fun e183 => ?_)
        refine L_callV_I (pc' := 930) (q := (some l1)) (As := [.int e182, .int e183]) (fun o189 => rm_X9_parts o189 e182 e183 M) mf_X9_parts lk_L_115 im_X9_parts se_X9_parts rfl rfl rfl dL_law_927 rfl (by decide) (Nat.le_trans c_0 (by decide)) (fun r184 M => ?_)
        refine L_aloadq_n (pc' := 931) (i := 2) (j := 2) (a := l2) dL_law_930 rfl rfl rfl ?_
        refine L_aloadc_n (pc' := 932) (i := 0) (j := 0) (u := (300 : UInt32)) dL_law_931 rfl rfl rfl ?_
        refine L_iload_n (pc' := 933) (i := 3) (j := 3) (x := l3) dL_law_932 rfl rfl rfl ?_
        refine L_iconst (pc' := 934) (x := (nI 1)) dL_law_933 rfl (by decide) ?_
        refine L_iadd (pc' := 935) (a := l3) (a2 := (nI 1)) dL_law_934 rfl ?_
        refine L_sld (pc' := 936) (i := (l3 + (nI 1))) dL_law_935 rfl (fun e185 => ?_)
        refine L_aloadc_n (pc' := 937) (i := 0) (j := 0) (u := (300 : UInt32)) dL_law_936 rfl rfl rfl ?_
        refine L_iload_n (pc' := 938) (i := 3) (j := 3) (x := l3) dL_law_937 rfl rfl rfl ?_
        refine L_iconst (pc' := 939) (x := (nI 2)) dL_law_938 rfl (by decide) ?_
        refine L_iadd (pc' := 940) (a := l3) (a2 := (nI 2)) dL_law_939 rfl ?_
        refine L_sld (pc' := 941) (i := (l3 + (nI 2))) dL_law_940 rfl (fun e186 => ?_)
        refine L_callV_I (pc' := 944) (q := (some l2)) (As := [.int e185, .int e186]) (fun o188 => rm_X10_parts o188 e185 e186 M) mf_X10_parts lk_L_118 im_X10_parts se_X10_parts rfl rfl rfl dL_law_941 rfl (by decide) (Nat.le_trans (c_I c_0) (by decide)) (fun r187 M => ?_)
        refine L_icmp_eq (pc' := 947) (tgt := 1216) (a := r184) (a2 := r187) dL_law_944 (by decide) rfl ?_ ?_
        · exact L_sub [0, 1, 2, 3] rfl (rf_L_law_J1216 (b := b) Lx xs (f_L_law_L18 Lx xs n) ih l1 l2 l3 M)
        · refine L_iconst (pc' := 948) (x := (nI 0)) dL_law_947 rfl (by decide) ?_
          exact LF.zero
      · refine L_aloadq_n (pc' := 950) (i := 1) (j := 1) (a := l1) dL_law_949 rfl rfl rfl ?_
        refine L_aloadc_n (pc' := 951) (i := 0) (j := 0) (u := (300 : UInt32)) dL_law_950 rfl rfl rfl ?_
        refine L_iload_n (pc' := 952) (i := 3) (j := 3) (x := l3) dL_law_951 rfl rfl rfl ?_
        refine L_iconst (pc' := 953) (x := (nI 1)) dL_law_952 rfl (by decide) ?_
        refine L_iadd (pc' := 954) (a := l3) (a2 := (nI 1)) dL_law_953 rfl ?_
        refine L_sld (pc' := 955) (i := (l3 + (nI 1))) dL_law_954 rfl (fun e190 => ?_)
        refine L_callV_I (pc' := 958) (q := (some l1)) (As := [.int e190]) (fun o195 => rm_X9_order o195 e190 M) mf_X9_order lk_L_119 im_X9_order se_X9_order rfl rfl rfl dL_law_955 rfl (by decide) (Nat.le_trans c_0 (by decide)) (fun r191 M => ?_)
        refine L_aloadq_n (pc' := 959) (i := 2) (j := 2) (a := l2) dL_law_958 rfl rfl rfl ?_
        refine L_aloadc_n (pc' := 960) (i := 0) (j := 0) (u := (300 : UInt32)) dL_law_959 rfl rfl rfl ?_
        refine L_iload_n (pc' := 961) (i := 3) (j := 3) (x := l3) dL_law_960 rfl rfl rfl ?_
        refine L_iconst (pc' := 962) (x := (nI 1)) dL_law_961 rfl (by decide) ?_
        refine L_iadd (pc' := 963) (a := l3) (a2 := (nI 1)) dL_law_962 rfl ?_
        refine L_sld (pc' := 964) (i := (l3 + (nI 1))) dL_law_963 rfl (fun e192 => ?_)
        refine L_callV_I (pc' := 967) (q := (some l2)) (As := [.int e192]) (fun o194 => rm_X10_order o194 e192 M) mf_X10_order lk_L_122 im_X10_order se_X10_order rfl rfl rfl dL_law_964 rfl (by decide) (Nat.le_trans (c_I c_0) (by decide)) (fun r193 M => ?_)
        refine L_icmp_eq (pc' := 970) (tgt := 1216) (a := r191) (a2 := r193) dL_law_967 (by decide) rfl ?_ ?_
        · exact L_sub [0, 1, 2, 3] rfl (rf_L_law_J1216 (b := b) Lx xs (f_L_law_L18 Lx xs n) ih l1 l2 l3 M)
        · refine L_iconst (pc' := 971) (x := (nI 0)) dL_law_970 rfl (by decide) ?_
          exact LF.zero
      · refine L_aloadq_n (pc' := 973) (i := 1) (j := 1) (a := l1) dL_law_972 rfl rfl rfl ?_
        refine L_aloadc_n (pc' := 974) (i := 0) (j := 0) (u := (300 : UInt32)) dL_law_973 rfl rfl rfl ?_
        refine L_iload_n (pc' := 975) (i := 3) (j := 3) (x := l3) dL_law_974 rfl rfl rfl ?_
        refine L_iconst (pc' := 976) (x := (nI 1)) dL_law_975 rfl (by decide) ?_
        refine L_iadd (pc' := 977) (a := l3) (a2 := (nI 1)) dL_law_976 rfl ?_
        refine L_sld (pc' := 978) (i := (l3 + (nI 1))) dL_law_977 rfl (fun e196 => ?_)
        refine L_aloadc_n (pc' := 979) (i := 0) (j := 0) (u := (300 : UInt32)) dL_law_978 rfl rfl rfl ?_
        refine L_iload_n (pc' := 980) (i := 3) (j := 3) (x := l3) dL_law_979 rfl rfl rfl ?_
        refine L_iconst (pc' := 981) (x := (nI 2)) dL_law_980 rfl (by decide) ?_
        refine L_iadd (pc' := 982) (a := l3) (a2 := (nI 2)) dL_law_981 rfl ?_
        refine L_sld (pc' := 983) (i := (l3 + (nI 2))) dL_law_982 rfl (fun e197 => ?_)
        refine L_aloadc_n (pc' := 984) (i := 0) (j := 0) (u := (300 : UInt32)) dL_law_983 rfl rfl rfl ?_
        refine L_iload_n (pc' := 985) (i := 3) (j := 3) (x := l3) dL_law_984 rfl rfl rfl ?_
        refine L_iconst (pc' := 986) (x := (nI 3)) dL_law_985 rfl (by decide) ?_
        refine L_iadd (pc' := 987) (a := l3) (a2 := (nI 3)) dL_law_986 rfl ?_
        refine L_sld (pc' := 988) (i := (l3 + (nI 3))) dL_law_987 rfl (fun e198 => ?_)
        refine L_callV_I (pc' := 991) (q := (some l1)) (As := [.int e196, .int e197, .int e198]) (fun o205 => rm_X9_note o205 e196 e197 e198 M) mf_X9_note lk_L_123 im_X9_note se_X9_note rfl rfl rfl dL_law_988 rfl (by decide) (Nat.le_trans c_0 (by decide)) (fun r199 M => ?_)
        refine L_aloadq_n (pc' := 992) (i := 2) (j := 2) (a := l2) dL_law_991 rfl rfl rfl ?_
        refine L_aloadc_n (pc' := 993) (i := 0) (j := 0) (u := (300 : UInt32)) dL_law_992 rfl rfl rfl ?_
        refine L_iload_n (pc' := 994) (i := 3) (j := 3) (x := l3) dL_law_993 rfl rfl rfl ?_
        refine L_iconst (pc' := 995) (x := (nI 1)) dL_law_994 rfl (by decide) ?_
        refine L_iadd (pc' := 996) (a := l3) (a2 := (nI 1)) dL_law_995 rfl ?_
        refine L_sld (pc' := 997) (i := (l3 + (nI 1))) dL_law_996 rfl (fun e200 => ?_)
        refine L_aloadc_n (pc' := 998) (i := 0) (j := 0) (u := (300 : UInt32)) dL_law_997 rfl rfl rfl ?_
        refine L_iload_n (pc' := 999) (i := 3) (j := 3) (x := l3) dL_law_998 rfl rfl rfl ?_
        refine L_iconst (pc' := 1000) (x := (nI 2)) dL_law_999 rfl (by decide) ?_
        refine L_iadd (pc' := 1001) (a := l3) (a2 := (nI 2)) dL_law_1000 rfl ?_
        refine L_sld (pc' := 1002) (i := (l3 + (nI 2))) dL_law_1001 rfl (fun e201 => ?_)
        refine L_aloadc_n (pc' := 1003) (i := 0) (j := 0) (u := (300 : UInt32)) dL_law_1002 rfl rfl rfl ?_
        refine L_iload_n (pc' := 1004) (i := 3) (j := 3) (x := l3) dL_law_1003 rfl rfl rfl ?_
        refine L_iconst (pc' := 1005) (x := (nI 3)) dL_law_1004 rfl (by decide) ?_
        refine L_iadd (pc' := 1006) (a := l3) (a2 := (nI 3)) dL_law_1005 rfl ?_
        refine L_sld (pc' := 1007) (i := (l3 + (nI 3))) dL_law_1006 rfl (fun e202 => ?_)
        refine L_callV_I (pc' := 1010) (q := (some l2)) (As := [.int e200, .int e201, .int e202]) (fun o204 => rm_X10_note o204 e200 e201 e202 M) mf_X10_note lk_L_126 im_X10_note se_X10_note rfl rfl rfl dL_law_1007 rfl (by decide) (Nat.le_trans (c_I c_0) (by decide)) (fun r203 M => ?_)
        refine L_icmp_eq (pc' := 1013) (tgt := 1216) (a := r199) (a2 := r203) dL_law_1010 (by decide) rfl ?_ ?_
        · exact L_sub [0, 1, 2, 3] rfl (rf_L_law_J1216 (b := b) Lx xs (f_L_law_L18 Lx xs n) ih l1 l2 l3 M)
        · refine L_iconst (pc' := 1014) (x := (nI 0)) dL_law_1013 rfl (by decide) ?_
          exact LF.zero
      · refine L_aloadq_n (pc' := 1016) (i := 1) (j := 1) (a := l1) dL_law_1015 rfl rfl rfl ?_
        refine L_aloadc_n (pc' := 1017) (i := 0) (j := 0) (u := (300 : UInt32)) dL_law_1016 rfl rfl rfl ?_
        refine L_iload_n (pc' := 1018) (i := 3) (j := 3) (x := l3) dL_law_1017 rfl rfl rfl ?_
        refine L_iconst (pc' := 1019) (x := (nI 1)) dL_law_1018 rfl (by decide) ?_
        refine L_iadd (pc' := 1020) (a := l3) (a2 := (nI 1)) dL_law_1019 rfl ?_
        refine L_sld (pc' := 1021) (i := (l3 + (nI 1))) dL_law_1020 rfl (fun e206 => ?_)
        refine L_callV_I (pc' := 1024) (q := (some l1)) (As := [.int e206]) (fun o211 => rm_X9_ruled o211 e206 M) mf_X9_ruled lk_L_127 im_X9_ruled se_X9_ruled rfl rfl rfl dL_law_1021 rfl (by decide) (Nat.le_trans c_0 (by decide)) (fun r207 M => ?_)
        refine L_aloadq_n (pc' := 1025) (i := 2) (j := 2) (a := l2) dL_law_1024 rfl rfl rfl ?_
        refine L_aloadc_n (pc' := 1026) (i := 0) (j := 0) (u := (300 : UInt32)) dL_law_1025 rfl rfl rfl ?_
        refine L_iload_n (pc' := 1027) (i := 3) (j := 3) (x := l3) dL_law_1026 rfl rfl rfl ?_
        refine L_iconst (pc' := 1028) (x := (nI 1)) dL_law_1027 rfl (by decide) ?_
        refine L_iadd (pc' := 1029) (a := l3) (a2 := (nI 1)) dL_law_1028 rfl ?_
        refine L_sld (pc' := 1030) (i := (l3 + (nI 1))) dL_law_1029 rfl (fun e208 => ?_)
        refine L_callV_I (pc' := 1033) (q := (some l2)) (As := [.int e208]) (fun o210 => rm_X10_ruled o210 e208 M) mf_X10_ruled lk_L_130 im_X10_ruled se_X10_ruled rfl rfl rfl dL_law_1030 rfl (by decide) (Nat.le_trans (c_I c_0) (by decide)) (fun r209 M => ?_)
        refine L_icmp_eq (pc' := 1036) (tgt := 1216) (a := r207) (a2 := r209) dL_law_1033 (by decide) rfl ?_ ?_
        · exact L_sub [0, 1, 2, 3] rfl (rf_L_law_J1216 (b := b) Lx xs (f_L_law_L18 Lx xs n) ih l1 l2 l3 M)
        · refine L_iconst (pc' := 1037) (x := (nI 0)) dL_law_1036 rfl (by decide) ?_
          exact LF.zero
      · refine L_aloadq_n (pc' := 1039) (i := 1) (j := 1) (a := l1) dL_law_1038 rfl rfl rfl ?_
        refine L_aloadc_n (pc' := 1040) (i := 0) (j := 0) (u := (300 : UInt32)) dL_law_1039 rfl rfl rfl ?_
        refine L_iload_n (pc' := 1041) (i := 3) (j := 3) (x := l3) dL_law_1040 rfl rfl rfl ?_
        refine L_iconst (pc' := 1042) (x := (nI 1)) dL_law_1041 rfl (by decide) ?_
        refine L_iadd (pc' := 1043) (a := l3) (a2 := (nI 1)) dL_law_1042 rfl ?_
        refine L_sld (pc' := 1044) (i := (l3 + (nI 1))) dL_law_1043 rfl (fun e212 => ?_)
        refine L_aloadc_n (pc' := 1045) (i := 0) (j := 0) (u := (300 : UInt32)) dL_law_1044 rfl rfl rfl ?_
        refine L_iload_n (pc' := 1046) (i := 3) (j := 3) (x := l3) dL_law_1045 rfl rfl rfl ?_
        refine L_iconst (pc' := 1047) (x := (nI 2)) dL_law_1046 rfl (by decide) ?_
        refine L_iadd (pc' := 1048) (a := l3) (a2 := (nI 2)) dL_law_1047 rfl ?_
        refine L_sld (pc' := 1049) (i := (l3 + (nI 2))) dL_law_1048 rfl (fun e213 => ?_)
        refine L_callV_I (pc' := 1052) (q := (some l1)) (As := [.int e212, .int e213]) (fun o219 => rm_X9_look o219 e212 e213 M) mf_X9_look lk_L_131 im_X9_look se_X9_look rfl rfl rfl dL_law_1049 rfl (by decide) (Nat.le_trans c_0 (by decide)) (fun r214 M => ?_)
        refine L_aloadq_n (pc' := 1053) (i := 2) (j := 2) (a := l2) dL_law_1052 rfl rfl rfl ?_
        refine L_aloadc_n (pc' := 1054) (i := 0) (j := 0) (u := (300 : UInt32)) dL_law_1053 rfl rfl rfl ?_
        refine L_iload_n (pc' := 1055) (i := 3) (j := 3) (x := l3) dL_law_1054 rfl rfl rfl ?_
        refine L_iconst (pc' := 1056) (x := (nI 1)) dL_law_1055 rfl (by decide) ?_
        refine L_iadd (pc' := 1057) (a := l3) (a2 := (nI 1)) dL_law_1056 rfl ?_
        refine L_sld (pc' := 1058) (i := (l3 + (nI 1))) dL_law_1057 rfl (fun e215 => ?_)
        refine L_aloadc_n (pc' := 1059) (i := 0) (j := 0) (u := (300 : UInt32)) dL_law_1058 rfl rfl rfl ?_
        refine L_iload_n (pc' := 1060) (i := 3) (j := 3) (x := l3) dL_law_1059 rfl rfl rfl ?_
        refine L_iconst (pc' := 1061) (x := (nI 2)) dL_law_1060 rfl (by decide) ?_
        refine L_iadd (pc' := 1062) (a := l3) (a2 := (nI 2)) dL_law_1061 rfl ?_
        refine L_sld (pc' := 1063) (i := (l3 + (nI 2))) dL_law_1062 rfl (fun e216 => ?_)
        refine L_callV_I (pc' := 1066) (q := (some l2)) (As := [.int e215, .int e216]) (fun o218 => rm_X10_look o218 e215 e216 M) mf_X10_look lk_L_134 im_X10_look se_X10_look rfl rfl rfl dL_law_1063 rfl (by decide) (Nat.le_trans (c_I c_0) (by decide)) (fun r217 M => ?_)
        refine L_icmp_eq (pc' := 1069) (tgt := 1216) (a := r214) (a2 := r217) dL_law_1066 (by decide) rfl ?_ ?_
        · exact L_sub [0, 1, 2, 3] rfl (rf_L_law_J1216 (b := b) Lx xs (f_L_law_L18 Lx xs n) ih l1 l2 l3 M)
        · refine L_iconst (pc' := 1070) (x := (nI 0)) dL_law_1069 rfl (by decide) ?_
          exact LF.zero
      · refine L_aloadq_n (pc' := 1072) (i := 1) (j := 1) (a := l1) dL_law_1071 rfl rfl rfl ?_
        refine L_aloadc_n (pc' := 1073) (i := 0) (j := 0) (u := (300 : UInt32)) dL_law_1072 rfl rfl rfl ?_
        refine L_iload_n (pc' := 1074) (i := 3) (j := 3) (x := l3) dL_law_1073 rfl rfl rfl ?_
        refine L_iconst (pc' := 1075) (x := (nI 1)) dL_law_1074 rfl (by decide) ?_
        refine L_iadd (pc' := 1076) (a := l3) (a2 := (nI 1)) dL_law_1075 rfl ?_
        refine L_sld (pc' := 1077) (i := (l3 + (nI 1))) dL_law_1076 rfl (fun e220 => ?_)
        refine L_callV_I (pc' := 1080) (q := (some l1)) (As := [.int e220]) (fun o225 => rm_X9_seed o225 e220 M) mf_X9_seed lk_L_135 im_X9_seed se_X9_seed rfl rfl rfl dL_law_1077 rfl (by decide) (Nat.le_trans c_0 (by decide)) (fun r221 M => ?_)
        refine L_aloadq_n (pc' := 1081) (i := 2) (j := 2) (a := l2) dL_law_1080 rfl rfl rfl ?_
        refine L_aloadc_n (pc' := 1082) (i := 0) (j := 0) (u := (300 : UInt32)) dL_law_1081 rfl rfl rfl ?_
        refine L_iload_n (pc' := 1083) (i := 3) (j := 3) (x := l3) dL_law_1082 rfl rfl rfl ?_
        refine L_iconst (pc' := 1084) (x := (nI 1)) dL_law_1083 rfl (by decide) ?_
        refine L_iadd (pc' := 1085) (a := l3) (a2 := (nI 1)) dL_law_1084 rfl ?_
        refine L_sld (pc' := 1086) (i := (l3 + (nI 1))) dL_law_1085 rfl (fun e222 => ?_)
        refine L_callV_I (pc' := 1089) (q := (some l2)) (As := [.int e222]) (fun o224 => rm_X10_seed o224 e222 M) mf_X10_seed lk_L_138 im_X10_seed se_X10_seed rfl rfl rfl dL_law_1086 rfl (by decide) (Nat.le_trans (c_I c_0) (by decide)) (fun r223 M => ?_)
        refine L_icmp_eq (pc' := 1092) (tgt := 1216) (a := r221) (a2 := r223) dL_law_1089 (by decide) rfl ?_ ?_
        · exact L_sub [0, 1, 2, 3] rfl (rf_L_law_J1216 (b := b) Lx xs (f_L_law_L18 Lx xs n) ih l1 l2 l3 M)
        · refine L_iconst (pc' := 1093) (x := (nI 0)) dL_law_1092 rfl (by decide) ?_
          exact LF.zero
      · refine L_aloadq_n (pc' := 1095) (i := 1) (j := 1) (a := l1) dL_law_1094 rfl rfl rfl ?_
        refine L_aloadc_n (pc' := 1096) (i := 0) (j := 0) (u := (300 : UInt32)) dL_law_1095 rfl rfl rfl ?_
        refine L_iload_n (pc' := 1097) (i := 3) (j := 3) (x := l3) dL_law_1096 rfl rfl rfl ?_
        refine L_iconst (pc' := 1098) (x := (nI 1)) dL_law_1097 rfl (by decide) ?_
        refine L_iadd (pc' := 1099) (a := l3) (a2 := (nI 1)) dL_law_1098 rfl ?_
        refine L_sld (pc' := 1100) (i := (l3 + (nI 1))) dL_law_1099 rfl (fun e226 => ?_)
        refine L_aloadc_n (pc' := 1101) (i := 0) (j := 0) (u := (300 : UInt32)) dL_law_1100 rfl rfl rfl ?_
        refine L_iload_n (pc' := 1102) (i := 3) (j := 3) (x := l3) dL_law_1101 rfl rfl rfl ?_
        refine L_iconst (pc' := 1103) (x := (nI 2)) dL_law_1102 rfl (by decide) ?_
        refine L_iadd (pc' := 1104) (a := l3) (a2 := (nI 2)) dL_law_1103 rfl ?_
        refine L_sld (pc' := 1105) (i := (l3 + (nI 2))) dL_law_1104 rfl (fun e227 => ?_)
        refine L_aloadc_n (pc' := 1106) (i := 0) (j := 0) (u := (300 : UInt32)) dL_law_1105 rfl rfl rfl ?_
        refine L_iload_n (pc' := 1107) (i := 3) (j := 3) (x := l3) dL_law_1106 rfl rfl rfl ?_
        refine L_iconst (pc' := 1108) (x := (nI 3)) dL_law_1107 rfl (by decide) ?_
        refine L_iadd (pc' := 1109) (a := l3) (a2 := (nI 3)) dL_law_1108 rfl ?_
        refine L_sld (pc' := 1110) (i := (l3 + (nI 3))) dL_law_1109 rfl (fun e228 => ?_)
        refine L_aloadc_n (pc' := 1111) (i := 0) (j := 0) (u := (300 : UInt32)) dL_law_1110 rfl rfl rfl ?_
        refine L_iload_n (pc' := 1112) (i := 3) (j := 3) (x := l3) dL_law_1111 rfl rfl rfl ?_
        refine L_iconst (pc' := 1113) (x := (nI 4)) dL_law_1112 rfl (by decide) ?_
        refine L_iadd (pc' := 1114) (a := l3) (a2 := (nI 4)) dL_law_1113 rfl ?_
        refine L_sld (pc' := 1115) (i := (l3 + (nI 4))) dL_law_1114 rfl (fun e229 => ?_)
        refine L_callV_I (pc' := 1118) (q := (some l1)) (As := [.int e226, .int e227, .int e228, .int e229]) (fun o237 => rm_X9_parrots o237 e226 e227 e228 e229 M) mf_X9_parrots lk_L_139 im_X9_parrots se_X9_parrots rfl rfl rfl dL_law_1115 rfl (by decide) (Nat.le_trans c_0 (by decide)) (fun r230 M => ?_)
        refine L_aloadq_n (pc' := 1119) (i := 2) (j := 2) (a := l2) dL_law_1118 rfl rfl rfl ?_
        refine L_aloadc_n (pc' := 1120) (i := 0) (j := 0) (u := (300 : UInt32)) dL_law_1119 rfl rfl rfl ?_
        refine L_iload_n (pc' := 1121) (i := 3) (j := 3) (x := l3) dL_law_1120 rfl rfl rfl ?_
        refine L_iconst (pc' := 1122) (x := (nI 1)) dL_law_1121 rfl (by decide) ?_
        refine L_iadd (pc' := 1123) (a := l3) (a2 := (nI 1)) dL_law_1122 rfl ?_
        refine L_sld (pc' := 1124) (i := (l3 + (nI 1))) dL_law_1123 rfl (fun e231 => ?_)
        refine L_aloadc_n (pc' := 1125) (i := 0) (j := 0) (u := (300 : UInt32)) dL_law_1124 rfl rfl rfl ?_
        refine L_iload_n (pc' := 1126) (i := 3) (j := 3) (x := l3) dL_law_1125 rfl rfl rfl ?_
        refine L_iconst (pc' := 1127) (x := (nI 2)) dL_law_1126 rfl (by decide) ?_
        refine L_iadd (pc' := 1128) (a := l3) (a2 := (nI 2)) dL_law_1127 rfl ?_
        refine L_sld (pc' := 1129) (i := (l3 + (nI 2))) dL_law_1128 rfl (fun e232 => ?_)
        refine L_aloadc_n (pc' := 1130) (i := 0) (j := 0) (u := (300 : UInt32)) dL_law_1129 rfl rfl rfl ?_
        refine L_iload_n (pc' := 1131) (i := 3) (j := 3) (x := l3) dL_law_1130 rfl rfl rfl ?_
        refine L_iconst (pc' := 1132) (x := (nI 3)) dL_law_1131 rfl (by decide) ?_
        refine L_iadd (pc' := 1133) (a := l3) (a2 := (nI 3)) dL_law_1132 rfl ?_
        refine L_sld (pc' := 1134) (i := (l3 + (nI 3))) dL_law_1133 rfl (fun e233 => ?_)
        refine L_aloadc_n (pc' := 1135) (i := 0) (j := 0) (u := (300 : UInt32)) dL_law_1134 rfl rfl rfl ?_
        refine L_iload_n (pc' := 1136) (i := 3) (j := 3) (x := l3) dL_law_1135 rfl rfl rfl ?_
        refine L_iconst (pc' := 1137) (x := (nI 4)) dL_law_1136 rfl (by decide) ?_
        refine L_iadd (pc' := 1138) (a := l3) (a2 := (nI 4)) dL_law_1137 rfl ?_
        refine L_sld (pc' := 1139) (i := (l3 + (nI 4))) dL_law_1138 rfl (fun e234 => ?_)
        refine L_callV_I (pc' := 1142) (q := (some l2)) (As := [.int e231, .int e232, .int e233, .int e234]) (fun o236 => rm_X10_parrots o236 e231 e232 e233 e234 M) mf_X10_parrots lk_L_142 im_X10_parrots se_X10_parrots rfl rfl rfl dL_law_1139 rfl (by decide) (Nat.le_trans (c_I c_0) (by decide)) (fun r235 M => ?_)
        refine L_icmp_eq (pc' := 1145) (tgt := 1216) (a := r230) (a2 := r235) dL_law_1142 (by decide) rfl ?_ ?_
        · exact L_sub [0, 1, 2, 3] rfl (rf_L_law_J1216 (b := b) Lx xs (f_L_law_L18 Lx xs n) ih l1 l2 l3 M)
        · refine L_iconst (pc' := 1146) (x := (nI 0)) dL_law_1145 rfl (by decide) ?_
          exact LF.zero
      · refine L_aloadq_n (pc' := 1148) (i := 1) (j := 1) (a := l1) dL_law_1147 rfl rfl rfl ?_
        refine L_aloadc_n (pc' := 1149) (i := 0) (j := 0) (u := (300 : UInt32)) dL_law_1148 rfl rfl rfl ?_
        refine L_iload_n (pc' := 1150) (i := 3) (j := 3) (x := l3) dL_law_1149 rfl rfl rfl ?_
        refine L_iconst (pc' := 1151) (x := (nI 1)) dL_law_1150 rfl (by decide) ?_
        refine L_iadd (pc' := 1152) (a := l3) (a2 := (nI 1)) dL_law_1151 rfl ?_
        refine L_sld (pc' := 1153) (i := (l3 + (nI 1))) dL_law_1152 rfl (fun e238 => ?_)
        refine L_callV_I (pc' := 1156) (q := (some l1)) (As := [.int e238]) (fun o243 => rm_X9_count o243 e238 M) mf_X9_count lk_L_143 im_X9_count se_X9_count rfl rfl rfl dL_law_1153 rfl (by decide) (Nat.le_trans c_0 (by decide)) (fun r239 M => ?_)
        refine L_aloadq_n (pc' := 1157) (i := 2) (j := 2) (a := l2) dL_law_1156 rfl rfl rfl ?_
        refine L_aloadc_n (pc' := 1158) (i := 0) (j := 0) (u := (300 : UInt32)) dL_law_1157 rfl rfl rfl ?_
        refine L_iload_n (pc' := 1159) (i := 3) (j := 3) (x := l3) dL_law_1158 rfl rfl rfl ?_
        refine L_iconst (pc' := 1160) (x := (nI 1)) dL_law_1159 rfl (by decide) ?_
        refine L_iadd (pc' := 1161) (a := l3) (a2 := (nI 1)) dL_law_1160 rfl ?_
        refine L_sld (pc' := 1162) (i := (l3 + (nI 1))) dL_law_1161 rfl (fun e240 => ?_)
        refine L_callV_I (pc' := 1165) (q := (some l2)) (As := [.int e240]) (fun o242 => rm_X10_count o242 e240 M) mf_X10_count lk_L_146 im_X10_count se_X10_count rfl rfl rfl dL_law_1162 rfl (by decide) (Nat.le_trans (c_I c_0) (by decide)) (fun r241 M => ?_)
        refine L_icmp_eq (pc' := 1168) (tgt := 1216) (a := r239) (a2 := r241) dL_law_1165 (by decide) rfl ?_ ?_
        · exact L_sub [0, 1, 2, 3] rfl (rf_L_law_J1216 (b := b) Lx xs (f_L_law_L18 Lx xs n) ih l1 l2 l3 M)
        · refine L_iconst (pc' := 1169) (x := (nI 0)) dL_law_1168 rfl (by decide) ?_
          exact LF.zero
      · refine L_aloadq_n (pc' := 1171) (i := 1) (j := 1) (a := l1) dL_law_1170 rfl rfl rfl ?_
        refine L_aloadc_n (pc' := 1172) (i := 0) (j := 0) (u := (300 : UInt32)) dL_law_1171 rfl rfl rfl ?_
        refine L_iload_n (pc' := 1173) (i := 3) (j := 3) (x := l3) dL_law_1172 rfl rfl rfl ?_
        refine L_iconst (pc' := 1174) (x := (nI 1)) dL_law_1173 rfl (by decide) ?_
        refine L_iadd (pc' := 1175) (a := l3) (a2 := (nI 1)) dL_law_1174 rfl ?_
        refine L_sld (pc' := 1176) (i := (l3 + (nI 1))) dL_law_1175 rfl (fun e244 => ?_)
        refine L_callV_I (pc' := 1179) (q := (some l1)) (As := [.int e244]) (fun o249 => rm_X9_image o249 e244 M) mf_X9_image lk_L_147 im_X9_image se_X9_image rfl rfl rfl dL_law_1176 rfl (by decide) (Nat.le_trans c_0 (by decide)) (fun r245 M => ?_)
        refine L_aloadq_n (pc' := 1180) (i := 2) (j := 2) (a := l2) dL_law_1179 rfl rfl rfl ?_
        refine L_aloadc_n (pc' := 1181) (i := 0) (j := 0) (u := (300 : UInt32)) dL_law_1180 rfl rfl rfl ?_
        refine L_iload_n (pc' := 1182) (i := 3) (j := 3) (x := l3) dL_law_1181 rfl rfl rfl ?_
        refine L_iconst (pc' := 1183) (x := (nI 1)) dL_law_1182 rfl (by decide) ?_
        refine L_iadd (pc' := 1184) (a := l3) (a2 := (nI 1)) dL_law_1183 rfl ?_
        refine L_sld (pc' := 1185) (i := (l3 + (nI 1))) dL_law_1184 rfl (fun e246 => ?_)
        refine L_callV_I (pc' := 1188) (q := (some l2)) (As := [.int e246]) (fun o248 => rm_X10_image o248 e246 M) mf_X10_image lk_L_150 im_X10_image se_X10_image rfl rfl rfl dL_law_1185 rfl (by decide) (Nat.le_trans (c_I c_0) (by decide)) (fun r247 M => ?_)
        refine L_icmp_eq (pc' := 1191) (tgt := 1216) (a := r245) (a2 := r247) dL_law_1188 (by decide) rfl ?_ ?_
        · exact L_sub [0, 1, 2, 3] rfl (rf_L_law_J1216 (b := b) Lx xs (f_L_law_L18 Lx xs n) ih l1 l2 l3 M)
        · refine L_iconst (pc' := 1192) (x := (nI 0)) dL_law_1191 rfl (by decide) ?_
          exact LF.zero
      · refine L_aloadq_n (pc' := 1194) (i := 1) (j := 1) (a := l1) dL_law_1193 rfl rfl rfl ?_
        refine L_aloadc_n (pc' := 1195) (i := 0) (j := 0) (u := (300 : UInt32)) dL_law_1194 rfl rfl rfl ?_
        refine L_iload_n (pc' := 1196) (i := 3) (j := 3) (x := l3) dL_law_1195 rfl rfl rfl ?_
        refine L_iconst (pc' := 1197) (x := (nI 1)) dL_law_1196 rfl (by decide) ?_
        refine L_iadd (pc' := 1198) (a := l3) (a2 := (nI 1)) dL_law_1197 rfl ?_
        refine L_sld (pc' := 1199) (i := (l3 + (nI 1))) dL_law_1198 rfl (fun e250 => ?_)
        refine L_callV_I (pc' := 1202) (q := (some l1)) (As := [.int e250]) (fun o255 => rm_X9_back o255 e250 M) mf_X9_back lk_L_151 im_X9_back se_X9_back rfl rfl rfl dL_law_1199 rfl (by decide) (Nat.le_trans c_0 (by decide)) (fun r251 M => ?_)
        refine L_aloadq_n (pc' := 1203) (i := 2) (j := 2) (a := l2) dL_law_1202 rfl rfl rfl ?_
        refine L_aloadc_n (pc' := 1204) (i := 0) (j := 0) (u := (300 : UInt32)) dL_law_1203 rfl rfl rfl ?_
        refine L_iload_n (pc' := 1205) (i := 3) (j := 3) (x := l3) dL_law_1204 rfl rfl rfl ?_
        refine L_iconst (pc' := 1206) (x := (nI 1)) dL_law_1205 rfl (by decide) ?_
        refine L_iadd (pc' := 1207) (a := l3) (a2 := (nI 1)) dL_law_1206 rfl ?_
        refine L_sld (pc' := 1208) (i := (l3 + (nI 1))) dL_law_1207 rfl (fun e252 => ?_)
        refine L_callV_I (pc' := 1211) (q := (some l2)) (As := [.int e252]) (fun o254 => rm_X10_back o254 e252 M) mf_X10_back lk_L_154 im_X10_back se_X10_back rfl rfl rfl dL_law_1208 rfl (by decide) (Nat.le_trans (c_I c_0) (by decide)) (fun r253 M => ?_)
        refine L_icmp_eq (pc' := 1214) (tgt := 1216) (a := r251) (a2 := r253) dL_law_1211 (by decide) rfl ?_ ?_
        · exact L_sub [0, 1, 2, 3] rfl (rf_L_law_J1216 (b := b) Lx xs (f_L_law_L18 Lx xs n) ih l1 l2 l3 M)
        · refine L_iconst (pc' := 1215) (x := (nI 0)) dL_law_1214 rfl (by decide) ?_
          exact LF.zero
def f_L_law (Lx : Nat) (xs : Nat → Int32) (M : Mem) : Option (Int32 × Mem) :=
  newO M 9 fun a1 M =>
  cl (f_X9_init a1 M) fun u2 M =>
  newO M 10 fun a3 M =>
  cl (f_X10_init a3 M) fun u4 M =>
  f_L_law_L18 Lx xs FU a1 a3 (nI 0) M
set_option maxHeartbeats 4000000 in
set_option maxRecDepth 40000 in
theorem rf_L_law {b : Nat} (Lx : Nat) (xs : Nat → Int32) (M : Mem) : LF b Lx xs (f_L_law Lx xs M) 0 [(0, .float 300)] [] M := by
  rw [f_L_law]
  refine L_new (pc' := 3) cl_X9 ck_L_7 dL_law_0 rfl (fun a1 M => ?_)
  refine L_dup (pc' := 4) dL_law_3 rfl (rf_cat _) ?_
  refine L_callI_V (pc' := 7) (a := a1) (As := []) (rm_X9_init a1 M) mf_X9_init lk_L_9 im_X9_init rfl rfl rfl dL_law_4 rfl (by decide) (Nat.le_trans (c_R c_0) (by decide)) (fun u2 M => ?_)
  refine L_astoreq_n (pc' := 8) (L' := [(1, va_rf (some a1)), (0, .float (300 : UInt32))]) (i := 1) (a := a1) dL_law_7 rfl rfl (by decide) rfl ?_
  refine L_new (pc' := 11) cl_X10 ck_L_10 dL_law_8 rfl (fun a3 M => ?_)
  refine L_dup (pc' := 12) dL_law_11 rfl (rf_cat _) ?_
  refine L_callI_V (pc' := 15) (a := a3) (As := []) (rm_X10_init a3 M) mf_X10_init lk_L_12 im_X10_init rfl rfl rfl dL_law_12 rfl (by decide) (Nat.le_trans (c_R c_0) (by decide)) (fun u4 M => ?_)
  refine L_astoreq_n (pc' := 16) (L' := [(2, va_rf (some a3)), (1, va_rf (some a1)), (0, .float (300 : UInt32))]) (i := 2) (a := a3) dL_law_15 rfl rfl (by decide) (by simp [stL, rf_cat, cat_I, cat_L, cat_C]) ?_
  refine L_iconst (pc' := 17) (x := (nI 0)) dL_law_16 rfl (by decide) ?_
  refine L_istore_n (pc' := 18) (L' := [(3, .int (nI 0)), (2, va_rf (some a3)), (1, va_rf (some a1)), (0, .float (300 : UInt32))]) (i := 3) (x := (nI 0)) dL_law_17 rfl rfl (by decide) (by simp [stL, rf_cat, cat_I, cat_L, cat_C]) ?_
  exact L_sub [3, 2, 1, 0] rfl (rf_L_law_L18 (b := b) Lx xs FU a1 a3 (nI 0) M)
