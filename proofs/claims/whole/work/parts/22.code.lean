/-! BarPilotModel.game(IIII)I -/
def f_X10_game_J44 (this : Nat) (M : Mem) : Option (Int32 × Mem) :=
  some ((-1000 : Int32), M)
set_option maxHeartbeats 2000000 in
set_option maxRecDepth 20000 in
theorem rf_X10_game_J44 (this : Nat) (M : Mem) : RF yX10_game cX10_game 9 (some .int) 6 eI (f_X10_game_J44 this M) 44 [] [] M := by
  rw [f_X10_game_J44]
  refine R_sipush (pc' := 47) (x := (-1000 : Int32)) dX10_game_44 rfl (by decide) ?_
  exact R_iret dX10_game_47
def f_X10_game_J224 (this : Nat) (s0 : Int32) (M : Mem) : Option (Int32 × Mem) :=
  some (s0, M)
set_option maxHeartbeats 2000000 in
set_option maxRecDepth 20000 in
theorem rf_X10_game_J224 (this : Nat) (s0 : Int32) (M : Mem) : RF yX10_game cX10_game 9 (some .int) 6 eI (f_X10_game_J224 this s0 M) 224 [] [.int s0] M := by
  rw [f_X10_game_J224]
  exact R_iret dX10_game_224
def f_X10_game_J178 (k126 : Int32 → Int32 → Int32 → Int32 → Mem → Option (Int32 × Mem)) (k141 : Int32 → Int32 → Int32 → Int32 → Int32 → Mem → Option (Int32 × Mem)) (this : Nat) (l4 : Int32) (l5 : Int32) (l6 : Int32) (l7 : Int32) (l8 : Int32) (s0 : Int32) (s1 : Int32) (s2 : Int32) (s3 : Option Nat) (s4 : Option Nat) (s5 : Int32) (s6 : Option Nat) (M : Mem) : Option (Int32 × Mem) :=
  (oO M 10 s3).bind fun o3 => cl (f_X10_bestAt o3 s2 s1 s0 M) fun r1 M =>
  (aI M 0 s4 r1).bind fun e2 =>
  (wI M 0 s6 s5 e2).bind fun M =>
  k141 l4 l5 l6 l7 (l8 + (nI 1)) M
set_option maxHeartbeats 2000000 in
set_option maxRecDepth 20000 in
theorem rf_X10_game_J178 (this : Nat) (k126 : Int32 → Int32 → Int32 → Int32 → Mem → Option (Int32 × Mem)) (k141 : Int32 → Int32 → Int32 → Int32 → Int32 → Mem → Option (Int32 × Mem)) (hk126 : ∀ (l4 : Int32) (l5 : Int32) (l6 : Int32) (l7 : Int32) (M : Mem), RF yX10_game cX10_game 9 (some .int) 6 eI (k126 l4 l5 l6 l7 M) 126 [(0, va_rf (some this)), (4, .int l4), (5, .int l5), (6, .int l6), (7, .int l7)] [] M) (hk141 : ∀ (l4 : Int32) (l5 : Int32) (l6 : Int32) (l7 : Int32) (l8 : Int32) (M : Mem), RF yX10_game cX10_game 9 (some .int) 6 eI (k141 l4 l5 l6 l7 l8 M) 141 [(0, va_rf (some this)), (4, .int l4), (5, .int l5), (6, .int l6), (7, .int l7), (8, .int l8)] [] M) (l4 : Int32) (l5 : Int32) (l6 : Int32) (l7 : Int32) (l8 : Int32) (s0 : Int32) (s1 : Int32) (s2 : Int32) (s3 : Option Nat) (s4 : Option Nat) (s5 : Int32) (s6 : Option Nat) (M : Mem) : RF yX10_game cX10_game 9 (some .int) 6 eI (f_X10_game_J178 k126 k141 this l4 l5 l6 l7 l8 s0 s1 s2 s3 s4 s5 s6 M) 178 [(0, va_rf (some this)), (4, .int l4), (5, .int l5), (6, .int l6), (7, .int l7), (8, .int l8)] [.int s0, .int s1, .int s2, va_rf s3, va_rf s4, .int s5, va_rf s6] M := by
  rw [f_X10_game_J178]
  refine R_callV_I (pc' := 181) (q := s3) (As := [.int s2, .int s1, .int s0]) (fun o3 => rm_X10_bestAt o3 s2 s1 s0 M) mf_X10_bestAt lk_X10_462 im_X10_bestAt se_X10_bestAt rfl rfl rfl dX10_game_178 rfl (by decide) (Nat.le_trans (c_R (c_I (c_R c_0))) (by decide)) (fun r1 M => ?_)
  refine R_iald (pc' := 182) (q := s4) (i := r1) dX10_game_181 rfl (fun e2 => ?_)
  refine R_iast (pc' := 183) (q := s6) (i := s5) (x := e2) dX10_game_182 rfl (fun M => ?_)
  refine R_iinc (pc' := 186) (L' := [(8, .int (l8 + (nI 1))), (0, va_rf (some this)), (4, .int l4), (5, .int l5), (6, .int l6), (7, .int l7)]) (i := 8) (j := 5) (x := l8) (x2 := (l8 + (nI 1))) dX10_game_183 rfl rfl rfl (by decide) rfl ?_
  refine R_goto (tgt := 141) dX10_game_186 (by decide) ?_
  exact R_sub [1, 2, 3, 4, 5, 0] rfl (hk141 l4 l5 l6 l7 (l8 + (nI 1)) M)
def f_X10_game_L141 (k126 : Int32 → Int32 → Int32 → Int32 → Mem → Option (Int32 × Mem)) (this : Nat) : Nat → Int32 → Int32 → Int32 → Int32 → Int32 → Mem → Option (Int32 × Mem)
  | 0, _, _, _, _, _, _ => none
  | n + 1, l4, l5, l6, l7, l8, M =>
    (if l6 ≤ l8 then
      (k126 l4 l5 l6 (l7 + (-1 : Int32)) M)
    else
      ((gR M 10 47 (some this)).bind fun plays1 =>
      (gR M 10 47 (some this)).bind fun plays2 =>
      if (nI 2) = 0 then none else
      (if (l7 - l7 / (nI 2) * (nI 2)) = 0 then
        (f_X10_game_J178 k126 (f_X10_game_L141 k126 this n) this l4 l5 l6 l7 l8 (nI 1) l5 (l5 * l8) (some this) plays2 l8 plays1 M)
      else
        (f_X10_game_J178 k126 (f_X10_game_L141 k126 this n) this l4 l5 l6 l7 l8 (nI 0) l5 (l5 * l8) (some this) plays2 l8 plays1 M))))
set_option maxHeartbeats 2000000 in
set_option maxRecDepth 20000 in
theorem rf_X10_game_L141 (this : Nat) (k126 : Int32 → Int32 → Int32 → Int32 → Mem → Option (Int32 × Mem)) (hk126 : ∀ (l4 : Int32) (l5 : Int32) (l6 : Int32) (l7 : Int32) (M : Mem), RF yX10_game cX10_game 9 (some .int) 6 eI (k126 l4 l5 l6 l7 M) 126 [(0, va_rf (some this)), (4, .int l4), (5, .int l5), (6, .int l6), (7, .int l7)] [] M) : ∀ (n : Nat) (l4 : Int32) (l5 : Int32) (l6 : Int32) (l7 : Int32) (l8 : Int32) (M : Mem), RF yX10_game cX10_game 9 (some .int) 6 eI (f_X10_game_L141 k126 this n l4 l5 l6 l7 l8 M) 141 [(0, va_rf (some this)), (4, .int l4), (5, .int l5), (6, .int l6), (7, .int l7), (8, .int l8)] [] M := by
  intro n
  induction n with
  | zero => intro _ _ _ _ _ _; exact RF.none
  | succ n ih =>
    intro l4 l5 l6 l7 l8 M
    rw [f_X10_game_L141]
    refine R_iload (pc' := 143) (i := 8) (j := 5) (x := l8) dX10_game_141 rfl rfl ?_
    refine R_iload (pc' := 145) (i := 6) (j := 3) (x := l6) dX10_game_143 rfl rfl ?_
    refine R_icmp_ge (pc' := 148) (tgt := 189) (a := l8) (b := l6) dX10_game_145 (by decide) rfl ?_ ?_
    · refine R_iinc (pc' := 192) (L' := [(7, .int (l7 + (-1 : Int32))), (0, va_rf (some this)), (4, .int l4), (5, .int l5), (6, .int l6), (8, .int l8)]) (i := 7) (j := 4) (x := l7) (x2 := (l7 + (-1 : Int32))) dX10_game_189 rfl rfl rfl (by decide) rfl ?_
      refine R_goto (tgt := 126) dX10_game_192 (by decide) ?_
      exact R_sub [1, 2, 3, 4, 0] rfl (hk126 l4 l5 l6 (l7 + (-1 : Int32)) M)
    · refine R_aloadq_n (pc' := 149) (i := 0) (j := 0) (q := (some this)) dX10_game_148 rfl rfl rfl ?_
      refine R_getR (pc' := 152) (q := (some this)) fl_X10_112 rfl dX10_game_149 rfl (fun plays1 => ?_)
      refine R_iload (pc' := 154) (i := 8) (j := 5) (x := l8) dX10_game_152 rfl rfl ?_
      refine R_aloadq_n (pc' := 155) (i := 0) (j := 0) (q := (some this)) dX10_game_154 rfl rfl rfl ?_
      refine R_getR (pc' := 158) (q := (some this)) fl_X10_112 rfl dX10_game_155 rfl (fun plays2 => ?_)
      refine R_aloadq_n (pc' := 159) (i := 0) (j := 0) (q := (some this)) dX10_game_158 rfl rfl rfl ?_
      refine R_iload (pc' := 161) (i := 5) (j := 2) (x := l5) dX10_game_159 rfl rfl ?_
      refine R_iload (pc' := 163) (i := 8) (j := 5) (x := l8) dX10_game_161 rfl rfl ?_
      refine R_imul (pc' := 164) (a := l5) (b := l8) dX10_game_163 rfl ?_
      refine R_iload (pc' := 166) (i := 5) (j := 2) (x := l5) dX10_game_164 rfl rfl ?_
      refine R_iload (pc' := 168) (i := 7) (j := 4) (x := l7) dX10_game_166 rfl rfl ?_
      refine R_iconst (pc' := 169) (x := (nI 2)) dX10_game_168 rfl (by decide) ?_
      refine R_irem (pc' := 170) (a := l7) (b := (nI 2)) dX10_game_169 rfl ?_
      refine R_if_ne (pc' := 173) (tgt := 177) (a := (l7 - l7 / (nI 2) * (nI 2))) dX10_game_170 (by decide) rfl ?_ ?_
      · refine R_iconst (pc' := 178) (x := (nI 0)) dX10_game_177 rfl (by decide) ?_
        exact R_sub [0, 1, 2, 3, 4, 5] rfl (rf_X10_game_J178 this k126 (f_X10_game_L141 k126 this n) hk126 ih l4 l5 l6 l7 l8 (nI 0) l5 (l5 * l8) (some this) plays2 l8 plays1 M)
      · refine R_iconst (pc' := 174) (x := (nI 1)) dX10_game_173 rfl (by decide) ?_
        refine R_goto (tgt := 178) dX10_game_174 (by decide) ?_
        exact R_sub [0, 1, 2, 3, 4, 5] rfl (rf_X10_game_J178 this k126 (f_X10_game_L141 k126 this n) hk126 ih l4 l5 l6 l7 l8 (nI 1) l5 (l5 * l8) (some this) plays2 l8 plays1 M)
def f_X10_game_L126 (this : Nat) : Nat → Int32 → Int32 → Int32 → Int32 → Mem → Option (Int32 × Mem)
  | 0, _, _, _, _, _ => none
  | n + 1, l4, l5, l6, l7, M =>
    (if l7 ≤ 0 then
      ((oO M 10 (some this)).bind fun o4 => cl (f_X10_bestAt o4 (nI 0) l5 (nI 1) M) fun r1 M =>
      (if l4 = 0 then
        ((gR M 10 47 (some this)).bind fun plays2 =>
        (aI M 0 plays2 r1).bind fun e3 =>
        f_X10_game_J224 this e3 M)
      else
        (f_X10_game_J224 this (r1 - (nI 1)) M)))
    else
      (if l5 = 0 then none else
      nm (l6 / l5) fun v5 =>
      f_X10_game_L141 (f_X10_game_L126 this n) this FU l4 l5 v5 l7 (nI 0) M))
set_option maxHeartbeats 2000000 in
set_option maxRecDepth 20000 in
theorem rf_X10_game_L126 (this : Nat) : ∀ (n : Nat) (l4 : Int32) (l5 : Int32) (l6 : Int32) (l7 : Int32) (M : Mem), RF yX10_game cX10_game 9 (some .int) 6 eI (f_X10_game_L126 this n l4 l5 l6 l7 M) 126 [(0, va_rf (some this)), (4, .int l4), (5, .int l5), (6, .int l6), (7, .int l7)] [] M := by
  intro n
  induction n with
  | zero => intro _ _ _ _ _; exact RF.none
  | succ n ih =>
    intro l4 l5 l6 l7 M
    rw [f_X10_game_L126]
    refine R_iload (pc' := 128) (i := 7) (j := 4) (x := l7) dX10_game_126 rfl rfl ?_
    refine R_if_le (pc' := 131) (tgt := 195) (a := l7) dX10_game_128 (by decide) rfl ?_ ?_
    · refine R_aloadq_n (pc' := 196) (i := 0) (j := 0) (q := (some this)) dX10_game_195 rfl rfl rfl ?_
      refine R_iconst (pc' := 197) (x := (nI 0)) dX10_game_196 rfl (by decide) ?_
      refine R_iload (pc' := 199) (i := 5) (j := 2) (x := l5) dX10_game_197 rfl rfl ?_
      refine R_iconst (pc' := 200) (x := (nI 1)) dX10_game_199 rfl (by decide) ?_
      refine R_callV_I (pc' := 203) (q := (some this)) (As := [.int (nI 0), .int l5, .int (nI 1)]) (fun o4 => rm_X10_bestAt o4 (nI 0) l5 (nI 1) M) mf_X10_bestAt lk_X10_462 im_X10_bestAt se_X10_bestAt rfl rfl rfl dX10_game_200 rfl (by decide) (Nat.le_trans c_0 (by decide)) (fun r1 M => ?_)
      refine R_istore (pc' := 205) (L' := [(7, .int r1), (0, va_rf (some this)), (4, .int l4), (5, .int l5), (6, .int l6)]) (i := 7) (x := r1) dX10_game_203 rfl (by decide) rfl ?_
      refine R_iload (pc' := 207) (i := 4) (j := 2) (x := l4) dX10_game_205 rfl rfl ?_
      refine R_if_ne (pc' := 210) (tgt := 220) (a := l4) dX10_game_207 (by decide) rfl ?_ ?_
      · refine R_iload (pc' := 222) (i := 7) (j := 0) (x := r1) dX10_game_220 rfl rfl ?_
        refine R_iconst (pc' := 223) (x := (nI 1)) dX10_game_222 rfl (by decide) ?_
        refine R_isub (pc' := 224) (a := r1) (b := (nI 1)) dX10_game_223 rfl ?_
        exact R_sub [] rfl (rf_X10_game_J224 this (r1 - (nI 1)) M)
      · refine R_aloadq_n (pc' := 211) (i := 0) (j := 1) (q := (some this)) dX10_game_210 rfl rfl rfl ?_
        refine R_getR (pc' := 214) (q := (some this)) fl_X10_112 rfl dX10_game_211 rfl (fun plays2 => ?_)
        refine R_iload (pc' := 216) (i := 7) (j := 0) (x := r1) dX10_game_214 rfl rfl ?_
        refine R_iald (pc' := 217) (q := plays2) (i := r1) dX10_game_216 rfl (fun e3 => ?_)
        refine R_goto (tgt := 224) dX10_game_217 (by decide) ?_
        exact R_sub [] rfl (rf_X10_game_J224 this e3 M)
    · refine R_iload (pc' := 133) (i := 6) (j := 3) (x := l6) dX10_game_131 rfl rfl ?_
      refine R_iload (pc' := 135) (i := 5) (j := 2) (x := l5) dX10_game_133 rfl rfl ?_
      refine R_idiv (pc' := 136) (a := l6) (b := l5) dX10_game_135 rfl ?_
      refine R_nmI (fun v5 => ?_)
      refine R_istore (pc' := 138) (L' := [(6, .int v5), (0, va_rf (some this)), (4, .int l4), (5, .int l5), (7, .int l7)]) (i := 6) (x := v5) dX10_game_136 rfl (by decide) rfl ?_
      refine R_iconst (pc' := 139) (x := (nI 0)) dX10_game_138 rfl (by decide) ?_
      refine R_istore (pc' := 141) (L' := [(8, .int (nI 0)), (6, .int v5), (0, va_rf (some this)), (4, .int l4), (5, .int l5), (7, .int l7)]) (i := 8) (x := (nI 0)) dX10_game_139 rfl (by decide) rfl ?_
      exact R_sub [2, 3, 4, 1, 5, 0] rfl (rf_X10_game_L141 this (f_X10_game_L126 this n) ih FU l4 l5 v5 l7 (nI 0) M)
def f_X10_game_L90 (this : Nat) : Nat → Int32 → Int32 → Int32 → Int32 → Int32 → Int32 → Int32 → Mem → Option (Int32 × Mem)
  | 0, _, _, _, _, _, _, _, _ => none
  | n + 1, l1, l2, l3, l4, l5, l6, l7, M =>
    (if l6 ≤ l7 then
      (nm (l3 - (nI 1)) fun v1 =>
      f_X10_game_L126 this FU l4 l5 l6 v1 M)
    else
      ((gR M 10 47 (some this)).bind fun plays2 =>
      (oO M 10 (some this)).bind fun o4 => cl (f_X10_playOf o4 l1 l2 l3 l7 l6 M) fun r3 M =>
      (wI M 0 plays2 l7 r3).bind fun M =>
      (f_X10_game_L90 this n) l1 l2 l3 l4 l5 l6 (l7 + (nI 1)) M))
set_option maxHeartbeats 2000000 in
set_option maxRecDepth 20000 in
theorem rf_X10_game_L90 (this : Nat) : ∀ (n : Nat) (l1 : Int32) (l2 : Int32) (l3 : Int32) (l4 : Int32) (l5 : Int32) (l6 : Int32) (l7 : Int32) (M : Mem), RF yX10_game cX10_game 9 (some .int) 6 eI (f_X10_game_L90 this n l1 l2 l3 l4 l5 l6 l7 M) 90 [(0, va_rf (some this)), (1, .int l1), (2, .int l2), (3, .int l3), (4, .int l4), (5, .int l5), (6, .int l6), (7, .int l7)] [] M := by
  intro n
  induction n with
  | zero => intro _ _ _ _ _ _ _ _; exact RF.none
  | succ n ih =>
    intro l1 l2 l3 l4 l5 l6 l7 M
    rw [f_X10_game_L90]
    refine R_iload (pc' := 92) (i := 7) (j := 7) (x := l7) dX10_game_90 rfl rfl ?_
    refine R_iload (pc' := 94) (i := 6) (j := 6) (x := l6) dX10_game_92 rfl rfl ?_
    refine R_icmp_ge (pc' := 97) (tgt := 121) (a := l7) (b := l6) dX10_game_94 (by decide) rfl ?_ ?_
    · refine R_iload_n (pc' := 122) (i := 3) (j := 3) (x := l3) dX10_game_121 rfl rfl rfl ?_
      refine R_iconst (pc' := 123) (x := (nI 1)) dX10_game_122 rfl (by decide) ?_
      refine R_isub (pc' := 124) (a := l3) (b := (nI 1)) dX10_game_123 rfl ?_
      refine R_nmI (fun v1 => ?_)
      refine R_istore (pc' := 126) (L' := [(7, .int v1), (0, va_rf (some this)), (1, .int l1), (2, .int l2), (3, .int l3), (4, .int l4), (5, .int l5), (6, .int l6)]) (i := 7) (x := v1) dX10_game_124 rfl (by decide) rfl ?_
      exact R_sub [1, 5, 6, 7, 0] rfl (rf_X10_game_L126 this FU l4 l5 l6 v1 M)
    · refine R_aloadq_n (pc' := 98) (i := 0) (j := 0) (q := (some this)) dX10_game_97 rfl rfl rfl ?_
      refine R_getR (pc' := 101) (q := (some this)) fl_X10_112 rfl dX10_game_98 rfl (fun plays2 => ?_)
      refine R_iload (pc' := 103) (i := 7) (j := 7) (x := l7) dX10_game_101 rfl rfl ?_
      refine R_aloadq_n (pc' := 104) (i := 0) (j := 0) (q := (some this)) dX10_game_103 rfl rfl rfl ?_
      refine R_iload_n (pc' := 105) (i := 1) (j := 1) (x := l1) dX10_game_104 rfl rfl rfl ?_
      refine R_iload_n (pc' := 106) (i := 2) (j := 2) (x := l2) dX10_game_105 rfl rfl rfl ?_
      refine R_iload_n (pc' := 107) (i := 3) (j := 3) (x := l3) dX10_game_106 rfl rfl rfl ?_
      refine R_iload (pc' := 109) (i := 7) (j := 7) (x := l7) dX10_game_107 rfl rfl ?_
      refine R_iload (pc' := 111) (i := 6) (j := 6) (x := l6) dX10_game_109 rfl rfl ?_
      refine R_callV_I (pc' := 114) (q := (some this)) (As := [.int l1, .int l2, .int l3, .int l7, .int l6]) (fun o4 => rm_X10_playOf o4 l1 l2 l3 l7 l6 M) mf_X10_playOf lk_X10_458 im_X10_playOf se_X10_playOf rfl rfl rfl dX10_game_111 rfl (by decide) (Nat.le_trans (c_I (c_R c_0)) (by decide)) (fun r3 M => ?_)
      refine R_iast (pc' := 115) (q := plays2) (i := l7) (x := r3) dX10_game_114 rfl (fun M => ?_)
      refine R_iinc (pc' := 118) (L' := [(7, .int (l7 + (nI 1))), (0, va_rf (some this)), (1, .int l1), (2, .int l2), (3, .int l3), (4, .int l4), (5, .int l5), (6, .int l6)]) (i := 7) (j := 7) (x := l7) (x2 := (l7 + (nI 1))) dX10_game_115 rfl rfl rfl (by decide) rfl ?_
      refine R_goto (tgt := 90) dX10_game_118 (by decide) ?_
      exact R_sub [1, 2, 3, 4, 5, 6, 7, 0] rfl (ih l1 l2 l3 l4 l5 l6 (l7 + (nI 1)) M)
def f_X10_game_L64 (this : Nat) : Nat → Int32 → Int32 → Int32 → Int32 → Int32 → Int32 → Int32 → Mem → Option (Int32 × Mem)
  | 0, _, _, _, _, _, _, _, _ => none
  | n + 1, l1, l2, l3, l4, l5, l6, l7, M =>
    (if l3 ≤ l7 then
      ((oO M 10 (some this)).bind fun o2 => cl (f_X10_keepsAll o2 M) fun u1 M =>
      f_X10_game_L90 this FU l1 l2 l3 l4 l5 l6 (nI 0) M)
    else
      (nm (l6 * l5) fun v3 =>
      (f_X10_game_L64 this n) l1 l2 l3 l4 l5 v3 (l7 + (nI 1)) M))
set_option maxHeartbeats 2000000 in
set_option maxRecDepth 20000 in
theorem rf_X10_game_L64 (this : Nat) : ∀ (n : Nat) (l1 : Int32) (l2 : Int32) (l3 : Int32) (l4 : Int32) (l5 : Int32) (l6 : Int32) (l7 : Int32) (M : Mem), RF yX10_game cX10_game 9 (some .int) 6 eI (f_X10_game_L64 this n l1 l2 l3 l4 l5 l6 l7 M) 64 [(0, va_rf (some this)), (1, .int l1), (2, .int l2), (3, .int l3), (4, .int l4), (5, .int l5), (6, .int l6), (7, .int l7)] [] M := by
  intro n
  induction n with
  | zero => intro _ _ _ _ _ _ _ _; exact RF.none
  | succ n ih =>
    intro l1 l2 l3 l4 l5 l6 l7 M
    rw [f_X10_game_L64]
    refine R_iload (pc' := 66) (i := 7) (j := 7) (x := l7) dX10_game_64 rfl rfl ?_
    refine R_iload_n (pc' := 67) (i := 3) (j := 3) (x := l3) dX10_game_66 rfl rfl rfl ?_
    refine R_icmp_ge (pc' := 70) (tgt := 83) (a := l7) (b := l3) dX10_game_67 (by decide) rfl ?_ ?_
    · refine R_aloadq_n (pc' := 84) (i := 0) (j := 0) (q := (some this)) dX10_game_83 rfl rfl rfl ?_
      refine R_callV_V (pc' := 87) (q := (some this)) (As := []) (fun o2 => rm_X10_keepsAll o2 M) mf_X10_keepsAll lk_X10_430 im_X10_keepsAll se_X10_keepsAll rfl rfl rfl dX10_game_84 rfl (by decide) (Nat.le_trans c_0 (by decide)) (fun u1 M => ?_)
      refine R_iconst (pc' := 88) (x := (nI 0)) dX10_game_87 rfl (by decide) ?_
      refine R_istore (pc' := 90) (L' := [(7, .int (nI 0)), (0, va_rf (some this)), (1, .int l1), (2, .int l2), (3, .int l3), (4, .int l4), (5, .int l5), (6, .int l6)]) (i := 7) (x := (nI 0)) dX10_game_88 rfl (by decide) rfl ?_
      exact R_sub [1, 2, 3, 4, 5, 6, 7, 0] rfl (rf_X10_game_L90 this FU l1 l2 l3 l4 l5 l6 (nI 0) M)
    · refine R_iload (pc' := 72) (i := 6) (j := 6) (x := l6) dX10_game_70 rfl rfl ?_
      refine R_iload (pc' := 74) (i := 5) (j := 5) (x := l5) dX10_game_72 rfl rfl ?_
      refine R_imul (pc' := 75) (a := l6) (b := l5) dX10_game_74 rfl ?_
      refine R_nmI (fun v3 => ?_)
      refine R_istore (pc' := 77) (L' := [(6, .int v3), (0, va_rf (some this)), (1, .int l1), (2, .int l2), (3, .int l3), (4, .int l4), (5, .int l5), (7, .int l7)]) (i := 6) (x := v3) dX10_game_75 rfl (by decide) rfl ?_
      refine R_iinc (pc' := 80) (L' := [(7, .int (l7 + (nI 1))), (6, .int v3), (0, va_rf (some this)), (1, .int l1), (2, .int l2), (3, .int l3), (4, .int l4), (5, .int l5)]) (i := 7) (j := 7) (x := l7) (x2 := (l7 + (nI 1))) dX10_game_77 rfl rfl rfl (by decide) rfl ?_
      refine R_goto (tgt := 64) dX10_game_80 (by decide) ?_
      exact R_sub [2, 3, 4, 5, 6, 7, 1, 0] rfl (ih l1 l2 l3 l4 l5 v3 (l7 + (nI 1)) M)
def f_X10_game (this : Nat) (l1 : Int32) (l2 : Int32) (l3 : Int32) (l4 : Int32) (M : Mem) : Option (Int32 × Mem) :=
  (oO M 10 (some this)).bind fun o9 => cl (f_X10_waits o9 l1 M) fun r1 M =>
  (if r1 = 0 then
    (f_X10_game_J44 this M)
  else
    ((oO M 10 (some this)).bind fun o8 => cl (f_X10_waits o8 l2 M) fun r2 M =>
    (if r2 = 0 then
      (f_X10_game_J44 this M)
    else
      ((if l1 = l2 then
        (f_X10_game_J44 this M)
      else
        (cl (f_X10_in (Int32.toInt64 l3) (1 : Int64) (3 : Int64) M) fun r3 M =>
        (if r3 = 0 then
          (f_X10_game_J44 this M)
        else
          (cl (f_X10_in (Int32.toInt64 l4) (0 : Int64) (1 : Int64) M) fun r4 M =>
          (if r4 = 0 then
            (f_X10_game_J44 this M)
          else
            ((gR M 10 1 (some this)).bind fun scalar5 =>
            (aI M 0 scalar5 (nI 2)).bind fun e6 =>
            nm (e6 + (nI 1)) fun v7 =>
            f_X10_game_L64 this FU l1 l2 l3 l4 v7 (nI 1) (nI 0) M))))))))))
set_option maxHeartbeats 2000000 in
set_option maxRecDepth 20000 in
theorem rm_X10_game (this : Nat) (l1 : Int32) (l2 : Int32) (l3 : Int32) (l4 : Int32) (M : Mem) : RFm yX10_game cX10_game 9 (some .int) 6 eI (f_X10_game this l1 l2 l3 l4 M) [va_rf (some this), .int l1, .int l2, .int l3, .int l4] M := by
  refine RFm_of (L := [(0, va_rf (some this)), (1, .int l1), (2, .int l2), (3, .int l3), (4, .int l4)]) (by decide) rfl (Nat.le_trans (c_R (c_I (c_I (c_I (c_I c_0))))) (by decide)) ?_
  rw [f_X10_game]
  refine R_aloadq_n (pc' := 1) (i := 0) (j := 0) (q := (some this)) dX10_game_0 rfl rfl rfl ?_
  refine R_iload_n (pc' := 2) (i := 1) (j := 1) (x := l1) dX10_game_1 rfl rfl rfl ?_
  refine R_callV_I (pc' := 5) (q := (some this)) (As := [.int l1]) (fun o9 => rm_X10_waits o9 l1 M) mf_X10_waits lk_X10_350 im_X10_waits se_X10_waits rfl rfl rfl dX10_game_2 rfl (by decide) (Nat.le_trans c_0 (by decide)) (fun r1 M => ?_)
  refine R_if_eq (pc' := 8) (tgt := 44) (a := r1) dX10_game_5 (by decide) rfl ?_ ?_
  · exact R_sub [] rfl (rf_X10_game_J44 this M)
  · refine R_aloadq_n (pc' := 9) (i := 0) (j := 0) (q := (some this)) dX10_game_8 rfl rfl rfl ?_
    refine R_iload_n (pc' := 10) (i := 2) (j := 2) (x := l2) dX10_game_9 rfl rfl rfl ?_
    refine R_callV_I (pc' := 13) (q := (some this)) (As := [.int l2]) (fun o8 => rm_X10_waits o8 l2 M) mf_X10_waits lk_X10_350 im_X10_waits se_X10_waits rfl rfl rfl dX10_game_10 rfl (by decide) (Nat.le_trans c_0 (by decide)) (fun r2 M => ?_)
    refine R_if_eq (pc' := 16) (tgt := 44) (a := r2) dX10_game_13 (by decide) rfl ?_ ?_
    · exact R_sub [] rfl (rf_X10_game_J44 this M)
    · refine R_iload_n (pc' := 17) (i := 1) (j := 1) (x := l1) dX10_game_16 rfl rfl rfl ?_
      refine R_iload_n (pc' := 18) (i := 2) (j := 2) (x := l2) dX10_game_17 rfl rfl rfl ?_
      refine R_icmp_eq (pc' := 21) (tgt := 44) (a := l1) (b := l2) dX10_game_18 (by decide) rfl ?_ ?_
      · exact R_sub [] rfl (rf_X10_game_J44 this M)
      · refine R_iload_n (pc' := 22) (i := 3) (j := 3) (x := l3) dX10_game_21 rfl rfl rfl ?_
        refine R_i2l (pc' := 23) (a := l3) dX10_game_22 rfl ?_
        refine R_lconst (pc' := 24) (x := (1 : Int64)) dX10_game_23 rfl (by decide) ?_
        refine R_ldc2 (pc' := 27) (x := (3 : Int64)) dX10_game_24 rfl c2_X10_456 ?_
        refine R_callS_I (pc' := 30) (As := [.long (Int32.toInt64 l3), .long (1 : Int64), .long (3 : Int64)]) (rm_X10_in (Int32.toInt64 l3) (1 : Int64) (3 : Int64) M) mf_X10_in lk_X10_131 sm_X10_in rfl rfl dX10_game_27 rfl (by decide) (Nat.le_trans c_0 (by decide)) (fun r3 M => ?_)
        refine R_if_eq (pc' := 33) (tgt := 44) (a := r3) dX10_game_30 (by decide) rfl ?_ ?_
        · exact R_sub [] rfl (rf_X10_game_J44 this M)
        · refine R_iload (pc' := 35) (i := 4) (j := 4) (x := l4) dX10_game_33 rfl rfl ?_
          refine R_i2l (pc' := 36) (a := l4) dX10_game_35 rfl ?_
          refine R_lconst (pc' := 37) (x := (0 : Int64)) dX10_game_36 rfl (by decide) ?_
          refine R_lconst (pc' := 38) (x := (1 : Int64)) dX10_game_37 rfl (by decide) ?_
          refine R_callS_I (pc' := 41) (As := [.long (Int32.toInt64 l4), .long (0 : Int64), .long (1 : Int64)]) (rm_X10_in (Int32.toInt64 l4) (0 : Int64) (1 : Int64) M) mf_X10_in lk_X10_131 sm_X10_in rfl rfl dX10_game_38 rfl (by decide) (Nat.le_trans c_0 (by decide)) (fun r4 M => ?_)
          refine R_if_ne (pc' := 44) (tgt := 48) (a := r4) dX10_game_41 (by decide) rfl ?_ ?_
          · refine R_aloadq_n (pc' := 49) (i := 0) (j := 0) (q := (some this)) dX10_game_48 rfl rfl rfl ?_
            refine R_getR (pc' := 52) (q := (some this)) fl_X10_9 rfl dX10_game_49 rfl (fun scalar5 => ?_)
            refine R_iconst (pc' := 53) (x := (nI 2)) dX10_game_52 rfl (by decide) ?_
            refine R_iald (pc' := 54) (q := scalar5) (i := (nI 2)) dX10_game_53 rfl (fun e6 => ?_)
            refine R_iconst (pc' := 55) (x := (nI 1)) dX10_game_54 rfl (by decide) ?_
            refine R_iadd (pc' := 56) (a := e6) (b := (nI 1)) dX10_game_55 rfl ?_
            refine R_nmI (fun v7 => ?_)
            refine R_istore (pc' := 58) (L' := [(5, .int v7), (0, va_rf (some this)), (1, .int l1), (2, .int l2), (3, .int l3), (4, .int l4)]) (i := 5) (x := v7) dX10_game_56 rfl (by decide) rfl ?_
            refine R_iconst (pc' := 59) (x := (nI 1)) dX10_game_58 rfl (by decide) ?_
            refine R_istore (pc' := 61) (L' := [(6, .int (nI 1)), (5, .int v7), (0, va_rf (some this)), (1, .int l1), (2, .int l2), (3, .int l3), (4, .int l4)]) (i := 6) (x := (nI 1)) dX10_game_59 rfl (by decide) rfl ?_
            refine R_iconst (pc' := 62) (x := (nI 0)) dX10_game_61 rfl (by decide) ?_
            refine R_istore (pc' := 64) (L' := [(7, .int (nI 0)), (6, .int (nI 1)), (5, .int v7), (0, va_rf (some this)), (1, .int l1), (2, .int l2), (3, .int l3), (4, .int l4)]) (i := 7) (x := (nI 0)) dX10_game_62 rfl (by decide) rfl ?_
            exact R_sub [3, 4, 5, 6, 7, 2, 1, 0] rfl (rf_X10_game_L64 this FU l1 l2 l3 l4 v7 (nI 1) (nI 0) M)
          · exact R_sub [] rfl (rf_X10_game_J44 this M)
/-! BarPilotModel.shareOf(I)I -/
def f_X10_shareOf_J20 (this : Nat) (s0 : Int32) (M : Mem) : Option (Int32 × Mem) :=
  some (s0, M)
set_option maxHeartbeats 2000000 in
set_option maxRecDepth 20000 in
theorem rf_X10_shareOf_J20 (this : Nat) (s0 : Int32) (M : Mem) : RF yX10_shareOf cX10_shareOf 2 (some .int) 1 eI (f_X10_shareOf_J20 this s0 M) 20 [] [.int s0] M := by
  rw [f_X10_shareOf_J20]
  exact R_iret dX10_shareOf_20
def f_X10_shareOf (this : Nat) (l1 : Int32) (M : Mem) : Option (Int32 × Mem) :=
  (gR M 10 7 (some this)).bind fun passed1 =>
  (aI M 0 passed1 l1).bind fun e2 =>
  (if e2 = (-1 : Int32) then
    (f_X10_shareOf_J20 this (nI 0) M)
  else
    ((gR M 10 3 (some this)).bind fun cargo3 =>
    (aI M 0 cargo3 l1).bind fun e4 =>
    f_X10_shareOf_J20 this e4 M))
set_option maxHeartbeats 2000000 in
set_option maxRecDepth 20000 in
theorem rm_X10_shareOf (this : Nat) (l1 : Int32) (M : Mem) : RFm yX10_shareOf cX10_shareOf 2 (some .int) 1 eI (f_X10_shareOf this l1 M) [va_rf (some this), .int l1] M := by
  refine RFm_of (L := [(0, va_rf (some this)), (1, .int l1)]) (by decide) rfl (Nat.le_trans (c_R (c_I c_0)) (by decide)) ?_
  rw [f_X10_shareOf]
  refine R_aloadq_n (pc' := 1) (i := 0) (j := 0) (q := (some this)) dX10_shareOf_0 rfl rfl rfl ?_
  refine R_getR (pc' := 4) (q := (some this)) fl_X10_28 rfl dX10_shareOf_1 rfl (fun passed1 => ?_)
  refine R_iload_n (pc' := 5) (i := 1) (j := 1) (x := l1) dX10_shareOf_4 rfl rfl rfl ?_
  refine R_iald (pc' := 6) (q := passed1) (i := l1) dX10_shareOf_5 rfl (fun e2 => ?_)
  refine R_iconst (pc' := 7) (x := (-1 : Int32)) dX10_shareOf_6 rfl (by decide) ?_
  refine R_icmp_ne (pc' := 10) (tgt := 14) (a := e2) (b := (-1 : Int32)) dX10_shareOf_7 (by decide) rfl ?_ ?_
  · refine R_aloadq_n (pc' := 15) (i := 0) (j := 0) (q := (some this)) dX10_shareOf_14 rfl rfl rfl ?_
    refine R_getR (pc' := 18) (q := (some this)) fl_X10_16 rfl dX10_shareOf_15 rfl (fun cargo3 => ?_)
    refine R_iload_n (pc' := 19) (i := 1) (j := 1) (x := l1) dX10_shareOf_18 rfl rfl rfl ?_
    refine R_iald (pc' := 20) (q := cargo3) (i := l1) dX10_shareOf_19 rfl (fun e4 => ?_)
    exact R_sub [] rfl (rf_X10_shareOf_J20 this e4 M)
  · refine R_iconst (pc' := 11) (x := (nI 0)) dX10_shareOf_10 rfl (by decide) ?_
    refine R_goto (tgt := 20) dX10_shareOf_11 (by decide) ?_
    exact R_sub [] rfl (rf_X10_shareOf_J20 this (nI 0) M)
/-! BarPilotModel.parts(II)I -/
def f_X10_parts_J20 (this : Nat) (M : Mem) : Option (Int32 × Mem) :=
  some ((-1 : Int32), M)
set_option maxHeartbeats 2000000 in
set_option maxRecDepth 20000 in
theorem rf_X10_parts_J20 (this : Nat) (M : Mem) : RF yX10_parts cX10_parts 8 (some .int) 3 eI (f_X10_parts_J20 this M) 20 [] [] M := by
  rw [f_X10_parts_J20]
  refine R_iconst (pc' := 21) (x := (-1 : Int32)) dX10_parts_20 rfl (by decide) ?_
  exact R_iret dX10_parts_21
def f_X10_parts_J169 (this : Nat) (s0 : Int32) (s1 : Int32) (M : Mem) : Option (Int32 × Mem) :=
  some ((s1 + s0), M)
set_option maxHeartbeats 2000000 in
set_option maxRecDepth 20000 in
theorem rf_X10_parts_J169 (this : Nat) (s0 : Int32) (s1 : Int32) (M : Mem) : RF yX10_parts cX10_parts 8 (some .int) 3 eI (f_X10_parts_J169 this s0 s1 M) 169 [] [.int s0, .int s1] M := by
  rw [f_X10_parts_J169]
  refine R_iadd (pc' := 170) (a := s1) (b := s0) dX10_parts_169 rfl ?_
  exact R_iret dX10_parts_170
def f_X10_parts_J139 (k68 : Int32 → Int32 → Int32 → Int32 → Int32 → Int32 → Mem → Option (Int32 × Mem)) (this : Nat) (l1 : Int32) (l2 : Int32) (l3 : Int32) (l4 : Int32) (l6 : Int32) (s0 : Int32) (s1 : Int32) (M : Mem) : Option (Int32 × Mem) :=
  nm (s1 + s0) fun v1 =>
  k68 l1 l2 l3 l4 v1 (l6 + (nI 1)) M
set_option maxHeartbeats 2000000 in
set_option maxRecDepth 20000 in
theorem rf_X10_parts_J139 (this : Nat) (k68 : Int32 → Int32 → Int32 → Int32 → Int32 → Int32 → Mem → Option (Int32 × Mem)) (hk68 : ∀ (l1 : Int32) (l2 : Int32) (l3 : Int32) (l4 : Int32) (l5 : Int32) (l6 : Int32) (M : Mem), RF yX10_parts cX10_parts 8 (some .int) 3 eI (k68 l1 l2 l3 l4 l5 l6 M) 68 [(0, va_rf (some this)), (1, .int l1), (2, .int l2), (3, .int l3), (4, .int l4), (5, .int l5), (6, .int l6)] [] M) (l1 : Int32) (l2 : Int32) (l3 : Int32) (l4 : Int32) (l6 : Int32) (s0 : Int32) (s1 : Int32) (M : Mem) : RF yX10_parts cX10_parts 8 (some .int) 3 eI (f_X10_parts_J139 k68 this l1 l2 l3 l4 l6 s0 s1 M) 139 [(0, va_rf (some this)), (1, .int l1), (2, .int l2), (3, .int l3), (4, .int l4), (6, .int l6)] [.int s0, .int s1] M := by
  rw [f_X10_parts_J139]
  refine R_iadd (pc' := 140) (a := s1) (b := s0) dX10_parts_139 rfl ?_
  refine R_nmI (fun v1 => ?_)
  refine R_istore (pc' := 142) (L' := [(5, .int v1), (0, va_rf (some this)), (1, .int l1), (2, .int l2), (3, .int l3), (4, .int l4), (6, .int l6)]) (i := 5) (x := v1) dX10_parts_140 rfl (by decide) rfl ?_
  refine R_iinc (pc' := 145) (L' := [(6, .int (l6 + (nI 1))), (5, .int v1), (0, va_rf (some this)), (1, .int l1), (2, .int l2), (3, .int l3), (4, .int l4)]) (i := 6) (j := 6) (x := l6) (x2 := (l6 + (nI 1))) dX10_parts_142 rfl rfl rfl (by decide) rfl ?_
  refine R_goto (tgt := 68) dX10_parts_145 (by decide) ?_
  exact R_sub [2, 3, 4, 5, 6, 1, 0] rfl (hk68 l1 l2 l3 l4 v1 (l6 + (nI 1)) M)
def f_X10_parts_J134 (k68 : Int32 → Int32 → Int32 → Int32 → Int32 → Int32 → Mem → Option (Int32 × Mem)) (this : Nat) (l1 : Int32) (l2 : Int32) (l3 : Int32) (l4 : Int32) (l6 : Int32) (s0 : Int32) (M : Mem) : Option (Int32 × Mem) :=
  f_X10_parts_J139 k68 this l1 l2 l3 l4 l6 (nI 1) s0 M
set_option maxHeartbeats 2000000 in
set_option maxRecDepth 20000 in
theorem rf_X10_parts_J134 (this : Nat) (k68 : Int32 → Int32 → Int32 → Int32 → Int32 → Int32 → Mem → Option (Int32 × Mem)) (hk68 : ∀ (l1 : Int32) (l2 : Int32) (l3 : Int32) (l4 : Int32) (l5 : Int32) (l6 : Int32) (M : Mem), RF yX10_parts cX10_parts 8 (some .int) 3 eI (k68 l1 l2 l3 l4 l5 l6 M) 68 [(0, va_rf (some this)), (1, .int l1), (2, .int l2), (3, .int l3), (4, .int l4), (5, .int l5), (6, .int l6)] [] M) (l1 : Int32) (l2 : Int32) (l3 : Int32) (l4 : Int32) (l6 : Int32) (s0 : Int32) (M : Mem) : RF yX10_parts cX10_parts 8 (some .int) 3 eI (f_X10_parts_J134 k68 this l1 l2 l3 l4 l6 s0 M) 134 [(0, va_rf (some this)), (1, .int l1), (2, .int l2), (3, .int l3), (4, .int l4), (6, .int l6)] [.int s0] M := by
  rw [f_X10_parts_J134]
  refine R_iconst (pc' := 135) (x := (nI 1)) dX10_parts_134 rfl (by decide) ?_
  refine R_goto (tgt := 139) dX10_parts_135 (by decide) ?_
  exact R_sub [0, 1, 2, 3, 4, 5] rfl (rf_X10_parts_J139 this k68 hk68 l1 l2 l3 l4 l6 (nI 1) s0 M)
def f_X10_parts_J138 (k68 : Int32 → Int32 → Int32 → Int32 → Int32 → Int32 → Mem → Option (Int32 × Mem)) (this : Nat) (l1 : Int32) (l2 : Int32) (l3 : Int32) (l4 : Int32) (l6 : Int32) (s0 : Int32) (M : Mem) : Option (Int32 × Mem) :=
  f_X10_parts_J139 k68 this l1 l2 l3 l4 l6 (nI 0) s0 M
set_option maxHeartbeats 2000000 in
set_option maxRecDepth 20000 in
theorem rf_X10_parts_J138 (this : Nat) (k68 : Int32 → Int32 → Int32 → Int32 → Int32 → Int32 → Mem → Option (Int32 × Mem)) (hk68 : ∀ (l1 : Int32) (l2 : Int32) (l3 : Int32) (l4 : Int32) (l5 : Int32) (l6 : Int32) (M : Mem), RF yX10_parts cX10_parts 8 (some .int) 3 eI (k68 l1 l2 l3 l4 l5 l6 M) 68 [(0, va_rf (some this)), (1, .int l1), (2, .int l2), (3, .int l3), (4, .int l4), (5, .int l5), (6, .int l6)] [] M) (l1 : Int32) (l2 : Int32) (l3 : Int32) (l4 : Int32) (l6 : Int32) (s0 : Int32) (M : Mem) : RF yX10_parts cX10_parts 8 (some .int) 3 eI (f_X10_parts_J138 k68 this l1 l2 l3 l4 l6 s0 M) 138 [(0, va_rf (some this)), (1, .int l1), (2, .int l2), (3, .int l3), (4, .int l4), (6, .int l6)] [.int s0] M := by
  rw [f_X10_parts_J138]
  refine R_iconst (pc' := 139) (x := (nI 0)) dX10_parts_138 rfl (by decide) ?_
  exact R_sub [0, 1, 2, 3, 4, 5] rfl (rf_X10_parts_J139 this k68 hk68 l1 l2 l3 l4 l6 (nI 0) s0 M)
def f_X10_parts_L68 (this : Nat) : Nat → Int32 → Int32 → Int32 → Int32 → Int32 → Int32 → Mem → Option (Int32 × Mem)
  | 0, _, _, _, _, _, _, _ => none
  | n + 1, l1, l2, l3, l4, l5, l6, M =>
    (gR M 10 1 (some this)).bind fun scalar1 =>
    (aI M 0 scalar1 (nI 3)).bind fun e2 =>
    (if e2 ≤ l6 then
      ((oO M 10 (some this)).bind fun o4 => cl (f_X10_shareOf o4 l2 M) fun r3 M =>
      if l3 = 0 then none else
      (if l4 ≤ l5 then
        (f_X10_parts_J169 this (nI 0) ((l1 * r3) / l3) M)
      else
        (f_X10_parts_J169 this (nI 1) ((l1 * r3) / l3) M)))
    else
      ((oO M 10 (some this)).bind fun o12 => cl (f_X10_shareOf o12 l6 M) fun r5 M =>
      if l3 = 0 then none else
      nm (l4 - ((l1 * r5) / l3)) fun v6 =>
      (oO M 10 (some this)).bind fun o11 => cl (f_X10_shareOf o11 l6 M) fun r7 M =>
      if l3 = 0 then none else
      (oO M 10 (some this)).bind fun o10 => cl (f_X10_shareOf o10 l2 M) fun r8 M =>
      if l3 = 0 then none else
      nm (((l1 * r7) - (l1 * r7) / l3 * l3) - ((l1 * r8) - (l1 * r8) / l3 * l3)) fun v9 =>
      (if 0 < v9 then
        (f_X10_parts_J134 (f_X10_parts_L68 this n) this l1 l2 l3 v6 l6 l5 M)
      else
        ((if v9 = 0 then
          ((if l2 ≤ l6 then
            (f_X10_parts_J138 (f_X10_parts_L68 this n) this l1 l2 l3 v6 l6 l5 M)
          else
            (f_X10_parts_J134 (f_X10_parts_L68 this n) this l1 l2 l3 v6 l6 l5 M)))
        else
          (f_X10_parts_J138 (f_X10_parts_L68 this n) this l1 l2 l3 v6 l6 l5 M))))))
set_option maxHeartbeats 2000000 in
set_option maxRecDepth 20000 in
theorem rf_X10_parts_L68 (this : Nat) : ∀ (n : Nat) (l1 : Int32) (l2 : Int32) (l3 : Int32) (l4 : Int32) (l5 : Int32) (l6 : Int32) (M : Mem), RF yX10_parts cX10_parts 8 (some .int) 3 eI (f_X10_parts_L68 this n l1 l2 l3 l4 l5 l6 M) 68 [(0, va_rf (some this)), (1, .int l1), (2, .int l2), (3, .int l3), (4, .int l4), (5, .int l5), (6, .int l6)] [] M := by
  intro n
  induction n with
  | zero => intro _ _ _ _ _ _ _; exact RF.none
  | succ n ih =>
    intro l1 l2 l3 l4 l5 l6 M
    rw [f_X10_parts_L68]
    refine R_iload (pc' := 70) (i := 6) (j := 6) (x := l6) dX10_parts_68 rfl rfl ?_
    refine R_aloadq_n (pc' := 71) (i := 0) (j := 0) (q := (some this)) dX10_parts_70 rfl rfl rfl ?_
    refine R_getR (pc' := 74) (q := (some this)) fl_X10_9 rfl dX10_parts_71 rfl (fun scalar1 => ?_)
    refine R_iconst (pc' := 75) (x := (nI 3)) dX10_parts_74 rfl (by decide) ?_
    refine R_iald (pc' := 76) (q := scalar1) (i := (nI 3)) dX10_parts_75 rfl (fun e2 => ?_)
    refine R_icmp_ge (pc' := 79) (tgt := 148) (a := l6) (b := e2) dX10_parts_76 (by decide) rfl ?_ ?_
    · refine R_iload_n (pc' := 149) (i := 1) (j := 1) (x := l1) dX10_parts_148 rfl rfl rfl ?_
      refine R_aloadq_n (pc' := 150) (i := 0) (j := 0) (q := (some this)) dX10_parts_149 rfl rfl rfl ?_
      refine R_iload_n (pc' := 151) (i := 2) (j := 2) (x := l2) dX10_parts_150 rfl rfl rfl ?_
      refine R_callV_I (pc' := 154) (q := (some this)) (As := [.int l2]) (fun o4 => rm_X10_shareOf o4 l2 M) mf_X10_shareOf lk_X10_468 im_X10_shareOf se_X10_shareOf rfl rfl rfl dX10_parts_151 rfl (by decide) (Nat.le_trans (c_I c_0) (by decide)) (fun r3 M => ?_)
      refine R_imul (pc' := 155) (a := l1) (b := r3) dX10_parts_154 rfl ?_
      refine R_iload_n (pc' := 156) (i := 3) (j := 3) (x := l3) dX10_parts_155 rfl rfl rfl ?_
      refine R_idiv (pc' := 157) (a := (l1 * r3)) (b := l3) dX10_parts_156 rfl ?_
      refine R_iload (pc' := 159) (i := 5) (j := 5) (x := l5) dX10_parts_157 rfl rfl ?_
      refine R_iload (pc' := 161) (i := 4) (j := 4) (x := l4) dX10_parts_159 rfl rfl ?_
      refine R_icmp_ge (pc' := 164) (tgt := 168) (a := l5) (b := l4) dX10_parts_161 (by decide) rfl ?_ ?_
      · refine R_iconst (pc' := 169) (x := (nI 0)) dX10_parts_168 rfl (by decide) ?_
        exact R_sub [] rfl (rf_X10_parts_J169 this (nI 0) ((l1 * r3) / l3) M)
      · refine R_iconst (pc' := 165) (x := (nI 1)) dX10_parts_164 rfl (by decide) ?_
        refine R_goto (tgt := 169) dX10_parts_165 (by decide) ?_
        exact R_sub [] rfl (rf_X10_parts_J169 this (nI 1) ((l1 * r3) / l3) M)
    · refine R_iload (pc' := 81) (i := 4) (j := 4) (x := l4) dX10_parts_79 rfl rfl ?_
      refine R_iload_n (pc' := 82) (i := 1) (j := 1) (x := l1) dX10_parts_81 rfl rfl rfl ?_
      refine R_aloadq_n (pc' := 83) (i := 0) (j := 0) (q := (some this)) dX10_parts_82 rfl rfl rfl ?_
      refine R_iload (pc' := 85) (i := 6) (j := 6) (x := l6) dX10_parts_83 rfl rfl ?_
      refine R_callV_I (pc' := 88) (q := (some this)) (As := [.int l6]) (fun o12 => rm_X10_shareOf o12 l6 M) mf_X10_shareOf lk_X10_468 im_X10_shareOf se_X10_shareOf rfl rfl rfl dX10_parts_85 rfl (by decide) (Nat.le_trans (c_I (c_I c_0)) (by decide)) (fun r5 M => ?_)
      refine R_imul (pc' := 89) (a := l1) (b := r5) dX10_parts_88 rfl ?_
      refine R_iload_n (pc' := 90) (i := 3) (j := 3) (x := l3) dX10_parts_89 rfl rfl rfl ?_
      refine R_idiv (pc' := 91) (a := (l1 * r5)) (b := l3) dX10_parts_90 rfl ?_
      refine R_isub (pc' := 92) (a := l4) (b := ((l1 * r5) / l3)) dX10_parts_91 rfl ?_
      refine R_nmI (fun v6 => ?_)
      refine R_istore (pc' := 94) (L' := [(4, .int v6), (0, va_rf (some this)), (1, .int l1), (2, .int l2), (3, .int l3), (5, .int l5), (6, .int l6)]) (i := 4) (x := v6) dX10_parts_92 rfl (by decide) rfl ?_
      refine R_iload_n (pc' := 95) (i := 1) (j := 2) (x := l1) dX10_parts_94 rfl rfl rfl ?_
      refine R_aloadq_n (pc' := 96) (i := 0) (j := 1) (q := (some this)) dX10_parts_95 rfl rfl rfl ?_
      refine R_iload (pc' := 98) (i := 6) (j := 6) (x := l6) dX10_parts_96 rfl rfl ?_
      refine R_callV_I (pc' := 101) (q := (some this)) (As := [.int l6]) (fun o11 => rm_X10_shareOf o11 l6 M) mf_X10_shareOf lk_X10_468 im_X10_shareOf se_X10_shareOf rfl rfl rfl dX10_parts_98 rfl (by decide) (Nat.le_trans (c_I c_0) (by decide)) (fun r7 M => ?_)
      refine R_imul (pc' := 102) (a := l1) (b := r7) dX10_parts_101 rfl ?_
      refine R_iload_n (pc' := 103) (i := 3) (j := 4) (x := l3) dX10_parts_102 rfl rfl rfl ?_
      refine R_irem (pc' := 104) (a := (l1 * r7)) (b := l3) dX10_parts_103 rfl ?_
      refine R_iload_n (pc' := 105) (i := 1) (j := 2) (x := l1) dX10_parts_104 rfl rfl rfl ?_
      refine R_aloadq_n (pc' := 106) (i := 0) (j := 1) (q := (some this)) dX10_parts_105 rfl rfl rfl ?_
      refine R_iload_n (pc' := 107) (i := 2) (j := 3) (x := l2) dX10_parts_106 rfl rfl rfl ?_
      refine R_callV_I (pc' := 110) (q := (some this)) (As := [.int l2]) (fun o10 => rm_X10_shareOf o10 l2 M) mf_X10_shareOf lk_X10_468 im_X10_shareOf se_X10_shareOf rfl rfl rfl dX10_parts_107 rfl (by decide) (Nat.le_trans (c_I (c_I c_0)) (by decide)) (fun r8 M => ?_)
      refine R_imul (pc' := 111) (a := l1) (b := r8) dX10_parts_110 rfl ?_
      refine R_iload_n (pc' := 112) (i := 3) (j := 4) (x := l3) dX10_parts_111 rfl rfl rfl ?_
      refine R_irem (pc' := 113) (a := (l1 * r8)) (b := l3) dX10_parts_112 rfl ?_
      refine R_isub (pc' := 114) (a := ((l1 * r7) - (l1 * r7) / l3 * l3)) (b := ((l1 * r8) - (l1 * r8) / l3 * l3)) dX10_parts_113 rfl ?_
      refine R_nmI (fun v9 => ?_)
      refine R_istore (pc' := 116) (L' := [(7, .int v9), (4, .int v6), (0, va_rf (some this)), (1, .int l1), (2, .int l2), (3, .int l3), (5, .int l5), (6, .int l6)]) (i := 7) (x := v9) dX10_parts_114 rfl (by decide) rfl ?_
      refine R_iload (pc' := 118) (i := 5) (j := 6) (x := l5) dX10_parts_116 rfl rfl ?_
      refine R_iload (pc' := 120) (i := 7) (j := 0) (x := v9) dX10_parts_118 rfl rfl ?_
      refine R_if_gt (pc' := 123) (tgt := 134) (a := v9) dX10_parts_120 (by decide) rfl ?_ ?_
      · exact R_sub [2, 3, 4, 5, 1, 7] rfl (rf_X10_parts_J134 this (f_X10_parts_L68 this n) ih l1 l2 l3 v6 l6 l5 M)
      · refine R_iload (pc' := 125) (i := 7) (j := 0) (x := v9) dX10_parts_123 rfl rfl ?_
        refine R_if_ne (pc' := 128) (tgt := 138) (a := v9) dX10_parts_125 (by decide) rfl ?_ ?_
        · exact R_sub [2, 3, 4, 5, 1, 7] rfl (rf_X10_parts_J138 this (f_X10_parts_L68 this n) ih l1 l2 l3 v6 l6 l5 M)
        · refine R_iload (pc' := 130) (i := 6) (j := 7) (x := l6) dX10_parts_128 rfl rfl ?_
          refine R_iload_n (pc' := 131) (i := 2) (j := 4) (x := l2) dX10_parts_130 rfl rfl rfl ?_
          refine R_icmp_ge (pc' := 134) (tgt := 138) (a := l6) (b := l2) dX10_parts_131 (by decide) rfl ?_ ?_
          · exact R_sub [2, 3, 4, 5, 1, 7] rfl (rf_X10_parts_J138 this (f_X10_parts_L68 this n) ih l1 l2 l3 v6 l6 l5 M)
          · exact R_sub [2, 3, 4, 5, 1, 7] rfl (rf_X10_parts_J134 this (f_X10_parts_L68 this n) ih l1 l2 l3 v6 l6 l5 M)
def f_X10_parts_L27 (this : Nat) : Nat → Int32 → Int32 → Int32 → Int32 → Mem → Option (Int32 × Mem)
  | 0, _, _, _, _, _ => none
  | n + 1, l1, l2, l3, l4, M =>
    (gR M 10 1 (some this)).bind fun scalar1 =>
    (aI M 0 scalar1 (nI 3)).bind fun e2 =>
    (if e2 ≤ l4 then
      ((if l3 = 0 then
        (some ((nI 0), M))
      else
        (f_X10_parts_L68 this FU l1 l2 l3 l1 (nI 0) (nI 0) M)))
    else
      ((oO M 10 (some this)).bind fun o5 => cl (f_X10_shareOf o5 l4 M) fun r3 M =>
      nm (l3 + r3) fun v4 =>
      (f_X10_parts_L27 this n) l1 l2 v4 (l4 + (nI 1)) M))
set_option maxHeartbeats 2000000 in
set_option maxRecDepth 20000 in
theorem rf_X10_parts_L27 (this : Nat) : ∀ (n : Nat) (l1 : Int32) (l2 : Int32) (l3 : Int32) (l4 : Int32) (M : Mem), RF yX10_parts cX10_parts 8 (some .int) 3 eI (f_X10_parts_L27 this n l1 l2 l3 l4 M) 27 [(0, va_rf (some this)), (1, .int l1), (2, .int l2), (3, .int l3), (4, .int l4)] [] M := by
  intro n
  induction n with
  | zero => intro _ _ _ _ _; exact RF.none
  | succ n ih =>
    intro l1 l2 l3 l4 M
    rw [f_X10_parts_L27]
    refine R_iload (pc' := 29) (i := 4) (j := 4) (x := l4) dX10_parts_27 rfl rfl ?_
    refine R_aloadq_n (pc' := 30) (i := 0) (j := 0) (q := (some this)) dX10_parts_29 rfl rfl rfl ?_
    refine R_getR (pc' := 33) (q := (some this)) fl_X10_9 rfl dX10_parts_30 rfl (fun scalar1 => ?_)
    refine R_iconst (pc' := 34) (x := (nI 3)) dX10_parts_33 rfl (by decide) ?_
    refine R_iald (pc' := 35) (q := scalar1) (i := (nI 3)) dX10_parts_34 rfl (fun e2 => ?_)
    refine R_icmp_ge (pc' := 38) (tgt := 53) (a := l4) (b := e2) dX10_parts_35 (by decide) rfl ?_ ?_
    · refine R_iload_n (pc' := 54) (i := 3) (j := 3) (x := l3) dX10_parts_53 rfl rfl rfl ?_
      refine R_if_ne (pc' := 57) (tgt := 59) (a := l3) dX10_parts_54 (by decide) rfl ?_ ?_
      · refine R_iload_n (pc' := 60) (i := 1) (j := 1) (x := l1) dX10_parts_59 rfl rfl rfl ?_
        refine R_istore (pc' := 62) (L' := [(4, .int l1), (0, va_rf (some this)), (1, .int l1), (2, .int l2), (3, .int l3)]) (i := 4) (x := l1) dX10_parts_60 rfl (by decide) rfl ?_
        refine R_iconst (pc' := 63) (x := (nI 0)) dX10_parts_62 rfl (by decide) ?_
        refine R_istore (pc' := 65) (L' := [(5, .int (nI 0)), (4, .int l1), (0, va_rf (some this)), (1, .int l1), (2, .int l2), (3, .int l3)]) (i := 5) (x := (nI 0)) dX10_parts_63 rfl (by decide) rfl ?_
        refine R_iconst (pc' := 66) (x := (nI 0)) dX10_parts_65 rfl (by decide) ?_
        refine R_istore (pc' := 68) (L' := [(6, .int (nI 0)), (5, .int (nI 0)), (4, .int l1), (0, va_rf (some this)), (1, .int l1), (2, .int l2), (3, .int l3)]) (i := 6) (x := (nI 0)) dX10_parts_66 rfl (by decide) rfl ?_
        exact R_sub [3, 4, 5, 6, 2, 1, 0] rfl (rf_X10_parts_L68 this FU l1 l2 l3 l1 (nI 0) (nI 0) M)
      · refine R_iconst (pc' := 58) (x := (nI 0)) dX10_parts_57 rfl (by decide) ?_
        exact R_iret dX10_parts_58
    · refine R_iload_n (pc' := 39) (i := 3) (j := 3) (x := l3) dX10_parts_38 rfl rfl rfl ?_
      refine R_aloadq_n (pc' := 40) (i := 0) (j := 0) (q := (some this)) dX10_parts_39 rfl rfl rfl ?_
      refine R_iload (pc' := 42) (i := 4) (j := 4) (x := l4) dX10_parts_40 rfl rfl ?_
      refine R_callV_I (pc' := 45) (q := (some this)) (As := [.int l4]) (fun o5 => rm_X10_shareOf o5 l4 M) mf_X10_shareOf lk_X10_468 im_X10_shareOf se_X10_shareOf rfl rfl rfl dX10_parts_42 rfl (by decide) (Nat.le_trans (c_I c_0) (by decide)) (fun r3 M => ?_)
      refine R_iadd (pc' := 46) (a := l3) (b := r3) dX10_parts_45 rfl ?_
      refine R_nmI (fun v4 => ?_)
      refine R_istore_n (pc' := 47) (L' := [(3, .int v4), (0, va_rf (some this)), (1, .int l1), (2, .int l2), (4, .int l4)]) (i := 3) (x := v4) dX10_parts_46 rfl rfl (by decide) rfl ?_
      refine R_iinc (pc' := 50) (L' := [(4, .int (l4 + (nI 1))), (3, .int v4), (0, va_rf (some this)), (1, .int l1), (2, .int l2)]) (i := 4) (j := 4) (x := l4) (x2 := (l4 + (nI 1))) dX10_parts_47 rfl rfl rfl (by decide) rfl ?_
      refine R_goto (tgt := 27) dX10_parts_50 (by decide) ?_
      exact R_sub [2, 3, 4, 1, 0] rfl (ih l1 l2 v4 (l4 + (nI 1)) M)
def f_X10_parts (this : Nat) (l1 : Int32) (l2 : Int32) (M : Mem) : Option (Int32 × Mem) :=
  (oO M 10 (some this)).bind fun o3 => cl (f_X10_isShip o3 l2 M) fun r1 M =>
  (if r1 = 0 then
    (f_X10_parts_J20 this M)
  else
    (cl (f_X10_in (Int32.toInt64 l1) (0 : Int64) (9999 : Int64) M) fun r2 M =>
    (if r2 = 0 then
      (f_X10_parts_J20 this M)
    else
      (f_X10_parts_L27 this FU l1 l2 (nI 0) (nI 0) M))))
set_option maxHeartbeats 2000000 in
set_option maxRecDepth 20000 in
theorem rm_X10_parts (this : Nat) (l1 : Int32) (l2 : Int32) (M : Mem) : RFm yX10_parts cX10_parts 8 (some .int) 3 eI (f_X10_parts this l1 l2 M) [va_rf (some this), .int l1, .int l2] M := by
  refine RFm_of (L := [(0, va_rf (some this)), (1, .int l1), (2, .int l2)]) (by decide) rfl (Nat.le_trans (c_R (c_I (c_I c_0))) (by decide)) ?_
  rw [f_X10_parts]
  refine R_aloadq_n (pc' := 1) (i := 0) (j := 0) (q := (some this)) dX10_parts_0 rfl rfl rfl ?_
  refine R_iload_n (pc' := 2) (i := 2) (j := 2) (x := l2) dX10_parts_1 rfl rfl rfl ?_
  refine R_callV_I (pc' := 5) (q := (some this)) (As := [.int l2]) (fun o3 => rm_X10_isShip o3 l2 M) mf_X10_isShip lk_X10_135 im_X10_isShip se_X10_isShip rfl rfl rfl dX10_parts_2 rfl (by decide) (Nat.le_trans c_0 (by decide)) (fun r1 M => ?_)
  refine R_if_eq (pc' := 8) (tgt := 20) (a := r1) dX10_parts_5 (by decide) rfl ?_ ?_
  · exact R_sub [] rfl (rf_X10_parts_J20 this M)
  · refine R_iload_n (pc' := 9) (i := 1) (j := 1) (x := l1) dX10_parts_8 rfl rfl rfl ?_
    refine R_i2l (pc' := 10) (a := l1) dX10_parts_9 rfl ?_
    refine R_lconst (pc' := 11) (x := (0 : Int64)) dX10_parts_10 rfl (by decide) ?_
    refine R_ldc2 (pc' := 14) (x := (9999 : Int64)) dX10_parts_11 rfl c2_X10_466 ?_
    refine R_callS_I (pc' := 17) (As := [.long (Int32.toInt64 l1), .long (0 : Int64), .long (9999 : Int64)]) (rm_X10_in (Int32.toInt64 l1) (0 : Int64) (9999 : Int64) M) mf_X10_in lk_X10_131 sm_X10_in rfl rfl dX10_parts_14 rfl (by decide) (Nat.le_trans c_0 (by decide)) (fun r2 M => ?_)
    refine R_if_ne (pc' := 20) (tgt := 22) (a := r2) dX10_parts_17 (by decide) rfl ?_ ?_
    · refine R_iconst (pc' := 23) (x := (nI 0)) dX10_parts_22 rfl (by decide) ?_
      refine R_istore_n (pc' := 24) (L' := [(3, .int (nI 0)), (0, va_rf (some this)), (1, .int l1), (2, .int l2)]) (i := 3) (x := (nI 0)) dX10_parts_23 rfl rfl (by decide) rfl ?_
      refine R_iconst (pc' := 25) (x := (nI 0)) dX10_parts_24 rfl (by decide) ?_
      refine R_istore (pc' := 27) (L' := [(4, .int (nI 0)), (3, .int (nI 0)), (0, va_rf (some this)), (1, .int l1), (2, .int l2)]) (i := 4) (x := (nI 0)) dX10_parts_25 rfl (by decide) rfl ?_
      exact R_sub [2, 3, 4, 1, 0] rfl (rf_X10_parts_L27 this FU l1 l2 (nI 0) (nI 0) M)
    · exact R_sub [] rfl (rf_X10_parts_J20 this M)
/-! BarPilotModel.order(I)I -/
def f_X10_order_J109 (k48 : Int32 → Int32 → Int32 → Int32 → Mem → Option (Int32 × Mem)) (this : Nat) (l1 : Int32) (l2 : Int32) (l4 : Int32) (s0 : Int32) (s1 : Int32) (M : Mem) : Option (Int32 × Mem) :=
  nm (s1 + s0) fun v1 =>
  k48 l1 l2 v1 (l4 + (nI 1)) M
set_option maxHeartbeats 2000000 in
set_option maxRecDepth 20000 in
theorem rf_X10_order_J109 (this : Nat) (k48 : Int32 → Int32 → Int32 → Int32 → Mem → Option (Int32 × Mem)) (hk48 : ∀ (l1 : Int32) (l2 : Int32) (l3 : Int32) (l4 : Int32) (M : Mem), RF yX10_order cX10_order 6 (some .int) 11 eI (k48 l1 l2 l3 l4 M) 48 [(0, va_rf (some this)), (1, .int l1), (2, .int l2), (3, .int l3), (4, .int l4)] [] M) (l1 : Int32) (l2 : Int32) (l4 : Int32) (s0 : Int32) (s1 : Int32) (M : Mem) : RF yX10_order cX10_order 6 (some .int) 11 eI (f_X10_order_J109 k48 this l1 l2 l4 s0 s1 M) 109 [(0, va_rf (some this)), (1, .int l1), (2, .int l2), (4, .int l4)] [.int s0, .int s1] M := by
  rw [f_X10_order_J109]
  refine R_iadd (pc' := 110) (a := s1) (b := s0) dX10_order_109 rfl ?_
  refine R_nmI (fun v1 => ?_)
  refine R_istore_n (pc' := 111) (L' := [(3, .int v1), (0, va_rf (some this)), (1, .int l1), (2, .int l2), (4, .int l4)]) (i := 3) (x := v1) dX10_order_110 rfl rfl (by decide) rfl ?_
  refine R_iinc (pc' := 114) (L' := [(4, .int (l4 + (nI 1))), (3, .int v1), (0, va_rf (some this)), (1, .int l1), (2, .int l2)]) (i := 4) (j := 4) (x := l4) (x2 := (l4 + (nI 1))) dX10_order_111 rfl rfl rfl (by decide) rfl ?_
  refine R_goto (tgt := 48) dX10_order_114 (by decide) ?_
  exact R_sub [2, 3, 4, 1, 0] rfl (hk48 l1 l2 v1 (l4 + (nI 1)) M)
def f_X10_order_J104 (k48 : Int32 → Int32 → Int32 → Int32 → Mem → Option (Int32 × Mem)) (this : Nat) (l1 : Int32) (l2 : Int32) (l4 : Int32) (s0 : Int32) (M : Mem) : Option (Int32 × Mem) :=
  f_X10_order_J109 k48 this l1 l2 l4 (nI 1) s0 M
set_option maxHeartbeats 2000000 in
set_option maxRecDepth 20000 in
theorem rf_X10_order_J104 (this : Nat) (k48 : Int32 → Int32 → Int32 → Int32 → Mem → Option (Int32 × Mem)) (hk48 : ∀ (l1 : Int32) (l2 : Int32) (l3 : Int32) (l4 : Int32) (M : Mem), RF yX10_order cX10_order 6 (some .int) 11 eI (k48 l1 l2 l3 l4 M) 48 [(0, va_rf (some this)), (1, .int l1), (2, .int l2), (3, .int l3), (4, .int l4)] [] M) (l1 : Int32) (l2 : Int32) (l4 : Int32) (s0 : Int32) (M : Mem) : RF yX10_order cX10_order 6 (some .int) 11 eI (f_X10_order_J104 k48 this l1 l2 l4 s0 M) 104 [(0, va_rf (some this)), (1, .int l1), (2, .int l2), (4, .int l4)] [.int s0] M := by
  rw [f_X10_order_J104]
  refine R_iconst (pc' := 105) (x := (nI 1)) dX10_order_104 rfl (by decide) ?_
  refine R_goto (tgt := 109) dX10_order_105 (by decide) ?_
  exact R_sub [0, 1, 2, 3] rfl (rf_X10_order_J109 this k48 hk48 l1 l2 l4 (nI 1) s0 M)
def f_X10_order_J108 (k48 : Int32 → Int32 → Int32 → Int32 → Mem → Option (Int32 × Mem)) (this : Nat) (l1 : Int32) (l2 : Int32) (l4 : Int32) (s0 : Int32) (M : Mem) : Option (Int32 × Mem) :=
  f_X10_order_J109 k48 this l1 l2 l4 (nI 0) s0 M
set_option maxHeartbeats 2000000 in
set_option maxRecDepth 20000 in
theorem rf_X10_order_J108 (this : Nat) (k48 : Int32 → Int32 → Int32 → Int32 → Mem → Option (Int32 × Mem)) (hk48 : ∀ (l1 : Int32) (l2 : Int32) (l3 : Int32) (l4 : Int32) (M : Mem), RF yX10_order cX10_order 6 (some .int) 11 eI (k48 l1 l2 l3 l4 M) 48 [(0, va_rf (some this)), (1, .int l1), (2, .int l2), (3, .int l3), (4, .int l4)] [] M) (l1 : Int32) (l2 : Int32) (l4 : Int32) (s0 : Int32) (M : Mem) : RF yX10_order cX10_order 6 (some .int) 11 eI (f_X10_order_J108 k48 this l1 l2 l4 s0 M) 108 [(0, va_rf (some this)), (1, .int l1), (2, .int l2), (4, .int l4)] [.int s0] M := by
  rw [f_X10_order_J108]
  refine R_iconst (pc' := 109) (x := (nI 0)) dX10_order_108 rfl (by decide) ?_
  exact R_sub [0, 1, 2, 3] rfl (rf_X10_order_J109 this k48 hk48 l1 l2 l4 (nI 0) s0 M)
def f_X10_order_J83 (k48 : Int32 → Int32 → Int32 → Int32 → Mem → Option (Int32 × Mem)) (this : Nat) (l1 : Int32) (l2 : Int32) (l3 : Int32) (l4 : Int32) (s0 : Int32) (M : Mem) : Option (Int32 × Mem) :=
  (if s0 < l2 then
    (f_X10_order_J104 k48 this l1 l2 l4 l3 M)
  else
    ((if s0 = l2 then
      ((if l1 ≤ l4 then
        (f_X10_order_J108 k48 this l1 l2 l4 l3 M)
      else
        (f_X10_order_J104 k48 this l1 l2 l4 l3 M)))
    else
      (f_X10_order_J108 k48 this l1 l2 l4 l3 M))))
set_option maxHeartbeats 2000000 in
set_option maxRecDepth 20000 in
theorem rf_X10_order_J83 (this : Nat) (k48 : Int32 → Int32 → Int32 → Int32 → Mem → Option (Int32 × Mem)) (hk48 : ∀ (l1 : Int32) (l2 : Int32) (l3 : Int32) (l4 : Int32) (M : Mem), RF yX10_order cX10_order 6 (some .int) 11 eI (k48 l1 l2 l3 l4 M) 48 [(0, va_rf (some this)), (1, .int l1), (2, .int l2), (3, .int l3), (4, .int l4)] [] M) (l1 : Int32) (l2 : Int32) (l3 : Int32) (l4 : Int32) (s0 : Int32) (M : Mem) : RF yX10_order cX10_order 6 (some .int) 11 eI (f_X10_order_J83 k48 this l1 l2 l3 l4 s0 M) 83 [(0, va_rf (some this)), (1, .int l1), (2, .int l2), (3, .int l3), (4, .int l4)] [.int s0] M := by
  rw [f_X10_order_J83]
  refine R_istore (pc' := 85) (L' := [(5, .int s0), (0, va_rf (some this)), (1, .int l1), (2, .int l2), (3, .int l3), (4, .int l4)]) (i := 5) (x := s0) dX10_order_83 rfl (by decide) rfl ?_
  refine R_iload_n (pc' := 86) (i := 3) (j := 4) (x := l3) dX10_order_85 rfl rfl rfl ?_
  refine R_iload (pc' := 88) (i := 5) (j := 0) (x := s0) dX10_order_86 rfl rfl ?_
  refine R_iload_n (pc' := 89) (i := 2) (j := 3) (x := l2) dX10_order_88 rfl rfl rfl ?_
  refine R_icmp_lt (pc' := 92) (tgt := 104) (a := s0) (b := l2) dX10_order_89 (by decide) rfl ?_ ?_
  · exact R_sub [1, 2, 3, 5] rfl (rf_X10_order_J104 this k48 hk48 l1 l2 l4 l3 M)
  · refine R_iload (pc' := 94) (i := 5) (j := 0) (x := s0) dX10_order_92 rfl rfl ?_
    refine R_iload_n (pc' := 95) (i := 2) (j := 3) (x := l2) dX10_order_94 rfl rfl rfl ?_
    refine R_icmp_ne (pc' := 98) (tgt := 108) (a := s0) (b := l2) dX10_order_95 (by decide) rfl ?_ ?_
    · exact R_sub [1, 2, 3, 5] rfl (rf_X10_order_J108 this k48 hk48 l1 l2 l4 l3 M)
    · refine R_iload (pc' := 100) (i := 4) (j := 5) (x := l4) dX10_order_98 rfl rfl ?_
      refine R_iload_n (pc' := 101) (i := 1) (j := 2) (x := l1) dX10_order_100 rfl rfl rfl ?_
      refine R_icmp_ge (pc' := 104) (tgt := 108) (a := l4) (b := l1) dX10_order_101 (by decide) rfl ?_ ?_
      · exact R_sub [1, 2, 3, 5] rfl (rf_X10_order_J108 this k48 hk48 l1 l2 l4 l3 M)
      · exact R_sub [1, 2, 3, 5] rfl (rf_X10_order_J104 this k48 hk48 l1 l2 l4 l3 M)
def f_X10_order_L48 (this : Nat) : Nat → Int32 → Int32 → Int32 → Int32 → Mem → Option (Int32 × Mem)
  | 0, _, _, _, _, _ => none
  | n + 1, l1, l2, l3, l4, M =>
    (gR M 10 1 (some this)).bind fun scalar1 =>
    (aI M 0 scalar1 (nI 3)).bind fun e2 =>
    (if e2 ≤ l4 then
      ((oO M 10 (some this)).bind fun o4 => cl (f_X10_laysBack o4 M) fun u3 M =>
      some (l3, M))
    else
      ((gR M 10 7 (some this)).bind fun passed5 =>
      (aI M 0 passed5 l4).bind fun e6 =>
      (if e6 = (-1 : Int32) then
        (f_X10_order_J83 (f_X10_order_L48 this n) this l1 l2 l3 l4 (nI 100000) M)
      else
        ((gR M 10 7 (some this)).bind fun passed7 =>
        (aI M 0 passed7 l4).bind fun e8 =>
        f_X10_order_J83 (f_X10_order_L48 this n) this l1 l2 l3 l4 e8 M))))
set_option maxHeartbeats 2000000 in
set_option maxRecDepth 20000 in
theorem rf_X10_order_L48 (this : Nat) : ∀ (n : Nat) (l1 : Int32) (l2 : Int32) (l3 : Int32) (l4 : Int32) (M : Mem), RF yX10_order cX10_order 6 (some .int) 11 eI (f_X10_order_L48 this n l1 l2 l3 l4 M) 48 [(0, va_rf (some this)), (1, .int l1), (2, .int l2), (3, .int l3), (4, .int l4)] [] M := by
  intro n
  induction n with
  | zero => intro _ _ _ _ _; exact RF.none
  | succ n ih =>
    intro l1 l2 l3 l4 M
    rw [f_X10_order_L48]
    refine R_iload (pc' := 50) (i := 4) (j := 4) (x := l4) dX10_order_48 rfl rfl ?_
    refine R_aloadq_n (pc' := 51) (i := 0) (j := 0) (q := (some this)) dX10_order_50 rfl rfl rfl ?_
    refine R_getR (pc' := 54) (q := (some this)) fl_X10_9 rfl dX10_order_51 rfl (fun scalar1 => ?_)
    refine R_iconst (pc' := 55) (x := (nI 3)) dX10_order_54 rfl (by decide) ?_
    refine R_iald (pc' := 56) (q := scalar1) (i := (nI 3)) dX10_order_55 rfl (fun e2 => ?_)
    refine R_icmp_ge (pc' := 59) (tgt := 117) (a := l4) (b := e2) dX10_order_56 (by decide) rfl ?_ ?_
    · refine R_aloadq_n (pc' := 118) (i := 0) (j := 0) (q := (some this)) dX10_order_117 rfl rfl rfl ?_
      refine R_callV_V (pc' := 121) (q := (some this)) (As := []) (fun o4 => rm_X10_laysBack o4 M) mf_X10_laysBack lk_X10_423 im_X10_laysBack se_X10_laysBack rfl rfl rfl dX10_order_118 rfl (by decide) (Nat.le_trans c_0 (by decide)) (fun u3 M => ?_)
      refine R_iload_n (pc' := 122) (i := 3) (j := 3) (x := l3) dX10_order_121 rfl rfl rfl ?_
      exact R_iret dX10_order_122
    · refine R_aloadq_n (pc' := 60) (i := 0) (j := 0) (q := (some this)) dX10_order_59 rfl rfl rfl ?_
      refine R_getR (pc' := 63) (q := (some this)) fl_X10_28 rfl dX10_order_60 rfl (fun passed5 => ?_)
      refine R_iload (pc' := 65) (i := 4) (j := 4) (x := l4) dX10_order_63 rfl rfl ?_
      refine R_iald (pc' := 66) (q := passed5) (i := l4) dX10_order_65 rfl (fun e6 => ?_)
      refine R_iconst (pc' := 67) (x := (-1 : Int32)) dX10_order_66 rfl (by decide) ?_
      refine R_icmp_ne (pc' := 70) (tgt := 76) (a := e6) (b := (-1 : Int32)) dX10_order_67 (by decide) rfl ?_ ?_
      · refine R_aloadq_n (pc' := 77) (i := 0) (j := 0) (q := (some this)) dX10_order_76 rfl rfl rfl ?_
        refine R_getR (pc' := 80) (q := (some this)) fl_X10_28 rfl dX10_order_77 rfl (fun passed7 => ?_)
        refine R_iload (pc' := 82) (i := 4) (j := 4) (x := l4) dX10_order_80 rfl rfl ?_
        refine R_iald (pc' := 83) (q := passed7) (i := l4) dX10_order_82 rfl (fun e8 => ?_)
        exact R_sub [0, 1, 2, 3, 4] rfl (rf_X10_order_J83 this (f_X10_order_L48 this n) ih l1 l2 l3 l4 e8 M)
      · refine R_ldcw (pc' := 73) (x := (nI 100000)) dX10_order_70 rfl co_X10_437 ?_
        refine R_goto (tgt := 83) dX10_order_73 (by decide) ?_
        exact R_sub [0, 1, 2, 3, 4] rfl (rf_X10_order_J83 this (f_X10_order_L48 this n) ih l1 l2 l3 l4 (nI 100000) M)
def f_X10_order_J42 (this : Nat) (l1 : Int32) (s0 : Int32) (M : Mem) : Option (Int32 × Mem) :=
  f_X10_order_L48 this FU l1 s0 (nI 0) (nI 0) M
set_option maxHeartbeats 2000000 in
set_option maxRecDepth 20000 in
theorem rf_X10_order_J42 (this : Nat) (l1 : Int32) (s0 : Int32) (M : Mem) : RF yX10_order cX10_order 6 (some .int) 11 eI (f_X10_order_J42 this l1 s0 M) 42 [(0, va_rf (some this)), (1, .int l1)] [.int s0] M := by
  rw [f_X10_order_J42]
  refine R_istore_n (pc' := 43) (L' := [(2, .int s0), (0, va_rf (some this)), (1, .int l1)]) (i := 2) (x := s0) dX10_order_42 rfl rfl (by decide) rfl ?_
  refine R_iconst (pc' := 44) (x := (nI 0)) dX10_order_43 rfl (by decide) ?_
  refine R_istore_n (pc' := 45) (L' := [(3, .int (nI 0)), (2, .int s0), (0, va_rf (some this)), (1, .int l1)]) (i := 3) (x := (nI 0)) dX10_order_44 rfl rfl (by decide) rfl ?_
  refine R_iconst (pc' := 46) (x := (nI 0)) dX10_order_45 rfl (by decide) ?_
  refine R_istore (pc' := 48) (L' := [(4, .int (nI 0)), (3, .int (nI 0)), (2, .int s0), (0, va_rf (some this)), (1, .int l1)]) (i := 4) (x := (nI 0)) dX10_order_46 rfl (by decide) rfl ?_
  exact R_sub [3, 4, 2, 1, 0] rfl (rf_X10_order_L48 this FU l1 s0 (nI 0) (nI 0) M)
def f_X10_order (this : Nat) (l1 : Int32) (M : Mem) : Option (Int32 × Mem) :=
  (oO M 10 (some this)).bind fun o10 => cl (f_X10_isShip o10 l1 M) fun r1 M =>
  (if r1 = 0 then
    (some ((-1 : Int32), M))
  else
    ((oO M 10 (some this)).bind fun o9 => cl (f_X10_keepsAll o9 M) fun u2 M =>
    (oO M 10 (some this)).bind fun o8 => cl (f_X10_goFor o8 (nI 100) M) fun u3 M =>
    (gR M 10 7 (some this)).bind fun passed4 =>
    (aI M 0 passed4 l1).bind fun e5 =>
    (if e5 = (-1 : Int32) then
      (f_X10_order_J42 this l1 (nI 100000) M)
    else
      ((gR M 10 7 (some this)).bind fun passed6 =>
      (aI M 0 passed6 l1).bind fun e7 =>
      f_X10_order_J42 this l1 e7 M))))
set_option maxHeartbeats 2000000 in
set_option maxRecDepth 20000 in
theorem rm_X10_order (this : Nat) (l1 : Int32) (M : Mem) : RFm yX10_order cX10_order 6 (some .int) 11 eI (f_X10_order this l1 M) [va_rf (some this), .int l1] M := by
  refine RFm_of (L := [(0, va_rf (some this)), (1, .int l1)]) (by decide) rfl (Nat.le_trans (c_R (c_I c_0)) (by decide)) ?_
  rw [f_X10_order]
  refine R_aloadq_n (pc' := 1) (i := 0) (j := 0) (q := (some this)) dX10_order_0 rfl rfl rfl ?_
  refine R_iload_n (pc' := 2) (i := 1) (j := 1) (x := l1) dX10_order_1 rfl rfl rfl ?_
  refine R_callV_I (pc' := 5) (q := (some this)) (As := [.int l1]) (fun o10 => rm_X10_isShip o10 l1 M) mf_X10_isShip lk_X10_135 im_X10_isShip se_X10_isShip rfl rfl rfl dX10_order_2 rfl (by decide) (Nat.le_trans c_0 (by decide)) (fun r1 M => ?_)
  refine R_if_ne (pc' := 8) (tgt := 10) (a := r1) dX10_order_5 (by decide) rfl ?_ ?_
  · refine R_aloadq_n (pc' := 11) (i := 0) (j := 0) (q := (some this)) dX10_order_10 rfl rfl rfl ?_
    refine R_callV_V (pc' := 14) (q := (some this)) (As := []) (fun o9 => rm_X10_keepsAll o9 M) mf_X10_keepsAll lk_X10_430 im_X10_keepsAll se_X10_keepsAll rfl rfl rfl dX10_order_11 rfl (by decide) (Nat.le_trans c_0 (by decide)) (fun u2 M => ?_)
    refine R_aloadq_n (pc' := 15) (i := 0) (j := 0) (q := (some this)) dX10_order_14 rfl rfl rfl ?_
    refine R_bipush (pc' := 17) (x := (nI 100)) dX10_order_15 rfl (by decide) ?_
    refine R_callV_V (pc' := 20) (q := (some this)) (As := [.int (nI 100)]) (fun o8 => rm_X10_goFor o8 (nI 100) M) mf_X10_goFor lk_X10_420 im_X10_goFor se_X10_goFor rfl rfl rfl dX10_order_17 rfl (by decide) (Nat.le_trans c_0 (by decide)) (fun u3 M => ?_)
    refine R_aloadq_n (pc' := 21) (i := 0) (j := 0) (q := (some this)) dX10_order_20 rfl rfl rfl ?_
    refine R_getR (pc' := 24) (q := (some this)) fl_X10_28 rfl dX10_order_21 rfl (fun passed4 => ?_)
    refine R_iload_n (pc' := 25) (i := 1) (j := 1) (x := l1) dX10_order_24 rfl rfl rfl ?_
    refine R_iald (pc' := 26) (q := passed4) (i := l1) dX10_order_25 rfl (fun e5 => ?_)
    refine R_iconst (pc' := 27) (x := (-1 : Int32)) dX10_order_26 rfl (by decide) ?_
    refine R_icmp_ne (pc' := 30) (tgt := 36) (a := e5) (b := (-1 : Int32)) dX10_order_27 (by decide) rfl ?_ ?_
    · refine R_aloadq_n (pc' := 37) (i := 0) (j := 0) (q := (some this)) dX10_order_36 rfl rfl rfl ?_
      refine R_getR (pc' := 40) (q := (some this)) fl_X10_28 rfl dX10_order_37 rfl (fun passed6 => ?_)
      refine R_iload_n (pc' := 41) (i := 1) (j := 1) (x := l1) dX10_order_40 rfl rfl rfl ?_
      refine R_iald (pc' := 42) (q := passed6) (i := l1) dX10_order_41 rfl (fun e7 => ?_)
      exact R_sub [0, 1] rfl (rf_X10_order_J42 this l1 e7 M)
    · refine R_ldcw (pc' := 33) (x := (nI 100000)) dX10_order_30 rfl co_X10_437 ?_
      refine R_goto (tgt := 42) dX10_order_33 (by decide) ?_
      exact R_sub [0, 1] rfl (rf_X10_order_J42 this l1 (nI 100000) M)
  · refine R_iconst (pc' := 9) (x := (-1 : Int32)) dX10_order_8 rfl (by decide) ?_
    exact R_iret dX10_order_9
/-! BarPilotModel.note(III)I -/
def f_X10_note_J64 (this : Nat) (M : Mem) : Option (Int32 × Mem) :=
  some ((-2 : Int32), M)
set_option maxHeartbeats 2000000 in
set_option maxRecDepth 20000 in
theorem rf_X10_note_J64 (this : Nat) (M : Mem) : RF yX10_note cX10_note 5 (some .int) 3 eI (f_X10_note_J64 this M) 64 [] [] M := by
  rw [f_X10_note_J64]
  refine R_bipush (pc' := 66) (x := (-2 : Int32)) dX10_note_64 rfl (by decide) ?_
  exact R_iret dX10_note_66
def f_X10_note_J57 (this : Nat) (l1 : Int32) (l2 : Int32) (l3 : Int32) (l4 : Int32) (M : Mem) : Option (Int32 × Mem) :=
  (if l4 = (nI 10) then
    (f_X10_note_J64 this M)
  else
    ((gR M 10 8 (some this)).bind fun noteTide1 =>
    (wI M 0 noteTide1 l4 l1).bind fun M =>
    (gR M 10 9 (some this)).bind fun noteShip2 =>
    (wI M 0 noteShip2 l4 l2).bind fun M =>
    (gR M 10 10 (some this)).bind fun noteJoke3 =>
    (wI M 0 noteJoke3 l4 l3).bind fun M =>
    (gR M 10 1 (some this)).bind fun scalar4 =>
    (aI M 0 scalar4 (nI 6)).bind fun e5 =>
    (wI M 0 scalar4 (nI 6) (e5 + (nI 1))).bind fun M =>
    some ((l4 + (nI 1)), M)))
set_option maxHeartbeats 2000000 in
set_option maxRecDepth 20000 in
theorem rf_X10_note_J57 (this : Nat) (l1 : Int32) (l2 : Int32) (l3 : Int32) (l4 : Int32) (M : Mem) : RF yX10_note cX10_note 5 (some .int) 3 eI (f_X10_note_J57 this l1 l2 l3 l4 M) 57 [(0, va_rf (some this)), (1, .int l1), (2, .int l2), (3, .int l3), (4, .int l4)] [] M := by
  rw [f_X10_note_J57]
  refine R_iload (pc' := 59) (i := 4) (j := 4) (x := l4) dX10_note_57 rfl rfl ?_
  refine R_bipush (pc' := 61) (x := (nI 10)) dX10_note_59 rfl (by decide) ?_
  refine R_icmp_ne (pc' := 64) (tgt := 67) (a := l4) (b := (nI 10)) dX10_note_61 (by decide) rfl ?_ ?_
  · refine R_aloadq_n (pc' := 68) (i := 0) (j := 0) (q := (some this)) dX10_note_67 rfl rfl rfl ?_
    refine R_getR (pc' := 71) (q := (some this)) fl_X10_31 rfl dX10_note_68 rfl (fun noteTide1 => ?_)
    refine R_iload (pc' := 73) (i := 4) (j := 4) (x := l4) dX10_note_71 rfl rfl ?_
    refine R_iload_n (pc' := 74) (i := 1) (j := 1) (x := l1) dX10_note_73 rfl rfl rfl ?_
    refine R_iast (pc' := 75) (q := noteTide1) (i := l4) (x := l1) dX10_note_74 rfl (fun M => ?_)
    refine R_aloadq_n (pc' := 76) (i := 0) (j := 0) (q := (some this)) dX10_note_75 rfl rfl rfl ?_
    refine R_getR (pc' := 79) (q := (some this)) fl_X10_34 rfl dX10_note_76 rfl (fun noteShip2 => ?_)
    refine R_iload (pc' := 81) (i := 4) (j := 4) (x := l4) dX10_note_79 rfl rfl ?_
    refine R_iload_n (pc' := 82) (i := 2) (j := 2) (x := l2) dX10_note_81 rfl rfl rfl ?_
    refine R_iast (pc' := 83) (q := noteShip2) (i := l4) (x := l2) dX10_note_82 rfl (fun M => ?_)
    refine R_aloadq_n (pc' := 84) (i := 0) (j := 0) (q := (some this)) dX10_note_83 rfl rfl rfl ?_
    refine R_getR (pc' := 87) (q := (some this)) fl_X10_37 rfl dX10_note_84 rfl (fun noteJoke3 => ?_)
    refine R_iload (pc' := 89) (i := 4) (j := 4) (x := l4) dX10_note_87 rfl rfl ?_
    refine R_iload_n (pc' := 90) (i := 3) (j := 3) (x := l3) dX10_note_89 rfl rfl rfl ?_
    refine R_iast (pc' := 91) (q := noteJoke3) (i := l4) (x := l3) dX10_note_90 rfl (fun M => ?_)
    refine R_aloadq_n (pc' := 92) (i := 0) (j := 0) (q := (some this)) dX10_note_91 rfl rfl rfl ?_
    refine R_getR (pc' := 95) (q := (some this)) fl_X10_9 rfl dX10_note_92 rfl (fun scalar4 => ?_)
    refine R_bipush (pc' := 97) (x := (nI 6)) dX10_note_95 rfl (by decide) ?_
    refine R_dup2 (pc' := 98) dX10_note_97 rfl rfl (rf_cat _) ?_
    refine R_iald (pc' := 99) (q := scalar4) (i := (nI 6)) dX10_note_98 rfl (fun e5 => ?_)
    refine R_iconst (pc' := 100) (x := (nI 1)) dX10_note_99 rfl (by decide) ?_
    refine R_iadd (pc' := 101) (a := e5) (b := (nI 1)) dX10_note_100 rfl ?_
    refine R_iast (pc' := 102) (q := scalar4) (i := (nI 6)) (x := (e5 + (nI 1))) dX10_note_101 rfl (fun M => ?_)
    refine R_iload (pc' := 104) (i := 4) (j := 4) (x := l4) dX10_note_102 rfl rfl ?_
    refine R_iconst (pc' := 105) (x := (nI 1)) dX10_note_104 rfl (by decide) ?_
    refine R_iadd (pc' := 106) (a := l4) (b := (nI 1)) dX10_note_105 rfl ?_
    exact R_iret dX10_note_106
  · exact R_sub [] rfl (rf_X10_note_J64 this M)
def f_X10_note (this : Nat) (l1 : Int32) (l2 : Int32) (l3 : Int32) (M : Mem) : Option (Int32 × Mem) :=
  (if l1 = (-1 : Int32) then
    ((gR M 10 1 (some this)).bind fun scalar8 =>
    (wI M 0 scalar8 (nI 6) (nI 0)).bind fun M =>
    some ((nI 0), M))
  else
    ((gR M 10 1 (some this)).bind fun scalar1 =>
    (aI M 0 scalar1 (nI 6)).bind fun e2 =>
    cl (f_X10_in (Int32.toInt64 l1) (0 : Int64) (60 : Int64) M) fun r3 M =>
    (if r3 = 0 then
      (f_X10_note_J64 this M)
    else
      ((oO M 10 (some this)).bind fun o7 => cl (f_X10_isShip o7 l2 M) fun r4 M =>
      (if r4 = 0 then
        (f_X10_note_J64 this M)
      else
        ((if l3 = (-1 : Int32) then
          (f_X10_note_J57 this l1 l2 l3 e2 M)
        else
          ((oO M 10 (some this)).bind fun o6 => cl (f_X10_isJoke o6 l3 M) fun r5 M =>
          (if r5 = 0 then
            (f_X10_note_J64 this M)
          else
            (f_X10_note_J57 this l1 l2 l3 e2 M))))))))))
set_option maxHeartbeats 2000000 in
set_option maxRecDepth 20000 in
theorem rm_X10_note (this : Nat) (l1 : Int32) (l2 : Int32) (l3 : Int32) (M : Mem) : RFm yX10_note cX10_note 5 (some .int) 3 eI (f_X10_note this l1 l2 l3 M) [va_rf (some this), .int l1, .int l2, .int l3] M := by
  refine RFm_of (L := [(0, va_rf (some this)), (1, .int l1), (2, .int l2), (3, .int l3)]) (by decide) rfl (Nat.le_trans (c_R (c_I (c_I (c_I c_0)))) (by decide)) ?_
  rw [f_X10_note]
  refine R_iload_n (pc' := 1) (i := 1) (j := 1) (x := l1) dX10_note_0 rfl rfl rfl ?_
  refine R_iconst (pc' := 2) (x := (-1 : Int32)) dX10_note_1 rfl (by decide) ?_
  refine R_icmp_ne (pc' := 5) (tgt := 15) (a := l1) (b := (-1 : Int32)) dX10_note_2 (by decide) rfl ?_ ?_
  · refine R_aloadq_n (pc' := 16) (i := 0) (j := 0) (q := (some this)) dX10_note_15 rfl rfl rfl ?_
    refine R_getR (pc' := 19) (q := (some this)) fl_X10_9 rfl dX10_note_16 rfl (fun scalar1 => ?_)
    refine R_bipush (pc' := 21) (x := (nI 6)) dX10_note_19 rfl (by decide) ?_
    refine R_iald (pc' := 22) (q := scalar1) (i := (nI 6)) dX10_note_21 rfl (fun e2 => ?_)
    refine R_istore (pc' := 24) (L' := [(4, .int e2), (0, va_rf (some this)), (1, .int l1), (2, .int l2), (3, .int l3)]) (i := 4) (x := e2) dX10_note_22 rfl (by decide) rfl ?_
    refine R_iload_n (pc' := 25) (i := 1) (j := 2) (x := l1) dX10_note_24 rfl rfl rfl ?_
    refine R_i2l (pc' := 26) (a := l1) dX10_note_25 rfl ?_
    refine R_lconst (pc' := 27) (x := (0 : Int64)) dX10_note_26 rfl (by decide) ?_
    refine R_ldc2 (pc' := 30) (x := (60 : Int64)) dX10_note_27 rfl c2_X10_444 ?_
    refine R_callS_I (pc' := 33) (As := [.long (Int32.toInt64 l1), .long (0 : Int64), .long (60 : Int64)]) (rm_X10_in (Int32.toInt64 l1) (0 : Int64) (60 : Int64) M) mf_X10_in lk_X10_131 sm_X10_in rfl rfl dX10_note_30 rfl (by decide) (Nat.le_trans c_0 (by decide)) (fun r3 M => ?_)
    refine R_if_eq (pc' := 36) (tgt := 64) (a := r3) dX10_note_33 (by decide) rfl ?_ ?_
    · exact R_sub [] rfl (rf_X10_note_J64 this M)
    · refine R_aloadq_n (pc' := 37) (i := 0) (j := 1) (q := (some this)) dX10_note_36 rfl rfl rfl ?_
      refine R_iload_n (pc' := 38) (i := 2) (j := 3) (x := l2) dX10_note_37 rfl rfl rfl ?_
      refine R_callV_I (pc' := 41) (q := (some this)) (As := [.int l2]) (fun o7 => rm_X10_isShip o7 l2 M) mf_X10_isShip lk_X10_135 im_X10_isShip se_X10_isShip rfl rfl rfl dX10_note_38 rfl (by decide) (Nat.le_trans c_0 (by decide)) (fun r4 M => ?_)
      refine R_if_eq (pc' := 44) (tgt := 64) (a := r4) dX10_note_41 (by decide) rfl ?_ ?_
      · exact R_sub [] rfl (rf_X10_note_J64 this M)
      · refine R_iload_n (pc' := 45) (i := 3) (j := 4) (x := l3) dX10_note_44 rfl rfl rfl ?_
        refine R_iconst (pc' := 46) (x := (-1 : Int32)) dX10_note_45 rfl (by decide) ?_
        refine R_icmp_eq (pc' := 49) (tgt := 57) (a := l3) (b := (-1 : Int32)) dX10_note_46 (by decide) rfl ?_ ?_
        · exact R_sub [1, 2, 3, 4, 0] rfl (rf_X10_note_J57 this l1 l2 l3 e2 M)
        · refine R_aloadq_n (pc' := 50) (i := 0) (j := 1) (q := (some this)) dX10_note_49 rfl rfl rfl ?_
          refine R_iload_n (pc' := 51) (i := 3) (j := 4) (x := l3) dX10_note_50 rfl rfl rfl ?_
          refine R_callV_I (pc' := 54) (q := (some this)) (As := [.int l3]) (fun o6 => rm_X10_isJoke o6 l3 M) mf_X10_isJoke lk_X10_341 im_X10_isJoke se_X10_isJoke rfl rfl rfl dX10_note_51 rfl (by decide) (Nat.le_trans c_0 (by decide)) (fun r5 M => ?_)
          refine R_if_eq (pc' := 57) (tgt := 64) (a := r5) dX10_note_54 (by decide) rfl ?_ ?_
          · exact R_sub [] rfl (rf_X10_note_J64 this M)
          · exact R_sub [1, 2, 3, 4, 0] rfl (rf_X10_note_J57 this l1 l2 l3 e2 M)
  · refine R_aloadq_n (pc' := 6) (i := 0) (j := 0) (q := (some this)) dX10_note_5 rfl rfl rfl ?_
    refine R_getR (pc' := 9) (q := (some this)) fl_X10_9 rfl dX10_note_6 rfl (fun scalar8 => ?_)
    refine R_bipush (pc' := 11) (x := (nI 6)) dX10_note_9 rfl (by decide) ?_
    refine R_iconst (pc' := 12) (x := (nI 0)) dX10_note_11 rfl (by decide) ?_
    refine R_iast (pc' := 13) (q := scalar8) (i := (nI 6)) (x := (nI 0)) dX10_note_12 rfl (fun M => ?_)
    refine R_iconst (pc' := 14) (x := (nI 0)) dX10_note_13 rfl (by decide) ?_
    exact R_iret dX10_note_14
/-! BarPilotModel.couldRule(I)Z -/
def f_X10_couldRule_L66 (this : Nat) : Nat → Int32 → Mem → Option (Int32 × Mem)
  | 0, _, _ => none
  | n + 1, l2, M =>
    (gR M 10 1 (some this)).bind fun scalar1 =>
    (aI M 0 scalar1 (nI 6)).bind fun e2 =>
    (if e2 ≤ l2 then
      (ckZ (nI 1) (some ((nI 1), M)))
    else
      ((gR M 10 48 (some this)).bind fun lay3 =>
      (gR M 10 8 (some this)).bind fun noteTide4 =>
      (aI M 0 noteTide4 l2).bind fun e5 =>
      (gR M 10 9 (some this)).bind fun noteShip6 =>
      (aI M 0 noteShip6 l2).bind fun e7 =>
      (aI M 0 lay3 (((nI 5) * e5) + e7)).bind fun e8 =>
      (gR M 10 10 (some this)).bind fun noteJoke9 =>
      (aI M 0 noteJoke9 l2).bind fun e10 =>
      (if e8 = e10 then
        ((f_X10_couldRule_L66 this n) (l2 + (nI 1)) M)
      else
        (ckZ (nI 0) (some ((nI 0), M))))))
set_option maxHeartbeats 2000000 in
set_option maxRecDepth 20000 in
theorem rf_X10_couldRule_L66 (this : Nat) : ∀ (n : Nat) (l2 : Int32) (M : Mem), RF yX10_couldRule cX10_couldRule 4 (some .boolean) 10 eI (f_X10_couldRule_L66 this n l2 M) 66 [(0, va_rf (some this)), (2, .int l2)] [] M := by
  intro n
  induction n with
  | zero => intro _ _; exact RF.none
  | succ n ih =>
    intro l2 M
    rw [f_X10_couldRule_L66]
    refine R_iload_n (pc' := 67) (i := 2) (j := 1) (x := l2) dX10_couldRule_66 rfl rfl rfl ?_
    refine R_aloadq_n (pc' := 68) (i := 0) (j := 0) (q := (some this)) dX10_couldRule_67 rfl rfl rfl ?_
    refine R_getR (pc' := 71) (q := (some this)) fl_X10_9 rfl dX10_couldRule_68 rfl (fun scalar1 => ?_)
    refine R_bipush (pc' := 73) (x := (nI 6)) dX10_couldRule_71 rfl (by decide) ?_
    refine R_iald (pc' := 74) (q := scalar1) (i := (nI 6)) dX10_couldRule_73 rfl (fun e2 => ?_)
    refine R_icmp_ge (pc' := 77) (tgt := 114) (a := l2) (b := e2) dX10_couldRule_74 (by decide) rfl ?_ ?_
    · refine R_iconst (pc' := 115) (x := (nI 1)) dX10_couldRule_114 rfl (by decide) ?_
      exact R_bret dX10_couldRule_115
    · refine R_aloadq_n (pc' := 78) (i := 0) (j := 0) (q := (some this)) dX10_couldRule_77 rfl rfl rfl ?_
      refine R_getR (pc' := 81) (q := (some this)) fl_X10_115 rfl dX10_couldRule_78 rfl (fun lay3 => ?_)
      refine R_iconst (pc' := 82) (x := (nI 5)) dX10_couldRule_81 rfl (by decide) ?_
      refine R_aloadq_n (pc' := 83) (i := 0) (j := 0) (q := (some this)) dX10_couldRule_82 rfl rfl rfl ?_
      refine R_getR (pc' := 86) (q := (some this)) fl_X10_31 rfl dX10_couldRule_83 rfl (fun noteTide4 => ?_)
      refine R_iload_n (pc' := 87) (i := 2) (j := 1) (x := l2) dX10_couldRule_86 rfl rfl rfl ?_
      refine R_iald (pc' := 88) (q := noteTide4) (i := l2) dX10_couldRule_87 rfl (fun e5 => ?_)
      refine R_imul (pc' := 89) (a := (nI 5)) (b := e5) dX10_couldRule_88 rfl ?_
      refine R_aloadq_n (pc' := 90) (i := 0) (j := 0) (q := (some this)) dX10_couldRule_89 rfl rfl rfl ?_
      refine R_getR (pc' := 93) (q := (some this)) fl_X10_34 rfl dX10_couldRule_90 rfl (fun noteShip6 => ?_)
      refine R_iload_n (pc' := 94) (i := 2) (j := 1) (x := l2) dX10_couldRule_93 rfl rfl rfl ?_
      refine R_iald (pc' := 95) (q := noteShip6) (i := l2) dX10_couldRule_94 rfl (fun e7 => ?_)
      refine R_iadd (pc' := 96) (a := ((nI 5) * e5)) (b := e7) dX10_couldRule_95 rfl ?_
      refine R_iald (pc' := 97) (q := lay3) (i := (((nI 5) * e5) + e7)) dX10_couldRule_96 rfl (fun e8 => ?_)
      refine R_aloadq_n (pc' := 98) (i := 0) (j := 0) (q := (some this)) dX10_couldRule_97 rfl rfl rfl ?_
      refine R_getR (pc' := 101) (q := (some this)) fl_X10_37 rfl dX10_couldRule_98 rfl (fun noteJoke9 => ?_)
      refine R_iload_n (pc' := 102) (i := 2) (j := 1) (x := l2) dX10_couldRule_101 rfl rfl rfl ?_
      refine R_iald (pc' := 103) (q := noteJoke9) (i := l2) dX10_couldRule_102 rfl (fun e10 => ?_)
      refine R_icmp_eq (pc' := 106) (tgt := 108) (a := e8) (b := e10) dX10_couldRule_103 (by decide) rfl ?_ ?_
      · refine R_iinc (pc' := 111) (L' := [(2, .int (l2 + (nI 1))), (0, va_rf (some this))]) (i := 2) (j := 1) (x := l2) (x2 := (l2 + (nI 1))) dX10_couldRule_108 rfl rfl rfl (by decide) rfl ?_
        refine R_goto (tgt := 66) dX10_couldRule_111 (by decide) ?_
        exact R_sub [1, 0] rfl (ih (l2 + (nI 1)) M)
      · refine R_iconst (pc' := 107) (x := (nI 0)) dX10_couldRule_106 rfl (by decide) ?_
        exact R_bret dX10_couldRule_107
def f_X10_couldRule_L27 (k14 : Int32 → Mem → Option (Int32 × Mem)) (this : Nat) : Nat → Int32 → Int32 → Mem → Option (Int32 × Mem)
  | 0, _, _, _ => none
  | n + 1, l2, l3, M =>
    (if (nI 5) ≤ l3 then
      (k14 (l2 + (nI 1)) M)
    else
      ((gR M 10 48 (some this)).bind fun lay1 =>
      (gR M 10 37 (some this)).bind fun told2 =>
      (aI M 0 told2 l3).bind fun e3 =>
      (wI M 0 lay1 (((nI 5) * l2) + l3) e3).bind fun M =>
      (f_X10_couldRule_L27 k14 this n) l2 (l3 + (nI 1)) M))
set_option maxHeartbeats 2000000 in
set_option maxRecDepth 20000 in
theorem rf_X10_couldRule_L27 (this : Nat) (k14 : Int32 → Mem → Option (Int32 × Mem)) (hk14 : ∀ (l2 : Int32) (M : Mem), RF yX10_couldRule cX10_couldRule 4 (some .boolean) 10 eI (k14 l2 M) 14 [(0, va_rf (some this)), (2, .int l2)] [] M) : ∀ (n : Nat) (l2 : Int32) (l3 : Int32) (M : Mem), RF yX10_couldRule cX10_couldRule 4 (some .boolean) 10 eI (f_X10_couldRule_L27 k14 this n l2 l3 M) 27 [(0, va_rf (some this)), (2, .int l2), (3, .int l3)] [] M := by
  intro n
  induction n with
  | zero => intro _ _ _; exact RF.none
  | succ n ih =>
    intro l2 l3 M
    rw [f_X10_couldRule_L27]
    refine R_iload_n (pc' := 28) (i := 3) (j := 2) (x := l3) dX10_couldRule_27 rfl rfl rfl ?_
    refine R_iconst (pc' := 29) (x := (nI 5)) dX10_couldRule_28 rfl (by decide) ?_
    refine R_icmp_ge (pc' := 32) (tgt := 54) (a := l3) (b := (nI 5)) dX10_couldRule_29 (by decide) rfl ?_ ?_
    · refine R_iinc (pc' := 57) (L' := [(2, .int (l2 + (nI 1))), (0, va_rf (some this)), (3, .int l3)]) (i := 2) (j := 1) (x := l2) (x2 := (l2 + (nI 1))) dX10_couldRule_54 rfl rfl rfl (by decide) rfl ?_
      refine R_goto (tgt := 14) dX10_couldRule_57 (by decide) ?_
      exact R_sub [1, 0] rfl (hk14 (l2 + (nI 1)) M)
    · refine R_aloadq_n (pc' := 33) (i := 0) (j := 0) (q := (some this)) dX10_couldRule_32 rfl rfl rfl ?_
      refine R_getR (pc' := 36) (q := (some this)) fl_X10_115 rfl dX10_couldRule_33 rfl (fun lay1 => ?_)
      refine R_iconst (pc' := 37) (x := (nI 5)) dX10_couldRule_36 rfl (by decide) ?_
      refine R_iload_n (pc' := 38) (i := 2) (j := 1) (x := l2) dX10_couldRule_37 rfl rfl rfl ?_
      refine R_imul (pc' := 39) (a := (nI 5)) (b := l2) dX10_couldRule_38 rfl ?_
      refine R_iload_n (pc' := 40) (i := 3) (j := 2) (x := l3) dX10_couldRule_39 rfl rfl rfl ?_
      refine R_iadd (pc' := 41) (a := ((nI 5) * l2)) (b := l3) dX10_couldRule_40 rfl ?_
      refine R_aloadq_n (pc' := 42) (i := 0) (j := 0) (q := (some this)) dX10_couldRule_41 rfl rfl rfl ?_
      refine R_getR (pc' := 45) (q := (some this)) fl_X10_94 rfl dX10_couldRule_42 rfl (fun told2 => ?_)
      refine R_iload_n (pc' := 46) (i := 3) (j := 2) (x := l3) dX10_couldRule_45 rfl rfl rfl ?_
      refine R_iald (pc' := 47) (q := told2) (i := l3) dX10_couldRule_46 rfl (fun e3 => ?_)
      refine R_iast (pc' := 48) (q := lay1) (i := (((nI 5) * l2) + l3)) (x := e3) dX10_couldRule_47 rfl (fun M => ?_)
      refine R_iinc (pc' := 51) (L' := [(3, .int (l3 + (nI 1))), (0, va_rf (some this)), (2, .int l2)]) (i := 3) (j := 2) (x := l3) (x2 := (l3 + (nI 1))) dX10_couldRule_48 rfl rfl rfl (by decide) rfl ?_
      refine R_goto (tgt := 27) dX10_couldRule_51 (by decide) ?_
      exact R_sub [1, 2, 0] rfl (ih l2 (l3 + (nI 1)) M)
def f_X10_couldRule_L14 (this : Nat) : Nat → Int32 → Mem → Option (Int32 × Mem)
  | 0, _, _ => none
  | n + 1, l2, M =>
    (if (nI 60) < l2 then
      ((oO M 10 (some this)).bind fun o2 => cl (f_X10_laysBack o2 M) fun u1 M =>
      f_X10_couldRule_L66 this FU (nI 0) M)
    else
      ((oO M 10 (some this)).bind fun o4 => cl (f_X10_goes o4 M) fun r3 M =>
      f_X10_couldRule_L27 (f_X10_couldRule_L14 this n) this FU l2 (nI 0) M))
set_option maxHeartbeats 2000000 in
set_option maxRecDepth 20000 in
theorem rf_X10_couldRule_L14 (this : Nat) : ∀ (n : Nat) (l2 : Int32) (M : Mem), RF yX10_couldRule cX10_couldRule 4 (some .boolean) 10 eI (f_X10_couldRule_L14 this n l2 M) 14 [(0, va_rf (some this)), (2, .int l2)] [] M := by
  intro n
  induction n with
  | zero => intro _ _; exact RF.none
  | succ n ih =>
    intro l2 M
    rw [f_X10_couldRule_L14]
    refine R_iload_n (pc' := 15) (i := 2) (j := 1) (x := l2) dX10_couldRule_14 rfl rfl rfl ?_
    refine R_bipush (pc' := 17) (x := (nI 60)) dX10_couldRule_15 rfl (by decide) ?_
    refine R_icmp_gt (pc' := 20) (tgt := 60) (a := l2) (b := (nI 60)) dX10_couldRule_17 (by decide) rfl ?_ ?_
    · refine R_aloadq_n (pc' := 61) (i := 0) (j := 0) (q := (some this)) dX10_couldRule_60 rfl rfl rfl ?_
      refine R_callV_V (pc' := 64) (q := (some this)) (As := []) (fun o2 => rm_X10_laysBack o2 M) mf_X10_laysBack lk_X10_423 im_X10_laysBack se_X10_laysBack rfl rfl rfl dX10_couldRule_61 rfl (by decide) (Nat.le_trans c_0 (by decide)) (fun u1 M => ?_)
      refine R_iconst (pc' := 65) (x := (nI 0)) dX10_couldRule_64 rfl (by decide) ?_
      refine R_istore_n (pc' := 66) (L' := [(2, .int (nI 0)), (0, va_rf (some this))]) (i := 2) (x := (nI 0)) dX10_couldRule_65 rfl rfl (by decide) rfl ?_
      exact R_sub [1, 0] rfl (rf_X10_couldRule_L66 this FU (nI 0) M)
    · refine R_aloadq_n (pc' := 21) (i := 0) (j := 0) (q := (some this)) dX10_couldRule_20 rfl rfl rfl ?_
      refine R_callV_I (pc' := 24) (q := (some this)) (As := []) (fun o4 => rm_X10_goes o4 M) mf_X10_goes lk_X10_390 im_X10_goes se_X10_goes rfl rfl rfl dX10_couldRule_21 rfl (by decide) (Nat.le_trans c_0 (by decide)) (fun r3 M => ?_)
      refine R_pop (pc' := 25) dX10_couldRule_24 rfl rfl ?_
      refine R_iconst (pc' := 26) (x := (nI 0)) dX10_couldRule_25 rfl (by decide) ?_
      refine R_istore_n (pc' := 27) (L' := [(3, .int (nI 0)), (0, va_rf (some this)), (2, .int l2)]) (i := 3) (x := (nI 0)) dX10_couldRule_26 rfl rfl (by decide) rfl ?_
      exact R_sub [1, 2, 0] rfl (rf_X10_couldRule_L27 this (f_X10_couldRule_L14 this n) ih FU l2 (nI 0) M)
def f_X10_couldRule (this : Nat) (l1 : Int32) (M : Mem) : Option (Int32 × Mem) :=
  (gR M 10 1 (some this)).bind fun scalar1 =>
  (wI M 0 scalar1 (nI 8) l1).bind fun M =>
  (oO M 10 (some this)).bind fun o3 => cl (f_X10_begins o3 M) fun u2 M =>
  f_X10_couldRule_L14 this FU (nI 0) M
set_option maxHeartbeats 2000000 in
set_option maxRecDepth 20000 in
theorem rm_X10_couldRule (this : Nat) (l1 : Int32) (M : Mem) : RFm yX10_couldRule cX10_couldRule 4 (some .boolean) 10 eI (f_X10_couldRule this l1 M) [va_rf (some this), .int l1] M := by
  refine RFm_of (L := [(0, va_rf (some this)), (1, .int l1)]) (by decide) rfl (Nat.le_trans (c_R (c_I c_0)) (by decide)) ?_
  rw [f_X10_couldRule]
  refine R_aloadq_n (pc' := 1) (i := 0) (j := 0) (q := (some this)) dX10_couldRule_0 rfl rfl rfl ?_
  refine R_getR (pc' := 4) (q := (some this)) fl_X10_9 rfl dX10_couldRule_1 rfl (fun scalar1 => ?_)
  refine R_bipush (pc' := 6) (x := (nI 8)) dX10_couldRule_4 rfl (by decide) ?_
  refine R_iload_n (pc' := 7) (i := 1) (j := 1) (x := l1) dX10_couldRule_6 rfl rfl rfl ?_
  refine R_iast (pc' := 8) (q := scalar1) (i := (nI 8)) (x := l1) dX10_couldRule_7 rfl (fun M => ?_)
  refine R_aloadq_n (pc' := 9) (i := 0) (j := 0) (q := (some this)) dX10_couldRule_8 rfl rfl rfl ?_
  refine R_callV_V (pc' := 12) (q := (some this)) (As := []) (fun o3 => rm_X10_begins o3 M) mf_X10_begins lk_X10_296 im_X10_begins se_X10_begins rfl rfl rfl dX10_couldRule_9 rfl (by decide) (Nat.le_trans c_0 (by decide)) (fun u2 M => ?_)
  refine R_iconst (pc' := 13) (x := (nI 0)) dX10_couldRule_12 rfl (by decide) ?_
  refine R_istore_n (pc' := 14) (L' := [(2, .int (nI 0)), (0, va_rf (some this)), (1, .int l1)]) (i := 2) (x := (nI 0)) dX10_couldRule_13 rfl rfl (by decide) rfl ?_
  exact R_sub [1, 0] rfl (rf_X10_couldRule_L14 this FU (nI 0) M)
/-! BarPilotModel.ruled(I)I -/
def f_X10_ruled_J17 (this : Nat) (M : Mem) : Option (Int32 × Mem) :=
  some ((-3 : Int32), M)
set_option maxHeartbeats 2000000 in
set_option maxRecDepth 20000 in
theorem rf_X10_ruled_J17 (this : Nat) (M : Mem) : RF yX10_ruled cX10_ruled 5 (some .int) 11 eI (f_X10_ruled_J17 this M) 17 [] [] M := by
  rw [f_X10_ruled_J17]
  refine R_bipush (pc' := 19) (x := (-3 : Int32)) dX10_ruled_17 rfl (by decide) ?_
  exact R_iret dX10_ruled_19
def f_X10_ruled_J79 (this : Nat) (s0 : Int32) (M : Mem) : Option (Int32 × Mem) :=
  some (s0, M)
set_option maxHeartbeats 2000000 in
set_option maxRecDepth 20000 in
theorem rf_X10_ruled_J79 (this : Nat) (s0 : Int32) (M : Mem) : RF yX10_ruled cX10_ruled 5 (some .int) 11 eI (f_X10_ruled_J79 this s0 M) 79 [] [.int s0] M := by
  rw [f_X10_ruled_J79]
  exact R_iret dX10_ruled_79
def f_X10_ruled_J64 (k32 : Int32 → Int32 → Int32 → Int32 → Mem → Option (Int32 × Mem)) (this : Nat) (l1 : Int32) (l2 : Int32) (l3 : Int32) (l4 : Int32) (M : Mem) : Option (Int32 × Mem) :=
  k32 l1 l2 l3 (l4 + (nI 1)) M
set_option maxHeartbeats 2000000 in
set_option maxRecDepth 20000 in
theorem rf_X10_ruled_J64 (this : Nat) (k32 : Int32 → Int32 → Int32 → Int32 → Mem → Option (Int32 × Mem)) (hk32 : ∀ (l1 : Int32) (l2 : Int32) (l3 : Int32) (l4 : Int32) (M : Mem), RF yX10_ruled cX10_ruled 5 (some .int) 11 eI (k32 l1 l2 l3 l4 M) 32 [(0, va_rf (some this)), (1, .int l1), (2, .int l2), (3, .int l3), (4, .int l4)] [] M) (l1 : Int32) (l2 : Int32) (l3 : Int32) (l4 : Int32) (M : Mem) : RF yX10_ruled cX10_ruled 5 (some .int) 11 eI (f_X10_ruled_J64 k32 this l1 l2 l3 l4 M) 64 [(0, va_rf (some this)), (1, .int l1), (2, .int l2), (3, .int l3), (4, .int l4)] [] M := by
  rw [f_X10_ruled_J64]
  refine R_iinc (pc' := 67) (L' := [(4, .int (l4 + (nI 1))), (0, va_rf (some this)), (1, .int l1), (2, .int l2), (3, .int l3)]) (i := 4) (j := 4) (x := l4) (x2 := (l4 + (nI 1))) dX10_ruled_64 rfl rfl rfl (by decide) rfl ?_
  refine R_goto (tgt := 32) dX10_ruled_67 (by decide) ?_
  exact R_sub [1, 2, 3, 4, 0] rfl (hk32 l1 l2 l3 (l4 + (nI 1)) M)
def f_X10_ruled_J60 (k32 : Int32 → Int32 → Int32 → Int32 → Mem → Option (Int32 × Mem)) (this : Nat) (l1 : Int32) (l2 : Int32) (l4 : Int32) (s0 : Int32) (M : Mem) : Option (Int32 × Mem) :=
  f_X10_ruled_J64 k32 this l1 (l2 + (nI 1)) s0 l4 M
set_option maxHeartbeats 2000000 in
set_option maxRecDepth 20000 in
theorem rf_X10_ruled_J60 (this : Nat) (k32 : Int32 → Int32 → Int32 → Int32 → Mem → Option (Int32 × Mem)) (hk32 : ∀ (l1 : Int32) (l2 : Int32) (l3 : Int32) (l4 : Int32) (M : Mem), RF yX10_ruled cX10_ruled 5 (some .int) 11 eI (k32 l1 l2 l3 l4 M) 32 [(0, va_rf (some this)), (1, .int l1), (2, .int l2), (3, .int l3), (4, .int l4)] [] M) (l1 : Int32) (l2 : Int32) (l4 : Int32) (s0 : Int32) (M : Mem) : RF yX10_ruled cX10_ruled 5 (some .int) 11 eI (f_X10_ruled_J60 k32 this l1 l2 l4 s0 M) 60 [(0, va_rf (some this)), (1, .int l1), (2, .int l2), (4, .int l4)] [.int s0] M := by
  rw [f_X10_ruled_J60]
  refine R_istore_n (pc' := 61) (L' := [(3, .int s0), (0, va_rf (some this)), (1, .int l1), (2, .int l2), (4, .int l4)]) (i := 3) (x := s0) dX10_ruled_60 rfl rfl (by decide) rfl ?_
  refine R_iinc (pc' := 64) (L' := [(2, .int (l2 + (nI 1))), (3, .int s0), (0, va_rf (some this)), (1, .int l1), (4, .int l4)]) (i := 2) (j := 3) (x := l2) (x2 := (l2 + (nI 1))) dX10_ruled_61 rfl rfl rfl (by decide) rfl ?_
  exact R_sub [2, 3, 0, 1, 4] rfl (rf_X10_ruled_J64 this k32 hk32 l1 (l2 + (nI 1)) s0 l4 M)
def f_X10_ruled_L32 (this : Nat) : Nat → Int32 → Int32 → Int32 → Int32 → Mem → Option (Int32 × Mem)
  | 0, _, _, _, _, _ => none
  | n + 1, l1, l2, l3, l4, M =>
    (gI M 10 21 (some this)).bind fun rules1 =>
    (if rules1 ≤ l4 then
      ((if l1 = 0 then
        (f_X10_ruled_J79 this l2 M)
      else
        (f_X10_ruled_J79 this l3 M)))
    else
      ((oO M 10 (some this)).bind fun o3 => cl (f_X10_couldRule o3 l4 M) fun r2 M =>
      (if r2 = 0 then
        (f_X10_ruled_J64 (f_X10_ruled_L32 this n) this l1 l2 l3 l4 M)
      else
        ((if l2 = 0 then
          (f_X10_ruled_J60 (f_X10_ruled_L32 this n) this l1 l2 l4 l4 M)
        else
          (f_X10_ruled_J60 (f_X10_ruled_L32 this n) this l1 l2 l4 l3 M))))))
set_option maxHeartbeats 2000000 in
set_option maxRecDepth 20000 in
theorem rf_X10_ruled_L32 (this : Nat) : ∀ (n : Nat) (l1 : Int32) (l2 : Int32) (l3 : Int32) (l4 : Int32) (M : Mem), RF yX10_ruled cX10_ruled 5 (some .int) 11 eI (f_X10_ruled_L32 this n l1 l2 l3 l4 M) 32 [(0, va_rf (some this)), (1, .int l1), (2, .int l2), (3, .int l3), (4, .int l4)] [] M := by
  intro n
  induction n with
  | zero => intro _ _ _ _ _; exact RF.none
  | succ n ih =>
    intro l1 l2 l3 l4 M
    rw [f_X10_ruled_L32]
    refine R_iload (pc' := 34) (i := 4) (j := 4) (x := l4) dX10_ruled_32 rfl rfl ?_
    refine R_aloadq_n (pc' := 35) (i := 0) (j := 0) (q := (some this)) dX10_ruled_34 rfl rfl rfl ?_
    refine R_getI (pc' := 38) (q := (some this)) fl_X10_312 rfl dX10_ruled_35 rfl (fun rules1 => ?_)
    refine R_icmp_ge (pc' := 41) (tgt := 70) (a := l4) (b := rules1) dX10_ruled_38 (by decide) rfl ?_ ?_
    · refine R_iload_n (pc' := 71) (i := 1) (j := 1) (x := l1) dX10_ruled_70 rfl rfl rfl ?_
      refine R_if_ne (pc' := 74) (tgt := 78) (a := l1) dX10_ruled_71 (by decide) rfl ?_ ?_
      · refine R_iload_n (pc' := 79) (i := 3) (j := 3) (x := l3) dX10_ruled_78 rfl rfl rfl ?_
        exact R_sub [] rfl (rf_X10_ruled_J79 this l3 M)
      · refine R_iload_n (pc' := 75) (i := 2) (j := 2) (x := l2) dX10_ruled_74 rfl rfl rfl ?_
        refine R_goto (tgt := 79) dX10_ruled_75 (by decide) ?_
        exact R_sub [] rfl (rf_X10_ruled_J79 this l2 M)
    · refine R_aloadq_n (pc' := 42) (i := 0) (j := 0) (q := (some this)) dX10_ruled_41 rfl rfl rfl ?_
      refine R_iload (pc' := 44) (i := 4) (j := 4) (x := l4) dX10_ruled_42 rfl rfl ?_
      refine R_callV_I (pc' := 47) (q := (some this)) (As := [.int l4]) (fun o3 => rm_X10_couldRule o3 l4 M) mf_X10_couldRule lk_X10_471 im_X10_couldRule se_X10_couldRule rfl rfl rfl dX10_ruled_44 rfl (by decide) (Nat.le_trans c_0 (by decide)) (fun r2 M => ?_)
      refine R_if_eq (pc' := 50) (tgt := 64) (a := r2) dX10_ruled_47 (by decide) rfl ?_ ?_
      · exact R_sub [0, 1, 2, 3, 4] rfl (rf_X10_ruled_J64 this (f_X10_ruled_L32 this n) ih l1 l2 l3 l4 M)
      · refine R_iload_n (pc' := 51) (i := 2) (j := 2) (x := l2) dX10_ruled_50 rfl rfl rfl ?_
        refine R_if_ne (pc' := 54) (tgt := 59) (a := l2) dX10_ruled_51 (by decide) rfl ?_ ?_
        · refine R_iload_n (pc' := 60) (i := 3) (j := 3) (x := l3) dX10_ruled_59 rfl rfl rfl ?_
          exact R_sub [0, 1, 2, 4] rfl (rf_X10_ruled_J60 this (f_X10_ruled_L32 this n) ih l1 l2 l4 l3 M)
        · refine R_iload (pc' := 56) (i := 4) (j := 4) (x := l4) dX10_ruled_54 rfl rfl ?_
          refine R_goto (tgt := 60) dX10_ruled_56 (by decide) ?_
          exact R_sub [0, 1, 2, 4] rfl (rf_X10_ruled_J60 this (f_X10_ruled_L32 this n) ih l1 l2 l4 l4 M)
def f_X10_ruled (this : Nat) (l1 : Int32) (M : Mem) : Option (Int32 × Mem) :=
  (oO M 10 (some this)).bind fun o5 => cl (f_X10_isBar o5 M) fun r1 M =>
  (if r1 = 0 then
    (f_X10_ruled_J17 this M)
  else
    (cl (f_X10_in (Int32.toInt64 l1) (0 : Int64) (1 : Int64) M) fun r2 M =>
    (if r2 = 0 then
      (f_X10_ruled_J17 this M)
    else
      ((oO M 10 (some this)).bind fun o4 => cl (f_X10_keepsAll o4 M) fun u3 M =>
      f_X10_ruled_L32 this FU l1 (nI 0) (-2 : Int32) (-1 : Int32) M))))
set_option maxHeartbeats 2000000 in
set_option maxRecDepth 20000 in
theorem rm_X10_ruled (this : Nat) (l1 : Int32) (M : Mem) : RFm yX10_ruled cX10_ruled 5 (some .int) 11 eI (f_X10_ruled this l1 M) [va_rf (some this), .int l1] M := by
  refine RFm_of (L := [(0, va_rf (some this)), (1, .int l1)]) (by decide) rfl (Nat.le_trans (c_R (c_I c_0)) (by decide)) ?_
  rw [f_X10_ruled]
  refine R_aloadq_n (pc' := 1) (i := 0) (j := 0) (q := (some this)) dX10_ruled_0 rfl rfl rfl ?_
  refine R_callV_I (pc' := 4) (q := (some this)) (As := []) (fun o5 => rm_X10_isBar o5 M) mf_X10_isBar lk_X10_411 im_X10_isBar se_X10_isBar rfl rfl rfl dX10_ruled_1 rfl (by decide) (Nat.le_trans c_0 (by decide)) (fun r1 M => ?_)
  refine R_if_eq (pc' := 7) (tgt := 17) (a := r1) dX10_ruled_4 (by decide) rfl ?_ ?_
  · exact R_sub [] rfl (rf_X10_ruled_J17 this M)
  · refine R_iload_n (pc' := 8) (i := 1) (j := 1) (x := l1) dX10_ruled_7 rfl rfl rfl ?_
    refine R_i2l (pc' := 9) (a := l1) dX10_ruled_8 rfl ?_
    refine R_lconst (pc' := 10) (x := (0 : Int64)) dX10_ruled_9 rfl (by decide) ?_
    refine R_lconst (pc' := 11) (x := (1 : Int64)) dX10_ruled_10 rfl (by decide) ?_
    refine R_callS_I (pc' := 14) (As := [.long (Int32.toInt64 l1), .long (0 : Int64), .long (1 : Int64)]) (rm_X10_in (Int32.toInt64 l1) (0 : Int64) (1 : Int64) M) mf_X10_in lk_X10_131 sm_X10_in rfl rfl dX10_ruled_11 rfl (by decide) (Nat.le_trans c_0 (by decide)) (fun r2 M => ?_)
    refine R_if_ne (pc' := 17) (tgt := 20) (a := r2) dX10_ruled_14 (by decide) rfl ?_ ?_
    · refine R_aloadq_n (pc' := 21) (i := 0) (j := 0) (q := (some this)) dX10_ruled_20 rfl rfl rfl ?_
      refine R_callV_V (pc' := 24) (q := (some this)) (As := []) (fun o4 => rm_X10_keepsAll o4 M) mf_X10_keepsAll lk_X10_430 im_X10_keepsAll se_X10_keepsAll rfl rfl rfl dX10_ruled_21 rfl (by decide) (Nat.le_trans c_0 (by decide)) (fun u3 M => ?_)
      refine R_iconst (pc' := 25) (x := (nI 0)) dX10_ruled_24 rfl (by decide) ?_
      refine R_istore_n (pc' := 26) (L' := [(2, .int (nI 0)), (0, va_rf (some this)), (1, .int l1)]) (i := 2) (x := (nI 0)) dX10_ruled_25 rfl rfl (by decide) rfl ?_
      refine R_bipush (pc' := 28) (x := (-2 : Int32)) dX10_ruled_26 rfl (by decide) ?_
      refine R_istore_n (pc' := 29) (L' := [(3, .int (-2 : Int32)), (2, .int (nI 0)), (0, va_rf (some this)), (1, .int l1)]) (i := 3) (x := (-2 : Int32)) dX10_ruled_28 rfl rfl (by decide) rfl ?_
      refine R_iconst (pc' := 30) (x := (-1 : Int32)) dX10_ruled_29 rfl (by decide) ?_
      refine R_istore (pc' := 32) (L' := [(4, .int (-1 : Int32)), (3, .int (-2 : Int32)), (2, .int (nI 0)), (0, va_rf (some this)), (1, .int l1)]) (i := 4) (x := (-1 : Int32)) dX10_ruled_30 rfl (by decide) rfl ?_
      exact R_sub [3, 4, 2, 1, 0] rfl (rf_X10_ruled_L32 this FU l1 (nI 0) (-2 : Int32) (-1 : Int32) M)
    · exact R_sub [] rfl (rf_X10_ruled_J17 this M)
/-! BarPilotModel.mostAlike(II)I -/
def f_X10_mostAlike_J76 (k5 : Int32 → Int32 → Int32 → Int32 → Mem → Option (Int32 × Mem)) (this : Nat) (l1 : Int32) (l2 : Int32) (l4 : Int32) (s0 : Int32) (M : Mem) : Option (Int32 × Mem) :=
  k5 l1 l2 s0 (l4 + (nI 1)) M
set_option maxHeartbeats 2000000 in
set_option maxRecDepth 20000 in
theorem rf_X10_mostAlike_J76 (this : Nat) (k5 : Int32 → Int32 → Int32 → Int32 → Mem → Option (Int32 × Mem)) (hk5 : ∀ (l1 : Int32) (l2 : Int32) (l3 : Int32) (l4 : Int32) (M : Mem), RF yX10_mostAlike cX10_mostAlike 7 (some .int) 1 eI (k5 l1 l2 l3 l4 M) 5 [(0, va_rf (some this)), (1, .int l1), (2, .int l2), (3, .int l3), (4, .int l4)] [] M) (l1 : Int32) (l2 : Int32) (l4 : Int32) (s0 : Int32) (M : Mem) : RF yX10_mostAlike cX10_mostAlike 7 (some .int) 1 eI (f_X10_mostAlike_J76 k5 this l1 l2 l4 s0 M) 76 [(0, va_rf (some this)), (1, .int l1), (2, .int l2), (4, .int l4)] [.int s0] M := by
  rw [f_X10_mostAlike_J76]
  refine R_istore_n (pc' := 77) (L' := [(3, .int s0), (0, va_rf (some this)), (1, .int l1), (2, .int l2), (4, .int l4)]) (i := 3) (x := s0) dX10_mostAlike_76 rfl rfl (by decide) rfl ?_
  refine R_iinc (pc' := 80) (L' := [(4, .int (l4 + (nI 1))), (3, .int s0), (0, va_rf (some this)), (1, .int l1), (2, .int l2)]) (i := 4) (j := 4) (x := l4) (x2 := (l4 + (nI 1))) dX10_mostAlike_77 rfl rfl rfl (by decide) rfl ?_
  refine R_goto (tgt := 5) dX10_mostAlike_80 (by decide) ?_
  exact R_sub [2, 3, 4, 1, 0] rfl (hk5 l1 l2 s0 (l4 + (nI 1)) M)
def f_X10_mostAlike_J55 (k5 : Int32 → Int32 → Int32 → Int32 → Mem → Option (Int32 × Mem)) (k17 : Int32 → Int32 → Int32 → Int32 → Int32 → Int32 → Mem → Option (Int32 × Mem)) (this : Nat) (l1 : Int32) (l2 : Int32) (l3 : Int32) (l4 : Int32) (l6 : Int32) (s0 : Int32) (s1 : Int32) (M : Mem) : Option (Int32 × Mem) :=
  nm (s1 + s0) fun v1 =>
  k17 l1 l2 l3 l4 v1 (l6 + (nI 1)) M
set_option maxHeartbeats 2000000 in
set_option maxRecDepth 20000 in
theorem rf_X10_mostAlike_J55 (this : Nat) (k5 : Int32 → Int32 → Int32 → Int32 → Mem → Option (Int32 × Mem)) (k17 : Int32 → Int32 → Int32 → Int32 → Int32 → Int32 → Mem → Option (Int32 × Mem)) (hk5 : ∀ (l1 : Int32) (l2 : Int32) (l3 : Int32) (l4 : Int32) (M : Mem), RF yX10_mostAlike cX10_mostAlike 7 (some .int) 1 eI (k5 l1 l2 l3 l4 M) 5 [(0, va_rf (some this)), (1, .int l1), (2, .int l2), (3, .int l3), (4, .int l4)] [] M) (hk17 : ∀ (l1 : Int32) (l2 : Int32) (l3 : Int32) (l4 : Int32) (l5 : Int32) (l6 : Int32) (M : Mem), RF yX10_mostAlike cX10_mostAlike 7 (some .int) 1 eI (k17 l1 l2 l3 l4 l5 l6 M) 17 [(0, va_rf (some this)), (1, .int l1), (2, .int l2), (3, .int l3), (4, .int l4), (5, .int l5), (6, .int l6)] [] M) (l1 : Int32) (l2 : Int32) (l3 : Int32) (l4 : Int32) (l6 : Int32) (s0 : Int32) (s1 : Int32) (M : Mem) : RF yX10_mostAlike cX10_mostAlike 7 (some .int) 1 eI (f_X10_mostAlike_J55 k5 k17 this l1 l2 l3 l4 l6 s0 s1 M) 55 [(0, va_rf (some this)), (1, .int l1), (2, .int l2), (3, .int l3), (4, .int l4), (6, .int l6)] [.int s0, .int s1] M := by
  rw [f_X10_mostAlike_J55]
  refine R_iadd (pc' := 56) (a := s1) (b := s0) dX10_mostAlike_55 rfl ?_
  refine R_nmI (fun v1 => ?_)
  refine R_istore (pc' := 58) (L' := [(5, .int v1), (0, va_rf (some this)), (1, .int l1), (2, .int l2), (3, .int l3), (4, .int l4), (6, .int l6)]) (i := 5) (x := v1) dX10_mostAlike_56 rfl (by decide) rfl ?_
  refine R_iinc (pc' := 61) (L' := [(6, .int (l6 + (nI 1))), (5, .int v1), (0, va_rf (some this)), (1, .int l1), (2, .int l2), (3, .int l3), (4, .int l4)]) (i := 6) (j := 6) (x := l6) (x2 := (l6 + (nI 1))) dX10_mostAlike_58 rfl rfl rfl (by decide) rfl ?_
  refine R_goto (tgt := 17) dX10_mostAlike_61 (by decide) ?_
  exact R_sub [2, 3, 4, 5, 6, 1, 0] rfl (hk17 l1 l2 l3 l4 v1 (l6 + (nI 1)) M)
def f_X10_mostAlike_L17 (k5 : Int32 → Int32 → Int32 → Int32 → Mem → Option (Int32 × Mem)) (this : Nat) : Nat → Int32 → Int32 → Int32 → Int32 → Int32 → Int32 → Mem → Option (Int32 × Mem)
  | 0, _, _, _, _, _, _, _ => none
  | n + 1, l1, l2, l3, l4, l5, l6, M =>
    (if l2 ≤ l6 then
      ((if l5 ≤ l3 then
        (f_X10_mostAlike_J76 k5 this l1 l2 l4 l3 M)
      else
        (f_X10_mostAlike_J76 k5 this l1 l2 l4 l5 M)))
    else
      ((gR M 10 49 (some this)).bind fun shows1 =>
      (aI M 0 shows1 (((nI 5) * l6) + l1)).bind fun e2 =>
      (gR M 10 49 (some this)).bind fun shows3 =>
      (aI M 0 shows3 (((nI 5) * l4) + l1)).bind fun e4 =>
      (if e2 = e4 then
        (f_X10_mostAlike_J55 k5 (f_X10_mostAlike_L17 k5 this n) this l1 l2 l3 l4 l6 (nI 1) l5 M)
      else
        (f_X10_mostAlike_J55 k5 (f_X10_mostAlike_L17 k5 this n) this l1 l2 l3 l4 l6 (nI 0) l5 M))))
set_option maxHeartbeats 2000000 in
set_option maxRecDepth 20000 in
theorem rf_X10_mostAlike_L17 (this : Nat) (k5 : Int32 → Int32 → Int32 → Int32 → Mem → Option (Int32 × Mem)) (hk5 : ∀ (l1 : Int32) (l2 : Int32) (l3 : Int32) (l4 : Int32) (M : Mem), RF yX10_mostAlike cX10_mostAlike 7 (some .int) 1 eI (k5 l1 l2 l3 l4 M) 5 [(0, va_rf (some this)), (1, .int l1), (2, .int l2), (3, .int l3), (4, .int l4)] [] M) : ∀ (n : Nat) (l1 : Int32) (l2 : Int32) (l3 : Int32) (l4 : Int32) (l5 : Int32) (l6 : Int32) (M : Mem), RF yX10_mostAlike cX10_mostAlike 7 (some .int) 1 eI (f_X10_mostAlike_L17 k5 this n l1 l2 l3 l4 l5 l6 M) 17 [(0, va_rf (some this)), (1, .int l1), (2, .int l2), (3, .int l3), (4, .int l4), (5, .int l5), (6, .int l6)] [] M := by
  intro n
  induction n with
  | zero => intro _ _ _ _ _ _ _; exact RF.none
  | succ n ih =>
    intro l1 l2 l3 l4 l5 l6 M
    rw [f_X10_mostAlike_L17]
    refine R_iload (pc' := 19) (i := 6) (j := 6) (x := l6) dX10_mostAlike_17 rfl rfl ?_
    refine R_iload_n (pc' := 20) (i := 2) (j := 2) (x := l2) dX10_mostAlike_19 rfl rfl rfl ?_
    refine R_icmp_ge (pc' := 23) (tgt := 64) (a := l6) (b := l2) dX10_mostAlike_20 (by decide) rfl ?_ ?_
    · refine R_iload (pc' := 66) (i := 5) (j := 5) (x := l5) dX10_mostAlike_64 rfl rfl ?_
      refine R_iload_n (pc' := 67) (i := 3) (j := 3) (x := l3) dX10_mostAlike_66 rfl rfl rfl ?_
      refine R_icmp_le (pc' := 70) (tgt := 75) (a := l5) (b := l3) dX10_mostAlike_67 (by decide) rfl ?_ ?_
      · refine R_iload_n (pc' := 76) (i := 3) (j := 3) (x := l3) dX10_mostAlike_75 rfl rfl rfl ?_
        exact R_sub [0, 1, 2, 4] rfl (rf_X10_mostAlike_J76 this k5 hk5 l1 l2 l4 l3 M)
      · refine R_iload (pc' := 72) (i := 5) (j := 5) (x := l5) dX10_mostAlike_70 rfl rfl ?_
        refine R_goto (tgt := 76) dX10_mostAlike_72 (by decide) ?_
        exact R_sub [0, 1, 2, 4] rfl (rf_X10_mostAlike_J76 this k5 hk5 l1 l2 l4 l5 M)
    · refine R_iload (pc' := 25) (i := 5) (j := 5) (x := l5) dX10_mostAlike_23 rfl rfl ?_
      refine R_aloadq_n (pc' := 26) (i := 0) (j := 0) (q := (some this)) dX10_mostAlike_25 rfl rfl rfl ?_
      refine R_getR (pc' := 29) (q := (some this)) fl_X10_118 rfl dX10_mostAlike_26 rfl (fun shows1 => ?_)
      refine R_iconst (pc' := 30) (x := (nI 5)) dX10_mostAlike_29 rfl (by decide) ?_
      refine R_iload (pc' := 32) (i := 6) (j := 6) (x := l6) dX10_mostAlike_30 rfl rfl ?_
      refine R_imul (pc' := 33) (a := (nI 5)) (b := l6) dX10_mostAlike_32 rfl ?_
      refine R_iload_n (pc' := 34) (i := 1) (j := 1) (x := l1) dX10_mostAlike_33 rfl rfl rfl ?_
      refine R_iadd (pc' := 35) (a := ((nI 5) * l6)) (b := l1) dX10_mostAlike_34 rfl ?_
      refine R_iald (pc' := 36) (q := shows1) (i := (((nI 5) * l6) + l1)) dX10_mostAlike_35 rfl (fun e2 => ?_)
      refine R_aloadq_n (pc' := 37) (i := 0) (j := 0) (q := (some this)) dX10_mostAlike_36 rfl rfl rfl ?_
      refine R_getR (pc' := 40) (q := (some this)) fl_X10_118 rfl dX10_mostAlike_37 rfl (fun shows3 => ?_)
      refine R_iconst (pc' := 41) (x := (nI 5)) dX10_mostAlike_40 rfl (by decide) ?_
      refine R_iload (pc' := 43) (i := 4) (j := 4) (x := l4) dX10_mostAlike_41 rfl rfl ?_
      refine R_imul (pc' := 44) (a := (nI 5)) (b := l4) dX10_mostAlike_43 rfl ?_
      refine R_iload_n (pc' := 45) (i := 1) (j := 1) (x := l1) dX10_mostAlike_44 rfl rfl rfl ?_
      refine R_iadd (pc' := 46) (a := ((nI 5) * l4)) (b := l1) dX10_mostAlike_45 rfl ?_
      refine R_iald (pc' := 47) (q := shows3) (i := (((nI 5) * l4) + l1)) dX10_mostAlike_46 rfl (fun e4 => ?_)
      refine R_icmp_ne (pc' := 50) (tgt := 54) (a := e2) (b := e4) dX10_mostAlike_47 (by decide) rfl ?_ ?_
      · refine R_iconst (pc' := 55) (x := (nI 0)) dX10_mostAlike_54 rfl (by decide) ?_
        exact R_sub [0, 1, 2, 3, 4, 6] rfl (rf_X10_mostAlike_J55 this k5 (f_X10_mostAlike_L17 k5 this n) hk5 ih l1 l2 l3 l4 l6 (nI 0) l5 M)
      · refine R_iconst (pc' := 51) (x := (nI 1)) dX10_mostAlike_50 rfl (by decide) ?_
        refine R_goto (tgt := 55) dX10_mostAlike_51 (by decide) ?_
        exact R_sub [0, 1, 2, 3, 4, 6] rfl (rf_X10_mostAlike_J55 this k5 (f_X10_mostAlike_L17 k5 this n) hk5 ih l1 l2 l3 l4 l6 (nI 1) l5 M)
def f_X10_mostAlike_L5 (this : Nat) : Nat → Int32 → Int32 → Int32 → Int32 → Mem → Option (Int32 × Mem)
  | 0, _, _, _, _, _ => none
  | n + 1, l1, l2, l3, l4, M =>
    (if l2 ≤ l4 then
      (some (l3, M))
    else
      (f_X10_mostAlike_L17 (f_X10_mostAlike_L5 this n) this FU l1 l2 l3 l4 (nI 0) (nI 0) M))
set_option maxHeartbeats 2000000 in
set_option maxRecDepth 20000 in
theorem rf_X10_mostAlike_L5 (this : Nat) : ∀ (n : Nat) (l1 : Int32) (l2 : Int32) (l3 : Int32) (l4 : Int32) (M : Mem), RF yX10_mostAlike cX10_mostAlike 7 (some .int) 1 eI (f_X10_mostAlike_L5 this n l1 l2 l3 l4 M) 5 [(0, va_rf (some this)), (1, .int l1), (2, .int l2), (3, .int l3), (4, .int l4)] [] M := by
  intro n
  induction n with
  | zero => intro _ _ _ _ _; exact RF.none
  | succ n ih =>
    intro l1 l2 l3 l4 M
    rw [f_X10_mostAlike_L5]
    refine R_iload (pc' := 7) (i := 4) (j := 4) (x := l4) dX10_mostAlike_5 rfl rfl ?_
    refine R_iload_n (pc' := 8) (i := 2) (j := 2) (x := l2) dX10_mostAlike_7 rfl rfl rfl ?_
    refine R_icmp_ge (pc' := 11) (tgt := 83) (a := l4) (b := l2) dX10_mostAlike_8 (by decide) rfl ?_ ?_
    · refine R_iload_n (pc' := 84) (i := 3) (j := 3) (x := l3) dX10_mostAlike_83 rfl rfl rfl ?_
      exact R_iret dX10_mostAlike_84
    · refine R_iconst (pc' := 12) (x := (nI 0)) dX10_mostAlike_11 rfl (by decide) ?_
      refine R_istore (pc' := 14) (L' := [(5, .int (nI 0)), (0, va_rf (some this)), (1, .int l1), (2, .int l2), (3, .int l3), (4, .int l4)]) (i := 5) (x := (nI 0)) dX10_mostAlike_12 rfl (by decide) rfl ?_
      refine R_iconst (pc' := 15) (x := (nI 0)) dX10_mostAlike_14 rfl (by decide) ?_
      refine R_istore (pc' := 17) (L' := [(6, .int (nI 0)), (5, .int (nI 0)), (0, va_rf (some this)), (1, .int l1), (2, .int l2), (3, .int l3), (4, .int l4)]) (i := 6) (x := (nI 0)) dX10_mostAlike_15 rfl (by decide) rfl ?_
      exact R_sub [2, 3, 4, 5, 6, 1, 0] rfl (rf_X10_mostAlike_L17 this (f_X10_mostAlike_L5 this n) ih FU l1 l2 l3 l4 (nI 0) (nI 0) M)
def f_X10_mostAlike (this : Nat) (l1 : Int32) (l2 : Int32) (M : Mem) : Option (Int32 × Mem) :=
  f_X10_mostAlike_L5 this FU l1 l2 (nI 0) (nI 0) M
set_option maxHeartbeats 2000000 in
set_option maxRecDepth 20000 in
theorem rm_X10_mostAlike (this : Nat) (l1 : Int32) (l2 : Int32) (M : Mem) : RFm yX10_mostAlike cX10_mostAlike 7 (some .int) 1 eI (f_X10_mostAlike this l1 l2 M) [va_rf (some this), .int l1, .int l2] M := by
  refine RFm_of (L := [(0, va_rf (some this)), (1, .int l1), (2, .int l2)]) (by decide) rfl (Nat.le_trans (c_R (c_I (c_I c_0))) (by decide)) ?_
  rw [f_X10_mostAlike]
  refine R_iconst (pc' := 1) (x := (nI 0)) dX10_mostAlike_0 rfl (by decide) ?_
  refine R_istore_n (pc' := 2) (L' := [(3, .int (nI 0)), (0, va_rf (some this)), (1, .int l1), (2, .int l2)]) (i := 3) (x := (nI 0)) dX10_mostAlike_1 rfl rfl (by decide) rfl ?_
  refine R_iconst (pc' := 3) (x := (nI 0)) dX10_mostAlike_2 rfl (by decide) ?_
  refine R_istore (pc' := 5) (L' := [(4, .int (nI 0)), (3, .int (nI 0)), (0, va_rf (some this)), (1, .int l1), (2, .int l2)]) (i := 4) (x := (nI 0)) dX10_mostAlike_3 rfl (by decide) rfl ?_
  exact R_sub [2, 3, 4, 1, 0] rfl (rf_X10_mostAlike_L5 this FU l1 l2 (nI 0) (nI 0) M)
/-! BarPilotModel.look(II)I -/
def f_X10_look_J29 (this : Nat) (M : Mem) : Option (Int32 × Mem) :=
  some ((-1 : Int32), M)
set_option maxHeartbeats 2000000 in
set_option maxRecDepth 20000 in
theorem rf_X10_look_J29 (this : Nat) (M : Mem) : RF yX10_look cX10_look 6 (some .int) 11 eI (f_X10_look_J29 this M) 29 [] [] M := by
  rw [f_X10_look_J29]
  refine R_iconst (pc' := 30) (x := (-1 : Int32)) dX10_look_29 rfl (by decide) ?_
  exact R_iret dX10_look_30
def f_X10_look_J117 (this : Nat) (M : Mem) : Option (Int32 × Mem) :=
  some ((-2 : Int32), M)
set_option maxHeartbeats 2000000 in
set_option maxRecDepth 20000 in
theorem rf_X10_look_J117 (this : Nat) (M : Mem) : RF yX10_look cX10_look 6 (some .int) 11 eI (f_X10_look_J117 this M) 117 [] [] M := by
  rw [f_X10_look_J117]
  refine R_bipush (pc' := 119) (x := (-2 : Int32)) dX10_look_117 rfl (by decide) ?_
  exact R_iret dX10_look_119
def f_X10_look_J185 (this : Nat) (s0 : Int32) (M : Mem) : Option (Int32 × Mem) :=
  some (s0, M)
set_option maxHeartbeats 2000000 in
set_option maxRecDepth 20000 in
theorem rf_X10_look_J185 (this : Nat) (s0 : Int32) (M : Mem) : RF yX10_look cX10_look 6 (some .int) 11 eI (f_X10_look_J185 this s0 M) 185 [] [.int s0] M := by
  rw [f_X10_look_J185]
  exact R_iret dX10_look_185
def f_X10_look_J161 (k126 : Int32 → Int32 → Int32 → Int32 → Mem → Option (Int32 × Mem)) (this : Nat) (l2 : Int32) (l3 : Int32) (l5 : Int32) (s0 : Int32) (M : Mem) : Option (Int32 × Mem) :=
  k126 l2 l3 s0 (l5 + (nI 1)) M
set_option maxHeartbeats 2000000 in
set_option maxRecDepth 20000 in
theorem rf_X10_look_J161 (this : Nat) (k126 : Int32 → Int32 → Int32 → Int32 → Mem → Option (Int32 × Mem)) (hk126 : ∀ (l2 : Int32) (l3 : Int32) (l4 : Int32) (l5 : Int32) (M : Mem), RF yX10_look cX10_look 6 (some .int) 11 eI (k126 l2 l3 l4 l5 M) 126 [(0, va_rf (some this)), (2, .int l2), (3, .int l3), (4, .int l4), (5, .int l5)] [] M) (l2 : Int32) (l3 : Int32) (l5 : Int32) (s0 : Int32) (M : Mem) : RF yX10_look cX10_look 6 (some .int) 11 eI (f_X10_look_J161 k126 this l2 l3 l5 s0 M) 161 [(0, va_rf (some this)), (2, .int l2), (3, .int l3), (5, .int l5)] [.int s0] M := by
  rw [f_X10_look_J161]
  refine R_istore (pc' := 163) (L' := [(4, .int s0), (0, va_rf (some this)), (2, .int l2), (3, .int l3), (5, .int l5)]) (i := 4) (x := s0) dX10_look_161 rfl (by decide) rfl ?_
  refine R_iinc (pc' := 166) (L' := [(5, .int (l5 + (nI 1))), (4, .int s0), (0, va_rf (some this)), (2, .int l2), (3, .int l3)]) (i := 5) (j := 4) (x := l5) (x2 := (l5 + (nI 1))) dX10_look_163 rfl rfl rfl (by decide) rfl ?_
  refine R_goto (tgt := 126) dX10_look_166 (by decide) ?_
  exact R_sub [2, 3, 4, 1, 0] rfl (hk126 l2 l3 s0 (l5 + (nI 1)) M)
def f_X10_look_L126 (this : Nat) : Nat → Int32 → Int32 → Int32 → Int32 → Mem → Option (Int32 × Mem)
  | 0, _, _, _, _, _ => none
  | n + 1, l2, l3, l4, l5, M =>
    (gR M 10 1 (some this)).bind fun scalar1 =>
    (aI M 0 scalar1 (nI 3)).bind fun e2 =>
    (if e2 ≤ l5 then
      ((if l2 = 0 then
        (f_X10_look_J185 this l4 M)
      else
        ((oO M 10 (some this)).bind fun o4 => cl (f_X10_mostAlike o4 l4 l3 M) fun r3 M =>
        f_X10_look_J185 this r3 M)))
    else
      ((oO M 10 (some this)).bind fun o8 => cl (f_X10_mostAlike o8 l5 l3 M) fun r5 M =>
      (oO M 10 (some this)).bind fun o7 => cl (f_X10_mostAlike o7 l4 l3 M) fun r6 M =>
      (if r6 ≤ r5 then
        (f_X10_look_J161 (f_X10_look_L126 this n) this l2 l3 l5 l4 M)
      else
        (f_X10_look_J161 (f_X10_look_L126 this n) this l2 l3 l5 l5 M))))
set_option maxHeartbeats 2000000 in
set_option maxRecDepth 20000 in
theorem rf_X10_look_L126 (this : Nat) : ∀ (n : Nat) (l2 : Int32) (l3 : Int32) (l4 : Int32) (l5 : Int32) (M : Mem), RF yX10_look cX10_look 6 (some .int) 11 eI (f_X10_look_L126 this n l2 l3 l4 l5 M) 126 [(0, va_rf (some this)), (2, .int l2), (3, .int l3), (4, .int l4), (5, .int l5)] [] M := by
  intro n
  induction n with
  | zero => intro _ _ _ _ _; exact RF.none
  | succ n ih =>
    intro l2 l3 l4 l5 M
    rw [f_X10_look_L126]
    refine R_iload (pc' := 128) (i := 5) (j := 4) (x := l5) dX10_look_126 rfl rfl ?_
    refine R_aloadq_n (pc' := 129) (i := 0) (j := 0) (q := (some this)) dX10_look_128 rfl rfl rfl ?_
    refine R_getR (pc' := 132) (q := (some this)) fl_X10_9 rfl dX10_look_129 rfl (fun scalar1 => ?_)
    refine R_iconst (pc' := 133) (x := (nI 3)) dX10_look_132 rfl (by decide) ?_
    refine R_iald (pc' := 134) (q := scalar1) (i := (nI 3)) dX10_look_133 rfl (fun e2 => ?_)
    refine R_icmp_ge (pc' := 137) (tgt := 169) (a := l5) (b := e2) dX10_look_134 (by decide) rfl ?_ ?_
    · refine R_iload_n (pc' := 170) (i := 2) (j := 1) (x := l2) dX10_look_169 rfl rfl rfl ?_
      refine R_if_ne (pc' := 173) (tgt := 178) (a := l2) dX10_look_170 (by decide) rfl ?_ ?_
      · refine R_aloadq_n (pc' := 179) (i := 0) (j := 0) (q := (some this)) dX10_look_178 rfl rfl rfl ?_
        refine R_iload (pc' := 181) (i := 4) (j := 3) (x := l4) dX10_look_179 rfl rfl ?_
        refine R_iload_n (pc' := 182) (i := 3) (j := 2) (x := l3) dX10_look_181 rfl rfl rfl ?_
        refine R_callV_I (pc' := 185) (q := (some this)) (As := [.int l4, .int l3]) (fun o4 => rm_X10_mostAlike o4 l4 l3 M) mf_X10_mostAlike lk_X10_474 im_X10_mostAlike se_X10_mostAlike rfl rfl rfl dX10_look_182 rfl (by decide) (Nat.le_trans c_0 (by decide)) (fun r3 M => ?_)
        exact R_sub [] rfl (rf_X10_look_J185 this r3 M)
      · refine R_iload (pc' := 175) (i := 4) (j := 3) (x := l4) dX10_look_173 rfl rfl ?_
        refine R_goto (tgt := 185) dX10_look_175 (by decide) ?_
        exact R_sub [] rfl (rf_X10_look_J185 this l4 M)
    · refine R_aloadq_n (pc' := 138) (i := 0) (j := 0) (q := (some this)) dX10_look_137 rfl rfl rfl ?_
      refine R_iload (pc' := 140) (i := 5) (j := 4) (x := l5) dX10_look_138 rfl rfl ?_
      refine R_iload_n (pc' := 141) (i := 3) (j := 2) (x := l3) dX10_look_140 rfl rfl rfl ?_
      refine R_callV_I (pc' := 144) (q := (some this)) (As := [.int l5, .int l3]) (fun o8 => rm_X10_mostAlike o8 l5 l3 M) mf_X10_mostAlike lk_X10_474 im_X10_mostAlike se_X10_mostAlike rfl rfl rfl dX10_look_141 rfl (by decide) (Nat.le_trans c_0 (by decide)) (fun r5 M => ?_)
      refine R_aloadq_n (pc' := 145) (i := 0) (j := 0) (q := (some this)) dX10_look_144 rfl rfl rfl ?_
      refine R_iload (pc' := 147) (i := 4) (j := 3) (x := l4) dX10_look_145 rfl rfl ?_
      refine R_iload_n (pc' := 148) (i := 3) (j := 2) (x := l3) dX10_look_147 rfl rfl rfl ?_
      refine R_callV_I (pc' := 151) (q := (some this)) (As := [.int l4, .int l3]) (fun o7 => rm_X10_mostAlike o7 l4 l3 M) mf_X10_mostAlike lk_X10_474 im_X10_mostAlike se_X10_mostAlike rfl rfl rfl dX10_look_148 rfl (by decide) (Nat.le_trans (c_I c_0) (by decide)) (fun r6 M => ?_)
      refine R_icmp_ge (pc' := 154) (tgt := 159) (a := r5) (b := r6) dX10_look_151 (by decide) rfl ?_ ?_
      · refine R_iload (pc' := 161) (i := 4) (j := 3) (x := l4) dX10_look_159 rfl rfl ?_
        exact R_sub [0, 1, 2, 4] rfl (rf_X10_look_J161 this (f_X10_look_L126 this n) ih l2 l3 l5 l4 M)
      · refine R_iload (pc' := 156) (i := 5) (j := 4) (x := l5) dX10_look_154 rfl rfl ?_
        refine R_goto (tgt := 161) dX10_look_156 (by decide) ?_
        exact R_sub [0, 1, 2, 4] rfl (rf_X10_look_J161 this (f_X10_look_L126 this n) ih l2 l3 l5 l5 M)
def f_X10_look_J98 (k40 : Int32 → Int32 → Int32 → Int32 → Mem → Option (Int32 × Mem)) (this : Nat) (l1 : Int32) (l2 : Int32) (l3 : Int32) (l4 : Int32) (M : Mem) : Option (Int32 × Mem) :=
  k40 l1 l2 l3 (l4 + (nI 1)) M
set_option maxHeartbeats 2000000 in
set_option maxRecDepth 20000 in
theorem rf_X10_look_J98 (this : Nat) (k40 : Int32 → Int32 → Int32 → Int32 → Mem → Option (Int32 × Mem)) (hk40 : ∀ (l1 : Int32) (l2 : Int32) (l3 : Int32) (l4 : Int32) (M : Mem), RF yX10_look cX10_look 6 (some .int) 11 eI (k40 l1 l2 l3 l4 M) 40 [(0, va_rf (some this)), (1, .int l1), (2, .int l2), (3, .int l3), (4, .int l4)] [] M) (l1 : Int32) (l2 : Int32) (l3 : Int32) (l4 : Int32) (M : Mem) : RF yX10_look cX10_look 6 (some .int) 11 eI (f_X10_look_J98 k40 this l1 l2 l3 l4 M) 98 [(0, va_rf (some this)), (1, .int l1), (2, .int l2), (3, .int l3), (4, .int l4)] [] M := by
  rw [f_X10_look_J98]
  refine R_iinc (pc' := 101) (L' := [(4, .int (l4 + (nI 1))), (0, va_rf (some this)), (1, .int l1), (2, .int l2), (3, .int l3)]) (i := 4) (j := 4) (x := l4) (x2 := (l4 + (nI 1))) dX10_look_98 rfl rfl rfl (by decide) rfl ?_
  refine R_goto (tgt := 40) dX10_look_101 (by decide) ?_
  exact R_sub [1, 2, 3, 4, 0] rfl (hk40 l1 l2 l3 (l4 + (nI 1)) M)
def f_X10_look_L61 (k40 : Int32 → Int32 → Int32 → Int32 → Mem → Option (Int32 × Mem)) (this : Nat) : Nat → Int32 → Int32 → Int32 → Int32 → Int32 → Mem → Option (Int32 × Mem)
  | 0, _, _, _, _, _, _ => none
  | n + 1, l1, l2, l3, l4, l5, M =>
    (if (nI 5) ≤ l5 then
      (f_X10_look_J98 k40 this l1 l2 (l3 + (nI 1)) l4 M)
    else
      ((gR M 10 49 (some this)).bind fun shows1 =>
      (gR M 10 48 (some this)).bind fun lay2 =>
      (aI M 0 lay2 (((nI 5) * l1) + l5)).bind fun e3 =>
      (wI M 0 shows1 (((nI 5) * l3) + l5) e3).bind fun M =>
      (f_X10_look_L61 k40 this n) l1 l2 l3 l4 (l5 + (nI 1)) M))
set_option maxHeartbeats 2000000 in
set_option maxRecDepth 20000 in
theorem rf_X10_look_L61 (this : Nat) (k40 : Int32 → Int32 → Int32 → Int32 → Mem → Option (Int32 × Mem)) (hk40 : ∀ (l1 : Int32) (l2 : Int32) (l3 : Int32) (l4 : Int32) (M : Mem), RF yX10_look cX10_look 6 (some .int) 11 eI (k40 l1 l2 l3 l4 M) 40 [(0, va_rf (some this)), (1, .int l1), (2, .int l2), (3, .int l3), (4, .int l4)] [] M) : ∀ (n : Nat) (l1 : Int32) (l2 : Int32) (l3 : Int32) (l4 : Int32) (l5 : Int32) (M : Mem), RF yX10_look cX10_look 6 (some .int) 11 eI (f_X10_look_L61 k40 this n l1 l2 l3 l4 l5 M) 61 [(0, va_rf (some this)), (1, .int l1), (2, .int l2), (3, .int l3), (4, .int l4), (5, .int l5)] [] M := by
  intro n
  induction n with
  | zero => intro _ _ _ _ _ _; exact RF.none
  | succ n ih =>
    intro l1 l2 l3 l4 l5 M
    rw [f_X10_look_L61]
    refine R_iload (pc' := 63) (i := 5) (j := 5) (x := l5) dX10_look_61 rfl rfl ?_
    refine R_iconst (pc' := 64) (x := (nI 5)) dX10_look_63 rfl (by decide) ?_
    refine R_icmp_ge (pc' := 67) (tgt := 95) (a := l5) (b := (nI 5)) dX10_look_64 (by decide) rfl ?_ ?_
    · refine R_iinc (pc' := 98) (L' := [(3, .int (l3 + (nI 1))), (0, va_rf (some this)), (1, .int l1), (2, .int l2), (4, .int l4), (5, .int l5)]) (i := 3) (j := 3) (x := l3) (x2 := (l3 + (nI 1))) dX10_look_95 rfl rfl rfl (by decide) rfl ?_
      exact R_sub [1, 2, 3, 0, 4] rfl (rf_X10_look_J98 this k40 hk40 l1 l2 (l3 + (nI 1)) l4 M)
    · refine R_aloadq_n (pc' := 68) (i := 0) (j := 0) (q := (some this)) dX10_look_67 rfl rfl rfl ?_
      refine R_getR (pc' := 71) (q := (some this)) fl_X10_118 rfl dX10_look_68 rfl (fun shows1 => ?_)
      refine R_iconst (pc' := 72) (x := (nI 5)) dX10_look_71 rfl (by decide) ?_
      refine R_iload_n (pc' := 73) (i := 3) (j := 3) (x := l3) dX10_look_72 rfl rfl rfl ?_
      refine R_imul (pc' := 74) (a := (nI 5)) (b := l3) dX10_look_73 rfl ?_
      refine R_iload (pc' := 76) (i := 5) (j := 5) (x := l5) dX10_look_74 rfl rfl ?_
      refine R_iadd (pc' := 77) (a := ((nI 5) * l3)) (b := l5) dX10_look_76 rfl ?_
      refine R_aloadq_n (pc' := 78) (i := 0) (j := 0) (q := (some this)) dX10_look_77 rfl rfl rfl ?_
      refine R_getR (pc' := 81) (q := (some this)) fl_X10_115 rfl dX10_look_78 rfl (fun lay2 => ?_)
      refine R_iconst (pc' := 82) (x := (nI 5)) dX10_look_81 rfl (by decide) ?_
      refine R_iload_n (pc' := 83) (i := 1) (j := 1) (x := l1) dX10_look_82 rfl rfl rfl ?_
      refine R_imul (pc' := 84) (a := (nI 5)) (b := l1) dX10_look_83 rfl ?_
      refine R_iload (pc' := 86) (i := 5) (j := 5) (x := l5) dX10_look_84 rfl rfl ?_
      refine R_iadd (pc' := 87) (a := ((nI 5) * l1)) (b := l5) dX10_look_86 rfl ?_
      refine R_iald (pc' := 88) (q := lay2) (i := (((nI 5) * l1) + l5)) dX10_look_87 rfl (fun e3 => ?_)
      refine R_iast (pc' := 89) (q := shows1) (i := (((nI 5) * l3) + l5)) (x := e3) dX10_look_88 rfl (fun M => ?_)
      refine R_iinc (pc' := 92) (L' := [(5, .int (l5 + (nI 1))), (0, va_rf (some this)), (1, .int l1), (2, .int l2), (3, .int l3), (4, .int l4)]) (i := 5) (j := 5) (x := l5) (x2 := (l5 + (nI 1))) dX10_look_89 rfl rfl rfl (by decide) rfl ?_
      refine R_goto (tgt := 61) dX10_look_92 (by decide) ?_
      exact R_sub [1, 2, 3, 4, 5, 0] rfl (ih l1 l2 l3 l4 (l5 + (nI 1)) M)
def f_X10_look_L40 (this : Nat) : Nat → Int32 → Int32 → Int32 → Int32 → Mem → Option (Int32 × Mem)
  | 0, _, _, _, _, _ => none
  | n + 1, l1, l2, l3, l4, M =>
    (gI M 10 21 (some this)).bind fun rules1 =>
    (if rules1 ≤ l4 then
      ((if l3 = 0 then
        (f_X10_look_J117 this M)
      else
        ((gR M 10 1 (some this)).bind fun scalar2 =>
        (aI M 0 scalar2 (nI 3)).bind fun e3 =>
        (if e3 = 0 then
          (f_X10_look_J117 this M)
        else
          (f_X10_look_L126 this FU l2 l3 (nI 0) (nI 1) M)))))
    else
      ((oO M 10 (some this)).bind fun o5 => cl (f_X10_couldRule o5 l4 M) fun r4 M =>
      (if r4 = 0 then
        (f_X10_look_J98 (f_X10_look_L40 this n) this l1 l2 l3 l4 M)
      else
        (f_X10_look_L61 (f_X10_look_L40 this n) this FU l1 l2 l3 l4 (nI 0) M))))
set_option maxHeartbeats 2000000 in
set_option maxRecDepth 20000 in
theorem rf_X10_look_L40 (this : Nat) : ∀ (n : Nat) (l1 : Int32) (l2 : Int32) (l3 : Int32) (l4 : Int32) (M : Mem), RF yX10_look cX10_look 6 (some .int) 11 eI (f_X10_look_L40 this n l1 l2 l3 l4 M) 40 [(0, va_rf (some this)), (1, .int l1), (2, .int l2), (3, .int l3), (4, .int l4)] [] M := by
  intro n
  induction n with
  | zero => intro _ _ _ _ _; exact RF.none
  | succ n ih =>
    intro l1 l2 l3 l4 M
    rw [f_X10_look_L40]
    refine R_iload (pc' := 42) (i := 4) (j := 4) (x := l4) dX10_look_40 rfl rfl ?_
    refine R_aloadq_n (pc' := 43) (i := 0) (j := 0) (q := (some this)) dX10_look_42 rfl rfl rfl ?_
    refine R_getI (pc' := 46) (q := (some this)) fl_X10_312 rfl dX10_look_43 rfl (fun rules1 => ?_)
    refine R_icmp_ge (pc' := 49) (tgt := 104) (a := l4) (b := rules1) dX10_look_46 (by decide) rfl ?_ ?_
    · refine R_iload_n (pc' := 105) (i := 3) (j := 3) (x := l3) dX10_look_104 rfl rfl rfl ?_
      refine R_if_eq (pc' := 108) (tgt := 117) (a := l3) dX10_look_105 (by decide) rfl ?_ ?_
      · exact R_sub [] rfl (rf_X10_look_J117 this M)
      · refine R_aloadq_n (pc' := 109) (i := 0) (j := 0) (q := (some this)) dX10_look_108 rfl rfl rfl ?_
        refine R_getR (pc' := 112) (q := (some this)) fl_X10_9 rfl dX10_look_109 rfl (fun scalar2 => ?_)
        refine R_iconst (pc' := 113) (x := (nI 3)) dX10_look_112 rfl (by decide) ?_
        refine R_iald (pc' := 114) (q := scalar2) (i := (nI 3)) dX10_look_113 rfl (fun e3 => ?_)
        refine R_if_ne (pc' := 117) (tgt := 120) (a := e3) dX10_look_114 (by decide) rfl ?_ ?_
        · refine R_iconst (pc' := 121) (x := (nI 0)) dX10_look_120 rfl (by decide) ?_
          refine R_istore (pc' := 123) (L' := [(4, .int (nI 0)), (0, va_rf (some this)), (1, .int l1), (2, .int l2), (3, .int l3)]) (i := 4) (x := (nI 0)) dX10_look_121 rfl (by decide) rfl ?_
          refine R_iconst (pc' := 124) (x := (nI 1)) dX10_look_123 rfl (by decide) ?_
          refine R_istore (pc' := 126) (L' := [(5, .int (nI 1)), (4, .int (nI 0)), (0, va_rf (some this)), (1, .int l1), (2, .int l2), (3, .int l3)]) (i := 5) (x := (nI 1)) dX10_look_124 rfl (by decide) rfl ?_
          exact R_sub [2, 4, 5, 1, 0] rfl (rf_X10_look_L126 this FU l2 l3 (nI 0) (nI 1) M)
        · exact R_sub [] rfl (rf_X10_look_J117 this M)
    · refine R_aloadq_n (pc' := 50) (i := 0) (j := 0) (q := (some this)) dX10_look_49 rfl rfl rfl ?_
      refine R_iload (pc' := 52) (i := 4) (j := 4) (x := l4) dX10_look_50 rfl rfl ?_
      refine R_callV_I (pc' := 55) (q := (some this)) (As := [.int l4]) (fun o5 => rm_X10_couldRule o5 l4 M) mf_X10_couldRule lk_X10_471 im_X10_couldRule se_X10_couldRule rfl rfl rfl dX10_look_52 rfl (by decide) (Nat.le_trans c_0 (by decide)) (fun r4 M => ?_)
      refine R_if_eq (pc' := 58) (tgt := 98) (a := r4) dX10_look_55 (by decide) rfl ?_ ?_
      · exact R_sub [0, 1, 2, 3, 4] rfl (rf_X10_look_J98 this (f_X10_look_L40 this n) ih l1 l2 l3 l4 M)
      · refine R_iconst (pc' := 59) (x := (nI 0)) dX10_look_58 rfl (by decide) ?_
        refine R_istore (pc' := 61) (L' := [(5, .int (nI 0)), (0, va_rf (some this)), (1, .int l1), (2, .int l2), (3, .int l3), (4, .int l4)]) (i := 5) (x := (nI 0)) dX10_look_59 rfl (by decide) rfl ?_
        exact R_sub [1, 2, 3, 4, 5, 0] rfl (rf_X10_look_L61 this (f_X10_look_L40 this n) ih FU l1 l2 l3 l4 (nI 0) M)
def f_X10_look (this : Nat) (l1 : Int32) (l2 : Int32) (M : Mem) : Option (Int32 × Mem) :=
  (oO M 10 (some this)).bind fun o6 => cl (f_X10_isBar o6 M) fun r1 M =>
  (if r1 = 0 then
    (f_X10_look_J29 this M)
  else
    (cl (f_X10_in (Int32.toInt64 l1) (0 : Int64) (60 : Int64) M) fun r2 M =>
    (if r2 = 0 then
      (f_X10_look_J29 this M)
    else
      (cl (f_X10_in (Int32.toInt64 l2) (0 : Int64) (1 : Int64) M) fun r3 M =>
      (if r3 = 0 then
        (f_X10_look_J29 this M)
      else
        ((oO M 10 (some this)).bind fun o5 => cl (f_X10_keepsAll o5 M) fun u4 M =>
        f_X10_look_L40 this FU l1 l2 (nI 0) (-1 : Int32) M))))))
set_option maxHeartbeats 2000000 in
set_option maxRecDepth 20000 in
theorem rm_X10_look (this : Nat) (l1 : Int32) (l2 : Int32) (M : Mem) : RFm yX10_look cX10_look 6 (some .int) 11 eI (f_X10_look this l1 l2 M) [va_rf (some this), .int l1, .int l2] M := by
  refine RFm_of (L := [(0, va_rf (some this)), (1, .int l1), (2, .int l2)]) (by decide) rfl (Nat.le_trans (c_R (c_I (c_I c_0))) (by decide)) ?_
  rw [f_X10_look]
  refine R_aloadq_n (pc' := 1) (i := 0) (j := 0) (q := (some this)) dX10_look_0 rfl rfl rfl ?_
  refine R_callV_I (pc' := 4) (q := (some this)) (As := []) (fun o6 => rm_X10_isBar o6 M) mf_X10_isBar lk_X10_411 im_X10_isBar se_X10_isBar rfl rfl rfl dX10_look_1 rfl (by decide) (Nat.le_trans c_0 (by decide)) (fun r1 M => ?_)
  refine R_if_eq (pc' := 7) (tgt := 29) (a := r1) dX10_look_4 (by decide) rfl ?_ ?_
  · exact R_sub [] rfl (rf_X10_look_J29 this M)
  · refine R_iload_n (pc' := 8) (i := 1) (j := 1) (x := l1) dX10_look_7 rfl rfl rfl ?_
    refine R_i2l (pc' := 9) (a := l1) dX10_look_8 rfl ?_
    refine R_lconst (pc' := 10) (x := (0 : Int64)) dX10_look_9 rfl (by decide) ?_
    refine R_ldc2 (pc' := 13) (x := (60 : Int64)) dX10_look_10 rfl c2_X10_444 ?_
    refine R_callS_I (pc' := 16) (As := [.long (Int32.toInt64 l1), .long (0 : Int64), .long (60 : Int64)]) (rm_X10_in (Int32.toInt64 l1) (0 : Int64) (60 : Int64) M) mf_X10_in lk_X10_131 sm_X10_in rfl rfl dX10_look_13 rfl (by decide) (Nat.le_trans c_0 (by decide)) (fun r2 M => ?_)
    refine R_if_eq (pc' := 19) (tgt := 29) (a := r2) dX10_look_16 (by decide) rfl ?_ ?_
    · exact R_sub [] rfl (rf_X10_look_J29 this M)
    · refine R_iload_n (pc' := 20) (i := 2) (j := 2) (x := l2) dX10_look_19 rfl rfl rfl ?_
      refine R_i2l (pc' := 21) (a := l2) dX10_look_20 rfl ?_
      refine R_lconst (pc' := 22) (x := (0 : Int64)) dX10_look_21 rfl (by decide) ?_
      refine R_lconst (pc' := 23) (x := (1 : Int64)) dX10_look_22 rfl (by decide) ?_
      refine R_callS_I (pc' := 26) (As := [.long (Int32.toInt64 l2), .long (0 : Int64), .long (1 : Int64)]) (rm_X10_in (Int32.toInt64 l2) (0 : Int64) (1 : Int64) M) mf_X10_in lk_X10_131 sm_X10_in rfl rfl dX10_look_23 rfl (by decide) (Nat.le_trans c_0 (by decide)) (fun r3 M => ?_)
      refine R_if_ne (pc' := 29) (tgt := 31) (a := r3) dX10_look_26 (by decide) rfl ?_ ?_
      · refine R_aloadq_n (pc' := 32) (i := 0) (j := 0) (q := (some this)) dX10_look_31 rfl rfl rfl ?_
        refine R_callV_V (pc' := 35) (q := (some this)) (As := []) (fun o5 => rm_X10_keepsAll o5 M) mf_X10_keepsAll lk_X10_430 im_X10_keepsAll se_X10_keepsAll rfl rfl rfl dX10_look_32 rfl (by decide) (Nat.le_trans c_0 (by decide)) (fun u4 M => ?_)
        refine R_iconst (pc' := 36) (x := (nI 0)) dX10_look_35 rfl (by decide) ?_
        refine R_istore_n (pc' := 37) (L' := [(3, .int (nI 0)), (0, va_rf (some this)), (1, .int l1), (2, .int l2)]) (i := 3) (x := (nI 0)) dX10_look_36 rfl rfl (by decide) rfl ?_
        refine R_iconst (pc' := 38) (x := (-1 : Int32)) dX10_look_37 rfl (by decide) ?_
        refine R_istore (pc' := 40) (L' := [(4, .int (-1 : Int32)), (3, .int (nI 0)), (0, va_rf (some this)), (1, .int l1), (2, .int l2)]) (i := 4) (x := (-1 : Int32)) dX10_look_38 rfl (by decide) rfl ?_
        exact R_sub [2, 3, 4, 1, 0] rfl (rf_X10_look_L40 this FU l1 l2 (nI 0) (-1 : Int32) M)
      · exact R_sub [] rfl (rf_X10_look_J29 this M)
/-! BarPilotModel.seed(I)I -/
def f_X10_seed (this : Nat) (l1 : Int32) (M : Mem) : Option (Int32 × Mem) :=
  (if 0 ≤ l1 then
    ((gR M 10 1 (some this)).bind fun scalar1 =>
    (aI M 0 scalar1 (nI 7)).bind fun e2 =>
    (gR M 10 1 (some this)).bind fun scalar3 =>
    (wI M 0 scalar3 (nI 7) l1).bind fun M =>
    some (e2, M))
  else
    (some ((-1 : Int32), M)))
set_option maxHeartbeats 2000000 in
set_option maxRecDepth 20000 in
theorem rm_X10_seed (this : Nat) (l1 : Int32) (M : Mem) : RFm yX10_seed cX10_seed 3 (some .int) 1 eI (f_X10_seed this l1 M) [va_rf (some this), .int l1] M := by
  refine RFm_of (L := [(0, va_rf (some this)), (1, .int l1)]) (by decide) rfl (Nat.le_trans (c_R (c_I c_0)) (by decide)) ?_
  rw [f_X10_seed]
  refine R_iload_n (pc' := 1) (i := 1) (j := 1) (x := l1) dX10_seed_0 rfl rfl rfl ?_
  refine R_if_ge (pc' := 4) (tgt := 6) (a := l1) dX10_seed_1 (by decide) rfl ?_ ?_
  · refine R_aloadq_n (pc' := 7) (i := 0) (j := 0) (q := (some this)) dX10_seed_6 rfl rfl rfl ?_
    refine R_getR (pc' := 10) (q := (some this)) fl_X10_9 rfl dX10_seed_7 rfl (fun scalar1 => ?_)
    refine R_bipush (pc' := 12) (x := (nI 7)) dX10_seed_10 rfl (by decide) ?_
    refine R_iald (pc' := 13) (q := scalar1) (i := (nI 7)) dX10_seed_12 rfl (fun e2 => ?_)
    refine R_istore_n (pc' := 14) (L' := [(2, .int e2), (0, va_rf (some this)), (1, .int l1)]) (i := 2) (x := e2) dX10_seed_13 rfl rfl (by decide) rfl ?_
    refine R_aloadq_n (pc' := 15) (i := 0) (j := 1) (q := (some this)) dX10_seed_14 rfl rfl rfl ?_
    refine R_getR (pc' := 18) (q := (some this)) fl_X10_9 rfl dX10_seed_15 rfl (fun scalar3 => ?_)
    refine R_bipush (pc' := 20) (x := (nI 7)) dX10_seed_18 rfl (by decide) ?_
    refine R_iload_n (pc' := 21) (i := 1) (j := 2) (x := l1) dX10_seed_20 rfl rfl rfl ?_
    refine R_iast (pc' := 22) (q := scalar3) (i := (nI 7)) (x := l1) dX10_seed_21 rfl (fun M => ?_)
    refine R_iload_n (pc' := 23) (i := 2) (j := 0) (x := e2) dX10_seed_22 rfl rfl rfl ?_
    exact R_iret dX10_seed_23
  · refine R_iconst (pc' := 5) (x := (-1 : Int32)) dX10_seed_4 rfl (by decide) ?_
    exact R_iret dX10_seed_5
/-! BarPilotModel.draws(I)I -/
def f_X10_draws (this : Nat) (l1 : Int32) (M : Mem) : Option (Int32 × Mem) :=
  (gR M 10 1 (some this)).bind fun scalar1 =>
  (gR M 10 1 (some this)).bind fun scalar2 =>
  (aI M 0 scalar2 (nI 7)).bind fun e3 =>
  if (2147483648 : Int64) = 0 then none else
  (wI M 0 scalar1 (nI 7) (Int64.toInt32 ((((Int32.toInt64 e3) * (1103515245 : Int64)) + (12345 : Int64)) - (((Int32.toInt64 e3) * (1103515245 : Int64)) + (12345 : Int64)) / (2147483648 : Int64) * (2147483648 : Int64)))).bind fun M =>
  (gR M 10 1 (some this)).bind fun scalar4 =>
  (aI M 0 scalar4 (nI 7)).bind fun e5 =>
  if (nI 65536) = 0 then none else
  if l1 = 0 then none else
  some (((e5 / (nI 65536)) - (e5 / (nI 65536)) / l1 * l1), M)
set_option maxHeartbeats 2000000 in
set_option maxRecDepth 20000 in
theorem rm_X10_draws (this : Nat) (l1 : Int32) (M : Mem) : RFm yX10_draws cX10_draws 2 (some .int) 1 eI (f_X10_draws this l1 M) [va_rf (some this), .int l1] M := by
  refine RFm_of (L := [(0, va_rf (some this)), (1, .int l1)]) (by decide) rfl (Nat.le_trans (c_R (c_I c_0)) (by decide)) ?_
  rw [f_X10_draws]
  refine R_aloadq_n (pc' := 1) (i := 0) (j := 0) (q := (some this)) dX10_draws_0 rfl rfl rfl ?_
  refine R_getR (pc' := 4) (q := (some this)) fl_X10_9 rfl dX10_draws_1 rfl (fun scalar1 => ?_)
  refine R_bipush (pc' := 6) (x := (nI 7)) dX10_draws_4 rfl (by decide) ?_
  refine R_aloadq_n (pc' := 7) (i := 0) (j := 0) (q := (some this)) dX10_draws_6 rfl rfl rfl ?_
  refine R_getR (pc' := 10) (q := (some this)) fl_X10_9 rfl dX10_draws_7 rfl (fun scalar2 => ?_)
  refine R_bipush (pc' := 12) (x := (nI 7)) dX10_draws_10 rfl (by decide) ?_
  refine R_iald (pc' := 13) (q := scalar2) (i := (nI 7)) dX10_draws_12 rfl (fun e3 => ?_)
  refine R_i2l (pc' := 14) (a := e3) dX10_draws_13 rfl ?_
  refine R_ldc2 (pc' := 17) (x := (1103515245 : Int64)) dX10_draws_14 rfl c2_X10_477 ?_
  refine R_lmul (pc' := 18) (a := (Int32.toInt64 e3)) (b := (1103515245 : Int64)) dX10_draws_17 rfl ?_
  refine R_ldc2 (pc' := 21) (x := (12345 : Int64)) dX10_draws_18 rfl c2_X10_479 ?_
  refine R_ladd (pc' := 22) (a := ((Int32.toInt64 e3) * (1103515245 : Int64))) (b := (12345 : Int64)) dX10_draws_21 rfl ?_
  refine R_ldc2 (pc' := 25) (x := (2147483648 : Int64)) dX10_draws_22 rfl c2_X10_481 ?_
  refine R_lrem (pc' := 26) (a := (((Int32.toInt64 e3) * (1103515245 : Int64)) + (12345 : Int64))) (b := (2147483648 : Int64)) dX10_draws_25 rfl ?_
  refine R_l2i (pc' := 27) (a := ((((Int32.toInt64 e3) * (1103515245 : Int64)) + (12345 : Int64)) - (((Int32.toInt64 e3) * (1103515245 : Int64)) + (12345 : Int64)) / (2147483648 : Int64) * (2147483648 : Int64))) dX10_draws_26 rfl ?_
  refine R_iast (pc' := 28) (q := scalar1) (i := (nI 7)) (x := (Int64.toInt32 ((((Int32.toInt64 e3) * (1103515245 : Int64)) + (12345 : Int64)) - (((Int32.toInt64 e3) * (1103515245 : Int64)) + (12345 : Int64)) / (2147483648 : Int64) * (2147483648 : Int64)))) dX10_draws_27 rfl (fun M => ?_)
  refine R_aloadq_n (pc' := 29) (i := 0) (j := 0) (q := (some this)) dX10_draws_28 rfl rfl rfl ?_
  refine R_getR (pc' := 32) (q := (some this)) fl_X10_9 rfl dX10_draws_29 rfl (fun scalar4 => ?_)
  refine R_bipush (pc' := 34) (x := (nI 7)) dX10_draws_32 rfl (by decide) ?_
  refine R_iald (pc' := 35) (q := scalar4) (i := (nI 7)) dX10_draws_34 rfl (fun e5 => ?_)
  refine R_ldcw (pc' := 38) (x := (nI 65536)) dX10_draws_35 rfl co_X10_483 ?_
  refine R_idiv (pc' := 39) (a := e5) (b := (nI 65536)) dX10_draws_38 rfl ?_
  refine R_iload_n (pc' := 40) (i := 1) (j := 1) (x := l1) dX10_draws_39 rfl rfl rfl ?_
  refine R_irem (pc' := 41) (a := (e5 / (nI 65536))) (b := l1) dX10_draws_40 rfl ?_
  exact R_iret dX10_draws_41
/-! BarPilotModel.parrots(IIII)I -/
def f_X10_parrots_J54 (this : Nat) (M : Mem) : Option (Int32 × Mem) :=
  some ((-1 : Int32), M)
set_option maxHeartbeats 2000000 in
set_option maxRecDepth 20000 in
theorem rf_X10_parrots_J54 (this : Nat) (M : Mem) : RF yX10_parrots cX10_parrots 11 (some .int) 10 eI (f_X10_parrots_J54 this M) 54 [] [] M := by
  rw [f_X10_parrots_J54]
  refine R_iconst (pc' := 55) (x := (-1 : Int32)) dX10_parrots_54 rfl (by decide) ?_
  exact R_iret dX10_parrots_55
def f_X10_parrots_J185 (k87 : Int32 → Int32 → Int32 → Int32 → Int32 → Int32 → Int32 → Int32 → Int32 → Mem → Option (Int32 × Mem)) (this : Nat) (l1 : Int32) (l2 : Int32) (l3 : Int32) (l4 : Int32) (l5 : Int32) (l7 : Int32) (l9 : Int32) (s0 : Int32) (s1 : Int32) (M : Mem) : Option (Int32 × Mem) :=
  nm (s1 + s0) fun v1 =>
  (gR M 10 1 (some this)).bind fun scalar2 =>
  (aI M 0 scalar2 (nI 7)).bind fun e3 =>
  (oO M 10 (some this)).bind fun o5 => cl (f_X10_laysBack o5 M) fun u4 M =>
  k87 l1 l2 l3 l4 l5 e3 l7 v1 (l9 + (nI 1)) M
set_option maxHeartbeats 2000000 in
set_option maxRecDepth 20000 in
theorem rf_X10_parrots_J185 (this : Nat) (k87 : Int32 → Int32 → Int32 → Int32 → Int32 → Int32 → Int32 → Int32 → Int32 → Mem → Option (Int32 × Mem)) (hk87 : ∀ (l1 : Int32) (l2 : Int32) (l3 : Int32) (l4 : Int32) (l5 : Int32) (l6 : Int32) (l7 : Int32) (l8 : Int32) (l9 : Int32) (M : Mem), RF yX10_parrots cX10_parrots 11 (some .int) 10 eI (k87 l1 l2 l3 l4 l5 l6 l7 l8 l9 M) 87 [(0, va_rf (some this)), (1, .int l1), (2, .int l2), (3, .int l3), (4, .int l4), (5, .int l5), (6, .int l6), (7, .int l7), (8, .int l8), (9, .int l9)] [] M) (l1 : Int32) (l2 : Int32) (l3 : Int32) (l4 : Int32) (l5 : Int32) (l7 : Int32) (l9 : Int32) (s0 : Int32) (s1 : Int32) (M : Mem) : RF yX10_parrots cX10_parrots 11 (some .int) 10 eI (f_X10_parrots_J185 k87 this l1 l2 l3 l4 l5 l7 l9 s0 s1 M) 185 [(0, va_rf (some this)), (1, .int l1), (2, .int l2), (3, .int l3), (4, .int l4), (5, .int l5), (7, .int l7), (9, .int l9)] [.int s0, .int s1] M := by
  rw [f_X10_parrots_J185]
  refine R_iadd (pc' := 186) (a := s1) (b := s0) dX10_parrots_185 rfl ?_
  refine R_nmI (fun v1 => ?_)
  refine R_istore (pc' := 188) (L' := [(8, .int v1), (0, va_rf (some this)), (1, .int l1), (2, .int l2), (3, .int l3), (4, .int l4), (5, .int l5), (7, .int l7), (9, .int l9)]) (i := 8) (x := v1) dX10_parrots_186 rfl (by decide) rfl ?_
  refine R_aloadq_n (pc' := 189) (i := 0) (j := 1) (q := (some this)) dX10_parrots_188 rfl rfl rfl ?_
  refine R_getR (pc' := 192) (q := (some this)) fl_X10_9 rfl dX10_parrots_189 rfl (fun scalar2 => ?_)
  refine R_bipush (pc' := 194) (x := (nI 7)) dX10_parrots_192 rfl (by decide) ?_
  refine R_iald (pc' := 195) (q := scalar2) (i := (nI 7)) dX10_parrots_194 rfl (fun e3 => ?_)
  refine R_istore (pc' := 197) (L' := [(6, .int e3), (8, .int v1), (0, va_rf (some this)), (1, .int l1), (2, .int l2), (3, .int l3), (4, .int l4), (5, .int l5), (7, .int l7), (9, .int l9)]) (i := 6) (x := e3) dX10_parrots_195 rfl (by decide) rfl ?_
  refine R_aloadq_n (pc' := 198) (i := 0) (j := 2) (q := (some this)) dX10_parrots_197 rfl rfl rfl ?_
  refine R_callV_V (pc' := 201) (q := (some this)) (As := []) (fun o5 => rm_X10_laysBack o5 M) mf_X10_laysBack lk_X10_423 im_X10_laysBack se_X10_laysBack rfl rfl rfl dX10_parrots_198 rfl (by decide) (Nat.le_trans c_0 (by decide)) (fun u4 M => ?_)
  refine R_iinc (pc' := 204) (L' := [(9, .int (l9 + (nI 1))), (6, .int e3), (8, .int v1), (0, va_rf (some this)), (1, .int l1), (2, .int l2), (3, .int l3), (4, .int l4), (5, .int l5), (7, .int l7)]) (i := 9) (j := 9) (x := l9) (x2 := (l9 + (nI 1))) dX10_parrots_201 rfl rfl rfl (by decide) rfl ?_
  refine R_goto (tgt := 87) dX10_parrots_204 (by decide) ?_
  exact R_sub [3, 4, 5, 6, 7, 8, 1, 9, 2, 0] rfl (hk87 l1 l2 l3 l4 l5 e3 l7 v1 (l9 + (nI 1)) M)
def f_X10_parrots_J151 (k87 : Int32 → Int32 → Int32 → Int32 → Int32 → Int32 → Int32 → Int32 → Int32 → Mem → Option (Int32 × Mem)) (k105 : Int32 → Int32 → Int32 → Int32 → Int32 → Int32 → Int32 → Int32 → Int32 → Mem → Option (Int32 × Mem)) (this : Nat) (l1 : Int32) (l2 : Int32) (l3 : Int32) (l4 : Int32) (l5 : Int32) (l7 : Int32) (l8 : Int32) (l9 : Int32) (l10 : Int32) (M : Mem) : Option (Int32 × Mem) :=
  (oO M 10 (some this)).bind fun o2 => cl (f_X10_goes o2 M) fun r1 M =>
  k105 l1 l2 l3 l4 l5 l7 l8 l9 (l10 + (nI 1)) M
set_option maxHeartbeats 2000000 in
set_option maxRecDepth 20000 in
theorem rf_X10_parrots_J151 (this : Nat) (k87 : Int32 → Int32 → Int32 → Int32 → Int32 → Int32 → Int32 → Int32 → Int32 → Mem → Option (Int32 × Mem)) (k105 : Int32 → Int32 → Int32 → Int32 → Int32 → Int32 → Int32 → Int32 → Int32 → Mem → Option (Int32 × Mem)) (hk87 : ∀ (l1 : Int32) (l2 : Int32) (l3 : Int32) (l4 : Int32) (l5 : Int32) (l6 : Int32) (l7 : Int32) (l8 : Int32) (l9 : Int32) (M : Mem), RF yX10_parrots cX10_parrots 11 (some .int) 10 eI (k87 l1 l2 l3 l4 l5 l6 l7 l8 l9 M) 87 [(0, va_rf (some this)), (1, .int l1), (2, .int l2), (3, .int l3), (4, .int l4), (5, .int l5), (6, .int l6), (7, .int l7), (8, .int l8), (9, .int l9)] [] M) (hk105 : ∀ (l1 : Int32) (l2 : Int32) (l3 : Int32) (l4 : Int32) (l5 : Int32) (l7 : Int32) (l8 : Int32) (l9 : Int32) (l10 : Int32) (M : Mem), RF yX10_parrots cX10_parrots 11 (some .int) 10 eI (k105 l1 l2 l3 l4 l5 l7 l8 l9 l10 M) 105 [(0, va_rf (some this)), (1, .int l1), (2, .int l2), (3, .int l3), (4, .int l4), (5, .int l5), (7, .int l7), (8, .int l8), (9, .int l9), (10, .int l10)] [] M) (l1 : Int32) (l2 : Int32) (l3 : Int32) (l4 : Int32) (l5 : Int32) (l7 : Int32) (l8 : Int32) (l9 : Int32) (l10 : Int32) (M : Mem) : RF yX10_parrots cX10_parrots 11 (some .int) 10 eI (f_X10_parrots_J151 k87 k105 this l1 l2 l3 l4 l5 l7 l8 l9 l10 M) 151 [(0, va_rf (some this)), (1, .int l1), (2, .int l2), (3, .int l3), (4, .int l4), (5, .int l5), (7, .int l7), (8, .int l8), (9, .int l9), (10, .int l10)] [] M := by
  rw [f_X10_parrots_J151]
  refine R_aloadq_n (pc' := 152) (i := 0) (j := 0) (q := (some this)) dX10_parrots_151 rfl rfl rfl ?_
  refine R_callV_I (pc' := 155) (q := (some this)) (As := []) (fun o2 => rm_X10_goes o2 M) mf_X10_goes lk_X10_390 im_X10_goes se_X10_goes rfl rfl rfl dX10_parrots_152 rfl (by decide) (Nat.le_trans c_0 (by decide)) (fun r1 M => ?_)
  refine R_pop (pc' := 156) dX10_parrots_155 rfl rfl ?_
  refine R_iinc (pc' := 159) (L' := [(10, .int (l10 + (nI 1))), (0, va_rf (some this)), (1, .int l1), (2, .int l2), (3, .int l3), (4, .int l4), (5, .int l5), (7, .int l7), (8, .int l8), (9, .int l9)]) (i := 10) (j := 9) (x := l10) (x2 := (l10 + (nI 1))) dX10_parrots_156 rfl rfl rfl (by decide) rfl ?_
  refine R_goto (tgt := 105) dX10_parrots_159 (by decide) ?_
  exact R_sub [1, 2, 3, 4, 5, 6, 7, 8, 9, 0] rfl (hk105 l1 l2 l3 l4 l5 l7 l8 l9 (l10 + (nI 1)) M)
def f_X10_parrots_L105 (k87 : Int32 → Int32 → Int32 → Int32 → Int32 → Int32 → Int32 → Int32 → Int32 → Mem → Option (Int32 × Mem)) (this : Nat) : Nat → Int32 → Int32 → Int32 → Int32 → Int32 → Int32 → Int32 → Int32 → Int32 → Mem → Option (Int32 × Mem)
  | 0, _, _, _, _, _, _, _, _, _, _ => none
  | n + 1, l1, l2, l3, l4, l5, l7, l8, l9, l10, M =>
    (if l2 ≤ l10 then
      ((if l4 = 0 then
        ((gR M 10 1 (some this)).bind fun scalar3 =>
        (aI M 0 scalar3 (nI 5)).bind fun e4 =>
        f_X10_parrots_J185 k87 this l1 l2 l3 l4 l5 l7 l9 (e4 - l7) l8 M)
      else
        ((oO M 10 (some this)).bind fun o2 => cl (f_X10_howManyPassed o2 M) fun r1 M =>
        f_X10_parrots_J185 k87 this l1 l2 l3 l4 l5 l7 l9 r1 l8 M)))
    else
      ((oO M 10 (some this)).bind fun o15 => cl (f_X10_draws o15 (nI 100) M) fun r5 M =>
      (if l3 ≤ r5 then
        (f_X10_parrots_J151 k87 (f_X10_parrots_L105 k87 this n) this l1 l2 l3 l4 l5 l7 l8 l9 l10 M)
      else
        ((gR M 10 1 (some this)).bind fun scalar6 =>
        (aI M 0 scalar6 (nI 2)).bind fun e7 =>
        (if e7 ≤ 0 then
          (f_X10_parrots_J151 k87 (f_X10_parrots_L105 k87 this n) this l1 l2 l3 l4 l5 l7 l8 l9 l10 M)
        else
          ((gR M 10 5 (some this)).bind fun heard8 =>
          (gR M 10 1 (some this)).bind fun scalar9 =>
          (aI M 0 scalar9 (nI 2)).bind fun e10 =>
          (oO M 10 (some this)).bind fun o14 => cl (f_X10_draws o14 e10 M) fun r11 M =>
          (gR M 10 1 (some this)).bind fun scalar12 =>
          (aI M 0 scalar12 (nI 4)).bind fun e13 =>
          (wI M 0 heard8 r11 e13).bind fun M =>
          f_X10_parrots_J151 k87 (f_X10_parrots_L105 k87 this n) this l1 l2 l3 l4 l5 l7 l8 l9 l10 M))))))
set_option maxHeartbeats 2000000 in
set_option maxRecDepth 20000 in
theorem rf_X10_parrots_L105 (this : Nat) (k87 : Int32 → Int32 → Int32 → Int32 → Int32 → Int32 → Int32 → Int32 → Int32 → Mem → Option (Int32 × Mem)) (hk87 : ∀ (l1 : Int32) (l2 : Int32) (l3 : Int32) (l4 : Int32) (l5 : Int32) (l6 : Int32) (l7 : Int32) (l8 : Int32) (l9 : Int32) (M : Mem), RF yX10_parrots cX10_parrots 11 (some .int) 10 eI (k87 l1 l2 l3 l4 l5 l6 l7 l8 l9 M) 87 [(0, va_rf (some this)), (1, .int l1), (2, .int l2), (3, .int l3), (4, .int l4), (5, .int l5), (6, .int l6), (7, .int l7), (8, .int l8), (9, .int l9)] [] M) : ∀ (n : Nat) (l1 : Int32) (l2 : Int32) (l3 : Int32) (l4 : Int32) (l5 : Int32) (l7 : Int32) (l8 : Int32) (l9 : Int32) (l10 : Int32) (M : Mem), RF yX10_parrots cX10_parrots 11 (some .int) 10 eI (f_X10_parrots_L105 k87 this n l1 l2 l3 l4 l5 l7 l8 l9 l10 M) 105 [(0, va_rf (some this)), (1, .int l1), (2, .int l2), (3, .int l3), (4, .int l4), (5, .int l5), (7, .int l7), (8, .int l8), (9, .int l9), (10, .int l10)] [] M := by
  intro n
  induction n with
  | zero => intro _ _ _ _ _ _ _ _ _ _; exact RF.none
  | succ n ih =>
    intro l1 l2 l3 l4 l5 l7 l8 l9 l10 M
    rw [f_X10_parrots_L105]
    refine R_iload (pc' := 107) (i := 10) (j := 9) (x := l10) dX10_parrots_105 rfl rfl ?_
    refine R_iload_n (pc' := 108) (i := 2) (j := 2) (x := l2) dX10_parrots_107 rfl rfl rfl ?_
    refine R_icmp_ge (pc' := 111) (tgt := 162) (a := l10) (b := l2) dX10_parrots_108 (by decide) rfl ?_ ?_
    · refine R_iload (pc' := 164) (i := 8) (j := 7) (x := l8) dX10_parrots_162 rfl rfl ?_
      refine R_iload (pc' := 166) (i := 4) (j := 4) (x := l4) dX10_parrots_164 rfl rfl ?_
      refine R_if_ne (pc' := 169) (tgt := 181) (a := l4) dX10_parrots_166 (by decide) rfl ?_ ?_
      · refine R_aloadq_n (pc' := 182) (i := 0) (j := 0) (q := (some this)) dX10_parrots_181 rfl rfl rfl ?_
        refine R_callV_I (pc' := 185) (q := (some this)) (As := []) (fun o2 => rm_X10_howManyPassed o2 M) mf_X10_howManyPassed lk_X10_367 im_X10_howManyPassed se_X10_howManyPassed rfl rfl rfl dX10_parrots_182 rfl (by decide) (Nat.le_trans (c_I c_0) (by decide)) (fun r1 M => ?_)
        exact R_sub [0, 1, 2, 3, 4, 5, 6, 8] rfl (rf_X10_parrots_J185 this k87 hk87 l1 l2 l3 l4 l5 l7 l9 r1 l8 M)
      · refine R_aloadq_n (pc' := 170) (i := 0) (j := 0) (q := (some this)) dX10_parrots_169 rfl rfl rfl ?_
        refine R_getR (pc' := 173) (q := (some this)) fl_X10_9 rfl dX10_parrots_170 rfl (fun scalar3 => ?_)
        refine R_iconst (pc' := 174) (x := (nI 5)) dX10_parrots_173 rfl (by decide) ?_
        refine R_iald (pc' := 175) (q := scalar3) (i := (nI 5)) dX10_parrots_174 rfl (fun e4 => ?_)
        refine R_iload (pc' := 177) (i := 7) (j := 6) (x := l7) dX10_parrots_175 rfl rfl ?_
        refine R_isub (pc' := 178) (a := e4) (b := l7) dX10_parrots_177 rfl ?_
        refine R_goto (tgt := 185) dX10_parrots_178 (by decide) ?_
        exact R_sub [0, 1, 2, 3, 4, 5, 6, 8] rfl (rf_X10_parrots_J185 this k87 hk87 l1 l2 l3 l4 l5 l7 l9 (e4 - l7) l8 M)
    · refine R_aloadq_n (pc' := 112) (i := 0) (j := 0) (q := (some this)) dX10_parrots_111 rfl rfl rfl ?_
      refine R_bipush (pc' := 114) (x := (nI 100)) dX10_parrots_112 rfl (by decide) ?_
      refine R_callV_I (pc' := 117) (q := (some this)) (As := [.int (nI 100)]) (fun o15 => rm_X10_draws o15 (nI 100) M) mf_X10_draws lk_X10_486 im_X10_draws se_X10_draws rfl rfl rfl dX10_parrots_114 rfl (by decide) (Nat.le_trans c_0 (by decide)) (fun r5 M => ?_)
      refine R_iload_n (pc' := 118) (i := 3) (j := 3) (x := l3) dX10_parrots_117 rfl rfl rfl ?_
      refine R_icmp_ge (pc' := 121) (tgt := 151) (a := r5) (b := l3) dX10_parrots_118 (by decide) rfl ?_ ?_
      · exact R_sub [0, 1, 2, 3, 4, 5, 6, 7, 8, 9] rfl (rf_X10_parrots_J151 this k87 (f_X10_parrots_L105 k87 this n) hk87 ih l1 l2 l3 l4 l5 l7 l8 l9 l10 M)
      · refine R_aloadq_n (pc' := 122) (i := 0) (j := 0) (q := (some this)) dX10_parrots_121 rfl rfl rfl ?_
        refine R_getR (pc' := 125) (q := (some this)) fl_X10_9 rfl dX10_parrots_122 rfl (fun scalar6 => ?_)
        refine R_iconst (pc' := 126) (x := (nI 2)) dX10_parrots_125 rfl (by decide) ?_
        refine R_iald (pc' := 127) (q := scalar6) (i := (nI 2)) dX10_parrots_126 rfl (fun e7 => ?_)
        refine R_if_le (pc' := 130) (tgt := 151) (a := e7) dX10_parrots_127 (by decide) rfl ?_ ?_
        · exact R_sub [0, 1, 2, 3, 4, 5, 6, 7, 8, 9] rfl (rf_X10_parrots_J151 this k87 (f_X10_parrots_L105 k87 this n) hk87 ih l1 l2 l3 l4 l5 l7 l8 l9 l10 M)
        · refine R_aloadq_n (pc' := 131) (i := 0) (j := 0) (q := (some this)) dX10_parrots_130 rfl rfl rfl ?_
          refine R_getR (pc' := 134) (q := (some this)) fl_X10_22 rfl dX10_parrots_131 rfl (fun heard8 => ?_)
          refine R_aloadq_n (pc' := 135) (i := 0) (j := 0) (q := (some this)) dX10_parrots_134 rfl rfl rfl ?_
          refine R_aloadq_n (pc' := 136) (i := 0) (j := 0) (q := (some this)) dX10_parrots_135 rfl rfl rfl ?_
          refine R_getR (pc' := 139) (q := (some this)) fl_X10_9 rfl dX10_parrots_136 rfl (fun scalar9 => ?_)
          refine R_iconst (pc' := 140) (x := (nI 2)) dX10_parrots_139 rfl (by decide) ?_
          refine R_iald (pc' := 141) (q := scalar9) (i := (nI 2)) dX10_parrots_140 rfl (fun e10 => ?_)
          refine R_callV_I (pc' := 144) (q := (some this)) (As := [.int e10]) (fun o14 => rm_X10_draws o14 e10 M) mf_X10_draws lk_X10_486 im_X10_draws se_X10_draws rfl rfl rfl dX10_parrots_141 rfl (by decide) (Nat.le_trans (c_R c_0) (by decide)) (fun r11 M => ?_)
          refine R_aloadq_n (pc' := 145) (i := 0) (j := 0) (q := (some this)) dX10_parrots_144 rfl rfl rfl ?_
          refine R_getR (pc' := 148) (q := (some this)) fl_X10_9 rfl dX10_parrots_145 rfl (fun scalar12 => ?_)
          refine R_iconst (pc' := 149) (x := (nI 4)) dX10_parrots_148 rfl (by decide) ?_
          refine R_iald (pc' := 150) (q := scalar12) (i := (nI 4)) dX10_parrots_149 rfl (fun e13 => ?_)
          refine R_iast (pc' := 151) (q := heard8) (i := r11) (x := e13) dX10_parrots_150 rfl (fun M => ?_)
          exact R_sub [0, 1, 2, 3, 4, 5, 6, 7, 8, 9] rfl (rf_X10_parrots_J151 this k87 (f_X10_parrots_L105 k87 this n) hk87 ih l1 l2 l3 l4 l5 l7 l8 l9 l10 M)
def f_X10_parrots_L87 (this : Nat) : Nat → Int32 → Int32 → Int32 → Int32 → Int32 → Int32 → Int32 → Int32 → Int32 → Mem → Option (Int32 × Mem)
  | 0, _, _, _, _, _, _, _, _, _, _ => none
  | n + 1, l1, l2, l3, l4, l5, l6, l7, l8, l9, M =>
    (if l1 ≤ l9 then
      ((gR M 10 1 (some this)).bind fun scalar1 =>
      (wI M 0 scalar1 (nI 7) l5).bind fun M =>
      some (l8, M))
    else
      ((gR M 10 1 (some this)).bind fun scalar2 =>
      (wI M 0 scalar2 (nI 7) l6).bind fun M =>
      f_X10_parrots_L105 (f_X10_parrots_L87 this n) this FU l1 l2 l3 l4 l5 l7 l8 l9 (nI 0) M))
set_option maxHeartbeats 2000000 in
set_option maxRecDepth 20000 in
theorem rf_X10_parrots_L87 (this : Nat) : ∀ (n : Nat) (l1 : Int32) (l2 : Int32) (l3 : Int32) (l4 : Int32) (l5 : Int32) (l6 : Int32) (l7 : Int32) (l8 : Int32) (l9 : Int32) (M : Mem), RF yX10_parrots cX10_parrots 11 (some .int) 10 eI (f_X10_parrots_L87 this n l1 l2 l3 l4 l5 l6 l7 l8 l9 M) 87 [(0, va_rf (some this)), (1, .int l1), (2, .int l2), (3, .int l3), (4, .int l4), (5, .int l5), (6, .int l6), (7, .int l7), (8, .int l8), (9, .int l9)] [] M := by
  intro n
  induction n with
  | zero => intro _ _ _ _ _ _ _ _ _ _; exact RF.none
  | succ n ih =>
    intro l1 l2 l3 l4 l5 l6 l7 l8 l9 M
    rw [f_X10_parrots_L87]
    refine R_iload (pc' := 89) (i := 9) (j := 9) (x := l9) dX10_parrots_87 rfl rfl ?_
    refine R_iload_n (pc' := 90) (i := 1) (j := 1) (x := l1) dX10_parrots_89 rfl rfl rfl ?_
    refine R_icmp_ge (pc' := 93) (tgt := 207) (a := l9) (b := l1) dX10_parrots_90 (by decide) rfl ?_ ?_
    · refine R_aloadq_n (pc' := 208) (i := 0) (j := 0) (q := (some this)) dX10_parrots_207 rfl rfl rfl ?_
      refine R_getR (pc' := 211) (q := (some this)) fl_X10_9 rfl dX10_parrots_208 rfl (fun scalar1 => ?_)
      refine R_bipush (pc' := 213) (x := (nI 7)) dX10_parrots_211 rfl (by decide) ?_
      refine R_iload (pc' := 215) (i := 5) (j := 5) (x := l5) dX10_parrots_213 rfl rfl ?_
      refine R_iast (pc' := 216) (q := scalar1) (i := (nI 7)) (x := l5) dX10_parrots_215 rfl (fun M => ?_)
      refine R_iload (pc' := 218) (i := 8) (j := 8) (x := l8) dX10_parrots_216 rfl rfl ?_
      exact R_iret dX10_parrots_218
    · refine R_aloadq_n (pc' := 94) (i := 0) (j := 0) (q := (some this)) dX10_parrots_93 rfl rfl rfl ?_
      refine R_getR (pc' := 97) (q := (some this)) fl_X10_9 rfl dX10_parrots_94 rfl (fun scalar2 => ?_)
      refine R_bipush (pc' := 99) (x := (nI 7)) dX10_parrots_97 rfl (by decide) ?_
      refine R_iload (pc' := 101) (i := 6) (j := 6) (x := l6) dX10_parrots_99 rfl rfl ?_
      refine R_iast (pc' := 102) (q := scalar2) (i := (nI 7)) (x := l6) dX10_parrots_101 rfl (fun M => ?_)
      refine R_iconst (pc' := 103) (x := (nI 0)) dX10_parrots_102 rfl (by decide) ?_
      refine R_istore (pc' := 105) (L' := [(10, .int (nI 0)), (0, va_rf (some this)), (1, .int l1), (2, .int l2), (3, .int l3), (4, .int l4), (5, .int l5), (6, .int l6), (7, .int l7), (8, .int l8), (9, .int l9)]) (i := 10) (x := (nI 0)) dX10_parrots_103 rfl (by decide) rfl ?_
      exact R_sub [1, 2, 3, 4, 5, 6, 8, 9, 10, 0] rfl (rf_X10_parrots_L105 this (f_X10_parrots_L87 this n) ih FU l1 l2 l3 l4 l5 l7 l8 l9 (nI 0) M)
def f_X10_parrots (this : Nat) (l1 : Int32) (l2 : Int32) (l3 : Int32) (l4 : Int32) (M : Mem) : Option (Int32 × Mem) :=
  (oO M 10 (some this)).bind fun o12 => cl (f_X10_isBar o12 M) fun r1 M =>
  (if r1 = 0 then
    (f_X10_parrots_J54 this M)
  else
    (cl (f_X10_in (Int32.toInt64 l1) (1 : Int64) (10 : Int64) M) fun r2 M =>
    (if r2 = 0 then
      (f_X10_parrots_J54 this M)
    else
      (cl (f_X10_in (Int32.toInt64 l2) (1 : Int64) (60 : Int64) M) fun r3 M =>
      (if r3 = 0 then
        (f_X10_parrots_J54 this M)
      else
        (cl (f_X10_in (Int32.toInt64 l3) (0 : Int64) (100 : Int64) M) fun r4 M =>
        (if r4 = 0 then
          (f_X10_parrots_J54 this M)
        else
          (cl (f_X10_in (Int32.toInt64 l4) (0 : Int64) (1 : Int64) M) fun r5 M =>
          (if r5 = 0 then
            (f_X10_parrots_J54 this M)
          else
            ((gR M 10 1 (some this)).bind fun scalar6 =>
            (aI M 0 scalar6 (nI 7)).bind fun e7 =>
            (gR M 10 1 (some this)).bind fun scalar8 =>
            (aI M 0 scalar8 (nI 5)).bind fun e9 =>
            (oO M 10 (some this)).bind fun o11 => cl (f_X10_keepsAll o11 M) fun u10 M =>
            f_X10_parrots_L87 this FU l1 l2 l3 l4 e7 e7 e9 (nI 0) (nI 0) M))))))))))
set_option maxHeartbeats 2000000 in
set_option maxRecDepth 20000 in
theorem rm_X10_parrots (this : Nat) (l1 : Int32) (l2 : Int32) (l3 : Int32) (l4 : Int32) (M : Mem) : RFm yX10_parrots cX10_parrots 11 (some .int) 10 eI (f_X10_parrots this l1 l2 l3 l4 M) [va_rf (some this), .int l1, .int l2, .int l3, .int l4] M := by
  refine RFm_of (L := [(0, va_rf (some this)), (1, .int l1), (2, .int l2), (3, .int l3), (4, .int l4)]) (by decide) rfl (Nat.le_trans (c_R (c_I (c_I (c_I (c_I c_0))))) (by decide)) ?_
  rw [f_X10_parrots]
  refine R_aloadq_n (pc' := 1) (i := 0) (j := 0) (q := (some this)) dX10_parrots_0 rfl rfl rfl ?_
  refine R_callV_I (pc' := 4) (q := (some this)) (As := []) (fun o12 => rm_X10_isBar o12 M) mf_X10_isBar lk_X10_411 im_X10_isBar se_X10_isBar rfl rfl rfl dX10_parrots_1 rfl (by decide) (Nat.le_trans c_0 (by decide)) (fun r1 M => ?_)
  refine R_if_eq (pc' := 7) (tgt := 54) (a := r1) dX10_parrots_4 (by decide) rfl ?_ ?_
  · exact R_sub [] rfl (rf_X10_parrots_J54 this M)
  · refine R_iload_n (pc' := 8) (i := 1) (j := 1) (x := l1) dX10_parrots_7 rfl rfl rfl ?_
    refine R_i2l (pc' := 9) (a := l1) dX10_parrots_8 rfl ?_
    refine R_lconst (pc' := 10) (x := (1 : Int64)) dX10_parrots_9 rfl (by decide) ?_
    refine R_ldc2 (pc' := 13) (x := (10 : Int64)) dX10_parrots_10 rfl c2_X10_484 ?_
    refine R_callS_I (pc' := 16) (As := [.long (Int32.toInt64 l1), .long (1 : Int64), .long (10 : Int64)]) (rm_X10_in (Int32.toInt64 l1) (1 : Int64) (10 : Int64) M) mf_X10_in lk_X10_131 sm_X10_in rfl rfl dX10_parrots_13 rfl (by decide) (Nat.le_trans c_0 (by decide)) (fun r2 M => ?_)
    refine R_if_eq (pc' := 19) (tgt := 54) (a := r2) dX10_parrots_16 (by decide) rfl ?_ ?_
    · exact R_sub [] rfl (rf_X10_parrots_J54 this M)
    · refine R_iload_n (pc' := 20) (i := 2) (j := 2) (x := l2) dX10_parrots_19 rfl rfl rfl ?_
      refine R_i2l (pc' := 21) (a := l2) dX10_parrots_20 rfl ?_
      refine R_lconst (pc' := 22) (x := (1 : Int64)) dX10_parrots_21 rfl (by decide) ?_
      refine R_ldc2 (pc' := 25) (x := (60 : Int64)) dX10_parrots_22 rfl c2_X10_444 ?_
      refine R_callS_I (pc' := 28) (As := [.long (Int32.toInt64 l2), .long (1 : Int64), .long (60 : Int64)]) (rm_X10_in (Int32.toInt64 l2) (1 : Int64) (60 : Int64) M) mf_X10_in lk_X10_131 sm_X10_in rfl rfl dX10_parrots_25 rfl (by decide) (Nat.le_trans c_0 (by decide)) (fun r3 M => ?_)
      refine R_if_eq (pc' := 31) (tgt := 54) (a := r3) dX10_parrots_28 (by decide) rfl ?_ ?_
      · exact R_sub [] rfl (rf_X10_parrots_J54 this M)
      · refine R_iload_n (pc' := 32) (i := 3) (j := 3) (x := l3) dX10_parrots_31 rfl rfl rfl ?_
        refine R_i2l (pc' := 33) (a := l3) dX10_parrots_32 rfl ?_
        refine R_lconst (pc' := 34) (x := (0 : Int64)) dX10_parrots_33 rfl (by decide) ?_
        refine R_ldc2 (pc' := 37) (x := (100 : Int64)) dX10_parrots_34 rfl c2_X10_428 ?_
        refine R_callS_I (pc' := 40) (As := [.long (Int32.toInt64 l3), .long (0 : Int64), .long (100 : Int64)]) (rm_X10_in (Int32.toInt64 l3) (0 : Int64) (100 : Int64) M) mf_X10_in lk_X10_131 sm_X10_in rfl rfl dX10_parrots_37 rfl (by decide) (Nat.le_trans c_0 (by decide)) (fun r4 M => ?_)
        refine R_if_eq (pc' := 43) (tgt := 54) (a := r4) dX10_parrots_40 (by decide) rfl ?_ ?_
        · exact R_sub [] rfl (rf_X10_parrots_J54 this M)
        · refine R_iload (pc' := 45) (i := 4) (j := 4) (x := l4) dX10_parrots_43 rfl rfl ?_
          refine R_i2l (pc' := 46) (a := l4) dX10_parrots_45 rfl ?_
          refine R_lconst (pc' := 47) (x := (0 : Int64)) dX10_parrots_46 rfl (by decide) ?_
          refine R_lconst (pc' := 48) (x := (1 : Int64)) dX10_parrots_47 rfl (by decide) ?_
          refine R_callS_I (pc' := 51) (As := [.long (Int32.toInt64 l4), .long (0 : Int64), .long (1 : Int64)]) (rm_X10_in (Int32.toInt64 l4) (0 : Int64) (1 : Int64) M) mf_X10_in lk_X10_131 sm_X10_in rfl rfl dX10_parrots_48 rfl (by decide) (Nat.le_trans c_0 (by decide)) (fun r5 M => ?_)
          refine R_if_ne (pc' := 54) (tgt := 56) (a := r5) dX10_parrots_51 (by decide) rfl ?_ ?_
          · refine R_aloadq_n (pc' := 57) (i := 0) (j := 0) (q := (some this)) dX10_parrots_56 rfl rfl rfl ?_
            refine R_getR (pc' := 60) (q := (some this)) fl_X10_9 rfl dX10_parrots_57 rfl (fun scalar6 => ?_)
            refine R_bipush (pc' := 62) (x := (nI 7)) dX10_parrots_60 rfl (by decide) ?_
            refine R_iald (pc' := 63) (q := scalar6) (i := (nI 7)) dX10_parrots_62 rfl (fun e7 => ?_)
            refine R_istore (pc' := 65) (L' := [(5, .int e7), (0, va_rf (some this)), (1, .int l1), (2, .int l2), (3, .int l3), (4, .int l4)]) (i := 5) (x := e7) dX10_parrots_63 rfl (by decide) rfl ?_
            refine R_iload (pc' := 67) (i := 5) (j := 0) (x := e7) dX10_parrots_65 rfl rfl ?_
            refine R_istore (pc' := 69) (L' := [(6, .int e7), (5, .int e7), (0, va_rf (some this)), (1, .int l1), (2, .int l2), (3, .int l3), (4, .int l4)]) (i := 6) (x := e7) dX10_parrots_67 rfl (by decide) rfl ?_
            refine R_aloadq_n (pc' := 70) (i := 0) (j := 2) (q := (some this)) dX10_parrots_69 rfl rfl rfl ?_
            refine R_getR (pc' := 73) (q := (some this)) fl_X10_9 rfl dX10_parrots_70 rfl (fun scalar8 => ?_)
            refine R_iconst (pc' := 74) (x := (nI 5)) dX10_parrots_73 rfl (by decide) ?_
            refine R_iald (pc' := 75) (q := scalar8) (i := (nI 5)) dX10_parrots_74 rfl (fun e9 => ?_)
            refine R_istore (pc' := 77) (L' := [(7, .int e9), (6, .int e7), (5, .int e7), (0, va_rf (some this)), (1, .int l1), (2, .int l2), (3, .int l3), (4, .int l4)]) (i := 7) (x := e9) dX10_parrots_75 rfl (by decide) rfl ?_
            refine R_iconst (pc' := 78) (x := (nI 0)) dX10_parrots_77 rfl (by decide) ?_
            refine R_istore (pc' := 80) (L' := [(8, .int (nI 0)), (7, .int e9), (6, .int e7), (5, .int e7), (0, va_rf (some this)), (1, .int l1), (2, .int l2), (3, .int l3), (4, .int l4)]) (i := 8) (x := (nI 0)) dX10_parrots_78 rfl (by decide) rfl ?_
            refine R_aloadq_n (pc' := 81) (i := 0) (j := 4) (q := (some this)) dX10_parrots_80 rfl rfl rfl ?_
            refine R_callV_V (pc' := 84) (q := (some this)) (As := []) (fun o11 => rm_X10_keepsAll o11 M) mf_X10_keepsAll lk_X10_430 im_X10_keepsAll se_X10_keepsAll rfl rfl rfl dX10_parrots_81 rfl (by decide) (Nat.le_trans c_0 (by decide)) (fun u10 M => ?_)
            refine R_iconst (pc' := 85) (x := (nI 0)) dX10_parrots_84 rfl (by decide) ?_
            refine R_istore (pc' := 87) (L' := [(9, .int (nI 0)), (8, .int (nI 0)), (7, .int e9), (6, .int e7), (5, .int e7), (0, va_rf (some this)), (1, .int l1), (2, .int l2), (3, .int l3), (4, .int l4)]) (i := 9) (x := (nI 0)) dX10_parrots_85 rfl (by decide) rfl ?_
            exact R_sub [5, 6, 7, 8, 9, 4, 3, 2, 1, 0] rfl (rf_X10_parrots_L87 this FU l1 l2 l3 l4 e7 e7 e9 (nI 0) (nI 0) M)
          · exact R_sub [] rfl (rf_X10_parrots_J54 this M)
/-! BarPilotModel.rememberedOnes()I -/
def f_X10_rememberedOnes_J30 (k4 : Int32 → Int32 → Mem → Option (Int32 × Mem)) (this : Nat) (l2 : Int32) (s0 : Int32) (s1 : Int32) (M : Mem) : Option (Int32 × Mem) :=
  nm (s1 ||| s0) fun v1 =>
  k4 v1 (l2 + (nI 1)) M
set_option maxHeartbeats 2000000 in
set_option maxRecDepth 20000 in
theorem rf_X10_rememberedOnes_J30 (this : Nat) (k4 : Int32 → Int32 → Mem → Option (Int32 × Mem)) (hk4 : ∀ (l1 : Int32) (l2 : Int32) (M : Mem), RF yX10_rememberedOnes cX10_rememberedOnes 3 (some .int) 2 eI (k4 l1 l2 M) 4 [(0, va_rf (some this)), (1, .int l1), (2, .int l2)] [] M) (l2 : Int32) (s0 : Int32) (s1 : Int32) (M : Mem) : RF yX10_rememberedOnes cX10_rememberedOnes 3 (some .int) 2 eI (f_X10_rememberedOnes_J30 k4 this l2 s0 s1 M) 30 [(0, va_rf (some this)), (2, .int l2)] [.int s0, .int s1] M := by
  rw [f_X10_rememberedOnes_J30]
  refine R_ior (pc' := 31) (a := s1) (b := s0) dX10_rememberedOnes_30 rfl ?_
  refine R_nmI (fun v1 => ?_)
  refine R_istore_n (pc' := 32) (L' := [(1, .int v1), (0, va_rf (some this)), (2, .int l2)]) (i := 1) (x := v1) dX10_rememberedOnes_31 rfl rfl (by decide) rfl ?_
  refine R_iinc (pc' := 35) (L' := [(2, .int (l2 + (nI 1))), (1, .int v1), (0, va_rf (some this))]) (i := 2) (j := 2) (x := l2) (x2 := (l2 + (nI 1))) dX10_rememberedOnes_32 rfl rfl rfl (by decide) rfl ?_
  refine R_goto (tgt := 4) dX10_rememberedOnes_35 (by decide) ?_
  exact R_sub [2, 1, 0] rfl (hk4 v1 (l2 + (nI 1)) M)
def f_X10_rememberedOnes_L4 (this : Nat) : Nat → Int32 → Int32 → Mem → Option (Int32 × Mem)
  | 0, _, _, _ => none
  | n + 1, l1, l2, M =>
    (gR M 10 1 (some this)).bind fun scalar1 =>
    (aI M 0 scalar1 (nI 2)).bind fun e2 =>
    (if e2 ≤ l2 then
      (some (l1, M))
    else
      ((oO M 10 (some this)).bind fun o4 => cl (f_X10_remembers o4 l2 M) fun r3 M =>
      (if r3 = 0 then
        (f_X10_rememberedOnes_J30 (f_X10_rememberedOnes_L4 this n) this l2 (nI 0) l1 M)
      else
        (f_X10_rememberedOnes_J30 (f_X10_rememberedOnes_L4 this n) this l2 ((nI 1) <<< (l2 &&& 31)) l1 M))))
set_option maxHeartbeats 2000000 in
set_option maxRecDepth 20000 in
theorem rf_X10_rememberedOnes_L4 (this : Nat) : ∀ (n : Nat) (l1 : Int32) (l2 : Int32) (M : Mem), RF yX10_rememberedOnes cX10_rememberedOnes 3 (some .int) 2 eI (f_X10_rememberedOnes_L4 this n l1 l2 M) 4 [(0, va_rf (some this)), (1, .int l1), (2, .int l2)] [] M := by
  intro n
  induction n with
  | zero => intro _ _ _; exact RF.none
  | succ n ih =>
    intro l1 l2 M
    rw [f_X10_rememberedOnes_L4]
    refine R_iload_n (pc' := 5) (i := 2) (j := 2) (x := l2) dX10_rememberedOnes_4 rfl rfl rfl ?_
    refine R_aloadq_n (pc' := 6) (i := 0) (j := 0) (q := (some this)) dX10_rememberedOnes_5 rfl rfl rfl ?_
    refine R_getR (pc' := 9) (q := (some this)) fl_X10_9 rfl dX10_rememberedOnes_6 rfl (fun scalar1 => ?_)
    refine R_iconst (pc' := 10) (x := (nI 2)) dX10_rememberedOnes_9 rfl (by decide) ?_
    refine R_iald (pc' := 11) (q := scalar1) (i := (nI 2)) dX10_rememberedOnes_10 rfl (fun e2 => ?_)
    refine R_icmp_ge (pc' := 14) (tgt := 38) (a := l2) (b := e2) dX10_rememberedOnes_11 (by decide) rfl ?_ ?_
    · refine R_iload_n (pc' := 39) (i := 1) (j := 1) (x := l1) dX10_rememberedOnes_38 rfl rfl rfl ?_
      exact R_iret dX10_rememberedOnes_39
    · refine R_iload_n (pc' := 15) (i := 1) (j := 1) (x := l1) dX10_rememberedOnes_14 rfl rfl rfl ?_
      refine R_aloadq_n (pc' := 16) (i := 0) (j := 0) (q := (some this)) dX10_rememberedOnes_15 rfl rfl rfl ?_
      refine R_iload_n (pc' := 17) (i := 2) (j := 2) (x := l2) dX10_rememberedOnes_16 rfl rfl rfl ?_
      refine R_callV_I (pc' := 20) (q := (some this)) (As := [.int l2]) (fun o4 => rm_X10_remembers o4 l2 M) mf_X10_remembers lk_X10_332 im_X10_remembers se_X10_remembers rfl rfl rfl dX10_rememberedOnes_17 rfl (by decide) (Nat.le_trans (c_I c_0) (by decide)) (fun r3 M => ?_)
      refine R_if_eq (pc' := 23) (tgt := 29) (a := r3) dX10_rememberedOnes_20 (by decide) rfl ?_ ?_
      · refine R_iconst (pc' := 30) (x := (nI 0)) dX10_rememberedOnes_29 rfl (by decide) ?_
        exact R_sub [0, 2] rfl (rf_X10_rememberedOnes_J30 this (f_X10_rememberedOnes_L4 this n) ih l2 (nI 0) l1 M)
      · refine R_iconst (pc' := 24) (x := (nI 1)) dX10_rememberedOnes_23 rfl (by decide) ?_
        refine R_iload_n (pc' := 25) (i := 2) (j := 2) (x := l2) dX10_rememberedOnes_24 rfl rfl rfl ?_
        refine R_ishl (pc' := 26) (a := (nI 1)) (b := l2) dX10_rememberedOnes_25 rfl ?_
        refine R_goto (tgt := 30) dX10_rememberedOnes_26 (by decide) ?_
        exact R_sub [0, 2] rfl (rf_X10_rememberedOnes_J30 this (f_X10_rememberedOnes_L4 this n) ih l2 ((nI 1) <<< (l2 &&& 31)) l1 M)
def f_X10_rememberedOnes (this : Nat) (M : Mem) : Option (Int32 × Mem) :=
  f_X10_rememberedOnes_L4 this FU (nI 0) (nI 0) M
set_option maxHeartbeats 2000000 in
set_option maxRecDepth 20000 in
theorem rm_X10_rememberedOnes (this : Nat) (M : Mem) : RFm yX10_rememberedOnes cX10_rememberedOnes 3 (some .int) 2 eI (f_X10_rememberedOnes this M) [va_rf (some this)] M := by
  refine RFm_of (L := [(0, va_rf (some this))]) (by decide) rfl (Nat.le_trans (c_R c_0) (by decide)) ?_
  rw [f_X10_rememberedOnes]
  refine R_iconst (pc' := 1) (x := (nI 0)) dX10_rememberedOnes_0 rfl (by decide) ?_
  refine R_istore_n (pc' := 2) (L' := [(1, .int (nI 0)), (0, va_rf (some this))]) (i := 1) (x := (nI 0)) dX10_rememberedOnes_1 rfl rfl (by decide) rfl ?_
  refine R_iconst (pc' := 3) (x := (nI 0)) dX10_rememberedOnes_2 rfl (by decide) ?_
  refine R_istore_n (pc' := 4) (L' := [(2, .int (nI 0)), (1, .int (nI 0)), (0, va_rf (some this))]) (i := 2) (x := (nI 0)) dX10_rememberedOnes_3 rfl rfl (by decide) rfl ?_
  exact R_sub [2, 1, 0] rfl (rf_X10_rememberedOnes_L4 this FU (nI 0) (nI 0) M)
/-! BarPilotModel.count(I)I -/
def f_X10_count (this : Nat) (l1 : Int32) (M : Mem) : Option (Int32 × Mem) :=
  (tsw l1 (0) [
    ((gR M 10 1 (some this)).bind fun scalar1 =>
    (aI M 0 scalar1 (nI 0)).bind fun e2 =>
    some (e2, M)),
    ((gR M 10 1 (some this)).bind fun scalar3 =>
    (aI M 0 scalar3 (nI 1)).bind fun e4 =>
    some (e4, M)),
    ((gR M 10 1 (some this)).bind fun scalar5 =>
    (aI M 0 scalar5 (nI 2)).bind fun e6 =>
    some (e6, M)),
    ((gR M 10 1 (some this)).bind fun scalar7 =>
    (aI M 0 scalar7 (nI 3)).bind fun e8 =>
    some (e8, M)),
    ((gI M 10 21 (some this)).bind fun rules9 =>
    some (rules9, M)),
    ((gR M 10 1 (some this)).bind fun scalar10 =>
    (aI M 0 scalar10 (nI 8)).bind fun e11 =>
    some (e11, M)),
    ((gR M 10 1 (some this)).bind fun scalar12 =>
    (aI M 0 scalar12 (nI 4)).bind fun e13 =>
    some (e13, M)),
    ((gR M 10 1 (some this)).bind fun scalar14 =>
    (aI M 0 scalar14 (nI 5)).bind fun e15 =>
    some (e15, M)),
    ((oO M 10 (some this)).bind fun o17 => cl (f_X10_waiting o17 M) fun r16 M =>
    some (r16, M)),
    ((oO M 10 (some this)).bind fun o19 => cl (f_X10_rememberedOnes o19 M) fun r18 M =>
    some (r18, M)),
    ((gR M 10 1 (some this)).bind fun scalar20 =>
    (aI M 0 scalar20 (nI 6)).bind fun e21 =>
    some (e21, M)),
    ((gI M 10 42 (some this)).bind fun pastMany22 =>
    some (pastMany22, M)),
    ((gR M 10 1 (some this)).bind fun scalar23 =>
    (aI M 0 scalar23 (nI 7)).bind fun e24 =>
    some (e24, M)),
    ((gI M 10 17 (some this)).bind fun taped25 =>
    some (taped25, M))]
    (some ((-1 : Int32), M)))
set_option maxHeartbeats 2000000 in
set_option maxRecDepth 20000 in
theorem rm_X10_count (this : Nat) (l1 : Int32) (M : Mem) : RFm yX10_count cX10_count 2 (some .int) 5 eI (f_X10_count this l1 M) [va_rf (some this), .int l1] M := by
  refine RFm_of (L := [(0, va_rf (some this)), (1, .int l1)]) (by decide) rfl (Nat.le_trans (c_R (c_I c_0)) (by decide)) ?_
  rw [f_X10_count]
  refine R_iload_n (pc' := 1) (i := 1) (j := 1) (x := l1) dX10_count_0 rfl rfl rfl ?_
  refine R_tsw (tgt := 163) (x := l1) dX10_count_1 rfl (by decide) ?_ ⟨⟨72, by decide, ?_⟩, ⟨79, by decide, ?_⟩, ⟨86, by decide, ?_⟩, ⟨93, by decide, ?_⟩, ⟨100, by decide, ?_⟩, ⟨105, by decide, ?_⟩, ⟨113, by decide, ?_⟩, ⟨120, by decide, ?_⟩, ⟨127, by decide, ?_⟩, ⟨132, by decide, ?_⟩, ⟨137, by decide, ?_⟩, ⟨145, by decide, ?_⟩, ⟨150, by decide, ?_⟩, ⟨158, by decide, ?_⟩, trivial⟩
  · refine R_iconst (pc' := 164) (x := (-1 : Int32)) dX10_count_163 rfl (by decide) ?_
    exact R_iret dX10_count_164
  · refine R_aloadq_n (pc' := 73) (i := 0) (j := 0) (q := (some this)) dX10_count_72 rfl rfl rfl ?_
    refine R_getR (pc' := 76) (q := (some this)) fl_X10_9 rfl dX10_count_73 rfl (fun scalar1 => ?_)
    refine R_iconst (pc' := 77) (x := (nI 0)) dX10_count_76 rfl (by decide) ?_
    refine R_iald (pc' := 78) (q := scalar1) (i := (nI 0)) dX10_count_77 rfl (fun e2 => ?_)
    exact R_iret dX10_count_78
  · refine R_aloadq_n (pc' := 80) (i := 0) (j := 0) (q := (some this)) dX10_count_79 rfl rfl rfl ?_
    refine R_getR (pc' := 83) (q := (some this)) fl_X10_9 rfl dX10_count_80 rfl (fun scalar3 => ?_)
    refine R_iconst (pc' := 84) (x := (nI 1)) dX10_count_83 rfl (by decide) ?_
    refine R_iald (pc' := 85) (q := scalar3) (i := (nI 1)) dX10_count_84 rfl (fun e4 => ?_)
    exact R_iret dX10_count_85
  · refine R_aloadq_n (pc' := 87) (i := 0) (j := 0) (q := (some this)) dX10_count_86 rfl rfl rfl ?_
    refine R_getR (pc' := 90) (q := (some this)) fl_X10_9 rfl dX10_count_87 rfl (fun scalar5 => ?_)
    refine R_iconst (pc' := 91) (x := (nI 2)) dX10_count_90 rfl (by decide) ?_
    refine R_iald (pc' := 92) (q := scalar5) (i := (nI 2)) dX10_count_91 rfl (fun e6 => ?_)
    exact R_iret dX10_count_92
  · refine R_aloadq_n (pc' := 94) (i := 0) (j := 0) (q := (some this)) dX10_count_93 rfl rfl rfl ?_
    refine R_getR (pc' := 97) (q := (some this)) fl_X10_9 rfl dX10_count_94 rfl (fun scalar7 => ?_)
    refine R_iconst (pc' := 98) (x := (nI 3)) dX10_count_97 rfl (by decide) ?_
    refine R_iald (pc' := 99) (q := scalar7) (i := (nI 3)) dX10_count_98 rfl (fun e8 => ?_)
    exact R_iret dX10_count_99
  · refine R_aloadq_n (pc' := 101) (i := 0) (j := 0) (q := (some this)) dX10_count_100 rfl rfl rfl ?_
    refine R_getI (pc' := 104) (q := (some this)) fl_X10_312 rfl dX10_count_101 rfl (fun rules9 => ?_)
    exact R_iret dX10_count_104
  · refine R_aloadq_n (pc' := 106) (i := 0) (j := 0) (q := (some this)) dX10_count_105 rfl rfl rfl ?_
    refine R_getR (pc' := 109) (q := (some this)) fl_X10_9 rfl dX10_count_106 rfl (fun scalar10 => ?_)
    refine R_bipush (pc' := 111) (x := (nI 8)) dX10_count_109 rfl (by decide) ?_
    refine R_iald (pc' := 112) (q := scalar10) (i := (nI 8)) dX10_count_111 rfl (fun e11 => ?_)
    exact R_iret dX10_count_112
  · refine R_aloadq_n (pc' := 114) (i := 0) (j := 0) (q := (some this)) dX10_count_113 rfl rfl rfl ?_
    refine R_getR (pc' := 117) (q := (some this)) fl_X10_9 rfl dX10_count_114 rfl (fun scalar12 => ?_)
    refine R_iconst (pc' := 118) (x := (nI 4)) dX10_count_117 rfl (by decide) ?_
    refine R_iald (pc' := 119) (q := scalar12) (i := (nI 4)) dX10_count_118 rfl (fun e13 => ?_)
    exact R_iret dX10_count_119
  · refine R_aloadq_n (pc' := 121) (i := 0) (j := 0) (q := (some this)) dX10_count_120 rfl rfl rfl ?_
    refine R_getR (pc' := 124) (q := (some this)) fl_X10_9 rfl dX10_count_121 rfl (fun scalar14 => ?_)
    refine R_iconst (pc' := 125) (x := (nI 5)) dX10_count_124 rfl (by decide) ?_
    refine R_iald (pc' := 126) (q := scalar14) (i := (nI 5)) dX10_count_125 rfl (fun e15 => ?_)
    exact R_iret dX10_count_126
  · refine R_aloadq_n (pc' := 128) (i := 0) (j := 0) (q := (some this)) dX10_count_127 rfl rfl rfl ?_
    refine R_callV_I (pc' := 131) (q := (some this)) (As := []) (fun o17 => rm_X10_waiting o17 M) mf_X10_waiting lk_X10_356 im_X10_waiting se_X10_waiting rfl rfl rfl dX10_count_128 rfl (by decide) (Nat.le_trans c_0 (by decide)) (fun r16 M => ?_)
    exact R_iret dX10_count_131
  · refine R_aloadq_n (pc' := 133) (i := 0) (j := 0) (q := (some this)) dX10_count_132 rfl rfl rfl ?_
    refine R_callV_I (pc' := 136) (q := (some this)) (As := []) (fun o19 => rm_X10_rememberedOnes o19 M) mf_X10_rememberedOnes lk_X10_489 im_X10_rememberedOnes se_X10_rememberedOnes rfl rfl rfl dX10_count_133 rfl (by decide) (Nat.le_trans c_0 (by decide)) (fun r18 M => ?_)
    exact R_iret dX10_count_136
  · refine R_aloadq_n (pc' := 138) (i := 0) (j := 0) (q := (some this)) dX10_count_137 rfl rfl rfl ?_
    refine R_getR (pc' := 141) (q := (some this)) fl_X10_9 rfl dX10_count_138 rfl (fun scalar20 => ?_)
    refine R_bipush (pc' := 143) (x := (nI 6)) dX10_count_141 rfl (by decide) ?_
    refine R_iald (pc' := 144) (q := scalar20) (i := (nI 6)) dX10_count_143 rfl (fun e21 => ?_)
    exact R_iret dX10_count_144
  · refine R_aloadq_n (pc' := 146) (i := 0) (j := 0) (q := (some this)) dX10_count_145 rfl rfl rfl ?_
    refine R_getI (pc' := 149) (q := (some this)) fl_X10_299 rfl dX10_count_146 rfl (fun pastMany22 => ?_)
    exact R_iret dX10_count_149
  · refine R_aloadq_n (pc' := 151) (i := 0) (j := 0) (q := (some this)) dX10_count_150 rfl rfl rfl ?_
    refine R_getR (pc' := 154) (q := (some this)) fl_X10_9 rfl dX10_count_151 rfl (fun scalar23 => ?_)
    refine R_bipush (pc' := 156) (x := (nI 7)) dX10_count_154 rfl (by decide) ?_
    refine R_iald (pc' := 157) (q := scalar23) (i := (nI 7)) dX10_count_156 rfl (fun e24 => ?_)
    exact R_iret dX10_count_157
  · refine R_aloadq_n (pc' := 159) (i := 0) (j := 0) (q := (some this)) dX10_count_158 rfl rfl rfl ?_
    refine R_getI (pc' := 162) (q := (some this)) fl_X10_139 rfl dX10_count_159 rfl (fun taped25 => ?_)
    exact R_iret dX10_count_162
/-! BarPilotModel.image(I)I -/
def f_X10_image (this : Nat) (l1 : Int32) (M : Mem) : Option (Int32 × Mem) :=
  cl (f_X10_in (Int32.toInt64 l1) (0 : Int64) (3 : Int64) M) fun r1 M =>
  (if r1 = 0 then
    (some ((-1 : Int32), M))
  else
    ((gR M 10 51 (some this)).bind fun isMade2 =>
    (wI M 2 isMade2 l1 (vp_nar .boolean (nI 1))).bind fun M =>
    (oO M 10 (some this)).bind fun o6 => cl (f_X10_carriesAll o6 l1 (nI 0) M) fun u3 M =>
    (gR M 10 1 (some this)).bind fun scalar4 =>
    (aI M 0 scalar4 (nI 4)).bind fun e5 =>
    some (e5, M)))
set_option maxHeartbeats 2000000 in
set_option maxRecDepth 20000 in
theorem rm_X10_image (this : Nat) (l1 : Int32) (M : Mem) : RFm yX10_image cX10_image 2 (some .int) 3 eI (f_X10_image this l1 M) [va_rf (some this), .int l1] M := by
  refine RFm_of (L := [(0, va_rf (some this)), (1, .int l1)]) (by decide) rfl (Nat.le_trans (c_R (c_I c_0)) (by decide)) ?_
  rw [f_X10_image]
  refine R_iload_n (pc' := 1) (i := 1) (j := 1) (x := l1) dX10_image_0 rfl rfl rfl ?_
  refine R_i2l (pc' := 2) (a := l1) dX10_image_1 rfl ?_
  refine R_lconst (pc' := 3) (x := (0 : Int64)) dX10_image_2 rfl (by decide) ?_
  refine R_ldc2 (pc' := 6) (x := (3 : Int64)) dX10_image_3 rfl c2_X10_456 ?_
  refine R_callS_I (pc' := 9) (As := [.long (Int32.toInt64 l1), .long (0 : Int64), .long (3 : Int64)]) (rm_X10_in (Int32.toInt64 l1) (0 : Int64) (3 : Int64) M) mf_X10_in lk_X10_131 sm_X10_in rfl rfl dX10_image_6 rfl (by decide) (Nat.le_trans c_0 (by decide)) (fun r1 M => ?_)
  refine R_if_ne (pc' := 12) (tgt := 14) (a := r1) dX10_image_9 (by decide) rfl ?_ ?_
  · refine R_aloadq_n (pc' := 15) (i := 0) (j := 0) (q := (some this)) dX10_image_14 rfl rfl rfl ?_
    refine R_getR (pc' := 18) (q := (some this)) fl_X10_124 rfl dX10_image_15 rfl (fun isMade2 => ?_)
    refine R_iload_n (pc' := 19) (i := 1) (j := 1) (x := l1) dX10_image_18 rfl rfl rfl ?_
    refine R_iconst (pc' := 20) (x := (nI 1)) dX10_image_19 rfl (by decide) ?_
    refine R_zast (pc' := 21) (q := isMade2) (i := l1) (x := (nI 1)) dX10_image_20 rfl (fun M => ?_)
    refine R_aloadq_n (pc' := 22) (i := 0) (j := 0) (q := (some this)) dX10_image_21 rfl rfl rfl ?_
    refine R_iload_n (pc' := 23) (i := 1) (j := 1) (x := l1) dX10_image_22 rfl rfl rfl ?_
    refine R_iconst (pc' := 24) (x := (nI 0)) dX10_image_23 rfl (by decide) ?_
    refine R_callV_V (pc' := 27) (q := (some this)) (As := [.int l1, .int (nI 0)]) (fun o6 => rm_X10_carriesAll o6 l1 (nI 0) M) mf_X10_carriesAll lk_X10_417 im_X10_carriesAll se_X10_carriesAll rfl rfl rfl dX10_image_24 rfl (by decide) (Nat.le_trans c_0 (by decide)) (fun u3 M => ?_)
    refine R_aloadq_n (pc' := 28) (i := 0) (j := 0) (q := (some this)) dX10_image_27 rfl rfl rfl ?_
    refine R_getR (pc' := 31) (q := (some this)) fl_X10_9 rfl dX10_image_28 rfl (fun scalar4 => ?_)
    refine R_iconst (pc' := 32) (x := (nI 4)) dX10_image_31 rfl (by decide) ?_
    refine R_iald (pc' := 33) (q := scalar4) (i := (nI 4)) dX10_image_32 rfl (fun e5 => ?_)
    exact R_iret dX10_image_33
  · refine R_iconst (pc' := 13) (x := (-1 : Int32)) dX10_image_12 rfl (by decide) ?_
    exact R_iret dX10_image_13
/-! BarPilotModel.back(I)I -/
def f_X10_back_J21 (this : Nat) (M : Mem) : Option (Int32 × Mem) :=
  some ((-1 : Int32), M)
set_option maxHeartbeats 2000000 in
set_option maxRecDepth 20000 in
theorem rf_X10_back_J21 (this : Nat) (M : Mem) : RF yX10_back cX10_back 2 (some .int) 3 eI (f_X10_back_J21 this M) 21 [] [] M := by
  rw [f_X10_back_J21]
  refine R_iconst (pc' := 22) (x := (-1 : Int32)) dX10_back_21 rfl (by decide) ?_
  exact R_iret dX10_back_22
def f_X10_back (this : Nat) (l1 : Int32) (M : Mem) : Option (Int32 × Mem) :=
  cl (f_X10_in (Int32.toInt64 l1) (0 : Int64) (3 : Int64) M) fun r1 M =>
  (if r1 = 0 then
    (f_X10_back_J21 this M)
  else
    ((gR M 10 51 (some this)).bind fun isMade2 =>
    (aI M 2 isMade2 l1).bind fun e3 =>
    (if e3 = 0 then
      (f_X10_back_J21 this M)
    else
      ((oO M 10 (some this)).bind fun o7 => cl (f_X10_carriesAll o7 l1 (nI 1) M) fun u4 M =>
      (gR M 10 1 (some this)).bind fun scalar5 =>
      (aI M 0 scalar5 (nI 4)).bind fun e6 =>
      some (e6, M)))))
set_option maxHeartbeats 2000000 in
set_option maxRecDepth 20000 in
theorem rm_X10_back (this : Nat) (l1 : Int32) (M : Mem) : RFm yX10_back cX10_back 2 (some .int) 3 eI (f_X10_back this l1 M) [va_rf (some this), .int l1] M := by
  refine RFm_of (L := [(0, va_rf (some this)), (1, .int l1)]) (by decide) rfl (Nat.le_trans (c_R (c_I c_0)) (by decide)) ?_
  rw [f_X10_back]
  refine R_iload_n (pc' := 1) (i := 1) (j := 1) (x := l1) dX10_back_0 rfl rfl rfl ?_
  refine R_i2l (pc' := 2) (a := l1) dX10_back_1 rfl ?_
  refine R_lconst (pc' := 3) (x := (0 : Int64)) dX10_back_2 rfl (by decide) ?_
  refine R_ldc2 (pc' := 6) (x := (3 : Int64)) dX10_back_3 rfl c2_X10_456 ?_
  refine R_callS_I (pc' := 9) (As := [.long (Int32.toInt64 l1), .long (0 : Int64), .long (3 : Int64)]) (rm_X10_in (Int32.toInt64 l1) (0 : Int64) (3 : Int64) M) mf_X10_in lk_X10_131 sm_X10_in rfl rfl dX10_back_6 rfl (by decide) (Nat.le_trans c_0 (by decide)) (fun r1 M => ?_)
  refine R_if_eq (pc' := 12) (tgt := 21) (a := r1) dX10_back_9 (by decide) rfl ?_ ?_
  · exact R_sub [] rfl (rf_X10_back_J21 this M)
  · refine R_aloadq_n (pc' := 13) (i := 0) (j := 0) (q := (some this)) dX10_back_12 rfl rfl rfl ?_
    refine R_getR (pc' := 16) (q := (some this)) fl_X10_124 rfl dX10_back_13 rfl (fun isMade2 => ?_)
    refine R_iload_n (pc' := 17) (i := 1) (j := 1) (x := l1) dX10_back_16 rfl rfl rfl ?_
    refine R_zald (pc' := 18) (q := isMade2) (i := l1) dX10_back_17 rfl (fun e3 => ?_)
    refine R_if_ne (pc' := 21) (tgt := 23) (a := e3) dX10_back_18 (by decide) rfl ?_ ?_
    · refine R_aloadq_n (pc' := 24) (i := 0) (j := 0) (q := (some this)) dX10_back_23 rfl rfl rfl ?_
      refine R_iload_n (pc' := 25) (i := 1) (j := 1) (x := l1) dX10_back_24 rfl rfl rfl ?_
      refine R_iconst (pc' := 26) (x := (nI 1)) dX10_back_25 rfl (by decide) ?_
      refine R_callV_V (pc' := 29) (q := (some this)) (As := [.int l1, .int (nI 1)]) (fun o7 => rm_X10_carriesAll o7 l1 (nI 1) M) mf_X10_carriesAll lk_X10_417 im_X10_carriesAll se_X10_carriesAll rfl rfl rfl dX10_back_26 rfl (by decide) (Nat.le_trans c_0 (by decide)) (fun u4 M => ?_)
      refine R_aloadq_n (pc' := 30) (i := 0) (j := 0) (q := (some this)) dX10_back_29 rfl rfl rfl ?_
      refine R_getR (pc' := 33) (q := (some this)) fl_X10_9 rfl dX10_back_30 rfl (fun scalar5 => ?_)
      refine R_iconst (pc' := 34) (x := (nI 4)) dX10_back_33 rfl (by decide) ?_
      refine R_iald (pc' := 35) (q := scalar5) (i := (nI 4)) dX10_back_34 rfl (fun e6 => ?_)
      exact R_iret dX10_back_35
    · exact R_sub [] rfl (rf_X10_back_J21 this M)
