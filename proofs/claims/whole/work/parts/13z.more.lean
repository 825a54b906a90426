theorem cat_I (x : Int32) : (Value.int x).category = 1 := rfl
theorem cat_L (x : Int64) : (Value.long x).category = 2 := rfl
theorem cat_C (x : UInt32) : (Value.float x).category = 1 := rfl
theorem lva_R (i : Nat) (q : Option Nat) (vs : List Value) : lv_args i (va_rf q :: vs) = (i, va_rf q) :: lv_args (i + 1) vs := by rw [lv_args, rf_cat]; rfl
theorem lva_I (i : Nat) (q : Int32) (vs : List Value) : lv_args i (.int q :: vs) = (i, .int q) :: lv_args (i + 1) vs := rfl
theorem lva_L (i : Nat) (q : Int64) (vs : List Value) : lv_args i (.long q :: vs) = (i, .long q) :: lv_args (i + 2) vs := rfl
theorem lva_C (i : Nat) (q : UInt32) (vs : List Value) : lv_args i (.float q :: vs) = (i, .float q) :: lv_args (i + 1) vs := rfl
theorem lva_0 (i : Nat) : lv_args i [] = [] := rfl
theorem ma_co : Cond.code Lib.Math.max.name Lib.Math.max.code 2 (some .int) ∈ TB := tb_at 1019 (by decide +kernel) rfl
theorem mi_co : Cond.code Lib.Math.min.name Lib.Math.min.code 2 (some .int) ∈ TB := tb_at 682 (by decide +kernel) rfl
theorem ma_st : Cond.static Lib.Math.max.name ∈ TB := tb_at 1018 (by decide +kernel) rfl
theorem mi_st : Cond.static Lib.Math.min.name ∈ TB := tb_at 681 (by decide +kernel) rfl
theorem ma_in : Cond.initialized "java/lang/Math" ∈ TB := tb_at 125 (by decide +kernel) rfl
section MAT
variable {α : Type} {y : MethodName} {cc : ByteArray} {nL : Nat} {ret : Option FieldType} {d : Nat} {enc : α → Option Value} {o : Option (α × Mem)} {pc pc' : Nat} {L : List (Nat × Value)} {S : List Value} {M : Mem}
theorem R_mmax {idx : Nat} {a b : Int32} (hlk : Cond.methodLink y.cls idx yJ9_max_7cf53 ∈ TB) (hd : decode cc pc = .ok (.invokestatic idx, 3)) (hp : pc + 3 = pc') (hdd : 1 ≤ d) (hcat : (S.map fun v => v.category).sum ≤ 8) (k : RF y cc nL ret d enc o pc' L (.int (if a < b then b else a) :: S) M) : RF y cc nL ret d enc o pc L (.int b :: .int a :: S) M := fun r M' ho => ⟨(k r M' ho).1, fun p l e s m args below meth c H locs A cA D bs κ cells slots mc ms ls Qc C hl => by
  subst hp
  have hts := C.1.2.2.2.2.2.1
  have hE := (k r M' ho).1.le
  have hz := C.2.2.2.1
  exact va_mmax C.1.1 C.1.2.1 (C.1.2.2.1.trans hl.1.symm) C.1.2.2.2.2.1 (hts _ hlk) (hts _ ma_st) (hts _ ma_in) (hts _ ma_co) hdd (by rw [cat_sum]; show _ ≤ 64 * d; omega) (by show cells ≤ mc; omega) (by show slots ≤ ms; omega) hd ((k r M' ho).2 p l e s m args below meth c H locs A cA D bs κ cells slots mc ms ls Qc C hl)⟩
theorem R_mmin {idx : Nat} {a b : Int32} (hlk : Cond.methodLink y.cls idx yJ9_min_7cf53 ∈ TB) (hd : decode cc pc = .ok (.invokestatic idx, 3)) (hp : pc + 3 = pc') (hdd : 1 ≤ d) (hcat : (S.map fun v => v.category).sum ≤ 8) (k : RF y cc nL ret d enc o pc' L (.int (if b < a then b else a) :: S) M) : RF y cc nL ret d enc o pc L (.int b :: .int a :: S) M := fun r M' ho => ⟨(k r M' ho).1, fun p l e s m args below meth c H locs A cA D bs κ cells slots mc ms ls Qc C hl => by
  subst hp
  have hts := C.1.2.2.2.2.2.1
  have hE := (k r M' ho).1.le
  have hz := C.2.2.2.1
  exact va_mmin C.1.1 C.1.2.1 (C.1.2.2.1.trans hl.1.symm) C.1.2.2.2.2.1 (hts _ hlk) (hts _ mi_st) (hts _ ma_in) (hts _ mi_co) hdd (by rw [cat_sum]; show _ ≤ 64 * d; omega) (by show cells ≤ mc; omega) (by show slots ≤ ms; omega) hd ((k r M' ho).2 p l e s m args below meth c H locs A cA D bs κ cells slots mc ms ls Qc C hl)⟩
end MAT
