/-! BOTH CONSTRUCTORS, run by the kernel: the memory at the law's loop -/
def MIo : Option Mem := (f_X9_init 0 (nw M0 (.inl 9))).bind fun x => (f_X10_init 66 (nw x.2 (.inl 10))).map (fun y => y.2)
def MI : Mem := MIo.getD M0
theorem mi_some : MIo.isSome = true := by decide +kernel
theorem mi_eq : MIo = some MI := by
  have h := mi_some
  unfold MI
  cases hm : MIo with
  | none => rw [hm] at h; cases h
  | some x => rfl
theorem mi_len : (mS MI).length = 103 := by decide +kernel
theorem mi_us : us MI ≤ 20000 := by decide +kernel
theorem mi_ref : RIs (mS MI) (mR MI) 66 := by
  unfold RIs
  decide +kernel
theorem mi_s (k : Nat) (h1 : clsOf (mS MI) k = 7) (h2 : mR MI k 1 = some (k + 1) ∧ lenOf (mS MI) 0 (k + 1) = 8) (h3 : mR MI k 2 = some (k + 2) ∧ lenOf (mS MI) 0 (k + 2) = 5) (h4 : mR MI k 3 = some (k + 3) ∧ lenOf (mS MI) 0 (k + 3) = 5) : IScene (mS MI) (mR MI) k := ⟨h1, h2, h3, h4⟩
theorem mi_t (k : Nat) (h1 : clsOf (mS MI) k = 9) (h2 : mR MI k 5 = some (k + 1) ∧ lenOf (mS MI) 0 (k + 1) = 24) (h3 : mR MI k 6 = some (k + 2) ∧ lenOf (mS MI) 0 (k + 2) = 5) (h4 : mR MI k 7 = some (k + 3) ∧ lenOf (mS MI) 0 (k + 3) = 5) (h5 : mR MI k 8 = some (k + 4) ∧ lenOf (mS MI) 0 (k + 4) = 5) (h6 : mR MI k 9 = some (k + 5) ∧ lenOf (mS MI) 0 (k + 5) = 32) : ITold (mS MI) (mR MI) k := ⟨h1, h2, h3, h4, h5, h6⟩
theorem mi_lev : ∀ i, i < 5 → (clsOf (mS MI) (46 + 4 * i) = 7 ∧ (mR MI (46 + 4 * i) 1 = some (46 + 4 * i + 1) ∧ lenOf (mS MI) 0 (46 + 4 * i + 1) = 8)) ∧ ((mR MI (46 + 4 * i) 2 = some (46 + 4 * i + 2) ∧ lenOf (mS MI) 0 (46 + 4 * i + 2) = 5) ∧ (mR MI (46 + 4 * i) 3 = some (46 + 4 * i + 3) ∧ lenOf (mS MI) 0 (46 + 4 * i + 3) = 5)) := by decide +kernel
theorem mi_book : IBook (mS MI) (mR MI) 14 := by
  refine ⟨by decide +kernel, by decide +kernel, by decide +kernel, by decide +kernel, by decide +kernel, by decide +kernel, by decide +kernel, ?_, ?_⟩
  · exact mi_t 15 (by decide +kernel) (by decide +kernel) (by decide +kernel) (by decide +kernel) (by decide +kernel) (by decide +kernel)
  · exact mi_s 21 (by decide +kernel) (by decide +kernel) (by decide +kernel) (by decide +kernel)
theorem mi_cls : CIs (mS MI) (mR MI) :=
  ⟨by decide +kernel, by decide +kernel, by decide +kernel, by decide +kernel, mi_t 4 (by decide +kernel) (by decide +kernel) (by decide +kernel) (by decide +kernel) (by decide +kernel) (by decide +kernel), mi_book, mi_s 33 (by decide +kernel) (by decide +kernel) (by decide +kernel) (by decide +kernel), mi_s 39 (by decide +kernel) (by decide +kernel) (by decide +kernel) (by decide +kernel),
   fun i hi => ⟨(mi_lev i hi).1.1, (mi_lev i hi).1.2, (mi_lev i hi).2.1, (mi_lev i hi).2.2⟩⟩
