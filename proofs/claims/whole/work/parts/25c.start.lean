/-! FROM THE LAW'S ENTRY: classes, rows' classes, constants; the claim out of the pure law -/
def M0 : Mem := ([], fun _ _ => 0, fun _ _ => 0, fun _ _ => none)
def lw_At (p : Program) (s : State) (m : MethodId) (meth : Method) (c : Code) (b L : Nat) (xs : Nat → Int32) : Prop :=
  p.tables.exec = Jvm.exec ∧ c.code = code ∧ meth.sig.returnType = ret ∧ c.maxLocals = 4 ∧ s.vm.findClass R_law = some m.cls ∧ (∀ w ∈ lw_tbl, w.before #[Value.ref b] s = true) ∧ va_X b L xs s s.heap ∧ b < s.heap.size ∧ meth.locks = false ∧ (Jvm.Cond.and given_1 narrow_1).before #[Value.ref b] s = true
theorem tb_sub {w : Cond} (h : w ∈ TB) : w ∈ lw_tbl := (List.mem_filter.mp h).1
section STA
variable {s : State} {args : Array Value}
theorem st_arr {ty : FieldType} (h : (Cond.arrayClass ty).before args s = true) (hty : ∀ E, ty ≠ .object E) : ∃ cB : ClassId, ArrOfT s cB ty ∧ va_RA s cB ty := by
  obtain ⟨c, k, comp, h1, h2, h3⟩ := Cond.arrayClass_spec h
  refine ⟨c, fun n z => ⟨fun k h => (by cases h), k, h2, comp, h3⟩, ?_⟩
  cases ty <;> first | exact h1 | exact absurd rfl (hty _)
theorem st_arq {E : String} (h : (Cond.arrayOver (.object E)).before args s = true) : ∃ cB : ClassId, ArrOfT s cB (.object E) ∧ va_RA s cB (.object E) := by
  obtain ⟨comp, c, k, h1, -, h2, h3, h4⟩ := Cond.arrayOver_spec h
  exact ⟨c, fun n z => ⟨fun k h => (by cases h), k, h2, comp, h3⟩, k, comp, h2, h3, h1, h4⟩
theorem st_K (hts : ∀ w ∈ lw_tbl, w.before args s = true) : ∃ (D : va_G) (cA : Nat → ClassId), va_K D vwCl (TYS cA) s := by
  have hT : ∀ w ∈ TB, w.before args s = true := fun w h => hts w (tb_sub h)
  obtain ⟨c0, i0, k0⟩ := u_known (C := RX0) (T := TX0) (N := 12) (n := 12) hT cl_X0.2.1 (hT _ cl_X0.2.2.2.2.2.2.1)
  obtain ⟨c1, i1, k1⟩ := u_known (C := RX1) (T := TX1) (N := 2) (n := 2) hT cl_X1.2.1 (hT _ cl_X1.2.2.2.2.2.2.1)
  obtain ⟨c2, i2, k2⟩ := u_known (C := RX2) (T := TX2) (N := 11) (n := 11) hT cl_X2.2.1 (hT _ cl_X2.2.2.2.2.2.2.1)
  obtain ⟨c3, i3, k3⟩ := u_known (C := RX3) (T := TX3) (N := 8) (n := 8) hT cl_X3.2.1 (hT _ cl_X3.2.2.2.2.2.2.1)
  obtain ⟨c4, i4, k4⟩ := u_known (C := RX4) (T := TX4) (N := 5) (n := 5) hT cl_X4.2.1 (hT _ cl_X4.2.2.2.2.2.2.1)
  obtain ⟨c5, i5, k5⟩ := u_known (C := RX5) (T := TX5) (N := 6) (n := 6) hT cl_X5.2.1 (hT _ cl_X5.2.2.2.2.2.2.1)
  obtain ⟨c6, i6, k6⟩ := u_known (C := RX6) (T := TX6) (N := 4) (n := 4) hT cl_X6.2.1 (hT _ cl_X6.2.2.2.2.2.2.1)
  obtain ⟨c7, i7, k7⟩ := u_known (C := RX7) (T := TX7) (N := 9) (n := 9) hT cl_X7.2.1 (hT _ cl_X7.2.2.2.2.2.2.1)
  obtain ⟨c8, i8, k8⟩ := u_known (C := RX8) (T := TX8) (N := 10) (n := 10) hT cl_X8.2.1 (hT _ cl_X8.2.2.2.2.2.2.1)
  obtain ⟨c9, i9, k9⟩ := u_known (C := RX9) (T := TX9) (N := 9) (n := 9) hT cl_X9.2.1 (hT _ cl_X9.2.2.2.2.2.2.1)
  obtain ⟨c10, i10, k10⟩ := u_known (C := RX10) (T := TX10) (N := 54) (n := 54) hT cl_X10.2.1 (hT _ cl_X10.2.2.2.2.2.2.1)
  obtain ⟨a0, b0⟩ := st_arr (ty := .int) (hT _ ac_int) (fun _ h => by cases h)
  obtain ⟨a1, b1⟩ := st_arr (ty := .byte) (hT _ ac_byte) (fun _ h => by cases h)
  obtain ⟨a2, b2⟩ := st_arr (ty := .boolean) (hT _ ac_boolean) (fun _ h => by cases h)
  obtain ⟨a3, b3⟩ := st_arr (ty := .long) (hT _ ac_long) (fun _ h => by cases h)
  obtain ⟨a4, b4⟩ := st_arq (E := "BarPilot$Rule") (hts _ (List.mem_of_getElem? (i := 279) (by decide +kernel)))
  obtain ⟨a5, b5⟩ := st_arq (E := "BarPilot$Book") (hts _ (List.mem_of_getElem? (i := 373) (by decide +kernel)))
  obtain ⟨a6, b6⟩ := st_arq (E := "BarPilot$Scene") (hts _ (List.mem_of_getElem? (i := 418) (by decide +kernel)))
  refine ⟨(fun k => [c0, c1, c2, c3, c4, c5, c6, c7, c8, c9, c10].getD k c0, fun k => [i0, i1, i2, i3, i4, i5, i6, i7, i8, i9, i10].getD k i0), fun k => [a0, a1, a2, a3, a4, a5, a6].getD k a0, ?_, ?_⟩
  · intro k q hq
    match k, hq with
    | 0, hq => cases hq; exact k0
    | 1, hq => cases hq; exact k1
    | 2, hq => cases hq; exact k2
    | 3, hq => cases hq; exact k3
    | 4, hq => cases hq; exact k4
    | 5, hq => cases hq; exact k5
    | 6, hq => cases hq; exact k6
    | 7, hq => cases hq; exact k7
    | 8, hq => cases hq; exact k8
    | 9, hq => cases hq; exact k9
    | 10, hq => cases hq; exact k10
    | k + 11, hq => simp [vwCl] at hq
  · intro k q hq
    match k, hq with
    | 0, hq => cases hq; exact b0
    | 1, hq => cases hq; exact b1
    | 2, hq => cases hq; exact b2
    | 3, hq => cases hq; exact b3
    | 4, hq => cases hq; exact b4
    | 5, hq => cases hq; exact b5
    | 6, hq => cases hq; exact b6
    | k + 7, hq => simp [TYS, TYF] at hq
theorem st_Nst (hts : ∀ w ∈ lw_tbl, w.before args s = true) : Nst s :=
  ⟨⟨va_Nw.of rfl (hts _ (List.mem_of_getElem? (i := 137) (by decide +kernel))), va_Nw.of rfl (hts _ (List.mem_of_getElem? (i := 188) (by decide +kernel))), va_Nw.of rfl (hts _ (List.mem_of_getElem? (i := 282) (by decide +kernel))), va_Nw.of rfl (hts _ (List.mem_of_getElem? (i := 287) (by decide +kernel)))⟩,
   va_AO.of (hts _ (List.mem_of_getElem? (i := 279) (by decide +kernel))), va_AO.of (hts _ (List.mem_of_getElem? (i := 373) (by decide +kernel))), va_AO.of (hts _ (List.mem_of_getElem? (i := 418) (by decide +kernel)))⟩
end STA
theorem all_in {n : Nat} {f : Nat → Bool} (h : (List.range n).all f = true) {i : Nat} (hi : i < n) : f i = true := List.all_eq_true.mp h i (List.mem_range.mpr hi)
theorem st_Kon {s : State} {args : Array Value} (b : Nat) (hts : ∀ w ∈ lw_tbl, w.before args s = true) (hgv : (Jvm.Cond.and given_1 narrow_1).before args s = true) : ∃ κ : Nat → Nat, κ 300 = b ∧ Kon κ (fun q => s.heap.size ≤ q) s s.heap := by
  have hF : ∀ w ∈ FLt, w.before args s = true := flat_of_before _ hgv
  have hA : ∀ a : Nat, a < s.heap.size → ¬ (fun q => s.heap.size ≤ q) a := fun a h => Nat.not_le.mpr h
  obtain ⟨adK, adV, hSS, hev⟩ := vk_Sof (args := args) (s := s) (N := 18) (tm := tmS) (len := STRn) (byt := STRb) (A := fun q => s.heap.size ≤ q) (by decide) (fun i hi => hF _ (of_decide_eq_true (all_in fs_ex hi))) (fun i hi => hF _ (of_decide_eq_true (all_in fs_co hi))) (fun i hi => hF _ (of_decide_eq_true (all_in fs_ar hi))) (fun i hi => hF _ (of_decide_eq_true (all_in fs_le hi)))
    (fun i hi j hj => hF _ (of_decide_eq_true (all_in (all_in fs_el hi) hj))) (fun i j hi hj hne => by
      have h1 : (decide (i = j) || (decide ((i, j) ∈ PNL) || decide ((j, i) ∈ PNL))) = true := all_in (all_in ne_in hi) hj
      rw [Bool.or_eq_true, Bool.or_eq_true] at h1
      rcases h1 with h1 | h1 | h1
      · exact absurd (of_decide_eq_true h1) hne
      · exact Or.inl (ne_all (br hgv) (i, j) (of_decide_eq_true h1))
      · exact Or.inr (ne_all (br hgv) (j, i) (of_decide_eq_true h1))) hA
  obtain ⟨tw, htw, hTw⟩ := va_Tof (args := args) (s := s) (tm := .static RX5 "WORDS" "[J") (ty := .long) (N := 11) (f := fun j => .long (WRD.getD j 0)) (A := fun q => s.heap.size ≤ q) (by decide) (hF _ fw_ar) (va_eqt (hF _ fw_le)) (fun j hj => va_eqtl (hF _ (of_decide_eq_true (all_in fw_el hj)))) hA
  have hZw := va_Zof (args := args) (s := s) (A := fun q => s.heap.size ≤ q) (hts _ fl_w) (hts _ fi_w) htw hA
  have hZc := va_Zof (args := args) (s := s) (A := fun q => s.heap.size ≤ q) (hts _ fl_c) (hts _ fi_c) (va_eqi (hF _ fc_cs)) hA
  have hZs := va_Zqof (args := args) (s := s) (A := fun q => s.heap.size ≤ q) (hts _ fl_s) (hts _ fi_s) (hF _ fc_si) hA
  obtain ⟨fm, v, hv, hZv⟩ : ∃ (fm : Nat) (v : Value), (v = .null ∨ v = .ref fm) ∧ va_Z "jdk/internal/util/Preconditions" "SIOOBE_FORMATTER" "Ljava/util/function/BiFunction;" v (fun q => s.heap.size ≤ q) s s.heap := by
    rcases hZs with h | ⟨t, h⟩
    · exact ⟨0, .null, Or.inl rfl, h⟩
    · exact ⟨t, .ref t, Or.inr rfl, h⟩
  let κ : Nat → Nat := fun j => if j = 300 then b else if j = 200 then fm else if j = 0 then tw else if j < 100 then adK (j - 1) else adV (j - 100)
  have e1 : ∀ i, i < 18 → κ (1 + i) = adK i := fun i hi => by
    show (if 1 + i = 300 then b else if 1 + i = 200 then fm else if 1 + i = 0 then tw else if 1 + i < 100 then adK (1 + i - 1) else adV (1 + i - 100)) = _
    rw [if_neg (by omega), if_neg (by omega), if_neg (by omega), if_pos (by omega), Nat.add_sub_cancel_left]
  have e2 : ∀ i, i < 18 → κ (100 + i) = adV i := fun i hi => by
    show (if 100 + i = 300 then b else if 100 + i = 200 then fm else if 100 + i = 0 then tw else if 100 + i < 100 then adK (100 + i - 1) else adV (100 + i - 100)) = _
    rw [if_neg (by omega), if_neg (by omega), if_neg (by omega), if_neg (by omega), Nat.add_sub_cancel_left]
  refine ⟨κ, rfl, st_Nst hts, ⟨hZw, hTw⟩, ⟨hZc, v, hv, hZv⟩, fun i hi => ?_, ?_⟩
  · rw [e1 i hi]
    exact vk_R.of (hts _ (of_decide_eq_true (all_in fs_rf hi))) (hev i hi)
  · refine ⟨fun i hi => ?_, fun i j hi hj h => ?_⟩
    · have h0 := hSS.1 i hi
      dsimp only
      rw [e1 i hi, e2 i hi]
      exact h0
    · dsimp only at h
      rw [e1 i hi, e1 j hj] at h
      exact hSS.2 i j hi hj h
/-- the walk of the law out of the pure law -/
theorem whole_start_of {p : Program} {e : Env} {s : State} {m : MethodId} {below : List Frame} {meth : Method} {c : Code} (l : Launch) {b L : Nat} {xs : Nat → Int32} {M' : Mem} (ho : f_L_law L xs M0 = some (1, M')) (h1 : (mS M').length ≤ room_1.cells) (h2 : us M' ≤ room_1.slots) (C0 : lw_At p s m meth c b L xs) : W p l e room_1 s m #[Value.ref b] below meth c s.heap [] 0 0 (lw_Z below #[Value.ref b] s) (entryFrame m ([Value.ref b] : List Value).toArray 4) := by
  obtain ⟨hx, hb, hr, hml, hown, hts, hX, hbl, hlocks, hgv⟩ := id C0
  obtain ⟨D, cA, hK⟩ := st_K hts
  obtain ⟨κ, hκ, hKon⟩ := st_Kon b hts hgv
  have hl := lv_entry ([.ref b]) (n := 4) (Nat.le_of_ble_eq_true rfl)
  rw [lg_entry_eq]
  generalize (lg_sl ([.ref b]) ++ List.replicate (4 - (lg_sl ([.ref b])).length) Slot.unset).toArray = ls at hl ⊢
  have hl : lv_has ls 4 (lvm s.heap.size κ [(0, .float 300)]) := by
    have e1 : lvm s.heap.size κ [(0, .float 300)] = [(0, .ref b)] := by show [(0, Value.ref (κ 300))] = _; rw [hκ]
    rw [e1]; exact hl
  exact (rf_L_law (b := b) L xs M0 M' ho).2 h1 h2 p l e s m below meth c s.heap [] cA D κ 0 0 ls ⟨⟨hx, hb, hml, hr, hown, fun w hw => hts w (tb_sub hw), hlocks⟩, ⟨hX, hbl, hκ, hK, hKon⟩, ⟨fun k q h => by simp [wld, M0, mS] at h, ⟨fun i j p q h => by simp [wld, M0, mS] at h, fun k q h => by simp [wld, M0, mS] at h⟩, va_S.rf⟩, rfl, rfl⟩ hl
