/-! PURE MEMORY: cells by their places (0, 1, ..): shapes, and what int, long and reference slots hold; the machine's cell of place a lies at b + a. -/
abbrev Shp : Type := Nat ⊕ (Nat × Nat)
abbrev Mem : Type := List Shp × (Nat → Nat → Int32) × (Nat → Nat → Int64) × (Nat → Nat → Option Nat)
def mS (M : Mem) : List Shp := M.1
def mI (M : Mem) : Nat → Nat → Int32 := M.2.1
def mL (M : Mem) : Nat → Nat → Int64 := M.2.2.1
def mR (M : Mem) : Nat → Nat → Option Nat := M.2.2.2
def rowU {α : Type} (f : Nat → Nat → α) (a : Nat) (g : Nat → α) : Nat → Nat → α := fun q => if q = a then g else f q
def updR (f : Nat → Option Nat) (k : Nat) (x : Option Nat) : Nat → Option Nat := fun j => if j = k then x else f j
def sIr (M : Mem) (a : Nat) (g : Nat → Int32) : Mem := (M.1, rowU M.2.1 a g, M.2.2.1, M.2.2.2)
def sI (M : Mem) (a k : Nat) (v : Int32) : Mem := sIr M a (upd (mI M a) k v)
def sL (M : Mem) (a k : Nat) (v : Int64) : Mem := (M.1, M.2.1, rowU M.2.2.1 a (vp_updL (mL M a) k v), M.2.2.2)
def sR (M : Mem) (a k : Nat) (v : Option Nat) : Mem := (M.1, M.2.1, M.2.2.1, rowU M.2.2.2 a (updR (mR M a) k v))
def nw (M : Mem) (sh : Shp) : Mem := (M.1 ++ [sh], rowU M.2.1 M.1.length (fun _ => 0), rowU M.2.2.1 M.1.length (fun _ => 0), rowU M.2.2.2 M.1.length (fun _ => none))
theorem rowU_s {α : Type} (f : Nat → Nat → α) (a : Nat) (g : Nat → α) : rowU f a g a = g := by simp [rowU]
theorem rowU_n {α : Type} (f : Nat → Nat → α) {a q : Nat} (g : Nat → α) (h : q ≠ a) : rowU f a g q = f q := by simp [rowU, h]
/-! what the fields of a class are: 0 whole numbers, 1 longs, 2 references -/
def fkd : FieldType → Nat
  | .long => 1
  | .object _ => 2
  | .array _ => 2
  | _ => 0
def clK : List (List Nat) := [
  [0, 0, 0, 2, 2, 2, 2, 2, 2, 2, 2, 0],
  [2, 2],
  [2, 2, 2, 2, 2, 0, 0, 0, 0, 2, 0],
  [2, 2, 2, 2, 2, 0, 0, 0],
  [0, 0, 0, 2, 2],
  [2, 2, 2, 0, 0, 0],
  [0, 2, 2, 2],
  [2, 0, 0, 0, 0, 0, 1, 0, 0],
  [0, 0, 0, 0, 0, 2, 2, 2, 2, 2],
  [2, 2, 2, 2, 2, 2, 2, 2, 0],
  [0, 2, 2, 2, 2, 2, 2, 2, 2, 2, 2, 2, 2, 2, 2, 2, 2, 0, 0, 0, 0, 0, 0, 0, 0, 0, 0, 2, 2, 2, 2, 2, 2, 2, 2, 2, 2, 2, 0, 0, 2, 2, 0, 0, 0, 2, 2, 2, 2, 2, 2, 2, 0, 0]]
def shSz : Shp → Nat
  | .inl ci => (clK.getD ci []).length
  | .inr q => q.2
def us (M : Mem) : Nat := ((mS M).map shSz).sum
def fval (b : Nat) (M : Mem) (a k t : Nat) : Value := if t = 1 then .long (mL M a k) else if t = 2 then va_rf ((mR M a k).map (b + ·)) else .int (mI M a k)
def fobj (b : Nat) (M : Mem) (a ci : Nat) : List Value := (clK.getD ci []).mapIdx (fun k t => fval b M a k t)
def farr (b : Nat) (M : Mem) (a t : Nat) : (Nat → Int32) ⊕ (Nat → Int64) ⊕ (Nat → UInt32) ⊕ (Nat → UInt64) ⊕ (Nat → Option Nat) :=
  if t < 3 then .inl (mI M a) else if t = 3 then .inr (.inl (mL M a)) else .inr (.inr (.inr (.inr (fun k => (mR M a k).map (b + ·)))))
def cel (b : Nat) (cA : Nat → ClassId) (M : Mem) (a : Nat) : Shp → va_E
  | .inl ci => .inr (ci, fobj b M a ci)
  | .inr q => .inl (cA q.1, q.2, farr b M a q.1)
def wld (b : Nat) (cA : Nat → ClassId) (M : Mem) : va_W := (mS M).mapIdx (fun a sh => (b + a, cel b cA M a sh))
def TYF : List FieldType := [.int, .byte, .boolean, .long, .object "BarPilot$Rule", .object "BarPilot$Book", .object "BarPilot$Scene"]
def TYS (cA : Nat → ClassId) : List (ClassId × FieldType) := TYF.mapIdx (fun t ty => (cA t, ty))
theorem TYS_at (cA : Nat → ClassId) {t : Nat} {ty : FieldType} (h : TYF[t]? = some ty) : (TYS cA)[t]? = some (cA t, ty) := by
  simp [TYS, List.getElem?_mapIdx, h]
theorem wld_at {b : Nat} {cA : Nat → ClassId} {M : Mem} {a : Nat} {sh : Shp} (h : (mS M)[a]? = some sh) : (wld b cA M)[a]? = some (b + a, cel b cA M a sh) := by
  simp [wld, List.getElem?_mapIdx, h]
theorem wld_len {b : Nat} {cA : Nat → ClassId} {M : Mem} : (wld b cA M).length = (mS M).length := by simp [wld]
theorem fobj_at {b : Nat} {M : Mem} {a ci k t : Nat} {ks : List Nat} (hk : clK.getD ci [] = ks) (h : ks[k]? = some t) : (fobj b M a ci)[k]? = some (fval b M a k t) := by
  subst hk
  simp only [fobj, List.getElem?_mapIdx, h, Option.map_some]
theorem cel_congr {b : Nat} {cA : Nat → ClassId} {M M2 : Mem} {a : Nat} (h1 : mI M2 a = mI M a) (h2 : mL M2 a = mL M a) (h3 : mR M2 a = mR M a) (sh : Shp) : cel b cA M2 a sh = cel b cA M a sh := by
  cases sh with
  | inl ci => simp only [cel, fobj, fval, h1, h2, h3]
  | inr q => simp only [cel, farr, h1, h2, h3]
/-- one cell written -/
theorem wld_set {b : Nat} {cA : Nat → ClassId} {M M2 : Mem} {a : Nat} {sh : Shp} {e : va_E} (hs : mS M2 = mS M) (hat : (mS M)[a]? = some sh) (he : cel b cA M2 a sh = e)
    (ho : ∀ q, q ≠ a → mI M2 q = mI M q ∧ mL M2 q = mL M q ∧ mR M2 q = mR M q) : (wld b cA M).set a (b + a, e) = wld b cA M2 := by
  apply List.ext_getElem?
  intro q
  by_cases hq : q = a
  · subst hq
    rw [List.getElem?_set_self (by rw [wld_len]; exact (List.getElem?_eq_some_iff.mp hat).1), wld_at (by rw [hs]; exact hat), he]
  · rw [List.getElem?_set_ne (Ne.symm hq)]
    simp only [wld, List.getElem?_mapIdx, hs]
    cases (mS M)[q]? with
    | none => rfl
    | some sh2 =>
      obtain ⟨h1, h2, h3⟩ := ho q hq
      simp only [Option.map_some]
      rw [cel_congr h1 h2 h3]
/-- one cell made -/
theorem wld_push {b : Nat} {cA : Nat → ClassId} {M : Mem} {sh : Shp} {e : va_E} (he : cel b cA (nw M sh) (mS M).length sh = e) : wld b cA M ++ [(b + (mS M).length, e)] = wld b cA (nw M sh) := by
  apply List.ext_getElem?
  intro q
  have hS : mS (nw M sh) = mS M ++ [sh] := rfl
  by_cases hq : q < (mS M).length
  · rw [List.getElem?_append_left (by rw [wld_len]; exact hq)]
    simp only [wld, List.getElem?_mapIdx, hS]
    rw [List.getElem?_append_left hq]
    have hn : q ≠ M.1.length := Nat.ne_of_lt hq
    cases (mS M)[q]? with
    | none => rfl
    | some sh2 =>
      simp only [Option.map_some]
      rw [cel_congr (M := M) (M2 := nw M sh) (rowU_n _ _ hn) (rowU_n _ _ hn) (rowU_n _ _ hn)]
  · rw [List.getElem?_append_right (by rw [wld_len]; omega), wld_len]
    simp only [wld, List.getElem?_mapIdx, hS]
    rw [List.getElem?_append_right (by omega)]
    by_cases hz : q = (mS M).length
    · subst hz
      simp [he]
    · have h1 : q - (mS M).length = (q - (mS M).length - 1) + 1 := by omega
      rw [h1]
      simp
theorem fobj_set {b : Nat} {M M2 : Mem} {a ci k t : Nat} {v : Value} (ht : (clK.getD ci [])[k]? = some t) (hv : fval b M2 a k t = v)
    (ho : ∀ j, j ≠ k → mI M2 a j = mI M a j ∧ mL M2 a j = mL M a j ∧ mR M2 a j = mR M a j) : (fobj b M a ci).set k v = fobj b M2 a ci := by
  apply List.ext_getElem?
  intro q
  have hlen : (fobj b M a ci).length = (clK.getD ci []).length := by simp [fobj]
  by_cases hq : q = k
  · subst hq
    rw [List.getElem?_set_self (by rw [hlen]; exact (List.getElem?_eq_some_iff.mp ht).1)]
    simp only [fobj, List.getElem?_mapIdx, ht, Option.map_some, hv]
  · rw [List.getElem?_set_ne (Ne.symm hq)]
    simp only [fobj, List.getElem?_mapIdx]
    obtain ⟨h1, h2, h3⟩ := ho q hq
    simp only [fval, h1, h2, h3]
theorem us_nw (M : Mem) (sh : Shp) : us (nw M sh) = us M + shSz sh := by
  show ((M.1 ++ [sh]).map shSz).sum = _
  simp [us, mS]
/-! values: a reference names a place; a float stands for a constant of the classes (a text, a row) -/
def cv (b : Nat) (κ : Nat → Nat) : Value → Value
  | .ref a => .ref (b + a)
  | .float u => .ref (κ u.toNat)
  | v => v
theorem cv_cat (b : Nat) (κ : Nat → Nat) (v : Value) : (cv b κ v).category = v.category := by cases v <;> rfl
theorem cv_rf (b : Nat) (κ : Nat → Nat) (o : Option Nat) : cv b κ (va_rf o) = va_rf (o.map (b + ·)) := by cases o <;> rfl
theorem rf_cat (o : Option Nat) : (va_rf o).category = 1 := by cases o <;> rfl
def lvm (b : Nat) (κ : Nat → Nat) (L : List (Nat × Value)) : List (Nat × Value) := L.map (fun q => (q.1, cv b κ q.2))
theorem lvm_at {b : Nat} {κ : Nat → Nat} {L : List (Nat × Value)} {k i : Nat} {v : Value} (h : L[k]? = some (i, v)) : (lvm b κ L)[k]? = some (i, cv b κ v) := by simp [lvm, h]
def stL (L : List (Nat × Value)) (i : Nat) (v : Value) : List (Nat × Value) := (i, v) :: L.filter (fun q => !(q.1 == i) && !(q.1 + 1 == i && q.2.category == 2))
def stL2 (L : List (Nat × Value)) (i : Nat) (v : Value) : List (Nat × Value) := (i, v) :: L.filter (fun q => !(q.1 == i) && (!(q.1 == i + 1) && !(q.1 + 1 == i && q.2.category == 2)))
theorem lvm_st (b : Nat) (κ : Nat → Nat) (L : List (Nat × Value)) (i : Nat) (v : Value) : (i, cv b κ v) :: (lvm b κ L).filter (fun q => !(q.1 == i) && !(q.1 + 1 == i && q.2.category == 2)) = lvm b κ (stL L i v) := by
  simp only [lvm, stL, List.map_cons, List.filter_map]
  congr 2
  apply List.filter_congr
  intro q _
  simp [Function.comp, cv_cat]
theorem lvm_st2 (b : Nat) (κ : Nat → Nat) (L : List (Nat × Value)) (i : Nat) (v : Value) : (i, cv b κ v) :: (lvm b κ L).filter (fun q => !(q.1 == i) && (!(q.1 == i + 1) && !(q.1 + 1 == i && q.2.category == 2))) = lvm b κ (stL2 L i v) := by
  simp only [lvm, stL2, List.map_cons, List.filter_map]
  congr 2
  apply List.filter_congr
  intro q _
  simp [Function.comp, cv_cat]
theorem lv_args_cv (b : Nat) (κ : Nat → Nat) (vs : List Value) : ∀ i, lv_args i (vs.map (cv b κ)) = lvm b κ (lv_args i vs) := by
  induction vs with
  | nil => intro i; rfl
  | cons v vs ih =>
    intro i
    simp only [List.map_cons, lv_args, lvm]
    rw [cv_cat, ih]
    rfl
theorem lg_sl_len (vs : List Value) : (lg_sl vs).length = (vs.map (fun v => v.category)).sum := by
  induction vs with
  | nil => rfl
  | cons v vs ih =>
    have h0 : lg_sl (v :: vs) = (if v.category = 2 then [Slot.val v, Slot.second] else [Slot.val v]) ++ lg_sl vs := by unfold lg_sl; rw [List.flatMap_cons]
    rw [h0, List.length_append, ih, List.map_cons, List.sum_cons]
    rcases lv_cat v with h | h
    · rw [if_neg (by rw [h]; decide), h]; rfl
    · rw [if_pos h, h]; rfl
theorem cat_sum (b : Nat) (κ : Nat → Nat) (vs : List Value) : ((vs.map (cv b κ)).map (fun v => v.category)).sum = (vs.map (fun v => v.category)).sum := by
  rw [List.map_map]
  congr 1
  apply List.map_congr_left
  intro v _
  exact cv_cat b κ v
