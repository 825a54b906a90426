/-! RUNNING THE PURE FUNCTIONS: rules for simp, over shapes S = mS M, references R = mR M, contents mI M, mL M -/
theorem li (n : Nat) : (OfNat.ofNat n : Int32) = nI n := rfl
theorem lL (n : Nat) : (OfNat.ofNat n : Int64) = lN n := rfl
def lenOf (S : List Shp) (t a : Nat) : Nat := (S[a]?.bind (Sum.elim (fun _ => none) (fun p => if p.1 = t then some p.2 else none))).getD 0
def clsOf (S : List Shp) (a : Nat) : Nat := (S[a]?.bind (Sum.elim (fun c => some (c + 1)) (fun _ => none))).getD 0
def oS (S : List Shp) (ci : Nat) (q : Option Nat) : Option Nat := q.bind (fun a => if S[a]? = some (Sum.inl ci) then some a else none)
def ixS (S : List Shp) (t : Nat) (q : Option Nat) (i : Int32) : Option Nat := q.bind (fun a => (S[a]?.bind (Sum.elim (fun _ => none) (fun p => if p.1 = t then some p.2 else none))).bind (fun n => if i < 0 ∨ n ≤ i.toNatClampNeg then none else some a))
def lnS (S : List Shp) (q : Option Nat) : Option Int32 := q.bind (fun a => S[a]?.bind (Sum.elim (fun _ => none) (fun p => if p.1 < 7 then some (Int32.ofNat p.2) else none)))
theorem e_oO (M : Mem) (ci : Nat) (q : Option Nat) : oO M ci q = oS (mS M) ci q := rfl
theorem e_gI (M : Mem) (ci k : Nat) (q : Option Nat) : gI M ci k q = (oS (mS M) ci q).map (fun a => mI M a k) := rfl
theorem e_gL (M : Mem) (ci k : Nat) (q : Option Nat) : gL M ci k q = (oS (mS M) ci q).map (fun a => mL M a k) := rfl
theorem e_gR (M : Mem) (ci k : Nat) (q : Option Nat) : gR M ci k q = (oS (mS M) ci q).map (fun a => mR M a k) := rfl
theorem e_pI (M : Mem) (ci k : Nat) (q : Option Nat) (v : Int32) : pI M ci k q v = (oS (mS M) ci q).map (fun a => sI M a k v) := rfl
theorem e_pL (M : Mem) (ci k : Nat) (q : Option Nat) (v : Int64) : pL M ci k q v = (oS (mS M) ci q).map (fun a => sL M a k v) := rfl
theorem e_pR (M : Mem) (ci k : Nat) (q : Option Nat) (v : Option Nat) : pR M ci k q v = (oS (mS M) ci q).map (fun a => sR M a k v) := rfl
theorem e_aI (M : Mem) (t : Nat) (q : Option Nat) (i : Int32) : aI M t q i = (ixS (mS M) t q i).map (fun a => mI M a i.toNatClampNeg) := rfl
theorem e_aL (M : Mem) (q : Option Nat) (i : Int32) : aL M q i = (ixS (mS M) 3 q i).map (fun a => mL M a i.toNatClampNeg) := rfl
theorem e_aR (M : Mem) (t : Nat) (q : Option Nat) (i : Int32) : aR M t q i = (ixS (mS M) t q i).map (fun a => mR M a i.toNatClampNeg) := rfl
theorem e_wI (M : Mem) (t : Nat) (q : Option Nat) (i : Int32) (v : Int32) : wI M t q i v = (ixS (mS M) t q i).map (fun a => sI M a i.toNatClampNeg v) := rfl
theorem e_wL (M : Mem) (q : Option Nat) (i : Int32) (v : Int64) : wL M q i v = (ixS (mS M) 3 q i).map (fun a => sL M a i.toNatClampNeg v) := rfl
theorem e_lnA (M : Mem) (q : Option Nat) : lnA M q = lnS (mS M) q := rfl
theorem oS_ok {S : List Shp} {ci a : Nat} (h : clsOf S a = ci + 1) : oS S ci (some a) = some a := by
  unfold clsOf at h
  cases hs : S[a]? with
  | none => simp [hs] at h
  | some sh =>
    cases sh with
    | inl c =>
      simp [hs] at h
      subst h
      simp [oS, hs]
    | inr p => simp [hs] at h
theorem lenOf_at {S : List Shp} {t a : Nat} (h : 0 < lenOf S t a) : S[a]? = some (.inr (t, lenOf S t a)) := by
  unfold lenOf at h ⊢
  cases hs : S[a]? with
  | none => simp [hs] at h
  | some sh =>
    cases sh with
    | inl c => simp [hs] at h
    | inr p =>
      obtain ⟨p1, p2⟩ := p
      by_cases hp : p1 = t
      · subst hp; simp
      · simp [hs, hp] at h
theorem ixS_ok {S : List Shp} {t a i : Nat} (h : i < lenOf S t a) (hb : i < 2 ^ 31) : ixS S t (some a) (nI i) = some a := by
  have h0 := lenOf_at (Nat.lt_of_le_of_lt (Nat.zero_le i) h)
  have h1 : ¬ (nI i < 0 ∨ lenOf S t a ≤ i) := fun z => by
    rcases z with z | z
    · exact nI_pos hb z
    · omega
  unfold ixS
  rw [Option.bind_some, h0]
  simp [nI_clamp hb, h1]
theorem lnS_ok {S : List Shp} {t a n : Nat} (h : lenOf S t a = n) (hn : 0 < n) (ht : t < 7) : lnS S (some a) = some (nI n) := by
  have h0 := lenOf_at (S := S) (t := t) (a := a) (by omega)
  rw [h] at h0
  simp [lnS, h0, ht, nI]
theorem cl_some {β γ : Type} (r : β) (M : Mem) (K : β → Mem → Option γ) : cl (some (r, M)) K = K r M := rfl
theorem nm_eq {β γ : Type} (x : β) (k : β → γ) : nm x k = k x := rfl
theorem ckZ_0 {α : Type} (o : Option (α × Mem)) : ckZ 0 o = o := rfl
theorem ckZ_1 {α : Type} (o : Option (α × Mem)) : ckZ 1 o = o := rfl
theorem ckZ_n0 {α : Type} (o : Option (α × Mem)) : ckZ (nI 0) o = o := rfl
theorem ckZ_n1 {α : Type} (o : Option (α × Mem)) : ckZ (nI 1) o = o := rfl
/-- a truth value as the machine has it -/
def bI (b : Bool) : Int32 := if b then nI 1 else nI 0
theorem ckZ_b {α : Type} (b : Bool) (o : Option (α × Mem)) : ckZ (bI b) o = o := by cases b <;> rfl
theorem bI_0 (b : Bool) : (bI b = nI 0) = (b = false) := by cases b <;> simp [bI] <;> decide
theorem bI_z (b : Bool) : (bI b = 0) = (b = false) := bI_0 b
/-! what stays under writes -/
theorem mS_sI (M : Mem) (a k : Nat) (v : Int32) : mS (sI M a k v) = mS M := rfl
theorem mS_sL (M : Mem) (a k : Nat) (v : Int64) : mS (sL M a k v) = mS M := rfl
theorem mS_sR (M : Mem) (a k : Nat) (v : Option Nat) : mS (sR M a k v) = mS M := rfl
theorem mS_sIr (M : Mem) (a : Nat) (g : Nat → Int32) : mS (sIr M a g) = mS M := rfl
theorem mR_sI (M : Mem) (a k : Nat) (v : Int32) : mR (sI M a k v) = mR M := rfl
theorem mR_sL (M : Mem) (a k : Nat) (v : Int64) : mR (sL M a k v) = mR M := rfl
theorem mR_sIr (M : Mem) (a : Nat) (g : Nat → Int32) : mR (sIr M a g) = mR M := rfl
theorem mL_sI (M : Mem) (a k : Nat) (v : Int32) : mL (sI M a k v) = mL M := rfl
theorem mL_sR (M : Mem) (a k : Nat) (v : Option Nat) : mL (sR M a k v) = mL M := rfl
theorem mL_sIr (M : Mem) (a : Nat) (g : Nat → Int32) : mL (sIr M a g) = mL M := rfl
theorem mI_sL (M : Mem) (a k : Nat) (v : Int64) : mI (sL M a k v) = mI M := rfl
theorem mI_sR (M : Mem) (a k : Nat) (v : Option Nat) : mI (sR M a k v) = mI M := rfl
theorem mI_sI (M : Mem) (a k : Nat) (v : Int32) (b j : Nat) : mI (sI M a k v) b j = if b = a ∧ j = k then v else mI M b j := by
  by_cases h : b = a
  · subst h
    rw [mI_sI_s]
    by_cases hj : j = k
    · subst hj; simp [upd]
    · simp [upd, hj]
  · rw [mI_sI_o h]; simp [h]
theorem mL_sL (M : Mem) (a k : Nat) (v : Int64) (b j : Nat) : mL (sL M a k v) b j = if b = a ∧ j = k then v else mL M b j := by
  by_cases h : b = a
  · subst h
    rw [mL_sL_s]
    by_cases hj : j = k
    · subst hj; simp [vp_updL]
    · simp [vp_updL, hj]
  · rw [mL_sL_o h]; simp [h]
theorem mR_sR (M : Mem) (a k : Nat) (v : Option Nat) (b j : Nat) : mR (sR M a k v) b j = if b = a ∧ j = k then v else mR M b j := by
  by_cases h : b = a
  · subst h
    rw [mR_sR_s]
    by_cases hj : j = k
    · subst hj; simp [updR]
    · simp [updR, hj]
  · rw [mR_sR_o h]; simp [h]
/-! numbers -/
theorem n_add (a b : Nat) : nI a + nI b = nI (a + b) := nI_add a b
theorem n_mul (a b : Nat) : nI a * nI b = nI (a * b) := pk_mul a b
theorem n_lt {a b : Nat} (ha : a < 2 ^ 31) (hb : b < 2 ^ 31) : (nI a < nI b) = (a < b) := propext (nI_ltI ha hb)
theorem n_le {a b : Nat} (ha : a < 2 ^ 31) (hb : b < 2 ^ 31) : (nI a ≤ nI b) = (a ≤ b) := propext (nI_leI ha hb)
theorem n_eq {a b : Nat} (ha : a < 2 ^ 31) (hb : b < 2 ^ 31) : (nI a = nI b) = (a = b) := propext (nI_eq ha hb)
theorem n_cl {a : Nat} (ha : a < 2 ^ 31) : (nI a).toNatClampNeg = a := nI_clamp ha
theorem n_sub {a b : Nat} (h : b ≤ a) : nI a - nI b = nI (a - b) := pk_sub h
theorem FU_lt {n : Nat} (h : n < 100000) : ∃ k, FU = n + 1 + k := ⟨100000 - (n + 1), by unfold FU; omega⟩
