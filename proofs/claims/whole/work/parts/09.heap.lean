/-! RF over the heap: fields, rows, new cells, calls -/
def dv : Nat → Value
  | 1 => .long 0
  | 2 => .null
  | _ => .int 0
def CL (ci : Nat) (C : String) (T : u_T) (N : Nat) (ty0 : Nat → FieldType) : Prop :=
  vwCl[ci]? = some (C, T, N) ∧ (∀ w ∈ u_ws C T N, w ∈ TB) ∧ (∀ k, k < N → parseFieldDescriptor (T k).2.2.1 = some (ty0 k)) ∧ (∀ a, a < N → ∀ b, b < N → a ≠ b → (T a).2.1 ≠ (T b).2.1) ∧
  (clK.getD ci []).length = N ∧ (∀ k, k < N → (clK.getD ci [])[k]? = some (fkd (ty0 k)) ∧ defaultValue (ty0 k) = dv (fkd (ty0 k))) ∧ Cond.instantiable C N ∈ TB ∧ Cond.initialized C ∈ TB
def FLK (own : String) (idx ci k : Nat) (ty : FieldType) (fin : Bool) (dcl : String) : Prop :=
  ∃ (C : String) (T : u_T) (N : Nat) (ty0 : Nat → FieldType), CL ci C T N ty0 ∧ k < N ∧ ty0 k = ty ∧ Cond.fieldLink own idx (T k).1 (T k).2.1 (T k).2.2.1 ∈ TB ∧ (T k).2.2.2 = fin ∧ (T k).1 = dcl
/-! pure reads and writes -/
def oO (M : Mem) (ci : Nat) (q : Option Nat) : Option Nat := q.bind (fun a => if (mS M)[a]? = some (Sum.inl ci) then some a else none)
def gI (M : Mem) (ci k : Nat) (q : Option Nat) : Option Int32 := (oO M ci q).map (fun a => mI M a k)
def gL (M : Mem) (ci k : Nat) (q : Option Nat) : Option Int64 := (oO M ci q).map (fun a => mL M a k)
def gR (M : Mem) (ci k : Nat) (q : Option Nat) : Option (Option Nat) := (oO M ci q).map (fun a => mR M a k)
def pI (M : Mem) (ci k : Nat) (q : Option Nat) (v : Int32) : Option Mem := (oO M ci q).map (fun a => sI M a k v)
def pL (M : Mem) (ci k : Nat) (q : Option Nat) (v : Int64) : Option Mem := (oO M ci q).map (fun a => sL M a k v)
def pR (M : Mem) (ci k : Nat) (q : Option Nat) (v : Option Nat) : Option Mem := (oO M ci q).map (fun a => sR M a k v)
def aln (M : Mem) (t a : Nat) : Option Nat := (mS M)[a]?.bind (Sum.elim (fun _ => none) (fun p => if p.1 = t then some p.2 else none))
def ixA (M : Mem) (t : Nat) (q : Option Nat) (i : Int32) : Option Nat := q.bind (fun a => (aln M t a).bind (fun n => if i < 0 ∨ n ≤ i.toNatClampNeg then none else some a))
def aI (M : Mem) (t : Nat) (q : Option Nat) (i : Int32) : Option Int32 := (ixA M t q i).map (fun a => mI M a i.toNatClampNeg)
def aL (M : Mem) (q : Option Nat) (i : Int32) : Option Int64 := (ixA M 3 q i).map (fun a => mL M a i.toNatClampNeg)
def aR (M : Mem) (t : Nat) (q : Option Nat) (i : Int32) : Option (Option Nat) := (ixA M t q i).map (fun a => mR M a i.toNatClampNeg)
def wI (M : Mem) (t : Nat) (q : Option Nat) (i : Int32) (v : Int32) : Option Mem := (ixA M t q i).map (fun a => sI M a i.toNatClampNeg v)
def wL (M : Mem) (q : Option Nat) (i : Int32) (v : Int64) : Option Mem := (ixA M 3 q i).map (fun a => sL M a i.toNatClampNeg v)
/-- a row of references takes null, or an object of the class ci -/
def wR (M : Mem) (t ci : Nat) (q : Option Nat) (i : Int32) (v : Option Nat) : Option Mem := (ixA M t q i).bind (fun a => if v = none ∨ oO M ci v = v then some (sR M a i.toNatClampNeg v) else none)
def lnA (M : Mem) (q : Option Nat) : Option Int32 := q.bind (fun a => (mS M)[a]?.bind (Sum.elim (fun _ => none) (fun p => if p.1 < 7 then some (Int32.ofNat p.2) else none)))
def cpy (M : Mem) (q0 : Option Nat) (sp : Int32) (q1 : Option Nat) (dp n : Int32) : Option Mem :=
  q0.bind (fun a0 => q1.bind (fun a1 => (aln M 0 a0).bind (fun n0 => (aln M 0 a1).bind (fun n1 =>
    if (sp < 0 ∨ dp < 0 ∨ n < 0) ∨ n0 < sp.toNatClampNeg + n.toNatClampNeg ∨ n1 < dp.toNatClampNeg + n.toNatClampNeg then none
    else some (sIr M a1 (va_cpy (mI M a0) (mI M a1) sp.toNatClampNeg dp.toNatClampNeg n.toNatClampNeg))))))
def newO {γ : Type} (M : Mem) (ci : Nat) (K : Nat → Mem → Option γ) : Option γ := K (mS M).length (nw M (.inl ci))
def newA {γ : Type} (M : Mem) (t : Nat) (n : Int32) (K : Nat → Mem → Option γ) : Option γ := if n < 0 ∨ 1000000 < n.toNatClampNeg then none else K (mS M).length (nw M (.inr (t, n.toNatClampNeg)))
theorem oO_spec {M : Mem} {ci a : Nat} {q : Option Nat} (h : oO M ci q = some a) : q = some a ∧ (mS M)[a]? = some (.inl ci) := by
  cases q with
  | none => cases h
  | some b =>
    by_cases hb : (mS M)[b]? = some (Sum.inl ci)
    · simp [oO, hb] at h; subst h; exact ⟨rfl, hb⟩
    · simp [oO, hb] at h
theorem gI_spec {M : Mem} {ci k : Nat} {q : Option Nat} {x : Int32} (h : gI M ci k q = some x) : ∃ a, q = some a ∧ (mS M)[a]? = some (.inl ci) ∧ mI M a k = x := by
  unfold gI at h
  cases ho : oO M ci q with
  | none => rw [ho] at h; cases h
  | some a => rw [ho] at h; exact ⟨a, (oO_spec ho).1, (oO_spec ho).2, Option.some.inj h⟩
theorem gL_spec {M : Mem} {ci k : Nat} {q : Option Nat} {x : Int64} (h : gL M ci k q = some x) : ∃ a, q = some a ∧ (mS M)[a]? = some (.inl ci) ∧ mL M a k = x := by
  unfold gL at h
  cases ho : oO M ci q with
  | none => rw [ho] at h; cases h
  | some a => rw [ho] at h; exact ⟨a, (oO_spec ho).1, (oO_spec ho).2, Option.some.inj h⟩
theorem gR_spec {M : Mem} {ci k : Nat} {q : Option Nat} {x : Option Nat} (h : gR M ci k q = some x) : ∃ a, q = some a ∧ (mS M)[a]? = some (.inl ci) ∧ mR M a k = x := by
  unfold gR at h
  cases ho : oO M ci q with
  | none => rw [ho] at h; cases h
  | some a => rw [ho] at h; exact ⟨a, (oO_spec ho).1, (oO_spec ho).2, Option.some.inj h⟩
theorem map_spec {β γ : Type} {o : Option β} {f : β → γ} {x : γ} (h : o.map f = some x) : ∃ a, o = some a ∧ f a = x := by
  cases o with
  | none => cases h
  | some a => exact ⟨a, rfl, Option.some.inj h⟩
theorem bind_spec {β γ : Type} {o : Option β} {f : β → Option γ} {x : γ} (h : o.bind f = some x) : ∃ a, o = some a ∧ f a = some x := by
  cases o with
  | none => cases h
  | some a => exact ⟨a, rfl, h⟩
theorem aln_spec {M : Mem} {t a n : Nat} (h : aln M t a = some n) : (mS M)[a]? = some (.inr (t, n)) := by
  unfold aln at h
  obtain ⟨sh, h1, h2⟩ := bind_spec h
  cases sh with
  | inl c => cases h2
  | inr p =>
    obtain ⟨p1, p2⟩ := p
    by_cases hp : p1 = t
    · simp [hp] at h2; subst h2; subst hp; exact h1
    · simp [hp] at h2
theorem ixA_spec {M : Mem} {t a : Nat} {q : Option Nat} {i : Int32} (h : ixA M t q i = some a) : q = some a ∧ ∃ n, (mS M)[a]? = some (.inr (t, n)) ∧ vp_in i n := by
  unfold ixA at h
  obtain ⟨b, hb, h2⟩ := bind_spec h
  obtain ⟨n, hn, h3⟩ := bind_spec h2
  by_cases hc : i < 0 ∨ n ≤ i.toNatClampNeg
  · rw [if_pos hc] at h3; cases h3
  · rw [if_neg hc] at h3; cases h3; exact ⟨hb, n, aln_spec hn, hc⟩
section RFH
variable {α : Type} {y : MethodName} {cc : ByteArray} {nL : Nat} {ret : Option FieldType} {d : Nat} {enc : α → Option Value} {o o1 o2 : Option (α × Mem)} {pc pc' tgt : Nat} {L L' : List (Nat × Value)} {S S' : List Value} {M : Mem}
theorem R_bind {β : Type} {g : Option β} {K : β → Option (α × Mem)} (h : ∀ x, g = some x → RF y cc nL ret d enc (K x) pc L S M) : RF y cc nL ret d enc (g.bind K) pc L S M := fun r M' ho => by
  cases hg : g with
  | none => rw [hg] at ho; cases ho
  | some x => rw [hg] at ho; exact h x hg r M' ho
theorem W.sized {p : Program} {l : Launch} {e : Env} {R : Room} {s : State} {m : MethodId} {args : Array Value} {below : List Frame} {meth : Method} {c : Code} {H : Heap} {locs : List Loc} {cells slots : Nat} {Q : State → Prop} {g : JFrame} (h : H.size ≤ s.heap.size + cells → W p l e R s m args below meth c H locs cells slots Q g) : W p l e R s m args below meth c H locs cells slots Q g := fun T hT X => h (by rw [← hT]; exact X.heapSize) T hT X
theorem fval0 (b : Nat) (M : Mem) (a k : Nat) : fval b M a k 0 = .int (mI M a k) := rfl
theorem fval1 (b : Nat) (M : Mem) (a k : Nat) : fval b M a k 1 = .long (mL M a k) := rfl
theorem fval2 (b : Nat) (M : Mem) (a k : Nat) : fval b M a k 2 = va_rf ((mR M a k).map (b + ·)) := rfl
/-- a field's read, at the machine -/
theorem RW_get {v : Option Value} {M' : Mem} {ci k idx a t : Nat} {ty : FieldType} {fin : Bool} {dcl : String} (hf : FLK y.cls idx ci k ty fin dcl) (ht : fkd ty = t) (hd : decode cc pc = .ok (.getfield idx, 3)) (hs : (mS M)[a]? = some (.inl ci)) {X : Value} (hX : ∀ (bs : Nat) (κ : Nat → Nat), fval bs M a k t = cv bs κ X)
    (kw : RW y cc nL ret d v M' (pc + 3) L (X :: S) M) : RW y cc nL ret d v M' pc L (va_rf (some a) :: S) M := by
  intro p l e s m args below meth c H locs A cA D bs κ cells slots mc ms ls Qc C hl
  obtain ⟨CC, T, N, ty0, ⟨c1, c2, c3, c4, c5, c6, c7, c8⟩, hk, hty, hlink, hfin, hdcl⟩ := hf
  have k1 := kw p l e s m args below meth c H locs A cA D bs κ cells slots mc ms ls Qc C hl
  refine va_get (D := D) (ci := ci) (C := CC) (T := T) (N := N) (a := bs + a) (v := cv bs κ X) C.1.1 C.1.2.1 C.1.2.2.2.2.2.1 c2 C.1.2.2.2.2.1 C.2.1.2.2.1 C.2.2.1.1 a (wld_at hs) c1 k hk (C.1.2.2.2.2.2.1 _ hlink) (fun _ h => h) ?_ hd k1
  rw [← hX bs κ, ← ht, ← hty]
  exact fobj_at rfl (c6 k hk).1
theorem R_getI {ci k idx : Nat} {ty : FieldType} {fin : Bool} {dcl : String} {q : Option Nat} {K : Int32 → Option (α × Mem)} (hf : FLK y.cls idx ci k ty fin dcl) (ht : fkd ty = 0) (hd : decode cc pc = .ok (.getfield idx, 3)) (hp : pc + 3 = pc')
    (kk : ∀ x : Int32, RF y cc nL ret d enc (K x) pc' L (.int x :: S) M) : RF y cc nL ret d enc ((gI M ci k q).bind K) pc L (va_rf q :: S) M := R_bind (fun x hx => by
  obtain ⟨a, rfl, hs, hv⟩ := gI_spec hx
  subst hp
  exact (kk x).step (fun v M' kw => RW_get hf ht hd hs (fun bs κ => by rw [fval0, hv]; rfl) kw))
theorem R_getL {ci k idx : Nat} {ty : FieldType} {fin : Bool} {dcl : String} {q : Option Nat} {K : Int64 → Option (α × Mem)} (hf : FLK y.cls idx ci k ty fin dcl) (ht : fkd ty = 1) (hd : decode cc pc = .ok (.getfield idx, 3)) (hp : pc + 3 = pc')
    (kk : ∀ x : Int64, RF y cc nL ret d enc (K x) pc' L (.long x :: S) M) : RF y cc nL ret d enc ((gL M ci k q).bind K) pc L (va_rf q :: S) M := R_bind (fun x hx => by
  obtain ⟨a, rfl, hs, hv⟩ := gL_spec hx
  subst hp
  exact (kk x).step (fun v M' kw => RW_get hf ht hd hs (fun bs κ => by rw [fval1, hv]; rfl) kw))
theorem R_getR {ci k idx : Nat} {ty : FieldType} {fin : Bool} {dcl : String} {q : Option Nat} {K : Option Nat → Option (α × Mem)} (hf : FLK y.cls idx ci k ty fin dcl) (ht : fkd ty = 2) (hd : decode cc pc = .ok (.getfield idx, 3)) (hp : pc + 3 = pc')
    (kk : ∀ x : Option Nat, RF y cc nL ret d enc (K x) pc' L (va_rf x :: S) M) : RF y cc nL ret d enc ((gR M ci k q).bind K) pc L (va_rf q :: S) M := R_bind (fun x hx => by
  obtain ⟨a, rfl, hs, hv⟩ := gR_spec hx
  subst hp
  exact (kk x).step (fun v M' kw => RW_get hf ht hd hs (fun bs κ => by rw [fval2, hv, cv_rf]) kw))
theorem Cx.put {v : Option Value} {M' M2 : Mem} {p : Program} {s : State} {m : MethodId} {args : Array Value} {meth : Method} {c : Code} {H H1 : Heap} {locs locs1 : List Loc} {cells slots mc ms : Nat} {A : Nat → Prop} {cA : Nat → ClassId} {D : va_G} {bs : Nat} {κ : Nat → Nat} {Qc : Array Value → State → Outcome → State → Prop}
    (C : Cx y cc nL ret v M' M p s m args meth c H locs cells slots mc ms A cA D bs κ Qc) (hs : mS M2 = mS M) (hP : va_P D vwCl (wld bs cA M2) H1) (hD : va_D A (wld bs cA M2)) (hS : va_S A s.heap H1 locs1) : Cx y cc nL ret v M' M2 p s m args meth c H1 locs1 cells slots mc ms A cA D bs κ Qc := by
  obtain ⟨h1, h2, -, h4, h5⟩ := C
  refine ⟨h1, h2, ⟨hP, hD, hS⟩, ?_, h5⟩
  unfold us
  rw [hs]
  exact h4
/-- a step that writes one cell -/
theorem RF.write {K : Mem → Option (α × Mem)} {M2 : Mem} (hs : mS M2 = mS M) (kk : RF y cc nL ret d enc (K M2) pc' L' S' M2)
    (h : ∀ v M', RW y cc nL ret d v M' pc' L' S' M2 → RW y cc nL ret d v M' pc L S M) : RF y cc nL ret d enc (K M2) pc L S M := fun r M' ho => by
  obtain ⟨⟨t, ht⟩, kw⟩ := kk r M' ho
  exact ⟨⟨t, by rw [ht, hs]⟩, h _ _ kw⟩
theorem RW_put {v : Option Value} {M' M2 : Mem} {ci k idx a t : Nat} {ty : FieldType} {fin : Bool} {dcl : String} (hf : FLK y.cls idx ci k ty fin dcl) (ht : fkd ty = t) (hfin : fin = false ∨ (y.name = "<init>" ∧ dcl = y.cls)) (hd : decode cc pc = .ok (.putfield idx, 3)) (hs : (mS M)[a]? = some (.inl ci)) {X : Value}
    (h2 : mS M2 = mS M) (hX : ∀ (bs : Nat) (κ : Nat → Nat), fval bs M2 a k t = cv bs κ X) (hn : ∀ (bs : Nat) (κ : Nat → Nat), narrow ty (cv bs κ X) = cv bs κ X ∧ fits ty (cv bs κ X) = true)
    (ho : ∀ q, q ≠ a → mI M2 q = mI M q ∧ mL M2 q = mL M q ∧ mR M2 q = mR M q) (hj : ∀ j, j ≠ k → mI M2 a j = mI M a j ∧ mL M2 a j = mL M a j ∧ mR M2 a j = mR M a j)
    (kw : RW y cc nL ret d v M' (pc + 3) L S M2) : RW y cc nL ret d v M' pc L (X :: va_rf (some a) :: S) M := by
  intro p l e s m args below meth c H locs A cA D bs κ cells slots mc ms ls Qc C hl
  obtain ⟨CC, T, N, ty0, ⟨c1, c2, c3, c4, c5, c6, c7, c8⟩, hk, hty, hlink, hfl, hdcl⟩ := hf
  have hkt : (clK.getD ci [])[k]? = some t := by rw [(c6 k hk).1, hty, ht]
  have hset : (wld bs cA M).set a (bs + a, .inr (ci, (fobj bs M a ci).set k (cv bs κ X))) = wld bs cA M2 :=
    wld_set h2 hs (by show Sum.inr (ci, fobj bs M2 a ci) = _; rw [fobj_set hkt (hX bs κ) hj]) ho
  have hlen : k < (fobj bs M a ci).length := by
    have := (List.getElem?_eq_some_iff.mp hkt).1
    simpa [fobj] using this
  rcases hfin with h0 | ⟨hi, hdc⟩
  · subst h0
    refine va_put (D := D) (ci := ci) (v := cv bs κ X) (ty := ty) (C := CC) (T := T) (N := N) (a := bs + a) C.1.1 C.1.2.1 C.1.2.2.2.2.2.1 c2 ty0 c3 c4 C.1.2.2.2.2.1 C.2.1.2.2.1 C.2.2.1.1 C.2.2.1.2.1 C.2.2.1.2.2 a (wld_at hs) c1 k hk (C.1.2.2.2.2.2.1 _ hlink) (fun _ h => h) hfl (by rw [c3 k hk, hty]) (hn bs κ).1 (hn bs κ).2 hlen hd (fun H1 locs1 hP hD hS => ?_)
    rw [hset] at hP hD
    exact kw p l e s m args below meth c H1 locs1 A cA D bs κ cells slots mc ms ls Qc (C.put h2 hP hD hS) hl
  · cases fin with
    | false =>
      refine va_put (D := D) (ci := ci) (v := cv bs κ X) (ty := ty) (C := CC) (T := T) (N := N) (a := bs + a) C.1.1 C.1.2.1 C.1.2.2.2.2.2.1 c2 ty0 c3 c4 C.1.2.2.2.2.1 C.2.1.2.2.1 C.2.2.1.1 C.2.2.1.2.1 C.2.2.1.2.2 a (wld_at hs) c1 k hk (C.1.2.2.2.2.2.1 _ hlink) (fun _ h => h) hfl (by rw [c3 k hk, hty]) (hn bs κ).1 (hn bs κ).2 hlen hd (fun H1 locs1 hP hD hS => ?_)
      rw [hset] at hP hD
      exact kw p l e s m args below meth c H1 locs1 A cA D bs κ cells slots mc ms ls Qc (C.put h2 hP hD hS) hl
    | true =>
      refine va_putF (D := D) (ci := ci) (v := cv bs κ X) (ty := ty) (C := CC) (T := T) (N := N) (a := bs + a) C.1.1 C.1.2.1 C.1.2.2.2.2.2.1 c2 ty0 c3 c4 C.1.2.2.2.2.1 C.2.1.2.2.1 C.2.2.1.1 C.2.2.1.2.1 C.2.2.1.2.2 a (wld_at hs) c1 k hk (C.1.2.2.2.2.2.1 _ hlink) (fun _ h => h) hfl (C.1.2.2.2.2.2.2.1.trans hi) (hdcl.trans hdc) (by rw [c3 k hk, hty]) (hn bs κ).1 (hn bs κ).2 hlen hd (fun H1 locs1 hP hD hS => ?_)
      rw [hset] at hP hD
      exact kw p l e s m args below meth c H1 locs1 A cA D bs κ cells slots mc ms ls Qc (C.put h2 hP hD hS) hl
theorem mI_sI_o {M : Mem} {a k q : Nat} {x : Int32} (h : q ≠ a) : mI (sI M a k x) q = mI M q := rowU_n _ _ h
theorem mI_sI_s {M : Mem} {a k : Nat} {x : Int32} : mI (sI M a k x) a = upd (mI M a) k x := rowU_s _ _ _
theorem mL_sL_o {M : Mem} {a k q : Nat} {x : Int64} (h : q ≠ a) : mL (sL M a k x) q = mL M q := rowU_n _ _ h
theorem mL_sL_s {M : Mem} {a k : Nat} {x : Int64} : mL (sL M a k x) a = vp_updL (mL M a) k x := rowU_s _ _ _
theorem mR_sR_o {M : Mem} {a k q : Nat} {x : Option Nat} (h : q ≠ a) : mR (sR M a k x) q = mR M q := rowU_n _ _ h
theorem mR_sR_s {M : Mem} {a k : Nat} {x : Option Nat} : mR (sR M a k x) a = updR (mR M a) k x := rowU_s _ _ _
theorem upd_s (f : Nat → Int32) (k : Nat) (x : Int32) : upd f k x k = x := by simp [upd]
theorem upd_o (f : Nat → Int32) {k j : Nat} (x : Int32) (h : j ≠ k) : upd f k x j = f j := by simp [upd, h]
theorem updL_s (f : Nat → Int64) (k : Nat) (x : Int64) : vp_updL f k x k = x := by simp [vp_updL]
theorem updL_o (f : Nat → Int64) {k j : Nat} (x : Int64) (h : j ≠ k) : vp_updL f k x j = f j := by simp [vp_updL, h]
theorem updR_s (f : Nat → Option Nat) (k : Nat) (x : Option Nat) : updR f k x k = x := by simp [updR]
theorem updR_o (f : Nat → Option Nat) {k j : Nat} (x : Option Nat) (h : j ≠ k) : updR f k x j = f j := by simp [updR, h]
theorem R_putI {ci k idx : Nat} {fin : Bool} {dcl : String} {q : Option Nat} {x : Int32} {K : Mem → Option (α × Mem)} (hf : FLK y.cls idx ci k .int fin dcl) (hfin : fin = false ∨ (y.name = "<init>" ∧ dcl = y.cls)) (hd : decode cc pc = .ok (.putfield idx, 3)) (hp : pc + 3 = pc')
    (kk : ∀ M2 : Mem, RF y cc nL ret d enc (K M2) pc' L S M2) : RF y cc nL ret d enc ((pI M ci k q x).bind K) pc L (.int x :: va_rf q :: S) M := R_bind (fun M2 hx => by
  obtain ⟨a, ha, rfl⟩ := map_spec hx
  obtain ⟨rfl, hs⟩ := oO_spec ha
  subst hp
  exact RF.write rfl (kk _) (fun v M' kw => RW_put (M2 := sI M a k x) hf rfl hfin hd hs rfl (fun bs κ => by rw [show fkd .int = 0 from rfl, fval0, mI_sI_s, upd_s]; rfl) (fun bs κ => ⟨rfl, rfl⟩) (fun q hq => ⟨mI_sI_o hq, rfl, rfl⟩) (fun j hj => ⟨by rw [mI_sI_s, upd_o _ _ hj], rfl, rfl⟩) kw))
theorem fits_Z {x : Int32} (h : x = 0 ∨ x = 1) : fits .boolean (.int x) = true := by rcases h with rfl | rfl <;> decide
theorem R_putZ {ci k idx : Nat} {fin : Bool} {dcl : String} {q : Option Nat} {x : Int32} {K : Mem → Option (α × Mem)} (hf : FLK y.cls idx ci k .boolean fin dcl) (hfin : fin = false ∨ (y.name = "<init>" ∧ dcl = y.cls)) (hd : decode cc pc = .ok (.putfield idx, 3)) (hp : pc + 3 = pc')
    (kk : ∀ M2 : Mem, RF y cc nL ret d enc (K M2) pc' L S M2) : RF y cc nL ret d enc (ckZ x ((pI M ci k q x).bind K)) pc L (.int x :: va_rf q :: S) M := R_ckz (fun hn => R_bind (fun M2 hx => by
  obtain ⟨a, ha, rfl⟩ := map_spec hx
  obtain ⟨rfl, hs⟩ := oO_spec ha
  subst hp
  exact RF.write rfl (kk _) (fun v M' kw => RW_put (M2 := sI M a k x) hf rfl hfin hd hs rfl (fun bs κ => by rw [show fkd .boolean = 0 from rfl, fval0, mI_sI_s, upd_s]; rfl) (fun bs κ => ⟨nar_Z hn, fits_Z hn⟩) (fun q hq => ⟨mI_sI_o hq, rfl, rfl⟩) (fun j hj => ⟨by rw [mI_sI_s, upd_o _ _ hj], rfl, rfl⟩) kw)))
theorem R_putL {ci k idx : Nat} {fin : Bool} {dcl : String} {q : Option Nat} {x : Int64} {K : Mem → Option (α × Mem)} (hf : FLK y.cls idx ci k .long fin dcl) (hfin : fin = false ∨ (y.name = "<init>" ∧ dcl = y.cls)) (hd : decode cc pc = .ok (.putfield idx, 3)) (hp : pc + 3 = pc')
    (kk : ∀ M2 : Mem, RF y cc nL ret d enc (K M2) pc' L S M2) : RF y cc nL ret d enc ((pL M ci k q x).bind K) pc L (.long x :: va_rf q :: S) M := R_bind (fun M2 hx => by
  obtain ⟨a, ha, rfl⟩ := map_spec hx
  obtain ⟨rfl, hs⟩ := oO_spec ha
  subst hp
  exact RF.write rfl (kk _) (fun v M' kw => RW_put (M2 := sL M a k x) hf rfl hfin hd hs rfl (fun bs κ => by rw [show fkd .long = 1 from rfl, fval1, mL_sL_s, updL_s]; rfl) (fun bs κ => ⟨rfl, rfl⟩) (fun q hq => ⟨rfl, mL_sL_o hq, rfl⟩) (fun j hj => ⟨rfl, by rw [mL_sL_s, updL_o _ _ hj], rfl⟩) kw))
theorem nar_rf {ty : FieldType} (ht : fkd ty = 2) (q : Option Nat) : narrow ty (va_rf q) = va_rf q ∧ fits ty (va_rf q) = true := by
  cases ty <;> first | (cases ht; done) | (cases q <;> exact ⟨rfl, rfl⟩)
theorem R_putR {ci k idx : Nat} {ty : FieldType} {fin : Bool} {dcl : String} {q x : Option Nat} {K : Mem → Option (α × Mem)} (hf : FLK y.cls idx ci k ty fin dcl) (ht : fkd ty = 2) (hfin : fin = false ∨ (y.name = "<init>" ∧ dcl = y.cls)) (hd : decode cc pc = .ok (.putfield idx, 3)) (hp : pc + 3 = pc')
    (kk : ∀ M2 : Mem, RF y cc nL ret d enc (K M2) pc' L S M2) : RF y cc nL ret d enc ((pR M ci k q x).bind K) pc L (va_rf x :: va_rf q :: S) M := R_bind (fun M2 hx => by
  obtain ⟨a, ha, rfl⟩ := map_spec hx
  obtain ⟨rfl, hs⟩ := oO_spec ha
  subst hp
  exact RF.write rfl (kk _) (fun v M' kw => RW_put (M2 := sR M a k x) hf ht hfin hd hs rfl (fun bs κ => by rw [fval2, mR_sR_s, updR_s, cv_rf]) (fun bs κ => by rw [cv_rf]; exact nar_rf ht _) (fun q hq => ⟨rfl, rfl, mR_sR_o hq⟩) (fun j hj => ⟨rfl, rfl, by rw [mR_sR_s, updR_o _ _ hj]⟩) kw))
end RFH
