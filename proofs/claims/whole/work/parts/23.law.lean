/-! THE LAW's own frame: LF, as RF, over the script's row (the constant 300) and with the claim's room; the law comes to its end where the pure result is some (1, M') -/
def R_law : String := "BarPilotLaw"
def lw_P (b : Addr) (xs : List Int32) (args : Array Value) (s : State) : Prop := args = #[.ref b] ∧ s.IntsAt b xs ∧ xs.length ≤ 3072 ∧ (Jvm.Cond.and given_1 narrow_1).before args s = true
def lw_Q (_ : Array Value) (s : State) (o : Outcome) (t : State) : Prop := o = .returned (some (.int 1)) ∧ Framed s o t [] room_1.cells room_1.slots
def lw_Z (below : List Frame) (a : Array Value) (s : State) : State → Prop := fun t => ∃ o, t.status = .running ∧ Ended t below o ∧ lw_Q a s o t
/-- the law's own end, with 1 on the stack, nothing written that was there before, its room as the claim has it -/
theorem lw_ret {p : Program} {l : Launch} {e : Env} {s : State} {m : MethodId} {below : List Frame} {meth : Method} {c : Code} {b : Nat} (hx : p.tables.exec = Jvm.exec) (hb : c.code = code) (hr : meth.sig.returnType = ret) (hlocks : meth.locks = false) {pc : Nat} {H : Heap} {ls : Array Slot} (hdg : decode code pc = .ok (.ireturn, 1)) : W p l e room_1 s m #[Value.ref b] below meth c H [] room_1.cells room_1.slots (lw_Z below #[Value.ref b] s) (F0 m pc ls [.int 1]) := by
  intro T hT X
  obtain ⟨fs, hret, hrun, hended, hW, hframe⟩ := X.leave (v := some (.int 1)) (hlocks := hlocks) (fun h => by rw [hr] at h; cases h)
  have hmeth' : T.vm.method? m = some meth := X.method'
  refine ⟨T.setFrames fs, ?_, .returned (some (.int 1)), hrun, hended, rfl, ⟨_, rfl⟩, hW, hframe⟩
  jvm_step X.here [X.here.top, hx, hb, hdg, hmeth', hr, ret, narrow_b1]
  (try refine ⟨rfl, ?_⟩); (try refine ⟨rfl, ?_⟩)
  first | (intro acts; rw [hret _ acts rfl rfl rfl]) | rw [hret _ _ rfl rfl rfl]
  exact Steps.refl _
def CxL (b Lx : Nat) (xs : Nat → Int32) (M : Mem) (p : Program) (s : State) (m : MethodId) (meth : Method) (c : Code) (H : Heap) (locs : List Loc) (cells slots : Nat) (cA : Nat → ClassId) (D : va_G) (κ : Nat → Nat) : Prop :=
  (p.tables.exec = Jvm.exec ∧ c.code = code ∧ c.maxLocals = 4 ∧ meth.sig.returnType = ret ∧ s.vm.findClass RL = some m.cls ∧ (∀ w ∈ TB, w.before #[Value.ref b] s = true) ∧ meth.locks = false) ∧
  (va_X b Lx xs s s.heap ∧ b < s.heap.size ∧ κ 300 = b ∧ va_K D vwCl (TYS cA) s ∧ Kon κ (fun q => s.heap.size ≤ q) s s.heap) ∧
  (va_P D vwCl (wld s.heap.size cA M) H ∧ va_D (fun q => s.heap.size ≤ q) (wld s.heap.size cA M) ∧ va_S (fun q => s.heap.size ≤ q) s.heap H locs) ∧ (cells = (mS M).length ∧ slots = us M)
def RWL (b Lx : Nat) (xs : Nat → Int32) (pc : Nat) (L : List (Nat × Value)) (S : List Value) (M : Mem) : Prop :=
  ∀ (p : Program) (l : Launch) (e : Env) (s : State) (m : MethodId) (below : List Frame) (meth : Method) (c : Code) (H : Heap) (locs : List Loc) (cA : Nat → ClassId) (D : va_G) (κ : Nat → Nat) (cells slots : Nat) (ls : Array Slot),
    CxL b Lx xs M p s m meth c H locs cells slots cA D κ → lv_has ls 4 (lvm s.heap.size κ L) →
    W p l e room_1 s m #[Value.ref b] below meth c H locs cells slots (lw_Z below #[Value.ref b] s) (F0 m pc ls (S.map (cv s.heap.size κ)))
def LF (b Lx : Nat) (xs : Nat → Int32) (o : Option (Int32 × Mem)) (pc : Nat) (L : List (Nat × Value)) (S : List Value) (M : Mem) : Prop :=
  ∀ M', o = some (1, M') → Ext M M' ∧ ((mS M').length ≤ room_1.cells → us M' ≤ room_1.slots → RWL b Lx xs pc L S M)
section LFS
variable {b Lx : Nat} {xs : Nat → Int32} {o o1 o2 : Option (Int32 × Mem)} {pc pc' tgt : Nat} {L L' : List (Nat × Value)} {S S' : List Value} {M : Mem}
theorem LF.step (k : LF b Lx xs o pc' L' S' M) (h : RWL b Lx xs pc' L' S' M → RWL b Lx xs pc L S M) : LF b Lx xs o pc L S M := fun M' ho => ⟨(k M' ho).1, fun h1 h2 => h ((k M' ho).2 h1 h2)⟩
theorem LF.none : LF b Lx xs (none : Option (Int32 × Mem)) pc L S M := fun _ h => by cases h
theorem LF.zero {M2 : Mem} : LF b Lx xs (some (0, M2)) pc L S M := fun _ h => by
  have h1 : ((0 : Int32), M2) = (1, _) := Option.some.inj h
  have h2 : (0 : Int32) = 1 := congrArg Prod.fst h1
  exact absurd h2 (by decide)
theorem L_if {c : Prop} [Decidable c] (k1 : c → LF b Lx xs o1 pc L S M) (k2 : ¬ c → LF b Lx xs o2 pc L S M) : LF b Lx xs (if c then o1 else o2) pc L S M := by
  by_cases h : c
  · rw [if_pos h]; exact k1 h
  · rw [if_neg h]; exact k2 h
theorem L_bind {β : Type} {g : Option β} {K : β → Option (Int32 × Mem)} (h : ∀ x, g = some x → LF b Lx xs (K x) pc L S M) : LF b Lx xs (g.bind K) pc L S M := fun M' ho => by
  cases hg : g with
  | none => rw [hg] at ho; cases ho
  | some x => rw [hg] at ho; exact h x hg M' ho
theorem L_sub (ks : List Nat) (h : lv_pick L ks = L') (k : LF b Lx xs o pc L' S M) : LF b Lx xs o pc L S M := by
  refine k.step (fun kw p l e s m below meth c H locs cA D κ cells slots ls C hl => ?_)
  refine kw p l e s m below meth c H locs cA D κ cells slots ls C ?_
  subst h
  refine ⟨hl.1, hl.2.1, fun q hq => ?_⟩
  obtain ⟨q0, hq0, rfl⟩ := List.mem_map.mp hq
  obtain ⟨i, -, hi⟩ := List.mem_filterMap.mp hq0
  exact hl.2.2 _ (List.mem_map.mpr ⟨q0, List.mem_of_getElem? hi, rfl⟩)
theorem L_iconst {n : Int} {x : Int32} (hd : decode code pc = .ok (.iconst n, 1)) (hp : pc + 1 = pc') (hx : Int32.ofInt n = x) (k : LF b Lx xs o pc' L (.int x :: S) M) : LF b Lx xs o pc L S M := k.step (fun kw p l e s m below meth c H locs cA D κ cells slots ls C hl => by subst hp; exact lv_iconst C.1.1 C.1.2.1 hd hx (kw p l e s m below meth c H locs cA D κ cells slots ls C hl))
theorem L_bipush {n : Int} {x : Int32} (hd : decode code pc = .ok (.bipush n, 2)) (hp : pc + 2 = pc') (hx : (Int8.ofInt n).toInt32 = x) (k : LF b Lx xs o pc' L (.int x :: S) M) : LF b Lx xs o pc L S M := k.step (fun kw p l e s m below meth c H locs cA D κ cells slots ls C hl => by subst hp; exact lv_bipush C.1.1 C.1.2.1 hd hx (kw p l e s m below meth c H locs cA D κ cells slots ls C hl))
theorem L_iload_n {f : Fin 4} {i j : Nat} {x : Int32} (hd : decode code pc = .ok (.iload_n f, 1)) (hp : pc + 1 = pc') (hi : (f : Nat) = i) (hL : L[j]? = some (i, .int x)) (k : LF b Lx xs o pc' L (.int x :: S) M) : LF b Lx xs o pc L S M := k.step (fun kw p l e s m below meth c H locs cA D κ cells slots ls C hl => by subst hp; exact lv_iload_n C.1.1 C.1.2.1 hd hi (lv_at hl j (lvm_at hL)) (kw p l e s m below meth c H locs cA D κ cells slots ls C hl))
theorem L_aloadc_n {f : Fin 4} {i j : Nat} {u : UInt32} (hd : decode code pc = .ok (.aload_n f, 1)) (hp : pc + 1 = pc') (hi : (f : Nat) = i) (hL : L[j]? = some (i, .float u)) (k : LF b Lx xs o pc' L (.float u :: S) M) : LF b Lx xs o pc L S M := k.step (fun kw p l e s m below meth c H locs cA D κ cells slots ls C hl => by subst hp; exact lv_aload_n C.1.1 C.1.2.1 hd hi (lv_at hl j (lvm_at hL)) (kw p l e s m below meth c H locs cA D κ cells slots ls C hl))
theorem L_aloadq_n {f : Fin 4} {i j a : Nat} (hd : decode code pc = .ok (.aload_n f, 1)) (hp : pc + 1 = pc') (hi : (f : Nat) = i) (hL : L[j]? = some (i, va_rf (some a))) (k : LF b Lx xs o pc' L (va_rf (some a) :: S) M) : LF b Lx xs o pc L S M := k.step (fun kw p l e s m below meth c H locs cA D κ cells slots ls C hl => by subst hp; exact lv_aload_n C.1.1 C.1.2.1 hd hi (lv_at hl j (lvm_at hL)) (kw p l e s m below meth c H locs cA D κ cells slots ls C hl))
theorem L_istore_n {f : Fin 4} {i : Nat} {x : Int32} (hd : decode code pc = .ok (.istore_n f, 1)) (hp : pc + 1 = pc') (hi : (f : Nat) = i) (hn : i < 4) (hL : stL L i (.int x) = L') (k : LF b Lx xs o pc' L' S M) : LF b Lx xs o pc L (.int x :: S) M := k.step (fun kw p l e s m below meth c H locs cA D κ cells slots ls C hl => by subst hp; subst hL; exact lv_istore_n C.1.1 C.1.2.1 hd hi hl hn (lvm_st s.heap.size κ L i (.int x)) (fun ls hl => kw p l e s m below meth c H locs cA D κ cells slots ls C hl))
theorem L_astoreq_n {f : Fin 4} {i a : Nat} (hd : decode code pc = .ok (.astore_n f, 1)) (hp : pc + 1 = pc') (hi : (f : Nat) = i) (hn : i < 4) (hL : stL L i (va_rf (some a)) = L') (k : LF b Lx xs o pc' L' S M) : LF b Lx xs o pc L (va_rf (some a) :: S) M := k.step (fun kw p l e s m below meth c H locs cA D κ cells slots ls C hl => by subst hp; subst hL; exact lv_astore_n C.1.1 C.1.2.1 hd hi hl hn (lvm_st s.heap.size κ L i (.ref a)) (fun ls hl => kw p l e s m below meth c H locs cA D κ cells slots ls C hl))
theorem L_iinc {i j : Nat} {n : Int} {x x2 : Int32} (hd : decode code pc = .ok (.iinc i n, 3)) (hp : pc + 3 = pc') (hj : L[j]? = some (i, .int x)) (hx : x + Int32.ofInt n = x2) (hn : i < 4) (hL : stL L i (.int x2) = L') (k : LF b Lx xs o pc' L' S M) : LF b Lx xs o pc L S M := k.step (fun kw p l e s m below meth c H locs cA D κ cells slots ls C hl => by subst hp; subst hL; exact lv_iinc C.1.1 C.1.2.1 hd hl (k := j) (lvm_at hj) hx hn (lvm_st s.heap.size κ L i (.int x2)) (fun ls hl => kw p l e s m below meth c H locs cA D κ cells slots ls C hl))
theorem L_iadd {a a2 : Int32} (hd : decode code pc = .ok (.iadd, 1)) (hp : pc + 1 = pc') (k : LF b Lx xs o pc' L (.int (a + a2) :: S) M) : LF b Lx xs o pc L (.int a2 :: .int a :: S) M := k.step (fun kw p l e s m below meth c H locs cA D κ cells slots ls C hl => by subst hp; exact lv_iadd C.1.1 C.1.2.1 hd (kw p l e s m below meth c H locs cA D κ cells slots ls C hl))
theorem L_isub {a a2 : Int32} (hd : decode code pc = .ok (.isub, 1)) (hp : pc + 1 = pc') (k : LF b Lx xs o pc' L (.int (a - a2) :: S) M) : LF b Lx xs o pc L (.int a2 :: .int a :: S) M := k.step (fun kw p l e s m below meth c H locs cA D κ cells slots ls C hl => by subst hp; exact lv_isub C.1.1 C.1.2.1 hd (kw p l e s m below meth c H locs cA D κ cells slots ls C hl))
theorem L_iand {a a2 : Int32} (hd : decode code pc = .ok (.iand, 1)) (hp : pc + 1 = pc') (k : LF b Lx xs o pc' L (.int (a &&& a2) :: S) M) : LF b Lx xs o pc L (.int a2 :: .int a :: S) M := k.step (fun kw p l e s m below meth c H locs cA D κ cells slots ls C hl => by subst hp; exact lv_iand C.1.1 C.1.2.1 hd (kw p l e s m below meth c H locs cA D κ cells slots ls C hl))
theorem L_dup {a : Value} (hd : decode code pc = .ok (.dup, 1)) (hp : pc + 1 = pc') (hc : a.category = 1) (k : LF b Lx xs o pc' L (a :: a :: S) M) : LF b Lx xs o pc L (a :: S) M := k.step (fun kw p l e s m below meth c H locs cA D κ cells slots ls C hl => by subst hp; exact lv_dup C.1.1 C.1.2.1 hd ((cv_cat s.heap.size κ a).trans hc) (kw p l e s m below meth c H locs cA D κ cells slots ls C hl))
theorem L_goto {off : Int} (hd : decode code pc = .ok (.goto off, 3)) (ht : (pc : Int) + off = (tgt : Int)) (k : LF b Lx xs o tgt L S M) : LF b Lx xs o pc L S M := k.step (fun kw p l e s m below meth c H locs cA D κ cells slots ls C hl => lv_goto C.1.1 C.1.2.1 hd ht (kw p l e s m below meth c H locs cA D κ cells slots ls C hl))
theorem L_icmp_gt {a a2 : Int32} {off : Int} (hd : decode code pc = .ok (.if_icmp .gt off, 3)) (ht : (pc : Int) + off = (tgt : Int)) (hp : pc + 3 = pc') (kt : LF b Lx xs o1 tgt L S M) (kf : LF b Lx xs o2 pc' L S M) : LF b Lx xs (if a2 < a then o1 else o2) pc L (.int a2 :: .int a :: S) M := L_if (fun h0 => kt.step (fun kw p l e s m below meth c H locs cA D κ cells slots ls C hl => lv_icmp_gt C.1.1 C.1.2.1 hd ht (fun _ => (kw p l e s m below meth c H locs cA D κ cells slots ls C hl)) (fun h1 => absurd h0 h1))) (fun h0 => kf.step (fun kw p l e s m below meth c H locs cA D κ cells slots ls C hl => by subst hp; exact lv_icmp_gt C.1.1 C.1.2.1 hd ht (fun h1 => absurd h1 h0) (fun _ => (kw p l e s m below meth c H locs cA D κ cells slots ls C hl))))
theorem L_icmp_eq {a a2 : Int32} {off : Int} (hd : decode code pc = .ok (.if_icmp .eq off, 3)) (ht : (pc : Int) + off = (tgt : Int)) (hp : pc + 3 = pc') (kt : LF b Lx xs o1 tgt L S M) (kf : LF b Lx xs o2 pc' L S M) : LF b Lx xs (if a = a2 then o1 else o2) pc L (.int a2 :: .int a :: S) M := L_if (fun h0 => kt.step (fun kw p l e s m below meth c H locs cA D κ cells slots ls C hl => lv_icmp_eq C.1.1 C.1.2.1 hd ht (fun _ => (kw p l e s m below meth c H locs cA D κ cells slots ls C hl)) (fun h1 => absurd h0 h1))) (fun h0 => kf.step (fun kw p l e s m below meth c H locs cA D κ cells slots ls C hl => by subst hp; exact lv_icmp_eq C.1.1 C.1.2.1 hd ht (fun h1 => absurd h1 h0) (fun _ => (kw p l e s m below meth c H locs cA D κ cells slots ls C hl))))
/-! the script -/
def scr (Lx : Nat) (xs : Nat → Int32) (i : Int32) : Option Int32 := if i < 0 ∨ Lx ≤ i.toNatClampNeg then none else some (xs i.toNatClampNeg)
theorem L_slen (hd : decode code pc = .ok (.arraylength, 1)) (hp : pc + 1 = pc') (k : LF b Lx xs o pc' L (.int (Int32.ofNat Lx) :: S) M) : LF b Lx xs o pc L (.float 300 :: S) M := k.step (fun kw p l e s m below meth c H locs cA D κ cells slots ls C hl => by
  subst hp
  have k1 := kw p l e s m below meth c H locs cA D κ cells slots ls C hl
  have e1 : cv s.heap.size κ (.float 300) = .ref b := by show Value.ref (κ 300) = _; rw [C.2.1.2.2.1]
  rw [List.map_cons, e1]
  exact va_slen C.1.1 C.1.2.1 C.2.1.1 C.2.1.2.1 (Nat.not_le.mpr C.2.1.2.1) C.2.2.1.2.2 hd k1)
theorem L_sld {i : Int32} {K : Int32 → Option (Int32 × Mem)} (hd : decode code pc = .ok (.iaload, 1)) (hp : pc + 1 = pc') (kk : ∀ x : Int32, LF b Lx xs (K x) pc' L (.int x :: S) M) : LF b Lx xs ((scr Lx xs i).bind K) pc L (.int i :: .float 300 :: S) M := L_bind (fun x hx => by
  unfold scr at hx
  by_cases hc : i < 0 ∨ Lx ≤ i.toNatClampNeg
  · rw [if_pos hc] at hx; cases hx
  · rw [if_neg hc] at hx
    cases hx
    subst hp
    refine (kk _).step (fun kw p l e s m below meth c H locs cA D κ cells slots ls C hl => ?_)
    have k1 := kw p l e s m below meth c H locs cA D κ cells slots ls C hl
    have e1 : cv s.heap.size κ (.float 300) = .ref b := by show Value.ref (κ 300) = _; rw [C.2.1.2.2.1]
    rw [List.map_cons, List.map_cons, e1]
    exact va_sld C.1.1 C.1.2.1 C.2.1.1 C.2.1.2.1 (Nat.not_le.mpr C.2.1.2.1) C.2.2.1.2.2 hc hd k1)
/-! switch -/
def KL (b Lx : Nat) (xs : Nat → Int32) (pc : Nat) (L : List (Nat × Value)) (S : List Value) (M : Mem) : List Int → List (Option (Int32 × Mem)) → Prop
  | off :: offs, o :: os => (∃ t : Nat, (pc : Int) + off = (t : Int) ∧ LF b Lx xs o t L S M) ∧ KL b Lx xs pc L S M offs os
  | _, [] => True
  | [], _ :: _ => False
theorem KL.at : ∀ {offs : List Int} {os : List (Option (Int32 × Mem))}, KL b Lx xs pc L S M offs os → ∀ j : Nat, j < os.length → ∃ (off : Int) (t : Nat), offs[j]? = some off ∧ (pc : Int) + off = (t : Int) ∧ LF b Lx xs (os.getD j none) t L S M
  | _, [], _, j, hj => absurd hj (Nat.not_lt_zero j)
  | [], _ :: _, h, _, _ => h.elim
  | off :: offs, o :: os, ⟨⟨t, h1, h2⟩, _⟩, 0, _ => ⟨off, t, rfl, h1, h2⟩
  | off :: offs, o :: os, ⟨_, h⟩, j + 1, hj => KL.at h j (Nat.lt_of_succ_lt_succ hj)
theorem L_tsw {x : Int32} {dflt lo hi : Int} {offs : Array Int} {len : Nat} {os : List (Option (Int32 × Mem))} (hd : decode code pc = .ok (.tableswitch dflt lo hi offs, len)) (hn : hi = lo + os.length - 1) (ht : (pc : Int) + dflt = (tgt : Int)) (kd : LF b Lx xs o tgt L S M) (ks : KL b Lx xs pc L S M offs.toList os) : LF b Lx xs (tsw x lo os o) pc L (.int x :: S) M := by
  unfold tsw
  refine L_if (fun h0 => kd.step (fun kw p l e s m below meth c H locs cA D κ cells slots ls C hl => lv_tableOut C.1.1 C.1.2.1 hd (by rcases h0 with h | h; exact Or.inl h; exact Or.inr (by omega)) ht (kw p l e s m below meth c H locs cA D κ cells slots ls C hl))) (fun h0 => ?_)
  obtain ⟨off, t, h1, h2, k⟩ := ks.at (x.toInt - lo).toNat (by omega)
  exact k.step (fun kw p l e s m below meth c H locs cA D κ cells slots ls C hl => lv_tableIn C.1.1 C.1.2.1 hd (fun h => h0 (Or.inl h)) (fun h => h0 (Or.inr (by omega))) (by rw [← Array.getElem?_toList]; exact h1) h2 (kw p l e s m below meth c H locs cA D κ cells slots ls C hl))
/-! the end -/
theorem L_ret1 (hd : decode code pc = .ok (.ireturn, 1)) : LF b Lx xs (some (1, M)) pc L [.int 1] M := by
  intro M' ho
  cases ho
  refine ⟨Ext.rf M, fun h1 h2 p l e s m below meth c H locs cA D κ cells slots ls C hl => ?_⟩
  obtain ⟨rfl, rfl⟩ := C.2.2.2
  refine va_forget (fun q hq => C.2.2.1.2.2.2.2 q hq) ?_
  refine W.widen (k := room_1.cells) (n := room_1.slots) h1 h2 ?_
  exact lw_ret C.1.1 C.1.2.1 C.1.2.2.2.1 C.1.2.2.2.2.2.2 hd
/-! new objects, and calls -/
theorem L_new {ci idx : Nat} {CC : String} {T : u_T} {N : Nat} {ty0 : Nat → FieldType} {K : Nat → Mem → Option (Int32 × Mem)} (hcl : CL ci CC T N ty0) (hlk : Cond.classLink RL idx CC ∈ TB) (hd : decode code pc = .ok (.new idx, 3)) (hp : pc + 3 = pc')
    (kk : ∀ (a : Nat) (M2 : Mem), LF b Lx xs (K a M2) pc' L (va_rf (some a) :: S) M2) : LF b Lx xs (newO M ci K) pc L S M := by
  subst hp
  intro M' ho
  obtain ⟨hE, kw0⟩ := kk (mS M).length (nw M (.inl ci)) M' ho
  refine ⟨Ext.tr ⟨[.inl ci], rfl⟩ hE, fun g1 g2 p l e s m below meth c H locs cA D κ cells slots ls C hl => ?_⟩
  have kw := kw0 g1 g2
  obtain ⟨c1, c2, c3, c4, c5, c6, c7, c8⟩ := hcl
  have hts := C.1.2.2.2.2.2.1
  obtain ⟨hc, hs⟩ := C.2.2.2
  obtain ⟨e1, e2⟩ := hE.le
  have hl2 : (mS (nw M (.inl ci))).length = (mS M).length + 1 := by show (M.1 ++ [_]).length = _; rw [List.length_append]; rfl
  rw [hl2] at e1
  rw [us_nw] at e2
  have hN : shSz (.inl ci) = N := c5
  refine va_new (ci := ci) (C := CC) (T := T) (N := N) (fs := fobj s.heap.size (nw M (.inl ci)) (mS M).length ci) C.1.1 C.1.2.1 hts c2 ty0 c3 C.1.2.2.2.2.1 (hts _ hlk) (hts _ c7) (hts _ c8) C.2.1.2.2.2.1 C.2.2.1.1 C.2.2.1.2.1 C.2.2.1.2.2 (fun _ h => h) c1 (fun j hj => ?_) (by show cells + 1 ≤ room_1.cells; omega) (by show slots + N ≤ room_1.slots; omega) hd (fun q H1 hP hD hS => ?_)
  · rw [(c6 j hj).2, vp_V, List.getD, fobj_at rfl (c6 j hj).1]
    have e1 : mI (nw M (.inl ci)) (mS M).length = fun _ => 0 := rowU_s _ _ _
    have e2 : mL (nw M (.inl ci)) (mS M).length = fun _ => 0 := rowU_s _ _ _
    have e3 : mR (nw M (.inl ci)) (mS M).length = fun _ => none := rowU_s _ _ _
    show _ = fval s.heap.size (nw M (.inl ci)) (mS M).length j (fkd (ty0 j))
    unfold fval
    rw [e1, e2, e3]
    cases ty0 j <;> rfl
  · refine W.sized (fun hz => ?_)
    have hq := new_at (fun _ h => h) hP hD hz (by omega)
    subst hq
    rw [wld_push (b := s.heap.size) (cA := cA) (M := M) (sh := .inl ci) (e := Sum.inr (ci, fobj s.heap.size (nw M (Sum.inl ci)) (mS M).length ci)) rfl] at hP hD
    exact kw p l e s m below meth c H1 locs cA D κ (cells + 1) (slots + N) ls ⟨C.1, C.2.1, ⟨hP, hD, hS⟩, by rw [hl2]; omega, by rw [us_nw]; omega⟩ hl
theorem LF.call {β : Type} {yC : MethodName} {ccC : ByteArray} {nLC dC : Nat} {retC : Option FieldType} {encC : β → Option Value} {as rest st0 : List Value} {oC : Option (β × Mem)} {K : β → Mem → Option (Int32 × Mem)} (hF : RFm yC ccC nLC retC dC encC oC as M)
    (hcall : ∀ (p : Program) (l : Launch) (e : Env) (s : State) (m : MethodId) (below : List Frame) (meth : Method) (c : Code) (H : Heap) (locs : List Loc) (cA : Nat → ClassId) (D : va_G) (κ : Nat → Nat) (cells slots mc1 ms1 : Nat) (ls : Array Slot) (Qc1 : Array Value → State → Outcome → State → Prop) (free : Addr → Prop),
      CxL b Lx xs M p s m meth c H locs cells slots cA D κ → ls.size = 4 → cells + mc1 ≤ room_1.cells → slots + ms1 ≤ room_1.slots → Met l yC (Cond.code yC ccC nLC retC :: TB) (Rm dC mc1 ms1) (PcM as M cA D s.heap.size κ) Qc1 mc1 ms1 free → (∀ U : State, U.heap = H → s.WarmedH U.vm → PcM as M cA D s.heap.size κ (as.map (cv s.heap.size κ)).toArray U) →
      va_Run p l e room_1 s m #[Value.ref b] below meth c H locs cells slots mc1 ms1 (F0 m pc ls (st0.map (cv s.heap.size κ))) (rest.map (cv s.heap.size κ)) (Qc1 (as.map (cv s.heap.size κ)).toArray) free)
    (kk : ∀ (r : β) (M1 : Mem), LF b Lx xs (K r M1) (pc + 3) L ((encC r).toList ++ rest) M1) : LF b Lx xs (cl oC K) pc L st0 M := by
  intro M' ho
  obtain ⟨⟨r, M1⟩, h1, h2⟩ := bind_spec ho
  obtain ⟨hE2, kw0⟩ := kk r M1 M' h2
  obtain ⟨hE1, hMet⟩ := hF r M1 h1
  refine ⟨hE1.tr hE2, fun g5 g6 p l e s m below meth c H locs cA D κ cells slots ls C hl => ?_⟩
  have kw := kw0 g5 g6
  obtain ⟨⟨g1, g2⟩, ⟨g3, g4⟩⟩ := And.intro hE1.le hE2.le
  obtain ⟨hc, hs⟩ := C.2.2.2
  obtain ⟨hP, hD, hS⟩ := C.2.2.1
  refine W.sized (fun hsz => ?_)
  have hH : H.size = s.heap.size + (mS M).length := by
    have h1 : s.heap.size + (mS M).length ≤ H.size := by
      rcases Nat.eq_zero_or_pos (mS M).length with h0 | h0
      · have := hS.1
        rw [h0]; omega
      · obtain ⟨sh, hsh⟩ : ∃ sh, (mS M)[(mS M).length - 1]? = some sh := ⟨_, List.getElem?_eq_getElem (by omega)⟩
        have h2 := (hP _ _ (wld_at (b := s.heap.size) (cA := cA) hsh)).lt
        have h2 : s.heap.size + ((mS M).length - 1) < H.size := h2
        omega
    omega
  have hfree : ∀ q, va_A (wld s.heap.size cA M) (s.heap.size + (mS M).length) q → s.heap.size ≤ q := fun q h => wld_ge h
  have hM1 := hMet l cA D s.heap.size κ ((mS M1).length - (mS M).length) (us M1 - us M) (by omega) (by omega)
  have hpre : ∀ U : State, U.heap = H → s.WarmedH U.vm → PcM as M cA D s.heap.size κ (as.map (cv s.heap.size κ)).toArray U := fun U hU hW => ⟨rfl, by rw [hU]; exact hH, by rw [hU]; exact hP, va_K.moved hW.alike C.2.1.2.2.2.1, hD.weaken (fun _ _ _ _ => trivial), by rw [hU]; exact C.2.1.2.2.2.2.next hW (fun a h1 h2 => hS.2.1 a h1 h2) hfree⟩
  refine run_go (hcall p l e s m below meth c H locs cA D κ cells slots _ _ ls _ _ C hl.1 (by omega) (by omega) hM1 hpre) (fun v1 st₀ t Ls h0 hLs hq => ?_)
  obtain ⟨⟨hv1, qP, qD⟩, qz, qk⟩ := hq
  cases hv1
  rw [h0] at qz qk
  have hS2 : va_S (fun q => s.heap.size ≤ q) s.heap t.heap (locs ++ Ls) := ⟨Nat.le_trans hS.1 qz, fun q h1 h2 => by rw [qk q (Nat.lt_of_lt_of_le h1 hS.1) (fun z => h2 (hfree q z))]; exact hS.2.1 q h1 h2, fun q hq => by
    rcases List.mem_append.mp hq with h | h
    · exact hS.2.2 q h
    · exact hfree _ (hLs q h)⟩
  have k1 := kw p l e s m below meth c t.heap (locs ++ Ls) cA D κ (cells + ((mS M1).length - (mS M).length)) (slots + (us M1 - us M)) ls ⟨C.1, C.2.1, ⟨qP, qD.weaken (fun k q _ h => hfree q.1 h), hS2⟩, by omega, by omega⟩ hl
  rw [List.map_append] at k1
  have e1 : List.map (cv s.heap.size κ) (encC r).toList = (Option.map (cv s.heap.size κ) (encC r)).toList := by cases encC r <;> rfl
  rw [e1] at k1
  exact k1
theorem L_callV_I {yC : MethodName} {ccC : ByteArray} {nLC dC idx n ci : Nat} {CC : String} {T : u_T} {N : Nat} {retC : Option FieldType} {As st0 : List Value} {q : Option Nat} {F : Nat → Option (Int32 × Mem)} {K : Int32 → Mem → Option (Int32 × Mem)} (hF : ∀ a, RFm yC ccC nLC retC dC eI (F a) (va_rf (some a) :: As) M) (hm : MF yC ccC nLC retC n) (hlk : Cond.methodLink RL idx yC ∈ TB) (hin : Cond.instanceMethod yC ∈ TB) (hsel : Cond.selects CC yC yC ∈ TB) (hc : vwCl[ci]? = some (CC, T, N))
    (hn : As.length = n) (hst0 : As.reverse ++ va_rf q :: S = st0) (hd : decode code pc = .ok (.invokevirtual idx, 3)) (hp : pc + 3 = pc') (hdd : dC ≤ 60) (hcat : (S.map fun v => v.category).sum ≤ 8)
    (kk : ∀ (r : Int32) (M1 : Mem), LF b Lx xs (K r M1) pc' L (.int r :: S) M1) : LF b Lx xs ((oO M ci q).bind fun a => cl (F a) K) pc L st0 M := L_bind (fun a ha => by
  obtain ⟨rfl, hs⟩ := oO_spec ha
  subst hp
  refine LF.call (hF a) (fun p l e s m below meth c H locs cA D κ cells slots mc1 ms1 ls Qc1 free C hls h1 h2 hMet hpre => ?_) kk
  obtain ⟨m1, m2, m3, m4, m5, m6⟩ := hm
  have hts := C.1.2.2.2.2.2.1
  refine va_runV (b := s.heap.size + a) (As := As.map (cv s.heap.size κ)) (C := CC) ⟨C.1.1, C.1.2.1, C.1.2.2.1, C.1.2.2.2.2.1, hts⟩ hMet ⟨callB_of n hts (mf_good m1) rfl rfl rfl (hts _ m2) (hts _ hlk) ⟨m4, m5, m6⟩ ⟨?_, ?_⟩, hts _ hin, hts _ hsel⟩ ⟨blind, va_recv C.2.1.2.2.2.1 C.2.2.1.1 hc (wld_at hs), hpre⟩ rfl (by rw [List.length_map]; exact hn) hls ?_ ?_ hd ⟨h1, h2⟩
  · show dC + 1 ≤ 2048
    omega
  · show 8 + (nLC + 11) + 64 * dC ≤ 84000
    omega
  · show List.map (cv s.heap.size κ) st0 = _
    rw [← hst0, List.map_append, List.map_reverse]
    rfl
  · show 2 * 0 + _ ≤ 8
    rw [cat_sum]; omega)
theorem L_callI_V {yC : MethodName} {ccC : ByteArray} {nLC dC idx n a : Nat} {As st0 : List Value} {oC : Option (Unit × Mem)} {K : Unit → Mem → Option (Int32 × Mem)} (hF : RFm yC ccC nLC none dC eV oC (va_rf (some a) :: As) M) (hm : MF yC ccC nLC none n) (hlk : Cond.methodLink RL idx yC ∈ TB) (hin : Cond.instanceMethod yC ∈ TB) (hyn : yC.name = "<init>")
    (hn : As.length = n) (hst0 : As.reverse ++ va_rf (some a) :: S = st0) (hd : decode code pc = .ok (.invokespecial idx, 3)) (hp : pc + 3 = pc') (hdd : dC ≤ 60) (hcat : (S.map fun v => v.category).sum ≤ 8)
    (kk : ∀ (r : Unit) (M1 : Mem), LF b Lx xs (K r M1) pc' L S M1) : LF b Lx xs (cl oC K) pc L st0 M := by
  subst hp
  refine LF.call hF (fun p l e s m below meth c H locs cA D κ cells slots mc1 ms1 ls Qc1 free C hls h1 h2 hMet hpre => ?_) kk
  obtain ⟨m1, m2, m3, m4, m5, m6⟩ := hm
  have hts := C.1.2.2.2.2.2.1
  refine va_runI (b := s.heap.size + a) (As := As.map (cv s.heap.size κ)) ⟨C.1.1, C.1.2.1, C.1.2.2.1, C.1.2.2.2.2.1, hts⟩ hMet ⟨callB_of n hts (mf_good m1) rfl rfl rfl (hts _ m2) (hts _ hlk) ⟨m4, m5, m6⟩ ⟨?_, ?_⟩, hyn, hts _ hin⟩ ⟨blind, hpre⟩ rfl (by rw [List.length_map]; exact hn) hls ?_ ?_ hd ⟨h1, h2⟩
  · show dC + 1 ≤ 2048
    omega
  · show 8 + (nLC + 11) + 64 * dC ≤ 84000
    omega
  · show List.map (cv s.heap.size κ) st0 = _
    rw [← hst0, List.map_append, List.map_reverse]
    rfl
  · show 2 * 0 + _ ≤ 8
    rw [cat_sum]; omega
end LFS
