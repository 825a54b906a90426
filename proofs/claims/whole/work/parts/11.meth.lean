def cl {β γ : Type} (o : Option (β × Mem)) (K : β → Mem → Option γ) : Option γ := o.bind fun x => K x.1 x.2
section RFC
variable {α : Type} {y : MethodName} {cc : ByteArray} {nL : Nat} {ret : Option FieldType} {d : Nat} {enc : α → Option Value} {o o1 o2 : Option (α × Mem)} {pc pc' tgt : Nat} {L L' : List (Nat × Value)} {S S' : List Value} {M : Mem}
theorem R_newq {t idx : Nat} {E : String} {n : Int32} {K : Nat → Mem → Option (α × Mem)} (ht : 3 < t) (hE : TYF[t]? = some (.object E)) (hlk : Cond.classLink y.cls idx E ∈ TB) (hov : ∀ U, Nst U → va_AO E U) (hd : decode cc pc = .ok (.anewarray idx, 3)) (hp : pc + 3 = pc')
    (kk : ∀ (a : Nat) (M2 : Mem), RF y cc nL ret d enc (K a M2) pc' L (va_rf (some a) :: S) M2) : RF y cc nL ret d enc (newA M t n K) pc L (.int n :: S) M := by
  subst hp
  refine R_if (fun _ => RF.none) (fun h0 => ?_)
  refine RF.alloc (kk (mS M).length (nw M (.inr (t, n.toNatClampNeg)))) (fun v M' hE2 kw p l e s m args below meth c H locs A cA D bs κ cells slots mc ms ls Qc C hl => ?_)
  have hts := C.1.2.2.2.2.2.1
  have hrm := C.room hE2
  have e3 : mR (nw M (.inr (t, n.toNatClampNeg))) (mS M).length = fun _ => none := rowU_s _ _ _
  have hKt := (C.2.1.2.2.1).2 t _ (TYS_at cA hE)
  have hfa : farr bs (nw M (.inr (t, n.toNatClampNeg))) (mS M).length t = .inr (.inr (.inr (.inr (fun _ => none)))) := by rw [farrq _ _ _ ht, e3]; rfl
  refine va_newq C.1.1 C.1.2.1 C.1.2.2.2.2.1 (hts _ hlk) (hov _ C.2.1.2.2.2.1) C.2.1.2.2.1 C.2.2.1.1 C.2.2.1.2.1 C.2.2.1.2.2 C.2.1.1 (fun h => h0 (Or.inl h)) rfl ?_ hrm.1 hrm.2 hd (fun q cB H1 hK2 hP hD hS => ?_)
  · have h1 : n.toNatClampNeg ≤ 1000000 := Nat.not_lt.mp fun h => h0 (Or.inr h)
    calc n.toNatClampNeg * 4 ≤ 1000000 * 4 := Nat.mul_le_mul_right 4 h1
      _ ≤ 536870912 := Nat.le_of_ble_eq_true rfl
  · refine W.sized (fun hz => ?_)
    have hq := new_at C.2.1.2.1 hP hD hz (by have := C.2.2.2.1.1; omega)
    subst hq
    have hcB : cB = cA t := by
      have h2 := hK2.2 (TYS cA).length (cB, .object E) (by rw [List.getElem?_append_right (Nat.le_refl _)]; simp)
      obtain ⟨kA, comp, -, -, -, g1⟩ := hKt.2
      obtain ⟨kA2, comp2, -, -, -, g2⟩ := h2.2
      exact Option.some.inj (g2.symm.trans g1)
    subst hcB
    rw [wld_push (b := bs) (cA := cA) (M := M) (sh := .inr (t, n.toNatClampNeg)) (e := Sum.inl (cA t, n.toNatClampNeg, .inr (.inr (.inr (.inr (fun _ => none)))))) (by show Sum.inl (cA t, n.toNatClampNeg, farr bs (nw M (.inr (t, n.toNatClampNeg))) (mS M).length t) = _; rw [hfa])] at hP hD
    exact kw p l e s m args below meth c H1 locs A cA D bs κ (cells + 1) (slots + n.toNatClampNeg) mc ms ls Qc (C.new hP hD hS) hl
theorem R_objInit {idx a : Nat} (hlk : Cond.methodLink y.cls idx objectInit ∈ TB) (hin : Cond.instanceMethod objectInit ∈ TB) (hco : Cond.code objectInit ⟨#[0xb1]⟩ 1 none ∈ TB) (hd : decode cc pc = .ok (.invokespecial idx, 3)) (hp : pc + 3 = pc') (hdd : 1 ≤ d) (hcat : (S.map fun v => v.category).sum ≤ 8)
    (k : RF y cc nL ret d enc o pc' L S M) : RF y cc nL ret d enc o pc L (va_rf (some a) :: S) M := k.step (fun v M' kw p l e s m args below meth c H locs A cA D bs κ cells slots mc ms ls Qc C hl => by
  subst hp
  have hts := C.1.2.2.2.2.2.1
  refine W.objInit C.1.1 C.1.2.1 C.1.2.2.2.2.1 (hts _ hlk) (hts _ hin) (hts _ hco) rfl (hl.1.trans C.1.2.2.1.symm) rfl hd hdd ?_ (kw p l e s m args below meth c H locs A cA D bs κ cells slots mc ms ls Qc C hl)
  show 2 * 0 + _ + 12 ≤ 64 * d
  rw [cat_sum]
  omega)
/-! a method as a whole -/
def PcM (as : List Value) (M : Mem) (cA : Nat → ClassId) (D : va_G) (bs : Nat) (κ : Nat → Nat) : Array Value → State → Prop := va_Pc (as.map (cv bs κ)) (fun U => U.heap.size = bs + (mS M).length ∧ va_P D vwCl (wld bs cA M) U.heap ∧ va_K D vwCl (TYS cA) U ∧ va_D (fun _ => True) (wld bs cA M) ∧ Kon κ (va_A (wld bs cA M) (bs + (mS M).length)) U U.heap)
def QcM (v : Option Value) (M M' : Mem) (cA : Nat → ClassId) (D : va_G) (bs : Nat) (κ : Nat → Nat) : Array Value → State → Outcome → State → Prop := fun _ st oc t => (oc = .returned (v.map (cv bs κ)) ∧ va_P D vwCl (wld bs cA M') t.heap ∧ va_D (va_A (wld bs cA M) (bs + (mS M).length)) (wld bs cA M')) ∧ va_F (va_A (wld bs cA M) (bs + (mS M).length)) st t
def RFm {β : Type} (y : MethodName) (cc : ByteArray) (nL : Nat) (ret : Option FieldType) (d : Nat) (enc : β → Option Value) (o : Option (β × Mem)) (as : List Value) (M : Mem) : Prop :=
  ∀ r M', o = some (r, M') → Ext M M' ∧ ∀ (l : Launch) (cA : Nat → ClassId) (D : va_G) (bs : Nat) (κ : Nat → Nat) (mc ms : Nat), (mS M').length = mc + (mS M).length → us M' = ms + us M →
    Met l y (Cond.code y cc nL ret :: TB) (Rm d mc ms) (PcM as M cA D bs κ) (QcM (enc r) M M' cA D bs κ) mc ms (va_A (wld bs cA M) (bs + (mS M).length))
theorem wld_ge {b : Nat} {cA : Nat → ClassId} {M : Mem} {q : Nat} (h : va_A (wld b cA M) (b + (mS M).length) q) : b ≤ q := by
  rcases h with ⟨k, e, h⟩ | h
  · have hk : k < (mS M).length := by have := (List.getElem?_eq_some_iff.mp h).1; rwa [wld_len] at this
    obtain ⟨sh, hsh⟩ : ∃ sh, (mS M)[k]? = some sh := ⟨_, List.getElem?_eq_getElem hk⟩
    rw [wld_at hsh] at h
    cases h
    omega
  · omega
theorem RFm_of {as : List Value} (hy : plainName y.cls = true) (hL : lv_args 0 as = L) (hn : (as.map fun v => v.category).sum ≤ nL) (k : RF y cc nL ret d enc o 0 L [] M) : RFm y cc nL ret d enc o as M := by
  intro r M' ho
  obtain ⟨hE, kw⟩ := k r M' ho
  refine ⟨hE, fun l cA D bs κ mc ms h1 h2 => ?_⟩
  refine Met.ofW (cc := cc) (maxL := nL) (ret := ret) hy rfl ?_
  intro p e s m args below meth c s₁ B hml hv
  obtain ⟨rfl, hsz, hP, hK, hD0, hKon⟩ := hv
  have hts := atoms_spec (ws := Cond.code y cc nL ret :: TB) B.pre
  have hown : s.vm.findClass y.cls = some m.cls := findClass_of_methodNamed B.named
  have hD := hD0.self (sz := bs + (mS M).length)
  have hl := lv_entry (as.map (cv bs κ)) (n := nL) (by rw [lg_sl_len, cat_sum]; exact hn)
  rw [lg_entry_eq]
  rw [lv_args_cv, hL] at hl
  refine kw p l e s m _ below meth c s.heap [] _ cA D bs κ 0 0 mc ms _ (QcM (enc r) M M' cA D bs κ) ⟨⟨B.exec, B.bytes, hml, B.returns, hown, fun w hw => hts w (List.mem_cons_of_mem _ hw), (name_of_methodNamed B.named B.method).1, B.notSynchronized⟩, ⟨fun q hq => Or.inr (by rw [← hsz]; exact hq), fun q hq => wld_ge hq, hK, hKon⟩, ⟨hP, hD, va_S.rf⟩, ⟨by omega, by omega, by omega⟩, fun H' locs' t gP gD gS ht hW => ⟨⟨rfl, by rw [ht]; exact gP, gD⟩, gS.F ht⟩⟩ hl
/-! calls -/
def MF (y : MethodName) (cc : ByteArray) (nL : Nat) (ret : Option FieldType) (n : Nat) : Prop :=
  Cond.code y cc nL ret ∈ TB ∧ Cond.initialized y.cls ∈ TB ∧ nL ≤ 40 ∧ y.cls ≠ "java/lang/invoke/MethodHandle" ∧ y.cls ≠ "java/lang/invoke/VarHandle" ∧ (parseMethodDescriptor y.desc).map (fun d => d.parameters.length) = some n
theorem tb_good : ∀ w ∈ TB, ((w.onTables && w.keeps) = true ∨ ∃ ty, w = .arrayClass ty) := fun _ h => good_of_word (List.mem_filter.mp h).2
theorem mf_good {yC : MethodName} {ccC : ByteArray} {nLC : Nat} {retC : Option FieldType} (h : Cond.code yC ccC nLC retC ∈ TB) : GoodIn TB (Cond.code yC ccC nLC retC :: TB) := fun w hw => by
  rcases List.mem_cons.mp hw with rfl | hw
  · exact ⟨h, tb_good _ h⟩
  · exact ⟨hw, tb_good _ hw⟩
theorem blind {as : List Value} {cA : Nat → ClassId} {D : va_G} {bs : Nat} {κ : Nat → Nat} : FrameBlind (PcM as M cA D bs κ) := fun a U g mk q => by
  obtain ⟨q0, q1, qP, qK, qD, qKon⟩ := q
  exact ⟨q0, q1, qP, va_K.moved (u := U) (U := U.calling g mk a) (Vm.Alike.refl U.vm) qK, qD, Kon.same (u := U) (U := U.calling g mk a) rfl qKon⟩
theorem run_go {p : Program} {l : Launch} {e : Env} {R : Room} {s : State} {m : MethodId} {args : Array Value} {below : List Frame} {meth : Method} {c : Code} {H : Heap} {locs : List Loc} {cells slots mc ms : Nat} {Q : State → Prop} {ls : Array Slot} {st0 rest : List Value} {free : Addr → Prop} {Qa : State → Outcome → State → Prop}
    (hr : va_Run p l e R s m args below meth c H locs cells slots mc ms (F0 m pc ls st0) rest Qa free)
    (kk : ∀ (v : Option Value) (st₀ t : State) (Ls : List Loc), st₀.heap = H → (∀ q ∈ Ls, free q.base) → Qa st₀ (.returned v) t → W p l e R s m args below meth c t.heap (locs ++ Ls) (cells + mc) (slots + ms) Q (F0 m (pc + 3) ls (v.toList ++ rest))) : W p l e R s m args below meth c H locs cells slots Q (F0 m pc ls st0) := by
  intro T hT X
  obtain ⟨v, st₀, t, T', Ls, h0, X', hL, e1, e2, hq, st⟩ := hr T hT X
  obtain ⟨t2, a1, b1⟩ := kk v st₀ t Ls h0 hL hq T' e1 X'
  exact ⟨t2, st t2 a1, b1⟩
/-- what a caller pays, and what it has behind the call -/
theorem RW_call {β : Type} {v : Option Value} {M' M1 : Mem} {yC : MethodName} {ccC : ByteArray} {nLC dC : Nat} {retC : Option FieldType} {encC : β → Option Value} {as rest st0 : List Value} {r : β} {oC : Option (β × Mem)} (hF : RFm yC ccC nLC retC dC encC oC as M) (ho : oC = some (r, M1)) (hE2 : Ext M1 M')
    (hcall : ∀ (p : Program) (l : Launch) (e : Env) (s : State) (m : MethodId) (args : Array Value) (below : List Frame) (meth : Method) (c : Code) (H : Heap) (locs : List Loc) (A : Nat → Prop) (cA : Nat → ClassId) (D : va_G) (bs : Nat) (κ : Nat → Nat) (cells slots mc ms mc1 ms1 : Nat) (ls : Array Slot) (Qc Qc1 : Array Value → State → Outcome → State → Prop) (free : Addr → Prop),
      Cx y cc nL ret v M' M p s m args meth c H locs cells slots mc ms A cA D bs κ Qc → ls.size = nL → cells + mc1 ≤ mc → slots + ms1 ≤ ms → Met l yC (Cond.code yC ccC nLC retC :: TB) (Rm dC mc1 ms1) (PcM as M cA D bs κ) Qc1 mc1 ms1 free → (∀ U : State, U.heap = H → s.WarmedH U.vm → PcM as M cA D bs κ (as.map (cv bs κ)).toArray U) →
      va_Run p l e (Rm d mc ms) s m args below meth c H locs cells slots mc1 ms1 (F0 m pc ls (st0.map (cv bs κ))) (rest.map (cv bs κ)) (Qc1 (as.map (cv bs κ)).toArray) free)
    (kw : RW y cc nL ret d v M' (pc + 3) L ((encC r).toList ++ rest) M1) : RW y cc nL ret d v M' pc L st0 M := by
  intro p l e s m args below meth c H locs A cA D bs κ cells slots mc ms ls Qc C hl
  obtain ⟨hE1, hMet⟩ := hF r M1 ho
  obtain ⟨⟨g1, g2⟩, ⟨g3, g4⟩⟩ := And.intro hE1.le hE2.le
  obtain ⟨hz, hc, hs⟩ := C.2.2.2.1
  obtain ⟨hP, hD, hS⟩ := C.2.2.1
  refine W.sized (fun hsz => ?_)
  have hH : H.size = bs + (mS M).length := by
    have h1 : bs + (mS M).length ≤ H.size := by
      rcases Nat.eq_zero_or_pos (mS M).length with h0 | h0
      · have := hS.1
        have := C.2.1.2.1 _ (C.2.1.1 s.heap.size (Nat.le_refl _))
        rw [h0]; omega
      · obtain ⟨sh, hsh⟩ : ∃ sh, (mS M)[(mS M).length - 1]? = some sh := ⟨_, List.getElem?_eq_getElem (by omega)⟩
        have h2 := (hP _ _ (wld_at (b := bs) (cA := cA) hsh)).lt
        have h2 : bs + ((mS M).length - 1) < H.size := h2
        omega
    omega
  have hfree : ∀ q, va_A (wld bs cA M) (bs + (mS M).length) q → A q := fun q h => by
    rcases h with ⟨k, e, h⟩ | h
    · exact hD.2 k _ h
    · exact C.2.1.1 q (by have := hS.1; omega)
  have hM1 := hMet l cA D bs κ ((mS M1).length - (mS M).length) (us M1 - us M) (by omega) (by omega)
  have hpre : ∀ U : State, U.heap = H → s.WarmedH U.vm → PcM as M cA D bs κ (as.map (cv bs κ)).toArray U := fun U hU hW => ⟨rfl, by rw [hU]; exact hH, by rw [hU]; exact hP, va_K.moved hW.alike C.2.1.2.2.1, hD.weaken (fun _ _ _ _ => trivial), by rw [hU]; exact C.2.1.2.2.2.next hW (fun a h1 h2 => hS.2.1 a h1 h2) hfree⟩
  refine run_go (hcall p l e s m args below meth c H locs A cA D bs κ cells slots mc ms _ _ ls Qc _ _ C hl.1 (by omega) (by omega) hM1 hpre) (fun v1 st₀ t Ls h0 hLs hq => ?_)
  obtain ⟨⟨hv1, qP, qD⟩, qz, qk⟩ := hq
  cases hv1
  rw [h0] at qz qk
  have hS2 : va_S A s.heap t.heap (locs ++ Ls) := ⟨Nat.le_trans hS.1 qz, fun q h1 h2 => by rw [qk q (Nat.lt_of_lt_of_le h1 hS.1) (fun z => h2 (hfree q z))]; exact hS.2.1 q h1 h2, fun q hq => by
    rcases List.mem_append.mp hq with h | h
    · exact hS.2.2 q h
    · exact hfree _ (hLs q h)⟩
  have k1 := kw p l e s m args below meth c t.heap (locs ++ Ls) A cA D bs κ (cells + ((mS M1).length - (mS M).length)) (slots + (us M1 - us M)) mc ms ls Qc ⟨C.1, C.2.1, ⟨qP, qD.weaken (fun k q _ h => hfree q.1 h), hS2⟩, ⟨by omega, by omega, by omega⟩, C.2.2.2.2⟩ hl
  rw [List.map_append] at k1
  have e1 : List.map (cv bs κ) (encC r).toList = (Option.map (cv bs κ) (encC r)).toList := by cases encC r <;> rfl
  rw [e1] at k1
  exact k1
theorem RF.call {β : Type} {yC : MethodName} {ccC : ByteArray} {nLC dC : Nat} {retC : Option FieldType} {encC : β → Option Value} {as rest st0 : List Value} {oC : Option (β × Mem)} {K : β → Mem → Option (α × Mem)} (hF : RFm yC ccC nLC retC dC encC oC as M)
    (hcall : ∀ (v : Option Value) (M' : Mem) (p : Program) (l : Launch) (e : Env) (s : State) (m : MethodId) (args : Array Value) (below : List Frame) (meth : Method) (c : Code) (H : Heap) (locs : List Loc) (A : Nat → Prop) (cA : Nat → ClassId) (D : va_G) (bs : Nat) (κ : Nat → Nat) (cells slots mc ms mc1 ms1 : Nat) (ls : Array Slot) (Qc Qc1 : Array Value → State → Outcome → State → Prop) (free : Addr → Prop),
      Cx y cc nL ret v M' M p s m args meth c H locs cells slots mc ms A cA D bs κ Qc → ls.size = nL → cells + mc1 ≤ mc → slots + ms1 ≤ ms → Met l yC (Cond.code yC ccC nLC retC :: TB) (Rm dC mc1 ms1) (PcM as M cA D bs κ) Qc1 mc1 ms1 free → (∀ U : State, U.heap = H → s.WarmedH U.vm → PcM as M cA D bs κ (as.map (cv bs κ)).toArray U) →
      va_Run p l e (Rm d mc ms) s m args below meth c H locs cells slots mc1 ms1 (F0 m pc ls (st0.map (cv bs κ))) (rest.map (cv bs κ)) (Qc1 (as.map (cv bs κ)).toArray) free)
    (kk : ∀ (r : β) (M1 : Mem), RF y cc nL ret d enc (K r M1) (pc + 3) L ((encC r).toList ++ rest) M1) : RF y cc nL ret d enc (cl oC K) pc L st0 M := by
  intro r M' ho
  obtain ⟨⟨rC, M1⟩, h1, h2⟩ := bind_spec ho
  obtain ⟨hE, kw⟩ := kk rC M1 r M' h2
  exact ⟨(hF rC M1 h1).1.tr hE, RW_call hF h1 hE (hcall _ _) kw⟩
theorem R_callS {β : Type} {yC : MethodName} {ccC : ByteArray} {nLC dC idx n : Nat} {retC : Option FieldType} {encC : β → Option Value} {As st0 : List Value} {oC : Option (β × Mem)} {K : β → Mem → Option (α × Mem)} (hF : RFm yC ccC nLC retC dC encC oC As M) (hm : MF yC ccC nLC retC n) (hlk : Cond.methodLink y.cls idx yC ∈ TB) (hst : Cond.static yC ∈ TB)
    (hn : As.length = n) (hst0 : As.reverse ++ S = st0) (hd : decode cc pc = .ok (.invokestatic idx, 3)) (hp : pc + 3 = pc') (hdd : dC + 1 ≤ d) (hcat : (S.map fun v => v.category).sum ≤ 8)
    (kk : ∀ (r : β) (M1 : Mem), RF y cc nL ret d enc (K r M1) pc' L ((encC r).toList ++ S) M1) : RF y cc nL ret d enc (cl oC K) pc L st0 M := by
  subst hp
  refine RF.call hF (fun v M' p l e s m args below meth c H locs A cA D bs κ cells slots mc ms mc1 ms1 ls Qc Qc1 free C hls h1 h2 hMet hpre => ?_) kk
  obtain ⟨m1, m2, m3, m4, m5, m6⟩ := hm
  have hts := C.1.2.2.2.2.2.1
  refine va_runS (As := As.map (cv bs κ)) ⟨C.1.1, C.1.2.1, C.1.2.2.1, C.1.2.2.2.2.1, hts⟩ hMet ⟨callB_of n hts (mf_good m1) rfl rfl rfl (hts _ m2) (hts _ hlk) ⟨m4, m5, m6⟩ ⟨hdd, ?_⟩, hts _ hst⟩ ⟨blind, hpre⟩ rfl (by rw [List.length_map]; exact hn) hls ?_ ?_ hd ⟨h1, h2⟩
  · show 8 + (nLC + 11) + 64 * dC ≤ 64 * d
    omega
  · show List.map (cv bs κ) st0 = _
    rw [← hst0, List.map_append, List.map_reverse]
  · show 2 * 0 + _ ≤ 8
    rw [cat_sum]; omega
theorem R_callV {β : Type} {yC : MethodName} {ccC : ByteArray} {nLC dC idx n ci : Nat} {CC : String} {T : u_T} {N : Nat} {retC : Option FieldType} {encC : β → Option Value} {As st0 : List Value} {q : Option Nat} {F : Nat → Option (β × Mem)} {K : β → Mem → Option (α × Mem)} (hF : ∀ a, RFm yC ccC nLC retC dC encC (F a) (va_rf (some a) :: As) M) (hm : MF yC ccC nLC retC n) (hlk : Cond.methodLink y.cls idx yC ∈ TB) (hin : Cond.instanceMethod yC ∈ TB) (hsel : Cond.selects CC yC yC ∈ TB) (hc : vwCl[ci]? = some (CC, T, N))
    (hn : As.length = n) (hst0 : As.reverse ++ va_rf q :: S = st0) (hd : decode cc pc = .ok (.invokevirtual idx, 3)) (hp : pc + 3 = pc') (hdd : dC + 1 ≤ d) (hcat : (S.map fun v => v.category).sum ≤ 8)
    (kk : ∀ (r : β) (M1 : Mem), RF y cc nL ret d enc (K r M1) pc' L ((encC r).toList ++ S) M1) : RF y cc nL ret d enc ((oO M ci q).bind fun a => cl (F a) K) pc L st0 M := R_bind (fun a ha => by
  obtain ⟨rfl, hs⟩ := oO_spec ha
  subst hp
  refine RF.call (hF a) (fun v M' p l e s m args below meth c H locs A cA D bs κ cells slots mc ms mc1 ms1 ls Qc Qc1 free C hls h1 h2 hMet hpre => ?_) kk
  obtain ⟨m1, m2, m3, m4, m5, m6⟩ := hm
  have hts := C.1.2.2.2.2.2.1
  refine va_runV (b := bs + a) (As := As.map (cv bs κ)) (C := CC) ⟨C.1.1, C.1.2.1, C.1.2.2.1, C.1.2.2.2.2.1, hts⟩ hMet ⟨callB_of n hts (mf_good m1) rfl rfl rfl (hts _ m2) (hts _ hlk) ⟨m4, m5, m6⟩ ⟨hdd, ?_⟩, hts _ hin, hts _ hsel⟩ ⟨blind, va_recv C.2.1.2.2.1 C.2.2.1.1 hc (wld_at hs), hpre⟩ rfl (by rw [List.length_map]; exact hn) hls ?_ ?_ hd ⟨h1, h2⟩
  · show 8 + (nLC + 11) + 64 * dC ≤ 64 * d
    omega
  · show List.map (cv bs κ) st0 = _
    rw [← hst0, List.map_append, List.map_reverse]
    rfl
  · show 2 * 0 + _ ≤ 8
    rw [cat_sum]; omega)
theorem R_callI {β : Type} {yC : MethodName} {ccC : ByteArray} {nLC dC idx n a : Nat} {encC : β → Option Value} {As st0 : List Value} {oC : Option (β × Mem)} {K : β → Mem → Option (α × Mem)} (hF : RFm yC ccC nLC none dC encC oC (va_rf (some a) :: As) M) (hm : MF yC ccC nLC none n) (hlk : Cond.methodLink y.cls idx yC ∈ TB) (hin : Cond.instanceMethod yC ∈ TB) (hyn : yC.name = "<init>")
    (hn : As.length = n) (hst0 : As.reverse ++ va_rf (some a) :: S = st0) (hd : decode cc pc = .ok (.invokespecial idx, 3)) (hp : pc + 3 = pc') (hdd : dC + 1 ≤ d) (hcat : (S.map fun v => v.category).sum ≤ 8)
    (kk : ∀ (r : β) (M1 : Mem), RF y cc nL ret d enc (K r M1) pc' L ((encC r).toList ++ S) M1) : RF y cc nL ret d enc (cl oC K) pc L st0 M := by
  subst hp
  refine RF.call hF (fun v M' p l e s m args below meth c H locs A cA D bs κ cells slots mc ms mc1 ms1 ls Qc Qc1 free C hls h1 h2 hMet hpre => ?_) kk
  obtain ⟨m1, m2, m3, m4, m5, m6⟩ := hm
  have hts := C.1.2.2.2.2.2.1
  refine va_runI (b := bs + a) (As := As.map (cv bs κ)) ⟨C.1.1, C.1.2.1, C.1.2.2.1, C.1.2.2.2.2.1, hts⟩ hMet ⟨callB_of n hts (mf_good m1) rfl rfl rfl (hts _ m2) (hts _ hlk) ⟨m4, m5, m6⟩ ⟨hdd, ?_⟩, hyn, hts _ hin⟩ ⟨blind, hpre⟩ rfl (by rw [List.length_map]; exact hn) hls ?_ ?_ hd ⟨h1, h2⟩
  · show 8 + (nLC + 11) + 64 * dC ≤ 64 * d
    omega
  · show List.map (cv bs κ) st0 = _
    rw [← hst0, List.map_append, List.map_reverse]
    rfl
  · show 2 * 0 + _ ≤ 8
    rw [cat_sum]; omega
theorem R_callIN {β : Type} {yC : MethodName} {ccC : ByteArray} {nLC dC idx n a : Nat} {host : String} {encC : β → Option Value} {As st0 : List Value} {oC : Option (β × Mem)} {K : β → Mem → Option (α × Mem)} (hF : RFm yC ccC nLC none dC encC oC (va_rf (some a) :: As) M) (hm : MF yC ccC nLC none n) (hlk : ∀ U, Nst U → va_Nw (.methodLinkNest y.cls idx yC host) U) (hin : Cond.instanceMethod yC ∈ TB) (hyn : yC.name = "<init>")
    (hn : As.length = n) (hst0 : As.reverse ++ va_rf (some a) :: S = st0) (hd : decode cc pc = .ok (.invokespecial idx, 3)) (hp : pc + 3 = pc') (hdd : dC + 1 ≤ d) (hcat : (S.map fun v => v.category).sum ≤ 8)
    (kk : ∀ (r : β) (M1 : Mem), RF y cc nL ret d enc (K r M1) pc' L ((encC r).toList ++ S) M1) : RF y cc nL ret d enc (cl oC K) pc L st0 M := by
  subst hp
  refine RF.call hF (fun v M' p l e s m args below meth c H locs A cA D bs κ cells slots mc ms mc1 ms1 ls Qc Qc1 free C hls h1 h2 hMet hpre => ?_) kk
  obtain ⟨m1, m2, m3, m4, m5, m6⟩ := hm
  have hts := C.1.2.2.2.2.2.1
  refine va_runIN (b := bs + a) (As := As.map (cv bs κ)) ⟨C.1.1, C.1.2.1, C.1.2.2.1, C.1.2.2.2.2.1, hts⟩ hMet ⟨va_cnB n hts (mf_good m1) rfl rfl rfl (hlk _ C.2.1.2.2.2.1) (hts _ m2) ⟨m4, m5, m6⟩ ⟨hdd, ?_⟩, hyn, hts _ hin⟩ ⟨blind, hpre⟩ rfl (by rw [List.length_map]; exact hn) hls ?_ ?_ hd ⟨h1, h2⟩
  · show 8 + (nLC + 11) + 64 * dC ≤ 64 * d
    omega
  · show List.map (cv bs κ) st0 = _
    rw [← hst0, List.map_append, List.map_reverse]
    rfl
  · show 2 * 0 + _ ≤ 8
    rw [cat_sum]; omega
theorem R_callS_I {yC : MethodName} {ccC : ByteArray} {nLC dC idx n : Nat} {retC : Option FieldType} {As st0 : List Value} {oC : Option (Int32 × Mem)} {K : Int32 → Mem → Option (α × Mem)} (hF : RFm yC ccC nLC retC dC eI oC As M) (hm : MF yC ccC nLC retC n) (hlk : Cond.methodLink y.cls idx yC ∈ TB) (hst : Cond.static yC ∈ TB)
    (hn : As.length = n) (hst0 : As.reverse ++ S = st0) (hd : decode cc pc = .ok (.invokestatic idx, 3)) (hp : pc + 3 = pc') (hdd : dC + 1 ≤ d) (hcat : (S.map fun v => v.category).sum ≤ 8)
    (kk : ∀ (r : Int32) (M1 : Mem), RF y cc nL ret d enc (K r M1) pc' L (.int r :: S) M1) : RF y cc nL ret d enc (cl oC K) pc L st0 M := R_callS hF hm hlk hst hn hst0 hd hp hdd hcat kk
theorem R_callV_I {yC : MethodName} {ccC : ByteArray} {nLC dC idx n ci : Nat} {CC : String} {T : u_T} {N : Nat} {retC : Option FieldType} {As st0 : List Value} {q : Option Nat} {F : Nat → Option (Int32 × Mem)} {K : Int32 → Mem → Option (α × Mem)} (hF : ∀ a, RFm yC ccC nLC retC dC eI (F a) (va_rf (some a) :: As) M) (hm : MF yC ccC nLC retC n) (hlk : Cond.methodLink y.cls idx yC ∈ TB) (hin : Cond.instanceMethod yC ∈ TB) (hsel : Cond.selects CC yC yC ∈ TB) (hc : vwCl[ci]? = some (CC, T, N))
    (hn : As.length = n) (hst0 : As.reverse ++ va_rf q :: S = st0) (hd : decode cc pc = .ok (.invokevirtual idx, 3)) (hp : pc + 3 = pc') (hdd : dC + 1 ≤ d) (hcat : (S.map fun v => v.category).sum ≤ 8)
    (kk : ∀ (r : Int32) (M1 : Mem), RF y cc nL ret d enc (K r M1) pc' L (.int r :: S) M1) : RF y cc nL ret d enc ((oO M ci q).bind fun a => cl (F a) K) pc L st0 M := R_callV hF hm hlk hin hsel hc hn hst0 hd hp hdd hcat kk
theorem R_callS_L {yC : MethodName} {ccC : ByteArray} {nLC dC idx n : Nat} {retC : Option FieldType} {As st0 : List Value} {oC : Option (Int64 × Mem)} {K : Int64 → Mem → Option (α × Mem)} (hF : RFm yC ccC nLC retC dC eL oC As M) (hm : MF yC ccC nLC retC n) (hlk : Cond.methodLink y.cls idx yC ∈ TB) (hst : Cond.static yC ∈ TB)
    (hn : As.length = n) (hst0 : As.reverse ++ S = st0) (hd : decode cc pc = .ok (.invokestatic idx, 3)) (hp : pc + 3 = pc') (hdd : dC + 1 ≤ d) (hcat : (S.map fun v => v.category).sum ≤ 8)
    (kk : ∀ (r : Int64) (M1 : Mem), RF y cc nL ret d enc (K r M1) pc' L (.long r :: S) M1) : RF y cc nL ret d enc (cl oC K) pc L st0 M := R_callS hF hm hlk hst hn hst0 hd hp hdd hcat kk
theorem R_callV_L {yC : MethodName} {ccC : ByteArray} {nLC dC idx n ci : Nat} {CC : String} {T : u_T} {N : Nat} {retC : Option FieldType} {As st0 : List Value} {q : Option Nat} {F : Nat → Option (Int64 × Mem)} {K : Int64 → Mem → Option (α × Mem)} (hF : ∀ a, RFm yC ccC nLC retC dC eL (F a) (va_rf (some a) :: As) M) (hm : MF yC ccC nLC retC n) (hlk : Cond.methodLink y.cls idx yC ∈ TB) (hin : Cond.instanceMethod yC ∈ TB) (hsel : Cond.selects CC yC yC ∈ TB) (hc : vwCl[ci]? = some (CC, T, N))
    (hn : As.length = n) (hst0 : As.reverse ++ va_rf q :: S = st0) (hd : decode cc pc = .ok (.invokevirtual idx, 3)) (hp : pc + 3 = pc') (hdd : dC + 1 ≤ d) (hcat : (S.map fun v => v.category).sum ≤ 8)
    (kk : ∀ (r : Int64) (M1 : Mem), RF y cc nL ret d enc (K r M1) pc' L (.long r :: S) M1) : RF y cc nL ret d enc ((oO M ci q).bind fun a => cl (F a) K) pc L st0 M := R_callV hF hm hlk hin hsel hc hn hst0 hd hp hdd hcat kk
theorem R_callS_R {yC : MethodName} {ccC : ByteArray} {nLC dC idx n : Nat} {retC : Option FieldType} {As st0 : List Value} {oC : Option (Option Nat × Mem)} {K : Option Nat → Mem → Option (α × Mem)} (hF : RFm yC ccC nLC retC dC eR oC As M) (hm : MF yC ccC nLC retC n) (hlk : Cond.methodLink y.cls idx yC ∈ TB) (hst : Cond.static yC ∈ TB)
    (hn : As.length = n) (hst0 : As.reverse ++ S = st0) (hd : decode cc pc = .ok (.invokestatic idx, 3)) (hp : pc + 3 = pc') (hdd : dC + 1 ≤ d) (hcat : (S.map fun v => v.category).sum ≤ 8)
    (kk : ∀ (r : Option Nat) (M1 : Mem), RF y cc nL ret d enc (K r M1) pc' L (va_rf r :: S) M1) : RF y cc nL ret d enc (cl oC K) pc L st0 M := R_callS hF hm hlk hst hn hst0 hd hp hdd hcat kk
theorem R_callV_R {yC : MethodName} {ccC : ByteArray} {nLC dC idx n ci : Nat} {CC : String} {T : u_T} {N : Nat} {retC : Option FieldType} {As st0 : List Value} {q : Option Nat} {F : Nat → Option (Option Nat × Mem)} {K : Option Nat → Mem → Option (α × Mem)} (hF : ∀ a, RFm yC ccC nLC retC dC eR (F a) (va_rf (some a) :: As) M) (hm : MF yC ccC nLC retC n) (hlk : Cond.methodLink y.cls idx yC ∈ TB) (hin : Cond.instanceMethod yC ∈ TB) (hsel : Cond.selects CC yC yC ∈ TB) (hc : vwCl[ci]? = some (CC, T, N))
    (hn : As.length = n) (hst0 : As.reverse ++ va_rf q :: S = st0) (hd : decode cc pc = .ok (.invokevirtual idx, 3)) (hp : pc + 3 = pc') (hdd : dC + 1 ≤ d) (hcat : (S.map fun v => v.category).sum ≤ 8)
    (kk : ∀ (r : Option Nat) (M1 : Mem), RF y cc nL ret d enc (K r M1) pc' L (va_rf r :: S) M1) : RF y cc nL ret d enc ((oO M ci q).bind fun a => cl (F a) K) pc L st0 M := R_callV hF hm hlk hin hsel hc hn hst0 hd hp hdd hcat kk
theorem R_callS_C {yC : MethodName} {ccC : ByteArray} {nLC dC idx n : Nat} {retC : Option FieldType} {As st0 : List Value} {oC : Option (UInt32 × Mem)} {K : UInt32 → Mem → Option (α × Mem)} (hF : RFm yC ccC nLC retC dC eC oC As M) (hm : MF yC ccC nLC retC n) (hlk : Cond.methodLink y.cls idx yC ∈ TB) (hst : Cond.static yC ∈ TB)
    (hn : As.length = n) (hst0 : As.reverse ++ S = st0) (hd : decode cc pc = .ok (.invokestatic idx, 3)) (hp : pc + 3 = pc') (hdd : dC + 1 ≤ d) (hcat : (S.map fun v => v.category).sum ≤ 8)
    (kk : ∀ (r : UInt32) (M1 : Mem), RF y cc nL ret d enc (K r M1) pc' L (.float r :: S) M1) : RF y cc nL ret d enc (cl oC K) pc L st0 M := R_callS hF hm hlk hst hn hst0 hd hp hdd hcat kk
theorem R_callV_C {yC : MethodName} {ccC : ByteArray} {nLC dC idx n ci : Nat} {CC : String} {T : u_T} {N : Nat} {retC : Option FieldType} {As st0 : List Value} {q : Option Nat} {F : Nat → Option (UInt32 × Mem)} {K : UInt32 → Mem → Option (α × Mem)} (hF : ∀ a, RFm yC ccC nLC retC dC eC (F a) (va_rf (some a) :: As) M) (hm : MF yC ccC nLC retC n) (hlk : Cond.methodLink y.cls idx yC ∈ TB) (hin : Cond.instanceMethod yC ∈ TB) (hsel : Cond.selects CC yC yC ∈ TB) (hc : vwCl[ci]? = some (CC, T, N))
    (hn : As.length = n) (hst0 : As.reverse ++ va_rf q :: S = st0) (hd : decode cc pc = .ok (.invokevirtual idx, 3)) (hp : pc + 3 = pc') (hdd : dC + 1 ≤ d) (hcat : (S.map fun v => v.category).sum ≤ 8)
    (kk : ∀ (r : UInt32) (M1 : Mem), RF y cc nL ret d enc (K r M1) pc' L (.float r :: S) M1) : RF y cc nL ret d enc ((oO M ci q).bind fun a => cl (F a) K) pc L st0 M := R_callV hF hm hlk hin hsel hc hn hst0 hd hp hdd hcat kk
theorem R_callS_V {yC : MethodName} {ccC : ByteArray} {nLC dC idx n : Nat} {retC : Option FieldType} {As st0 : List Value} {oC : Option (Unit × Mem)} {K : Unit → Mem → Option (α × Mem)} (hF : RFm yC ccC nLC retC dC eV oC As M) (hm : MF yC ccC nLC retC n) (hlk : Cond.methodLink y.cls idx yC ∈ TB) (hst : Cond.static yC ∈ TB)
    (hn : As.length = n) (hst0 : As.reverse ++ S = st0) (hd : decode cc pc = .ok (.invokestatic idx, 3)) (hp : pc + 3 = pc') (hdd : dC + 1 ≤ d) (hcat : (S.map fun v => v.category).sum ≤ 8)
    (kk : ∀ (r : Unit) (M1 : Mem), RF y cc nL ret d enc (K r M1) pc' L (S) M1) : RF y cc nL ret d enc (cl oC K) pc L st0 M := R_callS hF hm hlk hst hn hst0 hd hp hdd hcat kk
theorem R_callV_V {yC : MethodName} {ccC : ByteArray} {nLC dC idx n ci : Nat} {CC : String} {T : u_T} {N : Nat} {retC : Option FieldType} {As st0 : List Value} {q : Option Nat} {F : Nat → Option (Unit × Mem)} {K : Unit → Mem → Option (α × Mem)} (hF : ∀ a, RFm yC ccC nLC retC dC eV (F a) (va_rf (some a) :: As) M) (hm : MF yC ccC nLC retC n) (hlk : Cond.methodLink y.cls idx yC ∈ TB) (hin : Cond.instanceMethod yC ∈ TB) (hsel : Cond.selects CC yC yC ∈ TB) (hc : vwCl[ci]? = some (CC, T, N))
    (hn : As.length = n) (hst0 : As.reverse ++ va_rf q :: S = st0) (hd : decode cc pc = .ok (.invokevirtual idx, 3)) (hp : pc + 3 = pc') (hdd : dC + 1 ≤ d) (hcat : (S.map fun v => v.category).sum ≤ 8)
    (kk : ∀ (r : Unit) (M1 : Mem), RF y cc nL ret d enc (K r M1) pc' L (S) M1) : RF y cc nL ret d enc ((oO M ci q).bind fun a => cl (F a) K) pc L st0 M := R_callV hF hm hlk hin hsel hc hn hst0 hd hp hdd hcat kk
theorem R_callI_V {yC : MethodName} {ccC : ByteArray} {nLC dC idx n a : Nat} {As st0 : List Value} {oC : Option (Unit × Mem)} {K : Unit → Mem → Option (α × Mem)} (hF : RFm yC ccC nLC none dC eV oC (va_rf (some a) :: As) M) (hm : MF yC ccC nLC none n) (hlk : Cond.methodLink y.cls idx yC ∈ TB) (hin : Cond.instanceMethod yC ∈ TB) (hyn : yC.name = "<init>")
    (hn : As.length = n) (hst0 : As.reverse ++ va_rf (some a) :: S = st0) (hd : decode cc pc = .ok (.invokespecial idx, 3)) (hp : pc + 3 = pc') (hdd : dC + 1 ≤ d) (hcat : (S.map fun v => v.category).sum ≤ 8)
    (kk : ∀ (r : Unit) (M1 : Mem), RF y cc nL ret d enc (K r M1) pc' L S M1) : RF y cc nL ret d enc (cl oC K) pc L st0 M := R_callI hF hm hlk hin hyn hn hst0 hd hp hdd hcat kk
theorem R_callIN_V {yC : MethodName} {ccC : ByteArray} {nLC dC idx n a : Nat} {host : String} {As st0 : List Value} {oC : Option (Unit × Mem)} {K : Unit → Mem → Option (α × Mem)} (hF : RFm yC ccC nLC none dC eV oC (va_rf (some a) :: As) M) (hm : MF yC ccC nLC none n) (hlk : ∀ U, Nst U → va_Nw (.methodLinkNest y.cls idx yC host) U) (hin : Cond.instanceMethod yC ∈ TB) (hyn : yC.name = "<init>")
    (hn : As.length = n) (hst0 : As.reverse ++ va_rf (some a) :: S = st0) (hd : decode cc pc = .ok (.invokespecial idx, 3)) (hp : pc + 3 = pc') (hdd : dC + 1 ≤ d) (hcat : (S.map fun v => v.category).sum ≤ 8)
    (kk : ∀ (r : Unit) (M1 : Mem), RF y cc nL ret d enc (K r M1) pc' L S M1) : RF y cc nL ret d enc (cl oC K) pc L st0 M := R_callIN hF hm hlk hin hyn hn hst0 hd hp hdd hcat kk
/-! switches, target by target -/
def KS (y : MethodName) (cc : ByteArray) (nL : Nat) (ret : Option FieldType) (d : Nat) (enc : α → Option Value) (pc : Nat) (L : List (Nat × Value)) (S : List Value) (M : Mem) : List Int → List (Option (α × Mem)) → Prop
  | off :: offs, o :: os => (∃ t : Nat, (pc : Int) + off = (t : Int) ∧ RF y cc nL ret d enc o t L S M) ∧ KS y cc nL ret d enc pc L S M offs os
  | _, [] => True
  | [], _ :: _ => False
theorem KS.at : ∀ {offs : List Int} {os : List (Option (α × Mem))}, KS y cc nL ret d enc pc L S M offs os → ∀ j : Nat, j < os.length → ∃ (off : Int) (t : Nat), offs[j]? = some off ∧ (pc : Int) + off = (t : Int) ∧ RF y cc nL ret d enc (os.getD j none) t L S M
  | _, [], _, j, hj => absurd hj (Nat.not_lt_zero j)
  | [], _ :: _, h, _, _ => h.elim
  | off :: offs, o :: os, ⟨⟨t, h1, h2⟩, _⟩, 0, _ => ⟨off, t, rfl, h1, h2⟩
  | off :: offs, o :: os, ⟨_, h⟩, j + 1, hj => KS.at h j (Nat.lt_of_succ_lt_succ hj)
theorem R_tsw {x : Int32} {dflt lo hi : Int} {offs : Array Int} {len : Nat} {os : List (Option (α × Mem))} (hd : decode cc pc = .ok (.tableswitch dflt lo hi offs, len)) (hn : hi = lo + os.length - 1) (ht : (pc : Int) + dflt = (tgt : Int)) (kd : RF y cc nL ret d enc o tgt L S M) (ks : KS y cc nL ret d enc pc L S M offs.toList os) : RF y cc nL ret d enc (tsw x lo os o) pc L (.int x :: S) M :=
  R_table hd hn ht kd (fun j hj => by
    obtain ⟨off, t, h1, h2, h3⟩ := ks.at j hj
    exact ⟨off, t, by rw [← Array.getElem?_toList]; exact h1, h2, h3⟩)
def lsw (x : Int32) : List (Int × Option (α × Mem)) → Option (α × Mem) → Option (α × Mem)
  | [], o => o
  | (k, o1) :: r, o => if x.toInt = k then o1 else lsw x r o
end RFC
