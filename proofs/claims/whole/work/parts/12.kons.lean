/-! constants of the classes: texts, their bytes, the row WORDS -/
def kLen (w : UInt32) : Option Int32 := if 100 ≤ w.toNat ∧ w.toNat < 118 then some (Int32.ofNat (STRn.getD (w.toNat - 100) 0)) else none
def kByte (w : UInt32) (i : Int32) : Option Int32 := if (100 ≤ w.toNat ∧ w.toNat < 118) ∧ ¬ (i < 0 ∨ STRn.getD (w.toNat - 100) 0 ≤ i.toNatClampNeg) then some ((STRb.getD (w.toNat - 100) []).getD i.toNatClampNeg 0) else none
def kWord (i : Int32) : Option Int64 := if i < 0 ∨ 11 ≤ i.toNatClampNeg then none else some (WRD.getD i.toNatClampNeg 0)
def kT {γ : Type} (u : UInt32) (o : Option γ) : Option γ := if 1 ≤ u.toNat ∧ u.toNat ≤ 18 then o else none
section RFK
variable {α : Type} {y : MethodName} {cc : ByteArray} {nL : Nat} {ret : Option FieldType} {d : Nat} {enc : α → Option Value} {o o1 o2 : Option (α × Mem)} {pc pc' tgt : Nat} {L L' : List (Nat × Value)} {S S' : List Value} {M : Mem}
theorem R_kstr {u : UInt32} {i idx : Nat} (hy : y.cls = RX10) (hi : i < 18) (hk : STRk.getD i 0 = idx) (hu : u.toNat = 1 + i) (hd : decode cc pc = .ok (.ldc idx, 2)) (hp : pc + 2 = pc') (k : RF y cc nL ret d enc o pc' L (.float u :: S) M) : RF y cc nL ret d enc o pc L S M := k.step (fun v M' kw p l e s m args below meth c H locs A cA D bs κ cells slots mc ms ls Qc C hl => by
  subst hp
  subst hk
  have hown := C.1.2.2.2.2.1
  rw [hy] at hown
  have k1 := kw p l e s m args below meth c H locs A cA D bs κ cells slots mc ms ls Qc C hl
  have e1 : cv bs κ (.float u) = .ref (κ (1 + i)) := by show Value.ref (κ u.toNat) = _; rw [hu]
  rw [List.map_cons, e1] at k1
  exact va_ldcS C.1.1 C.1.2.1 hown (C.2.1.2.2.2.2.2.2.1 i hi) hd k1)
theorem R_kstrw {u : UInt32} {i idx : Nat} (hy : y.cls = RX10) (hi : i < 18) (hk : STRk.getD i 0 = idx) (hu : u.toNat = 1 + i) (hd : decode cc pc = .ok (.ldc_w idx, 3)) (hp : pc + 3 = pc') (k : RF y cc nL ret d enc o pc' L (.float u :: S) M) : RF y cc nL ret d enc o pc L S M := k.step (fun v M' kw p l e s m args below meth c H locs A cA D bs κ cells slots mc ms ls Qc C hl => by
  subst hp
  subst hk
  have hown := C.1.2.2.2.2.1
  rw [hy] at hown
  have k1 := kw p l e s m args below meth c H locs A cA D bs κ cells slots mc ms ls Qc C hl
  have e1 : cv bs κ (.float u) = .ref (κ (1 + i)) := by show Value.ref (κ u.toNat) = _; rw [hu]
  rw [List.map_cons, e1] at k1
  have hZ := C.2.1.2.2.2.2.2.2.1 i hi
  intro T hT X
  obtain ⟨t, a1, b1⟩ := k1 T hT X
  exact ⟨t, X.ldcStringW C.1.1 hown (text := STRt.getD i "") (a := κ (1 + i)) hZ.1 hZ.2 (g := F0 m pc ls (S.map (cv bs κ))) rfl (by rw [C.1.2.1]; exact hd) t a1, b1⟩)
theorem u99 {u : UInt32} (h : 1 ≤ u.toNat ∧ u.toNat ≤ 18) : (u + 99).toNat = 100 + (u.toNat - 1) := by
  rw [UInt32.toNat_add]
  show (u.toNat + 99) % 2 ^ 32 = _
  omega
theorem R_kval {u : UInt32} {idx : Nat} (hlk : Cond.fieldLink y.cls idx "java/lang/String" "value" "[B" ∈ TB) (hd : decode cc pc = .ok (.getfield idx, 3)) (hp : pc + 3 = pc') (k : RF y cc nL ret d enc o pc' L (.float (u + 99) :: S) M) : RF y cc nL ret d enc (kT u o) pc L (.float u :: S) M := R_if (fun hu => k.step (fun v M' kw p l e s m args below meth c H locs A cA D bs κ cells slots mc ms ls Qc C hl => by
  subst hp
  have k1 := kw p l e s m args below meth c H locs A cA D bs κ cells slots mc ms ls Qc C hl
  have e1 : cv bs κ (.float (u + 99)) = .ref (κ (100 + (u.toNat - 1))) := by show Value.ref (κ (u + 99).toNat) = _; rw [u99 hu]
  rw [List.map_cons, e1] at k1
  have hE := (C.2.1.2.2.2.2.2.2.2.1 (u.toNat - 1) (by omega)).2.2.1
  dsimp only at hE
  rw [show 1 + (u.toNat - 1) = u.toNat by omega] at hE
  exact vk_getf C.1.1 C.1.2.1 hE C.2.2.1.2.2 C.1.2.2.2.2.1 (C.1.2.2.2.2.2.1 _ hlk) (fun _ h => h) hd k1)) (fun _ => RF.none)
theorem R_kcoder {u : UInt32} {idx : Nat} (hlk : Cond.fieldLink y.cls idx "java/lang/String" "coder" "B" ∈ TB) (hd : decode cc pc = .ok (.getfield idx, 3)) (hp : pc + 3 = pc') (k : RF y cc nL ret d enc o pc' L (.int 0 :: S) M) : RF y cc nL ret d enc (kT u o) pc L (.float u :: S) M := R_if (fun hu => k.step (fun v M' kw p l e s m args below meth c H locs A cA D bs κ cells slots mc ms ls Qc C hl => by
  subst hp
  have k1 := kw p l e s m args below meth c H locs A cA D bs κ cells slots mc ms ls Qc C hl
  have hE := (C.2.1.2.2.2.2.2.2.2.1 (u.toNat - 1) (by omega)).2.1
  dsimp only at hE
  rw [show 1 + (u.toNat - 1) = u.toNat by omega] at hE
  exact vk_getf C.1.1 C.1.2.1 hE C.2.2.1.2.2 C.1.2.2.2.2.1 (C.1.2.2.2.2.2.1 _ hlk) (fun _ h => h) hd k1)) (fun _ => RF.none)
theorem R_klen {w : UInt32} {K : Int32 → Option (α × Mem)} (hd : decode cc pc = .ok (.arraylength, 1)) (hp : pc + 1 = pc') (kk : ∀ x : Int32, RF y cc nL ret d enc (K x) pc' L (.int x :: S) M) : RF y cc nL ret d enc ((kLen w).bind K) pc L (.float w :: S) M := R_bind (fun x hx => by
  unfold kLen at hx
  by_cases hw : 100 ≤ w.toNat ∧ w.toNat < 118
  · rw [if_pos hw] at hx
    cases hx
    subst hp
    refine (kk _).step (fun v M' kw p l e s m args below meth c H locs A cA D bs κ cells slots mc ms ls Qc C hl => ?_)
    have hE := (C.2.1.2.2.2.2.2.2.2.1 (w.toNat - 100) (by omega)).2.2.2
    dsimp only at hE
    rw [show 100 + (w.toNat - 100) = w.toNat by omega] at hE
    exact va_tlen C.1.1 C.1.2.1 hE C.2.2.1.2.2 rfl hd (kw p l e s m args below meth c H locs A cA D bs κ cells slots mc ms ls Qc C hl)
  · rw [if_neg hw] at hx; cases hx)
theorem R_kbyte {w : UInt32} {i : Int32} {K : Int32 → Option (α × Mem)} (hd : decode cc pc = .ok (.baload, 1)) (hp : pc + 1 = pc') (kk : ∀ x : Int32, RF y cc nL ret d enc (K x) pc' L (.int x :: S) M) : RF y cc nL ret d enc ((kByte w i).bind K) pc L (.int i :: .float w :: S) M := R_bind (fun x hx => by
  unfold kByte at hx
  by_cases hw : (100 ≤ w.toNat ∧ w.toNat < 118) ∧ ¬ (i < 0 ∨ STRn.getD (w.toNat - 100) 0 ≤ i.toNatClampNeg)
  · rw [if_pos hw] at hx
    cases hx
    subst hp
    refine (kk _).step (fun v M' kw p l e s m args below meth c H locs A cA D bs κ cells slots mc ms ls Qc C hl => ?_)
    have hE := (C.2.1.2.2.2.2.2.2.2.1 (w.toNat - 100) (by omega)).2.2.2
    dsimp only at hE
    rw [show 100 + (w.toNat - 100) = w.toNat by omega] at hE
    exact va_tb C.1.1 C.1.2.1 hE C.2.2.1.2.2 hw.2 rfl hd (kw p l e s m args below meth c H locs A cA D bs κ cells slots mc ms ls Qc C hl)
  · rw [if_neg hw] at hx; cases hx)
theorem R_kcompact {idx : Nat} (hlk : Cond.fieldLink y.cls idx "java/lang/String" "COMPACT_STRINGS" "Z" ∈ TB) (hd : decode cc pc = .ok (.getstatic idx, 3)) (hp : pc + 3 = pc') (k : RF y cc nL ret d enc o pc' L (.int 1 :: S) M) : RF y cc nL ret d enc o pc L S M := k.step (fun v M' kw p l e s m args below meth c H locs A cA D bs κ cells slots mc ms ls Qc C hl => by
  subst hp
  exact va_gets C.1.1 C.1.2.1 C.2.1.2.2.2.2.2.1.1 C.2.2.1.2.2 C.1.2.2.2.2.1 (C.1.2.2.2.2.2.1 _ hlk) (fun _ h => h) hd (kw p l e s m args below meth c H locs A cA D bs κ cells slots mc ms ls Qc C hl))
theorem R_kfmt {idx : Nat} (hlk : Cond.fieldLink y.cls idx "jdk/internal/util/Preconditions" "SIOOBE_FORMATTER" "Ljava/util/function/BiFunction;" ∈ TB) (hd : decode cc pc = .ok (.getstatic idx, 3)) (hp : pc + 3 = pc') (k : ∀ X : Value, (X = .null ∨ X = .float 200) → RF y cc nL ret d enc o pc' L (X :: S) M) : RF y cc nL ret d enc o pc L S M := fun r M' ho => by
  subst hp
  refine ⟨(k .null (Or.inl rfl) r M' ho).1, fun p l e s m args below meth c H locs A cA D bs κ cells slots mc ms ls Qc C hl => ?_⟩
  obtain ⟨v, hv, hz⟩ := C.2.1.2.2.2.2.2.1.2
  rcases hv with rfl | rfl
  · exact va_gets C.1.1 C.1.2.1 hz C.2.2.1.2.2 C.1.2.2.2.2.1 (C.1.2.2.2.2.2.1 _ hlk) (fun _ h => h) hd ((k .null (Or.inl rfl) r M' ho).2 p l e s m args below meth c H locs A cA D bs κ cells slots mc ms ls Qc C hl)
  · exact va_gets C.1.1 C.1.2.1 hz C.2.2.1.2.2 C.1.2.2.2.2.1 (C.1.2.2.2.2.2.1 _ hlk) (fun _ h => h) hd ((k (.float 200) (Or.inr rfl) r M' ho).2 p l e s m args below meth c H locs A cA D bs κ cells slots mc ms ls Qc C hl)
theorem R_kwords {idx : Nat} (hlk : Cond.fieldLink y.cls idx RX5 "WORDS" "[J" ∈ TB) (hd : decode cc pc = .ok (.getstatic idx, 3)) (hp : pc + 3 = pc') (k : RF y cc nL ret d enc o pc' L (.float 0 :: S) M) : RF y cc nL ret d enc o pc L S M := k.step (fun v M' kw p l e s m args below meth c H locs A cA D bs κ cells slots mc ms ls Qc C hl => by
  subst hp
  exact va_gets C.1.1 C.1.2.1 C.2.1.2.2.2.2.1.1 C.2.2.1.2.2 C.1.2.2.2.2.1 (C.1.2.2.2.2.2.1 _ hlk) (fun _ h => h) hd (kw p l e s m args below meth c H locs A cA D bs κ cells slots mc ms ls Qc C hl))
theorem R_kwlen (hd : decode cc pc = .ok (.arraylength, 1)) (hp : pc + 1 = pc') (k : RF y cc nL ret d enc o pc' L (.int 11 :: S) M) : RF y cc nL ret d enc o pc L (.float 0 :: S) M := k.step (fun v M' kw p l e s m args below meth c H locs A cA D bs κ cells slots mc ms ls Qc C hl => by
  subst hp
  exact va_tlen C.1.1 C.1.2.1 C.2.1.2.2.2.2.1.2 C.2.2.1.2.2 rfl hd (kw p l e s m args below meth c H locs A cA D bs κ cells slots mc ms ls Qc C hl))
theorem R_kwat {i : Int32} {K : Int64 → Option (α × Mem)} (hd : decode cc pc = .ok (.laload, 1)) (hp : pc + 1 = pc') (kk : ∀ x : Int64, RF y cc nL ret d enc (K x) pc' L (.long x :: S) M) : RF y cc nL ret d enc ((kWord i).bind K) pc L (.int i :: .float 0 :: S) M := R_bind (fun x hx => by
  unfold kWord at hx
  by_cases hw : i < 0 ∨ 11 ≤ i.toNatClampNeg
  · rw [if_pos hw] at hx; cases hx
  · rw [if_neg hw] at hx
    cases hx
    subst hp
    refine (kk _).step (fun v M' kw p l e s m args below meth c H locs A cA D bs κ cells slots mc ms ls Qc C hl => ?_)
    exact va_tl C.1.1 C.1.2.1 C.2.1.2.2.2.2.1.2 C.2.2.1.2.2 hw rfl hd (kw p l e s m args below meth c H locs A cA D bs κ cells slots mc ms ls Qc C hl))
theorem R_callK {β : Type} {yC : MethodName} {ccC : ByteArray} {nLC dC idx n : Nat} {retC : Option FieldType} {encC : β → Option Value} {As st0 : List Value} {u : UInt32} {oC : Option (β × Mem)} {K : β → Mem → Option (α × Mem)} (hF : RFm yC ccC nLC retC dC encC oC (.float u :: As) M) (hm : MF yC ccC nLC retC n) (hlk : Cond.methodLink y.cls idx yC ∈ TB) (hin : Cond.instanceMethod yC ∈ TB) (hsel : Cond.selects "java/lang/String" yC yC ∈ TB)
    (hn : As.length = n) (hst0 : As.reverse ++ .float u :: S = st0) (hd : decode cc pc = .ok (.invokevirtual idx, 3)) (hp : pc + 3 = pc') (hdd : dC + 1 ≤ d) (hcat : (S.map fun v => v.category).sum ≤ 8)
    (kk : ∀ (r : β) (M1 : Mem), RF y cc nL ret d enc (K r M1) pc' L ((encC r).toList ++ S) M1) : RF y cc nL ret d enc (kT u (cl oC K)) pc L st0 M := R_if (fun hu => by
  subst hp
  refine RF.call hF (fun v M' p l e s m args below meth c H locs A cA D bs κ cells slots mc ms mc1 ms1 ls Qc Qc1 free C hls h1 h2 hMet hpre => ?_) kk
  obtain ⟨m1, m2, m3, m4, m5, m6⟩ := hm
  have hts := C.1.2.2.2.2.2.1
  have hrv := vk_recv C.2.1.2.2.2.2.2.2.2 (i := u.toNat - 1) (by omega) C.2.2.1.2.2
  try dsimp only at hrv
  rw [show 1 + (u.toNat - 1) = u.toNat by omega] at hrv
  refine va_runV (b := κ u.toNat) (As := As.map (cv bs κ)) (C := "java/lang/String") ⟨C.1.1, C.1.2.1, C.1.2.2.1, C.1.2.2.2.2.1, hts⟩ hMet ⟨callB_of n hts (mf_good m1) rfl rfl rfl (hts _ m2) (hts _ hlk) ⟨m4, m5, m6⟩ ⟨hdd, ?_⟩, hts _ hin, hts _ hsel⟩ ⟨blind, hrv, hpre⟩ rfl (by rw [List.length_map]; exact hn) hls ?_ ?_ hd ⟨h1, h2⟩
  · show 8 + (nLC + 11) + 64 * dC ≤ 64 * d
    omega
  · show List.map (cv bs κ) st0 = _
    rw [← hst0, List.map_append, List.map_reverse]
    rfl
  · show 2 * 0 + _ ≤ 8
    rw [cat_sum]; omega) (fun _ => RF.none)
theorem R_callK_I {yC : MethodName} {ccC : ByteArray} {nLC dC idx n : Nat} {retC : Option FieldType} {As st0 : List Value} {u : UInt32} {oC : Option (Int32 × Mem)} {K : Int32 → Mem → Option (α × Mem)} (hF : RFm yC ccC nLC retC dC eI oC (.float u :: As) M) (hm : MF yC ccC nLC retC n) (hlk : Cond.methodLink y.cls idx yC ∈ TB) (hin : Cond.instanceMethod yC ∈ TB) (hsel : Cond.selects "java/lang/String" yC yC ∈ TB)
    (hn : As.length = n) (hst0 : As.reverse ++ .float u :: S = st0) (hd : decode cc pc = .ok (.invokevirtual idx, 3)) (hp : pc + 3 = pc') (hdd : dC + 1 ≤ d) (hcat : (S.map fun v => v.category).sum ≤ 8)
    (kk : ∀ (r : Int32) (M1 : Mem), RF y cc nL ret d enc (K r M1) pc' L (.int r :: S) M1) : RF y cc nL ret d enc (kT u (cl oC K)) pc L st0 M := R_callK hF hm hlk hin hsel hn hst0 hd hp hdd hcat kk
/-- lookupswitch -/
def KP (y : MethodName) (cc : ByteArray) (nL : Nat) (ret : Option FieldType) (d : Nat) (enc : α → Option Value) (pc : Nat) (L : List (Nat × Value)) (S : List Value) (M : Mem) : List (Int × Int) → List (Int × Option (α × Mem)) → Prop
  | (a, off) :: ps, (b, o) :: os => a = b ∧ (∃ t : Nat, (pc : Int) + off = (t : Int) ∧ RF y cc nL ret d enc o t L S M) ∧ KP y cc nL ret d enc pc L S M ps os
  | [], [] => True
  | _, _ => False
theorem KP.at {x : Int32} {dflt : Int} (ht : (pc : Int) + dflt = (tgt : Int)) (kd : RF y cc nL ret d enc o tgt L S M) : ∀ (ps : List (Int × Int)) (os : List (Int × Option (α × Mem))), KP y cc nL ret d enc pc L S M ps os → ∃ (off : Int) (t : Nat), Op.lookupswitch.offset ps dflt x.toInt = off ∧ (pc : Int) + off = (t : Int) ∧ RF y cc nL ret d enc (lsw x os o) t L S M
  | [], [], _ => ⟨dflt, tgt, rfl, ht, kd⟩
  | [], _ :: _, h => h.elim
  | _ :: _, [], h => h.elim
  | (a, off) :: ps, (b, o1) :: os, ⟨hab, ⟨t, h1, h2⟩, h3⟩ => by
    subst hab
    by_cases hx : x.toInt = a
    · refine ⟨off, t, by rw [Op.lookupswitch.offset_cons, if_pos hx.symm], h1, ?_⟩
      show RF y cc nL ret d enc (if x.toInt = a then o1 else lsw x os o) t L S M
      rw [if_pos hx]; exact h2
    · obtain ⟨off2, t2, g1, g2, g3⟩ := KP.at (x := x) ht kd ps os h3
      refine ⟨off2, t2, by rw [Op.lookupswitch.offset_cons, if_neg (fun q => hx q.symm)]; exact g1, g2, ?_⟩
      show RF y cc nL ret d enc (if x.toInt = a then o1 else lsw x os o) t2 L S M
      rw [if_neg hx]; exact g3
theorem R_lsw {x : Int32} {dflt : Int} {ps : Array (Int × Int)} {len : Nat} {os : List (Int × Option (α × Mem))} (hd : decode cc pc = .ok (.lookupswitch dflt ps, len)) (hsrt : (ps.toList.zip (ps.toList.drop 1)).all (fun (a, next) => a.1 < next.1) = true) (ht : (pc : Int) + dflt = (tgt : Int)) (kd : RF y cc nL ret d enc o tgt L S M) (ks : KP y cc nL ret d enc pc L S M ps.toList os) : RF y cc nL ret d enc (lsw x os o) pc L (.int x :: S) M := by
  obtain ⟨off, t, h1, h2, h3⟩ := KP.at (x := x) ht kd _ _ ks
  exact h3.step (fun v M' kw p l e s m args below meth c H locs A cA D bs κ cells slots mc ms ls Qc C hl => lv_lookup C.1.1 C.1.2.1 hd hsrt h1 h2 (kw p l e s m args below meth c H locs A cA D bs κ cells slots mc ms ls Qc C hl))
end RFK
