section RFA
variable {α : Type} {y : MethodName} {cc : ByteArray} {nL : Nat} {ret : Option FieldType} {d : Nat} {enc : α → Option Value} {o o1 o2 : Option (α × Mem)} {pc pc' tgt : Nat} {L L' : List (Nat × Value)} {S S' : List Value} {M : Mem}
theorem farr0 (b : Nat) (M : Mem) (a : Nat) {t : Nat} (h : t < 3) : farr b M a t = .inl (mI M a) := by unfold farr; rw [if_pos h]
theorem farr3 (b : Nat) (M : Mem) (a : Nat) : farr b M a 3 = .inr (.inl (mL M a)) := rfl
theorem farrq (b : Nat) (M : Mem) (a : Nat) {t : Nat} (h : 3 < t) : farr b M a t = .inr (.inr (.inr (.inr (fun k => (mR M a k).map (b + ·))))) := by unfold farr; rw [if_neg (by omega), if_neg (by omega)]
theorem wld_arr {b : Nat} {cA : Nat → ClassId} {M : Mem} {a t n : Nat} (h : (mS M)[a]? = some (.inr (t, n))) : (wld b cA M)[a]? = some (b + a, .inl (cA t, n, farr b M a t)) := wld_at h
theorem R_iald {q : Option Nat} {i : Int32} {K : Int32 → Option (α × Mem)} (hd : decode cc pc = .ok (.iaload, 1)) (hp : pc + 1 = pc') (kk : ∀ x : Int32, RF y cc nL ret d enc (K x) pc' L (.int x :: S) M) : RF y cc nL ret d enc ((aI M 0 q i).bind K) pc L (.int i :: va_rf q :: S) M := R_bind (fun x hx => by
  obtain ⟨a, ha, rfl⟩ := map_spec hx
  obtain ⟨rfl, n, hs, hin⟩ := ixA_spec ha
  subst hp
  refine (kk _).step (fun v M' kw p l e s m args below meth c H locs A cA D bs κ cells slots mc ms ls Qc C hl => ?_)
  exact va_iald C.1.1 C.1.2.1 C.2.1.2.2.1 C.2.2.1.1 a 0 (by rw [wld_arr hs, farr0 _ _ _ (by decide)]) (TYS_at cA rfl) hin hd (kw p l e s m args below meth c H locs A cA D bs κ cells slots mc ms ls Qc C hl))
theorem R_bald {q : Option Nat} {i : Int32} {K : Int32 → Option (α × Mem)} (hd : decode cc pc = .ok (.baload, 1)) (hp : pc + 1 = pc') (kk : ∀ x : Int32, RF y cc nL ret d enc (K x) pc' L (.int x :: S) M) : RF y cc nL ret d enc ((aI M 1 q i).bind K) pc L (.int i :: va_rf q :: S) M := R_bind (fun x hx => by
  obtain ⟨a, ha, rfl⟩ := map_spec hx
  obtain ⟨rfl, n, hs, hin⟩ := ixA_spec ha
  subst hp
  refine (kk _).step (fun v M' kw p l e s m args below meth c H locs A cA D bs κ cells slots mc ms ls Qc C hl => ?_)
  exact va_bald C.1.1 C.1.2.1 C.2.1.2.2.1 C.2.2.1.1 a 1 (by rw [wld_arr hs, farr0 _ _ _ (by decide)]) (TYS_at cA rfl) hin hd (kw p l e s m args below meth c H locs A cA D bs κ cells slots mc ms ls Qc C hl))
theorem R_zald {q : Option Nat} {i : Int32} {K : Int32 → Option (α × Mem)} (hd : decode cc pc = .ok (.baload, 1)) (hp : pc + 1 = pc') (kk : ∀ x : Int32, RF y cc nL ret d enc (K x) pc' L (.int x :: S) M) : RF y cc nL ret d enc ((aI M 2 q i).bind K) pc L (.int i :: va_rf q :: S) M := R_bind (fun x hx => by
  obtain ⟨a, ha, rfl⟩ := map_spec hx
  obtain ⟨rfl, n, hs, hin⟩ := ixA_spec ha
  subst hp
  refine (kk _).step (fun v M' kw p l e s m args below meth c H locs A cA D bs κ cells slots mc ms ls Qc C hl => ?_)
  exact va_zald C.1.1 C.1.2.1 C.2.1.2.2.1 C.2.2.1.1 a 2 (by rw [wld_arr hs, farr0 _ _ _ (by decide)]) (TYS_at cA rfl) hin hd (kw p l e s m args below meth c H locs A cA D bs κ cells slots mc ms ls Qc C hl))
theorem R_lald {q : Option Nat} {i : Int32} {K : Int64 → Option (α × Mem)} (hd : decode cc pc = .ok (.laload, 1)) (hp : pc + 1 = pc') (kk : ∀ x : Int64, RF y cc nL ret d enc (K x) pc' L (.long x :: S) M) : RF y cc nL ret d enc ((aL M q i).bind K) pc L (.int i :: va_rf q :: S) M := R_bind (fun x hx => by
  obtain ⟨a, ha, rfl⟩ := map_spec hx
  obtain ⟨rfl, n, hs, hin⟩ := ixA_spec ha
  subst hp
  refine (kk _).step (fun v M' kw p l e s m args below meth c H locs A cA D bs κ cells slots mc ms ls Qc C hl => ?_)
  exact va_lald C.1.1 C.1.2.1 C.2.1.2.2.1 C.2.2.1.1 a 3 (by rw [wld_arr hs, farr3]) (TYS_at cA rfl) hin hd (kw p l e s m args below meth c H locs A cA D bs κ cells slots mc ms ls Qc C hl))
theorem R_aald {t : Nat} {E : String} {q : Option Nat} {i : Int32} {K : Option Nat → Option (α × Mem)} (ht : 3 < t) (hE : TYF[t]? = some (.object E)) (hd : decode cc pc = .ok (.aaload, 1)) (hp : pc + 1 = pc') (kk : ∀ x : Option Nat, RF y cc nL ret d enc (K x) pc' L (va_rf x :: S) M) : RF y cc nL ret d enc ((aR M t q i).bind K) pc L (.int i :: va_rf q :: S) M := R_bind (fun x hx => by
  obtain ⟨a, ha, rfl⟩ := map_spec hx
  obtain ⟨rfl, n, hs, hin⟩ := ixA_spec ha
  subst hp
  refine (kk _).step (fun v M' kw p l e s m args below meth c H locs A cA D bs κ cells slots mc ms ls Qc C hl => ?_)
  have k1 := kw p l e s m args below meth c H locs A cA D bs κ cells slots mc ms ls Qc C hl
  rw [List.map_cons, cv_rf] at k1
  exact va_aldq C.1.1 C.1.2.1 C.2.1.2.2.1 C.2.2.1.1 a t (by rw [wld_arr hs, farrq _ _ _ ht]) (TYS_at cA hE) hin hd k1)
theorem lnA_spec {M : Mem} {q : Option Nat} {x : Int32} (h : lnA M q = some x) : ∃ a t n, q = some a ∧ (mS M)[a]? = some (.inr (t, n)) ∧ t < 7 ∧ Int32.ofNat n = x := by
  cases q with
  | none => cases h
  | some a =>
    cases hs : (mS M)[a]? with
    | none => simp [lnA, hs] at h
    | some sh =>
      cases sh with
      | inl c => simp [lnA, hs] at h
      | inr pq =>
        obtain ⟨t, n⟩ := pq
        by_cases ht : t < 7
        · simp [lnA, hs, ht] at h
          exact ⟨a, t, n, rfl, hs, ht, h⟩
        · simp [lnA, hs, ht] at h
theorem R_alen {q : Option Nat} {K : Int32 → Option (α × Mem)} (hd : decode cc pc = .ok (.arraylength, 1)) (hp : pc + 1 = pc') (kk : ∀ x : Int32, RF y cc nL ret d enc (K x) pc' L (.int x :: S) M) : RF y cc nL ret d enc ((lnA M q).bind K) pc L (va_rf q :: S) M := R_bind (fun x hx => by
  obtain ⟨a, t, n, rfl, hs, ht, rfl⟩ := lnA_spec hx
  subst hp
  refine (kk _).step (fun v M' kw p l e s m args below meth c H locs A cA D bs κ cells slots mc ms ls Qc C hl => ?_)
  obtain ⟨ty, hty⟩ : ∃ ty, TYF[t]? = some ty := by
    rcases (show t = 0 ∨ t = 1 ∨ t = 2 ∨ t = 3 ∨ t = 4 ∨ t = 5 ∨ t = 6 by omega) with rfl | rfl | rfl | rfl | rfl | rfl | rfl <;> exact ⟨_, rfl⟩
  exact va_alen C.1.1 C.1.2.1 C.2.1.2.2.1 C.2.2.1.1 a t (wld_arr hs) (TYS_at cA hty) rfl hd (kw p l e s m args below meth c H locs A cA D bs κ cells slots mc ms ls Qc C hl))
theorem awset {b : Nat} {cA : Nat → ClassId} {M M2 : Mem} {a t n : Nat} {f : (Nat → Int32) ⊕ (Nat → Int64) ⊕ (Nat → UInt32) ⊕ (Nat → UInt64) ⊕ (Nat → Option Nat)} (h2 : mS M2 = mS M) (hs : (mS M)[a]? = some (.inr (t, n))) (hf : farr b M2 a t = f)
    (ho : ∀ q, q ≠ a → mI M2 q = mI M q ∧ mL M2 q = mL M q ∧ mR M2 q = mR M q) : (wld b cA M).set a (b + a, .inl (cA t, n, f)) = wld b cA M2 := wld_set h2 hs (by show Sum.inl (cA t, n, farr b M2 a t) = _; rw [hf]) ho
theorem R_iast {q : Option Nat} {i x : Int32} {K : Mem → Option (α × Mem)} (hd : decode cc pc = .ok (.iastore, 1)) (hp : pc + 1 = pc') (kk : ∀ M2 : Mem, RF y cc nL ret d enc (K M2) pc' L S M2) : RF y cc nL ret d enc ((wI M 0 q i x).bind K) pc L (.int x :: .int i :: va_rf q :: S) M := R_bind (fun M2 hx => by
  obtain ⟨a, ha, rfl⟩ := map_spec hx
  obtain ⟨rfl, n, hs, hin⟩ := ixA_spec ha
  subst hp
  refine RF.write rfl (kk _) (fun v M' kw p l e s m args below meth c H locs A cA D bs κ cells slots mc ms ls Qc C hl => ?_)
  refine va_iast C.1.1 C.1.2.1 C.2.1.2.2.1 C.2.2.1.1 C.2.2.1.2.1 C.2.2.1.2.2 a 0 (f := mI M a) (n := n) (cA := cA 0) (by rw [wld_arr hs, farr0 _ _ _ (by decide)]) (TYS_at cA rfl) hin hd (fun H1 locs1 hP hD hS => ?_)
  rw [awset (M := M) (M2 := sI M a i.toNatClampNeg x) rfl hs (by rw [farr0 _ _ _ (by decide), mI_sI_s]) (fun q hq => ⟨mI_sI_o hq, rfl, rfl⟩)] at hP hD
  exact kw p l e s m args below meth c H1 locs1 A cA D bs κ cells slots mc ms ls Qc (C.put rfl hP hD hS) hl)
theorem R_bast {q : Option Nat} {i x : Int32} {K : Mem → Option (α × Mem)} (hd : decode cc pc = .ok (.bastore, 1)) (hp : pc + 1 = pc') (kk : ∀ M2 : Mem, RF y cc nL ret d enc (K M2) pc' L S M2) : RF y cc nL ret d enc ((wI M 1 q i (vp_nar .byte x)).bind K) pc L (.int x :: .int i :: va_rf q :: S) M := R_bind (fun M2 hx => by
  obtain ⟨a, ha, rfl⟩ := map_spec hx
  obtain ⟨rfl, n, hs, hin⟩ := ixA_spec ha
  subst hp
  refine RF.write rfl (kk _) (fun v M' kw p l e s m args below meth c H locs A cA D bs κ cells slots mc ms ls Qc C hl => ?_)
  refine va_bast C.1.1 C.1.2.1 C.2.1.2.2.1 C.2.2.1.1 C.2.2.1.2.1 C.2.2.1.2.2 a 1 (f := mI M a) (n := n) (cA := cA 1) (by rw [wld_arr hs, farr0 _ _ _ (by decide)]) (TYS_at cA rfl) hin hd (fun H1 locs1 hP hD hS => ?_)
  rw [awset (M := M) (M2 := sI M a i.toNatClampNeg (vp_nar .byte x)) rfl hs (by rw [farr0 _ _ _ (by decide), mI_sI_s]) (fun q hq => ⟨mI_sI_o hq, rfl, rfl⟩)] at hP hD
  exact kw p l e s m args below meth c H1 locs1 A cA D bs κ cells slots mc ms ls Qc (C.put rfl hP hD hS) hl)
theorem R_zast {q : Option Nat} {i x : Int32} {K : Mem → Option (α × Mem)} (hd : decode cc pc = .ok (.bastore, 1)) (hp : pc + 1 = pc') (kk : ∀ M2 : Mem, RF y cc nL ret d enc (K M2) pc' L S M2) : RF y cc nL ret d enc ((wI M 2 q i (vp_nar .boolean x)).bind K) pc L (.int x :: .int i :: va_rf q :: S) M := R_bind (fun M2 hx => by
  obtain ⟨a, ha, rfl⟩ := map_spec hx
  obtain ⟨rfl, n, hs, hin⟩ := ixA_spec ha
  subst hp
  refine RF.write rfl (kk _) (fun v M' kw p l e s m args below meth c H locs A cA D bs κ cells slots mc ms ls Qc C hl => ?_)
  refine va_zast C.1.1 C.1.2.1 C.2.1.2.2.1 C.2.2.1.1 C.2.2.1.2.1 C.2.2.1.2.2 a 2 (f := mI M a) (n := n) (cA := cA 2) (by rw [wld_arr hs, farr0 _ _ _ (by decide)]) (TYS_at cA rfl) hin hd (fun H1 locs1 hP hD hS => ?_)
  rw [awset (M := M) (M2 := sI M a i.toNatClampNeg (vp_nar .boolean x)) rfl hs (by rw [farr0 _ _ _ (by decide), mI_sI_s]) (fun q hq => ⟨mI_sI_o hq, rfl, rfl⟩)] at hP hD
  exact kw p l e s m args below meth c H1 locs1 A cA D bs κ cells slots mc ms ls Qc (C.put rfl hP hD hS) hl)
theorem R_last {q : Option Nat} {i : Int32} {x : Int64} {K : Mem → Option (α × Mem)} (hd : decode cc pc = .ok (.lastore, 1)) (hp : pc + 1 = pc') (kk : ∀ M2 : Mem, RF y cc nL ret d enc (K M2) pc' L S M2) : RF y cc nL ret d enc ((wL M q i x).bind K) pc L (.long x :: .int i :: va_rf q :: S) M := R_bind (fun M2 hx => by
  obtain ⟨a, ha, rfl⟩ := map_spec hx
  obtain ⟨rfl, n, hs, hin⟩ := ixA_spec ha
  subst hp
  refine RF.write rfl (kk _) (fun v M' kw p l e s m args below meth c H locs A cA D bs κ cells slots mc ms ls Qc C hl => ?_)
  refine va_last C.1.1 C.1.2.1 C.2.1.2.2.1 C.2.2.1.1 C.2.2.1.2.1 C.2.2.1.2.2 a 3 (f := mL M a) (n := n) (cA := cA 3) (by rw [wld_arr hs, farr3]) (TYS_at cA rfl) hin hd (fun H1 locs1 hP hD hS => ?_)
  rw [awset (M := M) (M2 := sL M a i.toNatClampNeg x) rfl hs (by rw [farr3, mL_sL_s]) (fun q hq => ⟨rfl, mL_sL_o hq, rfl⟩)] at hP hD
  exact kw p l e s m args below meth c H1 locs1 A cA D bs κ cells slots mc ms ls Qc (C.put rfl hP hD hS) hl)
theorem updR_map (b : Nat) (f : Nat → Option Nat) (k : Nat) (v : Option Nat) : (fun j => (updR f k v j).map (b + ·)) = va_up (fun j => (f j).map (b + ·)) k (v.map (b + ·)) := by
  funext j
  by_cases h : j = k
  · subst h; simp [updR, va_up]
  · simp [updR, va_up, h]
theorem R_aast {t ci : Nat} {E : String} {T : u_T} {N : Nat} {q v : Option Nat} {i : Int32} {K : Mem → Option (α × Mem)} (ht : 3 < t) (hE : TYF[t]? = some (.object E)) (hc : vwCl[ci]? = some (E, T, N)) (hd : decode cc pc = .ok (.aastore, 1)) (hp : pc + 1 = pc') (kk : ∀ M2 : Mem, RF y cc nL ret d enc (K M2) pc' L S M2) : RF y cc nL ret d enc ((wR M t ci q i v).bind K) pc L (va_rf v :: .int i :: va_rf q :: S) M := R_bind (fun M2 hx => by
  obtain ⟨a, ha, hx2⟩ := bind_spec hx
  obtain ⟨rfl, n, hs, hin⟩ := ixA_spec ha
  by_cases hv : v = none ∨ oO M ci v = v
  · rw [if_pos hv] at hx2
    cases hx2
    subst hp
    refine RF.write rfl (kk _) (fun w M' kw p l e s m args below meth c H locs A cA D bs κ cells slots mc ms ls Qc C hl => ?_)
    have hset : (wld bs cA M).set a (bs + a, .inl (cA t, n, .inr (.inr (.inr (.inr (va_up (fun j => (mR M a j).map (bs + ·)) i.toNatClampNeg (v.map (bs + ·)))))))) = wld bs cA (sR M a i.toNatClampNeg v) := awset rfl hs (by rw [farrq _ _ _ ht, mR_sR_s, updR_map]) (fun q hq => ⟨rfl, rfl, mR_sR_o hq⟩)
    cases v with
    | none =>
      refine va_astqN C.1.1 C.1.2.1 C.2.1.2.2.1 C.2.2.1.1 C.2.2.1.2.1 C.2.2.1.2.2 a t (f := fun j => (mR M a j).map (bs + ·)) (n := n) (cA := cA t) (by rw [wld_arr hs, farrq _ _ _ ht]) (TYS_at cA hE) hin hd (fun H1 locs1 hP hD hS => ?_)
      rw [show (none : Option Nat) = (none : Option Nat).map (bs + ·) from rfl, hset] at hP hD
      exact kw p l e s m args below meth c H1 locs1 A cA D bs κ cells slots mc ms ls Qc (C.put rfl hP hD hS) hl
    | some x =>
      rcases hv with hv | hv
      · cases hv
      have hsx := (oO_spec hv).2
      refine va_astq C.1.1 C.1.2.1 C.2.1.2.2.1 C.2.2.1.1 C.2.2.1.2.1 C.2.2.1.2.2 a t x ci (r := (E, T, N)) (f := fun j => (mR M a j).map (bs + ·)) (n := n) (cA := cA t) (by rw [wld_arr hs, farrq _ _ _ ht]) (TYS_at cA hE) (wld_at hsx) hc hin hd (fun H1 locs1 hP hD hS => ?_)
      rw [show some (bs + x) = (some x).map (bs + ·) from rfl, hset] at hP hD
      exact kw p l e s m args below meth c H1 locs1 A cA D bs κ cells slots mc ms ls Qc (C.put rfl hP hD hS) hl
  · rw [if_neg hv] at hx2; cases hx2)
theorem cpy_spec {M M2 : Mem} {q0 q1 : Option Nat} {sp dp n : Int32} (h : cpy M q0 sp q1 dp n = some M2) : ∃ a0 a1 n0 n1, q0 = some a0 ∧ q1 = some a1 ∧ (mS M)[a0]? = some (.inr (0, n0)) ∧ (mS M)[a1]? = some (.inr (0, n1)) ∧ ¬ sp < 0 ∧ ¬ dp < 0 ∧ ¬ n < 0 ∧ sp.toNatClampNeg + n.toNatClampNeg ≤ n0 ∧ dp.toNatClampNeg + n.toNatClampNeg ≤ n1 ∧
    M2 = sIr M a1 (va_cpy (mI M a0) (mI M a1) sp.toNatClampNeg dp.toNatClampNeg n.toNatClampNeg) := by
  unfold cpy at h
  obtain ⟨a0, h0, h⟩ := bind_spec h
  obtain ⟨a1, h1, h⟩ := bind_spec h
  obtain ⟨n0, hn0, h⟩ := bind_spec h
  obtain ⟨n1, hn1, h⟩ := bind_spec h
  by_cases hc : (sp < 0 ∨ dp < 0 ∨ n < 0) ∨ n0 < sp.toNatClampNeg + n.toNatClampNeg ∨ n1 < dp.toNatClampNeg + n.toNatClampNeg
  · rw [if_pos hc] at h; cases h
  · rw [if_neg hc] at h
    exact ⟨a0, a1, n0, n1, h0, h1, aln_spec hn0, aln_spec hn1, fun z => hc (Or.inl (Or.inl z)), fun z => hc (Or.inl (Or.inr (Or.inl z))), fun z => hc (Or.inl (Or.inr (Or.inr z))), Nat.not_lt.mp fun z => hc (Or.inr (Or.inl z)), Nat.not_lt.mp fun z => hc (Or.inr (Or.inr z)), (Option.some.inj h).symm⟩
theorem nfw : nativeFrameWords "java/lang/System" "arraycopy" 5 + 11 ≤ 40 := by decide +kernel
theorem R_acopy {idx : Nat} {q0 q1 : Option Nat} {sp dp n : Int32} {K : Mem → Option (α × Mem)} (hlk : Cond.methodLink y.cls idx arraycopyName ∈ TB) (hnat : Cond.native arraycopyName ∈ TB) (hst : Cond.static arraycopyName ∈ TB) (hini : Cond.initialized "java/lang/System" ∈ TB) (hd : decode cc pc = .ok (.invokestatic idx, 3)) (hp : pc + 3 = pc') (hdd : 1 ≤ d) (hcat : (S.map fun v => v.category).sum ≤ 8)
    (kk : ∀ M2 : Mem, RF y cc nL ret d enc (K M2) pc' L S M2) : RF y cc nL ret d enc ((cpy M q0 sp q1 dp n).bind K) pc L (.int n :: .int dp :: va_rf q1 :: .int sp :: va_rf q0 :: S) M := R_bind (fun M2 hx => by
  obtain ⟨a0, a1, n0, n1, rfl, rfl, hs0, hs1, h1, h2, h3, h4, h5, rfl⟩ := cpy_spec hx
  subst hp
  refine RF.write rfl (kk _) (fun v M' kw p l e s m args below meth c H locs A cA D bs κ cells slots mc ms ls Qc C hl => ?_)
  have hts := C.1.2.2.2.2.2.1
  refine va_copyi C.1.1 C.1.2.1 (C.1.2.2.1.trans hl.1.symm) C.1.2.2.2.2.1 (hts _ hlk) (hts _ hnat) (hts _ hst) (hts _ hini) C.2.1.2.2.1 C.2.2.1.1 C.2.2.1.2.1 C.2.2.1.2.2 a0 a1 0 0 (f := mI M a0) (g := mI M a1) (by rw [wld_arr hs0, farr0 _ _ _ (by decide)]) (by rw [wld_arr hs1, farr0 _ _ _ (by decide)]) (TYS_at cA rfl) (TYS_at cA rfl) rfl h1 h2 h3 h4 h5 (fun i _ => rfl) hdd ?_ hd (fun H1 locs1 hP hD hS => ?_)
  · have := nfw
    rw [cat_sum]
    show _ ≤ 64 * d
    omega
  · rw [awset (M := M) (M2 := sIr M a1 (va_cpy (mI M a0) (mI M a1) sp.toNatClampNeg dp.toNatClampNeg n.toNatClampNeg)) rfl hs1 (by rw [farr0 _ _ _ (by decide)]; exact congrArg Sum.inl (rowU_s _ _ _)) (fun q hq => ⟨rowU_n _ _ hq, rfl, rfl⟩)] at hP hD
    exact kw p l e s m args below meth c H1 locs1 A cA D bs κ cells slots mc ms ls Qc (C.put rfl hP hD hS) hl)
/-! new cells -/
theorem RF.alloc {K : Option (α × Mem)} {sh : Shp} (kk : RF y cc nL ret d enc K pc' L' S' (nw M sh))
    (h : ∀ v M', Ext (nw M sh) M' → RW y cc nL ret d v M' pc' L' S' (nw M sh) → RW y cc nL ret d v M' pc L S M) : RF y cc nL ret d enc K pc L S M := fun r M' ho => by
  obtain ⟨hE, kw⟩ := kk r M' ho
  exact ⟨Ext.tr ⟨[sh], rfl⟩ hE, h _ _ hE kw⟩
/-- where the new cell must lie -/
theorem new_at {A : Nat → Prop} {cA : Nat → ClassId} {D : va_G} {bs q sz : Nat} {ev : va_E} {H1 : Heap} (hA : ∀ q, A q → bs ≤ q) (hP : va_P D vwCl (wld bs cA M ++ [(q, ev)]) H1) (hD : va_D A (wld bs cA M ++ [(q, ev)])) (hz : H1.size ≤ sz) (hsz : sz = bs + (mS M).length + 1) : q = bs + (mS M).length := by
  have hq : (wld bs cA M ++ [(q, ev)])[(mS M).length]? = some (q, ev) := by rw [List.getElem?_append_right (by rw [wld_len]; exact Nat.le_refl _), wld_len]; simp
  have h1 := (hP _ _ hq).lt
  have h2 := hA q (hD.2 _ _ hq)
  have h1 : q < H1.size := h1
  rcases Nat.lt_or_ge q (bs + (mS M).length) with h | h
  · exfalso
    have ha : q - bs < (mS M).length := by omega
    obtain ⟨sh, hsh⟩ : ∃ sh, (mS M)[q - bs]? = some sh := ⟨_, List.getElem?_eq_getElem ha⟩
    have h3 : (wld bs cA M ++ [(q, ev)])[q - bs]? = some (bs + (q - bs), cel bs cA M (q - bs) sh) := by rw [List.getElem?_append_left (by rw [wld_len]; exact ha)]; exact wld_at hsh
    have h4 := hD.1 _ _ _ _ h3 hq (by show bs + (q - bs) = q; omega)
    omega
  · omega
theorem Cx.new {v : Option Value} {M' : Mem} {sh : Shp} {p : Program} {s : State} {m : MethodId} {args : Array Value} {meth : Method} {c : Code} {H H1 : Heap} {locs locs1 : List Loc} {cells slots mc ms : Nat} {A : Nat → Prop} {cA : Nat → ClassId} {D : va_G} {bs : Nat} {κ : Nat → Nat} {Qc : Array Value → State → Outcome → State → Prop}
    (C : Cx y cc nL ret v M' M p s m args meth c H locs cells slots mc ms A cA D bs κ Qc) (hP : va_P D vwCl (wld bs cA (nw M sh)) H1) (hD : va_D A (wld bs cA (nw M sh))) (hS : va_S A s.heap H1 locs1) : Cx y cc nL ret v M' (nw M sh) p s m args meth c H1 locs1 (cells + 1) (slots + shSz sh) mc ms A cA D bs κ Qc := by
  obtain ⟨h1, h2, -, ⟨g1, g2, g3⟩, h5⟩ := C
  have hl : (mS (nw M sh)).length = (mS M).length + 1 := by show (M.1 ++ [sh]).length = _; rw [List.length_append]; rfl
  refine ⟨h1, h2, ⟨hP, hD, hS⟩, ⟨?_, ?_, ?_⟩, h5⟩
  · rw [hl]; omega
  · rw [hl]; omega
  · rw [us_nw]; omega
theorem Cx.room {v : Option Value} {M' : Mem} {sh : Shp} {p : Program} {s : State} {m : MethodId} {args : Array Value} {meth : Method} {c : Code} {H : Heap} {locs : List Loc} {cells slots mc ms : Nat} {A : Nat → Prop} {cA : Nat → ClassId} {D : va_G} {bs : Nat} {κ : Nat → Nat} {Qc : Array Value → State → Outcome → State → Prop}
    (C : Cx y cc nL ret v M' M p s m args meth c H locs cells slots mc ms A cA D bs κ Qc) (hE : Ext (nw M sh) M') : cells + 1 ≤ mc ∧ slots + shSz sh ≤ ms := by
  obtain ⟨-, -, -, ⟨g1, g2, g3⟩, -⟩ := C
  obtain ⟨e1, e2⟩ := hE.le
  have hl : (mS (nw M sh)).length = (mS M).length + 1 := by show (M.1 ++ [sh]).length = _; rw [List.length_append]; rfl
  rw [hl] at e1
  rw [us_nw] at e2
  omega
theorem R_new {ci idx : Nat} {CC : String} {T : u_T} {N : Nat} {ty0 : Nat → FieldType} {K : Nat → Mem → Option (α × Mem)} (hcl : CL ci CC T N ty0) (hlk : Cond.classLink y.cls idx CC ∈ TB) (hd : decode cc pc = .ok (.new idx, 3)) (hp : pc + 3 = pc')
    (kk : ∀ (a : Nat) (M2 : Mem), RF y cc nL ret d enc (K a M2) pc' L (va_rf (some a) :: S) M2) : RF y cc nL ret d enc (newO M ci K) pc L S M := by
  subst hp
  refine RF.alloc (kk (mS M).length (nw M (.inl ci))) (fun v M' hE kw p l e s m args below meth c H locs A cA D bs κ cells slots mc ms ls Qc C hl => ?_)
  obtain ⟨c1, c2, c3, c4, c5, c6, c7, c8⟩ := hcl
  have hts := C.1.2.2.2.2.2.1
  have hrm := C.room hE
  have hN : shSz (.inl ci) = N := c5
  refine va_new (ci := ci) (C := CC) (T := T) (N := N) (fs := fobj bs (nw M (.inl ci)) (mS M).length ci) C.1.1 C.1.2.1 hts c2 ty0 c3 C.1.2.2.2.2.1 (hts _ hlk) (hts _ c7) (hts _ c8) C.2.1.2.2.1 C.2.2.1.1 C.2.2.1.2.1 C.2.2.1.2.2 C.2.1.1 c1 (fun j hj => ?_) hrm.1 (by rw [← hN]; exact hrm.2) hd (fun q H1 hP hD hS => ?_)
  · rw [(c6 j hj).2, vp_V, List.getD, fobj_at rfl (c6 j hj).1]
    have e1 : mI (nw M (.inl ci)) (mS M).length = fun _ => 0 := rowU_s _ _ _
    have e2 : mL (nw M (.inl ci)) (mS M).length = fun _ => 0 := rowU_s _ _ _
    have e3 : mR (nw M (.inl ci)) (mS M).length = fun _ => none := rowU_s _ _ _
    show _ = fval bs (nw M (.inl ci)) (mS M).length j (fkd (ty0 j))
    unfold fval
    rw [e1, e2, e3]
    cases ty0 j <;> rfl
  · refine W.sized (fun hz => ?_)
    have hq := new_at C.2.1.2.1 hP hD hz (by have := C.2.2.2.1.1; omega)
    subst hq
    rw [wld_push (b := bs) (cA := cA) (M := M) (sh := .inl ci) (e := Sum.inr (ci, fobj bs (nw M (Sum.inl ci)) (mS M).length ci)) rfl] at hP hD
    have k1 := kw p l e s m args below meth c H1 locs A cA D bs κ (cells + 1) (slots + shSz (.inl ci)) mc ms ls Qc (C.new hP hD hS) hl
    rw [hN] at k1
    exact k1
theorem R_newa {at0 : ArrayType} {t : Nat} {ty : FieldType} {n : Int32} {K : Nat → Mem → Option (α × Mem)} (hty : newarray.typeOf at0 = ty) (ht : TYF[t]? = some ty) (ht3 : t ≤ 3) (hac : Cond.arrayClass ty ∈ TB) (hb : componentBytes ty ≤ 8) (hdv : defaultValue ty = if t = 3 then .long 0 else .int 0) (hd : decode cc pc = .ok (.newarray at0, 2)) (hp : pc + 2 = pc')
    (kk : ∀ (a : Nat) (M2 : Mem), RF y cc nL ret d enc (K a M2) pc' L (va_rf (some a) :: S) M2) : RF y cc nL ret d enc (newA M t n K) pc L (.int n :: S) M := by
  subst hp
  refine R_if (fun _ => RF.none) (fun h0 => ?_)
  refine RF.alloc (kk (mS M).length (nw M (.inr (t, n.toNatClampNeg)))) (fun v M' hE kw p l e s m args below meth c H locs A cA D bs κ cells slots mc ms ls Qc C hl => ?_)
  have hts := C.1.2.2.2.2.2.1
  have hrm := C.room hE
  have e1 : mI (nw M (.inr (t, n.toNatClampNeg))) (mS M).length = fun _ => 0 := rowU_s _ _ _
  have e2 : mL (nw M (.inr (t, n.toNatClampNeg))) (mS M).length = fun _ => 0 := rowU_s _ _ _
  have hKt := (C.2.1.2.2.1).2 t _ (TYS_at cA ht)
  refine va_newa (ty := ty) (a0 := (n.toNatClampNeg, farr bs (nw M (.inr (t, n.toNatClampNeg))) (mS M).length t)) C.1.1 C.1.2.1 (atype := at0) (by rw [hty]; exact hts _ hac) hty C.2.1.2.2.1 C.2.2.1.1 C.2.2.1.2.1 C.2.2.1.2.2 C.2.1.1 (fun cB => ?_) (fun h => h0 (Or.inl h)) rfl ?_ hrm.1 hrm.2 hd (fun q cB H1 hK2 hP hD hS => ?_)
  · rw [hdv]
    by_cases h3 : t = 3
    · subst h3
      rw [farr3, e2]
      rfl
    · rw [farr0 _ _ _ (by omega), e1, if_neg h3]
      rfl
  · have h1 : n.toNatClampNeg ≤ 1000000 := Nat.not_lt.mp fun h => h0 (Or.inr h)
    calc n.toNatClampNeg * componentBytes ty ≤ 1000000 * 8 := Nat.mul_le_mul h1 hb
      _ ≤ 536870912 := Nat.le_of_ble_eq_true rfl
  · refine W.sized (fun hz => ?_)
    have hq := new_at C.2.1.2.1 hP hD hz (by have := C.2.2.2.1.1; omega)
    subst hq
    have hcB : cB = cA t := by
      have h2 := hK2.2 (TYS cA).length (cB, ty) (by rw [List.getElem?_append_right (Nat.le_refl _)]; simp)
      have h3 := hKt.2
      have h4 := h2.2
      have hnt : ∀ E, ty ≠ .object E := fun E he => by subst he; rcases (show t = 0 ∨ t = 1 ∨ t = 2 ∨ t = 3 by omega) with rfl | rfl | rfl | rfl <;> cases ht
      cases ty <;> first | exact absurd rfl (hnt _) | (exact Option.some.inj ((show s.vm.findClass _ = some cB from h4).symm.trans (show s.vm.findClass _ = some (cA t) from h3)))
    subst hcB
    rw [wld_push (b := bs) (cA := cA) (M := M) (sh := .inr (t, n.toNatClampNeg)) (e := Sum.inl (cA t, n.toNatClampNeg, farr bs (nw M (.inr (t, n.toNatClampNeg))) (mS M).length t)) rfl] at hP hD
    exact kw p l e s m args below meth c H1 locs A cA D bs κ (cells + 1) (slots + n.toNatClampNeg) mc ms ls Qc (C.new hP hD hS) hl
end RFA
