/-! running to an end with a property -/
def WP {β : Type} (o : Option (β × Mem)) (Q : β → Mem → Prop) : Prop := ∃ r M', o = some (r, M') ∧ Q r M'
theorem WP.ret {β : Type} {r : β} {M : Mem} {Q : β → Mem → Prop} (h : Q r M) : WP (some (r, M)) Q := ⟨r, M, rfl, h⟩
theorem WP.of {β : Type} {o : Option (β × Mem)} {r : β} {M : Mem} {Q : β → Mem → Prop} (e : o = some (r, M)) (h : Q r M) : WP o Q := ⟨r, M, e, h⟩
theorem WP.cw {β γ : Type} {o : Option (β × Mem)} {K : β → Mem → Option (γ × Mem)} {P : β → Mem → Prop} {Q : γ → Mem → Prop} (h : WP o P) (k : ∀ r M, P r M → WP (K r M) Q) : WP (cl o K) Q := by
  obtain ⟨r, M1, e, hp⟩ := h
  rw [e, cl_some]
  exact k r M1 hp
theorem WP.ce {β γ : Type} {o : Option (β × Mem)} {K : β → Mem → Option (γ × Mem)} {r : β} {M1 : Mem} {Q : γ → Mem → Prop} (h : o = some (r, M1)) (k : WP (K r M1) Q) : WP (cl o K) Q := by
  rw [h, cl_some]
  exact k
theorem WP.bd {β γ : Type} {o : Option β} {f : β → Option (γ × Mem)} {x : β} {Q : γ → Mem → Prop} (h : o = some x) (k : WP (f x) Q) : WP (o.bind f) Q := by
  rw [h, Option.bind_some]
  exact k
theorem WP.it {γ : Type} {c : Prop} [Decidable c] {a b : Option (γ × Mem)} {Q : γ → Mem → Prop} (h : c) (k : WP a Q) : WP (if c then a else b) Q := by rw [if_pos h]; exact k
theorem WP.ie {γ : Type} {c : Prop} [Decidable c] {a b : Option (γ × Mem)} {Q : γ → Mem → Prop} (h : ¬ c) (k : WP b Q) : WP (if c then a else b) Q := by rw [if_neg h]; exact k
theorem WP.mono {β : Type} {o : Option (β × Mem)} {P Q : β → Mem → Prop} (h : WP o P) (k : ∀ r M, P r M → Q r M) : WP o Q := by
  obtain ⟨r, M1, e, hp⟩ := h
  exact ⟨r, M1, e, k r M1 hp⟩
theorem GE.ov {m : Nat} {M M' : Mem} {ov : Option (Nat × Option Nat)} (h : GE m M M') (hr : ROv M m ov) : ROv M' m ov := by
  have e := h.2.2.1 m (by omega) (by omega) (by omega) (by omega)
  unfold ROv
  rw [e]
  exact hr
/-! the reference's tide -/
theorem g_J36 {m : Nat} {T : TD} {Sc : SC} (hk : TOk T) (hs : SOk Sc) {r : Option RD} {ov : Option (Nat × Option Nat)} (ho : OvOk T ov) {M : Mem} (hR : RIs (mS M) (mR M) m) (hT : RT M m T) (hS : RS M m T Sc)
    {i : Nat} (hi : i < tN T) {b : Nat} {k4 : Int32 → Int32 → Mem → Option (Int32 × Mem)} {Q : Int32 → Mem → Prop}
    (k : ∀ M', GE m M M' → RS M' m T (trn T r ov Sc i) → mI M' (m + 27) = upd (mI M (m + 27)) i (eP (tld T r ov Sc i)) → WP (k4 (nI (b ||| (if pss T r ov Sc i then 2 ^ i else 0))) (nI (i + 1)) M') Q) :
    WP (f_X10_goes_J36 k4 m (nI b) (nI i) (eP (tld T r ov Sc i)) (nI i) (some (m + 27)) M) Q := by
  have h1 := hk.1.2.2.1
  have h2 := hk.1.2.2.2
  obtain ⟨M1, hM1⟩ : ∃ M1, M1 = sI M (m + 27) i (eP (tld T r ov Sc i)) := ⟨_, rfl⟩
  have hG1 : GE m M M1 := by
    rw [hM1]
    exact ⟨rfl, rfl, fun a _ _ _ h => sI_row h, fun k _ _ => by rw [sI_row (by omega)], fun _ _ _ => rfl⟩
  have hS1 : RS M1 m T Sc := by
    unfold RS
    rw [hM1, sI_row (by omega), sI_row (by omega), sI_row (by omega), sI_row (by omega)]
    exact hS
  have hR1 := hG1.RI hR
  have hT1 := hG1.T hT
  have hv : mI M1 (m + 27) i = eP (tld T r ov Sc i) := by rw [hM1, mI_sI_s, upd_s]
  unfold f_X10_goes_J36 f_X10_goes_J67
  repeat (first | refine WP.ce (by (simp (disch := omega) only []; with_reducible rfl)) ?_ | refine WP.bd (by (simp (disch := omega) only [e_gR, e_gI, e_aI, e_aL, e_oO, e_pI, e_wI, e_wL, Option.map_some, mS_sL, mR_sL, mI_sL, mS_sI, mR_sI, mL_sI, n_cl, ro_m hR, rr_told hR, rx_told hR, ← hM1]; with_reducible rfl)) ?_ | rw [nm_eq])
  repeat (first | refine WP.ce (by (simp (disch := omega) only []; with_reducible rfl)) ?_ | refine WP.bd (by (simp (disch := omega) only [e_gR, e_gI, e_aI, e_aL, e_oO, e_pI, e_wI, e_wL, Option.map_some, mS_sL, mR_sL, mI_sL, mS_sI, mR_sI, mL_sI, n_cl, ro_m hR1, rr_told hR1, rx_told hR1, hv]; with_reducible rfl)) ?_ | rw [nm_eq])
  cases hc : tld T r ov Sc i with
  | none =>
    rw [hc] at hv
    refine WP.it rfl ?_
    have e := k M1 hG1 (by unfold trn; rw [hc]; exact hS1) (by rw [hM1, mI_sI_s])
    unfold pss at e
    rw [hc] at e
    simp only [Option.elim, Bool.false_eq_true, if_false, Nat.or_zero] at e
    rw [n_add]
    exact e
  | some j =>
    have hj : j < tJ T := by
      unfold tld at hc
      by_cases hw : wts Sc i = true
      · rw [if_pos hw] at hc; exact cho_lt ho hc
      · rw [if_neg hw] at hc; cases hc
    have hw : wts Sc i = true := by
      unfold tld at hc
      by_cases hw : wts Sc i = true
      · exact hw
      · rw [if_neg hw] at hc; cases hc
    have hv2 : mI M1 (m + 27) i = nI j := by rw [hv, hc]; rfl
    refine WP.ie (by show ¬ nI j = -1; rw [nI_m1 (by omega)]; exact fun h => h) ?_
    have a1 := r_tells hR1 hT1 hk hS1 hs hi hj hw
    have hS2 := telM_S hS1 (j := j) hw hi
    have hG2 := telM_G M1 m T Sc i j
    repeat (first | refine WP.ce (by (simp (disch := omega) only [a1]; with_reducible rfl)) ?_ | refine WP.bd (by (simp (disch := omega) only [e_gR, e_gI, e_aI, e_aL, e_oO, e_pI, e_wI, e_wL, Option.map_some, mS_sL, mR_sL, mI_sL, mS_sI, mR_sI, mL_sI, n_cl, ro_m hR1, rr_told hR1, rx_told hR1, hv2]; with_reducible rfl)) ?_ | rw [nm_eq])
    have e := k (telM M1 m T Sc i j) (hG1.tr hG2) (by unfold trn; rw [hc]; exact hS2) (by
      have : mI (telM M1 m T Sc i j) (m + 27) = mI M1 (m + 27) := by
        unfold telM
        by_cases hn : isN T Sc j = true
        · rw [if_pos hn, sI_row (by omega), sI_row (by omega), sI_row (by omega)]
        · rw [if_neg hn, sI_row (by omega)]
      rw [this, hM1, mI_sI_s])
    unfold pss at e
    rw [hc] at e
    simp only [Option.elim] at e
    rw [n_add]
    cases hn : isN T Sc j with
    | false =>
      simp only [hn, Bool.false_eq_true, if_false, Nat.or_zero] at e
      exact WP.it rfl e
    | true =>
      simp only [hn, if_true] at e
      refine WP.ie (by decide) ?_
      simp (disch := omega) only [nm_eq, n_shl, n_or]
      exact e
theorem g_goesL {m : Nat} {T : TD} {S : SC} (hk : TOk T) (hs : SOk S) {r : Option RD} {ov : Option (Nat × Option Nat)} (ho : OvOk T ov) (hq : ∀ q, ov = some q → q.1 < 5) : ∀ d i n (M : Mem), RIs (mS M) (mR M) m → RT M m T → RS M m T (trns T r ov S i) → RRu M m r → ROv M m ov → i + d = tN T →
    (∀ s, s < i → mI M (m + 27) s = eP (tolds T r ov S s)) →
    WP (f_X10_goes_L4 m (n + d + 1) (nI (bmk (fun s => pss T r ov (trns T r ov S s) s) i)) (nI i) M) (fun v M' => v = nI (psm T r ov S) ∧ GE m M M' ∧ RS M' m T (tide1 T r ov S) ∧ ∀ s, s < tN T → mI M' (m + 27) s = eP (tolds T r ov S s)) := by
  have h1 := hk.1.2.2.1
  have h2 := hk.1.2.2.2
  intro d
  induction d with
  | zero =>
    intro i n M hR hT hS hr hv hi hl
    have hi : i = tN T := by omega
    subst hi
    rw [f_X10_goes_L4]
    repeat (first | refine WP.ce (by (simp (disch := omega) only []; with_reducible rfl)) ?_ | refine WP.bd (by (simp (disch := omega) only [e_gR, e_gI, e_aI, e_aL, e_oO, e_pI, e_wI, e_wL, Option.map_some, mS_sL, mR_sL, mI_sL, mS_sI, mR_sI, mL_sI, n_cl, ro_m hR, rr_scalar hR, rx_scalar hR, hT.1.2.2.2]; with_reducible rfl)) ?_ | rw [nm_eq])
    refine WP.it (by rw [n_le (by omega) (by omega)]; omega) ?_
    repeat (first | refine WP.ce (by (simp (disch := omega) only []; with_reducible rfl)) ?_ | refine WP.bd (by (simp (disch := omega) only [e_gR, e_gI, e_aI, e_aL, e_oO, e_pI, e_wI, e_wL, Option.map_some, mS_sL, mR_sL, mI_sL, mS_sI, mR_sI, mL_sI, n_cl, ro_m hR, rr_scalar hR, rx_scalar hR, hS.1.1]; with_reducible rfl)) ?_ | rw [nm_eq])
    refine WP.ret ⟨rfl, ⟨rfl, rfl, fun a h _ _ _ => sI_row h, fun k h _ => by rw [mI_sI, if_neg (fun z => h z.2)], fun _ _ _ => rfl⟩, ⟨⟨?_, ?_⟩, fun j hj => ?_, fun s hs => ?_⟩, fun s hs => ?_⟩
    · rw [mI_sI, if_pos ⟨rfl, rfl⟩, n_add]; rfl
    · rw [mI_sI, if_neg (by omega)]; exact hS.1.2
    · rw [sI_row (by omega)]; exact hS.2.1 j hj
    · rw [sI_row (by omega), sI_row (by omega)]; exact hS.2.2 s hs
    · rw [sI_row (by omega)]; exact hl s hs
  | succ d ih =>
    intro i n M hR hT hS hr hv hi hl
    have hit : i < tN T := by omega
    have hsc := trns_ok (T := T) (r := r) (ov := ov) hs i
    have a1 := r_waits hR hT hk hS hsc hit
    rw [show n + (d + 1) + 1 = (n + d + 1) + 1 from by omega, f_X10_goes_L4]
    repeat (first | refine WP.ce (by (simp (disch := omega) only []; with_reducible rfl)) ?_ | refine WP.bd (by (simp (disch := omega) only [e_gR, e_gI, e_aI, e_aL, e_oO, e_pI, e_wI, e_wL, Option.map_some, mS_sL, mR_sL, mI_sL, mS_sI, mR_sI, mL_sI, n_cl, ro_m hR, rr_scalar hR, rx_scalar hR, hT.1.2.2.2]; with_reducible rfl)) ?_ | rw [nm_eq])
    refine WP.ie (by rw [n_le (by omega) (by omega)]; omega) ?_
    repeat (first | refine WP.ce (by (simp (disch := omega) only [a1]; with_reducible rfl)) ?_ | refine WP.bd (by (simp (disch := omega) only [e_gR, e_gI, e_aI, e_aL, e_oO, e_pI, e_wI, e_wL, Option.map_some, mS_sL, mR_sL, mI_sL, mS_sI, mR_sI, mL_sI, n_cl, ro_m hR, rr_told hR]; with_reducible rfl)) ?_ | rw [nm_eq])
    have go : ∀ M1, LE m M M1 → WP (f_X10_goes_J36 (f_X10_goes_L4 m (n + d + 1)) m (nI (bmk (fun s => pss T r ov (trns T r ov S s) s) i)) (nI i) (eP (tld T r ov (trns T r ov S i) i)) (nI i) (some (m + 27)) M1) (fun v M' => v = nI (psm T r ov S) ∧ GE m M M' ∧ RS M' m T (tide1 T r ov S) ∧ ∀ s, s < tN T → mI M' (m + 27) s = eP (tolds T r ov S s)) := by
      intro M1 hL
      refine g_J36 hk hsc ho (hL.GE.RI hR) (hL.GE.T hT) (hL.S hS) hit (fun M2 hG hS2 ht => ?_)
      have hG2 := hL.GE.tr hG
      refine WP.mono (ih (i + 1) n M2 (hG2.RI hR) (hG2.T hT) hS2 (hG2.ru hr) (hG2.ov hv) (by omega) (fun s hsi => ?_)) (fun v M' h => ⟨h.1, hG2.tr h.2.1, h.2.2⟩)
      rw [ht]
      by_cases hsi2 : s = i
      · subst hsi2; rw [upd_s]; rfl
      · rw [upd_o _ _ hsi2, hL.2.2.1]; exact hl s (by omega)
    cases hw : wts (trns T r ov S i) i with
    | false =>
      refine WP.it rfl ?_
      have e := go M (LE.rf m M)
      have e2 : tld T r ov (trns T r ov S i) i = none := by unfold tld; rw [hw]; rfl
      rw [e2] at e
      exact e
    | true =>
      refine WP.ie (by decide) ?_
      obtain ⟨M1, c1, c2⟩ := r_choice hR hT hk hS hsc hr hv hq hit
      repeat (first | refine WP.ce (by (simp (disch := omega) only [c1]; with_reducible rfl)) ?_ | refine WP.bd (by (simp (disch := omega) only [e_gR, e_gI, e_aI, e_aL, e_oO, e_pI, e_wI, e_wL, Option.map_some, mS_sL, mR_sL, mI_sL, mS_sI, mR_sI, mL_sI, n_cl, ro_m hR]; with_reducible rfl)) ?_ | rw [nm_eq])
      have e := go M1 c2
      have e2 : tld T r ov (trns T r ov S i) i = cho T r ov (trns T r ov S i) i := by unfold tld; rw [hw]; rfl
      rw [e2] at e
      exact e
theorem g_goes {m : Nat} {T : TD} {S : SC} (hk : TOk T) (hs : SOk S) {r : Option RD} {ov : Option (Nat × Option Nat)} (ho : OvOk T ov) (hq : ∀ q, ov = some q → q.1 < 5) {M : Mem} (hR : RIs (mS M) (mR M) m) (hT : RT M m T) (hS : RS M m T S) (hr : RRu M m r) (hv : ROv M m ov) :
    WP (f_X10_goes m M) (fun v M' => v = nI (psm T r ov S) ∧ GE m M M' ∧ RS M' m T (tide1 T r ov S) ∧ ∀ s, s < tN T → mI M' (m + 27) s = eP (tolds T r ov S s)) := by
  have h2 := hk.1.2.2.2
  obtain ⟨n, hn⟩ := FUd (tN T) (by omega)
  rw [f_X10_goes, hn]
  exact g_goesL hk hs ho hq (tN T) 0 n M hR hT hS hr hv (by omega) (fun s h => absurd h (Nat.not_lt_zero s))
