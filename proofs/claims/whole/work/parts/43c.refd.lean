theorem r_sumOf {M : Mem} {m : Nat} {T : TD} {S : SC} (hR : RIs (mS M) (mR M) m) (hT : RT M m T) (hk : TOk T) (hS : RS M m T S) (hs : SOk S) {w : RD} (hr : RRu M m (some w)) {s j : Nat} (hs5 : s < tN T) (hj8 : j < tJ T) : ∃ M', f_X10_sumOf m (nI s) (nI j) M = some (w (wds T S s j), M') ∧ LE m M M' := by
  obtain ⟨g, hg⟩ := hr.2 (askM M m T S s j) hR (fun _ _ _ => rfl) rfl
  rw [askM_v] at hg
  refine ⟨sLr (askM M m T S s j) (m + 26) g, ?_, LE.tr (M2 := askM M m T S s j) ⟨rfl, rfl, rfl, fun a h _ => askM_o M m T S s j h⟩ (sLr_LE _ m g)⟩
  rw [r_sumI hR hT hk hS hs hs5 hj8, r_sumJ (M := ask5 M m T S s j) hR hT hk hS hs hj8]
  show cl (f_X10_wanted m (askM M m T S s j)) _ = _
  rw [hg, cl_some]
theorem r_likes {M : Mem} {m : Nat} {T : TD} {S : SC} (hR : RIs (mS M) (mR M) m) (hT : RT M m T) (hk : TOk T) (hS : RS M m T S) (hs : SOk S) {r : Option RD} (hr : RRu M m r) {s j : Nat} (hs5 : s < tN T) (hj8 : j < tJ T) : ∃ M', f_X10_likes m (nI s) (nI j) M = some (lks T r S s j, M') ∧ LE m M M' := by
  cases r with
  | none =>
    have hr : mI M (m + 1) 8 = -1 := hr
    refine ⟨M, ?_, LE.rf m M⟩
    simp (disch := omega) only [f_X10_likes, f_X10_likes_J31, e_gR, e_gI, e_aI, e_aL, e_oO, e_pI, e_wI, e_wL, ro_m hR, Option.map_some, Option.bind_some, cl_some, nm_eq, ckZ_b, ckZ_n0, ckZ_n1, rr_scalar hR, rx_scalar hR, n_cl, hr, if_true, r_isNew hR hT hk hS hs, bI_z]
    unfold lks
    cases isN T S j <;> simp
  | some w =>
    obtain ⟨M', h1, h2⟩ := r_sumOf hR hT hk hS hs hr hs5 hj8
    have hr2 : mI M (m + 1) 8 ≠ -1 := hr.1
    refine ⟨M', ?_, h2⟩
    simp (disch := omega) only [f_X10_likes, e_gR, e_gI, e_aI, e_aL, e_oO, e_pI, e_wI, e_wL, ro_m hR, Option.map_some, Option.bind_some, cl_some, nm_eq, ckZ_b, ckZ_n0, ckZ_n1, rr_scalar hR, rx_scalar hR, n_cl, hr2, if_false, h1]
    rfl
theorem lgc_le (a b : Int64) : (lg_cmp a b ≤ 0) = ¬ (b < a) := by
  rw [← lgc_gt, eq_iff_iff, fa_le, fa_lt]
  have h0 : (0 : Int32).toInt = 0 := by decide
  rw [h0]
  omega
theorem r_choiceL {m : Nat} {T : TD} {S : SC} (hk : TOk T) (hs : SOk S) {r : Option RD} {s : Nat} (hs5 : s < tN T) : ∀ d i n (M : Mem), RIs (mS M) (mR M) m → RT M m T → RS M m T S → RRu M m r → i + d = tJ T →
    ∃ M', f_X10_choice_L20 m (n + d + 1) (nI s) (eP (chs (lks T r S s) (fun j => (sW S s).testBit j) i).1) (chs (lks T r S s) (fun j => (sW S s).testBit j) i).2 (nI i) M = some (eP (pick T r S s), M') ∧ LE m M M' := by
  have hj := hk.1.2.2.1
  have hn5 := hk.1.2.2.2
  intro d
  induction d with
  | zero =>
    intro i n M hR hT hS hr hi
    refine ⟨M, ?_, LE.rf m M⟩
    rw [f_X10_choice_L20]
    simp (disch := omega) only [e_gR, e_gI, e_aI, e_aL, e_oO, e_pI, e_wI, e_wL, ro_m hR, Option.map_some, Option.bind_some, cl_some, nm_eq, ckZ_b, ckZ_n0, ckZ_n1, rr_scalar hR, rx_scalar hR, n_cl, hT.1.2.2.1, n_le]
    rw [if_pos (by omega), show i = tJ T by omega]
    rfl
  | succ d ih =>
    intro i n M hR hT hS hr hi
    have hw2 := hs.2.2.1 s
    have hkn := (hS.2.2 s hs5).1
    rw [show n + (d + 1) + 1 = (n + d + 1) + 1 from by omega, f_X10_choice_L20]
    simp (disch := omega) only [e_gR, e_gI, e_aI, e_aL, e_oO, e_pI, e_wI, e_wL, ro_m hR, Option.map_some, Option.bind_some, cl_some, nm_eq, ckZ_b, ckZ_n0, ckZ_n1, rr_scalar hR, rx_scalar hR, n_cl, hT.1.2.2.1, n_le, rr_knows hR, rx_knows hR, hkn, has_eq, bI_z, f_X10_choice_J67, n_add]
    rw [if_neg (by omega)]
    cases hb : (sW S s).testBit i with
    | false =>
      obtain ⟨M', e1, e2⟩ := ih (i + 1) n M hR hT hS hr (by omega)
      refine ⟨M', ?_, e2⟩
      rw [chs] at e1
      simp only [hb, Bool.false_and, Bool.false_eq_true, if_false] at e1
      rw [if_pos rfl]
      exact e1
    | true =>
      rw [if_neg (by decide)]
      obtain ⟨M1, g1, g2⟩ := r_likes hR hT hk hS hs hr hs5 (j := i) (by omega)
      rw [g1, cl_some]
      obtain ⟨M', e1, e2⟩ := ih (i + 1) n M1 (g2.GE.RI hR) (g2.GE.T hT) (g2.S hS) (g2.GE.ru hr) (by omega)
      refine ⟨M', ?_, g2.tr e2⟩
      rw [chs] at e1
      simp only [lgc_le]
      by_cases hc : (chs (lks T r S s) (fun j => (sW S s).testBit j) i).2 < lks T r S s i
      · rw [if_neg (fun h => h hc)]
        simp only [hb, hc, decide_true, Bool.and_true, if_true] at e1
        exact e1
      · rw [if_pos hc]
        simp only [hb, hc, decide_false, Bool.and_false, Bool.false_eq_true, if_false] at e1
        exact e1
/-- which ship tells by a row -/
def ROv (M : Mem) (m : Nat) (ov : Option (Nat × Option Nat)) : Prop := ov.elim (mI M m 38 = -1) (fun q => mI M m 38 = nI q.1 ∧ mI M m 39 = eP q.2)
theorem nI_m1 {n : Nat} (h : n < 2 ^ 31) : (nI n = -1) = False := by
  simp only [eq_iff_iff, iff_false]
  intro e
  have h1 := congrArg Int32.toInt e
  rw [nI_toInt h] at h1
  have h2 : (-1 : Int32).toInt = -1 := by decide
  omega
theorem r_choice {M : Mem} {m : Nat} {T : TD} {S : SC} (hR : RIs (mS M) (mR M) m) (hT : RT M m T) (hk : TOk T) (hS : RS M m T S) (hs : SOk S) {r : Option RD} (hr : RRu M m r) {ov : Option (Nat × Option Nat)} (hov : ROv M m ov) (hq : ∀ q, ov = some q → q.1 < 5) {s : Nat} (hs5 : s < tN T) : ∃ M', f_X10_choice m (nI s) M = some (eP (cho T r ov S s), M') ∧ LE m M M' := by
  have hj := hk.1.2.2.1
  have hn5 := hk.1.2.2.2
  obtain ⟨n, hn⟩ := FUd (tJ T) (by omega)
  obtain ⟨M1, g1, g2⟩ := r_choiceL (r := r) hk hs hs5 (tJ T) 0 n M hR hT hS hr (by omega)
  cases ov with
  | none =>
    have hov : mI M m 38 = -1 := hov
    refine ⟨M1, ?_, g2⟩
    simp (disch := omega) only [f_X10_choice, e_gR, e_gI, e_aI, e_aL, e_oO, e_pI, e_wI, e_wL, ro_m hR, Option.map_some, Option.bind_some, cl_some, nm_eq, ckZ_b, ckZ_n0, ckZ_n1, hov, nI_m1, if_false]
    rw [hn]
    exact g1
  | some q =>
    have hov : mI M m 38 = nI q.1 ∧ mI M m 39 = eP q.2 := hov
    have hq5 := hq q rfl
    by_cases hc : q.1 = s
    · refine ⟨M, ?_, LE.rf m M⟩
      simp (disch := omega) only [f_X10_choice, e_gR, e_gI, e_aI, e_aL, e_oO, e_pI, e_wI, e_wL, ro_m hR, Option.map_some, Option.bind_some, cl_some, nm_eq, ckZ_b, ckZ_n0, ckZ_n1, hov.1, hov.2, n_eq]
      rw [if_pos hc.symm]
      simp [cho, hc]
    · refine ⟨M1, ?_, g2⟩
      simp (disch := omega) only [f_X10_choice, e_gR, e_gI, e_aI, e_aL, e_oO, e_pI, e_wI, e_wL, ro_m hR, Option.map_some, Option.bind_some, cl_some, nm_eq, ckZ_b, ckZ_n0, ckZ_n1, hov.1, hov.2, n_eq]
      rw [if_neg (fun h => hc h.symm), hn]
      simp only [cho, Option.bind_some, hc, if_false, Option.getD_none]
      exact g1
