/-! BOTH: parrots -/
def dr (x : Nat) : Nat := (x * 1103515245 + 12345) % 2147483648
theorem dr_lt (x : Nat) : dr x < 2 ^ 31 := by unfold dr; omega
theorem c_drI (x : Nat) : (nI x * nI 1103515245 + nI 12345) &&& nI 2147483647 = nI (dr x) := by
  unfold dr
  rw [n_mul, n_add]
  generalize x * 1103515245 + 12345 = N
  have e : (nI N).toBitVec.toNat = N % 2 ^ 32 := BitVec.toNat_ofNat _ _
  rw [pk_and (nI N) (m := nI 2147483647) 31 (by decide), e, show N % 2 ^ 32 % 2 ^ 31 = N % 2147483648 by omega]
theorem r_drI {x : Nat} (hx : x < 2 ^ 31) : Int64.toInt32 ((Int32.toInt64 (nI x) * (1103515245 : Int64) + (12345 : Int64)) - (Int32.toInt64 (nI x) * (1103515245 : Int64) + (12345 : Int64)) / (2147483648 : Int64) * (2147483648 : Int64)) = nI (dr x) := by
  have e1 : Int32.toInt64 (nI x) * (1103515245 : Int64) + (12345 : Int64) = lN (x * 1103515245 + 12345) := by
    rw [toL hx]
    show Int64.ofNat x * Int64.ofNat 1103515245 + Int64.ofNat 12345 = Int64.ofNat _
    rw [← Int64.ofNat_mul, ← Int64.ofNat_add]
  have e2 : (2147483648 : Int64) = lN 2147483648 := rfl
  have hb : x * 1103515245 + 12345 < 2 ^ 63 := by omega
  rw [e1, e2]
  unfold dr
  generalize x * 1103515245 + 12345 = N at *
  rw [pk_lRem hb (by decide) (by decide), ← toL (by omega)]
  simp
theorem r_draws {M : Mem} {m x l : Nat} (hR : RIs (mS M) (mR M) m) (h7 : mI M (m + 1) 7 = nI x) (hx : x < 2 ^ 31) (hl : 0 < l) (hl2 : l < 2 ^ 31) : f_X10_draws m (nI l) M = some (nI (dr x / 65536 % l), sI M (m + 1) 7 (nI (dr x))) := by
  have h := dr_lt x
  have h2 : mI (sI M (m + 1) 7 (nI (dr x))) (m + 1) 7 = nI (dr x) := by rw [mI_sI, if_pos ⟨rfl, rfl⟩]
  unfold f_X10_draws
  repeat (first | ((with_reducible apply clt_t); case h => (simp (disch := omega) only [hR]; with_reducible rfl)) | ((with_reducible apply bnd_t); case h => (simp (disch := omega) only [e_gR, e_gI, e_aI, e_aL, e_oO, e_pI, e_wI, e_wL, Option.map_some, mS_sL, mR_sL, mI_sL, mS_sI, mR_sI, mL_sI, n_cl, ro_m hR, rr_scalar hR, rx_scalar hR, h7]; with_reducible rfl)) | rw [nm_eq])
  rw [if_neg (by decide), r_drI hx]
  repeat (first | ((with_reducible apply clt_t); case h => (simp (disch := omega) only [hR]; with_reducible rfl)) | ((with_reducible apply bnd_t); case h => (simp (disch := omega) only [e_gR, e_gI, e_aI, e_aL, e_oO, e_pI, e_wI, e_wL, Option.map_some, mS_sL, mR_sL, mI_sL, mS_sI, mR_sI, mL_sI, n_cl, ro_m hR, rr_scalar hR, rx_scalar hR, h2]; with_reducible rfl)) | rw [nm_eq])
  rw [if_neg (by decide), if_neg (by rw [nIz hl2]; omega), pk_div (by omega) (by decide) (by decide), pk_rem (by omega) hl hl2]
theorem q_dw {m : Nat} {M0 M : Mem} {T : TD} {S : SC} {r : Option RD} {ov : Option (Nat × Option Nat)} (h : RQ m M0 M T S r ov) (v : Int32) : RQ m M0 (sI M (m + 1) 7 v) T S r ov := by
  refine ⟨h.1.w1 (by omega) _, ⟨?_, ?_, ?_⟩, ru_w h.2.2.1 _ (by omega) (by omega), (SX.w M (by omega) (by omega) _ _).ov h.2.2.2⟩
  · rw [mI_sI, mI_sI, if_neg (by omega), if_neg (by omega)]; exact h.2.1.1
  · rw [sI_row (by omega)]; exact h.2.1.2.1
  · rw [sI_row (by omega), sI_row (by omega)]; exact h.2.1.2.2
def hrd (S : SC) (j : Nat) : SC := (sT S, fset (sH S) j (some (sT S : Int)), sW S, sP S)
theorem hrd_ok {S : SC} (hs : SOk S) (j : Nat) : SOk (hrd S j) := by
  refine ⟨hs.1, fun k h hh => ?_, hs.2.2.1, hs.2.2.2⟩
  by_cases hk : k = j
  · subst hk
    have : (some (sT S : Int)) = some h := (fset_s (sH S) k (some (sT S : Int))).symm.trans hh
    cases this
    show -1 ≤ (sT S : Int) ∧ (sT S : Int) ≤ (sT S : Int)
    omega
  · exact hs.2.1 k h ((fset_o (sH S) _ hk).symm.trans hh)
theorem q_hrd {m : Nat} {M0 M : Mem} {T : TD} {S : SC} {r : Option RD} {ov : Option (Nat × Option Nat)} (h : RQ m M0 M T S r ov) {j : Nat} : RQ m M0 (sI M (m + 5) j (nI (sT S))) T (hrd S j) r ov := by
  refine ⟨h.1.w (by omega) _ _, ⟨?_, fun k hk => ?_, ?_⟩, ru_w h.2.2.1 _ (by omega) (by omega), (SX.w M (by omega) (by omega) _ _).ov h.2.2.2⟩
  · rw [sI_row (by omega)]; exact h.2.1.1
  · rw [mI_sI_s]
    show _ = eH (-1000) (fset (sH S) j (some (sT S : Int)) k)
    by_cases hkj : k = j
    · subst hkj; rw [upd_s, fset_s]; exact (ofI_nat _).symm
    · rw [upd_o _ _ hkj, fset_o _ _ hkj]; exact h.2.1.2.1 k hk
  · rw [sI_row (by omega), sI_row (by omega)]; exact h.2.1.2.2
theorem q_goes2 {m : Nat} {M0 M : Mem} {T : TD} {S : SC} (hk : TOk T) (hs : SOk S) {r : Option RD} (hR0 : RIs (mS M0) (mR M0) m) (hT0 : RT M0 m T) (h : RQ m M0 M T S r none) :
    WP (f_X10_goes m M) (fun _ M' => RQ m M0 M' T (tide1 T r none S) r none ∧ mI M' (m + 1) 7 = mI M (m + 1) 7) :=
  WP.mono (g_goes hk hs (OvN T) OvN5 (h.1.RI hR0) (h.1.T hT0) h.2.1 h.2.2.1 h.2.2.2) (fun v M' g => ⟨⟨g.2.1.QF h.1, g.2.2.1, g.2.1.ru h.2.2.1, g.2.1.ov h.2.2.2⟩, g.2.1.2.2.2.1 7 (by decide) (by decide)⟩)
def parH (T : TD) (p : Nat) (q : SC × Nat) : SC × Nat := if dr q.2 / 65536 % 100 < p ∧ 0 < tJ T then (hrd q.1 (dr (dr q.2) / 65536 % tJ T), dr (dr q.2)) else (q.1, dr q.2)
def parN (T : TD) (r : Option RD) (p : Nat) : Nat → SC × Nat → SC × Nat
  | 0, q => q
  | n + 1, q => parN T r p n (tide1 T r none (parH T p q).1, (parH T p q).2)
def parS (T : TD) (r : Option RD) (S : SC) (p n : Nat) (w : Bool) : Nat → Nat → Int32 → Int32
  | 0, _, s => s
  | d + 1, x, s => parS T r S p n w d (parN T r p n (S, x)).2 (s + (if w then nI (ernA T (parN T r p n (S, x)).1) - nI (ernA T S) else nI (tN T - wtc T (parN T r p n (S, x)).1)))
theorem parH_ok {T : TD} {p : Nat} {q : SC × Nat} (h : SOk q.1) : SOk (parH T p q).1 ∧ sT (parH T p q).1 = sT q.1 ∧ (parH T p q).2 < 2 ^ 31 := by
  unfold parH
  split
  · exact ⟨hrd_ok h _, rfl, dr_lt _⟩
  · exact ⟨h, rfl, dr_lt _⟩
theorem parN_st (T : TD) (r : Option RD) (p n : Nat) {q : SC × Nat} {S2 : SC} {x2 : Nat} (e : parH T p q = (S2, x2)) : parN T r p (n + 1) q = parN T r p n (tide1 T r none S2, x2) := by rw [parN, e]
theorem parN_ok {T : TD} {r : Option RD} {p : Nat} (n : Nat) : ∀ (S : SC) (x : Nat), SOk S → x < 2 ^ 31 → sT S + n ≤ 100000 → SOk (parN T r p n (S, x)).1 ∧ (parN T r p n (S, x)).2 < 2 ^ 31 := by
  induction n with
  | zero => intro S x h hx _; rw [parN]; exact ⟨h, hx⟩
  | succ n ih =>
    intro S x h hx hb
    have hh := parH_ok (T := T) (p := p) (q := (S, x)) h
    generalize e : parH T p (S, x) = q2 at hh
    obtain ⟨S2, x2⟩ := q2
    obtain ⟨h1, h2, h3⟩ := hh
    have h2 : sT S2 = sT S := h2
    have h1 : SOk S2 := h1
    rw [parN_st T r p n e]
    exact ih _ _ (tide1_ok h1 (by omega)) h3 (by rw [tide1_T]; omega)
def q_parrots (T : TD) (r : Option RD) (S : SC) (x : Nat) (m n p w : Int32) : Int32 :=
  if isB T && inR m 1 10 && inR n 1 60 && inR p 0 100 && inR w 0 1 then parS T r S p.toNatClampNeg n.toNatClampNeg (decide (w = 0)) m.toNatClampNeg x (nI 0) else -1
theorem x_parI {m : Nat} {M0 : Mem} {T : TD} {S0 : SC} {r : Option RD} (h : RE m M0 T S0 r) {n p : Nat} (hn : n ≤ 60) (hp : p ≤ 100) {l1 what l5 l7 l8 l9 : Int32} {k87 : Int32 → Int32 → Int32 → Int32 → Int32 → Int32 → Int32 → Int32 → Int32 → Mem → Option (Int32 × Mem)} {Q : Int32 → Mem → Prop} :
    ∀ d k f (M : Mem) (S : SC) (x : Nat), k + d = n → RQ m M0 M T S r none → mI M (m + 1) 7 = nI x → x < 2 ^ 31 → SOk S → sT S + d ≤ 100000 →
    (∀ M', RB m M0 M' → WP (k87 l1 (nI n) (nI p) what l5 (nI (parN T r p d (S, x)).2) l7 (l8 + (if what = 0 then nI (ernA T (parN T r p d (S, x)).1) - l7 else nI (tN T - wtc T (parN T r p d (S, x)).1))) (l9 + nI 1) M') Q) →
    WP (f_X10_parrots_L105 k87 m (f + d + 1) l1 (nI n) (nI p) what l5 l7 l8 l9 (nI k) M) Q := by
  obtain ⟨⟨hR, hT, hS0, hr, hv⟩, hk, hs0, h9⟩ := h
  have h1 := hk.1.2.2.1
  intro d
  induction d with
  | zero =>
    intro k f M S x hkd hq h7 hx hs hb K
    have hR1 := hq.1.RI hR
    have hT1 := hq.1.T hT
    rw [f_X10_parrots_L105]
    refine WP.it (by rw [n_le (by omega) (by omega)]; omega) ?_
    have e5 := hq.2.1.1.2
    have fin : ∀ v, WP (f_X10_parrots_J185 k87 m l1 (nI n) (nI p) what l5 l7 l9 v l8 M) Q ∨ ¬ (∀ M', RB m M0 M' → WP (k87 l1 (nI n) (nI p) what l5 (nI x) l7 (l8 + v) (l9 + nI 1) M') Q) := by
      intro v
      by_cases hc : (∀ M', RB m M0 M' → WP (k87 l1 (nI n) (nI p) what l5 (nI x) l7 (l8 + v) (l9 + nI 1) M') Q)
      · left
        unfold f_X10_parrots_J185
        repeat (first | ((with_reducible apply WP.ce); case h => (simp (disch := omega) only []; with_reducible rfl)) | ((with_reducible apply WP.bd); case h => (simp (disch := omega) only [e_gR, e_gI, e_aI, e_aL, e_oO, e_pI, e_wI, e_wL, Option.map_some, mS_sL, mR_sL, mI_sL, mS_sI, mR_sI, mL_sI, n_cl, ro_m hR1, rr_scalar hR1, rx_scalar hR1, h7]; with_reducible rfl)) | rw [nm_eq] | rw [ckZ_n1] | rw [ckZ_n0])
        exact WP.cw (q_back hR hq) (fun _ M3 c3 => hc M3 c3.1)
      · exact Or.inr hc
    by_cases w0 : what = 0
    · refine WP.it w0 ?_
      simp only [parN, w0, if_true] at K
      repeat (first | ((with_reducible apply WP.ce); case h => (simp (disch := omega) only []; with_reducible rfl)) | ((with_reducible apply WP.bd); case h => (simp (disch := omega) only [e_gR, e_gI, e_aI, e_aL, e_oO, e_pI, e_wI, e_wL, Option.map_some, mS_sL, mR_sL, mI_sL, mS_sI, mR_sI, mL_sI, n_cl, ro_m hR1, rr_scalar hR1, rx_scalar hR1, e5]; with_reducible rfl)) | rw [nm_eq] | rw [ckZ_n1] | rw [ckZ_n0])
      rcases fin (nI (ernA T S) - l7) with z | z
      · exact z
      · exact absurd (by rw [w0]; exact K) z
    · refine WP.ie w0 ?_
      simp only [parN, w0, if_false] at K
      repeat (first | ((with_reducible apply WP.ce); case h => (simp (disch := omega) only [r_howMany hR1 hT1 hk hq.2.1 hs]; with_reducible rfl)) | ((with_reducible apply WP.bd); case h => (simp (disch := omega) only [e_gR, e_gI, e_aI, e_aL, e_oO, e_pI, e_wI, e_wL, Option.map_some, mS_sL, mR_sL, mI_sL, mS_sI, mR_sI, mL_sI, n_cl, ro_m hR1]; with_reducible rfl)) | rw [nm_eq] | rw [ckZ_n1] | rw [ckZ_n0])
      rcases fin (nI (tN T - wtc T S)) with z | z
      · exact z
      · exact absurd K z
  | succ d ih =>
    intro k f M S x hkd hq h7 hx hs hb K
    have hR1 := hq.1.RI hR
    have hT1 := hq.1.T hT
    have a1 := r_draws hR1 h7 hx (l := 100) (by decide) (by decide)
    obtain ⟨M1, hM1⟩ : ∃ M1, M1 = sI M (m + 1) 7 (nI (dr x)) := ⟨_, rfl⟩
    rw [← hM1] at a1
    have hq1 : RQ m M0 M1 T S r none := by rw [hM1]; exact q_dw hq _
    have h71 : mI M1 (m + 1) 7 = nI (dr x) := by rw [hM1, mI_sI, if_pos ⟨rfl, rfl⟩]
    have hR2 := hq1.1.RI hR
    have hT2 := hq1.1.T hT
    have hd := dr_lt x
    rw [parN] at K
    have on : ∀ M2 S2 x2, RQ m M0 M2 T S2 r none → mI M2 (m + 1) 7 = nI x2 → x2 < 2 ^ 31 → SOk S2 → sT S2 = sT S → (S2, x2) = parH T p (S, x) → WP (f_X10_parrots_J151 k87 (f_X10_parrots_L105 k87 m (f + d + 1)) m l1 (nI n) (nI p) what l5 l7 l8 l9 (nI k) M2) Q := by
      intro M2 S2 x2 g1 g2 g3 g4 g5 g6
      rw [← g6] at K
      have hR3 := g1.1.RI hR
      unfold f_X10_parrots_J151
      repeat (first | ((with_reducible apply WP.ce); case h => (simp (disch := omega) only []; with_reducible rfl)) | ((with_reducible apply WP.bd); case h => (simp (disch := omega) only [e_gR, e_gI, e_aI, e_aL, e_oO, e_pI, e_wI, e_wL, Option.map_some, mS_sL, mR_sL, mI_sL, mS_sI, mR_sI, mL_sI, n_cl, ro_m hR3]; with_reducible rfl)) | rw [nm_eq] | rw [ckZ_n1] | rw [ckZ_n0])
      refine WP.cw (q_goes2 hk g4 hR hT g1) (fun _ M3 c => ?_)
      rw [n_add]
      exact ih (k + 1) f M3 (tide1 T r none S2) x2 (by omega) c.1 (c.2.trans g2) g3 (tide1_ok g4 (by omega)) (by rw [tide1_T]; omega) K
    rw [show f + (d + 1) + 1 = (f + d + 1) + 1 from by omega, f_X10_parrots_L105]
    refine WP.ie (by rw [n_le (by omega) (by omega)]; omega) ?_
    repeat (first | ((with_reducible apply WP.ce); case h => (simp (disch := omega) only [a1]; with_reducible rfl)) | ((with_reducible apply WP.bd); case h => (simp (disch := omega) only [e_gR, e_gI, e_aI, e_aL, e_oO, e_pI, e_wI, e_wL, Option.map_some, mS_sL, mR_sL, mI_sL, mS_sI, mR_sI, mL_sI, n_cl, ro_m hR1]; with_reducible rfl)) | rw [nm_eq] | rw [ckZ_n1] | rw [ckZ_n0])
    have hm : dr x / 65536 % 100 < 100 := Nat.mod_lt _ (by decide)
    by_cases c1 : dr x / 65536 % 100 < p
    · refine WP.ie (by rw [n_le (by omega) (by omega)]; omega) ?_
      repeat (first | ((with_reducible apply WP.ce); case h => (simp (disch := omega) only []; with_reducible rfl)) | ((with_reducible apply WP.bd); case h => (simp (disch := omega) only [e_gR, e_gI, e_aI, e_aL, e_oO, e_pI, e_wI, e_wL, Option.map_some, mS_sL, mR_sL, mI_sL, mS_sI, mR_sI, mL_sI, n_cl, ro_m hR2, rr_scalar hR2, rx_scalar hR2, hT2.1.2.2.1]; with_reducible rfl)) | rw [nm_eq] | rw [ckZ_n1] | rw [ckZ_n0])
      by_cases c2 : 0 < tJ T
      · refine WP.ie (by rw [show (0 : Int32) = nI 0 from rfl, n_le (by omega) (by omega)]; omega) ?_
        have a2 := r_draws hR2 h71 hd (l := tJ T) c2 (by omega)
        have hq2 := q_dw hq1 (nI (dr (dr x)))
        have hR3 := hq2.1.RI hR
        have e4 : mI (sI M1 (m + 1) 7 (nI (dr (dr x)))) (m + 1) 4 = nI (sT S) := hq2.2.1.1.1
        have hj := Nat.mod_lt (dr (dr x) / 65536) c2
        repeat (first | ((with_reducible apply WP.ce); case h => (simp (disch := omega) only [a2]; with_reducible rfl)) | ((with_reducible apply WP.bd); case h => (simp (disch := omega) only [e_gR, e_gI, e_aI, e_aL, e_oO, e_pI, e_wI, e_wL, Option.map_some, mS_sL, mR_sL, mI_sL, mS_sI, mR_sI, mL_sI, n_cl, ro_m hR2, rr_heard hR2, rr_scalar hR2, rx_scalar hR2, rx_heard hR2, hT2.1.2.2.1, e4]; with_reducible rfl)) | rw [nm_eq] | rw [ckZ_n1] | rw [ckZ_n0])
        refine on _ (hrd S (dr (dr x) / 65536 % tJ T)) (dr (dr x)) (q_hrd hq2) ?_ (dr_lt _) (hrd_ok hs _) rfl (by unfold parH; rw [if_pos ⟨c1, c2⟩])
        rw [sI_row (by omega), mI_sI, if_pos ⟨rfl, rfl⟩]
      · refine WP.it (by rw [show (0 : Int32) = nI 0 from rfl, n_le (by omega) (by omega)]; omega) ?_
        exact on M1 S (dr x) hq1 h71 hd hs rfl (by unfold parH; rw [if_neg (fun z => c2 z.2)])
    · refine WP.it (by rw [n_le (by omega) (by omega)]; omega) ?_
      exact on M1 S (dr x) hq1 h71 hd hs rfl (by unfold parH; rw [if_neg (fun z => c1 z.1)])
theorem x_parO {m : Nat} {M0 : Mem} {T : TD} {S : SC} {r : Option RD} (h : RE m M0 T S r) {x0 : Nat} (h70 : mI M0 (m + 1) 7 = nI x0) {n p mm : Nat} (hn : n ≤ 60) (hp : p ≤ 100) (hm : mm ≤ 10) {what : Int32} :
    ∀ d i f (M : Mem) (x : Nat) (s : Int32), i + d = mm → RB m M0 M → x < 2 ^ 31 → WP (f_X10_parrots_L87 m (f + d + 1) (nI mm) (nI n) (nI p) what (nI x0) (nI x) (nI (ernA T S)) s (nI i) M) (fun v M' => v = parS T r S p n (decide (what = 0)) d x s ∧ RB m M0 M') := by
  have h0 := h
  obtain ⟨⟨hR, hT, hS, hr, hv⟩, hk, hs, h9⟩ := h
  intro d
  induction d with
  | zero =>
    intro i f M x s hi hB hx
    have hR1 := hB.1.RI hR
    rw [f_X10_parrots_L87]
    refine WP.it (by rw [n_le (by omega) (by omega)]; omega) ?_
    repeat (first | ((with_reducible apply WP.ce); case h => (simp (disch := omega) only []; with_reducible rfl)) | ((with_reducible apply WP.bd); case h => (simp (disch := omega) only [e_gR, e_gI, e_aI, e_aL, e_oO, e_pI, e_wI, e_wL, Option.map_some, mS_sL, mR_sL, mI_sL, mS_sI, mR_sI, mL_sI, n_cl, ro_m hR1, rr_scalar hR1, rx_scalar hR1]; with_reducible rfl)) | rw [nm_eq] | rw [ckZ_n1] | rw [ckZ_n0])
    refine WP.ret ⟨rfl, hB.1.w1 (by omega) _, ⟨fun j hj => ?_, ?_, ?_, ?_⟩, ?_⟩
    · rw [mI_sI]
      by_cases z : j = 7
      · rw [if_pos ⟨rfl, z⟩, z, h70]
      · rw [if_neg (by omega)]; exact hB.2.1.1 j hj
    · rw [sI_row (by omega)]; exact hB.2.1.2.1
    · rw [sI_row (by omega)]; exact hB.2.1.2.2.1
    · rw [sI_row (by omega)]; exact hB.2.1.2.2.2
    · rw [sI_row (by omega)]; exact hB.2.2
  | succ d ih =>
    intro i f M x s hi hB hx
    have hR1 := hB.1.RI hR
    have hq := q_dw (hB.rq hk hS hr) (nI x)
    rw [show f + (d + 1) + 1 = (f + d + 1) + 1 from by omega, f_X10_parrots_L87]
    refine WP.ie (by rw [n_le (by omega) (by omega)]; omega) ?_
    repeat (first | ((with_reducible apply WP.ce); case h => (simp (disch := omega) only []; with_reducible rfl)) | ((with_reducible apply WP.bd); case h => (simp (disch := omega) only [e_gR, e_gI, e_aI, e_aL, e_oO, e_pI, e_wI, e_wL, Option.map_some, mS_sL, mR_sL, mI_sL, mS_sI, mR_sI, mL_sI, n_cl, ro_m hR1, rr_scalar hR1, rx_scalar hR1]; with_reducible rfl)) | rw [nm_eq] | rw [ckZ_n1] | rw [ckZ_n0])
    obtain ⟨f2, hf⟩ := FUd n (by omega)
    rw [hf, parS]
    refine x_parI h0 hn hp n 0 f2 _ S x (by omega) hq (by rw [mI_sI, if_pos ⟨rfl, rfl⟩]) hx hs (by omega) (fun M' hB' => ?_)
    rw [n_add]
    have e := ih (i + 1) f M' (parN T r p n (S, x)).2 (s + (if decide (what = 0) then nI (ernA T (parN T r p n (S, x)).1) - nI (ernA T S) else nI (tN T - wtc T (parN T r p n (S, x)).1))) (by omega) hB' (parN_ok n S x hs hx (by omega)).2
    simp only [decide_eq_true_eq] at e ⊢
    exact e
theorem x_parrots {m : Nat} {M0 : Mem} {T : TD} {S : SC} {r : Option RD} (h : RE m M0 T S r) {x0 : Nat} (h70 : mI M0 (m + 1) 7 = nI x0) (hx : x0 < 2 ^ 31) (l1 l2 l3 l4 : Int32) : WP (f_X10_parrots m l1 l2 l3 l4 M0) (fun v M => v = q_parrots T r S x0 l1 l2 l3 l4 ∧ RA m M0 M) := by
  have h0 := h
  obtain ⟨⟨hR, hT, hS, hr, hv⟩, hk, hs, h9⟩ := h
  unfold f_X10_parrots f_X10_parrots_J54
  repeat (first | ((with_reducible apply WP.ce); case h => (simp (disch := omega) only [r_isBar hR hT hk]; with_reducible rfl)) | ((with_reducible apply WP.bd); case h => (simp (disch := omega) only [e_gR, e_gI, e_aI, e_aL, e_oO, e_pI, e_wI, e_wL, Option.map_some, mS_sL, mR_sL, mI_sL, mS_sI, mR_sI, mL_sI, n_cl, ro_m hR]; with_reducible rfl)) | rw [nm_eq] | rw [ckZ_n1] | rw [ckZ_n0])
  refine WP.gd (fun g1 => WP.ret ⟨by unfold q_parrots; rw [g1]; rfl, RA.rf m M0⟩) (fun g1 => ?_)
  repeat (first | ((with_reducible apply WP.ce); case h => (simp (disch := omega) only [in_110]; with_reducible rfl)) | ((with_reducible apply WP.bd); case h => (simp (disch := omega) only [e_gR, e_gI, e_aI, e_aL, e_oO, e_pI, e_wI, e_wL, Option.map_some, mS_sL, mR_sL, mI_sL, mS_sI, mR_sI, mL_sI, n_cl, ro_m hR]; with_reducible rfl)) | rw [nm_eq] | rw [ckZ_n1] | rw [ckZ_n0])
  refine WP.gd (fun g2 => WP.ret ⟨by unfold q_parrots; rw [g1, g2]; rfl, RA.rf m M0⟩) (fun g2 => ?_)
  repeat (first | ((with_reducible apply WP.ce); case h => (simp (disch := omega) only [in_160]; with_reducible rfl)) | ((with_reducible apply WP.bd); case h => (simp (disch := omega) only [e_gR, e_gI, e_aI, e_aL, e_oO, e_pI, e_wI, e_wL, Option.map_some, mS_sL, mR_sL, mI_sL, mS_sI, mR_sI, mL_sI, n_cl, ro_m hR]; with_reducible rfl)) | rw [nm_eq] | rw [ckZ_n1] | rw [ckZ_n0])
  refine WP.gd (fun g3 => WP.ret ⟨by unfold q_parrots; rw [g1, g2, g3]; rfl, RA.rf m M0⟩) (fun g3 => ?_)
  repeat (first | ((with_reducible apply WP.ce); case h => (simp (disch := omega) only [in_0100]; with_reducible rfl)) | ((with_reducible apply WP.bd); case h => (simp (disch := omega) only [e_gR, e_gI, e_aI, e_aL, e_oO, e_pI, e_wI, e_wL, Option.map_some, mS_sL, mR_sL, mI_sL, mS_sI, mR_sI, mL_sI, n_cl, ro_m hR]; with_reducible rfl)) | rw [nm_eq] | rw [ckZ_n1] | rw [ckZ_n0])
  refine WP.gd (fun g4 => WP.ret ⟨by unfold q_parrots; rw [g1, g2, g3, g4]; rfl, RA.rf m M0⟩) (fun g4 => ?_)
  repeat (first | ((with_reducible apply WP.ce); case h => (simp (disch := omega) only [in_01]; with_reducible rfl)) | ((with_reducible apply WP.bd); case h => (simp (disch := omega) only [e_gR, e_gI, e_aI, e_aL, e_oO, e_pI, e_wI, e_wL, Option.map_some, mS_sL, mR_sL, mI_sL, mS_sI, mR_sI, mL_sI, n_cl, ro_m hR]; with_reducible rfl)) | rw [nm_eq] | rw [ckZ_n1] | rw [ckZ_n0])
  refine WP.gd (fun g5 => WP.ret ⟨by unfold q_parrots; rw [g1, g2, g3, g4, g5]; rfl, RA.rf m M0⟩) (fun g5 => ?_)
  have e5 := hS.1.2
  repeat (first | ((with_reducible apply WP.ce); case h => (simp (disch := omega) only []; with_reducible rfl)) | ((with_reducible apply WP.bd); case h => (simp (disch := omega) only [e_gR, e_gI, e_aI, e_aL, e_oO, e_pI, e_wI, e_wL, Option.map_some, mS_sL, mR_sL, mI_sL, mS_sI, mR_sI, mL_sI, n_cl, ro_m hR, rr_scalar hR, rx_scalar hR, h70, e5]; with_reducible rfl)) | rw [nm_eq] | rw [ckZ_n1] | rw [ckZ_n0])
  refine WP.cw (q_keeps hR hv) (fun _ M1 c1 => ?_)
  obtain ⟨mm, rfl, -, a2, a3⟩ := inR_t g2 (by decide)
  obtain ⟨n, rfl, -, b2, b3⟩ := inR_t g3 (by decide)
  obtain ⟨p, rfl, -, d2, d3⟩ := inR_t g4 (by decide)
  obtain ⟨f, hf⟩ := FUd mm (by omega)
  rw [hf]
  refine WP.mono (x_parO h0 h70 (by omega) (by omega) (by omega) mm 0 f M1 x0 (nI 0) (by omega) c1.1 hx) (fun v M c => ⟨?_, Or.inr c.2⟩)
  rw [c.1]
  unfold q_parrots
  rw [g1, g2, g3, g4, g5, n_cl a3, n_cl b3, n_cl d3]
  rfl
/-! the class -/
theorem c_draw {M : Mem} {x : Nat} (hC : CIs (mS M) (mR M)) (h : mI M 37 11 = nI x) : f_X0_draw 37 M = some (nI (dr x / 65536), sI M 37 11 (nI (dr x))) := by
  have hd := dr_lt x
  have h2 : mI (sI M 37 11 (nI (dr x))) 37 11 = nI (dr x) := by rw [mI_sI, if_pos ⟨rfl, rfl⟩]
  unfold f_X0_draw
  repeat (first | ((with_reducible apply clt_t); case h => (simp (disch := omega) only [h]; with_reducible rfl)) | ((with_reducible apply bnd_t); case h => (simp (disch := omega) only [e_gR, e_gI, e_aI, e_aL, e_oO, e_pI, e_wI, e_wL, Option.map_some, mS_sL, mR_sL, mI_sL, mS_sI, mR_sI, mL_sI, n_cl, cob_37 hC, h, c_drI, h2]; with_reducible rfl)) | rw [nm_eq])
  rw [if_neg (by decide), pk_div (by omega) (by decide) (by decide)]
theorem CC_hrd {M : Mem} {q : Nat} {T : TD} {S : SC} (hS : CC M q T S) (j : Nat) : CC (sI M (q + 1) j (nI (sT S))) q T (hrd S j) := by
  refine ⟨by rw [sI_row (by omega)]; exact hS.1, fun k hk => ?_, fun s h => by rw [sI_row (by omega), sI_row (by omega)]; exact hS.2.2 s h⟩
  rw [mI_sI_s]
  show _ = eH (-100000) (fset (sH S) j (some (sT S : Int)) k)
  by_cases hkj : k = j
  · subst hkj; rw [upd_s, fset_s]; exact (ofI_nat _).symm
  · rw [upd_o _ _ hkj, fset_o _ _ hkj]; exact hS.2.1 k hk
theorem c_hearParrot {M0 M : Mem} {T : TD} {S0 S : SC} {r : Option RD} (h : CA M0 T S0 r) (g : AG M0 M) (hS : CC M 39 T S) {x p : Nat} (hx : mI M 37 11 = nI x) (hp : p ≤ 100) : WP (f_X0_hearParrot 37 (nI p) M) (fun _ M' => AG M0 M' ∧ CC M' 39 T (parH T p (S, x)).1 ∧ mI M' 37 11 = nI (parH T p (S, x)).2 ∧ mI M' 37 0 = mI M 37 0 ∧ mI M' 37 1 = mI M 37 1) := by
  obtain ⟨⟨hC, hT, -⟩, hk, -⟩ := h.of g
  have h1 := hk.1.2.2.1
  have hd := dr_lt x
  have a1 := c_draw hC hx
  obtain ⟨M1, hM1⟩ : ∃ M1, M1 = sI M 37 11 (nI (dr x)) := ⟨_, rfl⟩
  rw [← hM1] at a1
  have g1 : AG M0 M1 := g.tr (by rw [hM1]; exact AFw M (by omega) _ _)
  obtain ⟨⟨hC1, hT1, -⟩, -⟩ := h.of g1
  have hS1 : CC M1 39 T S := hS.of (fun i hi => by rw [hM1, sI_row (by omega)])
  have hx1 : mI M1 37 11 = nI (dr x) := by rw [hM1, mI_sI, if_pos ⟨rfl, rfl⟩]
  have e0 : mI M1 37 0 = mI M 37 0 := by rw [hM1, mI_sI, if_neg (by omega)]
  have e1 : mI M1 37 1 = mI M 37 1 := by rw [hM1, mI_sI, if_neg (by omega)]
  have hm : dr x / 65536 % 100 < 100 := Nat.mod_lt _ (by decide)
  unfold f_X0_hearParrot f_X0_hearParrot_J48
  repeat (first | ((with_reducible apply WP.ce); case h => (simp (disch := omega) only [a1]; with_reducible rfl)) | ((with_reducible apply WP.bd); case h => (simp (disch := omega) only [e_gR, e_gI, e_aI, e_aL, e_oO, e_pI, e_wI, e_wL, Option.map_some, mS_sL, mR_sL, mI_sL, mS_sI, mR_sI, mL_sI, n_cl, cob_37 hC]; with_reducible rfl)) | rw [nm_eq] | rw [ckZ_n1] | rw [ckZ_n0])
  refine WP.ie (by decide) ?_
  rw [pk_rem (by omega) (by decide) (by decide)]
  by_cases c1 : dr x / 65536 % 100 < p
  · refine WP.ie (by rw [n_le (by omega) (by omega)]; omega) ?_
    repeat (first | ((with_reducible apply WP.ce); case h => (simp (disch := omega) only []; with_reducible rfl)) | ((with_reducible apply WP.bd); case h => (simp (disch := omega) only [e_gR, e_gI, e_aI, e_aL, e_oO, e_pI, e_wI, e_wL, Option.map_some, mS_sL, mR_sL, mI_sL, mS_sI, mR_sI, mL_sI, n_cl, cob_37 hC1, cr_37_told hC1, told_o (ci_told hC1), hT1.1.2.2.2.1]; with_reducible rfl)) | rw [nm_eq] | rw [ckZ_n1] | rw [ckZ_n0])
    by_cases c2 : 0 < tJ T
    · refine WP.ie (by rw [show (0 : Int32) = nI 0 from rfl, n_le (by omega) (by omega)]; omega) ?_
      have a2 := c_draw hC1 hx1
      obtain ⟨M2, hM2⟩ : ∃ M2, M2 = sI M1 37 11 (nI (dr (dr x))) := ⟨_, rfl⟩
      rw [← hM2] at a2
      have g2 : AG M0 M2 := g1.tr (by rw [hM2]; exact AFw M1 (by omega) _ _)
      obtain ⟨⟨hC2, hT2, -⟩, -⟩ := h.of g2
      have hS2 : CC M2 39 T S := hS1.of (fun i hi => by rw [hM2, sI_row (by omega)])
      have hd2 := dr_lt (dr x)
      have hj := Nat.mod_lt (dr (dr x) / 65536) c2
      have t2 := hS2.1
      repeat (first | ((with_reducible apply WP.ce); case h => (simp (disch := omega) only [a2]; with_reducible rfl)) | ((with_reducible apply WP.bd); case h => (simp (disch := omega) only [e_gR, e_gI, e_aI, e_aL, e_oO, e_pI, e_wI, e_wL, Option.map_some, mS_sL, mR_sL, mI_sL, mS_sI, mR_sI, mL_sI, n_cl, cob_37 hC1, cr_37_work hC1, scene_o (ci_work hC1), scene_r_heard (ci_work hC1), Nat.reduceAdd]; with_reducible rfl)) | rw [nm_eq] | rw [ckZ_n1] | rw [ckZ_n0])
      repeat (first | ((with_reducible apply WP.ce); case h => (simp (disch := omega) only []; with_reducible rfl)) | ((with_reducible apply WP.bd); case h => (simp (disch := omega) only [e_gR, e_gI, e_aI, e_aL, e_oO, e_pI, e_wI, e_wL, Option.map_some, mS_sL, mR_sL, mI_sL, mS_sI, mR_sI, mL_sI, n_cl, cob_37 hC2, cr_37_told hC2, told_o (ci_told hC2), hT2.1.2.2.2.1]; with_reducible rfl)) | rw [nm_eq] | rw [ckZ_n1] | rw [ckZ_n0])
      refine WP.ie (by rw [nIz (by omega)]; omega) ?_
      rw [pk_rem (by omega) c2 (by omega)]
      repeat (first | ((with_reducible apply WP.ce); case h => (simp (disch := omega) only []; with_reducible rfl)) | ((with_reducible apply WP.bd); case h => (simp (disch := omega) only [e_gR, e_gI, e_aI, e_aL, e_oO, e_pI, e_wI, e_wL, Option.map_some, mS_sL, mR_sL, mI_sL, mS_sI, mR_sI, mL_sI, n_cl, cob_37 hC2, cr_37_work hC2, scene_o (ci_work hC2), scene_x_heard (ci_work hC2), t2, Nat.reduceAdd]; with_reducible rfl)) | rw [nm_eq] | rw [ckZ_n1] | rw [ckZ_n0])
      have e : parH T p (S, x) = (hrd S (dr (dr x) / 65536 % tJ T), dr (dr x)) := by unfold parH; rw [if_pos ⟨c1, c2⟩]
      rw [e]
      refine WP.ret ⟨g2.tr (AFw M2 (by omega) _ _), CC_hrd hS2 _, ?_, ?_, ?_⟩
      · rw [sI_row (by omega), hM2, mI_sI, if_pos ⟨rfl, rfl⟩]
      · rw [sI_row (by omega), hM2, mI_sI, if_neg (by omega)]; exact e0
      · rw [sI_row (by omega), hM2, mI_sI, if_neg (by omega)]; exact e1
    · refine WP.it (by rw [show (0 : Int32) = nI 0 from rfl, n_le (by omega) (by omega)]; omega) ?_
      have e : parH T p (S, x) = (S, dr x) := by unfold parH; rw [if_neg (fun z => c2 z.2)]
      rw [e]
      exact WP.ret ⟨g1, hS1, hx1, e0, e1⟩
  · refine WP.it (by rw [n_le (by omega) (by omega)]; omega) ?_
    have e : parH T p (S, x) = (S, dr x) := by unfold parH; rw [if_neg (fun z => c1 z.1)]
    rw [e]
    exact WP.ret ⟨g1, hS1, hx1, e0, e1⟩
theorem c_yrI {M0 : Mem} {T : TD} {S0 : SC} {r : Option RD} (h : CA M0 T S0 r) {n p : Nat} (hn : n ≤ 60) (hp : p ≤ 100) {l1 l4 A B : Int32} {k24 : Int32 → Int32 → Int32 → Int32 → Mem → Option (Unit × Mem)} {Q : Unit → Mem → Prop} :
    ∀ d k f (M : Mem) (S : SC) (x : Nat), k + d = n → AG M0 M → CC M 39 T S → mI M 37 11 = nI x → mI M 37 0 = A → mI M 37 1 = B → SOk S → sT S + d ≤ 100000 → x < 2 ^ 31 →
    (∀ M', AG M0 M' → mI M' 37 11 = nI (parN T r p d (S, x)).2 → mI M' 37 0 = A + (nI (ernA T (parN T r p d (S, x)).1) - nI (ernA T S0)) → mI M' 37 1 = B + nI (tN T - wtc T (parN T r p d (S, x)).1) → WP (k24 l1 (nI n) (nI p) (l4 + nI 1) M') Q) →
    WP (f_X0_drawYears_L47 k24 37 (f + d + 1) l1 (nI n) (nI p) l4 (nI k) M) Q := by
  intro d
  induction d with
  | zero =>
    intro k f M S x hkd g hS hx hA hB hs hb hxl K
    obtain ⟨⟨hC, hT, hS0, -⟩, hk, hs0, -⟩ := h.of g
    have a1 := c_earned (ci_told hC) hT hk (ci_work hC) hS hs
    have a2 := c_earned (ci_told hC) hT hk (ci_scene hC) hS0 hs0
    obtain ⟨M1, hM1⟩ : ∃ M1, M1 = sI M 37 0 (A + (nI (ernA T S) - nI (ernA T S0))) := ⟨_, rfl⟩
    have g1 : AG M0 M1 := g.tr (by rw [hM1]; exact AFw M (by omega) _ _)
    obtain ⟨⟨hC1, hT1, -⟩, -⟩ := h.of g1
    have hS1 : CC M1 39 T S := hS.of (fun i hi => by rw [hM1, sI_row (by omega)])
    have a3 := c_passed (ci_told hC1) hT1 hk (ci_work hC1) hS1 hs
    have hB1 : mI M1 37 1 = B := by rw [hM1, mI_sI, if_neg (by omega)]; exact hB
    rw [f_X0_drawYears_L47]
    refine WP.it (by rw [n_le (by omega) (by omega)]; omega) ?_
    repeat (first | ((with_reducible apply WP.ce); case h => (simp (disch := omega) only [a1, a2]; with_reducible rfl)) | ((with_reducible apply WP.bd); case h => (simp (disch := omega) only [e_gR, e_gI, e_aI, e_aL, e_oO, e_pI, e_wI, e_wL, Option.map_some, mS_sL, mR_sL, mI_sL, mS_sI, mR_sI, mL_sI, n_cl, cob_37 hC, cr_37_told hC, cr_37_work hC, cr_37_book hC, book_o (ci_book hC), book_r_scene (ci_book hC), told_o (ci_told hC), hA, Nat.reduceAdd, ← hM1]; with_reducible rfl)) | rw [nm_eq] | rw [ckZ_n1] | rw [ckZ_n0])
    repeat (first | ((with_reducible apply WP.ce); case h => (simp (disch := omega) only [a3]; with_reducible rfl)) | ((with_reducible apply WP.bd); case h => (simp (disch := omega) only [e_gR, e_gI, e_aI, e_aL, e_oO, e_pI, e_wI, e_wL, Option.map_some, mS_sL, mR_sL, mI_sL, mS_sI, mR_sI, mL_sI, n_cl, cob_37 hC1, cr_37_told hC1, cr_37_work hC1, told_o (ci_told hC1), hB1]; with_reducible rfl)) | rw [nm_eq] | rw [ckZ_n1] | rw [ckZ_n0])
    refine K _ (g1.tr (AFw M1 (by omega) _ _)) ?_ ?_ ?_
    · rw [mI_sI, if_neg (by omega), hM1, mI_sI, if_neg (by omega)]; exact hx
    · rw [mI_sI, if_neg (by omega), hM1, mI_sI, if_pos ⟨rfl, rfl⟩]; rfl
    · rw [mI_sI, if_pos ⟨rfl, rfl⟩]; rfl
  | succ d ih =>
    intro k f M S x hkd g hS hx hA hB hs hb hxl K
    obtain ⟨⟨hC, hT, hS0, -⟩, hk, -, -⟩ := h.of g
    obtain ⟨k1, k2, k3⟩ := parH_ok (T := T) (p := p) (q := (S, x)) hs
    rw [show f + (d + 1) + 1 = (f + d + 1) + 1 from by omega, f_X0_drawYears_L47]
    refine WP.ie (by rw [n_le (by omega) (by omega)]; omega) ?_
    repeat (first | ((with_reducible apply WP.ce); case h => (simp (disch := omega) only []; with_reducible rfl)) | ((with_reducible apply WP.bd); case h => (simp (disch := omega) only [e_gR, e_gI, e_aI, e_aL, e_oO, e_pI, e_wI, e_wL, Option.map_some, mS_sL, mR_sL, mI_sL, mS_sI, mR_sI, mL_sI, n_cl, cob_37 hC]; with_reducible rfl)) | rw [nm_eq] | rw [ckZ_n1] | rw [ckZ_n0])
    refine WP.cw (c_hearParrot h g hS hx hp) (fun _ M1 c => ?_)
    obtain ⟨g1, c1, c2, c3, c4⟩ := c
    obtain ⟨⟨hC1, hT1, -, hr1⟩, -⟩ := h.of g1
    repeat (first | ((with_reducible apply WP.ce); case h => (simp (disch := omega) only []; with_reducible rfl)) | ((with_reducible apply WP.bd); case h => (simp (disch := omega) only [e_gR, e_gI, e_aI, e_aL, e_oO, e_pI, e_wI, e_wL, Option.map_some, mS_sL, mR_sL, mI_sL, mS_sI, mR_sI, mL_sI, n_cl, cob_37 hC1, cr_37_pilot hC1, cr_37_work hC1, cob_30 hC1]; with_reducible rfl)) | rw [nm_eq] | rw [ckZ_n1] | rw [ckZ_n0])
    refine WP.cw (c_oneTide hC1 hT1 hk QOk39 (ci_work hC1) c1 k1 hr1) (fun _ M2 e => ?_)
    obtain ⟨-, e1, e2, -⟩ := e
    have e37 : mI M2 37 = mI M1 37 := e1.2.2.1 37 (by omega) (by omega) (by omega) (by omega) (by omega) (by omega)
    rw [n_add]
    rw [parN] at K
    have k2 : sT (parH T p (S, x)).1 = sT S := k2
    exact ih (k + 1) f M2 _ _ (by omega) (g1.tr (e1.AG (by omega))) e2 (by rw [e37]; exact c2) (by rw [e37, c3]; exact hA) (by rw [e37, c4]; exact hB) (tide1_ok k1 (by omega)) (by rw [tide1_T]; omega) k3 K
theorem c_yrO {M0 : Mem} {T : TD} {S : SC} {r : Option RD} (h : CA M0 T S r) {n p mm : Nat} (hn : n ≤ 60) (hp : p ≤ 100) (hm : mm ≤ 10) :
    ∀ d i f (M : Mem) (x : Nat) (A B : Int32), i + d = mm → AG M0 M → mI M 37 11 = nI x → mI M 37 0 = A → mI M 37 1 = B → x < 2 ^ 31 →
    WP (f_X0_drawYears_L24 37 (f + d + 1) (nI mm) (nI n) (nI p) (nI i) M) (fun _ M' => AG M0 M' ∧ mI M' 37 0 = parS T r S p n true d x A ∧ mI M' 37 1 = parS T r S p n false d x B) := by
  intro d
  induction d with
  | zero =>
    intro i f M x A B hi g hx hA hB hxl
    rw [f_X0_drawYears_L24]
    exact WP.it (by rw [n_le (by omega) (by omega)]; omega) (WP.ret ⟨g, hA, hB⟩)
  | succ d ih =>
    intro i f M x A B hi g hx hA hB hxl
    obtain ⟨⟨hC, hT, hS, -⟩, hk, hs, h9⟩ := h.of g
    rw [show f + (d + 1) + 1 = (f + d + 1) + 1 from by omega, f_X0_drawYears_L24]
    refine WP.ie (by rw [n_le (by omega) (by omega)]; omega) ?_
    repeat (first | ((with_reducible apply WP.ce); case h => (simp (disch := omega) only []; with_reducible rfl)) | ((with_reducible apply WP.bd); case h => (simp (disch := omega) only [e_gR, e_gI, e_aI, e_aL, e_oO, e_pI, e_wI, e_wL, Option.map_some, mS_sL, mR_sL, mI_sL, mS_sI, mR_sI, mL_sI, n_cl, cob_37 hC, cr_37_work hC, cr_37_book hC, book_o (ci_book hC), book_r_scene (ci_book hC), scene_o (ci_work hC), Nat.reduceAdd]; with_reducible rfl)) | rw [nm_eq] | rw [ckZ_n1] | rw [ckZ_n0])
    refine WP.cw (c_copy hk (ci_scene hC) (ci_work hC) (by omega) hS) (fun _ M1 c => ?_)
    have e37 : mI M1 37 = mI M 37 := c.1.2.2.1 37 (by omega) (by omega) (by omega) (by omega)
    obtain ⟨f2, hf⟩ := FUd n (by omega)
    rw [hf, parS, parS]
    refine c_yrI h hn hp (A := A) (B := B) n 0 f2 M1 S x (by omega) (g.tr (c.1.AG (by omega))) c.2 (by rw [e37]; exact hx) (by rw [e37]; exact hA) (by rw [e37]; exact hB) hs (by omega) hxl (fun M' g' x' A' B' => ?_)
    rw [n_add]
    exact ih (i + 1) f M' _ _ _ (by omega) g' x' A' B' (parN_ok n S x hs hxl (by omega)).2
theorem y_parrots {M : Mem} {T : TD} {S : SC} {c : Nat} {W : Nat → RD} {fo : Option Nat} (h : CE M T S c W fo) {x0 : Nat} (hx0 : mI M 14 7 = nI x0) (hxl : x0 < 2 ^ 31) (l1 l2 l3 l4 : Int32) : WP (f_X9_parrots 0 l1 l2 l3 l4 M) (fun v M' => v = q_parrots T (fo.map W) S x0 l1 l2 l3 l4 ∧ AF M M') := by
  have h0 := h
  obtain ⟨⟨hC, hT, hS, hw, hf⟩, hk, hs, h9, hfo⟩ := h
  unfold f_X9_parrots f_X9_parrots_J53 f_X9_parrots_J87
  repeat (first | ((with_reducible apply WP.ce); case h => (simp (disch := omega) only []; with_reducible rfl)) | ((with_reducible apply WP.bd); case h => (simp (disch := omega) only [e_gR, e_gI, e_aI, e_aL, e_oO, e_pI, e_wI, e_wL, Option.map_some, mS_sL, mR_sL, mI_sL, mS_sI, mR_sI, mL_sI, n_cl, cob_0 hC, cr_0_book hC, book_o (ci_book hC), book_r_told (ci_book hC), book_r_scene (ci_book hC), told_o (ci_told hC), scene_o (ci_scene hC), Nat.reduceAdd, c_there hT]; with_reducible rfl)) | rw [nm_eq] | rw [ckZ_n1] | rw [ckZ_n0])
  refine WP.gd (fun g1 => WP.ret ⟨by unfold q_parrots; rw [g1]; rfl, AF.rf M⟩) (fun g1 => ?_)
  repeat (first | ((with_reducible apply WP.ce); case h => (simp (disch := omega) only [c_isWithin]; with_reducible rfl)) | ((with_reducible apply WP.bd); case h => (simp (disch := omega) only [e_gR, e_gI, e_aI, e_aL, e_oO, e_pI, e_wI, e_wL, Option.map_some, mS_sL, mR_sL, mI_sL, mS_sI, mR_sI, mL_sI, n_cl, cob_0 hC]; with_reducible rfl)) | rw [nm_eq] | rw [ckZ_n1] | rw [ckZ_n0])
  refine WP.gd (fun g2 => WP.ret ⟨by unfold q_parrots; rw [g1, show inR l1 1 10 = false from g2]; rfl, AF.rf M⟩) (fun g2 => ?_)
  have g2 : inR l1 1 10 = true := g2
  repeat (first | ((with_reducible apply WP.ce); case h => (simp (disch := omega) only [c_isWithin]; with_reducible rfl)) | ((with_reducible apply WP.bd); case h => (simp (disch := omega) only [e_gR, e_gI, e_aI, e_aL, e_oO, e_pI, e_wI, e_wL, Option.map_some, mS_sL, mR_sL, mI_sL, mS_sI, mR_sI, mL_sI, n_cl, cob_0 hC]; with_reducible rfl)) | rw [nm_eq] | rw [ckZ_n1] | rw [ckZ_n0])
  refine WP.gd (fun g3 => WP.ret ⟨by unfold q_parrots; rw [g1, g2, show inR l2 1 60 = false from g3]; rfl, AF.rf M⟩) (fun g3 => ?_)
  have g3 : inR l2 1 60 = true := g3
  repeat (first | ((with_reducible apply WP.ce); case h => (simp (disch := omega) only [c_isWithin]; with_reducible rfl)) | ((with_reducible apply WP.bd); case h => (simp (disch := omega) only [e_gR, e_gI, e_aI, e_aL, e_oO, e_pI, e_wI, e_wL, Option.map_some, mS_sL, mR_sL, mI_sL, mS_sI, mR_sI, mL_sI, n_cl, cob_0 hC]; with_reducible rfl)) | rw [nm_eq] | rw [ckZ_n1] | rw [ckZ_n0])
  refine WP.gd (fun g4 => WP.ret ⟨by unfold q_parrots; rw [g1, g2, g3, show inR l3 0 100 = false from g4]; rfl, AF.rf M⟩) (fun g4 => ?_)
  have g4 : inR l3 0 100 = true := g4
  repeat (first | ((with_reducible apply WP.ce); case h => (simp (disch := omega) only [c_isWithin]; with_reducible rfl)) | ((with_reducible apply WP.bd); case h => (simp (disch := omega) only [e_gR, e_gI, e_aI, e_aL, e_oO, e_pI, e_wI, e_wL, Option.map_some, mS_sL, mR_sL, mI_sL, mS_sI, mR_sI, mL_sI, n_cl, cob_0 hC]; with_reducible rfl)) | rw [nm_eq] | rw [ckZ_n1] | rw [ckZ_n0])
  refine WP.gd (fun g5 => WP.ret ⟨by unfold q_parrots; rw [g1, g2, g3, g4, show inR l4 0 1 = false from g5]; rfl, AF.rf M⟩) (fun g5 => ?_)
  have g5 : inR l4 0 1 = true := g5
  repeat (first | ((with_reducible apply WP.ce); case h => (simp (disch := omega) only []; with_reducible rfl)) | ((with_reducible apply WP.bd); case h => (simp (disch := omega) only [e_gR, e_gI, e_aI, e_aL, e_oO, e_pI, e_wI, e_wL, Option.map_some, mS_sL, mR_sL, mI_sL, mS_sI, mR_sI, mL_sI, n_cl, cob_0 hC]; with_reducible rfl)) | rw [nm_eq] | rw [ckZ_n1] | rw [ckZ_n0])
  refine WP.cw (c_asking h0) (fun v M1 c1 => ?_)
  obtain ⟨rfl, a1, a2⟩ := c1
  have hC1 := a2.1.1
  have hx1 : mI M1 14 7 = nI x0 := by rw [a1.2.2.1 14 (by omega)]; exact hx0
  obtain ⟨mm, rfl, -, b2, b3⟩ := inR_t g2 (by decide)
  obtain ⟨n, rfl, -, d2, d3⟩ := inR_t g3 (by decide)
  obtain ⟨p, rfl, -, e2, e3⟩ := inR_t g4 (by decide)
  have q : q_parrots T (fo.map W) S x0 (nI mm) (nI n) (nI p) l4 = parS T (fo.map W) S p n (decide (l4 = 0)) mm x0 (nI 0) := by
    unfold q_parrots
    rw [g1, g2, g3, g4, g5, n_cl b3, n_cl d3, n_cl e3]
    rfl
  rw [q]
  repeat (first | ((with_reducible apply WP.ce); case h => (simp (disch := omega) only []; with_reducible rfl)) | ((with_reducible apply WP.bd); case h => (simp (disch := omega) only [e_gR, e_gI, e_aI, e_aL, e_oO, e_pI, e_wI, e_wL, Option.map_some, mS_sL, mR_sL, mI_sL, mS_sI, mR_sI, mL_sI, n_cl, cob_37 hC1]; with_reducible rfl)) | rw [nm_eq] | rw [ckZ_n1] | rw [ckZ_n0])
  refine WP.cw (P := fun _ M' => AG M1 M' ∧ mI M' 37 0 = parS T (fo.map W) S p n true mm x0 (nI 0) ∧ mI M' 37 1 = parS T (fo.map W) S p n false mm x0 (nI 0)) ?_ (fun _ M2 c2 => ?_)
  · unfold f_X0_drawYears
    repeat (first | ((with_reducible apply WP.ce); case h => (simp (disch := omega) only []; with_reducible rfl)) | ((with_reducible apply WP.bd); case h => (simp (disch := omega) only [e_gR, e_gI, e_aI, e_aL, e_oO, e_pI, e_wI, e_wL, Option.map_some, mS_sL, mR_sL, mI_sL, mS_sI, mR_sI, mL_sI, n_cl, cob_37 hC1, cr_37_book hC1, book_o (ci_book hC1), hx1]; with_reducible rfl)) | rw [nm_eq] | rw [ckZ_n1] | rw [ckZ_n0])
    obtain ⟨f, hf2⟩ := FUd mm (by omega)
    rw [hf2]
    refine c_yrO a2 (by omega) (by omega) (by omega) mm 0 f _ x0 (nI 0) (nI 0) (by omega) (((AFw M1 (by omega) _ _).tr (AFw _ (by omega) _ _)).tr (AFw _ (by omega) _ _)) ?_ ?_ ?_ hxl
    · rw [mI_sI, if_neg (by omega), mI_sI, if_neg (by omega), mI_sI, if_pos ⟨rfl, rfl⟩]
    · rw [mI_sI, if_neg (by omega), mI_sI, if_pos ⟨rfl, rfl⟩]
    · rw [mI_sI, if_pos ⟨rfl, rfl⟩]
  obtain ⟨b1, b2', b3'⟩ := c2
  obtain ⟨⟨hC2, -⟩, -⟩ := a2.of b1
  have fr := a1.tr b1.1
  by_cases w0 : l4 = 0
  · refine WP.it w0 ?_
    repeat (first | ((with_reducible apply WP.ce); case h => (simp (disch := omega) only []; with_reducible rfl)) | ((with_reducible apply WP.bd); case h => (simp (disch := omega) only [e_gR, e_gI, e_aI, e_aL, e_oO, e_pI, e_wI, e_wL, Option.map_some, mS_sL, mR_sL, mI_sL, mS_sI, mR_sI, mL_sI, n_cl, cob_0 hC2, cr_0_asker hC2, cob_37 hC2, b2']; with_reducible rfl)) | rw [nm_eq] | rw [ckZ_n1] | rw [ckZ_n0])
    exact WP.ret ⟨by rw [decide_eq_true w0], fr⟩
  · refine WP.ie w0 ?_
    repeat (first | ((with_reducible apply WP.ce); case h => (simp (disch := omega) only []; with_reducible rfl)) | ((with_reducible apply WP.bd); case h => (simp (disch := omega) only [e_gR, e_gI, e_aI, e_aL, e_oO, e_pI, e_wI, e_wL, Option.map_some, mS_sL, mR_sL, mI_sL, mS_sI, mR_sI, mL_sI, n_cl, cob_0 hC2, cr_0_asker hC2, cob_37 hC2, b3']; with_reducible rfl)) | rw [nm_eq] | rw [ckZ_n1] | rw [ckZ_n0])
    exact WP.ret ⟨by rw [decide_eq_false w0], fr⟩
