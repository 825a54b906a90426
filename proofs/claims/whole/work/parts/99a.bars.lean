/-! A BAR, as its text is read; the reference reads it -/
def nmF (t : TP) (p lo N : Nat) : Nat := if tkK t p = 1 then (if lo ≤ tkV t p ∧ tkV t p < N then 0 else 1 + 8 * bk t p + 1) else 1 + 8 * bk t p
def tdB (T : TD) (a b : Nat) : TD := ((a, b, tJ T, tN T), T.2)
def tdJ (T : TD) (a b c : Nat) : TD := ((tF T, tK T, tJ T + 1, tN T), fset (fset (fset (tP T) (3 * tJ T) a) (3 * tJ T + 1) b) (3 * tJ T + 2) c, T.2.2)
def tdS (T : TD) (a b : Nat) : TD := ((tF T, tK T, tJ T, tN T + 1), tP T, fset (tC T) (tN T) a, fset (tE T) (tN T) b, tW T)
def tdW (T : TD) (s j : Nat) : TD := (T.1, tP T, tC T, tE T, fset (tW T) s (tW T s ||| 2 ^ j))
/-- two numbers -/
def nm2 (t : TP) (p lo1 N1 lo2 N2 : Nat) : Nat := if nmF t p lo1 N1 = 0 then nmF t (tkE t p) lo2 N2 else nmF t p lo1 N1
/-- the rest of a clause: the fault, where it ends, the bar then -/
def brP (t : TP) (p : Nat) (T : TD) (k : Nat) : Nat × Nat × TD :=
  if k = 0 then (nm2 t p 1 61 1 4, tkE t (tkE t p), tdB T (tkV t p) (tkV t (tkE t p)))
  else if k = 1 then ((if nm2 t p 0 10 0 10 = 0 then nmF t (tkE t (tkE t p)) 0 10 else nm2 t p 0 10 0 10), tkE t (tkE t (tkE t p)), tdJ T (tkV t p) (tkV t (tkE t p)) (tkV t (tkE t (tkE t p))))
  else if k = 2 then (nm2 t p 0 100 0 61, tkE t (tkE t p), tdS T (tkV t p) (tkV t (tkE t p)))
  else (nm2 t p 0 (tN T) 0 (tJ T), tkE t (tkE t p), tdW T (tkV t p) (tkV t (tkE t p)))
def bwk (t : TP) (p : Nat) : Nat := if lts t (bk t p) = w_bar then 0 else if lts t (bk t p) = w_joke then 1 else if lts t (bk t p) = w_ship then 2 else if lts t (bk t p) = w_knows then 3 else 4
def bfl (T : TD) (n k : Nat) : Bool := decide (n = 40) || !(decide (k = 0) == decide (n = 0)) || (decide (k = 1) && decide (tJ T = 8)) || (decide (k = 2) && decide (tN T = 5))
def brC (t : TP) (p : Nat) (T : TD) (n : Nat) : Nat × Nat × TD :=
  if bwk t p = 4 then (1 + 8 * bk t p, p, T) else if bfl T n (bwk t p) then (1 + 8 * bk t p + 4, p, T) else brP t (tkE t p) T (bwk t p)
def brL (t : TP) : Nat → Nat → Nat → TD → Nat × TD
  | 0, _, _, T => (1, T)
  | d + 1, n, p, T =>
    if (brC t p T n).1 = 0 then (if tkG t (brC t p T n).2.1 = nI 59 then brL t d (n + 1) (tkE t (brC t p T n).2.1) (brC t p T n).2.2 else if tkK t (brC t p T n).2.1 = 0 then (0, (brC t p T n).2.2) else (1 + 8 * bk t (brC t p T n).2.1, (brC t p T n).2.2)) else ((brC t p T n).1, (brC t p T n).2.2)
def tdZ : TD := ((0, 0, 0, 0), fun _ => 0, fun _ => 0, fun _ => 0, fun _ => 0)
/-- what must hold on the way -/
def BTk (T : TD) : Prop := (tF T ≤ 60 ∧ tK T ≤ 3 ∧ tJ T ≤ 8 ∧ tN T ≤ 5) ∧ (∀ i, tP T i < 10) ∧ (∀ s, tC T s < 100 ∧ tE T s ≤ 60 ∧ tW T s < 256) ∧ ∀ s, tN T ≤ s → tW T s = 0
theorem tkE_le {t : TP} {p : Nat} (hp : p ≤ t.1) : tkE t p ≤ t.1 ∧ p ≤ tkE t p := by
  have h1 : bk t p ≤ t.1 := ru_le isBl t hp
  have h2 : p ≤ bk t p := ru_ge isBl t p
  unfold tkE
  by_cases k0 : tkK t p = 0
  · rw [if_pos k0]; omega
  · rw [if_neg k0]
    by_cases k1 : tkK t p = 1
    · rw [if_pos k1]
      have := ru_le isDg t h1
      have := ru_ge isDg t (bk t p)
      omega
    · rw [if_neg k1]
      by_cases k2 : tkK t p = 2
      · rw [if_pos k2]
        have := ru_le isLt t h1
        have := ru_ge isLt t (bk t p)
        omega
      · rw [if_neg k2]
        have hlt : bk t p < t.1 := by
          unfold tkK at k0
          by_cases h : t.1 ≤ bk t p
          · rw [if_pos h] at k0; exact absurd rfl k0
          · omega
        by_cases h : two t (bk t p) = true
        · rw [if_pos h]
          unfold two at h
          have h3 := of_decide_eq_true (Bool.and_eq_true_iff.mp (Bool.and_eq_true_iff.mp h).1).2
          omega
        · rw [if_neg h]; omega
theorem tkK_1 {t : TP} {p : Nat} : (tkK t p = 1) = (dgB t (bk t p) = true) := by
  unfold tkK dgB
  rw [eq_iff_iff]
  by_cases h : t.1 ≤ bk t p
  · rw [if_pos h, decide_eq_false (by omega)]
    exact ⟨fun z => absurd z (by decide), fun z => absurd z (by rw [Bool.false_and]; decide)⟩
  · rw [if_neg h, decide_eq_true (by omega), Bool.true_and]
    by_cases h2 : isDg (t.2 (bk t p)) = true
    · rw [if_pos h2]; exact ⟨fun _ => h2, fun _ => rfl⟩
    · rw [if_neg h2]
      refine ⟨fun z => ?_, fun z => absurd z h2⟩
      by_cases h3 : isLt (t.2 (bk t p)) = true
      · rw [if_pos h3] at z; cases z
      · rw [if_neg h3] at z; cases z
theorem bk_bk {t : TP} {p : Nat} (hp : p ≤ t.1) : bk t (bk t p) = bk t p := by
  have h1 : bk t p ≤ t.1 := ru_le isBl t hp
  unfold bk
  by_cases h : ru isBl t p < t.1
  · exact ru_no h (ru_stop isBl t h)
  · exact ru_end (by omega)
/-- the fields of the place and of the fault alone change -/
def FM (m : Nat) (M M' : Mem) : Prop := mS M' = mS M ∧ mR M' = mR M ∧ (∀ a, a ≠ m → mI M' a = mI M a) ∧ ∀ k, k ≠ 18 → k ≠ 19 → mI M' m k = mI M m k
theorem FM.rf (m : Nat) (M : Mem) : FM m M M := ⟨rfl, rfl, fun _ _ => rfl, fun _ _ _ => rfl⟩
theorem FM.tr {m : Nat} {M1 M2 M3 : Mem} (h1 : FM m M1 M2) (h2 : FM m M2 M3) : FM m M1 M3 := ⟨h2.1.trans h1.1, h2.2.1.trans h1.2.1, fun a h => (h2.2.2.1 a h).trans (h1.2.2.1 a h), fun k k1 k2 => (h2.2.2.2 k k1 k2).trans (h1.2.2.2 k k1 k2)⟩
theorem FM.RI {m : Nat} {M M' : Mem} (h : FM m M M') (hR : RIs (mS M) (mR M) m) : RIs (mS M') (mR M') m := by rw [h.1, h.2.1]; exact hR
theorem FM.tp {m : Nat} {M M' : Mem} {t : TP} (h : FM m M M') (ht : RTp M m t) : RTp M' m t := ⟨(h.2.2.2 17 (by decide) (by decide)).trans ht.1, by rw [h.2.2.1 (m + 17) (by omega)]; exact ht.2⟩
theorem FM.w (m : Nat) (M : Mem) {k : Nat} (hk : k = 18 ∨ k = 19) (v : Int32) : FM m M (sI M m k v) := ⟨rfl, rfl, fun a h => sI_row h, fun j j1 j2 => by rw [mI_sI, if_neg (by omega)]⟩
theorem FM.wPF (m : Nat) (M : Mem) (p fa : Nat) : FM m M (wPF M m p fa) := (FM.w m M (Or.inl rfl) _).tr (FM.w m _ (Or.inr rfl) _)
theorem r_amount {M : Mem} {m : Nat} {t : TP} (hR : RIs (mS M) (mR M) m) (ht : RTp M m t) (h4 : TOk2 t) {p fa lo N : Nat} (hp : mI M m 18 = nI p) (hpl : p ≤ t.1) (h19 : mI M m 19 = nI fa) (hfa : fa < 10000) (hlo : lo ≤ 1000) (hN : N ≤ 1000) {hi : Int32} (hhi : hi.toInt = (N : Int) - 1) :
    WP (f_X10_amount m (nI lo) hi M) (fun v M' => FM m M M' ∧ mI M' m 19 = nI (if fa = 0 then nmF t p lo N else fa) ∧ (∃ p', p' ≤ t.1 ∧ mI M' m 18 = nI p') ∧ (fa = 0 → nmF t p lo N = 0 → v = nI (tkV t p) ∧ mI M' m 18 = nI (tkE t p))) := by
  have hL := h4.1
  have hb : bk t p ≤ t.1 := ru_le isBl t hpl
  have a1 := r_blanks hR ht h4 hp (by omega)
  obtain ⟨M1, hM1⟩ : ∃ M1, M1 = sI M m 18 (nI (bk t p)) := ⟨_, rfl⟩
  rw [← hM1] at a1
  have f1 : FM m M M1 := by rw [hM1]; exact FM.w m M (Or.inl rfl) _
  have hR1 := f1.RI hR
  have t1 := f1.tp ht
  have e18 : mI M1 m 18 = nI (bk t p) := by rw [hM1, mI_sI, if_pos ⟨rfl, rfl⟩]
  have e19 : mI M1 m 19 = nI fa := by rw [hM1, mI_sI, if_neg (by omega)]; exact h19
  have z0 : (0 : Int32).toInt = 0 := by decide
  unfold f_X10_amount f_X10_amount_J26 f_X10_amount_J54
  repeat (first | ((with_reducible apply WP.ce); case h => (simp (disch := omega) only [a1]; with_reducible rfl)) | ((with_reducible apply WP.bd); case h => (simp (disch := omega) only [e_gR, e_gI, e_aI, e_aL, e_oO, e_pI, e_wI, e_wL, Option.map_some, mS_sL, mR_sL, mI_sL, mS_sI, mR_sI, mL_sI, n_cl, ro_m hR]; with_reducible rfl)) | rw [nm_eq] | rw [ckZ_n1] | rw [ckZ_n0])
  repeat (first | ((with_reducible apply WP.ce); case h => (simp (disch := omega) only []; with_reducible rfl)) | ((with_reducible apply WP.bd); case h => (simp (disch := omega) only [e_gR, e_gI, e_aI, e_aL, e_oO, e_pI, e_wI, e_wL, Option.map_some, mS_sL, mR_sL, mI_sL, mS_sI, mR_sI, mL_sI, n_cl, ro_m hR1, e18, e19]; with_reducible rfl)) | rw [nm_eq] | rw [ckZ_n1] | rw [ckZ_n0])
  by_cases c0 : fa = 0
  · refine WP.it (by rw [c0]; rfl) ?_
    have a2 := r_digits hR1 t1 h4 e18 (by omega) e19 hfa
    repeat (first | ((with_reducible apply WP.ce); case h => (simp (disch := omega) only [a2]; with_reducible rfl)) | ((with_reducible apply WP.bd); case h => (simp (disch := omega) only [e_gR, e_gI, e_aI, e_aL, e_oO, e_pI, e_wI, e_wL, Option.map_some, mS_sL, mR_sL, mI_sL, mS_sI, mR_sI, mL_sI, n_cl, ro_m hR1]; with_reducible rfl)) | rw [nm_eq] | rw [ckZ_n1] | rw [ckZ_n0])
    rw [if_pos c0]
    cases hd : dgB t (bk t p) with
    | false =>
      have kk : tkK t p ≠ 1 := by rw [ne_eq, tkK_1, hd]; decide
      have nf : nmF t p lo N = 1 + 8 * bk t p := by unfold nmF; rw [if_neg kk]
      have g19 : mI (wPF M1 m (bk t p) (ft1 fa (bk t p) 0)) m 19 = nI (1 + 8 * bk t p) := by rw [wPF_f, if_pos rfl]; unfold ft1; rw [if_pos c0]; rfl
      have f2 := f1.tr (FM.wPF m M1 (bk t p) (ft1 fa (bk t p) 0))
      have hR2 := f2.RI hR
      rw [if_neg (by decide), if_neg (by decide)]
      have o2 : oS (mS (wPF M1 m (bk t p) (ft1 fa (bk t p) 0))) 10 (some m) = some m := ro_m hR2
      obtain ⟨M2, hM2⟩ : ∃ M2, M2 = wPF M1 m (bk t p) (ft1 fa (bk t p) 0) := ⟨_, rfl⟩
      rw [← hM2] at g19 f2 o2 ⊢
      repeat (first | ((with_reducible apply WP.ce); case h => (simp (disch := omega) only []; with_reducible rfl)) | ((with_reducible apply WP.bd); case h => (simp (disch := omega) only [e_gR, e_gI, e_aI, e_aL, e_oO, e_pI, e_wI, e_wL, Option.map_some, mS_sL, mR_sL, mI_sL, mS_sI, mR_sI, mL_sI, n_cl, o2, g19]; with_reducible rfl)) | rw [nm_eq] | rw [ckZ_n1] | rw [ckZ_n0])
      refine WP.ie (by rw [nIz (by omega)]; omega) (WP.ret ⟨f2, by rw [nf]; exact g19, ⟨bk t p, hb, ?_⟩, fun _ z => by rw [nf] at z; omega⟩)
      rw [hM2, wPF_f, if_neg (by decide), if_pos rfl]
    | true =>
      have kk : tkK t p = 1 := by rw [tkK_1]; exact hd
      have dl := dgV_lt t (bk t p)
      have hrd := ru_le isDg t hb
      have hE : tkE t p = ru isDg t (bk t p) := by unfold tkE; rw [kk, if_neg (by decide), if_pos rfl]
      rw [if_pos rfl, if_pos rfl]
      obtain ⟨M2, hM2⟩ : ∃ M2, M2 = wPF M1 m (ru isDg t (bk t p)) (if dgs t (bk t p) ≤ 5 then fa else ft1 fa (bk t p) 1) := ⟨_, rfl⟩
      rw [← hM2]
      have f2 : FM m M M2 := f1.tr (by rw [hM2]; exact FM.wPF m M1 _ _)
      have hR2 := f2.RI hR
      have g18 : mI M2 m 18 = nI (ru isDg t (bk t p)) := by rw [hM2, wPF_f, if_neg (by decide), if_pos rfl]
      by_cases h5 : dgs t (bk t p) ≤ 5
      · have g19 : mI M2 m 19 = nI 0 := by rw [hM2, wPF_f, if_pos rfl, if_pos h5, c0]
        have hV : tkV t p = dgV t (bk t p) := by unfold tkV; rw [if_pos kk, if_pos h5]
        repeat (first | ((with_reducible apply WP.ce); case h => (simp (disch := omega) only []; with_reducible rfl)) | ((with_reducible apply WP.bd); case h => (simp (disch := omega) only [e_gR, e_gI, e_aI, e_aL, e_oO, e_pI, e_wI, e_wL, Option.map_some, mS_sL, mR_sL, mI_sL, mS_sI, mR_sI, mL_sI, n_cl, ro_m hR2, g19]; with_reducible rfl)) | rw [nm_eq] | rw [ckZ_n1] | rw [ckZ_n0])
        refine WP.it rfl ?_
        have ei := in_eq (Int32.toInt64 (nI (dgV t (bk t p)))) (Int32.toInt64 (nI lo)) (Int32.toInt64 hi) M2
        refine WP.ce ei ?_
        have cond : (Int32.toInt64 (nI lo) ≤ Int32.toInt64 (nI (dgV t (bk t p))) ∧ Int32.toInt64 (nI (dgV t (bk t p))) ≤ Int32.toInt64 hi) ↔ (lo ≤ tkV t p ∧ tkV t p < N) := by
          rw [fa_le64, fa_le64, Int32.toInt_toInt64, Int32.toInt_toInt64, Int32.toInt_toInt64, nI_toInt (by omega), nI_toInt (by omega), hhi, hV]
          omega
        by_cases hc : lo ≤ tkV t p ∧ tkV t p < N
        · have nf : nmF t p lo N = 0 := by unfold nmF; rw [if_pos kk, if_pos hc]
          rw [decide_eq_true (cond.mpr hc)]
          refine WP.ie (show ¬ bI true = 0 by decide) (WP.ret ⟨f2, by rw [nf]; exact g19, ⟨_, hrd, g18⟩, fun _ _ => ⟨by rw [hV], by rw [hE]; exact g18⟩⟩)
        · have nf : nmF t p lo N = 1 + 8 * bk t p + 1 := by unfold nmF; rw [if_pos kk, if_neg hc]
          rw [decide_eq_false (fun z => hc (cond.mp z))]
          refine WP.it rfl ?_
          have a3 := r_fails hR2 (fa := 0) (s := bk t p) (c := 1) (by decide) (by omega) (by decide) g19
          repeat (first | ((with_reducible apply WP.ce); case h => (simp (disch := omega) only [a3]; with_reducible rfl)) | ((with_reducible apply WP.bd); case h => (simp (disch := omega) only [e_gR, e_gI, e_aI, e_aL, e_oO, e_pI, e_wI, e_wL, Option.map_some, mS_sL, mR_sL, mI_sL, mS_sI, mR_sI, mL_sI, n_cl, ro_m hR2]; with_reducible rfl)) | rw [nm_eq] | rw [ckZ_n1] | rw [ckZ_n0])
          refine WP.ret ⟨f2.tr (FM.w m M2 (Or.inr rfl) _), ?_, ⟨_, hrd, by rw [mI_sI, if_neg (by omega)]; exact g18⟩, fun _ z => by rw [nf] at z; omega⟩
          rw [mI_sI, if_pos ⟨rfl, rfl⟩, nf]
          unfold ft1
          rw [if_pos rfl]
      · have g19 : mI M2 m 19 = nI (1 + 8 * bk t p + 1) := by rw [hM2, wPF_f, if_pos rfl, if_neg h5]; unfold ft1; rw [if_pos c0]
        have hV : tkV t p = 100000 := by unfold tkV; rw [if_pos kk, if_neg h5]
        have nf : nmF t p lo N = 1 + 8 * bk t p + 1 := by unfold nmF; rw [if_pos kk, hV, if_neg (by omega)]
        repeat (first | ((with_reducible apply WP.ce); case h => (simp (disch := omega) only []; with_reducible rfl)) | ((with_reducible apply WP.bd); case h => (simp (disch := omega) only [e_gR, e_gI, e_aI, e_aL, e_oO, e_pI, e_wI, e_wL, Option.map_some, mS_sL, mR_sL, mI_sL, mS_sI, mR_sI, mL_sI, n_cl, ro_m hR2, g19]; with_reducible rfl)) | rw [nm_eq] | rw [ckZ_n1] | rw [ckZ_n0])
        refine WP.ie (by rw [nIz (by omega)]; omega) (WP.ret ⟨f2, by rw [nf]; exact g19, ⟨_, hrd, g18⟩, fun _ z => by rw [nf] at z; omega⟩)
  · refine WP.ie (by rw [nIz (by omega)]; exact c0) ?_
    rw [if_neg c0]
    repeat (first | ((with_reducible apply WP.ce); case h => (simp (disch := omega) only []; with_reducible rfl)) | ((with_reducible apply WP.bd); case h => (simp (disch := omega) only [e_gR, e_gI, e_aI, e_aL, e_oO, e_pI, e_wI, e_wL, Option.map_some, mS_sL, mR_sL, mI_sL, mS_sI, mR_sI, mL_sI, n_cl, ro_m hR1, e19]; with_reducible rfl)) | rw [nm_eq] | rw [ckZ_n1] | rw [ckZ_n0])
    exact WP.ie (by rw [nIz (by omega)]; exact c0) (WP.ret ⟨f1, e19, ⟨_, hb, e18⟩, fun z => absurd z c0⟩)
/-- the scratch rows stand for a bar -/
def NT (M : Mem) (m : Nat) (T : TD) : Prop := (mI M (m + 12) 0 = nI (tF T) ∧ mI M (m + 12) 1 = nI (tK T) ∧ mI M (m + 12) 2 = nI (tJ T) ∧ mI M (m + 12) 3 = nI (tN T)) ∧ (∀ i, i < 3 * tJ T → mI M (m + 13) i = nI (tP T i)) ∧ (∀ s, s < tN T → mI M (m + 14) s = nI (tC T s) ∧ mI M (m + 15) s = nI (tE T s)) ∧ ∀ s, s < 5 → mI M (m + 16) s = nI (tW T s)
theorem FM.nt {m : Nat} {M M' : Mem} {T : TD} (h : FM m M M') (hN : NT M m T) : NT M' m T := by
  unfold NT
  rw [h.2.2.1 (m + 12) (by omega), h.2.2.1 (m + 13) (by omega), h.2.2.1 (m + 14) (by omega), h.2.2.1 (m + 15) (by omega), h.2.2.1 (m + 16) (by omega)]
  exact hN
/-- besides these the scratch rows -/
def FB (m : Nat) (M M' : Mem) : Prop := mS M' = mS M ∧ mR M' = mR M ∧ (∀ a, a ≠ m → a < m + 12 ∨ m + 16 < a → mI M' a = mI M a) ∧ ∀ k, k ≠ 18 → k ≠ 19 → mI M' m k = mI M m k
theorem FM.FB {m : Nat} {M M' : Mem} (h : FM m M M') : FB m M M' := ⟨h.1, h.2.1, fun a h1 _ => h.2.2.1 a h1, h.2.2.2⟩
theorem FB.tr {m : Nat} {M1 M2 M3 : Mem} (h1 : FB m M1 M2) (h2 : FB m M2 M3) : FB m M1 M3 := ⟨h2.1.trans h1.1, h2.2.1.trans h1.2.1, fun a h h' => (h2.2.2.1 a h h').trans (h1.2.2.1 a h h'), fun k k1 k2 => (h2.2.2.2 k k1 k2).trans (h1.2.2.2 k k1 k2)⟩
theorem FB.RI {m : Nat} {M M' : Mem} (h : FB m M M') (hR : RIs (mS M) (mR M) m) : RIs (mS M') (mR M') m := by rw [h.1, h.2.1]; exact hR
theorem FB.tp {m : Nat} {M M' : Mem} {t : TP} (h : FB m M M') (ht : RTp M m t) : RTp M' m t := ⟨(h.2.2.2 17 (by decide) (by decide)).trans ht.1, by rw [h.2.2.1 (m + 17) (by omega) (by omega)]; exact ht.2⟩
theorem FB.w (m : Nat) (M : Mem) {a : Nat} (ha : m + 12 ≤ a ∧ a ≤ m + 16) (k : Nat) (v : Int32) : FB m M (sI M a k v) := ⟨rfl, rfl, fun b h h' => sI_row (by omega), fun j _ _ => by rw [sI_row (by omega)]⟩
theorem FB.rf (m : Nat) (M : Mem) : FB m M M := (FM.rf m M).FB
