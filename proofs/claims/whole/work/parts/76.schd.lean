/-! THE CLASS: school, its loops -/
theorem c_schI {M0 : Mem} {T : TD} {S : SC} {r : Option RD} (h : CA M0 T S r) {n k : Nat} (hn : n ≤ 60) (hk8 : k ≤ 8) {l : Int32} (hl : nI 255 &&& l = nI (cmA S (tN T))) {k7 : Int32 → Int32 → Int32 → Mem → Option (Int32 × Mem)} {Q : Int32 → Mem → Prop}
    (K : fs (scP T r S n k) (2 ^ tJ T) = none → ∀ M', AG M0 M' → WP (k7 (nI n) l (nI (k + 1)) M') Q) (F : ∀ s M', fs (scP T r S n k) (2 ^ tJ T) = some s → AG M0 M' → Q (nI s) M') :
    ∀ d set f (M : Mem), set + d = 2 ^ tJ T → AG M0 M → fs (scP T r S n k) set = none →
    WP (f_X0_findLessons_L21 k7 37 (f + d + 1) (nI n) l (nI k) (nI set) M) Q := by
  intro d
  induction d with
  | zero =>
    intro set f M hsd g hf
    obtain ⟨⟨hC, hT, hS, hr⟩, hk, hs, h9⟩ := h.of g
    have h1 := hk.1.2.2.1
    have h8 := pow8 h1
    have hsd : set = 2 ^ tJ T := by omega
    subst hsd
    rw [f_X0_findLessons_L21]
    repeat (first | ((with_reducible apply WP.ce); case h => (simp (disch := omega) only []; with_reducible rfl)) | ((with_reducible apply WP.bd); case h => (simp (disch := omega) only [e_gR, e_gI, e_aI, e_aL, e_oO, e_pI, e_wI, e_wL, Option.map_some, mS_sL, mR_sL, mI_sL, mS_sI, mR_sI, mL_sI, n_cl, cob_37 hC, cr_37_told hC, told_o (ci_told hC), hT.1.2.2.2.1]; with_reducible rfl)) | rw [nm_eq] | rw [ckZ_n1] | rw [ckZ_n0])
    refine WP.it (by rw [n_shl (by omega), n_le (by omega) (by omega)]; omega) ?_
    rw [n_add]
    exact K hf M g
  | succ d ih =>
    intro set f M hsd g hf
    obtain ⟨⟨hC, hT, hS, hr⟩, hk, hs, h9⟩ := h.of g
    have h1 := hk.1.2.2.1
    have h8 := pow8 h1
    have c1 := btc_le set
    rw [show f + (d + 1) + 1 = (f + d + 1) + 1 from by omega, f_X0_findLessons_L21]
    repeat (first | ((with_reducible apply WP.ce); case h => (simp (disch := omega) only []; with_reducible rfl)) | ((with_reducible apply WP.bd); case h => (simp (disch := omega) only [e_gR, e_gI, e_aI, e_aL, e_oO, e_pI, e_wI, e_wL, Option.map_some, mS_sL, mR_sL, mI_sL, mS_sI, mR_sI, mL_sI, n_cl, cob_37 hC, cr_37_told hC, told_o (ci_told hC), hT.1.2.2.2.1]; with_reducible rfl)) | rw [nm_eq] | rw [ckZ_n1] | rw [ckZ_n0])
    refine WP.ie (by rw [n_shl (by omega), n_le (by omega) (by omega)]; omega) ?_
    refine WP.ce (c_bits (x := set) (by omega) M) ?_
    have skip : scP T r S n k set = false → ∀ M', AG M0 M' → WP (f_X0_findLessons_J107 k7 (f_X0_findLessons_L21 k7 37 (f + d + 1)) 37 (nI n) l (nI k) (nI set) M') Q := by
      intro hp M' g'
      unfold f_X0_findLessons_J107
      rw [n_add]
      exact ih (set + 1) f M' (by omega) g' (fs_no _ hf hp)
    by_cases e1 : btc set = k
    · refine WP.it (by rw [← e1]; rfl) ?_
      have e255 : nI set &&& l = nI (set &&& cmA S (tN T)) := by
        have z : nI set = nI set &&& nI 255 := by
          rw [n_and]
          congr 1
          have : set &&& 255 = set % 2 ^ 8 := Nat.and_two_pow_sub_one_eq_mod set 8
          rw [this]
          exact (Nat.mod_eq_of_lt (by omega)).symm
        rw [z, Int32.and_assoc, hl, n_and]
      have hcm := cmA_lt S (tN T)
      have hal : set &&& cmA S (tN T) < 2 ^ 31 := Nat.lt_of_le_of_lt Nat.and_le_left (by omega)
      rw [e255]
      by_cases e2 : set &&& cmA S (tN T) = 0
      · refine WP.it (by rw [e2]; rfl) ?_
        repeat (first | ((with_reducible apply WP.ce); case h => (simp (disch := omega) only []; with_reducible rfl)) | ((with_reducible apply WP.bd); case h => (simp (disch := omega) only [e_gR, e_gI, e_aI, e_aL, e_oO, e_pI, e_wI, e_wL, Option.map_some, mS_sL, mR_sL, mI_sL, mS_sI, mR_sI, mL_sI, n_cl, cob_37 hC, cr_37_work hC, cr_37_book hC, book_o (ci_book hC), book_r_scene (ci_book hC), scene_o (ci_work hC), Nat.reduceAdd]; with_reducible rfl)) | rw [nm_eq] | rw [ckZ_n1] | rw [ckZ_n0])
        refine WP.cw (c_copy hk (ci_scene hC) (ci_work hC) (by omega) hS) (fun _ M1 b1 => ?_)
        have g1 := g.tr (b1.1.AG (by omega))
        obtain ⟨⟨hC1, -⟩, -⟩ := h.of g1
        repeat (first | ((with_reducible apply WP.ce); case h => (simp (disch := omega) only []; with_reducible rfl)) | ((with_reducible apply WP.bd); case h => (simp (disch := omega) only [e_gR, e_gI, e_aI, e_aL, e_oO, e_pI, e_wI, e_wL, Option.map_some, mS_sL, mR_sL, mI_sL, mS_sI, mR_sI, mL_sI, n_cl, cob_37 hC1, cr_37_work hC1, scene_o (ci_work hC1)]; with_reducible rfl)) | rw [nm_eq] | rw [ckZ_n1] | rw [ckZ_n0])
        refine WP.cw (c_teach hk hs (set := set) (ci_work hC1) b1.2) (fun _ M2 b2 => ?_)
        have g2 := g1.tr (b2.1.AG (by omega))
        obtain ⟨⟨hC2, hT2, hS2, hr2⟩, -⟩ := h.of g2
        repeat (first | ((with_reducible apply WP.ce); case h => (simp (disch := omega) only []; with_reducible rfl)) | ((with_reducible apply WP.bd); case h => (simp (disch := omega) only [e_gR, e_gI, e_aI, e_aL, e_oO, e_pI, e_wI, e_wL, Option.map_some, mS_sL, mR_sL, mI_sL, mS_sI, mR_sI, mL_sI, n_cl, cob_37 hC2, cr_37_work hC2, cr_37_pilot hC2, cob_30 hC2]; with_reducible rfl)) | rw [nm_eq] | rw [ckZ_n1] | rw [ckZ_n0])
        have hok := tchS_ok (T := T) hs (set := set) (by omega)
        refine WP.cw (c_goOn1 hC2 hT2 hk QOk39 (ci_work hC2) b2.2 hok hr2 (n := n) (by omega) (by show sT S + n ≤ _; omega)) (fun _ M3 b3 => ?_)
        have g3 := g2.tr (b3.1.AG (by omega))
        obtain ⟨⟨hC3, hT3, hS3, hr3⟩, -⟩ := h.of g3
        have a3 := c_waiting (ci_told hC3) hT3 hk (ci_work hC3) b3.2 (tides_ok (T := T) (r := r) hok n (by show sT S + n ≤ _; omega))
        have hwl := wtm_lt hk (tides T r (tchS T S set) n)
        repeat (first | ((with_reducible apply WP.ce); case h => (simp (disch := omega) only [a3]; with_reducible rfl)) | ((with_reducible apply WP.bd); case h => (simp (disch := omega) only [e_gR, e_gI, e_aI, e_aL, e_oO, e_pI, e_wI, e_wL, Option.map_some, mS_sL, mR_sL, mI_sL, mS_sI, mR_sI, mL_sI, n_cl, cob_37 hC3, cr_37_told hC3, cr_37_work hC3, told_o (ci_told hC3)]; with_reducible rfl)) | rw [nm_eq] | rw [ckZ_n1] | rw [ckZ_n0])
        by_cases e3 : wtm T (tides T r (tchS T S set) n) = 0
        · refine WP.it (by rw [e3]; rfl) (WP.ret (F set M3 ?_ g3))
          refine fs_up _ hf ?_ _ (by omega)
          unfold scP scB wrk
          rw [decide_eq_true e1, decide_eq_true e2, decide_eq_true e3]; rfl
        · refine WP.ie (by rw [nIz (by omega)]; exact e3) (skip ?_ M3 g3)
          unfold scP wrk
          rw [decide_eq_false e3, Bool.and_false, Bool.and_false]
      · refine WP.ie (by rw [nIz hal]; exact e2) (skip ?_ M g)
        unfold scP scB
        rw [decide_eq_false e2, Bool.false_and, Bool.and_false]
    · refine WP.ie ?_ (skip ?_ M g)
      · show ¬ nI (btc set) = nI k
        rw [n_eq (by omega) (by omega)]; exact e1
      · unfold scP
        rw [decide_eq_false e1, Bool.false_and]
theorem c_schO {M0 : Mem} {T : TD} {S : SC} {r : Option RD} (h : CA M0 T S r) {n : Nat} (hn : n ≤ 60) {l : Int32} (hl : nI 255 &&& l = nI (cmA S (tN T))) :
    ∀ d k f (M : Mem), k + d = tJ T + 1 → AG M0 M →
    WP (f_X0_findLessons_L7 37 (f + d + 1) (nI n) l (nI k) M) (fun v M' => v = eP (scK T r S n d k) ∧ AG M0 M') := by
  intro d
  induction d with
  | zero =>
    intro k f M hkd g
    obtain ⟨⟨hC, hT, hS, hr⟩, hk, hs, h9⟩ := h.of g
    have h1 := hk.1.2.2.1
    rw [f_X0_findLessons_L7]
    repeat (first | ((with_reducible apply WP.ce); case h => (simp (disch := omega) only []; with_reducible rfl)) | ((with_reducible apply WP.bd); case h => (simp (disch := omega) only [e_gR, e_gI, e_aI, e_aL, e_oO, e_pI, e_wI, e_wL, Option.map_some, mS_sL, mR_sL, mI_sL, mS_sI, mR_sI, mL_sI, n_cl, cob_37 hC, cr_37_told hC, told_o (ci_told hC), hT.1.2.2.2.1]; with_reducible rfl)) | rw [nm_eq] | rw [ckZ_n1] | rw [ckZ_n0])
    exact WP.it (by rw [n_lt (by omega) (by omega)]; omega) (WP.ret ⟨rfl, g⟩)
  | succ d ih =>
    intro k f M hkd g
    obtain ⟨⟨hC, hT, hS, hr⟩, hk, hs, h9⟩ := h.of g
    have h1 := hk.1.2.2.1
    have h8 := pow8 h1
    rw [show f + (d + 1) + 1 = (f + d + 1) + 1 from by omega, f_X0_findLessons_L7]
    repeat (first | ((with_reducible apply WP.ce); case h => (simp (disch := omega) only []; with_reducible rfl)) | ((with_reducible apply WP.bd); case h => (simp (disch := omega) only [e_gR, e_gI, e_aI, e_aL, e_oO, e_pI, e_wI, e_wL, Option.map_some, mS_sL, mR_sL, mI_sL, mS_sI, mR_sI, mL_sI, n_cl, cob_37 hC, cr_37_told hC, told_o (ci_told hC), hT.1.2.2.2.1]; with_reducible rfl)) | rw [nm_eq] | rw [ckZ_n1] | rw [ckZ_n0])
    refine WP.ie (by rw [n_lt (by omega) (by omega)]; omega) ?_
    obtain ⟨f2, hf2⟩ := FUd (2 ^ tJ T) (by omega)
    rw [hf2]
    refine c_schI h hn (k := k) (by omega) hl (fun hf M' g' => ?_) (fun s M' hf g' => ⟨?_, g'⟩) (2 ^ tJ T) 0 f2 M (by omega) g rfl
    · rw [scK, hf]
      exact ih (k + 1) f M' (by omega) g'
    · rw [scK, hf]; rfl
theorem y_school {M : Mem} {T : TD} {S : SC} {c : Nat} {W : Nat → RD} {fo : Option Nat} (h : CE M T S c W fo) (n w : Int32) : WP (f_X9_school 0 n w M) (fun v M' => v = q_school T (fo.map W) S n w ∧ AF M M') := by
  have h0 := h
  obtain ⟨⟨hC, hT, hS, hw, hf⟩, hk, hs, h9, hfo⟩ := h
  have h1 := hk.1.2.2.1
  have h8 := pow8 h1
  unfold f_X9_school f_X9_school_J32 f_X9_school_J63
  repeat (first | ((with_reducible apply WP.ce); case h => (simp (disch := omega) only []; with_reducible rfl)) | ((with_reducible apply WP.bd); case h => (simp (disch := omega) only [e_gR, e_gI, e_aI, e_aL, e_oO, e_pI, e_wI, e_wL, Option.map_some, mS_sL, mR_sL, mI_sL, mS_sI, mR_sI, mL_sI, n_cl, cob_0 hC, cr_0_book hC, book_o (ci_book hC), book_r_told (ci_book hC), book_r_scene (ci_book hC), told_o (ci_told hC), scene_o (ci_scene hC), Nat.reduceAdd, c_there hT]; with_reducible rfl)) | rw [nm_eq] | rw [ckZ_n1] | rw [ckZ_n0])
  refine WP.gd (fun g1 => WP.ret ⟨by unfold q_school; rw [g1]; rfl, AF.rf M⟩) (fun g1 => ?_)
  repeat (first | ((with_reducible apply WP.ce); case h => (simp (disch := omega) only [c_isWithin]; with_reducible rfl)) | ((with_reducible apply WP.bd); case h => (simp (disch := omega) only [e_gR, e_gI, e_aI, e_aL, e_oO, e_pI, e_wI, e_wL, Option.map_some, mS_sL, mR_sL, mI_sL, mS_sI, mR_sI, mL_sI, n_cl, cob_0 hC]; with_reducible rfl)) | rw [nm_eq] | rw [ckZ_n1] | rw [ckZ_n0])
  refine WP.gd (fun g2 => WP.ret ⟨by unfold q_school; rw [g1, show inR n 1 60 = false from g2]; rfl, AF.rf M⟩) (fun g2 => ?_)
  repeat (first | ((with_reducible apply WP.ce); case h => (simp (disch := omega) only [c_isWithin]; with_reducible rfl)) | ((with_reducible apply WP.bd); case h => (simp (disch := omega) only [e_gR, e_gI, e_aI, e_aL, e_oO, e_pI, e_wI, e_wL, Option.map_some, mS_sL, mR_sL, mI_sL, mS_sI, mR_sI, mL_sI, n_cl, cob_0 hC]; with_reducible rfl)) | rw [nm_eq] | rw [ckZ_n1] | rw [ckZ_n0])
  refine WP.gd (fun g3 => WP.ret ⟨by unfold q_school; rw [g1, show inR n 1 60 = true from g2, show inR w 0 1 = false from g3]; rfl, AF.rf M⟩) (fun g3 => ?_)
  have g2' : inR n 1 60 = true := g2
  have g3' : inR w 0 1 = true := g3
  obtain ⟨k, rfl, k1, k2, k3⟩ := inR_t g2' (by decide)
  have q : q_school T (fo.map W) S (nI k) w = scA (scK T (fo.map W) S k (tJ T + 1) 0) w := by
    rw [sch_eq hk]
    unfold q_school
    rw [g1, g2', g3', n_cl k3]
    rfl
  rw [q]
  repeat (first | ((with_reducible apply WP.ce); case h => (simp (disch := omega) only []; with_reducible rfl)) | ((with_reducible apply WP.bd); case h => (simp (disch := omega) only [e_gR, e_gI, e_aI, e_aL, e_oO, e_pI, e_wI, e_wL, Option.map_some, mS_sL, mR_sL, mI_sL, mS_sI, mR_sI, mL_sI, n_cl, cob_0 hC]; with_reducible rfl)) | rw [nm_eq] | rw [ckZ_n1] | rw [ckZ_n0])
  refine WP.cw (c_asking h0) (fun v M1 c1 => ?_)
  obtain ⟨rfl, a1, a2⟩ := c1
  have hC1 := a2.1.1
  repeat (first | ((with_reducible apply WP.ce); case h => (simp (disch := omega) only []; with_reducible rfl)) | ((with_reducible apply WP.bd); case h => (simp (disch := omega) only [e_gR, e_gI, e_aI, e_aL, e_oO, e_pI, e_wI, e_wL, Option.map_some, mS_sL, mR_sL, mI_sL, mS_sI, mR_sI, mL_sI, n_cl, cob_37 hC1]; with_reducible rfl)) | rw [nm_eq] | rw [ckZ_n1] | rw [ckZ_n0])
  have fl : WP (f_X0_findLessons 37 (nI k) M1) (fun v M' => v = eP (scK T (fo.map W) S k (tJ T + 1) 0) ∧ AG M1 M') := by
    unfold f_X0_findLessons
    obtain ⟨f3, hf3⟩ := FUd (tN T) (by have := hk.1.2.2.2; omega)
    have l1 : WP (f_X0_commonJokes 37 M1) (fun l' M' => M' = M1 ∧ nI 255 &&& l' = nI (cmA S (tN T))) := by
      rw [f_X0_commonJokes, hf3]
      exact c_commonL a2 (tN T) 0 f3 (-1) (by omega) (by rw [Int32.and_comm, m1_and]; rfl)
    repeat (first | ((with_reducible apply WP.ce); case h => (simp (disch := omega) only []; with_reducible rfl)) | ((with_reducible apply WP.bd); case h => (simp (disch := omega) only [e_gR, e_gI, e_aI, e_aL, e_oO, e_pI, e_wI, e_wL, Option.map_some, mS_sL, mR_sL, mI_sL, mS_sI, mR_sI, mL_sI, n_cl, cob_37 hC1]; with_reducible rfl)) | rw [nm_eq] | rw [ckZ_n1] | rw [ckZ_n0])
    refine WP.cw l1 (fun l M9 c9 => ?_)
    have l2 := c9.2
    rw [c9.1]
    obtain ⟨f4, hf4⟩ := FUd (tJ T + 1) (by omega)
    rw [hf4]
    exact c_schO a2 (n := k) (by omega) l2 (tJ T + 1) 0 f4 M1 (by omega) (AG.rf M1)
  refine WP.cw fl (fun v M2 c2 => ?_)
  obtain ⟨rfl, b1⟩ := c2
  have fr := a1.tr b1.1
  cases hs2 : scK T (fo.map W) S k (tJ T + 1) 0 with
  | none => exact WP.it (show (-1 : Int32) = -1 from rfl) (WP.ret ⟨rfl, fr⟩)
  | some x =>
    have hx : x < 256 := by
      have b := scK_b (r := fo.map W) (S := S) (n := k) hk (tJ T + 1) 0 (fun t _ hb => absurd hb (Nat.not_lt_zero _))
      rw [hs2] at b
      have b : Bst (wrk T (fo.map W) S k) (2 ^ tJ T) x := b
      have := b.1
      omega
    have e0 : eP (some x) = nI x := rfl
    rw [e0]
    refine WP.ie (by rw [nI_m1 (by omega)]; exact fun h => h) ?_
    unfold scA
    by_cases w0 : w = 0
    · refine WP.it w0 ?_
      refine WP.ce (c_bits (x := x) (by omega) M2) (WP.ret ⟨?_, fr⟩)
      show _ = if w = nI 1 then nI x else nI (btc x)
      rw [if_neg (by rw [w0]; decide)]; rfl
    · refine WP.ie w0 (WP.ret ⟨?_, fr⟩)
      show _ = if w = nI 1 then nI x else nI (btc x)
      have w1 : w = nI 1 := by
        obtain ⟨j, rfl, j1, j2, j3⟩ := inR_t g3' (by decide)
        have : j = 0 ∨ j = 1 := by omega
        rcases this with z | z
        · subst z; exact absurd rfl w0
        · subst z; rfl
      rw [if_pos w1]
