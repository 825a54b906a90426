/-! THE CLASS: a row is sought -/
section ROWG
variable {T : TD} {r : Option RD} {s : Nat}
/-- how a search ends -/
def RFe (T : TD) (r : Option RD) (s d p : Nat) (S : SC) (M : Mem) (v : Int32) (M' : Mem) : Prop := v = bI (dfs T r s d S).isSome ∧ LFr p M M' ∧ ∀ l, dfs T r s d S = some l → ∀ i, i ≤ d → mI M' 38 (p + i) = eP (l.getD i none)
theorem c_rowHead {M : Mem} {S : SC} {p : Nat} (hk : TOk T) (hp : p < 5) (hs : s < tN T) (hC : CIs (mS M) (mR M)) (hT : CT M 15 T) (hr : CRu M r) (hS : CC M (46 + 4 * p) T S) (hs0 : SOk S) {K : Int32 → Mem → Option (Int32 × Mem)} {Q : Int32 → Mem → Prop}
    (k : ∀ v M2, LFr p M M2 → CC M2 (46 + 4 * p) T (trns T r none S s) → PM M2 (46 + 4 * p) T (trns T r none S s) → WP (K v M2) Q) :
    WP (cl (f_X3_meet 30 (some (46 + 4 * p)) M) fun _ M => (gR M 0 6 (some 37)).bind fun pilot5 => (oO M 3 pilot5).bind fun o11 => cl (f_X3_turns o11 (nI 0) (nI s) M) K) Q := by
  have h5 := hk.1.2.2.2
  have hq : QOk (46 + 4 * p) := Or.inr ⟨by omega, by omega⟩
  refine WP.cw (c_meet hC hT hk hq (ci_lev hC hp) hS hs0) (fun _ M1 c => ?_)
  obtain ⟨c1, c2, c3⟩ := c
  have hC1 := c1.CI hC
  repeat (first | ((with_reducible apply WP.ce); case h => (simp (disch := omega) only []; with_reducible rfl)) | ((with_reducible apply WP.bd); case h => (simp (disch := omega) only [e_gR, e_gI, e_aI, e_aL, e_oO, e_pI, e_wI, e_wL, Option.map_some, mS_sL, mR_sL, mI_sL, mS_sI, mR_sI, mL_sI, n_cl, cob_37 hC1, cr_37_pilot hC1, cob_30 hC1]; with_reducible rfl)) | rw [nm_eq] | rw [ckZ_n1] | rw [ckZ_n0])
  refine WP.cw (c_turns hk hq (Sc := fun i => trns T r none S i) (fun i => trns_ok hs0 i) (i := 0) (stop := s) (Nat.zero_le _) (by omega) (fun _ _ _ => rfl) hC1 (c1.T hT) (ci_lev hC1 hp) (c1.C hq hS) c2 ((c1.PF 46).ru (Or.inr ⟨by omega, by omega⟩) hr) c3) (fun v M2 d => ?_)
  obtain ⟨-, d1, d2, d3, -⟩ := d
  exact k v M2 (c1.L.tr (d1.L ⟨by omega, by omega⟩)) d2 d3
theorem c_rowEnd {M : Mem} {S U : SC} {p : Nat} {g : Nat → Int32 → Int32 → Int32 → Mem → Option (Int32 × Mem)} (hU : U = trns T r none S s) (hk : TOk T) (hp : p < 4) (hs : s < tN T) {M2 : Mem} (f : LFr p M M2) (hC : CIs (mS M2) (mR M2)) (hT : CT M2 15 T) (hS : CC M2 (46 + 4 * p) T U) (hs0 : SOk U) (hM : PM M2 (46 + 4 * p) T U) : WP (f_X0_rowFound_J43 g 37 (nI s) (nI p) M2) (RFe T r s 0 p S M) := by
  have h8 := hk.1.2.2.1
  have hq : QOk (46 + 4 * p) := Or.inr ⟨by omega, by omega⟩
  have a1 := c_leastNew hC hT hk hq (ci_lev hC (by omega)) hS hs0 hM hs
  have ed : dfs T r s 0 S = (lnw T U s).map (fun j => [some j]) := by rw [hU]; rfl
  unfold f_X0_rowFound_J43 f_X0_rowFound_J72
  repeat (first | ((with_reducible apply WP.ce); case h => (simp (disch := omega) only [a1]; with_reducible rfl)) | ((with_reducible apply WP.bd); case h => (simp (disch := omega) only [e_gR, e_gI, e_aI, e_aL, e_oO, e_pI, e_wI, e_wL, Option.map_some, mS_sL, mR_sL, mI_sL, mS_sI, mR_sI, mL_sI, n_cl, cob_37 hC, cr_choice hC, cr_37_pilot hC, cob_30 hC]; with_reducible rfl)) | rw [nm_eq] | rw [ckZ_n1] | rw [ckZ_n0])
  obtain ⟨M3, hM3⟩ : ∃ M3, M3 = sI M2 38 p (eP (lnw T U s)) := ⟨_, rfl⟩
  have hC3 : CIs (mS M3) (mR M3) := by rw [hM3]; exact hC
  have g3 : mI M3 38 p = eP (lnw T U s) := by rw [hM3, mI_sI, if_pos ⟨rfl, rfl⟩]
  have f3 : LFr p M M3 := f.tr (by rw [hM3]; exact LFr.w M2 _ (Nat.le_refl p))
  repeat (first | ((with_reducible apply WP.ce); case h => (simp (disch := omega) only []; with_reducible rfl)) | ((with_reducible apply WP.bd); case h => (simp (disch := omega) only [e_gR, e_gI, e_aI, e_aL, e_oO, e_pI, e_wI, e_wL, Option.map_some, mS_sL, mR_sL, mI_sL, mS_sI, mR_sI, mL_sI, n_cl, cx_choice hC, ← hM3]; with_reducible rfl)) | rw [nm_eq] | rw [ckZ_n1] | rw [ckZ_n0])
  repeat (first | ((with_reducible apply WP.ce); case h => (simp (disch := omega) only []; with_reducible rfl)) | ((with_reducible apply WP.bd); case h => (simp (disch := omega) only [e_gR, e_gI, e_aI, e_aL, e_oO, e_pI, e_wI, e_wL, Option.map_some, mS_sL, mR_sL, mI_sL, mS_sI, mR_sI, mL_sI, n_cl, cob_37 hC3, cr_choice hC3, cx_choice hC3, g3]; with_reducible rfl)) | rw [nm_eq] | rw [ckZ_n1] | rw [ckZ_n0])
  cases e : lnw T U s with
  | none =>
    refine WP.it rfl ?_
    rw [e] at ed
    exact WP.ret ⟨by rw [ed]; rfl, f3, fun l hl => by rw [ed] at hl; cases hl⟩
  | some j =>
    have hj : j < tJ T := by unfold lnw at e; exact (fs_some e).1
    rw [e] at ed g3
    refine WP.ie (nm1 (a := j) (by omega)) ?_
    refine WP.ret ⟨by rw [ed]; rfl, f3, fun l hl i hi => ?_⟩
    rw [ed] at hl
    cases hl
    have : i = 0 := by omega
    subst this
    exact g3
end ROWG
