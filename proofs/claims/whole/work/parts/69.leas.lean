/-! BOTH: least, parts -/
theorem bnd_t {β γ : Type} {o : Option β} {f : β → Option γ} {x : β} {y : Option γ} (h : o = some x) (k : f x = y) : o.bind f = y := by rw [h]; exact k
theorem clt_t {β γ : Type} {o : Option (β × Mem)} {K : β → Mem → Option γ} {r : β} {M1 : Mem} {y : Option γ} (h : o = some (r, M1)) (k : K r M1 = y) : cl o K = y := by rw [h]; exact k
def unl (T : TD) (a b c : Nat) : Bool := (fs (fun j => decide (tK T ≤ cal T j a b c)) (tJ T)).isNone
theorem cal_le (T : TD) (j a b c : Nat) : cal T j a b c ≤ 3 := by
  have h1 := b2_le (decide (tP T (3 * j) = a))
  have h2 := b2_le (decide (tP T (3 * j + 1) = b))
  have h3 := b2_le (decide (tP T (3 * j + 2) = c))
  unfold cal
  omega
theorem x_likeNL {M : Mem} {m : Nat} {T : TD} (hR : RIs (mS M) (mR M) m) (hT : RT M m T) (hk : TOk T) {a b c : Nat} (ha : a < 2 ^ 31) (hb : b < 2 ^ 31) (hc : c < 2 ^ 31) : ∀ d j n, j + d = tJ T → fs (fun j => decide (tK T ≤ cal T j a b c)) j = none → f_X10_isLikeNone_L3 m (n + d + 1) (nI a) (nI b) (nI c) (nI j) M = some (bI (unl T a b c), M) := by
  have h1 := hk.1.2.2.1
  have h3 := hk.1.2.1
  have p := hT.2.1
  have q := hk.2.2.2.1
  intro d
  induction d with
  | zero =>
    intro j n hj hf
    rw [f_X10_isLikeNone_L3]
    repeat (first | ((with_reducible apply clt_t); case h => (simp (disch := omega) only [hk]; with_reducible rfl)) | ((with_reducible apply bnd_t); case h => (simp (disch := omega) only [e_gR, e_gI, e_aI, e_aL, e_oO, e_pI, e_wI, e_wL, Option.map_some, mS_sL, mR_sL, mI_sL, mS_sI, mR_sI, mL_sI, n_cl, ro_m hR, rr_scalar hR, rx_scalar hR, hT.1.2.2.1]; with_reducible rfl)) | rw [nm_eq])
    rw [if_pos (by rw [n_le (by omega) (by omega)]; omega), ckZ_n1]
    unfold unl
    rw [show tJ T = j by omega, hf]
    rfl
  | succ d ih =>
    intro j n hj hf
    have e0 : (nI (tP T (3 * j)) = nI a) = (tP T (3 * j) = a) := n_eq (by have := q (3 * j); omega) ha
    have e1 : (nI (tP T (3 * j + 1)) = nI b) = (tP T (3 * j + 1) = b) := n_eq (by have := q (3 * j + 1); omega) hb
    have e2 : (nI (tP T (3 * j + 2)) = nI c) = (tP T (3 * j + 2) = c) := n_eq (by have := q (3 * j + 2); omega) hc
    have hcl := cal_le T j a b c
    rw [show n + (d + 1) + 1 = (n + d + 1) + 1 from by omega, f_X10_isLikeNone_L3]
    repeat (first | ((with_reducible apply clt_t); case h => (simp (disch := omega) only [hk]; with_reducible rfl)) | ((with_reducible apply bnd_t); case h => (simp (disch := omega) only [e_gR, e_gI, e_aI, e_aL, e_oO, e_pI, e_wI, e_wL, Option.map_some, mS_sL, mR_sL, mI_sL, mS_sI, mR_sI, mL_sI, n_cl, ro_m hR, rr_scalar hR, rx_scalar hR, hT.1.2.2.1]; with_reducible rfl)) | rw [nm_eq])
    rw [if_neg (by rw [n_le (by omega) (by omega)]; omega)]
    repeat (first | ((with_reducible apply clt_t); case h => (simp (disch := omega) only [hk]; with_reducible rfl)) | ((with_reducible apply bnd_t); case h => (simp (disch := omega) only [e_gR, e_gI, e_aI, e_aL, e_oO, e_pI, e_wI, e_wL, Option.map_some, mS_sL, mR_sL, mI_sL, mS_sI, mR_sI, mL_sI, n_cl, ro_m hR, rr_parts hR, n_mul, n_add, rx_parts hR, p]; with_reducible rfl)) | rw [nm_eq])
    simp only [e0]
    rw [ite_b2 (tP T (3 * j) = a) (fun x => f_X10_isLikeNone_J32 (f_X10_isLikeNone_L3 m (n + d + 1)) m (nI a) (nI b) (nI c) (nI j) x M)]
    unfold f_X10_isLikeNone_J32
    repeat (first | ((with_reducible apply clt_t); case h => (simp (disch := omega) only [hk]; with_reducible rfl)) | ((with_reducible apply bnd_t); case h => (simp (disch := omega) only [e_gR, e_gI, e_aI, e_aL, e_oO, e_pI, e_wI, e_wL, Option.map_some, mS_sL, mR_sL, mI_sL, mS_sI, mR_sI, mL_sI, n_cl, ro_m hR, rr_parts hR, n_mul, n_add, rx_parts hR, p]; with_reducible rfl)) | rw [nm_eq])
    simp only [e1]
    rw [ite_b2 (tP T (3 * j + 1) = b) (fun x => f_X10_isLikeNone_J52 (f_X10_isLikeNone_L3 m (n + d + 1)) m (nI a) (nI b) (nI c) (nI j) x (nI (b2 (decide (tP T (3 * j) = a)))) M)]
    unfold f_X10_isLikeNone_J52
    repeat (first | ((with_reducible apply clt_t); case h => (simp (disch := omega) only [hk]; with_reducible rfl)) | ((with_reducible apply bnd_t); case h => (simp (disch := omega) only [e_gR, e_gI, e_aI, e_aL, e_oO, e_pI, e_wI, e_wL, Option.map_some, mS_sL, mR_sL, mI_sL, mS_sI, mR_sI, mL_sI, n_cl, ro_m hR, rr_parts hR, n_mul, n_add, rx_parts hR, p]; with_reducible rfl)) | rw [nm_eq])
    simp only [e2]
    rw [ite_b2 (tP T (3 * j + 2) = c) (fun x => f_X10_isLikeNone_J73 (f_X10_isLikeNone_L3 m (n + d + 1)) m (nI a) (nI b) (nI c) (nI j) x (nI (b2 (decide (tP T (3 * j) = a))) + nI (b2 (decide (tP T (3 * j + 1) = b)))) M)]
    unfold f_X10_isLikeNone_J73
    rw [n_add, n_add]
    rw [show nI (b2 (decide (tP T (3 * j) = a)) + b2 (decide (tP T (3 * j + 1) = b)) + b2 (decide (tP T (3 * j + 2) = c))) = nI (cal T j a b c) from rfl]
    repeat (first | ((with_reducible apply clt_t); case h => (simp (disch := omega) only [hk]; with_reducible rfl)) | ((with_reducible apply bnd_t); case h => (simp (disch := omega) only [e_gR, e_gI, e_aI, e_aL, e_oO, e_pI, e_wI, e_wL, Option.map_some, mS_sL, mR_sL, mI_sL, mS_sI, mR_sI, mL_sI, n_cl, ro_m hR, rr_scalar hR, rx_scalar hR, hT.1.2.1]; with_reducible rfl)) | rw [nm_eq])
    rw [n_add, ckZ_n0]
    by_cases h : cal T j a b c < tK T
    · rw [if_pos (by rw [n_lt (by omega) (by omega)]; exact h)]
      exact ih (j + 1) n (by omega) (fs_no _ hf (decide_eq_false (by omega)))
    · rw [if_neg (by rw [n_lt (by omega) (by omega)]; exact h)]
      unfold unl
      rw [fs_up _ hf (decide_eq_true (by omega)) (tJ T) (by omega)]
      rfl
theorem c_unlikeL {M : Mem} {t : Nat} {T : TD} (hI : ITold (mS M) (mR M) t) (hT : CT M t T) (hk : TOk T) {a b c : Nat} (ha : a < 2 ^ 31) (hb : b < 2 ^ 31) (hc : c < 2 ^ 31) : ∀ d j n, j + d = tJ T → fs (fun j => decide (tK T ≤ cal T j a b c)) j = none → f_X8_isUnlikeAll_L3 t (n + d + 1) (nI a) (nI b) (nI c) (nI j) M = some (bI (unl T a b c), M) := by
  have h1 := hk.1.2.2.1
  have h3 := hk.1.2.1
  intro d
  induction d with
  | zero =>
    intro j n hj hf
    rw [f_X8_isUnlikeAll_L3]
    repeat (first | ((with_reducible apply clt_t); case h => (simp (disch := omega) only [hk]; with_reducible rfl)) | ((with_reducible apply bnd_t); case h => (simp (disch := omega) only [e_gR, e_gI, e_aI, e_aL, e_oO, e_pI, e_wI, e_wL, Option.map_some, mS_sL, mR_sL, mI_sL, mS_sI, mR_sI, mL_sI, n_cl, told_o hI, hT.1.2.2.2.1]; with_reducible rfl)) | rw [nm_eq])
    rw [if_pos (by rw [n_le (by omega) (by omega)]; omega), ckZ_n1]
    unfold unl
    rw [show tJ T = j by omega, hf]
    rfl
  | succ d ih =>
    intro j n hj hf
    have a1 := c_countAlike hI hT hk (j := j) (by omega) ha hb hc
    have hcl := cal_le T j a b c
    rw [show n + (d + 1) + 1 = (n + d + 1) + 1 from by omega, f_X8_isUnlikeAll_L3]
    repeat (first | ((with_reducible apply clt_t); case h => (simp (disch := omega) only [hk]; with_reducible rfl)) | ((with_reducible apply bnd_t); case h => (simp (disch := omega) only [e_gR, e_gI, e_aI, e_aL, e_oO, e_pI, e_wI, e_wL, Option.map_some, mS_sL, mR_sL, mI_sL, mS_sI, mR_sI, mL_sI, n_cl, told_o hI, hT.1.2.2.2.1]; with_reducible rfl)) | rw [nm_eq])
    rw [if_neg (by rw [n_le (by omega) (by omega)]; omega)]
    repeat (first | ((with_reducible apply clt_t); case h => (simp (disch := omega) only [a1]; with_reducible rfl)) | ((with_reducible apply bnd_t); case h => (simp (disch := omega) only [e_gR, e_gI, e_aI, e_aL, e_oO, e_pI, e_wI, e_wL, Option.map_some, mS_sL, mR_sL, mI_sL, mS_sI, mR_sI, mL_sI, n_cl, told_o hI, hT.1.2.2.1]; with_reducible rfl)) | rw [nm_eq])
    rw [n_add, ckZ_n0]
    by_cases h : cal T j a b c < tK T
    · rw [if_pos (by rw [n_lt (by omega) (by omega)]; exact h)]
      exact ih (j + 1) n (by omega) (fs_no _ hf (decide_eq_false (by omega)))
    · rw [if_neg (by rw [n_lt (by omega) (by omega)]; exact h)]
      unfold unl
      rw [fs_up _ hf (decide_eq_true (by omega)) (tJ T) (by omega)]
      rfl
def unk (T : TD) (k : Nat) : Bool := unl T (k / 100) (k / 10 % 10) (k % 10)
def q_least (T : TD) : Int32 := if isB T then (fs (unk T) 1000).elim (-2) nI else -1
theorem x_leastL {M : Mem} {m : Nat} {T : TD} (hR : RIs (mS M) (mR M) m) (hT : RT M m T) (hk : TOk T) : ∀ d k n, k + d = 1000 → fs (unk T) k = none → f_X10_least_L11 m (n + d + 1) (nI k) M = some ((fs (unk T) 1000).elim (-2) nI, M) := by
  have h1 := hk.1.2.2.1
  intro d
  induction d with
  | zero =>
    intro k n hkd hf
    have hkd : k = 1000 := by omega
    subst hkd
    rw [f_X10_least_L11, if_pos (by rw [n_le (by omega) (by omega)]; omega), hf]
    rfl
  | succ d ih =>
    intro k n hkd hf
    obtain ⟨f, hf2⟩ := FUd (tJ T) (by omega)
    have a1 : f_X10_isLikeNone m (nI (k / 100)) (nI (k / 10 % 10)) (nI (k % 10)) M = some (bI (unk T k), M) := by
      rw [f_X10_isLikeNone, hf2]
      exact x_likeNL hR hT hk (by omega) (by omega) (by omega) (tJ T) 0 f (by omega) rfl
    rw [show n + (d + 1) + 1 = (n + d + 1) + 1 from by omega, f_X10_least_L11, if_neg (by rw [n_le (by omega) (by omega)]; omega), if_neg (by decide), if_neg (by decide), if_neg (by decide), if_neg (by decide)]
    rw [pk_div (by omega) (by omega) (by omega), pk_div (by omega) (by omega) (by omega), pk_rem (by omega) (by omega) (by omega)]
    have e3 : nI k - nI (k / 10) * nI 10 = nI (k % 10) := by rw [← pk_div (by omega) (by omega) (by omega), pk_rem (by omega) (by omega) (by omega)]
    rw [e3]
    repeat (first | ((with_reducible apply clt_t); case h => (simp (disch := omega) only [a1]; with_reducible rfl)) | ((with_reducible apply bnd_t); case h => (simp (disch := omega) only [e_gR, e_gI, e_aI, e_aL, e_oO, e_pI, e_wI, e_wL, Option.map_some, mS_sL, mR_sL, mI_sL, mS_sI, mR_sI, mL_sI, n_cl, ro_m hR]; with_reducible rfl)) | rw [nm_eq])
    rw [n_add]
    cases hu : unk T k with
    | false =>
      rw [if_pos (show bI false = 0 from rfl)]
      exact ih (k + 1) n (by omega) (fs_no _ hf hu)
    | true =>
      rw [if_neg (show ¬ bI true = 0 by decide), fs_up _ hf hu 1000 (by omega)]
      rfl
theorem x_least {M : Mem} {m : Nat} {T : TD} (hR : RIs (mS M) (mR M) m) (hT : RT M m T) (hk : TOk T) : f_X10_least m M = some (q_least T, M) := by
  have a1 := r_isBar hR hT hk
  unfold f_X10_least q_least
  repeat (first | ((with_reducible apply clt_t); case h => (simp (disch := omega) only [a1]; with_reducible rfl)) | ((with_reducible apply bnd_t); case h => (simp (disch := omega) only [e_gR, e_gI, e_aI, e_aL, e_oO, e_pI, e_wI, e_wL, Option.map_some, mS_sL, mR_sL, mI_sL, mS_sI, mR_sI, mL_sI, n_cl, ro_m hR]; with_reducible rfl)) | rw [nm_eq])
  cases isB T with
  | false => rw [if_pos (show bI false = 0 from rfl)]; rfl
  | true =>
    rw [if_neg (show ¬ bI true = 0 by decide)]
    obtain ⟨n, hn⟩ := FUd 1000 (by omega)
    rw [hn]
    exact x_leastL hR hT hk 1000 0 n (by omega) rfl
theorem c_leastUL {M : Mem} {t : Nat} {T : TD} (hI : ITold (mS M) (mR M) t) (hT : CT M t T) (hk : TOk T) : ∀ d k n, k + d = 1000 → fs (unk T) k = none → f_X8_leastUnlike_L2 t (n + d + 1) (nI k) M = some ((fs (unk T) 1000).elim (-2) nI, M) := by
  have h1 := hk.1.2.2.1
  intro d
  induction d with
  | zero =>
    intro k n hkd hf
    have hkd : k = 1000 := by omega
    subst hkd
    rw [f_X8_leastUnlike_L2, if_pos (by rw [n_le (by omega) (by omega)]; omega), hf]
    rfl
  | succ d ih =>
    intro k n hkd hf
    obtain ⟨f, hf2⟩ := FUd (tJ T) (by omega)
    have a1 : f_X8_isUnlikeAll t (nI (k / 100)) (nI (k / 10 % 10)) (nI (k % 10)) M = some (bI (unk T k), M) := by
      rw [f_X8_isUnlikeAll, hf2]
      exact c_unlikeL hI hT hk (by omega) (by omega) (by omega) (tJ T) 0 f (by omega) rfl
    rw [show n + (d + 1) + 1 = (n + d + 1) + 1 from by omega, f_X8_leastUnlike_L2, if_neg (by rw [n_le (by omega) (by omega)]; omega), if_neg (by decide), if_neg (by decide), if_neg (by decide), if_neg (by decide)]
    rw [pk_div (by omega) (by omega) (by omega), pk_div (by omega) (by omega) (by omega), pk_rem (by omega) (by omega) (by omega)]
    have e3 : nI k - nI (k / 10) * nI 10 = nI (k % 10) := by rw [← pk_div (by omega) (by omega) (by omega), pk_rem (by omega) (by omega) (by omega)]
    rw [e3]
    repeat (first | ((with_reducible apply clt_t); case h => (simp (disch := omega) only [a1]; with_reducible rfl)) | ((with_reducible apply bnd_t); case h => (simp (disch := omega) only [e_gR, e_gI, e_aI, e_aL, e_oO, e_pI, e_wI, e_wL, Option.map_some, mS_sL, mR_sL, mI_sL, mS_sI, mR_sI, mL_sI, n_cl, told_o hI]; with_reducible rfl)) | rw [nm_eq])
    rw [n_add]
    cases hu : unk T k with
    | false =>
      rw [if_pos (show bI false = 0 from rfl)]
      exact ih (k + 1) n (by omega) (fs_no _ hf hu)
    | true =>
      rw [if_neg (show ¬ bI true = 0 by decide), fs_up _ hf hu 1000 (by omega)]
      rfl
theorem y_least {M : Mem} {T : TD} {S : SC} (hC : CIs (mS M) (mR M)) (hT : CT M 15 T) (hk : TOk T) (hS : CC M 21 T S) (hs : SOk S) : f_X9_least 0 M = some (q_least T, M) := by
  have a1 : f_X8_leastUnlike 15 M = some ((fs (unk T) 1000).elim (-2) nI, M) := by
    obtain ⟨n, hn⟩ := FUd 1000 (by omega)
    rw [f_X8_leastUnlike, hn]
    exact c_leastUL (ci_told hC) hT hk 1000 0 n (by omega) rfl
  unfold f_X9_least q_least
  repeat (first | ((with_reducible apply clt_t); case h => (simp (disch := omega) only [hk]; with_reducible rfl)) | ((with_reducible apply bnd_t); case h => (simp (disch := omega) only [e_gR, e_gI, e_aI, e_aL, e_oO, e_pI, e_wI, e_wL, Option.map_some, mS_sL, mR_sL, mI_sL, mS_sI, mR_sI, mL_sI, n_cl, cob_0 hC, cr_0_book hC, book_o (ci_book hC), book_r_told (ci_book hC), book_r_scene (ci_book hC), told_o (ci_told hC), scene_o (ci_scene hC), Nat.reduceAdd, c_there hT]; with_reducible rfl)) | rw [nm_eq])
  cases isB T with
  | false => rw [if_pos (show bI false = 0 from rfl)]; rfl
  | true =>
    rw [if_neg (show ¬ bI true = 0 by decide)]
    repeat (first | ((with_reducible apply clt_t); case h => (simp (disch := omega) only [a1]; with_reducible rfl)) | ((with_reducible apply bnd_t); case h => (simp (disch := omega) only [e_gR, e_gI, e_aI, e_aL, e_oO, e_pI, e_wI, e_wL, Option.map_some, mS_sL, mR_sL, mI_sL, mS_sI, mR_sI, mL_sI, n_cl, cob_0 hC, cr_0_book hC, book_o (ci_book hC), book_r_told (ci_book hC), book_r_scene (ci_book hC), told_o (ci_told hC), scene_o (ci_scene hC), Nat.reduceAdd]; with_reducible rfl)) | rw [nm_eq])
    rfl
/-! parts -/
def wgt (T : TD) (S : SC) (s : Nat) : Nat := if wts S s then 0 else tC T s
def wgA (T : TD) (S : SC) : Nat := smn (wgt T S) (tN T)
def lft (T : TD) (S : SC) (p : Nat) : Nat → Int32
  | 0 => nI p
  | n + 1 => lft T S p n - nI (p * wgt T S n / wgA T S)
def ahd (T : TD) (S : SC) (p s k : Nat) : Bool := decide (p * wgt T S s % wgA T S < p * wgt T S k % wgA T S) || (decide (p * wgt T S k % wgA T S = p * wgt T S s % wgA T S) && decide (k < s))
def prt (T : TD) (S : SC) (p s : Nat) : Int32 := if wgA T S = 0 then nI 0 else nI (p * wgt T S s / wgA T S) + (if lft T S p (tN T) ≤ nI (ctb (ahd T S p s) (tN T)) then nI 0 else nI 1)
def q_parts (T : TD) (S : SC) (x y : Int32) : Int32 := if ixB y (tN T) && inR x 0 9999 then prt T S x.toNatClampNeg y.toNatClampNeg else -1
theorem wgt_le {T : TD} (hk : TOk T) (S : SC) (s : Nat) : wgt T S s ≤ 99 := by
  have := (hk.2.2.2.2 s).1
  unfold wgt
  split <;> omega
theorem wgA_le {T : TD} (hk : TOk T) (S : SC) : wgA T S ≤ 500 := by
  have h : smn (wgt T S) (tN T) ≤ tN T * 99 := smn_le (fun s _ => wgt_le hk S s)
  have := hk.1.2.2.2
  unfold wgA
  have h2 : tN T * 99 ≤ 5 * 99 := Nat.mul_le_mul_right 99 this
  omega
theorem r_shareOf {M : Mem} {m : Nat} {T : TD} {S : SC} (hR : RIs (mS M) (mR M) m) (hT : RT M m T) (hk : TOk T) (hS : RS M m T S) (hs : SOk S) {s : Nat} (h : s < tN T) : f_X10_shareOf m (nI s) M = some (nI (wgt T S s), M) := by
  have h2 := hk.1.2.2.2
  have hp := (hS.2.2 s h).2
  have hc := (hT.2.2 s h).1
  have hb := sP_lt hs s
  unfold f_X10_shareOf f_X10_shareOf_J20
  repeat (first | ((with_reducible apply clt_t); case h => (simp (disch := omega) only [hk]; with_reducible rfl)) | ((with_reducible apply bnd_t); case h => (simp (disch := omega) only [e_gR, e_gI, e_aI, e_aL, e_oO, e_pI, e_wI, e_wL, Option.map_some, mS_sL, mR_sL, mI_sL, mS_sI, mR_sI, mL_sI, n_cl, ro_m hR, rr_passed hR, rx_passed hR, hp]; with_reducible rfl)) | rw [nm_eq])
  simp only [eP_none hb]
  unfold wgt
  show (if wts S s = true then _ else _) = _
  cases wts S s with
  | true => rfl
  | false =>
    rw [if_neg (by decide)]
    repeat (first | ((with_reducible apply clt_t); case h => (simp (disch := omega) only [hk]; with_reducible rfl)) | ((with_reducible apply bnd_t); case h => (simp (disch := omega) only [e_gR, e_gI, e_aI, e_aL, e_oO, e_pI, e_wI, e_wL, Option.map_some, mS_sL, mR_sL, mI_sL, mS_sI, mR_sI, mL_sI, n_cl, ro_m hR, rr_cargo hR, rx_cargo hR, hc]; with_reducible rfl)) | rw [nm_eq])
    rfl
theorem c_weight {M : Mem} {t : Nat} {T : TD} (hI : ITold (mS M) (mR M) t) (hT : CT M t T) (hk : TOk T) {q : Nat} {S : SC} (hJ : IScene (mS M) (mR M) q) (hS : CC M q T S) (hs : SOk S) {s : Nat} (h : s < tN T) : f_X8_weight t (nI s) (some q) M = some (nI (wgt T S s), M) := by
  have h2 := hk.1.2.2.2
  have hp := (hS.2.2 s h).2
  have hc := (hT.2.2.1 s h).1
  have hb := sP_lt hs s
  unfold f_X8_weight f_X8_weight_J20
  repeat (first | ((with_reducible apply clt_t); case h => (simp (disch := omega) only [hk]; with_reducible rfl)) | ((with_reducible apply bnd_t); case h => (simp (disch := omega) only [e_gR, e_gI, e_aI, e_aL, e_oO, e_pI, e_wI, e_wL, Option.map_some, mS_sL, mR_sL, mI_sL, mS_sI, mR_sI, mL_sI, n_cl, scene_o hJ, scene_r_passed hJ, scene_x_passed hJ, hp]; with_reducible rfl)) | rw [nm_eq])
  simp only [eP_none hb]
  unfold wgt
  show (if wts S s = true then _ else _) = _
  cases wts S s with
  | true => rfl
  | false =>
    rw [if_neg (by decide)]
    repeat (first | ((with_reducible apply clt_t); case h => (simp (disch := omega) only [hk]; with_reducible rfl)) | ((with_reducible apply bnd_t); case h => (simp (disch := omega) only [e_gR, e_gI, e_aI, e_aL, e_oO, e_pI, e_wI, e_wL, Option.map_some, mS_sL, mR_sL, mI_sL, mS_sI, mR_sI, mL_sI, n_cl, told_o hI, told_r_cargo hI, told_x_cargo hI, hc]; with_reducible rfl)) | rw [nm_eq])
    rfl
theorem mul_le4 {p w : Nat} (hp : p ≤ 9999) (hw : w ≤ 99) : p * w ≤ 989901 := Nat.mul_le_mul hp hw
theorem pos_sub {a b : Nat} (ha : a < 2 ^ 30) (hb : b < 2 ^ 30) : (0 < nI a - nI b) = (b < a) := by
  have h0 : (0 : Int32).toInt = 0 := by decide
  rw [eq_iff_iff, fa_lt, pk_sub_toInt ha hb, h0]
  omega
theorem zer_sub {a b : Nat} (ha : a < 2 ^ 30) (hb : b < 2 ^ 30) : (nI a - nI b = 0) = (a = b) := by
  have h0 : (0 : Int32).toInt = 0 := by decide
  rw [eq_iff_iff, fa_eq, pk_sub_toInt ha hb, h0]
  omega
theorem x_partL2 {M : Mem} {m : Nat} {T : TD} {S : SC} (hR : RIs (mS M) (mR M) m) (hT : RT M m T) (hk : TOk T) (hS : RS M m T S) (hs : SOk S) {p s : Nat} (hp : p ≤ 9999) (h5 : s < tN T) (hA : 0 < wgA T S) : ∀ d k n, k + d = tN T → f_X10_parts_L68 m (n + d + 1) (nI p) (nI s) (nI (wgA T S)) (lft T S p k) (nI (ctb (ahd T S p s) k)) (nI k) M = some (prt T S p s, M) := by
  have h2 := hk.1.2.2.2
  have hAl := wgA_le hk S
  have hA0 : ¬ nI (wgA T S) = 0 := by rw [nIz (by omega)]; omega
  have as := r_shareOf hR hT hk hS hs h5
  have ws := wgt_le hk S s
  have ms := mul_le4 hp ws
  have rs := Nat.mod_lt (p * wgt T S s) hA
  intro d
  induction d with
  | zero =>
    intro k n hkd
    have hkd : k = tN T := by omega
    subst hkd
    rw [f_X10_parts_L68]
    repeat (first | ((with_reducible apply clt_t); case h => (simp (disch := omega) only [hk]; with_reducible rfl)) | ((with_reducible apply bnd_t); case h => (simp (disch := omega) only [e_gR, e_gI, e_aI, e_aL, e_oO, e_pI, e_wI, e_wL, Option.map_some, mS_sL, mR_sL, mI_sL, mS_sI, mR_sI, mL_sI, n_cl, ro_m hR, rr_scalar hR, rx_scalar hR, hT.1.2.2.2]; with_reducible rfl)) | rw [nm_eq])
    rw [if_pos (by rw [n_le (by omega) (by omega)]; omega)]
    repeat (first | ((with_reducible apply clt_t); case h => (simp (disch := omega) only [as]; with_reducible rfl)) | ((with_reducible apply bnd_t); case h => (simp (disch := omega) only [e_gR, e_gI, e_aI, e_aL, e_oO, e_pI, e_wI, e_wL, Option.map_some, mS_sL, mR_sL, mI_sL, mS_sI, mR_sI, mL_sI, n_cl, ro_m hR]; with_reducible rfl)) | rw [nm_eq])
    rw [if_neg hA0, n_mul, pk_div (by omega) hA (by omega)]
    unfold f_X10_parts_J169 prt
    rw [if_neg (by omega : ¬ wgA T S = 0)]
    split <;> rfl
  | succ d ih =>
    intro k n hkd
    have ak := r_shareOf hR hT hk hS hs (s := k) (by omega)
    have wk := wgt_le hk S k
    have mk := mul_le4 hp wk
    have rk := Nat.mod_lt (p * wgt T S k) hA
    have e := ih (k + 1) n (by omega)
    rw [ctb, lft] at e
    rw [show n + (d + 1) + 1 = (n + d + 1) + 1 from by omega, f_X10_parts_L68]
    repeat (first | ((with_reducible apply clt_t); case h => (simp (disch := omega) only [hk]; with_reducible rfl)) | ((with_reducible apply bnd_t); case h => (simp (disch := omega) only [e_gR, e_gI, e_aI, e_aL, e_oO, e_pI, e_wI, e_wL, Option.map_some, mS_sL, mR_sL, mI_sL, mS_sI, mR_sI, mL_sI, n_cl, ro_m hR, rr_scalar hR, rx_scalar hR, hT.1.2.2.2]; with_reducible rfl)) | rw [nm_eq])
    rw [if_neg (by rw [n_le (by omega) (by omega)]; omega)]
    repeat (first | ((with_reducible apply clt_t); case h => (simp (disch := omega) only [ak]; with_reducible rfl)) | ((with_reducible apply bnd_t); case h => (simp (disch := omega) only [e_gR, e_gI, e_aI, e_aL, e_oO, e_pI, e_wI, e_wL, Option.map_some, mS_sL, mR_sL, mI_sL, mS_sI, mR_sI, mL_sI, n_cl, ro_m hR]; with_reducible rfl)) | rw [nm_eq])
    rw [if_neg hA0]
    repeat (first | ((with_reducible apply clt_t); case h => (simp (disch := omega) only [ak]; with_reducible rfl)) | ((with_reducible apply bnd_t); case h => (simp (disch := omega) only [e_gR, e_gI, e_aI, e_aL, e_oO, e_pI, e_wI, e_wL, Option.map_some, mS_sL, mR_sL, mI_sL, mS_sI, mR_sI, mL_sI, n_cl, ro_m hR]; with_reducible rfl)) | rw [nm_eq])
    rw [if_neg hA0]
    repeat (first | ((with_reducible apply clt_t); case h => (simp (disch := omega) only [as]; with_reducible rfl)) | ((with_reducible apply bnd_t); case h => (simp (disch := omega) only [e_gR, e_gI, e_aI, e_aL, e_oO, e_pI, e_wI, e_wL, Option.map_some, mS_sL, mR_sL, mI_sL, mS_sI, mR_sI, mL_sI, n_cl, ro_m hR]; with_reducible rfl)) | rw [nm_eq])
    rw [if_neg hA0]
    simp only [n_mul]
    rw [pk_rem (a := p * wgt T S k) (by omega) hA (by omega), pk_rem (a := p * wgt T S s) (by omega) hA (by omega), pk_div (by omega) hA (by omega)]
    unfold f_X10_parts_J134 f_X10_parts_J138 f_X10_parts_J139
    simp only [nm_eq, n_add]
    unfold ahd at e
    by_cases c1 : p * wgt T S s % wgA T S < p * wgt T S k % wgA T S
    · rw [if_pos (by rw [pos_sub (by omega) (by omega)]; exact c1)]
      simp only [c1, decide_true, Bool.true_or, if_true] at e
      exact e
    · rw [if_neg (by rw [pos_sub (by omega) (by omega)]; exact c1)]
      by_cases c2 : p * wgt T S k % wgA T S = p * wgt T S s % wgA T S
      · rw [if_pos (by rw [zer_sub (by omega) (by omega)]; exact c2)]
        by_cases c3 : k < s
        · rw [if_neg (by rw [n_le (by omega) (by omega)]; omega)]
          simp only [c2, c3, Nat.lt_irrefl, decide_true, decide_false, Bool.false_or, Bool.and_self, if_true] at e
          exact e
        · rw [if_pos (by rw [n_le (by omega) (by omega)]; omega)]
          simp only [c2, c3, Nat.lt_irrefl, decide_true, decide_false, Bool.and_false, Bool.or_self, Bool.false_eq_true, if_false] at e
          exact e
      · rw [if_neg (by rw [zer_sub (by omega) (by omega)]; exact c2)]
        simp only [c1, c2, decide_false, Bool.false_and, Bool.or_self, Bool.false_eq_true, if_false] at e
        exact e
theorem x_partL1 {M : Mem} {m : Nat} {T : TD} {S : SC} (hR : RIs (mS M) (mR M) m) (hT : RT M m T) (hk : TOk T) (hS : RS M m T S) (hs : SOk S) {p s : Nat} (hp : p ≤ 9999) (h5 : s < tN T) : ∀ d k n, k + d = tN T → f_X10_parts_L27 m (n + d + 1) (nI p) (nI s) (nI (smn (wgt T S) k)) (nI k) M = some (prt T S p s, M) := by
  have h2 := hk.1.2.2.2
  have hAl := wgA_le hk S
  intro d
  induction d with
  | zero =>
    intro k n hkd
    have hkd : k = tN T := by omega
    subst hkd
    rw [f_X10_parts_L27]
    repeat (first | ((with_reducible apply clt_t); case h => (simp (disch := omega) only [hk]; with_reducible rfl)) | ((with_reducible apply bnd_t); case h => (simp (disch := omega) only [e_gR, e_gI, e_aI, e_aL, e_oO, e_pI, e_wI, e_wL, Option.map_some, mS_sL, mR_sL, mI_sL, mS_sI, mR_sI, mL_sI, n_cl, ro_m hR, rr_scalar hR, rx_scalar hR, hT.1.2.2.2]; with_reducible rfl)) | rw [nm_eq])
    rw [if_pos (by rw [n_le (by omega) (by omega)]; omega)]
    show (if nI (wgA T S) = 0 then _ else f_X10_parts_L68 m FU (nI p) (nI s) (nI (wgA T S)) _ _ _ M) = _
    by_cases hA : wgA T S = 0
    · rw [if_pos (by rw [hA]; rfl)]
      unfold prt
      rw [if_pos hA]
    · rw [if_neg (by rw [nIz (by omega)]; exact hA)]
      obtain ⟨f, hf⟩ := FUd (tN T) (by omega)
      rw [hf]
      exact x_partL2 hR hT hk hS hs hp h5 (by omega) (tN T) 0 f (by omega)
  | succ d ih =>
    intro k n hkd
    have ak := r_shareOf hR hT hk hS hs (s := k) (by omega)
    have e := ih (k + 1) n (by omega)
    rw [smn] at e
    rw [show n + (d + 1) + 1 = (n + d + 1) + 1 from by omega, f_X10_parts_L27]
    repeat (first | ((with_reducible apply clt_t); case h => (simp (disch := omega) only [hk]; with_reducible rfl)) | ((with_reducible apply bnd_t); case h => (simp (disch := omega) only [e_gR, e_gI, e_aI, e_aL, e_oO, e_pI, e_wI, e_wL, Option.map_some, mS_sL, mR_sL, mI_sL, mS_sI, mR_sI, mL_sI, n_cl, ro_m hR, rr_scalar hR, rx_scalar hR, hT.1.2.2.2]; with_reducible rfl)) | rw [nm_eq])
    rw [if_neg (by rw [n_le (by omega) (by omega)]; omega)]
    repeat (first | ((with_reducible apply clt_t); case h => (simp (disch := omega) only [ak]; with_reducible rfl)) | ((with_reducible apply bnd_t); case h => (simp (disch := omega) only [e_gR, e_gI, e_aI, e_aL, e_oO, e_pI, e_wI, e_wL, Option.map_some, mS_sL, mR_sL, mI_sL, mS_sI, mR_sI, mL_sI, n_cl, ro_m hR]; with_reducible rfl)) | rw [nm_eq])
    rw [n_add, n_add]
    exact e
theorem x_parts {M : Mem} {m : Nat} {T : TD} {S : SC} (hR : RIs (mS M) (mR M) m) (hT : RT M m T) (hk : TOk T) (hS : RS M m T S) (hs : SOk S) (x y : Int32) : f_X10_parts m x y M = some (q_parts T S x y, M) := by
  have h2 := hk.1.2.2.2
  have a1 := r_isShip hR hT hk y
  unfold f_X10_parts f_X10_parts_J20 q_parts
  repeat (first | ((with_reducible apply clt_t); case h => (simp (disch := omega) only [a1]; with_reducible rfl)) | ((with_reducible apply bnd_t); case h => (simp (disch := omega) only [e_gR, e_gI, e_aI, e_aL, e_oO, e_pI, e_wI, e_wL, Option.map_some, mS_sL, mR_sL, mI_sL, mS_sI, mR_sI, mL_sI, n_cl, ro_m hR]; with_reducible rfl)) | rw [nm_eq])
  cases hy : ixB y (tN T) with
  | false => rw [if_pos (show bI false = 0 from rfl)]; rfl
  | true =>
    rw [if_neg (show ¬ bI true = 0 by decide)]
    repeat (first | ((with_reducible apply clt_t); case h => (simp (disch := omega) only [in_09999]; with_reducible rfl)) | ((with_reducible apply bnd_t); case h => (simp (disch := omega) only [e_gR, e_gI, e_aI, e_aL, e_oO, e_pI, e_wI, e_wL, Option.map_some, mS_sL, mR_sL, mI_sL, mS_sI, mR_sI, mL_sI, n_cl, ro_m hR]; with_reducible rfl)) | rw [nm_eq])
    cases hx : inR x 0 9999 with
    | false => rw [if_pos (show bI false = 0 from rfl)]; rfl
    | true =>
      rw [if_neg (show ¬ bI true = 0 by decide)]
      obtain ⟨s, s1, rfl⟩ := ixB_t (by omega) hy
      obtain ⟨p, rfl, -, p2, p3⟩ := inR_t hx (by decide)
      rw [n_cl (by omega), n_cl (by omega)]
      obtain ⟨f, hf⟩ := FUd (tN T) (by omega)
      rw [hf]
      exact x_partL1 hR hT hk hS hs (by omega) s1 (tN T) 0 f (by omega)
theorem c_partL2 {M : Mem} {t : Nat} {T : TD} (hI : ITold (mS M) (mR M) t) (hT : CT M t T) (hk : TOk T) {q : Nat} {S : SC} (hJ : IScene (mS M) (mR M) q) (hS : CC M q T S) (hs : SOk S) {p s : Nat} (hp : p ≤ 9999) (h5 : s < tN T) (hA : 0 < wgA T S) : ∀ d k n, k + d = tN T → f_X8_partOf_L62 t (n + d + 1) (nI p) (nI s) (some q) (nI (wgA T S)) (lft T S p k) (nI (ctb (ahd T S p s) k)) (nI (p * wgt T S s % wgA T S)) (nI k) M = some (prt T S p s, M) := by
  have h2 := hk.1.2.2.2
  have hAl := wgA_le hk S
  have hA0 : ¬ nI (wgA T S) = 0 := by rw [nIz (by omega)]; omega
  have as := c_weight hI hT hk hJ hS hs h5
  have ws := wgt_le hk S s
  have ms := mul_le4 hp ws
  have rs := Nat.mod_lt (p * wgt T S s) hA
  intro d
  induction d with
  | zero =>
    intro k n hkd
    have hkd : k = tN T := by omega
    subst hkd
    rw [f_X8_partOf_L62]
    repeat (first | ((with_reducible apply clt_t); case h => (simp (disch := omega) only [hk]; with_reducible rfl)) | ((with_reducible apply bnd_t); case h => (simp (disch := omega) only [e_gR, e_gI, e_aI, e_aL, e_oO, e_pI, e_wI, e_wL, Option.map_some, mS_sL, mR_sL, mI_sL, mS_sI, mR_sI, mL_sI, n_cl, told_o hI, hT.1.2.2.2.2]; with_reducible rfl)) | rw [nm_eq])
    rw [if_pos (by rw [n_le (by omega) (by omega)]; omega)]
    repeat (first | ((with_reducible apply clt_t); case h => (simp (disch := omega) only [as]; with_reducible rfl)) | ((with_reducible apply bnd_t); case h => (simp (disch := omega) only [e_gR, e_gI, e_aI, e_aL, e_oO, e_pI, e_wI, e_wL, Option.map_some, mS_sL, mR_sL, mI_sL, mS_sI, mR_sI, mL_sI, n_cl, told_o hI]; with_reducible rfl)) | rw [nm_eq])
    rw [if_neg hA0, n_mul, pk_div (by omega) hA (by omega)]
    unfold f_X8_partOf_J150 prt
    rw [if_neg (by omega : ¬ wgA T S = 0)]
    split <;> rfl
  | succ d ih =>
    intro k n hkd
    have ak := c_weight hI hT hk hJ hS hs (s := k) (by omega)
    have wk := wgt_le hk S k
    have mk := mul_le4 hp wk
    have rk := Nat.mod_lt (p * wgt T S k) hA
    have e := ih (k + 1) n (by omega)
    rw [ctb, lft] at e
    rw [show n + (d + 1) + 1 = (n + d + 1) + 1 from by omega, f_X8_partOf_L62]
    repeat (first | ((with_reducible apply clt_t); case h => (simp (disch := omega) only [hk]; with_reducible rfl)) | ((with_reducible apply bnd_t); case h => (simp (disch := omega) only [e_gR, e_gI, e_aI, e_aL, e_oO, e_pI, e_wI, e_wL, Option.map_some, mS_sL, mR_sL, mI_sL, mS_sI, mR_sI, mL_sI, n_cl, told_o hI, hT.1.2.2.2.2]; with_reducible rfl)) | rw [nm_eq])
    rw [if_neg (by rw [n_le (by omega) (by omega)]; omega)]
    repeat (first | ((with_reducible apply clt_t); case h => (simp (disch := omega) only [ak]; with_reducible rfl)) | ((with_reducible apply bnd_t); case h => (simp (disch := omega) only [e_gR, e_gI, e_aI, e_aL, e_oO, e_pI, e_wI, e_wL, Option.map_some, mS_sL, mR_sL, mI_sL, mS_sI, mR_sI, mL_sI, n_cl, told_o hI]; with_reducible rfl)) | rw [nm_eq])
    simp only [nm_eq, n_mul]
    rw [if_neg hA0, if_neg hA0, if_neg hA0]
    rw [pk_rem (a := p * wgt T S k) (by omega) hA (by omega), pk_div (by omega) hA (by omega)]
    unfold f_X8_partOf_J118 f_X8_partOf_J121
    simp only [n_add]
    unfold ahd at e
    by_cases c1 : p * wgt T S s % wgA T S < p * wgt T S k % wgA T S
    · rw [if_pos (by rw [n_lt (by omega) (by omega)]; exact c1)]
      simp only [c1, decide_true, Bool.true_or, if_true] at e
      exact e
    · rw [if_neg (by rw [n_lt (by omega) (by omega)]; exact c1)]
      by_cases c2 : p * wgt T S k % wgA T S = p * wgt T S s % wgA T S
      · rw [if_pos (by rw [n_eq (by omega) (by omega)]; exact c2)]
        by_cases c3 : k < s
        · rw [if_neg (by rw [n_le (by omega) (by omega)]; omega)]
          simp only [c2, c3, Nat.lt_irrefl, decide_true, decide_false, Bool.false_or, Bool.and_self, if_true] at e
          exact e
        · rw [if_pos (by rw [n_le (by omega) (by omega)]; omega)]
          simp only [c2, c3, Nat.lt_irrefl, decide_true, decide_false, Bool.and_false, Bool.or_self, Bool.false_eq_true, if_false] at e
          exact e
      · rw [if_neg (by rw [n_eq (by omega) (by omega)]; exact c2)]
        simp only [c1, c2, decide_false, Bool.false_and, Bool.or_self, Bool.false_eq_true, if_false] at e
        exact e
theorem c_partL1 {M : Mem} {t : Nat} {T : TD} (hI : ITold (mS M) (mR M) t) (hT : CT M t T) (hk : TOk T) {q : Nat} {S : SC} (hJ : IScene (mS M) (mR M) q) (hS : CC M q T S) (hs : SOk S) {p s : Nat} (hp : p ≤ 9999) (h5 : s < tN T) : ∀ d k n, k + d = tN T → f_X8_partOf_L6 t (n + d + 1) (nI p) (nI s) (some q) (nI (smn (wgt T S) k)) (nI k) M = some (prt T S p s, M) := by
  have h2 := hk.1.2.2.2
  have hAl := wgA_le hk S
  intro d
  induction d with
  | zero =>
    intro k n hkd
    have hkd : k = tN T := by omega
    subst hkd
    rw [f_X8_partOf_L6]
    repeat (first | ((with_reducible apply clt_t); case h => (simp (disch := omega) only [hk]; with_reducible rfl)) | ((with_reducible apply bnd_t); case h => (simp (disch := omega) only [e_gR, e_gI, e_aI, e_aL, e_oO, e_pI, e_wI, e_wL, Option.map_some, mS_sL, mR_sL, mI_sL, mS_sI, mR_sI, mL_sI, n_cl, told_o hI, hT.1.2.2.2.2]; with_reducible rfl)) | rw [nm_eq])
    rw [if_pos (by rw [n_le (by omega) (by omega)]; omega)]
    rw [show smn (wgt T S) (tN T) = wgA T S from rfl]
    by_cases hA : wgA T S = 0
    · rw [if_pos (by rw [hA]; rfl)]
      unfold prt
      rw [if_pos hA]
    · rw [if_neg (by rw [nIz (by omega)]; exact hA)]
      have as := c_weight hI hT hk hJ hS hs h5
      have ws := wgt_le hk S s
      have ms := mul_le4 hp ws
      repeat (first | ((with_reducible apply clt_t); case h => (simp (disch := omega) only [as]; with_reducible rfl)) | ((with_reducible apply bnd_t); case h => (simp (disch := omega) only [e_gR, e_gI, e_aI, e_aL, e_oO, e_pI, e_wI, e_wL, Option.map_some, mS_sL, mR_sL, mI_sL, mS_sI, mR_sI, mL_sI, n_cl, told_o hI]; with_reducible rfl)) | rw [nm_eq])
      rw [if_neg (by rw [nIz (by omega)]; exact hA), n_mul, pk_rem (by omega) (by omega) (by omega)]
      obtain ⟨f, hf⟩ := FUd (tN T) (by omega)
      rw [hf]
      exact c_partL2 hI hT hk hJ hS hs hp h5 (by omega) (tN T) 0 f (by omega)
  | succ d ih =>
    intro k n hkd
    have ak := c_weight hI hT hk hJ hS hs (s := k) (by omega)
    have e := ih (k + 1) n (by omega)
    rw [smn] at e
    rw [show n + (d + 1) + 1 = (n + d + 1) + 1 from by omega, f_X8_partOf_L6]
    repeat (first | ((with_reducible apply clt_t); case h => (simp (disch := omega) only [hk]; with_reducible rfl)) | ((with_reducible apply bnd_t); case h => (simp (disch := omega) only [e_gR, e_gI, e_aI, e_aL, e_oO, e_pI, e_wI, e_wL, Option.map_some, mS_sL, mR_sL, mI_sL, mS_sI, mR_sI, mL_sI, n_cl, told_o hI, hT.1.2.2.2.2]; with_reducible rfl)) | rw [nm_eq])
    rw [if_neg (by rw [n_le (by omega) (by omega)]; omega)]
    repeat (first | ((with_reducible apply clt_t); case h => (simp (disch := omega) only [ak]; with_reducible rfl)) | ((with_reducible apply bnd_t); case h => (simp (disch := omega) only [e_gR, e_gI, e_aI, e_aL, e_oO, e_pI, e_wI, e_wL, Option.map_some, mS_sL, mR_sL, mI_sL, mS_sI, mR_sI, mL_sI, n_cl, told_o hI]; with_reducible rfl)) | rw [nm_eq])
    rw [n_add, n_add]
    exact e
theorem y_parts {M : Mem} {T : TD} {S : SC} (hC : CIs (mS M) (mR M)) (hT : CT M 15 T) (hk : TOk T) (hS : CC M 21 T S) (hs : SOk S) (x y : Int32) : f_X9_parts 0 x y M = some (q_parts T S x y, M) := by
  have h2 := hk.1.2.2.2
  have a1 := c_isShip hC hT hk y
  have a2 := c_isWithin x (lo := 0) (hi := 9999) (by decide) (by decide) M
  unfold f_X9_parts f_X9_parts_J19 q_parts
  repeat (first | ((with_reducible apply clt_t); case h => (simp (disch := omega) only [a1]; with_reducible rfl)) | ((with_reducible apply bnd_t); case h => (simp (disch := omega) only [e_gR, e_gI, e_aI, e_aL, e_oO, e_pI, e_wI, e_wL, Option.map_some, mS_sL, mR_sL, mI_sL, mS_sI, mR_sI, mL_sI, n_cl, cob_0 hC]; with_reducible rfl)) | rw [nm_eq])
  cases hy : ixB y (tN T) with
  | false => rw [if_pos (show bI false = 0 from rfl)]; rfl
  | true =>
    rw [if_neg (show ¬ bI true = 0 by decide)]
    repeat (first | ((with_reducible apply clt_t); case h => (simp (disch := omega) only [a2]; with_reducible rfl)) | ((with_reducible apply bnd_t); case h => (simp (disch := omega) only [e_gR, e_gI, e_aI, e_aL, e_oO, e_pI, e_wI, e_wL, Option.map_some, mS_sL, mR_sL, mI_sL, mS_sI, mR_sI, mL_sI, n_cl, cob_0 hC]; with_reducible rfl)) | rw [nm_eq])
    show (if bI (inR x 0 9999) = 0 then _ else _) = _
    cases hx : inR x 0 9999 with
    | false => rw [if_pos (show bI false = 0 from rfl)]; rfl
    | true =>
      rw [if_neg (show ¬ bI true = 0 by decide)]
      obtain ⟨s, s1, rfl⟩ := ixB_t (by omega) hy
      obtain ⟨p, rfl, -, p2, p3⟩ := inR_t hx (by decide)
      rw [n_cl (by omega), n_cl (by omega)]
      have a3 : f_X8_partOf 15 (nI p) (nI s) (some 21) M = some (prt T S p s, M) := by
        obtain ⟨f, hf⟩ := FUd (tN T) (by omega)
        rw [f_X8_partOf, hf]
        exact c_partL1 (ci_told hC) hT hk (ci_scene hC) hS hs (by omega) s1 (tN T) 0 f (by omega)
      repeat (first | ((with_reducible apply clt_t); case h => (simp (disch := omega) only [a3]; with_reducible rfl)) | ((with_reducible apply bnd_t); case h => (simp (disch := omega) only [e_gR, e_gI, e_aI, e_aL, e_oO, e_pI, e_wI, e_wL, Option.map_some, mS_sL, mR_sL, mI_sL, mS_sI, mR_sI, mL_sI, n_cl, cob_0 hC, cr_0_book hC, book_o (ci_book hC), book_r_told (ci_book hC), book_r_scene (ci_book hC), told_o (ci_told hC), scene_o (ci_scene hC), Nat.reduceAdd]; with_reducible rfl)) | rw [nm_eq])
      rfl
