/-! A RULE: what a text says -/
abbrev QD : Type := (Nat → Int64) → Bool
def bL (b : Bool) : Int64 := if b then 1 else 0
/-- joined by a sort of the reference's -/
def opr (k : Nat) (a b : Int64) : Int64 := if k = 2 then a + b else if k = 3 then a - b else if k = 13 then a * b else if k = 14 then (if b = 0 then 0 else a / b) else (if b = 0 then 0 else a - a / b * b)
def cpr (k : Nat) (a b : Int64) : Bool := if k = 4 then !decide (0 ≤ lg_cmp a b) else if k = 5 then !decide (0 < lg_cmp a b) else if k = 6 then decide (lg_cmp a b = 0) else if k = 7 then !decide (lg_cmp a b < 0) else !decide (lg_cmp a b ≤ 0)
def wLs : List (List Nat) := [w_ship, w_joke, w_cargo, w_keeps, w_like, w_fresh, w_known, w_waiting, w_since, w_passed, w_tide]
def wdB (t : TP) (p k : Nat) : Bool := decide (lts t (bk t p) = wLs.getD k [])
def wdk (t : TP) (p : Nat) : Nat := (fs (wdB t p) 11).getD 11
theorem wdk_le (t : TP) (p : Nat) : wdk t p ≤ 11 := by
  unfold wdk
  cases e : fs (wdB t p) 11 with
  | none => exact Nat.le_refl _
  | some k => have := (fs_some e).1; show k ≤ 11; omega
/-- a value: its fault, or 0 -/
def vlF (t : TP) (p c : Nat) : Nat := if tkK t p = 1 then (if dgs t (bk t p) ≤ 5 then (if c < 60 then 0 else 1 + 8 * bk t p + 3) else 1 + 8 * bk t p + 1) else if wdk t p < 11 then (if c < 60 then 0 else 1 + 8 * bk t p + 3) else 1 + 8 * bk t p
def vlD (t : TP) (p : Nat) : RD := if tkK t p = 1 then (fun _ => Int32.toInt64 (nI (tkV t p))) else (fun v => v (wdk t p))
/-- runs of a machine -/
def rn {σ ρ : Type} (st : σ → ρ ⊕ σ) (z : ρ) : Nat → σ → ρ
  | 0, _ => z
  | n + 1, s => Sum.elim id (rn st z n) (st s)
theorem rn_up {σ ρ : Type} {st : σ → ρ ⊕ σ} {z : ρ} (I : σ → Prop) (μ : σ → Nat) (h : ∀ s s', I s → st s = .inr s' → I s' ∧ μ s' < μ s) : ∀ n s, I s → μ s < n → rn st z (n + 1) s = rn st z n s
  | 0, s, _, hm => absurd hm (Nat.not_lt_zero _)
  | n + 1, s, hi, hm => by
    rw [rn]
    show Sum.elim id (rn st z (n + 1)) (st s) = Sum.elim id (rn st z n) (st s)
    cases e : st s with
    | inl r => rfl
    | inr s' =>
      obtain ⟨h1, h2⟩ := h s s' hi e
      exact rn_up I μ h n s' h1 (by omega)
theorem rn_eq {σ ρ : Type} {st : σ → ρ ⊕ σ} {z : ρ} (I : σ → Prop) (μ : σ → Nat) (h : ∀ s s', I s → st s = .inr s' → I s' ∧ μ s' < μ s) {n : Nat} {s : σ} (hi : I s) (hm : μ s < n) : rn st z n s = Sum.elim id (rn st z n) (st s) := by
  rw [← rn_up I μ h n s hi hm, rn]
/-- which sign joins -/
def sgk (t : TP) (p : Nat) : Nat := if tkG t p = nI 43 then 2 else if tkG t p = nI 45 then 3 else if tkG t p = nI 42 then 13 else if tkG t p = nI 47 then 14 else if tkG t p = nI 37 then 15 else 0
def jn (pe : Option (Nat × RD)) (cur : RD) : RD := pe.elim cur (fun q => fun v => opr q.1 (q.2 v) (cur v))
abbrev SRs : Type := Nat × Nat × Nat × RD
abbrev SSt : Type := Nat × Nat × Option (Nat × RD) × RD
def smS (t : TP) (s : SSt) : SRs ⊕ SSt :=
  if sgk t s.1 = 0 then .inl (0, s.1, s.2.1, jn s.2.2.1 s.2.2.2)
  else if vlF t (tkE t s.1) s.2.1 = 0 then
    .inr (tkE t (tkE t s.1), s.2.1 + 1, if sgk t s.1 < 4 then (some (sgk t s.1, jn s.2.2.1 s.2.2.2), vlD t (tkE t s.1)) else (s.2.2.1, fun v => opr (sgk t s.1) (s.2.2.2 v) (vlD t (tkE t s.1) v)))
  else .inl (vlF t (tkE t s.1) s.2.1, s.1, s.2.1, fun _ => 0)
def smR (t : TP) (s : SSt) : SRs := rn (smS t) (0, 0, 0, fun _ => 0) 500 s
/-- a sum: fault, place behind, how many are counted, what it says -/
def smP (t : TP) (p c : Nat) : SRs := if vlF t p c = 0 then smR t (tkE t p, c + 1, none, vlD t p) else (vlF t p c, 0, 0, fun _ => 0)
/-! tokens move on -/
theorem bk_ge (t : TP) (p : Nat) : p ≤ bk t p := ru_ge _ _ _
theorem bk_le {t : TP} {p : Nat} (hp : p ≤ t.1) : bk t p ≤ t.1 := ru_le _ _ hp
theorem tkE_gt {t : TP} {p : Nat} (hp : p ≤ t.1) (hk : tkK t p ≠ 0) : bk t p < tkE t p ∧ bk t p < t.1 := by
  have hb : bk t p < t.1 := by
    rcases Nat.lt_or_ge (bk t p) t.1 with h | h
    · exact h
    · exact absurd (by unfold tkK; rw [if_pos h]) hk
  refine ⟨?_, hb⟩
  unfold tkE
  rw [if_neg hk]
  by_cases h1 : tkK t p = 1
  · rw [if_pos h1]
    rw [tkK_1] at h1
    have hd : isDg (t.2 (bk t p)) = true := (Bool.and_eq_true_iff.mp h1).2
    rw [ru_st hb hd]
    have := ru_ge isDg t (bk t p + 1)
    omega
  · rw [if_neg h1]
    by_cases h2 : tkK t p = 2
    · rw [if_pos h2]
      have hl : isLt (t.2 (bk t p)) = true := by
        unfold tkK at h2
        rw [if_neg (by omega)] at h2
        split at h2
        · exact absurd h2 (by decide)
        · split at h2
          · assumption
          · exact absurd h2 (by decide)
      rw [ru_st hb hl]
      have := ru_ge isLt t (bk t p + 1)
      omega
    · rw [if_neg h2]
      split <;> omega
theorem tkG_k {t : TP} {p c : Nat} (hc : c < 1000) (h : tkG t p = nI c) : tkK t p = 3 := by
  unfold tkG at h
  split at h
  · assumption
  · exact absurd h.symm (nm1 (by omega))
theorem sgk_k {t : TP} {p : Nat} (h : sgk t p ≠ 0) : tkK t p = 3 := by
  unfold sgk at h
  split at h
  · rename_i e; exact tkG_k (by decide) e
  · split at h
    · rename_i e; exact tkG_k (by decide) e
    · split at h
      · rename_i e; exact tkG_k (by decide) e
      · split at h
        · rename_i e; exact tkG_k (by decide) e
        · split at h
          · rename_i e; exact tkG_k (by decide) e
          · exact absurd rfl h
theorem wdk_k {t : TP} {p : Nat} (h : wdk t p < 11) : lts t (bk t p) = wLs.getD (wdk t p) [] := by
  unfold wdk at h ⊢
  cases e : fs (wdB t p) 11 with
  | none => rw [e] at h; exact absurd h (by decide)
  | some k => exact of_decide_eq_true (fs_some e).2.1
theorem wLs_ok : ∀ k, k < 11 → 0 < (wLs.getD k []).length ∧ (wLs.getD k []).length ≤ 7 := by decide
theorem vlF_k {t : TP} {p c : Nat} (h : vlF t p c = 0) : (tkK t p = 1 ∨ tkK t p = 2) ∧ c < 60 := by
  unfold vlF at h
  by_cases h1 : tkK t p = 1
  · rw [if_pos h1] at h
    refine ⟨Or.inl h1, ?_⟩
    split at h
    · split at h
      · assumption
      · omega
    · omega
  · rw [if_neg h1] at h
    split at h
    · rename_i hw
      split at h
      · exact ⟨Or.inr (tkE_w (wLs_ok _ hw).1 (wdk_k hw)).1, by assumption⟩
      · omega
    · omega
theorem vlF_lt {t : TP} (h4 : TOk2 t) {p c : Nat} (hp : p ≤ t.1) : vlF t p c < 10000 := by
  have := bk_le hp
  have := h4.1
  unfold vlF
  split
  · split
    · split <;> omega
    · omega
  · split
    · split <;> omega
    · omega
theorem vl_mv {t : TP} {p c : Nat} (hp : p ≤ t.1) (h : vlF t p c = 0) : p < tkE t p ∧ tkE t p ≤ t.1 := by
  have h1 := vlF_k h
  have h2 := tkE_gt hp (by omega : tkK t p ≠ 0)
  have h3 := tkE_le hp
  have := bk_ge t p
  omega
theorem sg_mv {t : TP} {p : Nat} (hp : p ≤ t.1) (h : sgk t p ≠ 0) : p < tkE t p ∧ tkE t p ≤ t.1 := by
  have h1 := sgk_k h
  have h2 := tkE_gt hp (by omega : tkK t p ≠ 0)
  have h3 := tkE_le hp
  have := bk_ge t p
  omega
theorem smS_mv {t : TP} {s s' : SSt} (hp : s.1 ≤ t.1) (h : smS t s = .inr s') : (s'.1 ≤ t.1 ∧ s.1 < s'.1) ∧ s'.2.1 = s.2.1 + 1 ∧ s.2.1 < 60 := by
  unfold smS at h
  split at h
  · cases h
  · rename_i h1
    split at h
    · rename_i h2
      cases h
      obtain ⟨a1, a2⟩ := sg_mv hp h1
      obtain ⟨b1, b2⟩ := vl_mv a2 h2
      exact ⟨⟨b2, by show s.1 < tkE t (tkE t s.1); omega⟩, rfl, (vlF_k h2).2⟩
    · cases h
theorem smR_st {t : TP} (h4 : TOk2 t) {s : SSt} (hp : s.1 ≤ t.1) : smR t s = Sum.elim id (smR t) (smS t s) := by
  have h := h4.1
  refine rn_eq (I := fun s => s.1 ≤ t.1) (μ := fun s => t.1 - s.1) (fun s s' hi e => ?_) hp (by show t.1 - s.1 < 500; omega)
  have := (smS_mv hi e).1
  refine ⟨this.1, ?_⟩
  show t.1 - s'.1 < t.1 - s.1
  omega
theorem smR_l {t : TP} (h4 : TOk2 t) {s : SSt} {r : SRs} (hp : s.1 ≤ t.1) (h : smS t s = .inl r) : smR t s = r := by rw [smR_st h4 hp, h, Sum.elim_inl, id_eq]
theorem smR_r {t : TP} (h4 : TOk2 t) {s s' : SSt} (hp : s.1 ≤ t.1) (h : smS t s = .inr s') : smR t s = smR t s' := by rw [smR_st h4 hp, h, Sum.elim_inr]
theorem smS_r {t : TP} (h4 : TOk2 t) {s : SSt} {r : SRs} (hp : s.1 ≤ t.1) (hc : s.2.1 ≤ 60) (e : smS t s = .inl r) : r.1 < 10000 ∧ (r.1 = 0 → (s.1 ≤ r.2.1 ∧ r.2.1 ≤ t.1) ∧ (s.2.1 ≤ r.2.2.1 ∧ r.2.2.1 ≤ 60) ∧ sgk t r.2.1 = 0) := by
  unfold smS at e
  split at e
  · rename_i h1
    cases e
    exact ⟨by show 0 < 10000; decide, fun _ => ⟨⟨Nat.le_refl _, hp⟩, ⟨Nat.le_refl _, hc⟩, h1⟩⟩
  · rename_i h1
    split at e
    · cases e
    · rename_i h2
      cases e
      exact ⟨vlF_lt h4 (sg_mv hp h1).2, fun z => absurd z h2⟩
theorem smR_ok {t : TP} (h4 : TOk2 t) : ∀ d (s : SSt), t.1 - s.1 ≤ d → s.1 ≤ t.1 → s.2.1 ≤ 60 → (smR t s).1 < 10000 ∧ ((smR t s).1 = 0 → (s.1 ≤ (smR t s).2.1 ∧ (smR t s).2.1 ≤ t.1) ∧ (s.2.1 ≤ (smR t s).2.2.1 ∧ (smR t s).2.2.1 ≤ 60) ∧ sgk t (smR t s).2.1 = 0) := by
  intro d
  induction d with
  | zero =>
    intro s hd hp hc
    cases e : smS t s with
    | inr s' =>
      have := (smS_mv hp e).1
      omega
    | inl r =>
      rw [smR_l h4 hp e]
      exact smS_r h4 hp hc e
  | succ d ih =>
    intro s hd hp hc
    cases e : smS t s with
    | inr s' =>
      obtain ⟨⟨a1, a2⟩, a3, a4⟩ := smS_mv hp e
      rw [smR_r h4 hp e]
      obtain ⟨r, hr⟩ : ∃ r, r = smR t s' := ⟨_, rfl⟩
      have hb := ih s' (by omega) a1 (by omega)
      rw [← hr] at hb ⊢
      obtain ⟨b1, b2⟩ := hb
      refine ⟨b1, fun z => ?_⟩
      obtain ⟨c1, c2, c3⟩ := b2 z
      exact ⟨⟨by omega, c1.2⟩, ⟨by omega, c2.2⟩, c3⟩
    | inl r =>
      rw [smR_l h4 hp e]
      exact smS_r h4 hp hc e
theorem smP_ok {t : TP} (h4 : TOk2 t) {p c : Nat} (hp : p ≤ t.1) : (smP t p c).1 < 10000 ∧ ((smP t p c).1 = 0 → (p < (smP t p c).2.1 ∧ (smP t p c).2.1 ≤ t.1) ∧ (c < (smP t p c).2.2.1 ∧ (smP t p c).2.2.1 ≤ 60) ∧ sgk t (smP t p c).2.1 = 0) := by
  unfold smP
  by_cases h : vlF t p c = 0
  · rw [if_pos h]
    obtain ⟨a1, a2⟩ := vl_mv hp h
    have a3 := (vlF_k h).2
    obtain ⟨b1, b2⟩ := smR_ok h4 (t.1 - tkE t p) (tkE t p, c + 1, none, vlD t p) (Nat.le_refl _) a2 (by show c + 1 ≤ 60; omega)
    refine ⟨b1, fun z => ?_⟩
    obtain ⟨c1, c2, c3⟩ := b2 z
    have c1 : tkE t p ≤ (smR t (tkE t p, c + 1, none, vlD t p)).2.1 ∧ (smR t (tkE t p, c + 1, none, vlD t p)).2.1 ≤ t.1 := c1
    have c2 : c + 1 ≤ (smR t (tkE t p, c + 1, none, vlD t p)).2.2.1 ∧ (smR t (tkE t p, c + 1, none, vlD t p)).2.2.1 ≤ 60 := c2
    exact ⟨⟨by omega, c1.2⟩, ⟨by omega, c2.2⟩, c3⟩
  · rw [if_neg h]
    exact ⟨vlF_lt h4 hp, fun z => absurd z h⟩
/-! tests -/
def cmk (t : TP) (p : Nat) : Nat := if tkG t p = nI 60 then 4 else if tkG t p = nI 316 then 5 else if tkG t p = nI 61 then 6 else if tkG t p = nI 318 then 7 else if tkG t p = nI 62 then 8 else 0
theorem cmk_k {t : TP} {p : Nat} (h : cmk t p ≠ 0) : tkK t p = 3 := by
  unfold cmk at h
  split at h
  · rename_i e; exact tkG_k (by decide) e
  · split at h
    · rename_i e; exact tkG_k (by decide) e
    · split at h
      · rename_i e; exact tkG_k (by decide) e
      · split at h
        · rename_i e; exact tkG_k (by decide) e
        · split at h
          · rename_i e; exact tkG_k (by decide) e
          · exact absurd rfl h
abbrev TRs : Type := Nat × Nat × Nat × QD
/-- two sums compared -/
def cmP (t : TP) (p c : Nat) : TRs :=
  if (smP t p c).1 = 0 then
    if cmk t (smP t p c).2.1 = 0 then (1 + 8 * bk t (smP t p c).2.1, 0, 0, fun _ => false)
    else if (smP t p c).2.2.1 < 60 then
      if (smP t (tkE t (smP t p c).2.1) ((smP t p c).2.2.1 + 1)).1 = 0 then (0, (smP t (tkE t (smP t p c).2.1) ((smP t p c).2.2.1 + 1)).2.1, (smP t (tkE t (smP t p c).2.1) ((smP t p c).2.2.1 + 1)).2.2.1, fun v => cpr (cmk t (smP t p c).2.1) ((smP t p c).2.2.2 v) ((smP t (tkE t (smP t p c).2.1) ((smP t p c).2.2.1 + 1)).2.2.2 v))
      else ((smP t (tkE t (smP t p c).2.1) ((smP t p c).2.2.1 + 1)).1, 0, 0, fun _ => false)
    else (1 + 8 * bk t (smP t p c).2.1 + 3, 0, 0, fun _ => false)
  else ((smP t p c).1, 0, 0, fun _ => false)
theorem cmP_ok {t : TP} (h4 : TOk2 t) {p c : Nat} (hp : p ≤ t.1) : (cmP t p c).1 < 10000 ∧ ((cmP t p c).1 = 0 → (p < (cmP t p c).2.1 ∧ (cmP t p c).2.1 ≤ t.1) ∧ (c < (cmP t p c).2.2.1 ∧ (cmP t p c).2.2.1 ≤ 60)) := by
  obtain ⟨a1, a2⟩ := smP_ok h4 (c := c) hp
  have hL := h4.1
  unfold cmP
  by_cases h1 : (smP t p c).1 = 0
  · rw [if_pos h1]
    obtain ⟨⟨b1, b2⟩, ⟨b3, b4⟩, b5⟩ := a2 h1
    have b6 := bk_le b2
    by_cases h2 : cmk t (smP t p c).2.1 = 0
    · rw [if_pos h2]
      exact ⟨by show 1 + 8 * bk t (smP t p c).2.1 < 10000; omega, fun z => absurd z (by show ¬ 1 + 8 * bk t (smP t p c).2.1 = 0; omega)⟩
    · rw [if_neg h2]
      have e1 := tkE_le b2
      by_cases h3 : (smP t p c).2.2.1 < 60
      · rw [if_pos h3]
        obtain ⟨c1, c2⟩ := smP_ok h4 (p := tkE t (smP t p c).2.1) (c := (smP t p c).2.2.1 + 1) e1.1
        by_cases h5 : (smP t (tkE t (smP t p c).2.1) ((smP t p c).2.2.1 + 1)).1 = 0
        · rw [if_pos h5]
          obtain ⟨⟨d1, d2⟩, ⟨d3, d4⟩, d5⟩ := c2 h5
          exact ⟨by show 0 < 10000; decide, fun _ => ⟨⟨by show p < (smP t (tkE t (smP t p c).2.1) ((smP t p c).2.2.1 + 1)).2.1; omega, d2⟩, ⟨by show c < (smP t (tkE t (smP t p c).2.1) ((smP t p c).2.2.1 + 1)).2.2.1; omega, d4⟩⟩⟩
        · rw [if_neg h5]
          exact ⟨c1, fun z => absurd z h5⟩
      · rw [if_neg h3]
        exact ⟨by show 1 + 8 * bk t (smP t p c).2.1 + 3 < 10000; omega, fun z => absurd z (by show ¬ 1 + 8 * bk t (smP t p c).2.1 + 3 = 0; omega)⟩
  · rw [if_neg h1]
    exact ⟨a1, fun z => absurd z h1⟩
/-- what waits for an answer: not 9, and 10, or 11, a bracket 12 -/
abbrev STK : Type := List (Nat × QD)
def apk (k : Nat) (A D : QD) : QD := if k = 9 then (fun v => !D v) else if k = 10 then (fun v => A v && D v) else (fun v => A v || D v)
def popk (k : Nat) : STK → QD → STK × QD
  | [], D => ([], D)
  | x :: s, D => if x.1 = k then popk k s (apk k x.2 D) else (x :: s, D)
def dph : STK → Nat
  | [] => 0
  | x :: s => (if x.1 = 9 ∨ x.1 = 12 then 1 else 0) + dph s
abbrev TSt : Type := Option QD × Nat × Nat × STK
def tsE (t : TP) (p c : Nat) (q : STK × QD) : TRs ⊕ TSt :=
  match q.1 with
  | [] => .inl (0, p, c, q.2)
  | _ :: s => if tkG t p = nI 93 then .inr (some q.2, tkE t p, c, s) else .inl (1 + 8 * bk t p, p, c, fun _ => false)
def tsS (t : TP) (s : TSt) : TRs ⊕ TSt :=
  match s.1 with
  | none =>
    if lts t (bk t s.2.1) = w_not then (if dph s.2.2.2 < 10 then .inr (none, tkE t s.2.1, s.2.2.1, (9, fun _ => false) :: s.2.2.2) else .inl (1 + 8 * bk t s.2.1 + 2, s.2.1, s.2.2.1, fun _ => false))
    else if tkG t s.2.1 = nI 91 then (if dph s.2.2.2 < 10 then .inr (none, tkE t s.2.1, s.2.2.1, (12, fun _ => false) :: s.2.2.2) else .inl (1 + 8 * bk t s.2.1 + 2, s.2.1, s.2.2.1, fun _ => false))
    else if (cmP t s.2.1 s.2.2.1).1 = 0 then .inr (some (cmP t s.2.1 s.2.2.1).2.2.2, (cmP t s.2.1 s.2.2.1).2.1, (cmP t s.2.1 s.2.2.1).2.2.1, s.2.2.2) else .inl (cmP t s.2.1 s.2.2.1)
  | some D =>
    if lts t (bk t s.2.1) = w_and then .inr (none, tkE t s.2.1, s.2.2.1, (10, (popk 10 (popk 9 s.2.2.2 D).1 (popk 9 s.2.2.2 D).2).2) :: (popk 10 (popk 9 s.2.2.2 D).1 (popk 9 s.2.2.2 D).2).1)
    else if lts t (bk t s.2.1) = w_or then .inr (none, tkE t s.2.1, s.2.2.1, (11, (popk 11 (popk 10 (popk 9 s.2.2.2 D).1 (popk 9 s.2.2.2 D).2).1 (popk 10 (popk 9 s.2.2.2 D).1 (popk 9 s.2.2.2 D).2).2).2) :: (popk 11 (popk 10 (popk 9 s.2.2.2 D).1 (popk 9 s.2.2.2 D).2).1 (popk 10 (popk 9 s.2.2.2 D).1 (popk 9 s.2.2.2 D).2).2).1)
    else tsE t s.2.1 s.2.2.1 (popk 11 (popk 10 (popk 9 s.2.2.2 D).1 (popk 9 s.2.2.2 D).2).1 (popk 10 (popk 9 s.2.2.2 D).1 (popk 9 s.2.2.2 D).2).2)
def tsR (t : TP) (s : TSt) : TRs := rn (tsS t) (0, 0, 0, fun _ => false) 500 s
theorem wk_mv {t : TP} {p : Nat} {w : List Nat} (hw : 0 < w.length) (hp : p ≤ t.1) (h : lts t (bk t p) = w) : p < tkE t p ∧ tkE t p ≤ t.1 := by
  have h1 := (tkE_w hw h).1
  have h2 := tkE_gt hp (by omega : tkK t p ≠ 0)
  have h3 := tkE_le hp
  have := bk_ge t p
  omega
theorem gk_mv {t : TP} {p c : Nat} (hc : c < 1000) (hp : p ≤ t.1) (h : tkG t p = nI c) : p < tkE t p ∧ tkE t p ≤ t.1 := by
  have h1 := tkG_k hc h
  have h2 := tkE_gt hp (by omega : tkK t p ≠ 0)
  have h3 := tkE_le hp
  have := bk_ge t p
  omega
theorem tk_bk {t : TP} {p : Nat} (hp : p ≤ t.1) : tkK t (bk t p) = tkK t p ∧ tkE t (bk t p) = tkE t p ∧ tkV t (bk t p) = tkV t p ∧ tkG t (bk t p) = tkG t p ∧ wdk t (bk t p) = wdk t p := by
  have hb := bk_bk hp
  have k : tkK t (bk t p) = tkK t p := by unfold tkK; rw [hb]
  have w : wdB t (bk t p) = wdB t p := by funext j; unfold wdB; rw [hb]
  refine ⟨k, ?_, ?_, ?_, ?_⟩
  · unfold tkE; rw [k, hb]
  · unfold tkV; rw [k, hb]
  · unfold tkG; rw [k, hb]
  · unfold wdk; rw [w]
theorem smP_bk {t : TP} {p c : Nat} (hp : p ≤ t.1) : smP t (bk t p) c = smP t p c := by
  obtain ⟨k1, k2, k3, k4, k5⟩ := tk_bk hp
  have hb := bk_bk hp
  have f : vlF t (bk t p) c = vlF t p c := by unfold vlF; rw [k1, k5, hb]
  have d : vlD t (bk t p) = vlD t p := by unfold vlD; rw [k1, k3, k5]
  unfold smP
  rw [f, k2, d]
theorem cmP_bk {t : TP} {p c : Nat} (hp : p ≤ t.1) : cmP t (bk t p) c = cmP t p c := by
  unfold cmP
  rw [smP_bk hp]
theorem tsS_mv {t : TP} (h4 : TOk2 t) {s s' : TSt} (hp : s.2.1 ≤ t.1) (h : tsS t s = .inr s') : s'.2.1 ≤ t.1 ∧ s.2.1 < s'.2.1 := by
  obtain ⟨o, p, c, stk⟩ := s
  have hp : p ≤ t.1 := hp
  show s'.2.1 ≤ t.1 ∧ p < s'.2.1
  cases o with
  | none =>
    unfold tsS at h
    dsimp only at h
    split at h
    · rename_i h1
      have := wk_mv (by decide) hp h1
      split at h
      · cases h; exact ⟨this.2, this.1⟩
      · cases h
    · split at h
      · rename_i h1
        have := gk_mv (by decide) hp h1
        split at h
        · cases h; exact ⟨this.2, this.1⟩
        · cases h
      · split at h
        · rename_i h1
          cases h
          have := ((cmP_ok h4 (c := c) hp).2 h1).1
          exact ⟨this.2, this.1⟩
        · cases h
  | some D =>
    unfold tsS at h
    dsimp only at h
    split at h
    · rename_i h1
      cases h
      have := wk_mv (by decide) hp h1
      exact ⟨this.2, this.1⟩
    · split at h
      · rename_i h1
        cases h
        have := wk_mv (by decide) hp h1
        exact ⟨this.2, this.1⟩
      · unfold tsE at h
        split at h
        · cases h
        · split at h
          · rename_i h1
            cases h
            have := gk_mv (by decide) hp h1
            exact ⟨this.2, this.1⟩
          · cases h
theorem tsR_st {t : TP} (h4 : TOk2 t) {s : TSt} (hp : s.2.1 ≤ t.1) : tsR t s = Sum.elim id (tsR t) (tsS t s) := by
  have h := h4.1
  refine rn_eq (I := fun s => s.2.1 ≤ t.1) (μ := fun s => t.1 - s.2.1) (fun s s' hi e => ?_) hp (by show t.1 - s.2.1 < 500; omega)
  have := tsS_mv h4 hi e
  refine ⟨this.1, ?_⟩
  show t.1 - s'.2.1 < t.1 - s.2.1
  omega
/-! clauses and rules -/
abbrev CLs : Type := Option QD × RD
/-- a clause: fault, place behind, how many are counted, what it says -/
def clP (t : TP) (p c n : Nat) : Nat × Nat × Nat × CLs :=
  if lts t (bk t p) = w_tell then
    if n = 12 then (1 + 8 * bk t p + 4, 0, 0, none, fun _ => 0)
    else if (smP t (tkE t p) c).1 = 0 then
      if lts t (bk t (smP t (tkE t p) c).2.1) = w_if then
        ((tsR t (none, tkE t (smP t (tkE t p) c).2.1, (smP t (tkE t p) c).2.2.1, [])).1, (tsR t (none, tkE t (smP t (tkE t p) c).2.1, (smP t (tkE t p) c).2.2.1, [])).2.1, (tsR t (none, tkE t (smP t (tkE t p) c).2.1, (smP t (tkE t p) c).2.2.1, [])).2.2.1, some (tsR t (none, tkE t (smP t (tkE t p) c).2.1, (smP t (tkE t p) c).2.2.1, [])).2.2.2, (smP t (tkE t p) c).2.2.2)
      else (0, (smP t (tkE t p) c).2.1, (smP t (tkE t p) c).2.2.1, none, (smP t (tkE t p) c).2.2.2)
    else ((smP t (tkE t p) c).1, 0, 0, none, fun _ => 0)
  else (1 + 8 * bk t p, 0, 0, none, fun _ => 0)
def ruL (t : TP) : Nat → Nat → Nat → Nat → Nat × List CLs
  | 0, _, _, _ => (1, [])
  | d + 1, n, p, c =>
    if (clP t p c n).1 = 0 then
      if tkG t (clP t p c n).2.1 = nI 59 then ((ruL t d (n + 1) (tkE t (clP t p c n).2.1) (clP t p c n).2.2.1).1, (clP t p c n).2.2.2 :: (ruL t d (n + 1) (tkE t (clP t p c n).2.1) (clP t p c n).2.2.1).2)
      else (gof t (clP t p c n).2.1, [(clP t p c n).2.2.2])
    else ((clP t p c n).1, [])
def rlD : List CLs → RD
  | [] => fun _ => 0
  | x :: l => fun v => if x.1.elim true (fun q => q v) then x.2 v else rlD l v
theorem tsS_c {t : TP} (h4 : TOk2 t) {s s' : TSt} (hp : s.2.1 ≤ t.1) (hc : s.2.2.1 ≤ 60) (h : tsS t s = .inr s') : s.2.2.1 ≤ s'.2.2.1 ∧ s'.2.2.1 ≤ 60 := by
  obtain ⟨o, p, c, stk⟩ := s
  have hp : p ≤ t.1 := hp
  have hc : c ≤ 60 := hc
  show c ≤ s'.2.2.1 ∧ s'.2.2.1 ≤ 60
  cases o with
  | none =>
    unfold tsS at h
    dsimp only at h
    split at h
    · split at h
      · cases h; exact ⟨Nat.le_refl _, hc⟩
      · cases h
    · split at h
      · split at h
        · cases h; exact ⟨Nat.le_refl _, hc⟩
        · cases h
      · split at h
        · rename_i h1
          cases h
          have : c < (cmP t p c).2.2.1 ∧ (cmP t p c).2.2.1 ≤ 60 := ((cmP_ok h4 (c := c) hp).2 h1).2
          exact ⟨by show c ≤ (cmP t p c).2.2.1; omega, this.2⟩
        · cases h
  | some D =>
    unfold tsS at h
    dsimp only at h
    split at h
    · cases h; exact ⟨Nat.le_refl _, hc⟩
    · split at h
      · cases h; exact ⟨Nat.le_refl _, hc⟩
      · unfold tsE at h
        split at h
        · cases h
        · split at h
          · cases h; exact ⟨Nat.le_refl _, hc⟩
          · cases h
theorem tsS_r {t : TP} (h4 : TOk2 t) {s : TSt} {r : TRs} (hp : s.2.1 ≤ t.1) (h : tsS t s = .inl r) : r.1 < 10000 ∧ (r.1 = 0 → r.2.1 = s.2.1 ∧ r.2.2.1 = s.2.2.1) := by
  obtain ⟨o, p, c, stk⟩ := s
  have hp : p ≤ t.1 := hp
  have hb := bk_le hp
  have hL := h4.1
  show r.1 < 10000 ∧ (r.1 = 0 → r.2.1 = p ∧ r.2.2.1 = c)
  cases o with
  | none =>
    unfold tsS at h
    dsimp only at h
    split at h
    · split at h
      · cases h
      · cases h
        exact ⟨by show 1 + 8 * bk t p + 2 < 10000; omega, fun _ => ⟨rfl, rfl⟩⟩
    · split at h
      · split at h
        · cases h
        · cases h
          exact ⟨by show 1 + 8 * bk t p + 2 < 10000; omega, fun _ => ⟨rfl, rfl⟩⟩
      · split at h
        · cases h
        · rename_i h1
          cases h
          exact ⟨(cmP_ok h4 (c := c) hp).1, fun z => absurd z h1⟩
  | some D =>
    unfold tsS at h
    dsimp only at h
    split at h
    · cases h
    · split at h
      · cases h
      · unfold tsE at h
        split at h
        · cases h
          exact ⟨by show 0 < 10000; decide, fun _ => ⟨rfl, rfl⟩⟩
        · split at h
          · cases h
          · cases h
            exact ⟨by show 1 + 8 * bk t p < 10000; omega, fun _ => ⟨rfl, rfl⟩⟩
theorem tsR_l {t : TP} (h4 : TOk2 t) {s : TSt} {r : TRs} (hp : s.2.1 ≤ t.1) (h : tsS t s = .inl r) : tsR t s = r := by rw [tsR_st h4 hp, h, Sum.elim_inl, id_eq]
theorem tsR_r {t : TP} (h4 : TOk2 t) {s s' : TSt} (hp : s.2.1 ≤ t.1) (h : tsS t s = .inr s') : tsR t s = tsR t s' := by rw [tsR_st h4 hp, h, Sum.elim_inr]
theorem tsR_ok {t : TP} (h4 : TOk2 t) : ∀ d (s : TSt), t.1 - s.2.1 ≤ d → s.2.1 ≤ t.1 → s.2.2.1 ≤ 60 → (tsR t s).1 < 10000 ∧ ((tsR t s).1 = 0 → (s.2.1 ≤ (tsR t s).2.1 ∧ (tsR t s).2.1 ≤ t.1) ∧ (s.2.2.1 ≤ (tsR t s).2.2.1 ∧ (tsR t s).2.2.1 ≤ 60)) := by
  have fin : ∀ (s : TSt) (r : TRs), s.2.1 ≤ t.1 → s.2.2.1 ≤ 60 → tsS t s = .inl r → (tsR t s).1 < 10000 ∧ ((tsR t s).1 = 0 → (s.2.1 ≤ (tsR t s).2.1 ∧ (tsR t s).2.1 ≤ t.1) ∧ (s.2.2.1 ≤ (tsR t s).2.2.1 ∧ (tsR t s).2.2.1 ≤ 60)) := by
    intro s r hp hc e
    rw [tsR_l h4 hp e]
    obtain ⟨a1, a2⟩ := tsS_r h4 hp e
    refine ⟨a1, fun z => ?_⟩
    obtain ⟨b1, b2⟩ := a2 z
    exact ⟨⟨by omega, by omega⟩, ⟨by omega, by omega⟩⟩
  intro d
  induction d with
  | zero =>
    intro s hd hp hc
    cases e : tsS t s with
    | inr s' =>
      have := tsS_mv h4 hp e
      omega
    | inl r => exact fin s r hp hc e
  | succ d ih =>
    intro s hd hp hc
    cases e : tsS t s with
    | inr s' =>
      have a1 := tsS_mv h4 hp e
      have a2 := tsS_c h4 hp hc e
      have hb := ih s' (by omega) a1.1 a2.2
      rw [tsR_r h4 hp e]
      obtain ⟨r, hr⟩ : ∃ r, r = tsR t s' := ⟨_, rfl⟩
      rw [← hr] at hb ⊢
      obtain ⟨b1, b2⟩ := hb
      refine ⟨b1, fun z => ?_⟩
      obtain ⟨c1, c2⟩ := b2 z
      exact ⟨⟨by omega, c1.2⟩, ⟨by omega, c2.2⟩⟩
    | inl r => exact fin s r hp hc e
theorem clP_ok {t : TP} (h4 : TOk2 t) {p c n : Nat} (hp : p ≤ t.1) (hc : c ≤ 60) : (clP t p c n).1 < 10000 ∧ ((clP t p c n).1 = 0 → (p < (clP t p c n).2.1 ∧ (clP t p c n).2.1 ≤ t.1) ∧ (c ≤ (clP t p c n).2.2.1 ∧ (clP t p c n).2.2.1 ≤ 60) ∧ n ≠ 12) := by
  have hb := bk_le hp
  have hL := h4.1
  unfold clP
  by_cases h1 : lts t (bk t p) = w_tell
  · rw [if_pos h1]
    have m1 := wk_mv (by decide) hp h1
    by_cases h2 : n = 12
    · rw [if_pos h2]
      exact ⟨by show 1 + 8 * bk t p + 4 < 10000; omega, fun z => absurd z (by show ¬ 1 + 8 * bk t p + 4 = 0; omega)⟩
    · rw [if_neg h2]
      obtain ⟨a1, a2⟩ := smP_ok h4 (p := tkE t p) (c := c) m1.2
      by_cases h3 : (smP t (tkE t p) c).1 = 0
      · rw [if_pos h3]
        obtain ⟨⟨b1, b2⟩, ⟨b3, b4⟩, b5⟩ := a2 h3
        by_cases h5 : lts t (bk t (smP t (tkE t p) c).2.1) = w_if
        · rw [if_pos h5]
          have m2 := wk_mv (by decide) b2 h5
          have hr := tsR_ok h4 t.1 (none, tkE t (smP t (tkE t p) c).2.1, (smP t (tkE t p) c).2.2.1, []) (Nat.sub_le _ _) m2.2 b4
          obtain ⟨r, er⟩ : ∃ r, r = tsR t (none, tkE t (smP t (tkE t p) c).2.1, (smP t (tkE t p) c).2.2.1, []) := ⟨_, rfl⟩
          rw [← er] at hr ⊢
          obtain ⟨c1, c2⟩ := hr
          refine ⟨c1, fun z => ?_⟩
          obtain ⟨d1, d2⟩ := c2 z
          have d1 : tkE t (smP t (tkE t p) c).2.1 ≤ r.2.1 ∧ r.2.1 ≤ t.1 := d1
          have d2 : (smP t (tkE t p) c).2.2.1 ≤ r.2.2.1 ∧ r.2.2.1 ≤ 60 := d2
          exact ⟨⟨by show p < r.2.1; omega, d1.2⟩, ⟨by show c ≤ r.2.2.1; omega, d2.2⟩, h2⟩
        · rw [if_neg h5]
          exact ⟨by show 0 < 10000; decide, fun _ => ⟨⟨by show p < (smP t (tkE t p) c).2.1; omega, b2⟩, ⟨by show c ≤ (smP t (tkE t p) c).2.2.1; omega, b4⟩, h2⟩⟩
      · rw [if_neg h3]
        exact ⟨a1, fun z => absurd z h3⟩
  · rw [if_neg h1]
    exact ⟨by show 1 + 8 * bk t p < 10000; omega, fun z => absurd z (by show ¬ 1 + 8 * bk t p = 0; omega)⟩
theorem gof_lt {t : TP} (h4 : TOk2 t) {p : Nat} (hp : p ≤ t.1) : gof t p < 10000 := by
  have hb := bk_le hp
  have hL := h4.1
  unfold gof
  split
  · decide
  · split
    · decide
    · omega
theorem ruL_lt {t : TP} (h4 : TOk2 t) : ∀ d n p c, p ≤ t.1 → c ≤ 60 → (ruL t d n p c).1 < 10000
  | 0, _, _, _, _, _ => by show 1 < 10000; decide
  | d + 1, n, p, c, hp, hc => by
    obtain ⟨a1, a2⟩ := clP_ok h4 (n := n) hp hc
    rw [ruL]
    by_cases h1 : (clP t p c n).1 = 0
    · rw [if_pos h1]
      obtain ⟨⟨b1, b2⟩, ⟨b3, b4⟩, b5⟩ := a2 h1
      by_cases h2 : tkG t (clP t p c n).2.1 = nI 59
      · rw [if_pos h2]
        exact ruL_lt h4 d (n + 1) _ _ (gk_mv (by decide) b2 h2).2 b4
      · rw [if_neg h2]
        exact gof_lt h4 b2
    · rw [if_neg h1]
      exact a1
