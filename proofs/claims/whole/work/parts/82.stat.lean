/-! THE STATE: books, and how the reference holds them -/
variable {O : Mem}
abbrev PD : Type := Nat × (Nat → SC)
def psh (P : PD) (S : SC) : PD := if P.1 = 20 then (20, fun i => if i = 19 then S else P.2 (i + 1)) else (P.1 + 1, fset P.2 P.1 S)
abbrev BD : Type := TD × SC × ND × PD × Nat × Option Nat
def bT (B : BD) : TD := B.1
def bS (B : BD) : SC := B.2.1
def bN (B : BD) : ND := B.2.2.1
def bP (B : BD) : PD := B.2.2.2.1
def bX (B : BD) : Nat := B.2.2.2.2.1
def bF (B : BD) : Option Nat := B.2.2.2.2.2
def BOk (c : Nat) (B : BD) : Prop := TOk (bT B) ∧ SOk (bS B) ∧ sT (bS B) ≤ 999 ∧ NOk (bT B) (bN B) ∧ ((bP B).1 ≤ 20 ∧ ∀ i, i < (bP B).1 → SOk ((bP B).2 i) ∧ sT ((bP B).2 i) ≤ 999) ∧ bX B < 2 ^ 31 ∧ ∀ i, bF B = some i → i < c
theorem psh_ok {P : PD} {S : SC} (h1 : P.1 ≤ 20) (h2 : ∀ i, i < P.1 → SOk (P.2 i) ∧ sT (P.2 i) ≤ 999) (hs : SOk S ∧ sT S ≤ 999) : (psh P S).1 ≤ 20 ∧ ∀ i, i < (psh P S).1 → SOk ((psh P S).2 i) ∧ sT ((psh P S).2 i) ≤ 999 := by
  unfold psh
  by_cases h : P.1 = 20
  · rw [if_pos h]
    refine ⟨Nat.le_refl _, fun i hi => ?_⟩
    have hi : i < 20 := hi
    show SOk (if i = 19 then S else P.2 (i + 1)) ∧ sT (if i = 19 then S else P.2 (i + 1)) ≤ 999
    by_cases e : i = 19
    · rw [if_pos e]; exact hs
    · rw [if_neg e]; exact h2 (i + 1) (by omega)
  · rw [if_neg h]
    refine ⟨by show P.1 + 1 ≤ 20; omega, fun i hi => ?_⟩
    have hi : i < P.1 + 1 := hi
    show SOk (fset P.2 P.1 S i) ∧ sT (fset P.2 P.1 S i) ≤ 999
    by_cases e : i = P.1
    · rw [e, fset_s]; exact hs
    · rw [fset_o _ _ e]; exact h2 i (by omega)
def RRec (g : Nat → Int32) (T : TD) (S : SC) : Prop := (g 0 = nI (sT S) ∧ g 1 = nI (ernA T S)) ∧ (∀ j, j < tJ T → g (2 + j) = eH (-1000) (sH S j)) ∧ (∀ s, s < tN T → g (10 + s) = nI (sW S s) ∧ g (15 + s) = eP (sP S s))
def RPf (pm : Int32) (ps : Nat → Int32) (T : TD) (P : PD) : Prop := pm = nI P.1 ∧ ∀ i, i < P.1 → RRec (fun k => ps (20 * i + k)) T (P.2 i)
def RBf (sc he kn pa : Nat → Int32) (pm : Int32) (pt ca ke tk nt ns nj ps : Nat → Int32) (B : BD) : Prop :=
  ((sc 0 = nI (tF (bT B)) ∧ sc 1 = nI (tK (bT B)) ∧ sc 2 = nI (tJ (bT B)) ∧ sc 3 = nI (tN (bT B))) ∧ (∀ i, i < 3 * tJ (bT B) → pt i = nI (tP (bT B) i)) ∧ (∀ s, s < tN (bT B) → ca s = nI (tC (bT B) s) ∧ ke s = nI (tE (bT B) s) ∧ tk s = nI (tW (bT B) s))) ∧
  ((sc 4 = nI (sT (bS B)) ∧ sc 5 = nI (ernA (bT B) (bS B))) ∧ (∀ j, j < tJ (bT B) → he j = eH (-1000) (sH (bS B) j)) ∧ (∀ s, s < tN (bT B) → kn s = nI (sW (bS B) s) ∧ pa s = eP (sP (bS B) s))) ∧
  (sc 6 = nI (nC (bN B)) ∧ ∀ i, i < nC (bN B) → nt i = nI (nT (bN B) i) ∧ ns i = nI (nS (bN B) i) ∧ nj i = eP (nJ (bN B) i)) ∧
  (sc 7 = nI (bX B) ∧ sc 8 = eP (bF B)) ∧ RPf pm ps (bT B) (bP B)
theorem RBf.cg {sc he kn pa pt ca ke tk nt ns nj ps sc' he' kn' pa' pt' ca' ke' tk' nt' ns' nj' ps' : Nat → Int32} {pm pm' : Int32} {B : BD} {c : Nat} (hk : BOk c B) (h : RBf sc he kn pa pm pt ca ke tk nt ns nj ps B)
    (h1 : ∀ i, i < 9 → sc' i = sc i) (h2 : ∀ i, i < 8 → he' i = he i) (h3 : ∀ i, i < 5 → kn' i = kn i) (h4 : ∀ i, i < 5 → pa' i = pa i) (h5 : pm' = pm) (h6 : ∀ i, i < 24 → pt' i = pt i) (h7 : ∀ i, i < 5 → ca' i = ca i) (h8 : ∀ i, i < 5 → ke' i = ke i) (h9 : ∀ i, i < 5 → tk' i = tk i) (h10 : ∀ i, i < 10 → nt' i = nt i) (h11 : ∀ i, i < 10 → ns' i = ns i) (h12 : ∀ i, i < 10 → nj' i = nj i) (h13 : ∀ i, i < 400 → ps' i = ps i) : RBf sc' he' kn' pa' pm' pt' ca' ke' tk' nt' ns' nj' ps' B := by
  obtain ⟨⟨⟨a0, a1, a2, a3⟩, a4, a5⟩, ⟨⟨b0, b1⟩, b2, b3⟩, ⟨c0, c1⟩, ⟨d0, d1⟩, e0, e1⟩ := h
  obtain ⟨⟨⟨-, -, k1, k2⟩, -⟩, -, -, ⟨k3, -⟩, ⟨k4, -⟩, -⟩ := hk
  refine ⟨⟨⟨(h1 0 (by decide)).trans a0, (h1 1 (by decide)).trans a1, (h1 2 (by decide)).trans a2, (h1 3 (by decide)).trans a3⟩, fun i hi => (h6 i (by omega)).trans (a4 i hi), fun s hs => ⟨(h7 s (by omega)).trans (a5 s hs).1, (h8 s (by omega)).trans (a5 s hs).2.1, (h9 s (by omega)).trans (a5 s hs).2.2⟩⟩, ⟨⟨(h1 4 (by decide)).trans b0, (h1 5 (by decide)).trans b1⟩, fun j hj => (h2 j (by omega)).trans (b2 j hj), fun s hs => ⟨(h3 s (by omega)).trans (b3 s hs).1, (h4 s (by omega)).trans (b3 s hs).2⟩⟩, ⟨(h1 6 (by decide)).trans c0, fun i hi => ⟨(h10 i (by omega)).trans (c1 i hi).1, (h11 i (by omega)).trans (c1 i hi).2.1, (h12 i (by omega)).trans (c1 i hi).2.2⟩⟩, ⟨(h1 7 (by decide)).trans d0, (h1 8 (by decide)).trans d1⟩, h5.trans e0, fun i hi => ?_⟩
  obtain ⟨⟨f0, f1⟩, f2, f3⟩ := e1 i hi
  exact ⟨⟨(h13 _ (by omega)).trans f0, (h13 _ (by omega)).trans f1⟩, fun j hj => (h13 _ (by omega)).trans (f2 j hj), fun s hs => ⟨(h13 _ (by omega)).trans (f3 s hs).1, (h13 _ (by omega)).trans (f3 s hs).2⟩⟩
def RBk (M : Mem) (m : Nat) (B : BD) : Prop := RBf (mI M (m + 1)) (mI M (m + 5)) (mI M (m + 6)) (mI M (m + 7)) (mI M m 42) (mI M (m + 2)) (mI M (m + 3)) (mI M (m + 4)) (mI M (m + 11)) (mI M (m + 8)) (mI M (m + 9)) (mI M (m + 10)) (mI M (m + 28)) B
def RImf (f : Nat → Int32) (B : BD) : Prop := RBf f (fun i => f (9 + i)) (fun i => f (17 + i)) (fun i => f (22 + i)) (f 27) (fun i => f (28 + i)) (fun i => f (52 + i)) (fun i => f (57 + i)) (fun i => f (62 + i)) (fun i => f (67 + i)) (fun i => f (77 + i)) (fun i => f (87 + i)) (fun i => f (97 + i)) B
theorem RImf.cg {f f' : Nat → Int32} {B : BD} {c : Nat} (hk : BOk c B) (h : RImf f B) (e : ∀ i, i < 600 → f' i = f i) : RImf f' B :=
  RBf.cg hk h (fun i hi => e _ (by omega)) (fun i hi => e _ (by omega)) (fun i hi => e _ (by omega)) (fun i hi => e _ (by omega)) (e _ (by omega)) (fun i hi => e _ (by omega)) (fun i hi => e _ (by omega)) (fun i hi => e _ (by omega)) (fun i hi => e _ (by omega)) (fun i hi => e _ (by omega)) (fun i hi => e _ (by omega)) (fun i hi => e _ (by omega)) (fun i hi => e _ (by omega))
/-- a byte as the reference's tape has it -/
def sbI (y : Nat) : Int32 := (Int32.toInt8 (nI y)).toInt32
/-- all: the book, the tape, the rules, the images -/
abbrev GD : Type := BD × (Nat × (Nat → Nat)) × (Nat × (Nat → RD)) × (Nat → Option BD)
def zB (G : GD) : BD := G.1
def zL (G : GD) : Nat := G.2.1.1
def zY (G : GD) : Nat → Nat := G.2.1.2
def zC (G : GD) : Nat := G.2.2.1.1
def zW (G : GD) : Nat → RD := G.2.2.1.2
def zM (G : GD) : Nat → Option BD := G.2.2.2
def wB (G : GD) (B : BD) : GD := (B, G.2)
def zR (G : GD) : Option RD := (bF (zB G)).map (zW G)
def GOk (G : GD) : Prop := BOk (zC G) (zB G) ∧ zL G ≤ 400 ∧ (∀ i, zY G i < 256) ∧ zC G ≤ 6 ∧ ∀ k B, zM G k = some B → BOk (zC G) B
/-- all beyond the reference is as in O -/
def OG (O : Mem) (m : Nat) (M : Mem) : Prop := (mS M = mS O ∧ mR M = mR O) ∧ ∀ a, a < m ∨ m + 36 < a → mI M a = mI O a
theorem OG.up {O M M' : Mem} {m : Nat} (h : OG O m M) (hS : mS M' = mS M ∧ mR M' = mR M) (hI : ∀ a, a < m ∨ m + 36 < a → mI M' a = mI M a) : OG O m M' := ⟨⟨hS.1.trans h.1.1, hS.2.trans h.1.2⟩, fun a ha => (hI a ha).trans (h.2 a ha)⟩
def RG (O : Mem) (m : Nat) (M : Mem) (G : GD) : Prop := (RIs (mS M) (mR M) m ∧ ROv M m none ∧ mI M m 26 = nI 11 ∧ OG O m M) ∧ RBk M m (zB G) ∧ RWs M m (zC G) (zW G) ∧ (mI M m 17 = nI (zL G) ∧ ∀ i, i < zL G → mI M (m + 17) i = sbI (zY G i)) ∧ (∀ k, k < 4 → mI M (m + 36) k = bI (zM G k).isSome ∧ ∀ B, zM G k = some B → RImf (fun i => mI M (m + 35) (600 * k + i)) B)
/-- what no act changes -/
def RF0 (m : Nat) (M M' : Mem) : Prop := (mS M' = mS M ∧ mR M' = mR M) ∧ (∀ a, a < m ∨ m + 36 < a → mI M' a = mI M a) ∧ (∀ k, k = 17 ∨ k = 21 ∨ k = 26 ∨ k = 38 → mI M' m k = mI M m k) ∧ (∀ a, 17 ≤ a → a ≤ 23 → mI M' (m + a) = mI M (m + a)) ∧ mI M' (m + 36) = mI M (m + 36) ∧ ∀ i, i < 2400 → mI M' (m + 35) i = mI M (m + 35) i
theorem RG.up {m : Nat} {M M' : Mem} {G : GD} (h : RG O m M G) (hk : GOk G) (f : RF0 m M M') {B : BD} (hB : RBk M' m B) : RG O m M' (wB G B) := by
  obtain ⟨⟨h1, h2, h3, ho⟩, h4, h5, ⟨h6, h7⟩, h8⟩ := h
  obtain ⟨⟨f1, f2⟩, fo, f3, f4, f5, f6⟩ := f
  refine ⟨⟨by rw [f1, f2]; exact h1, ?_, (f3 26 (by omega)).trans h3, ho.up ⟨f1, f2⟩ fo⟩, hB, h5.of (fun a a1 a2 => f4 a (by omega) (by omega)) (f3 21 (by omega)), ⟨(f3 17 (by omega)).trans h6, by rw [f4 17 (by omega) (by omega)]; exact h7⟩, fun k hk4 => ⟨by rw [f5]; exact (h8 k hk4).1, fun B2 hB2 => RImf.cg (hk.2.2.2.2 k B2 hB2) ((h8 k hk4).2 B2 hB2) (fun i hi => f6 _ (by omega))⟩⟩
  exact (f3 38 (by omega)).trans h2
theorem RG.rt {m : Nat} {M : Mem} {G : GD} (h : RG O m M G) : RT M m (bT (zB G)) := h.2.1.1
theorem RG.rs {m : Nat} {M : Mem} {G : GD} (h : RG O m M G) : RS M m (bT (zB G)) (bS (zB G)) := h.2.1.2.1
theorem RG.rn {m : Nat} {M : Mem} {G : GD} (h : RG O m M G) : RN M m (bN (zB G)) := h.2.1.2.2.1
theorem RG.re {m : Nat} {M : Mem} {G : GD} (h : RG O m M G) (hk : GOk G) : RE m M (bT (zB G)) (bS (zB G)) (zR G) :=
  ⟨⟨h.1.1, h.rt, h.rs, h.2.2.1.ru hk.1.2.2.2.2.2.2 h.2.1.2.2.2.1.2, h.1.2.1⟩, hk.1.1, hk.1.2.1, hk.1.2.2.1⟩
/-- a question leaves all as it was -/
theorem RG.qu {m : Nat} {M M' : Mem} {G : GD} (h : RG O m M G) (hk : GOk G) (a : RA m M M') : RG O m M' G := by
  rcases a with a | a
  · rw [a]; exact h
  · obtain ⟨q, b, h38⟩ := a
    have e : wB G (zB G) = G := rfl
    rw [← e]
    refine h.up hk ⟨q.1, fun a ha => q.2.1 a (by omega), fun k hk2 => ?_, fun a a1 a2 => q.2.1 _ (by omega), q.2.1 _ (by omega), q.2.2.2.2.1⟩ ?_
    · by_cases e : k = 38
      · rw [e, h38]; exact h.1.2.1.symm
      · exact q.2.2.2.1 k e (by omega) (by omega) (by omega)
    · exact RBf.cg hk.1 h.2.1 b.1 b.2.1 b.2.2.1 b.2.2.2 (q.2.2.2.1 42 (by decide) (by decide) (by decide) (by decide)) (fun i _ => by rw [q.2.1 _ (by omega)]) (fun i _ => by rw [q.2.1 _ (by omega)]) (fun i _ => by rw [q.2.1 _ (by omega)]) (fun i _ => by rw [q.2.1 _ (by omega)]) (fun i _ => by rw [q.2.1 _ (by omega)]) (fun i _ => by rw [q.2.1 _ (by omega)]) (fun i _ => by rw [q.2.1 _ (by omega)]) (fun i _ => by rw [q.2.1 _ (by omega)])
/-- the scene alone changes -/
def GA (m : Nat) (M M' : Mem) : Prop := (mS M' = mS M ∧ mR M' = mR M) ∧ (∀ a, a ≠ m + 1 → a ≠ m + 5 → a ≠ m + 6 → a ≠ m + 7 → a ≠ m + 27 → mI M' a = mI M a) ∧ (∀ k, k ≠ 4 → k ≠ 5 → mI M' (m + 1) k = mI M (m + 1) k)
theorem GE.GA {m : Nat} {M M' : Mem} (h : GE m M M') : GA m M M' := ⟨⟨h.1, h.2.1⟩, fun a a1 a5 _ a7 a27 => h.2.2.1 a a1 a5 a7 a27, h.2.2.2.1⟩
theorem GA.w {m : Nat} (M : Mem) {a : Nat} (ha : a = m + 5 ∨ a = m + 6 ∨ a = m + 7) (k : Nat) (v : Int32) : GA m M (sI M a k v) := ⟨⟨rfl, rfl⟩, fun b b1 b5 b6 b7 _ => sI_row (by omega), fun k _ _ => by rw [sI_row (by omega)]⟩
theorem GA.tr {m : Nat} {M1 M2 M3 : Mem} (h1 : GA m M1 M2) (h2 : GA m M2 M3) : GA m M1 M3 := ⟨⟨h2.1.1.trans h1.1.1, h2.1.2.trans h1.1.2⟩, fun a a1 a2 a3 a4 a5 => (h2.2.1 a a1 a2 a3 a4 a5).trans (h1.2.1 a a1 a2 a3 a4 a5), fun k k1 k2 => (h2.2.2 k k1 k2).trans (h1.2.2 k k1 k2)⟩
theorem RG.sc {m : Nat} {M M' : Mem} {G : GD} (h : RG O m M G) (hk : GOk G) (g : GA m M M') {S : SC} (hS : RS M' m (bT (zB G)) S) : RG O m M' (wB G (bT (zB G), S, bN (zB G), bP (zB G), bX (zB G), bF (zB G))) := by
  obtain ⟨g1, g2, g3⟩ := g
  refine h.up hk ⟨g1, fun a ha => g2 a (by omega) (by omega) (by omega) (by omega) (by omega), fun k hk2 => by rw [g2 m (by omega) (by omega) (by omega) (by omega) (by omega)], fun a a1 a2 => g2 _ (by omega) (by omega) (by omega) (by omega) (by omega), g2 _ (by omega) (by omega) (by omega) (by omega) (by omega), fun i _ => by rw [g2 _ (by omega) (by omega) (by omega) (by omega) (by omega)]⟩ ?_
  obtain ⟨⟨⟨a0, a1, a2, a3⟩, a4, a5⟩, b, ⟨c0, c1⟩, ⟨d0, d1⟩, e0, e1⟩ := h.2.1
  refine ⟨⟨⟨(g3 0 (by decide) (by decide)).trans a0, (g3 1 (by decide) (by decide)).trans a1, (g3 2 (by decide) (by decide)).trans a2, (g3 3 (by decide) (by decide)).trans a3⟩, ?_, ?_⟩, hS, ⟨(g3 6 (by decide) (by decide)).trans c0, ?_⟩, ⟨(g3 7 (by decide) (by decide)).trans d0, (g3 8 (by decide) (by decide)).trans d1⟩, ?_, ?_⟩
  · rw [g2 (m + 2) (by omega) (by omega) (by omega) (by omega) (by omega)]; exact a4
  · rw [g2 (m + 3) (by omega) (by omega) (by omega) (by omega) (by omega), g2 (m + 4) (by omega) (by omega) (by omega) (by omega) (by omega), g2 (m + 11) (by omega) (by omega) (by omega) (by omega) (by omega)]; exact a5
  · rw [g2 (m + 8) (by omega) (by omega) (by omega) (by omega) (by omega), g2 (m + 9) (by omega) (by omega) (by omega) (by omega) (by omega), g2 (m + 10) (by omega) (by omega) (by omega) (by omega) (by omega)]; exact c1
  · rw [g2 m (by omega) (by omega) (by omega) (by omega) (by omega)]; exact e0
  · rw [g2 (m + 28) (by omega) (by omega) (by omega) (by omega) (by omega)]; exact e1
/-! an act is kept -/
def bPu (B : BD) : BD := (bT B, bS B, bN B, psh (bP B) (bS B), bX B, bF B)
theorem bPu_ok {c : Nat} {B : BD} (h : BOk c B) : BOk c (bPu B) := ⟨h.1, h.2.1, h.2.2.1, h.2.2.2.1, psh_ok h.2.2.2.2.1.1 h.2.2.2.2.1.2 ⟨h.2.1, h.2.2.1⟩, h.2.2.2.2.2⟩
theorem GOk.b {G : GD} (h : GOk G) {B : BD} (hB : BOk (zC G) B) : GOk (wB G B) := ⟨hB, h.2⟩
theorem x_keep1 {m : Nat} {M : Mem} {G : GD} (h : RG O m M G) (hk : GOk G) {M1 : Mem} {n : Nat} {Q : Nat → SC} (hn : n < 20) (hR1 : RIs (mS M1) (mR M1) m) (fr : FX [m, m + 28] M M1) (fm : ∀ k, k ≠ 42 → mI M1 m k = mI M m k) (h42 : mI M1 m 42 = nI n) (hQ : ∀ i, i < n → RRec (fun k => mI M1 (m + 28) (20 * i + k)) (bT (zB G)) (Q i)) :
    WP (f_X10_keepsAct_J50 m M1) (fun _ M' => RG O m M' (wB G (bT (zB G), bS (zB G), bN (zB G), (n + 1, fset Q n (bS (zB G))), bX (zB G), bF (zB G)))) := by
  have h1 := hk.1.1.1.2.2.1
  have h2 := hk.1.1.1.2.2.2
  unfold f_X10_keepsAct_J50
  repeat (first | ((with_reducible apply WP.ce); case h => (simp (disch := omega) only []; with_reducible rfl)) | ((with_reducible apply WP.bd); case h => (simp (disch := omega) only [e_gR, e_gI, e_aI, e_aL, e_oO, e_pI, e_wI, e_wL, Option.map_some, mS_sL, mR_sL, mI_sL, mS_sI, mR_sI, mL_sI, n_cl, ro_m hR1, h42]; with_reducible rfl)) | rw [nm_eq] | rw [ckZ_n1] | rw [ckZ_n0])
  refine WP.cw (r_mvK hR1 hn) (fun _ M2 c => ?_)
  obtain ⟨c1, c2, c3, c4, c5, c6, c7⟩ := c
  have hR2 := c1.RI hR1
  have e42 : mI M2 m 42 = nI n := (c2 42 (by decide) (by decide)).trans h42
  repeat (first | ((with_reducible apply WP.ce); case h => (simp (disch := omega) only []; with_reducible rfl)) | ((with_reducible apply WP.bd); case h => (simp (disch := omega) only [e_gR, e_gI, e_aI, e_aL, e_oO, e_pI, e_wI, e_wL, Option.map_some, mS_sL, mR_sL, mI_sL, mS_sI, mR_sI, mL_sI, n_cl, ro_m hR2, e42, n_add]; with_reducible rfl)) | rw [nm_eq] | rw [ckZ_n1] | rw [ckZ_n0])
  have rows : ∀ a, a ≠ m → a ≠ m + 28 → mI (sI M2 m 42 (nI (n + 1))) a = mI M a := fun a a1 a2 => by
    rw [sI_row a1, c1.2.2 a (by simp; omega), fr.2.2 a (by simp; omega)]
  have r28 : mI (sI M2 m 42 (nI (n + 1))) (m + 28) = mI M2 (m + 28) := sI_row (by omega)
  have row1 : ∀ a, a ≠ m → a ≠ m + 28 → mI M1 a = mI M a := fun a a1 a2 => fr.2.2 a (by simp; omega)
  refine WP.ret (h.up hk (M' := sI M2 m 42 (nI (n + 1))) ⟨⟨c1.1.trans fr.1, c1.2.1.trans fr.2.1⟩, fun a ha => rows a (by omega) (by omega), fun k hk2 => ?_, fun a a1 a2 => rows _ (by omega) (by omega), rows _ (by omega) (by omega), fun i _ => by rw [rows _ (by omega) (by omega)]⟩ ?_)
  · rw [mI_sI, if_neg (by omega), c2 k (by omega) (by omega)]; exact fm k (by omega)
  · obtain ⟨a, b, cc, d, e0, e1⟩ := h.2.1
    unfold RBk RBf
    rw [rows (m + 1) (by omega) (by omega), rows (m + 2) (by omega) (by omega), rows (m + 3) (by omega) (by omega), rows (m + 4) (by omega) (by omega), rows (m + 5) (by omega) (by omega), rows (m + 6) (by omega) (by omega), rows (m + 7) (by omega) (by omega), rows (m + 8) (by omega) (by omega), rows (m + 9) (by omega) (by omega), rows (m + 10) (by omega) (by omega), rows (m + 11) (by omega) (by omega), r28]
    refine ⟨a, b, cc, d, ?_, fun i hi => ?_⟩
    · rw [mI_sI, if_pos ⟨rfl, rfl⟩]; rfl
    · have hi : i < n + 1 := hi
      show RRec _ (bT (zB G)) (fset Q n (bS (zB G)) i)
      by_cases e : i = n
      · subst e
        rw [fset_s]
        rw [row1 (m + 1) (by omega) (by omega)] at c4 c5
        rw [row1 (m + 5) (by omega) (by omega)] at c6
        rw [row1 (m + 6) (by omega) (by omega), row1 (m + 7) (by omega) (by omega)] at c7
        refine ⟨⟨c4.trans b.1.1, c5.trans b.1.2⟩, fun j hj => ?_, fun s hs => ⟨?_, ?_⟩⟩
        · show mI M2 (m + 28) (20 * i + (2 + j)) = _
          rw [← Nat.add_assoc, c6 j (by omega)]; exact b.2.1 j hj
        · show mI M2 (m + 28) (20 * i + (10 + s)) = _
          rw [← Nat.add_assoc, (c7 s (by omega)).1]; exact (b.2.2 s hs).1
        · show mI M2 (m + 28) (20 * i + (15 + s)) = _
          rw [← Nat.add_assoc, (c7 s (by omega)).2]; exact (b.2.2 s hs).2
      · rw [fset_o _ _ e]
        obtain ⟨⟨f0, f1⟩, f2, f3⟩ := hQ i (by omega)
        refine ⟨⟨(c3 _ (by omega)).trans f0, (c3 _ (by omega)).trans f1⟩, fun j hj => (c3 _ (by omega)).trans (f2 j hj), fun s hs => ⟨(c3 _ (by omega)).trans (f3 s hs).1, (c3 _ (by omega)).trans (f3 s hs).2⟩⟩
theorem x_keep {m : Nat} {M : Mem} {G : GD} (h : RG O m M G) (hk : GOk G) : WP (f_X10_keepsAct m M) (fun _ M' => RG O m M' (wB G (bPu (zB G)))) := by
  have h0 := h
  obtain ⟨⟨hR, hv, -⟩, ⟨-, -, -, -, e0, e1⟩, -⟩ := h
  have h1 := hk.1.1.1.2.2.1
  have h2 := hk.1.1.1.2.2.2
  have hP := hk.1.2.2.2.2.1.1
  unfold f_X10_keepsAct
  repeat (first | ((with_reducible apply WP.ce); case h => (simp (disch := omega) only []; with_reducible rfl)) | ((with_reducible apply WP.bd); case h => (simp (disch := omega) only [e_gR, e_gI, e_aI, e_aL, e_oO, e_pI, e_wI, e_wL, Option.map_some, mS_sL, mR_sL, mI_sL, mS_sI, mR_sI, mL_sI, n_cl, ro_m hR, e0]; with_reducible rfl)) | rw [nm_eq] | rw [ckZ_n1] | rw [ckZ_n0])
  by_cases hc : (bP (zB G)).1 = 20
  · refine WP.it (by rw [hc]) ?_
    have lp : ∀ d k f (N : Mem), k + d = 400 → 20 ≤ k → FX [m, m + 28] M N → mI N m = mI M m → (∀ i, i < k - 20 → mI N (m + 28) i = mI M (m + 28) (i + 20)) → (∀ i, k ≤ i → mI N (m + 28) i = mI M (m + 28) i) → WP (f_X10_keepsAct_L12 m (f + d + 1) (nI k) N) (fun _ M' => RG O m M' (wB G (bPu (zB G)))) := by
      intro d
      induction d with
      | zero =>
        intro k f N hkd hk20 fr em hlo hhi
        have hRN := fr.RI hR
        have e42 : mI N m 42 = nI 20 := by rw [em, e0, hc]
        rw [f_X10_keepsAct_L12]
        refine WP.it (by rw [n_le (by omega) (by omega)]; omega) ?_
        repeat (first | ((with_reducible apply WP.ce); case h => (simp (disch := omega) only []; with_reducible rfl)) | ((with_reducible apply WP.bd); case h => (simp (disch := omega) only [e_gR, e_gI, e_aI, e_aL, e_oO, e_pI, e_wI, e_wL, Option.map_some, mS_sL, mR_sL, mI_sL, mS_sI, mR_sI, mL_sI, n_cl, ro_m hRN, e42, n_sub]; with_reducible rfl)) | rw [nm_eq] | rw [ckZ_n1] | rw [ckZ_n0])
        rw [show 20 - 1 = 19 from rfl]
        have e := x_keep1 h0 hk (M1 := sI N m 42 (nI 19)) (n := 19) (Q := fun i => (bP (zB G)).2 (i + 1)) (by decide) hRN (fr.sI (by simp) _ _) (fun k hk2 => by rw [mI_sI, if_neg (by omega), em]) (by rw [mI_sI, if_pos ⟨rfl, rfl⟩]) (fun i hi => by
          have := e1 (i + 1) (by omega)
          obtain ⟨⟨f0, f1⟩, f2, f3⟩ := this
          have r28 : mI (sI N m 42 (nI 19)) (m + 28) = mI N (m + 28) := sI_row (by omega)
          have g : ∀ k, k < 20 → mI (sI N m 42 (nI 19)) (m + 28) (20 * i + k) = mI M (m + 28) (20 * (i + 1) + k) := fun k hk3 => by
            rw [r28, hlo _ (by omega)]
            congr 1
            omega
          exact ⟨⟨(g _ (by omega)).trans f0, (g _ (by omega)).trans f1⟩, fun j hj => (g _ (by omega)).trans (f2 j hj), fun s hs => ⟨(g _ (by omega)).trans (f3 s hs).1, (g _ (by omega)).trans (f3 s hs).2⟩⟩)
        refine WP.mono e (fun _ M' g => ?_)
        have eq : fset (fun i => (bP (zB G)).2 (i + 1)) 19 (bS (zB G)) = fun i => if i = 19 then bS (zB G) else (bP (zB G)).2 (i + 1) := rfl
        unfold bPu psh
        rw [if_pos hc, ← eq]
        exact g
      | succ d ih =>
        intro k f N hkd hk20 fr em hlo hhi
        have hRN := fr.RI hR
        have v1 := hhi k (Nat.le_refl _)
        rw [show f + (d + 1) + 1 = (f + d + 1) + 1 from by omega, f_X10_keepsAct_L12]
        refine WP.ie (by rw [n_le (by omega) (by omega)]; omega) ?_
        repeat (first | ((with_reducible apply WP.ce); case h => (simp (disch := omega) only []; with_reducible rfl)) | ((with_reducible apply WP.bd); case h => (simp (disch := omega) only [e_gR, e_gI, e_aI, e_aL, e_oO, e_pI, e_wI, e_wL, Option.map_some, mS_sL, mR_sL, mI_sL, mS_sI, mR_sI, mL_sI, n_cl, ro_m hRN, rr_past hRN, rx_past hRN, v1, n_sub]; with_reducible rfl)) | rw [nm_eq] | rw [ckZ_n1] | rw [ckZ_n0])
        rw [n_add]
        refine ih (k + 1) f _ (by omega) (by omega) (fr.sI (by simp) _ _) (by rw [sI_row (by omega)]; exact em) (fun i hi => ?_) (fun i hi => ?_)
        · rw [mI_sI]
          by_cases e : i = k - 20
          · rw [if_pos ⟨rfl, e⟩]
            congr 1
            omega
          · rw [if_neg (by omega)]; exact hlo i (by omega)
        · rw [mI_sI, if_neg (by omega)]; exact hhi i (by omega)
    obtain ⟨f, hf⟩ := FUd 380 (by omega)
    rw [hf]
    exact lp 380 20 f M (by omega) (Nat.le_refl _) (FX.rf _ M) rfl (fun i hi => absurd hi (by omega)) (fun _ _ => rfl)
  · refine WP.ie (by rw [n_eq (by omega) (by omega)]; exact hc) ?_
    have e := x_keep1 h0 hk (M1 := M) (n := (bP (zB G)).1) (Q := (bP (zB G)).2) (by omega) hR (FX.rf _ M) (fun _ _ => rfl) e0 e1
    refine WP.mono e (fun _ M' g => ?_)
    unfold bPu psh
    rw [if_neg hc]
    exact g
