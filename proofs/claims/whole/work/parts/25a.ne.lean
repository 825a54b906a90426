/-! the texts differ, pair by pair (laid by program) -/
theorem bl {a b : Cond} {args : Array Value} {s : State} (h : (Jvm.Cond.and a b).before args s = true) : a.before args s = true := by rw [Cond.before_and, Bool.and_eq_true] at h; exact h.1
theorem br {a b : Cond} {args : Array Value} {s : State} (h : (Jvm.Cond.and a b).before args s = true) : b.before args s = true := by rw [Cond.before_and, Bool.and_eq_true] at h; exact h.2
def tmS (i : Nat) : Term := .string RX10 (STRk.getD i 0)
def PNL : List (Nat × Nat) := [(14, 1), (14, 0), (1, 0), (14, 15), (1, 15), (0, 15), (14, 16), (1, 16), (0, 16), (15, 16), (14, 2), (1, 2), (0, 2), (15, 2), (16, 2), (14, 3), (1, 3), (0, 3), (15, 3), (16, 3), (2, 3), (14, 4), (1, 4), (0, 4), (15, 4), (16, 4), (2, 4), (3, 4), (14, 5), (1, 5), (0, 5), (15, 5), (16, 5), (2, 5), (3, 5), (4, 5), (14, 6), (1, 6), (0, 6), (15, 6), (16, 6), (2, 6), (3, 6), (4, 6), (5, 6), (14, 7), (1, 7), (0, 7), (15, 7), (16, 7), (2, 7), (3, 7), (4, 7), (5, 7), (6, 7), (14, 8), (1, 8), (0, 8), (15, 8), (16, 8), (2, 8), (3, 8), (4, 8), (5, 8), (6, 8), (7, 8), (14, 9), (1, 9), (0, 9), (15, 9), (16, 9), (2, 9), (3, 9), (4, 9), (5, 9), (6, 9), (7, 9), (8, 9), (14, 10), (1, 10), (0, 10), (15, 10), (16, 10), (2, 10), (3, 10), (4, 10), (5, 10), (6, 10), (7, 10), (8, 10), (9, 10), (14, 17), (1, 17), (0, 17), (15, 17), (16, 17), (2, 17), (3, 17), (4, 17), (5, 17), (6, 17), (7, 17), (8, 17), (9, 17), (10, 17), (14, 11), (1, 11), (0, 11), (15, 11), (16, 11), (2, 11), (3, 11), (4, 11), (5, 11), (6, 11), (7, 11), (8, 11), (9, 11), (10, 11), (17, 11), (14, 12), (1, 12), (0, 12), (15, 12), (16, 12), (2, 12), (3, 12), (4, 12), (5, 12), (6, 12), (7, 12), (8, 12), (9, 12), (10, 12), (17, 12), (11, 12), (14, 13), (1, 13), (0, 13), (15, 13), (16, 13), (2, 13), (3, 13), (4, 13), (5, 13), (6, 13), (7, 13), (8, 13), (9, 13), (10, 13), (17, 13), (11, 13), (12, 13)]
theorem ne_0 {args : Array Value} {s : State} (h : narrow_1.before args s = true) : ∀ q ∈ [((14 : Nat), (1 : Nat)), ((14 : Nat), (0 : Nat)), ((1 : Nat), (0 : Nat)), ((14 : Nat), (15 : Nat)), ((1 : Nat), (15 : Nat)), ((0 : Nat), (15 : Nat)), ((14 : Nat), (16 : Nat)), ((1 : Nat), (16 : Nat)), ((0 : Nat), (16 : Nat)), ((15 : Nat), (16 : Nat)), ((14 : Nat), (2 : Nat)), ((1 : Nat), (2 : Nat)), ((0 : Nat), (2 : Nat)), ((15 : Nat), (2 : Nat)), ((16 : Nat), (2 : Nat)), ((14 : Nat), (3 : Nat)), ((1 : Nat), (3 : Nat))], (Cond.not (Cond.eq (tmS q.1) (tmS q.2))).before args s = true := by
  refine List.forall_mem_cons.mpr ⟨(bl (br (br (bl (bl (br (br (bl (bl h))))))))), ?_⟩
  refine List.forall_mem_cons.mpr ⟨(br (bl (bl (br (br (br (bl (bl h)))))))), ?_⟩
  refine List.forall_mem_cons.mpr ⟨(bl (br (bl (br (br (br (bl (bl h)))))))), ?_⟩
  refine List.forall_mem_cons.mpr ⟨(br (bl (bl (bl (bl (bl (br (bl h)))))))), ?_⟩
  refine List.forall_mem_cons.mpr ⟨(bl (br (bl (bl (bl (bl (br (bl h)))))))), ?_⟩
  refine List.forall_mem_cons.mpr ⟨(bl (br (br (bl (bl (bl (bl (br (bl h))))))))), ?_⟩
  refine List.forall_mem_cons.mpr ⟨(br (bl (bl (br (bl (bl (br (bl h)))))))), ?_⟩
  refine List.forall_mem_cons.mpr ⟨(bl (br (bl (br (bl (bl (br (bl h)))))))), ?_⟩
  refine List.forall_mem_cons.mpr ⟨(bl (br (br (bl (br (bl (bl (br (bl h))))))))), ?_⟩
  refine List.forall_mem_cons.mpr ⟨(br (br (br (bl (br (bl (bl (br (bl h))))))))), ?_⟩
  refine List.forall_mem_cons.mpr ⟨(bl (br (br (bl (bl (br (bl (br (bl h))))))))), ?_⟩
  refine List.forall_mem_cons.mpr ⟨(br (br (br (bl (bl (br (bl (br (bl h))))))))), ?_⟩
  refine List.forall_mem_cons.mpr ⟨(bl (bl (br (bl (br (bl (br (bl h)))))))), ?_⟩
  refine List.forall_mem_cons.mpr ⟨(bl (br (bl (br (bl (br (bl (br (bl h))))))))), ?_⟩
  refine List.forall_mem_cons.mpr ⟨(br (br (bl (br (bl (br (bl (br (bl h))))))))), ?_⟩
  refine List.forall_mem_cons.mpr ⟨(bl (br (bl (br (br (br (bl (br (bl h))))))))), ?_⟩
  refine List.forall_mem_cons.mpr ⟨(br (br (bl (br (br (br (bl (br (bl h))))))))), ?_⟩
  exact fun q hq => absurd hq List.not_mem_nil
theorem ne_1 {args : Array Value} {s : State} (h : narrow_1.before args s = true) : ∀ q ∈ [((0 : Nat), (3 : Nat)), ((15 : Nat), (3 : Nat)), ((16 : Nat), (3 : Nat)), ((2 : Nat), (3 : Nat)), ((14 : Nat), (4 : Nat)), ((1 : Nat), (4 : Nat)), ((0 : Nat), (4 : Nat)), ((15 : Nat), (4 : Nat)), ((16 : Nat), (4 : Nat)), ((2 : Nat), (4 : Nat)), ((3 : Nat), (4 : Nat)), ((14 : Nat), (5 : Nat)), ((1 : Nat), (5 : Nat)), ((0 : Nat), (5 : Nat)), ((15 : Nat), (5 : Nat)), ((16 : Nat), (5 : Nat)), ((2 : Nat), (5 : Nat))], (Cond.not (Cond.eq (tmS q.1) (tmS q.2))).before args s = true := by
  refine List.forall_mem_cons.mpr ⟨(bl (br (br (br (br (bl (br (bl h)))))))), ?_⟩
  refine List.forall_mem_cons.mpr ⟨(bl (br (br (br (br (br (bl (br (bl h))))))))), ?_⟩
  refine List.forall_mem_cons.mpr ⟨(br (br (br (br (br (br (bl (br (bl h))))))))), ?_⟩
  refine List.forall_mem_cons.mpr ⟨(bl (bl (bl (bl (bl (br (br (bl h)))))))), ?_⟩
  refine List.forall_mem_cons.mpr ⟨(bl (br (br (br (bl (bl (br (br (bl h))))))))), ?_⟩
  refine List.forall_mem_cons.mpr ⟨(br (br (br (br (bl (bl (br (br (bl h))))))))), ?_⟩
  refine List.forall_mem_cons.mpr ⟨(bl (bl (bl (br (bl (br (br (bl h)))))))), ?_⟩
  refine List.forall_mem_cons.mpr ⟨(br (bl (bl (br (bl (br (br (bl h)))))))), ?_⟩
  refine List.forall_mem_cons.mpr ⟨(bl (br (bl (br (bl (br (br (bl h)))))))), ?_⟩
  refine List.forall_mem_cons.mpr ⟨(bl (br (br (bl (br (bl (br (br (bl h))))))))), ?_⟩
  refine List.forall_mem_cons.mpr ⟨(br (br (br (bl (br (bl (br (br (bl h))))))))), ?_⟩
  refine List.forall_mem_cons.mpr ⟨(bl (br (br (bl (bl (br (br (br (bl h))))))))), ?_⟩
  refine List.forall_mem_cons.mpr ⟨(br (br (br (bl (bl (br (br (br (bl h))))))))), ?_⟩
  refine List.forall_mem_cons.mpr ⟨(bl (bl (br (bl (br (br (br (bl h)))))))), ?_⟩
  refine List.forall_mem_cons.mpr ⟨(bl (br (bl (br (bl (br (br (br (bl h))))))))), ?_⟩
  refine List.forall_mem_cons.mpr ⟨(br (br (bl (br (bl (br (br (br (bl h))))))))), ?_⟩
  refine List.forall_mem_cons.mpr ⟨(bl (br (br (bl (br (br (br (bl h)))))))), ?_⟩
  exact fun q hq => absurd hq List.not_mem_nil
theorem ne_2 {args : Array Value} {s : State} (h : narrow_1.before args s = true) : ∀ q ∈ [((3 : Nat), (5 : Nat)), ((4 : Nat), (5 : Nat)), ((14 : Nat), (6 : Nat)), ((1 : Nat), (6 : Nat)), ((0 : Nat), (6 : Nat)), ((15 : Nat), (6 : Nat)), ((16 : Nat), (6 : Nat)), ((2 : Nat), (6 : Nat)), ((3 : Nat), (6 : Nat)), ((4 : Nat), (6 : Nat)), ((5 : Nat), (6 : Nat)), ((14 : Nat), (7 : Nat)), ((1 : Nat), (7 : Nat)), ((0 : Nat), (7 : Nat)), ((15 : Nat), (7 : Nat)), ((16 : Nat), (7 : Nat)), ((2 : Nat), (7 : Nat))], (Cond.not (Cond.eq (tmS q.1) (tmS q.2))).before args s = true := by
  refine List.forall_mem_cons.mpr ⟨(bl (br (br (br (bl (br (br (br (bl h))))))))), ?_⟩
  refine List.forall_mem_cons.mpr ⟨(br (br (br (br (bl (br (br (br (bl h))))))))), ?_⟩
  refine List.forall_mem_cons.mpr ⟨(bl (br (br (br (br (br (br (bl h)))))))), ?_⟩
  refine List.forall_mem_cons.mpr ⟨(bl (br (br (br (br (br (br (br (bl h))))))))), ?_⟩
  refine List.forall_mem_cons.mpr ⟨(br (br (br (br (br (br (br (br (bl h))))))))), ?_⟩
  refine List.forall_mem_cons.mpr ⟨(bl (bl (bl (bl (bl (bl (bl (br h)))))))), ?_⟩
  refine List.forall_mem_cons.mpr ⟨(br (bl (bl (bl (bl (bl (bl (br h)))))))), ?_⟩
  refine List.forall_mem_cons.mpr ⟨(bl (br (bl (bl (bl (bl (bl (br h)))))))), ?_⟩
  refine List.forall_mem_cons.mpr ⟨(bl (br (br (bl (bl (bl (bl (bl (br h))))))))), ?_⟩
  refine List.forall_mem_cons.mpr ⟨(br (br (br (bl (bl (bl (bl (bl (br h))))))))), ?_⟩
  refine List.forall_mem_cons.mpr ⟨(bl (bl (br (bl (bl (bl (bl (br h)))))))), ?_⟩
  refine List.forall_mem_cons.mpr ⟨(bl (br (bl (br (br (bl (bl (bl (br h))))))))), ?_⟩
  refine List.forall_mem_cons.mpr ⟨(br (br (bl (br (br (bl (bl (bl (br h))))))))), ?_⟩
  refine List.forall_mem_cons.mpr ⟨(bl (br (br (br (bl (bl (bl (br h)))))))), ?_⟩
  refine List.forall_mem_cons.mpr ⟨(bl (br (br (br (br (bl (bl (bl (br h))))))))), ?_⟩
  refine List.forall_mem_cons.mpr ⟨(br (br (br (br (br (bl (bl (bl (br h))))))))), ?_⟩
  refine List.forall_mem_cons.mpr ⟨(bl (bl (bl (bl (br (bl (bl (br h)))))))), ?_⟩
  exact fun q hq => absurd hq List.not_mem_nil
theorem ne_3 {args : Array Value} {s : State} (h : narrow_1.before args s = true) : ∀ q ∈ [((3 : Nat), (7 : Nat)), ((4 : Nat), (7 : Nat)), ((5 : Nat), (7 : Nat)), ((6 : Nat), (7 : Nat)), ((14 : Nat), (8 : Nat)), ((1 : Nat), (8 : Nat)), ((0 : Nat), (8 : Nat)), ((15 : Nat), (8 : Nat)), ((16 : Nat), (8 : Nat)), ((2 : Nat), (8 : Nat)), ((3 : Nat), (8 : Nat)), ((4 : Nat), (8 : Nat)), ((5 : Nat), (8 : Nat)), ((6 : Nat), (8 : Nat)), ((7 : Nat), (8 : Nat)), ((14 : Nat), (9 : Nat)), ((1 : Nat), (9 : Nat))], (Cond.not (Cond.eq (tmS q.1) (tmS q.2))).before args s = true := by
  refine List.forall_mem_cons.mpr ⟨(br (bl (bl (bl (br (bl (bl (br h)))))))), ?_⟩
  refine List.forall_mem_cons.mpr ⟨(bl (br (bl (bl (br (bl (bl (br h)))))))), ?_⟩
  refine List.forall_mem_cons.mpr ⟨(bl (br (br (bl (bl (br (bl (bl (br h))))))))), ?_⟩
  refine List.forall_mem_cons.mpr ⟨(br (br (br (bl (bl (br (bl (bl (br h))))))))), ?_⟩
  refine List.forall_mem_cons.mpr ⟨(bl (br (br (bl (br (br (bl (bl (br h))))))))), ?_⟩
  refine List.forall_mem_cons.mpr ⟨(br (br (br (bl (br (br (bl (bl (br h))))))))), ?_⟩
  refine List.forall_mem_cons.mpr ⟨(bl (bl (br (br (br (bl (bl (br h)))))))), ?_⟩
  refine List.forall_mem_cons.mpr ⟨(bl (br (bl (br (br (br (bl (bl (br h))))))))), ?_⟩
  refine List.forall_mem_cons.mpr ⟨(br (br (bl (br (br (br (bl (bl (br h))))))))), ?_⟩
  refine List.forall_mem_cons.mpr ⟨(bl (br (br (br (br (bl (bl (br h)))))))), ?_⟩
  refine List.forall_mem_cons.mpr ⟨(bl (br (br (br (br (br (bl (bl (br h))))))))), ?_⟩
  refine List.forall_mem_cons.mpr ⟨(br (br (br (br (br (br (bl (bl (br h))))))))), ?_⟩
  refine List.forall_mem_cons.mpr ⟨(bl (bl (bl (bl (bl (br (bl (br h)))))))), ?_⟩
  refine List.forall_mem_cons.mpr ⟨(br (bl (bl (bl (bl (br (bl (br h)))))))), ?_⟩
  refine List.forall_mem_cons.mpr ⟨(bl (br (bl (bl (bl (br (bl (br h)))))))), ?_⟩
  refine List.forall_mem_cons.mpr ⟨(bl (br (bl (br (bl (br (bl (br h)))))))), ?_⟩
  refine List.forall_mem_cons.mpr ⟨(bl (br (br (bl (br (bl (br (bl (br h))))))))), ?_⟩
  exact fun q hq => absurd hq List.not_mem_nil
theorem ne_4 {args : Array Value} {s : State} (h : narrow_1.before args s = true) : ∀ q ∈ [((0 : Nat), (9 : Nat)), ((15 : Nat), (9 : Nat)), ((16 : Nat), (9 : Nat)), ((2 : Nat), (9 : Nat)), ((3 : Nat), (9 : Nat)), ((4 : Nat), (9 : Nat)), ((5 : Nat), (9 : Nat)), ((6 : Nat), (9 : Nat)), ((7 : Nat), (9 : Nat)), ((8 : Nat), (9 : Nat)), ((14 : Nat), (10 : Nat)), ((1 : Nat), (10 : Nat)), ((0 : Nat), (10 : Nat)), ((15 : Nat), (10 : Nat)), ((16 : Nat), (10 : Nat)), ((2 : Nat), (10 : Nat)), ((3 : Nat), (10 : Nat))], (Cond.not (Cond.eq (tmS q.1) (tmS q.2))).before args s = true := by
  refine List.forall_mem_cons.mpr ⟨(br (br (br (bl (br (bl (br (bl (br h))))))))), ?_⟩
  refine List.forall_mem_cons.mpr ⟨(bl (bl (br (br (bl (br (bl (br h)))))))), ?_⟩
  refine List.forall_mem_cons.mpr ⟨(bl (br (bl (br (br (bl (br (bl (br h))))))))), ?_⟩
  refine List.forall_mem_cons.mpr ⟨(br (br (bl (br (br (bl (br (bl (br h))))))))), ?_⟩
  refine List.forall_mem_cons.mpr ⟨(bl (br (br (br (bl (br (bl (br h)))))))), ?_⟩
  refine List.forall_mem_cons.mpr ⟨(bl (br (br (br (br (bl (br (bl (br h))))))))), ?_⟩
  refine List.forall_mem_cons.mpr ⟨(br (br (br (br (br (bl (br (bl (br h))))))))), ?_⟩
  refine List.forall_mem_cons.mpr ⟨(bl (bl (bl (bl (br (br (bl (br h)))))))), ?_⟩
  refine List.forall_mem_cons.mpr ⟨(br (bl (bl (bl (br (br (bl (br h)))))))), ?_⟩
  refine List.forall_mem_cons.mpr ⟨(bl (br (bl (bl (br (br (bl (br h)))))))), ?_⟩
  refine List.forall_mem_cons.mpr ⟨(bl (bl (bl (br (br (br (bl (br h)))))))), ?_⟩
  refine List.forall_mem_cons.mpr ⟨(bl (br (bl (bl (br (br (br (bl (br h))))))))), ?_⟩
  refine List.forall_mem_cons.mpr ⟨(br (br (bl (bl (br (br (br (bl (br h))))))))), ?_⟩
  refine List.forall_mem_cons.mpr ⟨(bl (br (bl (br (br (br (bl (br h)))))))), ?_⟩
  refine List.forall_mem_cons.mpr ⟨(bl (br (br (bl (br (br (br (bl (br h))))))))), ?_⟩
  refine List.forall_mem_cons.mpr ⟨(br (br (br (bl (br (br (br (bl (br h))))))))), ?_⟩
  refine List.forall_mem_cons.mpr ⟨(bl (bl (br (br (br (br (bl (br h)))))))), ?_⟩
  exact fun q hq => absurd hq List.not_mem_nil
theorem ne_5 {args : Array Value} {s : State} (h : narrow_1.before args s = true) : ∀ q ∈ [((4 : Nat), (10 : Nat)), ((5 : Nat), (10 : Nat)), ((6 : Nat), (10 : Nat)), ((7 : Nat), (10 : Nat)), ((8 : Nat), (10 : Nat)), ((9 : Nat), (10 : Nat)), ((14 : Nat), (17 : Nat)), ((1 : Nat), (17 : Nat)), ((0 : Nat), (17 : Nat)), ((15 : Nat), (17 : Nat)), ((16 : Nat), (17 : Nat)), ((2 : Nat), (17 : Nat)), ((3 : Nat), (17 : Nat)), ((4 : Nat), (17 : Nat)), ((5 : Nat), (17 : Nat)), ((6 : Nat), (17 : Nat)), ((7 : Nat), (17 : Nat))], (Cond.not (Cond.eq (tmS q.1) (tmS q.2))).before args s = true := by
  refine List.forall_mem_cons.mpr ⟨(bl (br (bl (br (br (br (br (bl (br h))))))))), ?_⟩
  refine List.forall_mem_cons.mpr ⟨(br (br (bl (br (br (br (br (bl (br h))))))))), ?_⟩
  refine List.forall_mem_cons.mpr ⟨(bl (br (br (br (br (br (bl (br h)))))))), ?_⟩
  refine List.forall_mem_cons.mpr ⟨(bl (br (br (br (br (br (br (bl (br h))))))))), ?_⟩
  refine List.forall_mem_cons.mpr ⟨(br (br (br (br (br (br (br (bl (br h))))))))), ?_⟩
  refine List.forall_mem_cons.mpr ⟨(bl (bl (bl (bl (bl (bl (br (br h)))))))), ?_⟩
  refine List.forall_mem_cons.mpr ⟨(br (br (bl (br (bl (bl (bl (br (br h))))))))), ?_⟩
  refine List.forall_mem_cons.mpr ⟨(bl (br (br (bl (bl (bl (br (br h)))))))), ?_⟩
  refine List.forall_mem_cons.mpr ⟨(bl (br (br (br (bl (bl (bl (br (br h))))))))), ?_⟩
  refine List.forall_mem_cons.mpr ⟨(br (br (br (br (bl (bl (bl (br (br h))))))))), ?_⟩
  refine List.forall_mem_cons.mpr ⟨(bl (bl (bl (br (bl (bl (br (br h)))))))), ?_⟩
  refine List.forall_mem_cons.mpr ⟨(br (bl (bl (br (bl (bl (br (br h)))))))), ?_⟩
  refine List.forall_mem_cons.mpr ⟨(bl (br (bl (br (bl (bl (br (br h)))))))), ?_⟩
  refine List.forall_mem_cons.mpr ⟨(bl (br (br (bl (br (bl (bl (br (br h))))))))), ?_⟩
  refine List.forall_mem_cons.mpr ⟨(br (br (br (bl (br (bl (bl (br (br h))))))))), ?_⟩
  refine List.forall_mem_cons.mpr ⟨(bl (bl (br (br (bl (bl (br (br h)))))))), ?_⟩
  refine List.forall_mem_cons.mpr ⟨(bl (br (bl (br (br (bl (bl (br (br h))))))))), ?_⟩
  exact fun q hq => absurd hq List.not_mem_nil
theorem ne_6 {args : Array Value} {s : State} (h : narrow_1.before args s = true) : ∀ q ∈ [((8 : Nat), (17 : Nat)), ((9 : Nat), (17 : Nat)), ((10 : Nat), (17 : Nat)), ((14 : Nat), (11 : Nat)), ((1 : Nat), (11 : Nat)), ((0 : Nat), (11 : Nat)), ((15 : Nat), (11 : Nat)), ((16 : Nat), (11 : Nat)), ((2 : Nat), (11 : Nat)), ((3 : Nat), (11 : Nat)), ((4 : Nat), (11 : Nat)), ((5 : Nat), (11 : Nat)), ((6 : Nat), (11 : Nat)), ((7 : Nat), (11 : Nat)), ((8 : Nat), (11 : Nat)), ((9 : Nat), (11 : Nat)), ((10 : Nat), (11 : Nat))], (Cond.not (Cond.eq (tmS q.1) (tmS q.2))).before args s = true := by
  refine List.forall_mem_cons.mpr ⟨(br (br (bl (br (br (bl (bl (br (br h))))))))), ?_⟩
  refine List.forall_mem_cons.mpr ⟨(bl (br (br (br (bl (bl (br (br h)))))))), ?_⟩
  refine List.forall_mem_cons.mpr ⟨(bl (br (br (br (br (bl (bl (br (br h))))))))), ?_⟩
  refine List.forall_mem_cons.mpr ⟨(bl (br (bl (br (bl (br (bl (br (br h))))))))), ?_⟩
  refine List.forall_mem_cons.mpr ⟨(br (br (bl (br (bl (br (bl (br (br h))))))))), ?_⟩
  refine List.forall_mem_cons.mpr ⟨(bl (br (br (bl (br (bl (br (br h)))))))), ?_⟩
  refine List.forall_mem_cons.mpr ⟨(bl (br (br (br (bl (br (bl (br (br h))))))))), ?_⟩
  refine List.forall_mem_cons.mpr ⟨(br (br (br (br (bl (br (bl (br (br h))))))))), ?_⟩
  refine List.forall_mem_cons.mpr ⟨(bl (bl (bl (br (br (bl (br (br h)))))))), ?_⟩
  refine List.forall_mem_cons.mpr ⟨(br (bl (bl (br (br (bl (br (br h)))))))), ?_⟩
  refine List.forall_mem_cons.mpr ⟨(bl (br (bl (br (br (bl (br (br h)))))))), ?_⟩
  refine List.forall_mem_cons.mpr ⟨(bl (br (br (bl (br (br (bl (br (br h))))))))), ?_⟩
  refine List.forall_mem_cons.mpr ⟨(br (br (br (bl (br (br (bl (br (br h))))))))), ?_⟩
  refine List.forall_mem_cons.mpr ⟨(bl (bl (br (br (br (bl (br (br h)))))))), ?_⟩
  refine List.forall_mem_cons.mpr ⟨(bl (br (bl (br (br (br (bl (br (br h))))))))), ?_⟩
  refine List.forall_mem_cons.mpr ⟨(br (br (bl (br (br (br (bl (br (br h))))))))), ?_⟩
  refine List.forall_mem_cons.mpr ⟨(bl (br (br (br (br (bl (br (br h)))))))), ?_⟩
  exact fun q hq => absurd hq List.not_mem_nil
theorem ne_7 {args : Array Value} {s : State} (h : narrow_1.before args s = true) : ∀ q ∈ [((17 : Nat), (11 : Nat)), ((14 : Nat), (12 : Nat)), ((1 : Nat), (12 : Nat)), ((0 : Nat), (12 : Nat)), ((15 : Nat), (12 : Nat)), ((16 : Nat), (12 : Nat)), ((2 : Nat), (12 : Nat)), ((3 : Nat), (12 : Nat)), ((4 : Nat), (12 : Nat)), ((5 : Nat), (12 : Nat)), ((6 : Nat), (12 : Nat)), ((7 : Nat), (12 : Nat)), ((8 : Nat), (12 : Nat)), ((9 : Nat), (12 : Nat)), ((10 : Nat), (12 : Nat)), ((17 : Nat), (12 : Nat)), ((11 : Nat), (12 : Nat))], (Cond.not (Cond.eq (tmS q.1) (tmS q.2))).before args s = true := by
  refine List.forall_mem_cons.mpr ⟨(bl (br (br (br (br (br (bl (br (br h))))))))), ?_⟩
  refine List.forall_mem_cons.mpr ⟨(bl (br (bl (br (bl (bl (br (br (br h))))))))), ?_⟩
  refine List.forall_mem_cons.mpr ⟨(br (br (bl (br (bl (bl (br (br (br h))))))))), ?_⟩
  refine List.forall_mem_cons.mpr ⟨(bl (br (br (bl (bl (br (br (br h)))))))), ?_⟩
  refine List.forall_mem_cons.mpr ⟨(bl (br (br (br (bl (bl (br (br (br h))))))))), ?_⟩
  refine List.forall_mem_cons.mpr ⟨(br (br (br (br (bl (bl (br (br (br h))))))))), ?_⟩
  refine List.forall_mem_cons.mpr ⟨(bl (bl (bl (br (bl (br (br (br h)))))))), ?_⟩
  refine List.forall_mem_cons.mpr ⟨(br (bl (bl (br (bl (br (br (br h)))))))), ?_⟩
  refine List.forall_mem_cons.mpr ⟨(bl (br (bl (br (bl (br (br (br h)))))))), ?_⟩
  refine List.forall_mem_cons.mpr ⟨(bl (br (br (bl (br (bl (br (br (br h))))))))), ?_⟩
  refine List.forall_mem_cons.mpr ⟨(br (br (br (bl (br (bl (br (br (br h))))))))), ?_⟩
  refine List.forall_mem_cons.mpr ⟨(bl (bl (br (br (bl (br (br (br h)))))))), ?_⟩
  refine List.forall_mem_cons.mpr ⟨(bl (br (bl (br (br (bl (br (br (br h))))))))), ?_⟩
  refine List.forall_mem_cons.mpr ⟨(br (br (bl (br (br (bl (br (br (br h))))))))), ?_⟩
  refine List.forall_mem_cons.mpr ⟨(bl (br (br (br (bl (br (br (br h)))))))), ?_⟩
  refine List.forall_mem_cons.mpr ⟨(bl (br (br (br (br (bl (br (br (br h))))))))), ?_⟩
  refine List.forall_mem_cons.mpr ⟨(br (br (br (br (br (bl (br (br (br h))))))))), ?_⟩
  exact fun q hq => absurd hq List.not_mem_nil
theorem ne_8 {args : Array Value} {s : State} (h : narrow_1.before args s = true) : ∀ q ∈ [((14 : Nat), (13 : Nat)), ((1 : Nat), (13 : Nat)), ((0 : Nat), (13 : Nat)), ((15 : Nat), (13 : Nat)), ((16 : Nat), (13 : Nat)), ((2 : Nat), (13 : Nat)), ((3 : Nat), (13 : Nat)), ((4 : Nat), (13 : Nat)), ((5 : Nat), (13 : Nat)), ((6 : Nat), (13 : Nat)), ((7 : Nat), (13 : Nat)), ((8 : Nat), (13 : Nat)), ((9 : Nat), (13 : Nat)), ((10 : Nat), (13 : Nat)), ((17 : Nat), (13 : Nat)), ((11 : Nat), (13 : Nat)), ((12 : Nat), (13 : Nat))], (Cond.not (Cond.eq (tmS q.1) (tmS q.2))).before args s = true := by
  refine List.forall_mem_cons.mpr ⟨(bl (br (bl (br (bl (br (br (br (br h))))))))), ?_⟩
  refine List.forall_mem_cons.mpr ⟨(br (br (bl (br (bl (br (br (br (br h))))))))), ?_⟩
  refine List.forall_mem_cons.mpr ⟨(bl (br (br (bl (br (br (br (br h)))))))), ?_⟩
  refine List.forall_mem_cons.mpr ⟨(bl (br (br (br (bl (br (br (br (br h))))))))), ?_⟩
  refine List.forall_mem_cons.mpr ⟨(br (br (br (br (bl (br (br (br (br h))))))))), ?_⟩
  refine List.forall_mem_cons.mpr ⟨(bl (bl (bl (br (br (br (br (br h)))))))), ?_⟩
  refine List.forall_mem_cons.mpr ⟨(bl (br (bl (bl (br (br (br (br (br h))))))))), ?_⟩
  refine List.forall_mem_cons.mpr ⟨(br (br (bl (bl (br (br (br (br (br h))))))))), ?_⟩
  refine List.forall_mem_cons.mpr ⟨(bl (br (bl (br (br (br (br (br h)))))))), ?_⟩
  refine List.forall_mem_cons.mpr ⟨(bl (br (br (bl (br (br (br (br (br h))))))))), ?_⟩
  refine List.forall_mem_cons.mpr ⟨(br (br (br (bl (br (br (br (br (br h))))))))), ?_⟩
  refine List.forall_mem_cons.mpr ⟨(bl (bl (br (br (br (br (br (br h)))))))), ?_⟩
  refine List.forall_mem_cons.mpr ⟨(bl (br (bl (br (br (br (br (br (br h))))))))), ?_⟩
  refine List.forall_mem_cons.mpr ⟨(br (br (bl (br (br (br (br (br (br h))))))))), ?_⟩
  refine List.forall_mem_cons.mpr ⟨(bl (br (br (br (br (br (br (br h)))))))), ?_⟩
  refine List.forall_mem_cons.mpr ⟨(bl (br (br (br (br (br (br (br (br h))))))))), ?_⟩
  refine List.forall_mem_cons.mpr ⟨(br (br (br (br (br (br (br (br (br h))))))))), ?_⟩
  exact fun q hq => absurd hq List.not_mem_nil
theorem ne_all {args : Array Value} {s : State} (h : narrow_1.before args s = true) : ∀ q ∈ PNL, (Cond.not (Cond.eq (tmS q.1) (tmS q.2))).before args s = true := by
  have e : PNL = [(14, 1), (14, 0), (1, 0), (14, 15), (1, 15), (0, 15), (14, 16), (1, 16), (0, 16), (15, 16), (14, 2), (1, 2), (0, 2), (15, 2), (16, 2), (14, 3), (1, 3)] ++ [(0, 3), (15, 3), (16, 3), (2, 3), (14, 4), (1, 4), (0, 4), (15, 4), (16, 4), (2, 4), (3, 4), (14, 5), (1, 5), (0, 5), (15, 5), (16, 5), (2, 5)] ++ [(3, 5), (4, 5), (14, 6), (1, 6), (0, 6), (15, 6), (16, 6), (2, 6), (3, 6), (4, 6), (5, 6), (14, 7), (1, 7), (0, 7), (15, 7), (16, 7), (2, 7)] ++ [(3, 7), (4, 7), (5, 7), (6, 7), (14, 8), (1, 8), (0, 8), (15, 8), (16, 8), (2, 8), (3, 8), (4, 8), (5, 8), (6, 8), (7, 8), (14, 9), (1, 9)] ++ [(0, 9), (15, 9), (16, 9), (2, 9), (3, 9), (4, 9), (5, 9), (6, 9), (7, 9), (8, 9), (14, 10), (1, 10), (0, 10), (15, 10), (16, 10), (2, 10), (3, 10)] ++ [(4, 10), (5, 10), (6, 10), (7, 10), (8, 10), (9, 10), (14, 17), (1, 17), (0, 17), (15, 17), (16, 17), (2, 17), (3, 17), (4, 17), (5, 17), (6, 17), (7, 17)] ++ [(8, 17), (9, 17), (10, 17), (14, 11), (1, 11), (0, 11), (15, 11), (16, 11), (2, 11), (3, 11), (4, 11), (5, 11), (6, 11), (7, 11), (8, 11), (9, 11), (10, 11)] ++ [(17, 11), (14, 12), (1, 12), (0, 12), (15, 12), (16, 12), (2, 12), (3, 12), (4, 12), (5, 12), (6, 12), (7, 12), (8, 12), (9, 12), (10, 12), (17, 12), (11, 12)] ++ [(14, 13), (1, 13), (0, 13), (15, 13), (16, 13), (2, 13), (3, 13), (4, 13), (5, 13), (6, 13), (7, 13), (8, 13), (9, 13), (10, 13), (17, 13), (11, 13), (12, 13)] := rfl
  rw [e]
  intro q hq
  rcases List.mem_append.mp hq with hq | hq
  rotate_left
  · exact ne_8 h q hq
  rcases List.mem_append.mp hq with hq | hq
  rotate_left
  · exact ne_7 h q hq
  rcases List.mem_append.mp hq with hq | hq
  rotate_left
  · exact ne_6 h q hq
  rcases List.mem_append.mp hq with hq | hq
  rotate_left
  · exact ne_5 h q hq
  rcases List.mem_append.mp hq with hq | hq
  rotate_left
  · exact ne_4 h q hq
  rcases List.mem_append.mp hq with hq | hq
  rotate_left
  · exact ne_3 h q hq
  rcases List.mem_append.mp hq with hq | hq
  rotate_left
  · exact ne_2 h q hq
  rcases List.mem_append.mp hq with hq | hq
  rotate_left
  · exact ne_1 h q hq
  exact ne_0 h q hq
theorem ne_in : (List.range 18).all (fun i => (List.range 18).all (fun j => decide (i = j) || (decide ((i, j) ∈ PNL) || decide ((j, i) ∈ PNL)))) = true := by decide +kernel
