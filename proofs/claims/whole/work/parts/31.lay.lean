/-! LAYOUT: where the objects and rows of the class and of the reference lie (laid by program) -/
def RTb : List (Nat × Nat × Nat × Nat) := [(1, 1, 0, 9), (2, 2, 0, 24), (3, 3, 0, 5), (4, 4, 0, 5), (5, 5, 0, 8), (6, 6, 0, 5), (7, 7, 0, 5), (8, 8, 0, 10), (9, 9, 0, 10), (10, 10, 0, 10), (11, 11, 0, 5), (12, 12, 0, 4), (13, 13, 0, 24), (14, 14, 0, 5), (15, 15, 0, 5), (16, 16, 0, 5), (27, 17, 1, 400), (28, 18, 0, 1800), (29, 19, 0, 1800), (30, 20, 0, 6), (31, 21, 0, 72), (32, 22, 0, 72), (33, 23, 0, 72), (34, 24, 0, 402), (35, 25, 3, 11), (36, 26, 3, 300), (37, 27, 0, 5), (40, 28, 0, 400), (41, 29, 0, 1), (45, 30, 0, 4), (46, 31, 0, 4), (47, 32, 0, 729), (48, 33, 0, 305), (49, 34, 0, 35), (50, 35, 0, 3000), (51, 36, 2, 4)]
def RIs (S : List Shp) (R : Nat → Nat → Option Nat) (m : Nat) : Prop := clsOf S m = 11 ∧ ∀ q ∈ RTb, R m q.1 = some (m + q.2.1) ∧ lenOf S q.2.2.1 (m + q.2.1) = q.2.2.2
section LREF
variable {S : List Shp} {R : Nat → Nat → Option Nat} {m i : Nat}
theorem ro_m (h : RIs S R m) : oS S 10 (some m) = some m := oS_ok h.1
theorem rr_scalar (h : RIs S R m) : R m 1 = some (m + 1) := (h.2 (1, 1, 0, 9) (by decide)).1
theorem rx_scalar (h : RIs S R m) (hi : i < 9) : ixS S 0 (some (m + 1)) (nI i) = some (m + 1) := ixS_ok (by rw [(h.2 (1, 1, 0, 9) (by decide)).2]; exact hi) (by omega)
theorem rl_scalar (h : RIs S R m) : lnS S (some (m + 1)) = some (nI 9) := lnS_ok (h.2 (1, 1, 0, 9) (by decide)).2 (by decide) (by decide)
theorem rr_parts (h : RIs S R m) : R m 2 = some (m + 2) := (h.2 (2, 2, 0, 24) (by decide)).1
theorem rx_parts (h : RIs S R m) (hi : i < 24) : ixS S 0 (some (m + 2)) (nI i) = some (m + 2) := ixS_ok (by rw [(h.2 (2, 2, 0, 24) (by decide)).2]; exact hi) (by omega)
theorem rl_parts (h : RIs S R m) : lnS S (some (m + 2)) = some (nI 24) := lnS_ok (h.2 (2, 2, 0, 24) (by decide)).2 (by decide) (by decide)
theorem rr_cargo (h : RIs S R m) : R m 3 = some (m + 3) := (h.2 (3, 3, 0, 5) (by decide)).1
theorem rx_cargo (h : RIs S R m) (hi : i < 5) : ixS S 0 (some (m + 3)) (nI i) = some (m + 3) := ixS_ok (by rw [(h.2 (3, 3, 0, 5) (by decide)).2]; exact hi) (by omega)
theorem rl_cargo (h : RIs S R m) : lnS S (some (m + 3)) = some (nI 5) := lnS_ok (h.2 (3, 3, 0, 5) (by decide)).2 (by decide) (by decide)
theorem rr_keeps (h : RIs S R m) : R m 4 = some (m + 4) := (h.2 (4, 4, 0, 5) (by decide)).1
theorem rx_keeps (h : RIs S R m) (hi : i < 5) : ixS S 0 (some (m + 4)) (nI i) = some (m + 4) := ixS_ok (by rw [(h.2 (4, 4, 0, 5) (by decide)).2]; exact hi) (by omega)
theorem rl_keeps (h : RIs S R m) : lnS S (some (m + 4)) = some (nI 5) := lnS_ok (h.2 (4, 4, 0, 5) (by decide)).2 (by decide) (by decide)
theorem rr_heard (h : RIs S R m) : R m 5 = some (m + 5) := (h.2 (5, 5, 0, 8) (by decide)).1
theorem rx_heard (h : RIs S R m) (hi : i < 8) : ixS S 0 (some (m + 5)) (nI i) = some (m + 5) := ixS_ok (by rw [(h.2 (5, 5, 0, 8) (by decide)).2]; exact hi) (by omega)
theorem rl_heard (h : RIs S R m) : lnS S (some (m + 5)) = some (nI 8) := lnS_ok (h.2 (5, 5, 0, 8) (by decide)).2 (by decide) (by decide)
theorem rr_knows (h : RIs S R m) : R m 6 = some (m + 6) := (h.2 (6, 6, 0, 5) (by decide)).1
theorem rx_knows (h : RIs S R m) (hi : i < 5) : ixS S 0 (some (m + 6)) (nI i) = some (m + 6) := ixS_ok (by rw [(h.2 (6, 6, 0, 5) (by decide)).2]; exact hi) (by omega)
theorem rl_knows (h : RIs S R m) : lnS S (some (m + 6)) = some (nI 5) := lnS_ok (h.2 (6, 6, 0, 5) (by decide)).2 (by decide) (by decide)
theorem rr_passed (h : RIs S R m) : R m 7 = some (m + 7) := (h.2 (7, 7, 0, 5) (by decide)).1
theorem rx_passed (h : RIs S R m) (hi : i < 5) : ixS S 0 (some (m + 7)) (nI i) = some (m + 7) := ixS_ok (by rw [(h.2 (7, 7, 0, 5) (by decide)).2]; exact hi) (by omega)
theorem rl_passed (h : RIs S R m) : lnS S (some (m + 7)) = some (nI 5) := lnS_ok (h.2 (7, 7, 0, 5) (by decide)).2 (by decide) (by decide)
theorem rr_noteTide (h : RIs S R m) : R m 8 = some (m + 8) := (h.2 (8, 8, 0, 10) (by decide)).1
theorem rx_noteTide (h : RIs S R m) (hi : i < 10) : ixS S 0 (some (m + 8)) (nI i) = some (m + 8) := ixS_ok (by rw [(h.2 (8, 8, 0, 10) (by decide)).2]; exact hi) (by omega)
theorem rl_noteTide (h : RIs S R m) : lnS S (some (m + 8)) = some (nI 10) := lnS_ok (h.2 (8, 8, 0, 10) (by decide)).2 (by decide) (by decide)
theorem rr_noteShip (h : RIs S R m) : R m 9 = some (m + 9) := (h.2 (9, 9, 0, 10) (by decide)).1
theorem rx_noteShip (h : RIs S R m) (hi : i < 10) : ixS S 0 (some (m + 9)) (nI i) = some (m + 9) := ixS_ok (by rw [(h.2 (9, 9, 0, 10) (by decide)).2]; exact hi) (by omega)
theorem rl_noteShip (h : RIs S R m) : lnS S (some (m + 9)) = some (nI 10) := lnS_ok (h.2 (9, 9, 0, 10) (by decide)).2 (by decide) (by decide)
theorem rr_noteJoke (h : RIs S R m) : R m 10 = some (m + 10) := (h.2 (10, 10, 0, 10) (by decide)).1
theorem rx_noteJoke (h : RIs S R m) (hi : i < 10) : ixS S 0 (some (m + 10)) (nI i) = some (m + 10) := ixS_ok (by rw [(h.2 (10, 10, 0, 10) (by decide)).2]; exact hi) (by omega)
theorem rl_noteJoke (h : RIs S R m) : lnS S (some (m + 10)) = some (nI 10) := lnS_ok (h.2 (10, 10, 0, 10) (by decide)).2 (by decide) (by decide)
theorem rr_toldKnows (h : RIs S R m) : R m 11 = some (m + 11) := (h.2 (11, 11, 0, 5) (by decide)).1
theorem rx_toldKnows (h : RIs S R m) (hi : i < 5) : ixS S 0 (some (m + 11)) (nI i) = some (m + 11) := ixS_ok (by rw [(h.2 (11, 11, 0, 5) (by decide)).2]; exact hi) (by omega)
theorem rl_toldKnows (h : RIs S R m) : lnS S (some (m + 11)) = some (nI 5) := lnS_ok (h.2 (11, 11, 0, 5) (by decide)).2 (by decide) (by decide)
theorem rr_newScalar (h : RIs S R m) : R m 12 = some (m + 12) := (h.2 (12, 12, 0, 4) (by decide)).1
theorem rx_newScalar (h : RIs S R m) (hi : i < 4) : ixS S 0 (some (m + 12)) (nI i) = some (m + 12) := ixS_ok (by rw [(h.2 (12, 12, 0, 4) (by decide)).2]; exact hi) (by omega)
theorem rl_newScalar (h : RIs S R m) : lnS S (some (m + 12)) = some (nI 4) := lnS_ok (h.2 (12, 12, 0, 4) (by decide)).2 (by decide) (by decide)
theorem rr_newParts (h : RIs S R m) : R m 13 = some (m + 13) := (h.2 (13, 13, 0, 24) (by decide)).1
theorem rx_newParts (h : RIs S R m) (hi : i < 24) : ixS S 0 (some (m + 13)) (nI i) = some (m + 13) := ixS_ok (by rw [(h.2 (13, 13, 0, 24) (by decide)).2]; exact hi) (by omega)
theorem rl_newParts (h : RIs S R m) : lnS S (some (m + 13)) = some (nI 24) := lnS_ok (h.2 (13, 13, 0, 24) (by decide)).2 (by decide) (by decide)
theorem rr_newCargo (h : RIs S R m) : R m 14 = some (m + 14) := (h.2 (14, 14, 0, 5) (by decide)).1
theorem rx_newCargo (h : RIs S R m) (hi : i < 5) : ixS S 0 (some (m + 14)) (nI i) = some (m + 14) := ixS_ok (by rw [(h.2 (14, 14, 0, 5) (by decide)).2]; exact hi) (by omega)
theorem rl_newCargo (h : RIs S R m) : lnS S (some (m + 14)) = some (nI 5) := lnS_ok (h.2 (14, 14, 0, 5) (by decide)).2 (by decide) (by decide)
theorem rr_newKeeps (h : RIs S R m) : R m 15 = some (m + 15) := (h.2 (15, 15, 0, 5) (by decide)).1
theorem rx_newKeeps (h : RIs S R m) (hi : i < 5) : ixS S 0 (some (m + 15)) (nI i) = some (m + 15) := ixS_ok (by rw [(h.2 (15, 15, 0, 5) (by decide)).2]; exact hi) (by omega)
theorem rl_newKeeps (h : RIs S R m) : lnS S (some (m + 15)) = some (nI 5) := lnS_ok (h.2 (15, 15, 0, 5) (by decide)).2 (by decide) (by decide)
theorem rr_newKnows (h : RIs S R m) : R m 16 = some (m + 16) := (h.2 (16, 16, 0, 5) (by decide)).1
theorem rx_newKnows (h : RIs S R m) (hi : i < 5) : ixS S 0 (some (m + 16)) (nI i) = some (m + 16) := ixS_ok (by rw [(h.2 (16, 16, 0, 5) (by decide)).2]; exact hi) (by omega)
theorem rl_newKnows (h : RIs S R m) : lnS S (some (m + 16)) = some (nI 5) := lnS_ok (h.2 (16, 16, 0, 5) (by decide)).2 (by decide) (by decide)
theorem rr_tape (h : RIs S R m) : R m 27 = some (m + 17) := (h.2 (27, 17, 1, 400) (by decide)).1
theorem rx_tape (h : RIs S R m) (hi : i < 400) : ixS S 1 (some (m + 17)) (nI i) = some (m + 17) := ixS_ok (by rw [(h.2 (27, 17, 1, 400) (by decide)).2]; exact hi) (by omega)
theorem rl_tape (h : RIs S R m) : lnS S (some (m + 17)) = some (nI 400) := lnS_ok (h.2 (27, 17, 1, 400) (by decide)).2 (by decide) (by decide)
theorem rr_sort (h : RIs S R m) : R m 28 = some (m + 18) := (h.2 (28, 18, 0, 1800) (by decide)).1
theorem rx_sort (h : RIs S R m) (hi : i < 1800) : ixS S 0 (some (m + 18)) (nI i) = some (m + 18) := ixS_ok (by rw [(h.2 (28, 18, 0, 1800) (by decide)).2]; exact hi) (by omega)
theorem rl_sort (h : RIs S R m) : lnS S (some (m + 18)) = some (nI 1800) := lnS_ok (h.2 (28, 18, 0, 1800) (by decide)).2 (by decide) (by decide)
theorem rr_number (h : RIs S R m) : R m 29 = some (m + 19) := (h.2 (29, 19, 0, 1800) (by decide)).1
theorem rx_number (h : RIs S R m) (hi : i < 1800) : ixS S 0 (some (m + 19)) (nI i) = some (m + 19) := ixS_ok (by rw [(h.2 (29, 19, 0, 1800) (by decide)).2]; exact hi) (by omega)
theorem rl_number (h : RIs S R m) : lnS S (some (m + 19)) = some (nI 1800) := lnS_ok (h.2 (29, 19, 0, 1800) (by decide)).2 (by decide) (by decide)
theorem rr_clauses (h : RIs S R m) : R m 30 = some (m + 20) := (h.2 (30, 20, 0, 6) (by decide)).1
theorem rx_clauses (h : RIs S R m) (hi : i < 6) : ixS S 0 (some (m + 20)) (nI i) = some (m + 20) := ixS_ok (by rw [(h.2 (30, 20, 0, 6) (by decide)).2]; exact hi) (by omega)
theorem rl_clauses (h : RIs S R m) : lnS S (some (m + 20)) = some (nI 6) := lnS_ok (h.2 (30, 20, 0, 6) (by decide)).2 (by decide) (by decide)
theorem rr_sumAt (h : RIs S R m) : R m 31 = some (m + 21) := (h.2 (31, 21, 0, 72) (by decide)).1
theorem rx_sumAt (h : RIs S R m) (hi : i < 72) : ixS S 0 (some (m + 21)) (nI i) = some (m + 21) := ixS_ok (by rw [(h.2 (31, 21, 0, 72) (by decide)).2]; exact hi) (by omega)
theorem rl_sumAt (h : RIs S R m) : lnS S (some (m + 21)) = some (nI 72) := lnS_ok (h.2 (31, 21, 0, 72) (by decide)).2 (by decide) (by decide)
theorem rr_testAt (h : RIs S R m) : R m 32 = some (m + 22) := (h.2 (32, 22, 0, 72) (by decide)).1
theorem rx_testAt (h : RIs S R m) (hi : i < 72) : ixS S 0 (some (m + 22)) (nI i) = some (m + 22) := ixS_ok (by rw [(h.2 (32, 22, 0, 72) (by decide)).2]; exact hi) (by omega)
theorem rl_testAt (h : RIs S R m) : lnS S (some (m + 22)) = some (nI 72) := lnS_ok (h.2 (32, 22, 0, 72) (by decide)).2 (by decide) (by decide)
theorem rr_endAt (h : RIs S R m) : R m 33 = some (m + 23) := (h.2 (33, 23, 0, 72) (by decide)).1
theorem rx_endAt (h : RIs S R m) (hi : i < 72) : ixS S 0 (some (m + 23)) (nI i) = some (m + 23) := ixS_ok (by rw [(h.2 (33, 23, 0, 72) (by decide)).2]; exact hi) (by omega)
theorem rl_endAt (h : RIs S R m) : lnS S (some (m + 23)) = some (nI 72) := lnS_ok (h.2 (33, 23, 0, 72) (by decide)).2 (by decide) (by decide)
theorem rr_open (h : RIs S R m) : R m 34 = some (m + 24) := (h.2 (34, 24, 0, 402) (by decide)).1
theorem rx_open (h : RIs S R m) (hi : i < 402) : ixS S 0 (some (m + 24)) (nI i) = some (m + 24) := ixS_ok (by rw [(h.2 (34, 24, 0, 402) (by decide)).2]; exact hi) (by omega)
theorem rl_open (h : RIs S R m) : lnS S (some (m + 24)) = some (nI 402) := lnS_ok (h.2 (34, 24, 0, 402) (by decide)).2 (by decide) (by decide)
theorem rr_asked (h : RIs S R m) : R m 35 = some (m + 25) := (h.2 (35, 25, 3, 11) (by decide)).1
theorem rx_asked (h : RIs S R m) (hi : i < 11) : ixS S 3 (some (m + 25)) (nI i) = some (m + 25) := ixS_ok (by rw [(h.2 (35, 25, 3, 11) (by decide)).2]; exact hi) (by omega)
theorem rl_asked (h : RIs S R m) : lnS S (some (m + 25)) = some (nI 11) := lnS_ok (h.2 (35, 25, 3, 11) (by decide)).2 (by decide) (by decide)
theorem rr_stack (h : RIs S R m) : R m 36 = some (m + 26) := (h.2 (36, 26, 3, 300) (by decide)).1
theorem rx_stack (h : RIs S R m) (hi : i < 300) : ixS S 3 (some (m + 26)) (nI i) = some (m + 26) := ixS_ok (by rw [(h.2 (36, 26, 3, 300) (by decide)).2]; exact hi) (by omega)
theorem rl_stack (h : RIs S R m) : lnS S (some (m + 26)) = some (nI 300) := lnS_ok (h.2 (36, 26, 3, 300) (by decide)).2 (by decide) (by decide)
theorem rr_told (h : RIs S R m) : R m 37 = some (m + 27) := (h.2 (37, 27, 0, 5) (by decide)).1
theorem rx_told (h : RIs S R m) (hi : i < 5) : ixS S 0 (some (m + 27)) (nI i) = some (m + 27) := ixS_ok (by rw [(h.2 (37, 27, 0, 5) (by decide)).2]; exact hi) (by omega)
theorem rl_told (h : RIs S R m) : lnS S (some (m + 27)) = some (nI 5) := lnS_ok (h.2 (37, 27, 0, 5) (by decide)).2 (by decide) (by decide)
theorem rr_past (h : RIs S R m) : R m 40 = some (m + 28) := (h.2 (40, 28, 0, 400) (by decide)).1
theorem rx_past (h : RIs S R m) (hi : i < 400) : ixS S 0 (some (m + 28)) (nI i) = some (m + 28) := ixS_ok (by rw [(h.2 (40, 28, 0, 400) (by decide)).2]; exact hi) (by omega)
theorem rl_past (h : RIs S R m) : lnS S (some (m + 28)) = some (nI 400) := lnS_ok (h.2 (40, 28, 0, 400) (by decide)).2 (by decide) (by decide)
theorem rr_pastOf (h : RIs S R m) : R m 41 = some (m + 29) := (h.2 (41, 29, 0, 1) (by decide)).1
theorem rx_pastOf (h : RIs S R m) (hi : i < 1) : ixS S 0 (some (m + 29)) (nI i) = some (m + 29) := ixS_ok (by rw [(h.2 (41, 29, 0, 1) (by decide)).2]; exact hi) (by omega)
theorem rl_pastOf (h : RIs S R m) : lnS S (some (m + 29)) = some (nI 1) := lnS_ok (h.2 (41, 29, 0, 1) (by decide)).2 (by decide) (by decide)
theorem rr_tried (h : RIs S R m) : R m 45 = some (m + 30) := (h.2 (45, 30, 0, 4) (by decide)).1
theorem rx_tried (h : RIs S R m) (hi : i < 4) : ixS S 0 (some (m + 30)) (nI i) = some (m + 30) := ixS_ok (by rw [(h.2 (45, 30, 0, 4) (by decide)).2]; exact hi) (by omega)
theorem rl_tried (h : RIs S R m) : lnS S (some (m + 30)) = some (nI 4) := lnS_ok (h.2 (45, 30, 0, 4) (by decide)).2 (by decide) (by decide)
theorem rr_bestRow (h : RIs S R m) : R m 46 = some (m + 31) := (h.2 (46, 31, 0, 4) (by decide)).1
theorem rx_bestRow (h : RIs S R m) (hi : i < 4) : ixS S 0 (some (m + 31)) (nI i) = some (m + 31) := ixS_ok (by rw [(h.2 (46, 31, 0, 4) (by decide)).2]; exact hi) (by omega)
theorem rl_bestRow (h : RIs S R m) : lnS S (some (m + 31)) = some (nI 4) := lnS_ok (h.2 (46, 31, 0, 4) (by decide)).2 (by decide) (by decide)
theorem rr_plays (h : RIs S R m) : R m 47 = some (m + 32) := (h.2 (47, 32, 0, 729) (by decide)).1
theorem rx_plays (h : RIs S R m) (hi : i < 729) : ixS S 0 (some (m + 32)) (nI i) = some (m + 32) := ixS_ok (by rw [(h.2 (47, 32, 0, 729) (by decide)).2]; exact hi) (by omega)
theorem rl_plays (h : RIs S R m) : lnS S (some (m + 32)) = some (nI 729) := lnS_ok (h.2 (47, 32, 0, 729) (by decide)).2 (by decide) (by decide)
theorem rr_lay (h : RIs S R m) : R m 48 = some (m + 33) := (h.2 (48, 33, 0, 305) (by decide)).1
theorem rx_lay (h : RIs S R m) (hi : i < 305) : ixS S 0 (some (m + 33)) (nI i) = some (m + 33) := ixS_ok (by rw [(h.2 (48, 33, 0, 305) (by decide)).2]; exact hi) (by omega)
theorem rl_lay (h : RIs S R m) : lnS S (some (m + 33)) = some (nI 305) := lnS_ok (h.2 (48, 33, 0, 305) (by decide)).2 (by decide) (by decide)
theorem rr_shows (h : RIs S R m) : R m 49 = some (m + 34) := (h.2 (49, 34, 0, 35) (by decide)).1
theorem rx_shows (h : RIs S R m) (hi : i < 35) : ixS S 0 (some (m + 34)) (nI i) = some (m + 34) := ixS_ok (by rw [(h.2 (49, 34, 0, 35) (by decide)).2]; exact hi) (by omega)
theorem rl_shows (h : RIs S R m) : lnS S (some (m + 34)) = some (nI 35) := lnS_ok (h.2 (49, 34, 0, 35) (by decide)).2 (by decide) (by decide)
theorem rr_images (h : RIs S R m) : R m 50 = some (m + 35) := (h.2 (50, 35, 0, 3000) (by decide)).1
theorem rx_images (h : RIs S R m) (hi : i < 3000) : ixS S 0 (some (m + 35)) (nI i) = some (m + 35) := ixS_ok (by rw [(h.2 (50, 35, 0, 3000) (by decide)).2]; exact hi) (by omega)
theorem rl_images (h : RIs S R m) : lnS S (some (m + 35)) = some (nI 3000) := lnS_ok (h.2 (50, 35, 0, 3000) (by decide)).2 (by decide) (by decide)
theorem rr_isMade (h : RIs S R m) : R m 51 = some (m + 36) := (h.2 (51, 36, 2, 4) (by decide)).1
theorem rx_isMade (h : RIs S R m) (hi : i < 4) : ixS S 2 (some (m + 36)) (nI i) = some (m + 36) := ixS_ok (by rw [(h.2 (51, 36, 2, 4) (by decide)).2]; exact hi) (by omega)
theorem rl_isMade (h : RIs S R m) : lnS S (some (m + 36)) = some (nI 4) := lnS_ok (h.2 (51, 36, 2, 4) (by decide)).2 (by decide) (by decide)
end LREF
def ITold (S : List Shp) (R : Nat → Nat → Option Nat) (t : Nat) : Prop := clsOf S t = 9 ∧ (R t 5 = some (t + 1) ∧ lenOf S 0 (t + 1) = 24) ∧ (R t 6 = some (t + 2) ∧ lenOf S 0 (t + 2) = 5) ∧ (R t 7 = some (t + 3) ∧ lenOf S 0 (t + 3) = 5) ∧ (R t 8 = some (t + 4) ∧ lenOf S 0 (t + 4) = 5) ∧ (R t 9 = some (t + 5) ∧ lenOf S 0 (t + 5) = 32)
theorem told_o {S : List Shp} {R : Nat → Nat → Option Nat} {t : Nat} (h : ITold S R t) : oS S 8 (some t) = some t := oS_ok h.1
theorem told_r_part {S : List Shp} {R : Nat → Nat → Option Nat} {t : Nat} (h : ITold S R t) : R t 5 = some (t + 1) := h.2.1.1
theorem told_x_part {S : List Shp} {R : Nat → Nat → Option Nat} {t i : Nat} (h : ITold S R t) (hi : i < 24) : ixS S 0 (some (t + 1)) (nI i) = some (t + 1) := ixS_ok (by rw [h.2.1.2]; exact hi) (by omega)
theorem told_l_part {S : List Shp} {R : Nat → Nat → Option Nat} {t : Nat} (h : ITold S R t) : lenOf S 0 (t + 1) = 24 := h.2.1.2
theorem told_n_part {S : List Shp} {R : Nat → Nat → Option Nat} {t : Nat} (h : ITold S R t) : lnS S (some (t + 1)) = some (nI 24) := lnS_ok h.2.1.2 (by decide) (by decide)
theorem told_r_cargo {S : List Shp} {R : Nat → Nat → Option Nat} {t : Nat} (h : ITold S R t) : R t 6 = some (t + 2) := h.2.2.1.1
theorem told_x_cargo {S : List Shp} {R : Nat → Nat → Option Nat} {t i : Nat} (h : ITold S R t) (hi : i < 5) : ixS S 0 (some (t + 2)) (nI i) = some (t + 2) := ixS_ok (by rw [h.2.2.1.2]; exact hi) (by omega)
theorem told_l_cargo {S : List Shp} {R : Nat → Nat → Option Nat} {t : Nat} (h : ITold S R t) : lenOf S 0 (t + 2) = 5 := h.2.2.1.2
theorem told_n_cargo {S : List Shp} {R : Nat → Nat → Option Nat} {t : Nat} (h : ITold S R t) : lnS S (some (t + 2)) = some (nI 5) := lnS_ok h.2.2.1.2 (by decide) (by decide)
theorem told_r_keeps {S : List Shp} {R : Nat → Nat → Option Nat} {t : Nat} (h : ITold S R t) : R t 7 = some (t + 3) := h.2.2.2.1.1
theorem told_x_keeps {S : List Shp} {R : Nat → Nat → Option Nat} {t i : Nat} (h : ITold S R t) (hi : i < 5) : ixS S 0 (some (t + 3)) (nI i) = some (t + 3) := ixS_ok (by rw [h.2.2.2.1.2]; exact hi) (by omega)
theorem told_l_keeps {S : List Shp} {R : Nat → Nat → Option Nat} {t : Nat} (h : ITold S R t) : lenOf S 0 (t + 3) = 5 := h.2.2.2.1.2
theorem told_n_keeps {S : List Shp} {R : Nat → Nat → Option Nat} {t : Nat} (h : ITold S R t) : lnS S (some (t + 3)) = some (nI 5) := lnS_ok h.2.2.2.1.2 (by decide) (by decide)
theorem told_r_knows {S : List Shp} {R : Nat → Nat → Option Nat} {t : Nat} (h : ITold S R t) : R t 8 = some (t + 4) := h.2.2.2.2.1.1
theorem told_x_knows {S : List Shp} {R : Nat → Nat → Option Nat} {t i : Nat} (h : ITold S R t) (hi : i < 5) : ixS S 0 (some (t + 4)) (nI i) = some (t + 4) := ixS_ok (by rw [h.2.2.2.2.1.2]; exact hi) (by omega)
theorem told_l_knows {S : List Shp} {R : Nat → Nat → Option Nat} {t : Nat} (h : ITold S R t) : lenOf S 0 (t + 4) = 5 := h.2.2.2.2.1.2
theorem told_n_knows {S : List Shp} {R : Nat → Nat → Option Nat} {t : Nat} (h : ITold S R t) : lnS S (some (t + 4)) = some (nI 5) := lnS_ok h.2.2.2.2.1.2 (by decide) (by decide)
theorem told_r_near {S : List Shp} {R : Nat → Nat → Option Nat} {t : Nat} (h : ITold S R t) : R t 9 = some (t + 5) := h.2.2.2.2.2.1
theorem told_x_near {S : List Shp} {R : Nat → Nat → Option Nat} {t i : Nat} (h : ITold S R t) (hi : i < 32) : ixS S 0 (some (t + 5)) (nI i) = some (t + 5) := ixS_ok (by rw [h.2.2.2.2.2.2]; exact hi) (by omega)
theorem told_l_near {S : List Shp} {R : Nat → Nat → Option Nat} {t : Nat} (h : ITold S R t) : lenOf S 0 (t + 5) = 32 := h.2.2.2.2.2.2
theorem told_n_near {S : List Shp} {R : Nat → Nat → Option Nat} {t : Nat} (h : ITold S R t) : lnS S (some (t + 5)) = some (nI 32) := lnS_ok h.2.2.2.2.2.2 (by decide) (by decide)
def IScene (S : List Shp) (R : Nat → Nat → Option Nat) (t : Nat) : Prop := clsOf S t = 7 ∧ (R t 1 = some (t + 1) ∧ lenOf S 0 (t + 1) = 8) ∧ (R t 2 = some (t + 2) ∧ lenOf S 0 (t + 2) = 5) ∧ (R t 3 = some (t + 3) ∧ lenOf S 0 (t + 3) = 5)
theorem scene_o {S : List Shp} {R : Nat → Nat → Option Nat} {t : Nat} (h : IScene S R t) : oS S 6 (some t) = some t := oS_ok h.1
theorem scene_r_heard {S : List Shp} {R : Nat → Nat → Option Nat} {t : Nat} (h : IScene S R t) : R t 1 = some (t + 1) := h.2.1.1
theorem scene_x_heard {S : List Shp} {R : Nat → Nat → Option Nat} {t i : Nat} (h : IScene S R t) (hi : i < 8) : ixS S 0 (some (t + 1)) (nI i) = some (t + 1) := ixS_ok (by rw [h.2.1.2]; exact hi) (by omega)
theorem scene_l_heard {S : List Shp} {R : Nat → Nat → Option Nat} {t : Nat} (h : IScene S R t) : lenOf S 0 (t + 1) = 8 := h.2.1.2
theorem scene_n_heard {S : List Shp} {R : Nat → Nat → Option Nat} {t : Nat} (h : IScene S R t) : lnS S (some (t + 1)) = some (nI 8) := lnS_ok h.2.1.2 (by decide) (by decide)
theorem scene_r_knows {S : List Shp} {R : Nat → Nat → Option Nat} {t : Nat} (h : IScene S R t) : R t 2 = some (t + 2) := h.2.2.1.1
theorem scene_x_knows {S : List Shp} {R : Nat → Nat → Option Nat} {t i : Nat} (h : IScene S R t) (hi : i < 5) : ixS S 0 (some (t + 2)) (nI i) = some (t + 2) := ixS_ok (by rw [h.2.2.1.2]; exact hi) (by omega)
theorem scene_l_knows {S : List Shp} {R : Nat → Nat → Option Nat} {t : Nat} (h : IScene S R t) : lenOf S 0 (t + 2) = 5 := h.2.2.1.2
theorem scene_n_knows {S : List Shp} {R : Nat → Nat → Option Nat} {t : Nat} (h : IScene S R t) : lnS S (some (t + 2)) = some (nI 5) := lnS_ok h.2.2.1.2 (by decide) (by decide)
theorem scene_r_passed {S : List Shp} {R : Nat → Nat → Option Nat} {t : Nat} (h : IScene S R t) : R t 3 = some (t + 3) := h.2.2.2.1
theorem scene_x_passed {S : List Shp} {R : Nat → Nat → Option Nat} {t i : Nat} (h : IScene S R t) (hi : i < 5) : ixS S 0 (some (t + 3)) (nI i) = some (t + 3) := ixS_ok (by rw [h.2.2.2.2]; exact hi) (by omega)
theorem scene_l_passed {S : List Shp} {R : Nat → Nat → Option Nat} {t : Nat} (h : IScene S R t) : lenOf S 0 (t + 3) = 5 := h.2.2.2.2
theorem scene_n_passed {S : List Shp} {R : Nat → Nat → Option Nat} {t : Nat} (h : IScene S R t) : lnS S (some (t + 3)) = some (nI 5) := lnS_ok h.2.2.2.2 (by decide) (by decide)
def IBook (S : List Shp) (R : Nat → Nat → Option Nat) (t : Nat) : Prop := clsOf S t = 3 ∧ (R t 2 = some (t + 11) ∧ lenOf S 0 (t + 11) = 10) ∧ (R t 3 = some (t + 12) ∧ lenOf S 0 (t + 12) = 10) ∧ (R t 4 = some (t + 13) ∧ lenOf S 0 (t + 13) = 10) ∧ (R t 9 = some (t + 14) ∧ lenOf S 0 (t + 14) = 380) ∧ R t 0 = some (t + 1) ∧ R t 1 = some (t + 7) ∧ ITold S R (t + 1) ∧ IScene S R (t + 7)
theorem book_o {S : List Shp} {R : Nat → Nat → Option Nat} {t : Nat} (h : IBook S R t) : oS S 2 (some t) = some t := oS_ok h.1
theorem book_r_noteTide {S : List Shp} {R : Nat → Nat → Option Nat} {t : Nat} (h : IBook S R t) : R t 2 = some (t + 11) := h.2.1.1
theorem book_x_noteTide {S : List Shp} {R : Nat → Nat → Option Nat} {t i : Nat} (h : IBook S R t) (hi : i < 10) : ixS S 0 (some (t + 11)) (nI i) = some (t + 11) := ixS_ok (by rw [h.2.1.2]; exact hi) (by omega)
theorem book_l_noteTide {S : List Shp} {R : Nat → Nat → Option Nat} {t : Nat} (h : IBook S R t) : lenOf S 0 (t + 11) = 10 := h.2.1.2
theorem book_n_noteTide {S : List Shp} {R : Nat → Nat → Option Nat} {t : Nat} (h : IBook S R t) : lnS S (some (t + 11)) = some (nI 10) := lnS_ok h.2.1.2 (by decide) (by decide)
theorem book_r_noteShip {S : List Shp} {R : Nat → Nat → Option Nat} {t : Nat} (h : IBook S R t) : R t 3 = some (t + 12) := h.2.2.1.1
theorem book_x_noteShip {S : List Shp} {R : Nat → Nat → Option Nat} {t i : Nat} (h : IBook S R t) (hi : i < 10) : ixS S 0 (some (t + 12)) (nI i) = some (t + 12) := ixS_ok (by rw [h.2.2.1.2]; exact hi) (by omega)
theorem book_l_noteShip {S : List Shp} {R : Nat → Nat → Option Nat} {t : Nat} (h : IBook S R t) : lenOf S 0 (t + 12) = 10 := h.2.2.1.2
theorem book_n_noteShip {S : List Shp} {R : Nat → Nat → Option Nat} {t : Nat} (h : IBook S R t) : lnS S (some (t + 12)) = some (nI 10) := lnS_ok h.2.2.1.2 (by decide) (by decide)
theorem book_r_noteJoke {S : List Shp} {R : Nat → Nat → Option Nat} {t : Nat} (h : IBook S R t) : R t 4 = some (t + 13) := h.2.2.2.1.1
theorem book_x_noteJoke {S : List Shp} {R : Nat → Nat → Option Nat} {t i : Nat} (h : IBook S R t) (hi : i < 10) : ixS S 0 (some (t + 13)) (nI i) = some (t + 13) := ixS_ok (by rw [h.2.2.2.1.2]; exact hi) (by omega)
theorem book_l_noteJoke {S : List Shp} {R : Nat → Nat → Option Nat} {t : Nat} (h : IBook S R t) : lenOf S 0 (t + 13) = 10 := h.2.2.2.1.2
theorem book_n_noteJoke {S : List Shp} {R : Nat → Nat → Option Nat} {t : Nat} (h : IBook S R t) : lnS S (some (t + 13)) = some (nI 10) := lnS_ok h.2.2.2.1.2 (by decide) (by decide)
theorem book_r_past {S : List Shp} {R : Nat → Nat → Option Nat} {t : Nat} (h : IBook S R t) : R t 9 = some (t + 14) := h.2.2.2.2.1.1
theorem book_x_past {S : List Shp} {R : Nat → Nat → Option Nat} {t i : Nat} (h : IBook S R t) (hi : i < 380) : ixS S 0 (some (t + 14)) (nI i) = some (t + 14) := ixS_ok (by rw [h.2.2.2.2.1.2]; exact hi) (by omega)
theorem book_l_past {S : List Shp} {R : Nat → Nat → Option Nat} {t : Nat} (h : IBook S R t) : lenOf S 0 (t + 14) = 380 := h.2.2.2.2.1.2
theorem book_n_past {S : List Shp} {R : Nat → Nat → Option Nat} {t : Nat} (h : IBook S R t) : lnS S (some (t + 14)) = some (nI 380) := lnS_ok h.2.2.2.2.1.2 (by decide) (by decide)
theorem book_r_told {S : List Shp} {R : Nat → Nat → Option Nat} {t : Nat} (h : IBook S R t) : R t 0 = some (t + 1) := h.2.2.2.2.2.1
theorem book_r_scene {S : List Shp} {R : Nat → Nat → Option Nat} {t : Nat} (h : IBook S R t) : R t 1 = some (t + 7) := h.2.2.2.2.2.2.1
theorem book_i_1 {S : List Shp} {R : Nat → Nat → Option Nat} {t : Nat} (h : IBook S R t) : ITold S R (t + 1) := h.2.2.2.2.2.2.2.1
theorem book_i_7 {S : List Shp} {R : Nat → Nat → Option Nat} {t : Nat} (h : IBook S R t) : IScene S R (t + 7) := h.2.2.2.2.2.2.2.2
def IRule (S : List Shp) (R : Nat → Nat → Option Nat) (t n : Nat) : Prop := clsOf S t = 5 ∧ (R t 3 = some (t + 1) ∧ S[t + 1]? = some (Sum.inr (0, n))) ∧ (R t 4 = some (t + 2) ∧ lenOf S 3 (t + 2) = 8)
def COb : List (Nat × Nat) := [(0, 10), (1, 8), (3, 2), (10, 6), (30, 4), (37, 1)]
def CRw : List (Nat × Nat × Nat × Nat × Nat) := [(1, 0, 2, 0, 400), (10, 1, 11, 0, 400), (10, 2, 12, 0, 400), (0, 3, 13, 4, 6), (0, 5, 29, 5, 4), (30, 1, 31, 0, 5), (30, 3, 32, 0, 11), (37, 3, 38, 0, 4), (37, 8, 43, 6, 5), (37, 9, 44, 2, 7), (37, 10, 45, 0, 35)]
def CRf : List (Nat × Nat × Nat) := [(0, 0, 1), (0, 1, 3), (0, 2, 10), (0, 4, 14), (0, 6, 30), (0, 7, 37), (3, 0, 4), (3, 1, 1), (10, 0, 1), (30, 2, 15), (37, 4, 14), (37, 5, 15), (37, 6, 30), (37, 7, 39)]
def CIs (S : List Shp) (R : Nat → Nat → Option Nat) : Prop := (∀ q ∈ COb, clsOf S q.1 = q.2) ∧ (∀ q ∈ CRw, R q.1 q.2.1 = some q.2.2.1 ∧ lenOf S q.2.2.2.1 q.2.2.1 = q.2.2.2.2) ∧ (∀ q ∈ CRf, R q.1 q.2.1 = some q.2.2) ∧ (∀ i, i < 5 → R 43 i = some (46 + 4 * i)) ∧ ITold S R 4 ∧ IBook S R 14 ∧ IScene S R 33 ∧ IScene S R 39 ∧ ∀ i, i < 5 → IScene S R (46 + 4 * i)
section LCLS
variable {S : List Shp} {R : Nat → Nat → Option Nat} {i : Nat}
theorem cob_0 (h : CIs S R) : oS S 9 (some 0) = some 0 := oS_ok (h.1 (0, 10) (by decide))
theorem cob_1 (h : CIs S R) : oS S 7 (some 1) = some 1 := oS_ok (h.1 (1, 8) (by decide))
theorem cob_3 (h : CIs S R) : oS S 1 (some 3) = some 3 := oS_ok (h.1 (3, 2) (by decide))
theorem cob_10 (h : CIs S R) : oS S 5 (some 10) = some 10 := oS_ok (h.1 (10, 6) (by decide))
theorem cob_30 (h : CIs S R) : oS S 3 (some 30) = some 30 := oS_ok (h.1 (30, 4) (by decide))
theorem cob_37 (h : CIs S R) : oS S 0 (some 37) = some 37 := oS_ok (h.1 (37, 1) (by decide))
theorem cr_bytes (h : CIs S R) : R 1 0 = some 2 := (h.2.1 (1, 0, 2, 0, 400) (by decide)).1
theorem cx_bytes (h : CIs S R) (hi : i < 400) : ixS S 0 (some 2) (nI i) = some 2 := ixS_ok (by rw [(h.2.1 (1, 0, 2, 0, 400) (by decide)).2]; exact hi) (by omega)
theorem cn_bytes (h : CIs S R) : lnS S (some 2) = some (nI 400) := lnS_ok (h.2.1 (1, 0, 2, 0, 400) (by decide)).2 (by decide) (by decide)
theorem cl_bytes (h : CIs S R) : lenOf S 0 2 = 400 := (h.2.1 (1, 0, 2, 0, 400) (by decide)).2
theorem cr_code (h : CIs S R) : R 10 1 = some 11 := (h.2.1 (10, 1, 11, 0, 400) (by decide)).1
theorem cx_code (h : CIs S R) (hi : i < 400) : ixS S 0 (some 11) (nI i) = some 11 := ixS_ok (by rw [(h.2.1 (10, 1, 11, 0, 400) (by decide)).2]; exact hi) (by omega)
theorem cn_code (h : CIs S R) : lnS S (some 11) = some (nI 400) := lnS_ok (h.2.1 (10, 1, 11, 0, 400) (by decide)).2 (by decide) (by decide)
theorem cl_code (h : CIs S R) : lenOf S 0 11 = 400 := (h.2.1 (10, 1, 11, 0, 400) (by decide)).2
theorem cr_spare (h : CIs S R) : R 10 2 = some 12 := (h.2.1 (10, 2, 12, 0, 400) (by decide)).1
theorem cx_spare (h : CIs S R) (hi : i < 400) : ixS S 0 (some 12) (nI i) = some 12 := ixS_ok (by rw [(h.2.1 (10, 2, 12, 0, 400) (by decide)).2]; exact hi) (by omega)
theorem cn_spare (h : CIs S R) : lnS S (some 12) = some (nI 400) := lnS_ok (h.2.1 (10, 2, 12, 0, 400) (by decide)).2 (by decide) (by decide)
theorem cl_spare (h : CIs S R) : lenOf S 0 12 = 400 := (h.2.1 (10, 2, 12, 0, 400) (by decide)).2
theorem cr_rules (h : CIs S R) : R 0 3 = some 13 := (h.2.1 (0, 3, 13, 4, 6) (by decide)).1
theorem cx_rules (h : CIs S R) (hi : i < 6) : ixS S 4 (some 13) (nI i) = some 13 := ixS_ok (by rw [(h.2.1 (0, 3, 13, 4, 6) (by decide)).2]; exact hi) (by omega)
theorem cn_rules (h : CIs S R) : lnS S (some 13) = some (nI 6) := lnS_ok (h.2.1 (0, 3, 13, 4, 6) (by decide)).2 (by decide) (by decide)
theorem cl_rules (h : CIs S R) : lenOf S 4 13 = 6 := (h.2.1 (0, 3, 13, 4, 6) (by decide)).2
theorem cr_images (h : CIs S R) : R 0 5 = some 29 := (h.2.1 (0, 5, 29, 5, 4) (by decide)).1
theorem cx_images (h : CIs S R) (hi : i < 4) : ixS S 5 (some 29) (nI i) = some 29 := ixS_ok (by rw [(h.2.1 (0, 5, 29, 5, 4) (by decide)).2]; exact hi) (by omega)
theorem cn_images (h : CIs S R) : lnS S (some 29) = some (nI 4) := lnS_ok (h.2.1 (0, 5, 29, 5, 4) (by decide)).2 (by decide) (by decide)
theorem cl_images (h : CIs S R) : lenOf S 5 29 = 4 := (h.2.1 (0, 5, 29, 5, 4) (by decide)).2
theorem cr_said (h : CIs S R) : R 30 1 = some 31 := (h.2.1 (30, 1, 31, 0, 5) (by decide)).1
theorem cx_said (h : CIs S R) (hi : i < 5) : ixS S 0 (some 31) (nI i) = some 31 := ixS_ok (by rw [(h.2.1 (30, 1, 31, 0, 5) (by decide)).2]; exact hi) (by omega)
theorem cn_said (h : CIs S R) : lnS S (some 31) = some (nI 5) := lnS_ok (h.2.1 (30, 1, 31, 0, 5) (by decide)).2 (by decide) (by decide)
theorem cl_said (h : CIs S R) : lenOf S 0 31 = 5 := (h.2.1 (30, 1, 31, 0, 5) (by decide)).2
theorem cr_values (h : CIs S R) : R 30 3 = some 32 := (h.2.1 (30, 3, 32, 0, 11) (by decide)).1
theorem cx_values (h : CIs S R) (hi : i < 11) : ixS S 0 (some 32) (nI i) = some 32 := ixS_ok (by rw [(h.2.1 (30, 3, 32, 0, 11) (by decide)).2]; exact hi) (by omega)
theorem cn_values (h : CIs S R) : lnS S (some 32) = some (nI 11) := lnS_ok (h.2.1 (30, 3, 32, 0, 11) (by decide)).2 (by decide) (by decide)
theorem cl_values (h : CIs S R) : lenOf S 0 32 = 11 := (h.2.1 (30, 3, 32, 0, 11) (by decide)).2
theorem cr_choice (h : CIs S R) : R 37 3 = some 38 := (h.2.1 (37, 3, 38, 0, 4) (by decide)).1
theorem cx_choice (h : CIs S R) (hi : i < 4) : ixS S 0 (some 38) (nI i) = some 38 := ixS_ok (by rw [(h.2.1 (37, 3, 38, 0, 4) (by decide)).2]; exact hi) (by omega)
theorem cn_choice (h : CIs S R) : lnS S (some 38) = some (nI 4) := lnS_ok (h.2.1 (37, 3, 38, 0, 4) (by decide)).2 (by decide) (by decide)
theorem cl_choice (h : CIs S R) : lenOf S 0 38 = 4 := (h.2.1 (37, 3, 38, 0, 4) (by decide)).2
theorem cr_levels (h : CIs S R) : R 37 8 = some 43 := (h.2.1 (37, 8, 43, 6, 5) (by decide)).1
theorem cx_levels (h : CIs S R) (hi : i < 5) : ixS S 6 (some 43) (nI i) = some 43 := ixS_ok (by rw [(h.2.1 (37, 8, 43, 6, 5) (by decide)).2]; exact hi) (by omega)
theorem cn_levels (h : CIs S R) : lnS S (some 43) = some (nI 5) := lnS_ok (h.2.1 (37, 8, 43, 6, 5) (by decide)).2 (by decide) (by decide)
theorem cl_levels (h : CIs S R) : lenOf S 6 43 = 5 := (h.2.1 (37, 8, 43, 6, 5) (by decide)).2
theorem cr_isSo (h : CIs S R) : R 37 9 = some 44 := (h.2.1 (37, 9, 44, 2, 7) (by decide)).1
theorem cx_isSo (h : CIs S R) (hi : i < 7) : ixS S 2 (some 44) (nI i) = some 44 := ixS_ok (by rw [(h.2.1 (37, 9, 44, 2, 7) (by decide)).2]; exact hi) (by omega)
theorem cn_isSo (h : CIs S R) : lnS S (some 44) = some (nI 7) := lnS_ok (h.2.1 (37, 9, 44, 2, 7) (by decide)).2 (by decide) (by decide)
theorem cl_isSo (h : CIs S R) : lenOf S 2 44 = 7 := (h.2.1 (37, 9, 44, 2, 7) (by decide)).2
theorem cr_tells (h : CIs S R) : R 37 10 = some 45 := (h.2.1 (37, 10, 45, 0, 35) (by decide)).1
theorem cx_tells (h : CIs S R) (hi : i < 35) : ixS S 0 (some 45) (nI i) = some 45 := ixS_ok (by rw [(h.2.1 (37, 10, 45, 0, 35) (by decide)).2]; exact hi) (by omega)
theorem cn_tells (h : CIs S R) : lnS S (some 45) = some (nI 35) := lnS_ok (h.2.1 (37, 10, 45, 0, 35) (by decide)).2 (by decide) (by decide)
theorem cl_tells (h : CIs S R) : lenOf S 0 45 = 35 := (h.2.1 (37, 10, 45, 0, 35) (by decide)).2
theorem cr_0_tape (h : CIs S R) : R 0 0 = some 1 := h.2.2.1 (0, 0, 1) (by decide)
theorem cr_0_barReader (h : CIs S R) : R 0 1 = some 3 := h.2.2.1 (0, 1, 3) (by decide)
theorem cr_0_ruleReader (h : CIs S R) : R 0 2 = some 10 := h.2.2.1 (0, 2, 10) (by decide)
theorem cr_0_book (h : CIs S R) : R 0 4 = some 14 := h.2.2.1 (0, 4, 14) (by decide)
theorem cr_0_pilot (h : CIs S R) : R 0 6 = some 30 := h.2.2.1 (0, 6, 30) (by decide)
theorem cr_0_asker (h : CIs S R) : R 0 7 = some 37 := h.2.2.1 (0, 7, 37) (by decide)
theorem cr_3_told (h : CIs S R) : R 3 0 = some 4 := h.2.2.1 (3, 0, 4) (by decide)
theorem cr_3_tape (h : CIs S R) : R 3 1 = some 1 := h.2.2.1 (3, 1, 1) (by decide)
theorem cr_10_tape (h : CIs S R) : R 10 0 = some 1 := h.2.2.1 (10, 0, 1) (by decide)
theorem cr_30_told (h : CIs S R) : R 30 2 = some 15 := h.2.2.1 (30, 2, 15) (by decide)
theorem cr_37_book (h : CIs S R) : R 37 4 = some 14 := h.2.2.1 (37, 4, 14) (by decide)
theorem cr_37_told (h : CIs S R) : R 37 5 = some 15 := h.2.2.1 (37, 5, 15) (by decide)
theorem cr_37_pilot (h : CIs S R) : R 37 6 = some 30 := h.2.2.1 (37, 6, 30) (by decide)
theorem cr_37_work (h : CIs S R) : R 37 7 = some 39 := h.2.2.1 (37, 7, 39) (by decide)
theorem cr_lev (h : CIs S R) (hi : i < 5) : R 43 i = some (46 + 4 * i) := h.2.2.2.1 i hi
theorem ci_told4 (h : CIs S R) : ITold S R 4 := h.2.2.2.2.1
theorem ci_book (h : CIs S R) : IBook S R 14 := h.2.2.2.2.2.1
theorem ci_told (h : CIs S R) : ITold S R 15 := book_i_1 (ci_book h)
theorem ci_scene (h : CIs S R) : IScene S R 21 := book_i_7 (ci_book h)
theorem ci_s33 (h : CIs S R) : IScene S R 33 := h.2.2.2.2.2.2.1
theorem ci_work (h : CIs S R) : IScene S R 39 := h.2.2.2.2.2.2.2.1
theorem ci_lev (h : CIs S R) (hi : i < 5) : IScene S R (46 + 4 * i) := h.2.2.2.2.2.2.2.2 i hi
end LCLS
