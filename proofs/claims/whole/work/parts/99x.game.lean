/-! A GAME: what both sides need -/
theorem n_md {a b : Nat} (ha : a < 2 ^ 31) (hb : b < 2 ^ 31) : nI a - nI a / nI b * nI b = nI (a % b) := by
  have h1 := Nat.div_le_self a b
  rw [n_div ha hb, n_mul, n_sub (Nat.div_mul_le_self _ _)]
  congr 1
  have := Nat.div_add_mod a b
  rw [Nat.mul_comm] at this
  omega
/-- a turn of the game: the player tells what the code has, if it may -/
def gstep (T : TD) (s : Nat) (c : Option Nat) (S : SC) : Option SC := if c.elim true (fun j => wts S s && (sW S s).testBit j) then some (nxt (c.elim S (fun j => telS T S s j))) else none
/-- what a code's play comes to; a and b take turns, n turns are left -/
def gpl (T : TD) (p q : Nat) : Nat → Nat → Nat → Nat → SC → Option Int
  | 0, _, _, _, S => some ((ern T S p : Int) - (ern T S q : Int))
  | n + 1, a, b, x, S => (gstep T a (dgo (tJ T + 1) (n + 1) x 0) S).bind (gpl T p q n b a (x % (tJ T + 1) ^ n))
