/-! ===== p42: the map that an object holds ===== -/
abbrev CA : Type := Nat → Nat → Int32
abbrev CL : Type := Nat → Nat → Int64
abbrev CI : Type := Nat → Int32
/-- a map: how many points, their x, y, weights -/
abbrev OB : Type := Nat × (Nat → Nat) × (Nat → Nat) × (Nat → Nat)
def cutN (N : Nat) (f : Nat → Nat) : Nat → Nat := fun i => if i < N then f i else 0
theorem cutN_lt {N i : Nat} {f : Nat → Nat} (h : i < N) : cutN N f i = f i := if_pos h
theorem cutN_cut (N : Nat) (f : Nat → Nat) : cutN N (cutN N f) = cutN N f := by
  funext i
  unfold cutN
  by_cases h : i < N
  · rw [if_pos h, if_pos h]
  · rw [if_neg h, if_neg h]
def OKM (N : Nat) (X Y W : Nat → Nat) : Prop := GOOD N X Y W ∧ cutN N X = X ∧ cutN N Y = Y ∧ cutN N W = W
def OK8B (N : Nat) (X Y W : Nat → Nat) (M : Nat) (U V Z : Nat → Nat) (ca : CA) (cl : CL) (ci : CI) : Prop :=
  OKM N X Y W ∧ GOOD M U V Z ∧ (ci 8 = nI (N - 1) ∧ ci 9 = nI N ∧ ci 2 = nI (M - 1) ∧ ci 3 = nI M) ∧ (ROWS N X Y W (ca 26) (ca 27) (ca 28) ∧ ROWS M U V Z (ca 7) (ca 8) (ca 9)) ∧
  TR2 X Y N (ca 19) (ca 20) (ca 21) (ca 22) (ca 24) (ca 25) (ca 29) (ca 30) (ca 31) (cl 5) ∧ TR2 U V M (ca 0) (ca 1) (ca 2) (ca 3) (ca 5) (ca 6) (ca 10) (ca 11) (ca 12) (cl 2)
/-- the contents of an object that holds the map o -/
def OK8 (o : OB) (ca : CA) (cl : CL) (ci : CI) : Prop := ∃ M U V Z, OK8B o.1 o.2.1 o.2.2.1 o.2.2.2 M U V Z ca cl ci
