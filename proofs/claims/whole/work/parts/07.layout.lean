/-! The layout of the cells: FilingOrder and its parts 0 .. 14, the reference and its rows 15 .. 27, then each record's three -/
def a_L0 : List aC := [
  .inl (10, [.ref 1, .ref 3, .ref 5, .ref 8, .ref 9, .ref 11, .ref 2000000, .ref 2000001, .int 0, .int 0]),
  .inl (8, [.ref 2, .int 0, .int 0]), .inr (1, 80),
  .inl (5, [.ref 4]), .inr (3, 127),
  .inl (9, [.ref 6, .ref 7, .int 0, .int 0]), .inr (1, 80), .inr (2, 40),
  .inl (7, [.ref 5, .int 0, .int 0]),
  .inl (4, [.ref 10, .int 0]), .inr (0, 240),
  .inl (6, [.ref 12, .ref 13, .ref 14, .int 0]), .inr (2, 40), .inr (3, 40), .inr (2, 40),
  .inl (11, [.int 0, .ref 16, .int 0, .int 0, .int 0, .int 0, .ref 17, .ref 18, .ref 19, .int 0, .ref 20, .int 0, .ref 21, .ref 22, .ref 23, .int 0, .int 0, .ref 24, .ref 25, .ref 26, .ref 27, .int 0, .int 0]),
  .inr (0, 80), .inr (3, 127), .inr (0, 80), .inr (2, 82), .inr (0, 400), .inr (2, 80), .inr (2, 80), .inr (2, 80), .inr (0, 24400), .inr (2, 61), .inr (2, 61), .inr (2, 60)]
def a_Lp : Nat → List Nat → List aC
  | _, [] => []
  | r, n :: ns => .inl (3, [.int 0, .int 0, .ref (29 + 3 * r)]) :: .inl (4, [.ref (30 + 3 * r), .int 0]) :: .inr (0, n) :: a_Lp (r + 1) ns
def a_LL (ns : List Nat) : List aC := a_L0 ++ a_Lp 0 ns
