/-! rows of a braid: n letters (a: the left place, b: 1 plus, 0 minus), s strands, places from 0 -/
def brT (a : Nat → Nat) (c x : Nat) : Nat := if x = a c then x + 1 else if x = a c + 1 then x - 1 else x
def brX (a : Nat → Nat) : Nat → Nat → Nat
  | 0, x => x
  | m + 1, x => brT a m (brX a m x)
def brO (a b : Nat → Nat) (c x : Nat) : List Nat := if x = a c then [2 * c + b c] else if x = a c + 1 then [2 * c + (1 - b c)] else []
def brL (a b : Nat → Nat) : Nat → Nat → List Nat
  | 0, _ => []
  | m + 1, x => brL a b m x ++ brO a b m (brX a m x)
def brG (a b : Nat → Nat) (n : Nat) : Nat → Nat → Nat → List Nat × Nat
  | 0, g, _ => ([], g)
  | f + 1, g, x => if g / 2 ^ x % 2 = 1 then ([], g) else (brL a b n x ++ (brG a b n f (g ||| 2 ^ x) (brX a n x)).1, (brG a b n f (g ||| 2 ^ x) (brX a n x)).2)
def brR (a b : Nat → Nat) (n s : Nat) : Nat → List (List Nat) × Nat
  | 0 => ([], 0)
  | p + 1 => if (brR a b n s p).2 / 2 ^ p % 2 = 1 then brR a b n s p else ((brR a b n s p).1 ++ [(brG a b n s (brR a b n s p).2 p).1], (brG a b n s (brR a b n s p).2 p).2)
def brRw (a b : Nat → Nat) (n s : Nat) : Rw := ((brR a b n s s).1, (List.range n).map (fun c => if b c = 1 then 1 else -1))
