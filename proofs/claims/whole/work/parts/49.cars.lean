/-! carriages from a row -/
def okC (f : Nat → Int32) (len a nC j : Nat) : Bool := decide (a + 3 * j + 3 ≤ len ∧ inR (f (a + 3 * j)) 0 255 ∧ inR (f (a + 3 * j + 1)) 0 7 ∧ inR (f (a + 3 * j + 2)) 1 4 ∧ nC + j < 6)
