theorem pure_main (L : Nat) (xs : Nat → Int32) (hL : L ≤ 3072) : w_L_law (L, xs) SC_23 (fun r _ => r = 1) := sorry
