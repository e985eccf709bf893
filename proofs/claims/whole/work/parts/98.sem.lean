theorem sem_all {Ln : Nat} (hL : Ln ≤ 3072) (xs : Nat → Int32) : wp_start Ln xs := sorry
