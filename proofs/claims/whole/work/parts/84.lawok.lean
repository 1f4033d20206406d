theorem law_ok {Ls : Nat} {xs : Nat → Int32} (h : Ls ≤ 2560) : lL_law_18 Ls xs 0 M0 := sorry
