theorem law_pure (sL : Nat) (sxs : Nat → Int32) (ak : Nat → Nat → Nat) (h : sL ≤ 2560) : loopN (g_L_law_18 sL sxs) 600 (lw_init ak) = some 1 := sorry
