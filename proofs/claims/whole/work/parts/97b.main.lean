/-! ===== the law holds ===== -/
theorem pure_main (L : Nat) (xs : Nat → Int32) (hL : L ≤ 3072) : ∃ N, f_L_law N xs L h00 = some 1 := ⟨100000, law_all (by decide) (ok_stair (by decide)) (ok_rule (by decide)) hL⟩
