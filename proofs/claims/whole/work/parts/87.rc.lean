/-! ===== the class's rule, told ===== -/
theorem c_Rc {N q : Nat} {h : Hp} {cs : List Int32} (hN : 5000 ≤ N) (R : RP h q) (hl : hL h (q + 1) = cs.length) (h4 : cs.length ≤ 400) (hc : ∀ j, j < cs.length → hI h (q + 1) j = cs.getD j 0) (V : (Nat → Int64) → Int64) (hV : ∀ w, evL w cs [] = some [V w]) : Rc N h (some q) (fun w => !decide (V w = 0)) := by
  refine ⟨R, fun h' w R' l' e' j' => ?_⟩
  obtain ⟨h'', i1, i2⟩ := c_holds_l (N := N) (w := w) h4 cs 0 N h' [] (V w) (by omega) (by omega) R' (by rw [l', hl]) (fun j hj => by rw [Nat.zero_add, e']; exact hc j hj) j' trivial (by decide) (hV w)
  have i1' : f_X1_holds_4 N N h' q 0 0 = some (if V w = 0 then 0 else 1, h'') := i1
  refine ⟨h'', ?_, i2⟩
  unfold f_X1_holds
  rw [i1']
  show some (if V w = 0 then 0 else 1, h'') = some (b2i (!decide (V w = 0)), h'')
  by_cases z : V w = 0
  · rw [if_pos z, decide_eq_true z]; rfl
  · rw [if_neg z, decide_eq_false z]; rfl
