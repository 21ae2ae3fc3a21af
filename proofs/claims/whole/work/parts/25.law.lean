/-! ===== the class: the laws ===== -/
def RP (h : Hp) (q : Nat) : Prop := hP h q 0 = some (q + 1) ∧ hP h q 1 = some (q + 2) ∧ hP h q 2 = some (q + 3) ∧ hL h (q + 2) = 10 ∧ hL h (q + 3) = 60 ∧ 77 ≤ q
/-- what the rule says of every tip's words -/
def Rc (N : Nat) (h : Hp) (v : Option Nat) (rl : RLT) : Prop := match v with
  | none => rl = fun _ => false
  | some q => RP h q ∧ ∀ h' w, RP h' q → hL h' (q + 1) = hL h (q + 1) → hI h' (q + 1) = hI h (q + 1) → (∀ i, i < 10 → hJ h' (q + 2) i = w i) → ∃ h'', f_X1_holds N h' q = some (b2i (rl w), h'') ∧ Fr PJ h' h''
theorem RP_Fr {P : Nat → Nat → Prop} {a b : Hp} (F : Fr P a b) {q : Nat} (H : RP a q) : RP b q := by
  unfold RP
  rw [F.2.1, F.2.2.1]
  exact H
theorem Rc_Fr {P : Nat → Nat → Prop} {a b : Hp} (F : Fr P a b) {N : Nat} {v : Option Nat} {rl : RLT} (hv : ∀ q j, v = some q → ¬ P (q + 1) j) (H : Rc N a v rl) : Rc N b v rl := by
  cases v with
  | none => exact H
  | some q =>
    refine ⟨RP_Fr F H.1, fun h' w r l e j => H.2 h' w r (by rw [l, F.2.2.1]) (by rw [e, Fr_row F (fun j => hv q j rfl)]) j⟩
theorem sJ_st {h : Hp} {s q : Nat} {α : SA} (A : Ac h s α) (hq : hL h q = 10) (h77 : 77 ≤ q) (k : Nat) (x : Int64) : Ac (sJ h q k x) s α ∧ hL (sJ h q k x) q = 10 ∧ Fr PJ h (sJ h q k x) ∧ ∀ i, hJ (sJ h q k x) q i = if i = k then x else hJ h q i := ⟨A, hq, Fr_sJ _ _ _ _ ⟨by omega, by omega⟩, fun i => by rw [hJ_sJ]; by_cases e : i = k <;> simp [e]⟩
theorem c_tell {h : Hp} {s N : Nat} {α : SA} (A : Ac h s α) (D : Dm α) (hN : 20 ≤ N) {k d u q : Nat} (hk : k + 1 < lvl α) (hd : d ≤ bgs α) (hu : u ≤ bgs α) (hq : hL h q = 10) (h77 : 77 ≤ q) : ∃ h', f_X5_tellWords N h s q (nI k) (bI d) (bI u) (Nd α d u) = some h' ∧ (∀ i, i < 10 → hJ h' q i = Wrd α k d u i) ∧ Fr PJ h h' := by
  have h8 := D.2.2.2.1
  unfold f_X5_tellWords
  rw [hq, if_neg (by decide), c_hasStep A D hk, bs, if_neg (by decide), if_pos (by decide), lts]
  obtain ⟨A1, q1, F1, J1⟩ := sJ_st A hq h77 0 ((nI k).toInt64)
  generalize sJ h q 0 ((nI k).toInt64) = h1 at A1 q1 F1 J1 ⊢
  rw [c_weightOf A1 D hd, bs, q1, if_pos (by decide), lts]
  obtain ⟨A2, q2, F2, J2⟩ := sJ_st A1 q1 h77 1 ((Wt α d).toInt64)
  generalize sJ h1 q 1 ((Wt α d).toInt64) = h2 at A2 q2 F2 J2 ⊢
  rw [c_weightOf A2 D hu, bs, q2, if_pos (by decide), lts]
  obtain ⟨A3, q3, F3, J3⟩ := sJ_st A2 q2 h77 2 ((Wt α u).toInt64)
  generalize sJ h2 q 2 ((Wt α u).toInt64) = h3 at A3 q3 F3 J3 ⊢
  rw [q3, if_pos (by decide), lts]
  obtain ⟨A4, q4, F4, J4⟩ := sJ_st A3 q3 h77 3 ((Nd α d u).toInt64)
  generalize sJ h3 q 3 ((Nd α d u).toInt64) = h4 at A4 q4 F4 J4 ⊢
  rw [ac_p8 A4, bs, ac_l1 A4, if_inI (by omega) (by omega), lts, q4, if_pos (by decide), lts, nI_clamp (by omega), ac_1 A4 (by omega)]
  obtain ⟨A5, q5, F5, J5⟩ := sJ_st A4 q4 h77 4 ((α 1 k).toInt64)
  generalize sJ h4 q 4 ((α 1 k).toInt64) = h5 at A5 q5 F5 J5 ⊢
  rw [ac_p8 A5, bs, nI_1, ac_l1 A5, if_inI (by omega) (by omega), lts, q5, if_pos (by decide), lts, nI_clamp (by omega), ac_1 A5 (by omega)]
  obtain ⟨A6, q6, F6, J6⟩ := sJ_st A5 q5 h77 5 ((α 1 (k + 1)).toInt64)
  generalize sJ h5 q 5 ((α 1 (k + 1)).toInt64) = h6 at A6 q6 F6 J6 ⊢
  rw [c_bits A6 D hN, bs, c_bct, bs, q6, if_pos (by decide), lts, show bct (atS α (nI k)) = Cn α k from rfl]
  obtain ⟨A7, q7, F7, J7⟩ := sJ_st A6 q6 h77 6 ((Cn α k).toInt64)
  generalize sJ h6 q 6 ((Cn α k).toInt64) = h7 at A7 q7 F7 J7 ⊢
  rw [c_bits A7 D hN, bs, c_bct, bs, q7, if_pos (by decide), lts, show bct (atS α (nI (k + 1))) = Cn α (k + 1) from rfl]
  obtain ⟨A8, q8, F8, J8⟩ := sJ_st A7 q7 h77 7 ((Cn α (k + 1)).toInt64)
  generalize sJ h7 q 7 ((Cn α (k + 1)).toInt64) = h8 at A8 q8 F8 J8 ⊢
  rw [c_wideOf A8 D hd, bs, c_wideOf A8 D hu, bs, q8, if_pos (by decide), lts]
  obtain ⟨A9, q9, F9, J9⟩ := sJ_st A8 q8 h77 8 ((Wi α d + Wi α u).toInt64)
  generalize sJ h8 q 8 ((Wi α d + Wi α u).toInt64) = h9 at A9 q9 F9 J9 ⊢
  rw [q9, if_pos (by decide), lts, ac_0 A9 (by decide)]
  obtain ⟨A10, q10, F10, J10⟩ := sJ_st A9 q9 h77 9 ((α 0 3).toInt64)
  generalize sJ h9 q 9 ((α 0 3).toInt64) = h10 at A10 q10 F10 J10 ⊢
  refine ⟨h10, rfl, fun i hi => ?_, Fr_trans F1 (Fr_trans F2 (Fr_trans F3 (Fr_trans F4 (Fr_trans F5 (Fr_trans F6 (Fr_trans F7 (Fr_trans F8 (Fr_trans F9 F10))))))))⟩
  rw [J10, J9, J8, J7, J6, J5, J4, J3, J2, J1]
  obtain rfl | rfl | rfl | rfl | rfl | rfl | rfl | rfl | rfl | rfl : i = 0 ∨ i = 1 ∨ i = 2 ∨ i = 3 ∨ i = 4 ∨ i = 5 ∨ i = 6 ∨ i = 7 ∨ i = 8 ∨ i = 9 := by omega
  all_goals rfl
theorem b2i_0 {b : Bool} : b2i b = 0 ↔ b = false := by cases b <;> decide
theorem c_law_65 {h : Hp} {s N : Nat} {α : SA} {v : Option Nat} {rl : RLT} (A : Ac h s α) (D : Dm α) (hN : 20 ≤ N) (R : Rc N h v rl) {k d u : Nat} (hk : k + 1 < lvl α) (hd : d ≤ bgs α) (hu : u ≤ bgs α) {x y : Int32} (hxy : y - x = mo d u) : ∃ h', f_X5_brokenLaw_65 N h s v (nI k) (bI d) (bI u) x y = some (if (Se α k (Cn α k + mo d u) && Se α (k + 1) (Cn α (k + 1) - mo d u)) = false then 3 else if Nd α d u ≤ α 1 k then (if rl (Wrd α k d u) then 5 else 0) else 4, h') ∧ Fr PJ h h' := by
  have h8 := D.2.2.2.1
  unfold f_X5_brokenLaw_65
  rw [hxy, c_hasSeats A D hN (by omega), bs, nI_1]
  by_cases h1 : Se α k (Cn α k + mo d u) = true
  · rw [if_neg (by rw [b2i_0, h1]; decide), c_hasSeats A D hN (by omega), bs, ← Int32.sub_eq_add_neg]
    by_cases h2 : Se α (k + 1) (Cn α (k + 1) - mo d u) = true
    · rw [if_neg (by rw [b2i_0, h2]; decide), c_need A D hd hu, bs, ac_p8 A, bs, ac_l1 A, if_inI (by omega) (by omega), nI_clamp (by omega), ac_1 A (by omega), if_neg (show ¬ (Se α k (Cn α k + mo d u) && Se α (k + 1) (Cn α (k + 1) - mo d u)) = false by rw [h1, h2]; decide)]
      by_cases h3 : Nd α d u ≤ α 1 k
      · rw [if_pos h3, if_pos h3]
        cases v with
        | none =>
          have R' : rl = fun _ => false := R
          subst R'
          exact ⟨h, rfl, Fr_refl h⟩
        | some q =>
          rw [if_neg (by simp), bs, R.1.2.1, bs]
          obtain ⟨h1, e1, J1, F1⟩ := c_tell A D hN hk hd hu (q := q + 2) R.1.2.2.2.1 (by have := R.1.2.2.2.2.2; omega)
          rw [e1, bs, bs]
          obtain ⟨h2, e2, F2⟩ := R.2 h1 (Wrd α k d u) (RP_Fr F1 R.1) (by rw [F1.2.2.1]) (Fr_row F1 (fun _ z => z)) J1
          rw [e2, b2s]
          refine ⟨h2, ?_, Fr_trans F1 F2⟩
          by_cases h4 : rl (Wrd α k d u) = true
          · rw [if_pos h4, if_neg (by rw [b2i_0, h4]; decide)]
          · rw [if_neg h4, if_pos (by rw [b2i_0]; simpa using h4)]
      · rw [if_neg h3, if_neg h3]
        exact ⟨h, rfl, Fr_refl h⟩
    · rw [if_pos (by rw [b2i_0]; simpa using h2), if_pos (by simp [h2])]
      exact ⟨h, rfl, Fr_refl h⟩
  · rw [if_pos (by rw [b2i_0]; simpa using h1), if_pos (by simp [h1])]
    exact ⟨h, rfl, Fr_refl h⟩
theorem bI_m1 {d : Nat} (hd : d ≤ 6) : bI d = -1 ↔ d = 0 := by
  have : ∀ d, d ≤ 6 → (bI d = -1 ↔ d = 0) := by decide
  exact this d hd
theorem c_law {h : Hp} {s N : Nat} {α : SA} {v : Option Nat} {rl : RLT} (A : Ac h s α) (D : Dm α) (hN : 20 ≤ N) (R : Rc N h v rl) {k d u : Nat} (hk : k + 1 < lvl α) (hd : d ≤ bgs α) (hu : u ≤ bgs α) : ∃ h', f_X5_brokenLaw N h s v (nI k) (bI d) (bI u) = some (Lw α rl k d u, h') ∧ Fr PJ h h' := by
  have h8 := D.2.2.2.1
  have h6 := D.2.2.2.2.1
  unfold f_X5_brokenLaw f_X5_brokenLaw_55 Lw
  rw [c_hasStep A D hk, bs, if_neg (by decide), ac_p10 A, bs, ac_l3 A, if_inI (by omega) (by omega), nI_clamp (by omega), ac_3 A (by omega)]
  by_cases h1 : α 3 k = 0
  · rw [if_pos h1, if_pos h1]
    exact ⟨h, rfl, Fr_refl h⟩
  · rw [if_neg h1, if_neg h1, c_isReady A D hd, bs, nI_1, c_isReady A D hu, bs]
    by_cases h2 : Rd α k 0 d = true
    · rw [if_neg (by rw [b2i_0, h2]; decide)]
      by_cases h3 : Rd α (k + 1) 1 u = true
      · rw [if_neg (by rw [b2i_0, h3]; decide), if_neg (show ¬ (Rd α k 0 d && Rd α (k + 1) 1 u) = false by rw [h2, h3]; decide)]
        by_cases h4 : u = 0
        · rw [if_pos ((bI_m1 (by omega)).mpr h4)]
          by_cases h5 : d = 0
          · rw [if_pos ((bI_m1 (by omega)).mpr h5)]
            exact c_law_65 A D hN R hk hd hu (by unfold mo; rw [if_pos h4, if_pos h5])
          · rw [if_neg (fun z => h5 ((bI_m1 (by omega)).mp z))]
            exact c_law_65 A D hN R hk hd hu (by unfold mo; rw [if_pos h4, if_neg h5])
        · rw [if_neg (fun z => h4 ((bI_m1 (by omega)).mp z))]
          by_cases h5 : d = 0
          · rw [if_pos ((bI_m1 (by omega)).mpr h5)]
            exact c_law_65 A D hN R hk hd hu (by unfold mo; rw [if_neg h4, if_pos h5])
          · rw [if_neg (fun z => h5 ((bI_m1 (by omega)).mp z))]
            exact c_law_65 A D hN R hk hd hu (by unfold mo; rw [if_neg h4, if_neg h5])
      · rw [if_pos (by rw [b2i_0]; simpa using h3), if_pos (by simp [h3])]
        exact ⟨h, rfl, Fr_refl h⟩
    · rw [if_pos (by rw [b2i_0]; simpa using h2), if_pos (by simp [h2])]
      exact ⟨h, rfl, Fr_refl h⟩
