/-! ===== calls that only read; seen, book, seed ===== -/
theorem w_in {w : Int32} {b : Nat} (hb : b < 100) (c1 : ¬ w < 0) (c2 : ¬ nI b < w) : ∃ n, n ≤ b ∧ w = nI n := by
  obtain ⟨n, n1, rfl⟩ := i_nat c1
  exact ⟨n, (nI_leI n1 (by omega)).mp (Int32.not_lt.mp c2), rfl⟩
def levV (α : SA) (l : Nat) (w : Int32) : Int32 := if w = 0 then α 1 l else if w = 1 then α 2 l else if w = 2 then atS α (nI l) else if w = 3 then (if l + 1 < lvl α then α 3 l else -1) else -1
theorem c_levV {h : Hp} {N : Nat} {α : SA} (hN : 5000 ≤ N) (H : SHP h) (A : Ac h 3 α) (D : Dm α) {l : Nat} (l1 : l < lvl α) (w : Int32) : f_X7_level N h 0 (nI l) w = some (levV α l w) := by
  have h8 := D.2.2.2.1
  unfold f_X7_level levV
  rw [pp_0_1 H, bs, c_hasLevel A D l1, bs, if_neg (show ¬ (1 : Int32) = 0 by decide)]
  by_cases w0 : w = 0
  · rw [if_pos w0, if_pos w0, bs, ac_p8 A, bs, ac_l1 A, if_inI (by omega) (by omega), nI_clamp (by omega), ac_1 A (by omega)]
  · rw [if_neg w0, if_neg w0]
    by_cases w1 : w = 1
    · rw [if_pos w1, if_pos w1, bs, ac_p9 A, bs, ac_l2 A, if_inI (by omega) (by omega), nI_clamp (by omega), ac_2 A (by omega)]
    · rw [if_neg w1, if_neg w1]
      by_cases w2 : w = 2
      · rw [if_pos w2, if_pos w2, bs, c_bits A D (by omega), bs]
      · rw [if_neg w2, if_neg w2]
        by_cases w3 : w = 3
        · rw [if_pos w3, if_pos w3, bs]
          rcases st_or D (nI l) with ⟨k, k1, k2⟩ | ⟨b1, b2⟩
          · have : l = k := (nI_eq (by omega) (by omega)).mp k2
            subst this
            rw [c_hasStep A D k1, bs, if_neg (show ¬ (1 : Int32) = 0 by decide), bs, ac_p10 A, bs, ac_l3 A, if_inI (by omega) (by omega), nI_clamp (by omega), ac_3 A (by omega), if_pos k1]
          · have hn : ¬ l + 1 < lvl α := fun z => by have := c_hasStep A D z; rw [b1 h A] at this; exact absurd this (by decide)
            rw [b1 h A, bs, if_pos rfl, if_neg hn]
        · rw [if_neg w3, if_neg w3]
theorem m_levV {h : Hp} {N : Nat} {α : SA} (hN : 5000 ≤ N) (M : Am h α) (O : Ok α) {l : Nat} (l1 : l < lvl α) (w : Int32) : f_X8_level N h 51 (nI l) w = some (levV α l w) := by
  have D := O.1
  have H := M.1
  have h8 := D.2.2.2.1
  have inn : f_X8_in h w.toInt64 (0 : Int64) (3 : Int64) = some (if w < 0 then 0 else if 3 < w then 0 else 1) := m_in h w 0 3
  unfold f_X8_level levV
  rw [m_isLevel M D l1, bs, if_neg (show ¬ (1 : Int32) = 0 by decide), inn, bs]
  by_cases c1 : w < 0
  · rw [if_pos c1, if_pos rfl, if_neg (fun z => by rw [z] at c1; exact absurd c1 (by decide)), if_neg (fun z => by rw [z] at c1; exact absurd c1 (by decide)), if_neg (fun z => by rw [z] at c1; exact absurd c1 (by decide)), if_neg (fun z => by rw [z] at c1; exact absurd c1 (by decide))]
  · rw [if_neg c1]
    by_cases c2 : 3 < w
    · rw [if_pos c2, if_pos rfl, if_neg (fun z => by rw [z] at c2; exact absurd c2 (by decide)), if_neg (fun z => by rw [z] at c2; exact absurd c2 (by decide)), if_neg (fun z => by rw [z] at c2; exact absurd c2 (by decide)), if_neg (fun z => by rw [z] at c2; exact absurd c2 (by decide))]
    · rw [if_neg c2, if_neg (show ¬ (1 : Int32) = 0 by decide)]
      obtain ⟨n, n1, rfl⟩ := w_in (b := 3) (by decide) c1 c2
      obtain rfl | rfl | rfl | rfl : n = 0 ∨ n = 1 ∨ n = 2 ∨ n = 3 := by omega
      · rw [if_neg (show ¬ (2 : Int32) ≤ nI 0 by decide), if_pos (show nI 0 = 0 from rfl), pp_51_26 H, bs, ix2, nI_add, ll_62 H, if_inI (by omega) (by omega), nI_clamp (by omega)]
        exact congrArg some (am_r M (k := 1) l1)
      · rw [if_neg (show ¬ (2 : Int32) ≤ nI 1 by decide), if_neg (show ¬ nI 1 = 0 by decide), if_pos (show nI 1 = 1 from rfl), pp_51_26 H, bs, ix2, nI_add, ll_62 H, if_inI (by omega) (by omega), nI_clamp (by omega), show 9 + 2 * l + 1 = 10 + 2 * l by omega]
        exact congrArg some (am_r M (k := 2) l1)
      · rw [if_pos (show (2 : Int32) ≤ nI 2 by decide), if_pos (show nI 2 = 2 from rfl), if_neg (show ¬ nI 2 = 0 by decide), if_neg (show ¬ nI 2 = 1 by decide), m_at M D (by omega), bs, if_pos (show nI 2 = 2 from rfl)]
      · rw [if_pos (show (2 : Int32) ≤ nI 3 by decide), if_neg (show ¬ nI 3 = 2 by decide), if_neg (show ¬ nI 3 = 0 by decide), if_neg (show ¬ nI 3 = 1 by decide), if_neg (show ¬ nI 3 = 2 by decide), if_pos (show nI 3 = 3 from rfl)]
        rcases st_or D (nI l) with ⟨k, k1, k2⟩ | ⟨b1, b2⟩
        · have : l = k := (nI_eq (by omega) (by omega)).mp k2
          subst this
          rw [m_isStep M D k1, bs, if_neg (show ¬ (1 : Int32) = 0 by decide), pp_51_26 H, bs, ll_62 H, if_pos (by decide), m_isOf M k1, bs, if_pos k1]
          rcases O.2.2.2.1.2.2.1 l k1 with z | z
          · rw [if_pos z, z]; rfl
          · rw [if_neg (show ¬ α 3 l = 0 by rw [z]; decide), z]; rfl
        · have hn : ¬ l + 1 < lvl α := fun z => by have := m_isStep M D z; rw [b2 h M] at this; exact absurd this (by decide)
          rw [b2 h M, bs, if_pos rfl, if_neg hn]
theorem ok_level {N : Nat} (hN : 5000 ≤ N) (v w : Int32) : Rok N (fun h => f_X7_level N h 0 v w) (fun h => f_X8_level N h 51 v w) := by
  rintro h ⟨r, R, α, g⟩
  obtain ⟨g1, A, M, O, f, T, g7, g8, g9⟩ := g
  rcases lv_or O.1 v with ⟨l, l1, rfl⟩ | ⟨a1, a2⟩
  · exact ⟨_, c_levV hN M.1 A O.1 l1 w, m_levV hN M O l1 w⟩
  · refine ⟨-1, ?_, ?_⟩
    · show f_X7_level N h 0 v w = _
      unfold f_X7_level
      rw [pp_0_1 M.1, bs, a1 h A, bs, if_pos rfl]
    · show f_X8_level N h 51 v w = _
      unfold f_X8_level
      rw [a2 h M, bs, if_pos rfl]
def barV (α : SA) (b : Nat) (w : Int32) : Int32 := if w = 0 then α 5 b else if w = 1 then α 6 b else if w = 2 then α 7 b else if w = 3 then α 8 b else if w = 4 then α 9 b else if w = 5 then b2i (hm α b) else -1
theorem c_barV {h : Hp} {α : SA} (H : SHP h) (A : Ac h 3 α) (D : Dm α) {b : Nat} (b1 : b < bgs α) (w : Int32) : f_X7_barge h 0 (nI b) w = some (barV α b w) := by
  have h6 := D.2.2.2.2.1
  unfold f_X7_barge barV
  rw [pp_0_1 H, bs, show nI b = bI (b + 1) from rfl, c_hasBarge A D (by omega), bs, if_neg (by simp), show bI (b + 1) = nI b from rfl]
  by_cases w0 : w = 0
  · rw [if_pos w0, if_pos w0, bs, ac_p12 A, bs, ac_l5 A, if_inI (by omega) (by omega), nI_clamp (by omega), ac_5 A (by omega)]
  · rw [if_neg w0, if_neg w0]
    by_cases w1 : w = 1
    · rw [if_pos w1, if_pos w1, bs, ac_p13 A, bs, ac_l6 A, if_inI (by omega) (by omega), nI_clamp (by omega), ac_6 A (by omega)]
    · rw [if_neg w1, if_neg w1]
      by_cases w2 : w = 2
      · rw [if_pos w2, if_pos w2, bs, ac_p14 A, bs, ac_l7 A, if_inI (by omega) (by omega), nI_clamp (by omega), ac_7 A (by omega)]
      · rw [if_neg w2, if_neg w2]
        by_cases w3 : w = 3
        · rw [if_pos w3, if_pos w3, bs, ac_p15 A, bs, ac_l8 A, if_inI (by omega) (by omega), nI_clamp (by omega), ac_8 A (by omega)]
        · rw [if_neg w3, if_neg w3]
          by_cases w4 : w = 4
          · rw [if_pos w4, if_pos w4, bs, ac_p16 A, bs, ac_l9 A, if_inI (by omega) (by omega), nI_clamp (by omega), ac_9 A (by omega)]
          · rw [if_neg w4, if_neg w4]
            by_cases w5 : w = 5
            · rw [if_pos w5, if_pos w5, bs, c_isHome A D b1, bs]
              cases hm α b <;> rfl
            · rw [if_neg w5, if_neg w5]
theorem m_barV {h : Hp} {α : SA} (M : Am h α) (D : Dm α) {b : Nat} (b1 : b < bgs α) (w : Int32) : f_X8_barge h 51 (nI b) w = some (barV α b w) := by
  have inn : f_X8_in h w.toInt64 (0 : Int64) (5 : Int64) = some (if w < 0 then 0 else if 5 < w then 0 else 1) := m_in h w 0 5
  unfold f_X8_barge barV
  rw [m_isBarge M D b1, bs, if_neg (show ¬ (1 : Int32) = 0 by decide), inn, bs]
  by_cases c1 : w < 0
  · have no : ∀ x : Int32, ¬ x < 0 → ¬ w = x := fun x hx z => by rw [z] at c1; exact hx c1
    rw [if_pos c1, if_pos rfl, if_neg (no 0 (by decide)), if_neg (no 1 (by decide)), if_neg (no 2 (by decide)), if_neg (no 3 (by decide)), if_neg (no 4 (by decide)), if_neg (no 5 (by decide))]
  · rw [if_neg c1]
    by_cases c2 : 5 < w
    · have no : ∀ x : Int32, ¬ 5 < x → ¬ w = x := fun x hx z => by rw [z] at c2; exact hx c2
      rw [if_pos c2, if_pos rfl, if_neg (no 0 (by decide)), if_neg (no 1 (by decide)), if_neg (no 2 (by decide)), if_neg (no 3 (by decide)), if_neg (no 4 (by decide)), if_neg (no 5 (by decide))]
    · rw [if_neg c2, if_neg (show ¬ (1 : Int32) = 0 by decide)]
      obtain ⟨n, n1, rfl⟩ := w_in (b := 5) (by decide) c1 c2
      obtain rfl | rfl | rfl | rfl | rfl | rfl : n = 0 ∨ n = 1 ∨ n = 2 ∨ n = 3 ∨ n = 4 ∨ n = 5 := by omega
      · rw [if_pos (show nI 0 = 0 from rfl), if_pos (show nI 0 = 0 from rfl), m_b4 M D b1, bs]
      · rw [if_neg (show ¬ nI 1 = 0 by decide), if_neg (show ¬ nI 1 = 5 by decide), if_neg (show ¬ nI 1 = 0 by decide), if_pos (show nI 1 = 1 from rfl), show nI 1 - 1 = 0 from rfl, m_b0 M D b1, bs]
      · rw [if_neg (show ¬ nI 2 = 0 by decide), if_neg (show ¬ nI 2 = 5 by decide), if_neg (show ¬ nI 2 = 0 by decide), if_neg (show ¬ nI 2 = 1 by decide), if_pos (show nI 2 = 2 from rfl), show nI 2 - 1 = 1 from rfl, m_b1 M D b1, bs]
      · rw [if_neg (show ¬ nI 3 = 0 by decide), if_neg (show ¬ nI 3 = 5 by decide), if_neg (show ¬ nI 3 = 0 by decide), if_neg (show ¬ nI 3 = 1 by decide), if_neg (show ¬ nI 3 = 2 by decide), if_pos (show nI 3 = 3 from rfl), show nI 3 - 1 = 2 from rfl, m_b2 M D b1, bs]
      · rw [if_neg (show ¬ nI 4 = 0 by decide), if_neg (show ¬ nI 4 = 5 by decide), if_neg (show ¬ nI 4 = 0 by decide), if_neg (show ¬ nI 4 = 1 by decide), if_neg (show ¬ nI 4 = 2 by decide), if_neg (show ¬ nI 4 = 3 by decide), if_pos (show nI 4 = 4 from rfl), show nI 4 - 1 = 3 from rfl, m_b3 M D b1, bs]
      · rw [if_neg (show ¬ nI 5 = 0 by decide), if_pos (show nI 5 = 5 from rfl), if_neg (show ¬ nI 5 = 0 by decide), if_neg (show ¬ nI 5 = 1 by decide), if_neg (show ¬ nI 5 = 2 by decide), if_neg (show ¬ nI 5 = 3 by decide), if_neg (show ¬ nI 5 = 4 by decide), if_pos (show nI 5 = 5 from rfl), m_isHome M D b1, bs]
        cases hm α b <;> rfl
theorem ok_barge {N : Nat} (v w : Int32) : Rok N (fun h => f_X7_barge h 0 v w) (fun h => f_X8_barge h 51 v w) := by
  rintro h ⟨r, R, α, g⟩
  obtain ⟨g1, A, M, O, f, T, g7, g8, g9⟩ := g
  rcases bg_or O.1 v with ⟨b, b1, rfl⟩ | ⟨a1, a2⟩
  · exact ⟨_, c_barV M.1 A O.1 b1 w, m_barV M O.1 b1 w⟩
  · refine ⟨-1, ?_, ?_⟩
    · show f_X7_barge h 0 v w = _
      unfold f_X7_barge
      rw [pp_0_1 M.1, bs, a1 h A, bs, if_pos rfl]
    · show f_X8_barge h 51 v w = _
      unfold f_X8_barge
      rw [a2 h M, bs, if_pos rfl]
theorem ok_pass {N : Nat} (hN : 5000 ≤ N) (v : Int32) : Rok N (fun h => f_X7_pass N h 0 v) (fun h => f_X8_pass N h 51 v) := by
  rintro h ⟨r, R, α, g⟩
  obtain ⟨g1, A, M, O, f, T, g7, g8, g9⟩ := g
  have H := M.1
  have D := O.1
  show ∃ z, f_X7_pass N h 0 v = some z ∧ f_X8_pass N h 51 v = some z
  unfold f_X7_pass f_X8_pass
  rw [pp_0_1 H, bs]
  rcases st_or D v with ⟨k, k1, rfl⟩ | ⟨a1, a2⟩
  · rw [c_hasStep A D k1, bs, if_neg (by decide), bs, c_pass A D (by omega), bs, m_isStep M D k1, bs, if_neg (by decide), m_pass M D O.2.1 (by omega) k1, bs]
    exact ⟨_, rfl, rfl⟩
  · rw [a1 h A, bs, if_pos rfl, a2 h M, bs, if_pos rfl]
    exact ⟨_, rfl, rfl⟩
theorem lv_1 {α : SA} (D : Dm α) (hl : 1 ≤ lvl α) : α 0 0 - 1 = nI (lvl α - 1) := by
  rw [D.1, n_1, pk_sub hl]
theorem worst_l {N : Nat} {h : Hp} {α : SA} (hN : 5000 ≤ N) (A : Ac h 3 α) (M : Am h α) (O : Ok α) : ∀ (m k b f e : Nat), k + m + 1 = lvl α → m < f → m < e → b + 1 < lvl α → ∃ z, f_X7_worst_16 N f h 0 (nI b) (nI k) = some z ∧ f_X8_worst_15 N e h 51 (nI b) (nI k) = some z := by
  have H := M.1
  have D := O.1
  have h8 := D.2.2.2.1
  intro m
  induction m with
  | zero =>
    intro k b f e hk hf he hb
    obtain ⟨f, rfl⟩ : ∃ k, f = k + 1 := ⟨f - 1, by omega⟩
    obtain ⟨e, rfl⟩ : ∃ k, e = k + 1 := ⟨e - 1, by omega⟩
    rw [f_X7_worst_16, f_X8_worst_15, pp_0_1 H, bs, ac_0 A (by decide), lv_1 D (by omega), if_pos (nI_le (by omega) (by omega))]
    rcases st_or D (nI k) with ⟨k', k1, k2⟩ | ⟨a1, a2⟩
    · have := (nI_eq (by omega) (by omega)).mp k2
      omega
    · rw [a2 h M, bs, if_pos rfl]
      exact ⟨_, rfl, rfl⟩
  | succ m ih =>
    intro k b f e hk hf he hb
    obtain ⟨f, rfl⟩ : ∃ k, f = k + 1 := ⟨f - 1, by omega⟩
    obtain ⟨e, rfl⟩ : ∃ k, e = k + 1 := ⟨e - 1, by omega⟩
    rw [f_X7_worst_16, f_X8_worst_15, pp_0_1 H, bs, ac_0 A (by decide), lv_1 D (by omega), if_neg (nI_ge (by omega) (by omega)), bs, c_pass A D (by omega), bs, bs, c_pass A D (by omega), bs, m_isStep M D (by omega), bs, if_neg (show ¬ (1 : Int32) = 0 by decide), m_pass M D O.2.1 (by omega) (by omega), bs, m_pass M D O.2.1 (by omega) hb, bs]
    unfold f_X7_worst_50 f_X8_worst_41
    rw [nI_1]
    by_cases c : psS α k (bgs α) ≤ psS α b (bgs α)
    · rw [if_pos c, if_pos c]
      exact ih (k + 1) b f e (by omega) (by omega) (by omega) hb
    · rw [if_neg c, if_neg c]
      exact ih (k + 1) k f e (by omega) (by omega) (by omega) (by omega)
theorem ok_worst {N : Nat} (hN : 5000 ≤ N) : Rok N (fun h => f_X7_worst N h 0) (fun h => f_X8_worst N h 51) := by
  rintro h ⟨r, R, α, g⟩
  obtain ⟨g1, A, M, O, f, T, g7, g8, g9⟩ := g
  have H := M.1
  have D := O.1
  have h8 := D.2.2.2.1
  show ∃ z, f_X7_worst N h 0 = some z ∧ f_X8_worst N h 51 = some z
  unfold f_X7_worst f_X8_worst
  rw [pp_0_1 H, bs, ac_0 A (by decide), pp_51_26 H, bs, ll_62 H, if_pos (show 0 < 93 by decide), am_0 M]
  by_cases c0 : lvl α = 0
  · rw [if_pos ((lv0 D).mpr c0), if_pos ((lv0 D).mpr c0)]
    exact ⟨_, rfl, rfl⟩
  · rw [if_neg (fun z => c0 ((lv0 D).mp z)), if_neg (fun z => c0 ((lv0 D).mp z))]
    have l2 : 2 ≤ lvl α := O.2.2.2.1.2.2.2.2.1.resolve_left c0
    exact worst_l hN A M O (lvl α - 2) 1 0 N N (by omega) (by omega) (by omega) (by omega)
theorem ok_count {N : Nat} (hN : 5000 ≤ N) (w : Int32) : Rok N (fun h => f_X7_count N h 0 w) (fun h => f_X8_count N h 51 w) := by
  rintro h ⟨r, R, α, g⟩
  obtain ⟨g1, A, M, O, f, T, g7, g8, g9⟩ := g
  have H := M.1
  have D := O.1
  obtain ⟨n, t1, t2, t3, t4, t5⟩ := g1
  show ∃ z, f_X7_count N h 0 w = some z ∧ f_X8_count N h 51 w = some z
  unfold f_X7_count f_X8_count
  rw [pp_0_1 H, pp_51_26 H]
  simp only [bs]
  rw [ll_62 H]
  have s0 : hI h 3 0 = α 0 0 := ac_0 A (by decide)
  by_cases w0 : w = 0
  · subst w0
    rw [if_pos rfl, if_pos rfl, if_pos (by decide), nI_0c, s0, am_0 M]
    exact ⟨_, rfl, rfl⟩
  · rw [if_neg w0, if_neg w0]
    by_cases w1 : w = 1
    · subst w1
      rw [if_pos rfl, if_pos rfl, if_pos (by decide), show (1 : Int32).toNatClampNeg = 1 from rfl, ac_0 A (by decide), am_1 M]
      exact ⟨_, rfl, rfl⟩
    · rw [if_neg w1, if_neg w1]
      by_cases w2 : w = 2
      · rw [if_pos w2, if_pos w2, c_home A D (by omega), bs, c_bct, bs, m_home M D (by omega), bs, show f_X8_bits N h (hmS α) = some (bct (hmS α)) from m_bitsS (by omega) _ D.2.2.2.2.1, bs]
        exact ⟨_, rfl, rfl⟩
      · rw [if_neg w2, if_neg w2]
        by_cases w3 : w = 3
        · rw [if_pos w3, if_pos w3, if_pos (by decide), ac_0 A (by decide), am_3 M]
          exact ⟨_, rfl, rfl⟩
        · rw [if_neg w3, if_neg w3]
          by_cases w4 : w = 4
          · rw [if_pos w4, if_pos w4]
            have e1 := c_water_l (N := N) A D (lvl α) 0 N (by omega) (by have := D.2.2.2.1; omega)
            have e2 := m_water_l (N := N) M D (lvl α) 0 N (by omega) (by have := D.2.2.2.1; omega)
            have e1' : f_X5_allWater N h 3 = some (wtS α (lvl α)) := e1
            rw [e1', bs]
            exact ⟨_, rfl, e2⟩
          · rw [if_neg w4, if_neg w4]
            by_cases w5 : w = 5
            · rw [if_pos w5, if_pos w5, if_pos (by decide), ac_0 A (by decide), am_4 M]
              exact ⟨_, rfl, rfl⟩
            · rw [if_neg w5, if_neg w5]
              by_cases w6 : w = 6
              · rw [if_pos w6, if_pos w6, T.1, T.2.1]
                exact ⟨_, rfl, rfl⟩
              · rw [if_neg w6, if_neg w6]
                by_cases w7 : w = 7
                · rw [if_pos w7, if_pos w7, if_pos (by decide), ac_0 A (by decide), am_8 M]
                  exact ⟨_, rfl, rfl⟩
                · rw [if_neg w7, if_neg w7]
                  by_cases w8 : w = 8
                  · rw [if_pos w8, if_pos w8, if_pos (by decide), ac_0 A (by decide), am_2 M]
                    exact ⟨_, rfl, rfl⟩
                  · rw [if_neg w8, if_neg w8]
                    by_cases w9 : w = 9
                    · rw [if_pos w9, if_pos w9, if_pos (by decide), ac_0 A (by decide), am_6 M]
                      exact ⟨_, rfl, rfl⟩
                    · rw [if_neg w9, if_neg w9]
                      by_cases w10 : w = 10
                      · rw [if_pos w10, if_pos w10]
                        have e1 := c_seenN_l (N := N) A D (lvl α) 0 N (by omega) (by have := D.2.2.2.1; omega)
                        have e2 := m_seenN_l (N := N) M D O.2.2.1 (lvl α) 0 N (by omega) (by have := D.2.2.2.1; omega)
                        have e1' : f_X5_levelsSeen N h 3 = some (snS α (lvl α)) := e1
                        rw [e1', bs]
                        exact ⟨_, rfl, e2⟩
                      · rw [if_neg w10, if_neg w10]
                        by_cases w11 : w = 11
                        · rw [if_pos w11, if_pos w11, if_pos (by decide), ac_0 A (by decide), am_7 M]
                          exact ⟨_, rfl, rfl⟩
                        · rw [if_neg w11, if_neg w11]
                          by_cases w12 : w = 12
                          · rw [if_pos w12, if_pos w12, pp_0_0 H, bs, t2, t3]
                            exact ⟨_, rfl, rfl⟩
                          · rw [if_neg w12, if_neg w12]
                            exact ⟨_, rfl, rfl⟩
