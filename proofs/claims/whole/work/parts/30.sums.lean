/-! ===== sums over barges and levels ===== -/
theorem and1 (y : Int32) : y &&& 1 = 0 ∨ y &&& 1 = 1 := by
  obtain ⟨j, hj, e⟩ := pk_andE y (m := 1) 1 (by decide)
  obtain rfl | rfl : j = 0 ∨ j = 1 := by omega
  · exact Or.inl e
  · exact Or.inr e
def bt (x : Int32) (b : Nat) : Int32 := (x >>> (nI b &&& 31)) &&& 1
def tlS (α : SA) (x : Int32) : Nat → Int32
  | 0 => 0
  | n + 1 => tlS α x n + bt x n * α 9 n
theorem c_toll_l {h : Hp} {s N : Nat} {α : SA} (A : Ac h s α) (D : Dm α) (x : Int32) : ∀ (m b n : Nat), b + m = bgs α → m < n → f_X5_tollOf_4 N n h s x (tlS α x b) (nI b) = some (tlS α x (bgs α)) := by
  have h6 := D.2.2.2.2.1
  intro m
  induction m with
  | zero =>
    intro b n hb hn
    obtain ⟨n, rfl⟩ : ∃ k, n = k + 1 := ⟨n - 1, by omega⟩
    rw [f_X5_tollOf_4, ac_0 A (by decide), D.2.1, if_pos (nI_le (by omega) (by omega)), show b = bgs α by omega]
  | succ m ih =>
    intro b n hb hn
    obtain ⟨n, rfl⟩ : ∃ k, n = k + 1 := ⟨n - 1, by omega⟩
    rw [f_X5_tollOf_4, ac_0 A (by decide), D.2.1, if_neg (nI_ge (by omega) (by omega)), ac_p16 A, bs, ac_l9 A, if_inI (by omega) (by omega), lts, nI_clamp (by omega), ac_9 A (by omega), nI_1]
    exact ih (b + 1) n (by omega) (by omega)
theorem c_toll {h : Hp} {s N : Nat} {α : SA} (A : Ac h s α) (D : Dm α) (hN : 20 ≤ N) (x : Int32) : f_X5_tollOf N h s x = some (tlS α x (bgs α)) := c_toll_l A D x (bgs α) 0 N (by omega) (by have := D.2.2.2.2.1; omega)
theorem m_toll_l {h : Hp} {N : Nat} {α : SA} (M : Am h α) (D : Dm α) (x : Int32) : ∀ (m b n : Nat), b + m = bgs α → m < n → f_X8_tollOf_4 N n h 51 x (tlS α x b) (nI b) = some (tlS α x (bgs α)) := by
  have h6 := D.2.2.2.2.1
  intro m
  induction m with
  | zero =>
    intro b n hb hn
    obtain ⟨n, rfl⟩ : ∃ k, n = k + 1 := ⟨n - 1, by omega⟩
    rw [f_X8_tollOf_4, pp_51_26 M.1, bs, ll_62 M.1, if_pos (by decide), am_1 M, D.2.1, if_pos (nI_le (by omega) (by omega)), show b = bgs α by omega]
  | succ m ih =>
    intro b n hb hn
    obtain ⟨n, rfl⟩ : ∃ k, n = k + 1 := ⟨n - 1, by omega⟩
    rw [f_X8_tollOf_4, pp_51_26 M.1, bs, ll_62 M.1, if_pos (by decide), am_1 M, D.2.1, if_neg (nI_ge (by omega) (by omega))]
    have e := ih (b + 1) n (by omega) (by omega)
    rw [tlS] at e
    unfold f_X8_isOf f_X8_tollOf_33
    rw [m_b3 M D (by omega), nI_1]
    rcases and1 (x >>> (nI b &&& 31)) with h1 | h1
    · rw [if_neg (by rw [h1]; decide), bs, if_pos rfl]
      rw [show bt x b = 0 from h1, Int32.zero_mul] at e
      exact e
    · rw [if_pos h1, bs, if_neg (by decide), bs]
      rw [show bt x b = 1 from h1, Int32.one_mul] at e
      exact e
theorem m_toll {h : Hp} {N : Nat} {α : SA} (M : Am h α) (D : Dm α) (hN : 20 ≤ N) (x : Int32) : f_X8_tollOf N h 51 x = some (tlS α x (bgs α)) := m_toll_l M D x (bgs α) 0 N (by omega) (by have := D.2.2.2.2.1; omega)
/-- barge b has still to pass step k -/
def pz (α : SA) (k b : Nat) : Bool := decide ((¬ nI k < α 5 b) ↔ α 8 b = 0)
def psS (α : SA) (k : Nat) : Nat → Int32
  | 0 => 0
  | n + 1 => if pz α k n then psS α k n + 1 else psS α k n
theorem c_pass_l {h : Hp} {s N : Nat} {α : SA} (A : Ac h s α) (D : Dm α) (k : Nat) : ∀ (m b n : Nat), b + m = bgs α → m < n → f_X5_passersOf_4 N n h s (nI k) (psS α k b) (nI b) = some (psS α k (bgs α)) := by
  have h6 := D.2.2.2.2.1
  intro m
  induction m with
  | zero =>
    intro b n hb hn
    obtain ⟨n, rfl⟩ : ∃ k, n = k + 1 := ⟨n - 1, by omega⟩
    rw [f_X5_passersOf_4, ac_0 A (by decide), D.2.1, if_pos (nI_le (by omega) (by omega)), show b = bgs α by omega]
  | succ m ih =>
    intro b n hb hn
    obtain ⟨n, rfl⟩ : ∃ k, n = k + 1 := ⟨n - 1, by omega⟩
    rw [f_X5_passersOf_4, ac_0 A (by decide), D.2.1, if_neg (nI_ge (by omega) (by omega)), ac_p12 A, bs, ac_l5 A, if_inI (by omega) (by omega), nI_clamp (by omega), ac_5 A (by omega)]
    unfold f_X5_passersOf_27 f_X5_passersOf_45 f_X5_passersOf_51
    rw [ac_p15 A, bs, bs, ac_l8 A, if_inI (by omega) (by omega), if_inI (by omega) (by omega), nI_clamp (by omega), ac_8 A (by omega), nI_1]
    have e := ih (b + 1) n (by omega) (by omega)
    rw [psS] at e
    by_cases h1 : nI k < α 5 b
    · rw [if_pos h1]
      by_cases h2 : α 8 b = 0
      · rw [if_pos h2, if_neg (by decide), ← e, if_neg (by unfold pz; simp [h1, h2])]
      · rw [if_neg h2, if_pos rfl, ← e, if_pos (by unfold pz; simp [h1, h2])]
    · rw [if_neg h1]
      by_cases h2 : α 8 b = 0
      · rw [if_pos h2, if_pos rfl, ← e, if_pos (by unfold pz; simp [h1, h2])]
      · rw [if_neg h2, if_neg (by decide), ← e, if_neg (by unfold pz; simp [h1, h2])]
theorem c_pass {h : Hp} {s N : Nat} {α : SA} (A : Ac h s α) (D : Dm α) (hN : 20 ≤ N) (k : Nat) : f_X5_passersOf N h s (nI k) = some (psS α k (bgs α)) := c_pass_l A D k (bgs α) 0 N (by omega) (by have := D.2.2.2.2.1; omega)
def Plc (α : SA) : Prop := ∀ b, b < bgs α → ∃ p, p < lvl α ∧ α 5 b = nI p
theorem m_pass_l {h : Hp} {N : Nat} {α : SA} (M : Am h α) (D : Dm α) (P : Plc α) {k : Nat} (hk : k + 1 < lvl α) : ∀ (m b n : Nat), b + m = bgs α → m < n → f_X8_mustPass_4 N n h 51 (nI k) (psS α k b) (nI b) = some (psS α k (bgs α)) := by
  have h6 := D.2.2.2.2.1
  have h8 := D.2.2.2.1
  intro m
  induction m with
  | zero =>
    intro b n hb hn
    obtain ⟨n, rfl⟩ : ∃ k, n = k + 1 := ⟨n - 1, by omega⟩
    rw [f_X8_mustPass_4, pp_51_26 M.1, bs, ll_62 M.1, if_pos (by decide), am_1 M, D.2.1, if_pos (nI_le (by omega) (by omega)), show b = bgs α by omega]
  | succ m ih =>
    intro b n hb hn
    obtain ⟨n, rfl⟩ : ∃ k, n = k + 1 := ⟨n - 1, by omega⟩
    rw [f_X8_mustPass_4, pp_51_26 M.1, bs, ll_62 M.1, if_pos (by decide), am_1 M, D.2.1, if_neg (nI_ge (by omega) (by omega)), m_isHome M D (by omega), bs, m_b2 M D (by omega), bs, m_b4 M D (by omega), bs]
    unfold f_X8_mustPass_55 f_X8_mustPass_59 f_X8_mustPass_60
    have e := ih (b + 1) n (by omega) (by omega)
    rw [psS] at e
    obtain ⟨p, hp, ep⟩ := P b (by omega)
    rw [nI_1, Int32.add_zero, bs]
    by_cases h2 : α 8 b = 0
    · rw [if_pos h2]
      by_cases h1 : nI k < α 5 b
      · rw [if_pos h1]
        rw [if_neg (by unfold pz; simp [h1, h2])] at e
        split <;> exact e
      · have hm0 : hm α b = false := by
          unfold hm
          rw [if_pos h2]
          refine decide_eq_false (fun z => h1 ?_)
          rw [z, D.1, n_1, pk_sub (by omega)]
          exact nI_lt (by omega) (by omega)
        rw [if_neg h1, hm0, if_pos (by decide), ← e, if_pos (by unfold pz; simp [h1, h2])]
    · rw [if_neg h2]
      by_cases h1 : nI k < α 5 b
      · have hm0 : hm α b = false := by
          unfold hm
          rw [if_neg h2]
          refine decide_eq_false (fun z => ?_)
          rw [z] at h1
          exact nI_pos (n := k) (by omega) h1
        rw [if_neg (Int32.not_le.mpr h1), hm0, if_pos (by decide), ← e, if_pos (by unfold pz; simp [h1, h2])]
      · rw [if_pos (Int32.not_lt.mp h1)]
        rw [if_neg (by unfold pz; simp [h1, h2])] at e
        split <;> exact e
theorem m_pass {h : Hp} {N : Nat} {α : SA} (M : Am h α) (D : Dm α) (P : Plc α) (hN : 20 ≤ N) {k : Nat} (hk : k + 1 < lvl α) : f_X8_mustPass N h 51 (nI k) = some (psS α k (bgs α)) := m_pass_l M D P hk (bgs α) 0 N (by omega) (by have := D.2.2.2.2.1; omega)
def wtS (α : SA) : Nat → Int32
  | 0 => 0
  | n + 1 => wtS α n + α 1 n
theorem c_water_l {h : Hp} {s N : Nat} {α : SA} (A : Ac h s α) (D : Dm α) : ∀ (m b n : Nat), b + m = lvl α → m < n → f_X5_allWater_4 N n h s (wtS α b) (nI b) = some (wtS α (lvl α)) := by
  have h8 := D.2.2.2.1
  intro m
  induction m with
  | zero =>
    intro b n hb hn
    obtain ⟨n, rfl⟩ : ∃ k, n = k + 1 := ⟨n - 1, by omega⟩
    rw [f_X5_allWater_4, ac_0 A (by decide), D.1, if_pos (nI_le (by omega) (by omega)), show b = lvl α by omega]
  | succ m ih =>
    intro b n hb hn
    obtain ⟨n, rfl⟩ : ∃ k, n = k + 1 := ⟨n - 1, by omega⟩
    rw [f_X5_allWater_4, ac_0 A (by decide), D.1, if_neg (nI_ge (by omega) (by omega)), ac_p8 A, bs, ac_l1 A, if_inI (by omega) (by omega), lts, nI_clamp (by omega), ac_1 A (by omega), nI_1]
    exact ih (b + 1) n (by omega) (by omega)
theorem m_water_l {h : Hp} {N : Nat} {α : SA} (M : Am h α) (D : Dm α) : ∀ (m b n : Nat), b + m = lvl α → m < n → f_X8_count_92 N n h 51 (wtS α b) (nI b) = some (wtS α (lvl α)) := by
  have h8 := D.2.2.2.1
  intro m
  induction m with
  | zero =>
    intro b n hb hn
    obtain ⟨n, rfl⟩ : ∃ k, n = k + 1 := ⟨n - 1, by omega⟩
    rw [f_X8_count_92, pp_51_26 M.1, bs, ll_62 M.1, if_pos (by decide), am_0 M, D.1, if_pos (nI_le (by omega) (by omega)), show b = lvl α by omega]
  | succ m ih =>
    intro b n hb hn
    obtain ⟨n, rfl⟩ : ∃ k, n = k + 1 := ⟨n - 1, by omega⟩
    rw [f_X8_count_92, pp_51_26 M.1, bs, ll_62 M.1, if_pos (by decide), am_0 M, D.1, if_neg (nI_ge (by omega) (by omega)), m_waterOf M D (by omega), bs, nI_1]
    exact ih (b + 1) n (by omega) (by omega)
def Sn (α : SA) : Prop := ∀ l, l < lvl α → α 4 l = -1 ∨ 0 ≤ α 4 l
def snS (α : SA) : Nat → Int32
  | 0 => 0
  | n + 1 => if α 4 n = -1 then snS α n else snS α n + 1
theorem c_seenN_l {h : Hp} {s N : Nat} {α : SA} (A : Ac h s α) (D : Dm α) : ∀ (m b n : Nat), b + m = lvl α → m < n → f_X5_levelsSeen_4 N n h s (snS α b) (nI b) = some (snS α (lvl α)) := by
  have h8 := D.2.2.2.1
  intro m
  induction m with
  | zero =>
    intro b n hb hn
    obtain ⟨n, rfl⟩ : ∃ k, n = k + 1 := ⟨n - 1, by omega⟩
    rw [f_X5_levelsSeen_4, ac_0 A (by decide), D.1, if_pos (nI_le (by omega) (by omega)), show b = lvl α by omega]
  | succ m ih =>
    intro b n hb hn
    obtain ⟨n, rfl⟩ : ∃ k, n = k + 1 := ⟨n - 1, by omega⟩
    unfold f_X5_levelsSeen_4 f_X5_levelsSeen_28
    rw [ac_0 A (by decide), D.1, if_neg (nI_ge (by omega) (by omega)), ac_p11 A, bs, ac_l4 A, if_inI (by omega) (by omega), nI_clamp (by omega), ac_4 A (by omega), nI_1, Int32.add_zero]
    have e := ih (b + 1) n (by omega) (by omega)
    rw [snS] at e
    by_cases h1 : α 4 b = -1
    · rw [if_pos h1, ← e, if_pos h1]
    · rw [if_neg h1, ← e, if_neg h1]
theorem am_sn {h : Hp} {α : SA} (M : Am h α) {l : Nat} (hl : l < lvl α) : hI h 62 (55 + l) = α 4 l := am_r M (k := 4) hl
theorem Sn_i {α : SA} (S : Sn α) {l : Nat} (hl : l < lvl α) : α 4 l < 0 ↔ α 4 l = -1 := by
  constructor
  · intro h
    rcases S l hl with h1 | h1
    · exact h1
    · exact absurd h (Int32.not_lt.mpr h1)
  · intro h
    rw [h]
    decide
theorem m_seenN_l {h : Hp} {N : Nat} {α : SA} (M : Am h α) (D : Dm α) (S : Sn α) : ∀ (m b n : Nat), b + m = lvl α → m < n → f_X8_count_155 N n h 51 (snS α b) (nI b) = some (snS α (lvl α)) := by
  have h8 := D.2.2.2.1
  intro m
  induction m with
  | zero =>
    intro b n hb hn
    obtain ⟨n, rfl⟩ : ∃ k, n = k + 1 := ⟨n - 1, by omega⟩
    rw [f_X8_count_155, pp_51_26 M.1, bs, ll_62 M.1, if_pos (by decide), am_0 M, D.1, if_pos (nI_le (by omega) (by omega)), show b = lvl α by omega]
  | succ m ih =>
    intro b n hb hn
    obtain ⟨n, rfl⟩ : ∃ k, n = k + 1 := ⟨n - 1, by omega⟩
    unfold f_X8_count_155 f_X8_count_183
    rw [pp_51_26 M.1, bs, ll_62 M.1, if_pos (by decide), am_0 M, D.1, if_neg (nI_ge (by omega) (by omega)), bs, n_55, nI_add, ll_62 M.1, if_inI (by omega) (by omega), nI_clamp (by omega), am_sn M (by omega), nI_1, Int32.add_zero]
    have e := ih (b + 1) n (by omega) (by omega)
    rw [snS] at e
    by_cases h1 : α 4 b = -1
    · rw [if_neg (by rw [h1]; decide), ← e, if_pos h1]
    · rw [if_pos (Int32.not_lt.mp (fun z => h1 ((Sn_i S (by omega)).mp z))), ← e, if_neg h1]
/-- from level l on the m levels are as seen -/
def asB (α : SA) : Nat → Nat → Bool
  | 0, _ => true
  | m + 1, l => decide (α 4 l = -1 ∨ α 4 l = α 1 l) && asB α m (l + 1)
def asS (α : SA) : Bool := asB α (lvl α) 0
theorem c_as_l {h : Hp} {s N : Nat} {α : SA} (A : Ac h s α) (D : Dm α) : ∀ (m b n : Nat), b + m = lvl α → m < n → f_X5_isAsSeen_2 N n h s (nI b) = some (b2i (asB α m b)) := by
  have h8 := D.2.2.2.1
  intro m
  induction m with
  | zero =>
    intro b n hb hn
    obtain ⟨n, rfl⟩ : ∃ k, n = k + 1 := ⟨n - 1, by omega⟩
    rw [f_X5_isAsSeen_2, ac_0 A (by decide), D.1, if_pos (nI_le (by omega) (by omega))]
    rfl
  | succ m ih =>
    intro b n hb hn
    obtain ⟨n, rfl⟩ : ∃ k, n = k + 1 := ⟨n - 1, by omega⟩
    unfold f_X5_isAsSeen_2 f_X5_isAsSeen_37
    rw [ac_0 A (by decide), D.1, if_neg (nI_ge (by omega) (by omega)), ac_p11 A, bs, ac_l4 A, if_inI (by omega) (by omega), nI_clamp (by omega), ac_4 A (by omega), nI_1, ih (b + 1) n (by omega) (by omega), bs, ac_l4 A, if_pos (⟨nI_pos' (by omega), by omega⟩ : 0 ≤ nI b ∧ b < 8), ac_p8 A, bs, ac_l1 A, if_pos (⟨nI_pos' (by omega), by omega⟩ : 0 ≤ nI b ∧ b < 8), ac_4 A (by omega), ac_1 A (by omega), asB]
    by_cases h1 : α 4 b = -1
    · rw [if_pos h1, show decide (α 4 b = -1 ∨ α 4 b = α 1 b) = true by simp [h1], Bool.true_and]
    · rw [if_neg h1]
      by_cases h2 : α 4 b = α 1 b
      · rw [if_pos h2, show decide (α 4 b = -1 ∨ α 4 b = α 1 b) = true from decide_eq_true (Or.inr h2), Bool.true_and]
      · rw [if_neg h2, show decide (α 4 b = -1 ∨ α 4 b = α 1 b) = false by simp [h1, h2], Bool.false_and]
        rfl
theorem c_as {h : Hp} {s N : Nat} {α : SA} (A : Ac h s α) (D : Dm α) (hN : 20 ≤ N) : f_X5_isAsSeen N h s = some (b2i (asS α)) := c_as_l A D (lvl α) 0 N (by omega) (by have := D.2.2.2.1; omega)
theorem m_as_l {h : Hp} {N : Nat} {α : SA} (M : Am h α) (D : Dm α) (S : Sn α) : ∀ (m b n : Nat), b + m = lvl α → m < n → f_X8_isSeen_2 N n h 51 (nI b) = some (b2i (asB α m b)) := by
  have h8 := D.2.2.2.1
  intro m
  induction m with
  | zero =>
    intro b n hb hn
    obtain ⟨n, rfl⟩ : ∃ k, n = k + 1 := ⟨n - 1, by omega⟩
    rw [f_X8_isSeen_2, pp_51_26 M.1, bs, ll_62 M.1, if_pos (by decide), am_0 M, D.1, if_pos (nI_le (by omega) (by omega))]
    rfl
  | succ m ih =>
    intro b n hb hn
    obtain ⟨n, rfl⟩ : ∃ k, n = k + 1 := ⟨n - 1, by omega⟩
    unfold f_X8_isSeen_2 f_X8_isSeen_43
    rw [pp_51_26 M.1, bs, ll_62 M.1, if_pos (by decide), am_0 M, D.1, if_neg (nI_ge (by omega) (by omega)), bs, n_55, nI_add, ll_62 M.1, if_inI (by omega) (by omega), bs, ll_62 M.1, if_inI (by omega) (by omega), nI_clamp (by omega), am_sn M (by omega), nI_1, ih (b + 1) n (by omega) (by omega), m_waterOf M D (by omega), bs, asB]
    by_cases h1 : α 4 b = -1
    · rw [if_pos (by rw [h1]; decide), show decide (α 4 b = -1 ∨ α 4 b = α 1 b) = true by simp [h1], Bool.true_and]
    · rw [if_neg (fun z => h1 ((Sn_i S (by omega)).mp z))]
      by_cases h2 : α 4 b = α 1 b
      · rw [if_pos h2, show decide (α 4 b = -1 ∨ α 4 b = α 1 b) = true from decide_eq_true (Or.inr h2), Bool.true_and]
      · rw [if_neg h2, show decide (α 4 b = -1 ∨ α 4 b = α 1 b) = false by simp [h1, h2], Bool.false_and]
        rfl
theorem m_as {h : Hp} {N : Nat} {α : SA} (M : Am h α) (D : Dm α) (S : Sn α) (hN : 20 ≤ N) : f_X8_isSeen N h 51 = some (b2i (asS α)) := m_as_l M D S (lvl α) 0 N (by omega) (by have := D.2.2.2.1; omega)
theorem Sd_congr {σ τ : Nat → Int32} {α : SA} (D : Dm α) (e : ∀ i, i < 93 → τ i = σ i) (S : Sd σ α) : Sd τ α := by
  have h10 := D.2.2.2.2.2
  refine ⟨fun k i hi => ?_, fun l hl => ?_, fun k hk => ?_, fun b hb h6 => (e _ (by omega)).trans (S.2.2.2.1 b hb h6), fun l hl h8 => (e _ (by omega)).trans (S.2.2.2.2 l hl h8)⟩
  · obtain ⟨h1, h2⟩ := rgn_le D hi
    rw [e _ (by have := (ad_63 k h1 i h2).1; omega)]
    exact S.1 k i hi
  · rw [e _ (by decide)]
    exact S.2.1 l hl
  · obtain ⟨s, d, u, a1, a2, a3, a4, a5, a6, a7⟩ := S.2.2.1 k hk
    exact ⟨s, d, u, a1, a2, a3, (e _ (by omega)).trans a4, (e _ (by omega)).trans a5, (e _ (by omega)).trans a6, a7⟩
