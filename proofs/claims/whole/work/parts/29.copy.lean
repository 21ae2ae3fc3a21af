/-! ===== copies of a stair ===== -/
/-- rows below k of the stair at s0 are those of the stair at s1, and j numbers of row k -/
def Cp (h0 h : Hp) (s0 s1 : Nat) (α : SA) (k : Nat) : Prop := Fr (PS s0) h0 h ∧ Ac h s1 α ∧ isSt h s0 ∧ ∀ k' i, k' < k → k' ≤ 10 → i < ln k' → hI h (s0 + k') i = α k' i
def Ci (h0 h : Hp) (s0 s1 : Nat) (α : SA) (j : Nat) : Prop := Fr (PS s0) h0 h ∧ Ac h s1 α ∧ isSt h s0 ∧ ∀ i, i < j → hI h s0 i = α 0 i
theorem cp_i {h0 h : Hp} {s0 s1 : Nat} {α : SA} (hs : s0 + 11 < s1 ∨ s1 + 11 < s0) {j : Nat} (hj : j < 8) (C : Ci h0 h s0 s1 α j) : Ci h0 (sI h s0 j (hI h s1 j)) s0 s1 α (j + 1) := by
  obtain ⟨F, A, I, g⟩ := C
  have F1 : Fr (PS s0) h (sI h s0 j (hI h s1 j)) := Fr_sI _ _ _ _ ⟨by omega, by omega⟩
  refine ⟨Fr_trans F F1, Fr_Ac F1 (fun x y h1 h2 z => by have := z.1; have := z.2; omega) A, I, fun i hi => ?_⟩
  rw [hI_sI]
  by_cases e : i = j
  · subst e
    rw [if_pos ⟨rfl, rfl⟩]
    exact ac_0 A hj
  · rw [if_neg (fun z => e z.2)]
    exact g i (by omega)
theorem cp_a {h0 h : Hp} {s0 s1 : Nat} {α : SA} (hs : s0 + 11 < s1 ∨ s1 + 11 < s0) {k : Nat} (hk : k ≤ 10) (C : Cp h0 h s0 s1 α k) : Cp h0 (sC h (s1 + k) (s0 + k) 0 0 (ln k)) s0 s1 α (k + 1) := by
  obtain ⟨F, A, I, g⟩ := C
  have F1 : Fr (PS s0) h (sC h (s1 + k) (s0 + k) 0 0 (ln k)) := ⟨⟨rfl, rfl, rfl⟩, rfl, rfl, fun a j hn => by rw [hI_sC, if_neg]; rintro rfl; exact hn ⟨by omega, by omega⟩⟩
  refine ⟨Fr_trans F F1, Fr_Ac F1 (fun x y h1 h2 z => by have := z.1; have := z.2; omega) A, I, fun k' i h1 h2 h3 => ?_⟩
  rw [hI_sC]
  by_cases e : k' = k
  · subst e
    rw [if_pos rfl, pk_cpy_in (by omega) (by omega), Nat.zero_add, Nat.sub_zero]
    exact A.2 k' i h2 h3
  · rw [if_neg (by omega)]
    exact g k' i (by omega) h2 h3
theorem st_p {h : Hp} {s : Nat} (I : isSt h s) {k : Nat} (hk : k < 11) : hP h s (8 + k) = some (s + 1 + k) := I.1 k hk
theorem c_copy {h : Hp} {s0 s1 : Nat} {α : SA} (hs : s0 + 11 < s1 ∨ s1 + 11 < s0) (A : Ac h s1 α) (I : isSt h s0) : ∃ h', f_X5_copyFrom h s0 s1 = some h' ∧ Ac h' s0 α ∧ Fr (PS s0) h h' := by
  have C0 : Ci h h s0 s1 α 0 := ⟨Fr_refl h, A, I, fun i hi => absurd hi (by omega)⟩
  unfold f_X5_copyFrom
  have C1 := cp_i hs (j := 0) (by decide) C0
  rw [lts]
  generalize sI h s0 0 (hI h s1 0) = h1 at C1 ⊢
  have C2 := cp_i hs (j := 1) (by decide) C1
  rw [lts]
  generalize sI h1 s0 1 (hI h1 s1 1) = h2 at C2 ⊢
  have C3 := cp_i hs (j := 2) (by decide) C2
  rw [lts]
  generalize sI h2 s0 2 (hI h2 s1 2) = h3 at C3 ⊢
  have C4 := cp_i hs (j := 3) (by decide) C3
  rw [lts]
  generalize sI h3 s0 3 (hI h3 s1 3) = h4 at C4 ⊢
  have C5 := cp_i hs (j := 4) (by decide) C4
  rw [lts]
  generalize sI h4 s0 4 (hI h4 s1 4) = h5 at C5 ⊢
  have C6 := cp_i hs (j := 5) (by decide) C5
  rw [lts]
  generalize sI h5 s0 5 (hI h5 s1 5) = h6 at C6 ⊢
  have C7 := cp_i hs (j := 6) (by decide) C6
  rw [lts]
  generalize sI h6 s0 6 (hI h6 s1 6) = h7 at C7 ⊢
  have C8 := cp_i hs (j := 7) (by decide) C7
  rw [lts]
  generalize sI h7 s0 7 (hI h7 s1 7) = h8 at C8 ⊢
  have B1 : Cp h h8 s0 s1 α 1 := ⟨C8.1, C8.2.1, C8.2.2.1, fun k' i h1 _ h3 => by
    obtain rfl : k' = 0 := by omega
    exact C8.2.2.2 i h3⟩
  rw [ac_p8 B1.2.1, bs, show hP h8 s0 8 = some (s0 + 1) from B1.2.2.1.1 0 (by decide), bs, ac_l1 B1.2.1, if_pos (by decide), show hL h8 (s0 + 1) = 8 from B1.2.2.1.2.1 0 (by decide), if_pos (by decide), lts]
  have B2 := cp_a hs (k := 1) (by decide) B1
  rw [show ln 1 = 8 from rfl] at B2
  generalize sC h8 (s1 + 1) (s0 + 1) 0 0 8 = g1 at B2 ⊢
  rw [ac_p9 B2.2.1, bs, show hP g1 s0 9 = some (s0 + 2) from B2.2.2.1.1 1 (by decide), bs, ac_l2 B2.2.1, if_pos (by decide), show hL g1 (s0 + 2) = 8 from B2.2.2.1.2.1 1 (by decide), if_pos (by decide), lts]
  have B3 := cp_a hs (k := 2) (by decide) B2
  rw [show ln 2 = 8 from rfl] at B3
  generalize sC g1 (s1 + 2) (s0 + 2) 0 0 8 = g2 at B3 ⊢
  rw [ac_p10 B3.2.1, bs, show hP g2 s0 10 = some (s0 + 3) from B3.2.2.1.1 2 (by decide), bs, ac_l3 B3.2.1, if_pos (by decide), show hL g2 (s0 + 3) = 8 from B3.2.2.1.2.1 2 (by decide), if_pos (by decide), lts]
  have B4 := cp_a hs (k := 3) (by decide) B3
  rw [show ln 3 = 8 from rfl] at B4
  generalize sC g2 (s1 + 3) (s0 + 3) 0 0 8 = g3 at B4 ⊢
  rw [ac_p11 B4.2.1, bs, show hP g3 s0 11 = some (s0 + 4) from B4.2.2.1.1 3 (by decide), bs, ac_l4 B4.2.1, if_pos (by decide), show hL g3 (s0 + 4) = 8 from B4.2.2.1.2.1 3 (by decide), if_pos (by decide), lts]
  have B5 := cp_a hs (k := 4) (by decide) B4
  rw [show ln 4 = 8 from rfl] at B5
  generalize sC g3 (s1 + 4) (s0 + 4) 0 0 8 = g4 at B5 ⊢
  rw [ac_p12 B5.2.1, bs, show hP g4 s0 12 = some (s0 + 5) from B5.2.2.1.1 4 (by decide), bs, ac_l5 B5.2.1, if_pos (by decide), show hL g4 (s0 + 5) = 6 from B5.2.2.1.2.2.1 0 (by decide), if_pos (by decide), lts]
  have B6 := cp_a hs (k := 5) (by decide) B5
  rw [show ln 5 = 6 from rfl] at B6
  generalize sC g4 (s1 + 5) (s0 + 5) 0 0 6 = g5 at B6 ⊢
  rw [ac_p13 B6.2.1, bs, show hP g5 s0 13 = some (s0 + 6) from B6.2.2.1.1 5 (by decide), bs, ac_l6 B6.2.1, if_pos (by decide), show hL g5 (s0 + 6) = 6 from B6.2.2.1.2.2.1 1 (by decide), if_pos (by decide), lts]
  have B7 := cp_a hs (k := 6) (by decide) B6
  rw [show ln 6 = 6 from rfl] at B7
  generalize sC g5 (s1 + 6) (s0 + 6) 0 0 6 = g6 at B7 ⊢
  rw [ac_p14 B7.2.1, bs, show hP g6 s0 14 = some (s0 + 7) from B7.2.2.1.1 6 (by decide), bs, ac_l7 B7.2.1, if_pos (by decide), show hL g6 (s0 + 7) = 6 from B7.2.2.1.2.2.1 2 (by decide), if_pos (by decide), lts]
  have B8 := cp_a hs (k := 7) (by decide) B7
  rw [show ln 7 = 6 from rfl] at B8
  generalize sC g6 (s1 + 7) (s0 + 7) 0 0 6 = g7 at B8 ⊢
  rw [ac_p15 B8.2.1, bs, show hP g7 s0 15 = some (s0 + 8) from B8.2.2.1.1 7 (by decide), bs, ac_l8 B8.2.1, if_pos (by decide), show hL g7 (s0 + 8) = 6 from B8.2.2.1.2.2.1 3 (by decide), if_pos (by decide), lts]
  have B9 := cp_a hs (k := 8) (by decide) B8
  rw [show ln 8 = 6 from rfl] at B9
  generalize sC g7 (s1 + 8) (s0 + 8) 0 0 6 = g8 at B9 ⊢
  rw [ac_p16 B9.2.1, bs, show hP g8 s0 16 = some (s0 + 9) from B9.2.2.1.1 8 (by decide), bs, ac_l9 B9.2.1, if_pos (by decide), show hL g8 (s0 + 9) = 6 from B9.2.2.1.2.2.1 4 (by decide), if_pos (by decide), lts]
  have B10 := cp_a hs (k := 9) (by decide) B9
  rw [show ln 9 = 6 from rfl] at B10
  generalize sC g8 (s1 + 9) (s0 + 9) 0 0 6 = g9 at B10 ⊢
  rw [ac_p17 B10.2.1, bs, show hP g9 s0 17 = some (s0 + 10) from B10.2.2.1.1 9 (by decide), bs, ac_l10 B10.2.1, if_pos (by decide), show hL g9 (s0 + 10) = 10 from B10.2.2.1.2.2.2.1, if_pos (by decide), lts]
  have B11 := cp_a hs (k := 10) (by decide) B10
  rw [show ln 10 = 10 from rfl] at B11
  generalize sC g9 (s1 + 10) (s0 + 10) 0 0 10 = g10 at B11 ⊢
  exact ⟨g10, rfl, ⟨B11.2.2.1, fun k i h1 h2 => B11.2.2.2 k i (by omega) h1 h2⟩, B11.1⟩
theorem m_keeps_l {N : Nat} {h0 : Hp} : ∀ (m k n : Nat) (h : Hp), k + m = 93 → m < n → SHP h → Fr (fun a j => a = 63 ∧ 0 ≤ j ∧ j < 0 + 93) h0 h → (∀ i, i < k → hI h 63 (i) = hI h0 62 (i)) → ∃ h', f_X8_keeps_2 N n h 51 (nI k) = some h' ∧ Fr (fun a j => a = 63 ∧ 0 ≤ j ∧ j < 0 + 93) h0 h' ∧ ∀ i, i < 93 → hI h' 63 (i) = hI h0 62 (i) := by
  intro m
  induction m with
  | zero =>
    intro k n h hk hn S F g
    obtain ⟨n, rfl⟩ : ∃ j, n = j + 1 := ⟨n - 1, by omega⟩
    rw [f_X8_keeps_2, show (93 : Int32) = nI 93 from rfl, if_pos (nI_le (by omega) (by omega))]
    exact ⟨h, rfl, F, fun i hi => g i (by omega)⟩
  | succ m ih =>
    intro k n h hk hn S F g
    obtain ⟨n, rfl⟩ : ∃ j, n = j + 1 := ⟨n - 1, by omega⟩
    rw [f_X8_keeps_2, show (93 : Int32) = nI 93 from rfl, if_neg (nI_ge (by omega) (by omega)), pp_51_27 S, bs, pp_51_26 S, bs, ll_62 S, if_inI (by omega) (by omega), lts, ll_63 S, if_inI (by omega) (by omega), lts, nI_clamp (by omega), nI_1]
    have F1 : Fr (fun a j => a = 63 ∧ 0 ≤ j ∧ j < 0 + 93) h (sI h 63 (k) (hI h 62 (k))) := Fr_sI _ _ _ _ ⟨rfl, by omega, by omega⟩
    refine ih (k + 1) n _ (by omega) (by omega) (Fr_SHP F1 S) (Fr_trans F F1) (fun i hi => ?_)
    rw [hI_sI]
    by_cases e : i = k
    · subst e
      rw [if_pos ⟨rfl, rfl⟩]
      exact F.2.2.2 _ _ (fun z => by have := z.1; omega)
    · rw [if_neg (fun z => e (by have := z.2; omega))]
      exact g i (by omega)
theorem m_puts_l {N : Nat} {h0 : Hp} : ∀ (m k n : Nat) (h : Hp), k + m = 93 → m < n → SHP h → Fr (fun a j => a = 62 ∧ 0 ≤ j ∧ j < 0 + 93) h0 h → (∀ i, i < k → hI h 62 (i) = hI h0 63 (i)) → ∃ h', f_X8_putsBack_2 N n h 51 (nI k) = some h' ∧ Fr (fun a j => a = 62 ∧ 0 ≤ j ∧ j < 0 + 93) h0 h' ∧ ∀ i, i < 93 → hI h' 62 (i) = hI h0 63 (i) := by
  intro m
  induction m with
  | zero =>
    intro k n h hk hn S F g
    obtain ⟨n, rfl⟩ : ∃ j, n = j + 1 := ⟨n - 1, by omega⟩
    rw [f_X8_putsBack_2, show (93 : Int32) = nI 93 from rfl, if_pos (nI_le (by omega) (by omega))]
    exact ⟨h, rfl, F, fun i hi => g i (by omega)⟩
  | succ m ih =>
    intro k n h hk hn S F g
    obtain ⟨n, rfl⟩ : ∃ j, n = j + 1 := ⟨n - 1, by omega⟩
    rw [f_X8_putsBack_2, show (93 : Int32) = nI 93 from rfl, if_neg (nI_ge (by omega) (by omega)), pp_51_26 S, bs, pp_51_27 S, bs, ll_63 S, if_inI (by omega) (by omega), lts, ll_62 S, if_inI (by omega) (by omega), lts, nI_clamp (by omega), nI_1]
    have F1 : Fr (fun a j => a = 62 ∧ 0 ≤ j ∧ j < 0 + 93) h (sI h 62 (k) (hI h 63 (k))) := Fr_sI _ _ _ _ ⟨rfl, by omega, by omega⟩
    refine ih (k + 1) n _ (by omega) (by omega) (Fr_SHP F1 S) (Fr_trans F F1) (fun i hi => ?_)
    rw [hI_sI]
    by_cases e : i = k
    · subst e
      rw [if_pos ⟨rfl, rfl⟩]
      exact F.2.2.2 _ _ (fun z => by have := z.1; omega)
    · rw [if_neg (fun z => e (by have := z.2; omega))]
      exact g i (by omega)
theorem m_keepsAt_l {N : Nat} {h0 : Hp} {d : Nat} (hd : d < 4) : ∀ (m k n : Nat) (h : Hp), k + m = 93 → m < n → SHP h → Fr (fun a j => a = 72 ∧ 93 * d ≤ j ∧ j < 93 * d + 93) h0 h → (∀ i, i < k → hI h 72 (93 * d + i) = hI h0 62 (i)) → ∃ h', f_X8_keepsAt_2 N n h 51 (nI d) (nI k) = some h' ∧ Fr (fun a j => a = 72 ∧ 93 * d ≤ j ∧ j < 93 * d + 93) h0 h' ∧ ∀ i, i < 93 → hI h' 72 (93 * d + i) = hI h0 62 (i) := by
  intro m
  induction m with
  | zero =>
    intro k n h hk hn S F g
    obtain ⟨n, rfl⟩ : ∃ j, n = j + 1 := ⟨n - 1, by omega⟩
    rw [f_X8_keepsAt_2, show (93 : Int32) = nI 93 from rfl, if_pos (nI_le (by omega) (by omega))]
    exact ⟨h, rfl, F, fun i hi => g i (by omega)⟩
  | succ m ih =>
    intro k n h hk hn S F g
    obtain ⟨n, rfl⟩ : ∃ j, n = j + 1 := ⟨n - 1, by omega⟩
    rw [f_X8_keepsAt_2, show (93 : Int32) = nI 93 from rfl, if_neg (nI_ge (by omega) (by omega)), pp_51_39 S, bs, pp_51_26 S, bs, ll_62 S, if_inI (by omega) (by omega), lts, pk_mul, nI_add, ll_72 S, if_inI (by omega) (by omega), lts, nI_clamp (by omega), nI_clamp (by omega), nI_1]
    have F1 : Fr (fun a j => a = 72 ∧ 93 * d ≤ j ∧ j < 93 * d + 93) h (sI h 72 (93 * d + k) (hI h 62 (k))) := Fr_sI _ _ _ _ ⟨rfl, by omega, by omega⟩
    refine ih (k + 1) n _ (by omega) (by omega) (Fr_SHP F1 S) (Fr_trans F F1) (fun i hi => ?_)
    rw [hI_sI]
    by_cases e : i = k
    · subst e
      rw [if_pos ⟨rfl, rfl⟩]
      exact F.2.2.2 _ _ (fun z => by have := z.1; omega)
    · rw [if_neg (fun z => e (by have := z.2; omega))]
      exact g i (by omega)
theorem m_putsAt_l {N : Nat} {h0 : Hp} {d : Nat} (hd : d < 4) : ∀ (m k n : Nat) (h : Hp), k + m = 93 → m < n → SHP h → Fr (fun a j => a = 62 ∧ 0 ≤ j ∧ j < 0 + 93) h0 h → (∀ i, i < k → hI h 62 (i) = hI h0 72 (93 * d + i)) → ∃ h', f_X8_putsBackAt_2 N n h 51 (nI d) (nI k) = some h' ∧ Fr (fun a j => a = 62 ∧ 0 ≤ j ∧ j < 0 + 93) h0 h' ∧ ∀ i, i < 93 → hI h' 62 (i) = hI h0 72 (93 * d + i) := by
  intro m
  induction m with
  | zero =>
    intro k n h hk hn S F g
    obtain ⟨n, rfl⟩ : ∃ j, n = j + 1 := ⟨n - 1, by omega⟩
    rw [f_X8_putsBackAt_2, show (93 : Int32) = nI 93 from rfl, if_pos (nI_le (by omega) (by omega))]
    exact ⟨h, rfl, F, fun i hi => g i (by omega)⟩
  | succ m ih =>
    intro k n h hk hn S F g
    obtain ⟨n, rfl⟩ : ∃ j, n = j + 1 := ⟨n - 1, by omega⟩
    rw [f_X8_putsBackAt_2, show (93 : Int32) = nI 93 from rfl, if_neg (nI_ge (by omega) (by omega)), pp_51_26 S, bs, pp_51_39 S, bs, pk_mul, nI_add, ll_72 S, if_inI (by omega) (by omega), lts, ll_62 S, if_inI (by omega) (by omega), lts, nI_clamp (by omega), nI_clamp (by omega), nI_1]
    have F1 : Fr (fun a j => a = 62 ∧ 0 ≤ j ∧ j < 0 + 93) h (sI h 62 (k) (hI h 72 (93 * d + k))) := Fr_sI _ _ _ _ ⟨rfl, by omega, by omega⟩
    refine ih (k + 1) n _ (by omega) (by omega) (Fr_SHP F1 S) (Fr_trans F F1) (fun i hi => ?_)
    rw [hI_sI]
    by_cases e : i = k
    · subst e
      rw [if_pos ⟨rfl, rfl⟩]
      exact F.2.2.2 _ _ (fun z => by have := z.1; omega)
    · rw [if_neg (fun z => e (by have := z.2; omega))]
      exact g i (by omega)
theorem m_image_l {N : Nat} {h0 : Hp} {d : Nat} (hd : d < 4) : ∀ (m k n : Nat) (h : Hp), k + m = 93 → m < n → SHP h → Fr (fun a j => a = 75 ∧ 93 * d ≤ j ∧ j < 93 * d + 93) h0 h → (∀ i, i < k → hI h 75 (93 * d + i) = hI h0 62 (i)) → ∃ h', f_X8_image_23 N n h 51 (nI d) (nI k) = some (hI h' 62 3, h') ∧ Fr (fun a j => a = 75 ∧ 93 * d ≤ j ∧ j < 93 * d + 93) h0 h' ∧ ∀ i, i < 93 → hI h' 75 (93 * d + i) = hI h0 62 (i) := by
  intro m
  induction m with
  | zero =>
    intro k n h hk hn S F g
    obtain ⟨n, rfl⟩ : ∃ j, n = j + 1 := ⟨n - 1, by omega⟩
    rw [f_X8_image_23, show (93 : Int32) = nI 93 from rfl, if_pos (nI_le (by omega) (by omega))]
    rw [pp_51_26 S, bs, ll_62 S, if_pos (by decide)]
    exact ⟨h, rfl, F, fun i hi => g i (by omega)⟩
  | succ m ih =>
    intro k n h hk hn S F g
    obtain ⟨n, rfl⟩ : ∃ j, n = j + 1 := ⟨n - 1, by omega⟩
    rw [f_X8_image_23, show (93 : Int32) = nI 93 from rfl, if_neg (nI_ge (by omega) (by omega)), pp_51_42 S, bs, pp_51_26 S, bs, ll_62 S, if_inI (by omega) (by omega), lts, pk_mul, nI_add, ll_75 S, if_inI (by omega) (by omega), lts, nI_clamp (by omega), nI_clamp (by omega), nI_1]
    have F1 : Fr (fun a j => a = 75 ∧ 93 * d ≤ j ∧ j < 93 * d + 93) h (sI h 75 (93 * d + k) (hI h 62 (k))) := Fr_sI _ _ _ _ ⟨rfl, by omega, by omega⟩
    refine ih (k + 1) n _ (by omega) (by omega) (Fr_SHP F1 S) (Fr_trans F F1) (fun i hi => ?_)
    rw [hI_sI]
    by_cases e : i = k
    · subst e
      rw [if_pos ⟨rfl, rfl⟩]
      exact F.2.2.2 _ _ (fun z => by have := z.1; omega)
    · rw [if_neg (fun z => e (by have := z.2; omega))]
      exact g i (by omega)
theorem m_back_l {N : Nat} {h0 : Hp} {d : Nat} (hd : d < 4) : ∀ (m k n : Nat) (h : Hp), k + m = 93 → m < n → SHP h → Fr (fun a j => a = 62 ∧ 0 ≤ j ∧ j < 0 + 93) h0 h → (∀ i, i < k → hI h 62 (i) = hI h0 75 (93 * d + i)) → ∃ h', f_X8_back_25 N n h 51 (nI d) (nI k) = some (hI h' 62 3, h') ∧ Fr (fun a j => a = 62 ∧ 0 ≤ j ∧ j < 0 + 93) h0 h' ∧ ∀ i, i < 93 → hI h' 62 (i) = hI h0 75 (93 * d + i) := by
  intro m
  induction m with
  | zero =>
    intro k n h hk hn S F g
    obtain ⟨n, rfl⟩ : ∃ j, n = j + 1 := ⟨n - 1, by omega⟩
    rw [f_X8_back_25, show (93 : Int32) = nI 93 from rfl, if_pos (nI_le (by omega) (by omega))]
    rw [pp_51_26 S, bs, ll_62 S, if_pos (by decide)]
    exact ⟨h, rfl, F, fun i hi => g i (by omega)⟩
  | succ m ih =>
    intro k n h hk hn S F g
    obtain ⟨n, rfl⟩ : ∃ j, n = j + 1 := ⟨n - 1, by omega⟩
    rw [f_X8_back_25, show (93 : Int32) = nI 93 from rfl, if_neg (nI_ge (by omega) (by omega)), pp_51_26 S, bs, pp_51_42 S, bs, pk_mul, nI_add, ll_75 S, if_inI (by omega) (by omega), lts, ll_62 S, if_inI (by omega) (by omega), lts, nI_clamp (by omega), nI_clamp (by omega), nI_1]
    have F1 : Fr (fun a j => a = 62 ∧ 0 ≤ j ∧ j < 0 + 93) h (sI h 62 (k) (hI h 75 (93 * d + k))) := Fr_sI _ _ _ _ ⟨rfl, by omega, by omega⟩
    refine ih (k + 1) n _ (by omega) (by omega) (Fr_SHP F1 S) (Fr_trans F F1) (fun i hi => ?_)
    rw [hI_sI]
    by_cases e : i = k
    · subst e
      rw [if_pos ⟨rfl, rfl⟩]
      exact F.2.2.2 _ _ (fun z => by have := z.1; omega)
    · rw [if_neg (fun z => e (by have := z.2; omega))]
      exact g i (by omega)
