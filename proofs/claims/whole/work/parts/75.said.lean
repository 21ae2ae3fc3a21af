/-! ===== texts: the reference takes the stair ===== -/
theorem m_cl56 {N : Nat} {h0 : Hp} {v : Int32} : ∀ (m i k : Nat) (h : Hp), i + m = 93 → m < k → SHP h → Fr (fun a j => a = 62 ∧ j ≠ 8) h0 h → (∀ j, j < i → j ≠ 8 → hI h 62 j = 0) → ∃ h' k', f_X8_stair_56 N k h 51 v (nI i) = f_X8_stair_56 N (k' + 1) h' 51 v (nI 93) ∧ Fr (fun a j => a = 62 ∧ j ≠ 8) h0 h' ∧ ∀ j, j < 93 → j ≠ 8 → hI h' 62 j = 0 := by
  intro m
  induction m with
  | zero =>
    intro i k h hi hk H F g
    obtain ⟨k, rfl⟩ : ∃ j, k = j + 1 := ⟨k - 1, by omega⟩
    have e : i = 93 := by omega
    subst e
    exact ⟨h, k, rfl, F, g⟩
  | succ m ih =>
    intro i k h hi hk H F g
    obtain ⟨k, rfl⟩ : ∃ j, k = j + 1 := ⟨k - 1, by omega⟩
    rw [f_X8_stair_56, if_neg (show ¬ (93 : Int32) ≤ nI i from nI_ge (b := 93) (by omega) (by decide))]
    by_cases c : i = 8
    · subst c
      rw [if_pos (show nI 8 = (8 : Int32) from rfl)]
      unfold f_X8_stair_75
      rw [nI_1]
      exact ih 9 k h (by omega) (by omega) H F (fun j hj h8 => g j (by omega) h8)
    · rw [if_neg (show ¬ nI i = (8 : Int32) from fun z => c ((nI_eq (b := 8) (by omega) (by decide)).mp z)), pp_51_26 H, bs, ll_62 H, if_inI (by omega) (by omega), lts, nI_clamp (by omega)]
      unfold f_X8_stair_75
      rw [nI_1]
      have F1 : Fr (fun a j => a = 62 ∧ j ≠ 8) h (sI h 62 i 0) := Fr_sI _ _ _ _ ⟨rfl, c⟩
      refine ih (i + 1) k (sI h 62 i 0) (by omega) (by omega) (Fr_SHP F1 H) (Fr_trans F F1) (fun j hj h8 => ?_)
      rw [hI_sI]
      by_cases e : j = i
      · rw [if_pos ⟨rfl, e⟩]
      · rw [if_neg (fun z => e z.2)]; exact g j (by omega) h8
theorem m_142 {N L : Nat} {h0 : Hp} (hL : L ≤ 8) : ∀ (m i k : Nat) (h : Hp), i + m = 2 * L → m < k → SHP h → hI h 51 7 = nI L → Fr (fun a j => a = 62 ∧ 9 ≤ j ∧ j < 9 + 2 * L) h0 h → (∀ j, j < i → hI h 62 (9 + j) = hI h0 57 j) → ∃ h', f_X8_stair_142 N k h 51 (nI i) = f_X8_stair_175 N N h' 51 0 ∧ Fr (fun a j => a = 62 ∧ 9 ≤ j ∧ j < 9 + 2 * L) h0 h' ∧ ∀ j, j < 2 * L → hI h' 62 (9 + j) = hI h0 57 j := by
  intro m
  induction m with
  | zero =>
    intro i k h hi hk H e7 F g
    obtain ⟨k, rfl⟩ : ∃ j, k = j + 1 := ⟨k - 1, by omega⟩
    rw [f_X8_stair_142, e7, n_2, pk_mul, if_pos (nI_le (by omega) (by omega))]
    exact ⟨h, rfl, F, fun j hj => g j (by omega)⟩
  | succ m ih =>
    intro i k h hi hk H e7 F g
    obtain ⟨k, rfl⟩ : ∃ j, k = j + 1 := ⟨k - 1, by omega⟩
    rw [f_X8_stair_142, e7, n_2, pk_mul, if_neg (nI_ge (by omega) (by omega)), pp_51_26 H, bs, pp_51_12 H, bs, ll_57 H, if_inI (by omega) (by omega), lts, n_9, nI_add, ll_62 H, if_inI (by omega) (by omega), lts, nI_clamp (by omega), nI_clamp (by omega), nI_1]
    have F1 : Fr (fun a j => a = 62 ∧ 9 ≤ j ∧ j < 9 + 2 * L) h (sI h 62 (9 + i) (hI h 57 i)) := Fr_sI _ _ _ _ ⟨rfl, by omega, by omega⟩
    refine ih (i + 1) k _ (by omega) (by omega) (Fr_SHP F1 H) (by rw [F1.2.2.2 51 7 (fun z => by omega)]; exact e7) (Fr_trans F F1) (fun j hj => ?_)
    rw [hI_sI]
    by_cases e : j = i
    · subst e; rw [if_pos ⟨rfl, rfl⟩, F.2.2.2 57 _ (fun z => by omega)]
    · rw [if_neg (fun z => e (by omega))]; exact g j (by omega)
theorem m_185 {N b j k : Nat} {h : Hp} {s : Hp → Nat → Int32 → Option (Int32 × Hp)} (hb : b < 6) (hk : k < 4) (H : SHP h) : f_X8_stair_185 N s (j + 1) h 51 (nI b) (nI k) = f_X8_stair_185 N s j (sI h 62 (25 + 5 * b + k) (hI h 58 (4 * b + k))) 51 (nI b) (nI (k + 1)) := by
  rw [f_X8_stair_185, if_neg (show ¬ (4 : Int32) ≤ nI k from nI_ge (b := 4) (by omega) (by decide)), pp_51_26 H, bs, pp_51_13 H, bs, n_4, pk_mul, nI_add, ll_58 H, if_inI (by omega) (by omega), lts, n_25, n_5, pk_mul, nI_add, nI_add, ll_62 H, if_inI (by omega) (by omega), lts, nI_clamp (by omega), nI_clamp (by omega), nI_1]
theorem m_bgn {b : Nat} {h : Hp} (hb : b < 6) (H : SHP h) : f_X8_begins h 51 (nI b) = some (sI h 62 (29 + 5 * b) (if hI h 62 (27 + 5 * b) = 0 then 0 else hI h 62 0 - 1)) := by
  unfold f_X8_begins f_X8_begins_33 f_X8_bargeOf
  rw [pp_51_26 H, bs, n_25, n_5, n_2, pk_mul, nI_add, nI_add, n_4, nI_add, bs, ll_62 H, if_inI (by omega) (by omega), nI_clamp (by omega), bs, show 25 + 5 * b + 2 = 27 + 5 * b by omega, show 25 + 5 * b + 4 = 29 + 5 * b by omega, if_inI (by omega) (by omega), nI_clamp (by omega), lts]
  by_cases c : hI h 62 (27 + 5 * b) = 0
  · rw [if_pos c, if_pos c]
  · rw [if_neg c, if_neg c, bs, ll_62 H, if_pos (by decide), if_pos ⟨nI_pos' (by omega), by omega⟩, lts]
def BT (h0 h : Hp) (b : Nat) : Prop := (∀ k, k < 4 → hI h 62 (25 + 5 * b + k) = hI h0 58 (4 * b + k)) ∧ hI h 62 (29 + 5 * b) = (if hI h0 58 (4 * b + 2) = 0 then 0 else hI h0 62 0 - 1)
theorem m_175 {N B : Nat} {h0 : Hp} (hN : 5000 ≤ N) (hB : B ≤ 6) : ∀ (m b k : Nat) (h : Hp), b + m = B → m < k → SHP h → hI h 51 8 = nI B → Fr (fun a j => a = 62 ∧ 25 ≤ j ∧ j < 25 + 5 * B) h0 h → (∀ b', b' < b → BT h0 h b') → ∃ h', f_X8_stair_175 N k h 51 (nI b) = f_X8_stair_232 N N h' 51 0 ∧ Fr (fun a j => a = 62 ∧ 25 ≤ j ∧ j < 25 + 5 * B) h0 h' ∧ ∀ b', b' < B → BT h0 h' b' := by
  intro m
  induction m with
  | zero =>
    intro b k h hb hk H e8 F g
    obtain ⟨k, rfl⟩ : ∃ j, k = j + 1 := ⟨k - 1, by omega⟩
    rw [f_X8_stair_175, e8, if_pos (nI_le (by omega) (by omega))]
    exact ⟨h, rfl, F, fun b' hb' => g b' (by omega)⟩
  | succ m ih =>
    intro b k h hb hk H e8 F g
    obtain ⟨k, rfl⟩ : ∃ j, k = j + 1 := ⟨k - 1, by omega⟩
    rw [f_X8_stair_175, e8, if_neg (nI_ge (by omega) (by omega))]
    have st : ∀ i, i < 4 → ∀ g : Hp, Fr (fun a j => a = 62 ∧ 25 ≤ j ∧ j < 25 + 5 * B) g (sI g 62 (25 + 5 * b + i) (hI g 58 (4 * b + i))) := fun i hi g => Fr_sI _ _ _ _ ⟨rfl, by omega, by omega⟩
    have e0 : f_X8_stair_185 N (f_X8_stair_175 N k) N h 51 (nI b) 0 = Option.bind (f_X8_begins (sI (sI (sI (sI h 62 (25 + 5 * b + 0) (hI h 58 (4 * b + 0))) 62 (25 + 5 * b + 1) (hI h 58 (4 * b + 1))) 62 (25 + 5 * b + 2) (hI h 58 (4 * b + 2))) 62 (25 + 5 * b + 3) (hI h 58 (4 * b + 3))) 51 (nI b)) (fun h2 => f_X8_stair_175 N k h2 51 (nI (b + 1))) := by
      obtain ⟨K, hK⟩ : ∃ j, N = j + 5 := ⟨N - 5, by omega⟩
      have e : f_X8_stair_185 N (f_X8_stair_175 N k) (K + 4 + 1) h 51 (nI b) (nI 0) = Option.bind (f_X8_begins (sI (sI (sI (sI h 62 (25 + 5 * b + 0) (hI h 58 (4 * b + 0))) 62 (25 + 5 * b + 1) (hI h 58 (4 * b + 1))) 62 (25 + 5 * b + 2) (hI h 58 (4 * b + 2))) 62 (25 + 5 * b + 3) (hI h 58 (4 * b + 3))) 51 (nI b)) (fun h2 => f_X8_stair_175 N k h2 51 (nI (b + 1))) := by
        have o58 : ∀ (g : Hp) (j : Nat) (x : Int32), hI (sI g 62 j x) 58 = hI g 58 := fun g j x => by funext i; rw [hI_sI, if_neg (by omega)]
        rw [m_185 (by omega) (by decide) H, m_185 (j := K + 3) (by omega) (by decide) (Fr_SHP (st 0 (by decide) h) H), o58, m_185 (j := K + 2) (by omega) (by decide) (Fr_SHP (Fr_sI (P := fun a j => a = 62 ∧ 25 ≤ j ∧ j < 25 + 5 * B) _ _ _ _ ⟨rfl, by omega, by omega⟩) (Fr_SHP (st 0 (by decide) h) H)), o58, o58, m_185 (j := K + 1) (by omega) (by decide) (Fr_SHP (Fr_sI (P := fun a j => a = 62 ∧ 25 ≤ j ∧ j < 25 + 5 * B) _ _ _ _ ⟨rfl, by omega, by omega⟩) (Fr_SHP (Fr_sI (P := fun a j => a = 62 ∧ 25 ≤ j ∧ j < 25 + 5 * B) _ _ _ _ ⟨rfl, by omega, by omega⟩) (Fr_SHP (st 0 (by decide) h) H))), o58, o58, o58, f_X8_stair_185, if_pos (by decide), nI_1]
      rw [show K + 4 + 1 = N by omega] at e
      exact e
    rw [e0]
    have w : ∀ i, i < 4 → hI (sI (sI (sI (sI h 62 (25 + 5 * b + 0) (hI h 58 (4 * b + 0))) 62 (25 + 5 * b + 1) (hI h 58 (4 * b + 1))) 62 (25 + 5 * b + 2) (hI h 58 (4 * b + 2))) 62 (25 + 5 * b + 3) (hI h 58 (4 * b + 3))) 62 (25 + 5 * b + i) = hI h 58 (4 * b + i) := by
      intro i hi
      rw [hI_sI, hI_sI, hI_sI, hI_sI]
      obtain rfl | rfl | rfl | rfl : i = 0 ∨ i = 1 ∨ i = 2 ∨ i = 3 := by omega
      · rw [if_neg (by omega), if_neg (by omega), if_neg (by omega), if_pos ⟨rfl, rfl⟩]
      · rw [if_neg (by omega), if_neg (by omega), if_pos ⟨rfl, rfl⟩]
      · rw [if_neg (by omega), if_pos ⟨rfl, rfl⟩]
      · rw [if_pos ⟨rfl, rfl⟩]
    have F1 : Fr (fun a j => a = 62 ∧ 25 + 5 * b ≤ j ∧ j < 29 + 5 * b) h (sI (sI (sI (sI h 62 (25 + 5 * b + 0) (hI h 58 (4 * b + 0))) 62 (25 + 5 * b + 1) (hI h 58 (4 * b + 1))) 62 (25 + 5 * b + 2) (hI h 58 (4 * b + 2))) 62 (25 + 5 * b + 3) (hI h 58 (4 * b + 3))) := Fr_trans (Fr_sI _ _ _ _ ⟨rfl, by omega, by omega⟩) (Fr_trans (Fr_sI _ _ _ _ ⟨rfl, by omega, by omega⟩) (Fr_trans (Fr_sI _ _ _ _ ⟨rfl, by omega, by omega⟩) (Fr_sI _ _ _ _ ⟨rfl, by omega, by omega⟩)))
    generalize sI (sI (sI (sI h 62 (25 + 5 * b + 0) (hI h 58 (4 * b + 0))) 62 (25 + 5 * b + 1) (hI h 58 (4 * b + 1))) 62 (25 + 5 * b + 2) (hI h 58 (4 * b + 2))) 62 (25 + 5 * b + 3) (hI h 58 (4 * b + 3)) = h1 at w F1 ⊢
    have H1 := Fr_SHP F1 H
    rw [m_bgn (by omega) H1, bs]
    have w2 := w 2 (by decide)
    rw [show 25 + 5 * b + 2 = 27 + 5 * b by omega] at w2
    have o58 : ∀ j, hI h 58 j = hI h0 58 j := fun j => F.2.2.2 58 j (fun z => by omega)
    have o0 : hI h1 62 0 = hI h0 62 0 := by rw [F1.2.2.2 62 0 (fun z => by omega), F.2.2.2 62 0 (fun z => by omega)]
    rw [w2, o0, o58]
    generalize hv : (if hI h0 58 (4 * b + 2) = 0 then 0 else hI h0 62 0 - 1) = v
    have F2 : Fr (fun a j => a = 62 ∧ j = 29 + 5 * b) h1 (sI h1 62 (29 + 5 * b) v) := Fr_sI _ _ _ _ ⟨rfl, rfl⟩
    have q2 : hI (sI h1 62 (29 + 5 * b) v) 62 (29 + 5 * b) = v := by rw [hI_sI, if_pos ⟨rfl, rfl⟩]
    generalize sI h1 62 (29 + 5 * b) v = h2 at F2 q2 ⊢
    have G : Fr (fun a j => a = 62 ∧ 25 + 5 * b ≤ j ∧ j < 30 + 5 * b) h h2 := Fr_trans (Fr_mono F1 (fun a j z => ⟨z.1, by omega, by omega⟩)) (Fr_mono F2 (fun a j z => ⟨z.1, by omega, by omega⟩))
    refine ih (b + 1) k h2 (by omega) (by omega) (Fr_SHP G H) (by rw [G.2.2.2 51 8 (fun z => by omega)]; exact e8) (Fr_trans F (Fr_mono G (fun a j z => ⟨z.1, by omega, by omega⟩))) (fun b' hb' => ?_)
    by_cases c : b' = b
    · subst c
      refine ⟨fun i hi => ?_, ?_⟩
      · rw [F2.2.2.2 62 _ (fun z => by omega), w i hi, o58]
      · rw [q2, hv]
    · have z := g b' (by omega)
      refine ⟨fun i hi => ?_, ?_⟩
      · rw [G.2.2.2 62 _ (fun z => by omega)]; exact z.1 i hi
      · rw [G.2.2.2 62 _ (fun z => by omega)]; exact z.2
theorem m_232 {N : Nat} {h0 : Hp} : ∀ (m i k : Nat) (h : Hp), i + m = 8 → m < k → SHP h → Fr (fun a j => a = 62 ∧ 55 ≤ j ∧ j < 63) h0 h → (∀ j, j < i → hI h 62 (55 + j) = -1) → ∃ h', f_X8_stair_232 N k h 51 (nI i) = some (hI h0 51 7, h') ∧ Fr (fun a j => a = 62 ∧ 55 ≤ j ∧ j < 63) h0 h' ∧ ∀ j, j < 8 → hI h' 62 (55 + j) = -1 := by
  intro m
  induction m with
  | zero =>
    intro i k h hi hk H F g
    obtain ⟨k, rfl⟩ : ∃ j, k = j + 1 := ⟨k - 1, by omega⟩
    rw [f_X8_stair_232, if_pos (show (8 : Int32) ≤ nI i from nI_le (a := 8) (by omega) (by omega)), F.2.2.2 51 7 (fun z => by omega)]
    exact ⟨h, rfl, F, fun j hj => g j (by omega)⟩
  | succ m ih =>
    intro i k h hi hk H F g
    obtain ⟨k, rfl⟩ : ∃ j, k = j + 1 := ⟨k - 1, by omega⟩
    rw [f_X8_stair_232, if_neg (show ¬ (8 : Int32) ≤ nI i from nI_ge (b := 8) (by omega) (by decide)), pp_51_26 H, bs, n_55, nI_add, ll_62 H, if_inI (by omega) (by omega), lts, nI_clamp (by omega), nI_1]
    have F1 : Fr (fun a j => a = 62 ∧ 55 ≤ j ∧ j < 63) h (sI h 62 (55 + i) (-1)) := Fr_sI _ _ _ _ ⟨rfl, by omega, by omega⟩
    refine ih (i + 1) k _ (by omega) (by omega) (Fr_SHP F1 H) (Fr_trans F F1) (fun j hj => ?_)
    rw [hI_sI]
    by_cases e : j = i
    · subst e; rw [if_pos ⟨rfl, rfl⟩]
    · rw [if_neg (fun z => e (by omega))]; exact g j (by omega)
