/-! ===== the law: call for call ===== -/
theorem li_in {i j L : Nat} (h : i + j < L) (hL : L ≤ 3072) : 0 ≤ nI i + nI j ∧ (nI i + nI j).toNatClampNeg < L := by
  rw [nI_add]
  exact in_nI h (by omega)
theorem law_1052 (N : Nat) (xs : Nat → Int32) (L : Nat) (s18 : Hp → Nat → Nat → Nat → Int32 → Option Int32) (h : Hp) (i : Nat) : f_L_law_1052 N xs L s18 h 0 0 51 (nI i) = s18 h 0 0 51 (nI (i + 6)) := by
  unfold f_L_law_1052
  rw [show (6 : Int32) = nI 6 from rfl, nI_add]
theorem law_chain {N : Nat} (hN : 5000 ≤ N) {xs : Nat → Int32} {L i : Nat} {s18 : Hp → Nat → Nat → Nat → Int32 → Option Int32} (b1 : 0 ≤ nI i + (1 : Int32) ∧ (nI i + (1 : Int32)).toNatClampNeg < L) (b2 : 0 ≤ nI i + (2 : Int32) ∧ (nI i + (2 : Int32)).toNatClampNeg < L) (b3 : 0 ≤ nI i + (3 : Int32) ∧ (nI i + (3 : Int32)).toNatClampNeg < L) (b4 : 0 ≤ nI i + (4 : Int32) ∧ (nI i + (4 : Int32)).toNatClampNeg < L) (IH : ∀ h, GG N h → f_L_law_1052 N xs L s18 h 0 0 51 (nI i) = some 1) {h : Hp} (G : GG N h) (s : Int32) (hs : s = 0 ∨ s = 1) (hx : s = if (xs (nI i + (2 : Int32)).toNatClampNeg) = 0 then 0 else 1) : f_L_law_499 N xs L s18 h 0 0 51 (nI i) s (xs (nI i + (1 : Int32)).toNatClampNeg) 0 = some 1 := by
  obtain ⟨v, h1, h2, e1, e2, G2⟩ := ok_chain (N := N) (xs (nI i + (1 : Int32)).toNatClampNeg) s hs h G
  dsimp only at e1 e2
  unfold f_L_law_499
  rw [e1, b2s, if_pos b1, if_pos b2]
  by_cases c : (xs (nI i + (2 : Int32)).toNatClampNeg) = 0
  · rw [if_pos c] at hx ⊢
    rw [hx] at e2
    unfold f_L_law_521
    rw [e2, b2s, if_pos rfl]
    exact IH h2 G2
  · rw [if_neg c] at hx ⊢
    rw [hx] at e2
    unfold f_L_law_521
    rw [e2, b2s, if_pos rfl]
    exact IH h2 G2
theorem law_plan {N : Nat} (hN : 5000 ≤ N) {xs : Nat → Int32} {L i : Nat} {s18 : Hp → Nat → Nat → Nat → Int32 → Option Int32} (b1 : 0 ≤ nI i + (1 : Int32) ∧ (nI i + (1 : Int32)).toNatClampNeg < L) (b2 : 0 ≤ nI i + (2 : Int32) ∧ (nI i + (2 : Int32)).toNatClampNeg < L) (b3 : 0 ≤ nI i + (3 : Int32) ∧ (nI i + (3 : Int32)).toNatClampNeg < L) (b4 : 0 ≤ nI i + (4 : Int32) ∧ (nI i + (4 : Int32)).toNatClampNeg < L) (IH : ∀ h, GG N h → f_L_law_1052 N xs L s18 h 0 0 51 (nI i) = some 1) {h : Hp} (G : GG N h) (m : Bool) (hx : b2i m = if (xs (nI i + (2 : Int32)).toNatClampNeg) = 0 then 0 else 1) : f_L_law_617 N xs L s18 h 0 0 51 (nI i) (b2i m) (xs (nI i + (1 : Int32)).toNatClampNeg) 0 = some 1 := by
  obtain ⟨v, h1, h2, e1, e2, G2⟩ := ok_plan (N := N) hN (xs (nI i + (1 : Int32)).toNatClampNeg) m h G
  dsimp only at e1 e2
  unfold f_L_law_617
  rw [e1, b2s, if_pos b1, if_pos b2]
  by_cases c : (xs (nI i + (2 : Int32)).toNatClampNeg) = 0
  · rw [if_pos c] at hx ⊢
    rw [hx] at e2
    unfold f_L_law_639
    rw [e2, b2s, if_pos rfl]
    exact IH h2 G2
  · rw [if_neg c] at hx ⊢
    rw [hx] at e2
    unfold f_L_law_639
    rw [e2, b2s, if_pos rfl]
    exact IH h2 G2
theorem law_row {N : Nat} (hN : 5000 ≤ N) {xs : Nat → Int32} {L i : Nat} {s18 : Hp → Nat → Nat → Nat → Int32 → Option Int32} (b1 : 0 ≤ nI i + (1 : Int32) ∧ (nI i + (1 : Int32)).toNatClampNeg < L) (b2 : 0 ≤ nI i + (2 : Int32) ∧ (nI i + (2 : Int32)).toNatClampNeg < L) (b3 : 0 ≤ nI i + (3 : Int32) ∧ (nI i + (3 : Int32)).toNatClampNeg < L) (b4 : 0 ≤ nI i + (4 : Int32) ∧ (nI i + (4 : Int32)).toNatClampNeg < L) (IH : ∀ h, GG N h → f_L_law_1052 N xs L s18 h 0 0 51 (nI i) = some 1) {h : Hp} (G : GG N h) (m : Bool) (hx : b2i m = if (xs (nI i + (2 : Int32)).toNatClampNeg) = 0 then 0 else 1) : f_L_law_666 N xs L s18 h 0 0 51 (nI i) (b2i m) (xs (nI i + (1 : Int32)).toNatClampNeg) 0 = some 1 := by
  obtain ⟨v, h1, h2, e1, e2, G2⟩ := ok_row (N := N) hN (xs (nI i + (1 : Int32)).toNatClampNeg) m (xs (nI i + (3 : Int32)).toNatClampNeg) (xs (nI i + (4 : Int32)).toNatClampNeg) h G
  dsimp only at e1 e2
  unfold f_L_law_666
  rw [if_pos b3, if_pos b4, e1, b2s, if_pos b1, if_pos b2]
  by_cases c : (xs (nI i + (2 : Int32)).toNatClampNeg) = 0
  · rw [if_pos c] at hx ⊢
    rw [hx] at e2
    unfold f_L_law_698
    rw [if_pos b3, if_pos b4, e2, b2s, if_pos rfl]
    exact IH h2 G2
  · rw [if_neg c] at hx ⊢
    rw [hx] at e2
    unfold f_L_law_698
    rw [if_pos b3, if_pos b4, e2, b2s, if_pos rfl]
    exact IH h2 G2
theorem law_step {N : Nat} (hN : 5000 ≤ N) (S : Cok N (fun h => f_X7_stair N h 0) (fun h => f_X8_stair N h 51)) (U : Cok N (fun h => f_X7_rule N h 0) (fun h => f_X8_rule N h 51)) {xs : Nat → Int32} {L i n : Nat} (hi : i + 6 ≤ L) (hL : L ≤ 3072) (IH : ∀ h, GG N h → f_L_law_18 N xs L n h 0 0 51 (nI (i + 6)) = some 1) {h : Hp} (G : GG N h) : f_L_law_18 N xs L (n + 1) h 0 0 51 (nI i) = some 1 := by
  have IH' : ∀ h, GG N h → f_L_law_1052 N xs L (f_L_law_18 N xs L n) h 0 0 51 (nI i) = some 1 := fun h G => by rw [law_1052]; exact IH h G
  have b0 : 0 ≤ nI i ∧ (nI i).toNatClampNeg < L := in_nI (by omega) (by omega)
  have b1 : 0 ≤ nI i + (1 : Int32) ∧ (nI i + (1 : Int32)).toNatClampNeg < L := li_in (i := i) (j := 1) (by omega) hL
  have b2 : 0 ≤ nI i + (2 : Int32) ∧ (nI i + (2 : Int32)).toNatClampNeg < L := li_in (i := i) (j := 2) (by omega) hL
  have b3 : 0 ≤ nI i + (3 : Int32) ∧ (nI i + (3 : Int32)).toNatClampNeg < L := li_in (i := i) (j := 3) (by omega) hL
  have b4 : 0 ≤ nI i + (4 : Int32) ∧ (nI i + (4 : Int32)).toNatClampNeg < L := li_in (i := i) (j := 4) (by omega) hL
  have b5 : 0 ≤ nI i + (5 : Int32) ∧ (nI i + (5 : Int32)).toNatClampNeg < L := li_in (i := i) (j := 5) (by omega) hL
  have e6 : ¬ nI L - (6 : Int32) < nI i := by
    rw [show (6 : Int32) = nI 6 from rfl, pk_sub (by omega)]
    exact nI_nlt (by omega) (by omega)
  rw [f_L_law_18, if_neg e6, if_pos b0]
  generalize f_L_law_18 N xs L n = s18 at IH'
  generalize hw : xs (nI i).toNatClampNeg &&& (31 : Int32) = w
  by_cases c0 : w = (0 : Int32)
  · obtain ⟨v, h1, h2, e1, e2, G2⟩ := ok_feed (N := N) hN (xs (nI i + (1 : Int32)).toNatClampNeg) (xs (nI i + (2 : Int32)).toNatClampNeg) (xs (nI i + (3 : Int32)).toNatClampNeg) (xs (nI i + (4 : Int32)).toNatClampNeg) (xs (nI i + (5 : Int32)).toNatClampNeg) h G
    dsimp only at e1 e2
    rw [if_pos c0, if_pos b1, if_pos b2, if_pos b3, if_pos b4, if_pos b5, e1, b2s, if_pos b1, if_pos b2, if_pos b3, if_pos b4, if_pos b5, e2, b2s, if_pos rfl]
    exact IH' h2 G2
  rw [if_neg c0]
  by_cases c1 : w = (1 : Int32)
  · obtain ⟨v, h1, h2, e1, e2, G2⟩ := ok_end (N := N) (xs (nI i + (1 : Int32)).toNatClampNeg) h G
    dsimp only at e1 e2
    rw [if_pos c1, if_pos b1, e1, b2s, if_pos b1, e2, b2s, if_pos rfl]
    exact IH' h2 G2
  rw [if_neg c1]
  by_cases c2 : w = (2 : Int32)
  · obtain ⟨v, h1, h2, e1, e2, G2⟩ := S h G
    dsimp only at e1 e2
    rw [if_pos c2, e1, b2s, e2, b2s, if_pos rfl]
    exact IH' h2 G2
  rw [if_neg c2]
  by_cases c3 : w = (3 : Int32)
  · obtain ⟨v, h1, h2, e1, e2, G2⟩ := U h G
    dsimp only at e1 e2
    rw [if_pos c3, e1, b2s, e2, b2s, if_pos rfl]
    exact IH' h2 G2
  rw [if_neg c3]
  by_cases c4 : w = (4 : Int32)
  · obtain ⟨v, h1, h2, e1, e2, G2⟩ := ok_force (N := N) (xs (nI i + (1 : Int32)).toNatClampNeg) h G
    dsimp only at e1 e2
    rw [if_pos c4, if_pos b1, e1, b2s, if_pos b1, e2, b2s, if_pos rfl]
    exact IH' h2 G2
  rw [if_neg c4]
  by_cases c5 : w = (5 : Int32)
  · obtain ⟨v, e1, e2⟩ := ok_level (N := N) hN (xs (nI i + (1 : Int32)).toNatClampNeg) (xs (nI i + (2 : Int32)).toNatClampNeg) h G
    dsimp only at e1 e2
    rw [if_pos c5, if_pos b1, if_pos b2, e1, bs, if_pos b1, if_pos b2, e2, bs, if_pos rfl]
    exact IH' h G
  rw [if_neg c5]
  by_cases c6 : w = (6 : Int32)
  · obtain ⟨v, e1, e2⟩ := ok_barge (N := N) (xs (nI i + (1 : Int32)).toNatClampNeg) (xs (nI i + (2 : Int32)).toNatClampNeg) h G
    dsimp only at e1 e2
    rw [if_pos c6, if_pos b1, if_pos b2, e1, bs, if_pos b1, if_pos b2, e2, bs, if_pos rfl]
    exact IH' h G
  rw [if_neg c6]
  by_cases c7 : w = (7 : Int32)
  · obtain ⟨v, h1, h2, e1, e2, G2⟩ := ok_tip (N := N) hN (xs (nI i + (1 : Int32)).toNatClampNeg) (xs (nI i + (2 : Int32)).toNatClampNeg) (xs (nI i + (3 : Int32)).toNatClampNeg) h G
    dsimp only at e1 e2
    rw [if_pos c7, if_pos b1, if_pos b2, if_pos b3, e1, b2s, if_pos b1, if_pos b2, if_pos b3, e2, b2s, if_pos rfl]
    exact IH' h2 G2
  rw [if_neg c7]
  by_cases c8 : w = (8 : Int32)
  · obtain ⟨v, h1, h2, e1, e2, G2⟩ := ok_may (N := N) hN (xs (nI i + (1 : Int32)).toNatClampNeg) (xs (nI i + (2 : Int32)).toNatClampNeg) (xs (nI i + (3 : Int32)).toNatClampNeg) h G
    dsimp only at e1 e2
    rw [if_pos c8, if_pos b1, if_pos b2, if_pos b3, e1, b2s, if_pos b1, if_pos b2, if_pos b3, e2, b2s, if_pos rfl]
    exact IH' h2 G2
  rw [if_neg c8]
  by_cases c9 : w = (9 : Int32)
  · obtain ⟨v, h1, h2, e1, e2, G2⟩ := ok_rain (N := N) (xs (nI i + (1 : Int32)).toNatClampNeg) (xs (nI i + (2 : Int32)).toNatClampNeg) h G
    dsimp only at e1 e2
    rw [if_pos c9, if_pos b1, if_pos b2, e1, b2s, if_pos b1, if_pos b2, e2, b2s, if_pos rfl]
    exact IH' h2 G2
  rw [if_neg c9]
  by_cases c10 : w = (10 : Int32)
  · rw [if_pos c10, if_pos b1, if_pos b2]
    by_cases c : (xs (nI i + (2 : Int32)).toNatClampNeg) = 0
    · rw [if_pos c]; exact law_chain hN b1 b2 b3 b4 IH' G 0 (Or.inl rfl) (by rw [if_pos c])
    · rw [if_neg c]; exact law_chain hN b1 b2 b3 b4 IH' G 1 (Or.inr rfl) (by rw [if_neg c])
  rw [if_neg c10]
  by_cases c11 : w = (11 : Int32)
  · obtain ⟨v, h1, h2, e1, e2, G2⟩ := ok_run (N := N) hN (xs (nI i + (1 : Int32)).toNatClampNeg) h G
    dsimp only at e1 e2
    rw [if_pos c11, if_pos b1, e1, b2s, if_pos b1, e2, b2s, if_pos rfl]
    exact IH' h2 G2
  rw [if_neg c11]
  by_cases c12 : w = (12 : Int32)
  · obtain ⟨v, h1, h2, e1, e2, G2⟩ := ok_would (N := N) hN (xs (nI i + (1 : Int32)).toNatClampNeg) (xs (nI i + (2 : Int32)).toNatClampNeg) h G
    dsimp only at e1 e2
    rw [if_pos c12, if_pos b1, if_pos b2, e1, b2s, if_pos b1, if_pos b2, e2, b2s, if_pos rfl]
    exact IH' h2 G2
  rw [if_neg c12]
  by_cases c13 : w = (13 : Int32)
  · obtain ⟨v, h1, h2, e1, e2, G2⟩ := ok_can (N := N) hN h G
    dsimp only at e1 e2
    rw [if_pos c13, e1, b2s, e2, b2s, if_pos rfl]
    exact IH' h2 G2
  rw [if_neg c13]
  by_cases c14 : w = (14 : Int32)
  · rw [if_pos c14, if_pos b1, if_pos b2]
    by_cases c : (xs (nI i + (2 : Int32)).toNatClampNeg) = 0
    · rw [if_pos c]; exact law_plan hN b1 b2 b3 b4 IH' G false (by rw [if_pos c]; rfl)
    · rw [if_neg c]; exact law_plan hN b1 b2 b3 b4 IH' G true (by rw [if_neg c]; rfl)
  rw [if_neg c14]
  by_cases c15 : w = (15 : Int32)
  · rw [if_pos c15, if_pos b1, if_pos b2]
    by_cases c : (xs (nI i + (2 : Int32)).toNatClampNeg) = 0
    · rw [if_pos c]; exact law_row hN b1 b2 b3 b4 IH' G false (by rw [if_pos c]; rfl)
    · rw [if_neg c]; exact law_row hN b1 b2 b3 b4 IH' G true (by rw [if_neg c]; rfl)
  rw [if_neg c15]
  by_cases c16 : w = (16 : Int32)
  · obtain ⟨v, h1, h2, e1, e2, G2⟩ := ok_drought (N := N) hN (xs (nI i + (1 : Int32)).toNatClampNeg) (xs (nI i + (2 : Int32)).toNatClampNeg) h G
    dsimp only at e1 e2
    rw [if_pos c16, if_pos b1, if_pos b2, e1, b2s, if_pos b1, if_pos b2, e2, b2s, if_pos rfl]
    exact IH' h2 G2
  rw [if_neg c16]
  by_cases c17 : w = (17 : Int32)
  · obtain ⟨v, e1, e2⟩ := ok_pass (N := N) hN (xs (nI i + (1 : Int32)).toNatClampNeg) h G
    dsimp only at e1 e2
    rw [if_pos c17, if_pos b1, e1, bs, if_pos b1, e2, bs, if_pos rfl]
    exact IH' h G
  rw [if_neg c17]
  by_cases c18 : w = (18 : Int32)
  · obtain ⟨v, e1, e2⟩ := ok_worst (N := N) hN h G
    dsimp only at e1 e2
    rw [if_pos c18, e1, bs, e2, bs, if_pos rfl]
    exact IH' h G
  rw [if_neg c18]
  by_cases c19 : w = (19 : Int32)
  · obtain ⟨v, h1, h2, e1, e2, G2⟩ := ok_seen (N := N) (xs (nI i + (1 : Int32)).toNatClampNeg) (xs (nI i + (2 : Int32)).toNatClampNeg) h G
    dsimp only at e1 e2
    rw [if_pos c19, if_pos b1, if_pos b2, e1, b2s, if_pos b1, if_pos b2, e2, b2s, if_pos rfl]
    exact IH' h2 G2
  rw [if_neg c19]
  by_cases c20 : w = (20 : Int32)
  · obtain ⟨v, h1, h2, e1, e2, G2⟩ := ok_went (N := N) hN (xs (nI i + (1 : Int32)).toNatClampNeg) (xs (nI i + (2 : Int32)).toNatClampNeg) h G
    dsimp only at e1 e2
    rw [if_pos c20, if_pos b1, if_pos b2, e1, b2s, if_pos b1, if_pos b2, e2, b2s, if_pos rfl]
    exact IH' h2 G2
  rw [if_neg c20]
  by_cases c21 : w = (21 : Int32)
  · obtain ⟨v, h1, h2, e1, e2, G2⟩ := ok_book (N := N) (xs (nI i + (1 : Int32)).toNatClampNeg) (xs (nI i + (2 : Int32)).toNatClampNeg) (xs (nI i + (3 : Int32)).toNatClampNeg) h G
    dsimp only at e1 e2
    rw [if_pos c21, if_pos b1, if_pos b2, if_pos b3, e1, b2s, if_pos b1, if_pos b2, if_pos b3, e2, b2s, if_pos rfl]
    exact IH' h2 G2
  rw [if_neg c21]
  by_cases c22 : w = (22 : Int32)
  · obtain ⟨v, h1, h2, e1, e2, G2⟩ := ok_smuggled (N := N) hN (xs (nI i + (1 : Int32)).toNatClampNeg) h G
    dsimp only at e1 e2
    rw [if_pos c22, if_pos b1, e1, b2s, if_pos b1, e2, b2s, if_pos rfl]
    exact IH' h2 G2
  rw [if_neg c22]
  by_cases c23 : w = (23 : Int32)
  · obtain ⟨v, h1, h2, e1, e2, G2⟩ := ok_seed (N := N) (xs (nI i + (1 : Int32)).toNatClampNeg) h G
    dsimp only at e1 e2
    rw [if_pos c23, if_pos b1, e1, b2s, if_pos b1, e2, b2s, if_pos rfl]
    exact IH' h2 G2
  rw [if_neg c23]
  by_cases c24 : w = (24 : Int32)
  · obtain ⟨v, h1, h2, e1, e2, G2⟩ := ok_seasons (N := N) hN (xs (nI i + (1 : Int32)).toNatClampNeg) (xs (nI i + (2 : Int32)).toNatClampNeg) (xs (nI i + (3 : Int32)).toNatClampNeg) h G
    dsimp only at e1 e2
    rw [if_pos c24, if_pos b1, if_pos b2, if_pos b3, e1, b2s, if_pos b1, if_pos b2, if_pos b3, e2, b2s, if_pos rfl]
    exact IH' h2 G2
  rw [if_neg c24]
  by_cases c25 : w = (25 : Int32)
  · obtain ⟨v, e1, e2⟩ := ok_count (N := N) hN (xs (nI i + (1 : Int32)).toNatClampNeg) h G
    dsimp only at e1 e2
    rw [if_pos c25, if_pos b1, e1, bs, if_pos b1, e2, bs, if_pos rfl]
    exact IH' h G
  rw [if_neg c25]
  by_cases c26 : w = (26 : Int32)
  · obtain ⟨v, h1, h2, e1, e2, G2⟩ := ok_image (N := N) hN (xs (nI i + (1 : Int32)).toNatClampNeg) h G
    dsimp only at e1 e2
    rw [if_pos c26, if_pos b1, e1, b2s, if_pos b1, e2, b2s, if_pos rfl]
    exact IH' h2 G2
  rw [if_neg c26]
  by_cases c27 : w = (27 : Int32)
  · obtain ⟨v, h1, h2, e1, e2, G2⟩ := ok_back (N := N) hN (xs (nI i + (1 : Int32)).toNatClampNeg) h G
    dsimp only at e1 e2
    rw [if_pos c27, if_pos b1, e1, b2s, if_pos b1, e2, b2s, if_pos rfl]
    exact IH' h2 G2
  rw [if_neg c27]
  exact IH' h G
theorem law_loop {N : Nat} (hN : 5000 ≤ N) (S : Cok N (fun h => f_X7_stair N h 0) (fun h => f_X8_stair N h 51)) (U : Cok N (fun h => f_X7_rule N h 0) (fun h => f_X8_rule N h 51)) {xs : Nat → Int32} {L : Nat} (hL : L ≤ 3072) : ∀ (n i : Nat) (h : Hp), L < i + 6 * n → i ≤ L → GG N h → f_L_law_18 N xs L n h 0 0 51 (nI i) = some 1 := by
  intro n
  induction n with
  | zero => intro i h h1 h2 G; omega
  | succ n ih =>
    intro i h h1 h2 G
    by_cases c : i + 6 ≤ L
    · by_cases c' : L < i + 6 + 6 * n
      · exact law_step hN S U c hL (fun h' G' => ih (i + 6) h' c' c G') G
      · omega
    · rw [f_L_law_18, show (6 : Int32) = nI 6 from rfl]
      have e : nI L - nI 6 < nI i := by
        apply Int32.lt_iff_toInt_lt.mpr
        have t1 : (nI L).toInt = L := Int32.toInt_ofNat_of_lt (by omega)
        have t2 : (nI i).toInt = i := Int32.toInt_ofNat_of_lt (by omega)
        have t3 : (nI 6).toInt = 6 := rfl
        rw [Int32.toInt_sub, t1, t2, t3]
        simp only [Int.bmod_def]
        omega
      rw [if_pos e]
/-- the first heap -/
def α0 : SA := fun k i => hI hA3 (3 + k) i
set_option maxRecDepth 100000 in
theorem z_tape : hI hA3 1 1 = nI 0 ∧ hI hA3 51 1 = nI 0 := by decide +kernel
set_option maxRecDepth 100000 in
theorem z_said : ∀ i, i < 8 → hI hA3 62 (ad 0 i) = hI hA3 3 i := by decide +kernel
set_option maxRecDepth 100000 in
theorem z_dim : hI hA3 3 0 = 0 ∧ hI hA3 3 1 = 0 ∧ hI hA3 3 7 = 0 ∧ hI hA3 3 2 = 0 ∧ 0 ≤ hI hA3 3 6 ∧ hI hA3 3 5 = -1 := by decide +kernel
set_option maxRecDepth 100000 in
theorem z_row : (∀ b, b < 6 → hI hA3 62 (29 + 5 * b) = 0) ∧ ∀ l, l < 8 → hI hA3 62 (9 + 2 * l) = 0 := by decide +kernel
set_option maxRecDepth 100000 in
theorem z_ru : hI hA3 0 5 = nI 0 ∧ hI hA3 51 2 = nI 0 := by decide +kernel
set_option maxRecDepth 100000 in
theorem z_im : ∀ k, k < 4 → hI hA3 76 k = 0 ∧ hP hA3 27 k = none := by decide +kernel
set_option maxRecDepth 100000 in
theorem z_ca : hI hA3 32 15 = -2 := by decide +kernel
theorem z_lvl : lvl α0 = 0 := by show (hI hA3 3 0).toNatClampNeg = 0; rw [z_dim.1]; decide
theorem z_bgs : bgs α0 = 0 := by show (hI hA3 3 1).toNatClampNeg = 0; rw [z_dim.2.1]; decide
theorem z_bks : bks α0 = 0 := by show (hI hA3 3 7).toNatClampNeg = 0; rw [z_dim.2.2.1]; decide
theorem z_dm : Dm α0 := by
  refine ⟨?_, ?_, ?_, by rw [z_lvl]; decide, by rw [z_bgs]; decide, by rw [z_bks]; decide⟩
  · rw [z_lvl]; exact z_dim.1
  · rw [z_bgs]; exact z_dim.2.1
  · rw [z_bks]; exact z_dim.2.2.1
theorem z_ok : Ok α0 := by
  refine ⟨z_dm, ?_, ?_, ⟨?_, ⟨0, by decide, z_dim.2.2.2.1⟩, ?_, z_dim.2.2.2.2.1, Or.inl z_lvl, fun _ => z_bgs⟩, ?_⟩
  · intro b hb; rw [z_bgs] at hb; omega
  · intro b hb; rw [z_lvl] at hb; omega
  · intro b hb; rw [z_bgs] at hb; omega
  · intro b hb; rw [z_lvl] at hb; omega
  · intro b hb; rw [z_lvl] at hb; omega
theorem z_sd : Sd (hI hA3 62) α0 := by
  refine ⟨fun k i hi => ?_, fun l hl => ?_, fun k hk => ?_, fun b _ hb => z_row.1 b hb, fun l _ hl => z_row.2 l hl⟩
  · by_cases c : k = 0
    · subst c
      exact z_said i hi
    · exfalso
      unfold rgn at hi
      rw [z_lvl, z_bgs] at hi
      split at hi <;> omega
  · rw [z_lvl] at hl; omega
  · rw [z_bks] at hk; omega
theorem GG_0 (N : Nat) : GG N hA3 := by
  have H := SHP_0
  refine ⟨0, fun _ _ => false, α0, ⟨0, by decide, z_tape.1, z_tape.2, fun i hi => absurd hi (Nat.not_lt_zero i), fun i hi => absurd hi (Nat.not_lt_zero i)⟩, ⟨st_3 H, fun k i _ _ => rfl⟩, ⟨H, z_sd⟩, z_ok, Or.inl z_dim.2.2.2.2.2, ⟨z_ru.1, z_ru.2, by decide, fun k hk => absurd hk (Nat.not_lt_zero k)⟩, fun k hk => Or.inl (z_im k hk), ⟨fun k k' s s' hk _ _ hs _ => ?_, fun k j s q _ hj _ _ => absurd hj (Nat.not_lt_zero j)⟩, Or.inl z_ca⟩
  rw [(z_im k hk).2] at hs
  cases hs
theorem law_all {N : Nat} (hN : 5000 ≤ N) (S : Cok N (fun h => f_X7_stair N h 0) (fun h => f_X8_stair N h 51)) (U : Cok N (fun h => f_X7_rule N h 0) (fun h => f_X8_rule N h 51)) {xs : Nat → Int32} {L : Nat} (hL : L ≤ 3072) : f_L_law N xs L h00 = some 1 := by
  rw [law_0]
  exact law_loop hN S U hL 600 0 hA3 (by omega) (by omega) (GG_0 N)
