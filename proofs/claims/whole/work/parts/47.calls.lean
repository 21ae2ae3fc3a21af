/-! ===== the calls, one by one ===== -/
def Cok (N : Nat) (f g : Hp → Option (Int32 × Hp)) : Prop := ∀ h, GG N h → ∃ v h1 h2, f h = some (v, h1) ∧ g h1 = some (v, h2) ∧ GG N h2
def Rok (N : Nat) (f g : Hp → Option Int32) : Prop := ∀ h, GG N h → ∃ v, f h = some v ∧ g h = some v
theorem Fq_pR {P : Nat → Nat → Prop} (h : Hp) (v : Nat) (f : Nat → Int32) (hv : ∀ j, f j ≠ hI h v j → P v j) : Fq P h (pR h v f) := ⟨rfl, rfl, rfl, fun a j hn => by
  by_cases e : a = v
  · subst e
    rw [hI_pR_s]
    by_cases e2 : f j = hI h a j
    · exact e2
    · exact absurd (hv j e2) hn
  · rw [hI_pR_o _ _ _ e]⟩
theorem b4_by (a : Int32) : ∀ x, x ∈ b4 a → x.toInt8.toInt32 = x := by
  intro x hx
  simp only [b4, List.mem_cons, List.not_mem_nil, or_false] at hx
  rcases hx with rfl | rfl | rfl | rfl <;> exact by_by _
theorem b20_by (a b c d e : Int32) : ∀ x, x ∈ b20 a b c d e → x.toInt8.toInt32 = x := by
  intro x hx
  unfold b20 at hx
  simp only [List.mem_append] at hx
  rcases hx with hx | hx | hx | hx | hx <;> exact b4_by _ x hx
theorem wrs_Fq {r c : Nat} (hrc : r ≠ c) (l : List Int32) (h : Hp) {n : Nat} (hn : hI h c 1 = nI n) : Fq (fun a j => a = r ∨ (a = c ∧ j = 1)) h (wrs h r c n l) := by
  rw [wrs_eq hrc l h n hn]
  refine Fq_trans (Fq_pR _ _ _ (fun j _ => Or.inl rfl)) (Fq_pR _ _ _ (fun j hj => ?_))
  by_cases e : j = 1
  · exact Or.inr ⟨rfl, e⟩
  · rw [upd_o _ _ e, hI_pR_o _ _ _ hrc.symm] at hj
    exact absurd rfl hj
theorem wrs_row {r c : Nat} (hrc : r ≠ c) (l : List Int32) (h : Hp) {n : Nat} (hn : hI h c 1 = nI n) : hI (wrs h r c n l) r = putL (hI h r) n l ∧ hI (wrs h r c n l) c 1 = nI (n + l.length) := by
  rw [wrs_eq hrc l h n hn]
  exact ⟨by rw [hI_pR_o _ _ _ hrc, hI_pR_s], by rw [hI_pR_s, upd_s]⟩
theorem ok_feed {N : Nat} (hN : 5000 ≤ N) (a b c d e : Int32) : Cok N (fun h => f_X7_feed N h 0 a b c d e) (fun h => f_X8_feed N h 51 a b c d e) := by
  rintro h ⟨r, R, α, g⟩
  obtain ⟨n, t1, t2, t3, t4, t5⟩ := g.1
  have H := g.2.2.1.1
  show ∃ v h1 h2, f_X7_feed N h 0 a b c d e = some (v, h1) ∧ f_X8_feed N h1 51 a b c d e = some (v, h2) ∧ GG N h2
  rw [feed_c H (by omega) t2 t1]
  by_cases h1 : n ≤ 380
  · rw [if_pos h1]
    have l20 : (b20 a b c d e).length = 20 := rfl
    have F1 := wrs_Fq (r := 2) (c := 1) (by decide) (b20 a b c d e) h t2
    obtain ⟨w1, w2⟩ := wrs_row (r := 2) (c := 1) (by decide) (b20 a b c d e) h t2
    generalize wrs h 2 1 n (b20 a b c d e) = k1 at F1 w1 w2 ⊢
    have H1 := Fq_SHP F1 H
    have t3' : hI k1 51 1 = nI n := by rw [F1.2.2.2 51 1 (fun z => by omega)]; exact t3
    refine ⟨_, k1, wrs k1 52 51 n (b20 a b c d e), rfl, ?_, ?_⟩
    · rw [feed_m H1 (by omega) t3' t1, if_pos h1]
    · have F2 := wrs_Fq (r := 52) (c := 51) (by decide) (b20 a b c d e) k1 t3'
      obtain ⟨v1, v2⟩ := wrs_row (r := 52) (c := 51) (by decide) (b20 a b c d e) k1 t3'
      generalize wrs k1 52 51 n (b20 a b c d e) = k2 at F2 v1 v2 ⊢
      refine ⟨r, R, α, GI_tape g (Fq_trans (Fq_mono F1 (Q := fun a j => (a = 2 ∨ (a = 1 ∧ j = 1)) ∨ (a = 52 ∨ (a = 51 ∧ j = 1))) (fun a j z => Or.inl z)) (Fq_mono F2 (fun a j z => Or.inr z))) (fun a j z => by unfold Pr2 Prs; omega) ⟨n + 20, by omega, by rw [F2.2.2.2 1 1 (fun z => by omega)]; exact w2, v2, ?_, ?_⟩⟩
      · intro i hi
        rw [Fq_row F2 (fun j z => by omega), w1, v1, Fq_row F1 (fun j z => by omega)]
        unfold putL
        by_cases hi2 : n ≤ i ∧ i < n + (b20 a b c d e).length
        · rw [if_pos hi2, if_pos hi2]
        · rw [if_neg hi2, if_neg hi2]
          rw [l20] at hi2
          exact t4 i (by omega)
      · intro i hi
        rw [Fq_row F2 (fun j z => by omega), w1]
        unfold putL
        by_cases hi2 : n ≤ i ∧ i < n + (b20 a b c d e).length
        · rw [if_pos hi2]
          have hl : i - n < (b20 a b c d e).length := by omega
          rw [List.getD_eq_getElem?_getD, List.getElem?_eq_getElem hl]
          exact b20_by a b c d e _ (List.getElem_mem hl)
        · rw [if_neg hi2]
          rw [l20] at hi2
          exact t5 i (by omega)
  · rw [if_neg h1]
    refine ⟨-1, h, h, rfl, ?_, r, R, α, g⟩
    rw [feed_m H (by omega) t3 t1, if_neg h1]
theorem ok_end {N : Nat} (v : Int32) : Cok N (fun h => f_X7_end h 0 v) (fun h => f_X8_end h 51 v) := by
  rintro h ⟨r, R, α, g⟩
  obtain ⟨n, t1, t2, t3, t4, t5⟩ := g.1
  have H := g.2.2.1.1
  show ∃ w h1 h2, f_X7_end h 0 v = some (w, h1) ∧ f_X8_end h1 51 v = some (w, h2) ∧ GG N h2
  unfold f_X7_end f_X8_end
  by_cases h1 : v < 0
  · exact ⟨-1, h, h, by rw [if_pos h1], by rw [if_pos h1], r, R, α, g⟩
  · obtain ⟨k, k1, rfl⟩ := i_nat h1
    rw [if_neg h1, pp_0_0 H, bs, t2]
    by_cases h2 : k ≤ n
    · rw [if_pos (nI_le h2 (by omega)), bs, lts]
      have F1 : Fq (fun a j => a = 1 ∧ j = 1) h (sI h 1 1 (nI k)) := Fq_sI _ _ _ _ ⟨rfl, rfl⟩
      have g1 : hI (sI h 1 1 (nI k)) 1 1 = nI k := by rw [hI_sI, if_pos ⟨rfl, rfl⟩]
      generalize sI h 1 1 (nI k) = m1 at F1 g1 ⊢
      have e51 : hI m1 51 1 = nI n := by rw [F1.2.2.2 51 1 (fun z => by omega)]; exact t3
      refine ⟨nI k, m1, sI m1 51 1 (nI k), rfl, ?_, ?_⟩
      · rw [if_neg h1, e51, if_pos (nI_le h2 (by omega)), lts]
      · have F2 : Fq (fun a j => a = 51 ∧ j = 1) m1 (sI m1 51 1 (nI k)) := Fq_sI _ _ _ _ ⟨rfl, rfl⟩
        have g2 : hI (sI m1 51 1 (nI k)) 51 1 = nI k := by rw [hI_sI, if_pos ⟨rfl, rfl⟩]
        generalize sI m1 51 1 (nI k) = m2 at F2 g2 ⊢
        refine ⟨r, R, α, GI_tape g (Fq_trans (Fq_mono F1 (Q := fun a j => (a = 1 ∧ j = 1) ∨ (a = 51 ∧ j = 1)) (fun a j z => Or.inl z)) (Fq_mono F2 (fun a j z => Or.inr z))) (fun a j z => by unfold Pr2 Prs; omega) ⟨k, by omega, by rw [F2.2.2.2 1 1 (fun z => by omega)]; exact g1, g2, ?_, ?_⟩⟩
        · intro i hi
          rw [Fq_row F2 (fun j z => by omega), Fq_row F2 (fun j z => by omega), Fq_row F1 (fun j z => by omega), Fq_row F1 (fun j z => by omega)]
          exact t4 i (by omega)
        · intro i hi
          rw [Fq_row F2 (fun j z => by omega), Fq_row F1 (fun j z => by omega)]
          exact t5 i (by omega)
    · have hn : ¬ nI k ≤ nI n := fun z => h2 ((nI_leI (by omega) (by omega)).mp z)
      rw [if_neg hn]
      exact ⟨-1, h, h, rfl, by rw [if_neg h1, t3, if_neg hn], r, R, α, g⟩
/-! who is asked for -/
theorem c_hasLevel {h : Hp} {α : SA} (A : Ac h 3 α) (D : Dm α) {l : Nat} (hl : l < lvl α) : f_X5_hasLevel h 3 (nI l) = some 1 := by
  have h8 := D.2.2.2.1
  unfold f_X5_hasLevel
  rw [if_neg (nI_pos (by omega)), ac_0 A (by decide), D.1, if_neg (nI_ge hl (by omega))]
theorem m_isLevel {h : Hp} {α : SA} (M : Am h α) (D : Dm α) {l : Nat} (hl : l < lvl α) : f_X8_isLevel h 51 (nI l) = some 1 := by
  have h8 := D.2.2.2.1
  unfold f_X8_isLevel
  rw [if_neg (nI_pos (by omega)), pp_51_26 M.1, bs, ll_62 M.1, if_pos (by decide), am_0 M, D.1, if_neg (nI_ge hl (by omega))]
theorem lv_or {α : SA} (D : Dm α) (v : Int32) : (∃ l, l < lvl α ∧ v = nI l) ∨ ((∀ h, Ac h 3 α → f_X5_hasLevel h 3 v = some 0) ∧ ∀ h, Am h α → f_X8_isLevel h 51 v = some 0) := by
  have h8 := D.2.2.2.1
  by_cases h1 : v < 0
  · exact Or.inr ⟨fun h A => by unfold f_X5_hasLevel; rw [if_pos h1], fun h M => by unfold f_X8_isLevel; rw [if_pos h1]⟩
  · obtain ⟨k, k1, rfl⟩ := i_nat h1
    by_cases h2 : k < lvl α
    · exact Or.inl ⟨k, h2, rfl⟩
    · exact Or.inr ⟨fun h A => by
        unfold f_X5_hasLevel
        rw [if_neg h1, ac_0 A (by decide), D.1, if_pos (nI_le (by omega) k1)], fun h M => by
        unfold f_X8_isLevel
        rw [if_neg h1, pp_51_26 M.1, bs, ll_62 M.1, if_pos (by decide), am_0 M, D.1, if_pos (nI_le (by omega) k1)]⟩
theorem m_isStep {h : Hp} {α : SA} (M : Am h α) (D : Dm α) {k : Nat} (hk : k + 1 < lvl α) : f_X8_isStep h 51 (nI k) = some 1 := by
  have h8 := D.2.2.2.1
  unfold f_X8_isStep
  rw [if_neg (nI_pos (by omega)), pp_51_26 M.1, bs, ll_62 M.1, if_pos (by decide), am_0 M, D.1, n_1, pk_sub (by omega), if_neg (nI_ge (by omega) (by omega))]
theorem st_or {α : SA} (D : Dm α) (v : Int32) : (∃ k, k + 1 < lvl α ∧ v = nI k) ∨ ((∀ h, Ac h 3 α → f_X5_hasStep h 3 v = some 0) ∧ ∀ h, Am h α → f_X8_isStep h 51 v = some 0) := by
  have h8 := D.2.2.2.1
  by_cases h1 : v < 0
  · exact Or.inr ⟨fun h A => by unfold f_X5_hasStep; rw [if_pos h1], fun h M => by unfold f_X8_isStep; rw [if_pos h1]⟩
  · obtain ⟨k, k1, rfl⟩ := i_nat h1
    by_cases h2 : k + 1 < lvl α
    · exact Or.inl ⟨k, h2, rfl⟩
    · have key : nI (lvl α) - 1 ≤ nI k := by
        by_cases h0 : lvl α = 0
        · rw [h0]
          have : nI 0 - 1 = -1 := rfl
          rw [this]
          exact Int32.le_trans (b := 0) (by decide) (nI_pos' k1)
        · rw [n_1, pk_sub (by omega)]
          exact nI_le (by omega) k1
      exact Or.inr ⟨fun h A => by
        unfold f_X5_hasStep
        rw [if_neg h1, ac_0 A (by decide), D.1, if_pos key], fun h M => by
        unfold f_X8_isStep
        rw [if_neg h1, pp_51_26 M.1, bs, ll_62 M.1, if_pos (by decide), am_0 M, D.1, if_pos key]⟩
theorem m_isBarge {h : Hp} {α : SA} (M : Am h α) (D : Dm α) {b : Nat} (hb : b < bgs α) : f_X8_isBarge h 51 (nI b) = some 1 := by
  have h6 := D.2.2.2.2.1
  unfold f_X8_isBarge
  rw [if_neg (nI_pos (by omega)), pp_51_26 M.1, bs, ll_62 M.1, if_pos (by decide), am_1 M, D.2.1, if_neg (nI_ge hb (by omega))]
theorem bg_or {α : SA} (D : Dm α) (v : Int32) : (∃ b, b < bgs α ∧ v = nI b) ∨ ((∀ h, Ac h 3 α → f_X5_hasBarge h 3 v = some 0) ∧ ∀ h, Am h α → f_X8_isBarge h 51 v = some 0) := by
  have h6 := D.2.2.2.2.1
  by_cases h1 : v < 0
  · exact Or.inr ⟨fun h A => by unfold f_X5_hasBarge; rw [if_pos h1], fun h M => by unfold f_X8_isBarge; rw [if_pos h1]⟩
  · obtain ⟨k, k1, rfl⟩ := i_nat h1
    by_cases h2 : k < bgs α
    · exact Or.inl ⟨k, h2, rfl⟩
    · exact Or.inr ⟨fun h A => by
        unfold f_X5_hasBarge
        rw [if_neg h1, ac_0 A (by decide), D.2.1, if_pos (nI_le (by omega) k1)], fun h M => by
        unfold f_X8_isBarge
        rw [if_neg h1, pp_51_26 M.1, bs, ll_62 M.1, if_pos (by decide), am_1 M, D.2.1, if_pos (nI_le (by omega) k1)]⟩
theorem nm_or {α : SA} (D : Dm α) (v : Int32) : (∃ d, d ≤ bgs α ∧ v = bI d) ∨ (v ≠ -1 ∧ (∀ h, Ac h 3 α → f_X5_hasBarge h 3 v = some 0) ∧ ∀ h, Am h α → f_X8_isNamed h 51 v = some 0) := by
  by_cases h1 : v = -1
  · exact Or.inl ⟨0, Nat.zero_le _, h1⟩
  · rcases bg_or D v with ⟨b, b1, b2⟩ | ⟨b1, b2⟩
    · exact Or.inl ⟨b + 1, b1, b2⟩
    · refine Or.inr ⟨h1, b1, fun h M => ?_⟩
      unfold f_X8_isNamed
      rw [if_neg h1, b2 h M, bs, if_pos rfl]
theorem m_isNamed {h : Hp} {α : SA} (M : Am h α) (D : Dm α) {d : Nat} (hd : d ≤ bgs α) : f_X8_isNamed h 51 (bI d) = some 1 := by
  have h6 := D.2.2.2.2.1
  unfold f_X8_isNamed
  cases d with
  | zero => rw [if_pos (show bI 0 = -1 from rfl)]
  | succ b =>
    rw [if_neg (fun z => by have := (bI_m1 (d := b + 1) (by omega)).mp z; omega), show bI (b + 1) = nI b from rfl, m_isBarge M D (by omega), bs, if_neg (by decide)]
theorem m_isTip {h : Hp} {α : SA} (M : Am h α) (D : Dm α) {k d u : Nat} (hk : k + 1 < lvl α) (hd : d ≤ bgs α) (hu : u ≤ bgs α) : f_X8_isTip h 51 (nI k) (bI d) (bI u) = some (if d = 0 ∧ u = 0 then 0 else 1) := by
  have h6 := D.2.2.2.2.1
  unfold f_X8_isTip
  rw [m_isStep M D hk, bs, if_neg (by decide), m_isNamed M D hd, bs, if_neg (by decide), m_isNamed M D hu, bs, if_neg (by decide)]
  by_cases h1 : d = 0
  · rw [if_neg (fun z => (bI_pos (by omega)).mp z h1)]
    by_cases h2 : u = 0
    · rw [if_pos ((bI_neg (by omega)).mpr h2), if_pos ⟨h1, h2⟩]
    · rw [if_neg (fun z => h2 ((bI_neg (by omega)).mp z)), if_neg (fun z => h2 z.2)]
  · rw [if_pos ((bI_pos (by omega)).mpr h1), if_neg (fun z => h1 z.1)]
/-- it is a tip that may be asked for, or neither knows it -/
theorem tp_or {α : SA} (D : Dm α) (v w x : Int32) : (∃ k d u, k + 1 < lvl α ∧ d ≤ bgs α ∧ u ≤ bgs α ∧ ¬ (d = 0 ∧ u = 0) ∧ v = nI k ∧ w = bI d ∧ x = bI u) ∨ ((∀ h, Ac h 3 α → f_X5_isTip h 3 v w x = some 0) ∧ ∀ h, Am h α → f_X8_isTip h 51 v w x = some 0) := by
  rcases st_or D v with ⟨k, k1, rfl⟩ | ⟨s1, s2⟩
  · rcases nm_or D w with ⟨d, d1, rfl⟩ | ⟨d0, d1, d2⟩
    · rcases nm_or D x with ⟨u, u1, rfl⟩ | ⟨u0, u1, u2⟩
      · by_cases h0 : d = 0 ∧ u = 0
        · refine Or.inr ⟨fun h A => ?_, fun h M => ?_⟩
          · rw [c_isTip A D k1 d1 u1, if_pos h0]
          · rw [m_isTip M D k1 d1 u1, if_pos h0]
        · exact Or.inl ⟨k, d, u, k1, d1, u1, h0, rfl, rfl, rfl⟩
      · refine Or.inr ⟨fun h A => ?_, fun h M => ?_⟩
        · have fin : ∀ s, f_X5_isTip_18 h 3 (nI k) (bI d) x s = some 0 := fun s => by
            unfold f_X5_isTip_18 f_X5_isTip_38
            rw [if_neg u0, u1 h A, bs, if_pos rfl, c_hasStep A D k1, bs, if_neg (by decide)]
            by_cases hs : s = 0
            · rw [if_pos hs]
            · rw [if_neg hs, if_pos rfl]
          unfold f_X5_isTip f_X5_isTip_13
          rw [c_hasBarge A D d1, bs, fin, fin, ite_self, ite_self]
        · unfold f_X8_isTip
          rw [m_isStep M D k1, bs, if_neg (by decide), m_isNamed M D d1, bs, if_neg (by decide), u2 h M, bs, if_pos rfl]
    · refine Or.inr ⟨fun h A => ?_, fun h M => ?_⟩
      · have fin : ∀ s, f_X5_isTip_38 h 3 (nI k) w x 0 s = some 0 := fun s => by
          unfold f_X5_isTip_38
          rw [c_hasStep A D k1, bs, if_neg (by decide), if_pos rfl]
        unfold f_X5_isTip
        rw [if_neg d0, d1 h A, bs, if_pos rfl]
        unfold f_X5_isTip_18 f_X5_isTip_33
        rw [fin, fin]
        by_cases hx : x = -1
        · rw [if_pos hx]
        · rw [if_neg hx]
          rcases bg_or D x with ⟨b, b1, rfl⟩ | ⟨b1, _⟩
          · rw [show nI b = bI (b + 1) from rfl, c_hasBarge A D (by omega), bs, ite_self]
          · rw [b1 h A, bs, ite_self]
      · unfold f_X8_isTip
        rw [m_isStep M D k1, bs, if_neg (by decide), d2 h M, bs, if_pos rfl]
  · refine Or.inr ⟨fun h A => ?_, fun h M => ?_⟩
    · have fin : ∀ a b, f_X5_isTip_38 h 3 v w x a b = some 0 := fun a b => by
        unfold f_X5_isTip_38
        rw [s1 h A, bs, if_pos rfl]
      have fin2 : ∀ a, f_X5_isTip_18 h 3 v w x a = some 0 := fun a => by
        unfold f_X5_isTip_18 f_X5_isTip_33
        rw [fin, fin]
        by_cases hx : x = -1
        · rw [if_pos hx]
        · rw [if_neg hx]
          rcases bg_or D x with ⟨b, b1, rfl⟩ | ⟨b1, _⟩
          · rw [show nI b = bI (b + 1) from rfl, c_hasBarge A D (by omega), bs, ite_self]
          · rw [b1 h A, bs, ite_self]
      unfold f_X5_isTip f_X5_isTip_13
      rw [fin2, fin2]
      by_cases hx : w = -1
      · rw [if_pos hx]
      · rw [if_neg hx]
        rcases bg_or D w with ⟨b, b1, rfl⟩ | ⟨b1, _⟩
        · rw [show nI b = bI (b + 1) from rfl, c_hasBarge A D (by omega), bs, ite_self]
        · rw [b1 h A, bs, ite_self]
    · unfold f_X8_isTip
      rw [s2 h M, bs, if_pos rfl]
