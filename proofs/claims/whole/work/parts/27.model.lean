/-! ===== the reference: where its rows hold a stair ===== -/
def ad : Nat → Nat → Nat
  | 0, 0 => 0
  | 0, 1 => 1
  | 0, 2 => 2
  | 0, 3 => 3
  | 0, 4 => 4
  | 0, 5 => 8
  | 0, 6 => 7
  | 0, _ => 6
  | 1, i => 9 + 2 * i
  | 2, i => 10 + 2 * i
  | 3, _ => 93
  | 4, i => 55 + i
  | 5, i => 29 + 5 * i
  | 6, i => 25 + 5 * i
  | 7, i => 26 + 5 * i
  | 8, i => 27 + 5 * i
  | 9, i => 28 + 5 * i
  | _, _ => 93
def rgn (α : SA) : Nat → Nat
  | 0 => 8
  | 1 => lvl α
  | 2 => lvl α
  | 3 => 0
  | 4 => lvl α
  | 5 => bgs α
  | 6 => bgs α
  | 7 => bgs α
  | 8 => bgs α
  | 9 => bgs α
  | _ => 0
def lnm : Nat → Nat
  | 0 => 8
  | 1 => 8
  | 2 => 8
  | 3 => 0
  | 4 => 8
  | 5 => 6
  | 6 => 6
  | 7 => 6
  | 8 => 6
  | 9 => 6
  | _ => 0
def adOk : Bool := (List.range 10).all fun k => (List.range (lnm k)).all fun i => (List.range 10).all fun k' => (List.range (lnm k')).all fun i' => ad k i != ad k' i' || (k == k' && i == i')
set_option maxRecDepth 100000 in
theorem adOk_t : adOk = true := by decide +kernel
theorem ad_inj : ∀ k, k < 10 → ∀ i, i < lnm k → ∀ k', k' < 10 → ∀ i', i' < lnm k' → ad k i = ad k' i' → k = k' ∧ i = i' := by
  intro k hk i hi k' hk' i' hi' e
  have h := adOk_t
  unfold adOk at h
  rw [List.all_eq_true] at h
  have h1 := h k (List.mem_range.mpr hk)
  rw [List.all_eq_true] at h1
  have h2 := h1 i (List.mem_range.mpr hi)
  rw [List.all_eq_true] at h2
  have h3 := h2 k' (List.mem_range.mpr hk')
  rw [List.all_eq_true] at h3
  have h4 := h3 i' (List.mem_range.mpr hi')
  simpa [e] using h4
set_option maxRecDepth 100000 in
theorem ad_63 : ∀ k, k < 10 → ∀ i, i < lnm k → ad k i < 63 ∧ ad k i ≠ 5 := by decide +kernel
theorem rgn_le {α : SA} (D : Dm α) {k i : Nat} (h : i < rgn α k) : k < 10 ∧ i < lnm k := by
  have h8 := D.2.2.2.1
  have h6 := D.2.2.2.2.1
  match k, h with
  | 0, h => exact ⟨by omega, h⟩
  | 1, h => exact ⟨by omega, Nat.lt_of_lt_of_le h h8⟩
  | 2, h => exact ⟨by omega, Nat.lt_of_lt_of_le h h8⟩
  | 4, h => exact ⟨by omega, Nat.lt_of_lt_of_le h h8⟩
  | 5, h => exact ⟨by omega, Nat.lt_of_lt_of_le h h6⟩
  | 6, h => exact ⟨by omega, Nat.lt_of_lt_of_le h h6⟩
  | 7, h => exact ⟨by omega, Nat.lt_of_lt_of_le h h6⟩
  | 8, h => exact ⟨by omega, Nat.lt_of_lt_of_le h h6⟩
  | 9, h => exact ⟨by omega, Nat.lt_of_lt_of_le h h6⟩
def Sd (σ : Nat → Int32) (α : SA) : Prop := (∀ k i, i < rgn α k → σ (ad k i) = α k i) ∧ (∀ l, l + 1 < lvl α → ((σ 5 >>> (nI l &&& 31)) &&& 1 = 1 ↔ α 3 l = 0)) ∧ (∀ k, k < bks α → ∃ s d u, s + 1 < lvl α ∧ d ≤ bgs α ∧ u ≤ bgs α ∧ σ (63 + 3 * k) = nI s ∧ σ (64 + 3 * k) = bI d ∧ σ (65 + 3 * k) = bI u ∧ α 10 k = nI (cd s d u)) ∧ (∀ b, bgs α ≤ b → b < 6 → σ (29 + 5 * b) = 0) ∧ ∀ l, lvl α ≤ l → l < 8 → σ (9 + 2 * l) = 0
theorem bks_of {α β : SA} (h : β 0 7 = α 0 7) : bks β = bks α := by unfold bks; rw [h]
theorem rgn_of {α β : SA} (h : ∀ j, j = 0 ∨ j = 1 → β 0 j = α 0 j) (k : Nat) : rgn β k = rgn α k := by
  unfold rgn
  rw [lvl_of (h 0 (by simp)), bgs_of (h 1 (by simp))]
theorem Sd_w {σ : Nat → Int32} {α : SA} (S : Sd σ α) (D : Dm α) {k i : Nat} (x : Int32) (hi : i < rgn α k) (hd : k = 0 → i ≠ 0 ∧ i ≠ 1 ∧ i ≠ 7) : Sd (upd σ (ad k i) x) (sr α k (upd (α k) i x)) := by
  have z : ∀ j, j = 0 ∨ j = 1 ∨ j = 7 → sr α k (upd (α k) i x) 0 j = α 0 j := fun j hj => by
    by_cases h : k = 0
    · subst h
      have := hd rfl
      rw [sr_s, upd_o _ _ (by omega)]
    · rw [sr_o _ _ (fun w => h w.symm)]
  obtain ⟨h10, hl⟩ := rgn_le D hi
  have n5 := ad_63 k h10 i hl
  have hk3 : (3 : Nat) ≠ k := by rintro rfl; exact absurd hl (by simp [lnm])
  have hk10 : (10 : Nat) ≠ k := by rintro rfl; exact absurd hl (by simp [lnm])
  refine ⟨fun k' i' h' => ?_, fun l h' => ?_, fun m h' => ?_, fun b h' h6 => ?_, fun l h' h8 => ?_⟩
  · rw [rgn_of (fun j hj => z j (by omega))] at h'
    obtain ⟨h10', hl'⟩ := rgn_le D h'
    by_cases e1 : k' = k ∧ i' = i
    · obtain ⟨rfl, rfl⟩ := e1
      rw [upd_s, sr_s, upd_s]
    · rw [upd_o _ _ (fun w => e1 (ad_inj k' h10' i' hl' k h10 i hl w)), S.1 k' i' h']
      by_cases e2 : k' = k
      · subst e2
        rw [sr_s, upd_o _ _ (fun w => e1 ⟨rfl, w⟩)]
      · rw [sr_o _ _ e2]
  · rw [lvl_of (z 0 (by simp))] at h'
    rw [upd_o _ _ (fun w => n5.2 w.symm), sr_o _ _ hk3]
    exact S.2.1 l h'
  · rw [bks_of (z 7 (by simp))] at h'
    obtain ⟨s, d, u, h1, h2, h3, h4, h5, h6, h7⟩ := S.2.2.1 m h'
    refine ⟨s, d, u, by rw [lvl_of (z 0 (by simp))]; exact h1, by rw [bgs_of (z 1 (by simp))]; exact h2, by rw [bgs_of (z 1 (by simp))]; exact h3, ?_, ?_, ?_, by rw [sr_o _ _ hk10]; exact h7⟩
    · rw [upd_o _ _ (by omega)]; exact h4
    · rw [upd_o _ _ (by omega)]; exact h5
    · rw [upd_o _ _ (by omega)]; exact h6
  · rw [bgs_of (z 1 (by simp))] at h'
    rw [upd_o _ _ (fun w => by
      have := ad_inj 5 (by decide) b h6 k h10 i hl w
      obtain ⟨rfl, rfl⟩ := this
      have : b < bgs α := hi
      omega)]
    exact S.2.2.2.1 b h' h6
  · rw [lvl_of (z 0 (by simp))] at h'
    rw [upd_o _ _ (fun w => by
      have := ad_inj 1 (by decide) l h8 k h10 i hl w
      obtain ⟨rfl, rfl⟩ := this
      have : l < lvl α := hi
      omega)]
    exact S.2.2.2.2 l h' h8
def Am (h : Hp) (α : SA) : Prop := SHP h ∧ Sd (hI h 62) α
theorem am_r {h : Hp} {α : SA} (M : Am h α) {k i : Nat} (hi : i < rgn α k) : hI h 62 (ad k i) = α k i := M.2.1 k i hi
theorem am_0 {h : Hp} {α : SA} (M : Am h α) : hI h 62 0 = α 0 0 := am_r M (k := 0) (i := 0) (by decide : 0 < 8)
theorem am_1 {h : Hp} {α : SA} (M : Am h α) : hI h 62 1 = α 0 1 := am_r M (k := 0) (i := 1) (by decide : 1 < 8)
theorem am_2 {h : Hp} {α : SA} (M : Am h α) : hI h 62 2 = α 0 2 := am_r M (k := 0) (i := 2) (by decide : 2 < 8)
theorem am_3 {h : Hp} {α : SA} (M : Am h α) : hI h 62 3 = α 0 3 := am_r M (k := 0) (i := 3) (by decide : 3 < 8)
theorem am_4 {h : Hp} {α : SA} (M : Am h α) : hI h 62 4 = α 0 4 := am_r M (k := 0) (i := 4) (by decide : 4 < 8)
theorem am_8 {h : Hp} {α : SA} (M : Am h α) : hI h 62 8 = α 0 5 := am_r M (k := 0) (i := 5) (by decide : 5 < 8)
theorem am_7 {h : Hp} {α : SA} (M : Am h α) : hI h 62 7 = α 0 6 := am_r M (k := 0) (i := 6) (by decide : 6 < 8)
theorem am_6 {h : Hp} {α : SA} (M : Am h α) : hI h 62 6 = α 0 7 := am_r M (k := 0) (i := 7) (by decide : 7 < 8)
theorem ix5 (b : Nat) : (25 : Int32) + 5 * nI b = nI (25 + 5 * b) := by rw [n_25, n_5, pk_mul, nI_add]
theorem ix2 (l : Nat) : (9 : Int32) + 2 * nI l = nI (9 + 2 * l) := by rw [n_9, n_2, pk_mul, nI_add]
theorem m_bargeOf {h : Hp} {α : SA} (M : Am h α) {b w : Nat} (hb : b < 6) (hw : w < 5) : f_X8_bargeOf h 51 (nI b) (nI w) = some (hI h 62 (25 + 5 * b + w)) := by
  unfold f_X8_bargeOf
  rw [pp_51_26 M.1, bs, ix5, nI_add, ll_62 M.1, if_inI (by omega) (by omega), nI_clamp (by omega)]
theorem m_b0 {h : Hp} {α : SA} (M : Am h α) (D : Dm α) {b : Nat} (hb : b < bgs α) : f_X8_bargeOf h 51 (nI b) 0 = some (α 6 b) := by
  rw [show (0 : Int32) = nI 0 from rfl, m_bargeOf M (by have := D.2.2.2.2.1; omega) (by decide)]
  exact congrArg some (am_r M (k := 6) hb)
theorem m_b1 {h : Hp} {α : SA} (M : Am h α) (D : Dm α) {b : Nat} (hb : b < bgs α) : f_X8_bargeOf h 51 (nI b) 1 = some (α 7 b) := by
  rw [n_1, m_bargeOf M (by have := D.2.2.2.2.1; omega) (by decide), show 25 + 5 * b + 1 = 26 + 5 * b by omega]
  exact congrArg some (am_r M (k := 7) hb)
theorem m_b2 {h : Hp} {α : SA} (M : Am h α) (D : Dm α) {b : Nat} (hb : b < bgs α) : f_X8_bargeOf h 51 (nI b) 2 = some (α 8 b) := by
  rw [n_2, m_bargeOf M (by have := D.2.2.2.2.1; omega) (by decide), show 25 + 5 * b + 2 = 27 + 5 * b by omega]
  exact congrArg some (am_r M (k := 8) hb)
theorem m_b3 {h : Hp} {α : SA} (M : Am h α) (D : Dm α) {b : Nat} (hb : b < bgs α) : f_X8_bargeOf h 51 (nI b) 3 = some (α 9 b) := by
  rw [n_3, m_bargeOf M (by have := D.2.2.2.2.1; omega) (by decide), show 25 + 5 * b + 3 = 28 + 5 * b by omega]
  exact congrArg some (am_r M (k := 9) hb)
theorem m_b4 {h : Hp} {α : SA} (M : Am h α) (D : Dm α) {b : Nat} (hb : b < bgs α) : f_X8_bargeOf h 51 (nI b) 4 = some (α 5 b) := by
  rw [n_4, m_bargeOf M (by have := D.2.2.2.2.1; omega) (by decide), show 25 + 5 * b + 4 = 29 + 5 * b by omega]
  exact congrArg some (am_r M (k := 5) hb)
theorem m_waterOf {h : Hp} {α : SA} (M : Am h α) (D : Dm α) {l : Nat} (hl : l < lvl α) : f_X8_waterOf h 51 (nI l) = some (α 1 l) := by
  have h8 := D.2.2.2.1
  unfold f_X8_waterOf
  rw [pp_51_26 M.1, bs, ix2, ll_62 M.1, if_inI (by omega) (by omega), nI_clamp (by omega)]
  exact congrArg some (am_r M (k := 1) hl)
theorem m_weightOf {h : Hp} {α : SA} (M : Am h α) (D : Dm α) {d : Nat} (hd : d ≤ bgs α) : f_X8_weightOf h 51 (bI d) = some (Wt α d) := by
  have h6 := D.2.2.2.2.1
  cases d with
  | zero => rfl
  | succ b =>
    unfold bI f_X8_weightOf Wt
    rw [if_pos (nI_pos' (by omega)), m_b0 M D (by omega), bs]
theorem m_wideOf {h : Hp} {α : SA} (M : Am h α) (D : Dm α) {d : Nat} (hd : d ≤ bgs α) : f_X8_wideOf h 51 (bI d) = some (Wi α d) := by
  have h6 := D.2.2.2.2.1
  cases d with
  | zero => rfl
  | succ b =>
    unfold bI f_X8_wideOf Wi
    rw [if_pos (nI_pos' (by omega)), m_b1 M D (by omega), bs]
theorem m_needOf {h : Hp} {α : SA} (M : Am h α) (D : Dm α) {d u : Nat} (hd : d ≤ bgs α) (hu : u ≤ bgs α) : f_X8_needOf h 51 (bI d) (bI u) = some (Nd α d u) := by
  unfold f_X8_needOf Nd Wo
  rw [m_weightOf M D hu, bs, pp_51_26 M.1, bs, ll_62 M.1, if_pos (by decide), m_weightOf M D hd, bs, am_2 M, m_wideOf M D hd, bs, m_wideOf M D hu, bs]
  by_cases h1 : Wi α d + Wi α u ≤ 0
  · rw [if_pos h1, if_pos h1, Int32.mul_one]
    by_cases h2 : 0 ≤ Wt α u + α 0 2 - Wt α d
    · rw [if_pos h2]
      by_cases h3 : 0 < Wt α u + α 0 2 - Wt α d
      · rw [if_pos h3]
      · rw [if_neg h3, Int32.le_antisymm (Int32.not_lt.mp h3) h2]
    · rw [if_neg h2, if_neg (fun z => h2 (Int32.le_of_lt z))]
  · rw [if_neg h1, if_neg h1]
    by_cases h2 : 0 ≤ Wt α u + α 0 2 - Wt α d
    · rw [if_pos h2]
      by_cases h3 : 0 < Wt α u + α 0 2 - Wt α d
      · rw [if_pos h3, Int32.mul_comm]
      · rw [if_neg h3, Int32.le_antisymm (Int32.not_lt.mp h3) h2]
        rfl
    · rw [if_neg h2, if_neg (fun z => h2 (Int32.le_of_lt z)), Int32.zero_mul]
theorem m_isThere {h : Hp} {α : SA} (M : Am h α) (D : Dm α) {d l : Nat} {w : Int32} (hd : d ≤ bgs α) : f_X8_isThere h 51 (bI d) (nI l) w = some (b2i (Rd α l w d)) := by
  have h6 := D.2.2.2.2.1
  cases d with
  | zero => rfl
  | succ b =>
    unfold bI f_X8_isThere b2i Rd
    rw [if_neg (nI_pos (by omega)), m_b4 M D (by omega), bs, m_b2 M D (by omega), bs]
    by_cases h1 : α 5 b = nI l
    · by_cases h2 : α 8 b = w
      · rw [if_pos h1, if_pos h2, if_pos (by simp [h1, h2])]
      · rw [if_pos h1, if_neg h2, if_neg (by simp [h2])]
    · rw [if_neg h1, if_neg (by simp [h1])]
theorem or_0 (x : Int32) : x ||| 0 = x := Int32.or_zero
theorem m_at_l {h : Hp} {N : Nat} {α : SA} (M : Am h α) (D : Dm α) (l : Int32) : ∀ (m b n : Nat), b + m = bgs α → m < n → f_X8_atLevel_4 N n h 51 l (bst (fun b => decide (α 5 b = l)) b) (nI b) = some (atS α l) := by
  have h6 := D.2.2.2.2.1
  intro m
  induction m with
  | zero =>
    intro b n hb hn
    obtain ⟨n, rfl⟩ : ∃ k, n = k + 1 := ⟨n - 1, by omega⟩
    rw [f_X8_atLevel_4, pp_51_26 M.1, bs, ll_62 M.1, if_pos (by decide), am_1 M, D.2.1, if_pos (nI_le (by omega) (by omega))]
    unfold atS
    rw [show b = bgs α by omega]
  | succ m ih =>
    intro b n hb hn
    obtain ⟨n, rfl⟩ : ∃ k, n = k + 1 := ⟨n - 1, by omega⟩
    rw [f_X8_atLevel_4, pp_51_26 M.1, bs, ll_62 M.1, if_pos (by decide), am_1 M, D.2.1, if_neg (nI_ge (by omega) (by omega)), m_b4 M D (by omega), bs]
    have e := ih (b + 1) n (by omega) (by omega)
    rw [bst] at e
    unfold f_X8_atLevel_32
    rw [nI_1, or_0]
    by_cases h1 : α 5 b = l
    · rw [if_pos h1, ← e, if_pos (by simp [h1])]
    · rw [if_neg h1, ← e, if_neg (by simp [h1])]
theorem m_at {h : Hp} {N : Nat} {α : SA} (M : Am h α) (D : Dm α) (hN : 20 ≤ N) (l : Int32) : f_X8_atLevel N h 51 l = some (atS α l) := m_at_l M D l (bgs α) 0 N (by omega) (by have := D.2.2.2.2.1; omega)
theorem m_isHome {h : Hp} {α : SA} (M : Am h α) (D : Dm α) {b : Nat} (hb : b < bgs α) : f_X8_isHome h 51 (nI b) = some (b2i (hm α b)) := by
  unfold f_X8_isHome f_X8_isHome_27
  rw [m_b4 M D hb, bs, m_b2 M D hb, bs, pp_51_26 M.1, bs, ll_62 M.1, if_pos (show 0 < 93 by decide), am_0 M]
  by_cases h1 : α 8 b = 0
  · rw [if_pos h1, show hm α b = decide (α 5 b = α 0 0 - 1) by unfold hm; simp [h1]]
    unfold b2i
    by_cases h2 : α 5 b = α 0 0 - 1
    · rw [if_pos h2, if_pos (by simp [h2])]
    · rw [if_neg h2, if_neg (by simp [h2])]
  · rw [if_neg h1, show hm α b = decide (α 5 b = 0) by unfold hm; simp [h1]]
    unfold b2i
    by_cases h2 : α 5 b = 0
    · rw [if_pos h2, if_pos (by simp [h2])]
    · rw [if_neg h2, if_neg (by simp [h2])]
theorem m_home_l {h : Hp} {N : Nat} {α : SA} (M : Am h α) (D : Dm α) : ∀ (m b n : Nat), b + m = bgs α → m < n → f_X8_homeOnes_4 N n h 51 (bst (hm α) b) (nI b) = some (hmS α) := by
  have h6 := D.2.2.2.2.1
  intro m
  induction m with
  | zero =>
    intro b n hb hn
    obtain ⟨n, rfl⟩ : ∃ k, n = k + 1 := ⟨n - 1, by omega⟩
    rw [f_X8_homeOnes_4, pp_51_26 M.1, bs, ll_62 M.1, if_pos (by decide), am_1 M, D.2.1, if_pos (nI_le (by omega) (by omega))]
    unfold hmS
    rw [show b = bgs α by omega]
  | succ m ih =>
    intro b n hb hn
    obtain ⟨n, rfl⟩ : ∃ k, n = k + 1 := ⟨n - 1, by omega⟩
    rw [f_X8_homeOnes_4, pp_51_26 M.1, bs, ll_62 M.1, if_pos (by decide), am_1 M, D.2.1, if_neg (nI_ge (by omega) (by omega)), m_isHome M D (by omega), bs]
    have e := ih (b + 1) n (by omega) (by omega)
    rw [bst] at e
    unfold f_X8_homeOnes_30
    rw [nI_1, or_0]
    unfold b2i
    by_cases h1 : hm α b
    · rw [if_pos h1, if_neg (by decide), ← e, if_pos h1]
    · rw [if_neg h1, if_pos (by decide), ← e, if_neg h1]
theorem m_home {h : Hp} {N : Nat} {α : SA} (M : Am h α) (D : Dm α) (hN : 20 ≤ N) : f_X8_homeOnes N h 51 = some (hmS α) := m_home_l M D (bgs α) 0 N (by omega) (by have := D.2.2.2.2.1; omega)
def btP : Nat → Int32 → Int32 → Option Int32
  | 0, _, _ => none
  | n + 1, a, x => if x = 0 then some a else btP n (a + 1) (x &&& (x - 1))
theorem btP_eq (N : Nat) (h : Hp) : ∀ (n : Nat) (a x : Int32), f_X8_bits_4 N n h a x = btP n a x
  | 0, _, _ => rfl
  | n + 1, a, x => by
    rw [f_X8_bits_4, btP, btP_eq N h n]
theorem btP_more : ∀ (n j : Nat) (a x r : Int32), btP n a x = some r → btP (n + j) a x = some r
  | 0, _, _, _, _, h => by cases h
  | n + 1, j, a, x, r, h => by
    rw [show n + 1 + j = n + j + 1 by omega, btP]
    rw [btP] at h
    by_cases h1 : x = 0
    · rw [if_pos h1] at h ⊢; exact h
    · rw [if_neg h1] at h ⊢; exact btP_more n j _ _ _ h
set_option maxRecDepth 100000 in
theorem btP_64 : ∀ m, m < 64 → btP 8 0 (nI m) = some (bct (nI m)) := by decide +kernel
theorem m_bits {h : Hp} {N m : Nat} (hN : 20 ≤ N) (hm : m < 64) : f_X8_bits N h (nI m) = some (bct (nI m)) := by
  unfold f_X8_bits
  rw [btP_eq, show N = 8 + (N - 8) by omega]
  exact btP_more _ _ _ _ _ (btP_64 m hm)
set_option maxRecDepth 100000 in
theorem or_bit : ∀ n, n < 6 → ∀ m, m < 2 ^ n → nI m ||| ((1 : Int32) <<< (nI n &&& 31)) = nI (m + 2 ^ n) := by decide +kernel
theorem bst_lt (p : Nat → Bool) : ∀ n, n ≤ 6 → ∃ m, m < 2 ^ n ∧ bst p n = nI m
  | 0, _ => ⟨0, by decide, rfl⟩
  | n + 1, h => by
    obtain ⟨m, h1, h2⟩ := bst_lt p n (by omega)
    rw [bst, h2]
    by_cases h3 : p n
    · rw [if_pos h3]
      exact ⟨m + 2 ^ n, by rw [Nat.pow_succ]; omega, or_bit n (by omega) m h1⟩
    · rw [if_neg h3]
      exact ⟨m, by rw [Nat.pow_succ]; omega, rfl⟩
theorem m_bitsS {h : Hp} {N : Nat} (hN : 20 ≤ N) (p : Nat → Bool) {n : Nat} (hn : n ≤ 6) : f_X8_bits N h (bst p n) = some (bct (bst p n)) := by
  obtain ⟨m, h1, h2⟩ := bst_lt p n hn
  have : 2 ^ n ≤ 2 ^ 6 := Nat.pow_le_pow_right (by decide) hn
  rw [h2]
  exact m_bits hN (by omega)
theorem m_cn {h : Hp} {N : Nat} {α : SA} (D : Dm α) (hN : 20 ≤ N) (l : Nat) : f_X8_bits N h (atS α (nI l)) = some (Cn α l) := m_bitsS hN _ D.2.2.2.2.1
theorem m_areSeats {h : Hp} {α : SA} (M : Am h α) (D : Dm α) {l : Nat} (hl : l < lvl α) (m : Int32) : f_X8_areSeats h 51 (nI l) m = some (b2i (Se α l m)) := by
  have h8 := D.2.2.2.1
  unfold f_X8_areSeats Se b2i
  by_cases h0 : l = 0
  · subst h0
    rw [if_pos (by decide), if_pos (by simp)]
  · rw [if_neg (nI_ne0 (by omega) (by omega)), pp_51_26 M.1, bs, ll_62 M.1, if_pos (by decide), am_0 M, D.1, n_1, pk_sub (by omega)]
    by_cases h1 : l + 1 = lvl α
    · rw [if_pos (by rw [nI_eq (by omega) (by omega)]; omega), if_pos (by simp [h1])]
    · rw [if_neg (by rw [nI_eq (by omega) (by omega)]; omega), bs, ix2, nI_add, ll_62 M.1, if_inI (by omega) (by omega), nI_clamp (by omega), show 9 + 2 * l + 1 = 10 + 2 * l by omega, show hI h 62 (10 + 2 * l) = α 2 l from am_r M (k := 2) hl]
      by_cases h2 : m ≤ α 2 l
      · rw [if_neg (Int32.not_lt.mpr h2), if_pos (by simp [h2])]
      · rw [if_pos (Int32.not_le.mp h2), if_neg (by simp [h0, h1, h2])]
/-- what the reference holds of rule k is the same -/
def Rrw (b a : Hp) (k : Nat) : Prop := (∀ j, 400 * k ≤ j → j < 400 * k + 400 → hI b 53 j = hI a 53 j) ∧ (∀ j, 24 * k ≤ j → j < 24 * k + 24 → hI b 55 j = hI a 55 j) ∧ hI b 56 k = hI a 56 k
theorem Rrw_row {a b c : Hp} {k : Nat} (e1 : hI b 53 = hI a 53) (e2 : hI b 55 = hI a 55) (e3 : hI b 56 = hI a 56) (W : Rrw c b k) : Rrw c a k := by
  unfold Rrw at W ⊢
  rw [e1, e2, e3] at W
  exact W
theorem Rrw_of {a b : Hp} {k : Nat} (e1 : hI b 53 = hI a 53) (e2 : hI b 55 = hI a 55) (e3 : hI b 56 = hI a 56) : Rrw b a k := by
  unfold Rrw
  rw [e1, e2, e3]
  exact ⟨fun _ _ _ => rfl, fun _ _ _ => rfl, rfl⟩
theorem Rrw_trans {a b c : Hp} {k : Nat} (W : Rrw c b k) (V : Rrw b a k) : Rrw c a k := ⟨fun j h1 h2 => (W.1 j h1 h2).trans (V.1 j h1 h2), fun j h1 h2 => (W.2.1 j h1 h2).trans (V.2.1 j h1 h2), W.2.2.trans V.2.2⟩
def Rm (N : Nat) (h : Hp) (r : Int32) (rl : RLT) : Prop := (r < 0 ∧ rl = fun _ => false) ∨ (0 ≤ r ∧ ∀ h' w, SHP h' → Rrw h' h r.toNatClampNeg → hI h' 62 8 = r → (∀ i, i < 10 → hJ h' 61 i = w i) → ∃ h'', f_X8_isBarred_153 N N h' 51 0 = some (b2i (rl w), h'') ∧ Fr PM h' h'')
theorem Rm_w {a b : Hp} {N : Nat} {r : Int32} {rl : RLT} (V : Rrw b a r.toNatClampNeg) (H : Rm N a r rl) : Rm N b r rl := by
  rcases H with H | H
  · exact Or.inl H
  · exact Or.inr ⟨H.1, fun h' w S W => H.2 h' w S (Rrw_trans W V)⟩
theorem Rm_Fr {P : Nat → Nat → Prop} {a b : Hp} (F : Fr P a b) {N : Nat} {r : Int32} {rl : RLT} (h53 : ∀ j, ¬ P 53 j) (h55 : ∀ j, ¬ P 55 j) (h56 : ∀ j, ¬ P 56 j) (H : Rm N a r rl) : Rm N b r rl := by
  exact Rm_w (Rrw_of (Fr_row F h53) (Fr_row F h55) (Fr_row F h56)) H
theorem Am_Fr {P : Nat → Nat → Prop} {a b : Hp} (F : Fr P a b) (hp : ∀ j, ¬ P 62 j) {α : SA} (H : Am a α) : Am b α := ⟨Fr_SHP F H.1, by rw [Fr_row F hp]; exact H.2⟩
theorem mJ_st {h : Hp} {α : SA} (M : Am h α) (k : Nat) (x : Int64) : Am (sJ h 61 k x) α ∧ Fr PJ h (sJ h 61 k x) ∧ ∀ i, hJ (sJ h 61 k x) 61 i = if i = k then x else hJ h 61 i := ⟨Am_Fr (P := PJ) (Fr_sJ _ _ _ _ ⟨by decide, by decide⟩) (fun _ z => z) M, Fr_sJ _ _ _ _ ⟨by decide, by decide⟩, fun i => by rw [hJ_sJ]; by_cases e : i = k <;> simp [e]⟩
theorem m_isBarred {h : Hp} {N : Nat} {α : SA} {rl : RLT} (M : Am h α) (D : Dm α) (hN : 20 ≤ N) (R : Rm N h (α 0 5) rl) {k d u : Nat} (hk : k + 1 < lvl α) (hd : d ≤ bgs α) (hu : u ≤ bgs α) : ∃ h', f_X8_isBarred N h 51 (nI k) (bI d) (bI u) = some (b2i (rl (Wrd α k d u)), h') ∧ Fr PM h h' := by
  unfold f_X8_isBarred
  rw [pp_51_26 M.1, bs, ll_62 M.1, if_pos (by decide), am_8 M]
  rcases R with R | R
  · rw [if_neg (Int32.not_le.mpr R.1), R.2]
    exact ⟨h, rfl, Fr_refl h⟩
  · rw [if_pos R.1, pp_51_25 M.1, bs, ll_61 M.1, if_pos (by decide), lts]
    obtain ⟨M1, F1, J1⟩ := mJ_st M 0 ((nI k).toInt64)
    generalize sJ h 61 0 ((nI k).toInt64) = h1 at M1 F1 J1 ⊢
    rw [pp_51_25 M1.1, bs, m_weightOf M1 D hd, bs, ll_61 M1.1, if_pos (by decide), lts]
    obtain ⟨M2, F2, J2⟩ := mJ_st M1 1 ((Wt α d).toInt64)
    generalize sJ h1 61 1 ((Wt α d).toInt64) = h2 at M2 F2 J2 ⊢
    rw [pp_51_25 M2.1, bs, m_weightOf M2 D hu, bs, ll_61 M2.1, if_pos (by decide), lts]
    obtain ⟨M3, F3, J3⟩ := mJ_st M2 2 ((Wt α u).toInt64)
    generalize sJ h2 61 2 ((Wt α u).toInt64) = h3 at M3 F3 J3 ⊢
    rw [pp_51_25 M3.1, bs, m_needOf M3 D hd hu, bs, ll_61 M3.1, if_pos (by decide), lts]
    obtain ⟨M4, F4, J4⟩ := mJ_st M3 3 ((Nd α d u).toInt64)
    generalize sJ h3 61 3 ((Nd α d u).toInt64) = h4 at M4 F4 J4 ⊢
    rw [pp_51_25 M4.1, bs, m_waterOf M4 D (by omega), bs, ll_61 M4.1, if_pos (by decide), lts]
    obtain ⟨M5, F5, J5⟩ := mJ_st M4 4 ((α 1 k).toInt64)
    generalize sJ h4 61 4 ((α 1 k).toInt64) = h5 at M5 F5 J5 ⊢
    rw [pp_51_25 M5.1, bs, nI_1, m_waterOf M5 D (by omega), bs, ll_61 M5.1, if_pos (by decide), lts]
    obtain ⟨M6, F6, J6⟩ := mJ_st M5 5 ((α 1 (k + 1)).toInt64)
    generalize sJ h5 61 5 ((α 1 (k + 1)).toInt64) = h6 at M6 F6 J6 ⊢
    rw [pp_51_25 M6.1, bs, m_at M6 D hN, bs, m_cn D hN, bs, ll_61 M6.1, if_pos (by decide), lts]
    obtain ⟨M7, F7, J7⟩ := mJ_st M6 6 ((Cn α k).toInt64)
    generalize sJ h6 61 6 ((Cn α k).toInt64) = h7 at M7 F7 J7 ⊢
    rw [pp_51_25 M7.1, bs, m_at M7 D hN, bs, m_cn D hN, bs, ll_61 M7.1, if_pos (by decide), lts]
    obtain ⟨M8, F8, J8⟩ := mJ_st M7 7 ((Cn α (k + 1)).toInt64)
    generalize sJ h7 61 7 ((Cn α (k + 1)).toInt64) = h8 at M8 F8 J8 ⊢
    rw [pp_51_25 M8.1, bs, m_wideOf M8 D hd, bs, m_wideOf M8 D hu, bs, ll_61 M8.1, if_pos (by decide), lts]
    obtain ⟨M9, F9, J9⟩ := mJ_st M8 8 ((Wi α d + Wi α u).toInt64)
    generalize sJ h8 61 8 ((Wi α d + Wi α u).toInt64) = h9 at M9 F9 J9 ⊢
    rw [pp_51_25 M9.1, bs, pp_51_26 M9.1, bs, ll_62 M9.1, if_pos (by decide), ll_61 M9.1, if_pos (by decide), lts, am_3 M9]
    obtain ⟨M10, F10, J10⟩ := mJ_st M9 9 ((α 0 3).toInt64)
    generalize sJ h9 61 9 ((α 0 3).toInt64) = h10 at M10 F10 J10 ⊢
    have F := Fr_trans F1 (Fr_trans F2 (Fr_trans F3 (Fr_trans F4 (Fr_trans F5 (Fr_trans F6 (Fr_trans F7 (Fr_trans F8 (Fr_trans F9 F10))))))))
    obtain ⟨h', e, F'⟩ := R.2 h10 (Wrd α k d u) M10.1 (Rrw_of (Fr_row F (fun _ z => z)) (Fr_row F (fun _ z => z)) (Fr_row F (fun _ z => z))) (am_8 M10) (fun i hi => by
      rw [J10, J9, J8, J7, J6, J5, J4, J3, J2, J1]
      obtain rfl | rfl | rfl | rfl | rfl | rfl | rfl | rfl | rfl | rfl : i = 0 ∨ i = 1 ∨ i = 2 ∨ i = 3 ∨ i = 4 ∨ i = 5 ∨ i = 6 ∨ i = 7 ∨ i = 8 ∨ i = 9 := by omega
      all_goals rfl)
    exact ⟨h', e, Fr_trans (Fr_J F) F'⟩
theorem bI_pos {d : Nat} (hd : d ≤ 6) : 0 ≤ bI d ↔ d ≠ 0 := by
  have : ∀ d, d ≤ 6 → (0 ≤ bI d ↔ d ≠ 0) := by decide
  exact this d hd
theorem bI_neg {d : Nat} (hd : d ≤ 6) : bI d < 0 ↔ d = 0 := by
  have : ∀ d, d ≤ 6 → (bI d < 0 ↔ d = 0) := by decide
  exact this d hd
theorem m_broken_57 {h : Hp} {N : Nat} {α : SA} {rl : RLT} (M : Am h α) (D : Dm α) (hN : 20 ≤ N) (R : Rm N h (α 0 5) rl) {k d u : Nat} (hk : k + 1 < lvl α) (hd : d ≤ bgs α) (hu : u ≤ bgs α) {x y : Int32} (hxy : y - x = mo d u) : ∃ h', f_X8_broken_57 N h 51 (nI k) (bI d) (bI u) x y = some (if (Se α k (Cn α k + mo d u) && Se α (k + 1) (Cn α (k + 1) - mo d u)) = false then 3 else if Nd α d u ≤ α 1 k then (if rl (Wrd α k d u) then 5 else 0) else 4, h') ∧ Fr PM h h' := by
  unfold f_X8_broken_57
  rw [hxy, m_at M D hN, bs, m_cn D hN, bs, m_areSeats M D (by omega), bs, nI_1]
  by_cases h1 : Se α k (Cn α k + mo d u) = true
  · rw [if_neg (by rw [b2i_0, h1]; decide), m_at M D hN, bs, m_cn D hN, bs, m_areSeats M D (by omega), bs]
    by_cases h2 : Se α (k + 1) (Cn α (k + 1) - mo d u) = true
    · rw [if_neg (by rw [b2i_0, h2]; decide), m_waterOf M D (by omega), bs, m_needOf M D hd hu, bs, if_neg (show ¬ (Se α k (Cn α k + mo d u) && Se α (k + 1) (Cn α (k + 1) - mo d u)) = false by rw [h1, h2]; decide)]
      by_cases h3 : Nd α d u ≤ α 1 k
      · rw [if_pos h3, if_pos h3]
        obtain ⟨h2, e2, F2⟩ := m_isBarred M D hN R hk hd hu
        rw [e2, b2s]
        refine ⟨h2, ?_, F2⟩
        by_cases h4 : rl (Wrd α k d u) = true
        · rw [if_pos h4, if_neg (by rw [b2i_0, h4]; decide)]
        · rw [if_neg h4, if_pos (by rw [b2i_0]; simpa using h4)]
      · rw [if_neg h3, if_neg h3]
        exact ⟨h, rfl, Fr_refl h⟩
    · rw [if_pos (by rw [b2i_0]; simpa using h2), if_pos (by simp [h2])]
      exact ⟨h, rfl, Fr_refl h⟩
  · rw [if_pos (by rw [b2i_0]; simpa using h1), if_pos (by simp [h1])]
    exact ⟨h, rfl, Fr_refl h⟩
theorem m_isOf {h : Hp} {α : SA} (M : Am h α) {k : Nat} (hk : k + 1 < lvl α) : f_X8_isOf h (hI h 62 5) (nI k) = some (if α 3 k = 0 then 1 else 0) := by
  unfold f_X8_isOf
  by_cases h1 : α 3 k = 0
  · rw [if_pos h1, if_pos ((M.2.2.1 k hk).mpr h1)]
  · rw [if_neg h1, if_neg (fun z => h1 ((M.2.2.1 k hk).mp z))]
theorem m_law {h : Hp} {N : Nat} {α : SA} {rl : RLT} (M : Am h α) (D : Dm α) (hN : 20 ≤ N) (R : Rm N h (α 0 5) rl) {k d u : Nat} (hk : k + 1 < lvl α) (hd : d ≤ bgs α) (hu : u ≤ bgs α) : ∃ h', f_X8_broken N h 51 (nI k) (bI d) (bI u) = some (Lw α rl k d u, h') ∧ Fr PM h h' := by
  have h8 := D.2.2.2.1
  have h6 := D.2.2.2.2.1
  unfold f_X8_broken f_X8_broken_48 Lw
  rw [pp_51_26 M.1, bs, ll_62 M.1, if_pos (by decide), m_isOf M hk, bs]
  by_cases h1 : α 3 k = 0
  · rw [if_pos h1, if_pos h1, if_neg (by decide)]
    exact ⟨h, rfl, Fr_refl h⟩
  · rw [if_neg h1, if_neg h1, if_pos rfl, m_isThere M D hd, bs, nI_1, m_isThere M D hu, bs]
    by_cases h2 : Rd α k 0 d = true
    · rw [if_neg (by rw [b2i_0, h2]; decide)]
      by_cases h3 : Rd α (k + 1) 1 u = true
      · rw [if_neg (by rw [b2i_0, h3]; decide), if_neg (show ¬ (Rd α k 0 d && Rd α (k + 1) 1 u) = false by rw [h2, h3]; decide)]
        by_cases h4 : u = 0
        · rw [if_neg (fun z => (bI_pos (by omega)).mp z h4)]
          by_cases h5 : d = 0
          · rw [if_neg (fun z => (bI_pos (by omega)).mp z h5)]
            exact m_broken_57 M D hN R hk hd hu (by unfold mo; rw [if_pos h4, if_pos h5])
          · rw [if_pos ((bI_pos (by omega)).mpr h5)]
            exact m_broken_57 M D hN R hk hd hu (by unfold mo; rw [if_pos h4, if_neg h5])
        · rw [if_pos ((bI_pos (by omega)).mpr h4)]
          by_cases h5 : d = 0
          · rw [if_neg (fun z => (bI_pos (by omega)).mp z h5)]
            exact m_broken_57 M D hN R hk hd hu (by unfold mo; rw [if_neg h4, if_pos h5])
          · rw [if_pos ((bI_pos (by omega)).mpr h5)]
            exact m_broken_57 M D hN R hk hd hu (by unfold mo; rw [if_neg h4, if_neg h5])
      · rw [if_pos (by rw [b2i_0]; simpa using h3), if_pos (by simp [h3])]
        exact ⟨h, rfl, Fr_refl h⟩
    · rw [if_pos (by rw [b2i_0]; simpa using h2), if_pos (by simp [h2])]
      exact ⟨h, rfl, Fr_refl h⟩
theorem m_counted {h : Hp} {α : SA} (M : Am h α) (D : Dm α) {d u : Nat} (hd : d ≤ bgs α) (hu : u ≤ bgs α) : f_X8_counted h 51 (bI d) (bI u) = some (Wo α d u) := by
  unfold f_X8_counted Wo
  rw [m_wideOf M D hd, m_wideOf M D hu, bs, bs]
  split <;> rfl
