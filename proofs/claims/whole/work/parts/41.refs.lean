/-! ===== the reference's search: cells, slots ===== -/
/-- the k-th cell of a situation, as the reference keeps it -/
def ce (β : SA) (k : Nat) : Int32 := if k < 6 then (if k < bgs β then β 5 k else 0) else (if k - 6 < lvl β then β 1 (k - 6) else 0)
theorem m_cellOf {h : Hp} {β : SA} (M : Am h β) {k : Nat} (hk : k < 14) : f_X8_cellOf h 51 (nI k) = some (ce β k) := by
  unfold f_X8_cellOf ce
  by_cases h6 : k < 6
  · rw [if_neg (show ¬ (6 : Int32) ≤ nI k from nI_ge (b := 6) h6 (by decide)), if_pos h6, n_4, m_bargeOf M h6 (by decide), bs, show 25 + 5 * k + 4 = 29 + 5 * k by omega]
    by_cases hb : k < bgs β
    · rw [if_pos hb]
      exact congrArg some (am_r M (k := 5) hb)
    · rw [if_neg hb, M.2.2.2.2.1 k (by omega) h6]
  · rw [if_pos (show (6 : Int32) ≤ nI k from nI_le (a := 6) (by omega) (by omega)), if_neg h6, show (6 : Int32) = nI 6 from rfl, pk_sub (by omega)]
    unfold f_X8_waterOf
    rw [pp_51_26 M.1, bs, ix2, ll_62 M.1, if_inI (by omega) (by omega), nI_clamp (by omega), bs]
    by_cases hl : k - 6 < lvl β
    · rw [if_pos hl]
      exact congrArg some (am_r M (k := 1) hl)
    · rw [if_neg hl, M.2.2.2.2.2 (k - 6) (by omega) (by omega)]
theorem ce_same {α β γ : SA} (I1 : Irr α β) (I2 : Irr α γ) (D : Dm α) : sameB β γ ↔ ∀ k, k < 14 → ce γ k = ce β k := by
  have h8 := D.2.2.2.1
  have h6 := D.2.2.2.2.1
  unfold sameB ce
  rw [Irr_b I1, Irr_l I1, Irr_b I2, Irr_l I2]
  constructor
  · intro h k hk
    by_cases k6 : k < 6
    · rw [if_pos k6, if_pos k6]
      by_cases hb : k < bgs α
      · rw [if_pos hb, if_pos hb]; exact (h.1 k hb).symm
      · rw [if_neg hb, if_neg hb]
    · rw [if_neg k6, if_neg k6]
      by_cases hl : k - 6 < lvl α
      · rw [if_pos hl, if_pos hl]; exact (h.2 _ hl).symm
      · rw [if_neg hl, if_neg hl]
  · intro h
    refine ⟨fun b hb => ?_, fun l hl => ?_⟩
    · have := h b (by omega)
      rw [if_pos (by omega), if_pos hb, if_pos (by omega), if_pos hb] at this
      exact this.symm
    · have := h (l + 6) (by omega)
      rw [if_neg (by omega), Nat.add_sub_cancel, if_pos hl, if_neg (by omega), if_pos hl] at this
      exact this.symm
def cv' (β : SA) (k : Nat) : Nat := (ce β k).toNatClampNeg
theorem cv_e {β : SA} (O : Ok β) {k : Nat} (hk : k < 14) : ce β k = nI (cv' β k) ∧ cv' β k ≤ 19995 := by
  unfold cv' ce
  by_cases k6 : k < 6
  · rw [if_pos k6]
    by_cases hb : k < bgs β
    · rw [if_pos hb]
      have := pv_e O.1 O.2.1 hb
      rw [this.1, nI_clamp (by have := this.2; omega)]
      exact ⟨rfl, by have := this.2; omega⟩
    · rw [if_neg hb]; exact ⟨rfl, by decide⟩
  · rw [if_neg k6]
    by_cases hl : k - 6 < lvl β
    · rw [if_pos hl]
      have := wv_e O.2.2.2.2 hl
      rw [this.1, nI_clamp (by have := this.2; omega)]
      exact ⟨rfl, this.2⟩
    · rw [if_neg hl]; exact ⟨rfl, by decide⟩
def hsS (β : SA) : Nat → Nat
  | 0 => 0
  | k + 1 => (hsS β k * 31 + cv' β k) % 1000003
def hsM (β : SA) : Nat := hsS β 14 % 4096
theorem hsS_lt (β : SA) : ∀ k, hsS β k < 1000003
  | 0 => by show 0 < 1000003; decide
  | k + 1 => Nat.mod_lt _ (by decide)
def eqC (f g : Nat → Int32) : Nat → Nat → Bool
  | 0, _ => true
  | m + 1, k => decide (f k = g k) && eqC f g m (k + 1)
theorem eqC_t {f g : Nat → Int32} : ∀ m k, eqC f g m k = true ↔ ∀ j, k ≤ j → j < k + m → f j = g j
  | 0, k => ⟨fun _ j h1 h2 => by omega, fun _ => rfl⟩
  | m + 1, k => by
    rw [eqC, Bool.and_eq_true, decide_eq_true_iff, eqC_t m (k + 1)]
    constructor
    · intro h j h1 h2
      by_cases e : j = k
      · subst e; exact h.1
      · exact h.2 j (by omega) (by omega)
    · intro h
      exact ⟨h k (Nat.le_refl _) (by omega), fun j h1 h2 => h j (by omega) (by omega)⟩
theorem m_isNow_l {h : Hp} {N i n : Nat} {β : SA} {st : Nat → SA} (M : Am h β) (hi : i < n) (hn : n ≤ 1500) (S : ∀ i, i < n → ∀ k, k < 14 → hI h 64 (14 * i + k) = ce (st i) k) : ∀ (m k f : Nat), k + m = 14 → m < f → f_X8_isNow_2 N f h 51 (nI i) (nI k) = some (b2i (eqC (ce (st i)) (ce β) m k)) := by
  intro m
  induction m with
  | zero =>
    intro k f hk hf
    obtain ⟨f, rfl⟩ : ∃ k, f = k + 1 := ⟨f - 1, by omega⟩
    rw [f_X8_isNow_2, if_pos (show (14 : Int32) ≤ nI k from nI_le (a := 14) (by omega) (by omega))]
    rfl
  | succ m ih =>
    intro k f hk hf
    obtain ⟨f, rfl⟩ : ∃ k, f = k + 1 := ⟨f - 1, by omega⟩
    rw [f_X8_isNow_2, if_neg (show ¬ (14 : Int32) ≤ nI k from nI_ge (b := 14) (by omega) (by decide)), pp_51_28 M.1, bs, show (14 : Int32) = nI 14 from rfl, pk_mul, nI_add, ll_64 M.1, if_inI (by omega) (by omega), m_cellOf M (by omega), bs, nI_clamp (by omega), S i hi k (by omega), nI_1, eqC]
    by_cases e : ce (st i) k = ce β k
    · rw [if_pos e, ih (k + 1) f (by omega) (by omega), decide_eq_true e, Bool.true_and]
    · rw [if_neg e, decide_eq_false e, Bool.false_and]
      rfl
theorem m_isNow {h : Hp} {N i n : Nat} {β : SA} {st : Nat → SA} (hN : 20 ≤ N) (M : Am h β) (hi : i < n) (hn : n ≤ 1500) (S : ∀ i, i < n → ∀ k, k < 14 → hI h 64 (14 * i + k) = ce (st i) k) : f_X8_isNow N h 51 (nI i) = some (b2i (eqC (ce (st i)) (ce β) 14 0)) := m_isNow_l (N := N) M hi hn S 14 0 N (by omega) (by omega)
theorem eqC_14 {f g : Nat → Int32} : eqC f g 14 0 = true ↔ ∀ k, k < 14 → f k = g k := by
  rw [eqC_t]
  exact ⟨fun h k hk => h k (by omega) (by omega), fun h k _ hk => h k (by omega)⟩
theorem m_slot_l {h : Hp} {N n : Nat} {β : SA} {st : Nat → SA} {sl : Nat → Nat} {mt : Nat → Prop} (hN : 20 ≤ N) (M : Am h β) (hn : n ≤ 1500) (S : ∀ i, i < n → ∀ k, k < 14 → hI h 64 (14 * i + k) = ce (st i) k) (hmt : ∀ i, i < n → (mt i ↔ ∀ k, k < 14 → ce (st i) k = ce β k)) (L : ∀ p, p < 4096 → hI h 71 p = nI (sl p) ∧ sl p ≤ n) {p0 d : Nat} (hd0 : d < 4096) (hd : ∀ e, e < d → sl ((p0 + e) % 4096) ≠ 0 ∧ ¬ mt (sl ((p0 + e) % 4096) - 1)) (hz : sl ((p0 + d) % 4096) = 0 ∨ mt (sl ((p0 + d) % 4096) - 1)) : ∀ (m e f : Nat), e + m = d → m < f → f_X8_slotNow_37 N f h 51 (nI ((p0 + e) % 4096)) = some (nI ((p0 + d) % 4096)) := by
  intro m
  induction m with
  | zero =>
    intro e f he hf
    obtain rfl : e = d := by omega
    obtain ⟨f, rfl⟩ : ∃ k, f = k + 1 := ⟨f - 1, by omega⟩
    have hp : (p0 + e) % 4096 < 4096 := Nat.mod_lt _ (by decide)
    have hl := (L _ hp).2
    rw [f_X8_slotNow_37, pp_51_35 M.1, bs, ll_71 M.1, if_inI hp (by omega), nI_clamp (by omega), (L _ hp).1]
    by_cases h0 : sl ((p0 + e) % 4096) = 0
    · rw [h0, if_pos (show nI 0 ≤ 0 by decide)]
    · have hs := hz.resolve_left h0
      have hi : sl ((p0 + e) % 4096) - 1 < n := by omega
      rw [if_neg (nI_nle (by omega) (by omega)), bs, ll_71 M.1, if_pos ⟨nI_pos' (by omega), hp⟩, (L _ hp).1, show nI (sl ((p0 + e) % 4096)) - 1 = nI (sl ((p0 + e) % 4096) - 1) by rw [n_1, pk_sub (by omega)], m_isNow hN M hi hn S, bs, eqC_14.mpr ((hmt _ hi).mp hs), if_neg (by decide)]
  | succ m ih =>
    intro e f he hf
    obtain ⟨f, rfl⟩ : ∃ k, f = k + 1 := ⟨f - 1, by omega⟩
    have hp : (p0 + e) % 4096 < 4096 := Nat.mod_lt _ (by decide)
    obtain ⟨d1, d2⟩ := hd e (by omega)
    have hl := (L _ hp).2
    have hi : sl ((p0 + e) % 4096) - 1 < n := by omega
    rw [f_X8_slotNow_37, pp_51_35 M.1, bs, ll_71 M.1, if_inI hp (by omega), nI_clamp (by omega), (L _ hp).1, if_neg (nI_nle (by omega) (by omega)), bs, ll_71 M.1, if_pos ⟨nI_pos' (by omega), hp⟩, (L _ hp).1, show nI (sl ((p0 + e) % 4096)) - 1 = nI (sl ((p0 + e) % 4096) - 1) by rw [n_1, pk_sub (by omega)], m_isNow hN M hi hn S, bs, show eqC (ce (st (sl ((p0 + e) % 4096) - 1))) (ce β) 14 0 = false from Bool.eq_false_iff.mpr (fun z => d2 ((hmt _ hi).mpr (eqC_14.mp z))), if_pos (by decide), lts, nI_1, show (4096 : Int32) = nI 4096 from rfl, pk_rem (by omega) (by decide) (by decide), show ((p0 + e) % 4096 + 1) % 4096 = (p0 + (e + 1)) % 4096 by omega]
    exact ih (e + 1) f (by omega) (by omega)
theorem m_hash_l {h : Hp} {N : Nat} {β δ : SA} (M : Am h δ) (O : Ok β) (ec : ∀ k, k < 14 → ce δ k = ce β k) : ∀ (m k f : Nat), k + m = 14 → m < f → f_X8_slotNow_4 N f h 51 (nI (hsS β k)) (nI k) = f_X8_slotNow_37 N N h 51 (nI (hsM β)) := by
  intro m
  induction m with
  | zero =>
    intro k f hk hf
    obtain ⟨f, rfl⟩ : ∃ k, f = k + 1 := ⟨f - 1, by omega⟩
    have := hsS_lt β k
    rw [f_X8_slotNow_4, if_pos (show (14 : Int32) ≤ nI k from nI_le (a := 14) (by omega) (by omega)), lts, show (4096 : Int32) = nI 4096 from rfl, pk_rem (by omega) (by decide) (by decide)]
    unfold hsM
    rw [show k = 14 by omega]
  | succ m ih =>
    intro k f hk hf
    obtain ⟨f, rfl⟩ : ∃ k, f = k + 1 := ⟨f - 1, by omega⟩
    have a := hsS_lt β k
    have b := cv_e O (k := k) (by omega)
    rw [f_X8_slotNow_4, if_neg (show ¬ (14 : Int32) ≤ nI k from nI_ge (b := 14) (by omega) (by decide)), m_cellOf M (by omega), bs, lts, ec k (by omega), b.1, show (31 : Int32) = nI 31 from rfl, pk_mul, nI_add, show (1000003 : Int32) = nI 1000003 from rfl, pk_rem (by omega) (by decide) (by decide), nI_1]
    exact ih (k + 1) f (by omega) (by omega)
/-- what the reference's rows hold -/
def RpM (h : Hp) (X : XS) (G : List Nat) : Prop :=
  hI h 51 36 = nI (xn X) ∧ hI h 51 38 = b2i (xo X) ∧ hI h 51 37 = nI G.length ∧ (∀ i, i < xn X → ∀ k, k < 14 → hI h 64 (14 * i + k) = ce (xs X i) k) ∧
  (∀ i, i < xn X → hI h 65 i = xc X i ∧ hI h 66 i = (if i = 0 then -1 else nI (xf X i)) ∧ (i ≠ 0 → hI h 67 i = nI (xb X i)) ∧ hI h 68 i = b2i (xg X i)) ∧
  (∃ sl, (∀ p, p < 4096 → hI h 71 p = nI (sl p)) ∧ HI sl (fun i => hsM (xs X i)) (xn X)) ∧
  ∀ j, j < G.length → hI h 69 j = nI (G.getD j 0) ∧ hI h 70 j = hmS (xs X (G.getD j 0))
theorem m_comes_l {N n : Nat} {δ : SA} {p : Nat} {c f b : Int32} (hn : n < 1500) (hp : p < 4096) {h0 : Hp} : ∀ (m k g : Nat) (h : Hp), k + m = 14 → m < g → Am h δ → hI h 51 36 = nI n → (∀ j, j < k → hI h 64 (14 * n + j) = ce δ j) → Fr (fun a j => a = 64 ∧ 14 * n ≤ j) h0 h → ∃ h', f_X8_comes_3 N g h 51 (nI p) c f b (nI k) = some h' ∧ (∀ j, j < 14 → hI h' 64 (14 * n + j) = ce δ j) ∧ hI h' 71 p = nI (n + 1) ∧ hI h' 68 n = 0 ∧ hI h' 65 n = c ∧ hI h' 66 n = f ∧ hI h' 67 n = b ∧ hI h' 51 36 = nI (n + 1) ∧ Fr (fun a j => (a = 64 ∧ 14 * n ≤ j) ∨ (a = 71 ∧ j = p) ∨ ((a = 68 ∨ a = 65 ∨ a = 66 ∨ a = 67) ∧ j = n) ∨ (a = 51 ∧ j = 36)) h0 h' := by
  intro m
  induction m with
  | zero =>
    intro k g h hk hg M h36 E F
    obtain ⟨g, rfl⟩ : ∃ k, g = k + 1 := ⟨g - 1, by omega⟩
    have H := M.1
    rw [f_X8_comes_3, if_pos (show (14 : Int32) ≤ nI k from nI_le (a := 14) (by omega) (by omega)), pp_51_35 H, bs, lts, ll_71 H, if_inI hp (by omega), lts, nI_clamp (by omega), h36, nI_1]
    have F1 : Fr (fun a j => (a = 64 ∧ 14 * n ≤ j) ∨ (a = 71 ∧ j = p) ∨ ((a = 68 ∨ a = 65 ∨ a = 66 ∨ a = 67) ∧ j = n) ∨ (a = 51 ∧ j = 36)) h (sI h 71 p (nI (n + 1))) := Fr_sI _ _ _ _ (by omega)
    have k1 : ∀ a, a ≠ 71 → hI (sI h 71 p (nI (n + 1))) a = hI h a := fun a ha => Fr_row (Fr_sI (P := fun a _ => a = 71) _ _ _ _ rfl) (fun _ => ha)
    have g1 : hI (sI h 71 p (nI (n + 1))) 71 p = nI (n + 1) := by rw [hI_sI, if_pos ⟨rfl, rfl⟩]
    generalize sI h 71 p (nI (n + 1)) = h1 at F1 k1 g1 ⊢
    have H1 := Fr_SHP F1 H
    rw [pp_51_32 H1, bs, k1 51 (by decide), h36, ll_68 H1, if_inI hn (by omega), lts, nI_clamp (by omega)]
    have F2 : Fr (fun a j => (a = 64 ∧ 14 * n ≤ j) ∨ (a = 71 ∧ j = p) ∨ ((a = 68 ∨ a = 65 ∨ a = 66 ∨ a = 67) ∧ j = n) ∨ (a = 51 ∧ j = 36)) h (sI h1 68 n 0) := Fr_trans F1 (Fr_sI _ _ _ _ (by omega))
    have k2 : ∀ a, a ≠ 68 → hI (sI h1 68 n 0) a = hI h1 a := fun a ha => Fr_row (Fr_sI (P := fun a _ => a = 68) _ _ _ _ rfl) (fun _ => ha)
    have g2 : hI (sI h1 68 n 0) 68 n = 0 := by rw [hI_sI, if_pos ⟨rfl, rfl⟩]
    generalize sI h1 68 n 0 = h2 at F2 k2 g2 ⊢
    have H2 := Fr_SHP F2 H
    rw [pp_51_29 H2, bs, k2 51 (by decide), k1 51 (by decide), h36, ll_65 H2, if_inI hn (by omega), lts, nI_clamp (by omega)]
    have F3 : Fr (fun a j => (a = 64 ∧ 14 * n ≤ j) ∨ (a = 71 ∧ j = p) ∨ ((a = 68 ∨ a = 65 ∨ a = 66 ∨ a = 67) ∧ j = n) ∨ (a = 51 ∧ j = 36)) h (sI h2 65 n c) := Fr_trans F2 (Fr_sI _ _ _ _ (by omega))
    have k3 : ∀ a, a ≠ 65 → hI (sI h2 65 n c) a = hI h2 a := fun a ha => Fr_row (Fr_sI (P := fun a _ => a = 65) _ _ _ _ rfl) (fun _ => ha)
    have g3 : hI (sI h2 65 n c) 65 n = c := by rw [hI_sI, if_pos ⟨rfl, rfl⟩]
    generalize sI h2 65 n c = h3 at F3 k3 g3 ⊢
    have H3 := Fr_SHP F3 H
    rw [pp_51_30 H3, bs, k3 51 (by decide), k2 51 (by decide), k1 51 (by decide), h36, ll_66 H3, if_inI hn (by omega), lts, nI_clamp (by omega)]
    have F4 : Fr (fun a j => (a = 64 ∧ 14 * n ≤ j) ∨ (a = 71 ∧ j = p) ∨ ((a = 68 ∨ a = 65 ∨ a = 66 ∨ a = 67) ∧ j = n) ∨ (a = 51 ∧ j = 36)) h (sI h3 66 n f) := Fr_trans F3 (Fr_sI _ _ _ _ (by omega))
    have k4 : ∀ a, a ≠ 66 → hI (sI h3 66 n f) a = hI h3 a := fun a ha => Fr_row (Fr_sI (P := fun a _ => a = 66) _ _ _ _ rfl) (fun _ => ha)
    have g4 : hI (sI h3 66 n f) 66 n = f := by rw [hI_sI, if_pos ⟨rfl, rfl⟩]
    generalize sI h3 66 n f = h4 at F4 k4 g4 ⊢
    have H4 := Fr_SHP F4 H
    rw [pp_51_31 H4, bs, k4 51 (by decide), k3 51 (by decide), k2 51 (by decide), k1 51 (by decide), h36, ll_67 H4, if_inI hn (by omega), lts, nI_clamp (by omega)]
    have F5 : Fr (fun a j => (a = 64 ∧ 14 * n ≤ j) ∨ (a = 71 ∧ j = p) ∨ ((a = 68 ∨ a = 65 ∨ a = 66 ∨ a = 67) ∧ j = n) ∨ (a = 51 ∧ j = 36)) h (sI h4 67 n b) := Fr_trans F4 (Fr_sI _ _ _ _ (by omega))
    have k5 : ∀ a, a ≠ 67 → hI (sI h4 67 n b) a = hI h4 a := fun a ha => Fr_row (Fr_sI (P := fun a _ => a = 67) _ _ _ _ rfl) (fun _ => ha)
    have g5 : hI (sI h4 67 n b) 67 n = b := by rw [hI_sI, if_pos ⟨rfl, rfl⟩]
    generalize sI h4 67 n b = h5 at F5 k5 g5 ⊢
    rw [lts, k5 51 (by decide), k4 51 (by decide), k3 51 (by decide), k2 51 (by decide), k1 51 (by decide), h36, nI_1]
    have F6 : Fr (fun a j => (a = 64 ∧ 14 * n ≤ j) ∨ (a = 71 ∧ j = p) ∨ ((a = 68 ∨ a = 65 ∨ a = 66 ∨ a = 67) ∧ j = n) ∨ (a = 51 ∧ j = 36)) h (sI h5 51 36 (nI (n + 1))) := Fr_trans F5 (Fr_sI _ _ _ _ (by omega))
    have k6 : ∀ a, a ≠ 51 → hI (sI h5 51 36 (nI (n + 1))) a = hI h5 a := fun a ha => Fr_row (Fr_sI (P := fun a _ => a = 51) _ _ _ _ rfl) (fun _ => ha)
    have g6 : hI (sI h5 51 36 (nI (n + 1))) 51 36 = nI (n + 1) := by rw [hI_sI, if_pos ⟨rfl, rfl⟩]
    generalize sI h5 51 36 (nI (n + 1)) = h6 at F6 k6 g6 ⊢
    refine ⟨h6, rfl, fun j hj => ?_, ?_, ?_, ?_, ?_, ?_, g6, Fr_trans (Fr_mono F (fun a j z => Or.inl z)) F6⟩
    · rw [k6 64 (by decide), k5 64 (by decide), k4 64 (by decide), k3 64 (by decide), k2 64 (by decide), k1 64 (by decide)]; exact E j (by omega)
    · rw [k6 71 (by decide), k5 71 (by decide), k4 71 (by decide), k3 71 (by decide), k2 71 (by decide)]; exact g1
    · rw [k6 68 (by decide), k5 68 (by decide), k4 68 (by decide), k3 68 (by decide)]; exact g2
    · rw [k6 65 (by decide), k5 65 (by decide), k4 65 (by decide)]; exact g3
    · rw [k6 66 (by decide), k5 66 (by decide)]; exact g4
    · rw [k6 67 (by decide)]; exact g5
  | succ m ih =>
    intro k g h hk hg M h36 E F
    obtain ⟨g, rfl⟩ : ∃ k, g = k + 1 := ⟨g - 1, by omega⟩
    have H := M.1
    rw [f_X8_comes_3, if_neg (show ¬ (14 : Int32) ≤ nI k from nI_ge (b := 14) (by omega) (by decide)), pp_51_28 H, bs, m_cellOf M (by omega), bs, h36, show (14 : Int32) = nI 14 from rfl, pk_mul, nI_add, ll_64 H, if_inI (by omega) (by omega), lts, nI_clamp (by omega), nI_1]
    have F1 : Fr (fun a j => a = 64 ∧ 14 * n ≤ j) h (sI h 64 (14 * n + k) (ce δ k)) := Fr_sI _ _ _ _ ⟨rfl, by omega⟩
    refine ih (k + 1) g _ (by omega) (by omega) (Am_Fr F1 (fun j z => by omega) M) (by rw [F1.2.2.2 51 36 (fun z => by omega)]; exact h36) (fun j hj => ?_) (Fr_trans F F1)
    rw [hI_sI]
    by_cases ej : j = k
    · subst ej; rw [if_pos ⟨rfl, rfl⟩]
    · rw [if_neg (fun z => ej (by omega))]
      exact E j (by omega)
