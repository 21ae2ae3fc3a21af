/-! ===== the reference: a tip is done; tips by numbers; runs ===== -/
theorem hI_sI_s (h : Hp) (v k : Nat) (x : Int32) : hI (sI h v k x) v = upd (hI h v) k x := by rw [sI_pR, hI_pR_s]
theorem Am_w {h : Hp} {α : SA} (M : Am h α) (D : Dm α) {k i : Nat} (x : Int32) (hi : i < rgn α k) (hd : k = 0 → i ≠ 0 ∧ i ≠ 1 ∧ i ≠ 7) : Am (sI h 62 (ad k i) x) (sr α k (upd (α k) i x)) := ⟨Fr_SHP (P := fun a _ => a = 62) (Fr_sI _ _ _ _ rfl) M.1, by rw [hI_sI_s]; exact Sd_w M.2 D x hi hd⟩
def atM (α : SA) (x : Int32) : Nat → SA
  | 0 => α
  | b + 1 => sr α 5 (upd (α 5) b x)
theorem atM_o (α : SA) (x : Int32) (d : Nat) {a : Nat} (ha : a ≠ 5) : atM α x d a = α a := by
  cases d with
  | zero => rfl
  | succ b => exact sr_o _ _ ha
def atR (f : Nat → Int32) (x : Int32) : Nat → Nat → Int32
  | 0 => f
  | b + 1 => upd f b x
theorem atM_5 (α : SA) (x : Int32) (d : Nat) : atM α x d 5 = atR (α 5) x d := by
  cases d with
  | zero => rfl
  | succ b => exact sr_s _ _ _
def P62 : Nat → Nat → Prop := fun a _ => a = 62
def dM (α : SA) (k d u : Nat) : SA := prA (atM (atM α (nI (k + 1)) d) (nI k) u) k d u 1
theorem prA_o (α : SA) (k d u : Nat) (g : Int32) {a : Nat} (h0 : a ≠ 0) (h1 : a ≠ 1) : prA α k d u g a = α a := by
  unfold prA
  rw [sr_o _ _ h0, sr_o _ _ h1]
theorem prA_0 (α : SA) (k d u : Nat) (g : Int32) {j : Nat} (h3 : j ≠ 3) (h4 : j ≠ 4) : prA α k d u g 0 j = α 0 j := by
  unfold prA
  rw [sr_s, upd_o _ _ h3, upd_o _ _ h4]
theorem prA_D {α : SA} (D : Dm α) (k d u : Nat) (g : Int32) : Dm (prA α k d u g) := Dm_of (fun j hj => prA_0 _ _ _ _ _ (by omega) (by omega)) D
theorem prA_l (α : SA) (k d u : Nat) (g : Int32) : lvl (prA α k d u g) = lvl α := lvl_of (prA_0 _ _ _ _ _ (by decide) (by decide))
theorem prA_b (α : SA) (k d u : Nat) (g : Int32) : bgs (prA α k d u g) = bgs α := bgs_of (prA_0 _ _ _ _ _ (by decide) (by decide))
theorem atM_D {α : SA} (D : Dm α) (x : Int32) (d : Nat) : Dm (atM α x d) := Dm_of (fun j hj => by rw [atM_o _ _ _ (by decide)]) D
theorem m_does_88 {h : Hp} {α : SA} (M : Am h α) (D : Dm α) {k u : Nat} (hu : u ≤ bgs α) (x y : Int32) : ∃ h', f_X8_does_88 h 51 x (bI u) y = some (y, h') ∧ Am h' (atM α x u) ∧ Fr P62 h h' := by
  have h6 := D.2.2.2.2.1
  unfold f_X8_does_88
  cases u with
  | zero => exact ⟨h, by rw [if_pos (by decide)], M, Fr_refl h⟩
  | succ b =>
    rw [if_neg (fun z => by have := (bI_neg (d := b + 1) (by omega)).mp z; omega), pp_51_26 M.1, bs, show bI (b + 1) = nI b from rfl, ix5, n_4, nI_add, ll_62 M.1, if_inI (by omega) (by omega), lts, nI_clamp (by omega), show 25 + 5 * b + 4 = ad 5 b by show _ = 29 + 5 * b; omega]
    exact ⟨_, rfl, Am_w M D x (show b < bgs α by omega) (by omega), Fr_sI _ _ _ _ rfl⟩
theorem m_does {h : Hp} {α : SA} (M : Am h α) (D : Dm α) {k d u : Nat} (hk : k + 1 < lvl α) (hd : d ≤ bgs α) (hu : u ≤ bgs α) : ∃ h', f_X8_does h 51 (nI k) (bI d) (bI u) = some (Nd α d u, h') ∧ Am h' (dM α k d u) ∧ Fr P62 h h' := by
  have h8 := D.2.2.2.1
  have h6 := D.2.2.2.2.1
  unfold f_X8_does
  rw [m_needOf M D hd hu, bs, pp_51_26 M.1, bs, ix2, ll_62 M.1, if_inI (by omega) (by omega), lts, if_inI (by omega) (by omega), lts, nI_clamp (by omega), show hI h 62 (9 + 2 * k) = α 1 k from am_r M (k := 1) (show k < lvl α by omega)]
  have M1 := Am_w M D (k := 1) (i := k) (α 1 k - Nd α d u) (show k < lvl α by omega) (by omega)
  have D1 : Dm (sr α 1 (upd (α 1) k (α 1 k - Nd α d u))) := Dm_of (fun j _ => by rw [sr_o _ _ (by decide)]) D
  rw [show ad 1 k = 9 + 2 * k from rfl] at M1
  have F1 : Fr P62 h (sI h 62 (9 + 2 * k) (α 1 k - Nd α d u)) := Fr_sI _ _ _ _ rfl
  generalize sI h 62 (9 + 2 * k) (α 1 k - Nd α d u) = h1 at M1 F1 ⊢
  have e1 : lvl (sr α 1 (upd (α 1) k (α 1 k - Nd α d u))) = lvl α := lvl_of (by rw [sr_o _ _ (by decide)])
  rw [pp_51_26 M1.1, bs, n_2, nI_add, show 9 + 2 * k + 2 = 9 + 2 * (k + 1) by omega, ll_62 M1.1, if_inI (by omega) (by omega), lts, if_inI (by omega) (by omega), lts, nI_clamp (by omega), show hI h1 62 (9 + 2 * (k + 1)) = α 1 (k + 1) from (am_r M1 (k := 1) (show k + 1 < lvl _ by rw [e1]; exact hk)).trans (by rw [sr_s, upd_o _ _ (by omega)])]
  have M2 := Am_w M1 D1 (k := 1) (i := k + 1) (α 1 (k + 1) + Nd α d u) (show k + 1 < lvl _ by rw [e1]; exact hk) (by omega)
  rw [sr_sr, sr_s, show ad 1 (k + 1) = 9 + 2 * (k + 1) from rfl] at M2
  have D2 : Dm (sr α 1 (upd (upd (α 1) k (α 1 k - Nd α d u)) (k + 1) (α 1 (k + 1) + Nd α d u))) := Dm_of (fun j _ => by rw [sr_o _ _ (by decide)]) D
  have F2 : Fr P62 h (sI h1 62 (9 + 2 * (k + 1)) (α 1 (k + 1) + Nd α d u)) := Fr_trans F1 (Fr_sI _ _ _ _ rfl)
  generalize sI h1 62 (9 + 2 * (k + 1)) (α 1 (k + 1) + Nd α d u) = h2 at M2 F2 ⊢
  rw [pp_51_26 M2.1, bs, ll_62 M2.1, if_pos (by decide), if_pos (by decide), lts, am_4 M2, sr_o _ _ (by decide)]
  have M3 := Am_w M2 D2 (k := 0) (i := 4) (α 0 4 + Nd α d u) (show 4 < 8 by decide) (fun _ => ⟨by decide, by decide, by decide⟩)
  rw [show ad 0 4 = 4 from rfl, sr_o _ _ (show 0 ≠ 1 by decide)] at M3
  have D3 : Dm (sr (sr α 1 (upd (upd (α 1) k (α 1 k - Nd α d u)) (k + 1) (α 1 (k + 1) + Nd α d u))) 0 (upd (α 0) 4 (α 0 4 + Nd α d u))) := Dm_of (fun j hj => by rw [sr_s, upd_o _ _ (by omega)]) D
  have E3 : bgs (sr (sr α 1 (upd (upd (α 1) k (α 1 k - Nd α d u)) (k + 1) (α 1 (k + 1) + Nd α d u))) 0 (upd (α 0) 4 (α 0 4 + Nd α d u))) = bgs α := bgs_of (by rw [sr_s, upd_o _ _ (by decide)])
  have F3 : Fr P62 h (sI h2 62 4 (α 0 4 + Nd α d u)) := Fr_trans F2 (Fr_sI _ _ _ _ rfl)
  generalize sI h2 62 4 (α 0 4 + Nd α d u) = h3 at M3 F3 ⊢
  rw [pp_51_26 M3.1, bs, ll_62 M3.1, if_pos (by decide), m_counted M3 D3 (by rw [E3]; exact hd) (by rw [E3]; exact hu), bs, if_pos (by decide), lts, am_3 M3, sr_s, upd_o _ _ (by decide), Wo_of (α := α) (by rw [sr_o _ _ (by decide), sr_o _ _ (by decide)])]
  have M4 := Am_w M3 D3 (k := 0) (i := 3) (α 0 3 + Wo α d u) (show 3 < 8 by decide) (fun _ => ⟨by decide, by decide, by decide⟩)
  rw [show ad 0 3 = 3 from rfl, sr_sr, sr_s] at M4
  have F4 : Fr P62 h (sI h3 62 3 (α 0 3 + Wo α d u)) := Fr_trans F3 (Fr_sI _ _ _ _ rfl)
  generalize sI h3 62 3 (α 0 3 + Wo α d u) = h4 at M4 F4 ⊢
  have ep : sr (sr α 1 (upd (upd (α 1) k (α 1 k - Nd α d u)) (k + 1) (α 1 (k + 1) + Nd α d u))) 0 (upd (upd (α 0) 4 (α 0 4 + Nd α d u)) 3 (α 0 3 + Wo α d u)) = prA α k d u 1 := by unfold prA; rw [Int32.one_mul, Int32.one_mul]
  rw [ep] at M4
  have D4 := prA_D D k d u 1
  have fin : ∀ h5, Am h5 (atM (atM (prA α k d u 1) (nI (k + 1)) d) (nI k) u) → Am h5 (dM α k d u) := by
    intro h5 M5
    have : atM (atM (prA α k d u 1) (nI (k + 1)) d) (nI k) u = dM α k d u := by
      have h7 : ∀ a, a ≠ 5 → atM (atM α (nI (k + 1)) d) (nI k) u a = α a := fun a ha => (atM_o _ _ _ ha).trans (atM_o _ _ _ ha)
      have hn : Nd (atM (atM α (nI (k + 1)) d) (nI k) u) d u = Nd α d u := Nd_of (h7 6 (by decide)) (h7 7 (by decide)) (by rw [h7 0 (by decide)]) d u
      have hw : Wo (atM (atM α (nI (k + 1)) d) (nI k) u) d u = Wo α d u := Wo_of (h7 7 (by decide)) d u
      unfold dM
      funext a
      by_cases a5 : a = 5
      · subst a5
        rw [prA_o _ _ _ _ _ (by decide) (by decide)]
        rw [atM_5, atM_5, atM_5, atM_5, prA_o _ _ _ _ _ (by decide) (by decide)]
      · rw [atM_o _ _ _ a5, atM_o _ _ _ a5]
        unfold prA
        rw [hn, hw, h7 0 (by decide), h7 1 (by decide)]
        by_cases a0 : a = 0
        · subst a0; rw [sr_s, sr_s]
        · by_cases a1 : a = 1
          · subst a1; rw [sr_o (k := 0) _ _ (by decide), sr_o (k := 0) _ _ (by decide), sr_s, sr_s]
          · rw [sr_o _ _ a0, sr_o _ _ a0, sr_o _ _ a1, sr_o _ _ a1, h7 a a5]
    rw [← this]
    exact M5
  cases d with
  | zero =>
    rw [if_pos (show bI 0 < 0 by decide)]
    obtain ⟨h5, e5, M5, F5⟩ := m_does_88 M4 D4 (k := k) (u := u) (by rw [prA_b]; exact hu) (nI k) (Nd α 0 u)
    exact ⟨h5, e5, fin h5 M5, Fr_trans F4 F5⟩
  | succ b =>
    rw [if_neg (fun z => by have := (bI_neg (d := b + 1) (by omega)).mp z; omega), pp_51_26 M4.1, bs, show bI (b + 1) = nI b from rfl, ix5, n_4, nI_add, ll_62 M4.1, if_inI (by omega) (by omega), lts, nI_clamp (by omega), show 25 + 5 * b + 4 = ad 5 b by show _ = 29 + 5 * b; omega, nI_1]
    have M5 := Am_w M4 D4 (k := 5) (i := b) (nI (k + 1)) (show b < bgs _ by rw [prA_b]; omega) (by omega)
    obtain ⟨h6, e6, M6, F6⟩ := m_does_88 M5 (atM_D D4 (nI (k + 1)) (b + 1)) (k := k) (u := u) (by rw [bgs_of (by rw [sr_o _ _ (by decide)]), prA_b]; exact hu) (nI k) (Nd α (b + 1) u)
    exact ⟨h6, e6, fin h6 M6, Fr_trans F4 (Fr_trans (Fr_sI _ _ _ _ rfl) F6)⟩
theorem dM_dT {α : SA} {k d u : Nat} (h1 : Rd α k 0 d = true) (h2 : Rd α (k + 1) 1 u = true) : dM α k d u = dT α k d u 1 := by
  unfold dM dT mvB
  have e : atM (atM α (nI (k + 1)) d) (nI k) u = mv1 (mv1 α 1 d) (-1) u := by
    cases d with
    | zero =>
      cases u with
      | zero => rfl
      | succ c =>
        have := (of_decide_eq_true h2).1
        show sr α 5 (upd (α 5) c (nI k)) = sr α 5 (upd (α 5) c (α 5 c + -1))
        rw [this, pk_m1]
    | succ b =>
      have hb := of_decide_eq_true h1
      have e1 : mv1 α 1 (b + 1) = atM α (nI (k + 1)) (b + 1) := by
        show sr α 5 (upd (α 5) b (α 5 b + 1)) = sr α 5 (upd (α 5) b (nI (k + 1)))
        rw [hb.1, nI_1]
      rw [e1]
      cases u with
      | zero => rfl
      | succ c =>
        have hc := of_decide_eq_true h2
        have hbc : c ≠ b := by
          rintro rfl
          rw [hb.2] at hc
          exact absurd hc.2 (by decide)
        show sr _ 5 (upd _ c (nI k)) = sr _ 5 (upd _ c (atM α (nI (k + 1)) (b + 1) 5 c + -1))
        rw [show atM α (nI (k + 1)) (b + 1) 5 c = nI (k + 1) by show sr α 5 _ 5 c = _; rw [sr_s, upd_o _ _ hbc]; exact hc.1, pk_m1]
  rw [e]
theorem lgl_t {α : SA} {rl : RLT} {n : Nat} (h : lgl α rl n = true) : ¬ (td α n = 0 ∧ tu α n = 0) ∧ Lw α rl (tk α n) (td α n) (tu α n) = 0 := of_decide_eq_true h
theorem Lw_0 {α : SA} {rl : RLT} {k d u : Nat} (h : Lw α rl k d u = 0) : Rd α k 0 d = true ∧ Rd α (k + 1) 1 u = true ∧ Nd α d u ≤ α 1 k := by
  unfold Lw at h
  by_cases h1 : α 3 k = 0
  · rw [if_pos h1] at h; exact absurd h (by decide)
  · rw [if_neg h1] at h
    by_cases h2 : (Rd α k 0 d && Rd α (k + 1) 1 u) = false
    · rw [if_pos h2] at h; exact absurd h (by decide)
    · rw [if_neg h2] at h
      by_cases h3 : (Se α k (Cn α k + mo d u) && Se α (k + 1) (Cn α (k + 1) - mo d u)) = false
      · rw [if_pos h3] at h; exact absurd h (by decide)
      · rw [if_neg h3] at h
        by_cases h4 : Nd α d u ≤ α 1 k
        · have : (Rd α k 0 d && Rd α (k + 1) 1 u) = true := by simpa using h2
          rw [Bool.and_eq_true] at this
          exact ⟨this.1, this.2, h4⟩
        · rw [if_neg h4] at h; exact absurd h (by decide)
theorem tM_le {α : SA} (D : Dm α) : tM α ≤ 343 := by
  have h8 := D.2.2.2.1
  have h6 := D.2.2.2.2.1
  unfold tM tB
  have a1 : (bgs α + 1) * (bgs α + 1) ≤ 7 * 7 := Nat.mul_le_mul (by omega) (by omega)
  have a2 := Nat.mul_le_mul (show lvl α - 1 ≤ 7 by omega) a1
  omega
theorem tk_lt {α : SA} {n : Nat} (hn : n < tM α) : tk α n + 1 < lvl α := by
  have : tk α n < lvl α - 1 := by
    unfold tk
    unfold tM at hn
    exact (Nat.div_lt_iff_lt_mul (Nat.mul_pos (by unfold tB; omega) (by unfold tB; omega))).mpr hn
  omega
theorem m_tipMany {h : Hp} {α : SA} (M : Am h α) (D : Dm α) : f_X8_tipMany h 51 = some (nI (tM α)) := by
  have h8 := D.2.2.2.1
  have h6 := D.2.2.2.2.1
  unfold f_X8_tipMany
  rw [pp_51_26 M.1, bs, ll_62 M.1, if_pos (by decide), am_0 M, D.1]
  by_cases h0 : lvl α = 0
  · rw [if_pos (by rw [h0]; rfl)]
    unfold tM
    rw [h0, Nat.zero_sub, Nat.zero_mul]
    rfl
  · rw [if_neg (nI_ne0 (by omega) (by omega)), bs, ll_62 M.1, if_pos (by decide), bs, ll_62 M.1, if_pos (by decide), bs, ll_62 M.1, if_pos (by decide), am_0 M, am_1 M, D.1, D.2.1, nI_1, n_1, pk_sub (by omega), pk_mul, pk_mul]
    unfold tM tB
    rw [Nat.mul_assoc]
theorem m_stepBy {h : Hp} {α : SA} (M : Am h α) (D : Dm α) {n : Nat} (hn : n < 400) : f_X8_stepBy h 51 (nI n) = some (nI (tk α n)) := by
  have h6 := D.2.2.2.2.1
  have a1 : (bgs α + 1) * (bgs α + 1) ≤ 7 * 7 := Nat.mul_le_mul (by omega) (by omega)
  have a2 : 0 < (bgs α + 1) * (bgs α + 1) := Nat.mul_pos (by omega) (by omega)
  unfold f_X8_stepBy
  rw [pp_51_26 M.1, bs, ll_62 M.1, if_pos (by decide), bs, ll_62 M.1, if_pos (by decide), am_1 M, D.2.1, nI_1, pk_mul, if_pos (nI_ne0 a2 (by omega)), pk_div (by omega) a2 (by omega)]
  rfl
theorem m_downBy {h : Hp} {α : SA} (M : Am h α) (D : Dm α) {n : Nat} (hn : n < 400) : f_X8_downBy h 51 (nI n) = some (bI (td α n)) := by
  have h6 := D.2.2.2.2.1
  have hm : n / (bgs α + 1) % (bgs α + 1) < bgs α + 1 := Nat.mod_lt _ (by omega)
  have hd : n / (bgs α + 1) ≤ n := Nat.div_le_self _ _
  unfold f_X8_downBy
  rw [pp_51_26 M.1, bs, ll_62 M.1, if_pos (by decide), am_1 M, D.2.1, nI_1, if_pos (nI_ne0 (by omega) (by omega)), bs, ll_62 M.1, if_pos (by decide), am_1 M, D.2.1, nI_1, if_pos (nI_ne0 (by omega) (by omega)), lts, bs, ll_62 M.1, if_pos (by decide), am_1 M, D.2.1, pk_div (by omega) (by omega) (by omega), pk_rem (by omega) (by omega) (by omega)]
  unfold td tdi tB
  by_cases h1 : n / (bgs α + 1) % (bgs α + 1) < bgs α
  · rw [if_pos h1, if_neg (by rw [nI_eq (by omega) (by omega)]; omega)]
    rfl
  · rw [if_neg h1, if_pos (by rw [nI_eq (by omega) (by omega)]; omega)]
    rfl
theorem m_upBy {h : Hp} {α : SA} (M : Am h α) (D : Dm α) {n : Nat} (hn : n < 400) : f_X8_upBy h 51 (nI n) = some (bI (tu α n)) := by
  have h6 := D.2.2.2.2.1
  have hm : n % (bgs α + 1) < bgs α + 1 := Nat.mod_lt _ (by omega)
  unfold f_X8_upBy
  rw [pp_51_26 M.1, bs, ll_62 M.1, if_pos (by decide), am_1 M, D.2.1, nI_1, if_pos (nI_ne0 (by omega) (by omega)), lts, bs, ll_62 M.1, if_pos (by decide), am_1 M, D.2.1, pk_rem (by omega) (by omega) (by omega)]
  unfold tu tdi tB
  by_cases h1 : n % (bgs α + 1) < bgs α
  · rw [if_pos h1, if_neg (by rw [nI_eq (by omega) (by omega)]; omega)]
    rfl
  · rw [if_neg h1, if_pos (by rw [nI_eq (by omega) (by omega)]; omega)]
    rfl
theorem m_mayBe {h : Hp} {N : Nat} {α : SA} {rl : RLT} (M : Am h α) (D : Dm α) (hN : 20 ≤ N) (R : Rm N h (α 0 5) rl) {n : Nat} (hn : n < tM α) : ∃ h', f_X8_mayBe N h 51 (nI n) = some (b2i (lgl α rl n), h') ∧ Fr PM h h' := by
  have h6 := D.2.2.2.2.1
  have hM := tM_le D
  have hd := td_le α n
  have hu := tu_le α n
  have key : ∃ h', f_X8_mayBe_16 N h 51 (nI n) = some (b2i (decide (Lw α rl (tk α n) (td α n) (tu α n) = 0)), h') ∧ Fr PM h h' := by
    unfold f_X8_mayBe_16
    rw [m_stepBy M D (by omega), bs, m_downBy M D (by omega), bs, m_upBy M D (by omega), bs]
    obtain ⟨h1, e, F⟩ := m_law M D hN R (tk_lt hn) hd hu
    rw [e, b2s]
    refine ⟨h1, ?_, F⟩
    unfold b2i
    by_cases h3 : Lw α rl (tk α n) (td α n) (tu α n) = 0
    · rw [if_pos h3, if_pos (by simp [h3])]
    · rw [if_neg h3, if_neg (by simp [h3])]
  unfold f_X8_mayBe
  rw [m_downBy M D (by omega), bs]
  by_cases h1 : td α n = 0
  · rw [if_neg (fun z => (bI_pos (by omega)).mp z h1), m_upBy M D (by omega), bs]
    by_cases h2 : tu α n = 0
    · rw [if_pos ((bI_neg (by omega)).mpr h2)]
      refine ⟨h, ?_, Fr_refl h⟩
      unfold lgl b2i
      rw [if_neg (by simp [h1, h2])]
    · rw [if_neg (fun z => h2 ((bI_neg (by omega)).mp z))]
      obtain ⟨h', e, F⟩ := key
      refine ⟨h', ?_, F⟩
      rw [e]
      unfold lgl
      simp [h2]
  · rw [if_pos ((bI_pos (by omega)).mpr h1)]
    obtain ⟨h', e, F⟩ := key
    refine ⟨h', ?_, F⟩
    rw [e]
    unfold lgl
    simp [h1]
theorem Am_PM {a b : Hp} (F : Fr PM a b) {α : SA} (H : Am a α) : Am b α := Am_Fr F (fun j z => by have := z.1; omega) H
theorem Rm_PM {a b : Hp} (F : Fr PM a b) {N : Nat} {r : Int32} {rl : RLT} (H : Rm N a r rl) : Rm N b r rl := Rm_Fr F (fun j z => by have := z.1; omega) (fun j z => by have := z.1; omega) (fun j z => by have := z.1; omega) H
theorem Rm_62 {a b : Hp} (F : Fr P62 a b) {N : Nat} {r : Int32} {rl : RLT} (H : Rm N a r rl) : Rm N b r rl := Rm_Fr F (fun j (z : 53 = 62) => by omega) (fun j (z : 55 = 62) => by omega) (fun j (z : 56 = 62) => by omega) H
def hdI : List Nat → Int32
  | [] => -1
  | x :: _ => nI x
theorem m_first_l {N : Nat} {α : SA} {rl : RLT} (D : Dm α) (hN : 20 ≤ N) : ∀ (m n f : Nat) (h : Hp), n + m = tM α → m < f → Am h α → Rm N h (α 0 5) rl → ∃ h', f_X8_firstFrom_2 N f h 51 (nI n) = some (hdI (LF (lgl α rl) m n), h') ∧ Fr PM h h' := by
  have hM := tM_le D
  intro m
  induction m with
  | zero =>
    intro n f h hn hf M R
    obtain ⟨f, rfl⟩ : ∃ k, f = k + 1 := ⟨f - 1, by omega⟩
    rw [f_X8_firstFrom_2, m_tipMany M D, bs, if_pos (nI_le (by omega) (by omega))]
    exact ⟨h, rfl, Fr_refl h⟩
  | succ m ih =>
    intro n f h hn hf M R
    obtain ⟨f, rfl⟩ : ∃ k, f = k + 1 := ⟨f - 1, by omega⟩
    rw [f_X8_firstFrom_2, m_tipMany M D, bs, if_neg (nI_ge (by omega) (by omega))]
    obtain ⟨h1, e1, F1⟩ := m_mayBe M D hN R (n := n) (by omega)
    rw [e1, b2s, LF]
    by_cases h2 : lgl α rl n = true
    · rw [if_neg (by rw [b2i_0, h2]; decide), if_pos h2]
      exact ⟨h1, rfl, F1⟩
    · rw [if_pos (by rw [b2i_0]; simpa using h2), if_neg h2, nI_1]
      obtain ⟨h', e', F'⟩ := ih (n + 1) f h1 (by omega) (by omega) (Am_PM F1 M) (Rm_PM F1 R)
      exact ⟨h', e', Fr_trans F1 F'⟩
theorem m_first {h : Hp} {N : Nat} {α : SA} {rl : RLT} (M : Am h α) (D : Dm α) (hN : 400 ≤ N) (R : Rm N h (α 0 5) rl) {n : Nat} (hn : n ≤ tM α) : ∃ h', f_X8_firstFrom N h 51 (nI n) = some (hdI (LF (lgl α rl) (tM α - n) n), h') ∧ Fr PM h h' := m_first_l D (by omega) (tM α - n) n N h (by omega) (by have := tM_le D; omega) M R
theorem LF_mem {p : Nat → Bool} : ∀ (m n x : Nat), x ∈ LF p m n → p x = true ∧ n ≤ x ∧ x < n + m
  | 0, _, _, h => by cases h
  | m + 1, n, x, h => by
    rw [LF] at h
    by_cases h1 : p n = true
    · rw [if_pos h1] at h
      rcases List.mem_cons.mp h with h | h
      · subst h; exact ⟨h1, by omega, by omega⟩
      · obtain ⟨a, b, c⟩ := LF_mem m (n + 1) x h
        exact ⟨a, by omega, by omega⟩
    · rw [if_neg h1] at h
      obtain ⟨a, b, c⟩ := LF_mem m (n + 1) x h
      exact ⟨a, by omega, by omega⟩
theorem TL_mem {α : SA} {rl : RLT} {x : Nat} (h : x ∈ TL α rl) : lgl α rl x = true ∧ x < tM α := by
  obtain ⟨a, _, c⟩ := LF_mem _ _ _ h
  exact ⟨a, by omega⟩
/-- the x-th tip done or undone -/
def dN (α : SA) (x : Nat) (g : Int32) : SA := dT α (tk α x) (td α x) (tu α x) g
theorem dT_0 (α : SA) (k d u : Nat) (g : Int32) {j : Nat} (h3 : j ≠ 3) (h4 : j ≠ 4) : dT α k d u g 0 j = α 0 j := by
  unfold dT
  rw [prA_0 _ _ _ _ _ h3 h4, mvB_0]
theorem dT_D {α : SA} (D : Dm α) (k d u : Nat) (g : Int32) : Dm (dT α k d u g) := Dm_of (fun j hj => dT_0 _ _ _ _ _ (by omega) (by omega)) D
/-- n tips of a run -/
def RN (rl : RLT) : Nat → SA → Nat × SA
  | 0, α => (0, α)
  | n + 1, α => match TL α rl with
    | [] => (0, α)
    | x :: _ => ((RN rl n (dN α x 1)).1 + 1, (RN rl n (dN α x 1)).2)
theorem m_tipx {h : Hp} {α : SA} {rl : RLT} (M : Am h α) (D : Dm α) {x : Nat} (hx : x ∈ TL α rl) : ∃ h', f_X8_stepBy h 51 (nI x) = some (nI (tk α x)) ∧ f_X8_downBy h 51 (nI x) = some (bI (td α x)) ∧ f_X8_upBy h 51 (nI x) = some (bI (tu α x)) ∧ f_X8_does h 51 (nI (tk α x)) (bI (td α x)) (bI (tu α x)) = some (Nd α (td α x) (tu α x), h') ∧ Am h' (dN α x 1) ∧ Fr P62 h h' := by
  have hM := tM_le D
  obtain ⟨h1, h2⟩ := TL_mem hx
  obtain ⟨h3, h4, _⟩ := Lw_0 (lgl_t h1).2
  obtain ⟨h', e, M', F⟩ := m_does M D (tk_lt h2) (td_le α x) (tu_le α x)
  rw [dM_dT h3 h4] at M'
  exact ⟨h', m_stepBy M D (by omega), m_downBy M D (by omega), m_upBy M D (by omega), e, M', F⟩
theorem PD_62 {a b : Hp} (F : Fr P62 a b) : Fr PD a b := Fr_mono F (fun _ _ z => Or.inl z)
theorem PD_M {a b : Hp} (F : Fr PM a b) : Fr PD a b := Fr_mono F (fun _ _ z => Or.inr z)
theorem Rm_PD {a b : Hp} (F : Fr PD a b) {N : Nat} {r : Int32} {rl : RLT} (H : Rm N a r rl) : Rm N b r rl := by
  refine Rm_Fr F (fun j z => ?_) (fun j z => ?_) (fun j z => ?_) H
  all_goals exact Or.elim z (fun w => absurd w (by decide)) (fun w => absurd w.1 (by decide))
theorem m_runs_l {N : Nat} {rl : RLT} (hN : 400 ≤ N) : ∀ (m d f : Nat) (h : Hp) (α : SA), d + m < 1000 → m < f → Am h α → Dm α → Rm N h (α 0 5) rl → ∃ h', f_X8_runs_2 N f h 51 (nI (d + m)) (nI d) = some (nI (d + (RN rl m α).1), h') ∧ Am h' (RN rl m α).2 ∧ Fr PD h h' := by
  intro m
  induction m with
  | zero =>
    intro d f h α hd hf M D R
    obtain ⟨f, rfl⟩ : ∃ k, f = k + 1 := ⟨f - 1, by omega⟩
    rw [f_X8_runs_2, if_pos (nI_le (by omega) (by omega))]
    exact ⟨h, rfl, M, Fr_refl h⟩
  | succ m ih =>
    intro d f h α hd hf M D R
    obtain ⟨f, rfl⟩ : ∃ k, f = k + 1 := ⟨f - 1, by omega⟩
    obtain ⟨h1, e1, F1⟩ := m_first M D hN R (n := 0) (by omega)
    rw [f_X8_runs_2, if_neg (nI_ge (by omega) (by omega)), show (0 : Int32) = nI 0 from rfl, e1, b2s, Nat.sub_zero, show LF (lgl α rl) (tM α) 0 = TL α rl from rfl, RN]
    have M1 := Am_PM F1 M
    cases hT : TL α rl with
    | nil =>
      rw [if_neg (by decide)]
      exact ⟨h1, rfl, M1, PD_M F1⟩
    | cons x l =>
      have hx : x ∈ TL α rl := by rw [hT]; exact List.mem_cons_self
      have hM := tM_le D
      have := (TL_mem hx).2
      rw [show hdI (x :: l) = nI x from rfl, if_pos (show nI 0 ≤ nI x from nI_pos' (by omega))]
      obtain ⟨h2, a1, a2, a3, a4, M2, F2⟩ := m_tipx M1 D hx
      rw [a1, bs, a2, bs, a3, bs, a4, b2s, nI_1, show d + (m + 1) = d + 1 + m by omega]
      obtain ⟨h3, e3, M3, F3⟩ := ih (d + 1) f h2 (dN α x 1) (by omega) (by omega) M2 (dT_D D _ _ _ _) (by
        rw [show dN α x 1 0 5 = α 0 5 from dT_0 _ _ _ _ _ (by decide) (by decide)]
        exact Rm_62 F2 (Rm_PM F1 R))
      refine ⟨h3, ?_, M3, Fr_trans (PD_M F1) (Fr_trans (PD_62 F2) F3)⟩
      rw [e3, show d + 1 + (RN rl m (dN α x 1)).1 = d + ((RN rl m (dN α x 1)).1 + 1) by omega]
theorem m_runs {h : Hp} {N n : Nat} {α : SA} {rl : RLT} (M : Am h α) (D : Dm α) (hN : 400 ≤ N) (R : Rm N h (α 0 5) rl) (hn : n ≤ 200) : ∃ h', f_X8_runs N h 51 (nI n) = some (nI (RN rl n α).1, h') ∧ Am h' (RN rl n α).2 ∧ Fr PD h h' := by
  have := m_runs_l hN n 0 N h α (by omega) (by omega) M D R
  rw [Nat.zero_add, Nat.zero_add] at this
  exact this
/-! ===== the class: runs ===== -/
theorem c_tipx {h : Hp} {s : Nat} {α : SA} {rl : RLT} (A : Ac h s α) (D : Dm α) {x : Nat} (hx : x ∈ TL α rl) : ∃ h', f_X5_doTip h s (nI (tc α x)) = some h' ∧ Ac h' s (dN α x 1) ∧ Fr (PS s) h h' := c_doTip A D (tk_lt (TL_mem hx).2) (td_le α x) (tu_le α x)
theorem c_runs_l {N s : Nat} {v1 : Option Nat} {rl : RLT} (hN : 400 ≤ N) (hv : ∀ q, v1 = some q → q + 1 < s ∨ s + 11 < q + 1) : ∀ (m d f : Nat) (h : Hp) (α : SA), d + m < 1000 → m < f → Ac h s α → Dm α → 0 < lvl α → Rc N h v1 rl → ∃ h', f_X5_runTips_2 N f h s v1 (nI (d + m)) (nI d) = some (nI (d + (RN rl m α).1), h') ∧ Ac h' s (RN rl m α).2 ∧ Fr (PS s) h h' := by
  intro m
  induction m with
  | zero =>
    intro d f h α hd hf A D h0 R
    obtain ⟨f, rfl⟩ : ∃ k, f = k + 1 := ⟨f - 1, by omega⟩
    rw [f_X5_runTips_2, if_pos (nI_le (by omega) (by omega))]
    exact ⟨h, rfl, A, Fr_refl h⟩
  | succ m ih =>
    intro d f h α hd hf A D h0 R
    obtain ⟨f, rfl⟩ : ∃ k, f = k + 1 := ⟨f - 1, by omega⟩
    have X : Gx N s (s + 11) 16 v1 α rl h := ⟨A, R, ac_l11 A⟩
    obtain ⟨h1, e1, g1, F1⟩ := c_gather (v2 := s + 11) (most := 1) D (by omega) (by omega) (fun q hq => by have := hv q hq; omega) (by decide) (by decide) h0 X
    rw [f_X5_runTips_2, if_neg (nI_ge (by omega) (by omega)), ac_p18 A, bs, show (1 : Int32) = nI 1 from rfl, e1, b2s, RN]
    have F1' : Fr (PS s) h h1 := Fr_mono F1 (fun a j z => by subst z; exact ⟨by omega, by omega⟩)
    have X1 := Gx_w F1 (fun a j z => z) (by omega) (fun q hq => by have := hv q hq; omega) X
    cases hT : TL α rl with
    | nil =>
      rw [List.take_nil, if_pos (by decide)]
      exact ⟨h1, rfl, X1.1, F1'⟩
    | cons x l =>
      have hx : x ∈ TL α rl := by rw [hT]; exact List.mem_cons_self
      rw [hT] at g1
      have g0 := g1 0 (by simp)
      rw [if_neg (show ¬ nI ((x :: l).take 1).length ≤ 0 by simp only [List.take_succ_cons, List.take_zero, List.length_cons, List.length_nil]; decide), ac_p18 X1.1, bs, ac_l11 X1.1, if_pos (by decide), g0]
      obtain ⟨h2, a4, M2, F2⟩ := c_tipx X1.1 D hx
      rw [show List.getD ((x :: l).take 1) 0 0 = x by simp, a4, bs, show nI d + nI 1 = nI (d + 1) from nI_add d 1, show d + (m + 1) = d + 1 + m by omega]
      obtain ⟨h3, e3, M3, F3⟩ := ih (d + 1) f h2 (dN α x 1) (by omega) (by omega) M2 (dT_D D _ _ _ _) (by rw [show lvl (dN α x 1) = lvl α from lvl_of (dT_0 _ _ _ _ _ (by decide) (by decide))]; exact h0) (Rc_Fr F2 (fun q j hq z => by have := hv q hq; have := z.1; have := z.2; omega) X1.2.1)
      refine ⟨h3, ?_, M3, Fr_trans F1' (Fr_trans F2 F3)⟩
      rw [e3, show d + 1 + (RN rl m (dN α x 1)).1 = d + ((RN rl m (dN α x 1)).1 + 1) by omega]
theorem c_runs {h : Hp} {N s n : Nat} {α : SA} {v1 : Option Nat} {rl : RLT} (A : Ac h s α) (D : Dm α) (hN : 400 ≤ N) (h0 : 0 < lvl α) (hv : ∀ q, v1 = some q → q + 1 < s ∨ s + 11 < q + 1) (R : Rc N h v1 rl) (hn : n ≤ 200) : ∃ h', f_X5_runTips N h s v1 (nI n) = some (nI (RN rl n α).1, h') ∧ Ac h' s (RN rl n α).2 ∧ Fr (PS s) h h' := by
  have := c_runs_l hN hv n 0 N h α (by omega) (by omega) A D h0 R
  rw [Nat.zero_add, Nat.zero_add] at this
  exact this
