/-! ===== calls: smuggled ===== -/
def bkN (α : SA) (k : Nat) : Nat := (α 10 k).toNatClampNeg
def bkS (α : SA) (k : Nat) : Nat := bkN α k / 49
def bkD (α : SA) (k : Nat) : Nat := bkN α k % 49 / 7
def bkU (α : SA) (k : Nat) : Nat := bkN α k % 7
theorem bk_of {α : SA} (D : Dm α) {k s d u : Nat} (h1 : s + 1 < lvl α) (h2 : d ≤ bgs α) (h3 : u ≤ bgs α) (h : α 10 k = nI (cd s d u)) : bkS α k = s ∧ bkD α k = d ∧ bkU α k = u ∧ bkN α k = cd s d u := by
  have h8 := D.2.2.2.1
  have h6 := D.2.2.2.2.1
  have e : bkN α k = cd s d u := by
    unfold bkN
    rw [h, nI_clamp (by unfold cd; omega)]
  unfold bkS bkD bkU
  rw [e]
  unfold cd
  exact ⟨by omega, by omega, by omega, rfl⟩
/-- the book's tips are such as may be told -/
def Bkd (α : SA) : Prop := ∀ k, k < bks α → bkS α k + 1 < lvl α ∧ bkD α k ≤ bgs α ∧ bkU α k ≤ bgs α ∧ α 10 k = nI (cd (bkS α k) (bkD α k) (bkU α k))
theorem Bkd_of {σ : Nat → Int32} {α : SA} (D : Dm α) (S : Sd σ α) : Bkd α := by
  intro k hk
  obtain ⟨s, d, u, a1, a2, a3, _, _, _, a7⟩ := S.2.2.1 k hk
  obtain ⟨e1, e2, e3, e4⟩ := bk_of D a1 a2 a3 a7
  rw [e1, e2, e3]
  exact ⟨a1, a2, a3, a7⟩
def prs (γ : SA) : Nat → SA
  | 0 => γ
  | k + 1 => prA (prs γ k) (bkS γ k) (bkD γ k) (bkU γ k) 1
def dms (γ : SA) : Nat → SA
  | 0 => γ
  | k + 1 => dM (dms γ k) (bkS γ k) (bkD γ k) (bkU γ k)
theorem dM_o (α : SA) (k d u : Nat) {a : Nat} (h0 : a ≠ 0) (h1 : a ≠ 1) (h5 : a ≠ 5) : dM α k d u a = α a := by
  unfold dM
  rw [prA_o _ _ _ _ _ h0 h1, atM_o _ _ _ h5, atM_o _ _ _ h5]
theorem dM_0 (α : SA) (k d u : Nat) {j : Nat} (h3 : j ≠ 3) (h4 : j ≠ 4) : dM α k d u 0 j = α 0 j := by
  unfold dM
  rw [prA_0 _ _ _ _ _ h3 h4, atM_o _ _ _ (by decide), atM_o _ _ _ (by decide)]
theorem prs_o (γ : SA) : ∀ k a, a ≠ 0 → a ≠ 1 → prs γ k a = γ a
  | 0, _, _, _ => rfl
  | k + 1, a, h0, h1 => (prA_o _ _ _ _ _ h0 h1).trans (prs_o γ k a h0 h1)
theorem prs_0 (γ : SA) : ∀ k j, j ≠ 3 → j ≠ 4 → prs γ k 0 j = γ 0 j
  | 0, _, _, _ => rfl
  | k + 1, j, h3, h4 => (prA_0 _ _ _ _ _ h3 h4).trans (prs_0 γ k j h3 h4)
theorem dms_o (γ : SA) : ∀ k a, a ≠ 0 → a ≠ 1 → a ≠ 5 → dms γ k a = γ a
  | 0, _, _, _, _ => rfl
  | k + 1, a, h0, h1, h5 => (dM_o _ _ _ _ h0 h1 h5).trans (dms_o γ k a h0 h1 h5)
theorem dms_0 (γ : SA) : ∀ k j, j ≠ 3 → j ≠ 4 → dms γ k 0 j = γ 0 j
  | 0, _, _, _ => rfl
  | k + 1, j, h3, h4 => (dM_0 _ _ _ _ h3 h4).trans (dms_0 γ k j h3 h4)
theorem prA_1 (α : SA) (k d u : Nat) : prA α k d u 1 1 = upd (upd (α 1) k (α 1 k - Nd α d u)) (k + 1) (α 1 (k + 1) + Nd α d u) := by
  unfold prA
  rw [sr_o _ _ (by decide), sr_s, Int32.one_mul]
theorem both_1 (γ : SA) : ∀ k, dms γ k 1 = prs γ k 1
  | 0 => rfl
  | k + 1 => by
    show dM (dms γ k) (bkS γ k) (bkD γ k) (bkU γ k) 1 = prA (prs γ k) (bkS γ k) (bkD γ k) (bkU γ k) 1 1
    unfold dM
    rw [prA_1, prA_1, atM_o _ _ _ (by decide), atM_o _ _ _ (by decide), both_1 γ k]
    have : Nd (atM (atM (dms γ k) (nI (bkS γ k + 1)) (bkD γ k)) (nI (bkS γ k)) (bkU γ k)) (bkD γ k) (bkU γ k) = Nd (prs γ k) (bkD γ k) (bkU γ k) := Nd_of (by rw [atM_o _ _ _ (by decide), atM_o _ _ _ (by decide), dms_o _ _ _ (by decide) (by decide) (by decide), prs_o _ _ _ (by decide) (by decide)]) (by rw [atM_o _ _ _ (by decide), atM_o _ _ _ (by decide), dms_o _ _ _ (by decide) (by decide) (by decide), prs_o _ _ _ (by decide) (by decide)]) (by rw [atM_o _ _ _ (by decide), atM_o _ _ _ (by decide), dms_0 _ _ _ (by decide) (by decide), prs_0 _ _ _ (by decide) (by decide)]) _ _
    rw [this]
theorem asB_of {α β : SA} (h1 : β 1 = α 1) (h4 : β 4 = α 4) : ∀ m l, asB β m l = asB α m l
  | 0, _ => rfl
  | m + 1, l => by rw [asB, asB, h1, h4, asB_of h1 h4 m]
theorem both_as (γ : SA) (k : Nat) : asS (dms γ k) = asS (prs γ k) := by
  unfold asS
  rw [lvl_of (dms_0 γ k 0 (by decide) (by decide)), lvl_of (prs_0 γ k 0 (by decide) (by decide))]
  exact asB_of (both_1 γ k) (by rw [dms_o _ _ _ (by decide) (by decide) (by decide), prs_o _ _ _ (by decide) (by decide)]) _ _
theorem c_told_l {N : Nat} {γ : SA} (hN : 5000 ≤ N) (D : Dm γ) (B : Bkd γ) : ∀ (m k f : Nat) (h : Hp), k + m = bks γ → m < f → SHP h → Ac h 15 (prs γ k) → ∃ h', f_X0_isTold_24 N f h 44 (nI k) = some (b2i (asS (prs γ (bks γ))), h') ∧ Fr (PS 15) h h' := by
  have h10 := D.2.2.2.2.2
  have Dk : ∀ k, Dm (prs γ k) := fun k => Dm_of (fun j hj => prs_0 γ k j (by omega) (by omega)) D
  have lk' : ∀ k, lvl (prs γ k) = lvl γ := fun k => lvl_of (prs_0 γ k 0 (by decide) (by decide))
  have bk' : ∀ k, bgs (prs γ k) = bgs γ := fun k => bgs_of (prs_0 γ k 1 (by decide) (by decide))
  intro m
  induction m with
  | zero =>
    intro k f h hk hf H A
    obtain ⟨f, rfl⟩ : ∃ k, f = k + 1 := ⟨f - 1, by omega⟩
    rw [f_X0_isTold_24, pp_44_0 H, bs, ac_0 A (by decide), prs_0 _ _ _ (by decide) (by decide), D.2.2.1, if_pos (nI_le (by omega) (by omega))]
    unfold f_X0_isTold_67
    rw [pp_44_0 H, bs, c_as A (Dk k) (by omega), bs, show k = bks γ by omega]
    refine ⟨h, ?_, Fr_refl h⟩
    cases asS (prs γ (bks γ)) <;> rfl
  | succ m ih =>
    intro k f h hk hf H A
    obtain ⟨f, rfl⟩ : ∃ k, f = k + 1 := ⟨f - 1, by omega⟩
    obtain ⟨b1, b2, b3, b4⟩ := B k (by omega)
    rw [f_X0_isTold_24, pp_44_0 H, bs, ac_0 A (by decide), prs_0 _ _ _ (by decide) (by decide), D.2.2.1, if_neg (nI_ge (by omega) (by omega)), if_neg (show ¬ (10 : Int32) ≤ nI k from nI_ge (b := 10) (by omega) (by decide)), bs, bs, ac_p17 A, bs, ac_l10 A, if_inI (by omega) (by omega), nI_clamp (by omega), ac_10 A (by omega), prs_o _ _ _ (by decide) (by decide), b4]
    obtain ⟨h1, e1, A1, F1⟩ := c_pour A (Dk k) (k := bkS γ k) (d := bkD γ k) (u := bkU γ k) (by rw [lk']; exact b1) (by rw [bk']; exact b2) (by rw [bk']; exact b3) 1
    rw [e1, bs, nI_1]
    obtain ⟨h2, e2, F2⟩ := ih (k + 1) f h1 (by omega) (by omega) (Fr_SHP F1 H) A1
    exact ⟨h2, e2, Fr_trans F1 F2⟩
/-- were barge b heavier by e -/
def hvy (α : SA) (b : Nat) (e : Int32) : SA := sr α 6 (upd (α 6) b (α 6 b + e))
def tld (α : SA) (b e : Nat) : Bool := asS (prs (hvy α b (nI e)) (bks α))
theorem hvy_0 (α : SA) (b : Nat) (e : Int32) : hvy α b e 0 = α 0 := sr_o _ _ (by decide)
theorem hvy_D {α : SA} (D : Dm α) (b : Nat) (e : Int32) : Dm (hvy α b e) := Dm_of (fun j _ => by rw [hvy_0]) D
theorem hvy_B {α : SA} (B : Bkd α) (b : Nat) (e : Int32) : Bkd (hvy α b e) := by
  intro k hk
  rw [bks_of (by rw [hvy_0])] at hk
  have := B k hk
  unfold bkS bkD bkU bkN at this ⊢
  rw [show hvy α b e 10 = α 10 from sr_o _ _ (by decide), lvl_of (by rw [hvy_0]), bgs_of (by rw [hvy_0])]
  exact this
theorem c_told {h : Hp} {N : Nat} {α : SA} {b e : Nat} (hN : 5000 ≤ N) (H : SHP h) (A : Ac h 3 α) (D : Dm α) (B : Bkd α) (hb : b < bgs α) : ∃ h', f_X0_isTold N h 44 3 (nI b) (nI e) = some (b2i (tld α b e), h') ∧ Fr (PS 15) h h' := by
  have h6 := D.2.2.2.2.1
  unfold f_X0_isTold tld
  obtain ⟨h1, e1, A1, F1⟩ := c_copy (s0 := 15) (s1 := 3) (Or.inr (by decide)) A (st_15 H)
  have H1 := Fr_SHP F1 H
  rw [pp_44_0 H, bs, e1, bs, pp_44_0 H1, bs, ac_p13 A1, bs, ac_l6 A1, if_inI (by omega) (by omega), lts, if_inI (by omega) (by omega), lts, nI_clamp (by omega), ac_6 A1 (by omega)]
  have A2 : Ac (sI h1 (15 + 6) b (α 6 b + nI e)) 15 (hvy α b (nI e)) := Ac_w A1 6 b _
  have F2 : Fr (PS 15) h1 (sI h1 (15 + 6) b (α 6 b + nI e)) := Fr_sI _ _ _ _ ⟨by decide, by decide⟩
  generalize sI h1 (15 + 6) b (α 6 b + nI e) = h2 at A2 F2 ⊢
  have ek : bks (hvy α b (nI e)) = bks α := bks_of (by rw [hvy_0])
  have h10 := D.2.2.2.2.2
  obtain ⟨h3, e3, F3⟩ := c_told_l hN (hvy_D D b (nI e)) (hvy_B B b (nI e)) (bks α) 0 N h2 (by rw [ek]; omega) (by omega) (Fr_SHP F2 H1) A2
  rw [ek] at e3
  exact ⟨h3, e3, Fr_trans F1 (Fr_trans F2 F3)⟩
theorem m_told_l {N : Nat} {γ : SA} (hN : 5000 ≤ N) (D : Dm γ) (B : Bkd γ) (Sγ : Sn γ) : ∀ (m k f : Nat) (h : Hp), k + m = bks γ → m < f → Am h (dms γ k) → ∃ h', f_X8_isBooked_17 N f h 51 (nI k) = some (b2i (asS (dms γ (bks γ))), h') ∧ (∀ i, i < 93 → hI h' 62 i = hI h 63 i) ∧ Fr P62 h h' := by
  have h10 := D.2.2.2.2.2
  have Dk : ∀ k, Dm (dms γ k) := fun k => Dm_of (fun j hj => dms_0 γ k j (by omega) (by omega)) D
  have lk' : ∀ k, lvl (dms γ k) = lvl γ := fun k => lvl_of (dms_0 γ k 0 (by decide) (by decide))
  have bk' : ∀ k, bgs (dms γ k) = bgs γ := fun k => bgs_of (dms_0 γ k 1 (by decide) (by decide))
  intro m
  induction m with
  | zero =>
    intro k f h hk hf M
    obtain ⟨f, rfl⟩ : ∃ k, f = k + 1 := ⟨f - 1, by omega⟩
    obtain ⟨h1, e1, F1, k1⟩ := m_puts_l (N := N) (h0 := h) 93 0 N h (by omega) (by omega) M.1 (Fr_refl h) (fun i hi => absurd hi (Nat.not_lt_zero i))
    have e1' : f_X8_putsBack N h 51 = some h1 := e1
    rw [f_X8_isBooked_17, pp_51_26 M.1, bs, ll_62 M.1, if_pos (show 6 < 93 by decide), am_6 M, dms_0 _ _ _ (by decide) (by decide), D.2.2.1, if_pos (nI_le (by omega) (by omega)), m_as M (Dk k) (fun l hl => by rw [dms_o _ _ _ (by decide) (by decide) (by decide)]; rw [lk'] at hl; exact Sγ l hl) (by omega), bs, e1', bs, show k = bks γ by omega]
    refine ⟨h1, ?_, k1, Fr_mono F1 (fun a j z => z.1)⟩
    cases asS (dms γ (bks γ)) <;> rfl
  | succ m ih =>
    intro k f h hk hf M
    obtain ⟨f, rfl⟩ : ∃ k, f = k + 1 := ⟨f - 1, by omega⟩
    obtain ⟨s, d, u, a1, a2, a3, a4, a5, a6, a7⟩ := M.2.2.2.1 k (by rw [bks_of (dms_0 γ k 7 (by decide) (by decide))]; omega)
    obtain ⟨q1, q2, q3, _⟩ := bk_of (Dk k) a1 a2 a3 a7
    have r10 : dms γ k 10 = γ 10 := dms_o _ _ _ (by decide) (by decide) (by decide)
    have q1' : bkS γ k = s := by rw [← q1]; unfold bkS bkN; rw [r10]
    have q2' : bkD γ k = d := by rw [← q2]; unfold bkD bkN; rw [r10]
    have q3' : bkU γ k = u := by rw [← q3]; unfold bkU bkN; rw [r10]
    rw [f_X8_isBooked_17, pp_51_26 M.1, bs, ll_62 M.1, if_pos (show 6 < 93 by decide), am_6 M, dms_0 _ _ _ (by decide) (by decide), D.2.2.1, if_neg (nI_ge (by omega) (by omega)), lts, n_63, n_3, pk_mul, nI_add, bs, ll_62 M.1, if_inI (by omega) (by omega), bs, ll_62 M.1, nI_1, if_inI (by omega) (by omega), bs, ll_62 M.1, n_2, nI_add, if_inI (by omega) (by omega), nI_clamp (by omega), nI_clamp (by omega), nI_clamp (by omega), a4, show 63 + 3 * k + 1 = 64 + 3 * k by omega, a5, show 63 + 3 * k + 2 = 65 + 3 * k by omega, a6]
    obtain ⟨h1, e1, M1, F1⟩ := m_does M (Dk k) a1 a2 a3
    rw [e1, b2s, nI_1]
    have M1' : Am h1 (dms γ (k + 1)) := by
      show Am h1 (dM (dms γ k) (bkS γ k) (bkD γ k) (bkU γ k))
      rw [q1', q2', q3']
      exact M1
    obtain ⟨h2, e2, k2, F2⟩ := ih (k + 1) f h1 (by omega) (by omega) M1'
    refine ⟨h2, e2, fun i hi => ?_, Fr_trans F1 F2⟩
    rw [k2 i hi, F1.2.2.2 63 i (fun (z : 63 = 62) => by omega)]
theorem m_told {h : Hp} {N : Nat} {α : SA} {b e : Nat} (hN : 5000 ≤ N) (M : Am h α) (O : Ok α) (B : Bkd α) (hb : b < bgs α) : ∃ h', f_X8_isBooked N h 51 (nI b) (nI e) = some (b2i (tld α b e), h') ∧ (∀ i, i < 93 → hI h' 62 i = hI h 63 i) ∧ Fr P62 h h' := by
  have D := O.1
  have h6 := D.2.2.2.2.1
  have h10 := D.2.2.2.2.2
  unfold f_X8_isBooked tld
  rw [pp_51_26 M.1, bs, ix5, ll_62 M.1, if_inI (by omega) (by omega), lts, if_inI (by omega) (by omega), lts, nI_clamp (by omega), show hI h 62 (25 + 5 * b) = α 6 b from am_r M (k := 6) hb]
  have M1 := Am_w M D (k := 6) (i := b) (α 6 b + nI e) hb (by omega)
  rw [show ad 6 b = 25 + 5 * b from rfl] at M1
  have F1 : Fr P62 h (sI h 62 (25 + 5 * b) (α 6 b + nI e)) := Fr_sI _ _ _ _ rfl
  generalize sI h 62 (25 + 5 * b) (α 6 b + nI e) = h1 at M1 F1 ⊢
  have ek : bks (hvy α b (nI e)) = bks α := bks_of (by rw [hvy_0])
  obtain ⟨h2, e2, k2, F2⟩ := m_told_l hN (hvy_D D b (nI e)) (hvy_B B b (nI e)) (fun l hl => by
    rw [lvl_of (by rw [hvy_0])] at hl
    rw [show hvy α b (nI e) 4 = α 4 from sr_o _ _ (by decide)]
    exact O.2.2.1 l hl) (bks α) 0 N h1 (by rw [ek]; omega) (by omega) M1
  rw [ek, both_as] at e2
  refine ⟨h2, e2, fun i hi => ?_, Fr_trans F1 F2⟩
  rw [k2 i hi, F1.2.2.2 63 i (fun (z : 63 = 62) => by omega)]
/-! pairs, one behind the other -/
abbrev TS : Type := Nat × Int32 × Int32
def stS (α : SA) (b e : Nat) (s : TS) : TS := if tld α b e then (s.1 + 1, if s.1 = 0 then nI b else s.2.1, if s.1 = 0 then nI e else s.2.2) else s
def inS (α : SA) (b : Nat) : Nat → Nat → TS → TS
  | 0, _, s => s
  | m + 1, e, s => inS α b m (e + 1) (stS α b e s)
def ouS (α : SA) : Nat → Nat → TS → TS
  | 0, _, s => s
  | m + 1, b, s => ouS α m (b + 1) (inS α b 20 1 s)
theorem stS_le (α : SA) (b e : Nat) (s : TS) : (stS α b e s).1 ≤ s.1 + 1 := by
  unfold stS
  split
  · exact Nat.le_refl _
  · exact Nat.le_succ _
theorem inS_le (α : SA) (b : Nat) : ∀ m e s, (inS α b m e s).1 ≤ s.1 + m
  | 0, _, _ => Nat.le_refl _
  | m + 1, e, s => by
    have := inS_le α b m (e + 1) (stS α b e s)
    have := stS_le α b e s
    show (inS α b m (e + 1) (stS α b e s)).1 ≤ _
    omega
def TSr (s t : TS) : Prop := s.1 = t.1 ∧ (s.1 ≠ 0 → s = t)
theorem TSr_st (α : SA) (b e : Nat) {s t : TS} (h : TSr s t) : TSr (stS α b e s) (stS α b e t) := by
  unfold stS
  by_cases c : tld α b e = true
  · rw [if_pos c, if_pos c]
    by_cases c0 : s.1 = 0
    · rw [if_pos c0, if_pos c0, if_pos (h.1 ▸ c0), if_pos (h.1 ▸ c0), h.1]
      exact ⟨rfl, fun _ => rfl⟩
    · have := h.2 c0
      subst this
      exact ⟨rfl, fun _ => rfl⟩
  · rw [if_neg c, if_neg c]; exact h
theorem TSr_in (α : SA) (b : Nat) : ∀ m e {s t : TS}, TSr s t → TSr (inS α b m e s) (inS α b m e t)
  | 0, _, _, _, h => h
  | m + 1, e, _, _, h => TSr_in α b m (e + 1) (TSr_st α b e h)
theorem TSr_ou (α : SA) : ∀ m b {s t : TS}, TSr s t → TSr (ouS α m b s) (ouS α m b t)
  | 0, _, _, _, h => h
  | m + 1, b, _, _, h => TSr_ou α m (b + 1) (TSr_in α b 20 1 h)
theorem ou_0 (α : SA) : ∀ m b (s : TS), s.1 = 0 → (ouS α m b s).1 = 0 → ouS α m b s = s := by
  have st0 : ∀ b e (s : TS), (stS α b e s).1 = 0 → stS α b e s = s := fun b e s h => by
    unfold stS at h ⊢
    by_cases c : tld α b e = true
    · rw [if_pos c] at h; cases h
    · rw [if_neg c]
  have stm : ∀ b e (s : TS), s.1 ≤ (stS α b e s).1 := fun b e s => by
    unfold stS
    split
    · exact Nat.le_succ _
    · exact Nat.le_refl _
  have inm : ∀ b m e (s : TS), s.1 ≤ (inS α b m e s).1 := fun b m => by
    induction m with
    | zero => intro e s; exact Nat.le_refl _
    | succ m ih => intro e s; exact Nat.le_trans (stm b e s) (ih (e + 1) _)
  have in0 : ∀ b m e (s : TS), (inS α b m e s).1 = 0 → inS α b m e s = s := fun b m => by
    induction m with
    | zero => intro e s _; rfl
    | succ m ih =>
      intro e s h
      have h' : (inS α b m (e + 1) (stS α b e s)).1 = 0 := h
      have z := inm b m (e + 1) (stS α b e s)
      show inS α b m (e + 1) (stS α b e s) = s
      rw [ih (e + 1) _ h', st0 b e s (by omega)]
  have oum : ∀ m b (s : TS), s.1 ≤ (ouS α m b s).1 := fun m => by
    induction m with
    | zero => intro b s; exact Nat.le_refl _
    | succ m ih => intro b s; exact Nat.le_trans (inm b 20 1 s) (ih (b + 1) _)
  intro m
  induction m with
  | zero => intro b s _ _; rfl
  | succ m ih =>
    intro b s h0 h
    have h' : (ouS α m (b + 1) (inS α b 20 1 s)).1 = 0 := h
    have z := oum m (b + 1) (inS α b 20 1 s)
    show ouS α m (b + 1) (inS α b 20 1 s) = s
    rw [ih (b + 1) _ (by omega) h', in0 b 20 1 s (by omega)]
/-- the class's pairs so far -/
def Prc (h : Hp) (s : TS) : Prop := hI h 44 5 = nI s.1 ∧ hI h 44 6 = s.2.1 ∧ hI h 44 7 = s.2.2
def PDk : Nat → Nat → Prop := fun a j => (15 ≤ a ∧ a ≤ 26) ∨ (a = 44 ∧ (j = 5 ∨ j = 6 ∨ j = 7))
theorem c_pair {h : Hp} {b e : Nat} {s : TS} (P : Prc h s) (hs : s.1 < 2000) : ∃ h', f_X0_notePair h 44 (nI b) (nI e) = some h' ∧ Prc h' (s.1 + 1, if s.1 = 0 then nI b else s.2.1, if s.1 = 0 then nI e else s.2.2) ∧ Fr (fun a j => a = 44 ∧ (j = 5 ∨ j = 6 ∨ j = 7)) h h' := by
  obtain ⟨p1, p2, p3⟩ := P
  unfold f_X0_notePair f_X0_notePair_17
  rw [p1]
  by_cases c : s.1 = 0
  · rw [if_pos (by rw [c]; rfl), lts, lts, lts, if_pos c, if_pos c]
    refine ⟨_, rfl, ⟨?_, ?_, ?_⟩, Fr_trans (Fr_sI _ _ _ _ ⟨rfl, Or.inr (Or.inl rfl)⟩) (Fr_trans (Fr_sI _ _ _ _ ⟨rfl, Or.inr (Or.inr rfl)⟩) (Fr_sI _ _ _ _ ⟨rfl, Or.inl rfl⟩))⟩
    · rw [sI_r, if_pos rfl, sI_r, if_neg (by decide), sI_r, if_neg (by decide), p1, nI_1]
    · rw [sI_r, if_neg (by decide), sI_r, if_neg (by decide), sI_r, if_pos rfl]
    · rw [sI_r, if_neg (by decide), sI_r, if_pos rfl]
  · rw [if_neg (show ¬ nI s.1 = 0 from fun z => c ((nI_eq (b := 0) (by omega) (by decide)).mp z)), lts, if_neg c, if_neg c]
    refine ⟨_, rfl, ⟨?_, ?_, ?_⟩, Fr_sI _ _ _ _ ⟨rfl, Or.inl rfl⟩⟩
    · rw [sI_r, if_pos rfl, nI_1]
    · rw [sI_r, if_neg (by decide)]; exact p2
    · rw [sI_r, if_neg (by decide)]; exact p3
theorem c_in_l {N : Nat} {α : SA} {b : Nat} {s7 : Hp → Nat → Nat → Int32 → Option Hp} (hN : 5000 ≤ N) (D : Dm α) (B : Bkd α) (hb : b < bgs α) : ∀ (m e f : Nat) (h : Hp) (s : TS), e + m = 21 → m < f → s.1 + m < 2000 → SHP h → Ac h 3 α → Prc h s → ∃ h', f_X0_searchSmuggled_23 N s7 f h 44 3 (nI b) (nI e) = s7 h' 44 3 (nI (b + 1)) ∧ Prc h' (inS α b m e s) ∧ Fr PDk h h' := by
  intro m
  induction m with
  | zero =>
    intro e f h s he hf hs H A P
    obtain ⟨f, rfl⟩ : ∃ k, f = k + 1 := ⟨f - 1, by omega⟩
    rw [f_X0_searchSmuggled_23, if_pos (show (20 : Int32) < nI e from nI_lt (a := 20) (by omega) (by omega)), nI_1]
    exact ⟨h, rfl, P, Fr_refl h⟩
  | succ m ih =>
    intro e f h s he hf hs H A P
    obtain ⟨f, rfl⟩ : ∃ k, f = k + 1 := ⟨f - 1, by omega⟩
    obtain ⟨h1, e1, F1⟩ := c_told (e := e) hN H A D B hb
    have H1 := Fr_SHP F1 H
    have A1 : Ac h1 3 α := Fr_Ac F1 (fun a j h1 h2 z => by have := z.1; omega) A
    have P1 : Prc h1 s := ⟨by rw [F1.2.2.2 44 5 (fun z => by have := z.2; omega)]; exact P.1, by rw [F1.2.2.2 44 6 (fun z => by have := z.2; omega)]; exact P.2.1, by rw [F1.2.2.2 44 7 (fun z => by have := z.2; omega)]; exact P.2.2⟩
    have F1' : Fr PDk h h1 := Fr_mono F1 (fun a j z => Or.inl ⟨z.1, z.2⟩)
    rw [f_X0_searchSmuggled_23, if_neg (show ¬ (20 : Int32) < nI e from nI_nlt (a := 20) (by omega) (by decide)), e1, b2s]
    unfold f_X0_searchSmuggled_45
    rw [nI_1]
    show ∃ h', _ ∧ Prc h' (inS α b m (e + 1) (stS α b e s)) ∧ _
    unfold stS
    by_cases c : tld α b e = true
    · rw [if_neg (by rw [c]; decide), if_pos c]
      obtain ⟨h2, e2, P2, F2⟩ := c_pair (b := b) (e := e) P1 (by omega)
      rw [e2, bs]
      obtain ⟨h3, e3, P3, F3⟩ := ih (e + 1) f h2 _ (by omega) (by omega) (by show s.1 + 1 + m < 2000; omega) (Fr_SHP F2 H1) (Fr_Ac F2 (fun a j h1 h2 z => by omega) A1) P2
      exact ⟨h3, e3, P3, Fr_trans F1' (Fr_trans (Fr_mono F2 (fun a j z => Or.inr z)) F3)⟩
    · rw [if_pos (by rw [b2i_0]; simpa using c), if_neg c]
      obtain ⟨h3, e3, P3, F3⟩ := ih (e + 1) f h1 s (by omega) (by omega) (by omega) H1 A1 P1
      exact ⟨h3, e3, P3, Fr_trans F1' F3⟩
theorem c_ou_l {N : Nat} {α : SA} (hN : 5000 ≤ N) (D : Dm α) (B : Bkd α) : ∀ (m b f : Nat) (h : Hp) (s : TS), b + m = bgs α → m < f → s.1 + 20 * m < 1000 → SHP h → Ac h 3 α → Prc h s → ∃ h', f_X0_searchSmuggled_7 N f h 44 3 (nI b) = some h' ∧ Prc h' (ouS α m b s) ∧ Fr PDk h h' := by
  have h6 := D.2.2.2.2.1
  intro m
  induction m with
  | zero =>
    intro b f h s hb hf hs H A P
    obtain ⟨f, rfl⟩ : ∃ k, f = k + 1 := ⟨f - 1, by omega⟩
    rw [f_X0_searchSmuggled_7, ac_0 A (by decide), D.2.1, if_pos (nI_le (by omega) (by omega))]
    exact ⟨h, rfl, P, Fr_refl h⟩
  | succ m ih =>
    intro b f h s hb hf hs H A P
    obtain ⟨f, rfl⟩ : ∃ k, f = k + 1 := ⟨f - 1, by omega⟩
    rw [f_X0_searchSmuggled_7, ac_0 A (by decide), D.2.1, if_neg (nI_ge (by omega) (by omega)), if_neg (show ¬ (6 : Int32) ≤ nI b from nI_ge (b := 6) (by omega) (by decide))]
    obtain ⟨h1, e1, P1, F1⟩ := c_in_l (N := N) (s7 := f_X0_searchSmuggled_7 N f) hN D B (b := b) (by omega) 20 1 N h s (by omega) (by omega) (by omega) H A P
    have e1' : f_X0_searchSmuggled_23 N (f_X0_searchSmuggled_7 N f) N h 44 3 (nI b) 1 = f_X0_searchSmuggled_7 N f h1 44 3 (nI (b + 1)) := e1
    rw [e1']
    have := inS_le α b 20 1 s
    obtain ⟨h2, e2, P2, F2⟩ := ih (b + 1) f h1 _ (by omega) (by omega) (by omega) (Fr_SHP F1 H) (Fr_Ac F1 (fun a j h1 h2 z => by unfold PDk at z; omega) A) P1
    exact ⟨h2, e2, P2, Fr_trans F1 F2⟩
theorem m_in_l {N : Nat} {α : SA} {b : Nat} {w : Int32} {σ : Nat → Int32} {s38 : Hp → Nat → Int32 → Int32 → Int32 → Int32 → Int32 → Option (Int32 × Hp)} (hN : 5000 ≤ N) (O : Ok α) (B : Bkd α) (hb : b < bgs α) (Sσ : Sd σ α) : ∀ (m e f : Nat) (h : Hp) (s : TS), e + m = 21 → m < f → s.1 + m < 2000 → SHP h → (∀ i, i < 93 → hI h 62 i = σ i) → (∀ i, i < 93 → hI h 63 i = σ i) → ∃ h', f_X8_smuggled_52 N s38 f h 51 w (nI s.1) s.2.1 s.2.2 (nI b) (nI e) = s38 h' 51 w (nI (inS α b m e s).1) (inS α b m e s).2.1 (inS α b m e s).2.2 (nI (b + 1)) ∧ (∀ i, i < 93 → hI h' 62 i = σ i) ∧ Fr P62 h h' := by
  intro m
  induction m with
  | zero =>
    intro e f h s he hf hs H K6 K7
    obtain ⟨f, rfl⟩ : ∃ k, f = k + 1 := ⟨f - 1, by omega⟩
    rw [f_X8_smuggled_52, if_pos (show (20 : Int32) < nI e from nI_lt (a := 20) (by omega) (by omega)), nI_1]
    exact ⟨h, rfl, K6, Fr_refl h⟩
  | succ m ih =>
    intro e f h s he hf hs H K6 K7
    obtain ⟨f, rfl⟩ : ∃ k, f = k + 1 := ⟨f - 1, by omega⟩
    obtain ⟨h1, e1, k1, F1⟩ := m_told (e := e) hN (⟨H, Sd_congr O.1 K6 Sσ⟩ : Am h α) O B hb
    have H1 := Fr_SHP F1 H
    have K61 : ∀ i, i < 93 → hI h1 62 i = σ i := fun i hi => by rw [k1 i hi]; exact K7 i hi
    have K71 : ∀ i, i < 93 → hI h1 63 i = σ i := fun i hi => by rw [F1.2.2.2 63 i (fun (z : 63 = 62) => by omega)]; exact K7 i hi
    rw [f_X8_smuggled_52, if_neg (show ¬ (20 : Int32) < nI e from nI_nlt (a := 20) (by omega) (by decide)), e1, b2s]
    unfold f_X8_smuggled_83 f_X8_smuggled_95 f_X8_smuggled_100
    rw [nI_1]
    show ∃ h', _ = s38 h' 51 w (nI (inS α b m (e + 1) (stS α b e s)).1) (inS α b m (e + 1) (stS α b e s)).2.1 (inS α b m (e + 1) (stS α b e s)).2.2 (nI (b + 1)) ∧ _
    unfold stS
    by_cases c : tld α b e = true
    · rw [if_neg (by rw [c]; decide), if_pos c]
      obtain ⟨h2, e2, K2, F2⟩ := ih (e + 1) f h1 (s.1 + 1, if s.1 = 0 then nI b else s.2.1, if s.1 = 0 then nI e else s.2.2) (by omega) (by omega) (by show s.1 + 1 + m < 2000; omega) H1 K61 K71
      refine ⟨h2, ?_, K2, Fr_trans F1 F2⟩
      rw [← e2]
      by_cases c0 : s.1 = 0
      · have cz : nI s.1 = 0 := by rw [c0]; rfl
        rw [if_pos cz, if_pos cz, if_pos c0, if_pos c0, nI_1]
      · have cz : ¬ nI s.1 = 0 := fun z => c0 ((nI_eq (b := 0) (by omega) (by decide)).mp z)
        rw [if_neg cz, if_neg cz, if_neg c0, if_neg c0, nI_1]
    · rw [if_pos (by rw [b2i_0]; simpa using c), if_neg c]
      obtain ⟨h2, e2, K2, F2⟩ := ih (e + 1) f h1 s (by omega) (by omega) (by omega) H1 K61 K71
      exact ⟨h2, e2, K2, Fr_trans F1 F2⟩
theorem m_ou_l {N : Nat} {α : SA} {w : Int32} {σ : Nat → Int32} (hN : 5000 ≤ N) (O : Ok α) (B : Bkd α) (Sσ : Sd σ α) : ∀ (m b f : Nat) (h : Hp) (s : TS), b + m = bgs α → m < f → s.1 + 20 * m < 1000 → SHP h → (∀ i, i < 93 → hI h 62 i = σ i) → (∀ i, i < 93 → hI h 63 i = σ i) → ∃ h', f_X8_smuggled_38 N f h 51 w (nI s.1) s.2.1 s.2.2 (nI b) = some (if w = 0 then nI (ouS α m b s).1 else if w = 1 then (ouS α m b s).2.1 else (ouS α m b s).2.2, h') ∧ (∀ i, i < 93 → hI h' 62 i = σ i) ∧ Fr P62 h h' := by
  have D := O.1
  have h6 := D.2.2.2.2.1
  intro m
  induction m with
  | zero =>
    intro b f h s hb hf hs H K6 K7
    obtain ⟨f, rfl⟩ : ∃ k, f = k + 1 := ⟨f - 1, by omega⟩
    have M : Am h α := ⟨H, Sd_congr D K6 Sσ⟩
    rw [f_X8_smuggled_38, pp_51_26 H, bs, ll_62 H, if_pos (show 1 < 93 by decide), am_1 M, D.2.1, if_pos (nI_le (by omega) (by omega))]
    refine ⟨h, ?_, K6, Fr_refl h⟩
    show _ = some ((if w = 0 then nI s.1 else if w = 1 then s.2.1 else s.2.2), h)
    by_cases w0 : w = 0
    · rw [if_pos w0, if_pos w0]
    · rw [if_neg w0, if_neg w0]
      by_cases w1 : w = 1
      · rw [if_pos w1, if_pos w1]
      · rw [if_neg w1, if_neg w1]
  | succ m ih =>
    intro b f h s hb hf hs H K6 K7
    obtain ⟨f, rfl⟩ : ∃ k, f = k + 1 := ⟨f - 1, by omega⟩
    have M : Am h α := ⟨H, Sd_congr D K6 Sσ⟩
    rw [f_X8_smuggled_38, pp_51_26 H, bs, ll_62 H, if_pos (show 1 < 93 by decide), am_1 M, D.2.1, if_neg (nI_ge (by omega) (by omega))]
    obtain ⟨h1, e1, K1, F1⟩ := m_in_l (N := N) (w := w) (s38 := f_X8_smuggled_38 N f) hN O B (b := b) (by omega) Sσ 20 1 N h s (by omega) (by omega) (by omega) H K6 K7
    have e1' : f_X8_smuggled_52 N (f_X8_smuggled_38 N f) N h 51 w (nI s.1) s.2.1 s.2.2 (nI b) 1 = f_X8_smuggled_38 N f h1 51 w (nI (inS α b 20 1 s).1) (inS α b 20 1 s).2.1 (inS α b 20 1 s).2.2 (nI (b + 1)) := e1
    rw [e1']
    have := inS_le α b 20 1 s
    obtain ⟨h2, e2, K2, F2⟩ := ih (b + 1) f h1 (inS α b 20 1 s) (by omega) (by omega) (by omega) (Fr_SHP F1 H) K1 (fun i hi => by rw [F1.2.2.2 63 i (fun (z : 63 = 62) => by omega)]; exact K7 i hi)
    exact ⟨h2, e2, K2, Fr_trans F1 F2⟩
theorem ok_smuggled {N : Nat} (hN : 5000 ≤ N) (w : Int32) : Cok N (fun h => f_X7_smuggled N h 0 w) (fun h => f_X8_smuggled N h 51 w) := by
  rintro h ⟨r, R, α, g⟩
  have g' := g
  obtain ⟨g1, A, M, O, f, T, g7, g8, g9⟩ := g
  have H := M.1
  have D := O.1
  have h6 := D.2.2.2.2.1
  have B := Bkd_of D M.2
  show ∃ z h1 h2, f_X7_smuggled N h 0 w = some (z, h1) ∧ f_X8_smuggled N h1 51 w = some (z, h2) ∧ GG N h2
  have inw : ∀ h1, f_X8_in h1 w.toInt64 (0 : Int64) (2 : Int64) = some (if w < 0 then 0 else if 2 < w then 0 else 1) := fun h1 => m_in h1 w 0 2
  have nope : ∀ (c : lvl α = 0 ∨ w < 0 ∨ ¬ w ≤ 2), ∃ z h1 h2, f_X7_smuggled N h 0 w = some (z, h1) ∧ f_X8_smuggled N h1 51 w = some (z, h2) ∧ GG N h2 := by
    intro c
    refine ⟨-1, h, h, ?_, ?_, r, R, α, g'⟩
    · unfold f_X7_smuggled
      rw [pp_0_1 H, bs, ac_0 A (by decide)]
      by_cases c0 : lvl α = 0
      · rw [if_pos ((lv0 D).mpr c0)]
      · rw [if_neg (fun z => c0 ((lv0 D).mp z))]
        by_cases c1 : w < 0
        · rw [if_pos c1]
        · rw [if_neg c1, if_neg ((c.resolve_left c0).resolve_left c1)]
    · unfold f_X8_smuggled
      rw [pp_51_26 H, bs, ll_62 H, if_pos (show 0 < 93 by decide), am_0 M]
      by_cases c0 : lvl α = 0
      · rw [if_pos ((lv0 D).mpr c0)]
      · rw [if_neg (fun z => c0 ((lv0 D).mp z)), inw, bs]
        by_cases c1 : w < 0
        · rw [if_pos c1, if_pos rfl]
        · rw [if_neg c1, if_pos (Int32.not_le.mp ((c.resolve_left c0).resolve_left c1)), if_pos rfl]
  by_cases c0 : lvl α = 0
  · exact nope (Or.inl c0)
  · by_cases c1 : w < 0
    · exact nope (Or.inr (Or.inl c1))
    · by_cases c2 : w ≤ 2
      · have F1 : Fr (fun a j => a = 44 ∧ (j = 5 ∨ j = 6 ∨ j = 7)) h (sI h 44 5 0) := Fr_sI _ _ _ _ ⟨rfl, Or.inl rfl⟩
        have P1 : Prc (sI h 44 5 0) (0, hI h 44 6, hI h 44 7) := ⟨by rw [sI_r, if_pos rfl]; rfl, by rw [sI_r, if_neg (by decide)], by rw [sI_r, if_neg (by decide)]⟩
        have es : f_X0_searchSmuggled N h 44 3 = f_X0_searchSmuggled_7 N N (sI h 44 5 0) 44 3 0 := by
          unfold f_X0_searchSmuggled
          rw [lts]
        generalize sI h 44 5 0 = h1 at F1 P1 es
        have H1 := Fr_SHP F1 H
        have A1 : Ac h1 3 α := Fr_Ac F1 (fun a j h1 h2 z => by omega) A
        obtain ⟨h2, e2, P2, F2⟩ := c_ou_l hN D B (bgs α) 0 N h1 _ (by omega) (by omega) (by show 0 + 20 * bgs α < 1000; omega) H1 A1 P1
        have e2' : f_X0_searchSmuggled_7 N N h1 44 3 0 = some h2 := e2
        rw [e2'] at es
        have Q2 : Fq PQc h h2 := Fq_trans (Fq_mono (Fr_q F1) (fun a j z => by unfold PQc; omega)) (Fq_mono (Fr_q F2) (fun a j z => by unfold PDk at z; unfold PQc; omega))
        have H2 := Fq_SHP Q2 H
        have M2 := Am_q Q2 M
        have rel := TSr_ou α (bgs α) 0 (s := (0, hI h 44 6, hI h 44 7)) (t := (0, -2, 0)) ⟨rfl, fun z => absurd rfl z⟩
        have ou0 := ou_0 α (bgs α) 0 (0, -2, 0) rfl
        have oul : ∀ m b (s : TS), (ouS α m b s).1 ≤ s.1 + 20 * m := fun m => by
          induction m with
          | zero => intro b s; exact Nat.le_refl _
          | succ m ih =>
            intro b s
            have := ih (b + 1) (inS α b 20 1 s)
            have := inS_le α b 20 1 s
            show (ouS α m (b + 1) (inS α b 20 1 s)).1 ≤ _
            omega
        have l1 := oul (bgs α) 0 (0, hI h 44 6, hI h 44 7)
        have l1' : (ouS α (bgs α) 0 (0, hI h 44 6, hI h 44 7)).1 ≤ 0 + 20 * bgs α := l1
        generalize ouS α (bgs α) 0 (0, hI h 44 6, hI h 44 7) = sc at P2 rel l1'
        obtain ⟨h3, e3, F3, k3⟩ := m_keeps_l (N := N) (h0 := h2) 93 0 N h2 (by omega) (by omega) H2 (Fr_refl h2) (fun i hi => absurd hi (Nat.not_lt_zero i))
        have e3' : f_X8_keeps N h2 51 = some h3 := e3
        obtain ⟨h4, e4, k4, F4⟩ := m_ou_l (N := N) (w := w) (σ := hI h2 62) hN O B M2.2 (bgs α) 0 N h3 (0, -2, 0) (by omega) (by omega) (by show 0 + 20 * bgs α < 1000; omega) (Fr_SHP F3 H2) (fun i _ => F3.2.2.2 62 i (fun z => by omega)) k3
        have e4' : f_X8_smuggled_38 N N h3 51 w 0 (-2) 0 0 = some (if w = 0 then nI (ouS α (bgs α) 0 (0, -2, 0)).1 else if w = 1 then (ouS α (bgs α) 0 (0, -2, 0)).2.1 else (ouS α (bgs α) 0 (0, -2, 0)).2.2, h4) := e4
        generalize ouS α (bgs α) 0 (0, -2, 0) = sm at rel ou0 e4'
        have sc5 : hI h2 44 5 = 0 ↔ sm.1 = 0 := by
          rw [P2.1, ← rel.1]
          exact ⟨fun z => (nI_eq (b := 0) (by omega) (by decide)).mp z, fun z => by rw [z]; rfl⟩
        refine ⟨if w = 0 then nI sm.1 else if w = 1 then sm.2.1 else sm.2.2, h2, h4, ?_, ?_, ask2 g' Q2 (Fq_trans (Fq_mono (Fr_q F3) (fun a j z => by unfold PQm; omega)) (Fq_mono (Fr_q F4) (fun a j z => Or.inl z))) k4⟩
        · unfold f_X7_smuggled
          rw [pp_0_1 H, bs, ac_0 A (by decide), if_neg (fun z => c0 ((lv0 D).mp z)), if_neg c1, if_pos c2, pp_0_9 H, bs, bs, es, bs, pp_0_9 H2]
          by_cases w0 : w = 0
          · rw [if_pos w0, if_pos w0, bs, P2.1, rel.1]
          · rw [if_neg w0, if_neg w0]
            by_cases w1 : w = 1
            · rw [if_pos w1, if_pos w1, bs]
              by_cases z : sm.1 = 0
              · rw [if_pos (sc5.mpr z), ou0 z]
              · rw [if_neg (fun y => z (sc5.mp y)), bs, P2.2.1, rel.2 (by rw [rel.1]; exact z)]
            · rw [if_neg w1, if_neg w1, bs]
              by_cases z : sm.1 = 0
              · rw [if_pos (sc5.mpr z), ou0 z]
              · rw [if_neg (fun y => z (sc5.mp y)), bs, P2.2.2, rel.2 (by rw [rel.1]; exact z)]
        · unfold f_X8_smuggled
          rw [pp_51_26 H2, bs, ll_62 H2, if_pos (show 0 < 93 by decide), am_0 M2, if_neg (fun z => c0 ((lv0 D).mp z)), inw, bs, if_neg c1, if_neg (Int32.not_lt.mpr c2), if_neg (show ¬ (1 : Int32) = 0 by decide), e3', bs, e4']
      · exact nope (Or.inr (Or.inr c2))
