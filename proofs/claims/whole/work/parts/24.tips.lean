/-! ===== the class: writing into a stair ===== -/
def sr (α : SA) (k : Nat) (f : Nat → Int32) : SA := fun a => if a = k then f else α a
theorem sr_s (α : SA) (k : Nat) (f : Nat → Int32) : sr α k f k = f := if_pos rfl
theorem sr_o (α : SA) {k j : Nat} (f : Nat → Int32) (h : j ≠ k) : sr α k f j = α j := if_neg h
theorem Ac_w {h : Hp} {s : Nat} {α : SA} (A : Ac h s α) (k i : Nat) (x : Int32) : Ac (sI h (s + k) i x) s (sr α k (upd (α k) i x)) := by
  refine ⟨A.1, fun k' i' hk hi => ?_⟩
  rw [hI_sI]
  by_cases h1 : k' = k
  · subst h1
    rw [sr_s]
    by_cases h2 : i' = i
    · subst h2
      rw [upd_s, if_pos ⟨rfl, rfl⟩]
    · rw [upd_o _ _ h2, if_neg (fun z => h2 z.2)]
      exact A.2 k' i' hk hi
  · rw [sr_o _ _ h1, if_neg (fun z => h1 (by omega))]
    exact A.2 k' i' hk hi
theorem Ac_w0 {h : Hp} {s : Nat} {α : SA} (A : Ac h s α) (i : Nat) (x : Int32) : Ac (sI h s i x) s (sr α 0 (upd (α 0) i x)) := Ac_w A 0 i x
/-- a tip as a number -/
def cd (k d u : Nat) : Nat := 49 * k + 7 * d + u
theorem bI_eq (d : Nat) : nI d - 1 = bI d := by
  cases d with
  | zero => rfl
  | succ b => exact nI_pred b
theorem t_step (h : Hp) {k d u : Nat} (hk : k < 8) (hd : d ≤ 6) (hu : u ≤ 6) : f_X5_stepOf h (nI (cd k d u)) = some (nI k) := by
  unfold f_X5_stepOf cd
  rw [show (49 : Int32) = nI 49 from rfl, pk_div (by omega) (by decide) (by decide), show (49 * k + 7 * d + u) / 49 = k by omega]
theorem t_down (h : Hp) {k d u : Nat} (hk : k < 8) (hd : d ≤ 6) (hu : u ≤ 6) : f_X5_downOf h (nI (cd k d u)) = some (bI d) := by
  unfold f_X5_downOf cd
  rw [show (49 : Int32) = nI 49 from rfl, pk_rem (by omega) (by decide) (by decide), show (7 : Int32) = nI 7 from rfl, pk_div (by omega) (by decide) (by decide), show (49 * k + 7 * d + u) % 49 / 7 = d by omega, bI_eq]
theorem t_up (h : Hp) {k d u : Nat} (hk : k < 8) (hd : d ≤ 6) (hu : u ≤ 6) : f_X5_upOf h (nI (cd k d u)) = some (bI u) := by
  unfold f_X5_upOf cd
  rw [show (7 : Int32) = nI 7 from rfl, pk_rem (by omega) (by decide) (by decide), show (49 * k + 7 * d + u) % 7 = u by omega, bI_eq]
theorem bI_1 (d : Nat) : bI d + 1 = nI d := by
  cases d with
  | zero => rfl
  | succ b => exact nI_1 b
theorem t_of (h : Hp) {k d u : Nat} : f_X5_tipOf h (nI k) (bI d) (bI u) = some (nI (cd k d u)) := by
  unfold f_X5_tipOf cd
  rw [bI_1, Int32.add_assoc, bI_1, show (49 : Int32) = nI 49 from rfl, show (7 : Int32) = nI 7 from rfl, pk_mul, pk_mul, nI_add, nI_add, Nat.mul_comm k, Nat.mul_comm d]
def mv1 (α : SA) (g : Int32) : Nat → SA
  | 0 => α
  | b + 1 => sr α 5 (upd (α 5) b (α 5 b + g))
def mvB (α : SA) (d u : Nat) (g : Int32) : SA := mv1 (mv1 α g d) (-g) u
theorem mv1_o (α : SA) (g : Int32) (d : Nat) {a : Nat} (ha : a ≠ 5) : mv1 α g d a = α a := by
  cases d with
  | zero => rfl
  | succ b => exact sr_o _ _ ha
theorem mvB_o (α : SA) (d u : Nat) (g : Int32) {a : Nat} (ha : a ≠ 5) : mvB α d u g a = α a := (mv1_o _ _ _ ha).trans (mv1_o _ _ _ ha)
theorem mvB_0 (α : SA) (d u : Nat) (g : Int32) : mvB α d u g 0 = α 0 := mvB_o α d u g (by decide)
theorem Dm_of {α β : SA} (h : ∀ j, j = 0 ∨ j = 1 ∨ j = 7 → β 0 j = α 0 j) (D : Dm α) : Dm β := by
  unfold Dm lvl bgs bks
  rw [h 0 (by simp), h 1 (by simp), h 7 (by simp)]
  exact D
theorem lvl_of {α β : SA} (h : β 0 0 = α 0 0) : lvl β = lvl α := by unfold lvl; rw [h]
theorem bgs_of {α β : SA} (h : β 0 1 = α 0 1) : bgs β = bgs α := by unfold bgs; rw [h]
theorem c_move_29 {h : Hp} {s : Nat} {α : SA} (A : Ac h s α) (D : Dm α) {u : Nat} (hu : u ≤ bgs α) (g : Int32) : ∃ h', f_X5_moveBarges_29 h s g (bI u) = some h' ∧ Ac h' s (mv1 α (-g) u) ∧ Fr (PS s) h h' := by
  unfold f_X5_moveBarges_29
  rw [c_hasBarge A D hu, bs]
  have h6 := D.2.2.2.2.1
  cases u with
  | zero => exact ⟨h, rfl, A, Fr_refl h⟩
  | succ b =>
    rw [if_neg (show ¬ (if b + 1 = 0 then (0 : Int32) else 1) = 0 by simp), show bI (b + 1) = nI b from rfl]
    simp (disch := omega) only [bs, b2s, if_pos, if_neg, lts, true_and, and_true, and_self, if_true, if_false, ite_self, nI_clamp, nI_pos', nI_leI, nI_ltI, nI_eq, nI_add, nI_1, pk_mul, pk_sub, n_2, n_3, n_4, n_5, n_9, n_25, n_55, n_63, nI_0c, ac_p12 A, ac_l5 A, ac_5 A]
    refine ⟨_, rfl, ?_, Fr_sI _ _ _ _ ⟨by omega, by omega⟩⟩
    rw [Int32.sub_eq_add_neg]
    exact Ac_w A 5 b _
theorem c_move {h : Hp} {s : Nat} {α : SA} (A : Ac h s α) (D : Dm α) {k d u : Nat} (hk : k < 8) (hd : d ≤ bgs α) (hu : u ≤ bgs α) (g : Int32) : ∃ h', f_X5_moveBarges h s (nI (cd k d u)) g = some h' ∧ Ac h' s (mvB α d u g) ∧ Fr (PS s) h h' := by
  have h6 := D.2.2.2.2.1
  unfold f_X5_moveBarges mvB
  rw [t_down h hk (by omega) (by omega), bs, t_up h hk (by omega) (by omega), bs, c_hasBarge A D hd, bs]
  cases d with
  | zero => exact c_move_29 A D hu g
  | succ b =>
    rw [if_neg (show ¬ (if b + 1 = 0 then (0 : Int32) else 1) = 0 by simp), show bI (b + 1) = nI b from rfl]
    simp (disch := omega) only [bs, b2s, if_pos, if_neg, lts, true_and, and_true, and_self, if_true, if_false, ite_self, nI_clamp, nI_pos', nI_leI, nI_ltI, nI_eq, nI_add, nI_1, pk_mul, pk_sub, n_2, n_3, n_4, n_5, n_9, n_25, n_55, n_63, nI_0c, ac_p12 A, ac_l5 A, ac_5 A]
    obtain ⟨h', e, A', F⟩ := c_move_29 (Ac_w A 5 b (α 5 b + g)) (Dm_of (fun j _ => by rw [sr_o _ _ (by decide)]) D) (by rw [bgs_of (α := α) (by rw [sr_o _ _ (by decide)])]; exact hu) g
    exact ⟨h', e, A', Fr_trans (Fr_sI _ _ _ _ ⟨by omega, by omega⟩) F⟩
theorem Wi_of {α β : SA} (h : β 7 = α 7) (d : Nat) : Wi β d = Wi α d := by
  cases d with
  | zero => rfl
  | succ b => unfold Wi; rw [h]
theorem Wt_of {α β : SA} (h : β 6 = α 6) (d : Nat) : Wt β d = Wt α d := by
  cases d with
  | zero => rfl
  | succ b => unfold Wt; rw [h]
theorem Wo_of {α β : SA} (h : β 7 = α 7) (d u : Nat) : Wo β d u = Wo α d u := by
  unfold Wo
  rw [Wi_of h, Wi_of h]
theorem Nd_of {α β : SA} (h6 : β 6 = α 6) (h7 : β 7 = α 7) (h2 : β 0 2 = α 0 2) (d u : Nat) : Nd β d u = Nd α d u := by
  unfold Nd
  rw [Wo_of h7, Wt_of h6, Wt_of h6, h2]
def prA (α : SA) (k d u : Nat) (g : Int32) : SA :=
  let n := g * Nd α d u
  sr (sr α 1 (upd (upd (α 1) k (α 1 k - n)) (k + 1) (α 1 (k + 1) + n))) 0 (upd (upd (α 0) 4 (α 0 4 + n)) 3 (α 0 3 + g * Wo α d u))
theorem sr_sr (α : SA) (k : Nat) (f g : Nat → Int32) : sr (sr α k f) k g = sr α k g := by
  funext a
  unfold sr
  by_cases h : a = k
  · rw [if_pos h, if_pos h]
  · rw [if_neg h, if_neg h, if_neg h]
theorem c_pour {h : Hp} {s : Nat} {α : SA} (A : Ac h s α) (D : Dm α) {k d u : Nat} (hk : k + 1 < lvl α) (hd : d ≤ bgs α) (hu : u ≤ bgs α) (g : Int32) : ∃ h', f_X5_pour h s (nI (cd k d u)) g = some h' ∧ Ac h' s (prA α k d u g) ∧ Fr (PS s) h h' := by
  have h6 := D.2.2.2.2.1
  have h8 := D.2.2.2.1
  unfold f_X5_pour
  rw [t_step h (by omega) (by omega) (by omega), bs, c_hasStep A D hk, bs, if_neg (by decide), t_down h (by omega) (by omega) (by omega), bs, t_up h (by omega) (by omega) (by omega), bs, c_need A D hd hu, bs, ac_p8 A, bs]
  rw [ac_l1 A, if_inI (by omega) (by omega), lts, if_inI (by omega) (by omega), lts, nI_clamp (by omega), ac_1 A (by omega)]
  have A1 := Ac_w A 1 k (α 1 k - g * Nd α d u)
  have F1 : Fr (PS s) h (sI h (s + 1) k (α 1 k - g * Nd α d u)) := Fr_sI _ _ _ _ ⟨by omega, by omega⟩
  generalize sI h (s + 1) k (α 1 k - g * Nd α d u) = h1 at A1 F1 ⊢
  rw [ac_p8 A1, bs, ac_l1 A1, nI_1, if_inI (by omega) (by omega), lts, if_inI (by omega) (by omega), lts, nI_clamp (by omega), ac_1 A1 (by omega)]
  have A2 := Ac_w A1 1 (k + 1) (α 1 (k + 1) + g * Nd α d u)
  rw [sr_sr, sr_s] at A2
  rw [sr_s, upd_o _ _ (by omega)]
  have F2 : Fr (PS s) h (sI h1 (s + 1) (k + 1) (α 1 (k + 1) + g * Nd α d u)) := Fr_trans F1 (Fr_sI _ _ _ _ ⟨by omega, by omega⟩)
  generalize sI h1 (s + 1) (k + 1) (α 1 (k + 1) + g * Nd α d u) = h2 at A2 F2 ⊢
  rw [lts, ac_0 A2 (by decide), sr_o _ _ (by decide)]
  have A3 := Ac_w0 A2 4 (α 0 4 + g * Nd α d u)
  have F3 : Fr (PS s) h (sI h2 s 4 (α 0 4 + g * Nd α d u)) := Fr_trans F2 (Fr_sI _ _ _ _ ⟨by omega, by omega⟩)
  generalize sI h2 s 4 (α 0 4 + g * Nd α d u) = h3 at A3 F3 ⊢
  have D3 : Dm (sr (sr α 1 (upd (upd (α 1) k (α 1 k - g * Nd α d u)) (k + 1) (α 1 (k + 1) + g * Nd α d u))) 0 (upd (α 0) 4 (α 0 4 + g * Nd α d u))) := Dm_of (fun j hj => by rw [sr_s, upd_o _ _ (by omega)]) D
  have E3 : bgs (sr (sr α 1 (upd (upd (α 1) k (α 1 k - g * Nd α d u)) (k + 1) (α 1 (k + 1) + g * Nd α d u))) 0 (upd (α 0) 4 (α 0 4 + g * Nd α d u))) = bgs α := bgs_of (by rw [sr_s, upd_o _ _ (by decide)])
  rw [sr_o _ _ (by decide)] at A3
  rw [t_down h3 (by omega) (by omega) (by omega), bs, t_up h3 (by omega) (by omega) (by omega), bs, c_worth A3 D3 (by rw [E3]; exact hd) (by rw [E3]; exact hu), bs, lts, ac_0 A3 (by decide), Wo_of (α := α) (by rw [sr_o _ _ (by decide), sr_o _ _ (by decide)])]
  have A4 := Ac_w0 A3 3 (α 0 3 + g * Wo α d u)
  refine ⟨_, rfl, ?_, Fr_trans F3 (Fr_sI _ _ _ _ ⟨by omega, by omega⟩)⟩
  unfold prA
  rw [sr_sr, sr_s] at A4
  rw [sr_s, upd_o _ _ (by decide)]
  exact A4
/-- a tip is done (g = 1), or undone (g = -1) -/
def dT (α : SA) (k d u : Nat) (g : Int32) : SA := prA (mvB α d u g) k d u g
theorem c_tip {h : Hp} {s : Nat} {α : SA} (A : Ac h s α) (D : Dm α) {k d u : Nat} (hk : k + 1 < lvl α) (hd : d ≤ bgs α) (hu : u ≤ bgs α) (g : Int32) : ∃ h1 h', f_X5_moveBarges h s (nI (cd k d u)) g = some h1 ∧ f_X5_pour h1 s (nI (cd k d u)) g = some h' ∧ Ac h' s (dT α k d u g) ∧ Fr (PS s) h h' := by
  have h8 := D.2.2.2.1
  obtain ⟨h1, e1, A1, F1⟩ := c_move A D (k := k) (by omega) hd hu g
  have D1 : Dm (mvB α d u g) := Dm_of (fun j _ => by rw [mvB_0]) D
  obtain ⟨h2, e2, A2, F2⟩ := c_pour A1 D1 (k := k) (d := d) (u := u) (by rw [lvl_of (by rw [mvB_0])]; exact hk) (by rw [bgs_of (by rw [mvB_0])]; exact hd) (by rw [bgs_of (by rw [mvB_0])]; exact hu) g
  exact ⟨h1, h2, e1, e2, A2, Fr_trans F1 F2⟩
theorem c_doTip {h : Hp} {s : Nat} {α : SA} (A : Ac h s α) (D : Dm α) {k d u : Nat} (hk : k + 1 < lvl α) (hd : d ≤ bgs α) (hu : u ≤ bgs α) : ∃ h', f_X5_doTip h s (nI (cd k d u)) = some h' ∧ Ac h' s (dT α k d u 1) ∧ Fr (PS s) h h' := by
  obtain ⟨h1, h2, e1, e2, A2, F2⟩ := c_tip A D hk hd hu 1
  exact ⟨h2, by unfold f_X5_doTip; rw [e1, bs, e2, bs], A2, F2⟩
theorem c_undoTip {h : Hp} {s : Nat} {α : SA} (A : Ac h s α) (D : Dm α) {k d u : Nat} (hk : k + 1 < lvl α) (hd : d ≤ bgs α) (hu : u ≤ bgs α) : ∃ h', f_X5_undoTip h s (nI (cd k d u)) = some h' ∧ Ac h' s (dT α k d u (-1)) ∧ Fr (PS s) h h' := by
  obtain ⟨h1, h2, e1, e2, A2, F2⟩ := c_tip A D hk hd hu (-1)
  exact ⟨h2, by unfold f_X5_undoTip; rw [e1, bs, e2, bs], A2, F2⟩
theorem c_isTip {h : Hp} {s : Nat} {α : SA} (A : Ac h s α) (D : Dm α) {k d u : Nat} (hk : k + 1 < lvl α) (hd : d ≤ bgs α) (hu : u ≤ bgs α) : f_X5_isTip h s (nI k) (bI d) (bI u) = some (if d = 0 ∧ u = 0 then 0 else 1) := by
  have h6 := D.2.2.2.2.1
  have nb : ∀ b, b < bgs α → ¬ nI b = -1 := fun b hb z => absurd (nI_pos' (n := b) (by omega)) (by rw [z]; decide)
  unfold f_X5_isTip f_X5_isTip_13 f_X5_isTip_18 f_X5_isTip_33 f_X5_isTip_38
  rw [c_hasBarge A D hd, c_hasBarge A D hu, c_hasStep A D hk]
  cases d with
  | zero =>
    cases u with
    | zero => rfl
    | succ c => simp [bI, nb c (by omega), bs]
  | succ b =>
    cases u with
    | zero => simp [bI, nb b (by omega), bs]
    | succ c => simp [bI, nb b (by omega), nb c (by omega), bs]
