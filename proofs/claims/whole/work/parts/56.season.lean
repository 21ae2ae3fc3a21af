/-! ===== calls: seasons ===== -/
theorem lN_div {a d : Nat} (ha : a < 2 ^ 63) (h0 : 0 < d) (hd : d < 2 ^ 63) : lN a / lN d = lN (a / d) := by
  apply Int64.toInt_inj.mp
  have e1 : (lN a).toInt = a := lg_ofNat_toInt ha
  have e2 : (lN d).toInt = d := lg_ofNat_toInt hd
  have e3 : (lN (a / d)).toInt = ((a / d : Nat) : Int) := lg_ofNat_toInt (Nat.lt_of_le_of_lt (Nat.div_le_self _ _) ha)
  rw [lg_ldiv_nonneg (by rw [e1]; omega) (by rw [e2]; omega), e1, e2, e3]
  rfl
theorem lN_rem {a d : Nat} (ha : a < 2 ^ 63) (h0 : 0 < d) (hd : d < 2 ^ 63) : lN a - lN a / lN d * lN d = lN (a % d) := by
  have := Nat.div_add_mod a d
  have h2 : a / d * d ≤ a := Nat.div_mul_le_self a d
  rw [lN_div ha h0 hd, lN_mul, lN_sub h2]
  congr 1
  rw [Nat.mul_comm] at this
  omega
def dr (n : Nat) : Nat := (n * 1103515245 + 12345) % 2147483648
theorem dr_lt (n : Nat) : dr n < 2147483648 := Nat.mod_lt _ (by decide)
theorem dr_l {n : Nat} (h : n < 2 ^ 31) : ((lN n * (1103515245 : Int64)) + (12345 : Int64)) - ((lN n * (1103515245 : Int64)) + (12345 : Int64)) / (2147483648 : Int64) * (2147483648 : Int64) = lN (dr n) := by
  rw [show (1103515245 : Int64) = lN 1103515245 from rfl, show (12345 : Int64) = lN 12345 from rfl, show (2147483648 : Int64) = lN 2147483648 from rfl, lN_mul, lN_add, lN_rem (by omega) (by decide) (by decide)]
  rfl
/-- a barge is drawn -/
def dw1 (dn : Nat → Nat) (γ : SA) (w b n : Nat) : SA := sr (sr (sr γ 6 (upd (γ 6) b (nI (1 + dn n / 65536 % w)))) 8 (upd (γ 8) b (nI (dn (dn n) / 65536 % 2)))) 5 (upd (γ 5) b (if dn (dn n) / 65536 % 2 = 0 then 0 else γ 0 0 - 1))
def dwS (dn : Nat → Nat) (w : Nat) : Nat → Nat → SA → Nat → SA × Nat
  | 0, _, γ, n => (γ, n)
  | m + 1, b, γ, n => dwS dn w m (b + 1) (dw1 dn γ w b n) (dn (dn n))
theorem dw1_o (dn : Nat → Nat) (γ : SA) (w b n : Nat) {a : Nat} (h5 : a ≠ 5) (h6 : a ≠ 6) (h8 : a ≠ 8) : dw1 dn γ w b n a = γ a := by
  unfold dw1
  rw [sr_o _ _ h5, sr_o _ _ h8, sr_o _ _ h6]
theorem dwS_o (dn : Nat → Nat) (w : Nat) : ∀ m b γ n {a : Nat}, a ≠ 5 → a ≠ 6 → a ≠ 8 → (dwS dn w m b γ n).1 a = γ a
  | 0, _, _, _, _, _, _, _ => rfl
  | m + 1, b, γ, n, a, h5, h6, h8 => by
    rw [dwS, dwS_o dn w m (b + 1) (dw1 dn γ w b n) (dn (dn n)) h5 h6 h8, dw1_o _ _ _ _ _ h5 h6 h8]
theorem dwS_lt {dn : Nat → Nat} {B : Nat} (hd : ∀ n, dn n < B) (w : Nat) : ∀ m b γ n, n < B → (dwS dn w m b γ n).2 < B
  | 0, _, _, _, h => h
  | m + 1, b, γ, n, _ => by
    rw [dwS]
    exact dwS_lt hd w m (b + 1) _ _ (hd _)
def xr (γ : SA) (n : Nat) : SA := sr γ 0 (upd (γ 0) 6 (nI n))
theorem xr_o (γ : SA) (n : Nat) {a : Nat} (h : a ≠ 0) : xr γ n a = γ a := sr_o _ _ h
theorem xr_0 (γ : SA) (n : Nat) {j : Nat} (h : j ≠ 6) : xr γ n 0 j = γ 0 j := by unfold xr; rw [sr_s, upd_o _ _ h]
theorem xr_D {γ : SA} (D : Dm γ) (n : Nat) : Dm (xr γ n) := Dm_of (fun j hj => xr_0 γ n (by omega)) D
theorem xr_Sm (γ : SA) (n : Nat) : Sm γ (xr γ n) := ⟨xr_o _ _ (by decide), xr_o _ _ (by decide), xr_o _ _ (by decide), xr_o _ _ (by decide), xr_o _ _ (by decide), xr_o _ _ (by decide), xr_o _ _ (by decide), xr_0 _ _ (by decide), xr_0 _ _ (by decide), xr_0 _ _ (by decide), xr_0 _ _ (by decide)⟩
theorem c_draw {h : Hp} {γ : SA} {n : Nat} (A : Ac h 15 (xr γ n)) (hn : n < 2 ^ 31) : ∃ h', f_X5_nextDraw h 15 = some (nI (dr n / 65536), h') ∧ Ac h' 15 (xr γ (dr n)) ∧ Fr (PS 15) h h' := by
  unfold f_X5_nextDraw
  have e6 : xr γ n 0 6 = nI n := by unfold xr; rw [sr_s, upd_s]
  rw [ac_0 A (by decide), e6, nI_l hn, dr_l hn, lN_i, lts, sI_r, if_pos rfl, show (65536 : Int32) = nI 65536 from rfl, pk_div (by have := dr_lt n; omega) (by decide) (by decide)]
  refine ⟨_, rfl, ?_, Fr_sI _ _ _ _ ⟨by decide, by decide⟩⟩
  have := Ac_w0 A 6 (nI (dr n))
  unfold xr at this ⊢
  rw [sr_sr, sr_s, upd_upd] at this
  exact this
theorem c_putB {h : Hp} {γ : SA} {b : Nat} (A : Ac h 15 γ) (D : Dm γ) (hb : b < bgs γ) : ∃ h', f_X5_putAtBegin h 15 (nI b) = some h' ∧ Ac h' 15 (sr γ 5 (upd (γ 5) b (if γ 8 b = 0 then 0 else γ 0 0 - 1))) ∧ Fr (PS 15) h h' := by
  have h6 := D.2.2.2.2.1
  unfold f_X5_putAtBegin f_X5_putAtBegin_32
  rw [show nI b = bI (b + 1) from rfl, c_hasBarge A D (by omega), bs, if_neg (show ¬ (if b + 1 = 0 then (0 : Int32) else 1) = 0 by simp), show bI (b + 1) = nI b from rfl, ac_p12 A, bs, ac_p15 A, bs, ac_l8 A, if_inI (by omega) (by omega), nI_clamp (by omega), ac_8 A (by omega), ac_l5 A, ac_0 A (by decide)]
  by_cases c : γ 8 b = 0
  · rw [if_pos c, if_pos ⟨nI_pos' (by omega), by omega⟩, lts, if_pos c]
    exact ⟨_, rfl, Ac_w A 5 b _, Fr_sI _ _ _ _ ⟨by decide, by decide⟩⟩
  · rw [if_neg c, if_pos ⟨nI_pos' (by omega), by omega⟩, lts, if_neg c]
    exact ⟨_, rfl, Ac_w A 5 b _, Fr_sI _ _ _ _ ⟨by decide, by decide⟩⟩
theorem c_dw_l {N w : Nat} (hw : 1 ≤ w ∧ w ≤ 99) : ∀ (m b f : Nat) (h : Hp) (γ : SA) (n : Nat), b + m = bgs γ → m < f → n < 2 ^ 31 → Dm γ → Ac h 15 (xr γ n) → ∃ h', f_X5_drawBarges_2 N f h 15 (nI w) (nI b) = some h' ∧ Ac h' 15 (xr (dwS dr w m b γ n).1 (dwS dr w m b γ n).2) ∧ Fr (PS 15) h h' := by
  intro m
  induction m with
  | zero =>
    intro b f h γ n hb hf hn D A
    have h6 := D.2.2.2.2.1
    obtain ⟨f, rfl⟩ : ∃ k, f = k + 1 := ⟨f - 1, by omega⟩
    rw [f_X5_drawBarges_2, ac_0 A (by decide), xr_0 _ _ (by decide), D.2.1, if_pos (nI_le (by omega) (by omega))]
    exact ⟨h, rfl, A, Fr_refl h⟩
  | succ m ih =>
    intro b f h γ n hb hf hn D A
    have h6 := D.2.2.2.2.1
    obtain ⟨f, rfl⟩ : ∃ k, f = k + 1 := ⟨f - 1, by omega⟩
    have d1 := dr_lt n
    have d2 := dr_lt (dr n)
    obtain ⟨h1, e1, A1, F1⟩ := c_draw A hn
    rw [f_X5_drawBarges_2, ac_0 A (by decide), xr_0 _ _ (by decide), D.2.1, if_neg (nI_ge (by omega) (by omega)), ac_p13 A, bs, if_pos (show (1 : Int32) ≤ nI w from nI_le (a := 1) hw.1 (by omega)), e1, b2s, if_pos (nI_ne0 (by omega) (by omega)), pk_rem (by omega) (by omega) (by omega)]
    unfold f_X5_drawBarges_31
    rw [show (15 : Nat) + 6 = 21 from rfl, show hL h1 21 = 6 from ac_l6 A1, if_inI (by omega) (by omega), lts, nI_clamp (by omega), n_1, nI_add]
    have A2 : Ac (sI h1 21 b (nI (1 + dr n / 65536 % w))) 15 (xr (sr γ 6 (upd (γ 6) b (nI (1 + dr n / 65536 % w)))) (dr n)) := by
      have := Ac_w A1 6 b (nI (1 + dr n / 65536 % w))
      refine Ac_ext this (fun k i _ _ => ?_)
      unfold xr
      by_cases k0 : k = 0
      · subst k0
        rw [sr_o _ _ (by decide), sr_s, sr_s, sr_o _ _ (by decide)]
      · rw [sr_o (k := 0) _ _ k0]
        by_cases k6 : k = 6
        · subst k6
          rw [sr_s, sr_s, sr_o _ _ (by decide)]
        · rw [sr_o _ _ k6, sr_o _ _ k6, sr_o _ _ k0]
    have F2 : Fr (PS 15) h1 (sI h1 21 b (nI (1 + dr n / 65536 % w))) := Fr_sI _ _ _ _ ⟨by decide, by decide⟩
    generalize sI h1 21 b (nI (1 + dr n / 65536 % w)) = h2 at A2 F2 ⊢
    obtain ⟨h3, e3, A3, F3⟩ := c_draw A2 (by omega)
    rw [ac_p15 A2, bs, e3, b2s, lts, n_2, pk_rem (by omega) (by decide) (by decide), show (15 : Nat) + 8 = 23 from rfl, show hL h3 23 = 6 from ac_l8 A3, if_pos ⟨nI_pos' (by omega), by omega⟩, lts]
    have A4 : Ac (sI h3 23 b (nI (dr (dr n) / 65536 % 2))) 15 (xr (sr (sr γ 6 (upd (γ 6) b (nI (1 + dr n / 65536 % w)))) 8 (upd (γ 8) b (nI (dr (dr n) / 65536 % 2)))) (dr (dr n))) := by
      have := Ac_w A3 8 b (nI (dr (dr n) / 65536 % 2))
      refine Ac_ext this (fun k i _ _ => ?_)
      unfold xr
      by_cases k0 : k = 0
      · subst k0
        rw [sr_o _ _ (by decide), sr_s, sr_s, sr_o _ _ (by decide), sr_o _ _ (by decide), sr_o _ _ (by decide)]
      · rw [sr_o (k := 0) _ _ k0]
        by_cases k8 : k = 8
        · subst k8
          rw [sr_s, sr_s, sr_o _ _ (by decide), sr_o _ _ (by decide)]
        · rw [sr_o _ _ k8, sr_o _ _ k8, sr_o _ _ k0]
    have F4 : Fr (PS 15) h3 (sI h3 23 b (nI (dr (dr n) / 65536 % 2))) := Fr_sI _ _ _ _ ⟨by decide, by decide⟩
    generalize sI h3 23 b (nI (dr (dr n) / 65536 % 2)) = h4 at A4 F4 ⊢
    have D4 : Dm (xr (sr (sr γ 6 (upd (γ 6) b (nI (1 + dr n / 65536 % w)))) 8 (upd (γ 8) b (nI (dr (dr n) / 65536 % 2)))) (dr (dr n))) := xr_D (Dm_of (fun j _ => by rw [sr_o _ _ (by decide), sr_o _ _ (by decide)]) D) _
    have b4 : bgs (xr (sr (sr γ 6 (upd (γ 6) b (nI (1 + dr n / 65536 % w)))) 8 (upd (γ 8) b (nI (dr (dr n) / 65536 % 2)))) (dr (dr n))) = bgs γ := bgs_of (by rw [xr_0 _ _ (by decide), sr_o _ _ (by decide), sr_o _ _ (by decide)])
    obtain ⟨h5, e5, A5, F5⟩ := c_putB (b := b) A4 D4 (by rw [b4]; omega)
    rw [e5, bs, nI_add, dwS]
    have A5' : Ac h5 15 (xr (dw1 dr γ w b n) (dr (dr n))) := by
      refine Ac_ext A5 (fun k i _ _ => ?_)
      have ew : ((if xr (sr (sr γ 6 (upd (γ 6) b (nI (1 + dr n / 65536 % w)))) 8 (upd (γ 8) b (nI (dr (dr n) / 65536 % 2)))) (dr (dr n)) 8 b = 0 then (0 : Int32) else xr (sr (sr γ 6 (upd (γ 6) b (nI (1 + dr n / 65536 % w)))) 8 (upd (γ 8) b (nI (dr (dr n) / 65536 % 2)))) (dr (dr n)) 0 0 - 1)) = (if dr (dr n) / 65536 % 2 = 0 then 0 else γ 0 0 - 1) := by
        rw [xr_o _ _ (by decide), sr_s, upd_s, xr_0 _ _ (by decide), sr_o _ _ (by decide), sr_o _ _ (by decide)]
        have : ∀ x, x < 2 → ((nI x = 0) ↔ x = 0) := by decide
        have t := this (dr (dr n) / 65536 % 2) (Nat.mod_lt _ (by decide))
        by_cases c : dr (dr n) / 65536 % 2 = 0
        · rw [if_pos c, if_pos (t.mpr c)]
        · rw [if_neg c, if_neg (fun z => c (t.mp z))]
      rw [ew]
      unfold dw1
      by_cases k5 : k = 5
      · subst k5
        rw [sr_s, xr_o _ _ (by decide), xr_o _ _ (by decide), sr_s, sr_o _ _ (by decide), sr_o _ _ (by decide)]
      · rw [sr_o _ _ k5]
        unfold xr
        by_cases k0 : k = 0
        · subst k0
          rw [sr_s, sr_s, sr_o (k := 5) _ _ (by decide)]
        · rw [sr_o _ _ k0, sr_o _ _ k0, sr_o _ _ k5]
    have bd : bgs (dw1 dr γ w b n) = bgs γ := bgs_of (by rw [dw1_o _ _ _ _ _ (by decide) (by decide) (by decide)])
    obtain ⟨h6', e6, A6, F6⟩ := ih (b + 1) f h5 (dw1 dr γ w b n) (dr (dr n)) (by rw [bd]; omega) (by omega) (by omega) (Dm_of (fun j _ => by rw [dw1_o _ _ _ _ _ (by decide) (by decide) (by decide)]) D) A5'
    exact ⟨h6', e6, A6, Fr_trans F1 (Fr_trans F2 (Fr_trans F3 (Fr_trans F4 (Fr_trans F5 F6))))⟩
theorem m_begins {h : Hp} {γ : SA} {b : Nat} (M : Am h γ) (D : Dm γ) (hb : b < bgs γ) : ∃ h', f_X8_begins h 51 (nI b) = some h' ∧ Am h' (sr γ 5 (upd (γ 5) b (if γ 8 b = 0 then 0 else γ 0 0 - 1))) ∧ Fr P62 h h' := by
  have h6 := D.2.2.2.2.1
  unfold f_X8_begins f_X8_begins_33
  rw [pp_51_26 M.1, bs, m_b2 M D hb, bs, ix5, n_4, nI_add, bs, ll_62 M.1, if_pos (show 0 < 93 by decide), am_0 M]
  have fin : ∀ x : Int32, ∃ h', (if 0 ≤ nI (25 + 5 * b + 4) ∧ (nI (25 + 5 * b + 4)).toNatClampNeg < 93 then lt (sI h 62 (nI (25 + 5 * b + 4)).toNatClampNeg x) (fun h2 => some h2) else none) = some h' ∧ Am h' (sr γ 5 (upd (γ 5) b x)) ∧ Fr P62 h h' := fun x => by
    rw [if_inI (by omega) (by omega), lts, nI_clamp (by omega), show 25 + 5 * b + 4 = ad 5 b by show _ = 29 + 5 * b; omega]
    exact ⟨_, rfl, Am_w M D x hb (by omega), Fr_sI _ _ _ _ rfl⟩
  by_cases c : γ 8 b = 0
  · rw [if_pos c, if_pos c]
    exact fin 0
  · rw [if_neg c, if_neg c]
    exact fin _
theorem RN_Sm {rl : RLT} : ∀ (n : Nat) {α β : SA}, Sm α β → β 0 4 = α 0 4 → (RN rl n β).1 = (RN rl n α).1 ∧ Sm (RN rl n α).2 (RN rl n β).2 ∧ (RN rl n β).2 0 4 = (RN rl n α).2 0 4
  | 0, α, β, h, h4 => ⟨rfl, h, h4⟩
  | n + 1, α, β, h, h4 => by
    rw [RN, RN, Sm_TL h]
    cases e : TL α rl with
    | nil => exact ⟨rfl, h, h4⟩
    | cons x l =>
      have e4 : dN β x 1 0 4 = dN α x 1 0 4 := by
        show dT β (tk β x) (td β x) (tu β x) 1 0 4 = dT α (tk α x) (td α x) (tu α x) 1 0 4
        rw [dT_r0, dT_r0, upd_o (k := 3) (j := 4) _ _ (by decide), upd_s, upd_o (k := 3) (j := 4) _ _ (by decide), upd_s, Sm_td h, Sm_tu h, Sm_Nd h, h4]
      obtain ⟨a, b, c⟩ := RN_Sm (rl := rl) n (Sm_dN h x 1) e4
      exact ⟨by show (RN rl n (dN β x 1)).1 + 1 = (RN rl n (dN α x 1)).1 + 1; rw [a], b, c⟩
theorem RN_D {rl : RLT} : ∀ (n : Nat) {α : SA}, Dm α → Dm (RN rl n α).2
  | 0, _, D => D
  | n + 1, α, D => by
    rw [RN]
    cases e : TL α rl with
    | nil => exact D
    | cons x l => exact RN_D n (dT_D D _ _ _ _)
/-- what one season gives -/
def seB (α : SA) (rl : RLT) (w n : Nat) : SA := (RN rl 200 (dwS dr w (bgs α) 0 α n).1).2
def seN (α : SA) (w n : Nat) : Nat := (dwS dr w (bgs α) 0 α n).2
def seS (α : SA) (rl : RLT) (w : Nat) (nx : Nat → Nat) : Nat → Nat → Int32 → Int32 → Int32 × Int32
  | 0, _, a, p => (a, p)
  | m + 1, n, a, p => seS α rl w nx m (nx n) (a + bct (hmS (seB α rl w n))) (p + (seB α rl w n 0 4 - α 0 4))
theorem c_sea_l {N r : Nat} {R : Nat → RLT} {α : SA} {w v : Nat} {vw : Int32} (hN : 5000 ≤ N) (O : Ok α) (f : fOk r α) (h0 : 0 < lvl α) (hw : 1 ≤ w ∧ w ≤ 99) (hv : v ≤ 20) : ∀ (m k e : Nat) (h : Hp) (n : Nat) (a p : Int32), k + m = v → m < e → n < 2 ^ 31 → SHP h → Ac h 3 α → RuT N h r R → ∃ h', f_X7_seasons_61 N e h 0 (nI v) (nI w) vw a p (nI n) (nI k) = some (if vw = 0 then (seS α (rlF R α) w (seN α w) m n a p).1 else (seS α (rlF R α) w (seN α w) m n a p).2, h') ∧ Fr (PS 15) h h' := by
  have D := O.1
  have h6 := D.2.2.2.2.1
  intro m
  induction m with
  | zero =>
    intro k e h n a p hk he hn H A T
    obtain ⟨e, rfl⟩ : ∃ k, e = k + 1 := ⟨e - 1, by omega⟩
    rw [f_X7_seasons_61, if_pos (nI_le (by omega) (by omega))]
    refine ⟨h, ?_, Fr_refl h⟩
    show _ = some ((if vw = 0 then a else p), h)
    by_cases c : vw = 0
    · rw [if_pos c, if_pos c]
    · rw [if_neg c, if_neg c]
  | succ m ih =>
    intro k e h n a p hk he hn H A T
    obtain ⟨e, rfl⟩ : ∃ k, e = k + 1 := ⟨e - 1, by omega⟩
    obtain ⟨h1, e1, A1, F1⟩ := c_copy (s0 := 15) (s1 := 3) (Or.inr (by decide)) A (st_15 H)
    have H1 := Fr_SHP F1 H
    rw [f_X7_seasons_61, if_neg (nI_ge (by omega) (by omega)), pp_0_2 H, bs, pp_0_1 H, bs, e1, bs, pp_0_2 H1, bs, lts]
    have A2 : Ac (sI h1 15 6 (nI n)) 15 (xr α n) := Ac_w0 A1 6 (nI n)
    have F2 : Fr (PS 15) h1 (sI h1 15 6 (nI n)) := Fr_sI _ _ _ _ ⟨by decide, by decide⟩
    generalize sI h1 15 6 (nI n) = h2 at A2 F2 ⊢
    have H2 := Fr_SHP F2 H1
    obtain ⟨h3, e3, A3, F3⟩ := c_dw_l (N := N) hw (bgs α) 0 N h2 α n (by omega) (by omega) hn D A2
    have e3' : f_X5_drawBarges N h2 15 (nI w) = some h3 := e3
    have H3 := Fr_SHP F3 H2
    have F13 : Fr (PS 15) h h3 := Fr_trans F1 (Fr_trans F2 F3)
    have A3' : Ac h3 3 α := Fr_Ac F13 (fun a j h1 h2 z => by have := z.1; omega) A
    have T3 : RuT N h3 r R := RuT_Fq (Fr_q F13) (fun a j z => by have := z.1; have := z.2; unfold Pr2; omega) T
    obtain ⟨u, u1, u2⟩ := c_rif H3 A3' T3 f
    have Dd : Dm (dwS dr w (bgs α) 0 α n).1 := Dm_of (fun j _ => by rw [dwS_o _ _ _ _ _ _ (by decide) (by decide) (by decide)]) D
    have ld : lvl (dwS dr w (bgs α) 0 α n).1 = lvl α := lvl_of (by rw [dwS_o _ _ _ _ _ _ (by decide) (by decide) (by decide)])
    have h6' : hI h3 15 6 = nI (seN α w n) := by
      rw [ac_0 A3 (by decide)]
      unfold xr seN
      rw [sr_s, upd_s]
    have smx := xr_Sm (dwS dr w (bgs α) 0 α n).1 (dwS dr w (bgs α) 0 α n).2
    obtain ⟨h4, e4, A4, F4⟩ := c_runs (n := 200) A3 (xr_D Dd _) (by omega) (by rw [Sm_lvl smx, ld]; exact h0) (fun q e => by have := Rc_q77 u2 q e; omega) u2 (Nat.le_refl _)
    have e4' : f_X5_runTips N h3 15 u 200 = some (nI (RN (rlF R α) 200 (xr (dwS dr w (bgs α) 0 α n).1 (dwS dr w (bgs α) 0 α n).2)).1, h4) := e4
    have H4 := Fr_SHP F4 H3
    have F14 := Fr_trans F13 F4
    have A4' : Ac h4 3 α := Fr_Ac F14 (fun a j h1 h2 z => by have := z.1; omega) A
    obtain ⟨r1, r2, r3⟩ := RN_Sm (rl := rlF R α) 200 smx (xr_0 _ _ (by decide))
    have r2' : Sm (seB α (rlF R α) w n) (RN (rlF R α) 200 (xr (dwS dr w (bgs α) 0 α n).1 (dwS dr w (bgs α) 0 α n).2)).2 := r2
    have r3' : (RN (rlF R α) 200 (xr (dwS dr w (bgs α) 0 α n).1 (dwS dr w (bgs α) 0 α n).2)).2 0 4 = seB α (rlF R α) w n 0 4 := r3
    rw [pp_0_2 H2, bs, e3', bs, pp_0_2 H3, bs, bs, u1, bs, e4', b2s, pp_0_2 H4, bs, c_home A4 (RN_D 200 (xr_D Dd _)) (by omega), bs, c_bct, bs, bs, pp_0_1 H4, bs, lts, h6', Sm_hm r2', ac_0 A4 (by decide), ac_0 A4' (by decide), r3', nI_1]
    obtain ⟨h5, e5, F5⟩ := ih (k + 1) e h4 (seN α w n) (a + bct (hmS (seB α (rlF R α) w n))) (p + (seB α (rlF R α) w n 0 4 - α 0 4)) (by omega) (by omega) (dwS_lt (B := 2 ^ 31) (fun n => dr_lt n) w (bgs α) 0 α n hn) H4 A4' (RuT_Fq (Fr_q F14) (fun a j z => by have := z.1; have := z.2; unfold Pr2; omega) T)
    refine ⟨h5, ?_, Fr_trans F14 F5⟩
    rw [e5, seS]
theorem m_dw_l {N w : Nat} {s65 : Hp → Nat → Int32 → Int32 → Int32 → Int64 → Int32 → Int32 → Option (Int32 × Hp)} {vm vw al kk : Int32} (hw : 1 ≤ w ∧ w ≤ 99) : ∀ (m b f : Nat) (h : Hp) (γ : SA) (n : Nat), b + m = bgs γ → m < f → n < 2 ^ 31 → Dm γ → Am h γ → ∃ h', f_X8_seasons_74 N s65 f h 51 vm (nI w) vw (lN n) al kk (nI b) = f_X8_seasons_74 N s65 1 h' 51 vm (nI w) vw (lN (dwS dr w m b γ n).2) al kk (nI (bgs γ)) ∧ Am h' (dwS dr w m b γ n).1 ∧ Fr P62 h h' := by
  intro m
  induction m with
  | zero =>
    intro b f h γ n hb hf hn D M
    have h6 := D.2.2.2.2.1
    obtain ⟨f, rfl⟩ : ∃ k, f = k + 1 := ⟨f - 1, by omega⟩
    have : b = bgs γ := by omega
    subst this
    refine ⟨h, ?_, M, Fr_refl h⟩
    rw [f_X8_seasons_74, f_X8_seasons_74, pp_51_26 M.1, bs, bs, ll_62 M.1, if_pos (show 1 < 93 by decide), if_pos (show 1 < 93 by decide), am_1 M, D.2.1, if_pos (nI_le (by omega) (by omega)), if_pos (nI_le (by omega) (by omega))]
    rfl
  | succ m ih =>
    intro b f h γ n hb hf hn D M
    have h6 := D.2.2.2.2.1
    obtain ⟨f, rfl⟩ : ∃ k, f = k + 1 := ⟨f - 1, by omega⟩
    have d1 := dr_lt n
    have d2 := dr_lt (dr n)
    have d12 : dr n < 2 ^ 31 := d1
    have d22 : dr (dr n) < 2 ^ 31 := d2
    have m65 : dr n / 65536 < 2 ^ 31 := Nat.lt_of_le_of_lt (Nat.div_le_self _ _) d12
    have ml : dr n / 65536 % w < 100 := by have := Nat.mod_lt (dr n / 65536) (show w > 0 by omega); omega
    have m2 : dr (dr n) / 65536 < 2 ^ 31 := Nat.lt_of_le_of_lt (Nat.div_le_self _ _) d22
    rw [f_X8_seasons_74, pp_51_26 M.1, bs, ll_62 M.1, if_pos (show 1 < 93 by decide), am_1 M, D.2.1, if_neg (nI_ge (by omega) (by omega)), dr_l hn, lts, bs, nI_l (by omega), if_pos (show ¬ lN w = 0 from fun z => by
      have := (pk_lEQ (a := w) (b := 0) (by omega) (by decide)).mp z
      omega), lts, show (65536 : Int64) = lN 65536 from rfl, lN_div (by omega) (by decide) (by decide), lN_rem (by omega) (by omega) (by omega), lN_i, n_1, nI_add, ix5, ll_62 M.1, if_inI (by omega) (by omega), lts, nI_clamp (by omega)]
    have M1 := Am_w M D (k := 6) (i := b) (nI (1 + dr n / 65536 % w)) (show b < bgs γ by omega) (by omega)
    rw [show ad 6 b = 25 + 5 * b from rfl] at M1
    have D1 : Dm (sr γ 6 (upd (γ 6) b (nI (1 + dr n / 65536 % w)))) := Dm_of (fun j _ => by rw [sr_o _ _ (by decide)]) D
    have b1 : bgs (sr γ 6 (upd (γ 6) b (nI (1 + dr n / 65536 % w)))) = bgs γ := bgs_of (by rw [sr_o _ _ (by decide)])
    have F1 : Fr P62 h (sI h 62 (25 + 5 * b) (nI (1 + dr n / 65536 % w))) := Fr_sI _ _ _ _ rfl
    generalize sI h 62 (25 + 5 * b) (nI (1 + dr n / 65536 % w)) = h1 at M1 F1 ⊢
    rw [dr_l d12, lts, pp_51_26 M1.1, bs, lts, show (2 : Int64) = lN 2 from rfl, lN_div (by omega) (by decide) (by decide), lN_rem (by omega) (by decide) (by decide), lN_i, n_2, nI_add, ll_62 M1.1, if_inI (by omega) (by omega), lts, nI_clamp (by omega), show 25 + 5 * b + 2 = 27 + 5 * b by omega]
    have M2 := Am_w M1 D1 (k := 8) (i := b) (nI (dr (dr n) / 65536 % 2)) (show b < bgs _ by rw [b1]; omega) (by omega)
    rw [show ad 8 b = 27 + 5 * b from rfl, sr_o (k := 6) (j := 8) _ _ (by decide)] at M2
    have D2 : Dm (sr (sr γ 6 (upd (γ 6) b (nI (1 + dr n / 65536 % w)))) 8 (upd (γ 8) b (nI (dr (dr n) / 65536 % 2)))) := Dm_of (fun j _ => by rw [sr_o _ _ (by decide)]) D1
    have b2' : bgs (sr (sr γ 6 (upd (γ 6) b (nI (1 + dr n / 65536 % w)))) 8 (upd (γ 8) b (nI (dr (dr n) / 65536 % 2)))) = bgs γ := bgs_of (by rw [sr_o _ _ (by decide), sr_o _ _ (by decide)])
    have F2 : Fr P62 h1 (sI h1 62 (27 + 5 * b) (nI (dr (dr n) / 65536 % 2))) := Fr_sI _ _ _ _ rfl
    generalize sI h1 62 (27 + 5 * b) (nI (dr (dr n) / 65536 % 2)) = h2 at M2 F2 ⊢
    obtain ⟨h3, e3, M3, F3⟩ := m_begins (b := b) M2 D2 (by rw [b2']; omega)
    rw [e3, bs, nI_add, dwS]
    have M3' : Am h3 (dw1 dr γ w b n) := by
      have ew : (sr (sr (sr γ 6 (upd (γ 6) b (nI (1 + dr n / 65536 % w)))) 8 (upd (γ 8) b (nI (dr (dr n) / 65536 % 2)))) 5 (upd (sr (sr γ 6 (upd (γ 6) b (nI (1 + dr n / 65536 % w)))) 8 (upd (γ 8) b (nI (dr (dr n) / 65536 % 2))) 5) b (if sr (sr γ 6 (upd (γ 6) b (nI (1 + dr n / 65536 % w)))) 8 (upd (γ 8) b (nI (dr (dr n) / 65536 % 2))) 8 b = 0 then 0 else sr (sr γ 6 (upd (γ 6) b (nI (1 + dr n / 65536 % w)))) 8 (upd (γ 8) b (nI (dr (dr n) / 65536 % 2))) 0 0 - 1))) = dw1 dr γ w b n := by
        unfold dw1
        rw [sr_s, upd_s, sr_o (k := 8) (j := 5) _ _ (by decide), sr_o (k := 6) (j := 5) _ _ (by decide), sr_o (k := 8) (j := 0) _ _ (by decide), sr_o (k := 6) (j := 0) _ _ (by decide)]
        have : ∀ x, x < 2 → ((nI x = 0) ↔ x = 0) := by decide
        have t := this (dr (dr n) / 65536 % 2) (Nat.mod_lt _ (by decide))
        by_cases c : dr (dr n) / 65536 % 2 = 0
        · rw [if_pos c, if_pos (t.mpr c)]
        · rw [if_neg c, if_neg (fun z => c (t.mp z))]
      rw [← ew]
      exact M3
    have bd : bgs (dw1 dr γ w b n) = bgs γ := bgs_of (by rw [dw1_o _ _ _ _ _ (by decide) (by decide) (by decide)])
    obtain ⟨h4, e4, M4, F4⟩ := ih (b + 1) f h3 (dw1 dr γ w b n) (dr (dr n)) (by rw [bd]; omega) (by omega) d22 (Dm_of (fun j _ => by rw [dw1_o _ _ _ _ _ (by decide) (by decide) (by decide)]) D) M3'
    rw [bd] at e4
    exact ⟨h4, e4, M4, Fr_trans F1 (Fr_trans F2 (Fr_trans F3 F4))⟩
theorem m_sea_l {N : Nat} {α : SA} {rl : RLT} {w v : Nat} {vw : Int32} {σ : Nat → Int32} (hN : 5000 ≤ N) (O : Ok α) (hw : 1 ≤ w ∧ w ≤ 99) (hv : v ≤ 20) (Sσ : Sd σ α) : ∀ (m k e : Nat) (h : Hp) (n : Nat) (a p : Int32), k + m = v → m < e → n < 2 ^ 31 → SHP h → (∀ i, i < 93 → hI h 62 i = σ i) → (∀ i, i < 93 → hI h 63 i = σ i) → Rm N h (α 0 5) rl → ∃ h', f_X8_seasons_65 N e h 51 (nI v) (nI w) vw (lN n) (if vw = 0 then a else p) (nI k) = some (if vw = 0 then (seS α rl w (seN α w) m n a p).1 else (seS α rl w (seN α w) m n a p).2, h') ∧ (∀ i, i < 93 → hI h' 62 i = σ i) ∧ Fr PD h h' := by
  have D := O.1
  have h6 := D.2.2.2.2.1
  intro m
  induction m with
  | zero =>
    intro k e h n a p hk he hn H K6 K7 Q
    obtain ⟨e, rfl⟩ : ∃ k, e = k + 1 := ⟨e - 1, by omega⟩
    rw [f_X8_seasons_65, if_pos (nI_le (by omega) (by omega))]
    exact ⟨h, rfl, K6, Fr_refl h⟩
  | succ m ih =>
    intro k e h n a p hk he hn H K6 K7 Q
    obtain ⟨e, rfl⟩ : ∃ k, e = k + 1 := ⟨e - 1, by omega⟩
    have M : Am h α := ⟨H, Sd_congr D K6 Sσ⟩
    rw [f_X8_seasons_65, if_neg (nI_ge (by omega) (by omega))]
    obtain ⟨h1, e1, M1, F1⟩ := m_dw_l (N := N) (s65 := f_X8_seasons_65 N e) (vm := nI v) (vw := vw) (al := if vw = 0 then a else p) (kk := nI k) hw (bgs α) 0 N h α n (by omega) (by omega) hn D M
    have e1' : f_X8_seasons_74 N (f_X8_seasons_65 N e) N h 51 (nI v) (nI w) vw (lN n) (if vw = 0 then a else p) (nI k) 0 = f_X8_seasons_74 N (f_X8_seasons_65 N e) 1 h1 51 (nI v) (nI w) vw (lN (seN α w n)) (if vw = 0 then a else p) (nI k) (nI (bgs α)) := e1
    have Dd : Dm (dwS dr w (bgs α) 0 α n).1 := Dm_of (fun j _ => by rw [dwS_o _ _ _ _ _ _ (by decide) (by decide) (by decide)]) D
    have zd : (dwS dr w (bgs α) 0 α n).1 0 = α 0 := dwS_o _ _ _ _ _ _ (by decide) (by decide) (by decide)
    have Q1 : Rm N h1 ((dwS dr w (bgs α) 0 α n).1 0 5) rl := by rw [zd]; exact Rm_62 F1 Q
    obtain ⟨h2, e2, M2, F2⟩ := m_runs (n := 200) M1 Dd (by omega) Q1 (Nat.le_refl _)
    have e2' : f_X8_runs N h1 51 200 = some (nI (RN rl 200 (dwS dr w (bgs α) 0 α n).1).1, h2) := e2
    have M2' : Am h2 (seB α rl w n) := M2
    have D2 : Dm (seB α rl w n) := RN_D 200 Dd
    have H2 := M2.1
    rw [e1', f_X8_seasons_74, pp_51_26 M1.1, bs, ll_62 M1.1, if_pos (show 1 < 93 by decide), am_1 M1, zd, D.2.1, if_pos (Int32.le_refl _), e2', b2s, m_home M2' D2 (by omega), bs, show f_X8_bits N h2 (hmS (seB α rl w n)) = some (bct (hmS (seB α rl w n))) from m_bitsS (by omega) _ D2.2.2.2.2.1, bs, pp_51_26 H2, bs, ll_62 H2, if_pos (show 4 < 93 by decide), pp_51_27 H2, bs, ll_63 H2, if_pos (show 4 < 93 by decide), am_4 M2', F2.2.2.2 63 4 (fun z => by unfold PD at z; omega), F1.2.2.2 63 4 (fun (z : 63 = 62) => by omega), K7 4 (by decide), ← K6 4 (by decide), am_4 M]
    obtain ⟨h3, e3, F3, k3⟩ := m_puts_l (N := N) (h0 := h2) 93 0 N h2 (by omega) (by omega) H2 (Fr_refl h2) (fun i hi => absurd hi (Nat.not_lt_zero i))
    have e3' : f_X8_putsBack N h2 51 = some h3 := e3
    unfold f_X8_seasons_215
    rw [e3', bs, bs, nI_1]
    have F23 : Fr PD h h3 := Fr_trans (PD_62 F1) (Fr_trans F2 (Fr_mono F3 (fun a j z => Or.inl z.1)))
    have K73 : ∀ i, i < 93 → hI h3 63 i = σ i := fun i hi => by rw [F23.2.2.2 63 i (fun z => by unfold PD at z; omega)]; exact K7 i hi
    have K63 : ∀ i, i < 93 → hI h3 62 i = σ i := fun i hi => by
      rw [k3 i hi, F2.2.2.2 63 i (fun z => by unfold PD at z; omega), F1.2.2.2 63 i (fun (z : 63 = 62) => by omega)]
      exact K7 i hi
    obtain ⟨h4, e4, k4, F4⟩ := ih (k + 1) e h3 (seN α w n) (a + bct (hmS (seB α rl w n))) (p + (seB α rl w n 0 4 - α 0 4)) (by omega) (by omega) (dwS_lt (B := 2 ^ 31) (fun n => dr_lt n) w (bgs α) 0 α n hn) (Fr_SHP F23 H) K63 K73 (Rm_PD F23 Q)
    refine ⟨h4, ?_, k4, Fr_trans F23 F4⟩
    rw [seS, ← e4]
    by_cases c : vw = 0
    · rw [if_pos c, if_pos c, if_pos c]
    · rw [if_neg c, if_neg c, if_neg c]
theorem ok_seasons {N : Nat} (hN : 5000 ≤ N) (v w x : Int32) : Cok N (fun h => f_X7_seasons N h 0 v w x) (fun h => f_X8_seasons N h 51 v w x) := by
  rintro h ⟨r, R, α, g⟩
  have g' := g
  obtain ⟨g1, A, M, O, f, T, g7, g8, g9⟩ := g
  have H := M.1
  have D := O.1
  have n1 : ¬ (1 : Int32) = 0 := by decide
  show ∃ z h1 h2, f_X7_seasons N h 0 v w x = some (z, h1) ∧ f_X8_seasons N h1 51 v w x = some (z, h2) ∧ GG N h2
  have inv : ∀ h1, f_X8_in h1 v.toInt64 (1 : Int64) (20 : Int64) = some (if v < 1 then 0 else if 20 < v then 0 else 1) := fun h1 => m_in h1 v 1 20
  have inw : ∀ h1, f_X8_in h1 w.toInt64 (1 : Int64) (99 : Int64) = some (if w < 1 then 0 else if 99 < w then 0 else 1) := fun h1 => m_in h1 w 1 99
  have inx : ∀ h1, f_X8_in h1 x.toInt64 (0 : Int64) (1 : Int64) = some (if x < 0 then 0 else if 1 < x then 0 else 1) := fun h1 => m_in h1 x 0 1
  have nope : ∀ (c : lvl α = 0 ∨ v < 1 ∨ 20 < v ∨ w < 1 ∨ 99 < w ∨ x < 0 ∨ ¬ x ≤ 1), ∃ z h1 h2, f_X7_seasons N h 0 v w x = some (z, h1) ∧ f_X8_seasons N h1 51 v w x = some (z, h2) ∧ GG N h2 := by
    intro c
    refine ⟨-1, h, h, ?_, ?_, r, R, α, g'⟩
    · unfold f_X7_seasons
      rw [pp_0_1 H, bs, ac_0 A (by decide)]
      by_cases c0 : lvl α = 0
      · rw [if_pos ((lv0 D).mpr c0)]
      · rw [if_neg (fun z => c0 ((lv0 D).mp z))]
        by_cases c1 : v < 1
        · rw [if_pos c1]
        · rw [if_neg c1]
          by_cases c2 : 20 < v
          · rw [if_pos c2]
          · rw [if_neg c2]
            by_cases c3 : w < 1
            · rw [if_pos c3]
            · rw [if_neg c3]
              by_cases c4 : 99 < w
              · rw [if_pos c4]
              · rw [if_neg c4]
                by_cases c5 : x < 0
                · rw [if_pos c5]
                · rw [if_neg c5, if_neg ((((((c.resolve_left c0).resolve_left c1).resolve_left c2).resolve_left c3).resolve_left c4).resolve_left c5)]
    · unfold f_X8_seasons
      rw [pp_51_26 H, bs, ll_62 H, if_pos (show 0 < 93 by decide), am_0 M]
      by_cases c0 : lvl α = 0
      · rw [if_pos ((lv0 D).mpr c0)]
      · rw [if_neg (fun z => c0 ((lv0 D).mp z)), inv, bs]
        by_cases c1 : v < 1
        · rw [if_pos c1, if_pos rfl]
        · rw [if_neg c1]
          by_cases c2 : 20 < v
          · rw [if_pos c2, if_pos rfl]
          · rw [if_neg c2, if_neg n1, inw, bs]
            by_cases c3 : w < 1
            · rw [if_pos c3, if_pos rfl]
            · rw [if_neg c3]
              by_cases c4 : 99 < w
              · rw [if_pos c4, if_pos rfl]
              · rw [if_neg c4, if_neg n1, inx, bs]
                by_cases c5 : x < 0
                · rw [if_pos c5, if_pos rfl]
                · rw [if_neg c5, if_pos (Int32.not_le.mp ((((((c.resolve_left c0).resolve_left c1).resolve_left c2).resolve_left c3).resolve_left c4).resolve_left c5)), if_pos rfl]
  by_cases c0 : lvl α = 0
  · exact nope (Or.inl c0)
  · by_cases c1 : v < 1
    · exact nope (Or.inr (Or.inl c1))
    · by_cases c2 : 20 < v
      · exact nope (Or.inr (Or.inr (Or.inl c2)))
      · by_cases c3 : w < 1
        · exact nope (Or.inr (Or.inr (Or.inr (Or.inl c3))))
        · by_cases c4 : 99 < w
          · exact nope (Or.inr (Or.inr (Or.inr (Or.inr (Or.inl c4)))))
          · by_cases c5 : x < 0
            · exact nope (Or.inr (Or.inr (Or.inr (Or.inr (Or.inr (Or.inl c5))))))
            · by_cases c6 : x ≤ 1
              · have v0 : ¬ v < 0 := fun z => c1 (Int32.lt_trans z (by decide))
                have w0 : ¬ w < 0 := fun z => c3 (Int32.lt_trans z (by decide))
                obtain ⟨vn, vn1, rfl⟩ := i_nat v0
                obtain ⟨wn, wn1, rfl⟩ := i_nat w0
                obtain ⟨xn', xn1, ex⟩ := i_nat (v := α 0 6) (Int32.not_lt.mpr O.2.2.2.1.2.2.2.1)
                have vv : vn ≤ 20 := (nI_leI (b := 20) vn1 (by decide)).mp (Int32.not_lt.mp c2)
                have ww : 1 ≤ wn ∧ wn ≤ 99 := ⟨(nI_leI (a := 1) (by decide) wn1).mp (Int32.not_lt.mp c3), (nI_leI (b := 99) wn1 (by decide)).mp (Int32.not_lt.mp c4)⟩
                obtain ⟨h1, e1, F1⟩ := c_sea_l (N := N) (R := R) (vw := x) hN O f (by omega) ww vv vn 0 N h xn' 0 0 (by omega) (by omega) xn1 H A T
                have Q1 : Fq PQc h h1 := Fq_mono (Fr_q F1) (fun a j z => by have := z.1; have := z.2; unfold PQc; omega)
                have M1 := Am_q Q1 M
                have H1 := M1.1
                obtain ⟨h2, e2, F2, k2⟩ := m_keeps_l (N := N) (h0 := h1) 93 0 N h1 (by omega) (by omega) H1 (Fr_refl h1) (fun i hi => absurd hi (Nat.not_lt_zero i))
                have e2' : f_X8_keeps N h1 51 = some h2 := e2
                have M2 : Am h2 α := Am_Fr F2 (fun j z => by omega) M1
                obtain ⟨h3, e3, k3, F3⟩ := m_sea_l (N := N) (rl := rlF R α) (vw := x) (σ := hI h1 62) hN O ww vv M1.2 vn 0 N h2 xn' 0 0 (by omega) (by omega) xn1 M2.1 (fun i _ => F2.2.2.2 62 i (fun z => by omega)) k2 (Rm_Fr F2 (fun j z => by omega) (fun j z => by omega) (fun j z => by omega) (Rm_q Q1 (fOk_rl T f)))
                rw [ite_self] at e3
                have e1' : f_X7_seasons_61 N N h 0 (nI vn) (nI wn) x 0 0 (nI xn') 0 = some (if x = 0 then (seS α (rlF R α) wn (seN α wn) vn xn' 0 0).1 else (seS α (rlF R α) wn (seN α wn) vn xn' 0 0).2, h1) := e1
                have e3' : f_X8_seasons_65 N N h2 51 (nI vn) (nI wn) x (lN xn') 0 0 = some (if x = 0 then (seS α (rlF R α) wn (seN α wn) vn xn' 0 0).1 else (seS α (rlF R α) wn (seN α wn) vn xn' 0 0).2, h3) := e3
                refine ⟨if x = 0 then (seS α (rlF R α) wn (seN α wn) vn xn' 0 0).1 else (seS α (rlF R α) wn (seN α wn) vn xn' 0 0).2, h1, h3, ?_, ?_, ask2 g' Q1 (Fq_trans (Fq_mono (Fr_q F2) (fun a j z => by unfold PQm; omega)) (Fq_mono (Fr_q F3) (fun a j z => by unfold PD at z; unfold PQm; omega))) k3⟩
                · unfold f_X7_seasons
                  rw [pp_0_1 H, bs, ac_0 A (by decide), if_neg (fun z => c0 ((lv0 D).mp z)), if_neg c1, if_neg c2, if_neg c3, if_neg c4, if_neg c5, if_pos c6, bs, ac_0 A (by decide), ex, e1']
                · unfold f_X8_seasons
                  rw [pp_51_26 H1, bs, ll_62 H1, if_pos (show 0 < 93 by decide), am_0 M1, if_neg (fun z => c0 ((lv0 D).mp z)), inv, bs, if_neg c1, if_neg c2, if_neg n1, inw, bs, if_neg c3, if_neg c4, if_neg n1, inx, bs, if_neg c5, if_neg (Int32.not_lt.mpr c6), if_neg n1, e2', bs, pp_51_26 M2.1, bs, ll_62 M2.1, if_pos (show 7 < 93 by decide), am_7 M2, ex, nI_l xn1, e3']
              · exact nope (Or.inr (Or.inr (Or.inr (Or.inr (Or.inr (Or.inr c6))))))
