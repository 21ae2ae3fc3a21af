/-! ===== what the laws look at; a tip undone ===== -/
def Sm (α β : SA) : Prop := β 1 = α 1 ∧ β 2 = α 2 ∧ β 3 = α 3 ∧ β 5 = α 5 ∧ β 6 = α 6 ∧ β 7 = α 7 ∧ β 8 = α 8 ∧ β 0 0 = α 0 0 ∧ β 0 1 = α 0 1 ∧ β 0 2 = α 0 2 ∧ β 0 3 = α 0 3
theorem Sm_refl (α : SA) : Sm α α := ⟨rfl, rfl, rfl, rfl, rfl, rfl, rfl, rfl, rfl, rfl, rfl⟩
theorem Sm_symm {α β : SA} (h : Sm α β) : Sm β α := by
  obtain ⟨a, b, c, d, e, f, g, i, j, k, l⟩ := h
  exact ⟨a.symm, b.symm, c.symm, d.symm, e.symm, f.symm, g.symm, i.symm, j.symm, k.symm, l.symm⟩
theorem Sm_trans {α β γ : SA} (h : Sm α β) (h' : Sm β γ) : Sm α γ := by
  obtain ⟨a, b, c, d, e, f, g, i, j, k, l⟩ := h
  obtain ⟨a', b', c', d', e', f', g', i', j', k', l'⟩ := h'
  exact ⟨a'.trans a, b'.trans b, c'.trans c, d'.trans d, e'.trans e, f'.trans f, g'.trans g, i'.trans i, j'.trans j, k'.trans k, l'.trans l⟩
theorem Sm_lvl {α β : SA} (h : Sm α β) : lvl β = lvl α := lvl_of h.2.2.2.2.2.2.2.1
theorem Sm_bgs {α β : SA} (h : Sm α β) : bgs β = bgs α := bgs_of h.2.2.2.2.2.2.2.2.1
theorem Sm_Nd {α β : SA} (h : Sm α β) (d u : Nat) : Nd β d u = Nd α d u := Nd_of h.2.2.2.2.1 h.2.2.2.2.2.1 h.2.2.2.2.2.2.2.2.2.1 d u
theorem Sm_Wo {α β : SA} (h : Sm α β) (d u : Nat) : Wo β d u = Wo α d u := Wo_of h.2.2.2.2.2.1 d u
theorem Sm_Rd {α β : SA} (h : Sm α β) (l : Nat) (w : Int32) (d : Nat) : Rd β l w d = Rd α l w d := by
  cases d with
  | zero => rfl
  | succ b => unfold Rd; rw [h.2.2.2.1, h.2.2.2.2.2.2.1]
theorem Sm_Cn {α β : SA} (h : Sm α β) (l : Nat) : Cn β l = Cn α l := by
  unfold Cn atS
  rw [h.2.2.2.1, Sm_bgs h]
theorem Sm_Se {α β : SA} (h : Sm α β) (l : Nat) (m : Int32) : Se β l m = Se α l m := by
  unfold Se
  rw [h.2.1, Sm_lvl h]
theorem Sm_Wrd {α β : SA} (h : Sm α β) (k d u : Nat) : Wrd β k d u = Wrd α k d u := by
  funext i
  unfold Wrd
  rw [Sm_Nd h, Sm_Cn h, Sm_Cn h, Wt_of h.2.2.2.2.1, Wt_of h.2.2.2.2.1, Wi_of h.2.2.2.2.2.1, Wi_of h.2.2.2.2.2.1, h.1, h.2.2.2.2.2.2.2.2.2.2]
theorem Sm_Lw {α β : SA} (h : Sm α β) (rl : RLT) (k d u : Nat) : Lw β rl k d u = Lw α rl k d u := by
  unfold Lw
  rw [Sm_Rd h, Sm_Rd h, Sm_Se h, Sm_Se h, Sm_Cn h, Sm_Cn h, Sm_Nd h, Sm_Wrd h, h.2.2.1, h.1]
theorem Sm_tB {α β : SA} (h : Sm α β) : tB β = tB α := by unfold tB; rw [Sm_bgs h]
theorem Sm_tM {α β : SA} (h : Sm α β) : tM β = tM α := by unfold tM; rw [Sm_tB h, Sm_lvl h]
theorem Sm_tk {α β : SA} (h : Sm α β) (n : Nat) : tk β n = tk α n := by unfold tk; rw [Sm_tB h]
theorem Sm_td {α β : SA} (h : Sm α β) (n : Nat) : td β n = td α n := by unfold td tdi; rw [Sm_tB h, Sm_bgs h]
theorem Sm_tu {α β : SA} (h : Sm α β) (n : Nat) : tu β n = tu α n := by unfold tu tdi; rw [Sm_tB h, Sm_bgs h]
theorem Sm_tc {α β : SA} (h : Sm α β) (n : Nat) : tc β n = tc α n := by unfold tc; rw [Sm_tk h, Sm_td h, Sm_tu h]
theorem Sm_TL {α β : SA} (h : Sm α β) (rl : RLT) : TL β rl = TL α rl := by
  unfold TL
  rw [Sm_tM h]
  congr 1
  funext n
  unfold lgl
  rw [Sm_tk h, Sm_td h, Sm_tu h, Sm_Lw h]
theorem Sm_hm {α β : SA} (h : Sm α β) : hmS β = hmS α := by
  unfold hmS
  rw [Sm_bgs h]
  congr 1
  funext b
  unfold hm
  rw [h.2.2.2.1, h.2.2.2.2.2.2.1, h.2.2.2.2.2.2.2.1]
theorem mv1_5 {α β : SA} (h : β 5 = α 5) (g : Int32) (d : Nat) : mv1 β g d 5 = mv1 α g d 5 := by
  cases d with
  | zero => exact h
  | succ b =>
    show sr β 5 _ 5 = sr α 5 _ 5
    rw [sr_s, sr_s, h]
theorem mvB_5 {α β : SA} (h : β 5 = α 5) (g : Int32) (d u : Nat) : mvB β d u g 5 = mvB α d u g 5 := mv1_5 (mv1_5 h g d) (-g) u
theorem dT_5 (α : SA) (k d u : Nat) (g : Int32) : dT α k d u g 5 = mvB α d u g 5 := prA_o _ _ _ _ _ (by decide) (by decide)
theorem mvB_Nd (α : SA) (d u d' u' : Nat) (g : Int32) : Nd (mvB α d u g) d' u' = Nd α d' u' := Nd_of (mvB_o _ _ _ _ (by decide)) (mvB_o _ _ _ _ (by decide)) (by rw [mvB_0]) d' u'
theorem mvB_Wo (α : SA) (d u d' u' : Nat) (g : Int32) : Wo (mvB α d u g) d' u' = Wo α d' u' := Wo_of (mvB_o _ _ _ _ (by decide)) d' u'
theorem dT_1 (α : SA) (k d u : Nat) (g : Int32) : dT α k d u g 1 = upd (upd (α 1) k (α 1 k - g * Nd α d u)) (k + 1) (α 1 (k + 1) + g * Nd α d u) := by
  unfold dT prA
  rw [sr_o _ _ (by decide), sr_s, mvB_Nd, mvB_o _ _ _ _ (by decide)]
theorem dT_o (α : SA) (k d u : Nat) (g : Int32) {a : Nat} (h0 : a ≠ 0) (h1 : a ≠ 1) (h5 : a ≠ 5) : dT α k d u g a = α a := (prA_o _ _ _ _ _ h0 h1).trans (mvB_o _ _ _ _ h5)
theorem dT_r0 (α : SA) (k d u : Nat) (g : Int32) : dT α k d u g 0 = upd (upd (α 0) 4 (α 0 4 + g * Nd α d u)) 3 (α 0 3 + g * Wo α d u) := by
  unfold dT prA
  rw [sr_s, mvB_Nd, mvB_Wo, mvB_o _ _ _ _ (by decide)]
theorem Sm_dN {α β : SA} (h : Sm α β) (x : Nat) (g : Int32) : Sm (dN α x g) (dN β x g) := by
  unfold dN
  rw [Sm_tk h, Sm_td h, Sm_tu h]
  refine ⟨?_, ?_, ?_, ?_, ?_, ?_, ?_, ?_, ?_, ?_, ?_⟩
  · rw [dT_1, dT_1, Sm_Nd h, h.1]
  · rw [dT_o _ _ _ _ _ (by decide) (by decide) (by decide), dT_o _ _ _ _ _ (by decide) (by decide) (by decide)]; exact h.2.1
  · rw [dT_o _ _ _ _ _ (by decide) (by decide) (by decide), dT_o _ _ _ _ _ (by decide) (by decide) (by decide)]; exact h.2.2.1
  · rw [dT_5, dT_5]; exact mvB_5 h.2.2.2.1 _ _ _
  · rw [dT_o _ _ _ _ _ (by decide) (by decide) (by decide), dT_o _ _ _ _ _ (by decide) (by decide) (by decide)]; exact h.2.2.2.2.1
  · rw [dT_o _ _ _ _ _ (by decide) (by decide) (by decide), dT_o _ _ _ _ _ (by decide) (by decide) (by decide)]; exact h.2.2.2.2.2.1
  · rw [dT_o _ _ _ _ _ (by decide) (by decide) (by decide), dT_o _ _ _ _ _ (by decide) (by decide) (by decide)]; exact h.2.2.2.2.2.2.1
  · rw [dT_0 _ _ _ _ _ (by decide) (by decide), dT_0 _ _ _ _ _ (by decide) (by decide)]; exact h.2.2.2.2.2.2.2.1
  · rw [dT_0 _ _ _ _ _ (by decide) (by decide), dT_0 _ _ _ _ _ (by decide) (by decide)]; exact h.2.2.2.2.2.2.2.2.1
  · rw [dT_0 _ _ _ _ _ (by decide) (by decide), dT_0 _ _ _ _ _ (by decide) (by decide)]; exact h.2.2.2.2.2.2.2.2.2.1
  · rw [dT_r0, dT_r0, upd_s, upd_s, h.2.2.2.2.2.2.2.2.2.2, Sm_Wo h]
theorem ad_un (x g : Int32) : x + g + -g = x := by rw [Int32.add_assoc, Int32.add_right_neg, Int32.add_zero]
theorem mv1_mv1 (α : SA) (g : Int32) (d : Nat) : mv1 (mv1 α g d) (-g) d = α := by
  cases d with
  | zero => rfl
  | succ b =>
    show sr (sr α 5 _) 5 (upd (sr α 5 (upd (α 5) b (α 5 b + g)) 5) b (sr α 5 (upd (α 5) b (α 5 b + g)) 5 b + -g)) = α
    rw [sr_sr, sr_s, upd_s, ad_un]
    funext a
    by_cases h : a = 5
    · subst h
      rw [sr_s]
      funext j
      by_cases hj : j = b
      · subst hj; rw [upd_s]
      · rw [upd_o _ _ hj, upd_o _ _ hj]
    · rw [sr_o _ _ h]
theorem mv1_comm (α : SA) (g g' : Int32) {d u : Nat} (h : d ≠ u) : mv1 (mv1 α g d) g' u = mv1 (mv1 α g' u) g d := by
  cases d with
  | zero => rfl
  | succ b =>
    cases u with
    | zero => rfl
    | succ c =>
      have hb : b ≠ c := fun z => h (by omega)
      show sr (sr α 5 _) 5 (upd (sr α 5 (upd (α 5) b (α 5 b + g)) 5) c (sr α 5 (upd (α 5) b (α 5 b + g)) 5 c + g')) = sr (sr α 5 _) 5 (upd (sr α 5 (upd (α 5) c (α 5 c + g')) 5) b (sr α 5 (upd (α 5) c (α 5 c + g')) 5 b + g))
      rw [sr_sr, sr_sr, sr_s, sr_s, upd_o _ _ hb, upd_o _ _ hb.symm]
      congr 1
      funext j
      by_cases h1 : j = b
      · subst h1; rw [upd_o _ _ hb, upd_s, upd_s]
      · by_cases h2 : j = c
        · subst h2; rw [upd_s, upd_o _ _ h1, upd_s]
        · rw [upd_o _ _ h2, upd_o _ _ h1, upd_o _ _ h1, upd_o _ _ h2]
theorem upd_id (f : Nat → Int32) (k : Nat) : upd f k (f k) = f := by
  funext j
  by_cases h : j = k
  · subst h; rw [upd_s]
  · rw [upd_o _ _ h]
theorem upd_upd (f : Nat → Int32) (k : Nat) (x y : Int32) : upd (upd f k x) k y = upd f k y := by
  funext j
  by_cases h : j = k
  · subst h; rw [upd_s, upd_s]
  · rw [upd_o _ _ h, upd_o _ _ h, upd_o _ _ h]
theorem upd_comm (f : Nat → Int32) {k i : Nat} (x y : Int32) (h : k ≠ i) : upd (upd f k x) i y = upd (upd f i y) k x := by
  funext j
  by_cases h1 : j = k
  · subst h1; rw [upd_o _ _ h, upd_s, upd_s]
  · by_cases h2 : j = i
    · subst h2; rw [upd_s, upd_o _ _ h1, upd_s]
    · rw [upd_o _ _ h2, upd_o _ _ h1, upd_o _ _ h1, upd_o _ _ h2]
theorem neg1_mul (x : Int32) : -1 * x = -x := by rw [Int32.neg_mul, Int32.one_mul]
theorem dT_undo (α : SA) (k d u : Nat) (h : d ≠ u) : dT (dT α k d u 1) k d u (-1) = α := by
  have hn : Nd (dT α k d u 1) d u = Nd α d u := Nd_of (dT_o _ _ _ _ _ (by decide) (by decide) (by decide)) (dT_o _ _ _ _ _ (by decide) (by decide) (by decide)) (dT_0 _ _ _ _ _ (by decide) (by decide)) d u
  have hw : Wo (dT α k d u 1) d u = Wo α d u := Wo_of (dT_o _ _ _ _ _ (by decide) (by decide) (by decide)) d u
  funext a
  by_cases h0 : a = 0
  · subst h0
    rw [dT_r0, dT_r0, hn, hw, upd_s, upd_o _ _ (by decide), upd_s, Int32.one_mul, Int32.one_mul, neg1_mul, neg1_mul, ad_un, ad_un, upd_comm _ _ _ (by decide : 3 ≠ 4), upd_upd, upd_upd, upd_id, upd_id]
  · by_cases h1 : a = 1
    · subst h1
      rw [dT_1, dT_1, hn, upd_o _ _ (by omega), upd_s, upd_s, Int32.one_mul, neg1_mul, Int32.sub_neg, Int32.sub_add_cancel, ad_un, upd_comm _ _ _ (by omega : k + 1 ≠ k), upd_upd, upd_upd, upd_id, upd_id]
    · by_cases h5 : a = 5
      · subst h5
        rw [dT_5, mvB_5 (dT_5 α k d u 1)]
        unfold mvB
        rw [mv1_comm _ _ _ h.symm, mv1_mv1, mv1_mv1]
      · rw [dT_o _ _ _ _ _ h0 h1 h5, dT_o _ _ _ _ _ h0 h1 h5]
/-! ===== what every stair that is told keeps ===== -/
def sumB (f : Nat → Nat) : Nat → Nat
  | 0 => 0
  | n + 1 => sumB f n + f n
theorem sumB_le {f g : Nat → Nat} : ∀ n, (∀ b, b < n → f b ≤ g b) → sumB f n ≤ sumB g n
  | 0, _ => Nat.le_refl _
  | n + 1, h => Nat.add_le_add (sumB_le n (fun b hb => h b (by omega))) (h n (by omega))
theorem sumB_lt {f g : Nat → Nat} : ∀ n, (∀ b, b < n → f b ≤ g b) → ∀ c, c < n → f c < g c → sumB f n < sumB g n
  | n + 1, h, c, hc, hl => by
    show sumB f n + f n < sumB g n + g n
    by_cases e : c = n
    · subst e
      have := sumB_le c (fun b hb => h b (by omega))
      omega
    · have := sumB_lt n (fun b hb => h b (by omega)) c (by omega) hl
      have := h n (by omega)
      omega
/-- the steps that barge b still has to go -/
def rm1 (α : SA) (b : Nat) : Nat := if α 8 b = 0 then lvl α - 1 - (α 5 b).toNatClampNeg else (α 5 b).toNatClampNeg
def rem (α : SA) : Nat := sumB (rm1 α) (bgs α)
def Val (α : SA) : Prop := (∀ b, b < bgs α → (α 8 b = 0 ∨ α 8 b = 1) ∧ (α 7 b = 0 ∨ α 7 b = 1) ∧ (∃ w, w ≤ 99 ∧ α 6 b = nI w) ∧ ∃ t, t ≤ 999 ∧ α 9 b = nI t) ∧ (∃ g, g ≤ 20 ∧ α 0 2 = nI g) ∧ (∀ l, l + 1 < lvl α → α 3 l = 0 ∨ α 3 l = 1) ∧ 0 ≤ α 0 6 ∧ (lvl α = 0 ∨ 2 ≤ lvl α) ∧ (lvl α = 0 → bgs α = 0)
def Wtr (α : SA) : Prop := ∀ l, l < lvl α → ∃ w, α 1 l = nI w ∧ w + 238 * rem α ≤ 19995
def Ok (α : SA) : Prop := Dm α ∧ Plc α ∧ Sn α ∧ Val α ∧ Wtr α
theorem Nd_nat {α : SA} (V : Val α) {d u : Nat} (hd : d ≤ bgs α) (hu : u ≤ bgs α) : ∃ n, n ≤ 238 ∧ Nd α d u = nI n := by
  obtain ⟨g, hg, eg⟩ := V.2.1
  have wt : ∀ d, d ≤ bgs α → ∃ w, w ≤ 99 ∧ Wt α d = nI w := by
    intro d hd
    cases d with
    | zero => exact ⟨0, by decide, rfl⟩
    | succ b => exact (V.1 b (by omega)).2.2.1
  obtain ⟨a, ha, ea⟩ := wt d hd
  obtain ⟨b, hb, eb⟩ := wt u hu
  have hw : Wo α d u = nI 1 ∨ Wo α d u = nI 2 := by
    unfold Wo
    split
    · exact Or.inl rfl
    · exact Or.inr rfl
  unfold Nd
  rw [ea, eb, eg, nI_add]
  by_cases h : a < b + g
  · rw [pk_sub (by omega), if_pos (show 0 < nI (b + g - a) from nI_lt (a := 0) (by omega) (by omega))]
    rcases hw with hw | hw
    · exact ⟨(b + g - a) * 1, by omega, by rw [hw, pk_mul]⟩
    · exact ⟨(b + g - a) * 2, by omega, by rw [hw, pk_mul]⟩
  · have : ¬ 0 < nI (b + g) - nI a := by
      by_cases e : a = b + g
      · subst e
        rw [pk_sub (Nat.le_refl _), Nat.sub_self]
        decide
      · exact fun z => absurd (pk_sneg (a := b + g) (b := a) (by omega) (by omega)) (Int32.not_lt.mpr (Int32.le_of_lt z))
    rw [if_neg this, Int32.zero_mul]
    exact ⟨0, by decide, rfl⟩
theorem lgl_ne {α : SA} {rl : RLT} {n : Nat} (h : lgl α rl n = true) : td α n ≠ tu α n := by
  obtain ⟨h1, h2⟩ := lgl_t h
  obtain ⟨h3, h4, _⟩ := Lw_0 h2
  intro e
  rw [← e] at h4 h1
  cases hd : td α n with
  | zero => exact h1 ⟨hd, hd⟩
  | succ b =>
    rw [hd] at h3 h4
    have a := (of_decide_eq_true h3).2
    have c := (of_decide_eq_true h4).2
    rw [a] at c
    exact absurd c (by decide)
theorem dN_undo {α : SA} {rl : RLT} {x : Nat} (h : x ∈ TL α rl) : dT (dN α x 1) (tk α x) (td α x) (tu α x) (-1) = α := dT_undo _ _ _ _ (lgl_ne (TL_mem h).1)
/-- where barge b stands behind a tip -/
theorem dN_at {α : SA} {rl : RLT} {x : Nat} (h : x ∈ TL α rl) (b : Nat) : dN α x 1 5 b = if b + 1 = td α x then nI (tk α x + 1) else if b + 1 = tu α x then nI (tk α x) else α 5 b := by
  obtain ⟨h3, h4, _⟩ := Lw_0 (lgl_t (TL_mem h).1).2
  have hne := lgl_ne (TL_mem h).1
  unfold dN
  rw [← dM_dT h3 h4]
  unfold dM
  rw [prA_o _ _ _ _ _ (by decide) (by decide), atM_5, atM_5]
  generalize td α x = d at hne ⊢
  generalize tu α x = u at hne ⊢
  cases d with
  | zero =>
    cases u with
    | zero => exact absurd rfl hne
    | succ c =>
      show upd (α 5) c _ b = _
      by_cases e : b = c
      · subst e; rw [upd_s, if_neg (by omega), if_pos rfl]
      · rw [upd_o _ _ e, if_neg (by omega), if_neg (by omega)]
  | succ a =>
    cases u with
    | zero =>
      show upd (α 5) a _ b = _
      by_cases e : b = a
      · subst e; rw [upd_s, if_pos rfl]
      · rw [upd_o _ _ e, if_neg (by omega), if_neg (by omega)]
    | succ c =>
      show upd (upd (α 5) a _) c _ b = _
      by_cases e : b = c
      · subst e; rw [upd_s, if_neg (fun z => hne (by omega)), if_pos rfl]
      · rw [upd_o _ _ e]
        by_cases e2 : b = a
        · subst e2; rw [upd_s, if_pos rfl]
        · rw [upd_o _ _ e2, if_neg (by omega), if_neg (by omega)]
theorem dN_dims (α : SA) (x : Nat) (g : Int32) : lvl (dN α x g) = lvl α ∧ bgs (dN α x g) = bgs α := ⟨lvl_of (dT_0 _ _ _ _ _ (by decide) (by decide)), bgs_of (dT_0 _ _ _ _ _ (by decide) (by decide))⟩
theorem rem_tip {α : SA} {rl : RLT} {x : Nat} (D : Dm α) (P : Plc α) (h : x ∈ TL α rl) : rem (dN α x 1) < rem α := by
  obtain ⟨h3, h4, _⟩ := Lw_0 (lgl_t (TL_mem h).1).2
  have h8 := D.2.2.2.1
  have hk := tk_lt (TL_mem h).2
  have hne := lgl_ne (TL_mem h).1
  unfold rem
  rw [(dN_dims α x 1).2]
  have e8 : dN α x 1 8 = α 8 := dT_o _ _ _ _ _ (by decide) (by decide) (by decide)
  have one : ∀ b, rm1 (dN α x 1) b = if b + 1 = td α x then lvl α - 1 - (tk α x + 1) else if b + 1 = tu α x then tk α x else rm1 α b := by
    intro b
    unfold rm1
    rw [e8, (dN_dims α x 1).1, dN_at h b]
    by_cases e1 : b + 1 = td α x
    · rw [← e1] at h3
      rw [if_pos e1, if_pos e1, (of_decide_eq_true h3).2, if_pos rfl, nI_clamp (by omega)]
    · rw [if_neg e1, if_neg e1]
      by_cases e2 : b + 1 = tu α x
      · rw [← e2] at h4
        rw [if_pos e2, if_pos e2, (of_decide_eq_true h4).2, if_neg (by decide), nI_clamp (by omega)]
      · rw [if_neg e2, if_neg e2]
  have oldd : ∀ b, b + 1 = td α x → rm1 α b = lvl α - 1 - tk α x := by
    intro b e1
    rw [← e1] at h3
    have := of_decide_eq_true h3
    unfold rm1
    rw [this.2, if_pos rfl, this.1, nI_clamp (by omega)]
  have oldu : ∀ b, b + 1 = tu α x → rm1 α b = tk α x + 1 := by
    intro b e1
    rw [← e1] at h4
    have := of_decide_eq_true h4
    unfold rm1
    rw [this.2, if_neg (by decide), this.1, nI_clamp (by omega)]
  have le : ∀ b, b < bgs α → rm1 (dN α x 1) b ≤ rm1 α b := by
    intro b hb
    rw [one b]
    by_cases e1 : b + 1 = td α x
    · rw [if_pos e1, oldd b e1]; omega
    · rw [if_neg e1]
      by_cases e2 : b + 1 = tu α x
      · rw [if_pos e2, oldu b e2]; omega
      · rw [if_neg e2]; exact Nat.le_refl _
  have hd := td_le α x
  have hu := tu_le α x
  by_cases e1 : td α x = 0
  · have e2 : tu α x ≠ 0 := fun z => hne (e1.trans z.symm)
    refine sumB_lt _ le (tu α x - 1) (by omega) ?_
    rw [one, if_neg (by omega), if_pos (by omega), oldu _ (by omega)]
    omega
  · refine sumB_lt _ le (td α x - 1) (by omega) ?_
    rw [one, if_pos (by omega), oldd _ (by omega)]
    omega
theorem Ok_tip {α : SA} {rl : RLT} {x : Nat} (O : Ok α) (h : x ∈ TL α rl) : Ok (dN α x 1) := by
  obtain ⟨D, P, S, V, W⟩ := O
  obtain ⟨h3, h4, h5⟩ := Lw_0 (lgl_t (TL_mem h).1).2
  have h8 := D.2.2.2.1
  have hk := tk_lt (TL_mem h).2
  have hr := rem_tip D P h
  obtain ⟨el, eb⟩ := dN_dims α x 1
  have o : ∀ a, a ≠ 0 → a ≠ 1 → a ≠ 5 → dN α x 1 a = α a := fun a h0 h1 h5 => dT_o _ _ _ _ _ h0 h1 h5
  have z : ∀ j, j ≠ 3 → j ≠ 4 → dN α x 1 0 j = α 0 j := fun j h3 h4 => dT_0 _ _ _ _ _ h3 h4
  refine ⟨dT_D D _ _ _ _, fun b hb => ?_, fun l hl => ?_, ⟨fun b hb => ?_, ?_, fun l hl => ?_, ?_, ?_, ?_⟩, fun l hl => ?_⟩
  · rw [eb] at hb
    rw [el, dN_at h b]
    split
    · exact ⟨_, by omega, rfl⟩
    · split
      · exact ⟨_, by omega, rfl⟩
      · exact P b hb
  · rw [el] at hl
    rw [o 4 (by decide) (by decide) (by decide)]
    exact S l hl
  · rw [eb] at hb
    rw [o 8 (by decide) (by decide) (by decide), o 7 (by decide) (by decide) (by decide), o 6 (by decide) (by decide) (by decide), o 9 (by decide) (by decide) (by decide)]
    exact V.1 b hb
  · rw [z 2 (by decide) (by decide)]; exact V.2.1
  · rw [el] at hl
    rw [o 3 (by decide) (by decide) (by decide)]
    exact V.2.2.1 l hl
  · rw [z 6 (by decide) (by decide)]; exact V.2.2.2.1
  · rw [el]; exact V.2.2.2.2.1
  · rw [el, eb]; exact V.2.2.2.2.2
  · rw [el] at hl
    obtain ⟨n, hn, en⟩ := Nd_nat V (td_le α x) (tu_le α x)
    obtain ⟨a, ea, ha⟩ := W (tk α x) (by omega)
    obtain ⟨c, ec, hc⟩ := W (tk α x + 1) (by omega)
    have hna : n ≤ a := by
      rw [en, ea] at h5
      exact (nI_leI (by omega) (by omega)).mp h5
    rw [show dN α x 1 1 = _ from dT_1 _ _ _ _ _, Int32.one_mul, en]
    by_cases e1 : l = tk α x + 1
    · subst e1
      exact ⟨c + n, by rw [upd_s, ec, nI_add], by omega⟩
    · rw [upd_o _ _ e1]
      by_cases e2 : l = tk α x
      · subst e2
        exact ⟨a - n, by rw [upd_s, ea, pk_sub hna], by omega⟩
      · rw [upd_o _ _ e2]
        obtain ⟨w, ew, hw⟩ := W l hl
        exact ⟨w, ew, by omega⟩
