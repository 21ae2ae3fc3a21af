/-! ===== calls: seen, book, seed, back ===== -/
def PSt : Nat → Nat → Prop := fun a j => (3 ≤ a ∧ a ≤ 14) ∨ a = 62
theorem PSt_ok : ∀ a j, PSt a j → ¬ Pro a j := fun a j z => by unfold PSt at z; unfold Pro Prt Pr2; omega
theorem PSt_s : ∀ a j, PSt a j → ¬ Prs a j := fun a j z => by unfold PSt at z; unfold Prs; omega
def PSc : Nat → Nat → Prop := fun a j => 3 ≤ a ∧ a ≤ 14
def P6 : Nat → Nat → Prop := fun a j => a = 62
theorem PSc_t : ∀ a j, PSc a j → PSt a j := fun a j z => Or.inl z
theorem P6_t : ∀ a j, P6 a j → PSt a j := fun a j z => Or.inr z
theorem ok_seen {N : Nat} (v t : Int32) : Cok N (fun h => f_X7_seen h 0 v t) (fun h => f_X8_seen h 51 v t) := by
  rintro h ⟨r, R, α, g⟩
  have g' := g
  obtain ⟨g1, A, M, O, f, T, g7, g8, g9⟩ := g
  have H := M.1
  have D := O.1
  have h8 := D.2.2.2.1
  show ∃ z h1 h2, f_X7_seen h 0 v t = some (z, h1) ∧ f_X8_seen h1 51 v t = some (z, h2) ∧ GG N h2
  have inn : ∀ h1, f_X8_in h1 t.toInt64 (-1 : Int64) (9999 : Int64) = some (if t < -1 then 0 else if 9999 < t then 0 else 1) := fun h1 => m_in h1 t (-1) 9999
  rcases lv_or D v with ⟨l, l1, rfl⟩ | ⟨a1, a2⟩
  · by_cases c1 : t < -1
    · refine ⟨0, h, h, ?_, ?_, r, R, α, g'⟩
      · unfold f_X7_seen
        rw [pp_0_1 H, bs, c_hasLevel A D l1, bs, if_neg (show ¬ (1 : Int32) = 0 by decide), if_pos c1]
      · unfold f_X8_seen
        rw [m_isLevel M D l1, bs, if_neg (show ¬ (1 : Int32) = 0 by decide), inn, bs, if_pos c1, if_pos rfl]
    · by_cases c2 : t ≤ 9999
      · have A1 : Ac (sI h 7 l t) 3 (sr α 4 (upd (α 4) l t)) := Ac_w A 4 l t
        have F1 : Fq PSt h (sI h 7 l t) := Fq_sI _ _ _ _ (Or.inl ⟨by decide, by decide⟩)
        have M1 : Am (sI h 7 l t) α := ⟨Fq_SHP F1 H, by rw [sI_a _ _ _ _ (by decide)]; exact M.2⟩
        have e7 : f_X7_seen h 0 (nI l) t = some (1, sI h 7 l t) := by
          unfold f_X7_seen
          rw [pp_0_1 H, bs, c_hasLevel A D l1, bs, if_neg (show ¬ (1 : Int32) = 0 by decide), if_neg c1, if_pos c2, bs, ac_p11 A, bs, ac_l4 A, if_inI (by omega) (by omega), lts, nI_clamp (by omega)]
        generalize sI h 7 l t = h1 at A1 F1 M1 e7
        have M2 := Am_w M1 D (k := 4) (i := l) t l1 (by omega)
        rw [show ad 4 l = 55 + l from rfl] at M2
        have F2 : Fq PSt h1 (sI h1 62 (55 + l) t) := Fq_sI _ _ _ _ (Or.inr rfl)
        have e8 : f_X8_seen h1 51 (nI l) t = some (1, sI h1 62 (55 + l) t) := by
          unfold f_X8_seen
          rw [m_isLevel M1 D l1, bs, if_neg (show ¬ (1 : Int32) = 0 by decide), inn, bs, if_neg c1, if_neg (Int32.not_lt.mpr c2), if_neg (show ¬ (1 : Int32) = 0 by decide), pp_51_26 M1.1, bs, n_55, nI_add, ll_62 M1.1, if_inI (by omega) (by omega), lts, nI_clamp (by omega)]
        have A2 : Ac (sI h1 62 (55 + l) t) 3 (sr α 4 (upd (α 4) l t)) := Fr_Ac (P := fun a _ => a = 62) (Fr_sI _ _ _ _ rfl) (fun a j h1 h2 z => by omega) A1
        generalize sI h1 62 (55 + l) t = h2 at M2 F2 e8 A2
        have o : ∀ a, a ≠ 4 → sr α 4 (upd (α 4) l t) a = α a := fun a ha => sr_o _ _ ha
        have z0 : sr α 4 (upd (α 4) l t) 0 = α 0 := o 0 (by decide)
        refine ⟨1, h1, h2, e7, e8, r, R, _, GI_set g' (Fq_trans F1 F2) PSt_ok A2 M2 (Ok_of O (o 1 (by decide)) (o 3 (by decide)) (o 5 (by decide)) (o 6 (by decide)) (o 7 (by decide)) (o 8 (by decide)) (o 9 (by decide)) (by rw [z0]) (by rw [z0]) (by rw [z0]) (by rw [z0]; exact O.2.2.2.1.2.2.2.1) (Dm_of (fun j _ => by rw [z0]) D) (fun k hk => ?_)) (fOk_of (by rw [z0]) f) (Or.inr ⟨PSt_s, ⟨o 1 (by decide), o 2 (by decide), o 3 (by decide), o 5 (by decide), o 6 (by decide), o 7 (by decide), o 8 (by decide), by rw [z0], by rw [z0], by rw [z0], by rw [z0]⟩, by rw [z0]⟩)⟩
        rw [lvl_of (by rw [z0])] at hk
        rw [sr_s]
        by_cases e : k = l
        · subst e
          rw [upd_s]
          by_cases n0 : t < 0
          · left
            have b1 := Int32.le_iff_toInt_le.mp (Int32.not_lt.mp c1)
            have b2 := Int32.lt_iff_toInt_lt.mp n0
            apply Int32.toInt_inj.mp
            have d1 : (-1 : Int32).toInt = -1 := by decide
            have d2 : (0 : Int32).toInt = 0 := by decide
            rw [d1] at b1 ⊢
            rw [d2] at b2
            omega
          · exact Or.inr (Int32.not_lt.mp n0)
        · rw [upd_o _ _ e]
          exact O.2.2.1 k hk
      · refine ⟨0, h, h, ?_, ?_, r, R, α, g'⟩
        · unfold f_X7_seen
          rw [pp_0_1 H, bs, c_hasLevel A D l1, bs, if_neg (show ¬ (1 : Int32) = 0 by decide), if_neg c1, if_neg c2]
        · unfold f_X8_seen
          rw [m_isLevel M D l1, bs, if_neg (show ¬ (1 : Int32) = 0 by decide), inn, bs, if_neg c1, if_pos (Int32.not_le.mp c2), if_pos rfl]
  · refine ⟨0, h, h, ?_, ?_, r, R, α, g'⟩
    · unfold f_X7_seen
      rw [pp_0_1 H, bs, a1 h A, bs, if_pos rfl]
    · unfold f_X8_seen
      rw [a2 h M, bs, if_pos rfl]
theorem ok_seed {N : Nat} (v : Int32) : Cok N (fun h => f_X7_seed h 0 v) (fun h => f_X8_seed h 51 v) := by
  rintro h ⟨r, R, α, g⟩
  have g' := g
  obtain ⟨g1, A, M, O, f, T, g7, g8, g9⟩ := g
  have H := M.1
  have D := O.1
  show ∃ z h1 h2, f_X7_seed h 0 v = some (z, h1) ∧ f_X8_seed h1 51 v = some (z, h2) ∧ GG N h2
  by_cases c : 0 ≤ v
  · have A1 : Ac (sI h 3 6 v) 3 (sr α 0 (upd (α 0) 6 v)) := Ac_w0 A 6 v
    have F1 : Fq PSt h (sI h 3 6 v) := Fq_sI _ _ _ _ (Or.inl ⟨by decide, by decide⟩)
    have M1 : Am (sI h 3 6 v) α := ⟨Fq_SHP F1 H, by rw [sI_a _ _ _ _ (by decide)]; exact M.2⟩
    have e7 : f_X7_seed h 0 v = some (α 0 6, sI h 3 6 v) := by
      unfold f_X7_seed
      rw [if_pos c, pp_0_1 H, bs, bs, lts, ac_0 A (by decide)]
    generalize sI h 3 6 v = h1 at A1 F1 M1 e7
    have M2 := Am_w M1 D (k := 0) (i := 6) v (show 6 < 8 by decide) (fun _ => ⟨by decide, by decide, by decide⟩)
    rw [show ad 0 6 = 7 from rfl] at M2
    have F2 : Fq PSt h1 (sI h1 62 7 v) := Fq_sI _ _ _ _ (Or.inr rfl)
    have e8 : f_X8_seed h1 51 v = some (α 0 6, sI h1 62 7 v) := by
      unfold f_X8_seed
      rw [if_pos c, pp_51_26 M1.1, bs, ll_62 M1.1, if_pos (by decide), bs, ll_62 M1.1, if_pos (by decide), lts, am_7 M1]
    have A2 : Ac (sI h1 62 7 v) 3 (sr α 0 (upd (α 0) 6 v)) := Fr_Ac (P := fun a _ => a = 62) (Fr_sI _ _ _ _ rfl) (fun a j h1 h2 z => by omega) A1
    generalize sI h1 62 7 v = h2 at M2 F2 e8 A2
    have o : ∀ a, a ≠ 0 → sr α 0 (upd (α 0) 6 v) a = α a := fun a ha => sr_o _ _ ha
    have z : ∀ j, j ≠ 6 → sr α 0 (upd (α 0) 6 v) 0 j = α 0 j := fun j hj => by rw [sr_s, upd_o _ _ hj]
    exact ⟨_, h1, h2, e7, e8, r, R, _, GI_set g' (Fq_trans F1 F2) PSt_ok A2 M2 (Ok_of O (o 1 (by decide)) (o 3 (by decide)) (o 5 (by decide)) (o 6 (by decide)) (o 7 (by decide)) (o 8 (by decide)) (o 9 (by decide)) (z 0 (by decide)) (z 1 (by decide)) (z 2 (by decide)) (by rw [sr_s, upd_s]; exact c) (Dm_of (fun j hj => z j (by omega)) D) (fun k hk => by rw [lvl_of (z 0 (by decide))] at hk; rw [o 4 (by decide)]; exact O.2.2.1 k hk)) (fOk_of (z 5 (by decide)) f) (Or.inr ⟨PSt_s, ⟨o 1 (by decide), o 2 (by decide), o 3 (by decide), o 5 (by decide), o 6 (by decide), o 7 (by decide), o 8 (by decide), z 0 (by decide), z 1 (by decide), z 2 (by decide), z 3 (by decide)⟩, z 5 (by decide)⟩)⟩
  · refine ⟨-1, h, h, ?_, ?_, r, R, α, g'⟩
    · unfold f_X7_seed
      rw [if_neg c]
    · unfold f_X8_seed
      rw [if_neg c]
theorem Sd_book {σ τ : Nat → Int32} {α β : SA} {n : Nat} (S : Sd σ α) (o : ∀ a, a ≠ 0 → a ≠ 10 → β a = α a) (z : ∀ j, j ≠ 7 → β 0 j = α 0 j) (z7 : β 0 7 = nI n) (hn : n ≤ 10) (t6 : τ 6 = nI n) (tt : ∀ i, i ≠ 6 → i < 63 → τ i = σ i) (D : Dm α) (tb : ∀ k, k < n → ∃ s d u, s + 1 < lvl α ∧ d ≤ bgs α ∧ u ≤ bgs α ∧ τ (63 + 3 * k) = nI s ∧ τ (64 + 3 * k) = bI d ∧ τ (65 + 3 * k) = bI u ∧ β 10 k = nI (cd s d u)) : Sd τ β := by
  have el : lvl β = lvl α := lvl_of (z 0 (by decide))
  have eb : bgs β = bgs α := bgs_of (z 1 (by decide))
  have ek : bks β = n := by unfold bks; rw [z7, nI_clamp (by omega)]
  refine ⟨fun a i hi => ?_, fun l hl => ?_, fun k hk => ?_, fun b hb h6 => ?_, fun l hl h8 => ?_⟩
  · rw [rgn_of (fun j hj => z j (by omega))] at hi
    obtain ⟨x1, x2⟩ := rgn_le D hi
    have a63 := ad_63 a x1 i x2
    by_cases c : a = 0 ∧ i = 7
    · obtain ⟨rfl, rfl⟩ := c
      rw [show ad 0 7 = 6 from rfl, t6, z7]
    · have ne6 : ad a i ≠ 6 := fun e => c (ad_inj a x1 i x2 0 (by decide) 7 (by decide) e)
      rw [tt _ ne6 a63.1, S.1 a i hi]
      by_cases a0 : a = 0
      · subst a0; rw [z i (fun e => c ⟨rfl, e⟩)]
      · rw [o a a0 (fun e => by subst e; exact absurd hi (Nat.not_lt_zero i))]
  · rw [tt 5 (by decide) (by decide), o 3 (by decide) (by decide)]
    exact S.2.1 l (by omega)
  · rw [ek] at hk
    obtain ⟨s, d, u, x⟩ := tb k hk
    exact ⟨s, d, u, by rw [el]; exact x.1, by rw [eb]; exact x.2.1, by rw [eb]; exact x.2.2.1, x.2.2.2⟩
  · rw [tt _ (by omega) (by omega)]; exact S.2.2.2.1 b (by omega) h6
  · rw [tt _ (by omega) (by omega)]; exact S.2.2.2.2 l (by omega) h8
theorem Ok_book {α β : SA} {n : Nat} (O : Ok α) (o : ∀ a, a ≠ 0 → a ≠ 10 → β a = α a) (z : ∀ j, j ≠ 7 → β 0 j = α 0 j) (z7 : β 0 7 = nI n) (hn : n ≤ 10) : Ok β := by
  have el : lvl β = lvl α := lvl_of (z 0 (by decide))
  have eb : bgs β = bgs α := bgs_of (z 1 (by decide))
  have ek : bks β = n := by unfold bks; rw [z7, nI_clamp (by omega)]
  refine Ok_of O (o 1 (by decide) (by decide)) (o 3 (by decide) (by decide)) (o 5 (by decide) (by decide)) (o 6 (by decide) (by decide)) (o 7 (by decide) (by decide)) (o 8 (by decide) (by decide)) (o 9 (by decide) (by decide)) (z 0 (by decide)) (z 1 (by decide)) (z 2 (by decide)) (by rw [z 6 (by decide)]; exact O.2.2.2.1.2.2.2.1) ?_ (fun k hk => by rw [el] at hk; rw [o 4 (by decide) (by decide)]; exact O.2.2.1 k hk)
  unfold Dm
  rw [el, eb, ek, z 0 (by decide), z 1 (by decide), z7]
  exact ⟨O.1.1, O.1.2.1, rfl, O.1.2.2.2.1, O.1.2.2.2.2.1, hn⟩
theorem ok_book {N : Nat} (v w x : Int32) : Cok N (fun h => f_X7_book h 0 v w x) (fun h => f_X8_book h 51 v w x) := by
  rintro h ⟨r, R, α, g⟩
  have g' := g
  obtain ⟨g1, A, M, O, f, T, g7, g8, g9⟩ := g
  have H := M.1
  have D := O.1
  have hb10 := D.2.2.2.2.2
  show ∃ z h1 h2, f_X7_book h 0 v w x = some (z, h1) ∧ f_X8_book h1 51 v w x = some (z, h2) ∧ GG N h2
  have smb : ∀ β : SA, (∀ a, a ≠ 0 → a ≠ 10 → β a = α a) → (∀ j, j ≠ 7 → β 0 j = α 0 j) → Sm α β := fun β o z => ⟨o 1 (by decide) (by decide), o 2 (by decide) (by decide), o 3 (by decide) (by decide), o 5 (by decide) (by decide), o 6 (by decide) (by decide), o 7 (by decide) (by decide), o 8 (by decide) (by decide), z 0 (by decide), z 1 (by decide), z 2 (by decide), z 3 (by decide)⟩
  by_cases c : v = -1
  · have A1 : Ac (sI h 3 7 0) 3 (sr α 0 (upd (α 0) 7 0)) := Ac_w0 A 7 0
    have F1 : Fq PSt h (sI h 3 7 0) := Fq_sI _ _ _ _ (Or.inl ⟨by decide, by decide⟩)
    have M1 : Am (sI h 3 7 0) α := ⟨Fq_SHP F1 H, by rw [sI_a _ _ _ _ (by decide)]; exact M.2⟩
    have e7 : f_X7_book h 0 v w x = some (0, sI h 3 7 0) := by
      unfold f_X7_book
      rw [if_pos c, pp_0_1 H, bs, lts]
    generalize sI h 3 7 0 = h1 at A1 F1 M1 e7
    have F2 : Fq PSt h1 (sI h1 62 6 0) := Fq_sI _ _ _ _ (Or.inr rfl)
    have e8 : f_X8_book h1 51 v w x = some (0, sI h1 62 6 0) := by
      unfold f_X8_book
      rw [if_pos c, pp_51_26 M1.1, bs, ll_62 M1.1, if_pos (by decide), lts]
    have o : ∀ a, a ≠ 0 → a ≠ 10 → sr α 0 (upd (α 0) 7 0) a = α a := fun a ha _ => sr_o _ _ ha
    have z : ∀ j, j ≠ 7 → sr α 0 (upd (α 0) 7 0) 0 j = α 0 j := fun j hj => by rw [sr_s, upd_o _ _ hj]
    have z7 : sr α 0 (upd (α 0) 7 0) 0 7 = nI 0 := by rw [sr_s, upd_s]; rfl
    have M2 : Am (sI h1 62 6 0) (sr α 0 (upd (α 0) 7 0)) := ⟨Fq_SHP F2 M1.1, Sd_book (n := 0) M1.2 o z z7 (by decide) (by rw [sI_r, if_pos rfl]; rfl) (fun i h6 _ => by rw [sI_r, if_neg h6]) D (fun k hk => absurd hk (Nat.not_lt_zero k))⟩
    have A2 : Ac (sI h1 62 6 0) 3 (sr α 0 (upd (α 0) 7 0)) := Fr_Ac (P := fun a _ => a = 62) (Fr_sI _ _ _ _ rfl) (fun a j h1 h2 z => by omega) A1
    generalize sI h1 62 6 0 = h2 at M2 F2 e8 A2
    exact ⟨0, h1, h2, e7, e8, r, R, _, GI_set g' (Fq_trans F1 F2) PSt_ok A2 M2 (Ok_book O o z z7 (by decide)) (fOk_of (z 5 (by decide)) f) (Or.inr ⟨PSt_s, smb _ o z, z 5 (by decide)⟩)⟩
  · rcases tp_or D v w x with ⟨k, d, u, a1, a2, a3, a4, rfl, rfl, rfl⟩ | ⟨a1, a2⟩
    · have t7 : f_X5_isTip h 3 (nI k) (bI d) (bI u) = some 1 := by rw [c_isTip A D a1 a2 a3, if_neg a4]
      by_cases full : bks α = 10
      · refine ⟨-2, h, h, ?_, ?_, r, R, α, g'⟩
        · unfold f_X7_book
          rw [if_neg c, pp_0_1 H, bs, t7, bs, if_neg (show ¬ (1 : Int32) = 0 by decide), bs, ac_0 A (by decide), D.2.2.1, full, if_neg (show ¬ nI 10 < 10 by decide)]
        · unfold f_X8_book
          rw [if_neg c, m_isTip M D a1 a2 a3, if_neg a4, bs, if_neg (show ¬ (1 : Int32) = 0 by decide), pp_51_26 H, bs, ll_62 H, if_pos (by decide), am_6 M, D.2.2.1, full, if_pos (show nI 10 = 10 from rfl)]
      · have hlt : bks α < 10 := by omega
        have A1 : Ac (sI h 13 (bks α) (nI (cd k d u))) 3 (sr α 10 (upd (α 10) (bks α) (nI (cd k d u)))) := Ac_w A 10 (bks α) _
        have F1 : Fq PSc h (sI h 13 (bks α) (nI (cd k d u))) := Fq_sI _ _ _ _ ⟨by decide, by decide⟩
        have e7a : f_X7_book h 0 (nI k) (bI d) (bI u) = Option.bind (hP (sI h 13 (bks α) (nI (cd k d u))) 0 1) (fun q13 => lt (sI (sI h 13 (bks α) (nI (cd k d u))) q13 7 ((hI (sI h 13 (bks α) (nI (cd k d u))) q13 7) + (1 : Int32))) (fun h14 => Option.bind (hP h14 0 1) (fun q15 => some ((hI h14 q15 7, h14))))) := by
          unfold f_X7_book
          rw [if_neg c, pp_0_1 H, bs, t7, bs, if_neg (show ¬ (1 : Int32) = 0 by decide), bs, ac_0 A (by decide), D.2.2.1, if_pos (show nI (bks α) < 10 from nI_lt (b := 10) hlt (by decide)), bs, ac_p17 A, bs, bs, t_of, bs, ac_0 A (by decide), D.2.2.1, ac_l10 A, if_inI hlt (by omega), lts, nI_clamp (by omega)]
        generalize sI h 13 (bks α) (nI (cd k d u)) = h1 at A1 F1 e7a
        have H1 := Fq_SHP F1 H
        have A2 := Ac_w0 A1 7 (nI (bks α + 1))
        have F2 : Fq PSc h1 (sI h1 3 7 (nI (bks α + 1))) := Fq_sI _ _ _ _ ⟨by decide, by decide⟩
        have b7 : hI h1 3 7 = nI (bks α) := by rw [ac_0 A1 (by decide), sr_o _ _ (by decide)]; exact D.2.2.1
        rw [pp_0_1 H1, bs, b7, nI_1, lts, pp_0_1 (Fq_SHP F2 H1), bs, sI_r, if_pos rfl] at e7a
        have F12 := Fq_trans F1 F2
        have M2 : Am (sI h1 3 7 (nI (bks α + 1))) α := Am_Fq F12 (fun j z => by unfold PSc at z; omega) M
        rw [sr_o _ _ (show 0 ≠ 10 by decide)] at A2
        generalize sI h1 3 7 (nI (bks α + 1)) = h2 at A2 F2 F12 M2 e7a
        have H2 := M2.1
        have o : ∀ a, a ≠ 0 → a ≠ 10 → sr (sr α 10 (upd (α 10) (bks α) (nI (cd k d u)))) 0 (upd (α 0) 7 (nI (bks α + 1))) a = α a := fun a ha hb => by rw [sr_o _ _ ha, sr_o _ _ hb]
        have z : ∀ j, j ≠ 7 → sr (sr α 10 (upd (α 10) (bks α) (nI (cd k d u)))) 0 (upd (α 0) 7 (nI (bks α + 1))) 0 j = α 0 j := fun j hj => by rw [sr_s, upd_o _ _ hj]
        have z7 : sr (sr α 10 (upd (α 10) (bks α) (nI (cd k d u)))) 0 (upd (α 0) 7 (nI (bks α + 1))) 0 7 = nI (bks α + 1) := by rw [sr_s, upd_s]
        have e8 : f_X8_book h2 51 (nI k) (bI d) (bI u) = some (nI (bks α + 1), sI (sI (sI (sI h2 62 (63 + 3 * bks α) (nI k)) 62 (64 + 3 * bks α) (bI d)) 62 (65 + 3 * bks α) (bI u)) 62 6 (nI (bks α + 1))) := by
          unfold f_X8_book
          have S1 : SHP (sI h2 62 (63 + 3 * bks α) (nI k)) := Fq_SHP (P := P6) (Fq_sI _ _ _ _ rfl) H2
          have S2 : SHP (sI (sI h2 62 (63 + 3 * bks α) (nI k)) 62 (64 + 3 * bks α) (bI d)) := Fq_SHP (P := P6) (Fq_sI _ _ _ _ rfl) S1
          have S3 : SHP (sI (sI (sI h2 62 (63 + 3 * bks α) (nI k)) 62 (64 + 3 * bks α) (bI d)) 62 (65 + 3 * bks α) (bI u)) := Fq_SHP (P := P6) (Fq_sI _ _ _ _ rfl) S2
          have S4 : SHP (sI (sI (sI (sI h2 62 (63 + 3 * bks α) (nI k)) 62 (64 + 3 * bks α) (bI d)) 62 (65 + 3 * bks α) (bI u)) 62 6 (nI (bks α + 1))) := Fq_SHP (P := P6) (Fq_sI _ _ _ _ rfl) S3
          have v6 : hI (sI (sI (sI h2 62 (63 + 3 * bks α) (nI k)) 62 (64 + 3 * bks α) (bI d)) 62 (65 + 3 * bks α) (bI u)) 62 6 = nI (bks α) := by
            rw [sI_r, if_neg (by omega), sI_r, if_neg (by omega), sI_r, if_neg (by omega), am_6 M2]
            exact D.2.2.1
          rw [if_neg c, m_isTip M2 D a1 a2 a3, if_neg a4, bs, if_neg (show ¬ (1 : Int32) = 0 by decide), pp_51_26 H2, bs, ll_62 H2, if_pos (by decide), am_6 M2, D.2.2.1, if_neg (show ¬ nI (bks α) = 10 by rw [show (10 : Int32) = nI 10 from rfl, nI_eq (by omega) (by decide)]; exact full), bs, ll_62 H2, if_pos (by decide), am_6 M2, D.2.2.1, lts, n_63, n_3, pk_mul, nI_add, bs, ll_62 H2, if_inI (by omega) (by omega), lts, nI_clamp (by omega), pp_51_26 S1, bs, nI_1, ll_62 S1, if_inI (by omega) (by omega), lts, nI_clamp (by omega), show 63 + 3 * bks α + 1 = 64 + 3 * bks α by omega, pp_51_26 S2, bs, n_2, nI_add, ll_62 S2, if_inI (by omega) (by omega), lts, nI_clamp (by omega), show 63 + 3 * bks α + 2 = 65 + 3 * bks α by omega, pp_51_26 S3, bs, ll_62 S3, if_pos (by decide), v6, nI_1, lts, if_pos (by decide), lts, pp_51_26 S4, bs, ll_62 S4, if_pos (by decide), sI_r, if_pos rfl]
        have F3 : Fq P6 h2 (sI (sI (sI (sI h2 62 (63 + 3 * bks α) (nI k)) 62 (64 + 3 * bks α) (bI d)) 62 (65 + 3 * bks α) (bI u)) 62 6 (nI (bks α + 1))) := Fq_trans (Fq_sI _ _ _ _ rfl) (Fq_trans (Fq_sI _ _ _ _ rfl) (Fq_trans (Fq_sI _ _ _ _ rfl) (Fq_sI _ _ _ _ rfl)))
        have val : ∀ i, hI (sI (sI (sI (sI h2 62 (63 + 3 * bks α) (nI k)) 62 (64 + 3 * bks α) (bI d)) 62 (65 + 3 * bks α) (bI u)) 62 6 (nI (bks α + 1))) 62 i = if i = 6 then nI (bks α + 1) else if i = 65 + 3 * bks α then bI u else if i = 64 + 3 * bks α then bI d else if i = 63 + 3 * bks α then nI k else hI h2 62 i := fun i => by
          rw [sI_r, sI_r, sI_r, sI_r]
        have M3 : Am (sI (sI (sI (sI h2 62 (63 + 3 * bks α) (nI k)) 62 (64 + 3 * bks α) (bI d)) 62 (65 + 3 * bks α) (bI u)) 62 6 (nI (bks α + 1))) (sr (sr α 10 (upd (α 10) (bks α) (nI (cd k d u)))) 0 (upd (α 0) 7 (nI (bks α + 1)))) := by
          refine ⟨Fq_SHP F3 H2, Sd_book (n := bks α + 1) M2.2 o z z7 (by omega) (by rw [val, if_pos rfl]) (fun i h6 h63 => by rw [val, if_neg h6, if_neg (by omega), if_neg (by omega), if_neg (by omega)]) D (fun i hi => ?_)⟩
          by_cases e : i = bks α
          · subst e
            refine ⟨k, d, u, a1, a2, a3, ?_, ?_, ?_, ?_⟩
            · rw [val, if_neg (by omega), if_neg (by omega), if_neg (by omega), if_pos rfl]
            · rw [val, if_neg (by omega), if_neg (by omega), if_pos rfl]
            · rw [val, if_neg (by omega), if_pos rfl]
            · rw [sr_o _ _ (by decide), sr_s, upd_s]
          · obtain ⟨s', d', u', x1, x2, x3, x4, x5, x6, x7⟩ := M2.2.2.2.1 i (by omega)
            refine ⟨s', d', u', x1, x2, x3, ?_, ?_, ?_, ?_⟩
            · rw [val, if_neg (by omega), if_neg (by omega), if_neg (by omega), if_neg (by omega)]; exact x4
            · rw [val, if_neg (by omega), if_neg (by omega), if_neg (by omega), if_neg (by omega)]; exact x5
            · rw [val, if_neg (by omega), if_neg (by omega), if_neg (by omega), if_neg (by omega)]; exact x6
            · rw [sr_o _ _ (by decide), sr_s, upd_o _ _ e]; exact x7
        generalize sI (sI (sI (sI h2 62 (63 + 3 * bks α) (nI k)) 62 (64 + 3 * bks α) (bI d)) 62 (65 + 3 * bks α) (bI u)) 62 6 (nI (bks α + 1)) = h3 at e8 F3 M3
        exact ⟨_, h2, h3, e7a, e8, r, R, _, GI_set g' (Fq_trans (Fq_mono F12 PSc_t) (Fq_mono F3 P6_t)) PSt_ok (Fq_Ac F3 (fun a j h1 h2 z => by unfold P6 at z; omega) A2) M3 (Ok_book O o z z7 (by omega)) (fOk_of (z 5 (by decide)) f) (Or.inr ⟨PSt_s, smb _ o z, z 5 (by decide)⟩)⟩
    · refine ⟨-2, h, h, ?_, ?_, r, R, α, g'⟩
      · unfold f_X7_book
        rw [if_neg c, pp_0_1 H, bs, a1 h A, bs, if_pos rfl]
      · unfold f_X8_book
        rw [if_neg c, a2 h M, bs, if_pos rfl]
theorem ok_back {N : Nat} (hN : 5000 ≤ N) (v : Int32) : Cok N (fun h => f_X7_back h 0 v) (fun h => f_X8_back N h 51 v) := by
  rintro h ⟨r, R, α, g⟩
  have g' := g
  obtain ⟨g1, A, M, O, f, T, g7, g8, g9⟩ := g
  have H := M.1
  show ∃ z h1 h2, f_X7_back h 0 v = some (z, h1) ∧ f_X8_back N h1 51 v = some (z, h2) ∧ GG N h2
  have inn : ∀ h1, f_X8_in h1 v.toInt64 (0 : Int64) (3 : Int64) = some (if v < 0 then 0 else if 3 < v then 0 else 1) := fun h1 => m_in h1 v 0 3
  by_cases c1 : v < 0
  · refine ⟨-1, h, h, ?_, ?_, r, R, α, g'⟩
    · unfold f_X7_back
      rw [if_pos c1]
    · unfold f_X8_back
      rw [inn, bs, if_pos c1, if_pos rfl]
  · by_cases c2 : 4 ≤ v
    · refine ⟨-1, h, h, ?_, ?_, r, R, α, g'⟩
      · unfold f_X7_back
        rw [if_neg c1, if_pos c2]
      · unfold f_X8_back
        rw [inn, bs, if_neg c1, if_pos (Int32.lt_of_lt_of_le (b := 4) (by decide) c2), if_pos rfl]
    · obtain ⟨k, k1, rfl⟩ := i_nat c1
      have k4 : k < 4 := by
        by_cases c : k < 4
        · exact c
        · exact absurd (show (4 : Int32) ≤ nI k from nI_le (a := 4) (by omega) k1) c2
      have c3 : ¬ (3 : Int32) < nI k := nI_nlt (a := 3) (by omega) (by decide)
      rcases g7 k k4 with ⟨t1, t2⟩ | ⟨t1, s, β, s1, s2, s3, s4, s5, s6, s7⟩
      · refine ⟨-1, h, h, ?_, ?_, r, R, α, g'⟩
        · unfold f_X7_back
          rw [if_neg c1, if_neg c2, pp_0_3 H, bs, ll_27 H, if_inI k4 (by omega), nI_clamp (by omega), t2, if_pos rfl]
        · unfold f_X8_back
          rw [inn, bs, if_neg c1, if_neg c3, if_neg (show ¬ (1 : Int32) = 0 by decide), pp_51_43 H, bs, ll_76 H, if_inI k4 (by omega), nI_clamp (by omega), t1, if_pos rfl]
      · obtain ⟨h1, e1, A1, F1⟩ := c_copy (s0 := 3) (s1 := s) (Or.inl (by omega)) s4 (st_3 H)
        have H1 := Fr_SHP F1 H
        have F2 : Fr (fun a j => a = 32 ∧ j = 15) h1 (sI h1 32 15 (-2)) := Fr_sI _ _ _ _ ⟨rfl, rfl⟩
        have q2 : hI (sI h1 32 15 (-2)) 32 15 = -2 := by rw [hI_sI, if_pos ⟨rfl, rfl⟩]
        have A2 : Ac (sI h1 32 15 (-2)) 3 β := Fr_Ac F2 (fun a j h1 h2 z => by omega) A1
        have H2 := Fr_SHP F2 H1
        have e7 : f_X7_back h 0 (nI k) = some (β 0 3, sI h1 32 15 (-2)) := by
          unfold f_X7_back
          rw [if_neg c1, if_neg c2, pp_0_3 H, bs, ll_27 H, if_inI k4 (by omega), nI_clamp (by omega), s1, if_neg (by simp), pp_0_1 H, bs, bs, ll_27 H, if_pos ⟨nI_pos' (by omega), k4⟩, s1, bs, e1, bs, pp_0_8 H1, bs, forget_e, bs, pp_0_1 H2, bs, ac_0 A2 (by decide)]
        generalize sI h1 32 15 (-2) = h2 at F2 q2 A2 H2 e7
        have F12 : Fq PCc h h2 := Fq_trans (Fq_mono (Fr_q F1) (fun a j z => Or.inl (by have := z.1; have := z.2; omega))) (Fq_mono (Fr_q F2) (fun a j z => Or.inr z))
        obtain ⟨h3, e3, F3, k3⟩ := m_back_l (N := N) (h0 := h2) (d := k) k4 93 0 N h2 (by omega) (by omega) H2 (Fr_refl h2) (fun i hi => absurd hi (Nat.not_lt_zero i))
        have e3' : f_X8_back_25 N N h2 51 (nI k) 0 = some (hI h3 62 3, h3) := e3
        have F3' : Fq PCm h2 h3 := Fq_mono (Fr_q F3) (fun a j z => Or.inl z.1)
        have r75 : ∀ i, hI h2 75 i = hI h 75 i := fun i => F12.2.2.2 75 i (fun z => by unfold PCc at z; omega)
        have M3 : Am h3 β := ⟨Fr_SHP F3 H2, Sd_congr s6.1 (fun i hi => by rw [k3 i hi, r75]) s5⟩
        have e8 : f_X8_back N h2 51 (nI k) = some (β 0 3, h3) := by
          unfold f_X8_back
          rw [inn, bs, if_neg c1, if_neg c3, if_neg (show ¬ (1 : Int32) = 0 by decide), pp_51_43 H2, bs, ll_76 H2, if_inI k4 (by omega), nI_clamp (by omega), F12.2.2.2 76 k (fun z => by unfold PCc at z; omega), t1, if_neg (show ¬ (1 : Int32) = 0 by decide), e3', am_3 M3]
        exact ⟨_, h2, h3, e7, e8, r, R, β, GI_set g' (Fq_trans (Fq_mono F12 PCc_h) (Fq_mono F3' PCm_h)) PCh_ok (Fq_Ac F3' (fun a j h1 h2 z => by unfold PCm at z; omega) A2) M3 s6 s7 (Or.inl (by rw [F3'.2.2.2 32 15 (fun z => by unfold PCm at z; omega)]; exact q2))⟩
