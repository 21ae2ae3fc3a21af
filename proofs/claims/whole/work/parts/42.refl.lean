/-! ===== the reference's search: what leads to others, standing, the least ===== -/
def pw (β : SA) (p : Int32) : SA := sr β 0 (upd (β 0) 4 p)
theorem pw_o (β : SA) (p : Int32) {a : Nat} (h : a ≠ 0) : pw β p a = β a := sr_o _ _ h
theorem pw_0 (β : SA) (p : Int32) {j : Nat} (h : j ≠ 4) : pw β p 0 j = β 0 j := by unfold pw; rw [sr_s, upd_o _ _ h]
theorem pw_Sm (β : SA) (p : Int32) : Sm β (pw β p) := ⟨pw_o _ _ (by decide), pw_o _ _ (by decide), pw_o _ _ (by decide), pw_o _ _ (by decide), pw_o _ _ (by decide), pw_o _ _ (by decide), pw_o _ _ (by decide), pw_0 _ _ (by decide), pw_0 _ _ (by decide), pw_0 _ _ (by decide), pw_0 _ _ (by decide)⟩
theorem pw_l (β : SA) (p : Int32) : lvl (pw β p) = lvl β := lvl_of (pw_0 _ _ (by decide))
theorem pw_b (β : SA) (p : Int32) : bgs (pw β p) = bgs β := bgs_of (pw_0 _ _ (by decide))
theorem rem_of {α β : SA} (h : Sm α β) : rem β = rem α := by
  unfold rem
  rw [Sm_bgs h]
  congr 1
  funext b
  unfold rm1
  rw [h.2.2.2.2.2.2.1, Sm_lvl h, h.2.2.2.1]
theorem Ok_pw {β : SA} (p : Int32) (O : Ok β) : Ok (pw β p) := by
  obtain ⟨D, P, S, V, W⟩ := O
  have o : ∀ a, a ≠ 0 → pw β p a = β a := fun a h => pw_o _ _ h
  refine ⟨Dm_of (fun j hj => pw_0 _ _ (by omega)) D, ?_, ?_, ?_, ?_⟩
  · intro b hb
    rw [pw_l, o 5 (by decide)]
    rw [pw_b] at hb
    exact P b hb
  · intro l hl
    rw [pw_l] at hl
    rw [o 4 (by decide)]
    exact S l hl
  · unfold Val
    rw [pw_l, pw_b, o 8 (by decide), o 7 (by decide), o 6 (by decide), o 9 (by decide), o 3 (by decide), pw_0 _ _ (by decide), pw_0 _ _ (by decide)]
    exact V
  · intro l hl
    rw [pw_l] at hl
    rw [o 1 (by decide), rem_of (pw_Sm β p)]
    exact W l hl
theorem Sm_lgl {α β : SA} (h : Sm α β) (rl : RLT) : lgl β rl = lgl α rl := by
  funext n
  unfold lgl
  rw [Sm_td h, Sm_tu h, Sm_tk h, Sm_Lw h]
theorem Sm_ce {α β : SA} (h : Sm α β) (k : Nat) : ce β k = ce α k := by
  unfold ce
  rw [Sm_bgs h, Sm_lvl h, h.1, h.2.2.2.1]
theorem ce_nx (β : SA) (x : Nat) (k : Nat) : ce (dN β x 1) k = ce (nx β x) k := by
  unfold ce
  rw [(dN_dims β x 1).1, (dN_dims β x 1).2, nx_b, nx_l, nx_5, nx_1]
theorem Sd_ext {σ : Nat → Int32} {α β : SA} (S : Sd σ α) (e : ∀ k i, i < rgn α k → β k i = α k i) (e3 : ∀ l, β 3 l = α 3 l) (e10 : ∀ k, β 10 k = α 10 k) : Sd σ β := by
  have z : ∀ j, j < 8 → β 0 j = α 0 j := fun j hj => e 0 j hj
  have hl : lvl β = lvl α := lvl_of (z 0 (by decide))
  have hb : bgs β = bgs α := bgs_of (z 1 (by decide))
  have hk : bks β = bks α := bks_of (z 7 (by decide))
  have hr : ∀ k, rgn β k = rgn α k := rgn_of (fun j hj => z j (by omega))
  refine ⟨fun k i hi => ?_, fun l h => ?_, fun k h => ?_, fun b h h6 => S.2.2.2.1 b (by omega) h6, fun l h h8 => S.2.2.2.2 l (by omega) h8⟩
  · rw [hr] at hi
    rw [S.1 k i hi, e k i hi]
  · rw [e3]
    exact S.2.1 l (by omega)
  · obtain ⟨s, d, u, a1, a2, a3, a4, a5, a6, a7⟩ := S.2.2.1 k (by omega)
    exact ⟨s, d, u, by omega, by omega, by omega, a4, a5, a6, by rw [e10]; exact a7⟩
/-- what all that stands in the search has in common with the first -/
def Irq (α γ : SA) : Prop := (∀ a, a ≠ 0 → a ≠ 1 → a ≠ 5 → γ a = α a) ∧ ∀ j, j ≠ 3 → j ≠ 4 → γ 0 j = α 0 j
theorem Irq_l {α γ : SA} (I : Irq α γ) : lvl γ = lvl α := lvl_of (I.2 0 (by decide) (by decide))
theorem Irq_b {α γ : SA} (I : Irq α γ) : bgs γ = bgs α := bgs_of (I.2 1 (by decide) (by decide))
theorem Irq_D {α γ : SA} (I : Irq α γ) (D : Dm α) : Dm γ := Dm_of (fun j hj => I.2 j (by omega) (by omega)) D
theorem Irr_Irq {α β : SA} (I : Irr α β) (p : Int32) : Irq α (pw β p) := ⟨fun a h0 h1 h5 => by rw [pw_o _ _ h0]; exact I.1 a h1 h5, fun j _ h4 => by rw [pw_0 _ _ h4, I.1 0 (by decide) (by decide)]⟩
theorem Irq_dN {α β : SA} (I : Irr α β) (p : Int32) (x : Nat) : Irq α (dN (pw β p) x 1) := ⟨fun a h0 h1 h5 => by
    rw [show dN (pw β p) x 1 a = pw β p a from dT_o _ _ _ _ _ h0 h1 h5]
    exact (Irr_Irq I p).1 a h0 h1 h5, fun j h3 h4 => by
    rw [show dN (pw β p) x 1 0 j = pw β p 0 j from dT_0 _ _ _ _ _ h3 h4]
    exact (Irr_Irq I p).2 j h3 h4⟩
theorem m_stB_l {N n i : Nat} {γ : SA} {st : Nat → SA} {α : SA} (D : Dm γ) (hi : i < n) (hn : n ≤ 1500) (hb : bgs (st i) = bgs γ) : ∀ (m b f : Nat) (h : Hp), b + m = bgs γ → m < f → (∀ k, k < 14 → hI h 64 (14 * i + k) = ce (st i) k) → Am h (sr γ 5 (mx b (st i 5) (γ 5))) → ∃ h', f_X8_stands_2 N f h 51 (nI i) (nI b) = f_X8_stands_44 N N h' 51 (nI i) 0 ∧ Am h' (sr γ 5 (mx (bgs γ) (st i 5) (γ 5))) ∧ Fr P62 h h' := by
  have h6 := D.2.2.2.2.1
  have Db : ∀ r, Dm (sr γ 5 r) := fun r => Dm_of (fun j _ => by rw [sr_o _ _ (by decide)]) D
  have Bb : ∀ r, bgs (sr γ 5 r) = bgs γ := fun r => bgs_of (by rw [sr_o _ _ (by decide)])
  intro m
  induction m with
  | zero =>
    intro b f h hb' hf S M
    obtain ⟨f, rfl⟩ : ∃ k, f = k + 1 := ⟨f - 1, by omega⟩
    rw [f_X8_stands_2, pp_51_26 M.1, bs, ll_62 M.1, if_pos (by decide), am_1 M, (Db _).2.1, Bb, if_pos (nI_le (by omega) (by omega))]
    have : b = bgs γ := by omega
    subst this
    exact ⟨h, rfl, M, Fr_refl h⟩
  | succ m ih =>
    intro b f h hb' hf S M
    obtain ⟨f, rfl⟩ : ∃ k, f = k + 1 := ⟨f - 1, by omega⟩
    rw [f_X8_stands_2, pp_51_26 M.1, bs, ll_62 M.1, if_pos (by decide), am_1 M, (Db _).2.1, Bb, if_neg (nI_ge (by omega) (by omega)), bs, pp_51_28 M.1, bs, show (14 : Int32) = nI 14 from rfl, pk_mul, nI_add, ll_64 M.1, if_inI (by omega) (by omega), lts, nI_clamp (by omega), S b (by omega), ix5, n_4, nI_add, ll_62 M.1, if_inI (by omega) (by omega), lts, nI_clamp (by omega), show 25 + 5 * b + 4 = ad 5 b by show _ = 29 + 5 * b; omega, nI_1]
    have e : ce (st i) b = st i 5 b := by unfold ce; rw [if_pos (by omega), if_pos (by omega)]
    rw [e]
    have M1 := Am_w M (Db _) (k := 5) (i := b) (st i 5 b) (show b < bgs _ by rw [Bb]; omega) (by omega)
    rw [sr_sr, sr_s, mx_s] at M1
    have F1 : Fr P62 h (sI h 62 (ad 5 b) (st i 5 b)) := Fr_sI _ _ _ _ rfl
    obtain ⟨h', a1, a2, a3⟩ := ih (b + 1) f (sI h 62 (ad 5 b) (st i 5 b)) (by omega) (by omega) (fun k hk => by rw [F1.2.2.2 64 _ (fun (z : 64 = 62) => by omega)]; exact S k hk) M1
    exact ⟨h', a1, a2, Fr_trans F1 a3⟩
theorem m_stW_l {N n i : Nat} {γ : SA} {st : Nat → SA} {x : Int32} (D : Dm γ) (hi : i < n) (hn : n ≤ 1500) (hl : lvl (st i) = lvl γ) : ∀ (m l f : Nat) (h : Hp), l + m = lvl γ → m < f → (∀ k, k < 14 → hI h 64 (14 * i + k) = ce (st i) k) → hI h 63 3 = x → Am h (sr γ 1 (mx l (st i 1) (γ 1))) → ∃ h', f_X8_stands_44 N f h 51 (nI i) (nI l) = some h' ∧ Am h' (sr (sr γ 1 (mx (lvl γ) (st i 1) (γ 1))) 0 (upd (γ 0) 3 x)) ∧ Fr P62 h h' := by
  have h8 := D.2.2.2.1
  have Db : ∀ r, Dm (sr γ 1 r) := fun r => Dm_of (fun j _ => by rw [sr_o _ _ (by decide)]) D
  have Bb : ∀ r, lvl (sr γ 1 r) = lvl γ := fun r => lvl_of (by rw [sr_o _ _ (by decide)])
  intro m
  induction m with
  | zero =>
    intro l f h hl' hf S K M
    obtain ⟨f, rfl⟩ : ∃ k, f = k + 1 := ⟨f - 1, by omega⟩
    rw [f_X8_stands_44, pp_51_26 M.1, bs, ll_62 M.1, if_pos (by decide), am_0 M, (Db _).1, Bb, if_pos (nI_le (by omega) (by omega)), bs, pp_51_27 M.1, bs, ll_63 M.1, if_pos (by decide), ll_62 M.1, if_pos (by decide), lts, K]
    have : l = lvl γ := by omega
    subst this
    have M1 := Am_w M (Db _) (k := 0) (i := 3) x (show 3 < 8 by decide) (fun _ => ⟨by decide, by decide, by decide⟩)
    rw [show ad 0 3 = 3 from rfl, sr_o _ _ (show 0 ≠ 1 by decide)] at M1
    exact ⟨_, rfl, M1, Fr_sI _ _ _ _ rfl⟩
  | succ m ih =>
    intro l f h hl' hf S K M
    obtain ⟨f, rfl⟩ : ∃ k, f = k + 1 := ⟨f - 1, by omega⟩
    rw [f_X8_stands_44, pp_51_26 M.1, bs, ll_62 M.1, if_pos (by decide), am_0 M, (Db _).1, Bb, if_neg (nI_ge (by omega) (by omega)), bs, pp_51_28 M.1, bs, show (14 : Int32) = nI 14 from rfl, show (6 : Int32) = nI 6 from rfl, pk_mul, nI_add, nI_add, ll_64 M.1, if_inI (by omega) (by omega), lts, nI_clamp (by omega), show 14 * i + 6 + l = 14 * i + (6 + l) by omega, S (6 + l) (by omega), ix2, ll_62 M.1, if_inI (by omega) (by omega), lts, nI_clamp (by omega), nI_1, show 9 + 2 * l = ad 1 l from rfl]
    have e : ce (st i) (6 + l) = st i 1 l := by unfold ce; rw [if_neg (by omega), show 6 + l - 6 = l by omega, if_pos (by omega)]
    rw [e]
    have M1 := Am_w M (Db _) (k := 1) (i := l) (st i 1 l) (show l < lvl _ by rw [Bb]; omega) (by omega)
    rw [sr_sr, sr_s, mx_s] at M1
    have F1 : Fr P62 h (sI h 62 (ad 1 l) (st i 1 l)) := Fr_sI _ _ _ _ rfl
    obtain ⟨h', a1, a2, a3⟩ := ih (l + 1) f (sI h 62 (ad 1 l) (st i 1 l)) (by omega) (by omega) (fun k hk => by rw [F1.2.2.2 64 _ (fun (z : 64 = 62) => by omega)]; exact S k hk) (by rw [F1.2.2.2 63 3 (fun (z : 63 = 62) => by omega)]; exact K) M1
    exact ⟨h', a1, a2, Fr_trans F1 a3⟩
theorem m_stands {h : Hp} {N n i : Nat} {α γ : SA} {st : Nat → SA} (hN : 20 ≤ N) (M : Am h γ) (D : Dm α) (Iγ : Irq α γ) (hi : i < n) (hn : n ≤ 1500) (Ii : Irr α (st i)) (S : ∀ k, k < 14 → hI h 64 (14 * i + k) = ce (st i) k) (K : hI h 63 3 = α 0 3) : ∃ h', f_X8_stands N h 51 (nI i) = some h' ∧ Am h' (pw (st i) (γ 0 4)) ∧ Fr P62 h h' := by
  have Dγ := Irq_D Iγ D
  have h6 := D.2.2.2.2.1
  have h8 := D.2.2.2.1
  have bi : bgs (st i) = bgs γ := by rw [Irr_b Ii, Irq_b Iγ]
  have li : lvl (st i) = lvl γ := by rw [Irr_l Ii, Irq_l Iγ]
  have M0 : Am h (sr γ 5 (mx 0 (st i 5) (γ 5))) := ⟨M.1, Sd_ext M.2 (fun k j _ => by
    rw [mx_0]
    by_cases e : k = 5
    · subst e; rw [sr_s]
    · rw [sr_o _ _ e]) (fun l => by rw [sr_o _ _ (by decide)]) (fun k => by rw [sr_o _ _ (by decide)])⟩
  obtain ⟨h1, q1, M1, F1⟩ := m_stB_l (N := N) (α := α) Dγ hi hn bi (bgs γ) 0 N h (by omega) (by rw [Irq_b Iγ]; omega) S M0
  have D1 : Dm (sr γ 5 (mx (bgs γ) (st i 5) (γ 5))) := Dm_of (fun j _ => by rw [sr_o _ _ (by decide)]) Dγ
  have l1 : lvl (sr γ 5 (mx (bgs γ) (st i 5) (γ 5))) = lvl γ := lvl_of (by rw [sr_o _ _ (by decide)])
  have M1' : Am h1 (sr (sr γ 5 (mx (bgs γ) (st i 5) (γ 5))) 1 (mx 0 (st i 1) (sr γ 5 (mx (bgs γ) (st i 5) (γ 5)) 1))) := ⟨M1.1, Sd_ext M1.2 (fun k j _ => by
    rw [mx_0]
    by_cases e : k = 1
    · subst e; rw [sr_s]
    · rw [sr_o _ _ e]) (fun l => by rw [sr_o _ _ (by decide)]) (fun k => by rw [sr_o _ _ (by decide)])⟩
  obtain ⟨h2, q2, M2, F2⟩ := m_stW_l (N := N) (x := α 0 3) D1 hi hn (by rw [l1]; exact li) (lvl γ) 0 N h1 (by rw [l1]; omega) (by rw [Irq_l Iγ]; omega) (fun k hk => by rw [F1.2.2.2 64 _ (fun (z : 64 = 62) => by omega)]; exact S k hk) (by rw [F1.2.2.2 63 3 (fun (z : 63 = 62) => by omega)]; exact K) M1'
  refine ⟨h2, ?_, ⟨M2.1, Sd_ext M2.2 (fun k j hj => ?_) (fun l => ?_) (fun k => ?_)⟩, Fr_trans F1 F2⟩
  · unfold f_X8_stands
    exact q1.trans q2
  · rw [l1] at hj ⊢
    have rg : rgn (sr (sr (sr γ 5 (mx (bgs γ) (st i 5) (γ 5))) 1 (mx (lvl γ) (st i 1) (sr γ 5 (mx (bgs γ) (st i 5) (γ 5)) 1))) 0 (upd (sr γ 5 (mx (bgs γ) (st i 5) (γ 5)) 0) 3 (α 0 3))) k = rgn α k := rgn_of (fun j hj => by rw [sr_s, upd_o _ _ (by omega), sr_o _ _ (by decide)]; exact Iγ.2 j (by omega) (by omega)) k
    rw [rg] at hj
    by_cases k0 : k = 0
    · subst k0
      rw [sr_s, sr_o _ _ (show 0 ≠ 5 by decide)]
      by_cases j4 : j = 4
      · subst j4
        unfold pw
        rw [sr_s, upd_s, upd_o _ _ (by decide)]
      · rw [pw_0 _ _ j4, Ii.1 0 (by decide) (by decide)]
        by_cases j3 : j = 3
        · subst j3; rw [upd_s]
        · rw [upd_o _ _ j3, Iγ.2 j j3 j4]
    · rw [sr_o _ _ k0, pw_o _ _ k0]
      by_cases k1 : k = 1
      · subst k1
        rw [sr_s]
        unfold mx
        rw [if_pos (by rw [Irq_l Iγ]; exact hj)]
      · rw [sr_o _ _ k1]
        by_cases k5 : k = 5
        · subst k5
          rw [sr_s]
          unfold mx
          rw [if_pos (by rw [Irq_b Iγ]; exact hj)]
        · rw [sr_o _ _ k5, Iγ.1 k k0 k1 k5, Ii.1 k k1 k5]
  · rw [pw_o _ _ (by decide), sr_o _ _ (by decide), sr_o _ _ (by decide), sr_o _ _ (by decide), Ii.1 3 (by decide) (by decide), Iγ.1 3 (by decide) (by decide) (by decide)]
  · rw [pw_o _ _ (by decide), sr_o _ _ (by decide), sr_o _ _ (by decide), sr_o _ _ (by decide), Ii.1 10 (by decide) (by decide), Iγ.1 10 (by decide) (by decide) (by decide)]
theorem m_least_l {h : Hp} {N : Nat} {X : XS} {G : List Nat} (H : SHP h) (hn : xn X ≤ 1500) (R : RpM h X G) : ∀ (m k f : Nat), k + m = xn X → m < f → f_X8_least_4 N f h 51 (oI (lsF X k)) (nI k) = some (oI (lsF X (xn X))) := by
  obtain ⟨r1, r2, r3, r4, r5, r6, r7⟩ := R
  intro m
  induction m with
  | zero =>
    intro k f hk hf
    obtain ⟨f, rfl⟩ : ∃ k, f = k + 1 := ⟨f - 1, by omega⟩
    rw [f_X8_least_4, r1, if_pos (nI_le (by omega) (by omega)), show k = xn X by omega]
  | succ m ih =>
    intro k f hk hf
    obtain ⟨f, rfl⟩ : ∃ k, f = k + 1 := ⟨f - 1, by omega⟩
    have e := ih (k + 1) f (by omega) (by omega)
    obtain ⟨c1, _, _, c4⟩ := r5 k (by omega)
    rw [f_X8_least_4, r1, if_neg (nI_ge (by omega) (by omega)), pp_51_32 H, bs, ll_68 H, if_inI (by omega) (by omega), nI_clamp (by omega), c4]
    unfold f_X8_least_40 f_X8_least_42
    rw [nI_1]
    rw [lsF] at e
    cases hl : lsF X k with
    | none =>
      rw [hl] at e
      have e' : f_X8_least_4 N f h 51 (oI (if xg X k then none else some k)) (nI (k + 1)) = some (oI (lsF X (xn X))) := e
      by_cases hg : xg X k = true
      · rw [if_pos hg] at e'
        rw [if_neg (by rw [hg]; decide)]
        exact e'
      · rw [if_neg hg] at e'
        rw [if_pos (by rw [b2i_0]; simpa using hg), if_pos (show oI none < 0 by decide)]
        exact e'
    | some b =>
      rw [hl] at e
      have e' : f_X8_least_4 N f h 51 (oI (if xg X k = false ∧ xc X k < xc X b then some k else some b)) (nI (k + 1)) = some (oI (lsF X (xn X))) := e
      obtain ⟨b1, _, _⟩ := lsF_some k hl
      by_cases hg : xg X k = true
      · rw [if_neg (fun z => by rw [hg] at z; cases z.1)] at e'
        rw [if_neg (by rw [hg]; decide)]
        exact e'
      · have hgf : xg X k = false := by simpa using hg
        rw [show oI (some b) = nI b from rfl]
        rw [if_pos (by rw [b2i_0]; exact hgf), if_neg (show ¬ nI b < 0 from nI_pos (by omega)), pp_51_29 H, bs, ll_65 H, if_pos ⟨nI_pos' (by omega), by omega⟩, bs, ll_65 H, if_inI (by omega) (by omega), nI_clamp (by omega), c1, (r5 b (by omega)).1]
        by_cases hc : xc X k < xc X b
        · rw [if_pos ⟨hgf, hc⟩] at e'
          rw [if_neg (Int32.not_le.mpr hc)]
          exact e'
        · rw [if_neg (fun z => hc z.2)] at e'
          rw [if_pos (Int32.not_lt.mp hc)]
          exact e'
theorem m_least {h : Hp} {N : Nat} {X : XS} {G : List Nat} (hN : 2000 ≤ N) (H : SHP h) (hn : xn X ≤ 1500) (R : RpM h X G) : f_X8_least N h 51 = some (oI (lsF X (xn X))) := m_least_l H hn R (xn X) 0 N (by omega) (by omega)
