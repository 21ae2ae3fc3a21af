/-! ===== texts: what every draft keeps ===== -/
def ZI (α : SA) : Prop := Dm α ∧ α 0 7 = 0 ∧ (0 < bgs α → 2 ≤ lvl α) ∧ (∀ l, l < lvl α → ∃ w, w ≤ 999 ∧ α 1 l = nI w) ∧ (∀ l, l < 8 → α 4 l = -1) ∧ (∀ l, l < 8 → α 3 l = 0 ∨ α 3 l = 1) ∧ (∃ g, g ≤ 20 ∧ α 0 2 = nI g) ∧ (∀ b, b < bgs α → (α 8 b = 0 ∨ α 8 b = 1) ∧ (α 7 b = 0 ∨ α 7 b = 1) ∧ (∃ w, w ≤ 99 ∧ α 6 b = nI w) ∧ ∃ t, t ≤ 999 ∧ α 9 b = nI t) ∧ (∀ b, b < bgs α → α 5 b = if α 8 b = 0 then 0 else nI (lvl α - 1)) ∧ α 0 3 = 0 ∧ α 0 4 = 0
theorem ZI_lag {α : SA} {v : Int32} (Z : ZI α) (hv : ∃ g, g ≤ 20 ∧ v = nI g) : ZI (c1 α 0 2 v) := by
  obtain ⟨a1, a2, a3, a4, a5, a6, a7, a8, a9, a10, a11⟩ := Z
  obtain ⟨d, l, b⟩ := Dm_c1 (k := 0) (i := 2) (v := v) (by omega) a1
  have o : ∀ k, k ≠ 0 → c1 α 0 2 v k = α k := fun k hk => c1_o _ _ _ hk
  have e : ∀ j, j ≠ 2 → c1 α 0 2 v 0 j = α 0 j := fun j hj => c1_e _ _ hj
  unfold ZI
  rw [l, b, e 7 (by decide), e 3 (by decide), e 4 (by decide), c1_s, o 1 (by decide), o 3 (by decide), o 4 (by decide), o 5 (by decide), o 6 (by decide), o 7 (by decide), o 8 (by decide), o 9 (by decide)]
  exact ⟨d, a2, a3, a4, a5, a6, hv, a8, a9, a10, a11⟩
theorem ZI_brk {α : SA} {m : Nat} (Z : ZI α) : ZI (c1 α 3 m 0) := by
  obtain ⟨a1, a2, a3, a4, a5, a6, a7, a8, a9, a10, a11⟩ := Z
  obtain ⟨d, l, b⟩ := Dm_c1 (k := 3) (i := m) (v := 0) (by omega) a1
  have o : ∀ k, k ≠ 3 → c1 α 3 m 0 k = α k := fun k hk => c1_o _ _ _ hk
  unfold ZI
  rw [l, b, o 0 (by decide), o 1 (by decide), o 4 (by decide), o 5 (by decide), o 6 (by decide), o 7 (by decide), o 8 (by decide), o 9 (by decide)]
  refine ⟨d, a2, a3, a4, a5, fun i hi => ?_, a7, a8, a9, a10, a11⟩
  by_cases c : i = m
  · subst c; rw [c1_s]; exact Or.inl rfl
  · rw [c1_e _ _ c]; exact a6 i hi
theorem ZI_lev {α : SA} {v1 v2 : Int32} (Z : ZI α) (hl : lvl α < 8) (hb : bgs α = 0) (hv : ∃ g, g ≤ 999 ∧ v1 = nI g) : ZI (lvX α v1 v2) := by
  obtain ⟨a1, a2, a3, a4, a5, a6, a7, a8, a9, a10, a11⟩ := Z
  have lv : lvl (lvX α v1 v2) = lvl α + 1 := by
    show (lvX α _ _ 0 0).toNatClampNeg = _
    unfold lvX
    rw [c1_s, nI_clamp (by omega)]
  have e : ∀ i, i ≠ 0 → lvX α v1 v2 0 i = α 0 i := fun i hi => by
    unfold lvX
    rw [c1_e _ _ hi, c1_o _ _ _ (by decide), c1_o _ _ _ (by decide)]
  have o : ∀ k, k ≠ 0 → k ≠ 1 → k ≠ 2 → lvX α v1 v2 k = α k := fun k h0 h1 h2 => by
    unfold lvX
    rw [c1_o _ _ _ h0, c1_o _ _ _ h2, c1_o _ _ _ h1]
  have w1 : lvX α v1 v2 1 = upd (α 1) (lvl α) v1 := by
    unfold lvX
    rw [c1_o _ _ _ (by decide), c1_o _ _ _ (by decide)]
    unfold c1
    rw [sr_s]
  have bg : bgs (lvX α v1 v2) = bgs α := by unfold bgs; rw [e 1 (by decide)]
  have bk : bks (lvX α v1 v2) = bks α := by unfold bks; rw [e 7 (by decide)]
  obtain ⟨m1, m2, m3, m4, m5, m6⟩ := a1
  unfold ZI
  rw [bg, lv, e 7 (by decide), e 3 (by decide), e 4 (by decide), e 2 (by decide), w1, o 3 (by decide) (by decide) (by decide), o 4 (by decide) (by decide) (by decide), o 5 (by decide) (by decide) (by decide), o 6 (by decide) (by decide) (by decide), o 7 (by decide) (by decide) (by decide), o 8 (by decide) (by decide) (by decide), o 9 (by decide) (by decide) (by decide)]
  refine ⟨⟨?_, ?_, ?_, by omega, by omega, by omega⟩, a2, fun h => by omega, fun l hl' => ?_, a5, a6, a7, a8, fun b hb' => by omega, a10, a11⟩
  · rw [lv]; unfold lvX; rw [c1_s]
  · rw [bg, e 1 (by decide)]; exact m2
  · rw [bk, e 7 (by decide)]; exact m3
  · by_cases c : l = lvl α
    · subst c; rw [upd_s]; exact hv
    · rw [upd_o _ _ c]; exact a4 l (by omega)
theorem ZI_bar {α : SA} {v1 v2 v3 v4 : Int32} (Z : ZI α) (hl : 2 ≤ lvl α) (hb : bgs α < 6) (h1 : ∃ g, g ≤ 99 ∧ v1 = nI g) (h2 : v2 = 0 ∨ v2 = 1) (h3 : v3 = 0 ∨ v3 = 1) (h4 : ∃ g, g ≤ 999 ∧ v4 = nI g) : ZI (bgY α v1 v2 v3 v4) := by
  obtain ⟨a1, a2, a3, a4, a5, a6, a7, a8, a9, a10, a11⟩ := Z
  obtain ⟨D1, _, _⟩ := bgX_dm a1 hb v1 v2 v3 v4
  have D : Dm (bgY α v1 v2 v3 v4) := Dm_sr5 D1 _
  have e : ∀ i, i ≠ 1 → bgY α v1 v2 v3 v4 0 i = α 0 i := fun i hi => bgY_0 _ _ _ _ hi
  have lv : lvl (bgY α v1 v2 v3 v4) = lvl α := by unfold lvl; rw [e 0 (by decide)]
  have bg : bgs (bgY α v1 v2 v3 v4) = bgs α + 1 := by show (bgY α v1 v2 v3 v4 0 1).toNatClampNeg = _; rw [bgY_01, nI_clamp (by omega)]
  have hl8 := a1.2.2.2.1
  have e5 : bgY α v1 v2 v3 v4 5 = upd (α 5) (bgs α) (if v3 = 0 then 0 else nI (lvl α - 1)) := by
    unfold bgY
    rw [sr_s]
    have x8 : bgX α v1 v2 v3 v4 8 (bgs α) = v3 := by
      unfold bgX
      rw [c1_o _ _ _ (by decide), c1_o _ _ _ (by decide), c1_s]
    have x0 : bgX α v1 v2 v3 v4 0 0 = nI (lvl α) := by
      unfold bgX
      rw [c1_e _ _ (by decide), c1_o _ _ _ (by decide), c1_o _ _ _ (by decide), c1_o _ _ _ (by decide), c1_o _ _ _ (by decide)]
      exact a1.1
    have x5 : bgX α v1 v2 v3 v4 5 = α 5 := by
      unfold bgX
      rw [c1_o _ _ _ (by decide), c1_o _ _ _ (by decide), c1_o _ _ _ (by decide), c1_o _ _ _ (by decide), c1_o _ _ _ (by decide)]
    rw [x8, x0, x5, n_1, pk_sub (by omega)]
  unfold ZI
  rw [bg, lv, e 7 (by decide), e 3 (by decide), e 4 (by decide), e 2 (by decide), bgY_o _ _ _ _ (k := 1) (by decide) (by decide) (by decide) (by decide) (by decide) (by decide), bgY_o _ _ _ _ (k := 3) (by decide) (by decide) (by decide) (by decide) (by decide) (by decide), bgY_o _ _ _ _ (k := 4) (by decide) (by decide) (by decide) (by decide) (by decide) (by decide), bgY_6, bgY_7, bgY_8, bgY_9, e5]
  refine ⟨D, a2, fun _ => hl, a4, a5, a6, a7, fun b hb' => ?_, fun b hb' => ?_, a10, a11⟩
  · by_cases c : b = bgs α
    · subst c; rw [upd_s, upd_s, upd_s, upd_s]; exact ⟨h3, h2, h1, h4⟩
    · rw [upd_o _ _ c, upd_o _ _ c, upd_o _ _ c, upd_o _ _ c]; exact a8 b (by omega)
  · by_cases c : b = bgs α
    · subst c; rw [upd_s, upd_s]
    · rw [upd_o _ _ c, upd_o _ _ c]; exact a9 b (by omega)
theorem x_01 (t : TY) (n : Nat) (x : XT0) : xV t n 0 1 x = 0 ∨ xV t n 0 1 x = 1 := by
  obtain ⟨m, _, m2, m3⟩ := xV_nat (t := t) (n := n) (a := 0) (b := 1) (by decide) (by decide) x
  have m3' : xV t n 0 1 x = nI m := m3
  rw [m3']
  obtain rfl | rfl : m = 0 ∨ m = 1 := by omega
  · exact Or.inl rfl
  · exact Or.inr rfl
theorem x_of (t : TY) (n a b : Nat) (h : a ≤ b) (hb : b < 2 ^ 31) (x : XT0) : ∃ g, g ≤ b ∧ xV t n (nI a) (nI b) x = nI g := by
  obtain ⟨m, _, m2, m3⟩ := xV_nat (t := t) (n := n) h hb x
  exact ⟨m, m2, m3⟩
def gx (n : Nat) : XT0 → Prop
  | .inl f => f ≠ 0
  | .inr s => s ≤ n
theorem gx_A {t : TY} {n : Nat} {x : XT0} (g : gx n x) : gx n (xA t n x) := by
  cases x with
  | inl f => exact g
  | inr s => exact nt_le g
theorem gx_F {n k : Nat} {x : XT0} (hn : n ≤ 400) (hk : k ≤ 4) (g : gx n x) : gx n (xF k x) := by
  cases x with
  | inl f => exact g
  | inr s => exact flt_ne (Nat.le_trans g hn) hk
theorem gx_N {t : TY} {n : Nat} {lo hi : Int32} {x : XT0} (hn : n ≤ 400) (g : gx n x) : gx n (xN t n lo hi x) := by
  cases x with
  | inl f => exact g
  | inr s =>
    rw [xN_r]
    by_cases c : nok t n s lo hi
    · rw [if_pos c]; exact nt_le g
    · rw [if_neg c]; exact nfl_ne (Nat.le_trans g hn)
theorem zCl_inv {t : TY} {n : Nat} {m : Bool} {α : SA} {lg bk : Bool} {x : XT0} (hn : n ≤ 400) (Z : ZI α) (g : gx n x) : ZI (zCl t n m α lg bk x).1 ∧ gx n (zCl t n m α lg bk x).2.2.2 := by
  unfold zCl
  have f4 : gx n (xF 4 x) := gx_F hn (by decide) g
  by_cases w0 : xW t n 0 x = true
  · rw [if_pos w0]
    by_cases ok : m = true ∧ bgs α = 0 ∧ bk = false ∧ lvl α < 8
    · rw [if_pos ok]
      exact ⟨ZI_lev Z ok.2.2.2 ok.2.1 (x_of t n 0 999 (by decide) (by decide) _), gx_N hn (gx_N hn (gx_A g))⟩
    · rw [if_neg ok]; exact ⟨Z, f4⟩
  · rw [if_neg w0]
    by_cases w1 : xW t n 1 x = true
    · rw [if_pos w1]
      by_cases ok : m = true ∧ lg = false
      · rw [if_pos ok]
        exact ⟨ZI_lag Z (x_of t n 0 20 (by decide) (by decide) _), gx_N hn (gx_A g)⟩
      · rw [if_neg ok]; exact ⟨Z, f4⟩
    · rw [if_neg w1]
      by_cases w2 : xW t n 2 x = true
      · rw [if_pos w2]
        by_cases ok : m = true ∧ 2 ≤ lvl α ∧ bgs α < 6
        · rw [if_pos ok]
          exact ⟨ZI_bar Z ok.2.1 ok.2.2 (x_of t n 1 99 (by decide) (by decide) _) (x_01 t n _) (x_01 t n _) (x_of t n 0 999 (by decide) (by decide) _), gx_N hn (gx_N hn (gx_N hn (gx_N hn (gx_A g))))⟩
        · rw [if_neg ok]; exact ⟨Z, f4⟩
      · rw [if_neg w2]
        by_cases w3 : xW t n 3 x = true
        · rw [if_pos w3]
          by_cases ok : m = true ∧ 2 ≤ lvl α
          · rw [if_pos ok]
            exact ⟨ZI_brk Z, gx_N hn (gx_A g)⟩
          · rw [if_neg ok]; exact ⟨Z, f4⟩
        · rw [if_neg w3]; exact ⟨Z, gx_F hn (by decide) g⟩
theorem ZI_clr (α : SA) : ZI (clr α) := by
  have h := clr_dm α
  refine ⟨h.1, rfl, fun z => ?_, fun l hl => ?_, fun l _ => rfl, fun l _ => Or.inr rfl, ⟨0, by decide, rfl⟩, fun b hb => ?_, fun b hb => ?_, rfl, rfl⟩
  · rw [h.2.2] at z; omega
  · rw [h.2.1] at hl; omega
  · rw [h.2.2] at hb; omega
  · rw [h.2.2] at hb; omega
/-! signs both tell apart -/
theorem isD_nat {v : Int32} (h : isD v = true) : 48 ≤ v.toNatClampNeg ∧ v.toNatClampNeg ≤ 57 ∧ v = nI v.toNatClampNeg := by
  unfold isD at h
  by_cases c : v < 48
  · rw [if_pos c] at h; cases h
  · rw [if_neg c] at h
    by_cases c2 : 57 < v
    · rw [if_pos c2] at h; cases h
    · have c' : (48 : Int32) ≤ v := Int32.not_lt.mp c
      obtain ⟨m, m1, rfl⟩ := i_nat (v := v) (fun z => c (Int32.lt_trans z (by decide)))
      rw [nI_clamp m1]
      refine ⟨?_, ?_, rfl⟩
      · by_cases z : 48 ≤ m
        · exact z
        · exact absurd (show nI m < (48 : Int32) from nI_lt (b := 48) (by omega) (by decide)) c
      · by_cases z : m ≤ 57
        · exact z
        · exact absurd (show (57 : Int32) < nI m from nI_lt (a := 57) (by omega) m1) c2
theorem kd_end {t : TY} {n s : Nat} : kd t n s = 256 ↔ n ≤ s := by
  unfold kd
  by_cases c : n ≤ s
  · rw [if_pos c]; exact ⟨fun _ => c, fun _ => rfl⟩
  · rw [if_neg c]
    refine ⟨fun z => ?_, fun z => absurd z c⟩
    exfalso
    by_cases d : isD (t s) = true
    · rw [if_pos d] at z; exact absurd z (by decide)
    · rw [if_neg d] at z
      by_cases l : isL (t s) = true
      · rw [if_pos l] at z; exact absurd z (by decide)
      · rw [if_neg l] at z
        by_cases w : two t n s = true
        · rw [if_pos w] at z
          by_cases e : t s = 60
          · rw [if_pos e] at z; exact absurd z (by decide)
          · rw [if_neg e] at z; exact absurd z (by decide)
        · rw [if_neg w] at z; exact (sg_lt _).2.2.1 z
theorem sg_end {t : TY} {n s : Nat} : sg t n s = -1 ↔ n ≤ s := by
  unfold sg
  by_cases c : n ≤ s
  · rw [if_pos c]; exact ⟨fun _ => c, fun _ => rfl⟩
  · rw [if_neg c]; exact ⟨fun z => absurd z (sg_lt _).2.2.2.1, fun z => absurd z c⟩
theorem two_yes {t : TY} {n s : Nat} (h : two t n s = true) : t s = 60 ∨ t s = 62 := by
  unfold two at h
  rw [Bool.and_eq_true, Bool.or_eq_true, decide_eq_true_iff, decide_eq_true_iff] at h
  exact h.2
/-- a sign of its own -/
theorem kd_sg {t : TY} {n s k : Nat} (hk : k < 128) (h1 : ¬ (48 ≤ k ∧ k ≤ 57)) (h2 : ¬ (97 ≤ k ∧ k ≤ 122)) (h3 : k ≠ 60) (h4 : k ≠ 62) : kd t n s = nI k ↔ sg t n s = nI k := by
  unfold kd sg
  have big : ∀ c : Int32, 128 ≤ c.toNatClampNeg → ¬ c = nI k := fun c hc z => by
    rw [z, nI_clamp (by omega)] at hc
    omega
  by_cases c : n ≤ s
  · rw [if_pos c, if_pos c]
    refine ⟨fun z => absurd z (big _ (by decide)), fun z => ?_⟩
    exact absurd (show nI k < 0 by rw [← z]; decide) (nI_pos (by omega))
  · rw [if_neg c, if_neg c]
    by_cases d : isD (t s) = true
    · rw [if_pos d]
      refine ⟨fun z => absurd z (big _ (by decide)), fun z => ?_⟩
      obtain ⟨d1, d2, d3⟩ := isD_nat d
      rw [d3, and_255 _ (by omega)] at z
      exact absurd ((nI_eq (by omega) (by omega)).mp z) (by omega)
    · rw [if_neg d]
      by_cases l : isL (t s) = true
      · rw [if_pos l]
        refine ⟨fun z => absurd z (big _ (by decide)), fun z => ?_⟩
        obtain ⟨d1, d2, d3⟩ := isL_nat l
        rw [d3, and_255 _ (by omega)] at z
        exact absurd ((nI_eq (by omega) (by omega)).mp z) (by omega)
      · rw [if_neg l]
        by_cases w : two t n s = true
        · rw [if_pos w]
          refine ⟨fun z => ?_, fun z => ?_⟩
          · exfalso
            by_cases e : t s = 60
            · rw [if_pos e] at z; exact big _ (by decide) z
            · rw [if_neg e] at z; exact big _ (by decide) z
          · exfalso
            rcases two_yes w with e | e
            · rw [e, show ((60 : Int32) &&& 255) = nI 60 by decide] at z
              exact h3 ((nI_eq (by omega) (by omega)).mp z).symm
            · rw [e, show ((62 : Int32) &&& 255) = nI 62 by decide] at z
              exact h4 ((nI_eq (by omega) (by omega)).mp z).symm
        · rw [if_neg w]
theorem bh_sg {t : TY} {n s k : Nat} (hk : k < 128) (e : kd t n s = nI k) : s < n ∧ bh t n s = s + 1 ∧ t s &&& 255 = nI k := by
  have big : ∀ c : Int32, 128 ≤ c.toNatClampNeg → ¬ c = nI k := fun c hc z => by
    rw [z, nI_clamp (by omega)] at hc
    omega
  unfold kd at e
  unfold bh
  by_cases c : n ≤ s
  · rw [if_pos c] at e; exact absurd e (big _ (by decide))
  · rw [if_neg c] at e
    rw [if_neg c]
    by_cases d : isD (t s) = true
    · rw [if_pos d] at e; exact absurd e (big _ (by decide))
    · rw [if_neg d] at e
      rw [if_neg d]
      by_cases l : isL (t s) = true
      · rw [if_pos l] at e; exact absurd e (big _ (by decide))
      · rw [if_neg l] at e
        rw [if_neg l]
        by_cases w : two t n s = true
        · rw [if_pos w] at e
          exfalso
          by_cases z : t s = 60
          · rw [if_pos z] at e; exact big _ (by decide) e
          · rw [if_neg z] at e; exact big _ (by decide) e
        · rw [if_neg w] at e
          rw [if_neg w]
          exact ⟨by omega, rfl, e⟩
