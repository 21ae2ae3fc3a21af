/-! ===== texts: the stair, both ===== -/
theorem zCl_lag {t : TY} {n : Nat} {m : Bool} {α : SA} {lg bk : Bool} {x : XT0} (h : lg = false → α 0 2 = 0) : (zCl t n m α lg bk x).2.1 = false → (zCl t n m α lg bk x).1 0 2 = 0 := by
  unfold zCl
  by_cases w0 : xW t n 0 x = true
  · rw [if_pos w0]
    by_cases ok : m = true ∧ bgs α = 0 ∧ bk = false ∧ lvl α < 8
    · rw [if_pos ok]
      intro z
      have z' : lg = false := z
      unfold zLev lvX
      show c1 (c1 (c1 α 1 (lvl α) (xV t n 0 999 (xA t n x))) 2 (lvl α) (xV t n 1 8 (xN t n 0 999 (xA t n x)))) 0 0 (nI (lvl α + 1)) 0 2 = 0
      rw [c1_e _ _ (by decide), c1_o _ _ _ (by decide), c1_o _ _ _ (by decide)]
      exact h z'
    · rw [if_neg ok]; exact h
  · rw [if_neg w0]
    by_cases w1 : xW t n 1 x = true
    · rw [if_pos w1]
      by_cases ok : m = true ∧ lg = false
      · rw [if_pos ok]
        intro z
        have z' : true = false := z
        cases z'
      · rw [if_neg ok]; exact h
    · rw [if_neg w1]
      by_cases w2 : xW t n 2 x = true
      · rw [if_pos w2]
        by_cases ok : m = true ∧ 2 ≤ lvl α ∧ bgs α < 6
        · rw [if_pos ok]
          intro z
          have z' : lg = false := z
          unfold zBar zBar2
          show bgY α (xV t n 1 99 (xA t n x)) (xV t n 0 1 (xN t n 1 99 (xA t n x))) (xV t n 0 1 (xN t n 0 1 (xN t n 1 99 (xA t n x)))) (xV t n 0 999 (xN t n 0 1 (xN t n 0 1 (xN t n 1 99 (xA t n x))))) 0 2 = 0
          rw [bgY_0 _ _ _ _ (by decide)]
          exact h z'
        · rw [if_neg ok]; exact h
      · rw [if_neg w2]
        by_cases w3 : xW t n 3 x = true
        · rw [if_pos w3]
          by_cases ok : m = true ∧ 2 ≤ lvl α
          · rw [if_pos ok]
            intro z
            have z' : lg = false := z
            unfold zBrk
            show c1 α 3 (xV t n 0 (nI (lvl α - 2)) (xA t n x)).toNatClampNeg 0 0 2 = 0
            rw [c1_o _ _ _ (by decide)]
            exact h z'
          · rw [if_neg ok]; exact h
        · rw [if_neg w3]; exact h
theorem gx_nx {t : TY} {n : Nat} {x : XT0} (hn : n ≤ 400) (g : gx n x) : gx n (zNx t n x) := by
  unfold zNx
  by_cases c : xK t n x = 59
  · rw [if_pos c]; exact gx_A g
  · rw [if_neg c]; exact gx_A (gx_F hn (by decide) g)
theorem zLp_inv {t : TY} {n : Nat} (hn : n ≤ 400) : ∀ (f : Nat) (α : SA) (lg bk : Bool) (x : XT0), ZI α → gx n x → (lg = false → α 0 2 = 0) → ZI (zLp t n f α lg bk x).1 ∧ gx n (zLp t n f α lg bk x).2.2.2 ∧ ((zLp t n f α lg bk x).2.1 = false → (zLp t n f α lg bk x).1 0 2 = 0) := by
  intro f
  induction f with
  | zero => intro α lg bk x Z g l; exact ⟨Z, g, l⟩
  | succ f ih =>
    intro α lg bk x Z g l
    rw [zLp]
    by_cases c : xE x = 0
    · rw [if_pos c]
      obtain ⟨Z1, g1⟩ := zCl_inv (t := t) (m := decide (0 < f)) (lg := lg) (bk := bk) hn Z g
      have l1 := zCl_lag (t := t) (n := n) (m := decide (0 < f)) (bk := bk) (x := x) l
      by_cases e : xK t n (zCl t n (decide (0 < f)) α lg bk x).2.2.2 = 256
      · rw [if_pos e]; exact ⟨Z1, g1, l1⟩
      · rw [if_neg e]; exact ih _ _ _ _ Z1 (gx_nx hn g1) l1
    · rw [if_neg c]; exact ⟨Z, g, l⟩
theorem zEd_gx {n : Nat} {Z : ZS} (hn : n ≤ 400) (g : gx n Z.2.2.2) : gx n (zEd Z) := by
  unfold zEd
  by_cases c : 2 ≤ lvl Z.1
  · rw [if_pos c]; exact g
  · rw [if_neg c]; exact gx_F hn (by decide) g
def put (α γ : SA) : SA := c1 (c1 α 0 5 (γ 0 5)) 0 6 (γ 0 6)
theorem put_o (α γ : SA) {k : Nat} (h : k ≠ 0) : put α γ k = α k := by unfold put; rw [c1_o _ _ _ h, c1_o _ _ _ h]
theorem put_0 (α γ : SA) {i : Nat} (h5 : i ≠ 5) (h6 : i ≠ 6) : put α γ 0 i = α 0 i := by unfold put; rw [c1_e _ _ h6, c1_e _ _ h5]
theorem put_5 (α γ : SA) : put α γ 0 5 = γ 0 5 := by unfold put; rw [c1_e _ _ (by decide), c1_s]
theorem put_6 (α γ : SA) : put α γ 0 6 = γ 0 6 := by unfold put; rw [c1_s]
theorem put_l (α γ : SA) : lvl (put α γ) = lvl α ∧ bgs (put α γ) = bgs α ∧ bks (put α γ) = bks α := by
  unfold lvl bgs bks
  rw [put_0 _ _ (by decide) (by decide), put_0 _ _ (by decide) (by decide), put_0 _ _ (by decide) (by decide)]
  exact ⟨rfl, rfl, rfl⟩
theorem put_ok {α γ : SA} (Z : ZI α) (h2 : 2 ≤ lvl α) (h6 : 0 ≤ γ 0 6) : Ok (put α γ) := by
  obtain ⟨a1, a2, a3, a4, a5, a6, a7, a8, a9, a10, a11⟩ := Z
  obtain ⟨l, b, k⟩ := put_l α γ
  have hl8 := a1.2.2.2.1
  have D : Dm (put α γ) := by
    unfold Dm
    rw [l, b, k, put_0 _ _ (by decide) (by decide), put_0 _ _ (by decide) (by decide), put_0 _ _ (by decide) (by decide)]
    exact a1
  have P : Plc (put α γ) := by
    intro i hi
    rw [b] at hi
    rw [put_o _ _ (by decide), l, a9 i hi]
    by_cases c : α 8 i = 0
    · rw [if_pos c]; exact ⟨0, by omega, rfl⟩
    · rw [if_neg c]; exact ⟨lvl α - 1, by omega, rfl⟩
  refine ⟨D, P, ?_, ?_, ?_⟩
  · intro i hi
    rw [l] at hi
    rw [put_o _ _ (by decide)]
    exact Or.inl (a5 i (by omega))
  · unfold Val
    rw [l, b, put_o _ _ (k := 8) (by decide), put_o _ _ (k := 7) (by decide), put_o _ _ (k := 6) (by decide), put_o _ _ (k := 9) (by decide), put_o _ _ (k := 3) (by decide), put_0 _ _ (i := 2) (by decide) (by decide), put_6]
    exact ⟨a8, a7, fun i hi => a6 i (by omega), h6, Or.inr h2, fun z => by omega⟩
  · intro i hi
    rw [l] at hi
    rw [put_o _ _ (by decide)]
    obtain ⟨w, w1, w2⟩ := a4 i hi
    have := rem_42 D P
    exact ⟨w, w2, by omega⟩
theorem z_bits : ∀ l, l < 8 → ¬ ((0 : Int32) >>> (nI l &&& 31)) &&& 1 = 1 := by decide
def PQ1 : Nat → Nat → Prop := fun a j => PSN a j ∨ a = 54
def PQ2 : Nat → Nat → Prop := fun a j => PQ1 a j ∨ a = 62
theorem m_reads {N n : Nat} {t : TY} {h : Hp} (α : SA) (hN : 5000 ≤ N) (H : SHP h) (e1 : hI h 51 1 = nI n) (hn : n ≤ 400) (e2 : ∀ i, i < n → hI h 52 i = t i) : ∃ r h0 h', f_X8_stair N h 51 = b2 (some (r, h')) (fun r48 h49 => if r48 = 0 then (some (((-2 : Int32) - (hI h49 51 15), h49))) else (Option.bind (hP h49 51 26) (fun q51 => if 7 < hL h49 q51 then (f_X8_stair_56 N N h49 51 (hI h49 q51 (7)) (0 : Int32)) else none))) ∧ OUT h' r (zLp t n 33 (clr α) false false (.inr (skp t n 0))) ∧ Fr PQ1 h h' ∧ h0 = h := by
  unfold f_X8_stair
  rw [lts, lts, lts, lts, lts, lts]
  have F1 : Fr (fun a j => a = 51 ∧ 7 ≤ j) h (sI (sI (sI (sI (sI (sI h 51 17 6) 51 7 0) 51 8 0) 51 9 (-1)) 51 10 0) 51 11 0) := Fr_trans (Fr_sI _ _ _ _ ⟨rfl, by decide⟩) (Fr_trans (Fr_sI _ _ _ _ ⟨rfl, by decide⟩) (Fr_trans (Fr_sI _ _ _ _ ⟨rfl, by decide⟩) (Fr_trans (Fr_sI _ _ _ _ ⟨rfl, by decide⟩) (Fr_trans (Fr_sI _ _ _ _ ⟨rfl, by decide⟩) (Fr_sI _ _ _ _ ⟨rfl, by decide⟩)))))
  have q17 : hI (sI (sI (sI (sI (sI (sI h 51 17 6) 51 7 0) 51 8 0) 51 9 (-1)) 51 10 0) 51 11 0) 51 17 = 6 := by rw [hI_sI, if_neg (by omega), hI_sI, if_neg (by omega), hI_sI, if_neg (by omega), hI_sI, if_neg (by omega), hI_sI, if_neg (by omega), hI_sI, if_pos ⟨rfl, rfl⟩]
  have q7 : hI (sI (sI (sI (sI (sI (sI h 51 17 6) 51 7 0) 51 8 0) 51 9 (-1)) 51 10 0) 51 11 0) 51 7 = 0 := by rw [hI_sI, if_neg (by omega), hI_sI, if_neg (by omega), hI_sI, if_neg (by omega), hI_sI, if_neg (by omega), hI_sI, if_pos ⟨rfl, rfl⟩]
  have q8 : hI (sI (sI (sI (sI (sI (sI h 51 17 6) 51 7 0) 51 8 0) 51 9 (-1)) 51 10 0) 51 11 0) 51 8 = 0 := by rw [hI_sI, if_neg (by omega), hI_sI, if_neg (by omega), hI_sI, if_neg (by omega), hI_sI, if_pos ⟨rfl, rfl⟩]
  have q9 : hI (sI (sI (sI (sI (sI (sI h 51 17 6) 51 7 0) 51 8 0) 51 9 (-1)) 51 10 0) 51 11 0) 51 9 = -1 := by rw [hI_sI, if_neg (by omega), hI_sI, if_neg (by omega), hI_sI, if_pos ⟨rfl, rfl⟩]
  have q10 : hI (sI (sI (sI (sI (sI (sI h 51 17 6) 51 7 0) 51 8 0) 51 9 (-1)) 51 10 0) 51 11 0) 51 10 = 0 := by rw [hI_sI, if_neg (by omega), hI_sI, if_pos ⟨rfl, rfl⟩]
  have q11 : hI (sI (sI (sI (sI (sI (sI h 51 17 6) 51 7 0) 51 8 0) 51 9 (-1)) 51 10 0) 51 11 0) 51 11 = 0 := by rw [hI_sI, if_pos ⟨rfl, rfl⟩]
  generalize sI (sI (sI (sI (sI (sI h 51 17 6) 51 7 0) 51 8 0) 51 9 (-1)) 51 10 0) 51 11 0 = h1 at F1 q17 q7 q8 q9 q10 q11 ⊢
  have H1 := Fr_SHP F1 H
  unfold f_X8_readsAll
  rw [pp_51_4 H1, bs, q17, ll_54 H1, if_pos (by decide), show (6 : Int32).toNatClampNeg = 6 from rfl, lts, lts, lts, lts, lts]
  have F2 : Fr (fun a j => (a = 51 ∧ (j = 20 ∨ j = 14 ∨ j = 15 ∨ j = 18)) ∨ a = 54) h1 (sI (sI (sI (sI (sI h1 54 6 0) 51 20 0) 51 14 0) 51 15 0) 51 18 0) := Fr_trans (Fr_sI _ _ _ _ (Or.inr rfl)) (Fr_trans (Fr_sI _ _ _ _ (Or.inl ⟨rfl, by decide⟩)) (Fr_trans (Fr_sI _ _ _ _ (Or.inl ⟨rfl, by decide⟩)) (Fr_trans (Fr_sI _ _ _ _ (Or.inl ⟨rfl, by decide⟩)) (Fr_sI _ _ _ _ (Or.inl ⟨rfl, by decide⟩)))))
  have r20 : hI (sI (sI (sI (sI (sI h1 54 6 0) 51 20 0) 51 14 0) 51 15 0) 51 18 0) 51 20 = 0 := by rw [hI_sI, if_neg (by omega), hI_sI, if_neg (by omega), hI_sI, if_neg (by omega), hI_sI, if_pos ⟨rfl, rfl⟩]
  have r14 : hI (sI (sI (sI (sI (sI h1 54 6 0) 51 20 0) 51 14 0) 51 15 0) 51 18 0) 51 14 = 0 := by rw [hI_sI, if_neg (by omega), hI_sI, if_neg (by omega), hI_sI, if_pos ⟨rfl, rfl⟩]
  have r15 : hI (sI (sI (sI (sI (sI h1 54 6 0) 51 20 0) 51 14 0) 51 15 0) 51 18 0) 51 15 = 0 := by rw [hI_sI, if_neg (by omega), hI_sI, if_pos ⟨rfl, rfl⟩]
  generalize sI (sI (sI (sI (sI h1 54 6 0) 51 20 0) 51 14 0) 51 15 0) 51 18 0 = h2 at F2 r20 r14 r15 ⊢
  have H2 := Fr_SHP F2 H1
  have lv : lvl (clr α) = 0 := rfl
  have bg : bgs (clr α) = 0 := rfl
  have M2 : MS t n h2 0 (clr α) false false 0 := by
    refine ⟨⟨H2, ?_, hn, fun i hi => ?_, Nat.zero_le _, r14⟩, r15, ?_, r20, ?_⟩
    · rw [F2.2.2.2 51 1 (fun z => by omega), F1.2.2.2 51 1 (fun z => by omega)]; exact e1
    · rw [F2.2.2.2 52 i (fun z => by omega), F1.2.2.2 52 i (fun z => by omega)]; exact e2 i hi
    · rw [F2.2.2.2 51 17 (fun z => by omega)]; exact q17
    · unfold DM
      rw [lv, bg, F2.2.2.2 51 7 (fun z => by omega), F2.2.2.2 51 8 (fun z => by omega), F2.2.2.2 51 9 (fun z => by omega), F2.2.2.2 51 10 (fun z => by omega), F2.2.2.2 51 11 (fun z => by omega), q7, q8, q9, q10, q11]
      refine ⟨rfl, rfl, rfl, rfl, fun l hl => ⟨fun z => absurd z (z_bits l hl), fun z => ?_⟩, fun l hl => absurd hl (Nat.not_lt_zero l), fun l hl => absurd hl (Nat.not_lt_zero l)⟩
      exact absurd (show (1 : Int32) = 0 from z) (by decide)
  obtain ⟨r, h3, i1, r', h4, i2, i3, i4⟩ := m_lp (N := N) hN 32 0 N h2 0 (clr α) false false (by omega) (by omega) M2 (ZI_clr α)
  rw [i1, b2s, i2]
  exact ⟨r', h, h4, rfl, i3, Fr_trans (Fr_mono F1 (fun a j z => Or.inl (Or.inl (Or.inl ⟨z.1, z.2⟩)))) (Fr_trans (Fr_mono F2 (fun a j z => z.elim (fun y => Or.inl (Or.inl (Or.inl ⟨y.1, by omega⟩))) (fun y => Or.inr y))) (Fr_mono i4 (fun a j z => Or.inl z))), rfl⟩
