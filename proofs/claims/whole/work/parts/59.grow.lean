/-! ===== heaps that grow ===== -/
def Fx (P Q : Nat → Nat → Prop) (h h' : Hp) : Prop := hN h ≤ hN h' ∧ ∀ a, a < hN h → hL h' a = hL h a ∧ (∀ j, ¬ Q a j → hP h' a j = hP h a j) ∧ ∀ j, ¬ P a j → hI h' a j = hI h a j
theorem Fq_x {P : Nat → Nat → Prop} (Q : Nat → Nat → Prop) {a b : Hp} (F : Fq P a b) : Fx P Q a b := ⟨Nat.le_of_eq F.1.symm, fun x _ => ⟨by rw [F.2.2.1], fun j _ => by rw [F.2.1], fun j hj => F.2.2.2 x j hj⟩⟩
theorem Fx_trans {P Q : Nat → Nat → Prop} {a b c : Hp} (F : Fx P Q a b) (G : Fx P Q b c) : Fx P Q a c := by
  refine ⟨Nat.le_trans F.1 G.1, fun x hx => ?_⟩
  obtain ⟨f1, f2, f3⟩ := F.2 x hx
  obtain ⟨g1, g2, g3⟩ := G.2 x (Nat.lt_of_lt_of_le hx F.1)
  exact ⟨g1.trans f1, fun j hj => (g2 j hj).trans (f2 j hj), fun j hj => (g3 j hj).trans (f3 j hj)⟩
theorem Fx_mono {P Q P' Q' : Nat → Nat → Prop} {a b : Hp} (F : Fx P Q a b) (hp : ∀ x j, P x j → P' x j) (hq : ∀ x j, Q x j → Q' x j) : Fx P' Q' a b := ⟨F.1, fun x hx => ⟨(F.2 x hx).1, fun j hj => (F.2 x hx).2.1 j (fun z => hj (hq _ _ z)), fun j hj => (F.2 x hx).2.2 j (fun z => hj (hp _ _ z))⟩⟩
theorem Fx_i {P Q : Nat → Nat → Prop} {a b : Hp} (F : Fx P Q a b) {x j : Nat} (hx : x < hN a) (hj : ¬ P x j) : hI b x j = hI a x j := (F.2 x hx).2.2 j hj
theorem Fx_row {P Q : Nat → Nat → Prop} {a b : Hp} (F : Fx P Q a b) {x : Nat} (hx : x < hN a) (hj : ∀ j, ¬ P x j) : hI b x = hI a x := funext fun j => Fx_i F hx (hj j)
theorem Fx_p {P Q : Nat → Nat → Prop} {a b : Hp} (F : Fx P Q a b) {x j : Nat} (hx : x < hN a) (hj : ¬ Q x j) : hP b x j = hP a x j := (F.2 x hx).2.1 j hj
theorem Fx_l {P Q : Nat → Nat → Prop} {a b : Hp} (F : Fx P Q a b) {x : Nat} (hx : x < hN a) : hL b x = hL a x := (F.2 x hx).1
def QN (a _ : Nat) : Prop := a = 27 ∨ a = 28
theorem PL_ok : ∀ q ∈ PL, q.1 < 77 ∧ ¬ (q.1 = 27 ∨ q.1 = 28) := by decide
theorem LL_ok : ∀ q ∈ LL, q.1 < 77 := by decide
theorem SHP_Fx {P Q : Nat → Nat → Prop} {a b : Hp} (F : Fx P Q a b) (hq : ∀ x j, Q x j → QN x j) (H : SHP a) : SHP b := by
  have h77 := H.2.2
  refine ⟨fun q h1 => ?_, fun q h1 => ?_, Nat.le_trans h77 F.1⟩
  · have := PL_ok q h1
    rw [Fx_p F (by omega) (fun z => this.2 (hq _ _ z))]
    exact H.1 q h1
  · have := LL_ok q h1
    rw [Fx_l F (by omega)]
    exact H.2.1 q h1
theorem isSt_Fx {P Q : Nat → Nat → Prop} {a b : Hp} (F : Fx P Q a b) (hq : ∀ x j, Q x j → QN x j) {s : Nat} (h1 : s + 12 ≤ hN a) (h2 : s < 16 ∨ 77 ≤ s) (I : isSt a s) : isSt b s := by
  obtain ⟨i1, i2, i3, i4, i5⟩ := I
  refine ⟨fun k hk => ?_, fun k hk => ?_, fun k hk => ?_, ?_, ?_⟩
  · rw [Fx_p F (by omega) (fun z => by have := hq _ _ z; unfold QN at this; omega)]; exact i1 k hk
  · rw [Fx_l F (by omega)]; exact i2 k hk
  · rw [Fx_l F (by omega)]; exact i3 k hk
  · rw [Fx_l F (by omega)]; exact i4
  · rw [Fx_l F (by omega)]; exact i5
theorem Ac_Fx {P Q : Nat → Nat → Prop} {a b : Hp} (F : Fx P Q a b) (hq : ∀ x j, Q x j → QN x j) {s : Nat} {α : SA} (h1 : s + 12 ≤ hN a) (h2 : s < 16 ∨ 77 ≤ s) (hp : ∀ x j, s ≤ x → x ≤ s + 10 → ¬ P x j) (A : Ac a s α) : Ac b s α := by
  refine ⟨isSt_Fx F hq h1 h2 A.1, fun k i hk hi => ?_⟩
  rw [Fx_i F (by omega) (hp _ _ (by omega) (by omega))]
  exact A.2 k i hk hi
theorem Rc_Fx {P Q : Nat → Nat → Prop} {a b : Hp} (F : Fx P Q a b) (hq : ∀ x j, Q x j → QN x j) {N q : Nat} {rl : RLT} (h1 : q + 4 ≤ hN a) (hp : ∀ j, ¬ P (q + 1) j) (R : Rc N a (some q) rl) : Rc N b (some q) rl := by
  obtain ⟨⟨r1, r2, r3, r4, r5, r6⟩, r7⟩ := R
  have nq : ∀ j, ¬ Q q j := fun j z => by have := hq _ _ z; unfold QN at this; omega
  refine ⟨⟨?_, ?_, ?_, ?_, ?_, r6⟩, fun h' w r l e j => r7 h' w r (by rw [l, Fx_l F (by omega)]) (by rw [e, Fx_row F (by omega) hp]) j⟩
  · rw [Fx_p F (by omega) (nq _)]; exact r1
  · rw [Fx_p F (by omega) (nq _)]; exact r2
  · rw [Fx_p F (by omega) (nq _)]; exact r3
  · rw [Fx_l F (by omega)]; exact r4
  · rw [Fx_l F (by omega)]; exact r5
theorem Rm_Fx {P Q : Nat → Nat → Prop} {a b : Hp} (F : Fx P Q a b) (H : 77 ≤ hN a) {N : Nat} {r : Int32} {rl : RLT} (h53 : ∀ j, ¬ P 53 j) (h55 : ∀ j, ¬ P 55 j) (h56 : ∀ j, ¬ P 56 j) (R : Rm N a r rl) : Rm N b r rl := by
  exact Rm_w (Rrw_of (Fx_row F (by omega) h53) (Fx_row F (by omega) h55) (Fx_row F (by omega) h56)) R
theorem TAPE_Fx {P Q : Nat → Nat → Prop} {a b : Hp} (F : Fx P Q a b) (H : 77 ≤ hN a) (hp : ∀ x j, P x j → ¬ Prt x j) (T : TAPE a) : TAPE b := by
  obtain ⟨n, t1, t2, t3, t4, t5⟩ := T
  have e2 : hI b 2 = hI a 2 := Fx_row F (by omega) (fun j z => hp _ _ z (by unfold Prt; omega))
  have e52 : hI b 52 = hI a 52 := Fx_row F (by omega) (fun j z => hp _ _ z (by unfold Prt; omega))
  refine ⟨n, t1, by rw [Fx_i F (x := 1) (j := 1) (by omega) (fun z => hp _ _ z (by unfold Prt; omega))]; exact t2, by rw [Fx_i F (x := 51) (j := 1) (by omega) (fun z => hp _ _ z (by unfold Prt; omega))]; exact t3, ?_⟩
  rw [e2, e52]
  exact ⟨t4, t5⟩
theorem CaT_Fx {P Q : Nat → Nat → Prop} {h h' : Hp} {α : SA} {rl : RLT} (F : Fx P Q h h') (H : 77 ≤ hN h) (C1 : ∀ a j, P a j → ¬ Prs a j) (C : CaT h α rl) : CaT h' α rl := by
  have w : ∀ x, x = 37 ∨ x = 38 ∨ x = 39 ∨ x = 43 → hI h' x = hI h x := fun x hx => Fx_row F (by omega) (fun j z => C1 _ _ z (by unfold Prs; omega))
  have e15 : hI h' 32 15 = hI h 32 15 := Fx_i F (by omega) (fun z => C1 _ _ z (by unfold Prs; omega))
  have e14 : hI h' 32 14 = hI h 32 14 := Fx_i F (by omega) (fun z => C1 _ _ z (by unfold Prs; omega))
  rcases C with c | ⟨m, w', γ, c1, c2, c3, c4, c5, c6, X, G, s1, s2, s3, s4, s5⟩
  · exact Or.inl (by rw [e15]; exact c)
  · refine Or.inr ⟨m, w', γ, c1, by rw [e15]; exact c2, c3, c4, c5, c6, X, G, s1, s2, by rw [e14]; exact s3, ?_, fun t ht => ?_⟩
    · rw [w 37 (by decide), w 38 (by decide), w 39 (by decide)]
      exact s4
    · rw [w 43 (by decide)]
      exact s5 t ht
/-! a new stair in the class -/
def lens (k : Nat) : Nat := if k < 4 then 8 else if k < 9 then 6 else if k = 9 then 10 else 16
def Bd (h0 h : Hp) (s k : Nat) : Prop := hN h = s + 1 + k ∧ (∀ i, i < k → hP h s (8 + i) = some (s + 1 + i)) ∧ (∀ i, i < k → hL h (s + 1 + i) = lens i) ∧ ∀ a, a < s → hL h a = hL h0 a ∧ hP h a = hP h0 a ∧ hI h a = hI h0 a
theorem Bd_nO (h : Hp) (c z : Nat) : Bd h (nO h c z) (hN h) 0 := by
  refine ⟨hN_nO _ _ _, fun i hi => absurd hi (Nat.not_lt_zero i), fun i hi => absurd hi (Nat.not_lt_zero i), fun a ha => ⟨?_, ?_, ?_⟩⟩
  · rw [hL_nO, if_neg (by omega)]
  · funext j; rw [hP_nO, if_neg (by omega)]
  · funext j; rw [hI_nO, if_neg (by omega)]
theorem Bd_sI {h0 h : Hp} {s k : Nat} (B : Bd h0 h s k) (j : Nat) (x : Int32) : Bd h0 (sI h s j x) s k := by
  obtain ⟨b1, b2, b3, b4⟩ := B
  refine ⟨b1, b2, b3, fun a ha => ⟨(b4 a ha).1, (b4 a ha).2.1, ?_⟩⟩
  funext i
  rw [hI_sI, if_neg (by omega), (b4 a ha).2.2]
theorem Bd_st {h0 h : Hp} {s k e z : Nat} (B : Bd h0 h s k) (he : e = 8 + k) (hz : lens k = z) : Bd h0 (sP (nO h 10 z) s e (some (hN h))) s (k + 1) := by
  obtain ⟨b1, b2, b3, b4⟩ := B
  subst he
  refine ⟨by rw [hN_sP, hN_nO]; omega, fun i hi => ?_, fun i hi => ?_, fun a ha => ⟨?_, ?_, ?_⟩⟩
  · rw [hP_sP]
    by_cases c : i = k
    · subst c; rw [if_pos ⟨rfl, rfl⟩, b1]
    · rw [if_neg (by omega), hP_nO, if_neg (by omega)]; exact b2 i (by omega)
  · rw [hL_sP, hL_nO]
    by_cases c : i = k
    · subst c; rw [if_pos b1.symm, hz]
    · rw [if_neg (by omega)]; exact b3 i (by omega)
  · rw [hL_sP, hL_nO, if_neg (by omega), (b4 a ha).1]
  · funext j; rw [hP_sP, if_neg (by omega), hP_nO, if_neg (by omega), (b4 a ha).2.1]
  · funext j; rw [hI_sP, hI_nO, if_neg (by omega), (b4 a ha).2.2]
theorem c_init {h0 h : Hp} {s : Nat} (B : Bd h0 h s 0) : ∃ h', f_X5_init h s = some h' ∧ Bd h0 h' s 11 := by
  unfold f_X5_init
  rw [lts]
  have B0 := Bd_sI B 0 (0 : Int32)
  generalize sI h s 0 (0 : Int32) = k0 at B0 ⊢
  rw [lts]
  have B1 := Bd_sI B0 1 (0 : Int32)
  generalize sI k0 s 1 (0 : Int32) = k1 at B1 ⊢
  rw [lts]
  have B2 := Bd_sI B1 2 (0 : Int32)
  generalize sI k1 s 2 (0 : Int32) = k2 at B2 ⊢
  rw [lts]
  have B3 := Bd_sI B2 3 (0 : Int32)
  generalize sI k2 s 3 (0 : Int32) = k3 at B3 ⊢
  rw [lts]
  have B4 := Bd_sI B3 4 (0 : Int32)
  generalize sI k3 s 4 (0 : Int32) = k4 at B4 ⊢
  rw [lts]
  have B5 := Bd_sI B4 5 (-1 : Int32)
  generalize sI k4 s 5 (-1 : Int32) = k5 at B5 ⊢
  rw [lts]
  have B6 := Bd_sI B5 6 (0 : Int32)
  generalize sI k5 s 6 (0 : Int32) = k6 at B6 ⊢
  rw [lts]
  have B7 := Bd_sI B6 7 (0 : Int32)
  generalize sI k6 s 7 (0 : Int32) = k7 at B7 ⊢
  rw [lts, lts]
  have C0 := Bd_st B7 (e := 8) (z := 8) rfl rfl
  generalize sP (nO k7 10 8) s 8 (some (hN k7)) = g0 at C0 ⊢
  rw [lts, lts]
  have C1 := Bd_st C0 (e := 9) (z := 8) rfl rfl
  generalize sP (nO g0 10 8) s 9 (some (hN g0)) = g1 at C1 ⊢
  rw [lts, lts]
  have C2 := Bd_st C1 (e := 10) (z := 8) rfl rfl
  generalize sP (nO g1 10 8) s 10 (some (hN g1)) = g2 at C2 ⊢
  rw [lts, lts]
  have C3 := Bd_st C2 (e := 11) (z := 8) rfl rfl
  generalize sP (nO g2 10 8) s 11 (some (hN g2)) = g3 at C3 ⊢
  rw [lts, lts]
  have C4 := Bd_st C3 (e := 12) (z := 6) rfl rfl
  generalize sP (nO g3 10 6) s 12 (some (hN g3)) = g4 at C4 ⊢
  rw [lts, lts]
  have C5 := Bd_st C4 (e := 13) (z := 6) rfl rfl
  generalize sP (nO g4 10 6) s 13 (some (hN g4)) = g5 at C5 ⊢
  rw [lts, lts]
  have C6 := Bd_st C5 (e := 14) (z := 6) rfl rfl
  generalize sP (nO g5 10 6) s 14 (some (hN g5)) = g6 at C6 ⊢
  rw [lts, lts]
  have C7 := Bd_st C6 (e := 15) (z := 6) rfl rfl
  generalize sP (nO g6 10 6) s 15 (some (hN g6)) = g7 at C7 ⊢
  rw [lts, lts]
  have C8 := Bd_st C7 (e := 16) (z := 6) rfl rfl
  generalize sP (nO g7 10 6) s 16 (some (hN g7)) = g8 at C8 ⊢
  rw [lts, lts]
  have C9 := Bd_st C8 (e := 17) (z := 10) rfl rfl
  generalize sP (nO g8 10 10) s 17 (some (hN g8)) = g9 at C9 ⊢
  rw [lts, lts]
  have C10 := Bd_st C9 (e := 18) (z := 16) rfl rfl
  generalize sP (nO g9 10 16) s 18 (some (hN g9)) = g10 at C10 ⊢
  exact ⟨g10, rfl, C10⟩
theorem Bd_isSt {h0 h : Hp} {s : Nat} (B : Bd h0 h s 11) : isSt h s := by
  obtain ⟨b1, b2, b3, b4⟩ := B
  refine ⟨b2, fun k hk => ?_, fun k hk => ?_, b3 9 (by decide), b3 10 (by decide)⟩
  · rw [b3 k (by omega)]; unfold lens; rw [if_pos hk]
  · rw [show s + 5 + k = s + 1 + (4 + k) by omega, b3 (4 + k) (by omega)]; unfold lens; rw [if_neg (by omega), if_pos (by omega)]
theorem Bd_x {h0 h : Hp} {k : Nat} (P Q : Nat → Nat → Prop) (B : Bd h0 h (hN h0) k) : Fx P Q h0 h := ⟨by rw [B.1]; omega, fun x hx => ⟨(B.2.2.2 x hx).1, fun j _ => by rw [(B.2.2.2 x hx).2.1], fun j _ => by rw [(B.2.2.2 x hx).2.2]⟩⟩
/-- the class keeps an image -/
theorem c_image {h : Hp} {α : SA} {k : Nat} (H : SHP h) (A : Ac h 3 α) (hk : k < 4) (hs : ∀ s, hP h 27 k = some s → 77 ≤ s ∧ s + 12 ≤ hN h ∧ isSt h s) : ∃ h1 s, f_X7_image h 0 (nI k) = some (α 0 3, h1) ∧ hP h1 27 k = some s ∧ 77 ≤ s ∧ s + 12 ≤ hN h1 ∧ Ac h1 s α ∧ Fx (PS s) (fun a j => a = 27 ∧ j = k) h h1 ∧ (hP h 27 k = some s ∨ s = hN h) := by
  have h77 := H.2.2
  unfold f_X7_image
  rw [if_neg (nI_pos (by omega)), if_pos (show nI k < (4 : Int32) from nI_lt (b := 4) hk (by decide)), pp_0_3 H, bs, ll_27 H, if_inI hk (by omega), nI_clamp (by omega)]
  cases e : hP h 27 k with
  | some s =>
    obtain ⟨s1, s2, s3⟩ := hs s e
    obtain ⟨h1, e1, A1, F1⟩ := c_copy (s0 := s) (s1 := 3) (Or.inr (by omega)) A s3
    have H1 := Fr_SHP F1 H
    have A3 : Ac h1 3 α := Fr_Ac F1 (fun a j h1 h2 z => by unfold PS at z; omega) A
    refine ⟨h1, s, ?_, by rw [F1.2.1]; exact e, s1, by rw [F1.1.1]; exact s2, A1, Fq_x _ (Fr_q F1), Or.inl rfl⟩
    rw [if_neg (by simp)]
    unfold f_X7_image_33
    rw [pp_0_3 H, bs, ll_27 H, if_inI hk (by omega), nI_clamp (by omega), e, bs, pp_0_1 H, bs, e1, bs, pp_0_1 H1, bs, ac_0 A3 (by decide)]
  | none =>
    rw [if_pos rfl, bs, lts]
    have B0 := Bd_nO h 5 0
    generalize nO h 5 0 = g0 at B0 ⊢
    obtain ⟨g1, e1, B1⟩ := c_init B0
    rw [e1, bs]
    have F1 : Fx (PS (hN h)) (fun a j => a = 27 ∧ j = k) h g1 := Bd_x _ _ B1
    have H1 : SHP g1 := SHP_Fx F1 (fun x j z => Or.inl z.1) H
    rw [ll_27 H1, if_pos ⟨nI_pos' (by omega), hk⟩, lts]
    have n1 := B1.1
    have F2 : Fx (PS (hN h)) (fun a j => a = 27 ∧ j = k) g1 (sP g1 27 k (some (hN h))) := ⟨by rw [hN_sP]; exact Nat.le_refl _, fun x hx => ⟨by rw [hL_sP], fun j hj => by rw [hP_sP, if_neg hj], fun j _ => by rw [hI_sP]⟩⟩
    have p2 : hP (sP g1 27 k (some (hN h))) 27 k = some (hN h) := by rw [hP_sP, if_pos ⟨rfl, rfl⟩]
    have n2 : hN (sP g1 27 k (some (hN h))) = hN h + 12 := by rw [hN_sP]; omega
    generalize sP g1 27 k (some (hN h)) = g2 at F2 p2 n2 ⊢
    have H2 : SHP g2 := SHP_Fx F2 (fun x j z => Or.inl z.1) H1
    have F12 := Fx_trans F1 F2
    have A2 : Ac g2 3 α := Ac_Fx F12 (fun x j z => Or.inl z.1) (by omega) (by omega) (fun x j h1 h2 z => by unfold PS at z; omega) A
    have I2 : isSt g2 (hN h) := isSt_Fx F2 (fun x j z => Or.inl z.1) (by omega) (by omega) (Bd_isSt B1)
    obtain ⟨h1, e3, A3, F3⟩ := c_copy (s0 := hN h) (s1 := 3) (Or.inr (by omega)) A2 I2
    have H3 := Fr_SHP F3 H2
    have A33 : Ac h1 3 α := Fr_Ac F3 (fun a j h1 h2 z => by unfold PS at z; omega) A2
    refine ⟨h1, hN h, ?_, by rw [F3.2.1]; exact p2, h77, by rw [F3.1.1]; omega, A3, Fx_trans F12 (Fq_x _ (Fr_q F3)), Or.inr rfl⟩
    unfold f_X7_image_33
    rw [pp_0_3 H2, bs, ll_27 H2, if_inI hk (by omega), nI_clamp (by omega), p2, bs, pp_0_1 H2, bs, e3, bs, pp_0_1 H3, bs, ac_0 A33 (by decide)]
