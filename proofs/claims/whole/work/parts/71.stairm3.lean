/-! ===== texts: the reference's barges ===== -/
def PBk (b k : Nat) : Nat → Nat → Prop := fun a j => PNm a j ∨ (a = 58 ∧ j = 4 * b + k)
theorem s_bk {N n p c k : Nat} {t : TY} {h : Hp} {α : SA} {lg bk : Bool} {lo hi : Int32} {s35 : Hp → Nat → Int32 → Option (Int32 × Hp)} (hN : 5000 ≤ N) (M : MS t n h p α lg bk c) (hb : bgs α < 6) (hk : k < 4) (hm : f_X8_mostOf h (nI k) = some hi) : ∃ h', Fr (PBk (bgs α) k) h h' ∧ ((nok t n (skp t n p) lo hi ∧ f_X8_isBargeHere_50 N s35 h 51 (nI k) lo 51 = s35 h' 51 (nI (k + 1)) ∧ hI h' 58 (4 * bgs α + k) = nmv t n (skp t n p) ∧ MS t n h' (dge t n (skp t n p)) α lg bk c ∧ skp t n (dge t n (skp t n p)) = nt t n (skp t n p)) ∨ (¬ nok t n (skp t n p) lo hi ∧ f_X8_isBargeHere_50 N s35 h 51 (nI k) lo 51 = some (0, h') ∧ hI h' 51 15 = nfl t n (skp t n p))) := by
  unfold f_X8_isBargeHere_50
  rw [hm, bs]
  obtain ⟨h2, F2, c2⟩ := s_num (lo := lo) (hi := hi) hN M
  rcases c2 with ⟨n2, i2, v2, M2, k2⟩ | ⟨n2, i2, v2⟩
  · rw [i2, b2s, if_neg (by decide), pp_51_13 M2.1.1, bs, M2.2.2.2.2.2.1, n_4, pk_mul, nI_add, ll_58 M2.1.1, if_inI (by omega) (by omega), lts, nI_clamp (by omega), v2, nI_1]
    have F3 : Fr (fun a j => a = 58 ∧ j = 4 * bgs α + k) h2 (sI h2 58 (4 * bgs α + k) (nmv t n (skp t n p))) := Fr_sI _ _ _ _ ⟨rfl, rfl⟩
    have q3 : hI (sI h2 58 (4 * bgs α + k) (nmv t n (skp t n p))) 58 (4 * bgs α + k) = nmv t n (skp t n p) := by rw [hI_sI, if_pos ⟨rfl, rfl⟩]
    generalize sI h2 58 (4 * bgs α + k) (nmv t n (skp t n p)) = h3 at F3 q3 ⊢
    refine ⟨h3, Fr_trans (Fr_mono F2 (fun a j z => Or.inl z)) (Fr_mono F3 (fun a j z => Or.inr z)), Or.inl ⟨n2, rfl, q3, ?_, k2⟩⟩
    obtain ⟨T, m1, m2, m3, m7, m8, m9, m11, m10, m57, m58⟩ := M2
    refine ⟨TM_Fr F3 (fun z => by omega) (fun z => by omega) (fun i z => by omega) T, by rw [F3.2.2.2 51 15 (fun z => by omega)]; exact m1, by rw [F3.2.2.2 51 17 (fun z => by omega)]; exact m2, by rw [F3.2.2.2 51 20 (fun z => by omega)]; exact m3, by rw [F3.2.2.2 51 7 (fun z => by omega)]; exact m7, by rw [F3.2.2.2 51 8 (fun z => by omega)]; exact m8, by rw [F3.2.2.2 51 9 (fun z => by omega)]; exact m9, by rw [F3.2.2.2 51 11 (fun z => by omega)]; exact m11, by rw [F3.2.2.2 51 10 (fun z => by omega)]; exact m10, by rw [Fr_row F3 (fun j z => by omega)]; exact m57, fun b hb => ?_⟩
    rw [F3.2.2.2 58 (4 * b) (fun z => by omega), F3.2.2.2 58 (4 * b + 1) (fun z => by omega), F3.2.2.2 58 (4 * b + 2) (fun z => by omega), F3.2.2.2 58 (4 * b + 3) (fun z => by omega)]
    exact m58 b hb
  · rw [i2, b2s, if_pos rfl]
    exact ⟨h2, Fr_mono F2 (fun a j z => Or.inl z), Or.inr ⟨n2, rfl, v2⟩⟩
theorem Bk_SM {b k : Nat} {a c : Hp} (F : Fr (PBk b k) a c) : Fr PSM a c := Fr_mono F (fun _ _ z => z.elim (fun y => Or.inl ⟨y.1, by have := y.2; omega⟩) (fun y => Or.inr (Or.inr y.1)))
theorem bgY_o {α : SA} (v1 v2 v3 v4 : Int32) {k : Nat} (h0 : k ≠ 0) (h5 : k ≠ 5) (h6 : k ≠ 6) (h7 : k ≠ 7) (h8 : k ≠ 8) (h9 : k ≠ 9) : bgY α v1 v2 v3 v4 k = α k := by
  unfold bgY
  rw [sr_o _ _ h5]
  unfold bgX
  rw [c1_o _ _ _ h0, c1_o _ _ _ h9, c1_o _ _ _ h8, c1_o _ _ _ h7, c1_o _ _ _ h6]
theorem bgY_0 {α : SA} (v1 v2 v3 v4 : Int32) {i : Nat} (h1 : i ≠ 1) : bgY α v1 v2 v3 v4 0 i = α 0 i := by
  unfold bgY
  rw [sr_o _ _ (by decide)]
  unfold bgX
  rw [c1_e _ _ h1, c1_o _ _ _ (by decide), c1_o _ _ _ (by decide), c1_o _ _ _ (by decide), c1_o _ _ _ (by decide)]
theorem bgY_01 {α : SA} (v1 v2 v3 v4 : Int32) : bgY α v1 v2 v3 v4 0 1 = nI (bgs α + 1) := by
  unfold bgY
  rw [sr_o _ _ (by decide)]
  unfold bgX
  rw [c1_s]
theorem bgY_6 {α : SA} (v1 v2 v3 v4 : Int32) : bgY α v1 v2 v3 v4 6 = upd (α 6) (bgs α) v1 := by
  unfold bgY
  rw [sr_o _ _ (by decide)]
  unfold bgX
  rw [c1_o _ _ _ (by decide), c1_o _ _ _ (by decide), c1_o _ _ _ (by decide), c1_o _ _ _ (by decide)]
  unfold c1
  rw [sr_s]
theorem bgY_7 {α : SA} (v1 v2 v3 v4 : Int32) : bgY α v1 v2 v3 v4 7 = upd (α 7) (bgs α) v2 := by
  unfold bgY
  rw [sr_o _ _ (by decide)]
  unfold bgX
  rw [c1_o _ _ _ (by decide), c1_o _ _ _ (by decide), c1_o _ _ _ (by decide)]
  unfold c1
  rw [sr_s, sr_o _ _ (by decide)]
theorem bgY_8 {α : SA} (v1 v2 v3 v4 : Int32) : bgY α v1 v2 v3 v4 8 = upd (α 8) (bgs α) v3 := by
  unfold bgY
  rw [sr_o _ _ (by decide)]
  unfold bgX
  rw [c1_o _ _ _ (by decide), c1_o _ _ _ (by decide)]
  unfold c1
  rw [sr_s, sr_o _ _ (by decide), sr_o _ _ (by decide)]
theorem bgY_9 {α : SA} (v1 v2 v3 v4 : Int32) : bgY α v1 v2 v3 v4 9 = upd (α 9) (bgs α) v4 := by
  unfold bgY
  rw [sr_o _ _ (by decide)]
  unfold bgX
  rw [c1_o _ _ _ (by decide)]
  unfold c1
  rw [sr_s, sr_o _ _ (by decide), sr_o _ _ (by decide), sr_o _ _ (by decide)]
theorem s_bar {N n s c : Nat} {t : TY} {h : Hp} {α : SA} {lg bk : Bool} (hN : 5000 ≤ N) (M : MS t n h s α lg bk c) (Dm0 : Dm α) (k : wd t n s 2 = true) (hl : 2 ≤ lvl α) (hb : bgs α < 6) (at' : Int32) : ∃ r h', f_X8_isBargeHere N h 51 at' = some (r, h') ∧ RM t n h' c (zBar t n α lg bk (.inr s)) r ∧ Fr PSM h h' := by
  have hl8 := Dm0.2.2.2.1
  unfold f_X8_isBargeHere
  rw [M.2.2.2.2.1, if_neg (show ¬ nI (lvl α) < 2 from nI_nlt (b := 2) hl (by omega)), M.2.2.2.2.2.1, if_neg (show ¬ nI (bgs α) = 6 from fun z => by have := (nI_eq (b := 6) (by omega) (by decide)).mp z; omega), lts]
  obtain ⟨M0, F0⟩ := s_beh M
  generalize sI h 51 11 1 = h0 at M0 F0 ⊢
  obtain ⟨h1, i1, M1, k1, F1⟩ := s_pass hN (by decide) M0 k
  rw [i1, bs]
  have e1 : xA t n (.inr s) = .inr (nt t n s) := rfl
  unfold zBar zBar2
  rw [e1, xV_r, xN_r]
  have Fa : Fr PSM h h1 := Fr_trans (Fr_mono F0 (fun a j z => Or.inl ⟨z.1, by omega⟩)) (PE_SM F1)
  obtain ⟨K, rfl⟩ : ∃ j, N = j + 5 := ⟨N - 5, by omega⟩
  generalize hNN : K + 5 = NN at hN M M0 i1 M1 ⊢
  have st0 : ∀ g, f_X8_isBargeHere_35 NN NN g 51 0 = f_X8_isBargeHere_50 NN (f_X8_isBargeHere_35 NN (K + 4)) g 51 (nI 0) 1 51 := by
    intro g
    have e : f_X8_isBargeHere_35 NN (K + 4 + 1) g 51 0 = f_X8_isBargeHere_50 NN (f_X8_isBargeHere_35 NN (K + 4)) g 51 (nI 0) 1 51 := by
      rw [f_X8_isBargeHere_35, if_neg (by decide), if_pos rfl]
      rfl
    rw [show K + 4 + 1 = NN by omega] at e
    exact e
  have st1 : ∀ g j, f_X8_isBargeHere_35 NN (j + 1) g 51 (nI 1) = f_X8_isBargeHere_50 NN (f_X8_isBargeHere_35 NN j) g 51 (nI 1) 0 51 := by
    intro g j
    rw [f_X8_isBargeHere_35, if_neg (by decide), if_neg (by decide)]
  have st2 : ∀ g j, f_X8_isBargeHere_35 NN (j + 1) g 51 (nI 2) = f_X8_isBargeHere_50 NN (f_X8_isBargeHere_35 NN j) g 51 (nI 2) 0 51 := by
    intro g j
    rw [f_X8_isBargeHere_35, if_neg (by decide), if_neg (by decide)]
  have st3 : ∀ g j, f_X8_isBargeHere_35 NN (j + 1) g 51 (nI 3) = f_X8_isBargeHere_50 NN (f_X8_isBargeHere_35 NN j) g 51 (nI 3) 0 51 := by
    intro g j
    rw [f_X8_isBargeHere_35, if_neg (by decide), if_neg (by decide)]
  have st4 : ∀ g j, f_X8_isBargeHere_35 NN (j + 1) g 51 (nI 4) = some (1, sI g 51 8 (hI g 51 8 + 1)) := by
    intro g j
    rw [f_X8_isBargeHere_35, if_pos (by decide), lts]
  have mo0 : ∀ g, f_X8_mostOf g (nI 0) = some 99 := fun g => rfl
  have mo1 : ∀ g, f_X8_mostOf g (nI 1) = some 1 := fun g => by unfold f_X8_mostOf; rw [if_neg (by decide), if_neg (by decide)]
  have mo2 : ∀ g, f_X8_mostOf g (nI 2) = some 1 := fun g => by unfold f_X8_mostOf; rw [if_neg (by decide), if_neg (by decide)]
  have mo3 : ∀ g, f_X8_mostOf g (nI 3) = some 999 := fun g => by unfold f_X8_mostOf; rw [if_neg (by decide), if_pos (by decide)]
  rw [st0]
  obtain ⟨g1, G1, c1'⟩ := s_bk (lo := 1) (s35 := f_X8_isBargeHere_35 NN (K + 4)) (k := 0) hN M1 hb (by decide) (mo0 h1)
  rw [k1] at c1'
  have Fb := Fr_trans Fa (Bk_SM G1)
  rcases c1'.symm with ⟨n1, j1, v1⟩ | ⟨n1, j1, v1, P1, q1⟩
  · rw [j1, if_neg n1, if_neg n1]
    exact ⟨0, g1, rfl, Or.inl ⟨_, rfl, rfl, v1⟩, Fb⟩
  rw [j1, if_pos n1, if_pos n1, xV_r, xN_r, st1]
  obtain ⟨g2, G2, c2'⟩ := s_bk (lo := 0) (s35 := f_X8_isBargeHere_35 NN (K + 3)) (k := 1) hN P1 hb (by decide) (mo1 g1)
  rw [q1] at c2'
  have Fc := Fr_trans Fb (Bk_SM G2)
  rcases c2'.symm with ⟨n2, j2, v2⟩ | ⟨n2, j2, v2, P2, q2⟩
  · rw [j2, if_neg n2, if_neg n2]
    exact ⟨0, g2, rfl, Or.inl ⟨_, rfl, rfl, v2⟩, Fc⟩
  rw [j2, if_pos n2, if_pos n2, xV_r, xN_r, st2]
  obtain ⟨g3, G3, c3'⟩ := s_bk (lo := 0) (s35 := f_X8_isBargeHere_35 NN (K + 2)) (k := 2) hN P2 hb (by decide) (mo2 g2)
  rw [q2] at c3'
  have Fd := Fr_trans Fc (Bk_SM G3)
  rcases c3'.symm with ⟨n3, j3, v3⟩ | ⟨n3, j3, v3, P3, q3⟩
  · rw [j3, if_neg n3, if_neg n3]
    exact ⟨0, g3, rfl, Or.inl ⟨_, rfl, rfl, v3⟩, Fd⟩
  rw [j3, if_pos n3, if_pos n3, xV_r, xN_r, st3]
  obtain ⟨g4, G4, c4'⟩ := s_bk (lo := 0) (s35 := f_X8_isBargeHere_35 NN (K + 1)) (k := 3) hN P3 hb (by decide) (mo3 g3)
  rw [q3] at c4'
  have Fe := Fr_trans Fd (Bk_SM G4)
  rcases c4'.symm with ⟨n4, j4, v4⟩ | ⟨n4, j4, v4, P4, q4⟩
  · rw [j4, if_neg n4, if_neg n4]
    exact ⟨0, g4, rfl, Or.inl ⟨_, rfl, rfl, v4⟩, Fe⟩
  rw [j4, if_pos n4, if_pos n4, st4, P4.2.2.2.2.2.1, nI_1]
  have F3 : Fr (fun a j => a = 51 ∧ j = 8) g4 (sI g4 51 8 (nI (bgs α + 1))) := Fr_sI _ _ _ _ ⟨rfl, rfl⟩
  have w3 : hI (sI g4 51 8 (nI (bgs α + 1))) 51 8 = nI (bgs α + 1) := by rw [hI_sI, if_pos ⟨rfl, rfl⟩]
  generalize sI g4 51 8 (nI (bgs α + 1)) = g5 at F3 w3 ⊢
  refine ⟨1, g5, rfl, Or.inr ⟨_, rfl, rfl, dge t n (nt t n (nt t n (nt t n (nt t n s)))), q4, ?_⟩, Fr_trans Fe (Fr_mono F3 (fun a j z => Or.inl ⟨z.1, by omega⟩))⟩
  obtain ⟨T, m1, m2, m3, m7, m8, m9, m11, m10, m57, m58⟩ := P4
  refine ⟨TM_Fr F3 (fun z => by omega) (fun z => by omega) (fun i z => by omega) T, by rw [F3.2.2.2 51 15 (fun z => by omega)]; exact m1, by rw [F3.2.2.2 51 17 (fun z => by omega)]; exact m2, by rw [F3.2.2.2 51 20 (fun z => by omega)]; exact m3, ?_⟩
  generalize nmv t n (nt t n s) = a1 at *
  generalize nmv t n (nt t n (nt t n s)) = a2 at *
  generalize nmv t n (nt t n (nt t n (nt t n s))) = a3 at *
  generalize nmv t n (nt t n (nt t n (nt t n (nt t n s)))) = a4 at *
  show DM g5 (bgY α a1 a2 a3 a4) lg bk
  have lv : lvl (bgY α a1 a2 a3 a4) = lvl α := by unfold lvl; rw [bgY_0 _ _ _ _ (by decide)]
  have bg : bgs (bgY α a1 a2 a3 a4) = bgs α + 1 := by show (bgY α a1 a2 a3 a4 0 1).toNatClampNeg = _; rw [bgY_01, nI_clamp (by omega)]
  unfold DM
  rw [lv, bg, bgY_0 _ _ _ _ (by decide), bgY_o _ _ _ _ (by decide) (by decide) (by decide) (by decide) (by decide) (by decide), bgY_o _ _ _ _ (by decide) (by decide) (by decide) (by decide) (by decide) (by decide), bgY_o _ _ _ _ (by decide) (by decide) (by decide) (by decide) (by decide) (by decide), bgY_6, bgY_7, bgY_8, bgY_9]
  refine ⟨by rw [F3.2.2.2 51 7 (fun z => by omega)]; exact m7, w3, by rw [F3.2.2.2 51 9 (fun z => by omega)]; exact m9, ?_, by rw [F3.2.2.2 51 10 (fun z => by omega)]; exact m10, by rw [Fr_row F3 (fun j z => by omega)]; exact m57, fun b hb' => ?_⟩
  · rw [F3.2.2.2 51 11 (fun z => by omega), m11, decide_eq_true (show 0 < bgs α + 1 by omega), Bool.or_true, Bool.true_or]
  · rw [Fr_row F3 (x := 58) (fun j z => by omega)]
    by_cases e : b = bgs α
    · subst e
      rw [upd_s, upd_s, upd_s, upd_s]
      refine ⟨?_, ?_, ?_, v4⟩
      · rw [G4.2.2.2 58 _ (fun z => by unfold PBk PNm at z; omega), G3.2.2.2 58 _ (fun z => by unfold PBk PNm at z; omega), G2.2.2.2 58 _ (fun z => by unfold PBk PNm at z; omega)]; exact v1
      · rw [G4.2.2.2 58 _ (fun z => by unfold PBk PNm at z; omega), G3.2.2.2 58 _ (fun z => by unfold PBk PNm at z; omega)]; exact v2
      · rw [G4.2.2.2 58 _ (fun z => by unfold PBk PNm at z; omega)]; exact v3
    · rw [upd_o _ _ e, upd_o _ _ e, upd_o _ _ e, upd_o _ _ e]
      exact m58 b (by omega)
