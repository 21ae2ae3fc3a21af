/-! ===== texts: the class's stair ===== -/
theorem Dm_c1 {α : SA} {k i : Nat} {v : Int32} (h : k ≠ 0 ∨ (i ≠ 0 ∧ i ≠ 1 ∧ i ≠ 7)) (D : Dm α) : Dm (c1 α k i v) ∧ lvl (c1 α k i v) = lvl α ∧ bgs (c1 α k i v) = bgs α := by
  have q : ∀ j, j = 0 ∨ j = 1 ∨ j = 7 → c1 α k i v 0 j = α 0 j := fun j hj => by
    by_cases c : k = 0
    · subst c; rw [c1_e _ _ (by omega)]
    · rw [c1_o _ _ _ (fun z => c z.symm)]
  have e0 := q 0 (by decide)
  have e1 := q 1 (by decide)
  have e7 := q 7 (by decide)
  have l : lvl (c1 α k i v) = lvl α := by unfold lvl; rw [e0]
  have b : bgs (c1 α k i v) = bgs α := by unfold bgs; rw [e1]
  have k' : bks (c1 α k i v) = bks α := by unfold bks; rw [e7]
  refine ⟨?_, l, b⟩
  unfold Dm
  rw [l, b, k', e0, e1, e7]
  exact D
theorem c_lag {N n : Nat} {t : TY} {h : Hp} {α : SA} {lg bk : Bool} {x : XT0} (hN : 5000 ≤ N) (D : DC t n h α lg bk x) : ∃ h', f_X4_readLag N h 29 1 = some h' ∧ DC t n h' (c1 α 0 2 (xV t n 0 20 (xA t n x))) true bk (xN t n 0 20 (xA t n x)) ∧ Fr PSC h h' := by
  obtain ⟨A, Dm0, d2, d3, T⟩ := D
  have H := TX_S T
  unfold f_X4_readLag
  rw [if_neg (by decide), pp_29_0 H, bs]
  obtain ⟨h1, i1, T1, F1⟩ := g_adv hN T
  have A1 : Ac h1 15 α := Fr_Ac F1 (fun a j h1 h2 z => by unfold PT at z; omega) A
  rw [i1, bs, lts]
  have F2 : Fr (fun a j => a = 29 ∧ j = 2) h1 (sI h1 29 2 1) := Fr_sI _ _ _ _ ⟨rfl, rfl⟩
  have q2 : hI (sI h1 29 2 1) 29 2 = 1 := by rw [hI_sI, if_pos ⟨rfl, rfl⟩]
  generalize sI h1 29 2 1 = h2 at F2 q2 ⊢
  have T2 := TX_Fr F2 (fun j => ⟨by omega, by omega⟩) T1
  have A2 := Fr_Ac F2 (fun a j h1 h2 z => by omega) A1
  rw [pp_29_1 (TX_S T2), bs]
  obtain ⟨h3, i3, T3, F3⟩ := g_num (lo := 0) (hi := 20) hN (by decide) T2
  have A3 := Fr_Ac F3 (fun a j h1 h2 z => by unfold PT at z; omega) A2
  rw [i3, b2s, lts]
  obtain ⟨h4, e4, A4, T4, F4, r4⟩ := dr_w A3 T3 0 2 (xV t n 0 20 (xA t n x)) (by decide)
  have e4' : sI h3 15 2 (xV t n 0 20 (xA t n x)) = h4 := e4
  rw [e4']
  have F := Fr_trans (PT_SC F1) (Fr_trans (Fr_mono F2 (fun a j z => Or.inr (Or.inr z.1))) (Fr_trans (PT_SC F3) F4))
  refine ⟨h4, rfl, ⟨A4, (Dm_c1 (by omega) Dm0).1, ?_, ?_, T4⟩, F⟩
  · rw [r4, F3.2.2.2 29 2 (fun z => by unfold PT at z; omega)]; exact q2
  · rw [r4, F3.2.2.2 29 3 (fun z => by unfold PT at z; omega), F2.2.2.2 29 3 (fun z => by omega), F1.2.2.2 29 3 (fun z => by unfold PT at z; omega)]; exact d3
theorem c_brk {N n : Nat} {t : TY} {h : Hp} {α : SA} {lg bk : Bool} {x : XT0} (hN : 5000 ≤ N) (D : DC t n h α lg bk x) (h2 : 2 ≤ lvl α) : ∃ h', f_X4_readBroken N h 29 1 = some h' ∧ DC t n h' (c1 α 3 (xV t n 0 (nI (lvl α - 2)) (xA t n x)).toNatClampNeg 0) lg true (xN t n 0 (nI (lvl α - 2)) (xA t n x)) ∧ Fr PSC h h' := by
  obtain ⟨A, Dm0, d2, d3, T⟩ := D
  have H := TX_S T
  unfold f_X4_readBroken
  rw [if_neg (by decide), pp_29_0 H, bs]
  obtain ⟨h1, i1, T1, F1⟩ := g_adv hN T
  have A1 : Ac h1 15 α := Fr_Ac F1 (fun a j h1 h2 z => by unfold PT at z; omega) A
  rw [i1, bs, lts]
  have F2 : Fr (fun a j => a = 29 ∧ j = 3) h1 (sI h1 29 3 1) := Fr_sI _ _ _ _ ⟨rfl, rfl⟩
  have q2 : hI (sI h1 29 3 1) 29 3 = 1 := by rw [hI_sI, if_pos ⟨rfl, rfl⟩]
  generalize sI h1 29 3 1 = h2 at F2 q2 ⊢
  have T2 := TX_Fr F2 (fun j => ⟨by omega, by omega⟩) T1
  have A2 := Fr_Ac F2 (fun a j h1 h2 z => by omega) A1
  have hl8 := Dm0.2.2.2.1
  have z0 : hI h2 15 0 - 2 = nI (lvl α - 2) := by rw [ac_0 A2 (by decide), Dm0.1, n_2, pk_sub (by omega)]
  rw [pp_29_1 (TX_S T2), bs, z0]
  obtain ⟨h3, i3, T3, F3⟩ := g_num (lo := 0) (hi := nI (lvl α - 2)) hN (by decide) T2
  have A3 := Fr_Ac F3 (fun a j h1 h2 z => by unfold PT at z; omega) A2
  have rng : 0 ≤ xV t n 0 (nI (lvl α - 2)) (xA t n x) ∧ xV t n 0 (nI (lvl α - 2)) (xA t n x) ≤ nI (lvl α - 2) := by
    cases xA t n x with
    | inl f => exact ⟨show (0 : Int32) ≤ 0 by decide, nI_le (a := 0) (by omega) (by omega)⟩
    | inr s =>
      rw [xV_r]
      by_cases c : nok t n s 0 (nI (lvl α - 2))
      · rw [if_pos c]; exact ⟨c.2.2.2.1, c.2.2.2.2⟩
      · rw [if_neg c]; exact ⟨by decide, nI_le (a := 0) (by omega) (by omega)⟩
  obtain ⟨m, m1, m2⟩ := i_nat (Int32.not_lt.mpr rng.1)
  have m8 : m < 8 := by
    by_cases c : m < 8
    · exact c
    · have := rng.2
      rw [m2] at this
      exact absurd this (nI_ge (by omega) (by omega))
  rw [i3, b2s, pp_29_1 (TX_S T3), bs, ac_p10 A3, bs, ac_l3 A3, m2, if_inI m8 m1, lts]
  obtain ⟨h4, e4, A4, T4, F4, r4⟩ := dr_w A3 T3 3 (nI m).toNatClampNeg 0 (by decide)
  rw [e4]
  have F := Fr_trans (PT_SC F1) (Fr_trans (Fr_mono F2 (fun a j z => Or.inr (Or.inr z.1))) (Fr_trans (PT_SC F3) F4))
  refine ⟨h4, rfl, ⟨A4, (Dm_c1 (by omega) Dm0).1, ?_, ?_, T4⟩, F⟩
  · rw [r4, F3.2.2.2 29 2 (fun z => by unfold PT at z; omega), F2.2.2.2 29 2 (fun z => by omega), F1.2.2.2 29 2 (fun z => by unfold PT at z; omega)]; exact d2
  · rw [r4, F3.2.2.2 29 3 (fun z => by unfold PT at z; omega)]; exact q2
def bgX (α : SA) (v1 v2 v3 v4 : Int32) : SA := c1 (c1 (c1 (c1 (c1 α 6 (bgs α) v1) 7 (bgs α) v2) 8 (bgs α) v3) 9 (bgs α) v4) 0 1 (nI (bgs α + 1))
def bgY (α : SA) (v1 v2 v3 v4 : Int32) : SA := sr (bgX α v1 v2 v3 v4) 5 (upd (bgX α v1 v2 v3 v4 5) (bgs α) (if bgX α v1 v2 v3 v4 8 (bgs α) = 0 then 0 else bgX α v1 v2 v3 v4 0 0 - 1))
theorem bgX_dm {α : SA} (D : Dm α) (h6 : bgs α < 6) (v1 v2 v3 v4 : Int32) : Dm (bgX α v1 v2 v3 v4) ∧ lvl (bgX α v1 v2 v3 v4) = lvl α ∧ bgs (bgX α v1 v2 v3 v4) = bgs α + 1 := by
  have q : ∀ j, j ≠ 1 → bgX α v1 v2 v3 v4 0 j = α 0 j := fun j hj => by
    unfold bgX
    rw [c1_e _ _ hj, c1_o _ _ _ (by decide), c1_o _ _ _ (by decide), c1_o _ _ _ (by decide), c1_o _ _ _ (by decide)]
  have q1 : bgX α v1 v2 v3 v4 0 1 = nI (bgs α + 1) := by unfold bgX; rw [c1_s]
  have l : lvl (bgX α v1 v2 v3 v4) = lvl α := by unfold lvl; rw [q 0 (by decide)]
  have b : bgs (bgX α v1 v2 v3 v4) = bgs α + 1 := by show (bgX α v1 v2 v3 v4 0 1).toNatClampNeg = _; rw [q1, nI_clamp (by omega)]
  have k' : bks (bgX α v1 v2 v3 v4) = bks α := by unfold bks; rw [q 7 (by decide)]
  obtain ⟨m1, m2, m3, m4, m5, m6⟩ := D
  refine ⟨⟨?_, ?_, ?_, by omega, by omega, by omega⟩, l, b⟩
  · rw [l, q 0 (by decide)]; exact m1
  · rw [b]; exact q1
  · rw [k', q 7 (by decide)]; exact m3
theorem Dm_sr5 {α : SA} (D : Dm α) (f : Nat → Int32) : Dm (sr α 5 f) := by
  unfold Dm lvl bgs bks
  rw [sr_o _ _ (by decide)]
  exact D
theorem c_bar {N n : Nat} {t : TY} {h : Hp} {α : SA} {lg bk : Bool} {x x1 x2 x3 x4 : XT0} {v1 v2 v3 v4 : Int32} (hN : 5000 ≤ N) (D : DC t n h α lg bk x) (h6 : bgs α < 6) (w1 : v1 = xV t n 1 99 (xA t n x)) (y1 : x1 = xN t n 1 99 (xA t n x)) (w2 : v2 = xV t n 0 1 x1) (y2 : x2 = xN t n 0 1 x1) (w3 : v3 = xV t n 0 1 x2) (y3 : x3 = xN t n 0 1 x2) (w4 : v4 = xV t n 0 999 x3) (y4 : x4 = xN t n 0 999 x3) : ∃ h', f_X4_readBarge N h 29 1 = some h' ∧ DC t n h' (bgY α v1 v2 v3 v4) lg bk x4 ∧ Fr PSC h h' := by
  obtain ⟨A, Dm0, d2, d3, T⟩ := D
  have H := TX_S T
  unfold f_X4_readBarge
  rw [if_neg (by decide), pp_29_0 H, bs]
  obtain ⟨g1, i1, T1, F1⟩ := g_adv hN T
  have A1 : Ac g1 15 α := Fr_Ac F1 (fun a j h1 h2 z => by unfold PT at z; omega) A
  have zb : hI g1 15 1 = nI (bgs α) := by rw [ac_0 A1 (by decide)]; exact Dm0.2.1
  rw [i1, bs, pp_29_1 (TX_S T1), bs, bs, ac_p13 A1, bs]
  obtain ⟨g2, i2, T2, F2⟩ := g_num (lo := 1) (hi := 99) hN (by decide) T1
  rw [← w1] at i2
  rw [← y1] at T2
  have A2 := Fr_Ac F2 (fun a j h1 h2 z => by unfold PT at z; omega) A1
  rw [i2, b2s, zb, ac_l6 A2, if_inI (by omega) (by omega), lts, nI_clamp (by omega)]
  obtain ⟨g3, e3, A3, T3, F3, r3⟩ := dr_w A2 T2 6 (bgs α) v1 (by decide)
  rw [e3, pp_29_1 (TX_S T3), bs, ac_p14 A3, bs]
  obtain ⟨g4, i4, T4, F4⟩ := g_num (lo := 0) (hi := 1) hN (by decide) T3
  rw [← w2] at i4
  rw [← y2] at T4
  have A4 := Fr_Ac F4 (fun a j h1 h2 z => by unfold PT at z; omega) A3
  rw [i4, b2s, ac_l7 A4, if_pos ⟨nI_pos' (by omega), by omega⟩, lts]
  obtain ⟨g5, e5, A5, T5, F5, r5⟩ := dr_w A4 T4 7 (bgs α) v2 (by decide)
  rw [e5, pp_29_1 (TX_S T5), bs, ac_p15 A5, bs]
  obtain ⟨g6, i6, T6, F6⟩ := g_num (lo := 0) (hi := 1) hN (by decide) T5
  rw [← w3] at i6
  rw [← y3] at T6
  have A6 := Fr_Ac F6 (fun a j h1 h2 z => by unfold PT at z; omega) A5
  rw [i6, b2s, ac_l8 A6, if_pos ⟨nI_pos' (by omega), by omega⟩, lts]
  obtain ⟨g7, e7, A7, T7, F7, r7⟩ := dr_w A6 T6 8 (bgs α) v3 (by decide)
  rw [e7, pp_29_1 (TX_S T7), bs, ac_p16 A7, bs]
  obtain ⟨g8, i8, T8, F8⟩ := g_num (lo := 0) (hi := 999) hN (by decide) T7
  rw [← w4] at i8
  rw [← y4] at T8
  have A8 := Fr_Ac F8 (fun a j h1 h2 z => by unfold PT at z; omega) A7
  rw [i8, b2s, ac_l9 A8, if_pos ⟨nI_pos' (by omega), by omega⟩, lts]
  obtain ⟨g9, e9, A9, T9, F9, r9⟩ := dr_w A8 T8 9 (bgs α) v4 (by decide)
  have zc : hI g9 15 1 = nI (bgs α) := by rw [ac_0 A9 (by decide), c1_o _ _ _ (by decide), c1_o _ _ _ (by decide), c1_o _ _ _ (by decide), c1_o _ _ _ (by decide)]; exact Dm0.2.1
  rw [e9, pp_29_1 (TX_S T9), bs, lts, zc, nI_1]
  obtain ⟨ga, ea, Aa, Ta, Fa, ra⟩ := dr_w A9 T9 0 1 (nI (bgs α + 1)) (by decide)
  have ea' : sI g9 15 1 (nI (bgs α + 1)) = ga := ea
  have Aa' : Ac ga 15 (bgX α v1 v2 v3 v4) := Aa
  obtain ⟨D1, l1, b1⟩ := bgX_dm Dm0 h6 v1 v2 v3 v4
  obtain ⟨gb, eb, Ab, Fb⟩ := c_putB (b := bgs α) Aa' D1 (by omega)
  rw [ea', pp_29_1 (TX_S Ta), bs, eb, bs]
  have Tb := TX_Fr Fb (fun j => ⟨fun z => by unfold PS at z; omega, fun z => by unfold PS at z; omega⟩) Ta
  have Fb' : Fr PSC ga gb := Fr_mono Fb (fun a j z => Or.inr (Or.inl (by unfold PS at z; omega)))
  have F := Fr_trans (PT_SC F1) (Fr_trans (PT_SC F2) (Fr_trans F3 (Fr_trans (PT_SC F4) (Fr_trans F5 (Fr_trans (PT_SC F6) (Fr_trans F7 (Fr_trans (PT_SC F8) (Fr_trans F9 (Fr_trans Fa Fb')))))))))
  have r29 : ∀ j, hI gb 29 j = hI h 29 j := fun j => by
    rw [Fb.2.2.2 29 j (fun z => by unfold PS at z; omega), ra, r9, F8.2.2.2 29 j (fun z => by unfold PT at z; omega), r7, F6.2.2.2 29 j (fun z => by unfold PT at z; omega), r5, F4.2.2.2 29 j (fun z => by unfold PT at z; omega), r3, F2.2.2.2 29 j (fun z => by unfold PT at z; omega), F1.2.2.2 29 j (fun z => by unfold PT at z; omega)]
  exact ⟨gb, rfl, ⟨Ab, Dm_sr5 D1 _, by rw [r29]; exact d2, by rw [r29]; exact d3, Tb⟩, F⟩
