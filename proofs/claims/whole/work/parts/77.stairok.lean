/-! ===== the stair, both ===== -/
theorem c_stair {N n : Nat} {t : TY} {h : Hp} {γ : SA} {Z : ZS} (hN : 5000 ≤ N) (H : SHP h) (A3 : Ac h 3 γ) (e2 : hI h 2 = t) (e1 : hI h 1 1 = nI n) (hn : n ≤ 400) (hZ : Z = zLp t n 33 (clr (fun k i => hI h (15 + k) i)) false false (.inr (skp t n 0))) : ∃ h', (∀ f, zEd Z = .inl f → f_X7_stair N h 0 = some (-2 - f, h') ∧ Ac h' 3 γ ∧ Fr (fun a j => PSC a j ∨ (a = 1 ∧ j = 1)) h h') ∧ (∀ s, zEd Z = .inr s → f_X7_stair N h 0 = some (Z.1 0 0, h') ∧ Ac h' 3 (put Z.1 γ) ∧ hI h' 32 15 = -2 ∧ Fr (fun a j => PSC a j ∨ (a = 1 ∧ j = 1) ∨ (3 ≤ a ∧ a ≤ 14) ∨ (a = 32 ∧ j = 15)) h h') ∧ hI h' 1 1 = 0 := by
  have A15 : Ac h 15 (fun k i => hI h (15 + k) i) := ⟨st_15 H, fun k i _ _ => rfl⟩
  obtain ⟨h1, i1, A1, D1, F1⟩ := c_read hN H A15 e2 e1 hn
  have Zi := zLp_inv (t := t) hn 33 (clr (fun k i => hI h (15 + k) i)) false false (.inr (skp t n 0)) (ZI_clr _) (sc_le (Nat.zero_le n)) (fun _ => rfl)
  rw [← hZ] at i1 A1 D1 Zi
  have g := zEd_gx hn Zi.2.1
  have H1 := Fr_SHP F1 H
  have F2 : Fr (fun a j => a = 1 ∧ j = 1) h1 (sI h1 1 1 0) := Fr_sI _ _ _ _ ⟨rfl, rfl⟩
  have q2 : hI (sI h1 1 1 0) 1 1 = 0 := by rw [hI_sI, if_pos ⟨rfl, rfl⟩]
  have e7 : f_X7_stair N h 0 = (fun h5 => if xE (zEd Z) = 0 then (Option.bind (hP h5 0 2) (fun q7 => Option.bind (hP h5 0 1) (fun q8 => lt (sI h5 q7 5 (hI h5 q8 5)) (fun h9 => Option.bind (hP h9 0 2) (fun q10 => Option.bind (hP h9 0 1) (fun q11 => lt (sI h9 q10 6 (hI h9 q11 6)) (fun h12 => Option.bind (hP h12 0 1) (fun q13 => Option.bind (hP h12 0 2) (fun q14 => Option.bind (f_X5_copyFrom h12 q13 q14) (fun h15 => Option.bind (hP h15 0 8) (fun q16 => Option.bind (f_X3_forget h15 q16) (fun h17 => Option.bind (hP h17 0 1) (fun q18 => some ((hI h17 q18 0, h17))))))))))))))) else (some (((-2 : Int32) - xE (zEd Z), h5)))) (sI h1 1 1 0) := by
    unfold f_X7_stair
    rw [pp_0_6 H, bs, i1, b2s, pp_0_0 H1, bs, lts]
  generalize sI h1 1 1 0 = h2 at F2 q2 e7
  have e7' : f_X7_stair N h 0 = if xE (zEd Z) = 0 then (Option.bind (hP h2 0 2) (fun q7 => Option.bind (hP h2 0 1) (fun q8 => lt (sI h2 q7 5 (hI h2 q8 5)) (fun h9 => Option.bind (hP h9 0 2) (fun q10 => Option.bind (hP h9 0 1) (fun q11 => lt (sI h9 q10 6 (hI h9 q11 6)) (fun h12 => Option.bind (hP h12 0 1) (fun q13 => Option.bind (hP h12 0 2) (fun q14 => Option.bind (f_X5_copyFrom h12 q13 q14) (fun h15 => Option.bind (hP h15 0 8) (fun q16 => Option.bind (f_X3_forget h15 q16) (fun h17 => Option.bind (hP h17 0 1) (fun q18 => some ((hI h17 q18 0, h17))))))))))))))) else (some (((-2 : Int32) - xE (zEd Z), h2))) := e7
  clear e7
  have F12 : Fr (fun a j => PSC a j ∨ (a = 1 ∧ j = 1)) h h2 := Fr_trans (Fr_mono F1 (fun a j z => Or.inl z)) (Fr_mono F2 (fun a j z => Or.inr z))
  have H2 := Fr_SHP F12 H
  have B3 : Ac h2 3 γ := Fr_Ac F12 (fun a j h1 h2 z => by unfold PSC at z; omega) A3
  have B15 : Ac h2 15 Z.1 := Fr_Ac F2 (fun a j h1 h2 z => by omega) A1
  cases hE : zEd Z with
  | inl f =>
    rw [hE] at g e7'
    have fne : f ≠ 0 := g
    refine ⟨h2, fun f' hf => ?_, fun s hs => (by cases hs), q2⟩
    have ff : f = f' := by injection hf
    subst ff
    refine ⟨?_, B3, F12⟩
    rw [e7', if_neg (show ¬ xE (.inl f) = 0 from fne)]
    rfl
  | inr s =>
    rw [hE] at e7'
    rw [if_pos (show xE (.inr s) = 0 from rfl), pp_0_2 H2, bs, pp_0_1 H2, bs, ac_0 B3 (by decide), lts] at e7'
    have C1 : Ac (sI h2 15 5 (γ 0 5)) 15 (c1 Z.1 0 5 (γ 0 5)) := ac_w B15 0 5 (γ 0 5)
    have G1 : Fr (fun a j => a = 15) h2 (sI h2 15 5 (γ 0 5)) := Fr_sI _ _ _ _ rfl
    generalize sI h2 15 5 (γ 0 5) = h3 at C1 G1 e7'
    have B3' : Ac h3 3 γ := Fr_Ac G1 (fun a j h1 h2 z => by omega) B3
    have H3 := Fr_SHP G1 H2
    rw [pp_0_2 H3, bs, pp_0_1 H3, bs, ac_0 B3' (by decide), lts] at e7'
    have C2 : Ac (sI h3 15 6 (γ 0 6)) 15 (put Z.1 γ) := ac_w C1 0 6 (γ 0 6)
    have G2 : Fr (fun a j => a = 15) h3 (sI h3 15 6 (γ 0 6)) := Fr_sI _ _ _ _ rfl
    generalize sI h3 15 6 (γ 0 6) = h4 at C2 G2 e7'
    have H4 := Fr_SHP G2 H3
    obtain ⟨h5, k1, C3, G3⟩ := c_copy (s0 := 3) (s1 := 15) (Or.inl (by decide)) C2 (st_3 H4)
    have H5 := Fr_SHP G3 H4
    rw [pp_0_1 H4, bs, pp_0_2 H4, bs, k1, bs, pp_0_8 H5, bs, forget_e, bs] at e7'
    have G4 : Fr (fun a j => a = 32 ∧ j = 15) h5 (sI h5 32 15 (-2)) := Fr_sI _ _ _ _ ⟨rfl, rfl⟩
    have q4 : hI (sI h5 32 15 (-2)) 32 15 = -2 := by rw [hI_sI, if_pos ⟨rfl, rfl⟩]
    generalize sI h5 32 15 (-2) = h6 at G4 q4 e7'
    have C4 : Ac h6 3 (put Z.1 γ) := Fr_Ac G4 (fun a j h1 h2 z => by omega) C3
    rw [pp_0_1 (Fr_SHP G4 H5), bs, ac_0 C4 (by decide), put_0 _ _ (by decide) (by decide)] at e7'
    have q11 : hI h6 1 1 = 0 := by rw [G4.2.2.2 1 1 (fun z => by omega), G3.2.2.2 1 1 (fun z => by unfold PS at z; omega), G2.2.2.2 1 1 (fun z => by omega), G1.2.2.2 1 1 (fun z => by omega)]; exact q2
    refine ⟨h6, fun f' hf => (by cases hf), fun s' hs' => ⟨e7', C4, q4, ?_⟩, q11⟩
    refine Fr_trans (Fr_mono F12 (fun a j z => z.elim (fun y => Or.inl y) (fun y => Or.inr (Or.inl y)))) (Fr_trans (Fr_mono G1 (fun a j z => Or.inl (Or.inr (Or.inl (by omega))))) (Fr_trans (Fr_mono G2 (fun a j z => Or.inl (Or.inr (Or.inl (by omega))))) (Fr_trans (Fr_mono G3 (fun a j z => Or.inr (Or.inr (Or.inl (by unfold PS at z; omega))))) (Fr_mono G4 (fun a j z => Or.inr (Or.inr (Or.inr z)))))))
theorem m_taken {N : Nat} {h : Hp} {α γ : SA} {lg bk : Bool} (hN : 5000 ≤ N) (H : SHP h) (D : DM h α lg bk) (Z : ZI α) (hlg : lg = false → α 0 2 = 0) (S : Sd (hI h 62) γ) : ∃ h', f_X8_stair_56 N N h 51 (hI h 62 7) 0 = some (nI (lvl α), h') ∧ Sd (hI h' 62) (put α γ) ∧ Fr (fun a _ => a = 62) h h' := by
  obtain ⟨a1, a2, a3, a4, a5, a6, a7, a8, a9, a10, a11⟩ := Z
  obtain ⟨d7, d8, d9, d11, d10, d57, d58⟩ := D
  have hl8 := a1.2.2.2.1
  have hb6 := a1.2.2.2.2.1
  have s8 : hI h 62 8 = γ 0 5 := S.1 0 5 (by decide : 5 < 8)
  have s7 : hI h 62 7 = γ 0 6 := S.1 0 6 (by decide : 6 < 8)
  rw [s7]
  obtain ⟨h1, k1, i1, F1, z1⟩ := m_cl56 (N := N) (v := γ 0 6) 93 0 N h (by omega) (by omega) H (Fr_refl h) (fun j hj => absurd hj (Nat.not_lt_zero j))
  have i1' : f_X8_stair_56 N N h 51 (γ 0 6) 0 = f_X8_stair_56 N (k1 + 1) h1 51 (γ 0 6) (nI 93) := i1
  rw [i1', f_X8_stair_56, if_pos (show (93 : Int32) ≤ nI 93 by decide)]
  have H1 := Fr_SHP F1 H
  have t51 : ∀ j, hI h1 51 j = hI h 51 j := fun j => F1.2.2.2 51 j (fun z => by omega)
  rw [pp_51_26 H1, bs, ll_62 H1, if_pos (show 0 < 93 by decide), lts, t51, d7]
  have G1 : Fr (fun a j => a = 62 ∧ j = 0) h1 (sI h1 62 0 (nI (lvl α))) := Fr_sI _ _ _ _ ⟨rfl, rfl⟩
  have q0 : hI (sI h1 62 0 (nI (lvl α))) 62 0 = nI (lvl α) := by rw [hI_sI, if_pos ⟨rfl, rfl⟩]
  generalize sI h1 62 0 (nI (lvl α)) = h2 at G1 q0 ⊢
  have H2 := Fr_SHP G1 H1
  rw [pp_51_26 H2, bs, ll_62 H2, if_pos (show 1 < 93 by decide), lts, G1.2.2.2 51 8 (fun z => by omega), t51, d8]
  have G2 : Fr (fun a j => a = 62 ∧ j = 1) h2 (sI h2 62 1 (nI (bgs α))) := Fr_sI _ _ _ _ ⟨rfl, rfl⟩
  have q1 : hI (sI h2 62 1 (nI (bgs α))) 62 1 = nI (bgs α) := by rw [hI_sI, if_pos ⟨rfl, rfl⟩]
  generalize sI h2 62 1 (nI (bgs α)) = h3 at G2 q1 ⊢
  have H3 := Fr_SHP G2 H2
  have e9 : hI h3 51 9 = (if lg = true then α 0 2 else -1) := by rw [G2.2.2.2 51 9 (fun z => by omega), G1.2.2.2 51 9 (fun z => by omega), t51]; exact d9
  have lgv : (if 0 ≤ hI h3 51 9 then f_X8_stair_121 N h3 51 (γ 0 6) (hI h3 51 9) 2 62 else f_X8_stair_121 N h3 51 (γ 0 6) 0 2 62) = f_X8_stair_121 N h3 51 (γ 0 6) (α 0 2) 2 62 := by
    rw [e9]
    cases lg with
    | true =>
      obtain ⟨g, g1, g2⟩ := a7
      rw [if_pos rfl, if_pos (show 0 ≤ α 0 2 by rw [g2]; exact nI_pos' (by omega))]
    | false => rw [if_neg (show ¬ (false = true) by decide), if_neg (by decide), hlg rfl]
  rw [pp_51_26 H3, bs, lgv]
  unfold f_X8_stair_121
  rw [ll_62 H3, if_pos (by decide), lts, show (2 : Int32).toNatClampNeg = 2 from rfl]
  have G3 : Fr (fun a j => a = 62 ∧ j = 2) h3 (sI h3 62 2 (α 0 2)) := Fr_sI _ _ _ _ ⟨rfl, rfl⟩
  have q2 : hI (sI h3 62 2 (α 0 2)) 62 2 = α 0 2 := by rw [hI_sI, if_pos ⟨rfl, rfl⟩]
  generalize sI h3 62 2 (α 0 2) = h4 at G3 q2 ⊢
  have H4 := Fr_SHP G3 H3
  have e10 : hI h4 51 10 = hI h 51 10 := by rw [G3.2.2.2 51 10 (fun z => by omega), G2.2.2.2 51 10 (fun z => by omega), G1.2.2.2 51 10 (fun z => by omega), t51]
  rw [pp_51_26 H4, bs, ll_62 H4, if_pos (show 5 < 93 by decide), lts, e10]
  have G4 : Fr (fun a j => a = 62 ∧ j = 5) h4 (sI h4 62 5 (hI h 51 10)) := Fr_sI _ _ _ _ ⟨rfl, rfl⟩
  have q5 : hI (sI h4 62 5 (hI h 51 10)) 62 5 = hI h 51 10 := by rw [hI_sI, if_pos ⟨rfl, rfl⟩]
  generalize sI h4 62 5 (hI h 51 10) = h5 at G4 q5 ⊢
  have H5 := Fr_SHP G4 H4
  rw [pp_51_26 H5, bs, ll_62 H5, if_pos (show 7 < 93 by decide), lts]
  have G5 : Fr (fun a j => a = 62 ∧ j = 7) h5 (sI h5 62 7 (γ 0 6)) := Fr_sI _ _ _ _ ⟨rfl, rfl⟩
  have q7 : hI (sI h5 62 7 (γ 0 6)) 62 7 = γ 0 6 := by rw [hI_sI, if_pos ⟨rfl, rfl⟩]
  generalize sI h5 62 7 (γ 0 6) = h6 at G5 q7 ⊢
  have H6 := Fr_SHP G5 H5
  have GA : Fr (fun a j => a = 62 ∧ (j = 0 ∨ j = 1 ∨ j = 2 ∨ j = 5 ∨ j = 7)) h1 h6 := Fr_trans (Fr_mono G1 (fun a j z => ⟨z.1, by omega⟩)) (Fr_trans (Fr_mono G2 (fun a j z => ⟨z.1, by omega⟩)) (Fr_trans (Fr_mono G3 (fun a j z => ⟨z.1, by omega⟩)) (Fr_trans (Fr_mono G4 (fun a j z => ⟨z.1, by omega⟩)) (Fr_mono G5 (fun a j z => ⟨z.1, by omega⟩)))))
  have w0 : hI h6 62 0 = nI (lvl α) := by rw [G5.2.2.2 62 0 (fun z => by omega), G4.2.2.2 62 0 (fun z => by omega), G3.2.2.2 62 0 (fun z => by omega), G2.2.2.2 62 0 (fun z => by omega)]; exact q0
  have w1 : hI h6 62 1 = nI (bgs α) := by rw [G5.2.2.2 62 1 (fun z => by omega), G4.2.2.2 62 1 (fun z => by omega), G3.2.2.2 62 1 (fun z => by omega)]; exact q1
  have w2 : hI h6 62 2 = α 0 2 := by rw [G5.2.2.2 62 2 (fun z => by omega), G4.2.2.2 62 2 (fun z => by omega)]; exact q2
  have w5 : hI h6 62 5 = hI h 51 10 := by rw [G5.2.2.2 62 5 (fun z => by omega)]; exact q5
  have wz : ∀ j, j < 93 → j ≠ 0 → j ≠ 1 → j ≠ 2 → j ≠ 5 → j ≠ 7 → j ≠ 8 → hI h6 62 j = 0 := fun j hj c0 c1 c2 c5 c7 c8 => by rw [GA.2.2.2 62 j (fun z => by omega)]; exact z1 j hj c8
  have w8 : hI h6 62 8 = γ 0 5 := by rw [GA.2.2.2 62 8 (fun z => by omega), F1.2.2.2 62 8 (fun z => by omega)]; exact s8
  have ox : ∀ a j, a ≠ 62 → hI h6 a j = hI h a j := fun a j ha => by rw [GA.2.2.2 a j (fun z => ha z.1), F1.2.2.2 a j (fun z => ha z.1)]
  obtain ⟨h7, j1, F7, v7⟩ := m_142 (N := N) (L := lvl α) (h0 := h6) hl8 (2 * lvl α) 0 N h6 (by omega) (by omega) H6 (by rw [ox 51 7 (by decide)]; exact d7) (Fr_refl h6) (fun j hj => absurd hj (Nat.not_lt_zero j))
  have H7 := Fr_SHP F7 H6
  have j1' : f_X8_stair_142 N N h6 51 0 = f_X8_stair_175 N N h7 51 0 := j1
  obtain ⟨h8, j2, F8, v8⟩ := m_175 (N := N) (B := bgs α) (h0 := h7) hN hb6 (bgs α) 0 N h7 (by omega) (by omega) H7 (by rw [F7.2.2.2 51 8 (fun z => by omega), ox 51 8 (by decide)]; exact d8) (Fr_refl h7) (fun j hj => absurd hj (Nat.not_lt_zero j))
  have H8 := Fr_SHP F8 H7
  have j2' : f_X8_stair_175 N N h7 51 0 = f_X8_stair_232 N N h8 51 0 := j2
  obtain ⟨h9, j3, F9, v9⟩ := m_232 (N := N) (h0 := h8) 8 0 N h8 (by omega) (by omega) H8 (Fr_refl h8) (fun j hj => absurd hj (Nat.not_lt_zero j))
  have j3' : f_X8_stair_232 N N h8 51 0 = some (hI h8 51 7, h9) := j3
  have e517 : hI h8 51 7 = nI (lvl α) := by rw [F8.2.2.2 51 7 (fun z => by omega), F7.2.2.2 51 7 (fun z => by omega), ox 51 7 (by decide)]; exact d7
  rw [j1', j2', j3', e517]
  refine ⟨h9, rfl, ?_, Fr_trans (Fr_mono F1 (fun a j z => z.1)) (Fr_trans (Fr_mono GA (fun a j z => z.1)) (Fr_trans (Fr_mono F7 (fun a j z => z.1)) (Fr_trans (Fr_mono F8 (fun a j z => z.1)) (Fr_mono F9 (fun a j z => z.1)))))⟩
  have lo : ∀ j, j < 9 → hI h9 62 j = hI h6 62 j := fun j hj => by rw [F9.2.2.2 62 j (fun z => by omega), F8.2.2.2 62 j (fun z => by omega), F7.2.2.2 62 j (fun z => by omega)]
  have md : ∀ j, 9 ≤ j → j < 25 → hI h9 62 j = hI h7 62 j := fun j h1 h2 => by rw [F9.2.2.2 62 j (fun z => by omega), F8.2.2.2 62 j (fun z => by omega)]
  have up : ∀ j, 25 ≤ j → j < 55 → hI h9 62 j = hI h8 62 j := fun j h1 h2 => by rw [F9.2.2.2 62 j (fun z => by omega)]
  have o57 : ∀ j, hI h6 57 j = hI h 57 j := fun j => ox 57 j (by decide)
  have o58 : ∀ j, hI h7 58 j = hI h 58 j := fun j => by rw [F7.2.2.2 58 j (fun z => by omega)]; exact ox 58 j (by decide)
  have o70 : hI h7 62 0 = nI (lvl α) := by rw [F7.2.2.2 62 0 (fun z => by omega)]; exact w0
  obtain ⟨pl, pb, pk⟩ := put_l α γ
  have kb : bks α = 0 := by unfold bks; rw [a2]; rfl
  refine ⟨fun k i hi => ?_, fun l hl => ?_, fun k hk => ?_, fun b h1 h2 => ?_, fun l h1 h2 => ?_⟩
  · by_cases k0 : k = 0
    · subst k0
      have i8 : i < 8 := hi
      obtain rfl | rfl | rfl | rfl | rfl | rfl | rfl | rfl : i = 0 ∨ i = 1 ∨ i = 2 ∨ i = 3 ∨ i = 4 ∨ i = 5 ∨ i = 6 ∨ i = 7 := by omega
      · show hI h9 62 0 = _; rw [lo 0 (by decide), w0, put_0 _ _ (by decide) (by decide)]; exact a1.1.symm
      · show hI h9 62 1 = _; rw [lo 1 (by decide), w1, put_0 _ _ (by decide) (by decide)]; exact a1.2.1.symm
      · show hI h9 62 2 = _; rw [lo 2 (by decide), w2, put_0 _ _ (by decide) (by decide)]
      · show hI h9 62 3 = _; rw [lo 3 (by decide), wz 3 (by decide) (by decide) (by decide) (by decide) (by decide) (by decide) (by decide), put_0 _ _ (by decide) (by decide)]; exact a10.symm
      · show hI h9 62 4 = _; rw [lo 4 (by decide), wz 4 (by decide) (by decide) (by decide) (by decide) (by decide) (by decide) (by decide), put_0 _ _ (by decide) (by decide)]; exact a11.symm
      · show hI h9 62 8 = _; rw [lo 8 (by decide), w8, put_5]
      · show hI h9 62 7 = _; rw [lo 7 (by decide), q7, put_6]
      · show hI h9 62 6 = _; rw [lo 6 (by decide), wz 6 (by decide) (by decide) (by decide) (by decide) (by decide) (by decide) (by decide), put_0 _ _ (by decide) (by decide)]; exact a2.symm
    · rw [put_o _ _ k0]
      obtain rfl | rfl | rfl | rfl | rfl | rfl | rfl | rfl | rfl | k10 : k = 1 ∨ k = 2 ∨ k = 3 ∨ k = 4 ∨ k = 5 ∨ k = 6 ∨ k = 7 ∨ k = 8 ∨ k = 9 ∨ 10 ≤ k := by omega
      · have hi' : i < lvl α := by have : i < lvl (put α γ) := hi; omega
        show hI h9 62 (9 + 2 * i) = _
        rw [md _ (by omega) (by omega), v7 (2 * i) (by omega), o57]
        exact (d57 i hi').1
      · have hi' : i < lvl α := by have : i < lvl (put α γ) := hi; omega
        show hI h9 62 (10 + 2 * i) = _
        rw [md _ (by omega) (by omega), show 10 + 2 * i = 9 + (2 * i + 1) by omega, v7 (2 * i + 1) (by omega), o57]
        exact (d57 i hi').2
      · exact absurd hi (Nat.not_lt_zero i)
      · have hi' : i < lvl α := by have : i < lvl (put α γ) := hi; omega
        show hI h9 62 (55 + i) = _
        rw [v9 i (by omega)]
        exact (a5 i (by omega)).symm
      · have hi' : i < bgs α := by have : i < bgs (put α γ) := hi; omega
        show hI h9 62 (29 + 5 * i) = _
        rw [up _ (by omega) (by omega), (v8 i hi').2, o58, o70, (d58 i hi').2.2.1, a9 i hi', n_1, pk_sub (by have := a3 (by omega); omega)]
      · have hi' : i < bgs α := by have : i < bgs (put α γ) := hi; omega
        show hI h9 62 (25 + 5 * i) = _
        rw [up _ (by omega) (by omega), show hI h8 62 (25 + 5 * i) = hI h7 58 (4 * i) from (v8 i hi').1 0 (by decide), o58]
        exact (d58 i hi').1
      · have hi' : i < bgs α := by have : i < bgs (put α γ) := hi; omega
        show hI h9 62 (26 + 5 * i) = _
        rw [up _ (by omega) (by omega), show 26 + 5 * i = 25 + 5 * i + 1 by omega, (v8 i hi').1 1 (by decide), o58]
        exact (d58 i hi').2.1
      · have hi' : i < bgs α := by have : i < bgs (put α γ) := hi; omega
        show hI h9 62 (27 + 5 * i) = _
        rw [up _ (by omega) (by omega), show 27 + 5 * i = 25 + 5 * i + 2 by omega, (v8 i hi').1 2 (by decide), o58]
        exact (d58 i hi').2.2.1
      · have hi' : i < bgs α := by have : i < bgs (put α γ) := hi; omega
        show hI h9 62 (28 + 5 * i) = _
        rw [up _ (by omega) (by omega), show 28 + 5 * i = 25 + 5 * i + 3 by omega, (v8 i hi').1 3 (by decide), o58]
        exact (d58 i hi').2.2.2
      · exfalso
        unfold rgn at hi
        split at hi <;> omega
  · rw [pl] at hl
    rw [put_o _ _ (by decide), lo 5 (by decide), w5]
    exact d10 l (by omega)
  · rw [pk, kb] at hk; omega
  · rw [pb] at h1
    rw [up _ (by omega) (by omega), F8.2.2.2 62 _ (fun z => by omega), F7.2.2.2 62 _ (fun z => by omega)]
    exact wz _ (by omega) (by omega) (by omega) (by omega) (by omega) (by omega) (by omega)
  · rw [pl] at h1
    rw [md _ (by omega) (by omega), F7.2.2.2 62 _ (fun z => by omega)]
    exact wz _ (by omega) (by omega) (by omega) (by omega) (by omega) (by omega) (by omega)
