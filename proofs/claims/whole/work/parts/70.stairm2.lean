/-! ===== texts: the reference's other clauses ===== -/
theorem shr_or (x y : Int32) (s : Int32) : (x ||| y) >>> s = (x >>> s) ||| (y >>> s) := by
  apply Int32.toBitVec_inj.mp
  rw [Int32.toBitVec_shiftRight, Int32.toBitVec_or, Int32.toBitVec_or, Int32.toBitVec_shiftRight, Int32.toBitVec_shiftRight]
  simp only [BitVec.sshiftRight_eq']
  exact BitVec.sshiftRight_or_distrib _ _ _
theorem and_or1 (x y : Int32) : (x ||| y) &&& 1 = (x &&& 1) ||| (y &&& 1) := by
  apply Int32.toBitVec_inj.mp
  simp only [Int32.toBitVec_and, Int32.toBitVec_or]
  exact BitVec.and_or_distrib_right
theorem set_bit (x : Int32) {k l : Nat} (hk : k < 8) (hl : l < 8) : (((x ||| ((1 : Int32) <<< (nI k &&& 31))) >>> (nI l &&& 31)) &&& 1 = 1) ↔ (l = k ∨ (x >>> (nI l &&& 31)) &&& 1 = 1) := by
  rw [shr_or, and_or1, one_bit k hk l hl]
  by_cases c : l = k
  · rw [if_pos c]
    rcases and1 (x >>> (nI l &&& 31)) with z | z
    · rw [z]; exact ⟨fun _ => Or.inl c, fun _ => by decide⟩
    · rw [z]; exact ⟨fun _ => Or.inl c, fun _ => by decide⟩
  · rw [if_neg c]
    rcases and1 (x >>> (nI l &&& 31)) with z | z
    · rw [z]; exact ⟨fun y => absurd y (by decide), fun y => y.elim (fun q => absurd q c) (fun q => absurd q (by decide))⟩
    · rw [z]; exact ⟨fun _ => Or.inr rfl, fun _ => by decide⟩
theorem s_lag {N n s c : Nat} {t : TY} {h : Hp} {α : SA} {bk : Bool} (hN : 5000 ≤ N) (M : MS t n h s α false bk c) (Dm0 : Dm α) (k : wd t n s 1 = true) (at' : Int32) : ∃ r h', f_X8_isLagHere N h 51 at' = some (r, h') ∧ RM t n h' c (zLag t n α bk (.inr s)) r ∧ Fr PSM h h' := by
  obtain ⟨d7, d8, d9, d11, d10, d57, d58⟩ := M.2.2.2.2
  unfold f_X8_isLagHere
  rw [d9, if_neg (show ¬ (false = true) by decide), if_pos (by decide)]
  obtain ⟨h1, i1, M1, k1, F1⟩ := s_pass hN (by decide) M k
  rw [i1, bs]
  have e1 : xA t n (.inr s) = .inr (nt t n s) := rfl
  obtain ⟨h2, F2, c2⟩ := s_num (lo := 0) (hi := 20) hN M1
  rw [k1] at c2
  unfold zLag
  rw [e1, xV_r, xN_r]
  rcases c2 with ⟨n2, i2, v2, M2, k2⟩ | ⟨n2, i2, v2⟩
  · rw [i2, b2s, if_neg (by decide), lts, v2, if_pos n2, if_pos n2]
    have F3 : Fr (fun a j => a = 51 ∧ j = 9) h2 (sI h2 51 9 (nmv t n (nt t n s))) := Fr_sI _ _ _ _ ⟨rfl, rfl⟩
    have q3 : hI (sI h2 51 9 (nmv t n (nt t n s))) 51 9 = nmv t n (nt t n s) := by rw [hI_sI, if_pos ⟨rfl, rfl⟩]
    generalize sI h2 51 9 (nmv t n (nt t n s)) = h3 at F3 q3 ⊢
    refine ⟨1, h3, rfl, Or.inr ⟨_, rfl, rfl, dge t n (nt t n s), k2, ?_⟩, Fr_trans (PE_SM F1) (Fr_trans (NM_SM F2) (Fr_mono F3 (fun a j z => Or.inl ⟨z.1, by omega⟩)))⟩
    obtain ⟨T, m1, m2, m3, m7, m8, m9, m11, m10, m57, m58⟩ := M2
    obtain ⟨_, lv, bg⟩ := Dm_c1 (k := 0) (i := 2) (v := nmv t n (nt t n s)) (by omega) Dm0
    have qo : ∀ k, k ≠ 0 → c1 α 0 2 (nmv t n (nt t n s)) k = α k := fun k hk => c1_o _ _ _ hk
    refine ⟨TM_Fr F3 (fun z => by omega) (fun z => by omega) (fun i z => by omega) T, by rw [F3.2.2.2 51 15 (fun z => by omega)]; exact m1, by rw [F3.2.2.2 51 17 (fun z => by omega)]; exact m2, by rw [F3.2.2.2 51 20 (fun z => by omega)]; exact m3, ?_⟩
    show DM h3 (c1 α 0 2 (nmv t n (nt t n s))) true bk
    unfold DM
    rw [lv, bg, c1_s, qo 1 (by decide), qo 2 (by decide), qo 3 (by decide), qo 6 (by decide), qo 7 (by decide), qo 8 (by decide), qo 9 (by decide), if_pos rfl]
    exact ⟨by rw [F3.2.2.2 51 7 (fun z => by omega)]; exact m7, by rw [F3.2.2.2 51 8 (fun z => by omega)]; exact m8, q3, by rw [F3.2.2.2 51 11 (fun z => by omega)]; exact m11, by rw [F3.2.2.2 51 10 (fun z => by omega)]; exact m10, by rw [Fr_row F3 (fun j z => by omega)]; exact m57, by rw [Fr_row F3 (fun j z => by omega)]; exact m58⟩
  · rw [i2, b2s, if_pos rfl, if_neg n2, if_neg n2]
    exact ⟨0, h2, rfl, Or.inl ⟨_, rfl, rfl, v2⟩, Fr_trans (PE_SM F1) (NM_SM F2)⟩
/-- behind: no level may follow -/
theorem s_beh {n s c : Nat} {t : TY} {h : Hp} {α : SA} {lg bk : Bool} (M : MS t n h s α lg bk c) : MS t n (sI h 51 11 1) s α lg true c ∧ Fr (fun a j => a = 51 ∧ j = 11) h (sI h 51 11 1) := by
  have F3 : Fr (fun a j => a = 51 ∧ j = 11) h (sI h 51 11 1) := Fr_sI _ _ _ _ ⟨rfl, rfl⟩
  have q3 : hI (sI h 51 11 1) 51 11 = 1 := by rw [hI_sI, if_pos ⟨rfl, rfl⟩]
  refine ⟨?_, F3⟩
  generalize sI h 51 11 1 = h3 at F3 q3 ⊢
  obtain ⟨T, m1, m2, m3, m7, m8, m9, m11, m10, m57, m58⟩ := M
  exact ⟨TM_Fr F3 (fun z => by omega) (fun z => by omega) (fun i z => by omega) T, by rw [F3.2.2.2 51 15 (fun z => by omega)]; exact m1, by rw [F3.2.2.2 51 17 (fun z => by omega)]; exact m2, by rw [F3.2.2.2 51 20 (fun z => by omega)]; exact m3, by rw [F3.2.2.2 51 7 (fun z => by omega)]; exact m7, by rw [F3.2.2.2 51 8 (fun z => by omega)]; exact m8, by rw [F3.2.2.2 51 9 (fun z => by omega)]; exact m9, by rw [q3, Bool.true_or]; rfl, by rw [F3.2.2.2 51 10 (fun z => by omega)]; exact m10, by rw [Fr_row F3 (fun j z => by omega)]; exact m57, by rw [Fr_row F3 (fun j z => by omega)]; exact m58⟩
theorem s_brk {N n s c : Nat} {t : TY} {h : Hp} {α : SA} {lg bk : Bool} (hN : 5000 ≤ N) (M : MS t n h s α lg bk c) (Dm0 : Dm α) (k : wd t n s 3 = true) (hl : 2 ≤ lvl α) (at' : Int32) : ∃ r h', f_X8_isBrokenHere N h 51 at' = some (r, h') ∧ RM t n h' c (zBrk t n α lg (.inr s)) r ∧ Fr PSM h h' := by
  have hl8 := Dm0.2.2.2.1
  unfold f_X8_isBrokenHere
  rw [M.2.2.2.2.1, if_pos (show (2 : Int32) ≤ nI (lvl α) from nI_le (a := 2) hl (by omega)), lts]
  obtain ⟨M0, F0⟩ := s_beh M
  generalize sI h 51 11 1 = h0 at M0 F0 ⊢
  obtain ⟨h1, i1, M1, k1, F1⟩ := s_pass hN (by decide) M0 k
  rw [i1, bs, M1.2.2.2.2.1, n_2, pk_sub hl]
  have e1 : xA t n (.inr s) = .inr (nt t n s) := rfl
  obtain ⟨h2, F2, c2⟩ := s_num (lo := 0) (hi := nI (lvl α - 2)) hN M1
  rw [k1] at c2
  unfold zBrk
  rw [e1, xV_r, xN_r]
  have Fp : Fr PSM h h2 := Fr_trans (Fr_mono F0 (fun a j z => Or.inl ⟨z.1, by omega⟩)) (Fr_trans (PE_SM F1) (NM_SM F2))
  rcases c2 with ⟨n2, i2, v2, M2, k2⟩ | ⟨n2, i2, v2⟩
  · obtain ⟨m, ma, mb⟩ := i_nat (v := nmv t n (nt t n s)) (Int32.not_lt.mpr n2.2.2.2.1)
    have m8 : m < 8 := by
      by_cases z : m < 8
      · exact z
      · have := n2.2.2.2.2
        rw [mb] at this
        exact absurd this (nI_ge (by omega) (by omega))
    rw [i2, b2s, if_neg (by decide), lts, v2, if_pos n2, if_pos n2, mb, nI_clamp (by omega)]
    generalize hx : hI h2 51 10 = x
    have F3 : Fr (fun a j => a = 51 ∧ j = 10) h2 (sI h2 51 10 (x ||| ((1 : Int32) <<< (nI m &&& 31)))) := Fr_sI _ _ _ _ ⟨rfl, rfl⟩
    have q3 : hI (sI h2 51 10 (x ||| ((1 : Int32) <<< (nI m &&& 31)))) 51 10 = x ||| ((1 : Int32) <<< (nI m &&& 31)) := by rw [hI_sI, if_pos ⟨rfl, rfl⟩]
    generalize sI h2 51 10 (x ||| ((1 : Int32) <<< (nI m &&& 31))) = h3 at F3 q3 ⊢
    refine ⟨1, h3, rfl, Or.inr ⟨_, rfl, rfl, dge t n (nt t n s), k2, ?_⟩, Fr_trans Fp (Fr_mono F3 (fun a j z => Or.inl ⟨z.1, by omega⟩))⟩
    obtain ⟨T, m1, m2, m3, m7, m8', m9, m11, m10, m57, m58⟩ := M2
    obtain ⟨_, lv, bg⟩ := Dm_c1 (k := 3) (i := m) (v := 0) (by omega) Dm0
    have qo : ∀ k, k ≠ 3 → c1 α 3 m 0 k = α k := fun k hk => c1_o _ _ _ hk
    refine ⟨TM_Fr F3 (fun z => by omega) (fun z => by omega) (fun i z => by omega) T, by rw [F3.2.2.2 51 15 (fun z => by omega)]; exact m1, by rw [F3.2.2.2 51 17 (fun z => by omega)]; exact m2, by rw [F3.2.2.2 51 20 (fun z => by omega)]; exact m3, ?_⟩
    show DM h3 (c1 α 3 m 0) lg true
    unfold DM
    rw [lv, bg, qo 0 (by decide), qo 1 (by decide), qo 2 (by decide), qo 6 (by decide), qo 7 (by decide), qo 8 (by decide), qo 9 (by decide)]
    refine ⟨by rw [F3.2.2.2 51 7 (fun z => by omega)]; exact m7, by rw [F3.2.2.2 51 8 (fun z => by omega)]; exact m8', by rw [F3.2.2.2 51 9 (fun z => by omega)]; exact m9, by rw [F3.2.2.2 51 11 (fun z => by omega)]; exact m11, fun l hl => ?_, by rw [Fr_row F3 (fun j z => by omega)]; exact m57, by rw [Fr_row F3 (fun j z => by omega)]; exact m58⟩
    rw [q3, set_bit x m8 hl]
    by_cases e : l = m
    · subst e; rw [c1_s]; exact ⟨fun _ => rfl, fun _ => Or.inl rfl⟩
    · rw [c1_e _ _ e, ← m10 l hl, hx]
      exact ⟨fun y => y.elim (fun q => absurd q e) id, Or.inr⟩
  · rw [i2, b2s, if_pos rfl, if_neg n2, if_neg n2]
    exact ⟨0, h2, rfl, Or.inl ⟨_, rfl, rfl, v2⟩, Fp⟩
