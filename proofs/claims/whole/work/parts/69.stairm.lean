/-! ===== texts: the reference's stair ===== -/
theorem xV_rng {t : TY} {n : Nat} {lo hi : Int32} (h : lo ≤ hi) (x : XT0) : lo ≤ xV t n lo hi x ∧ xV t n lo hi x ≤ hi := by
  cases x with
  | inl f => exact ⟨Int32.le_refl _, h⟩
  | inr s =>
    rw [xV_r]
    by_cases c : nok t n s lo hi
    · rw [if_pos c]; exact ⟨c.2.2.2.1, c.2.2.2.2⟩
    · rw [if_neg c]; exact ⟨Int32.le_refl _, h⟩
theorem xV_nat {t : TY} {n : Nat} {a b : Nat} (h : a ≤ b) (hb : b < 2 ^ 31) (x : XT0) : ∃ m, a ≤ m ∧ m ≤ b ∧ xV t n (nI a) (nI b) x = nI m := by
  obtain ⟨h1, h2⟩ := xV_rng (t := t) (n := n) (nI_le h hb) x
  obtain ⟨m, m1, m2⟩ := i_nat (v := xV t n (nI a) (nI b) x) (fun z => by
    have := Int32.lt_of_le_of_lt h1 z
    exact nI_pos (by omega) this)
  rw [m2] at h1 h2
  refine ⟨m, ?_, ?_, m2⟩
  · by_cases c : a ≤ m
    · exact c
    · exact absurd h1 (nI_ge (by omega) (by omega))
  · by_cases c : m ≤ b
    · exact c
    · exact absurd h2 (nI_ge (by omega) (by omega))
theorem TM_fix {t : TY} {n s : Nat} {h : Hp} (T : TM t n h s) (hk : skp t n s = s) : ¬ (s < n ∧ t s = 32) := by
  intro c
  have e : skp t n s = skp t n (s + 1) := sc_step c.1 (decide_eq_true c.2)
  have : s + 1 ≤ skp t n (s + 1) := sc_ge _ _ _
  omega
theorem m_see0 {N n s : Nat} {t : TY} {h : Hp} (hN : 5000 ≤ N) (T : TM t n h s) (hk : skp t n s = s) : f_X8_see N h 51 = some (sg t n s, h) := by
  have c := TM_fix T hk
  obtain ⟨H, e1, hn, e2, hp, e14⟩ := T
  unfold f_X8_see
  obtain ⟨k, hk'⟩ : ∃ j, N = j + 1 := ⟨N - 1, by omega⟩
  have e : ∀ K, f_X8_see_0 K (k + 1) h 51 = some (sg t n s, h) := by
    intro K
    unfold sg
    by_cases l : n ≤ s
    · rw [f_X8_see_0, e1, e14, if_pos (nI_le l (by omega)), if_pos l]
      unfold f_X8_see_38
      rw [e1, e14, if_pos (nI_le l (by omega))]
    · rw [f_X8_see_0, e1, e14, if_neg (nI_ge (by omega) (by omega)), if_neg l, pp_51_0 H, bs, ll_52 H, if_inI (by omega) (by omega), nI_clamp (by omega), e2 s (by omega), if_neg (fun z => c ⟨by omega, z⟩)]
      unfold f_X8_see_38
      rw [e1, e14, if_neg (nI_ge (by omega) (by omega)), pp_51_0 H, bs, ll_52 H, if_inI (by omega) (by omega), nI_clamp (by omega), e2 s (by omega)]
  have := e N
  rw [← hk'] at this
  exact this
theorem m_word0 {N n s w : Nat} {t : TY} {h : Hp} {c : Int64} (hN : 5000 ≤ N) (hw : w < 18) (hc : c = cw w) (T : TM t n h s) (hk : skp t n s = s) : f_X8_isWord N h 51 c = some (b2i (wd t n s w), h) := by
  have hn := T.2.2.1
  have hle : lte t n s ≤ n := sc_le T.2.2.2.2.1
  unfold f_X8_isWord
  rw [m_see0 hN T hk, b2s, hc]
  exact m_word_l (N := N) hw T (fun _ => trivial) (lte t n s - s) 0 N (by omega) (by omega)
def DM (h : Hp) (α : SA) (lg bk : Bool) : Prop := hI h 51 7 = nI (lvl α) ∧ hI h 51 8 = nI (bgs α) ∧ hI h 51 9 = (if lg = true then α 0 2 else -1) ∧ hI h 51 11 = b2i (bk || decide (0 < bgs α)) ∧ (∀ l, l < 8 → ((hI h 51 10 >>> (nI l &&& 31)) &&& 1 = 1 ↔ α 3 l = 0)) ∧ (∀ l, l < lvl α → hI h 57 (2 * l) = α 1 l ∧ hI h 57 (2 * l + 1) = α 2 l) ∧ ∀ b, b < bgs α → hI h 58 (4 * b) = α 6 b ∧ hI h 58 (4 * b + 1) = α 7 b ∧ hI h 58 (4 * b + 2) = α 8 b ∧ hI h 58 (4 * b + 3) = α 9 b
theorem DM_Fr {P : Nat → Nat → Prop} {a b : Hp} {α : SA} {lg bk : Bool} (F : Fr P a b) (h1 : ∀ j, 7 ≤ j → j ≤ 11 → ¬ P 51 j) (h2 : ∀ j, ¬ P 57 j ∧ ¬ P 58 j) (D : DM a α lg bk) : DM b α lg bk := by
  unfold DM
  rw [F.2.2.2 51 7 (h1 7 (by decide) (by decide)), F.2.2.2 51 8 (h1 8 (by decide) (by decide)), F.2.2.2 51 9 (h1 9 (by decide) (by decide)), F.2.2.2 51 10 (h1 10 (by decide) (by decide)), F.2.2.2 51 11 (h1 11 (by decide) (by decide)), Fr_row F (fun j => (h2 j).1), Fr_row F (fun j => (h2 j).2)]
  exact D
def MS (t : TY) (n : Nat) (h : Hp) (p : Nat) (α : SA) (lg bk : Bool) (c : Nat) : Prop := TM t n h p ∧ hI h 51 15 = 0 ∧ hI h 51 17 = 6 ∧ hI h 51 20 = nI c ∧ DM h α lg bk
def RM (t : TY) (n : Nat) (h : Hp) (c : Nat) (z : ZS) (r : Int32) : Prop := (∃ f, z.2.2.2 = .inl f ∧ r = 0 ∧ hI h 51 15 = f) ∨ (∃ s, z.2.2.2 = .inr s ∧ r = 1 ∧ ∃ p, skp t n p = s ∧ MS t n h p z.1 z.2.1 z.2.2.1 c)
def PSM : Nat → Nat → Prop := fun a j => (a = 51 ∧ 7 ≤ j) ∨ a = 57 ∨ a = 58
theorem NM_SM {a b : Hp} (F : Fr PNm a b) : Fr PSM a b := Fr_mono F (fun _ _ z => Or.inl ⟨z.1, by have := z.2; omega⟩)
theorem PE_SM {a b : Hp} (F : Fr PE a b) : Fr PSM a b := Fr_mono F (fun _ _ z => Or.inl ⟨z.1, by have := z.2; omega⟩)
theorem MS_PE {t : TY} {n p q c : Nat} {a b : Hp} {α : SA} {lg bk : Bool} (F : Fr PE a b) (T : TM t n b q) (M : MS t n a p α lg bk c) : MS t n b q α lg bk c := by
  obtain ⟨_, m1, m2, m3, m4⟩ := M
  exact ⟨T, by rw [F.2.2.2 51 15 (fun z => by unfold PE at z; omega)]; exact m1, by rw [F.2.2.2 51 17 (fun z => by unfold PE at z; omega)]; exact m2, by rw [F.2.2.2 51 20 (fun z => by unfold PE at z; omega)]; exact m3, DM_Fr F (fun j h1 h2 z => by unfold PE at z; omega) (fun j => ⟨fun z => by unfold PE at z; omega, fun z => by unfold PE at z; omega⟩) m4⟩
/-- a number, for the reference -/
theorem s_num {N n p c : Nat} {t : TY} {h : Hp} {α : SA} {lg bk : Bool} {lo hi : Int32} (hN : 5000 ≤ N) (M : MS t n h p α lg bk c) : ∃ h', Fr PNm h h' ∧ ((nok t n (skp t n p) lo hi ∧ f_X8_numberHere N h 51 lo hi = some (1, h') ∧ hI h' 51 16 = nmv t n (skp t n p) ∧ MS t n h' (dge t n (skp t n p)) α lg bk c ∧ skp t n (dge t n (skp t n p)) = nt t n (skp t n p)) ∨ (¬ nok t n (skp t n p) lo hi ∧ f_X8_numberHere N h 51 lo hi = some (0, h') ∧ hI h' 51 15 = nfl t n (skp t n p))) := by
  obtain ⟨T, m1, m2, m3, m4⟩ := M
  obtain ⟨h', i1, i2, i3, i4⟩ := m_num (lo := lo) (hi := hi) hN T m1
  refine ⟨h', i2, ?_⟩
  by_cases k : nok t n (skp t n p) lo hi
  · obtain ⟨j1, j2, j3⟩ := i3 k
    rw [decide_eq_true k] at i1
    refine Or.inl ⟨k, i1, j2, ⟨j3, j1, by rw [i2.2.2.2 51 17 (fun z => by unfold PNm at z; omega)]; exact m2, by rw [i2.2.2.2 51 20 (fun z => by unfold PNm at z; omega)]; exact m3, DM_Fr i2 (fun j h1 h2 z => by unfold PNm at z; omega) (fun j => ⟨fun z => by unfold PNm at z; omega, fun z => by unfold PNm at z; omega⟩) m4⟩, ?_⟩
    unfold nt
    rw [bh_d k.1 k.2.1]
  · rw [decide_eq_false k] at i1
    exact Or.inr ⟨k, i1, i4 k⟩
/-- past a word, for the reference -/
theorem s_pass {N n s w c : Nat} {t : TY} {h : Hp} {α : SA} {lg bk : Bool} (hN : 5000 ≤ N) (hw : w < 18) (M : MS t n h s α lg bk c) (k : wd t n s w = true) : ∃ h', f_X8_passWord N h 51 = some h' ∧ MS t n h' (lte t n s) α lg bk c ∧ skp t n (lte t n s) = nt t n s ∧ Fr PE h h' := by
  obtain ⟨h', i1, i2, i3⟩ := m_pw hN M.1
  refine ⟨h', i1, MS_PE i3 i2 M, ?_, i3⟩
  have := wd_yes hw k
  unfold nt
  rw [bh_w this.1 this.2]
theorem s_lev {N n s c : Nat} {t : TY} {h : Hp} {α : SA} {lg bk : Bool} (hN : 5000 ≤ N) (M : MS t n h s α lg bk c) (k : wd t n s 0 = true) (hl : lvl α < 8) (hb : bgs α = 0) (hbk : bk = false) (at' : Int32) : ∃ r h', f_X8_isLevelHere N h 51 at' = some (r, h') ∧ RM t n h' c (zLev t n α lg bk (.inr s)) r ∧ Fr PSM h h' := by
  subst hbk
  have H := M.1.1
  obtain ⟨d7, d8, d9, d11, d10, d57, d58⟩ := M.2.2.2.2
  unfold f_X8_isLevelHere
  rw [d7, if_neg (show ¬ nI (lvl α) = 8 from fun z => by have := (nI_eq (b := 8) (by omega) (by decide)).mp z; omega), d11, hb, if_pos (show b2i (false || decide (0 < 0)) = 0 by decide)]
  obtain ⟨h1, i1, M1, k1, F1⟩ := s_pass hN (by decide) M k
  rw [i1, bs]
  have e1 : xA t n (.inr s) = .inr (nt t n s) := rfl
  obtain ⟨h2, F2, c2⟩ := s_num (lo := 0) (hi := 999) hN M1
  rw [k1] at c2
  unfold zLev
  rw [e1, xV_r, xN_r]
  rcases c2 with ⟨n2, i2, v2, M2, k2⟩ | ⟨n2, i2, v2⟩
  · rw [i2, b2s, if_neg (by decide), pp_51_12 M2.1.1, bs, M2.2.2.2.2.1, n_2, pk_mul, ll_57 M2.1.1, if_inI (by omega) (by omega), lts, nI_clamp (by omega), v2, if_pos n2, if_pos n2]
    have F3 : Fr (fun a j => a = 57 ∧ j = 2 * lvl α) h2 (sI h2 57 (2 * lvl α) (nmv t n (nt t n s))) := Fr_sI _ _ _ _ ⟨rfl, rfl⟩
    have q3 : hI (sI h2 57 (2 * lvl α) (nmv t n (nt t n s))) 57 (2 * lvl α) = nmv t n (nt t n s) := by rw [hI_sI, if_pos ⟨rfl, rfl⟩]
    generalize sI h2 57 (2 * lvl α) (nmv t n (nt t n s)) = h3 at F3 q3 ⊢
    have M3 : MS t n h3 (dge t n (nt t n s)) α lg false c := by
      obtain ⟨T, m1, m2, m3, m7, m8, m9, m11, m10, m57, m58⟩ := M2
      refine ⟨TM_Fr F3 (fun z => by omega) (fun z => by omega) (fun i z => by omega) T, by rw [F3.2.2.2 51 15 (fun z => by omega)]; exact m1, by rw [F3.2.2.2 51 17 (fun z => by omega)]; exact m2, by rw [F3.2.2.2 51 20 (fun z => by omega)]; exact m3, by rw [F3.2.2.2 51 7 (fun z => by omega)]; exact m7, by rw [F3.2.2.2 51 8 (fun z => by omega)]; exact m8, by rw [F3.2.2.2 51 9 (fun z => by omega)]; exact m9, by rw [F3.2.2.2 51 11 (fun z => by omega)]; exact m11, by rw [F3.2.2.2 51 10 (fun z => by omega)]; exact m10, fun l hl => ?_, by rw [Fr_row F3 (fun j z => by omega)]; exact m58⟩
      rw [F3.2.2.2 57 (2 * l) (fun z => by omega), F3.2.2.2 57 (2 * l + 1) (fun z => by omega)]
      exact m57 l hl
    obtain ⟨h4, F4, c4⟩ := s_num (lo := 1) (hi := 8) hN M3
    rw [k2] at c4
    rw [xV_r, xN_r]
    rcases c4 with ⟨n4, i4, v4, M4, k4⟩ | ⟨n4, i4, v4⟩
    · rw [i4, b2s, if_neg (by decide), pp_51_12 M4.1.1, bs, M4.2.2.2.2.1, pk_mul, nI_1, ll_57 M4.1.1, if_inI (by omega) (by omega), lts, nI_clamp (by omega), v4, if_pos n4, if_pos n4]
      have F5 : Fr (fun a j => a = 57 ∧ j = 2 * lvl α + 1) h4 (sI h4 57 (2 * lvl α + 1) (nmv t n (nt t n (nt t n s)))) := Fr_sI _ _ _ _ ⟨rfl, rfl⟩
      have q5 : hI (sI h4 57 (2 * lvl α + 1) (nmv t n (nt t n (nt t n s)))) 57 (2 * lvl α + 1) = nmv t n (nt t n (nt t n s)) := by rw [hI_sI, if_pos ⟨rfl, rfl⟩]
      generalize sI h4 57 (2 * lvl α + 1) (nmv t n (nt t n (nt t n s))) = h5 at F5 q5 ⊢
      have z7 : hI h5 51 7 = nI (lvl α) := by rw [F5.2.2.2 51 7 (fun z => by omega)]; exact M4.2.2.2.2.1
      rw [lts, z7, nI_1]
      have F6 : Fr (fun a j => a = 51 ∧ j = 7) h5 (sI h5 51 7 (nI (lvl α + 1))) := Fr_sI _ _ _ _ ⟨rfl, rfl⟩
      have q6 : hI (sI h5 51 7 (nI (lvl α + 1))) 51 7 = nI (lvl α + 1) := by rw [hI_sI, if_pos ⟨rfl, rfl⟩]
      generalize sI h5 51 7 (nI (lvl α + 1)) = h6 at F6 q6 ⊢
      refine ⟨1, h6, rfl, Or.inr ⟨_, rfl, rfl, dge t n (nt t n (nt t n s)), k4, ?_⟩, ?_⟩
      · obtain ⟨T, m1, m2, m3, m7, m8, m9, m11, m10, m57, m58⟩ := M4
        have G : Fr (fun a j => (a = 57 ∧ j = 2 * lvl α + 1) ∨ (a = 51 ∧ j = 7)) h4 h6 := Fr_trans (Fr_mono F5 (fun a j z => Or.inl z)) (Fr_mono F6 (fun a j z => Or.inr z))
        have lv : lvl (lvX α (nmv t n (nt t n s)) (nmv t n (nt t n (nt t n s)))) = lvl α + 1 := by
          show (lvX α _ _ 0 0).toNatClampNeg = _
          unfold lvX
          rw [c1_s, nI_clamp (by omega)]
        have q : ∀ i, i ≠ 0 → lvX α (nmv t n (nt t n s)) (nmv t n (nt t n (nt t n s))) 0 i = α 0 i := fun i hi => by
          unfold lvX
          rw [c1_e _ _ hi, c1_o _ _ _ (by decide), c1_o _ _ _ (by decide)]
        have qo : ∀ k, k ≠ 0 → k ≠ 1 → k ≠ 2 → lvX α (nmv t n (nt t n s)) (nmv t n (nt t n (nt t n s))) k = α k := fun k h0 h1 h2 => by
          unfold lvX
          rw [c1_o _ _ _ h0, c1_o _ _ _ h2, c1_o _ _ _ h1]
        have bg : bgs (lvX α (nmv t n (nt t n s)) (nmv t n (nt t n (nt t n s)))) = bgs α := by unfold bgs; rw [q 1 (by decide)]
        refine ⟨TM_Fr G (fun z => by omega) (fun z => by omega) (fun i z => by omega) T, by rw [G.2.2.2 51 15 (fun z => by omega)]; exact m1, by rw [G.2.2.2 51 17 (fun z => by omega)]; exact m2, by rw [G.2.2.2 51 20 (fun z => by omega)]; exact m3, ?_⟩
        show DM h6 (lvX α (nmv t n (nt t n s)) (nmv t n (nt t n (nt t n s)))) lg false
        unfold DM
        rw [lv, q 2 (by decide), qo 3 (by decide) (by decide) (by decide), qo 6 (by decide) (by decide) (by decide), qo 7 (by decide) (by decide) (by decide), qo 8 (by decide) (by decide) (by decide), qo 9 (by decide) (by decide) (by decide)]
        refine ⟨q6, ?_, ?_, ?_, ?_, fun l hl => ?_, ?_⟩
        · rw [G.2.2.2 51 8 (fun z => by omega), bg]; exact m8
        · rw [G.2.2.2 51 9 (fun z => by omega)]; exact m9
        · rw [G.2.2.2 51 11 (fun z => by omega), bg]; exact m11
        · rw [G.2.2.2 51 10 (fun z => by omega)]; exact m10
        · have w1 : lvX α (nmv t n (nt t n s)) (nmv t n (nt t n (nt t n s))) 1 = upd (α 1) (lvl α) (nmv t n (nt t n s)) := by
            unfold lvX
            rw [c1_o _ _ _ (by decide), c1_o _ _ _ (by decide)]
            unfold c1
            rw [sr_s]
          have w2 : lvX α (nmv t n (nt t n s)) (nmv t n (nt t n (nt t n s))) 2 = upd (α 2) (lvl α) (nmv t n (nt t n (nt t n s))) := by
            unfold lvX
            rw [c1_o _ _ _ (by decide)]
            unfold c1
            rw [sr_s, sr_o _ _ (by decide)]
          show hI h6 57 (2 * l) = lvX α (nmv t n (nt t n s)) (nmv t n (nt t n (nt t n s))) 1 l ∧ hI h6 57 (2 * l + 1) = lvX α (nmv t n (nt t n s)) (nmv t n (nt t n (nt t n s))) 2 l
          rw [w1, w2]
          by_cases e : l = lvl α
          · subst e
            rw [upd_s, upd_s, F6.2.2.2 57 (2 * lvl α + 1) (fun z => by omega), q5, G.2.2.2 57 (2 * lvl α) (fun z => by omega), F4.2.2.2 57 (2 * lvl α) (fun z => by unfold PNm at z; omega), q3]
            exact ⟨rfl, rfl⟩
          · rw [upd_o _ _ e, upd_o _ _ e, G.2.2.2 57 (2 * l) (fun z => by omega), G.2.2.2 57 (2 * l + 1) (fun z => by omega)]
            exact m57 l (by omega)
        · rw [Fr_row G (fun j z => by omega), bg]; exact m58
      · exact Fr_trans (PE_SM F1) (Fr_trans (NM_SM F2) (Fr_trans (Fr_mono F3 (fun a j z => Or.inr (Or.inl z.1))) (Fr_trans (NM_SM F4) (Fr_trans (Fr_mono F5 (fun a j z => Or.inr (Or.inl z.1))) (Fr_mono F6 (fun a j z => Or.inl ⟨z.1, by omega⟩))))))
    · rw [i4, b2s, if_pos rfl, if_neg n4, if_neg n4]
      exact ⟨0, h4, rfl, Or.inl ⟨_, rfl, rfl, v4⟩, Fr_trans (PE_SM F1) (Fr_trans (NM_SM F2) (Fr_trans (Fr_mono F3 (fun a j z => Or.inr (Or.inl z.1))) (NM_SM F4)))⟩
  · rw [i2, b2s, if_pos rfl, if_neg n2, if_neg n2]
    exact ⟨0, h2, rfl, Or.inl ⟨_, rfl, rfl, v2⟩, Fr_trans (PE_SM F1) (NM_SM F2)⟩
