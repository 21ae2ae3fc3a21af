/-! ===== texts: the reference's stair, clause for clause ===== -/
theorem cw_0 : (465558725996 : Int64) = cw 0 := by decide +kernel
theorem cw_1 : (7102823 : Int64) = cw 1 := by decide +kernel
theorem cw_2 : (422541682533 : Int64) = cw 2 := by decide +kernel
theorem cw_3 : (108243635103086 : Int64) = cw 3 := by decide +kernel
theorem RM_r {t : TY} {n c : Nat} {h : Hp} {z : ZS} {r : Int32} (R : RM t n h c z r) : r = 0 ∨ r = 1 := by
  rcases R with ⟨_, _, e, _⟩ | ⟨_, _, e, _⟩
  · exact Or.inl e
  · exact Or.inr e
theorem s_fail {t : TY} {n s c c' : Nat} {h : Hp} {α : SA} {lg bk : Bool} (M : MS t n h s α lg bk c) (k : Nat) : ∃ h', f_X8_fails h 51 (nI k) (nI s) = some (0, h') ∧ RM t n h' c' (α, lg, bk, xF k (.inr s)) 0 ∧ Fr PSM h h' := by
  obtain ⟨h', i1, i2, i3⟩ := m_fails M.2.1 (nI k) s
  exact ⟨h', i1, Or.inl ⟨_, rfl, rfl, i2⟩, Fr_mono i3 (fun a j z => Or.inl ⟨z.1, by omega⟩)⟩
theorem zCl_f (t : TY) (n : Nat) (α : SA) (lg bk : Bool) (s : Nat) : ∃ k, k ≤ 4 ∧ zCl t n false α lg bk (.inr s) = (α, lg, bk, xF k (.inr s)) := by
  have f : ¬ (false = true) := by decide
  unfold zCl
  by_cases w0 : xW t n 0 (.inr s) = true
  · rw [if_pos w0, if_neg (fun z => f z.1)]; exact ⟨4, by decide, rfl⟩
  · rw [if_neg w0]
    by_cases w1 : xW t n 1 (.inr s) = true
    · rw [if_pos w1, if_neg (fun z => f z.1)]; exact ⟨4, by decide, rfl⟩
    · rw [if_neg w1]
      by_cases w2 : xW t n 2 (.inr s) = true
      · rw [if_pos w2, if_neg (fun z => f z.1)]; exact ⟨4, by decide, rfl⟩
      · rw [if_neg w2]
        by_cases w3 : xW t n 3 (.inr s) = true
        · rw [if_pos w3, if_neg (fun z => f z.1)]; exact ⟨4, by decide, rfl⟩
        · rw [if_neg w3]; exact ⟨0, by decide, rfl⟩
theorem s_cl {N n p c : Nat} {t : TY} {h : Hp} {α : SA} {lg bk : Bool} (hN : 5000 ≤ N) (M : MS t n h p α lg bk c) (Dm0 : Dm α) (hlg : lg = true → 0 ≤ α 0 2) (hc : c ≤ 32) : ∃ r h', f_X8_clauseHere N h 51 = some (r, h') ∧ RM t n h' (c + 1) (zCl t n (decide (c < 32)) α lg bk (.inr (skp t n p))) r ∧ Fr PSM h h' := by
  have hl8 := Dm0.2.2.2.1
  have hb6 := Dm0.2.2.2.2.1
  obtain ⟨h1, i1, T1, F1⟩ := m_see hN M.1
  have hfix : skp t n (skp t n p) = skp t n p := sc_fix M.1.2.2.2.2.1
  have M1 := MS_PE F1 T1 M
  generalize skp t n p = s at i1 T1 M1 hfix ⊢
  have F1' := PE_SM F1
  have H1 := T1.1
  have wx : ∀ w, xW t n w (.inr s) = wd t n s w := fun w => rfl
  have W : ∀ (g : Hp) (q : Nat), MS t n g s α lg bk q → (f_X8_isWord N g 51 465558725996 = some (b2i (wd t n s 0), g) ∧ f_X8_isWord N g 51 7102823 = some (b2i (wd t n s 1), g)) ∧ f_X8_isWord N g 51 422541682533 = some (b2i (wd t n s 2), g) ∧ f_X8_isWord N g 51 108243635103086 = some (b2i (wd t n s 3), g) := fun g q Q => ⟨⟨m_word0 hN (by decide) cw_0 Q.1 hfix, m_word0 hN (by decide) cw_1 Q.1 hfix⟩, m_word0 hN (by decide) cw_2 Q.1 hfix, m_word0 hN (by decide) cw_3 Q.1 hfix⟩
  obtain ⟨⟨W0, W1⟩, W2, W3⟩ := W h1 c M1
  -- a clause's word stands here
  have go : (wd t n s 0 = true ∨ wd t n s 1 = true ∨ wd t n s 2 = true ∨ wd t n s 3 = true) → ∃ r h', f_X8_clauseHere_69 N h1 51 (nI s) 1 = some (r, h') ∧ RM t n h' (c + 1) (zCl t n (decide (c < 32)) α lg bk (.inr s)) r ∧ Fr PSM h h' := by
    intro any
    unfold f_X8_clauseHere_69 f_X8_clauseHere_84 f_X8_clauseHere_111
    rw [if_neg (by decide), if_neg (by decide), M1.2.2.2.1]
    by_cases c32 : c = 32
    · rw [if_pos (show nI c = 32 by rw [c32]; rfl)]
      obtain ⟨h2, j1, j2, j3⟩ := s_fail (c' := c + 1) M1 4
      have j1' : f_X8_fails h1 51 4 (nI s) = some (0, h2) := j1
      rw [j1', b2s, if_pos (Or.inl rfl), decide_eq_false (by omega)]
      have e : zCl t n false α lg bk (.inr s) = (α, lg, bk, xF 4 (.inr s)) := by
        have f : ¬ (false = true) := by decide
        unfold zCl
        rw [wx, wx, wx, wx]
        by_cases w0 : wd t n s 0 = true
        · rw [if_pos w0, if_neg (fun z => f z.1)]
        · rw [if_neg w0]
          by_cases w1 : wd t n s 1 = true
          · rw [if_pos w1, if_neg (fun z => f z.1)]
          · rw [if_neg w1]
            by_cases w2 : wd t n s 2 = true
            · rw [if_pos w2, if_neg (fun z => f z.1)]
            · rw [if_neg w2]
              by_cases w3 : wd t n s 3 = true
              · rw [if_pos w3, if_neg (fun z => f z.1)]
              · exfalso
                rcases any with q | q | q | q
                · exact w0 q
                · exact w1 q
                · exact w2 q
                · exact w3 q
      rw [e]
      exact ⟨0, h2, rfl, j2, Fr_trans F1' j3⟩
    · rw [if_neg (show ¬ nI c = 32 from fun z => c32 ((nI_eq (b := 32) (by omega) (by decide)).mp z)), lts, nI_1, if_neg (by decide), decide_eq_true (show c < 32 by omega)]
      have F2 : Fr (fun a j => a = 51 ∧ j = 20) h1 (sI h1 51 20 (nI (c + 1))) := Fr_sI _ _ _ _ ⟨rfl, rfl⟩
      have q2 : hI (sI h1 51 20 (nI (c + 1))) 51 20 = nI (c + 1) := by rw [hI_sI, if_pos ⟨rfl, rfl⟩]
      generalize sI h1 51 20 (nI (c + 1)) = h2 at F2 q2 ⊢
      have M2 : MS t n h2 s α lg bk (c + 1) := by
        obtain ⟨T, m1, m2, m3, m4⟩ := M1
        exact ⟨TM_Fr F2 (fun z => by omega) (fun z => by omega) (fun i z => by omega) T, by rw [F2.2.2.2 51 15 (fun z => by omega)]; exact m1, by rw [F2.2.2.2 51 17 (fun z => by omega)]; exact m2, q2, DM_Fr F2 (fun j h1 h2 z => by omega) (fun j => ⟨fun z => by omega, fun z => by omega⟩) m4⟩
      have F12 : Fr PSM h h2 := Fr_trans F1' (Fr_mono F2 (fun a j z => Or.inl ⟨z.1, by omega⟩))
      obtain ⟨⟨X0, X1⟩, X2, X3⟩ := W h2 (c + 1) M2
      obtain ⟨hf, f1, f2, f3⟩ := s_fail (c' := c + 1) M2 4
      have f1' : f_X8_fails h2 51 4 (nI s) = some (0, hf) := f1
      obtain ⟨d7, d8, d9, d11, d10, d57, d58⟩ := M2.2.2.2.2
      have tt : true = true := rfl
      unfold zCl
      rw [wx, wx, wx, wx, X0, b2s]
      by_cases w0 : wd t n s 0 = true
      · rw [if_pos w0, w0, if_neg (by decide)]
        by_cases ok : bgs α = 0 ∧ bk = false ∧ lvl α < 8
        · rw [if_pos ⟨tt, ok⟩]
          obtain ⟨r, h3, k1, k2, k3⟩ := s_lev hN M2 w0 ok.2.2 ok.1 ok.2.1 (nI s)
          rw [k1, b2s, if_pos (RM_r k2)]
          exact ⟨r, h3, rfl, k2, Fr_trans F12 k3⟩
        · rw [if_neg (fun z => ok z.2)]
          have e : f_X8_isLevelHere N h2 51 (nI s) = some (0, hf) := by
            have e16 : f_X8_isLevelHere_16 N h2 51 (nI s) = some (0, hf) := by
              unfold f_X8_isLevelHere_16
              rw [f1', b2s, if_pos (Or.inl rfl)]
            unfold f_X8_isLevelHere
            rw [d7, e16]
            by_cases l8 : lvl α = 8
            · rw [if_pos (show nI (lvl α) = 8 by rw [l8]; rfl)]
            · rw [if_neg (show ¬ nI (lvl α) = 8 from fun z => l8 ((nI_eq (b := 8) (by omega) (by decide)).mp z)), d11]
              have nb : ¬ b2i (bk || decide (0 < bgs α)) = 0 := by
                intro z
                have := b2i_0.mp z
                rw [Bool.or_eq_false_iff] at this
                exact ok ⟨by have := of_decide_eq_false this.2; omega, this.1, by omega⟩
              rw [if_neg nb]
          rw [e, b2s, if_pos (Or.inl rfl)]
          exact ⟨0, hf, rfl, f2, Fr_trans F12 f3⟩
      · rw [if_neg w0, Bool.eq_false_iff.mpr w0, if_pos (show b2i false = 0 by decide), X1, b2s]
        by_cases w1 : wd t n s 1 = true
        · rw [if_pos w1, w1, if_neg (by decide)]
          by_cases ok : lg = false
          · rw [if_pos ⟨tt, ok⟩]
            subst ok
            obtain ⟨r, h3, k1, k2, k3⟩ := s_lag hN M2 Dm0 w1 (nI s)
            rw [k1, b2s, if_pos (RM_r k2)]
            exact ⟨r, h3, rfl, k2, Fr_trans F12 k3⟩
          · rw [if_neg (fun z => ok z.2)]
            have lt' : lg = true := by cases lg with
              | false => exact absurd rfl ok
              | true => rfl
            have e : f_X8_isLagHere N h2 51 (nI s) = some (0, hf) := by
              unfold f_X8_isLagHere
              rw [d9, if_pos lt', if_neg (Int32.not_lt.mpr (hlg lt')), f1', b2s, if_pos (Or.inl rfl)]
            rw [e, b2s, if_pos (Or.inl rfl)]
            exact ⟨0, hf, rfl, f2, Fr_trans F12 f3⟩
        · rw [if_neg w1, Bool.eq_false_iff.mpr w1, if_pos (show b2i false = 0 by decide), X2, b2s]
          by_cases w2 : wd t n s 2 = true
          · rw [if_pos w2, w2, if_neg (by decide)]
            by_cases ok : 2 ≤ lvl α ∧ bgs α < 6
            · rw [if_pos ⟨tt, ok⟩]
              obtain ⟨r, h3, k1, k2, k3⟩ := s_bar hN M2 Dm0 w2 ok.1 ok.2 (nI s)
              rw [k1, b2s, if_pos (RM_r k2)]
              exact ⟨r, h3, rfl, k2, Fr_trans F12 k3⟩
            · rw [if_neg (fun z => ok z.2)]
              have e : f_X8_isBargeHere N h2 51 (nI s) = some (0, hf) := by
                have e17 : f_X8_isBargeHere_17 N h2 51 (nI s) = some (0, hf) := by
                  unfold f_X8_isBargeHere_17
                  rw [f1', b2s, if_pos (Or.inl rfl)]
                unfold f_X8_isBargeHere
                rw [d7, d8, e17]
                by_cases l2 : lvl α < 2
                · rw [if_pos (show nI (lvl α) < 2 from nI_lt (b := 2) l2 (by decide))]
                · rw [if_neg (show ¬ nI (lvl α) < 2 from nI_nlt (b := 2) (by omega) (by omega)), if_pos (show nI (bgs α) = 6 by rw [show bgs α = 6 by omega]; rfl)]
              rw [e, b2s, if_pos (Or.inl rfl)]
              exact ⟨0, hf, rfl, f2, Fr_trans F12 f3⟩
          · rw [if_neg w2, Bool.eq_false_iff.mpr w2, if_pos (show b2i false = 0 by decide)]
            have w3 : wd t n s 3 = true := by
              rcases any with q | q | q | q
              · exact absurd q w0
              · exact absurd q w1
              · exact absurd q w2
              · exact q
            rw [if_pos w3]
            by_cases ok : 2 ≤ lvl α
            · rw [if_pos ⟨tt, ok⟩]
              obtain ⟨r, h3, k1, k2, k3⟩ := s_brk hN M2 Dm0 w3 ok (nI s)
              rw [k1, b2s, if_pos (RM_r k2)]
              exact ⟨r, h3, rfl, k2, Fr_trans F12 k3⟩
            · rw [if_neg (fun z => ok z.2)]
              have e : f_X8_isBrokenHere N h2 51 (nI s) = some (0, hf) := by
                unfold f_X8_isBrokenHere
                rw [d7, if_neg (show ¬ (2 : Int32) ≤ nI (lvl α) from nI_ge (b := 2) (by omega) (by decide)), f1', b2s, if_pos (Or.inl rfl)]
              rw [e, b2s, if_pos (Or.inl rfl)]
              exact ⟨0, hf, rfl, f2, Fr_trans F12 f3⟩
  unfold f_X8_clauseHere
  rw [i1, b2s, M1.2.2.1, if_pos rfl, M1.1.2.2.2.2.2]
  unfold f_X8_clauseHere_24
  rw [if_neg (by decide), W0, b2s]
  by_cases w0 : wd t n s 0 = true
  · rw [w0, if_neg (by decide)]; exact go (Or.inl w0)
  · rw [Bool.eq_false_iff.mpr w0, if_pos (show b2i false = 0 by decide), W1, b2s]
    by_cases w1 : wd t n s 1 = true
    · rw [w1, if_neg (by decide)]; exact go (Or.inr (Or.inl w1))
    · rw [Bool.eq_false_iff.mpr w1, if_pos (show b2i false = 0 by decide), W2, b2s]
      by_cases w2 : wd t n s 2 = true
      · rw [w2, if_neg (by decide)]; exact go (Or.inr (Or.inr (Or.inl w2)))
      · rw [Bool.eq_false_iff.mpr w2, if_pos (show b2i false = 0 by decide), W3, b2s]
        by_cases w3 : wd t n s 3 = true
        · rw [w3, if_neg (by decide)]; exact go (Or.inr (Or.inr (Or.inr w3)))
        · rw [Bool.eq_false_iff.mpr w3, if_pos (show b2i false = 0 by decide)]
          unfold f_X8_clauseHere_84
          obtain ⟨h2, j1, j2, j3⟩ := s_fail (c' := c + 1) M1 0
          have j1' : f_X8_fails h1 51 0 (nI s) = some (0, h2) := j1
          rw [if_pos rfl, j1', b2s, if_pos (Or.inl rfl)]
          unfold zCl
          rw [wx, wx, wx, wx, if_neg w0, if_neg w1, if_neg w2, if_neg w3]
          exact ⟨0, h2, rfl, j2, Fr_trans F1' j3⟩
