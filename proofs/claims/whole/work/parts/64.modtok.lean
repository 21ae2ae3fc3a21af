/-! ===== texts: the reference goes from sign to sign ===== -/
def TM (t : TY) (n : Nat) (h : Hp) (p : Nat) : Prop := SHP h ∧ hI h 51 1 = nI n ∧ n ≤ 400 ∧ (∀ i, i < n → hI h 52 i = t i) ∧ p ≤ n ∧ hI h 51 14 = nI p
def PE : Nat → Nat → Prop := fun a j => a = 51 ∧ j = 14
theorem TM_Fr {P : Nat → Nat → Prop} {t : TY} {n p : Nat} {a b : Hp} (F : Fr P a b) (h1 : ¬ P 51 1) (h2 : ¬ P 51 14) (h3 : ∀ i, ¬ P 52 i) (T : TM t n a p) : TM t n b p := by
  obtain ⟨H, e1, hn, e2, hp, e14⟩ := T
  exact ⟨Fr_SHP F H, by rw [F.2.2.2 _ _ h1]; exact e1, hn, fun i hi => by rw [F.2.2.2 _ _ (h3 i)]; exact e2 i hi, hp, by rw [F.2.2.2 _ _ h2]; exact e14⟩
theorem TM_set {t : TY} {n p q : Nat} {h : Hp} (hq : q ≤ n) (T : TM t n h p) : TM t n (sI h 51 14 (nI q)) q ∧ Fr PE h (sI h 51 14 (nI q)) := by
  obtain ⟨H, e1, hn, e2, hp, e14⟩ := T
  have F : Fr PE h (sI h 51 14 (nI q)) := Fr_sI _ _ _ _ ⟨rfl, rfl⟩
  exact ⟨⟨Fr_SHP F H, by rw [F.2.2.2 51 1 (fun z => by unfold PE at z; omega)]; exact e1, hn, fun i hi => by rw [F.2.2.2 52 i (fun z => by unfold PE at z; omega)]; exact e2 i hi, hq, by rw [hI_sI, if_pos ⟨rfl, rfl⟩]⟩, F⟩
theorem m_see_l {N n : Nat} {t : TY} : ∀ (m p k : Nat) (h : Hp), n - p ≤ m → m < k → TM t n h p → ∃ h', f_X8_see_0 N k h 51 = some (sg t n (skp t n p), h') ∧ TM t n h' (skp t n p) ∧ Fr PE h h' := by
  intro m
  have stop : ∀ (p k : Nat) (h : Hp), 0 < k → TM t n h p → ¬ (p < n ∧ t p = 32) → f_X8_see_0 N k h 51 = some (sg t n p, h) := by
    intro p k h hk T c
    obtain ⟨H, e1, hn, e2, hp, e14⟩ := T
    obtain ⟨k, rfl⟩ : ∃ j, k = j + 1 := ⟨k - 1, by omega⟩
    unfold sg
    by_cases l : n ≤ p
    · rw [f_X8_see_0, e1, e14, if_pos (nI_le l (by omega)), if_pos l]
      unfold f_X8_see_38
      rw [e1, e14, if_pos (nI_le l (by omega))]
    · rw [f_X8_see_0, e1, e14, if_neg (nI_ge (by omega) (by omega)), if_neg l, pp_51_0 H, bs, ll_52 H, if_inI (by omega) (by omega), nI_clamp (by omega), e2 p (by omega), if_neg (fun z => c ⟨by omega, z⟩)]
      unfold f_X8_see_38
      rw [e1, e14, if_neg (nI_ge (by omega) (by omega)), pp_51_0 H, bs, ll_52 H, if_inI (by omega) (by omega), nI_clamp (by omega), e2 p (by omega)]
  induction m with
  | zero =>
    intro p k h hm hk T
    have e : skp t n p = p := sc_stop (by omega)
    rw [e]
    exact ⟨h, stop p k h (by omega) T (by omega), T, Fr_refl h⟩
  | succ m ih =>
    intro p k h hm hk T
    by_cases c : p < n ∧ t p = 32
    · have e : skp t n p = skp t n (p + 1) := sc_step c.1 (decide_eq_true c.2)
      obtain ⟨T1, F1⟩ := TM_set (q := p + 1) (by omega) T
      obtain ⟨H, e1, hn, e2, hp, e14⟩ := T
      obtain ⟨k, rfl⟩ : ∃ j, k = j + 1 := ⟨k - 1, by omega⟩
      have e9 : f_X8_see_0 N (k + 1) h 51 = f_X8_see_0 N k (sI h 51 14 (nI (p + 1))) 51 := by
        rw [f_X8_see_0, e1, e14, if_neg (nI_ge (by omega) (by omega)), pp_51_0 H, bs, ll_52 H, if_inI (by omega) (by omega), nI_clamp (by omega), e2 p (by omega), if_pos c.2, lts, nI_1]
      generalize sI h 51 14 (nI (p + 1)) = h1 at T1 F1 e9
      obtain ⟨h', i1, i2, i3⟩ := ih (p + 1) k h1 (by omega) (by omega) T1
      rw [e]
      exact ⟨h', by rw [e9, i1], i2, Fr_trans F1 i3⟩
    · have e : skp t n p = p := sc_stop (fun z => c ⟨z.1, of_decide_eq_true z.2⟩)
      rw [e]
      exact ⟨h, stop p k h (by omega) T c, T, Fr_refl h⟩
theorem m_see {N n p : Nat} {t : TY} {h : Hp} (hN : 5000 ≤ N) (T : TM t n h p) : ∃ h', f_X8_see N h 51 = some (sg t n (skp t n p), h') ∧ TM t n h' (skp t n p) ∧ Fr PE h h' := by
  have hn := T.2.2.1
  exact m_see_l (N := N) (n - p) p N h (Nat.le_refl _) (by omega) T
theorem m_pw_l {N n : Nat} {t : TY} : ∀ (m p k : Nat) (h : Hp), n - p ≤ m → m < k → TM t n h p → ∃ h', f_X8_passWord_0 N k h 51 = some h' ∧ TM t n h' (lte t n p) ∧ Fr PE h h' := by
  intro m
  have stop : ∀ (p k : Nat) (h : Hp), 0 < k → TM t n h p → ¬ (p < n ∧ isL (t p) = true) → f_X8_passWord_0 N k h 51 = some h := by
    intro p k h hk T c
    obtain ⟨H, e1, hn, e2, hp, e14⟩ := T
    obtain ⟨k, rfl⟩ : ∃ j, k = j + 1 := ⟨k - 1, by omega⟩
    have z : (decide (p < n) && isL (t p)) = false := by
      rw [Bool.eq_false_iff]
      intro z
      rw [Bool.and_eq_true, decide_eq_true_iff] at z
      exact c z
    rw [f_X8_passWord_0, e14, m_isL H e1 hn e2 hp, bs, z, if_pos (show b2i false = 0 by decide)]
  induction m with
  | zero =>
    intro p k h hm hk T
    have e : lte t n p = p := sc_stop (by omega)
    rw [e]
    exact ⟨h, stop p k h (by omega) T (by omega), T, Fr_refl h⟩
  | succ m ih =>
    intro p k h hm hk T
    by_cases c : p < n ∧ isL (t p) = true
    · have e : lte t n p = lte t n (p + 1) := sc_step c.1 c.2
      obtain ⟨T1, F1⟩ := TM_set (q := p + 1) (by omega) T
      obtain ⟨H, e1, hn, e2, hp, e14⟩ := T
      obtain ⟨k, rfl⟩ : ∃ j, k = j + 1 := ⟨k - 1, by omega⟩
      have e9 : f_X8_passWord_0 N (k + 1) h 51 = f_X8_passWord_0 N k (sI h 51 14 (nI (p + 1))) 51 := by
        rw [f_X8_passWord_0, e14, m_isL H e1 hn e2 hp, bs, c.2, decide_eq_true c.1, if_neg (show ¬ b2i (true && true) = 0 by decide), lts, nI_1]
      generalize sI h 51 14 (nI (p + 1)) = h1 at T1 F1 e9
      obtain ⟨h', i1, i2, i3⟩ := ih (p + 1) k h1 (by omega) (by omega) T1
      rw [e]
      exact ⟨h', by rw [e9, i1], i2, Fr_trans F1 i3⟩
    · have e : lte t n p = p := sc_stop c
      rw [e]
      exact ⟨h, stop p k h (by omega) T c, T, Fr_refl h⟩
theorem m_pw {N n p : Nat} {t : TY} {h : Hp} (hN : 5000 ≤ N) (T : TM t n h p) : ∃ h', f_X8_passWord N h 51 = some h' ∧ TM t n h' (lte t n p) ∧ Fr PE h h' := by
  have hn := T.2.2.1
  exact m_pw_l (N := N) (n - p) p N h (Nat.le_refl _) (by omega) T
theorem isL_nat {v : Int32} (h : isL v = true) : 97 ≤ v.toNatClampNeg ∧ v.toNatClampNeg ≤ 122 ∧ v = nI v.toNatClampNeg := by
  unfold isL at h
  by_cases c : v < 97
  · rw [if_pos c] at h; cases h
  · rw [if_neg c] at h
    by_cases c2 : 122 < v
    · rw [if_pos c2] at h; cases h
    · have c' : (97 : Int32) ≤ v := Int32.not_lt.mp c
      obtain ⟨m, m1, rfl⟩ := i_nat (v := v) (fun z => c (Int32.lt_trans z (by decide)))
      rw [nI_clamp m1]
      refine ⟨?_, ?_, rfl⟩
      · by_cases z : 97 ≤ m
        · exact z
        · exact absurd (show nI m < (97 : Int32) from nI_lt (b := 97) (by omega) (by decide)) c
      · by_cases z : m ≤ 122
        · exact z
        · exact absurd (show (122 : Int32) < nI m from nI_lt (a := 122) (by omega) m1) c2
theorem m_word_l {N n s w : Nat} {t : TY} {h : Hp} (hw : w < 18) (T : TM t n h s) (hk0 : lte t n s - s < 8 → True) : ∀ (m j k : Nat), j + m = lte t n s - s → m < k → f_X8_isWord_10 N k h 51 (cw w) (lN (wkN (fun i => (t (s + i)).toNatClampNeg) (min j 8))) (nI j) = some (b2i (wd t n s w), h) := by
  obtain ⟨H, e1, hn, e2, hp, e14⟩ := T
  have hle : lte t n s ≤ n := sc_le hp
  have hge : s ≤ lte t n s := sc_ge _ _ _
  have hl := str_len w hw
  have let' : ∀ i, i < lte t n s - s → isL (t (s + i)) = true := fun i hi => sc_in (c := fun i => isL (t i)) hp (i := s + i) (by omega) (by show s + i < lte t n s; omega)
  intro m
  induction m with
  | zero =>
    intro j k hj hk
    obtain ⟨k, rfl⟩ : ∃ j, k = j + 1 := ⟨k - 1, by omega⟩
    have z : (decide (s + j < n) && isL (t (s + j))) = false := by
      have := sc_end (c := fun i => isL (t i)) hp
      rw [Bool.eq_false_iff]
      intro z
      rw [Bool.and_eq_true, decide_eq_true_iff] at z
      apply this
      rw [show sc (fun i => isL (t i)) n s = s + j by show lte t n s = _; omega]
      exact z
    rw [f_X8_isWord_10, e14, nI_add, m_isL H e1 hn e2 (by omega), bs, z, if_pos (show b2i false = 0 by decide)]
    by_cases j0 : j = 0
    · subst j0
      rw [if_pos (show nI 0 ≤ 0 by decide)]
      have : wd t n s w = false := by
        rw [Bool.eq_false_iff]
        intro y
        have := ((wd_iff t n s w).mp y).1
        omega
      rw [this]
      rfl
    · rw [if_neg (show ¬ nI j ≤ 0 from nI_ge (a := 0) (by omega) (by omega))]
      by_cases j8 : 8 ≤ j
      · rw [if_pos (show (8 : Int32) ≤ nI j from nI_le (a := 8) j8 (by omega))]
        have : wd t n s w = false := by
          rw [Bool.eq_false_iff]
          intro y
          have := ((wd_iff t n s w).mp y).1
          omega
        rw [this]
        rfl
      · rw [if_neg (show ¬ (8 : Int32) ≤ nI j from nI_ge (b := 8) (by omega) (by decide)), show min j 8 = j by omega]
        have f1 : ∀ i, i < j → 1 ≤ (fun i => (t (s + i)).toNatClampNeg) i ∧ (fun i => (t (s + i)).toNatClampNeg) i < 256 := fun i hi => by
          have := isL_nat (let' i (by omega))
          show 1 ≤ (t (s + i)).toNatClampNeg ∧ (t (s + i)).toNatClampNeg < 256
          omega
        have f2 : ∀ i, i < wdL w → 1 ≤ (fun i => (wdB w i).toNatClampNeg) i ∧ (fun i => (wdB w i).toNatClampNeg) i < 256 := fun i hi => by
          have := str_ok w hw i hi
          show 1 ≤ (wdB w i).toNatClampNeg ∧ (wdB w i).toNatClampNeg < 256
          omega
        have bd : ∀ (f : Nat → Nat) k, (∀ i, i < k → 1 ≤ f i ∧ f i < 256) → k < 8 → wkN f k < 2 ^ 63 := by
          intro f k hf hk
          have e : wkN f k = wkN (fun i => if i < k then f i else 0) k := wkN_congr k (fun i hi => by show f i = if i < k then f i else 0; rw [if_pos hi])
          rw [e]
          have h1 := wkN_lt (f := fun i => if i < k then f i else 0) (fun i => by
            show (if i < k then f i else 0) < 256
            by_cases c : i < k
            · rw [if_pos c]; exact (hf i c).2
            · rw [if_neg c]; decide) k
          have h2 : 256 ^ k ≤ 256 ^ 7 := Nat.pow_le_pow_right (by decide) (by omega)
          have h3 : 256 ^ 7 < 2 ^ 63 := by decide
          omega
        by_cases y : wd t n s w = true
        · obtain ⟨y1, y2⟩ := (wd_iff t n s w).mp y
          have ej : j = wdL w := by omega
          rw [if_pos ((lg_cmp_eq _ _).mpr ?_), y]
          · rfl
          · unfold cw
            rw [ej]
            congr 1
            exact wkN_congr _ (fun i hi => by show (t (s + i)).toNatClampNeg = _; rw [y2 i hi])
        · rw [if_neg (fun q => y ?_), Bool.eq_false_iff.mpr y]
          · rfl
          · have q' := (lg_cmp_eq _ _).mp q
            unfold cw at q'
            obtain ⟨q1, q2⟩ := wkN_inj j (wdL w) f1 f2 (lN_inj (bd _ _ f1 (by omega)) (bd _ _ f2 (by omega)) q')
            refine (wd_iff t n s w).mpr ⟨by omega, fun i hi => ?_⟩
            have a1 := (isL_nat (let' i (by omega))).2.2
            have a2 := (str_ok w hw i hi).2.2.2.2.2
            have a3 : (t (s + i)).toNatClampNeg = (wdB w i).toNatClampNeg := q2 i (by omega)
            rw [a1, a2, a3]
  | succ m ih =>
    intro j k hj hk
    obtain ⟨k, rfl⟩ : ∃ j, k = j + 1 := ⟨k - 1, by omega⟩
    have l := let' j (by omega)
    rw [f_X8_isWord_10, e14, nI_add, m_isL H e1 hn e2 (by omega), bs, l, decide_eq_true (show s + j < n by omega), if_neg (show ¬ b2i (true && true) = 0 by decide)]
    by_cases j8 : 8 ≤ j
    · rw [if_pos (show (8 : Int32) ≤ nI j from nI_le (a := 8) j8 (by omega))]
      unfold f_X8_isWord_50
      rw [nI_1, show min j 8 = min (j + 1) 8 by omega]
      exact ih (j + 1) k (by omega) (by omega)
    · rw [if_neg (show ¬ (8 : Int32) ≤ nI j from nI_ge (b := 8) (by omega) (by decide)), pp_51_0 H, bs, ll_52 H, if_inI (by omega) (by omega), nI_clamp (by omega), e2 (s + j) (by omega), lts]
      unfold f_X8_isWord_50
      have a := isL_nat l
      rw [nI_1, show min j 8 = j by omega]
      have e : (lN (wkN (fun i => (t (s + i)).toNatClampNeg) j) <<< ((8 : Int32).toInt64 &&& 63)) ||| (t (s + j)).toInt64 = lN (wkN (fun i => (t (s + i)).toNatClampNeg) (min (j + 1) 8)) := by
        rw [show min (j + 1) 8 = j + 1 by omega, wkN]
        have a' : (t (s + j)).toInt64 = (nI (t (s + j)).toNatClampNeg).toInt64 := congrArg Int32.toInt64 a.2.2
        rw [a', lN_put (by omega)]
      rw [e]
      exact ih (j + 1) k (by omega) (by omega)
theorem m_word {N n p w : Nat} {t : TY} {h : Hp} {c : Int64} (hN : 5000 ≤ N) (hw : w < 18) (hc : c = cw w) (T : TM t n h p) : ∃ h', f_X8_isWord N h 51 c = some (b2i (wd t n (skp t n p) w), h') ∧ TM t n h' (skp t n p) ∧ Fr PE h h' := by
  obtain ⟨h', i1, i2, i3⟩ := m_see hN T
  have hn := T.2.2.1
  have hle : lte t n (skp t n p) ≤ n := sc_le i2.2.2.2.2.1
  unfold f_X8_isWord
  rw [i1, b2s, hc]
  refine ⟨h', ?_, i2, i3⟩
  have := m_word_l (N := N) hw i2 (fun _ => trivial) (lte t n (skp t n p) - skp t n p) 0 N (by omega) (by omega)
  exact this
