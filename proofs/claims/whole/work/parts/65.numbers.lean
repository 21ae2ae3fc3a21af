/-! ===== texts: numbers ===== -/
def nmv (t : TY) (n s : Nat) : Int32 := nv t s (dge t n s - s)
abbrev nok (t : TY) (n s : Nat) (lo hi : Int32) : Prop := s < n ∧ isD (t s) = true ∧ dge t n s - s ≤ 5 ∧ lo ≤ nmv t n s ∧ nmv t n s ≤ hi
def nfl (t : TY) (n s : Nat) : Int32 := flt s (nI (if s < n ∧ isD (t s) = true then 1 else 0))
theorem nfl_ne {t : TY} {n s : Nat} (hs : s ≤ 400) : nfl t n s ≠ 0 := flt_ne hs (by by_cases c : s < n ∧ isD (t s) = true <;> simp [c])
theorem kd_d {t : TY} {n s : Nat} (hs : s < n) (d : isD (t s) = true) : kd t n s = 257 := by
  unfold kd
  rw [if_neg (by omega), if_pos d]
theorem bh_d {t : TY} {n s : Nat} (hs : s < n) (d : isD (t s) = true) : bh t n s = dge t n s := by
  unfold bh
  rw [if_neg (by omega), if_pos d]
theorem kd_nd {t : TY} {n s : Nat} (l : ¬ (s < n ∧ isD (t s) = true)) : ¬ kd t n s = 257 := by
  unfold kd
  by_cases c : n ≤ s
  · rw [if_pos c]; decide
  · rw [if_neg c, if_neg (fun z => l ⟨by omega, z⟩)]
    by_cases d : isL (t s) = true
    · rw [if_pos d]; decide
    · rw [if_neg d]
      by_cases w : two t n s = true
      · rw [if_pos w]
        by_cases e : t s = 60
        · rw [if_pos e]; decide
        · rw [if_neg e]; decide
      · rw [if_neg w]; exact (sg_lt _).2.1
theorem c_num {N n s : Nat} {t : TY} {h : Hp} {lo hi : Int32} (hN : 5000 ≤ N) (T : TC t n h s) (hlo : 0 ≤ lo) : ∃ v h', f_X4_readNumber N h 29 lo hi = some (v, h') ∧ Fr PT h h' ∧ ((nok t n s lo hi ∧ v = nmv t n s ∧ TC t n h' (nt t n s)) ∨ (¬ nok t n s lo hi ∧ v = lo ∧ TF h' (nfl t n s))) := by
  have T' := T
  obtain ⟨H, e2, e1, hn, hs, e6, ek, e4, e5, e3, _⟩ := T
  unfold f_X4_readNumber
  rw [pp_29_0 H, bs, ek]
  by_cases l : s < n ∧ isD (t s) = true
  · rw [kd_d l.1 l.2, if_pos rfl, bs, e3 l.1 l.2]
    have bad : ¬ nok t n s lo hi → ∃ v h', f_X4_readNumber_41 N h 29 lo = some (v, h') ∧ Fr PT h h' ∧ ((nok t n s lo hi ∧ v = nmv t n s ∧ TC t n h' (nt t n s)) ∨ (¬ nok t n s lo hi ∧ v = lo ∧ TF h' (nfl t n s))) := by
      intro nk
      obtain ⟨h', i1, i2, i3⟩ := c_fail (k := 1) T' (by decide)
      have i1' : f_X6_fail h 1 1 = some h' := i1
      unfold f_X4_readNumber_41
      rw [pp_29_0 H, bs, i1', bs]
      refine ⟨lo, h', rfl, i3, Or.inr ⟨nk, rfl, ?_⟩⟩
      unfold nfl
      rw [if_pos l]
      exact i2
    unfold nm
    by_cases c5 : dge t n s - s ≤ 5
    · rw [if_pos c5, show nv t s (dge t n s - s) = nmv t n s from rfl]
      by_cases c1 : nmv t n s < lo
      · rw [if_pos c1]
        exact bad (fun z => Int32.not_lt.mpr z.2.2.2.1 c1)
      · rw [if_neg c1]
        by_cases c2 : nmv t n s ≤ hi
        · rw [if_pos c2, bs]
          obtain ⟨h', i1, i2, i3⟩ := c_adv hN T'
          rw [i1, bs]
          exact ⟨_, h', rfl, i3, Or.inl ⟨⟨l.1, l.2, c5, Int32.not_lt.mp c1, c2⟩, rfl, i2⟩⟩
        · rw [if_neg c2]
          exact bad (fun z => c2 z.2.2.2.2)
    · rw [if_neg c5, if_pos (Int32.lt_of_lt_of_le (by decide) hlo)]
      exact bad (fun z => c5 z.2.2.1)
  · rw [if_neg (kd_nd l), bs]
    obtain ⟨h', i1, i2, i3⟩ := c_fail (k := 0) T' (by decide)
    have i1' : f_X6_fail h 1 0 = some h' := i1
    rw [i1', bs]
    refine ⟨lo, h', rfl, i3, Or.inr ⟨fun z => l ⟨z.1, z.2.1⟩, rfl, ?_⟩⟩
    unfold nfl
    rw [if_neg l]
    exact i2
theorem f_num {N : Nat} {h : Hp} {f lo hi : Int32} (T : TF h f) : f_X4_readNumber N h 29 lo hi = some (lo, h) := by
  unfold f_X4_readNumber
  rw [pp_29_0 T.1, bs, T.2.2.2, if_neg (by decide), bs, f_fail T, bs]
def PNm : Nat → Nat → Prop := fun a j => a = 51 ∧ 14 ≤ j ∧ j ≤ 16
theorem m_fails {h : Hp} (e : hI h 51 15 = 0) (v : Int32) (s : Nat) : ∃ h', f_X8_fails h 51 v (nI s) = some (0, h') ∧ hI h' 51 15 = flt s v ∧ Fr (fun a j => a = 51 ∧ j = 15) h h' := by
  unfold f_X8_fails
  rw [e, if_pos rfl, lts]
  refine ⟨_, rfl, ?_, Fr_sI _ _ _ _ ⟨rfl, rfl⟩⟩
  rw [hI_sI, if_pos ⟨rfl, rfl⟩]
  rfl
theorem m_num_l {N n s : Nat} {t : TY} {lo hi : Int32} (hs : s < n) (hd : isD (t s) = true) : ∀ (m q k : Nat) (h : Hp), n - q ≤ m → m < k → TM t n h q → s ≤ q → q ≤ dge t n s → hI h 51 15 = 0 → ∃ h', f_X8_numberHere_34 N k h 51 lo hi (nI s) (nv t s (min (q - s) 5)) = some (b2i (decide (nok t n s lo hi)), h') ∧ Fr PNm h h' ∧ (nok t n s lo hi → hI h' 51 15 = 0 ∧ hI h' 51 16 = nmv t n s ∧ TM t n h' (dge t n s)) ∧ (¬ nok t n s lo hi → hI h' 51 15 = flt s 1) := by
  intro m
  have stop : ∀ (k : Nat) (h : Hp), 0 < k → TM t n h (dge t n s) → hI h 51 15 = 0 → ∃ h', f_X8_numberHere_34 N k h 51 lo hi (nI s) (nv t s (min (dge t n s - s) 5)) = some (b2i (decide (nok t n s lo hi)), h') ∧ Fr PNm h h' ∧ (nok t n s lo hi → hI h' 51 15 = 0 ∧ hI h' 51 16 = nmv t n s ∧ TM t n h' (dge t n s)) ∧ (¬ nok t n s lo hi → hI h' 51 15 = flt s 1) := by
    intro k h hk T e15
    have T' := T
    obtain ⟨H, e1, hn, e2, hp, e14⟩ := T
    obtain ⟨k, rfl⟩ : ∃ j, k = j + 1 := ⟨k - 1, by omega⟩
    have hge : s ≤ dge t n s := sc_ge _ _ _
    have z : (decide (dge t n s < n) && isD (t (dge t n s))) = false := by
      rw [Bool.eq_false_iff]
      intro z
      rw [Bool.and_eq_true, decide_eq_true_iff] at z
      exact sc_end (c := fun i => isD (t i)) (p := s) (by omega) z
    rw [f_X8_numberHere_34, e14, m_isD H e1 hn e2 hp, bs, z, if_pos (show b2i false = 0 by decide), lts]
    generalize hv : nv t s (min (dge t n s - s) 5) = v
    have F1 : Fr PNm h (sI h 51 16 v) := Fr_sI _ _ _ _ ⟨rfl, by decide, by decide⟩
    have q16 : hI (sI h 51 16 v) 51 16 = v := by rw [hI_sI, if_pos ⟨rfl, rfl⟩]
    have q15 : hI (sI h 51 16 v) 51 15 = 0 := by rw [hI_sI, if_neg (by omega)]; exact e15
    have q14 : hI (sI h 51 16 v) 51 14 = nI (dge t n s) := by rw [hI_sI, if_neg (by omega)]; exact e14
    have T1 : TM t n (sI h 51 16 v) (dge t n s) := TM_Fr (P := fun a j => a = 51 ∧ j = 16) (Fr_sI _ _ _ _ ⟨rfl, rfl⟩) (fun z => by omega) (fun z => by omega) (fun i z => by omega) T'
    generalize sI h 51 16 v = h1 at F1 q16 q15 q14 T1 ⊢
    have bad : ¬ nok t n s lo hi → ∃ h', f_X8_numberHere_117 N h1 51 (nI s) = some (b2i (decide (nok t n s lo hi)), h') ∧ Fr PNm h h' ∧ (nok t n s lo hi → hI h' 51 15 = 0 ∧ hI h' 51 16 = nmv t n s ∧ TM t n h' (dge t n s)) ∧ (¬ nok t n s lo hi → hI h' 51 15 = flt s 1) := by
      intro nk
      obtain ⟨h', i1, i2, i3⟩ := m_fails q15 1 s
      unfold f_X8_numberHere_117
      rw [i1, b2s, if_pos rfl, decide_eq_false nk]
      exact ⟨h', rfl, Fr_trans F1 (Fr_mono i3 (fun a j z => ⟨z.1, by omega, by omega⟩)), fun y => absurd y nk, fun _ => i2⟩
    rw [q14, pk_sub (by omega), show (5 : Int32) = nI 5 from rfl]
    by_cases c5 : 5 < dge t n s - s
    · rw [if_pos (nI_lt c5 (by omega))]
      exact bad (fun z => by have := z.2.2.1; omega)
    · rw [if_neg (nI_nlt (by omega) (by decide)), m_in, bs]
      have ev : v = nmv t n s := by rw [← hv, show min (dge t n s - s) 5 = dge t n s - s by omega]; rfl
      by_cases c1 : v < lo
      · rw [if_pos c1, if_pos rfl]
        exact bad (fun z => Int32.not_lt.mpr z.2.2.2.1 (ev ▸ c1))
      · rw [if_neg c1]
        by_cases c2 : hi < v
        · rw [if_pos c2, if_pos rfl]
          exact bad (fun z => Int32.not_lt.mpr z.2.2.2.2 (ev ▸ c2))
        · rw [if_neg c2, if_neg (by decide)]
          have nk : nok t n s lo hi := ⟨hs, hd, by omega, ev ▸ Int32.not_lt.mp c1, ev ▸ Int32.not_lt.mp c2⟩
          rw [decide_eq_true nk]
          exact ⟨h1, rfl, F1, fun _ => ⟨q15, by rw [q16, ev], T1⟩, fun y => absurd nk y⟩
  induction m with
  | zero =>
    intro q k h hm hk T h1 h2 e15
    have h3 : dge t n s ≤ n := sc_le (by omega)
    have e : q = dge t n s := by have := T.2.2.2.2.1; omega
    subst e
    exact stop k h (by omega) T e15
  | succ m ih =>
    intro q k h hm hk T h1 h2 e15
    have h3 : dge t n s ≤ n := sc_le (by omega)
    by_cases c : q = dge t n s
    · subst c
      exact stop k h (by omega) T e15
    · have dq : isD (t q) = true := sc_in (c := fun i => isD (t i)) (n := n) (p := s) (by omega) h1 (by show q < dge t n s; omega)
      obtain ⟨T1, F1⟩ := TM_set (q := q + 1) (by omega) T
      obtain ⟨H, e1, hn, e2, hp, e14⟩ := T
      obtain ⟨k, rfl⟩ : ∃ j, k = j + 1 := ⟨k - 1, by omega⟩
      have e9 : f_X8_numberHere_34 N (k + 1) h 51 lo hi (nI s) (nv t s (min (q - s) 5)) = f_X8_numberHere_34 N k (sI h 51 14 (nI (q + 1))) 51 lo hi (nI s) (nv t s (min (q + 1 - s) 5)) := by
        rw [f_X8_numberHere_34, e14, m_isD H e1 hn e2 hp, bs, dq, decide_eq_true (show q < n by omega), if_neg (show ¬ b2i (true && true) = 0 by decide), pk_sub (by omega), show (5 : Int32) = nI 5 from rfl]
        by_cases c5 : 5 ≤ q - s
        · rw [if_pos (nI_le c5 (by omega))]
          unfold f_X8_numberHere_75
          rw [lts, e14, nI_1, show min (q - s) 5 = min (q + 1 - s) 5 by omega]
        · rw [if_neg (nI_ge (by omega) (by decide)), pp_51_0 H, bs, ll_52 H, if_inI (by omega) (by omega), nI_clamp (by omega), e2 q (by omega), lts]
          unfold f_X8_numberHere_75
          rw [lts, e14, nI_1, show min (q - s) 5 = q - s by omega, show min (q + 1 - s) 5 = (q - s) + 1 by omega, nv, show s + (q - s) = q by omega, Int32.mul_comm]
      have q15 : hI (sI h 51 14 (nI (q + 1))) 51 15 = 0 := by rw [hI_sI, if_neg (by omega)]; exact e15
      generalize sI h 51 14 (nI (q + 1)) = h1 at T1 F1 e9 q15
      obtain ⟨h', i1, i2, i3, i4⟩ := ih (q + 1) k h1 (by omega) (by omega) T1 (by omega) (by omega) q15
      exact ⟨h', by rw [e9, i1], Fr_trans (Fr_mono F1 (fun a j z => ⟨z.1, by have := z.2; omega, by have := z.2; omega⟩)) i2, i3, i4⟩
theorem m_num {N n p : Nat} {t : TY} {h : Hp} {lo hi : Int32} (hN : 5000 ≤ N) (T : TM t n h p) (e15 : hI h 51 15 = 0) : ∃ h', f_X8_numberHere N h 51 lo hi = some (b2i (decide (nok t n (skp t n p) lo hi)), h') ∧ Fr PNm h h' ∧ (nok t n (skp t n p) lo hi → hI h' 51 15 = 0 ∧ hI h' 51 16 = nmv t n (skp t n p) ∧ TM t n h' (dge t n (skp t n p))) ∧ (¬ nok t n (skp t n p) lo hi → hI h' 51 15 = nfl t n (skp t n p)) := by
  obtain ⟨h1, i1, i2, i3⟩ := m_see hN T
  generalize skp t n p = s at i1 i2
  have q15 : hI h1 51 15 = 0 := by rw [i3.2.2.2 51 15 (fun z => by unfold PE at z; omega)]; exact e15
  have F1 : Fr PNm h h1 := Fr_mono i3 (fun a j z => ⟨z.1, by have := z.2; omega, by have := z.2; omega⟩)
  have i2' := i2
  obtain ⟨H, e1, hn, e2, hp, e14⟩ := i2
  unfold f_X8_numberHere
  rw [i1, b2s, e14, m_isD H e1 hn e2 hp, bs]
  by_cases l : s < n ∧ isD (t s) = true
  · have zz : (decide (s < n) && isD (t s)) = true := by rw [l.2, decide_eq_true l.1]; rfl
    rw [zz, if_neg (show ¬ b2i true = 0 by decide)]
    obtain ⟨h', j1, j2, j3, j4⟩ := m_num_l (N := N) (lo := lo) (hi := hi) l.1 l.2 (n - s) s N h1 (Nat.le_refl _) (by omega) i2' (Nat.le_refl _) (sc_ge _ _ _) q15
    rw [Nat.sub_self] at j1
    have j1' : f_X8_numberHere_34 N N h1 51 lo hi (nI s) 0 = some (b2i (decide (nok t n s lo hi)), h') := j1
    refine ⟨h', j1', Fr_trans F1 j2, j3, fun y => ?_⟩
    rw [j4 y]
    unfold nfl
    rw [if_pos l]
    rfl
  · have z : (decide (s < n) && isD (t s)) = false := by
      rw [Bool.eq_false_iff]
      intro z
      rw [Bool.and_eq_true, decide_eq_true_iff] at z
      exact l z
    have nk : ¬ nok t n s lo hi := fun y => l ⟨y.1, y.2.1⟩
    obtain ⟨h', j1, j2, j3⟩ := m_fails q15 0 s
    rw [z, if_pos (show b2i false = 0 by decide), j1, b2s, if_pos (Or.inl rfl), decide_eq_false nk]
    refine ⟨h', rfl, Fr_trans F1 (Fr_mono j3 (fun a j z => ⟨z.1, by omega, by omega⟩)), fun y => absurd y nk, fun _ => ?_⟩
    rw [j2]
    unfold nfl
    rw [if_neg l]
    rfl
