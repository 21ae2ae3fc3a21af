/-! ===== texts: both read a clause alike ===== -/
theorem yG_l {t : TY} {n : Nat} {fl : Int32} {y : YS} (e : y.1 = .inl fl) (hf : fl ≠ 0) : ∀ (D : Nat) (b : Bool) (d : Nat), yG t n D b d y = y := by
  intro D
  induction D with
  | zero => intro b d; rfl
  | succ D ih =>
    intro b d
    cases b with
    | true => rw [yG, ih, yTl_l 400 e hf]
    | false => rw [yG_false, xW_l e, xK_l e, if_neg (fun z => z.1.elim (by decide) (by decide)), if_neg (by decide), if_neg (by decide), yCmp_l e hf]
def PCl (r gl c : Nat) : Nat → Nat → Prop := fun a j => PW r gl a j ∨ (a = 51 ∧ j = 20) ∨ (a = 55 ∧ c < 12 ∧ (j = 24 * r + 2 * c ∨ j = 24 * r + 2 * c + 1)) ∨ (a = 56 ∧ j = r)
def nwc (c : Nat) (cs cn : List Int32) : List Int32 := if c = 0 then cs ++ cn else cs ++ cn ++ [100010]
/-- what came of a clause -/
def CO (t : TY) (n r gl c m p : Nat) (cs : List Int32) (h : Hp) (v : Int32) (y : YS) : Prop := (∃ fl, y.1 = .inl fl ∧ fl ≠ 0 ∧ v = 0 ∧ hI h 51 15 = fl) ∨ (c < 12 ∧ v = 1 ∧ ∃ q cn m', y = (.inr (skp t n q), nwc c cs cn, nI m') ∧ p < q ∧ MR t n r (gl + cn.length) (nwc c cs cn) 0 h q (nwc c cs cn) (nI m') ∧ QB cn (m' - m) ∧ m ≤ m' ∧ m' ≤ 60 ∧ hI h 51 20 = nI (c + 1) ∧ hI h 56 r = nI (c + 1) ∧ hI h 55 (24 * r + 2 * c) = nI gl ∧ hI h 55 (24 * r + 2 * c + 1) = nI (gl + cn.length) ∧ gl + cn.length ≤ 400 ∧ ∀ j, j < cn.length → sgC (cn.getD j 0) (hI h 53 (400 * r + (gl + j))))
theorem v_bar {N n r gl c m s : Nat} {t : TY} {h : Hp} {cs : List Int32} (hN : 5000 ≤ N) (hB : BY t n) (hc : c < 12) (w4 : wd t n s 4 = true) (M : MR t n r gl cs 0 h s cs (nI m)) (m60 : m ≤ 60) (e20 : hI h 51 20 = nI (c + 1)) (e56 : hI h 56 r = nI c) : ∃ v h', f_X8_isBarHere N h 51 = some (v, h') ∧ Fr (PCl r gl c) h h' ∧ CO t n r gl c m s cs h' v (if c = 0 then yG t n 30 true 0 (yA t n (.inr s, cs, nI m)) else yE 100010 (yG t n 30 true 0 (yA t n (.inr s, cs, nI m)))) ∧ (v = 0 ∨ v = 1) := by
  have hn4 := M.1.2.2.1
  have hb := M.2.2.2.2.2
  have hr := M.2.2.1.2
  have e17 := M.2.2.1.1
  have gt := lte_gt (by decide) w4
  obtain ⟨h1, i1, i2, i3⟩ := m_pw hN M.1
  have H1 := i2.1
  have M1 : MR t n r gl cs 1 h1 (lte t n s) cs (nI m) := MR_k (MR_PE i3 i2 (by omega) M) (by omega)
  have e54 : hI h1 54 r = nI gl := by
    obtain ⟨cn, c1, c2, c3, c4⟩ := M1.2.2.2.2.1
    have : cn = [] := by
      have := congrArg List.length c1
      rw [List.length_append] at this
      exact List.length_eq_zero_iff.mp (by omega)
    rw [c3, this]
    rfl
  have e56' : hI h1 56 r = nI c := by rw [i3.2.2.2 56 r (fun z => by unfold PE at z; omega)]; exact e56
  have e17' : hI h1 51 17 = nI r := M1.2.2.1.1
  have glb : gl ≤ cs.length := by obtain ⟨cn, c1, c2, c3, c4⟩ := M1.2.2.2.2.1; exact c2
  have hlt := i2.2.2.2.2.1
  unfold f_X8_isBarHere
  rw [i1, bs, pp_51_6 H1, bs, e17', ll_56 H1, if_inI hr (by omega), lts, nI_clamp (by omega), e56', show (24 : Int32) = nI 24 from rfl, pk_mul, n_2, pk_mul, nI_add, pp_51_5 H1, bs, pp_51_4 H1, bs, ll_54 H1, if_pos (show 0 ≤ nI r ∧ r < 7 from ⟨nI_pos' (by omega), by omega⟩), lts, e54, ll_55 H1, if_inI (by omega) (by omega), lts, nI_clamp (by omega)]
  have F2 : Fr (fun a j => a = 55 ∧ j = 24 * r + 2 * c) h1 (sI h1 55 (24 * r + 2 * c) (nI gl)) := Fr_sI _ _ _ _ ⟨rfl, rfl⟩
  have q2 : hI (sI h1 55 (24 * r + 2 * c) (nI gl)) 55 (24 * r + 2 * c) = nI gl := by rw [hI_sI, if_pos ⟨rfl, rfl⟩]
  generalize sI h1 55 (24 * r + 2 * c) (nI gl) = h2 at F2 q2 ⊢
  have T2 : TM t n h2 (lte t n s) := TM_Fr F2 (by omega) (by omega) (fun i => by omega) i2
  have M2 : MR t n r gl cs 1 h2 (lte t n s) cs (nI m) := MR_Fr F2 T2 (Nat.le_refl _) (by rw [F2.2.2.2 51 15 (by omega)]; exact M1.2.1) (by omega) (by omega) (fun j => by omega) (by omega) M1
  obtain ⟨v, h3, a1, a2, a3⟩ := v_tested hN hB M2
  have ya : yA t n (.inr s, cs, nI m) = (.inr (skp t n (lte t n s)), cs, nI m) := by
    show (Sum.inr (nt t n s), _) = _
    rw [nt_w (by decide) w4]
  have F03 : Fr (PCl r gl c) h h3 := Fr_trans (Fr_mono i3 (fun a j z => by unfold PE at z; unfold PCl PW PVr; omega)) (Fr_trans (Fr_mono F2 (fun a j z => by unfold PCl; omega)) (Fr_mono a2 (fun a j z => Or.inl z)))
  rw [ya, a1, b2s]
  rcases a3 with ⟨fl, d1, d2, d3, d4⟩ | ⟨q, cs', ct', d1, d2, d3, d4⟩
  · rw [d3, if_pos rfl]
    refine ⟨0, h3, rfl, F03, Or.inl ⟨fl, ?_, d2, rfl, d4⟩, Or.inl rfl⟩
    by_cases z : c = 0
    · rw [if_pos z]; exact d1
    · rw [if_neg z, yE_1]; exact d1
  · obtain ⟨T3, g15, g17, ⟨m', m1, m2, m3⟩, ⟨cn, c1, c2, c3, c4⟩, hb3⟩ := d4
    have H3 := T3.1
    have hq := T3.2.2.2.2.1
    have wf := (w_G (t := t) (n := n) hn4 30).2 0 (by decide) 1 (skp t n (lte t n s)) m cs (sc_le hlt) (by have := sc_ge (fun i => decide (t i = 32)) n (lte t n s); show _ ≤ sc _ _ _; omega) m60
    rw [d1] at wf ⊢
    rcases wf with ⟨f, z, _⟩ | ⟨s1, s2, cs1, cv, k1, k2, b1, b2', b3, b4, b5, b6, b7, b8⟩
    · cases z
    injection b1 with b1 x1
    injection b1 with b1
    injection x1 with x1 x2
    have x3 : m = k1 := nI_inj60 m60 (by omega) x2
    subst x1 x3
    injection b2' with y1 y2
    injection y2 with y2 y3
    have e2 : cn = cv := List.append_cancel_left (c1.symm.trans y2)
    have e3 : m' = k2 := nI_inj60 m1 b7 (m2.symm.trans y3)
    subst e2 e3
    have lc : cs'.length = cs.length + cn.length := by rw [c1, List.length_append]
    have g56 : hI h3 56 r = nI c := by rw [a2.2.2.2 56 r (fun z => by unfold PW PVr PU at z; omega), F2.2.2.2 56 r (by omega)]; exact e56'
    rw [d2, if_neg (by decide), pp_51_5 H3, bs, pp_51_4 H3, bs, g17.1, ll_54 H3, if_inI (by omega) (by omega), lts, nI_clamp (by omega), c3, ll_55 H3, nI_1, if_inI (by omega) (by omega), lts, nI_clamp (by omega)]
    have F4 : Fr (fun a j => a = 55 ∧ j = 24 * r + 2 * c + 1) h3 (sI h3 55 (24 * r + 2 * c + 1) (nI (gl + cn.length))) := Fr_sI _ _ _ _ ⟨rfl, rfl⟩
    have q4 : hI (sI h3 55 (24 * r + 2 * c + 1) (nI (gl + cn.length))) 55 (24 * r + 2 * c + 1) = nI (gl + cn.length) := by rw [hI_sI, if_pos ⟨rfl, rfl⟩]
    generalize sI h3 55 (24 * r + 2 * c + 1) (nI (gl + cn.length)) = h4 at F4 q4 ⊢
    have H4 := Fr_SHP F4 H3
    rw [pp_51_6 H4, bs, F4.2.2.2 51 17 (by omega), g17.1, ll_56 H4, if_inI hr (by omega), lts, nI_clamp (by omega), F4.2.2.2 56 r (by omega), g56, nI_1, if_pos (show 0 ≤ nI r ∧ r < 6 from ⟨nI_pos' (by omega), hr⟩), lts]
    have F5 : Fr (fun a j => a = 56 ∧ j = r) h4 (sI h4 56 r (nI (c + 1))) := Fr_sI _ _ _ _ ⟨rfl, rfl⟩
    have q5 : hI (sI h4 56 r (nI (c + 1))) 56 r = nI (c + 1) := by rw [hI_sI, if_pos ⟨rfl, rfl⟩]
    generalize sI h4 56 r (nI (c + 1)) = h5 at F5 q5 ⊢
    have F35 : Fr (fun a j => (a = 55 ∧ j = 24 * r + 2 * c + 1) ∨ (a = 56 ∧ j = r)) h3 h5 := Fr_trans (Fr_mono F4 (fun a j z => Or.inl z)) (Fr_mono F5 (fun a j z => Or.inr z))
    have T5 : TM t n h5 q := TM_Fr F35 (by omega) (by omega) (fun i => by omega) T3
    have M5 : MR t n r (gl + cn.length) (nwc c cs cn) 0 h5 q (nwc c cs cn) (nI m') := by
      refine ⟨T5, by rw [F35.2.2.2 51 15 (by omega)]; exact g15, ⟨by rw [F35.2.2.2 51 17 (by omega)]; exact g17.1, g17.2⟩, ⟨m', m1, rfl, by rw [F35.2.2.2 51 18 (by omega), m3, m2]⟩, ⟨[], by rw [List.append_nil], ?_, by rw [F35.2.2.2 54 r (by omega)]; exact c3, fun j hj => absurd hj (Nat.not_lt_zero j)⟩, ?_⟩
      · unfold nwc
        by_cases z : c = 0
        · rw [if_pos z, List.length_append]; omega
        · rw [if_neg z, List.length_append, List.length_append]; omega
      · unfold nwc
        by_cases z : c = 0
        · rw [if_pos z, List.length_append]; omega
        · rw [if_neg z, List.length_append, List.length_append, List.length_singleton]; omega
    refine ⟨1, h5, rfl, Fr_trans F03 (Fr_mono F35 (fun a j z => by unfold PCl; omega)), Or.inr ⟨hc, rfl, q, cn, m', ?_, by omega, M5, b8, b6, b7, ?_, q5, ?_, ?_, by omega, fun j hj => by rw [F35.2.2.2 53 _ (by omega)]; exact c4 j hj⟩, Or.inr rfl⟩
    · unfold nwc
      by_cases z : c = 0
      · rw [if_pos z, if_pos z, c1, m2]
      · rw [if_neg z, if_neg z, yE_r (by omega), c1, m2]
    · rw [F35.2.2.2 51 20 (by omega), a2.2.2.2 51 20 (fun z => by unfold PW PVr PU at z; omega), F2.2.2.2 51 20 (by omega), i3.2.2.2 51 20 (fun z => by unfold PE at z; omega)]
      exact e20
    · rw [F35.2.2.2 55 _ (by omega), a2.2.2.2 55 _ (fun z => by unfold PW PVr PU at z; omega)]
      exact q2
    · rw [F5.2.2.2 55 _ (by omega)]
      exact q4
theorem v_clause {N n r gl c f m p : Nat} {t : TY} {h : Hp} {cs : List Int32} (hN : 5000 ≤ N) (hB : BY t n) (hc : c + f = 12) (M : MR t n r gl cs 0 h p cs (nI m)) (m60 : m ≤ 60) (e20 : hI h 51 20 = nI c) (e56 : hI h 56 r = nI c) : ∃ v h', f_X8_clauseHere N h 51 = some (v, h') ∧ Fr (PCl r gl c) h h' ∧ CO t n r gl c m p cs h' v (yCs t n (decide (0 < f)) (decide (f = 12)) (.inr (skp t n p), cs, nI m)) := by
  obtain ⟨h1, i1, i2, i3⟩ := m_see hN M.1
  have hps : p ≤ skp t n p := sc_ge _ _ _
  have hs0 : skp t n (skp t n p) = skp t n p := sc_fix M.1.2.2.2.2.1
  have M1 := MR_PE i3 i2 hps M
  have hn4 := M.1.2.2.1
  have hr := M.2.2.1.2
  have e20' : hI h1 51 20 = nI c := by rw [i3.2.2.2 51 20 (fun z => by unfold PE at z; omega)]; exact e20
  have e56' : hI h1 56 r = nI c := by rw [i3.2.2.2 56 r (fun z => by unfold PE at z; omega)]; exact e56
  generalize skp t n p = s at i1 i2 hps hs0 M1 ⊢
  have hsn := i2.2.2.2.2.1
  have FE : Fr (PCl r gl c) h h1 := Fr_mono i3 (fun a j z => by unfold PE at z; unfold PCl PW PVr; omega)
  -- a fault at the clause's begin
  have bad : ∀ k, k ≤ 4 → (yCs t n (decide (0 < f)) (decide (f = 12)) (.inr s, cs, nI m)).1 = .inl (flt s (nI k)) → ∃ v h', b2 (f_X8_fails h1 51 (nI k) (nI s)) (fun r28 h29 => if r28 = 0 ∨ r28 = 1 then (some ((r28, h29))) else none) = some (v, h') ∧ Fr (PCl r gl c) h h' ∧ CO t n r gl c m p cs h' v (yCs t n (decide (0 < f)) (decide (f = 12)) (.inr s, cs, nI m)) := by
    intro k hk e
    obtain ⟨h3, j1, j2, j3⟩ := m_fails M1.2.1 (nI k) s
    rw [j1, b2s, if_pos (Or.inl rfl)]
    exact ⟨0, h3, rfl, Fr_trans FE (Fr_mono j3 (fun a j z => by unfold PCl PW PVr; omega)), Or.inl ⟨_, e, flt_ne (by omega) hk, rfl, j2⟩⟩
  have ycs : ∀ k, (yBar t n (decide (0 < f)) (.inr s, cs, nI m)).1 = .inl (flt s (nI k)) → k ≤ 4 → (yCs t n (decide (0 < f)) (decide (f = 12)) (.inr s, cs, nI m)).1 = .inl (flt s (nI k)) := by
    intro k e hk
    have hf : flt s (nI k) ≠ 0 := flt_ne (by omega) hk
    unfold yCs
    by_cases z : decide (f = 12) = true
    · rw [if_pos z, yG_l e hf]; exact e
    · rw [if_neg z, yE_1, yG_l e hf]; exact e
  unfold f_X8_clauseHere f_X8_clauseHere_24
  rw [i1, b2s, M1.2.2.1.1, if_neg (show ¬ nI r = 6 from fun z => by have := (nI_eq (a := r) (b := 6) (by omega) (by decide)).mp z; omega), if_pos rfl, m_word0 hN (by decide) cw_4 i2 hs0, b2s]
  unfold f_X8_clauseHere_84
  rw [b_if, i2.2.2.2.2.2]
  by_cases w4 : wd t n s 4 = true
  · rw [if_pos w4, if_pos rfl, e20']
    unfold f_X8_clauseHere_111
    by_cases c12 : c = 12
    · rw [if_pos (show nI c = 12 by rw [c12]; rfl)]
      refine bad 4 (by decide) (ycs 4 ?_ (by decide))
      unfold yBar
      rw [if_pos (show xW t n 4 (Sum.inr s, cs, nI m).1 = true from w4), if_neg (by rw [decide_eq_false (by omega)]; decide)]
      rfl
    · rw [if_neg (show ¬ nI c = 12 from fun z => c12 ((nI_eq (a := c) (b := 12) (by omega) (by decide)).mp z)), lts, e20', nI_1]
      have F2 : Fr (fun a j => a = 51 ∧ j = 20) h1 (sI h1 51 20 (nI (c + 1))) := Fr_sI _ _ _ _ ⟨rfl, rfl⟩
      have q2 : hI (sI h1 51 20 (nI (c + 1))) 51 20 = nI (c + 1) := by rw [hI_sI, if_pos ⟨rfl, rfl⟩]
      generalize sI h1 51 20 (nI (c + 1)) = h2 at F2 q2 ⊢
      have T2 : TM t n h2 s := TM_Fr F2 (by omega) (by omega) (fun i => by omega) i2
      have M2 : MR t n r gl cs 0 h2 s cs (nI m) := MR_Fr F2 T2 (Nat.le_refl _) (by rw [F2.2.2.2 51 15 (by omega)]; exact M1.2.1) (by omega) (by omega) (fun j => by omega) (by omega) M1
      obtain ⟨v, h3, a1, a2, a3, a4⟩ := v_bar hN hB (show c < 12 by omega) w4 M2 m60 q2 (by rw [F2.2.2.2 56 r (by omega)]; exact e56')
      rw [if_pos rfl, a1, b2s, if_pos a4]
      refine ⟨v, h3, rfl, Fr_trans FE (Fr_trans (Fr_mono F2 (fun a j z => by unfold PCl; omega)) a2), ?_⟩
      have ey : yCs t n (decide (0 < f)) (decide (f = 12)) (.inr s, cs, nI m) = (if c = 0 then yG t n 30 true 0 (yA t n (.inr s, cs, nI m)) else yE 100010 (yG t n 30 true 0 (yA t n (.inr s, cs, nI m)))) := by
        unfold yCs yBar
        rw [if_pos (show xW t n 4 (Sum.inr s, cs, nI m).1 = true from w4), if_pos (show decide (0 < f) = true from decide_eq_true (by omega))]
        by_cases z : c = 0
        · rw [if_pos z, if_pos (show decide (f = 12) = true from decide_eq_true (by omega))]
        · rw [if_neg z, if_neg (show ¬ decide (f = 12) = true by rw [decide_eq_false (by omega)]; decide)]
      rw [ey]
      rcases a3 with a3 | ⟨g0, g1, q, cn, m', g2, g3, g4⟩
      · exact Or.inl a3
      · exact Or.inr ⟨g0, g1, q, cn, m', g2, by omega, g4⟩
  · rw [if_neg w4]
    refine bad 0 (by decide) (ycs 0 ?_ (by decide))
    unfold yBar
    rw [if_neg (show ¬ xW t n 4 (Sum.inr s, cs, nI m).1 = true from w4)]
    rfl
