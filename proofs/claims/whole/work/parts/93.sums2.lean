/-! ===== texts: the reference reads a rule: terms and sums ===== -/
theorem v_t46 {N n r gl k s o : Nat} {t : TY} {h : Hp} {cb cs : List Int32} {ct c : Int32} {s9 : Hp → Nat → Option (Int32 × Hp)} (hN : 5000 ≤ N) (M : MR t n r gl cb k h s cs ct) (hs : s < n) (hb : bh t n s = s + 1) (hc : sgC c (nI o + 16 * 0)) : (∃ h3 fl, f_X8_term_46 N s9 h 51 (nI o) = some (0, h3) ∧ fl ≠ 0 ∧ hI h3 51 15 = fl ∧ (yVal t n (yA t n (.inr s, cs, ct))).1 = .inl fl ∧ Fr (PVr r gl) h h3) ∨ (∃ h5 p' cs' ct', f_X8_term_46 N s9 h 51 (nI o) = s9 h5 51 ∧ MR t n r gl cb k h5 p' cs' ct' ∧ yE c (yVal t n (yA t n (.inr s, cs, ct))) = (.inr (skp t n p'), cs', ct') ∧ s < p' ∧ Fr (PVr r gl) h h5) := by
  have T := M.1
  unfold f_X8_term_46
  rw [lts, T.2.2.2.2.2, nI_1]
  obtain ⟨T1, F1⟩ := TM_set (q := s + 1) (by omega) T
  generalize sI h 51 14 (nI (s + 1)) = h1 at T1 F1 ⊢
  have M1 : MR t n r gl cb (k + 1) h1 (s + 1) cs ct := MR_k (MR_PE F1 T1 (by omega) M) (by have := M.2.2.2.2.2; omega)
  obtain ⟨v, h3, i1, i2, i3⟩ := v_val hN M1
  have ya : yA t n (.inr s, cs, ct) = (.inr (skp t n (s + 1)), cs, ct) := by
    show (Sum.inr (nt t n s), _) = _
    unfold nt
    rw [hb]
  rw [ya, i1, b2s]
  rcases i2 with ⟨f, a1, a2, a3, a4⟩ | ⟨p', cs', ct', a1, a2, a3, a4⟩
  · left
    rw [a3, if_pos rfl]
    exact ⟨h3, f, rfl, a2, a4, a1, Fr_trans (PE_V F1) i3⟩
  · right
    obtain ⟨h5, u1, u2, u3⟩ := v_puts (c := c) (s := nI o) (v := 0) a4 hc
    have hp' := a4.1.2.2.2.2.1
    have hn4 := a4.1.2.2.1
    have hb' := a4.2.2.2.2.2
    rw [a2, if_neg (show ¬ (1 : Int32) = 0 by decide), u1, bs, a1, yE_r (by omega)]
    exact ⟨h5, p', cs' ++ [c], ct', rfl, u2, rfl, by omega, Fr_trans (PE_V F1) (Fr_trans i3 (PU_V u3))⟩
def TO (t : TY) (n r gl : Nat) (cb : List Int32) (k q g : Nat) (o : Int32) (h : Hp) (v : Int32) (y : YS) : Prop := (v = 0 ∧ ∃ fl, fl ≠ 0 ∧ hI h 51 15 = fl ∧ (ySl t n g o y).1 = .inl fl) ∨ (v = 1 ∧ ∃ p cs ct g', n - p ≤ g' ∧ q ≤ p ∧ MR t n r gl cb k h p cs ct ∧ ySl t n g o y = ySl t n g' o (.inr (skp t n p), cs, ct) ∧ xO t n (.inr (skp t n p)) ≠ 100002 ∧ xO t n (.inr (skp t n p)) ≠ 100003)
theorem sg_op {t : TY} {n s k : Nat} (hB : BY t n) (hk : k = 42 ∨ k = 43 ∨ k = 45 ∨ k = 47) (e : sg t n s = nI k) : s < n ∧ t s = nI k ∧ bh t n s = s + 1 := by
  have kk : kd t n s = nI k := (kd_sg (k := k) (by omega) (by omega) (by omega) (by omega) (by omega)).mpr e
  obtain ⟨s1, s2⟩ := sg_in e (by omega)
  exact ⟨s1, byte_eq (hB s s1) (by omega) s2, (bh_sg (by omega) kk).2.1⟩
theorem v_t9 {N n r gl k : Nat} {t : TY} {cb : List Int32} (o : Int32) (hN : 5000 ≤ N) (hB : BY t n) : ∀ (f g m : Nat) (h : Hp) (p : Nat) (cs : List Int32) (ct : Int32), n - p < f → n - p ≤ g → f ≤ m → MR t n r gl cb k h p cs ct → ∃ v h', f_X8_term_9 N m h 51 = some (v, h') ∧ Fr (PVr r gl) h h' ∧ TO t n r gl cb k p g o h' v (.inr (skp t n p), cs, ct) := by
  intro f
  induction f with
  | zero => intro g m h p cs ct hf; omega
  | succ f ih =>
    intro g m h p cs ct hf hg hm M
    obtain ⟨m, rfl⟩ : ∃ j, m = j + 1 := ⟨m - 1, by omega⟩
    obtain ⟨h2, i1, i2, i3⟩ := m_see hN M.1
    have hps : p ≤ skp t n p := sc_ge _ _ _
    have hs0 : skp t n (skp t n p) = skp t n p := sc_fix M.1.2.2.2.2.1
    have M2 := MR_PE i3 i2 hps M
    generalize skp t n p = s at i1 i2 hps hs0 M2 ⊢
    have T2 := M2.1
    have hn4 := T2.2.2.1
    have step : ∀ (o' : Nat) (c : Int32), s < n → bh t n s = s + 1 → sgC c (nI o' + 16 * 0) → xO t n (.inr s) = c → (c = 100002 ∨ c = 100003) → ∃ v h', f_X8_term_46 N (f_X8_term_9 N m) h2 51 (nI o') = some (v, h') ∧ Fr (PVr r gl) h h' ∧ TO t n r gl cb k p g o h' v (.inr s, cs, ct) := by
      intro o' c hs hb hc xo c2
      obtain ⟨g, rfl⟩ : ∃ j, g = j + 1 := ⟨g - 1, by omega⟩
      have es : ySl t n (g + 1) o (.inr s, cs, ct) = ySl t n g o (yE c (yVal t n (yA t n (.inr s, cs, ct)))) := by
        rw [ySl]
        show (if xO t n (.inr s) = -1 then _ else if xO t n (.inr s) = 100002 ∨ xO t n (.inr s) = 100003 then _ else _) = _
        rw [xo, if_neg (by rcases c2 with rfl | rfl <;> decide), if_pos c2]
      rcases v_t46 (s9 := f_X8_term_9 N m) hN M2 hs hb hc with ⟨h3, fl, a1, a2, a3, a4, a5⟩ | ⟨h5, p', cs', ct', a1, a2, a3, a4, a5⟩
      · refine ⟨0, h3, a1, Fr_trans (PE_V i3) a5, Or.inl ⟨rfl, fl, a2, a3, ?_⟩⟩
        rw [es, yE_l a4 a2, ySl_l g a4 a2]
        exact a4
      · obtain ⟨v, h6, b1, b2', b3⟩ := ih g m h5 p' cs' ct' (by omega) (by omega) (by omega) a2
        refine ⟨v, h6, by rw [a1, b1], Fr_trans (PE_V i3) (Fr_trans a5 b2'), ?_⟩
        rcases b3 with ⟨v0, fl, d1, d2, d3⟩ | ⟨v1, q, cs2, ct2, g2, d1, d2, d3, d4, d5⟩
        · exact Or.inl ⟨v0, fl, d1, d2, by rw [es, a3]; exact d3⟩
        · exact Or.inr ⟨v1, q, cs2, ct2, g2, d1, by omega, d3, by rw [es, a3]; exact d4, d5⟩
    obtain ⟨x2, x3, -, -, -⟩ := op_sg (t := t) (n := n) (s := s)
    rw [f_X8_term_9, i1, b2s]
    by_cases c42 : sg t n s = 42
    · obtain ⟨s1, s2, s3⟩ := sg_op (k := 42) hB (by omega) c42
      rw [if_pos c42]
      unfold f_X8_term_27
      rw [pp_51_0 T2.1, bs, T2.2.2.2.2.2, ll_52 T2.1, if_inI (by omega) (by omega), nI_clamp (by omega), T2.2.2.2.1 s s1, s2, if_pos (show nI 42 = 42 from rfl)]
      exact step 4 100002 s1 s3 (Or.inr (Or.inr ⟨4, by decide, by decide, by decide, by decide⟩)) (x2.mpr c42) (Or.inl rfl)
    · rw [if_neg c42, m_see0 hN T2 hs0, b2s]
      by_cases c47 : sg t n s = 47
      · obtain ⟨s1, s2, s3⟩ := sg_op (k := 47) hB (by omega) c47
        rw [if_pos c47]
        unfold f_X8_term_27
        rw [pp_51_0 T2.1, bs, T2.2.2.2.2.2, ll_52 T2.1, if_inI (by omega) (by omega), nI_clamp (by omega), T2.2.2.2.1 s s1, s2, if_neg (show ¬ nI 47 = 42 by decide)]
        exact step 5 100003 s1 s3 (Or.inr (Or.inr ⟨5, by decide, by decide, by decide, by decide⟩)) (x3.mpr c47) (Or.inr rfl)
      · rw [if_neg c47]
        refine ⟨1, h2, rfl, PE_V i3, Or.inr ⟨rfl, s, cs, ct, g, by omega, hps, M2, by rw [hs0], ?_, ?_⟩⟩
        · rw [hs0]; exact fun z => c42 (x2.mp z)
        · rw [hs0]; exact fun z => c47 (x3.mp z)
theorem v_term {N n r gl k p g : Nat} {t : TY} {h : Hp} {cb cs : List Int32} {ct : Int32} (o : Int32) (hN : 5000 ≤ N) (hB : BY t n) (hg : n - (p + 1) ≤ g) (M : MR t n r gl cb k h p cs ct) : ∃ v h', f_X8_term N h 51 = some (v, h') ∧ Fr (PVr r gl) h h' ∧ TO t n r gl cb k (p + 1) g o h' v (yVal t n (.inr (skp t n p), cs, ct)) := by
  obtain ⟨v, h1, i1, i2, i3⟩ := v_val hN M
  unfold f_X8_term
  rw [i1, b2s]
  rcases i2 with ⟨f, a1, a2, a3, a4⟩ | ⟨p', cs', ct', a1, a2, a3, a4⟩
  · rw [a3, if_pos rfl]
    exact ⟨0, h1, rfl, i3, Or.inl ⟨rfl, f, a2, a4, by rw [ySl_l g a1 a2]; exact a1⟩⟩
  · have hn4 := a4.1.2.2.1
    rw [a2, if_neg (show ¬ (1 : Int32) = 0 by decide), a1]
    obtain ⟨v2, h2, b1, b2', b3⟩ := v_t9 (k := k) (cb := cb) o hN hB 401 g N h1 p' cs' ct' (by omega) (by omega) (by omega) a4
    refine ⟨v2, h2, b1, Fr_trans i3 b2', ?_⟩
    rcases b3 with ⟨v0, fl, d1, d2, d3⟩ | ⟨v1, q, cs2, ct2, g2, d1, d2, d3, d4, d5⟩
    · exact Or.inl ⟨v0, fl, d1, d2, d3⟩
    · exact Or.inr ⟨v1, q, cs2, ct2, g2, d1, by omega, d3, d4, d5⟩
theorem v_s9 {N n r gl k : Nat} {t : TY} {cb : List Int32} (hN : 5000 ≤ N) (hB : BY t n) : ∀ (f g m : Nat) (h : Hp) (p : Nat) (cs : List Int32) (ct : Int32), n - p < f → n - p ≤ g → f ≤ m → MR t n r gl cb k h p cs ct → xO t n (.inr (skp t n p)) ≠ 100002 → xO t n (.inr (skp t n p)) ≠ 100003 → ∃ v h', f_X8_sum_9 N m h 51 = some (v, h') ∧ Fr (PVr r gl) h h' ∧ RO t n r gl cb k p h' v (ySl t n g (-1) (.inr (skp t n p), cs, ct)) := by
  intro f
  induction f with
  | zero => intro g m h p cs ct hf; omega
  | succ f ih =>
    intro g m h p cs ct hf hg hm M no2 no3
    obtain ⟨m, rfl⟩ : ∃ j, m = j + 1 := ⟨m - 1, by omega⟩
    obtain ⟨h2, i1, i2, i3⟩ := m_see hN M.1
    have hps : p ≤ skp t n p := sc_ge _ _ _
    have hs0 : skp t n (skp t n p) = skp t n p := sc_fix M.1.2.2.2.2.1
    have M2 := MR_PE i3 i2 hps M
    generalize skp t n p = s at i1 i2 hps hs0 M2 no2 no3 ⊢
    have T2 := M2.1
    have hn4 := T2.2.2.1
    have step : ∀ (o' : Nat) (c : Int32), s < n → bh t n s = s + 1 → sgC c (nI o' + 16 * 0) → xO t n (.inr s) = c → c ≠ -1 → ∃ v h', f_X8_sum_46 N (f_X8_sum_9 N m) h2 51 (nI o') = some (v, h') ∧ Fr (PVr r gl) h h' ∧ RO t n r gl cb k p h' v (ySl t n g (-1) (.inr s, cs, ct)) := by
      intro o' c hs hb hc xo c1
      obtain ⟨g, rfl⟩ : ∃ j, g = j + 1 := ⟨g - 1, by omega⟩
      have ya : yA t n (.inr s, cs, ct) = (.inr (skp t n (s + 1)), cs, ct) := by
        show (Sum.inr (nt t n s), _) = _
        unfold nt
        rw [hb]
      have es : ySl t n (g + 1) (-1) (.inr s, cs, ct) = ySl t n g c (yVal t n (.inr (skp t n (s + 1)), cs, ct)) := by
        rw [ySl, yO_m, ya]
        show (if xO t n (.inr s) = -1 then _ else if xO t n (.inr s) = 100002 ∨ xO t n (.inr s) = 100003 then _ else ySl t n g (xO t n (.inr s)) _) = _
        rw [if_neg (by rw [xo]; exact c1), if_neg (fun z => z.elim no2 no3), xo]
      rw [es]
      unfold f_X8_sum_46
      rw [lts, T2.2.2.2.2.2, nI_1]
      obtain ⟨T3, F3⟩ := TM_set (q := s + 1) (by omega) T2
      generalize sI h2 51 14 (nI (s + 1)) = h3 at T3 F3 ⊢
      have M3 : MR t n r gl cb (k + 1) h3 (s + 1) cs ct := MR_k (MR_PE F3 T3 (by omega) M2) (by have := M2.2.2.2.2.2; omega)
      obtain ⟨v, h4, a1, a2, a3⟩ := v_term (g := g) c hN hB (by omega) M3
      rw [a1, b2s]
      rcases a3 with ⟨v0, fl, d1, d2, d3⟩ | ⟨v1, q, cs2, ct2, g2, d1, d2, d3, d4, d5, d6⟩
      · rw [v0, if_pos rfl]
        exact ⟨0, h4, rfl, Fr_trans (PE_V i3) (Fr_trans (PE_V F3) a2), Or.inl ⟨fl, d3, d1, rfl, d2⟩⟩
      · obtain ⟨h5, u1, u2, u3⟩ := v_puts (c := c) (s := nI o') (v := 0) d3 hc
        have hp' := d3.1.2.2.2.2.1
        have hb' := d3.2.2.2.2.2
        rw [v1, if_neg (show ¬ (1 : Int32) = 0 by decide), u1, bs, d4, ySl_o (y := (.inr (skp t n q), cs2, ct2)) g2 d5 d6]
        unfold yO
        rw [if_neg c1, yE_r (by omega)]
        obtain ⟨v2, h6, b1, b2', b3⟩ := ih g2 m h5 q (cs2 ++ [c]) ct2 (by omega) d1 (by omega) u2 d5 d6
        refine ⟨v2, h6, b1, Fr_trans (PE_V i3) (Fr_trans (PE_V F3) (Fr_trans a2 (Fr_trans (PU_V u3) b2'))), ?_⟩
        rcases b3 with e | ⟨p3, cs3, ct3, e1, e2, e3, e4⟩
        · exact Or.inl e
        · exact Or.inr ⟨p3, cs3, ct3, e1, e2, by omega, e4⟩
    obtain ⟨-, -, x2, x3, x4⟩ := op_sg (t := t) (n := n) (s := s)
    rw [f_X8_sum_9, i1, b2s]
    by_cases c43 : sg t n s = 43
    · obtain ⟨s1, s2, s3⟩ := sg_op (k := 43) hB (by omega) c43
      rw [if_pos c43]
      unfold f_X8_sum_27
      rw [pp_51_0 T2.1, bs, T2.2.2.2.2.2, ll_52 T2.1, if_inI (by omega) (by omega), nI_clamp (by omega), T2.2.2.2.1 s s1, s2, if_pos (show nI 43 = 43 from rfl)]
      exact step 2 100000 s1 s3 (Or.inr (Or.inr ⟨2, by decide, by decide, by decide, by decide⟩)) (x2.mpr c43) (by decide)
    · rw [if_neg c43, m_see0 hN T2 hs0, b2s]
      by_cases c45 : sg t n s = 45
      · obtain ⟨s1, s2, s3⟩ := sg_op (k := 45) hB (by omega) c45
        rw [if_pos c45]
        unfold f_X8_sum_27
        rw [pp_51_0 T2.1, bs, T2.2.2.2.2.2, ll_52 T2.1, if_inI (by omega) (by omega), nI_clamp (by omega), T2.2.2.2.1 s s1, s2, if_neg (show ¬ nI 45 = 43 by decide)]
        exact step 3 100001 s1 s3 (Or.inr (Or.inr ⟨3, by decide, by decide, by decide, by decide⟩)) (x3.mpr c45) (by decide)
      · rw [if_neg c45]
        obtain ⟨y2, y3, -, -, -⟩ := op_sg (t := t) (n := n) (s := s)
        have xm : xO t n (.inr s) = -1 := x4.mpr ⟨fun z => no2 (y2.mpr z), fun z => no3 (y3.mpr z), c43, c45⟩
        refine ⟨1, h2, rfl, PE_V i3, Or.inr ⟨s, cs, ct, ?_, rfl, hps, M2⟩⟩
        rw [hs0]
        cases g with
        | zero => exact yO_m _
        | succ g => rw [ySl, if_pos (show xO t n (Sum.inr s, cs, ct).1 = -1 from xm)]; exact yO_m _
theorem v_sum {N n r gl k p : Nat} {t : TY} {h : Hp} {cb cs : List Int32} {ct : Int32} (hN : 5000 ≤ N) (hB : BY t n) (M : MR t n r gl cb k h p cs ct) : ∃ v h', f_X8_sum N h 51 = some (v, h') ∧ Fr (PVr r gl) h h' ∧ RO t n r gl cb k (p + 1) h' v (ySum t n (.inr (skp t n p), cs, ct)) := by
  have hn4 := M.1.2.2.1
  obtain ⟨v, h1, a1, a2, a3⟩ := v_term (g := 400) (-1) hN hB (by omega) M
  unfold f_X8_sum ySum
  rw [a1, b2s]
  rcases a3 with ⟨v0, fl, d1, d2, d3⟩ | ⟨v1, q, cs2, ct2, g2, d1, d2, d3, d4, d5, d6⟩
  · rw [v0, if_pos rfl]
    exact ⟨0, h1, rfl, a2, Or.inl ⟨fl, d3, d1, rfl, d2⟩⟩
  · rw [v1, if_neg (show ¬ (1 : Int32) = 0 by decide), d4]
    obtain ⟨v2, h6, b1, b2', b3⟩ := v_s9 (k := k) (cb := cb) hN hB 401 g2 N h1 q cs2 ct2 (by omega) d1 (by omega) d3 d5 d6
    refine ⟨v2, h6, b1, Fr_trans a2 b2', ?_⟩
    rcases b3 with e | ⟨p3, cs3, ct3, e1, e2, e3, e4⟩
    · exact Or.inl e
    · exact Or.inr ⟨p3, cs3, ct3, e1, e2, by omega, e4⟩
