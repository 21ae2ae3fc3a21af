/-! ===== texts: both read a test alike ===== -/
theorem v_tl {N n r gl k d : Nat} {t : TY} {cb : List Int32} {F : YS → YS} (hN : 5000 ≤ N) (hF : ∀ (h : Hp) (p : Nat) (o cs : List Int32) (ct : Int32) (m i : Nat), MO t n r gl cb k h p o d cs ct → n - p + 2 ≤ i → n - p < m → FO N n r gl k t cb o d p h (KA N m i h) (F (.inr (skp t n p), cs, ct))) : ∀ (f : Nat) (h : Hp) (p p0 : Nat) (o cs : List Int32) (ct : Int32) (a b : Bool) (m j u : Nat), n - p ≤ f → p0 < p → T0 o → MO t n r gl cb k h p (qs a b ++ o) d cs ct → n - p < m → n - p < j → 1 ≤ u → EO N n r gl k t cb o d p0 h (KB N m j u h) (yTl t n F f b (.inr (skp t n p), cs ++ ca a, ct)) := by
  intro f
  induction f with
  | zero =>
    intro h p p0 o cs ct a b m j u hf hp0 h0 M hm hj hu
    obtain ⟨u, rfl⟩ : ∃ v, u = v + 1 := ⟨u - 1, by omega⟩
    have hn4 := M.1.1.2.2.1
    have hp := M.1.1.2.2.2.2.1
    have hb := M.1.2.2.2.2.2
    have hl := qs_len a b
    rw [List.length_append] at hb
    have eb : KB N m j (u + 1) h = KC N m j h := by
      unfold KB
      have := v_stop (N := N) (l := 3) (u := u) M (by decide) (fun x o' e => ?_)
      · rw [show (3 : Int32) = nI 3 from rfl, this, bs]
      · cases a <;> cases b
        · exact T0_s (by decide) h0 x o' e
        · injection e with e1 _; rw [← e1]; decide
        · injection e with e1 _; rw [← e1]; decide
        · injection e with e1 _; rw [← e1]; decide
    have sn : ¬ skp t n p < n := by have := sc_ge (fun i => decide (t i = 32)) n p; show ¬ sc _ _ _ < n; omega
    have w16 : wd t n (skp t n p) 16 = false := wd_no (by decide) (fun z => sn z.1)
    have w17 : wd t n (skp t n p) 17 = false := wd_no (by decide) (fun z => sn z.1)
    rw [eb, yTl, ye_b b (by rw [List.length_append]; omega)]
    exact Or.inr ⟨h, p, cs, ct, m, j, a, b, rfl, hp0, M, hm, hj, w16, w17, rfl, Fr_refl h⟩
  | succ f ih =>
    intro h p p0 o cs ct a b m j u hf hp0 h0 M hm hj hu
    obtain ⟨u, rfl⟩ : ∃ v, u = v + 1 := ⟨u - 1, by omega⟩
    obtain ⟨j, rfl⟩ : ∃ v, j = v + 1 := ⟨j - 1, by omega⟩
    obtain ⟨m, rfl⟩ : ∃ v, m = v + 1 := ⟨m - 1, by omega⟩
    have hn4 := M.1.1.2.2.1
    have hp := M.1.1.2.2.2.2.1
    have hb := M.1.2.2.2.2.2
    have hl := qs_len a b
    rw [List.length_append] at hb
    have eb : KB N (m + 1) (j + 1) (u + 1) h = KC N (m + 1) (j + 1) h := by
      unfold KB
      have := v_stop (N := N) (l := 3) (u := u) M (by decide) (fun x o' e => ?_)
      · rw [show (3 : Int32) = nI 3 from rfl, this, bs]
      · cases a <;> cases b
        · exact T0_s (by decide) h0 x o' e
        · injection e with e1 _; rw [← e1]; decide
        · injection e with e1 _; rw [← e1]; decide
        · injection e with e1 _; rw [← e1]; decide
    have hps : p ≤ skp t n p := sc_ge _ _ _
    have hs0 : skp t n (skp t n p) = skp t n p := sc_fix hp
    rw [eb]
    obtain ⟨h2, F2, M2, c1, -⟩ := k_C (N := N) (m := m + 1) (j := j) hN M
    rw [yTl]
    show EO N n r gl k t cb o d p0 h (KC N (m + 1) (j + 1) h) (if wd t n (skp t n p) 16 = true then _ else if wd t n (skp t n p) 17 = true then _ else _)
    by_cases w16 : wd t n (skp t n p) 16 = true
    · rw [if_pos w16, c1 (fun z => sg_w (c := 93) (by decide) w16 (by decide) z.1)]
      obtain ⟨h3, e1, M3, F3⟩ := (k_join (m := m) hN h0 hs0 M2).1 w16
      rw [e1, ye_b b (by rw [List.length_append]; omega)]
      have gt := lte_gt (by decide) w16
      have s1 := (wd_yes (by decide) w16).1
      rw [show yA t n (.inr (skp t n p), cs ++ ca a ++ co b, ct) = (.inr (skp t n (lte t n (skp t n p))), cs ++ ca a ++ co b, ct) by show (Sum.inr (nt t n (skp t n p)), _) = _; rw [nt_w (by decide) w16]]
      rcases hF h3 (lte t n (skp t n p)) (qs false true ++ o) _ ct m N M3 (by omega) (by omega) with ⟨fl, h4, a1, a2, a3, a4, a5⟩ | ⟨h4, p1, cs1, ct1, m1, j1, u1, a1, a2, a3, a4, a5, a6, a7, a8⟩
      · refine Or.inl ⟨fl, h4, ?_, a2, a3, a4, Fr_trans (PV_W (PE_V F2)) (Fr_trans F3 a5)⟩
        rw [yTl_l f a1 a2]
        exact a1
      · rw [a7, a1]
        have := ih h4 p1 p0 o cs1 ct1 false true m1 j1 u1 (by omega) (by omega) h0 a3 a4 a5 (by omega)
        rw [show ca false = [] from rfl, List.append_nil] at this
        exact EO_pre (Fr_trans (PV_W (PE_V F2)) (Fr_trans F3 a8)) (Nat.le_refl _) rfl this
    · rw [if_neg w16]
      by_cases w17 : wd t n (skp t n p) 17 = true
      · rw [if_pos w17, c1 (fun z => sg_w (c := 93) (by decide) w17 (by decide) z.1)]
        obtain ⟨h3, e1, M3, F3⟩ := (k_join (m := m) hN h0 hs0 M2).2 w17
        rw [e1]
        have gt := lte_gt (by decide) w17
        have s1 := (wd_yes (by decide) w17).1
        rw [show yA t n (.inr (skp t n p), cs ++ ca a, ct) = (.inr (skp t n (lte t n (skp t n p))), cs ++ ca a, ct) by show (Sum.inr (nt t n (skp t n p)), _) = _; rw [nt_w (by decide) w17]]
        rcases hF h3 (lte t n (skp t n p)) (qs true b ++ o) _ ct m N M3 (by omega) (by omega) with ⟨fl, h4, a1, a2, a3, a4, a5⟩ | ⟨h4, p1, cs1, ct1, m1, j1, u1, a1, a2, a3, a4, a5, a6, a7, a8⟩
        · refine Or.inl ⟨fl, h4, ?_, a2, a3, a4, Fr_trans (PV_W (PE_V F2)) (Fr_trans F3 a5)⟩
          rw [yE_l a1 a2, yTl_l f a1 a2]
          exact a1
        · have hb1 := a3.1.2.2.2.2.2
          have hp1 := a3.1.1.2.2.2.2.1
          have hl1 := qs_len true b
          have l1 : (ca true).length = 1 := rfl
          rw [List.length_append] at hb1
          rw [a7, a1, yE_r (by omega)]
          have := ih h4 p1 p0 o cs1 ct1 true b m1 j1 u1 (by omega) (by omega) h0 a3 a4 a5 (by omega)
          exact EO_pre (Fr_trans (PV_W (PE_V F2)) (Fr_trans F3 a8)) (Nat.le_refl _) rfl this
      · rw [if_neg w17, ye_b b (by rw [List.length_append]; omega)]
        exact Or.inr ⟨h, p, cs, ct, m + 1, j + 1, a, b, rfl, hp0, M, hm, hj, Bool.eq_false_iff.mpr w16, Bool.eq_false_iff.mpr w17, rfl, Fr_refl h⟩
theorem kd_br {t : TY} {n s : Nat} : (kd t n s = 91 ↔ sg t n s = 91) ∧ (kd t n s = 93 ↔ sg t n s = 93) := ⟨kd_sg (k := 91) (by decide) (by decide) (by decide) (by decide) (by decide), kd_sg (k := 93) (by decide) (by decide) (by decide) (by decide) (by decide)⟩
theorem nt_k {t : TY} {n s k : Nat} (hk : k < 128) (e : kd t n s = nI k) : s < n ∧ nt t n s = skp t n (s + 1) := by
  obtain ⟨a, b, _⟩ := bh_sg hk e
  refine ⟨a, ?_⟩
  unfold nt
  rw [b]
theorem yG_false (t : TY) (n D d : Nat) (y : YS) : yG t n (D + 1) false d y = (if (xW t n 5 y.1 = true ∨ xK t n y.1 = 91) ∧ 10 ≤ d then yF 2 y else if xW t n 5 y.1 = true then yE 100011 (yG t n D false (d + 1) (yA t n y)) else if xK t n y.1 = 91 then yCl t n (yG t n D true (d + 1) (yA t n y)) else yCmp t n y) := by rw [yG]
theorem v_clos {N n r gl k d p0 : Nat} {t : TY} {cb o : List Int32} {h0 : Hp} {K : Option (Int32 × Hp)} {y : YS} (hN : 5000 ≤ N) (hd : d + 1 ≤ 10) (hn4 : n ≤ 400) (ho : o.length ≤ 400) (E : EO N n r gl k t cb (91 :: o) (d + 1) p0 h0 K y) : FO N n r gl k t cb o d p0 h0 K (yCl t n y) := by
  rcases E with ⟨fl, h', a1, a2, a3, a4, a5⟩ | ⟨h', p, cs, ct, m, j, a, b, a1, a2, a3, a4, a5, a6, a7, a8, a9⟩
  · refine Or.inl ⟨fl, h', ?_, a2, a3, a4, a5⟩
    unfold yCl
    rw [xK_l a1, if_neg (by decide), yF_l a1, yA_l a1]
    exact a1
  · obtain ⟨j, rfl⟩ : ∃ v, j = v + 1 := ⟨j - 1, by omega⟩
    obtain ⟨m, rfl⟩ : ∃ v, m = v + 1 := ⟨m - 1, by omega⟩
    have hps : p ≤ skp t n p := sc_ge _ _ _
    have hs0 : skp t n (skp t n p) = skp t n p := sc_fix a3.1.1.2.2.2.2.1
    obtain ⟨h2, F2, M2, c1, c2⟩ := k_C (N := N) (m := m + 1) (j := j) hN a3
    have in91 : (91 : Int32) ∈ qs a b ++ 91 :: o := List.mem_append.mpr (Or.inr (List.mem_cons.mpr (Or.inl rfl)))
    have t0 : T0 (91 :: o) := by
      intro x o' e
      injection e with e1 _
      exact e1.symm
    rw [a8, a1]
    generalize skp t n p = s at hps hs0 M2 c1 c2 a6 a7 ⊢
    have hsn := M2.1.1.2.2.2.2.1
    unfold yCl
    show FO N n r gl k t cb o d p0 h0 (KC N (m + 1) (j + 1) h') (yA t n (if kd t n s = 93 then (.inr s, cs ++ ca a ++ co b, ct) else yF 0 (.inr s, cs ++ ca a ++ co b, ct)))
    by_cases c : kd t n s = 93
    · rw [if_pos c, c2 ⟨kd_br.2.mp c, in91⟩]
      obtain ⟨s1, s2⟩ := nt_k (k := 93) (by decide) c
      obtain ⟨h3, b1, b2', b3⟩ := v_set1 (N := N) (u := N) (by omega) t0 M2
      have b1' : f_X8_settles_0 N N h2 51 1 = some h3 := b1
      rw [b1', bs]
      unfold KD
      have hb3 := b2'.1.2.2.2.2.2
      obtain ⟨M0, e22, S, e19, d10⟩ := b2'
      have ln : ((91 : Int32) :: o).length = o.length + 1 := rfl
      rw [ln] at e22 hb3
      rw [e22, n_1, pk_sub (by omega), show o.length + 1 - 1 = o.length by omega]
      have F4 : Fr (fun a j => a = 51 ∧ j = 22) h3 (sI h3 51 22 (nI o.length)) := Fr_sI _ _ _ _ ⟨rfl, rfl⟩
      have q4 : hI (sI h3 51 22 (nI o.length)) 51 22 = nI o.length := by rw [hI_sI, if_pos ⟨rfl, rfl⟩]
      generalize sI h3 51 22 (nI o.length) = h4 at F4 q4 ⊢
      rw [F4.2.2.2 51 19 (by omega), e19, pk_sub (by omega), show d + 1 - 1 = d by omega]
      have F5 : Fr (fun a j => a = 51 ∧ j = 19) h4 (sI h4 51 19 (nI d)) := Fr_sI _ _ _ _ ⟨rfl, rfl⟩
      have q5 : hI (sI h4 51 19 (nI d)) 51 19 = nI d := by rw [hI_sI, if_pos ⟨rfl, rfl⟩]
      generalize sI h4 51 19 (nI d) = h5 at F5 q5 ⊢
      have F45 : Fr (fun a j => a = 51 ∧ (j = 19 ∨ j = 22)) h3 h5 := Fr_trans (Fr_mono F4 (fun a j z => by omega)) (Fr_mono F5 (fun a j z => by omega))
      have T5 : TM t n h5 s := TM_Fr F45 (by omega) (by omega) (fun i => by omega) M0.1
      have M5 : MR t n r gl cb (k + (o.length + 1)) h5 s (cs ++ ca a ++ co b) ct := MR_Fr F45 T5 (Nat.le_refl _) (by rw [F45.2.2.2 51 15 (by omega)]; exact M0.2.1) (by omega) (by omega) (fun j => by omega) (by omega) M0
      rw [← n_1, T5.2.2.2.2.2, nI_1]
      obtain ⟨T6, F6⟩ := TM_set (q := s + 1) (by omega) T5
      generalize sI h5 51 14 (nI (s + 1)) = h6 at T6 F6 ⊢
      refine Or.inr ⟨h6, s + 1, cs ++ ca a ++ co b, ct, m + 1, j, N, ?_, by omega, ⟨MR_k (MR_PE F6 T6 (by omega) M5) (by omega), ?_, ?_, ?_, by omega⟩, by omega, by omega, by omega, rfl, Fr_trans a9 (Fr_trans (PV_W (PE_V F2)) (Fr_trans b3 (Fr_trans (Fr_mono F45 (fun a j z => by unfold PW; omega)) (PV_W (PE_V F6)))))⟩
      · show (Sum.inr (nt t n s), _) = _
        rw [s2]
      · rw [F6.2.2.2 51 22 (fun z => by unfold PE at z; omega), F5.2.2.2 51 22 (by omega)]
        exact q4
      · rw [Fr_row F6 (fun j z => by unfold PE at z; omega), Fr_row F45 (fun j z => by omega)]
        exact S.2
      · rw [F6.2.2.2 51 19 (fun z => by unfold PE at z; omega)]
        exact q5
    · rw [if_neg c, c1 (fun z => c (kd_br.2.mpr z.1)), k_R0 hN M2.1.1 hs0 a6 a7, f_X8_tested_12, if_pos rfl, v_ins hN M2, bs, decide_eq_true in91, if_neg (show ¬ b2i true = 0 by decide), m_see0 hN M2.1.1 hs0, b2s, M2.1.1.2.2.2.2.2]
      obtain ⟨h3, j1, j2, j3⟩ := m_fails M2.1.2.1 0 s
      rw [j1, b2s, if_pos (Or.inl rfl)]
      exact Or.inl ⟨flt s (nI 0), h3, rfl, flt_ne (by omega) (by decide), rfl, j2, Fr_trans a9 (Fr_trans (PV_W (PE_V F2)) (PV_W (PF_V j3)))⟩
theorem v_G {N n r gl k : Nat} {t : TY} {cb : List Int32} (hN : 5000 ≤ N) (hB : BY t n) : ∀ D : Nat, (∀ (d : Nat) (h : Hp) (p : Nat) (o cs : List Int32) (ct : Int32) (m i : Nat), 2 * (10 - d) + 1 ≤ D → MO t n r gl cb k h p o d cs ct → n - p + 2 ≤ i → n - p < m → FO N n r gl k t cb o d p h (KA N m i h) (yG t n D false d (.inr (skp t n p), cs, ct))) ∧ (∀ (d : Nat) (h : Hp) (p : Nat) (o cs : List Int32) (ct : Int32) (m i : Nat), 2 * (10 - d) + 2 ≤ D → T0 o → MO t n r gl cb k h p o d cs ct → n - p + 2 ≤ i → n - p < m → EO N n r gl k t cb o d p h (KA N m i h) (yG t n D true d (.inr (skp t n p), cs, ct))) := by
  intro D
  induction D with
  | zero => exact ⟨fun d h p o cs ct m i hD => by omega, fun d h p o cs ct m i hD => by omega⟩
  | succ D ih =>
    refine ⟨fun d h p o cs ct m i hD M hi hm => ?_, fun d h p o cs ct m i hD h0 M hi hm => ?_⟩
    · obtain ⟨i, rfl⟩ : ∃ v, i = v + 2 := ⟨i - 2, by omega⟩
      obtain ⟨h2, i1, i2, i3⟩ := m_see hN M.1.1
      have hps : p ≤ skp t n p := sc_ge _ _ _
      have hs0 : skp t n (skp t n p) = skp t n p := sc_fix M.1.1.2.2.2.2.1
      have M2 : MO t n r gl cb k h2 (skp t n p) o d cs ct := MO_V (PE_V i3) (MR_PE i3 i2 hps M.1) M
      have hn4 := M.1.1.2.2.1
      have hb2 := M2.1.2.2.2.2.2
      have d10 := M.2.2.2.2
      have hsn := M2.1.1.2.2.2.2.1
      rw [yG_false]
      unfold KA
      rw [show i + 2 = (i + 1) + 1 from rfl, f_X8_fact_2, if_neg (by decide), i1, b2s, m_word0 hN (by decide) cw_5 i2 hs0, b2s, b_if]
      show FO N n r gl k t cb o d p h _ (if (wd t n (skp t n p) 5 = true ∨ kd t n (skp t n p) = 91) ∧ 10 ≤ d then _ else if wd t n (skp t n p) 5 = true then _ else if kd t n (skp t n p) = 91 then _ else _)
      generalize skp t n p = s at i1 i2 hps hs0 M2 hb2 hsn ⊢
      by_cases w5 : wd t n s 5 = true
      · rw [if_pos w5]
        have s1 := (wd_yes (by decide) w5).1
        obtain ⟨h3, F3, Z⟩ := v_opens (N := N) 11 s1 M2
        rcases Z with ⟨z0, z1, z2⟩ | ⟨z0, z1, z2, z3⟩
        · rw [if_pos ⟨Or.inl w5, by omega⟩, z1, b2s, if_pos rfl, b2s, if_pos rfl]
          exact Or.inl ⟨flt s (nI 2), h3, rfl, flt_ne (by omega) (by decide), rfl, z2, Fr_trans (PV_W (PE_V i3)) F3⟩
        · rw [if_neg (fun z => by have := z.2; omega), if_pos w5, z1, b2s, if_neg (by decide)]
          obtain ⟨h4, p1, p2, p3⟩ := m_pw hN z2
          have gt := lte_gt (by decide) w5
          have M4 := z3 h4 (lte t n s) p3 p2 gt
          rw [p1, bs]
          unfold f_X8_fact_72
          rw [show yA t n (.inr s, cs, ct) = (.inr (skp t n (lte t n s)), cs, ct) by show (Sum.inr (nt t n s), _) = _; rw [nt_w (by decide) w5]]
          have G := ih.1 (d + 1) h4 (lte t n s) (11 :: o) cs ct m (i + 1) (by omega) M4 (by omega) (by omega)
          have F04 : Fr (PW r gl) h h4 := Fr_trans (PV_W (PE_V i3)) (Fr_trans F3 (PV_W (PE_V p3)))
          rcases G with ⟨fl, h', a1, a2, a3, a4, a5⟩ | ⟨h', q, cs', ct', m', j, u, a1, a2, a3, a4, a5, a6, a7, a8⟩
          · exact Or.inl ⟨fl, h', by rw [yE_1]; exact a1, a2, a3, a4, Fr_trans F04 a5⟩
          · have hbq := a3.1.2.2.2.2.2
            have hpq := a3.1.1.2.2.2.2.1
            have ln : ((11 : Int32) :: o).length = o.length + 1 := rfl
            rw [ln] at hbq a6
            obtain ⟨u, rfl⟩ : ∃ v, u = v + 1 := ⟨u - 1, by omega⟩
            obtain ⟨h6, b1, b2', b3⟩ := v_pop (N := N) (l := 3) (u := u) a3 (by decide) sC11 (fun _ => by omega)
            rw [if_pos rfl, show d + 1 - 1 = d by omega] at b2'
            rw [a1, yE_r (by omega)]
            refine Or.inr ⟨h6, q, cs' ++ [100011], ct', m', j, u, rfl, by omega, b2', a4, a5, by omega, ?_, Fr_trans F04 (Fr_trans a8 b3)⟩
            have a7' : (b2 (f_X8_fact_2 N (i + 1) h4 51 1) (fun r21 h22 => if r21 = 0 then (some (((0 : Int32), h22))) else KB N m N N h22)) = KB N m' j (u + 1) h' := a7
            rw [a7']
            unfold KB
            have b1' : f_X8_settles_0 N (u + 1) h' 51 3 = f_X8_settles_0 N u h6 51 3 := b1
            rw [b1']
      · rw [if_neg w5]
        by_cases c : kd t n s = 91
        · obtain ⟨s1, s2⟩ := nt_k (k := 91) (by decide) c
          rw [if_pos (kd_br.1.mp c)]
          obtain ⟨h3, F3, Z⟩ := v_opens (N := N) 91 s1 M2
          rcases Z with ⟨z0, z1, z2⟩ | ⟨z0, z1, z2, z3⟩
          · rw [if_pos ⟨Or.inr c, by omega⟩, z1, b2s, if_pos rfl, b2s, if_pos rfl]
            exact Or.inl ⟨flt s (nI 2), h3, rfl, flt_ne (by omega) (by decide), rfl, z2, Fr_trans (PV_W (PE_V i3)) F3⟩
          · rw [if_neg (fun z => by have := z.2; omega), if_neg w5, if_pos c, z1, b2s, if_neg (by decide), lts, z2.2.2.2.2.2, nI_1]
            obtain ⟨T4, F4⟩ := TM_set (q := s + 1) (by omega) z2
            generalize sI h3 51 14 (nI (s + 1)) = h4 at T4 F4 ⊢
            have M4 := z3 h4 (s + 1) F4 T4 (by omega)
            unfold f_X8_fact_72
            rw [show yA t n (.inr s, cs, ct) = (.inr (skp t n (s + 1)), cs, ct) by show (Sum.inr (nt t n s), _) = _; rw [s2]]
            have t0 : T0 (91 :: o) := by
              intro x o' e
              injection e with e1 _
              exact e1.symm
            have G := ih.2 (d + 1) h4 (s + 1) (91 :: o) cs ct m (i + 1) (by omega) t0 M4 (by omega) (by omega)
            have F04 : Fr (PW r gl) h h4 := Fr_trans (PV_W (PE_V i3)) (Fr_trans F3 (PV_W (PE_V F4)))
            exact FO_pre F04 (by omega) rfl (v_clos hN (by omega) hn4 (by omega) G)
        · rw [if_neg (fun z => c (kd_br.1.mpr z)), if_neg (fun z => z.1.elim w5 c), if_neg w5, if_neg c]
          unfold f_X8_fact_72
          rw [f_X8_fact_2, if_pos rfl]
          obtain ⟨v, h3, a1, a2, a3⟩ := v_cmp hN hB M2.1
          rw [hs0] at a3
          rw [a1, b2s]
          rcases a3 with ⟨fl, d1, d2, d3, d4⟩ | ⟨q, cs', ct', d1, d2, d3, d4⟩
          · rw [d3, if_pos (Or.inl rfl), b2s, if_pos rfl]
            exact Or.inl ⟨fl, h3, d1, d2, rfl, d4, Fr_trans (PV_W (PE_V i3)) (PV_W a2)⟩
          · rw [d2, if_pos (Or.inr rfl), b2s, if_neg (by decide)]
            exact Or.inr ⟨h3, q, cs', ct', m, N, N, d1, by omega, MO_V a2 d4 M2, by omega, by omega, by omega, rfl, Fr_trans (PV_W (PE_V i3)) (PV_W a2)⟩
    · rw [yG]
      have hn4 := M.1.1.2.2.1
      have hp := M.1.1.2.2.2.2.1
      rcases ih.1 d h p o cs ct m i (by omega) M hi hm with ⟨fl, h', a1, a2, a3, a4, a5⟩ | ⟨h', q, cs', ct', m', j, u, a1, a2, a3, a4, a5, a6, a7, a8⟩
      · exact Or.inl ⟨fl, h', by rw [yTl_l 400 a1 a2]; exact a1, a2, a3, a4, a5⟩
      · rw [a1, a7]
        have := v_tl (N := N) (d := d) (F := yG t n D false d) hN (fun h p o cs ct m i M' hi' hm' => ih.1 d h p o cs ct m i (by omega) M' hi' hm') 400 h' q p o cs' ct' false false m' j u (by omega) a2 h0 a3 a4 a5 (by omega)
        rw [show ca false = [] from rfl, List.append_nil] at this
        exact EO_pre a8 (Nat.le_refl _) rfl this
/-- the reference's test and the class's -/
theorem v_tested {N n r gl k p : Nat} {t : TY} {h : Hp} {cb cs : List Int32} {ct : Int32} (hN : 5000 ≤ N) (hB : BY t n) (M : MR t n r gl cb k h p cs ct) : ∃ v h', f_X8_tested N h 51 = some (v, h') ∧ Fr (PW r gl) h h' ∧ RO t n r gl cb k (p + 1) h' v (yG t n 30 true 0 (.inr (skp t n p), cs, ct)) := by
  have hn4 := M.1.2.2.1
  unfold f_X8_tested
  rw [lts]
  have F1 : Fr (fun a j => a = 51 ∧ j = 22) h (sI h 51 22 0) := Fr_sI _ _ _ _ ⟨rfl, rfl⟩
  have q1 : hI (sI h 51 22 0) 51 22 = 0 := by rw [hI_sI, if_pos ⟨rfl, rfl⟩]
  generalize sI h 51 22 0 = h1 at F1 q1 ⊢
  rw [lts]
  have F2 : Fr (fun a j => a = 51 ∧ j = 19) h1 (sI h1 51 19 0) := Fr_sI _ _ _ _ ⟨rfl, rfl⟩
  have q2 : hI (sI h1 51 19 0) 51 19 = 0 := by rw [hI_sI, if_pos ⟨rfl, rfl⟩]
  generalize sI h1 51 19 0 = h2 at F2 q2 ⊢
  have F : Fr (fun a j => a = 51 ∧ (j = 19 ∨ j = 22)) h h2 := Fr_trans (Fr_mono F1 (fun a j z => by omega)) (Fr_mono F2 (fun a j z => by omega))
  have T2 : TM t n h2 p := TM_Fr F (by omega) (by omega) (fun i => by omega) M.1
  have M2 : MR t n r gl cb k h2 p cs ct := MR_Fr F T2 (Nat.le_refl _) (by rw [F.2.2.2 51 15 (by omega)]; exact M.2.1) (by omega) (by omega) (fun j => by omega) (by omega) M
  have MO2 : MO t n r gl cb k h2 p [] 0 cs ct := ⟨M2, by rw [F2.2.2.2 51 22 (by omega)]; exact q1, trivial, q2, by decide⟩
  have FW : Fr (PW r gl) h h2 := Fr_mono F (fun a j z => by unfold PW; omega)
  obtain ⟨N', rfl⟩ : ∃ v, N = v + 1 := ⟨N - 1, by omega⟩
  rw [t12_A]
  have t0 : T0 [] := by
    intro x o' e
    cases e
  rcases (v_G (N := N' + 1) (k := k) (cb := cb) hN hB 30).2 0 h2 p [] cs ct N' (N' + 1) (by decide) t0 MO2 (by omega) (by omega) with ⟨fl, h', a1, a2, a3, a4, a5⟩ | ⟨h', q, cs', ct', m, j, a, b, a1, a2, a3, a4, a5, a6, a7, a8, a9⟩
  · exact ⟨0, h', a3, Fr_trans FW a5, Or.inl ⟨fl, a1, a2, rfl, a4⟩⟩
  · obtain ⟨j, rfl⟩ : ∃ v, j = v + 1 := ⟨j - 1, by omega⟩
    obtain ⟨m, rfl⟩ : ∃ v, m = v + 1 := ⟨m - 1, by omega⟩
    have hs0 : skp t n (skp t n q) = skp t n q := sc_fix a3.1.1.2.2.2.2.1
    have hps : q ≤ skp t n q := sc_ge _ _ _
    have no91 : ¬ (91 : Int32) ∈ qs a b ++ [] := by cases a <;> cases b <;> decide
    obtain ⟨h3, F3, M3, c1, -⟩ := k_C (N := N' + 1) (m := m + 1) (j := j) hN a3
    rw [a8, c1 (fun z => no91 z.2), k_R0 hN M3.1.1 hs0 a6 a7, f_X8_tested_12, if_pos rfl, v_ins hN M3, bs, decide_eq_false no91, if_pos (show b2i false = 0 by decide)]
    unfold f_X8_settles
    obtain ⟨h4, b1, b2', b3⟩ := v_set1 (N := N' + 1) (u := N' + 1) (by omega) t0 M3
    have b1' : f_X8_settles_0 (N' + 1) (N' + 1) h3 51 1 = some h4 := b1
    rw [b1', bs]
    refine ⟨1, h4, rfl, Fr_trans FW (Fr_trans a9 (Fr_trans (PV_W (PE_V F3)) b3)), Or.inr ⟨skp t n q, cs' ++ ca a ++ co b, ct', ?_, rfl, by omega, b2'.1⟩⟩
    rw [a1, hs0]
