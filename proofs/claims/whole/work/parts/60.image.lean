/-! ===== image ===== -/
theorem ok_image {N : Nat} (hN0 : 5000 ≤ N) (v : Int32) : Cok N (fun h => f_X7_image h 0 v) (fun h => f_X8_image N h 51 v) := by
  rintro h ⟨r, R, α, g⟩
  have g' := g
  obtain ⟨g1, A, M, O, f, T, g7, g8, g9⟩ := g
  have H := M.1
  have h77 := H.2.2
  show ∃ z h1 h2, f_X7_image h 0 v = some (z, h1) ∧ f_X8_image N h1 51 v = some (z, h2) ∧ GG N h2
  have inn : ∀ h1, f_X8_in h1 v.toInt64 (0 : Int64) (3 : Int64) = some (if v < 0 then 0 else if 3 < v then 0 else 1) := fun h1 => m_in h1 v 0 3
  by_cases c1 : v < 0
  · refine ⟨-1, h, h, ?_, ?_, r, R, α, g'⟩
    · unfold f_X7_image
      rw [if_pos c1]
    · unfold f_X8_image
      rw [inn, bs, if_pos c1, if_pos rfl]
  · by_cases c2 : ¬ v < 4
    · refine ⟨-1, h, h, ?_, ?_, r, R, α, g'⟩
      · unfold f_X7_image
        rw [if_neg c1, if_neg c2]
      · unfold f_X8_image
        rw [inn, bs, if_neg c1, if_pos (Int32.lt_of_lt_of_le (b := 4) (by decide) (Int32.not_lt.mp c2)), if_pos rfl]
    · replace c2 : v < 4 := Decidable.not_not.mp c2
      obtain ⟨k, k1, rfl⟩ := i_nat c1
      have k4 : k < 4 := by
        by_cases c : k < 4
        · exact c
        · exact absurd c2 (show ¬ nI k < (4 : Int32) from nI_nlt (a := k) (b := 4) (by omega) k1)
      have c3 : ¬ (3 : Int32) < nI k := nI_nlt (a := 3) (by omega) (by decide)
      have im : ∀ s, hP h 27 k = some s → 77 ≤ s ∧ s + 12 ≤ hN h ∧ isSt h s := by
        intro s hs
        rcases g7 k k4 with ⟨t1, t2⟩ | ⟨t1, s', β, s1, s2, s3, s4, s5, s6, s7⟩
        · rw [t2] at hs; cases hs
        · rw [s1] at hs; cases hs; exact ⟨s2, s3, s4.1⟩
      obtain ⟨h1, s, e7, p1, s77, sN, A1, F1, so⟩ := c_image H A k4 im
      have H1 : SHP h1 := SHP_Fx F1 (fun x j z => Or.inl z.1) H
      have F2 : Fr (fun a j => a = 76 ∧ j = k) h1 (sI h1 76 k 1) := Fr_sI _ _ _ _ ⟨rfl, rfl⟩
      have q2 : hI (sI h1 76 k 1) 76 k = 1 := by rw [hI_sI, if_pos ⟨rfl, rfl⟩]
      have H2 := Fr_SHP F2 H1
      have e8 : f_X8_image N h1 51 (nI k) = f_X8_image_23 N N (sI h1 76 k 1) 51 (nI k) 0 := by
        unfold f_X8_image
        rw [inn, bs, if_neg c1, if_neg c3, if_neg (show ¬ (1 : Int32) = 0 by decide), pp_51_43 H1, bs, ll_76 H1, if_inI k4 (by omega), nI_clamp (n := k) (by omega), lts]
      generalize sI h1 76 k 1 = h2 at F2 q2 H2 e8
      obtain ⟨h3, e3, F3, k3⟩ := m_image_l (N := N) (h0 := h2) (d := k) k4 93 0 N h2 (by omega) (by omega) H2 (Fr_refl h2) (fun i hi => absurd hi (Nat.not_lt_zero i))
      have e3' : f_X8_image_23 N N h2 51 (nI k) 0 = some (hI h3 62 3, h3) := e3
      have F : Fx (fun a j => (s ≤ a ∧ a ≤ s + 11) ∨ (a = 76 ∧ j = k) ∨ (a = 75 ∧ 93 * k ≤ j ∧ j < 93 * k + 93)) (fun a j => a = 27 ∧ j = k) h h3 := Fx_trans (Fx_mono F1 (fun x j z => Or.inl z) (fun x j z => z)) (Fx_trans (Fq_x _ (Fq_mono (Fr_q F2) (fun x j z => Or.inr (Or.inl z)))) (Fq_x _ (Fq_mono (Fr_q F3) (fun x j z => Or.inr (Or.inr z)))))
      have F13 : Fq (fun a j => (a = 76 ∧ j = k) ∨ (a = 75 ∧ 93 * k ≤ j ∧ j < 93 * k + 93)) h1 h3 := Fq_trans (Fq_mono (Fr_q F2) (fun x j z => Or.inl z)) (Fq_mono (Fr_q F3) (fun x j z => Or.inr z))
      have hq : ∀ x j, x = 27 ∧ j = k → QN x j := fun x j z => Or.inl z.1
      have H3 : SHP h3 := Fr_SHP F3 H2
      have e62 : hI h3 62 = hI h 62 := Fx_row F (by omega) (fun j z => by omega)
      have M3 : Am h3 α := ⟨H3, by rw [e62]; exact M.2⟩
      have A3 : Ac h3 3 α := Ac_Fx F hq (by omega) (by omega) (fun x j h1 h2 z => by omega) A
      have As : Ac h3 s α := Fq_Ac F13 (fun x j h1 h2 z => by omega) A1
      have p3 : hP h3 27 k = some s := by rw [F13.2.1]; exact p1
      have n3 : s + 12 ≤ hN h3 := by rw [F13.1]; exact sN
      have po : ∀ k', k' ≠ k → hP h3 27 k' = hP h 27 k' := fun k' hk' => Fx_p F (by omega) (fun z => hk' z.2)
      have pr : ∀ j, hP h3 28 j = hP h 28 j := fun j => Fx_p F (by omega) (fun z => by omega)
      -- where the cells lie
      have dj1 : ∀ k' s', k' < 4 → k' ≠ k → hP h 27 k' = some s' → s + 11 < s' ∨ s' + 11 < s := by
        intro k' s' hk' hne hs'
        rcases so with so | so
        · exact g8.1 k k' s s' k4 hk' (fun z => hne z.symm) so hs'
        · rcases g7 k' hk' with ⟨t1, t2⟩ | ⟨t1, s'', β, s1, s2, s3, s4⟩
          · rw [t2] at hs'; cases hs'
          · rw [s1] at hs'; cases hs'; omega
      have dj2 : ∀ j q, j < r → hP h 28 j = some q → q + 3 < s ∨ s + 11 < q := by
        intro j q hj hq'
        rcases so with so | so
        · exact g8.2 k j s q k4 hj so hq'
        · obtain ⟨⟨q', q1, q2, q3⟩, _⟩ := T.2.2.2 j hj
          rw [q1] at hq'; cases hq'; omega
      refine ⟨α 0 3, h1, h3, e7, by rw [e8, e3', am_3 M3], r, R, α, TAPE_Fx F (by omega) (fun x j z y => by unfold Prt at y; omega) g1, A3, M3, O, f, ?_, ?_, ?_, CaT_Fx F (by omega) (fun x j z y => by unfold Prs at y; omega) g9⟩
      · refine ⟨by rw [Fx_i F (by omega) (fun z => by omega)]; exact T.1, by rw [Fx_i F (by omega) (fun z => by omega)]; exact T.2.1, T.2.2.1, fun j hj => ?_⟩
        obtain ⟨⟨q, q1, q2, q3⟩, q4⟩ := T.2.2.2 j hj
        have d := dj2 j q hj q1
        exact ⟨⟨q, by rw [pr]; exact q1, Rc_Fx F hq q3 (fun i z => by have := Rc_q77 q2 q rfl; omega) q2, Nat.le_trans q3 F.1⟩, Rm_Fx F (by omega) (fun i z => by omega) (fun i z => by omega) (fun i z => by omega) q4⟩
      · intro k' hk'
        by_cases c : k' = k
        · subst c
          refine Or.inr ⟨?_, s, α, p3, s77, n3, As, ?_, O, f⟩
          · rw [F3.2.2.2 76 k' (fun z => by omega)]; exact q2
          · refine Sd_congr O.1 (fun i hi => ?_) M.2
            rw [k3 i hi, ← Fr_row F3 (x := 62) (fun j z => by omega), e62]
        · rw [po k' c, Fx_i F (x := 76) (j := k') (by omega) (fun z => by omega)]
          rcases g7 k' hk' with t | ⟨t1, s', β, s1, s2, s3, s4, s5, s6, s7⟩
          · exact Or.inl t
          · have d := dj1 k' s' hk' c s1
            refine Or.inr ⟨t1, s', β, s1, s2, Nat.le_trans s3 F.1, Ac_Fx F hq s3 (Or.inr s2) (fun x j h1 h2 z => by omega) s4, Sd_congr s6.1 (fun i hi => ?_) s5, s6, s7⟩
            exact Fx_i F (by omega) (fun z => by omega)
      · refine ⟨fun a b sa sb ha hb hab pa pb => ?_, fun a j sa q ha hj pa pq => ?_⟩
        · by_cases ca : a = k
          · subst ca
            rw [p3] at pa; cases pa
            rw [po b (fun z => hab z.symm)] at pb
            exact dj1 b sb hb (fun z => hab z.symm) pb
          · rw [po a ca] at pa
            by_cases cb : b = k
            · subst cb
              rw [p3] at pb; cases pb
              have := dj1 a sa ha ca pa
              omega
            · rw [po b cb] at pb
              exact g8.1 a b sa sb ha hb hab pa pb
        · rw [pr] at pq
          by_cases ca : a = k
          · subst ca
            rw [p3] at pa; cases pa
            exact dj2 j q hj pq
          · rw [po a ca] at pa
            exact g8.2 a j sa q ha hj pa pq
