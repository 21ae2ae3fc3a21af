/-! ===== stair ===== -/
def PQe : Nat → Nat → Prop := fun a j => PSC a j ∨ (a = 1 ∧ j = 1)
def PQf : Nat → Nat → Prop := fun a j => PSC a j ∨ (a = 1 ∧ j = 1) ∨ (3 ≤ a ∧ a ≤ 14) ∨ (a = 32 ∧ j = 15)
theorem ok_stair {N : Nat} (hN : 5000 ≤ N) : Cok N (fun h => f_X7_stair N h 0) (fun h => f_X8_stair N h 51) := by
  rintro h ⟨r, R, γ, g⟩
  have g' := g
  obtain ⟨⟨n, hn, t1, t2, t3, t4⟩, A, M, O, f, T, g7, g8, g9⟩ := g
  have H := M.1
  show ∃ v h1 h2, f_X7_stair N h 0 = some (v, h1) ∧ f_X8_stair N h1 51 = some (v, h2) ∧ GG N h2
  obtain ⟨Z, hZ⟩ : ∃ Z, Z = zLp (hI h 2) n 33 (clr (fun k i => hI h (15 + k) i)) false false (.inr (skp (hI h 2) n 0)) := ⟨_, rfl⟩
  obtain ⟨h1, c1', c2', c3'⟩ := c_stair hN H A rfl t1 hn hZ
  have Zi := zLp_inv (t := hI h 2) hn 33 (clr (fun k i => hI h (15 + k) i)) false false (.inr (skp (hI h 2) n 0)) (ZI_clr _) (sc_le (Nat.zero_le n)) (fun _ => rfl)
  rw [← hZ] at Zi
  have TP : ∀ g : Hp, hI g 1 1 = 0 → hI g 51 1 = 0 → TAPE g := fun g a b => ⟨0, by decide, a, b, fun i hi => absurd hi (Nat.not_lt_zero i), fun i hi => absurd hi (Nat.not_lt_zero i)⟩
  cases hE : zEd Z with
  | inl fa =>
    obtain ⟨e7, A1, F1⟩ := c1' fa hE
    have F1' : Fr PQe h h1 := F1
    have H1 := Fr_SHP F1' H
    obtain ⟨r1, _, h2, i1, i2, F2, _⟩ := m_reads (t := hI h 2) (n := n) (fun k i => hI h (15 + k) i) hN H1 (by rw [F1'.2.2.2 51 1 (fun z => by unfold PQe PSC at z; omega)]; exact t2) hn (fun i hi => by rw [F1'.2.2.2 52 i (fun z => by unfold PQe PSC at z; omega)]; exact (t3 i hi).symm)
    rw [← hZ] at i2
    obtain ⟨o1, o2⟩ := i2
    rcases o2.symm with ⟨s, b1, _⟩ | ⟨fb, b1, b2', b3, b4⟩
    · rw [hE] at b1; cases b1
    · have ef : fa = fb := by rw [hE] at b1; injection b1
      subst ef
      have e8 : f_X8_stair N h1 51 = some (-2 - fa, h2) := by
        rw [i1, b2s, b3, if_pos rfl, b4]
      have G : Fq (fun a j => PQe a j ∨ PQ1 a j) h h2 := Fq_trans (Fq_mono (Fr_q F1') (fun a j z => Or.inl z)) (Fq_mono (Fr_q F2) (fun a j z => Or.inr z))
      refine ⟨-2 - fa, h1, h2, e7, e8, r, R, γ, GI_tape g' G (fun a j z => ?_) (TP h2 (by rw [F2.2.2.2 1 1 (fun z => by unfold PQ1 PSN PSM at z; omega)]; exact c3') o1)⟩
      unfold PQe PSC PQ1 PSN PSM at z
      unfold Pr2 Prs
      omega
  | inr s =>
    obtain ⟨e7, A1, q32, F1⟩ := c2' s hE
    have F1' : Fr PQf h h1 := F1
    have H1 := Fr_SHP F1' H
    obtain ⟨r1, _, h2, i1, i2, F2, _⟩ := m_reads (t := hI h 2) (n := n) (fun k i => hI h (15 + k) i) hN H1 (by rw [F1'.2.2.2 51 1 (fun z => by unfold PQf PSC at z; omega)]; exact t2) hn (fun i hi => by rw [F1'.2.2.2 52 i (fun z => by unfold PQf PSC at z; omega)]; exact (t3 i hi).symm)
    rw [← hZ] at i2
    obtain ⟨o1, o2⟩ := i2
    rcases o2 with ⟨fb, b1, _⟩ | ⟨s', b1, b3, l2, D2⟩
    · rw [hE] at b1; cases b1
    · have H2 := Fr_SHP F2 H1
      have e62 : hI h2 62 = hI h 62 := by rw [Fr_row F2 (fun j z => by unfold PQ1 PSN PSM at z; omega), Fr_row F1' (fun j z => by unfold PQf PSC at z; omega)]
      obtain ⟨h3, k1, k2, F3⟩ := m_taken hN H2 D2 Zi.1 Zi.2.2 (γ := γ) (by rw [e62]; exact M.2)
      have e8 : f_X8_stair N h1 51 = some (nI (lvl Z.1), h3) := by
        rw [i1, b2s, b3, if_neg (by decide), pp_51_26 H2, bs, ll_62 H2, if_pos (by decide), k1]
      have e7' : f_X7_stair N h 0 = some (nI (lvl Z.1), h1) := by rw [e7, Zi.1.1.1]
      have G2 : Fr PQ2 h1 h3 := Fr_trans (Fr_mono F2 (fun a j z => Or.inl z)) (Fr_mono F3 (fun a j z => Or.inr z))
      have H3 := Fr_SHP G2 H1
      have G : Fq (fun a j => PQf a j ∨ PQ2 a j) h h3 := Fq_trans (Fq_mono (Fr_q F1') (fun a j z => Or.inl z)) (Fq_mono (Fr_q G2) (fun a j z => Or.inr z))
      have hp2 : ∀ a j, (PQf a j ∨ PQ2 a j) → ¬ Pr2 a j := fun a j z => by
        unfold PQf PSC PQ2 PQ1 PSN PSM at z
        unfold Pr2
        omega
      refine ⟨_, h1, h3, e7', e8, r, R, put Z.1 γ, TP h3 ?_ ?_, Fr_Ac G2 (fun a j h1 h2 z => by unfold PQ2 PQ1 PSN PSM at z; omega) A1, ⟨H3, k2⟩, put_ok Zi.1 l2 O.2.2.2.1.2.2.2.1, ?_, RuT_Fq G hp2 T, ImT_Fq G hp2 g7, DJ_Fq G g8, Or.inl ?_⟩
      · rw [G2.2.2.2 1 1 (fun z => by unfold PQ2 PQ1 PSN PSM at z; omega)]; exact c3'
      · rw [F3.2.2.2 51 1 (by decide)]; exact o1
      · unfold fOk
        rw [put_5]
        exact f
      · rw [G2.2.2.2 32 15 (fun z => by unfold PQ2 PQ1 PSN PSM at z; omega)]; exact q32
