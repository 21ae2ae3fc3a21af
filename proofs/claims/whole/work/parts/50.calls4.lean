/-! ===== calls: runs, what would be, what can be ===== -/
theorem lv0 {α : SA} (D : Dm α) : α 0 0 = 0 ↔ lvl α = 0 := by
  have h8 := D.2.2.2.1
  rw [D.1, show (0 : Int32) = nI 0 from rfl, nI_eq (by omega) (by decide)]
theorem lv0' {α : SA} (D : Dm α) : α 0 0 ≤ 0 ↔ lvl α = 0 := by
  have h8 := D.2.2.2.1
  rw [D.1, show (0 : Int32) = nI 0 from rfl, nI_leI (by omega) (by decide)]
  omega
theorem ok_run {N : Nat} (hN : 5000 ≤ N) (v : Int32) : Cok N (fun h => f_X7_run N h 0 v) (fun h => f_X8_run N h 51 v) := by
  rintro h ⟨r, R, α, g⟩
  have g' := g
  obtain ⟨g1, A, M, O, f, T, g7, g8, g9⟩ := g
  have H := M.1
  have D := O.1
  show ∃ z h1 h2, f_X7_run N h 0 v = some (z, h1) ∧ f_X8_run N h1 51 v = some (z, h2) ∧ GG N h2
  unfold f_X7_run f_X8_run
  have inn : ∀ h1, f_X8_in h1 v.toInt64 (0 : Int64) (200 : Int64) = some (if v < 0 then 0 else if 200 < v then 0 else 1) := fun h1 => m_in h1 v 0 200
  have nope : ∀ (c : lvl α = 0 ∨ v < 0 ∨ ¬ v ≤ 200), (Option.bind (hP h 51 26) (fun q1 => if 0 < hL h q1 then (if (hI h q1 (0)) ≤ 0 then (some (((-1 : Int32), h))) else (Option.bind (f_X8_in h (v.toInt64) (0 : Int64) (200 : Int64)) (fun r4 => if r4 = 0 then (some (((-1 : Int32), h))) else (b2 (f_X8_runs N h 51 v) (fun r6 h7 => some ((r6, h7))))))) else none)) = some (-1, h) := by
    intro c
    rw [pp_51_26 H, bs, ll_62 H, if_pos (by decide), am_0 M]
    by_cases c0 : lvl α = 0
    · rw [if_pos ((lv0' D).mpr c0)]
    · rw [if_neg (fun z => c0 ((lv0' D).mp z)), inn, bs]
      by_cases c1 : v < 0
      · rw [if_pos c1, if_pos rfl]
      · rw [if_neg c1, if_pos (Int32.not_le.mp ((c.resolve_left c0).resolve_left c1)), if_pos rfl]
  rw [pp_0_1 H, bs, ac_0 A (by decide)]
  by_cases c0 : lvl α = 0
  · rw [if_pos ((lv0 D).mpr c0)]
    exact ⟨-1, h, h, rfl, nope (Or.inl c0), r, R, α, g'⟩
  · rw [if_neg (fun z => c0 ((lv0 D).mp z))]
    by_cases c1 : v < 0
    · rw [if_pos c1]
      exact ⟨-1, h, h, rfl, nope (Or.inr (Or.inl c1)), r, R, α, g'⟩
    · rw [if_neg c1]
      by_cases c2 : v ≤ 200
      · obtain ⟨n, n1, rfl⟩ := i_nat c1
        have n2 : n ≤ 200 := (nI_leI (b := 200) n1 (by decide)).mp c2
        rw [if_pos c2, pp_0_8 H, bs, forget_e, bs]
        have F1 : Fr (fun a j => a = 32 ∧ j = 15) h (sI h 32 15 (-2)) := Fr_sI _ _ _ _ ⟨rfl, rfl⟩
        have q1 : hI (sI h 32 15 (-2)) 32 15 = -2 := by rw [hI_sI, if_pos ⟨rfl, rfl⟩]
        generalize sI h 32 15 (-2) = h1 at F1 q1 ⊢
        have H1 := Fr_SHP F1 H
        have A1 : Ac h1 3 α := Fr_Ac F1 (fun a j h1 h2 z => by omega) A
        have T1 : RuT N h1 r R := RuT_Fq (Fr_q F1) (fun a j z => by unfold Pr2; omega) T
        obtain ⟨w, w1, w2⟩ := c_rif H1 A1 T1 f
        obtain ⟨h2, e2, A2, F2⟩ := c_runs A1 D (by omega) (by omega) (fun q e => by have := Rc_q77 w2 q e; omega) w2 n2
        rw [pp_0_1 H1, bs, w1, bs, e2, b2s]
        have F12 : Fq PCc h h2 := Fq_trans (Fq_mono (Fr_q F1) (fun a j z => Or.inr z)) (Fq_mono (Fr_q F2) (fun a j z => Or.inl (by have := z.1; have := z.2; omega)))
        have M2 : Am h2 α := Am_Fq F12 (fun j z => by unfold PCc at z; omega) M
        have Q2 : Rm N h2 (α 0 5) (rlF R α) := Rm_Fq F12 (fun j z => by unfold PCc at z; omega) (fun j z => by unfold PCc at z; omega) (fun j z => by unfold PCc at z; omega) (fOk_rl T f)
        obtain ⟨h3, e3, M3, F3⟩ := m_runs M2 D (by omega) Q2 n2
        refine ⟨_, h2, h3, rfl, ?_, r, R, (RN (rlF R α) n α).2, ?_⟩
        · rw [pp_51_26 M2.1, bs, ll_62 M2.1, if_pos (by decide), am_0 M2, if_neg (fun z => c0 ((lv0' D).mp z)), inn, bs, if_neg c1, if_neg (Int32.not_lt.mpr c2), if_neg (by decide), e3, b2s]
        · obtain ⟨o1, o2, _, _⟩ := RN_ok (rl := rlF R α) n O
          have F3' : Fq PCm h2 h3 := Fq_mono (Fr_q F3) (fun a j z => z)
          exact GI_set g' (Fq_trans (Fq_mono F12 PCc_h) (Fq_mono F3' PCm_h)) PCh_ok (Fq_Ac F3' (fun a j h1 h2 z => by unfold PCm at z; omega) A2) M3 o1 (fOk_of o2 f) (Or.inl (by rw [F3'.2.2.2 32 15 (fun z => by unfold PCm at z; omega), F2.2.2.2 32 15 (fun z => by have := z.2; omega)]; exact q1))
      · rw [if_neg c2]
        exact ⟨-1, h, h, rfl, nope (Or.inr (Or.inr c2)), r, R, α, g'⟩
/-- questions on both sides: what they may touch -/
def PQc : Nat → Nat → Prop := fun a j => a = 14 ∨ (15 ≤ a ∧ a ≤ 26) ∨ (44 ≤ a ∧ a ≤ 50)
def PQm : Nat → Nat → Prop := fun a j => a = 62 ∨ a = 63 ∨ (a = 51 ∧ j = 24) ∨ (72 ≤ a ∧ a ≤ 74)
def PQ : Nat → Nat → Prop := fun a j => PQc a j ∨ PQm a j
theorem PQ_ok : ∀ a j, PQ a j → ¬ Pro a j ∧ ¬ Prs a j ∧ ¬ (3 ≤ a ∧ a ≤ 13) := fun a j z => by unfold PQ PQc PQm at z; unfold Pro Prt Pr2 Prs; omega
theorem ask2 {N : Nat} {h h1 h2 : Hp} {r : Nat} {R : Nat → RLT} {α : SA} (g : GI N h r R α) (F1 : Fq PQc h h1) (F2 : Fq PQm h1 h2) (e : ∀ i, i < 93 → hI h2 62 i = hI h1 62 i) : GG N h2 := ⟨r, R, α, GI_ask g (Fq_trans (Fq_mono F1 (Q := PQ) (fun a j z => Or.inl z)) (Fq_mono F2 (fun a j z => Or.inr z))) PQ_ok (fun i hi => by rw [e i hi, F1.2.2.2 62 i (fun z => by unfold PQc at z; omega)])⟩
theorem Am_q {h h1 : Hp} {α : SA} (F : Fq PQc h h1) (M : Am h α) : Am h1 α := Am_Fq F (fun j z => by unfold PQc at z; omega) M
theorem Rm_q {N : Nat} {h h1 : Hp} {r : Int32} {rl : RLT} (F : Fq PQc h h1) (M : Rm N h r rl) : Rm N h1 r rl := Rm_Fq F (fun j z => by unfold PQc at z; omega) (fun j z => by unfold PQc at z; omega) (fun j z => by unfold PQc at z; omega) M
theorem Ac_q {h h1 : Hp} {α : SA} (F : Fq PQc h h1) (A : Ac h 3 α) : Ac h1 3 α := Fq_Ac F (fun a j h1 h2 z => by unfold PQc at z; omega) A
theorem RuT_q {N r : Nat} {h h1 : Hp} {R : Nat → RLT} (F : Fq PQc h h1) (T : RuT N h r R) : RuT N h1 r R := RuT_Fq F (fun a j z => by unfold PQc at z; unfold Pr2; omega) T
theorem hdI_neg {l : List Nat} (h : ∀ x, x ∈ l → x < 400) : (0 ≤ hdI l) ↔ l ≠ [] := by
  cases l with
  | nil => exact ⟨fun z => absurd z (by decide), fun z => absurd rfl z⟩
  | cons x l => exact ⟨fun _ z => (by cases z), fun _ => nI_pos' (by have := h x (by simp); omega)⟩
theorem TL_400 {α : SA} {rl : RLT} (D : Dm α) : ∀ x, x ∈ TL α rl → x < 400 := fun x hx => by
  have := (TL_mem hx).2
  have := tM_le D
  omega
def stuckV (α : SA) (rl : RLT) : Int32 := if hmS α = ((1 : Int32) <<< (α 0 1 &&& 31)) - 1 then 0 else if TL α rl = [] then 1 else 0
def wouV (α β : SA) (rl : RLT) (n : Nat) (w : Int32) : Int32 := if w = 0 then nI n else if w = 1 then bct (hmS β) else if w = 2 then β 0 4 - α 0 4 else stuckV β rl
theorem c_stuck {h : Hp} {N s : Nat} {α : SA} {v : Option Nat} {rl : RLT} (hN : 400 ≤ N) (A : Ac h s α) (D : Dm α) (h0 : 0 < lvl α) (Q : Rc N h v rl) (hs : s + 12 ≤ 77) : ∃ h1, f_X5_isStuck N h s v = some (stuckV α rl, h1) ∧ Fr (fun a _ => a = s + 11) h h1 := by
  unfold f_X5_isStuck stuckV
  rw [c_home A D (by omega), bs, ac_0 A (by decide)]
  by_cases c : hmS α = ((1 : Int32) <<< (α 0 1 &&& 31)) - 1
  · rw [if_pos c, if_pos c]
    exact ⟨h, rfl, Fr_refl h⟩
  · obtain ⟨h1, q1, r1, F1⟩ := c_gather (N := N) (s := s) (v2 := s + 11) (len := 16) (most := 1) (v1 := v) D (by omega) (Or.inr (by omega)) (fun q e => by have := Rc_q77 Q q e; omega) (by decide) (by decide) h0 ⟨A, Q, ac_l11 A⟩
    have q1' : f_X5_gatherTips N h s v (s + 11) 1 = some (nI ((TL α rl).take 1).length, h1) := q1
    rw [if_neg c, if_neg c, ac_p18 A, bs, q1', b2s]
    refine ⟨h1, ?_, F1⟩
    cases e : TL α rl with
    | nil => rfl
    | cons x l => rfl
theorem m_stuck {h : Hp} {N : Nat} {α : SA} {rl : RLT} (hN : 400 ≤ N) (M : Am h α) (D : Dm α) (Q : Rm N h (α 0 5) rl) : ∃ h1, f_X8_isStuck N h 51 = some (stuckV α rl, h1) ∧ Fr PM h h1 := by
  unfold f_X8_isStuck stuckV
  obtain ⟨h1, e1, F1⟩ := m_first M D hN Q (n := 0) (Nat.zero_le _)
  have e1' : f_X8_firstFrom N h 51 0 = some (hdI (TL α rl), h1) := e1
  have M1 := Am_PM F1 M
  rw [e1', b2s]
  by_cases c : TL α rl = []
  · rw [if_neg (fun z => (hdI_neg (TL_400 D)).mp z c), if_pos c, m_home M1 D (by omega), bs, pp_51_26 M1.1, bs, ll_62 M1.1, if_pos (by decide), am_1 M1]
    refine ⟨h1, ?_, F1⟩
    split <;> rfl
  · rw [if_pos ((hdI_neg (TL_400 D)).mpr c), if_neg c, ite_self]
    exact ⟨h1, rfl, F1⟩
theorem ok_would {N : Nat} (hN : 5000 ≤ N) (v w : Int32) : Cok N (fun h => f_X7_would N h 0 v w) (fun h => f_X8_would N h 51 v w) := by
  rintro h ⟨r, R, α, g⟩
  have g' := g
  obtain ⟨g1, A, M, O, f, T, g7, g8, g9⟩ := g
  have H := M.1
  have D := O.1
  show ∃ z h1 h2, f_X7_would N h 0 v w = some (z, h1) ∧ f_X8_would N h1 51 v w = some (z, h2) ∧ GG N h2
  have inn : ∀ h1, f_X8_in h1 v.toInt64 (0 : Int64) (200 : Int64) = some (if v < 0 then 0 else if 200 < v then 0 else 1) := fun h1 => m_in h1 v 0 200
  have inw : ∀ h1, f_X8_in h1 w.toInt64 (0 : Int64) (3 : Int64) = some (if w < 0 then 0 else if 3 < w then 0 else 1) := fun h1 => m_in h1 w 0 3
  have nope : ∀ (c : lvl α = 0 ∨ v < 0 ∨ 200 < v ∨ w < 0 ∨ 3 < w), f_X8_would N h 51 v w = some (-1, h) := by
    intro c
    unfold f_X8_would
    rw [pp_51_26 H, bs, ll_62 H, if_pos (by decide), am_0 M]
    by_cases c0 : lvl α = 0
    · rw [if_pos ((lv0 D).mpr c0)]
    · rw [if_neg (fun z => c0 ((lv0 D).mp z)), inn, bs]
      by_cases c1 : v < 0
      · rw [if_pos c1, if_pos rfl]
      · rw [if_neg c1]
        by_cases c2 : 200 < v
        · rw [if_pos c2, if_pos rfl]
        · rw [if_neg c2, if_neg (by decide), inw, bs]
          by_cases c3 : w < 0
          · rw [if_pos c3, if_pos rfl]
          · rw [if_neg c3, if_pos ((((c.resolve_left c0).resolve_left c1).resolve_left c2).resolve_left c3), if_pos rfl]
  unfold f_X7_would
  rw [pp_0_1 H, bs, ac_0 A (by decide)]
  by_cases c0 : lvl α = 0
  · rw [if_pos ((lv0 D).mpr c0)]
    exact ⟨-1, h, h, rfl, nope (Or.inl c0), r, R, α, g'⟩
  · rw [if_neg (fun z => c0 ((lv0 D).mp z))]
    by_cases c1 : v < 0
    · rw [if_pos c1]
      exact ⟨-1, h, h, rfl, nope (Or.inr (Or.inl c1)), r, R, α, g'⟩
    · rw [if_neg c1]
      by_cases c2 : 200 < v
      · rw [if_pos c2]
        exact ⟨-1, h, h, rfl, nope (Or.inr (Or.inr (Or.inl c2))), r, R, α, g'⟩
      · rw [if_neg c2]
        by_cases c3 : w < 0
        · rw [if_pos c3]
          exact ⟨-1, h, h, rfl, nope (Or.inr (Or.inr (Or.inr (Or.inl c3)))), r, R, α, g'⟩
        · rw [if_neg c3]
          by_cases c4 : w ≤ 3
          · obtain ⟨n, n1, rfl⟩ := i_nat c1
            have n2 : n ≤ 200 := (nI_leI (b := 200) n1 (by decide)).mp (Int32.not_lt.mp c2)
            obtain ⟨h1, e1, A1, F1⟩ := c_copy (s0 := 15) (s1 := 3) (Or.inr (by decide)) A (st_15 H)
            have Q1 : Fq PQc h h1 := Fq_mono (Fr_q F1) (fun a j z => by unfold PQc; have := z.1; have := z.2; omega)
            have H1 := Fr_SHP F1 H
            have A1' := Ac_q Q1 A
            obtain ⟨u, u1, u2⟩ := c_rif H1 A1' (RuT_q Q1 T) f
            obtain ⟨h2, e2, A2, F2⟩ := c_runs A1 D (by omega) (by omega) (fun q e => by have := Rc_q77 u2 q e; omega) u2 n2
            have Q2 : Fq PQc h h2 := Fq_trans Q1 (Fq_mono (Fr_q F2) (fun a j z => by unfold PQc; have := z.1; have := z.2; omega))
            have H2 := Fr_SHP F2 H1
            obtain ⟨o1, o2, o3, o4⟩ := RN_ok (rl := rlF R α) n O
            have A2' := Ac_q Q2 A
            rw [if_pos c4, pp_0_2 H, bs, bs, e1, bs, pp_0_2 H1, bs, u1, bs, e2, b2s]
            have cl : ∃ h3, (if w = (0 : Int32) then (some (nI (RN (rlF R α) n α).1, h2)) else if w = (1 : Int32) then (Option.bind (hP h2 0 2) (fun q16 => Option.bind (f_X5_homeBits N h2 q16) (fun r17 => Option.bind (f_J6_bitCount_0f7a4 h2 r17) (fun r18 => some ((r18, h2)))))) else if w = (2 : Int32) then (Option.bind (hP h2 0 2) (fun q20 => Option.bind (hP h2 0 1) (fun q21 => some (((hI h2 q20 4) - (hI h2 q21 4), h2))))) else (Option.bind (hP h2 0 2) (fun q22 => Option.bind (f_X7_ruleInForce h2 0) (fun r23 => b2 (f_X5_isStuck N h2 q22 r23) (fun r24 h25 => if r24 = 0 then (some (((0 : Int32), h25))) else (some (((1 : Int32), h25)))))))) = some (wouV α (RN (rlF R α) n α).2 (rlF R α) (RN (rlF R α) n α).1 w, h3) ∧ Fq PQc h h3 := by
              unfold wouV
              by_cases w0 : w = 0
              · rw [if_pos w0, if_pos w0]; exact ⟨h2, rfl, Q2⟩
              · rw [if_neg w0, if_neg w0]
                by_cases w1 : w = 1
                · rw [if_pos w1, if_pos w1, pp_0_2 H2, bs, c_home A2 o1.1 (by omega), bs, c_bct, bs]
                  exact ⟨h2, rfl, Q2⟩
                · rw [if_neg w1, if_neg w1]
                  by_cases w2 : w = 2
                  · rw [if_pos w2, if_pos w2, pp_0_2 H2, bs, pp_0_1 H2, bs, ac_0 A2 (by decide), ac_0 A2' (by decide)]
                    exact ⟨h2, rfl, Q2⟩
                  · rw [if_neg w2, if_neg w2]
                    obtain ⟨u', u1', u2'⟩ := c_rif H2 A2' (RuT_q Q2 T) f
                    obtain ⟨h3, e3, F3⟩ := c_stuck (by omega) A2 o1.1 (by rw [o3]; omega) u2' (by decide)
                    rw [pp_0_2 H2, bs, u1', bs, e3, b2s]
                    refine ⟨h3, ?_, Fq_trans Q2 (Fq_mono (Fr_q F3) (fun a j z => by unfold PQc; omega))⟩
                    unfold stuckV
                    split
                    · rfl
                    · split <;> rfl
            obtain ⟨h3, e3, Q3⟩ := cl
            have M3 := Am_q Q3 M
            have H3 := M3.1
            have k0 := m_keeps_l (N := N) (h0 := h3) 93 0 N h3 (by omega) (by omega) H3 (Fr_refl h3) (fun i hi => absurd hi (Nat.not_lt_zero i))
            obtain ⟨h4, e4, F4, k4⟩ := k0
            have e4' : f_X8_keeps N h3 51 = some h4 := e4
            have M4 : Am h4 α := Am_Fr F4 (fun j z => by omega) M3
            have Q4 : Rm N h4 (α 0 5) (rlF R α) := Rm_Fr F4 (fun j z => by omega) (fun j z => by omega) (fun j z => by omega) (Rm_q Q3 (fOk_rl T f))
            obtain ⟨h5, e5, M5, F5⟩ := m_runs M4 D (by omega) Q4 n2
            have Q5 : Rm N h5 ((RN (rlF R α) n α).2 0 5) (rlF R α) := by rw [o2]; exact Rm_PD F5 Q4
            have mo' : ∃ h6, (if w = 0 then (f_X8_would_101 N h5 51 (nI (RN (rlF R α) n α).1)) else (if w = (1 : Int32) then (Option.bind (f_X8_homeOnes N h5 51) (fun r22 => Option.bind (f_X8_bits N h5 r22) (fun r23 => f_X8_would_101 N h5 51 r23))) else (if w = (2 : Int32) then (Option.bind (hP h5 51 26) (fun q18 => if 4 < hL h5 q18 then (Option.bind (hP h5 51 27) (fun q20 => if 4 < hL h5 q20 then (f_X8_would_101 N h5 51 ((hI h5 q18 (4)) - (hI h5 q20 (4)))) else none)) else none)) else (b2 (f_X8_isStuck N h5 51) (fun r15 h16 => if r15 = 0 then (f_X8_would_101 N h16 51 (0 : Int32)) else (f_X8_would_101 N h16 51 (1 : Int32))))))) = f_X8_would_101 N h6 51 (wouV α (RN (rlF R α) n α).2 (rlF R α) (RN (rlF R α) n α).1 w) ∧ Fr PM h5 h6 := by
              unfold wouV
              by_cases w0 : w = 0
              · rw [if_pos w0, if_pos w0]; exact ⟨h5, rfl, Fr_refl h5⟩
              · rw [if_neg w0, if_neg w0]
                by_cases w1 : w = 1
                · rw [if_pos w1, if_pos w1, m_home M5 o1.1 (by omega), bs]
                  rw [show f_X8_bits N h5 (hmS (RN (rlF R α) n α).2) = some (bct (hmS (RN (rlF R α) n α).2)) from m_bitsS (by omega) _ o1.1.2.2.2.2.1, bs]
                  exact ⟨h5, rfl, Fr_refl h5⟩
                · rw [if_neg w1, if_neg w1]
                  by_cases w2 : w = 2
                  · rw [if_pos w2, if_pos w2, pp_51_26 M5.1, bs, ll_62 M5.1, if_pos (by decide), pp_51_27 M5.1, bs, ll_63 M5.1, if_pos (by decide), am_4 M5, F5.2.2.2 63 4 (fun z => by unfold PD at z; omega), k4 4 (by decide), am_4 M3]
                    exact ⟨h5, rfl, Fr_refl h5⟩
                  · rw [if_neg w2, if_neg w2]
                    obtain ⟨h6, e6, F6⟩ := m_stuck (by omega) M5 o1.1 Q5
                    rw [e6, b2s]
                    refine ⟨h6, ?_, F6⟩
                    unfold stuckV
                    split
                    · rfl
                    · split <;> rfl
            obtain ⟨h6, e6, F6⟩ := mo'
            have p0 := m_puts_l (N := N) (h0 := h6) 93 0 N h6 (by omega) (by omega) (Fr_SHP F6 M5.1) (Fr_refl h6) (fun i hi => absurd hi (Nat.not_lt_zero i))
            obtain ⟨h7, e7, F7, k7⟩ := p0
            have e7' : f_X8_putsBack N h6 51 = some h7 := e7
            refine ⟨_, h3, h7, e3, ?_, ask2 g' Q3 (Fq_trans (Fq_mono (Fr_q F4) (fun a j z => by unfold PQm; omega)) (Fq_trans (Fq_mono (Fr_q F5) (fun a j z => by unfold PD at z; unfold PQm; omega)) (Fq_trans (Fq_mono (Fr_q F6) (fun a j z => by unfold PM at z; unfold PQm; omega)) (Fq_mono (Fr_q F7) (fun a j z => by unfold PQm; omega))))) (fun i hi => ?_)⟩
            · unfold f_X8_would
              rw [pp_51_26 H3, bs, ll_62 H3, if_pos (by decide), am_0 M3, if_neg (fun z => c0 ((lv0 D).mp z)), inn, bs, if_neg c1, if_neg c2, if_neg (by decide), inw, bs, if_neg c3, if_neg (Int32.not_lt.mpr c4), if_neg (by decide), e4', bs, e5, b2s, e6]
              unfold f_X8_would_101
              rw [e7', bs]
            · rw [k7 i hi, F6.2.2.2 63 i (fun z => by unfold PM at z; omega), F5.2.2.2 63 i (fun z => by unfold PD at z; omega), k4 i hi]
          · rw [if_neg c4]
            exact ⟨-1, h, h, rfl, nope (Or.inr (Or.inr (Or.inr (Or.inr (Int32.not_le.mp c4))))), r, R, α, g'⟩
theorem m_can_l {N : Nat} {α : SA} {rl : RLT} (D : Dm α) (hN : 20 ≤ N) : ∀ (m n z f : Nat) (h : Hp), n + m = tM α → m < f → Am h α → Rm N h (α 0 5) rl → ∃ h', f_X8_can_15 N f h 51 (nI z) (nI n) = some (nI (z + (LF (lgl α rl) m n).length), h') ∧ Fr PM h h' := by
  have t3 := tM_le D
  intro m
  induction m with
  | zero =>
    intro n z f h hn hf M Q
    obtain ⟨f, rfl⟩ : ∃ k, f = k + 1 := ⟨f - 1, by omega⟩
    rw [f_X8_can_15, m_tipMany M D, bs, if_pos (nI_le (by omega) (by omega))]
    exact ⟨h, rfl, Fr_refl h⟩
  | succ m ih =>
    intro n z f h hn hf M Q
    obtain ⟨f, rfl⟩ : ∃ k, f = k + 1 := ⟨f - 1, by omega⟩
    obtain ⟨h1, e1, F1⟩ := m_mayBe M D hN Q (n := n) (by omega)
    rw [f_X8_can_15, m_tipMany M D, bs, if_neg (nI_ge (by omega) (by omega)), e1, b2s, LF]
    unfold f_X8_can_37
    by_cases hp : lgl α rl n = true
    · rw [if_neg (by rw [hp]; decide), if_pos hp, nI_1, nI_1]
      obtain ⟨h2, e2, F2⟩ := ih (n + 1) (z + 1) f h1 (by omega) (by omega) (Am_PM F1 M) (Rm_PM F1 Q)
      refine ⟨h2, ?_, Fr_trans F1 F2⟩
      rw [e2, List.length_cons, show z + 1 + (LF (lgl α rl) m (n + 1)).length = z + ((LF (lgl α rl) m (n + 1)).length + 1) by omega]
    · rw [if_pos (by rw [b2i_0]; simpa using hp), if_neg hp, nI_1, Int32.add_zero]
      obtain ⟨h2, e2, F2⟩ := ih (n + 1) z f h1 (by omega) (by omega) (Am_PM F1 M) (Rm_PM F1 Q)
      exact ⟨h2, e2, Fr_trans F1 F2⟩
theorem ok_can {N : Nat} (hN : 5000 ≤ N) : Cok N (fun h => f_X7_can N h 0) (fun h => f_X8_can N h 51) := by
  rintro h ⟨r, R, α, g⟩
  have g' := g
  obtain ⟨g1, A, M, O, f, T, g7, g8, g9⟩ := g
  have H := M.1
  have D := O.1
  show ∃ z h1 h2, f_X7_can N h 0 = some (z, h1) ∧ f_X8_can N h1 51 = some (z, h2) ∧ GG N h2
  unfold f_X7_can f_X8_can
  rw [pp_0_1 H, bs, ac_0 A (by decide)]
  by_cases c0 : lvl α = 0
  · rw [if_pos ((lv0 D).mpr c0)]
    refine ⟨-1, h, h, rfl, ?_, r, R, α, g'⟩
    rw [pp_51_26 H, bs, ll_62 H, if_pos (by decide), am_0 M, if_pos ((lv0 D).mpr c0)]
  · obtain ⟨u, u1, u2⟩ := c_rif H A T f
    have t15 := TL_15 (α := α) (rl := rlF R α) D
    obtain ⟨h1, q1, _, F1⟩ := c_gather (N := N) (s := 3) (v2 := 14) (len := 16) (most := 16) (v1 := u) D (by omega) (Or.inr (by decide)) (fun q e => by have := Rc_q77 u2 q e; omega) (Nat.le_refl _) (by decide) (by omega) ⟨A, u2, ll_14 H⟩
    rw [List.take_of_length_le (by omega)] at q1
    have Q1 : Fq PQc h h1 := Fq_mono (Fr_q F1) (fun a j z => Or.inl z)
    rw [if_neg (fun z => c0 ((lv0 D).mp z)), bs, u1, bs, bs, pp_3_18 H, bs, bs, pp_3_18 H, bs, ll_14 H, q1, b2s]
    have M1 := Am_q Q1 M
    obtain ⟨h2, e2, F2⟩ := m_can_l D (by omega) (tM α) 0 0 N h1 (by omega) (by have := tM_le D; omega) M1 (Rm_q Q1 (fOk_rl T f))
    have e2' : f_X8_can_15 N N h1 51 0 0 = some (nI (0 + (TL α (rlF R α)).length), h2) := e2
    rw [Nat.zero_add] at e2'
    refine ⟨_, h1, h2, rfl, ?_, ask2 g' Q1 (Fq_mono (Fr_q F2) (fun a j z => by unfold PM at z; unfold PQm; omega)) (fun i _ => F2.2.2.2 62 i (fun z => by unfold PM at z; omega))⟩
    rw [pp_51_26 M1.1, bs, ll_62 M1.1, if_pos (by decide), am_0 M1, if_neg (fun z => c0 ((lv0 D).mp z)), e2']
