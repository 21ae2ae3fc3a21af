/-! ===== calls that ask of a stair, or change it a little ===== -/
theorem Ok_of {α β : SA} (O : Ok α) (h1 : β 1 = α 1) (h3 : β 3 = α 3) (h5 : β 5 = α 5) (h6 : β 6 = α 6) (h7 : β 7 = α 7) (h8 : β 8 = α 8) (h9 : β 9 = α 9) (z0 : β 0 0 = α 0 0) (z1 : β 0 1 = α 0 1) (z2 : β 0 2 = α 0 2) (z6 : 0 ≤ β 0 6) (D : Dm β) (S : Sn β) : Ok β := by
  obtain ⟨D0, P0, S0, V0, W0⟩ := O
  have el : lvl β = lvl α := lvl_of z0
  have eb : bgs β = bgs α := bgs_of z1
  have er : rem β = rem α := by
    unfold rem
    rw [eb]
    congr 1
    funext b
    unfold rm1
    rw [h8, el, h5]
  refine ⟨D, ?_, S, ?_, ?_⟩
  · intro b hb
    rw [eb] at hb
    rw [el, h5]
    exact P0 b hb
  · obtain ⟨v1, v2, v3, v4, v5, v6⟩ := V0
    unfold Val
    rw [el, eb, h8, h7, h6, h9, h3, z2]
    exact ⟨v1, v2, v3, z6, v5, v6⟩
  · intro l hl
    rw [el] at hl
    rw [h1, er]
    exact W0 l hl
theorem Lw_le {α : SA} {rl : RLT} {k d u : Nat} : Lw α rl k d u ≤ 0 ↔ Lw α rl k d u = 0 := by
  unfold Lw
  by_cases h1 : α 3 k = 0
  · rw [if_pos h1]; decide
  · rw [if_neg h1]
    by_cases h2 : (Rd α k 0 d && Rd α (k + 1) 1 u) = false
    · rw [if_pos h2]; decide
    · rw [if_neg h2]
      by_cases h3 : (Se α k (Cn α k + mo d u) && Se α (k + 1) (Cn α (k + 1) - mo d u)) = false
      · rw [if_pos h3]; decide
      · rw [if_neg h3]
        by_cases h4 : Nd α d u ≤ α 1 k
        · rw [if_pos h4]
          by_cases h5 : rl (Wrd α k d u) = true
          · rw [if_pos h5]; decide
          · rw [if_neg h5]; decide
        · rw [if_neg h4]; decide
theorem Lw_neg {α : SA} {rl : RLT} {k d u : Nat} (h : ¬ Lw α rl k d u = 0) : (-2 : Int32) - Lw α rl k d u < 0 := by
  unfold Lw at h ⊢
  by_cases h1 : α 3 k = 0
  · rw [if_pos h1]; decide
  · rw [if_neg h1] at h ⊢
    by_cases h2 : (Rd α k 0 d && Rd α (k + 1) 1 u) = false
    · rw [if_pos h2]; decide
    · rw [if_neg h2] at h ⊢
      by_cases h3 : (Se α k (Cn α k + mo d u) && Se α (k + 1) (Cn α (k + 1) - mo d u)) = false
      · rw [if_pos h3]; decide
      · rw [if_neg h3] at h ⊢
        by_cases h4 : Nd α d u ≤ α 1 k
        · rw [if_pos h4] at h ⊢
          by_cases h5 : rl (Wrd α k d u) = true
          · rw [if_pos h5]; decide
          · rw [if_neg h5] at h; exact absurd rfl h
        · rw [if_neg h4]; decide
def mayV (α : SA) (rl : RLT) (k d u : Nat) : Int32 := if Lw α rl k d u = 0 then Nd α d u else -2 - Lw α rl k d u
theorem c_may {h : Hp} {N r : Nat} {R : Nat → RLT} {α : SA} (hN : 20 ≤ N) (g : GI N h r R α) {k d u : Nat} (hk : k + 1 < lvl α) (hd : d ≤ bgs α) (hu : u ≤ bgs α) (h0 : ¬ (d = 0 ∧ u = 0)) : ∃ h1, f_X7_may N h 0 (nI k) (bI d) (bI u) = some (mayV α (rlF R α) k d u, h1) ∧ Fr PJ h h1 := by
  obtain ⟨g1, A, M, O, f, T, g7, g8, g9⟩ := g
  have H := M.1
  have D := O.1
  obtain ⟨v, v1, v2⟩ := c_rif H A T f
  obtain ⟨h1, e1, F1⟩ := c_law A D hN v2 hk hd hu
  unfold f_X7_may mayV
  rw [pp_0_1 H, bs, c_isTip A D hk hd hu, if_neg h0, bs, if_neg (by decide), bs, v1, bs, e1, b2s]
  by_cases hl : Lw α (rlF R α) k d u = 0
  · rw [if_pos hl, if_pos hl, pp_0_1 (Fr_SHP F1 H), bs, c_need (Fr_Ac_J F1 A) D hd hu, bs]
    exact ⟨h1, rfl, F1⟩
  · rw [if_neg hl, if_neg hl]
    exact ⟨h1, rfl, F1⟩
theorem m_may {h : Hp} {N : Nat} {α : SA} {rl : RLT} (hN : 20 ≤ N) (M : Am h α) (D : Dm α) (Q : Rm N h (α 0 5) rl) {k d u : Nat} (hk : k + 1 < lvl α) (hd : d ≤ bgs α) (hu : u ≤ bgs α) (h0 : ¬ (d = 0 ∧ u = 0)) : ∃ h1, f_X8_may N h 51 (nI k) (bI d) (bI u) = some (mayV α rl k d u, h1) ∧ Fr PM h h1 := by
  obtain ⟨h1, e1, F1⟩ := m_law M D hN Q hk hd hu
  unfold f_X8_may mayV
  rw [m_isTip M D hk hd hu, if_neg h0, bs, if_neg (by decide), e1, b2s]
  by_cases hl : Lw α rl k d u = 0
  · rw [if_pos hl, if_pos (Lw_le.mpr hl), m_needOf (Am_PM F1 M) D hd hu, bs]
    exact ⟨h1, rfl, F1⟩
  · rw [if_neg hl, if_neg (fun z => hl (Lw_le.mp z))]
    exact ⟨h1, rfl, F1⟩
def PJM : Nat → Nat → Prop := fun a j => a = 51 ∧ j = 24
theorem ok_may {N : Nat} (hN : 5000 ≤ N) (v w x : Int32) : Cok N (fun h => f_X7_may N h 0 v w x) (fun h => f_X8_may N h 51 v w x) := by
  rintro h ⟨r, R, α, g⟩
  have g' := g
  obtain ⟨g1, A, M, O, f, T, g7, g8, g9⟩ := g
  show ∃ z h1 h2, f_X7_may N h 0 v w x = some (z, h1) ∧ f_X8_may N h1 51 v w x = some (z, h2) ∧ GG N h2
  rcases tp_or O.1 v w x with ⟨k, d, u, a1, a2, a3, a4, rfl, rfl, rfl⟩ | ⟨a1, a2⟩
  · obtain ⟨h1, e1, F1⟩ := c_may (by omega) g' a1 a2 a3 a4
    have Q1 : Rm N h1 (α 0 5) (rlF R α) := Rm_Fr F1 (fun j z => z) (fun j z => z) (fun j z => z) (fOk_rl T f)
    obtain ⟨h2, e2, F2⟩ := m_may (by omega) (Am_Fr F1 (fun _ z => z) M) O.1 Q1 a1 a2 a3 a4
    refine ⟨_, h1, h2, e1, e2, r, R, α, GI_ask g' (Fq_trans (Fq_mono (Fr_q F1) (Q := PM) (fun a j z => z.elim)) (Fr_q F2)) (fun a j z => by unfold PM at z; unfold Pro Prt Pr2 Prs; omega) (fun i _ => by rw [F2.2.2.2 62 i (fun z => by have := z.1; omega), F1.2.2.2 62 i (fun z => z)])⟩
  · refine ⟨-1, h, h, ?_, ?_, r, R, α, g'⟩
    · unfold f_X7_may
      rw [pp_0_1 M.1, bs, a1 h A, bs, if_pos rfl]
    · unfold f_X8_may
      rw [a2 h M, bs, if_pos rfl]
theorem LF_in {p : Nat → Bool} {x : Nat} (hp : p x = true) : ∀ (m n : Nat), n ≤ x → x < n + m → x ∈ LF p m n := by
  intro m
  induction m with
  | zero => intro n h1 h2; omega
  | succ m ih =>
    intro n h1 h2
    rw [LF]
    by_cases e : x = n
    · subst e; rw [if_pos hp]; simp
    · by_cases hq : p n = true
      · rw [if_pos hq]; exact List.mem_cons_of_mem _ (ih (n + 1) (by omega) (by omega))
      · rw [if_neg hq]; exact ih (n + 1) (by omega) (by omega)
theorem tip_num {α : SA} {rl : RLT} {k d u : Nat} (hk : k + 1 < lvl α) (hd : d ≤ bgs α) (hu : u ≤ bgs α) (h0 : ¬ (d = 0 ∧ u = 0)) (hl : Lw α rl k d u = 0) : ∃ x, x ∈ TL α rl ∧ tk α x = k ∧ td α x = d ∧ tu α x = u := by
  have key : ∀ e, e ≤ bgs α → ∃ i, i < tB α ∧ tdi α i = e := fun e he => by
    cases e with
    | zero => exact ⟨bgs α, by unfold tB; omega, by unfold tdi; rw [if_neg (by omega)]⟩
    | succ b => exact ⟨b, by unfold tB; omega, by unfold tdi; rw [if_pos (by omega)]⟩
  obtain ⟨i, i1, i2⟩ := key d hd
  obtain ⟨j, j1, j2⟩ := key u hu
  obtain ⟨e1, e2, e3⟩ := n_kij (α := α) (k := k) i1 j1
  have hM := tM_lt hk i1 j1
  refine ⟨k * (tB α * tB α) + i * tB α + j, LF_in ?_ (tM α) 0 (Nat.zero_le _) (by omega), e1, e2.trans i2, e3.trans j2⟩
  unfold lgl
  rw [e1, e2, e3, i2, j2]
  exact decide_eq_true ⟨h0, hl⟩
theorem forget_e (h : Hp) : f_X3_forget h 32 = some (sI h 32 15 (-2)) := rfl
theorem dN_05 (α : SA) (x : Nat) (g : Int32) : dN α x g 0 5 = α 0 5 := dT_0 _ _ _ _ _ (by decide) (by decide)
theorem fOk_of {r : Nat} {α β : SA} (e : β 0 5 = α 0 5) (f : fOk r α) : fOk r β := by
  unfold fOk
  rw [e]
  exact f
def PCh : Nat → Nat → Prop := fun a j => (3 ≤ a ∧ a ≤ 14) ∨ a = 62 ∨ (a = 32 ∧ j = 15) ∨ (a = 51 ∧ j = 24)
theorem PCh_ok : ∀ a j, PCh a j → ¬ Pro a j := fun a j z => by unfold PCh at z; unfold Pro Prt Pr2; omega
def PCc : Nat → Nat → Prop := fun a j => (3 ≤ a ∧ a ≤ 14) ∨ (a = 32 ∧ j = 15)
def PCm : Nat → Nat → Prop := fun a j => a = 62 ∨ (a = 51 ∧ j = 24)
theorem PCc_h : ∀ a j, PCc a j → PCh a j := fun a j z => by unfold PCc at z; unfold PCh; omega
theorem PCm_h : ∀ a j, PCm a j → PCh a j := fun a j z => by unfold PCm at z; unfold PCh; omega
theorem ok_tip {N : Nat} (hN : 5000 ≤ N) (v w x : Int32) : Cok N (fun h => f_X7_tip N h 0 v w x) (fun h => f_X8_tip N h 51 v w x) := by
  rintro h ⟨r, R, α, g⟩
  have g' := g
  obtain ⟨g1, A, M, O, f, T, g7, g8, g9⟩ := g
  show ∃ z h1 h2, f_X7_tip N h 0 v w x = some (z, h1) ∧ f_X8_tip N h1 51 v w x = some (z, h2) ∧ GG N h2
  unfold f_X7_tip f_X8_tip
  rcases tp_or O.1 v w x with ⟨k, d, u, a1, a2, a3, a4, rfl, rfl, rfl⟩ | ⟨a1, a2⟩
  · obtain ⟨h1, e1, F1⟩ := c_may (by omega) g' a1 a2 a3 a4
    rw [e1, b2s]
    have Q := fOk_rl T f
    by_cases hl : Lw α (rlF R α) k d u = 0
    · obtain ⟨nd, nd1, nd2⟩ := Nd_nat O.2.2.2.1 a2 a3
      have ev : mayV α (rlF R α) k d u = nI nd := by unfold mayV; rw [if_pos hl, nd2]
      obtain ⟨y, y1, y2, y3, y4⟩ := tip_num a1 a2 a3 a4 hl
      have A1 := Fr_Ac_J F1 A
      have H1 := Fr_SHP F1 M.1
      obtain ⟨h2, e2, A2, F2⟩ := c_doTip A1 O.1 a1 a2 a3
      have H2 := Fr_SHP F2 H1
      rw [ev, if_neg (nI_pos (by omega)), pp_0_1 H1, bs, t_of, bs, e2, bs, pp_0_8 H2, bs, forget_e, bs]
      have F3 : Fr (fun a j => a = 32 ∧ j = 15) h2 (sI h2 32 15 (-2)) := Fr_sI _ _ _ _ ⟨rfl, rfl⟩
      have q3 : hI (sI h2 32 15 (-2)) 32 15 = -2 := by rw [hI_sI, if_pos ⟨rfl, rfl⟩]
      generalize sI h2 32 15 (-2) = h3 at F3 q3 ⊢
      have F13 : Fq PCc h h3 := Fq_trans (Fq_mono (Fr_q F1) (fun a j z => z.elim)) (Fq_trans (Fq_mono (Fr_q F2) (fun a j z => Or.inl (by have := z.1; have := z.2; omega))) (Fq_mono (Fr_q F3) (fun a j z => Or.inr z)))
      have M3 : Am h3 α := Am_Fq F13 (fun j z => by unfold PCc at z; omega) M
      have Q3 : Rm N h3 (α 0 5) (rlF R α) := Rm_Fq F13 (fun j z => by unfold PCc at z; omega) (fun j z => by unfold PCc at z; omega) (fun j z => by unfold PCc at z; omega) Q
      obtain ⟨h4, e4, F4⟩ := m_may (by omega) M3 O.1 Q3 a1 a2 a3 a4
      rw [ev] at e4
      obtain ⟨h5, e5, M5, F5⟩ := m_does (Am_PM F4 M3) O.1 a1 a2 a3
      obtain ⟨l1, l2, _⟩ := Lw_0 hl
      rw [dM_dT l1 l2] at M5
      refine ⟨nI nd, h3, h5, rfl, ?_, r, R, dT α k d u 1, ?_⟩
      · rw [e4, b2s, if_pos (nI_pos' (by omega)), e5, b2s, nd2]
      · have F35 : Fq PCm h3 h5 := Fq_trans (Fq_mono (Fr_q F4) (fun a j z => Or.inr z)) (Fq_mono (Fr_q F5) (fun a j z => Or.inl z))
        have F05 : Fq PCh h h5 := Fq_trans (Fq_mono F13 PCc_h) (Fq_mono F35 PCm_h)
        have e' : dT α k d u 1 = dN α y 1 := by unfold dN; rw [y2, y3, y4]
        refine GI_set g' F05 PCh_ok (Fq_Ac F35 (fun a j h1 h2 z => by unfold PCm at z; omega) (Fr_Ac F3 (fun a j h1 h2 z => by omega) A2)) M5 (by rw [e']; exact Ok_tip O y1) (fOk_of (by rw [e']; exact dN_05 _ _ _) f) (Or.inl (by rw [F35.2.2.2 32 15 (fun z => by unfold PCm at z; omega)]; exact q3))
    · have ev : mayV α (rlF R α) k d u = -2 - Lw α (rlF R α) k d u := by unfold mayV; rw [if_neg hl]
      have hlt := Lw_neg hl
      have Q1 : Rm N h1 (α 0 5) (rlF R α) := Rm_Fr F1 (fun j z => z) (fun j z => z) (fun j z => z) Q
      obtain ⟨h2, e2, F2⟩ := m_may (by omega) (Am_Fr F1 (fun _ z => z) M) O.1 Q1 a1 a2 a3 a4
      rw [ev, if_pos hlt]
      rw [ev] at e2
      refine ⟨_, h1, h2, rfl, ?_, r, R, α, GI_ask g' (Fq_trans (Fq_mono (Fr_q F1) (Q := PM) (fun a j z => z.elim)) (Fr_q F2)) (fun a j z => by unfold PM at z; unfold Pro Prt Pr2 Prs; omega) (fun i _ => by rw [F2.2.2.2 62 i (fun z => by have := z.1; omega), F1.2.2.2 62 i (fun z => z)])⟩
      rw [e2, b2s, if_neg (Int32.not_le.mpr hlt)]
  · refine ⟨-1, h, h, ?_, ?_, r, R, α, g'⟩
    · unfold f_X7_may
      rw [pp_0_1 M.1, bs, a1 h A, bs, if_pos rfl, b2s, if_pos (by decide)]
    · unfold f_X8_may
      rw [a2 h M, bs, if_pos rfl, b2s, if_neg (by decide)]
theorem v_is {P : Prop} {A : Type} {a b c : A} [Decidable P] (h1 : P → a = c) (h2 : ¬ P → b = c) : (if P then a else b) = c := by
  by_cases h : P
  · rw [if_pos h]; exact h1 h
  · rw [if_neg h]; exact h2 h
theorem ok_force {N : Nat} (v : Int32) : Cok N (fun h => f_X7_force h 0 v) (fun h => f_X8_force h 51 v) := by
  rintro h ⟨r, R, α, g⟩
  have g' := g
  obtain ⟨g1, A, M, O, f, T, g7, g8, g9⟩ := g
  have H := M.1
  have hr := T.2.2.1
  show ∃ z h1 h2, f_X7_force h 0 v = some (z, h1) ∧ f_X8_force h1 51 v = some (z, h2) ∧ GG N h2
  have doit : v = -1 ∨ (∃ k, k < r ∧ v = nI k) → ¬ v < -1 → v < nI r → ∃ z h1 h2, f_X7_force h 0 v = some (z, h1) ∧ f_X8_force h1 51 v = some (z, h2) ∧ GG N h2 := by
    intro hv n1 n2
    unfold f_X7_force
    rw [if_neg n1, T.1, if_pos n2, pp_0_1 H, bs, bs, lts]
    have A1 := Ac_w0 A 5 v
    have F1 : Fr (fun a j => a = 3) h (sI h 3 5 v) := Fr_sI _ _ _ _ rfl
    generalize sI h 3 5 v = h1 at A1 F1 ⊢
    have H1 := Fr_SHP F1 H
    rw [pp_0_8 H1, bs, forget_e, bs, ac_0 A (by decide)]
    have F2 : Fr (fun a j => a = 32 ∧ j = 15) h1 (sI h1 32 15 (-2)) := Fr_sI _ _ _ _ ⟨rfl, rfl⟩
    have q2 : hI (sI h1 32 15 (-2)) 32 15 = -2 := by rw [hI_sI, if_pos ⟨rfl, rfl⟩]
    generalize sI h1 32 15 (-2) = h2 at F2 q2 ⊢
    have F12 : Fq PCc h h2 := Fq_trans (Fq_mono (Fr_q F1) (fun a j z => Or.inl (by omega))) (Fq_mono (Fr_q F2) (fun a j z => Or.inr z))
    have M2 : Am h2 α := Am_Fq F12 (fun j z => by unfold PCc at z; omega) M
    have M3 := Am_w M2 O.1 (k := 0) (i := 5) v (show 5 < 8 by decide) (fun _ => ⟨by decide, by decide, by decide⟩)
    rw [show ad 0 5 = 8 from rfl] at M3
    have F3 : Fq PCm h2 (sI h2 62 8 v) := Fq_sI _ _ _ _ (Or.inl rfl)
    refine ⟨α 0 5, h2, sI h2 62 8 v, rfl, ?_, r, R, sr α 0 (upd (α 0) 5 v), ?_⟩
    · have e16 : f_X8_force_16 h2 51 v = some (α 0 5, sI h2 62 8 v) := by
        unfold f_X8_force_16
        rw [pp_51_26 M2.1, bs, ll_62 M2.1, if_pos (by decide), bs, ll_62 M2.1, if_pos (by decide), lts, am_8 M2]
      unfold f_X8_force f_X8_isRule
      rw [e16]
      rcases hv with hv | ⟨k, k1, k2⟩
      · rw [if_pos hv]
      · rw [k2, if_neg (fun z => absurd (nI_pos' (n := k) (by omega)) (by rw [z]; decide)), if_neg (nI_pos (by omega)), F12.2.2.2 51 2 (fun z => by unfold PCc at z; omega), T.2.1, if_neg (nI_ge k1 (by omega)), bs, if_neg (by decide)]
    · generalize sI h2 62 8 v = h3 at M3 F3 ⊢
      have o : ∀ a, a ≠ 0 → sr α 0 (upd (α 0) 5 v) a = α a := fun a ha => sr_o _ _ ha
      have z : ∀ j, j ≠ 5 → sr α 0 (upd (α 0) 5 v) 0 j = α 0 j := fun j hj => by rw [sr_s, upd_o _ _ hj]
      refine GI_set g' (Fq_trans (Fq_mono F12 PCc_h) (Fq_mono F3 PCm_h)) PCh_ok (Fq_Ac F3 (fun a j h1 h2 z => by unfold PCm at z; omega) (Fr_Ac F2 (fun a j h1 h2 z => by omega) A1)) M3 (Ok_of O (o 1 (by decide)) (o 3 (by decide)) (o 5 (by decide)) (o 6 (by decide)) (o 7 (by decide)) (o 8 (by decide)) (o 9 (by decide)) (z 0 (by decide)) (z 1 (by decide)) (z 2 (by decide)) (by rw [z 6 (by decide)]; exact O.2.2.2.1.2.2.2.1) (Dm_of (fun j hj => z j (by omega)) O.1) (fun l hl => by rw [lvl_of (z 0 (by decide))] at hl; rw [o 4 (by decide)]; exact O.2.2.1 l hl)) ?_ (Or.inl (by rw [F3.2.2.2 32 15 (fun z => by unfold PCm at z; omega)]; exact q2))
      rcases hv with hv | ⟨k, k1, k2⟩
      · exact Or.inl (by rw [sr_s, upd_s]; exact hv)
      · exact Or.inr ⟨k, k1, by rw [sr_s, upd_s]; exact k2⟩
  have nope : (v < -1 ∨ (¬ v < 0 ∧ nI r ≤ v)) → ∃ z h1 h2, f_X7_force h 0 v = some (z, h1) ∧ f_X8_force h1 51 v = some (z, h2) ∧ GG N h2 := by
    intro hv
    refine ⟨-2, h, h, ?_, ?_, r, R, α, g'⟩
    · unfold f_X7_force
      rcases hv with hv | ⟨h1, h2⟩
      · rw [if_pos hv]
      · rw [if_neg (fun z => h1 (Int32.lt_trans z (by decide))), T.1, if_neg (Int32.not_lt.mpr h2)]
    · unfold f_X8_force f_X8_isRule
      rcases hv with hv | ⟨h1, h2⟩
      · rw [if_neg (fun z => by rw [z] at hv; exact absurd hv (by decide)), if_pos (Int32.lt_trans hv (by decide)), bs, if_pos rfl]
      · rw [if_neg (fun z => by rw [z] at h1; exact h1 (by decide)), if_neg h1, T.2.1, if_pos h2, bs, if_pos rfl]
  by_cases h1 : v < -1
  · exact nope (Or.inl h1)
  · by_cases h2 : v < 0
    · have hv : v = -1 := by
        have a1 := Int32.not_lt.mp h1
        have b1 := Int32.le_iff_toInt_le.mp a1
        have b2 := Int32.lt_iff_toInt_lt.mp h2
        apply Int32.toInt_inj.mp
        have c1 : (-1 : Int32).toInt = -1 := by decide
        have c2 : (0 : Int32).toInt = 0 := by decide
        rw [c1] at b1 ⊢
        rw [c2] at b2
        omega
      exact doit (Or.inl hv) h1 (by rw [hv]; exact Int32.lt_of_lt_of_le (b := 0) (by decide) (nI_pos' (by omega)))
    · obtain ⟨k, k1, rfl⟩ := i_nat h2
      by_cases h3 : k < r
      · exact doit (Or.inr ⟨k, h3, rfl⟩) h1 (nI_lt h3 (by omega))
      · exact nope (Or.inr ⟨h2, nI_le (by omega) k1⟩)
