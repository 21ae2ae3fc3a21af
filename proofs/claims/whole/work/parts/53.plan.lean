/-! ===== calls: plan, row, drought ===== -/
theorem c_isSet {h : Hp} {α : SA} (A : Ac h 3 α) (D : Dm α) (v : Int32) : f_X5_isSet h 3 v = some (if lvl α = 0 then 0 else if v < 0 then 0 else if nI (2 ^ bgs α) ≤ v then 0 else 1) := by
  unfold f_X5_isSet
  rw [ac_0 A (by decide), ac_0 A (by decide), D.2.1, shl1 _ D.2.2.2.2.1]
  by_cases c0 : lvl α = 0
  · rw [if_pos ((lv0' D).mpr c0), if_pos c0]
  · rw [if_neg (fun z => c0 ((lv0' D).mp z)), if_neg c0]
    by_cases c1 : v < 0
    · rw [if_pos c1, if_pos c1]
    · rw [if_neg c1, if_neg c1]
      by_cases c2 : nI (2 ^ bgs α) ≤ v
      · rw [if_pos c2, if_pos c2]
      · rw [if_neg c2, if_neg c2]
theorem m_isSet {h : Hp} {α : SA} (M : Am h α) (D : Dm α) (v : Int32) : f_X8_isSet h 51 v = some (if lvl α = 0 then 0 else if v < 0 then 0 else if nI (2 ^ bgs α) ≤ v then 0 else 1) := by
  unfold f_X8_isSet
  rw [pp_51_26 M.1, bs, ll_62 M.1, if_pos (show 0 < 93 by decide), am_0 M, bs, ll_62 M.1, if_pos (show 1 < 93 by decide), am_1 M, D.2.1, shl1 _ D.2.2.2.2.1]
  by_cases c0 : lvl α = 0
  · rw [if_pos ((lv0' D).mpr c0), if_pos c0]
  · rw [if_neg (fun z => c0 ((lv0' D).mp z)), if_neg c0]
    by_cases c1 : v < 0
    · rw [if_pos c1, if_pos c1]
    · rw [if_neg c1, if_neg c1]
      by_cases c2 : nI (2 ^ bgs α) ≤ v
      · rw [if_pos c2, if_pos c2]
      · rw [if_neg c2, if_neg c2]
theorem set_or {α : SA} (D : Dm α) (v : Int32) : (lvl α ≠ 0 ∧ ∃ t, t < 2 ^ bgs α ∧ t < 64 ∧ v = nI t) ∨ ((if lvl α = 0 then (0 : Int32) else if v < 0 then 0 else if nI (2 ^ bgs α) ≤ v then 0 else 1) = 0) := by
  by_cases c0 : lvl α = 0
  · exact Or.inr (by rw [if_pos c0])
  · by_cases c1 : v < 0
    · exact Or.inr (by rw [if_neg c0, if_pos c1])
    · by_cases c2 : nI (2 ^ bgs α) ≤ v
      · exact Or.inr (by rw [if_neg c0, if_neg c1, if_pos c2])
      · obtain ⟨t, t1, rfl⟩ := i_nat c1
        have hp : 2 ^ bgs α ≤ 64 := Nat.pow_le_pow_right (n := 2) (by decide) D.2.2.2.2.1
        have : t < 2 ^ bgs α := by
          by_cases h : t < 2 ^ bgs α
          · exact h
          · exact absurd (nI_le (by omega) t1) c2
        exact Or.inl ⟨c0, t, this, by omega, rfl⟩
theorem set_1 {α : SA} {t : Nat} (c0 : lvl α ≠ 0) (D : Dm α) (ht : t < 2 ^ bgs α) : (if lvl α = 0 then (0 : Int32) else if nI t < 0 then 0 else if nI (2 ^ bgs α) ≤ nI t then 0 else 1) = 1 := by
  have hp : 2 ^ bgs α ≤ 64 := Nat.pow_le_pow_right (n := 2) (by decide) D.2.2.2.2.1
  rw [if_neg c0, if_neg (nI_pos (by omega)), if_neg (nI_ge ht (by omega))]
theorem sub_all : ∀ b, b ≤ 6 → ∀ t, t < 2 ^ b → nI t &&& nI (2 ^ b - 1) = nI t := by decide
/-- what the class's rows say once it has been asked; the reference's say the same -/
theorem srd_eq {h : Hp} {α β : SA} {rl : RLT} {m : Bool} {X : XS} {G : List Nat} {n t : Nat} (S : Srd h β rl m) (O : Ok β) (Oα : Ok α) (sm : Sm α β) (hS : SR α rl m n = (X, G)) (hn : nxt X = none) (ht : t < 2 ^ bgs α) : ∃ Y K, (SHP h → f_X3_costOf h 32 (nI t) = some (eC X G (nI t))) ∧ (∀ N k, 5000 ≤ N → k < 2 ^ 31 → SHP h → f_X3_tipOfRow N h 32 (nI t) (nI k) = some (eR β Y K (nI t) k)) ∧ (∀ k, eX Y K (nI t) k = eX X G (nI t) k) ∧ (fE Y (nI t) K = none ↔ fE X (nI t) G = none) ∧ (fE X (nI t) G = none → xo Y = xo X) ∧ XI β rl Y K := by
  obtain ⟨Y, K, F, I, s3, s4, s5⟩ := S
  have hb : bgs β = bgs α := Sm_bgs sm
  have h6 := Oα.1.2.2.2.2.1
  have hp : 2 ^ bgs α ≤ 64 := Nat.pow_le_pow_right (n := 2) (by decide) h6
  obtain ⟨s1, s2⟩ := Sim_SR sm (rl := rl) (m := m) n
  rw [hS] at s1 s2
  obtain ⟨b1, b2, b3, b4⟩ := both (X := Y) (G := K) (Y := (SR β rl m n).1) (K := (SR β rl m n).2) (n := n) (t := nI t) O F rfl (by rw [Sim_nxt s1]; exact hn) (by rw [hb]; exact sub_all _ h6 t ht)
  rw [s2] at b1 b2 b4
  have s1' : Sim X (SR β rl m n).1 := s1
  refine ⟨Y, K, fun H => ?_, fun N k hN hk H => c_tipOfRow hN H I (Fin_len O F) s3 s5 s4 (by omega) hk, fun k => (b2 k).trans (Sim_eX s1' G (nI t) k), ?_, fun z => ?_, I⟩
  · rw [c_costOf H I.1.2 I.2.2.2.2.1 s3 s5 (fun i hi => (s4 i hi).1) (by omega), b1]
    exact congrArg some (Sim_eC s1' G (nI t))
  · rw [b4]
    show fE (SR β rl m n).1 (nI t) G = none ↔ _
    rw [Sim_fE s1']
  · have : fE Y (nI t) K = none := by
      rw [b4]
      show fE (SR β rl m n).1 (nI t) G = none
      rw [Sim_fE s1']
      exact z
    rw [b3 this]
    exact s1'.2.2.2.2.2.2
theorem lk_self {α : SA} {w : Int32} (h : w = α 1 0) : lk α w = α := by
  unfold lk
  rw [h, upd_id]
  funext a
  by_cases e : a = 1
  · subst e; rw [sr_s]
  · rw [sr_o _ _ e]
theorem Ok_lk {α : SA} (O : Ok α) (h0 : 0 < lvl α) {w : Nat} (hw : w ≤ 9999) : Ok (lk α (nI w)) := Ok_water O h0 hw
/-- the search is made, or was made -/
theorem c_expl {h : Hp} {N r : Nat} {R : Nat → RLT} {α : SA} {m : Bool} {w : Nat} (hN : 5000 ≤ N) (g : GI N h r R α) (h0 : 0 < lvl α) (hw : w < 2 ^ 31) (hm : m = true → nI w = α 1 0) (O : Ok (lk α (nI w))) : ∃ v h' β, f_X7_ruleInForce h 0 = some v ∧ f_X3_explore N h 32 3 v (b2i m) (nI w) = some h' ∧ Sm (lk α (nI w)) β ∧ Ok β ∧ Srd h' β (rlF R α) m ∧ GI N h' r R α ∧ hI h' 62 = hI h 62 := by
  have g' := g
  obtain ⟨g1, A, M, Oα, f, T, g7, g8, g9⟩ := g
  have H := M.1
  obtain ⟨v, v1, v2⟩ := c_rif H A T f
  have ll : lvl (lk α (nI w)) = lvl α := lvl_of (by unfold lk; rw [sr_o _ _ (by decide)])
  have ee : f_X3_explore N h 32 3 v (b2i m) (nI w) = f_X3_explore_10 N h 32 3 v (b2i m) (nI w) (if m then -1 else nI w) := by
    unfold f_X3_explore
    cases m with
    | false => rw [if_pos (show b2i false = 0 from rfl)]; rfl
    | true => rw [if_neg (show ¬ b2i true = 0 by decide)]; rfl
  by_cases hx : (if m then (-1 : Int32) else nI w) = hI h 32 15
  · rcases g9 with c | ⟨m', w', β, c1, c2, c3, c4, c5, c6, c7⟩
    · exfalso
      rw [c] at hx
      cases m with
      | false => exact absurd (nI_pos' (n := w) hw) (by rw [show nI w = -2 from hx]; decide)
      | true => exact absurd (show (-1 : Int32) = -2 from hx) (by decide)
    · have key : m = m' ∧ nI w = nI w' := by
        rw [c2] at hx
        cases m <;> cases m'
        · exact ⟨rfl, hx⟩
        · exact absurd (nI_pos' (n := w) hw) (by rw [show nI w = -1 from hx]; decide)
        · exact absurd (nI_pos' (n := w') c1) (by rw [← show (-1 : Int32) = nI w' from hx]; decide)
        · exact ⟨rfl, (hm rfl).trans (c3 rfl).symm⟩
      obtain ⟨rfl, kw⟩ := key
      refine ⟨v, h, β, v1, ?_, by rw [kw]; exact c4, c5, c7, g', rfl⟩
      rw [ee]
      unfold f_X3_explore_10
      rw [if_pos hx]
  · obtain ⟨h', e, S, q, F⟩ := c_expl10 (N := N) (m := m) (w := nI w) hN H A O (st_15 H) h0 v2 hx
    have P1 : ∀ a j, PEp a j → ¬ Pro a j ∧ ¬ (3 ≤ a ∧ a ≤ 13) ∧ a ≠ 62 := fun a j z => by unfold PEp PEx PSr PSp PRc at z; unfold Pro Prt Pr2; omega
    refine ⟨v, h', lk α (nI w), v1, by rw [ee]; exact e, Sm_refl _, O, S, ⟨TAPE_Fq F (fun a j z y => (P1 a j z).1 (Or.inl y)) g1, Fq_Ac F (fun a j h1 h2 z => (P1 a j z).2.1 (by omega)) A, Am_Fq F (fun j z => (P1 _ _ z).2.2 rfl) M, Oα, f, RuT_Fq F (fun a j z y => (P1 a j z).1 (Or.inr y)) T, ImT_Fq F (fun a j z y => (P1 a j z).1 (Or.inr y)) g7, DJ_Fq F g8, Or.inr ⟨m, w, lk α (nI w), hw, q, hm, Sm_refl _, O, by rw [ll]; exact h0, S⟩⟩, Fq_row F (fun j z => (P1 _ _ z).2.2 rfl)⟩
theorem PGt_ok : ∀ a j, PGt a j → ¬ Pro a j ∧ ¬ Prs a j ∧ ¬ (3 ≤ a ∧ a ≤ 13) := fun a j z => by unfold PGt PGo PGi PLd PM at z; unfold Pro Prt Pr2 Prs; omega
theorem wat0 {α : SA} (O : Ok α) (h0 : 0 < lvl α) : ∃ w, w < 2 ^ 31 ∧ α 1 0 = nI w := by
  obtain ⟨w, w1, w2⟩ := O.2.2.2.2 0 h0
  exact ⟨w, by omega, w1⟩
theorem ok_plan {N : Nat} (hN : 5000 ≤ N) (v : Int32) (m : Bool) : Cok N (fun h => f_X7_plan N h 0 v (b2i m)) (fun h => f_X8_plan N h 51 v (b2i m)) := by
  rintro h ⟨r, R, α, g⟩
  have g' := g
  obtain ⟨g1, A, M, O, f, T, g7, g8, g9⟩ := g
  have H := M.1
  have D := O.1
  show ∃ z h1 h2, f_X7_plan N h 0 v (b2i m) = some (z, h1) ∧ f_X8_plan N h1 51 v (b2i m) = some (z, h2) ∧ GG N h2
  rcases set_or D v with ⟨c0, t, t1, t2, rfl⟩ | c
  · have h0 : 0 < lvl α := by omega
    obtain ⟨w, w1, w2⟩ := wat0 O h0
    have el : lk α (nI w) = α := lk_self w2.symm
    obtain ⟨u, h1, β, u1, u2, sm, Oβ, S, G1, _⟩ := c_expl (m := m) (w := w) hN g' h0 w1 (fun _ => w2.symm) (by rw [el]; exact O)
    rw [el] at sm
    obtain ⟨_, A1, M1, _, _, T1, _, _, _⟩ := id G1
    obtain ⟨h2, X, G, n, e2, hS, hn, RM, k2, F2⟩ := m_goes (N := N) (rl := rlF R α) (m := m) hN M1 O h0 (fOk_rl T1 f)
    obtain ⟨Y, K, q1, _, _, q4, q5, IY⟩ := srd_eq S Oβ O sm hS hn t1
    have e7 : f_X7_plan N h 0 (nI t) (b2i m) = some (eC X G (nI t), h1) := by
      unfold f_X7_plan
      rw [pp_0_1 H, bs, c_isSet A D, set_1 c0 D t1, bs, if_neg (show ¬ (1 : Int32) = 0 by decide), pp_0_8 H, bs, bs, u1, bs, bs, ac_p8 A, bs, ac_l1 A, if_pos (by decide), ac_1 A (by decide), w2, u2, bs, pp_0_8 M1.1, bs, q1 M1.1, bs]
    have IX := SR_XI (rl := rlF R α) (m := m) O n
    rw [hS] at IX
    have hG15 : G.length ≤ 1500 := Fin_len O (Or.inl ⟨n, hS, hn⟩)
    have H2 := Fr_SHP F2 M1.1
    have n15 : xn X ≤ 1500 := IX.1.2
    have e8 : f_X8_plan N h1 51 (nI t) (b2i m) = some (eC X G (nI t), h2) := by
      unfold f_X8_plan eC
      rw [m_isSet M1 D, set_1 c0 D t1, bs, if_neg (show ¬ (1 : Int32) = 0 by decide), e2, bs, m_endOf hN H2 hG15 RM, bs]
      cases e : fE X (nI t) G with
      | none =>
        show (if 0 ≤ (if xo X then (-3 : Int32) else -2) then _ else some ((if xo X then (-3 : Int32) else -2), h2)) = some ((if xo X then (-3 : Int32) else -2), h2)
        cases xo X <;> rfl
      | some i =>
        have hi : i < xn X := IX.2.2.2.2.1 i (fE_some G e).1
        show (if 0 ≤ nI i then _ else _) = some (xc X i, h2)
        rw [if_pos (nI_pos' (by omega)), pp_51_29 H2, bs]
        show (if 0 ≤ nI i ∧ (nI i).toNatClampNeg < hL h2 65 then some (hI h2 65 (nI i).toNatClampNeg, h2) else none) = _
        rw [ll_65 H2, if_inI (by omega) (by omega), nI_clamp (by omega), (RM.2.2.2.2.1 i hi).1]
    exact ⟨_, h1, h2, e7, e8, r, R, α, GI_ask G1 (Fr_q F2) PGt_ok k2⟩
  · refine ⟨-1, h, h, ?_, ?_, r, R, α, g'⟩
    · unfold f_X7_plan
      rw [pp_0_1 H, bs, c_isSet A D, c, bs, if_pos rfl]
    · unfold f_X8_plan
      rw [m_isSet M D, c, bs, if_pos rfl]
