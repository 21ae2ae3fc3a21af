/-! ===== class and reference side by side ===== -/
theorem i_nat {v : Int32} (h : ¬ v < 0) : ∃ n, n < 2 ^ 31 ∧ v = nI n := by
  have h0 : 0 ≤ v := Int32.not_lt.mp h
  have h1 : (0 : Int) ≤ v.toInt := by
    have := Int32.le_iff_toInt_le.mp h0
    simpa using this
  have h2 : v.toInt < 2 ^ 31 := v.toInt_lt
  refine ⟨v.toInt.toNat, by omega, ?_⟩
  apply Int32.toInt_inj.mp
  rw [show nI v.toInt.toNat = Int32.ofNat v.toInt.toNat from rfl, Int32.toInt_ofNat_of_lt (by omega)]
  omega
theorem m_in (h : Hp) (v a b : Int32) : f_X8_in h v.toInt64 a.toInt64 b.toInt64 = some (if v < a then 0 else if b < v then 0 else 1) := by
  unfold f_X8_in
  by_cases h1 : v < a
  · rw [if_pos ((lg_cmp_lt _ _).mpr (Int32.toInt64_lt.mpr h1)), if_pos h1]
  · rw [if_neg (fun z => h1 (Int32.toInt64_lt.mp ((lg_cmp_lt _ _).mp z))), if_neg h1]
    by_cases h2 : b < v
    · rw [if_pos ((lg_cmp_gt _ _).mpr (Int32.toInt64_lt.mpr h2)), if_pos h2]
    · rw [if_neg (fun z => h2 (Int32.toInt64_lt.mp ((lg_cmp_gt _ _).mp z))), if_neg h2]
/-! frames that let longs go -/
theorem Am_Fq {P : Nat → Nat → Prop} {a b : Hp} (F : Fq P a b) (hp : ∀ j, ¬ P 62 j) {α : SA} (H : Am a α) : Am b α := ⟨Fq_SHP F H.1, by rw [Fq_row F hp]; exact H.2⟩
theorem Rm_Fq {P : Nat → Nat → Prop} {a b : Hp} (F : Fq P a b) {N : Nat} {r : Int32} {rl : RLT} (h53 : ∀ j, ¬ P 53 j) (h55 : ∀ j, ¬ P 55 j) (h56 : ∀ j, ¬ P 56 j) (H : Rm N a r rl) : Rm N b r rl := by
  exact Rm_w (Rrw_of (Fq_row F h53) (Fq_row F h55) (Fq_row F h56)) H
theorem Fq_isSt {P : Nat → Nat → Prop} {a b : Hp} (F : Fq P a b) {s : Nat} (H : isSt a s) : isSt b s := by
  unfold isSt
  rw [F.2.1, F.2.2.1]
  exact H
theorem st_15 {h : Hp} (H : SHP h) : isSt h 15 := by
  refine ⟨fun k hk => ?_, fun k hk => ?_, fun k hk => ?_, ll_25 H, ll_26 H⟩
  · obtain rfl | rfl | rfl | rfl | rfl | rfl | rfl | rfl | rfl | rfl | rfl : k = 0 ∨ k = 1 ∨ k = 2 ∨ k = 3 ∨ k = 4 ∨ k = 5 ∨ k = 6 ∨ k = 7 ∨ k = 8 ∨ k = 9 ∨ k = 10 := by omega
    · exact pp_15_8 H
    · exact pp_15_9 H
    · exact pp_15_10 H
    · exact pp_15_11 H
    · exact pp_15_12 H
    · exact pp_15_13 H
    · exact pp_15_14 H
    · exact pp_15_15 H
    · exact pp_15_16 H
    · exact pp_15_17 H
    · exact pp_15_18 H
  · obtain rfl | rfl | rfl | rfl : k = 0 ∨ k = 1 ∨ k = 2 ∨ k = 3 := by omega
    · exact ll_16 H
    · exact ll_17 H
    · exact ll_18 H
    · exact ll_19 H
  · obtain rfl | rfl | rfl | rfl | rfl : k = 0 ∨ k = 1 ∨ k = 2 ∨ k = 3 ∨ k = 4 := by omega
    · exact ll_20 H
    · exact ll_21 H
    · exact ll_22 H
    · exact ll_23 H
    · exact ll_24 H
theorem st_3 {h : Hp} (H : SHP h) : isSt h 3 := by
  refine ⟨fun k hk => ?_, fun k hk => ?_, fun k hk => ?_, ll_13 H, ll_14 H⟩
  · obtain rfl | rfl | rfl | rfl | rfl | rfl | rfl | rfl | rfl | rfl | rfl : k = 0 ∨ k = 1 ∨ k = 2 ∨ k = 3 ∨ k = 4 ∨ k = 5 ∨ k = 6 ∨ k = 7 ∨ k = 8 ∨ k = 9 ∨ k = 10 := by omega
    · exact pp_3_8 H
    · exact pp_3_9 H
    · exact pp_3_10 H
    · exact pp_3_11 H
    · exact pp_3_12 H
    · exact pp_3_13 H
    · exact pp_3_14 H
    · exact pp_3_15 H
    · exact pp_3_16 H
    · exact pp_3_17 H
    · exact pp_3_18 H
  · obtain rfl | rfl | rfl | rfl : k = 0 ∨ k = 1 ∨ k = 2 ∨ k = 3 := by omega
    · exact ll_4 H
    · exact ll_5 H
    · exact ll_6 H
    · exact ll_7 H
  · obtain rfl | rfl | rfl | rfl | rfl : k = 0 ∨ k = 1 ∨ k = 2 ∨ k = 3 ∨ k = 4 := by omega
    · exact ll_8 H
    · exact ll_9 H
    · exact ll_10 H
    · exact ll_11 H
    · exact ll_12 H
/-- rules as both hold them -/
def RuT (N : Nat) (h : Hp) (r : Nat) (R : Nat → RLT) : Prop := hI h 0 5 = nI r ∧ hI h 51 2 = nI r ∧ r ≤ 6 ∧ ∀ k, k < r → (∃ q, hP h 28 k = some q ∧ Rc N h (some q) (R k) ∧ q + 4 ≤ hN h) ∧ Rm N h (nI k) (R k)
def fOk (r : Nat) (α : SA) : Prop := α 0 5 = -1 ∨ ∃ k, k < r ∧ α 0 5 = nI k
def rlF (R : Nat → RLT) (α : SA) : RLT := if α 0 5 < 0 then fun _ => false else R (α 0 5).toNatClampNeg
/-- images as both hold them -/
def ImT (h : Hp) (r : Nat) : Prop := ∀ k, k < 4 → (hI h 76 k = 0 ∧ hP h 27 k = none) ∨ (hI h 76 k = 1 ∧ ∃ s α, hP h 27 k = some s ∧ 77 ≤ s ∧ s + 12 ≤ hN h ∧ Ac h s α ∧ Sd (fun i => hI h 75 (93 * k + i)) α ∧ Ok α ∧ fOk r α)
def DJ (h : Hp) (r : Nat) : Prop := (∀ k k' s s', k < 4 → k' < 4 → k ≠ k' → hP h 27 k = some s → hP h 27 k' = some s' → s + 11 < s' ∨ s' + 11 < s) ∧ ∀ k j s q, k < 4 → j < r → hP h 27 k = some s → hP h 28 j = some q → q + 3 < s ∨ s + 11 < q
/-- what the class's search still tells -/
def CaT (h : Hp) (α : SA) (rl : RLT) : Prop := hI h 32 15 = -2 ∨ ∃ (m : Bool) (w : Nat) (β : SA), w < 2 ^ 31 ∧ hI h 32 15 = (if m then -1 else nI w) ∧ (m = true → nI w = α 1 0) ∧ Sm (lk α (nI w)) β ∧ Ok β ∧ 0 < lvl β ∧ Srd h β rl m
def GI (N : Nat) (h : Hp) (r : Nat) (R : Nat → RLT) (α : SA) : Prop := TAPE h ∧ Ac h 3 α ∧ Am h α ∧ Ok α ∧ fOk r α ∧ RuT N h r R ∧ ImT h r ∧ DJ h r ∧ CaT h α (rlF R α)
def GG (N : Nat) (h : Hp) : Prop := ∃ r R α, GI N h r R α
/-- what no question may touch -/
def Prt (a j : Nat) : Prop := (a = 1 ∧ j = 1) ∨ a = 2 ∨ (a = 51 ∧ j = 1) ∨ a = 52
def Pr2 (a j : Nat) : Prop := (a = 0 ∧ j = 5) ∨ a = 27 ∨ a = 28 ∨ (a = 51 ∧ j = 2) ∨ a = 53 ∨ a = 55 ∨ a = 56 ∨ a = 75 ∨ a = 76 ∨ 77 ≤ a
def Pro (a j : Nat) : Prop := Prt a j ∨ Pr2 a j
def Prs (a j : Nat) : Prop := (a = 32 ∧ (j = 14 ∨ j = 15)) ∨ a = 37 ∨ a = 38 ∨ a = 39 ∨ a = 43
def QT (a j : Nat) : Prop := ¬ Pro a j ∧ ¬ Prs a j ∧ ¬ (3 ≤ a ∧ a ≤ 13) ∧ a ≠ 62
theorem RuT_Fq {P : Nat → Nat → Prop} {a b : Hp} {N r : Nat} {R : Nat → RLT} (F : Fq P a b) (hp : ∀ x j, P x j → ¬ Pr2 x j) (T : RuT N a r R) : RuT N b r R := by
  obtain ⟨t1, t2, t3, t4⟩ := T
  refine ⟨by rw [F.2.2.2 0 5 (fun z => hp _ _ z (by unfold Pr2; omega))]; exact t1, by rw [F.2.2.2 51 2 (fun z => hp _ _ z (by unfold Pr2; omega))]; exact t2, t3, fun k hk => ?_⟩
  obtain ⟨⟨q, q1, q2, q3⟩, t⟩ := t4 k hk
  refine ⟨⟨q, by rw [F.2.1]; exact q1, Rc_Fq F (fun q' j e z => hp _ _ z ?_) q2, by rw [F.1]; exact q3⟩, Rm_Fq F (fun j z => hp _ _ z (by unfold Pr2; omega)) (fun j z => hp _ _ z (by unfold Pr2; omega)) (fun j z => hp _ _ z (by unfold Pr2; omega)) t⟩
  have := Rc_q77 q2 q' e
  unfold Pr2
  omega
theorem ImT_Fq {P : Nat → Nat → Prop} {a b : Hp} {r : Nat} (F : Fq P a b) (hp : ∀ x j, P x j → ¬ Pr2 x j) (T : ImT a r) : ImT b r := by
  intro k hk
  have e76 : hI b 76 = hI a 76 := Fq_row F (fun j z => hp _ _ z (by unfold Pr2; omega))
  have e75 : hI b 75 = hI a 75 := Fq_row F (fun j z => hp _ _ z (by unfold Pr2; omega))
  rw [e76, e75, F.2.1, F.1]
  rcases T k hk with t | ⟨t, s, α, s1, s2, s3, s4, s5⟩
  · exact Or.inl t
  · exact Or.inr ⟨t, s, α, s1, s2, s3, Fq_Ac F (fun x j h1 h2 z => hp _ _ z (by unfold Pr2; omega)) s4, s5⟩
theorem DJ_Fq {P : Nat → Nat → Prop} {a b : Hp} {r : Nat} (F : Fq P a b) (T : DJ a r) : DJ b r := by
  unfold DJ
  rw [F.2.1]
  exact T
theorem TAPE_Fq {P : Nat → Nat → Prop} {a b : Hp} (F : Fq P a b) (hp : ∀ x j, P x j → ¬ Prt x j) (T : TAPE a) : TAPE b := by
  obtain ⟨n, t1, t2, t3, t4, t5⟩ := T
  have e2 : hI b 2 = hI a 2 := Fq_row F (fun j z => hp _ _ z (by unfold Prt; omega))
  have e52 : hI b 52 = hI a 52 := Fq_row F (fun j z => hp _ _ z (by unfold Prt; omega))
  refine ⟨n, t1, by rw [F.2.2.2 1 1 (fun z => hp _ _ z (by unfold Prt; omega))]; exact t2, by rw [F.2.2.2 51 1 (fun z => hp _ _ z (by unfold Prt; omega))]; exact t3, ?_⟩
  rw [e2, e52]
  exact ⟨t4, t5⟩
theorem Srd_Fq {P : Nat → Nat → Prop} {a b : Hp} {α : SA} {rl : RLT} {m : Bool} (F : Fq P a b) (hp : ∀ x j, P x j → x = 32 → j ≠ 14) (h2 : ∀ j, ¬ P 37 j ∧ ¬ P 38 j ∧ ¬ P 39 j ∧ ¬ P 43 j) (S : Srd a α rl m) : Srd b α rl m := by
  obtain ⟨X, G, s1, s2, s3, s4, s5⟩ := S
  refine ⟨X, G, s1, s2, by rw [F.2.2.2 32 14 (fun z => hp _ _ z rfl rfl)]; exact s3, ?_, fun t ht => ?_⟩
  · rw [Fq_row F (fun j => (h2 j).1), Fq_row F (fun j => (h2 j).2.1), Fq_row F (fun j => (h2 j).2.2.1)]
    exact s4
  · rw [Fq_row F (fun j => (h2 j).2.2.2)]
    exact s5 t ht
theorem Sm_lk {α β : SA} (h : Sm α β) (w : Int32) : Sm (lk α w) (lk β w) := by
  have o : ∀ γ a, a ≠ 1 → lk γ w a = γ a := fun γ a ha => sr_o _ _ ha
  obtain ⟨a1, a2, a3, a4, a5, a6, a7, a8, a9, a10, a11⟩ := h
  refine ⟨?_, ?_, ?_, ?_, ?_, ?_, ?_, ?_, ?_, ?_, ?_⟩
  · unfold lk; rw [sr_s, sr_s, a1]
  · rw [o _ 2 (by decide), o _ 2 (by decide)]; exact a2
  · rw [o _ 3 (by decide), o _ 3 (by decide)]; exact a3
  · rw [o _ 5 (by decide), o _ 5 (by decide)]; exact a4
  · rw [o _ 6 (by decide), o _ 6 (by decide)]; exact a5
  · rw [o _ 7 (by decide), o _ 7 (by decide)]; exact a6
  · rw [o _ 8 (by decide), o _ 8 (by decide)]; exact a7
  · rw [o _ 0 (by decide), o _ 0 (by decide)]; exact a8
  · rw [o _ 0 (by decide), o _ 0 (by decide)]; exact a9
  · rw [o _ 0 (by decide), o _ 0 (by decide)]; exact a10
  · rw [o _ 0 (by decide), o _ 0 (by decide)]; exact a11
/-- what changes the stair, and no more -/
theorem GI_set {P : Nat → Nat → Prop} {N : Nat} {h h' : Hp} {r : Nat} {R : Nat → RLT} {α β : SA} (g : GI N h r R α) (F : Fq P h h') (hp : ∀ a j, P a j → ¬ Pro a j) (A : Ac h' 3 β) (M : Am h' β) (O : Ok β) (f : fOk r β) (C : hI h' 32 15 = -2 ∨ ((∀ a j, P a j → ¬ Prs a j) ∧ Sm α β ∧ β 0 5 = α 0 5)) : GI N h' r R β := by
  obtain ⟨g1, g2, g3, g4, g5, g6, g7, g8, g9⟩ := g
  refine ⟨TAPE_Fq F (fun a j z y => hp a j z (Or.inl y)) g1, A, M, O, f, RuT_Fq F (fun a j z y => hp a j z (Or.inr y)) g6, ImT_Fq F (fun a j z y => hp a j z (Or.inr y)) g7, DJ_Fq F g8, ?_⟩
  rcases C with C | ⟨C1, C2, C3⟩
  · exact Or.inl C
  · have er : rlF R β = rlF R α := by unfold rlF; rw [C3]
    rcases g9 with c | ⟨m, w, γ, c1, c2, c3, c4, c5, c6, c7⟩
    · exact Or.inl (by rw [F.2.2.2 32 15 (fun z => C1 _ _ z (by unfold Prs; omega))]; exact c)
    · refine Or.inr ⟨m, w, γ, c1, by rw [F.2.2.2 32 15 (fun z => C1 _ _ z (by unfold Prs; omega))]; exact c2, fun hm => ?_, Sm_trans (Sm_symm (Sm_lk C2 (nI w))) c4, c5, c6, ?_⟩
      · rw [C2.1]; exact c3 hm
      · rw [er]
        exact Srd_Fq F (fun x j z e1 e2 => C1 _ _ z (by unfold Prs; omega)) (fun j => ⟨fun z => C1 _ _ z (by unfold Prs; omega), fun z => C1 _ _ z (by unfold Prs; omega), fun z => C1 _ _ z (by unfold Prs; omega), fun z => C1 _ _ z (by unfold Prs; omega)⟩) c7
theorem fOk_rl {N : Nat} {h : Hp} {r : Nat} {R : Nat → RLT} {α : SA} (T : RuT N h r R) (f : fOk r α) : Rm N h (α 0 5) (rlF R α) := by
  rcases f with f | ⟨k, k1, k2⟩
  · refine Or.inl ⟨by rw [f]; decide, ?_⟩
    unfold rlF
    rw [f]
    rfl
  · have := (T.2.2.2 k k1).2
    have hr := T.2.2.1
    unfold rlF
    rw [k2, if_neg (nI_pos (by omega)), nI_clamp (by omega)]
    exact this
theorem c_rif {N : Nat} {h : Hp} {r : Nat} {R : Nat → RLT} {α : SA} (H : SHP h) (A : Ac h 3 α) (T : RuT N h r R) (f : fOk r α) : ∃ v, f_X7_ruleInForce h 0 = some v ∧ Rc N h v (rlF R α) := by
  unfold f_X7_ruleInForce
  rw [pp_0_1 H, bs, ac_0 A (by decide)]
  rcases f with f | ⟨k, k1, k2⟩
  · rw [f, if_pos (by decide)]
    refine ⟨none, rfl, ?_⟩
    show rlF R α = fun _ => false
    unfold rlF
    rw [f]
    rfl
  · have hr := T.2.2.1
    obtain ⟨⟨q, q1, q2, q3⟩, _⟩ := T.2.2.2 k k1
    rw [k2, if_neg (nI_pos (by omega)), T.1, if_pos (nI_lt k1 (by omega)), pp_0_4 H, bs, ll_28 H, if_inI (by omega) (by omega), nI_clamp (by omega), q1]
    refine ⟨some q, rfl, ?_⟩
    unfold rlF
    rw [k2, if_neg (nI_pos (by omega)), nI_clamp (by omega)]
    exact q2
theorem CaT_Fq {P : Nat → Nat → Prop} {h h' : Hp} {α : SA} {rl : RLT} (F : Fq P h h') (C1 : ∀ a j, P a j → ¬ Prs a j) (C : CaT h α rl) : CaT h' α rl := by
  rcases C with c | ⟨m, w, γ, c1, c2, c3, c4, c5, c6, c7⟩
  · exact Or.inl (by rw [F.2.2.2 32 15 (fun z => C1 _ _ z (by unfold Prs; omega))]; exact c)
  · refine Or.inr ⟨m, w, γ, c1, by rw [F.2.2.2 32 15 (fun z => C1 _ _ z (by unfold Prs; omega))]; exact c2, c3, c4, c5, c6, ?_⟩
    exact Srd_Fq F (fun x j z e1 e2 => C1 _ _ z (by unfold Prs; omega)) (fun j => ⟨fun z => C1 _ _ z (by unfold Prs; omega), fun z => C1 _ _ z (by unfold Prs; omega), fun z => C1 _ _ z (by unfold Prs; omega), fun z => C1 _ _ z (by unfold Prs; omega)⟩) c7
theorem GI_tape {P : Nat → Nat → Prop} {N : Nat} {h h' : Hp} {r : Nat} {R : Nat → RLT} {α : SA} (g : GI N h r R α) (F : Fq P h h') (hp : ∀ a j, P a j → ¬ Pr2 a j ∧ ¬ Prs a j ∧ ¬ (3 ≤ a ∧ a ≤ 13) ∧ a ≠ 62) (T : TAPE h') : GI N h' r R α := by
  obtain ⟨g1, g2, g3, g4, g5, g6, g7, g8, g9⟩ := g
  exact ⟨T, Fq_Ac F (fun a j h1 h2 z => (hp a j z).2.2.1 (by omega)) g2, Am_Fq F (fun j z => (hp _ _ z).2.2.2 rfl) g3, g4, g5, RuT_Fq F (fun a j z => (hp a j z).1) g6, ImT_Fq F (fun a j z => (hp a j z).1) g7, DJ_Fq F g8, CaT_Fq F (fun a j z => (hp a j z).2.1) g9⟩
/-- a question -/
theorem GI_ask {P : Nat → Nat → Prop} {N : Nat} {h h' : Hp} {r : Nat} {R : Nat → RLT} {α : SA} (g : GI N h r R α) (F : Fq P h h') (hp : ∀ a j, P a j → ¬ Pro a j ∧ ¬ Prs a j ∧ ¬ (3 ≤ a ∧ a ≤ 13)) (e : ∀ i, i < 93 → hI h' 62 i = hI h 62 i) : GI N h' r R α := by
  obtain ⟨g1, g2, g3, g4, g5, g6, g7, g8, g9⟩ := g
  exact ⟨TAPE_Fq F (fun a j z y => (hp a j z).1 (Or.inl y)) g1, Fq_Ac F (fun a j h1 h2 z => (hp a j z).2.2 (by omega)) g2, ⟨Fq_SHP F g3.1, Sd_congr g4.1 e g3.2⟩, g4, g5, RuT_Fq F (fun a j z y => (hp a j z).1 (Or.inr y)) g6, ImT_Fq F (fun a j z y => (hp a j z).1 (Or.inr y)) g7, DJ_Fq F g8, CaT_Fq F (fun a j z => (hp a j z).2.1) g9⟩
