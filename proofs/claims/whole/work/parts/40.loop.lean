/-! ===== the class's search: its loop, what it tells ===== -/
theorem c_least {h : Hp} {N : Nat} {α : SA} {X : XS} (hN : 5000 ≤ N) (H : SHP h) (hn : xn X ≤ 1500) (R : RpC h α X) (ho : xo X = false) (h13 : ¬ hI h 32 13 ≤ 0) : ∃ h' s, f_X3_takeLeast N h 32 = some (nI s, h') ∧ nxt X = some s ∧ RpC h' α (mrk X s) ∧ Fr PRc h h' := by
  obtain ⟨r1, r2, r3, r4, ⟨sl, r5, r5'⟩, ⟨b, P, m, r6, r6', r7, r8⟩, r9⟩ := R
  have hm : 0 < m := by
    cases m with
    | zero => exact absurd (by rw [r6]; decide) h13
    | succ m => omega
  obtain ⟨h', b', P', q, e41, e13, K, V, F⟩ := c_take (N := N) (S := fun i => i < xn X ∧ xg X i = false) (c := xc X) (by omega) r6' hm (fun i hi => by omega) H r6 (fun i hi => (r4 i hi.1).1) r7 r8
  have b0 := (r7.2.2.1 0 hm).1
  have hnx : nxt X = some (b 0) := by
    unfold nxt
    rw [if_neg (by rw [ho]; decide)]
    refine lsF_is b0.1 b0.2 (fun i hi hg => ?_)
    obtain ⟨p1, p2⟩ := r7.2.2.2 i ⟨hi, hg⟩
    have := HV_0 r8 (P i) p1
    rw [p2] at this
    unfold ah at this
    by_cases c1 : xc X (b 0) < xc X i
    · exact Or.inl c1
    · by_cases c2 : xc X i < xc X (b 0)
      · exact absurd (Or.inl c2) this
      · have e : xc X i = xc X (b 0) := Int32.le_antisymm (Int32.not_lt.mp c1) (Int32.not_lt.mp c2)
        refine Or.inr ⟨e.symm, ?_⟩
        by_cases c3 : i < b 0
        · exact absurd (Or.inr ⟨e, c3⟩) this
        · omega
  have o : ∀ a, a ≠ 40 → a ≠ 41 → a ≠ 32 → hI h' a = hI h a := fun a h1 h2 h3 => Fr_row F (fun j z => by
    rcases z with z | z | z
    · exact h1 z
    · exact h2 z.1
    · exact h3 z.1)
  have o32 : ∀ j, j ≠ 13 → hI h' 32 j = hI h 32 j := fun j hj => F.2.2.2 32 j (fun z => by
    rcases z with z | z | z
    · omega
    · omega
    · exact hj z.2)
  refine ⟨h', b 0, q, hnx, ?_, Fr_mono F (fun a j z => by
    unfold PRc
    rcases z with z | z | z
    · exact Or.inr (by omega)
    · exact Or.inr (by omega)
    · exact Or.inl ⟨z.1, Or.inr (Or.inl z.2)⟩)⟩
  refine ⟨by rw [o32 12 (by decide)]; exact r1, by rw [o32 14 (by decide)]; exact r2, Sit_Fr F (fun j z => by
    rcases z with z | z | z
    · omega
    · omega
    · omega) r3, fun i hi => by rw [o 37 (by decide) (by decide) (by decide), o 38 (by decide) (by decide) (by decide), o 39 (by decide) (by decide) (by decide)]; exact r4 i hi, ⟨sl, fun p hp => by rw [o 42 (by decide) (by decide) (by decide)]; exact r5 p hp, r5'⟩, ⟨b', P', m - 1, e13, by omega, ?_, V⟩, fun i hi hg => ?_⟩
  · have es : (fun i => i < xn (mrk X (b 0)) ∧ xg (mrk X (b 0)) i = false) = (fun i => (i < xn X ∧ xg X i = false) ∧ i ≠ b 0) := by
      funext i
      show (i < xn X ∧ fu (xg X) (b 0) true i = false) = _
      by_cases ei : i = b 0
      · subst ei
        rw [fu_s]
        simp
      · rw [fu_o _ _ ei]
        simp [ei]
    rw [es]
    exact K
  · have hg' : fu (xg X) (b 0) true i = true := hg
    by_cases ei : i = b 0
    · rw [ei]; exact e41
    · rw [fu_o _ _ ei] at hg'
      rw [F.2.2.2 41 i (fun z => by
        rcases z with z | z | z
        · omega
        · have := z.2.2; rw [hg'] at this; cases this
        · omega)]
      exact r9 i hi hg'
/-- how the class's search ends: all is gone through, or all are home -/
def Fin (α : SA) (rl : RLT) (m : Bool) (X : XS) (G : List Nat) : Prop :=
  (∃ n, SR α rl m n = (X, G) ∧ nxt X = none) ∨ ∃ n Y K s, SR α rl m n = (Y, K) ∧ nxt Y = some s ∧ X = mrk Y s ∧ G = K ++ [s] ∧ ∃ e, e ∈ G ∧ (nI (2 ^ bgs α - 1)) &&& hmS (xs X e) = nI (2 ^ bgs α - 1)
def PEx : Nat → Nat → Prop := fun a j => PSr a j ∨ a = 43
theorem xo_b {h : Hp} {α : SA} {X : XS} (R : RpC h α X) : hI h 32 14 = 0 ↔ xo X = false := by
  rw [R.2.1]
  exact b2i_0
theorem SR_0G {α : SA} {rl : RLT} {m : Bool} : ∀ n s, nxt (SR α rl m n).1 = some s → 0 ∈ (SR α rl m n).2 ++ [s]
  | 0, s, h => by
    have : nxt (X0 α) = some 0 := rfl
    rw [show (SR α rl m 0).1 = X0 α from rfl, this] at h
    have : (0 : Nat) = s := by simpa using h
    subst this
    simp
  | n + 1, s, h => by
    cases e : nxt (SR α rl m n).1 with
    | none => rw [SR_none e] at h; rw [e] at h; cases h
    | some t =>
      have := SR_0G (rl := rl) (m := m) n t e
      rw [SR_some e]
      simp only [List.mem_append] at this ⊢
      exact Or.inl this
theorem c_expl_l {N : Nat} {α : SA} {rl : RLT} {m : Bool} {v : Option Nat} (hN : 5000 ≤ N) (O : Ok α) (h0 : 0 < lvl α) : ∀ (j k f n : Nat) (h : Hp) (X : XS) (G : List Nat) (γ : SA), k + j = 1500 → j < f → SR α rl m n = (X, G) → (cG X = k) → SHP h → Rc N h v rl → RpC h α X → EN h X G → Ac h 15 γ → Irr α γ → ∃ h' X' G', f_X3_explore_48 N f h 32 v (b2i m) (nI (2 ^ bgs α - 1)) (nI k) = some h' ∧ Fin α rl m X' G' ∧ XI α rl X' G' ∧ RpC h' α X' ∧ EN h' X' G' ∧ Fq PEx h h' := by
  have hall : 2 ^ bgs α - 1 < 64 := by
    have := Nat.pow_le_pow_right (n := 2) (by decide) O.1.2.2.2.2.1
    omega
  intro j
  induction j with
  | zero =>
    intro k f n h X G γ hk hf hS hc H Q R E A Iγ
    obtain ⟨f, rfl⟩ : ∃ k, f = k + 1 := ⟨f - 1, by omega⟩
    have I := SR_XI (rl := rl) (m := m) O n
    rw [hS] at I
    rw [f_X3_explore_48, if_pos (show (1500 : Int32) ≤ nI k from nI_le (a := 1500) (by omega) (by omega))]
    exact ⟨h, X, G, rfl, Or.inl ⟨n, hS, cG_full I (by omega)⟩, I, R, E, Fq_refl h⟩
  | succ j ih =>
    intro k f n h X G γ hk hf hS hc H Q R E A Iγ
    obtain ⟨f, rfl⟩ : ∃ k, f = k + 1 := ⟨f - 1, by omega⟩
    have I := SR_XI (rl := rl) (m := m) O n
    rw [hS] at I
    rw [f_X3_explore_48, if_neg (show ¬ (1500 : Int32) ≤ nI k from nI_ge (b := 1500) (by omega) (by decide))]
    by_cases h13 : hI h 32 13 ≤ 0
    · rw [if_pos h13]
      refine ⟨h, X, G, rfl, Or.inl ⟨n, hS, ?_⟩, I, R, E, Fq_refl h⟩
      cases e : nxt X with
      | none => rfl
      | some s =>
        obtain ⟨_, s1, s2⟩ := nxt_s e
        obtain ⟨b, P, q, r6, r6', r7, _⟩ := R.2.2.2.2.2.1
        have := (r7.2.2.2 s ⟨s1, s2⟩).1
        rw [r6] at h13
        exact absurd h13 (nI_nle (by omega) (by omega))
    · rw [if_neg h13]
      by_cases ho : xo X = true
      · rw [if_neg (fun z => by rw [(xo_b R).mp z] at ho; cases ho)]
        exact ⟨h, X, G, rfl, Or.inl ⟨n, hS, by unfold nxt; rw [if_pos ho]⟩, I, R, E, Fq_refl h⟩
      · have hof : xo X = false := by simpa using ho
        rw [if_pos ((xo_b R).mpr hof)]
        obtain ⟨h1, s, q1, hnx, R1, F1⟩ := c_least hN H I.1.2 R hof h13
        obtain ⟨_, s1, s2⟩ := nxt_s hnx
        have H1 := Fr_SHP F1 H
        have I1 := (XI_mrk I s1 s2).1
        have A1 : Ac h1 15 γ := Fr_Ac F1 (fun a j h1 h2 z => by unfold PRc at z; omega) A
        obtain ⟨h2, q2, A2, F2⟩ := c_load (N := N) (i := s) (by omega) H1 A1 Iγ O.1 (X := mrk X s) s1 I.1.2 (I.2.1 s s1).1 (I.2.1 s s1).2 R1
        have H2 := Fr_SHP F2 H1
        have R2 := RpC_PS F2 R1
        have A2' : Ac h2 15 (xs X s) := A2
        have Ds := (I.2.1 s s1).1.1
        rw [q1, b2s, q2, bs, pp_32_0 H2, bs, c_home A2' Ds (by omega), bs]
        have E2 : EN h2 (mrk X s) G := fun t ht => by
          rw [F2.2.2.2 43 t (fun z => by have := z.2; omega), F1.2.2.2 43 t (fun z => by unfold PRc at z; omega), fE_congr (X := X) (Y := mrk X s) G (fun _ _ => rfl)]
          exact E t ht
        obtain ⟨h3, q3, E3, F3⟩ := c_note (N := N) (i := s) (X := mrk X s) (by omega) H2 Ds (fun i hi => by have := I.2.2.2.2.1 i hi; have := I.1.2; omega) E2
        have q3' : f_X3_noteEnds N h2 32 (nI s) (hmS (xs X s)) = some h3 := q3
        have H3 := Fr_SHP F3 H2
        have R3 : RpC h3 α (mrk X s) := RpC_of F3 (fun j _ z => by omega) (fun a j h1 h2 z => by omega) R2
        rw [q3', bs, pp_32_11 H3, bs, ll_43 H3, if_inI hall (by omega), nI_clamp (by omega), E3 _ hall]
        have F03 : Fq PEx h h3 := Fq_trans (Fq_mono (Fr_q F1) (fun a j z => Or.inl (Or.inl (Or.inl z)))) (Fq_trans (Fq_mono (Fr_q F2) (fun a j z => Or.inl (Or.inl (Or.inr z)))) (Fq_mono (Fr_q F3) (fun a j z => Or.inr z)))
        by_cases hend : oI (fE (mrk X s) (nI (2 ^ bgs α - 1)) (G ++ [s])) = -1
        · rw [if_pos hend]
          have A3 : Ac h3 15 (xs X s) := Fr_Ac F3 (fun a j h1 h2 z => by omega) A2'
          obtain ⟨h4, q4, R4, A4, F4⟩ := c_spread (N := N) (α := α) (rl := rl) (m := m) (β := xs X s) (s := s) (G := G ++ [s]) (v := v) (X := mrk X s) hN (by simp) (by have := SR_0G (rl := rl) (m := m) n s (by rw [hS]; exact hnx); rw [hS] at this; exact this) (by rw [Irr_l (I.2.1 s s1).2]; exact h0) (I.2.1 s s1).1 (I.2.1 s s1).2 H3 A3 I1 rfl R3 (Fq_Rc F03 (fun a j z => by unfold PEx PSr PSp PRc at z; omega) Q)
          rw [q4, bs, nI_1]
          have hS' : SR α rl m (n + 1) = (stp rl m X s, G ++ [s]) := by
            have := SR_some (α := α) (rl := rl) (m := m) (n := n) (s := s) (by rw [hS]; exact hnx)
            rw [hS] at this
            exact this
          have I4 := XI_stp (m := m) I hnx
          have E4 : EN h4 (stp rl m X s) (G ++ [s]) := fun t ht => by
            rw [F4.2.2.2 43 t (fun z => by unfold PSr PSp PRc at z; omega), E3 t ht]
            congr 1
            exact (fE_congr (G ++ [s]) (fun i hi => I4.2.1.2.1 i (I1.2.2.2.2.1 i hi))).symm
          obtain ⟨h', X', G', a1, a2, a3, a4, a5, a6⟩ := ih (k + 1) f (n + 1) h4 (stp rl m X s) (G ++ [s]) (xs X s) (by omega) (by omega) hS' (by rw [cG_stp I hnx, hc]) (Fq_SHP F4 H3) (Fq_Rc (Fq_trans F03 (Fq_mono F4 (fun a j z => Or.inl z))) (fun a j z => by unfold PEx PSr PSp PRc at z; omega) Q) R4 E4 A4 (I.2.1 s s1).2
          exact ⟨h', X', G', a1, a2, a3, a4, a5, Fq_trans F03 (Fq_trans (Fq_mono F4 (fun a j z => Or.inl z)) a6)⟩
        · rw [if_neg hend]
          refine ⟨h3, mrk X s, G ++ [s], rfl, ?_, I1, R3, E3, F03⟩
          rw [oI_m1 (fun i hi => by have := I1.2.2.2.2.1 i hi; have := I1.1.2; omega)] at hend
          cases e : fE (mrk X s) (nI (2 ^ bgs α - 1)) (G ++ [s]) with
          | none => exact absurd e hend
          | some e' => exact Or.inr ⟨n, X, G, s, hS, hnx, rfl, rfl, e', fE_some _ e⟩
/-- what stands in the class's rows once it has searched -/
def Srd (h : Hp) (α : SA) (rl : RLT) (m : Bool) : Prop := ∃ X G, Fin α rl m X G ∧ XI α rl X G ∧ hI h 32 14 = b2i (xo X) ∧ (∀ i, i < xn X → hI h 37 i = xc X i ∧ hI h 38 i = nI (xf X i) ∧ hI h 39 i = nI (tcd α X i)) ∧ EN h X G
theorem shl1 : ∀ b, b ≤ 6 → ((1 : Int32) <<< (nI b &&& 31)) = nI (2 ^ b) := by decide
def PEp : Nat → Nat → Prop := fun a j => PEx a j ∨ (a = 32 ∧ j = 15)
theorem c_expl10 {h : Hp} {N : Nat} {α : SA} {rl : RLT} {m : Bool} {v : Option Nat} {w x : Int32} (hN : 5000 ≤ N) (H : SHP h) (A : Ac h 3 α) (O : Ok (lk α w)) (I15 : isSt h 15) (h0 : 0 < lvl α) (Q : Rc N h v rl) (hx : ¬ x = hI h 32 15) : ∃ h', f_X3_explore_10 N h 32 3 v (b2i m) w x = some h' ∧ Srd h' (lk α w) rl m ∧ hI h' 32 15 = x ∧ Fq PEp h h' := by
  unfold f_X3_explore_10
  rw [if_neg hx, lts]
  have F1 : Fr (fun a j => a = 32 ∧ j = 15) h (sI h 32 15 x) := Fr_sI _ _ _ _ ⟨rfl, rfl⟩
  have g1 : hI (sI h 32 15 x) 32 15 = x := by rw [hI_sI, if_pos ⟨rfl, rfl⟩]
  generalize sI h 32 15 x = h1 at F1 g1 ⊢
  have H1 := Fr_SHP F1 H
  have A1 : Ac h1 3 α := Fr_Ac F1 (fun a j h1 h2 z => by omega) A
  obtain ⟨h2, q2, H2, R2, E2, A2, F2⟩ := c_begin (N := N) (w := w) hN H1 A1 O (Fr_isSt F1 I15)
  rw [q2, bs, lts]
  have A2' : Ac h2 3 α := Fq_Ac F2 (fun a j h1 h2 z => by unfold PBg PSp PRc at z; omega) A1
  have bl : bgs (lk α w) = bgs α := bgs_of (by unfold lk; rw [sr_o _ _ (by decide)])
  have ll : lvl (lk α w) = lvl α := lvl_of (by unfold lk; rw [sr_o _ _ (by decide)])
  have b6 : bgs α ≤ 6 := by rw [← bl]; exact O.1.2.2.2.2.1
  have eb : hI h2 3 1 = nI (bgs α) := by
    rw [ac_0 A2' (by decide), ← bl]
    have := O.1.2.1
    rw [← this]
    unfold lk
    rw [sr_o _ _ (by decide)]
  have hp : 2 ^ bgs α ≤ 64 := Nat.pow_le_pow_right (n := 2) (by decide) b6
  have hp1 : 1 ≤ 2 ^ bgs α := Nat.one_le_two_pow
  rw [eb, shl1 _ b6, n_1, pk_sub hp1]
  have Q2 : Rc N h2 v rl := Fq_Rc F2 (fun a j z => by unfold PBg PSp PRc at z; omega) (Fq_Rc (Fr_q F1) (fun a j z => by omega) Q)
  obtain ⟨h3, X, G, q3, Fi, I3, R3, E3, F3⟩ := c_expl_l (N := N) (α := lk α w) (rl := rl) (m := m) (v := v) hN O (by rw [ll]; exact h0) 1500 0 N 0 h2 (X0 (lk α w)) [] (lk α w) (by omega) (by omega) rfl (by
    rcases SR_c (rl := rl) (m := m) O 0 with z | z
    · exact z
    · have : nxt (X0 (lk α w)) = some 0 := rfl
      rw [show (SR (lk α w) rl m 0).1 = X0 (lk α w) from rfl, this] at z
      cases z) H2 Q2 R2 E2 A2 ⟨fun _ _ _ => rfl, fun _ _ => rfl, fun _ _ => rfl⟩
  rw [bl] at q3
  refine ⟨h3, q3, ⟨X, G, Fi, I3, R3.2.1, R3.2.2.2.1, E3⟩, ?_, ?_⟩
  · rw [F3.2.2.2 32 15 (fun z => by unfold PEx PSr PSp PRc at z; omega), F2.2.2.2 32 15 (fun z => by unfold PBg PSp PRc at z; omega)]
    exact g1
  · refine Fq_trans (Fq_mono (Fr_q F1) (fun a j z => Or.inr z)) (Fq_trans (Fq_mono F2 (fun a j z => Or.inl ?_)) (Fq_mono F3 (fun a j z => Or.inl z)))
    rcases z with z | z
    · exact Or.inl (Or.inl z)
    · exact Or.inr z
/-! what it tells: what a plan takes, its row -/
def eC (X : XS) (G : List Nat) (t : Int32) : Int32 := match fE X t G with
  | some e => xc X e
  | none => if xo X then -3 else -2
theorem c_endOf {h : Hp} {X : XS} {G : List Nat} {t : Nat} (H : SHP h) (hG : ∀ i, i ∈ G → i < 1500) (h14 : hI h 32 14 = b2i (xo X)) (E : EN h X G) (ht : t < 64) : f_X3_endOf h 32 (nI t) = some (match fE X (nI t) G with
    | some e => nI e
    | none => if xo X then -3 else -2) := by
  unfold f_X3_endOf f_X3_endOf_20
  rw [if_neg (nI_pos (by omega)), if_pos (show nI t < 64 from nI_lt (b := 64) ht (by decide)), pp_32_11 H, bs, ll_43 H, if_inI ht (by omega), nI_clamp (by omega), E t ht, h14]
  have z := oI_m1 (X := X) (t := nI t) hG
  cases e : fE X (nI t) G with
  | none =>
    rw [if_pos (show oI none = -1 from rfl)]
    cases xo X <;> rfl
  | some i =>
    rw [e] at z
    rw [if_neg (fun w => by have := z.mp w; cases this)]
    rfl
theorem c_costOf {h : Hp} {X : XS} {G : List Nat} {t : Nat} (H : SHP h) (hn : xn X ≤ 1500) (hG : ∀ i, i ∈ G → i < xn X) (h14 : hI h 32 14 = b2i (xo X)) (E : EN h X G) (hc : ∀ i, i < xn X → hI h 37 i = xc X i) (ht : t < 64) : f_X3_costOf h 32 (nI t) = some (eC X G (nI t)) := by
  unfold f_X3_costOf eC
  rw [c_endOf H (fun i hi => by have := hG i hi; omega) h14 E ht, bs]
  cases e : fE X (nI t) G with
  | none =>
    cases xo X <;> rfl
  | some i =>
    have := hG i (fE_some G e).1
    show (if 0 ≤ nI i then _ else _) = _
    rw [if_pos (nI_pos' (by omega)), pp_32_5 H, bs, ll_37 H, if_inI (by omega) (by omega), nI_clamp (by omega), hc i this]
/-- the k-th ahead of i -/
def anc (X : XS) : Nat → Nat → Nat
  | 0, i => i
  | k + 1, i => anc X k (xf X i)
def dep (X : XS) : Nat → Nat → Nat
  | 0, _ => 0
  | n + 1, i => if i = 0 then 0 else dep X n (xf X i) + 1
/-- rows that stand in the order of G come to their end -/
theorem dep_ok {X : XS} {G : List Nat} (od : ∀ G1 i G2, G = G1 ++ i :: G2 → 0 < i → xf X i ∈ G1) : ∀ (n : Nat) (G1 : List Nat) (i : Nat) (G2 : List Nat), G1.length ≤ n → G = G1 ++ i :: G2 → ∃ d, d ≤ n ∧ anc X d i = 0 ∧ (∀ e, e < d → anc X e i ≠ 0) ∧ ∀ e, e ≤ d → anc X e i ∈ G := by
  intro n
  induction n with
  | zero =>
    intro G1 i G2 hl hG
    have : G1 = [] := List.eq_nil_of_length_eq_zero (by omega)
    subst this
    by_cases hi : i = 0
    · exact ⟨0, by omega, hi, fun e he => by omega, fun e he => by
        have : e = 0 := by omega
        subst this
        rw [hG]
        show i ∈ _
        simp⟩
    · exact absurd (od [] i G2 hG (by omega)) (by simp)
  | succ n ih =>
    intro G1 i G2 hl hG
    by_cases hi : i = 0
    · exact ⟨0, by omega, hi, fun e he => by omega, fun e he => by
        have : e = 0 := by omega
        subst this
        rw [hG]
        show i ∈ _
        simp⟩
    · have h1 := od G1 i G2 hG (by omega)
      obtain ⟨K1, K2, hK⟩ := List.append_of_mem h1
      have hG' : G = K1 ++ xf X i :: (K2 ++ i :: G2) := by rw [hG, hK]; simp
      obtain ⟨d, d1, d2, d3, d4⟩ := ih K1 (xf X i) (K2 ++ i :: G2) (by rw [hK] at hl; simp at hl; omega) hG'
      refine ⟨d + 1, by omega, d2, fun e he => ?_, fun e he => ?_⟩
      · cases e with
        | zero => exact hi
        | succ e => exact d3 e (by omega)
      · cases e with
        | zero => rw [hG]; show i ∈ _; simp
        | succ e => exact d4 e (by omega)
theorem anc_s (X : XS) : ∀ k i, anc X (k + 1) i = xf X (anc X k i)
  | 0, _ => rfl
  | k + 1, i => by
    show anc X (k + 1) (xf X i) = xf X (anc X k (xf X i))
    exact anc_s X k (xf X i)
theorem c_len_l {h : Hp} {N : Nat} {X : XS} {e d i : Nat} (H : SHP h) (hn : xn X ≤ 1500) (hd : d < 1500) (hf : ∀ j, j < xn X → hI h 38 j = nI (xf X j)) (d2 : anc X d i = 0) (d3 : ∀ e, e < d → anc X e i ≠ 0) (d4 : ∀ e, e ≤ d → anc X e i < xn X) {vk : Int32} : ∀ (m l f : Nat), l + m = d → m < f → f_X3_tipOfRow_18 N f h 32 vk (nI e) (nI l) (nI (anc X l i)) = f_X3_tipOfRow_46 N h 32 vk (nI e) (nI d) := by
  intro m
  induction m with
  | zero =>
    intro l f hl hf'
    obtain ⟨f, rfl⟩ : ∃ k, f = k + 1 := ⟨f - 1, by omega⟩
    have : l = d := by omega
    subst this
    rw [f_X3_tipOfRow_18, d2, if_pos (by decide)]
  | succ m ih =>
    intro l f hl hf'
    obtain ⟨f, rfl⟩ : ∃ k, f = k + 1 := ⟨f - 1, by omega⟩
    have a1 := d3 l (by omega)
    have a2 := d4 l (by omega)
    rw [f_X3_tipOfRow_18, if_neg (nI_nle (by omega) (by omega)), if_neg (show ¬ (1500 : Int32) ≤ nI l from nI_ge (b := 1500) (by omega) (by decide)), pp_32_6 H, bs, ll_38 H, if_inI (by omega) (by omega), lts, nI_clamp (by omega), hf _ a2, nI_1, ← anc_s]
    exact ih (l + 1) f (by omega) (by omega)
theorem c_anc_l {h : Hp} {N : Nat} {X : XS} {k d i : Nat} {α : SA} (H : SHP h) (hn : xn X ≤ 1500) (hd : d < 1500) (hk : k < d) (hf : ∀ j, j < xn X → hI h 38 j = nI (xf X j)) (ht : ∀ j, j < xn X → hI h 39 j = nI (tcd α X j)) (d3 : ∀ e, e < d → anc X e i ≠ 0) (d4 : ∀ e, e ≤ d → anc X e i < xn X) : ∀ (m l f : Nat), l + m = d - 1 - k → m < f → f_X3_tipOfRow_64 N f h 32 (nI k) (nI (anc X l i)) (nI (d - 1 - l)) = some (nI (tc α (xb X (anc X (d - 1 - k) i)))) := by
  intro m
  induction m with
  | zero =>
    intro l f hl hf'
    obtain ⟨f, rfl⟩ : ∃ k, f = k + 1 := ⟨f - 1, by omega⟩
    have a1 := d3 l (by omega)
    have a2 := d4 l (by omega)
    rw [f_X3_tipOfRow_64, if_pos (nI_le (by omega) (by omega)), pp_32_7 H, bs, ll_39 H, if_inI (by omega) (by omega), nI_clamp (by omega), ht _ a2, show l = d - 1 - k by omega]
    unfold tcd
    rw [show l = d - 1 - k by omega] at a1
    rw [if_neg a1]
  | succ m ih =>
    intro l f hl hf'
    obtain ⟨f, rfl⟩ : ∃ k, f = k + 1 := ⟨f - 1, by omega⟩
    have a1 := d3 l (by omega)
    have a2 := d4 l (by omega)
    rw [f_X3_tipOfRow_64, if_neg (nI_ge (by omega) (by omega)), if_neg (nI_nle (by omega) (by omega)), pp_32_6 H, bs, ll_38 H, if_inI (by omega) (by omega), lts, nI_clamp (by omega), hf _ a2, ← anc_s, show nI (d - 1 - l) + (-1) = nI (d - 1 - (l + 1)) by rw [← Int32.sub_eq_add_neg, n_1, pk_sub (by omega)]; congr 1]
    exact ih (l + 1) f (by omega) (by omega)
theorem dep_eq {X : XS} : ∀ (n d i : Nat), d ≤ n → anc X d i = 0 → (∀ e, e < d → anc X e i ≠ 0) → dep X n i = d
  | 0, d, i, h, _, _ => by
    show 0 = d
    omega
  | n + 1, 0, i, _, h0, _ => if_pos h0
  | n + 1, d + 1, i, h, h0, hn => by
    show (if i = 0 then 0 else dep X n (xf X i) + 1) = d + 1
    rw [if_neg (show ¬ i = 0 from hn 0 (by omega)), dep_eq n d (xf X i) (by omega) h0 (fun e he => hn (e + 1) (by omega))]
theorem SR_len {α : SA} {rl : RLT} {m : Bool} (O : Ok α) : ∀ n, (SR α rl m n).2.length = cG (SR α rl m n).1
  | 0 => by
    rcases SR_c (rl := rl) (m := m) O 0 with z | z
    · rw [z]; rfl
    · have : nxt (X0 α) = some 0 := rfl
      rw [show (SR α rl m 0).1 = X0 α from rfl, this] at z
      cases z
  | n + 1 => by
    cases e : nxt (SR α rl m n).1 with
    | none => rw [SR_none e]; exact SR_len O n
    | some s =>
      rw [SR_some e]
      show ((SR α rl m n).2 ++ [s]).length = cG (stp rl m (SR α rl m n).1 s)
      rw [cG_stp (SR_XI O n) e, ← SR_len O n]
      simp
theorem Fin_len {α : SA} {rl : RLT} {m : Bool} (O : Ok α) {X : XS} {G : List Nat} (F : Fin α rl m X G) : G.length ≤ 1500 := by
  rcases F with ⟨n, h1, _⟩ | ⟨n, Y, K, s, h1, h2, h3, h4, _⟩
  · have := SR_len (rl := rl) (m := m) O n
    rw [h1] at this
    rw [show G.length = cG X from this]
    exact cG_le X
  · have := SR_len (rl := rl) (m := m) O n
    rw [h1] at this
    have hK : K.length = cG Y := this
    have I := SR_XI (rl := rl) (m := m) O n
    rw [h1] at I
    obtain ⟨_, s1, s2⟩ := nxt_s h2
    have := cG_mrk (X := Y) (s := s) (by have := I.1.2; have : xn Y ≤ 1500 := this; omega) s2
    have := cG_le (mrk Y s)
    rw [h4]
    simp
    omega
/-- every one gone through has its way -/
theorem way_ok {α : SA} {rl : RLT} {X : XS} {G : List Nat} (I : XI α rl X G) (hG : G.length ≤ 1500) {i : Nat} (hi : i ∈ G) : ∃ d, d < 1500 ∧ anc X d i = 0 ∧ (∀ e, e < d → anc X e i ≠ 0) ∧ (∀ e, e ≤ d → anc X e i ∈ G) ∧ dep X 1500 i = d := by
  obtain ⟨G1, G2, e⟩ := List.append_of_mem hi
  have hl : G1.length ≤ 1499 := by rw [e] at hG; simp at hG; omega
  obtain ⟨d, d1, d2, d3, d4⟩ := dep_ok I.2.2.2.2.2.2 1499 G1 i G2 hl e
  exact ⟨d, by omega, d2, d3, d4, dep_eq 1500 d i (by omega) d2 d3⟩
def eR (α : SA) (X : XS) (G : List Nat) (t : Int32) (k : Nat) : Int32 := match fE X t G with
  | some e => if k < dep X 1500 e then nI (tc α (xb X (anc X (dep X 1500 e - 1 - k) e))) else -2
  | none => if xo X then -3 else -2
theorem c_tipOfRow {h : Hp} {N : Nat} {α : SA} {rl : RLT} {X : XS} {G : List Nat} {t k : Nat} (hN : 5000 ≤ N) (H : SHP h) (I : XI α rl X G) (hG : G.length ≤ 1500) (h14 : hI h 32 14 = b2i (xo X)) (E : EN h X G) (hr : ∀ i, i < xn X → hI h 37 i = xc X i ∧ hI h 38 i = nI (xf X i) ∧ hI h 39 i = nI (tcd α X i)) (ht : t < 64) (hk : k < 2 ^ 31) : f_X3_tipOfRow N h 32 (nI t) (nI k) = some (eR α X G (nI t) k) := by
  have gl := I.2.2.2.2.1
  have n15 := I.1.2
  unfold f_X3_tipOfRow eR
  rw [c_endOf H (fun i hi => by have := gl i hi; omega) h14 E ht, bs]
  cases e : fE X (nI t) G with
  | none =>
    cases xo X <;> rfl
  | some i =>
    have hi := (fE_some G e).1
    have hl := gl i hi
    obtain ⟨d, d1, d2, d3, d4, d5⟩ := way_ok I hG hi
    show (if 0 ≤ nI i then f_X3_tipOfRow_18 N N h 32 (nI k) (nI i) 0 (nI i) else _) = some (if k < dep X 1500 i then _ else _)
    rw [if_pos (nI_pos' (by omega)), d5]
    have := c_len_l (N := N) (X := X) (e := i) (d := d) (i := i) (vk := nI k) H n15 d1 (fun j hj => (hr j hj).2.1) d2 d3 (fun e he => gl _ (d4 e he)) d 0 N (by omega) (by omega)
    rw [show f_X3_tipOfRow_18 N N h 32 (nI k) (nI i) 0 (nI i) = _ from this]
    unfold f_X3_tipOfRow_46
    by_cases hkd : k < d
    · rw [if_pos hkd, if_pos (nI_lt hkd (by omega)), n_1, pk_sub (by omega)]
      have := c_anc_l (N := N) (X := X) (k := k) (d := d) (i := i) (α := α) H n15 d1 hkd (fun j hj => (hr j hj).2.1) (fun j hj => (hr j hj).2.2) d3 (fun e he => gl _ (d4 e he)) (d - 1 - k) 0 N (by omega) (by omega)
      exact this
    · rw [if_neg hkd, if_neg (nI_nlt (by omega) hk)]
