/-! ===== the reference's search: its loop ===== -/
def PGo : Nat → Nat → Prop := fun a j => PGi a j ∨ a = 69 ∨ a = 70 ∨ (a = 51 ∧ j = 37)
theorem Rm_PGo {a b : Hp} (F : Fr PGo a b) {N : Nat} {r : Int32} {rl : RLT} (H : Rm N a r rl) : Rm N b r rl := Rm_Fr F (fun j z => by unfold PGo PGi PLd PM at z; omega) (fun j z => by unfold PGo PGi PLd PM at z; omega) (fun j z => by unfold PGo PGi PLd PM at z; omega) H
theorem m_outer {N : Nat} {α : SA} {rl : RLT} {m : Bool} (hN : 5000 ≤ N) (Oα : Ok α) (h0 : 0 < lvl α) : ∀ (j f n : Nat) (h : Hp) (X : XS) (G : List Nat) (γ : SA), SR α rl m n = (X, G) → cG X + j = 1500 → j + 1 < f → RpM h X G → hI h 63 3 = α 0 3 → Rm N h (α 0 5) rl → Am h γ → Irq α γ → ∃ h' X' G' n', f_X8_goesThrough_54 N f h 51 (b2i m) (oI (lsF X (xn X))) = f_X8_goesThrough_158 N h' 51 ∧ SR α rl m n' = (X', G') ∧ nxt X' = none ∧ RpM h' X' G' ∧ SHP h' ∧ Fr PGo h h' := by
  intro j
  induction j with
  | zero =>
    intro f n h X G γ hS hc hf R K Q M Iγ
    obtain ⟨f, rfl⟩ : ∃ k, f = k + 1 := ⟨f - 1, by omega⟩
    have I : XI α rl X G := by
      have := SR_XI (rl := rl) (m := m) Oα n
      rw [hS] at this
      exact this
    have hn := cG_full I (by omega)
    rw [f_X8_goesThrough_54]
    by_cases ho : xo X = true
    · refine ⟨h, X, G, n, ?_, hS, hn, R, M.1, Fr_refl h⟩
      rw [R.2.1, if_neg (show ¬ b2i (xo X) = 0 by rw [ho]; decide), ite_self]
    · unfold nxt at hn
      rw [if_neg ho] at hn
      refine ⟨h, X, G, n, ?_, hS, by unfold nxt; rw [if_neg ho]; exact hn, R, M.1, Fr_refl h⟩
      rw [hn, if_pos (show oI none < 0 by decide)]
  | succ j ih =>
    intro f n h X G γ hS hc hf R K Q M Iγ
    obtain ⟨f, rfl⟩ : ∃ k, f = k + 1 := ⟨f - 1, by omega⟩
    have I : XI α rl X G := by
      have := SR_XI (rl := rl) (m := m) Oα n
      rw [hS] at this
      exact this
    have n15 := I.1.2
    have H := M.1
    rw [f_X8_goesThrough_54]
    by_cases ho : xo X = true
    · refine ⟨h, X, G, n, ?_, hS, by unfold nxt; rw [if_pos ho], R, M.1, Fr_refl h⟩
      rw [R.2.1, if_neg (show ¬ b2i (xo X) = 0 by rw [ho]; decide), ite_self]
    · have hof : xo X = false := by simpa using ho
      cases hl : lsF X (xn X) with
      | none =>
        refine ⟨h, X, G, n, ?_, hS, by unfold nxt; rw [if_neg ho]; exact hl, R, M.1, Fr_refl h⟩
        rw [if_pos (show oI none < 0 by decide)]
      | some s =>
        have hnx : nxt X = some s := by unfold nxt; rw [if_neg ho]; exact hl
        obtain ⟨_, s1, s2⟩ := nxt_s hnx
        have I1 := (XI_mrk I s1 s2).1
        have gl : G.length < 1500 := by
          have := SR_len (rl := rl) (m := m) Oα n
          rw [hS] at this
          have : G.length = cG X := this
          omega
        obtain ⟨Os, Is⟩ := I.2.1 s s1
        obtain ⟨r1, r2, r3, r4, r5, ⟨sl, r6, r6'⟩, r7⟩ := R
        rw [show oI (some s) = nI s from rfl, if_neg (nI_pos (by omega)), r2, if_pos (by rw [b2i_0]; exact hof), pp_51_32 H, bs, ll_68 H, if_inI (by omega) (by omega), lts, nI_clamp (by omega)]
        have F1 : Fr (fun a j => a = 68 ∧ j = s) h (sI h 68 s 1) := Fr_sI _ _ _ _ ⟨rfl, rfl⟩
        have g1 : hI (sI h 68 s 1) 68 s = 1 := by rw [hI_sI, if_pos ⟨rfl, rfl⟩]
        generalize sI h 68 s 1 = h1 at F1 g1 ⊢
        have H1 := Fr_SHP F1 H
        rw [pp_51_33 H1, bs, F1.2.2.2 51 37 (fun z => by omega), r3, ll_69 H1, if_inI gl (by omega), lts, nI_clamp (by omega)]
        have F2 : Fr (fun a j => a = 69 ∧ j = G.length) h1 (sI h1 69 G.length (nI s)) := Fr_sI _ _ _ _ ⟨rfl, rfl⟩
        have g2 : hI (sI h1 69 G.length (nI s)) 69 G.length = nI s := by rw [hI_sI, if_pos ⟨rfl, rfl⟩]
        generalize sI h1 69 G.length (nI s) = h2 at F2 g2 ⊢
        have H2 := Fr_SHP F2 H1
        have M2 : Am h2 γ := Am_Fr F2 (fun j z => by omega) (Am_Fr F1 (fun j z => by omega) M)
        obtain ⟨h3, q3, M3, F3⟩ := m_stands (N := N) (n := xn X) (st := xs X) (i := s) (by omega) M2 Oα.1 Iγ s1 n15 Is (fun k hk => by rw [F2.2.2.2 64 _ (fun z => by omega), F1.2.2.2 64 _ (fun z => by omega)]; exact r4 s s1 k hk) (by rw [F2.2.2.2 63 3 (fun z => by omega), F1.2.2.2 63 3 (fun z => by omega)]; exact K)
        generalize γ 0 4 = p at M3
        have H3 := M3.1
        have smp := pw_Sm (xs X s) p
        have Op := Ok_pw p Os
        rw [q3, bs, pp_51_34 H3, bs, m_home M3 Op.1 (by omega), bs, Sm_hm smp, F3.2.2.2 51 37 (fun (z : 51 = 62) => by omega), F2.2.2.2 51 37 (fun z => by omega), F1.2.2.2 51 37 (fun z => by omega), r3, ll_70 H3, if_inI gl (by omega), lts, nI_clamp (by omega)]
        have F4 : Fr (fun a j => a = 70 ∧ j = G.length) h3 (sI h3 70 G.length (hmS (xs X s))) := Fr_sI _ _ _ _ ⟨rfl, rfl⟩
        have g4 : hI (sI h3 70 G.length (hmS (xs X s))) 70 G.length = hmS (xs X s) := by rw [hI_sI, if_pos ⟨rfl, rfl⟩]
        generalize sI h3 70 G.length (hmS (xs X s)) = h4 at F4 g4 ⊢
        rw [lts, F4.2.2.2 51 37 (fun z => by omega), F3.2.2.2 51 37 (fun (z : 51 = 62) => by omega), F2.2.2.2 51 37 (fun z => by omega), F1.2.2.2 51 37 (fun z => by omega), r3, nI_1]
        have F5 : Fr (fun a j => a = 51 ∧ j = 37) h4 (sI h4 51 37 (nI (G.length + 1))) := Fr_sI _ _ _ _ ⟨rfl, rfl⟩
        have g5 : hI (sI h4 51 37 (nI (G.length + 1))) 51 37 = nI (G.length + 1) := by rw [hI_sI, if_pos ⟨rfl, rfl⟩]
        generalize sI h4 51 37 (nI (G.length + 1)) = h5 at F5 g5 ⊢
        have M5 : Am h5 (pw (xs X s) p) := Am_Fr F5 (fun j z => by omega) (Am_Fr F4 (fun j z => by omega) M3)
        have F15 : Fr PGo h h5 := Fr_trans (Fr_mono F1 (fun a j z => by unfold PGo PGi PLd; omega)) (Fr_trans (Fr_mono F2 (fun a j z => by unfold PGo; omega)) (Fr_trans (Fr_mono F3 (fun a j z => Or.inl (Or.inl (Or.inl z)))) (Fr_trans (Fr_mono F4 (fun a j z => by unfold PGo; omega)) (Fr_mono F5 (fun a j z => by unfold PGo; omega)))))
        have Q5 := Rm_PGo F15 Q
        have K5 : hI h5 63 3 = α 0 3 := by rw [F15.2.2.2 63 3 (fun z => by unfold PGo PGi PLd PM at z; omega)]; exact K
        have h05 : pw (xs X s) p 0 5 = α 0 5 := by rw [pw_0 _ _ (by decide), Is.1 0 (by decide) (by decide)]
        have o : ∀ a, a ≠ 62 → a ≠ 51 → a ≠ 68 → a ≠ 69 → a ≠ 70 → hI h5 a = hI h a := fun a a1 a2 a3 a4 a5 => by
          rw [Fr_row F5 (fun j z => a2 z.1), Fr_row F4 (fun j z => a5 z.1), Fr_row F3 (fun j (z : a = 62) => a1 z), Fr_row F2 (fun j z => a4 z.1), Fr_row F1 (fun j z => a3 z.1)]
        have o51 : ∀ j, j ≠ 37 → hI h5 51 j = hI h 51 j := fun j hj => by
          rw [F5.2.2.2 51 j (fun z => hj z.2), F4.2.2.2 51 j (fun z => by omega), F3.2.2.2 51 j (fun (z : 51 = 62) => by omega), F2.2.2.2 51 j (fun z => by omega), F1.2.2.2 51 j (fun z => by omega)]
        have o68 : ∀ j, hI h5 68 j = hI h1 68 j := fun j => by
          rw [F5.2.2.2 68 j (fun z => by omega), F4.2.2.2 68 j (fun z => by omega), F3.2.2.2 68 j (fun (z : 68 = 62) => by omega), F2.2.2.2 68 j (fun z => by omega)]
        have o69 : ∀ j, hI h5 69 j = hI h2 69 j := fun j => by
          rw [F5.2.2.2 69 j (fun z => by omega), F4.2.2.2 69 j (fun z => by omega), F3.2.2.2 69 j (fun (z : 69 = 62) => by omega)]
        have o70 : ∀ j, hI h5 70 j = hI h4 70 j := fun j => F5.2.2.2 70 j (fun z => by omega)
        have R5 : RpM h5 (mrk X s) (G ++ [s]) := by
          refine ⟨by rw [o51 36 (by decide)]; exact r1, by rw [o51 38 (by decide)]; exact r2, by rw [g5]; simp, fun i hi k hk => by rw [o 64 (by decide) (by decide) (by decide) (by decide) (by decide)]; exact r4 i hi k hk, fun i hi => ?_, ⟨sl, fun q hq => by rw [o 71 (by decide) (by decide) (by decide) (by decide) (by decide)]; exact r6 q hq, r6'⟩, fun k hk => ?_⟩
          · rw [o 65 (by decide) (by decide) (by decide) (by decide) (by decide), o 66 (by decide) (by decide) (by decide) (by decide) (by decide), o 67 (by decide) (by decide) (by decide) (by decide) (by decide), o68]
            obtain ⟨c1, c2, c3, c4⟩ := r5 i hi
            refine ⟨c1, c2, c3, ?_⟩
            show hI h1 68 i = b2i (fu (xg X) s true i)
            by_cases e : i = s
            · subst e; rw [fu_s, g1]; rfl
            · rw [fu_o _ _ e, F1.2.2.2 68 i (fun z => e z.2)]; exact c4
          · rw [o69, o70]
            show hI h2 69 k = _ ∧ hI h4 70 k = hmS (xs X ((G ++ [s]).getD k 0))
            by_cases e : k = G.length
            · subst e
              rw [show (G ++ [s]).getD G.length 0 = s by simp [List.getD_eq_getElem?_getD]]
              exact ⟨g2, g4⟩
            · have hk' : k < G.length := by simp at hk; omega
              rw [show (G ++ [s]).getD k 0 = G.getD k 0 by simp [List.getD_eq_getElem?_getD, List.getElem?_append_left hk'], F2.2.2.2 69 k (fun z => e z.2), F1.2.2.2 69 k (fun z => by omega), F4.2.2.2 70 k (fun z => e z.2), F3.2.2.2 70 k (fun (z : 70 = 62) => by omega), F2.2.2.2 70 k (fun z => by omega), F1.2.2.2 70 k (fun z => by omega)]
              exact r7 k hk'
        obtain ⟨h6, q6, F6⟩ := m_first (N := N) (rl := rl) (n := 0) M5 Op.1 (by omega) (by rw [h05]; exact Q5) (Nat.zero_le _)
        rw [Sm_lgl smp, Sm_tM smp] at q6
        have q6' : f_X8_firstFrom N h5 51 0 = some (hdI (LF (lgl (xs X s) rl) (tM (xs X s) - 0) 0), h6) := q6
        rw [q6', b2s]
        have R6 := RpM_of F6 (fun j hj z => by have := z.2; omega) (fun a j h1 h2 z => by have := z.1; omega) R5
        have t15 := TL_15 (α := xs X s) (rl := rl) Os.1
        obtain ⟨h7, q7, R7, ⟨p7, M7⟩, F7⟩ := m_inner (N := N) (α := α) (rl := rl) (m := m) (β := xs X s) (s := s) (G := G ++ [s]) (s54 := f_X8_goesThrough_54 N f) hN (by simp) (by have := SR_0G (rl := rl) (m := m) n s (by rw [hS]; exact hnx); rw [hS] at this; exact this) Oα Os Is (TL (xs X s) rl) 0 N h6 (mrk X s) (by omega) (Nat.zero_le _) rfl I1 rfl R6 (by rw [F6.2.2.2 63 3 (fun z => by have := z.1; omega)]; exact K5) (Rm_PM F6 Q5) ⟨p, Am_PM F6 M5⟩
        rw [show hdI (LF (lgl (xs X s) rl) (tM (xs X s) - 0) 0) = hdI (TL (xs X s) rl) from rfl, q7]
        unfold f_X8_goesThrough_150
        have I7 := (XI_stp (m := m) I hnx).1
        have R7' : RpM h7 (stp rl m X s) (G ++ [s]) := R7
        rw [m_least (by omega) M7.1 I7.1.2 R7', bs]
        have hS' : SR α rl m (n + 1) = (stp rl m X s, G ++ [s]) := by
          have := SR_some (α := α) (rl := rl) (m := m) (n := n) (s := s) (by rw [hS]; exact hnx)
          rw [hS] at this
          exact this
        have F57 : Fr PGo h h7 := Fr_trans F15 (Fr_trans (Fr_mono F6 (fun a j z => Or.inl (Or.inr z))) (Fr_mono F7 (fun a j z => Or.inl z)))
        obtain ⟨h', X', G', n', a1, a2, a3, a4, a5, a6⟩ := ih f (n + 1) h7 (stp rl m X s) (G ++ [s]) (pw (xs X s) p7) hS' (by rw [cG_stp I hnx]; omega) (by omega) R7' (by rw [F57.2.2.2 63 3 (fun z => by unfold PGo PGi PLd PM at z; omega)]; exact K) (Rm_PGo F57 Q) M7 (Irr_Irq Is p7)
        exact ⟨h', X', G', n', a1, a2, a3, a4, a5, Fr_trans F57 a6⟩
theorem m_zero_l {N : Nat} {mb : Int32} : ∀ (m t f : Nat) (h : Hp), t + m = 4096 → m < f → SHP h → (∀ j, j < t → hI h 71 j = 0) → ∃ h', f_X8_goesThrough_2 N f h 51 mb (nI t) = f_X8_goesThrough_2 N 1 h' 51 mb (nI 4096) ∧ SHP h' ∧ (∀ j, j < 4096 → hI h' 71 j = 0) ∧ Fr (fun a _ => a = 71) h h' := by
  intro m
  induction m with
  | zero =>
    intro t f h ht hf H E
    obtain ⟨f, rfl⟩ : ∃ k, f = k + 1 := ⟨f - 1, by omega⟩
    refine ⟨h, ?_, H, fun j hj => E j (by omega), Fr_refl h⟩
    rw [f_X8_goesThrough_2, f_X8_goesThrough_2, if_pos (show (4096 : Int32) ≤ nI t from nI_le (a := 4096) (by omega) (by omega)), if_pos (show (4096 : Int32) ≤ nI 4096 from nI_le (a := 4096) (by omega) (by omega))]
  | succ m ih =>
    intro t f h ht hf H E
    obtain ⟨f, rfl⟩ : ∃ k, f = k + 1 := ⟨f - 1, by omega⟩
    rw [f_X8_goesThrough_2, if_neg (show ¬ (4096 : Int32) ≤ nI t from nI_ge (b := 4096) (by omega) (by decide)), pp_51_35 H, bs, ll_71 H, if_inI (by omega) (by omega), lts, nI_clamp (by omega), nI_1]
    have F1 : Fr (fun a _ => a = 71) h (sI h 71 t 0) := Fr_sI _ _ _ _ rfl
    obtain ⟨h', a1, a2, a3, a4⟩ := ih (t + 1) f (sI h 71 t 0) (by omega) (by omega) (Fr_SHP F1 H) (fun j hj => by
      rw [hI_sI]
      by_cases e : j = t
      · rw [if_pos ⟨rfl, e⟩]
      · rw [if_neg (fun z => e z.2)]; exact E j (by omega))
    exact ⟨h', a1, a2, a3, Fr_trans F1 a4⟩
def PGt : Nat → Nat → Prop := fun a j => PGo a j ∨ a = 63
theorem m_goes {h : Hp} {N : Nat} {α : SA} {rl : RLT} {m : Bool} (hN : 5000 ≤ N) (M : Am h α) (O : Ok α) (h0 : 0 < lvl α) (Q : Rm N h (α 0 5) rl) : ∃ h' X G n, f_X8_goesThrough N h 51 (b2i m) = some h' ∧ SR α rl m n = (X, G) ∧ nxt X = none ∧ RpM h' X G ∧ (∀ i, i < 93 → hI h' 62 i = hI h 62 i) ∧ Fr PGt h h' := by
  unfold f_X8_goesThrough
  obtain ⟨h1, q1, H1, z1, F1⟩ := m_zero_l (N := N) (mb := b2i m) 4096 0 N h (by omega) (by omega) M.1 (fun j hj => absurd hj (Nat.not_lt_zero j))
  rw [show (0 : Int32) = nI 0 from rfl, q1, f_X8_goesThrough_2, if_pos (show (4096 : Int32) ≤ nI 4096 from nI_le (a := 4096) (by omega) (by omega)), lts, lts, lts]
  have F2 : Fr (fun a j => a = 51 ∧ (j = 36 ∨ j = 37 ∨ j = 38)) h1 (sI (sI (sI h1 51 36 0) 51 37 0) 51 38 0) := Fr_trans (Fr_sI _ _ _ _ ⟨rfl, Or.inl rfl⟩) (Fr_trans (Fr_sI _ _ _ _ ⟨rfl, Or.inr (Or.inl rfl)⟩) (Fr_sI _ _ _ _ ⟨rfl, Or.inr (Or.inr rfl)⟩))
  have g36 : hI (sI (sI (sI h1 51 36 0) 51 37 0) 51 38 0) 51 36 = 0 := by rw [hI_sI, if_neg (by omega), hI_sI, if_neg (by omega), hI_sI, if_pos ⟨rfl, rfl⟩]
  have g37 : hI (sI (sI (sI h1 51 36 0) 51 37 0) 51 38 0) 51 37 = 0 := by rw [hI_sI, if_neg (by omega), hI_sI, if_pos ⟨rfl, rfl⟩]
  have g38 : hI (sI (sI (sI h1 51 36 0) 51 37 0) 51 38 0) 51 38 = 0 := by rw [hI_sI, if_pos ⟨rfl, rfl⟩]
  generalize sI (sI (sI h1 51 36 0) 51 37 0) 51 38 0 = h2 at F2 g36 g37 g38 ⊢
  have M2 : Am h2 α := Am_Fr F2 (fun j z => by omega) (Am_Fr F1 (fun j z => by omega) M)
  have H2 := M2.1
  have k0 := m_keeps_l (N := N) (h0 := h2) 93 0 N h2 (by omega) (by omega) H2 (Fr_refl h2) (fun i hi => absurd hi (Nat.not_lt_zero i))
  obtain ⟨h3, q3, F3, e3⟩ := k0
  have q3' : f_X8_keeps N h2 51 = some h3 := q3
  rw [q3', bs]
  have M3 : Am h3 α := Am_Fr F3 (fun j z => by omega) M2
  have H3 := M3.1
  have r71 : ∀ p, p < 4096 → hI h3 71 p = nI 0 := fun p hp => by rw [F3.2.2.2 71 p (fun z => by omega), F2.2.2.2 71 p (fun z => by omega)]; exact z1 p hp
  have hslot : f_X8_slotNow N h3 51 = some (nI (hsM α)) := by
    have e1 := m_hash_l (N := N) M3 O (fun _ _ => rfl) 14 0 N (by omega) (by omega)
    have hl : hsM α < 4096 := Nat.mod_lt _ (by decide)
    have e2 := m_slot_l (N := N) (n := 0) (st := fun _ => α) (sl := fun _ => 0) (mt := fun _ => False) (by omega) M3 (by decide) (fun i hi => absurd hi (Nat.not_lt_zero i)) (fun i hi => absurd hi (Nat.not_lt_zero i)) (fun p hp => ⟨r71 p hp, Nat.le_refl 0⟩) (p0 := hsM α) (d := 0) (by decide) (fun e he => absurd he (Nat.not_lt_zero e)) (Or.inl rfl) 0 0 N (by omega) (by omega)
    rw [Nat.add_zero, Nat.mod_eq_of_lt hl] at e2
    exact e1.trans e2
  rw [hslot, bs]
  have hl : hsM α < 4096 := Nat.mod_lt _ (by decide)
  obtain ⟨h4, a1, a2, a3, a4, a5, a6, a7, a8, F4⟩ := m_comes_l (N := N) (n := 0) (δ := α) (p := hsM α) (c := 0) (f := -1) (b := 0) (by decide) hl (h0 := h3) 14 0 N h3 (by omega) (by omega) M3 (by rw [F3.2.2.2 51 36 (fun z => by omega)]; exact g36) (fun j hj => absurd hj (Nat.not_lt_zero j)) (Fr_refl h3)
  have a1' : f_X8_comes N h3 51 (nI (hsM α)) 0 (-1) 0 = some h4 := a1
  have a1'' : f_X8_comes N h3 51 (nI (hsM α)) (nI 0) (-1) (nI 0) = some h4 := a1
  have M4 : Am h4 α := Am_Fr F4 (fun j z => by omega) M3
  have R4 : RpM h4 (X0 α) [] := by
    refine ⟨a8, ?_, ?_, fun i hi k hk => ?_, fun i hi => ?_, ⟨fu (fun _ => 0) (hsM α) 1, fun q hq => ?_, ?_⟩, fun j hj => absurd hj (Nat.not_lt_zero j)⟩
    · rw [F4.2.2.2 51 38 (fun z => by omega), F3.2.2.2 51 38 (fun z => by omega)]; exact g38
    · rw [F4.2.2.2 51 37 (fun z => by omega), F3.2.2.2 51 37 (fun z => by omega)]; exact g37
    · have hi' : i < 1 := hi
      have : i = 0 := by omega
      subst this
      exact a2 k hk
    · have hi' : i < 1 := hi
      have : i = 0 := by omega
      subst this
      exact ⟨a5, a6, fun z => absurd rfl z, a4⟩
    · by_cases e : q = hsM α
      · subst e; rw [fu_s]; exact a3
      · rw [fu_o _ _ e, F4.2.2.2 71 q (fun z => by omega)]; exact r71 q hq
    · have := HI_add HI_nil (p0 := hsM α) (d := 0) (by decide) (fun e he => absurd he (Nat.not_lt_zero e)) rfl
      rw [Nat.add_zero, Nat.mod_eq_of_lt hl] at this
      refine HI_hs this (fun i hi => ?_)
      have hi' : i < 1 := hi
      have : i = 0 := by omega
      subst this
      rw [fu_s]
      rfl
  have F04 : Fr PGt h h4 := Fr_trans (Fr_mono F1 (fun a j z => by unfold PGt PGo PGi PLd; omega)) (Fr_trans (Fr_mono F2 (fun a j z => by unfold PGt PGo PGi PLd; omega)) (Fr_trans (Fr_mono F3 (fun a j z => by unfold PGt; omega)) (Fr_mono F4 (fun a j z => by unfold PGt PGo PGi PLd; omega))))
  have Q4 : Rm N h4 (α 0 5) rl := Rm_Fr F04 (fun j z => by unfold PGt PGo PGi PLd PM at z; omega) (fun j z => by unfold PGt PGo PGi PLd PM at z; omega) (fun j z => by unfold PGt PGo PGi PLd PM at z; omega) Q
  have k63 : ∀ i, i < 93 → hI h4 63 i = hI h 62 i := fun i hi => by
    rw [F4.2.2.2 63 i (fun z => by omega), e3 i hi, F2.2.2.2 62 i (fun z => by omega), F1.2.2.2 62 i (fun z => by omega)]
  obtain ⟨h5, X, G, n, b1, b2, b3, b4, b5, F5⟩ := m_outer (N := N) (α := α) (rl := rl) (m := m) hN O h0 1500 N 0 h4 (X0 α) [] α rfl (by
    rcases SR_c (rl := rl) (m := m) O 0 with z | z
    · have z' : cG (X0 α) = 0 := z
      omega
    · have : nxt (X0 α) = some 0 := rfl
      rw [show (SR α rl m 0).1 = X0 α from rfl, this] at z
      cases z) (by omega) R4 (by rw [k63 3 (by decide)]; exact am_3 M) Q4 M4 ⟨fun _ _ _ _ => rfl, fun _ _ _ => rfl⟩
  have b1' : f_X8_goesThrough_54 N N h4 51 (b2i m) 0 = f_X8_goesThrough_158 N h5 51 := b1
  have b1'' : f_X8_goesThrough_54 N N h4 51 (b2i m) (nI 0) = f_X8_goesThrough_158 N h5 51 := b1
  rw [a1', bs, b1']
  unfold f_X8_goesThrough_158
  have p0 := m_puts_l (N := N) (h0 := h5) 93 0 N h5 (by omega) (by omega) b5 (Fr_refl h5) (fun i hi => absurd hi (Nat.not_lt_zero i))
  obtain ⟨h6, q6, F6, e6⟩ := p0
  have q6' : f_X8_putsBack N h5 51 = some h6 := q6
  rw [q6', bs]
  refine ⟨h6, X, G, n, rfl, b2, b3, RpM_of F6 (fun j _ z => by omega) (fun a j h1 h2 z => by omega) b4, fun i hi => ?_, Fr_trans F04 (Fr_trans (Fr_mono F5 (fun a j z => Or.inl z)) (Fr_mono F6 (fun a j z => by unfold PGt PGo PGi PLd; omega)))⟩
  rw [e6 i hi, F5.2.2.2 63 i (fun z => by unfold PGo PGi PLd PM at z; omega), k63 i hi]
