/-! ===== the class's search: what its rows hold ===== -/
def tcd (α : SA) (X : XS) (i : Nat) : Nat := if i = 0 then 0 else tc α (xb X i)
def RpC (h : Hp) (α : SA) (X : XS) : Prop :=
  hI h 32 12 = nI (xn X) ∧ hI h 32 14 = b2i (xo X) ∧ Sit h (xs X) (xn X) ∧ (∀ i, i < xn X → hI h 37 i = xc X i ∧ hI h 38 i = nI (xf X i) ∧ hI h 39 i = nI (tcd α X i)) ∧
  (∃ sl, (∀ p, p < 4096 → hI h 42 p = nI (sl p)) ∧ HI sl (fun i => hsC (xs X i)) (xn X)) ∧
  (∃ b P m, hI h 32 13 = nI m ∧ m ≤ 1500 ∧ HF h b P m (fun i => i < xn X ∧ xg X i = false) ∧ HV (xc X) b m) ∧
  ∀ i, i < xn X → xg X i = true → hI h 41 i = -1
def PRc : Nat → Nat → Prop := fun a j => (a = 32 ∧ (j = 12 ∨ j = 13 ∨ j = 14)) ∨ (34 ≤ a ∧ a ≤ 42)
theorem RpC_of {P : Nat → Nat → Prop} {h h' : Hp} {α : SA} {X : XS} (F : Fr P h h') (h1 : ∀ j, j = 12 ∨ j = 13 ∨ j = 14 → ¬ P 32 j) (h2 : ∀ a j, 34 ≤ a → a ≤ 42 → ¬ P a j) (R : RpC h α X) : RpC h' α X := by
  obtain ⟨r1, r2, r3, r4, ⟨sl, r5, r5'⟩, ⟨b, Q, m, r6, r6', r7, r8⟩, r9⟩ := R
  have e : ∀ a, 34 ≤ a → a ≤ 42 → hI h' a = hI h a := fun a ha ha' => Fr_row F (fun j => h2 a j ha ha')
  refine ⟨by rw [F.2.2.2 32 12 (h1 12 (by simp))]; exact r1, by rw [F.2.2.2 32 14 (h1 14 (by simp))]; exact r2, fun i hi => ?_, fun i hi => ?_, ⟨sl, fun p hp => ?_, r5'⟩, ⟨b, Q, m, by rw [F.2.2.2 32 13 (h1 13 (by simp))]; exact r6, r6', ⟨fun q hq => ?_, fun i hi => ?_, r7.2.2⟩, r8⟩, fun i hi hg => ?_⟩
  · rw [e 34 (by decide) (by decide), F.1.2.1, F.1.2.2]; exact r3 i hi
  · rw [e 37 (by decide) (by decide), e 38 (by decide) (by decide), e 39 (by decide) (by decide)]; exact r4 i hi
  · rw [e 42 (by decide) (by decide)]; exact r5 p hp
  · rw [e 40 (by decide) (by decide)]; exact r7.1 q hq
  · rw [e 41 (by decide) (by decide)]; exact r7.2.1 i hi
  · rw [e 41 (by decide) (by decide)]; exact r9 i hi hg
theorem HV_congr {c c' : Nat → Int32} {b P : Nat → Nat} {m : Nat} {S : Nat → Prop} (B : BJ b P m S) (e : ∀ i, S i → c' i = c i) (V : HV c b m) : HV c' b m := by
  intro q h0 hq z
  refine V q h0 hq ?_
  have a1 := e _ (B.1 q hq).1
  have a2 := e _ (B.1 ((q - 1) / 2) (by omega)).1
  unfold ah at z ⊢
  rw [a1, a2] at z
  exact z
/-- a situation comes by less: its cost falls, and it may rise -/
theorem RI_less {c : Nat → Int32} {b P : Nat → Nat} {m : Nat} {S : Nat → Prop} (B : BJ b P m S) (V : HV c b m) {i : Nat} {x : Int32} (hi : S i) (hx : x < c i) : RI (fu c i x) b m (P i) := by
  obtain ⟨p1, p2⟩ := B.2 i hi
  have inj : ∀ q, q < m → b q = i → q = P i := fun q hq e => by rw [← e]; exact (B.1 q hq).2.symm
  refine ⟨fun q h0 hq hne z => ?_, fun q h0 hq he h1 z => ?_⟩
  · have hbq : b q ≠ i := fun e => hne (inj q hq e)
    have := V q h0 hq
    unfold ah at this z
    rw [fu_o _ _ hbq] at z
    by_cases e : b ((q - 1) / 2) = i
    · rw [e, fu_s] at z
      rw [e] at this
      rcases z with z | z
      · exact this (Or.inl (Int32.lt_trans z hx))
      · exact this (Or.inl (by rw [z.1]; exact hx))
    · rw [fu_o _ _ e] at z
      exact this z
  · have hbq : b q ≠ i := fun e => by have := inj q hq e; omega
    have hbp : b ((P i - 1) / 2) ≠ i := fun e => by have := inj _ (by omega) e; omega
    have a1 := V q h0 hq
    rw [he, p2] at a1
    have a2 := V (P i) h1 p1
    rw [p2] at a2
    have := ah_tr a2 a1
    unfold ah at this z
    rw [fu_o _ _ hbq, fu_o _ _ hbp] at z
    exact this z
theorem c_reach77 {h : Hp} {N : Nat} {n f t i : Nat} {c : Nat → Int32} {x : Int32} {S : Nat → Prop} {b P : Nat → Nat} {m : Nat} (hN : 5000 ≤ N) (H : SHP h) (hi : i < n) (hn : n ≤ 1500) (hm : m ≤ 1500) (hS : ∀ j, S j → j < n) (hSi : S i) (hc : ∀ j, j < n → j ≠ i → hI h 37 j = c j) (K : HF h b P m S) (R : RI (fu c i x) b m (P i)) : ∃ h' b' P', f_X3_reach_77 N h 32 (nI f) (nI t) x (nI i) = some h' ∧ HF h' b' P' m S ∧ HV (fu c i x) b' m ∧ (∀ j, hI h' 37 j = if j = i then x else hI h 37 j) ∧ (∀ j, hI h' 38 j = if j = i then nI f else hI h 38 j) ∧ (∀ j, hI h' 39 j = if j = i then nI t else hI h 39 j) ∧ Fr (fun a j => (37 ≤ a ∧ a ≤ 40) ∨ (a = 41 ∧ S j)) h h' := by
  have row : ∀ (h : Hp) (v k : Nat) (y : Int32) (j : Nat), hI (sI h v k y) v j = if j = k then y else hI h v j := fun h v k y j => by
    rw [hI_sI]
    by_cases e : j = k <;> simp [e]
  unfold f_X3_reach_77
  rw [pp_32_5 H, bs, ll_37 H, if_inI (by omega) (by omega), lts, nI_clamp (by omega)]
  have F1 : Fr (fun a j => (37 ≤ a ∧ a ≤ 40) ∨ (a = 41 ∧ S j)) h (sI h 37 i x) := Fr_sI _ _ _ _ (Or.inl ⟨by decide, by decide⟩)
  have g1 : ∀ j, hI (sI h 37 i x) 37 j = if j = i then x else hI h 37 j := row h 37 i x
  have k1 : ∀ a, a ≠ 37 → hI (sI h 37 i x) a = hI h a := fun a ha => Fr_row (Fr_sI (P := fun a _ => a = 37) _ _ _ _ rfl) (fun _ => ha)
  generalize sI h 37 i x = h1 at F1 g1 k1 ⊢
  have H1 := Fr_SHP F1 H
  rw [pp_32_6 H1, bs, ll_38 H1, if_pos ⟨nI_pos' (by omega), by omega⟩, lts]
  have F2 : Fr (fun a j => (37 ≤ a ∧ a ≤ 40) ∨ (a = 41 ∧ S j)) h (sI h1 38 i (nI f)) := Fr_trans F1 (Fr_sI _ _ _ _ (Or.inl ⟨by decide, by decide⟩))
  have g2 : ∀ j, hI (sI h1 38 i (nI f)) 38 j = if j = i then nI f else hI h1 38 j := row h1 38 i (nI f)
  have k2 : ∀ a, a ≠ 38 → hI (sI h1 38 i (nI f)) a = hI h1 a := fun a ha => Fr_row (Fr_sI (P := fun a _ => a = 38) _ _ _ _ rfl) (fun _ => ha)
  generalize sI h1 38 i (nI f) = h2 at F2 g2 k2 ⊢
  have H2 := Fr_SHP F2 H
  rw [pp_32_7 H2, bs, ll_39 H2, if_pos ⟨nI_pos' (by omega), by omega⟩, lts]
  have F3 : Fr (fun a j => (37 ≤ a ∧ a ≤ 40) ∨ (a = 41 ∧ S j)) h (sI h2 39 i (nI t)) := Fr_trans F2 (Fr_sI _ _ _ _ (Or.inl ⟨by decide, by decide⟩))
  have g3 : ∀ j, hI (sI h2 39 i (nI t)) 39 j = if j = i then nI t else hI h2 39 j := row h2 39 i (nI t)
  have k3 : ∀ a, a ≠ 39 → hI (sI h2 39 i (nI t)) a = hI h2 a := fun a ha => Fr_row (Fr_sI (P := fun a _ => a = 39) _ _ _ _ rfl) (fun _ => ha)
  generalize sI h2 39 i (nI t) = h3 at F3 g3 k3 ⊢
  have H3 := Fr_SHP F3 H
  have e40 : hI h3 40 = hI h 40 := by rw [k3 40 (by decide), k2 40 (by decide), k1 40 (by decide)]
  have e41 : hI h3 41 = hI h 41 := by rw [k3 41 (by decide), k2 41 (by decide), k1 41 (by decide)]
  have K3 : HF h3 b P m S := ⟨fun q hq => by rw [e40]; exact K.1 q hq, fun j hj => by rw [e41]; exact K.2.1 j hj, K.2.2⟩
  rw [pp_32_9 H3, bs, ll_41 H3, if_pos ⟨nI_pos' (by omega), by omega⟩, e41, K.2.1 i hSi]
  have hp := (K.2.2.2 i hSi).1
  have e37 : ∀ j, hI h3 37 j = if j = i then x else hI h 37 j := fun j => by rw [k3 37 (by decide), k2 37 (by decide)]; exact g1 j
  obtain ⟨h', b', P', a1, a2, a3, a4⟩ := c_rise (N := N) (c := fu c i x) (by omega) hm (fun j hj => by have := hS j hj; omega) H3 hp (fun j hj => by
    rw [e37 j]
    by_cases e : j = i
    · subst e; rw [if_pos rfl, fu_s]
    · rw [if_neg e, fu_o _ _ e]; exact hc j (hS j hj) e) K3 R
  rw [a1, bs]
  have r : ∀ a, a ≠ 40 → a ≠ 41 → hI h' a = hI h3 a := fun a h1 h2 => Fr_row a4 (fun j z => by rcases z with z | z; exact h1 z; exact h2 z.1)
  refine ⟨h', b', P', rfl, a2, a3, fun j => by rw [r 37 (by decide) (by decide)]; exact e37 j, fun j => by rw [r 38 (by decide) (by decide), k3 38 (by decide), g2 j, k1 38 (by decide)], fun j => by rw [r 39 (by decide) (by decide), g3 j, k2 39 (by decide), k1 39 (by decide)], Fr_trans F3 (Fr_mono a4 (fun a j z => by rcases z with z | z; exact Or.inl (by omega); exact Or.inr z))⟩
theorem sl_le {sl hs : Nat → Nat} {n : Nat} (H : HI sl hs n) {p : Nat} (hp : p < 4096) : sl p ≤ n := H.2.1 p hp
theorem Sit_Fr {P : Nat → Nat → Prop} {h h' : Hp} {st : Nat → SA} {n : Nat} (F : Fr P h h') (h34 : ∀ j, ¬ P 34 j) (S : Sit h st n) : Sit h' st n := fun i hi => by rw [Fr_row F h34, F.1.2.1, F.1.2.2]; exact S i hi
theorem bj_lt {b P : Nat → Nat} {m n : Nat} (hb : ∀ q, q < m → b q < n ∧ P (b q) = q) : m ≤ n := by
  have cnt : ∀ (n : Nat) (f g : Nat → Nat), (∀ q, q < n + 1 → f q < n ∧ g (f q) = q) → False := by
    intro n
    induction n with
    | zero => intro f g hf; exact absurd (hf 0 (by omega)).1 (Nat.not_lt_zero _)
    | succ n ih =>
      intro f g hf
      refine ih (fun q => if f q = n then f (n + 1) else f q) (fun y => if y = f (n + 1) then g n else g y) (fun q hq => ?_)
      obtain ⟨a1, a2⟩ := hf q (by omega)
      obtain ⟨c1, c2⟩ := hf (n + 1) (by omega)
      by_cases e1 : f q = n
      · have : f (n + 1) ≠ n := fun z => by
          have z' : f (n + 1) = f q := z.trans e1.symm
          rw [z', a2] at c2
          omega
        show (if f q = n then f (n + 1) else f q) < n ∧ (if (if f q = n then f (n + 1) else f q) = f (n + 1) then g n else g (if f q = n then f (n + 1) else f q)) = q
        rw [if_pos e1, if_pos rfl]
        rw [e1] at a2
        exact ⟨by omega, a2⟩
      · have : f q ≠ f (n + 1) := fun z => by rw [z, c2] at a2; omega
        show (if f q = n then f (n + 1) else f q) < n ∧ (if (if f q = n then f (n + 1) else f q) = f (n + 1) then g n else g (if f q = n then f (n + 1) else f q)) = q
        rw [if_neg e1, if_neg this]
        exact ⟨by omega, a2⟩
  by_cases h : m ≤ n
  · exact h
  · exact (cnt n b P (fun q hq => hb q (by omega))).elim
theorem sI_r (h : Hp) (v k : Nat) (x : Int32) (j : Nat) : hI (sI h v k x) v j = if j = k then x else hI h v j := by
  rw [hI_sI]
  by_cases e : j = k <;> simp [e]
theorem sI_a (h : Hp) (v k : Nat) (x : Int32) {a : Nat} (ha : a ≠ v) : hI (sI h v k x) a = hI h a := funext fun j => by rw [hI_sI, if_neg (fun z => ha z.1)]
theorem sJ_r (h : Hp) (v k : Nat) (x : Int64) (j : Nat) : hJ (sJ h v k x) v j = if j = k then x else hJ h v j := by
  rw [hJ_sJ]
  by_cases e : j = k <;> simp [e]
theorem sJ_a (h : Hp) (v k : Nat) (x : Int64) {a : Nat} (ha : a ≠ v) : hJ (sJ h v k x) a = hJ h a := funext fun j => by rw [hJ_sJ, if_neg (fun z => ha z.1)]
theorem c_pkW0 {h : Hp} {s N : Nat} {β : SA} (A : Ac h s β) (D : Dm β) (W : Wtr β) (hN : 20 ≤ N) : f_X5_packedWater N h s (0 : Int32) = some (lN (pkW β 0)) := c_pkW (f := 0) A D W hN (by decide)
theorem c_pkW4 {h : Hp} {s N : Nat} {β : SA} (A : Ac h s β) (D : Dm β) (W : Wtr β) (hN : 20 ≤ N) : f_X5_packedWater N h s (4 : Int32) = some (lN (pkW β 4)) := c_pkW (f := 4) A D W hN (by decide)
/-- a situation is written behind all -/
theorem c_add {h : Hp} {N n m p : Nat} {γ β : SA} (hN : 5000 ≤ N) (H : SHP h) (A : Ac h 15 γ) (hγ : Ok γ) (ep : pkP γ = pkP β) (ew : ∀ f, pkW γ f = pkW β f) (hlt : n < 1500) (hm : m < 1500) (hp : p < 4096) (r1 : hI h 32 12 = nI n) (r6 : hI h 32 13 = nI m) : ∃ h7, f_X3_addTrial N h 32 (nI p) = some (nI n, h7) ∧ SHP h7 ∧ (hI h7 32 12 = nI (n + 1) ∧ hI h7 32 13 = nI (m + 1) ∧ hI h7 32 14 = hI h 32 14) ∧ ((∀ j, hI h7 34 j = if j = n then nI (pkP β) else hI h 34 j) ∧ (∀ j, hI h7 42 j = if j = p then nI (n + 1) else hI h 42 j) ∧ (∀ j, hI h7 40 j = if j = m then nI n else hI h 40 j) ∧ (∀ j, hI h7 41 j = if j = n then nI m else hI h 41 j)) ∧ ((∀ j, hJ h7 35 j = if j = n then lN (pkW β 0) else hJ h 35 j) ∧ ∀ j, hJ h7 36 j = if j = n then lN (pkW β 4) else hJ h 36 j) ∧ (∀ a, a ≠ 32 → a ≠ 34 → a ≠ 40 → a ≠ 41 → a ≠ 42 → hI h7 a = hI h a) ∧ Fq PRc h h7 := by
  unfold f_X3_addTrial
  rw [r1, lts, nI_1]
  have o1 : ∀ a, a ≠ 32 → hI (sI h 32 12 (nI (n + 1))) a = hI h a := fun a ha => sI_a _ _ _ _ ha
  have w1 : ∀ j, hI (sI h 32 12 (nI (n + 1))) 32 j = if j = 12 then nI (n + 1) else hI h 32 j := sI_r _ _ _ _
  have F1 : Fq PRc h (sI h 32 12 (nI (n + 1))) := Fq_sI _ _ _ _ (Or.inl ⟨rfl, Or.inl rfl⟩)
  have J1 : hJ (sI h 32 12 (nI (n + 1))) = hJ h := hJ_sI _ _ _ _
  generalize sI h 32 12 (nI (n + 1)) = h1 at o1 w1 F1 J1 ⊢
  have H1 := Fq_SHP F1 H
  rw [pp_32_10 H1, bs, ll_42 H1, if_inI hp (by omega), lts, nI_clamp (by omega), w1 12, if_pos rfl]
  have o2 : ∀ a, a ≠ 42 → hI (sI h1 42 p (nI (n + 1))) a = hI h1 a := fun a ha => sI_a _ _ _ _ ha
  have w2 : ∀ j, hI (sI h1 42 p (nI (n + 1))) 42 j = if j = p then nI (n + 1) else hI h1 42 j := sI_r _ _ _ _
  have F2 : Fq PRc h (sI h1 42 p (nI (n + 1))) := Fq_trans F1 (Fq_sI _ _ _ _ (Or.inr ⟨by decide, by decide⟩))
  have J2 : hJ (sI h1 42 p (nI (n + 1))) = hJ h := (hJ_sI _ _ _ _).trans J1
  generalize sI h1 42 p (nI (n + 1)) = h2 at o2 w2 F2 J2 ⊢
  have H2 := Fq_SHP F2 H
  have A2 : Ac h2 15 γ := Fq_Ac F2 (fun x j h1 h2 z => by unfold PRc at z; omega) A
  rw [pp_32_2 H2, bs, pp_32_0 H2, bs, c_pkP A2 hγ.1 hγ.2.1 (by omega), bs, ll_34 H2, if_inI hlt (by omega), lts, nI_clamp (by omega), ep]
  have o3 : ∀ a, a ≠ 34 → hI (sI h2 34 n (nI (pkP β))) a = hI h2 a := fun a ha => sI_a _ _ _ _ ha
  have w3 : ∀ j, hI (sI h2 34 n (nI (pkP β))) 34 j = if j = n then nI (pkP β) else hI h2 34 j := sI_r _ _ _ _
  have F3 : Fq PRc h (sI h2 34 n (nI (pkP β))) := Fq_trans F2 (Fq_sI _ _ _ _ (Or.inr ⟨by decide, by decide⟩))
  have J3 : hJ (sI h2 34 n (nI (pkP β))) = hJ h := (hJ_sI _ _ _ _).trans J2
  generalize sI h2 34 n (nI (pkP β)) = h3 at o3 w3 F3 J3 ⊢
  have H3 := Fq_SHP F3 H
  have A3 : Ac h3 15 γ := Fq_Ac F3 (fun x j h1 h2 z => by unfold PRc at z; omega) A
  rw [pp_32_3 H3, bs, pp_32_0 H3, bs, c_pkW0 A3 hγ.1 hγ.2.2.2.2 (by omega), bs, ll_35 H3, if_pos ⟨nI_pos' (by omega), hlt⟩, lts, ew]
  have I4 : hI (sJ h3 35 n (lN (pkW β 0))) = hI h3 := hI_sJ _ _ _ _
  have w4 : ∀ j, hJ (sJ h3 35 n (lN (pkW β 0))) 35 j = if j = n then lN (pkW β 0) else hJ h3 35 j := sJ_r _ _ _ _
  have o4 : ∀ a, a ≠ 35 → hJ (sJ h3 35 n (lN (pkW β 0))) a = hJ h3 a := fun a ha => sJ_a _ _ _ _ ha
  have F4 : Fq PRc h (sJ h3 35 n (lN (pkW β 0))) := Fq_trans F3 (Fq_sJ _ _ _ _)
  generalize sJ h3 35 n (lN (pkW β 0)) = h4 at I4 w4 o4 F4 ⊢
  have H4 := Fq_SHP F4 H
  have A4 : Ac h4 15 γ := Fq_Ac F4 (fun x j h1 h2 z => by unfold PRc at z; omega) A
  rw [pp_32_4 H4, bs, pp_32_0 H4, bs, c_pkW4 A4 hγ.1 hγ.2.2.2.2 (by omega), bs, ll_36 H4, if_pos ⟨nI_pos' (by omega), hlt⟩, lts, ew]
  have I5 : hI (sJ h4 36 n (lN (pkW β 4))) = hI h4 := hI_sJ _ _ _ _
  have w5 : ∀ j, hJ (sJ h4 36 n (lN (pkW β 4))) 36 j = if j = n then lN (pkW β 4) else hJ h4 36 j := sJ_r _ _ _ _
  have o5 : ∀ a, a ≠ 36 → hJ (sJ h4 36 n (lN (pkW β 4))) a = hJ h4 a := fun a ha => sJ_a _ _ _ _ ha
  have F5 : Fq PRc h (sJ h4 36 n (lN (pkW β 4))) := Fq_trans F4 (Fq_sJ _ _ _ _)
  generalize sJ h4 36 n (lN (pkW β 4)) = h5 at I5 w5 o5 F5 ⊢
  have H5 := Fq_SHP F5 H
  have e13 : hI h5 32 13 = nI m := by rw [I5, I4, o3 32 (by decide), o2 32 (by decide), w1 13, if_neg (by decide)]; exact r6
  rw [e13, c_put H5 hm hlt, bs, lts]
  have o6 : ∀ a, a ≠ 40 → a ≠ 41 → hI (sI (sI h5 40 m (nI n)) 41 n (nI m)) a = hI h5 a := fun a h1 h2 => by rw [sI_a _ _ _ _ h2, sI_a _ _ _ _ h1]
  have w6 : ∀ j, hI (sI (sI h5 40 m (nI n)) 41 n (nI m)) 41 j = if j = n then nI m else hI h5 41 j := fun j => by rw [sI_r, sI_a _ _ _ _ (by decide)]
  have w6' : ∀ j, hI (sI (sI h5 40 m (nI n)) 41 n (nI m)) 40 j = if j = m then nI n else hI h5 40 j := fun j => by rw [sI_a _ _ _ _ (by decide), sI_r]
  have F6 : Fq PRc h (sI (sI h5 40 m (nI n)) 41 n (nI m)) := Fq_trans F5 (Fq_trans (Fq_sI _ _ _ _ (Or.inr ⟨by decide, by decide⟩)) (Fq_sI _ _ _ _ (Or.inr ⟨by decide, by decide⟩)))
  have J6 : hJ (sI (sI h5 40 m (nI n)) 41 n (nI m)) = hJ h5 := (hJ_sI _ _ _ _).trans (hJ_sI _ _ _ _)
  generalize sI (sI h5 40 m (nI n)) 41 n (nI m) = h6 at o6 w6 w6' F6 J6 ⊢
  rw [o6 32 (by decide) (by decide), e13, nI_1]
  have o7 : ∀ a, a ≠ 32 → hI (sI h6 32 13 (nI (m + 1))) a = hI h6 a := fun a ha => sI_a _ _ _ _ ha
  have w7 : ∀ j, hI (sI h6 32 13 (nI (m + 1))) 32 j = if j = 13 then nI (m + 1) else hI h6 32 j := sI_r _ _ _ _
  have F7 : Fq PRc h (sI h6 32 13 (nI (m + 1))) := Fq_trans F6 (Fq_sI _ _ _ _ (Or.inl ⟨rfl, Or.inr (Or.inl rfl)⟩))
  have J7 : hJ (sI h6 32 13 (nI (m + 1))) = hJ h5 := (hJ_sI _ _ _ _).trans J6
  generalize sI h6 32 13 (nI (m + 1)) = h7 at o7 w7 F7 J7 ⊢
  have t32 : ∀ j, j ≠ 13 → hI h7 32 j = hI h1 32 j := fun j hj => by rw [w7 j, if_neg hj, o6 32 (by decide) (by decide), I5, I4, o3 32 (by decide), o2 32 (by decide)]
  refine ⟨h7, rfl, Fq_SHP F7 H, ⟨?_, ?_, ?_⟩, ⟨fun j => ?_, fun j => ?_, fun j => ?_, fun j => ?_⟩, ⟨fun j => ?_, fun j => ?_⟩, fun a a1 a2 a3 a4 a5 => ?_, F7⟩
  · rw [t32 12 (by decide), w1 12, if_pos rfl]
  · rw [w7 13, if_pos rfl]
  · rw [t32 14 (by decide), w1 14, if_neg (by decide)]
  · rw [o7 34 (by decide), o6 34 (by decide) (by decide), I5, I4, w3, o2 34 (by decide), o1 34 (by decide)]
  · rw [o7 42 (by decide), o6 42 (by decide) (by decide), I5, I4, o3 42 (by decide), w2, o1 42 (by decide)]
  · rw [o7 40 (by decide), w6', I5, I4, o3 40 (by decide), o2 40 (by decide), o1 40 (by decide)]
  · rw [o7 41 (by decide), w6, I5, I4, o3 41 (by decide), o2 41 (by decide), o1 41 (by decide)]
  · rw [J7, o5 35 (by decide), w4, J3]
  · rw [J7, w5, o4 36 (by decide), J3]
  · rw [o7 a a1, o6 a a3 a4, I5, I4, o3 a a2, o2 a a5, o1 a a1]
theorem c_reach_new {h : Hp} {N : Nat} {α β : SA} {X : XS} {s x p d : Nat} {c : Int32} {γ : SA} (hN : 5000 ≤ N) (H : SHP h) (A : Ac h 15 γ) (hγ : Ok γ) (ep : pkP γ = pkP β) (ew : ∀ f, pkW γ f = pkW β f) {t : Nat} (ht : t = if xn X = 0 then 0 else tc α x) (hlt : xn X < 1500) (hp : p < 4096) {sl : Nat → Nat} (hd : d < 4096) (hpe : (hsC β + d) % 4096 = p) (hz : ∀ e, e < d → sl ((hsC β + e) % 4096) ≠ 0) (h0 : sl p = 0) (r1 : hI h 32 12 = nI (xn X)) (r2 : hI h 32 14 = b2i (xo X)) (r3 : Sit h (xs X) (xn X)) (r4 : ∀ i, i < xn X → hI h 37 i = xc X i ∧ hI h 38 i = nI (xf X i) ∧ hI h 39 i = nI (tcd α X i)) (r5 : ∀ p, p < 4096 → hI h 42 p = nI (sl p)) (r5' : HI sl (fun i => hsC (xs X i)) (xn X)) {b P : Nat → Nat} {m : Nat} (r6 : hI h 32 13 = nI m) (r7 : HF h b P m (fun i => i < xn X ∧ xg X i = false)) (r8 : HV (xc X) b m) (r9 : ∀ i, i < xn X → xg X i = true → hI h 41 i = -1) : ∃ h7 h', f_X3_addTrial N h 32 (nI p) = some (nI (xn X), h7) ∧ f_X3_reach_77 N h7 32 (nI s) (nI t) c (nI (xn X)) = some h' ∧ RpC h' α (xn X + 1, fu (xs X) (xn X) β, fu (xc X) (xn X) c, fu (xf X) (xn X) s, fu (xb X) (xn X) x, fu (xg X) (xn X) false, xo X) ∧ Fq PRc h h' := by
  have bj := r7.2.2
  have hmn : m ≤ xn X := bj_lt (fun q hq => ⟨(bj.1 q hq).1.1, (bj.1 q hq).2⟩)
  have hm : m < 1500 := by omega
  obtain ⟨h7, q7, H7, ⟨a12, a13, a14⟩, ⟨a34, a42, a40, a41⟩, ⟨a35, a36⟩, ao, F7⟩ := c_add (N := N) (n := xn X) (m := m) (p := p) (β := β) hN H A hγ ep ew hlt hm hp r1 r6
  have bj7 : BJ (fu b m (xn X)) (fu P (xn X) m) (m + 1) (fun i => i < xn X + 1 ∧ fu (xg X) (xn X) false i = false) := by
    refine ⟨fun q hq => ?_, fun i hi => ?_⟩
    · by_cases e : q = m
      · subst e
        rw [fu_s, fu_s]
        exact ⟨⟨Nat.lt_succ_self _, fu_s _ _ _⟩, rfl⟩
      · obtain ⟨⟨b1, b2⟩, b3⟩ := bj.1 q (by omega)
        rw [fu_o _ _ e, fu_o _ _ (Nat.ne_of_lt b1)]
        exact ⟨⟨Nat.lt_succ_of_lt b1, (fu_o _ _ (Nat.ne_of_lt b1)).trans b2⟩, b3⟩
    · by_cases e : i = xn X
      · subst e
        rw [fu_s, fu_s]
        exact ⟨Nat.lt_succ_self _, rfl⟩
      · have hi1 : i < xn X + 1 := hi.1
        have hi2 : xg X i = false := (fu_o (xg X) false e).symm.trans hi.2
        obtain ⟨p1, p2⟩ := bj.2 i ⟨by omega, hi2⟩
        rw [fu_o _ _ e, fu_o _ _ (Nat.ne_of_lt p1)]
        exact ⟨by omega, p2⟩
  have K7 : HF h7 (fu b m (xn X)) (fu P (xn X) m) (m + 1) (fun i => i < xn X + 1 ∧ fu (xg X) (xn X) false i = false) := by
    refine ⟨fun q hq => ?_, fun i hi => ?_, bj7⟩
    · rw [a40]
      by_cases e : q = m
      · subst e; rw [if_pos rfl, fu_s]
      · rw [if_neg e, fu_o _ _ e]
        exact r7.1 q (by omega)
    · rw [a41]
      by_cases e : i = xn X
      · subst e; rw [if_pos rfl, fu_s]
      · have hi1 : i < xn X + 1 := hi.1
        have hi2 : xg X i = false := (fu_o (xg X) false e).symm.trans hi.2
        rw [if_neg e, fu_o _ _ e]
        exact r7.2.1 i ⟨by omega, hi2⟩
  have RI7 : RI (fu (xc X) (xn X) c) (fu b m (xn X)) (m + 1) (fu P (xn X) m (xn X)) := by
    rw [fu_s]
    refine ⟨fun q h0 hq hne z => ?_, fun q h0 hq he _ => by omega⟩
    rw [fu_o _ _ hne, fu_o _ _ (by omega)] at z
    refine r8 q h0 (by omega) ?_
    have b1 := (bj.1 q (by omega)).1.1
    have b2 := (bj.1 ((q - 1) / 2) (by omega)).1.1
    unfold ah at z ⊢
    rw [fu_o _ _ (Nat.ne_of_lt b1), fu_o _ _ (Nat.ne_of_lt b2)] at z
    exact z
  obtain ⟨h8, b', P', c1, c2, c3, c4, c5, c6, c7⟩ := c_reach77 (N := N) (n := xn X + 1) (i := xn X) (f := s) (t := t) (x := c) (c := xc X) (S := fun i => i < xn X + 1 ∧ fu (xg X) (xn X) false i = false) hN H7 (by omega) (by omega) (by omega) (fun j hj => hj.1) ⟨Nat.lt_succ_self _, fu_s _ _ _⟩ (fun j hj hne => by rw [ao 37 (by decide) (by decide) (by decide) (by decide) (by decide)]; exact (r4 j (by omega)).1) K7 RI7
  have z8 : ∀ a, a ≠ 37 → a ≠ 38 → a ≠ 39 → a ≠ 40 → a ≠ 41 → hI h8 a = hI h7 a := fun a a1 a2 a3 a4 a5 => Fr_row c7 (fun j z => by omega)
  refine ⟨h7, h8, q7, c1, ?_, Fq_trans F7 (Fq_mono (Fr_q c7) (fun a j z => by unfold PRc; omega))⟩
  refine ⟨?_, ?_, fun i hi => ?_, fun i hi => ?_, ⟨fu sl p (xn X + 1), fun q hq => ?_, ?_⟩, ⟨b', P', m + 1, ?_, by omega, c2, c3⟩, fun i hi hg => ?_⟩
  · rw [z8 32 (by decide) (by decide) (by decide) (by decide) (by decide)]; exact a12
  · rw [z8 32 (by decide) (by decide) (by decide) (by decide) (by decide), a14]; exact r2
  · have hi' : i < xn X + 1 := hi
    show hI h8 34 i = nI (pkP (fu (xs X) (xn X) β i)) ∧ hJ h8 35 i = lN (pkW (fu (xs X) (xn X) β i) 0) ∧ hJ h8 36 i = lN (pkW (fu (xs X) (xn X) β i) 4)
    rw [z8 34 (by decide) (by decide) (by decide) (by decide) (by decide), c7.1.2.1, c7.1.2.2, a34, a35, a36]
    by_cases e : i = xn X
    · subst e
      rw [fu_s, if_pos rfl, if_pos rfl, if_pos rfl]
      exact ⟨rfl, rfl, rfl⟩
    · rw [fu_o _ _ e, if_neg e, if_neg e, if_neg e]
      exact r3 i (by omega)
  · have hi' : i < xn X + 1 := hi
    show hI h8 37 i = fu (xc X) (xn X) c i ∧ hI h8 38 i = nI (fu (xf X) (xn X) s i) ∧ hI h8 39 i = nI (if i = 0 then 0 else tc α (fu (xb X) (xn X) x i))
    rw [c4, c5, c6]
    by_cases e : i = xn X
    · subst e
      rw [if_pos rfl, if_pos rfl, if_pos rfl, fu_s, fu_s, fu_s]
      exact ⟨rfl, rfl, by rw [ht]⟩
    · rw [if_neg e, if_neg e, if_neg e, fu_o _ _ e, fu_o _ _ e, fu_o _ _ e, ao 37 (by decide) (by decide) (by decide) (by decide) (by decide), ao 38 (by decide) (by decide) (by decide) (by decide) (by decide), ao 39 (by decide) (by decide) (by decide) (by decide) (by decide)]
      exact r4 i (by omega)
  · rw [z8 42 (by decide) (by decide) (by decide) (by decide) (by decide), a42]
    by_cases e : q = p
    · subst e; rw [fu_s, if_pos rfl]
    · rw [fu_o _ _ e, if_neg e]
      exact r5 q hq
  · have := HI_add r5' hd hz (by rw [hpe]; exact h0)
    rw [hpe] at this
    refine HI_hs this (fun i hi => ?_)
    show hsC (fu (xs X) (xn X) β i) = _
    by_cases e : i = xn X
    · subst e; rw [fu_s, fu_s]
    · rw [fu_o _ _ e, fu_o _ _ e]
  · rw [z8 32 (by decide) (by decide) (by decide) (by decide) (by decide)]; exact a13
  · have hi' : i < xn X + 1 := hi
    have hg' : fu (xg X) (xn X) false i = true := hg
    by_cases e : i = xn X
    · subst e; rw [fu_s] at hg'; cases hg'
    · rw [fu_o _ _ e] at hg'
      rw [c7.2.2.2 41 i (fun z => by
        rcases z with z | z
        · omega
        · have := (fu_o (xg X) false e).symm.trans z.2.2
          rw [hg'] at this
          cases this), a41, if_neg e]
      exact r9 i (by omega) hg'
/-- the trial's situation comes, or is had with less -/
theorem c_reach {h : Hp} {N : Nat} {α β : SA} {X : XS} {s x : Nat} {c : Int32} {γ : SA} (hN : 5000 ≤ N) (H : SHP h) (A : Ac h 15 γ) (hγ : Ok γ) (hβ : Ok β ∧ Irr α β) (e5 : β 5 = γ 5) (e1 : β 1 = γ 1) (e0 : ∀ j, j = 0 ∨ j = 1 → β 0 j = γ 0 j) (hX : xn X ≤ 1500) (hst : ∀ i, i < xn X → Ok (xs X i) ∧ Irr α (xs X i)) (hds : ∀ i j, i < xn X → j < xn X → sameB (xs X i) (xs X j) → i = j) {t : Nat} (ht : t = if xn X = 0 then 0 else tc α x) (h0i : ∀ j, j < xn X → xg X j = false → j ≠ 0) (R : RpC h α X) : ∃ h', f_X3_reach N h 32 (nI s) (nI t) c = some h' ∧ RpC h' α (rch X β s x c) ∧ Fq PRc h h' := by
  obtain ⟨r1, r2, r3, r4, ⟨sl, r5, r5'⟩, ⟨b, P, m, r6, r6', r7, r8⟩, r9⟩ := R
  obtain ⟨d, d1, d2, d3⟩ := prb r5' hX (fun i => sameB β (xs X i)) (hsC_e β).2
  have hsl := c_slot (N := N) H hN A hX hst hγ hβ e5 e1 e0 r3 (fun p hp => ⟨r5 p hp, sl_le r5' hp⟩) d1 d2 d3
  have hp : (hsC β + d) % 4096 < 4096 := Nat.mod_lt _ (by decide)
  generalize hpe : (hsC β + d) % 4096 = p at hsl hp d3
  have hle := sl_le r5' hp
  have hash_eq : ∀ i, i < xn X → sameB β (xs X i) → hsC (xs X i) = hsC β := fun i hi hsm => by
    obtain ⟨a1, a2, a3⟩ := (pk_same hβ.2 (hst i hi).2 hβ.1 (hst i hi).1).mp hsm
    unfold hsC
    rw [a1, a2, a3]
  unfold f_X3_reach
  rw [hsl, bs, pp_32_10 H, bs, ll_42 H, if_inI hp (by omega), lts, nI_clamp (by omega), r5 p hp]
  by_cases h0 : sl p = 0
  · have none : fnd (xs X) β (xn X) = none := by
      cases e : fnd (xs X) β (xn X) with
      | none => rfl
      | some i =>
        obtain ⟨i1, i2⟩ := fnd_some _ e
        exact absurd i2 (prb_0 r5' d2 (by rw [hpe]; exact h0) hash_eq i i1)
    rw [h0, show nI 0 - 1 = -1 from rfl, if_neg (by decide), r1]
    by_cases h15 : xn X = 1500
    · rw [rch_c3 none h15, if_neg (show ¬ nI (xn X) < 1500 by rw [h15]; decide), lts]
      have F : Fr (fun a j => a = 32 ∧ j = 14) h (sI h 32 14 1) := Fr_sI _ _ _ _ ⟨rfl, rfl⟩
      refine ⟨_, rfl, ?_, Fq_sI _ _ _ _ (Or.inl ⟨rfl, Or.inr (Or.inr rfl)⟩)⟩
      have e : ∀ a, a ≠ 32 → hI (sI h 32 14 1) a = hI h a := fun a ha => Fr_row F (fun j z => ha z.1)
      refine ⟨r1, by rw [hI_sI, if_pos ⟨rfl, rfl⟩]; rfl, r3, fun i hi => by rw [e 37 (by decide), e 38 (by decide), e 39 (by decide)]; exact r4 i hi, ⟨sl, fun p hp => by rw [e 42 (by decide)]; exact r5 p hp, r5'⟩, ⟨b, P, m, r6, r6', ⟨fun q hq => by rw [e 40 (by decide)]; exact r7.1 q hq, fun i hi => by rw [e 41 (by decide)]; exact r7.2.1 i hi, r7.2.2⟩, r8⟩, fun i hi hg => by rw [e 41 (by decide)]; exact r9 i hi hg⟩
    · have hlt : xn X < 1500 := by omega
      have ep : pkP γ = pkP β := by unfold pkP pv; rw [bgs_of (e0 1 (by simp)), e5]
      have ew : ∀ f, pkW γ f = pkW β f := fun f => by unfold pkW wl4 wv; rw [lvl_of (e0 0 (by simp)), e1]
      obtain ⟨h7, h', q7, q8, R8, F8⟩ := c_reach_new (N := N) (α := α) (β := β) (X := X) (s := s) (x := x) (c := c) (t := t) (sl := sl) hN H A hγ ep ew ht hlt hp d1 hpe (fun e he => (d2 e he).1) h0 r1 r2 r3 r4 r5 r5' r6 r7 r8 r9
      rw [rch_c4 none h15, if_pos (show nI (xn X) < 1500 from nI_lt (b := 1500) hlt (by decide))]
      unfold f_X3_reach_38
      rw [if_neg (by decide), q7, b2s, q8]
      exact ⟨h', rfl, R8, F8⟩
  · have hsm := d3.resolve_left h0
    have hi : sl p - 1 < xn X := by omega
    have some_ : fnd (xs X) β (xn X) = some (sl p - 1) := by
      cases e : fnd (xs X) β (xn X) with
      | none => exact absurd hsm (fnd_none _ e _ hi)
      | some j =>
        obtain ⟨j1, j2⟩ := fnd_some _ e
        have bj := sameB_symm hβ.2 (hst j j1).2 j2
        have : sameB (xs X j) (xs X (sl p - 1)) := ⟨fun b hb => (bj.1 b hb).trans (hsm.1 b (by rw [Irr_b hβ.2]; rw [Irr_b (hst j j1).2] at hb; exact hb)), fun l hl => (bj.2 l hl).trans (hsm.2 l (by rw [Irr_l hβ.2]; rw [Irr_l (hst j j1).2] at hl; exact hl))⟩
        rw [hds j _ j1 hi this]
    rw [show nI (sl p) - 1 = nI (sl p - 1) by rw [n_1, pk_sub (by omega)]]
    have keep : RpC h α X := ⟨r1, r2, r3, r4, ⟨sl, r5, r5'⟩, ⟨b, P, m, r6, r6', r7, r8⟩, r9⟩
    generalize sl p - 1 = i at hi some_ hsm ⊢
    rw [if_pos (nI_pos' (by omega))]
    unfold f_X3_reach_38
    rw [if_pos (nI_pos' (by omega)), pp_32_9 H, bs, ll_41 H, if_inI (by omega) (by omega), nI_clamp (by omega)]
    by_cases hg : xg X i = true
    · rw [r9 i hi hg, if_pos rfl, rch_c1 some_ (Or.inl hg)]
      exact ⟨h, rfl, keep, Fq_refl h⟩
    · have hgf : xg X i = false := by simpa using hg
      have e41 : hI h 41 i = nI (P i) := r7.2.1 i ⟨hi, hgf⟩
      have hPi := (r7.2.2.2 i ⟨hi, hgf⟩).1
      rw [e41, if_neg (fun z => absurd (nI_pos' (n := P i) (by omega)) (by rw [z]; decide)), pp_32_5 H, bs, ll_37 H, if_pos ⟨nI_pos' (by omega), by omega⟩, (r4 i hi).1]
      by_cases hc : c < xc X i
      · rw [if_pos hc, rch_c2 some_ (fun z => by
          rcases z with z | z
          · exact hg z
          · exact Int32.not_le.mpr hc z)]
        obtain ⟨h8, b', P', a1, a2, a3, a4, a5, a6, a7⟩ := c_reach77 (N := N) (n := xn X) (i := i) (f := s) (t := t) (x := c) (c := xc X) (S := fun i => i < xn X ∧ xg X i = false) hN H hi hX r6' (fun j hj => hj.1) ⟨hi, hgf⟩ (fun j hj _ => (r4 j hj).1) r7 (RI_less r7.2.2 r8 ⟨hi, hgf⟩ hc)
        rw [a1]
        have z8 : ∀ a, a ≠ 37 → a ≠ 38 → a ≠ 39 → a ≠ 40 → a ≠ 41 → hI h8 a = hI h a := fun a a1 a2 a3 a4 a5 => Fr_row a7 (fun j z => by omega)
        refine ⟨h8, rfl, ?_, Fq_mono (Fr_q a7) (fun a j z => by unfold PRc; omega)⟩
        refine ⟨?_, ?_, Sit_Fr a7 (fun j z => by omega) r3, fun j hj => ?_, ⟨sl, fun q hq => ?_, r5'⟩, ⟨b', P', m, ?_, r6', a2, a3⟩, fun j hj hgj => ?_⟩
        · rw [z8 32 (by decide) (by decide) (by decide) (by decide) (by decide)]; exact r1
        · rw [z8 32 (by decide) (by decide) (by decide) (by decide) (by decide)]; exact r2
        · show hI h8 37 j = fu (xc X) i c j ∧ hI h8 38 j = nI (fu (xf X) i s j) ∧ hI h8 39 j = nI (if j = 0 then 0 else tc α (fu (xb X) i x j))
          rw [a4, a5, a6]
          by_cases e : j = i
          · subst e
            rw [if_pos rfl, if_pos rfl, if_pos rfl, fu_s, fu_s, fu_s, if_neg (h0i j hi hgf)]
            exact ⟨rfl, rfl, by rw [ht, if_neg (by omega)]⟩
          · rw [if_neg e, if_neg e, if_neg e, fu_o _ _ e, fu_o _ _ e, fu_o _ _ e]
            exact r4 j hj
        · rw [z8 42 (by decide) (by decide) (by decide) (by decide) (by decide)]; exact r5 q hq
        · rw [z8 32 (by decide) (by decide) (by decide) (by decide) (by decide)]; exact r6
        · have hgj' : xg X j = true := hgj
          rw [a7.2.2.2 41 j (fun z => by
            rcases z with z | z
            · omega
            · have := z.2.2
              rw [hgj'] at this
              cases this)]
          exact r9 j hj hgj'
      · rw [if_neg hc, rch_c1 some_ (Or.inr (Int32.not_lt.mp hc))]
        exact ⟨h, rfl, keep, Fq_refl h⟩
