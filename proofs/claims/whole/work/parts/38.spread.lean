/-! ===== the class's search: tips spread, situations loaded, ends noted ===== -/
def PSp : Nat → Nat → Prop := fun a j => PRc a j ∨ (15 ≤ a ∧ a ≤ 26)
theorem Ac_ext {h : Hp} {s : Nat} {α β : SA} (A : Ac h s α) (e : ∀ k i, k ≤ 10 → i < ln k → α k i = β k i) : Ac h s β := ⟨A.1, fun k i hk hi => (A.2 k i hk hi).trans (e k i hk hi)⟩
theorem Irr_tc {α β : SA} (I : Irr α β) (x : Nat) : tc β x = tc α x := by
  unfold tc tk td tu tdi tB
  rw [Irr_b I]
theorem RpC_PS {h h' : Hp} {α : SA} {X : XS} (F : Fr (PS 15) h h') (R : RpC h α X) : RpC h' α X := RpC_of F (fun j _ z => by have := z.2; omega) (fun a j h1 h2 z => by have := z.2; omega) R
theorem Rc_q77 {N : Nat} {h : Hp} {v : Option Nat} {rl : RLT} (R : Rc N h v rl) : ∀ q, v = some q → 77 ≤ q := by
  intro q e
  subst e
  exact R.1.2.2.2.2.2
theorem Fq_Rc {N : Nat} {h h' : Hp} {v : Option Nat} {rl : RLT} {P : Nat → Nat → Prop} (F : Fq P h h') (hp : ∀ a j, P a j → a < 77) (R : Rc N h v rl) : Rc N h' v rl := Rc_Fq F (fun q j e z => by have := hp _ _ z; have := Rc_q77 R q e; omega) R
theorem c_spread_l {N : Nat} {α : SA} {rl : RLT} {m : Bool} {β : SA} {s : Nat} {G : List Nat} (hN : 5000 ≤ N) (hs : s ∈ G) (h0G : 0 ∈ G) (Oβ : Ok β) (Iβ : Irr α β) : ∀ (l : List Nat) (k f : Nat) (h : Hp) (X : XS), l.length < f → k + l.length ≤ 16 → SHP h → Ac h 15 β → XI α rl X G → xs X s = β → RpC h α X → (∀ x, x ∈ l → x ∈ TL β rl) → (∀ i, i < l.length → hI h 33 (k + i) = nI (tc β (l.getD i 0))) → ∃ h', f_X3_spread_22 N f h 32 (nI s) (b2i m) (nI (k + l.length)) (nI k) = some h' ∧ RpC h' α (spr m β s l X) ∧ Ac h' 15 β ∧ Fq PSp h h'
  | [], k, f, h, X, hf, hk, H, A, I, hX, R, hl, hr => by
    obtain ⟨f, rfl⟩ : ∃ k, f = k + 1 := ⟨f - 1, by simp at hf; omega⟩
    rw [f_X3_spread_22, List.length_nil, Nat.add_zero, if_pos (Int32.le_refl _)]
    exact ⟨h, rfl, R, A, Fq_refl h⟩
  | x :: l, k, f, h, X, hf, hk, H, A, I, hX, R, hl, hr => by
    rw [List.length_cons] at hf hk
    obtain ⟨f, rfl⟩ : ∃ k, f = k + 1 := ⟨f - 1, by omega⟩
    rw [f_X3_spread_22, List.length_cons, if_neg (nI_ge (by omega) (by omega)), R.2.1, spr]
    by_cases ho : xo X = true
    · rw [if_pos ho, if_neg (by rw [ho]; decide)]
      exact ⟨h, rfl, R, A, Fq_refl h⟩
    · have hof : xo X = false := by simpa using ho
      have hx : x ∈ TL β rl := hl x (by simp)
      have D := Oβ.1
      have h6 := D.2.2.2.2.1
      have h8 := D.2.2.2.1
      have hk' := tk_lt (TL_mem hx).2
      have hd := td_le β x
      have hu := tu_le β x
      have e0 : hI h 33 k = nI (tc β x) := by have := hr 0 (by simp); rw [Nat.add_zero] at this; exact this
      have sl := I.2.2.2.2.1 s hs
      rw [if_neg ho, if_pos (by rw [hof]; rfl), pp_32_1 H, bs, ll_33 H, if_inI (by omega) (by omega), lts, nI_clamp (by omega), e0]
      have go : f_X3_spread_88 N (f_X3_spread_22 N f) h 32 (nI s) (b2i m) (nI (k + (l.length + 1))) (nI k) (nI (tc β x)) (wgt m β x) = some (Option.getD (f_X3_spread_88 N (f_X3_spread_22 N f) h 32 (nI s) (b2i m) (nI (k + (l.length + 1))) (nI k) (nI (tc β x)) (wgt m β x)) h) ∧ RpC (Option.getD (f_X3_spread_88 N (f_X3_spread_22 N f) h 32 (nI s) (b2i m) (nI (k + (l.length + 1))) (nI k) (nI (tc β x)) (wgt m β x)) h) α (spr m β s l (rch X (nx β x) s x (xc X s + wgt m β x))) ∧ Ac (Option.getD (f_X3_spread_88 N (f_X3_spread_22 N f) h 32 (nI s) (b2i m) (nI (k + (l.length + 1))) (nI k) (nI (tc β x)) (wgt m β x)) h) 15 β ∧ Fq PSp h (Option.getD (f_X3_spread_88 N (f_X3_spread_22 N f) h 32 (nI s) (b2i m) (nI (k + (l.length + 1))) (nI k) (nI (tc β x)) (wgt m β x)) h) := by
        have key : ∃ h', f_X3_spread_88 N (f_X3_spread_22 N f) h 32 (nI s) (b2i m) (nI (k + (l.length + 1))) (nI k) (nI (tc β x)) (wgt m β x) = some h' ∧ RpC h' α (spr m β s l (rch X (nx β x) s x (xc X s + wgt m β x))) ∧ Ac h' 15 β ∧ Fq PSp h h' := by
          unfold f_X3_spread_88
          obtain ⟨h1, q1, A1, F1⟩ := c_tipx A D hx
          have H1 := Fr_SHP F1 H
          have R1 := RpC_PS F1 R
          rw [pp_32_0 H, bs, q1, bs, pp_32_5 H1, bs, ll_37 H1, if_inI (by have := I.1.2; omega) (by have := I.1.2; omega), nI_clamp (by have := I.1.2; omega), (R1.2.2.2.1 s sl).1]
          have Onx := Ok_nx Oβ hx
          have Inx := Irr_nx Iβ D hx
          obtain ⟨h2, q2, R2, F2⟩ := c_reach (α := α) (β := nx β x) (s := s) (x := x) (c := xc X s + wgt m β x) (t := tc β x) hN H1 A1 (Ok_tip Oβ hx) ⟨Onx, Inx⟩ (nx_5 β x) (nx_1 β x) (fun j hj => by rw [nx_o _ _ (by decide) (by decide)]; exact (dT_0 _ _ _ _ _ (by omega) (by omega)).symm) I.1.2 I.2.1 I.2.2.1 (by rw [if_neg (by have := I.1.1; omega), Irr_tc Iβ]) (fun j _ hj e => by subst e; rw [(I.2.2.2.1 0).mpr h0G] at hj; cases hj) R1
          rw [q2, bs]
          have H2 := Fq_SHP F2 H1
          have A2 : Ac h2 15 (dN β x 1) := Fq_Ac F2 (fun a j h1 h2 z => by unfold PRc at z; omega) A1
          obtain ⟨h3, q3, A3, F3⟩ := c_undoTip (k := tk β x) (d := td β x) (u := tu β x) A2 (dT_D D _ _ _ _) (by rw [(dN_dims β x 1).1]; exact hk') (by rw [(dN_dims β x 1).2]; exact hd) (by rw [(dN_dims β x 1).2]; exact hu)
          rw [dN_undo hx] at A3
          have q3' : f_X5_undoTip h2 15 (nI (tc β x)) = some h3 := q3
          rw [pp_32_0 H2, bs, q3', bs, nI_1]
          have H3 := Fr_SHP F3 H2
          have R3 := RpC_PS F3 R2
          obtain ⟨I3, S3⟩ := XI_rch (c := xc X s + wgt m β x) I hs (by rw [hX]; exact hx)
          rw [hX] at I3 S3
          have e33 : ∀ j, hI h3 33 j = hI h 33 j := fun j => by
            rw [F3.2.2.2 33 j (fun z => by have := z.2; omega), F2.2.2.2 33 j (fun z => by unfold PRc at z; omega), F1.2.2.2 33 j (fun z => by have := z.2; omega)]
          obtain ⟨h4, q4, R4, A4, F4⟩ := c_spread_l hN hs h0G Oβ Iβ l (k + 1) f h3 (rch X (nx β x) s x (xc X s + wgt m β x)) (by omega) (by omega) H3 A3 I3 ((S3.2.1 s sl).trans hX) R3 (fun y hy => hl y (by simp [hy])) (fun i hi => by
            rw [e33, show k + 1 + i = k + (i + 1) by omega, hr (i + 1) (by simp; omega)]
            rfl)
          rw [show k + 1 + l.length = k + (l.length + 1) by omega] at q4
          refine ⟨h4, q4, R4, A4, Fq_trans (Fq_mono (Fr_q F1) (fun a j z => Or.inr z)) (Fq_trans (Fq_mono F2 (fun a j z => Or.inl z)) (Fq_trans (Fq_mono (Fr_q F3) (fun a j z => Or.inr z)) F4))⟩
        obtain ⟨h', q', r'⟩ := key
        rw [q']
        exact ⟨rfl, r'⟩
      have tcd' : f_X5_downOf h (nI (tc β x)) = some (bI (td β x)) := t_down h (by omega) (by omega) (by omega)
      have tcu' : f_X5_upOf h (nI (tc β x)) = some (bI (tu β x)) := t_up h (by omega) (by omega) (by omega)
      rw [tcd', bs, tcu', bs]
      cases m with
      | false =>
        rw [if_pos (show b2i false = 0 from rfl), pp_32_0 H, bs, c_worth A D hd hu, bs]
        exact ⟨_, go⟩
      | true =>
        rw [if_neg (show ¬ b2i true = 0 by decide), pp_32_0 H, bs, c_need A D hd hu, bs]
        exact ⟨_, go⟩
def PSr : Nat → Nat → Prop := fun a j => PSp a j ∨ a = 33
theorem c_spread {N : Nat} {α : SA} {rl : RLT} {m : Bool} {β : SA} {s : Nat} {G : List Nat} {v : Option Nat} {h : Hp} {X : XS} (hN : 5000 ≤ N) (hs : s ∈ G) (h0G : 0 ∈ G) (h0 : 0 < lvl β) (Oβ : Ok β) (Iβ : Irr α β) (H : SHP h) (A : Ac h 15 β) (I : XI α rl X G) (hX : xs X s = β) (R : RpC h α X) (Q : Rc N h v rl) : ∃ h', f_X3_spread N h 32 (nI s) v (b2i m) = some h' ∧ RpC h' α (spr m β s (TL β rl) X) ∧ Ac h' 15 β ∧ Fq PSr h h' := by
  have t15 := TL_15 (α := β) (rl := rl) Oβ.1
  unfold f_X3_spread
  rw [pp_32_0 H, bs, pp_32_1 H, bs, bs, ll_33 H]
  obtain ⟨h1, q1, r1, F1⟩ := c_gather (N := N) (s := 15) (v2 := 33) (len := 16) (most := 16) (v1 := v) Oβ.1 (by omega) (Or.inr (by decide)) (fun q e => by have := Rc_q77 Q q e; omega) (Nat.le_refl _) (by decide) h0 ⟨A, Q, ll_33 H⟩
  rw [List.take_of_length_le (by omega)] at q1 r1
  rw [q1, b2s]
  have H1 := Fr_SHP F1 H
  have A1 : Ac h1 15 β := Fr_Ac F1 (fun a j h1 h2 z => by omega) A
  have R1 : RpC h1 α X := RpC_of F1 (fun j _ z => by omega) (fun a j h1 h2 z => by omega) R
  obtain ⟨h2, q2, R2, A2, F2⟩ := c_spread_l (m := m) hN hs h0G Oβ Iβ (TL β rl) 0 N h1 X (by omega) (by omega) H1 A1 I hX R1 (fun x hx => hx) (fun i hi => by rw [Nat.zero_add]; exact r1 i hi)
  rw [Nat.zero_add] at q2
  exact ⟨h2, q2, R2, A2, Fq_trans (Fq_mono (Fr_q F1) (fun a j z => Or.inr z)) (Fq_mono F2 (fun a j z => Or.inl z))⟩
theorem c_unP {h : Hp} {s N A : Nat} {γ : SA} (D : Dm γ) (hN : 20 ≤ N) (hA : A < 2 ^ 31) (C : Ac h s γ) : ∃ h', f_X5_unpackPlaces N h s (nI A) = some h' ∧ Ac h' s (sr γ 5 (mx (bgs γ) (fun j => nI (A / 8 ^ j % 8)) (γ 5))) ∧ Fr (PS s) h h' := by
  refine c_unP_l D hA (bgs γ) 0 N h (by omega) (by have := D.2.2.2.2.1; omega) (Ac_ext C (fun k i hk hi => ?_))
  rw [mx_0]
  by_cases e : k = 5
  · subst e; rw [sr_s]
  · rw [sr_o _ _ e]
theorem c_unW {h : Hp} {s N A f : Nat} {γ : SA} (D : Dm γ) (hN : 20 ≤ N) (hA : A < 2 ^ 63) (hf : f ≤ 4) (C : Ac h s γ) : ∃ h' r', f_X5_unpackWater N h s (nI f) (lN A) = some h' ∧ Ac h' s (sr γ 1 r') ∧ (∀ l, r' l = if f ≤ l ∧ l < f + wl4 γ f then nI (A / 65536 ^ (l - f) % 65536) else γ 1 l) ∧ Fr (PS s) h h' := by
  have := c_unW_l (s := s) (N := N) (A := A) (f := f) (γ := γ) D hA hf (wl4 γ f) 0 N h (γ 1) (by omega) (by unfold wl4; split <;> omega) (Ac_ext C (fun k i hk hi => by
    by_cases e : k = 1
    · subst e; rw [sr_s]
    · rw [sr_o _ _ e]))
  rw [Nat.add_zero] at this
  exact this
theorem c_load {h : Hp} {N i : Nat} {α γ : SA} {X : XS} (hN : 20 ≤ N) (H : SHP h) (A : Ac h 15 γ) (Iγ : Irr α γ) (Dα : Dm α) (hi : i < xn X) (hn : xn X ≤ 1500) (O : Ok (xs X i)) (Ii : Irr α (xs X i)) (R : RpC h α X) : ∃ h', f_X3_load N h 32 (nI i) = some h' ∧ Ac h' 15 (xs X i) ∧ Fr (PS 15) h h' := by
  have Dγ : Dm γ := Dm_of (fun j _ => by rw [Iγ.1 0 (by decide) (by decide)]) Dα
  have h8 := Dα.2.2.2.1
  obtain ⟨s1, s2, s3⟩ := R.2.2.1 i hi
  have lp := pkP_lt O.1 O.2.1
  unfold f_X3_load
  rw [pp_32_0 H, bs, pp_32_2 H, bs, ll_34 H, if_inI (by omega) (by omega), nI_clamp (by omega), s1]
  obtain ⟨h1, q1, A1, F1⟩ := c_unP (N := N) Dγ hN (A := pkP (xs X i)) (by omega) A
  rw [q1, bs]
  have H1 := Fr_SHP F1 H
  rw [pp_32_0 H1, bs, pp_32_3 H1, bs, ll_35 H1, if_pos ⟨nI_pos' (by omega), by omega⟩, F1.1.2.1, s2, show (0 : Int32) = nI 0 from rfl]
  have D1 : Dm (sr γ 5 (mx (bgs γ) (fun j => nI (pkP (xs X i) / 8 ^ j % 8)) (γ 5))) := Dm_of (fun j _ => by rw [sr_o _ _ (by decide)]) Dγ
  obtain ⟨h2, r2, q2, A2, e2, F2⟩ := c_unW (N := N) D1 hN (f := 0) (pkW_lt O.2.2.2.2 0) (by decide) A1
  rw [q2, bs]
  have H2 := Fr_SHP F2 H1
  rw [pp_32_0 H2, bs, pp_32_4 H2, bs, ll_36 H2, if_pos ⟨nI_pos' (by omega), by omega⟩, F2.1.2.2, F1.1.2.2, s3, show (4 : Int32) = nI 4 from rfl]
  have D2 : Dm (sr (sr γ 5 (mx (bgs γ) (fun j => nI (pkP (xs X i) / 8 ^ j % 8)) (γ 5))) 1 r2) := Dm_of (fun j _ => by rw [sr_o _ _ (by decide)]) D1
  obtain ⟨h3, r3, q3, A3, e3, F3⟩ := c_unW (N := N) D2 hN (f := 4) (pkW_lt O.2.2.2.2 4) (by decide) A2
  rw [q3, bs]
  refine ⟨h3, rfl, Ac_ext A3 (fun k j hk hj => ?_), Fr_trans F1 (Fr_trans F2 F3)⟩
  rw [sr_sr]
  have lx : lvl (xs X i) = lvl α := Irr_l Ii
  have bx : bgs (xs X i) = bgs α := Irr_b Ii
  have lγ : lvl γ = lvl α := Irr_l Iγ
  have bγ : bgs γ = bgs α := Irr_b Iγ
  by_cases k1 : k = 1
  · subst k1
    rw [sr_s, e3 j, sr_s, e2 j]
    have w0 : wl4 (sr γ 5 (mx (bgs γ) (fun j => nI (pkP (xs X i) / 8 ^ j % 8)) (γ 5))) 0 = wl4 (xs X i) 0 := by
      unfold wl4
      rw [lvl_of (α := γ) (by rw [sr_o _ _ (by decide)]), lγ, lx]
    have w4 : wl4 (sr (sr γ 5 (mx (bgs γ) (fun j => nI (pkP (xs X i) / 8 ^ j % 8)) (γ 5))) 1 r2) 4 = wl4 (xs X i) 4 := by
      unfold wl4
      rw [lvl_of (α := γ) (by rw [sr_o _ _ (by decide), sr_o _ _ (by decide)]), lγ, lx]
    rw [w0, w4]
    have wlt : ∀ l, l < lvl (xs X i) → wv (xs X i) l < 65536 := fun l hl => by have := (wv_e O.2.2.2.2 hl).2; omega
    have hj8 : j < 8 := hj
    by_cases c4 : 4 ≤ j ∧ j < 4 + wl4 (xs X i) 4
    · rw [if_pos c4]
      have hjl : j < lvl (xs X i) := by unfold wl4 at c4; split at c4 <;> omega
      have := pkN_dig (B := 65536) (by decide) (f := fun l => wv (xs X i) (4 + l)) (wl4 (xs X i) 4) (fun l hl => wlt _ (by unfold wl4 at hl; split at hl <;> omega)) (j - 4) (by omega)
      rw [show pkW (xs X i) 4 = pkN 65536 (fun l => wv (xs X i) (4 + l)) (wl4 (xs X i) 4) from rfl, this, show 4 + (j - 4) = j by omega]
      exact (wv_e O.2.2.2.2 hjl).1.symm
    · rw [if_neg c4]
      by_cases c0 : 0 ≤ j ∧ j < 0 + wl4 (xs X i) 0
      · rw [if_pos c0]
        have hjl : j < lvl (xs X i) := by unfold wl4 at c0; split at c0 <;> omega
        have := pkN_dig (B := 65536) (by decide) (f := fun l => wv (xs X i) (0 + l)) (wl4 (xs X i) 0) (fun l hl => wlt _ (by unfold wl4 at hl; split at hl <;> omega)) (j - 0) (by omega)
        rw [show pkW (xs X i) 0 = pkN 65536 (fun l => wv (xs X i) (0 + l)) (wl4 (xs X i) 0) from rfl, this, show 0 + (j - 0) = j by omega]
        exact (wv_e O.2.2.2.2 hjl).1.symm
      · rw [if_neg c0, sr_o _ _ (by decide)]
        have hjl : lvl α ≤ j := by rw [← lx]; unfold wl4 at c0 c4; split at c0 <;> split at c4 <;> omega
        rw [Iγ.2.2 j hjl, Ii.2.2 j hjl]
  · rw [sr_o _ _ k1]
    by_cases k5 : k = 5
    · subst k5
      rw [sr_s]
      unfold mx
      by_cases c : j < bgs γ
      · rw [if_pos c]
        have hjb : j < bgs (xs X i) := by rw [bx, ← bγ]; exact c
        have := pkN_dig (B := 8) (by decide) (f := pv (xs X i)) (bgs (xs X i)) (fun b hb => (pv_e O.1 O.2.1 hb).2) j hjb
        show nI (pkN 8 (pv (xs X i)) (bgs (xs X i)) / 8 ^ j % 8) = xs X i 5 j
        rw [this]
        exact (pv_e O.1 O.2.1 hjb).1.symm
      · rw [if_neg c, Iγ.2.1 j (by omega), Ii.2.1 j (by omega)]
    · rw [sr_o _ _ k5, Iγ.1 k k1 k5, Ii.1 k k1 k5]
