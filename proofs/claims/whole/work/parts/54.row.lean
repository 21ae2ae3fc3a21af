/-! ===== calls: row, drought ===== -/
theorem eX_in {β : SA} {rl : RLT} {Y : XS} {K : List Nat} {t : Int32} {k x : Nat} (I : XI β rl Y K) (hK : K.length ≤ 1500) (h : eX Y K t k = some x) : ∃ γ, Irr β γ ∧ x ∈ TL γ rl := by
  unfold eX at h
  cases e : fE Y t K with
  | none => rw [e] at h; cases h
  | some i =>
    rw [e] at h
    have hi := (fE_some K e).1
    obtain ⟨d, d1, d2, d3, d4, d5⟩ := way_ok I hK hi
    have h' : (if k < dep Y 1500 i then some (xb Y (anc Y (dep Y 1500 i - 1 - k) i)) else none) = some x := h
    rw [d5] at h'
    by_cases hk : k < d
    · rw [if_pos hk] at h'
      have hx : xb Y (anc Y (d - 1 - k) i) = x := by simpa using h'
      have n0 := d3 (d - 1 - k) (by omega)
      have nG := d4 (d - 1 - k) (by omega)
      have nl := I.2.2.2.2.1 _ nG
      obtain ⟨f1, f2⟩ := I.2.2.2.2.2.1 _ nl (by omega)
      rw [hx] at f2
      exact ⟨_, (I.2.1 _ (I.2.2.2.2.1 _ f1)).2, f2⟩
    · rw [if_neg hk] at h'; cases h'
theorem Irr_tk {β γ : SA} (I : Irr β γ) (x : Nat) : tk γ x = tk β x ∧ td γ x = td β x ∧ tu γ x = tu β x := by
  unfold tk td tu tdi tB
  rw [Irr_b I]
  exact ⟨rfl, rfl, rfl⟩
theorem c_part {h : Hp} {β γ : SA} {rl : RLT} {x : Nat} (D : Dm β) (I : Irr β γ) (hx : x ∈ TL γ rl) (w : Int32) : f_X5_partOf h (nI (tc β x)) w = some (ptx β x w) := by
  have h8 := D.2.2.2.1
  have h6 := D.2.2.2.2.1
  have hk := tk_lt (TL_mem hx).2
  rw [(Irr_tk I x).1, Irr_l I] at hk
  have hd := td_le β x
  have hu := tu_le β x
  unfold f_X5_partOf ptx
  rw [show f_X5_stepOf h (nI (tc β x)) = some (nI (tk β x)) from t_step h (by omega) (by omega) (by omega), show f_X5_downOf h (nI (tc β x)) = some (bI (td β x)) from t_down h (by omega) (by omega) (by omega), show f_X5_upOf h (nI (tc β x)) = some (bI (tu β x)) from t_up h (by omega) (by omega) (by omega), bs, bs, bs]
  split
  · rfl
  · split <;> rfl
theorem Sm_ptx {α β : SA} (h : Sm α β) (x : Nat) (w : Int32) : ptx β x w = ptx α x w := by
  unfold ptx
  rw [Sm_tk h, Sm_td h, Sm_tu h]
def rowV (α : SA) (X : XS) (G : List Nat) (t : Int32) (k : Nat) (w : Int32) : Int32 := match eX X G t k with
  | some x => ptx α x w
  | none => if fE X t G = none then (if xo X then -3 else -2) else -2
theorem eR_eX (β : SA) (Y : XS) (K : List Nat) (t : Int32) (k : Nat) : eR β Y K t k = match eX Y K t k with
    | some x => nI (tc β x)
    | none => if fE Y t K = none then (if xo Y then -3 else -2) else -2 := by
  unfold eR eX
  cases e : fE Y t K with
  | none => rfl
  | some i =>
    show (if k < dep Y 1500 i then nI (tc β (xb Y (anc Y (dep Y 1500 i - 1 - k) i))) else (-2 : Int32)) = (match (if k < dep Y 1500 i then some (xb Y (anc Y (dep Y 1500 i - 1 - k) i)) else none) with
      | some x => nI (tc β x)
      | none => if some i = none then (if xo Y then -3 else -2) else -2)
    by_cases c : k < dep Y 1500 i
    · rw [if_pos c, if_pos c]
    · rw [if_neg c, if_neg c]
      rfl
theorem tc_343 {α : SA} {rl : RLT} {γ : SA} {x : Nat} (D : Dm α) (I : Irr α γ) (hx : x ∈ TL γ rl) : tc α x < 1000 := by
  have h8 := D.2.2.2.1
  have h6 := D.2.2.2.2.1
  have hk := tk_lt (TL_mem hx).2
  rw [(Irr_tk I x).1, Irr_l I] at hk
  have hd := td_le α x
  have hu := tu_le α x
  unfold tc cd
  omega
theorem ok_row {N : Nat} (hN : 5000 ≤ N) (v : Int32) (m : Bool) (kv w : Int32) : Cok N (fun h => f_X7_row N h 0 v (b2i m) kv w) (fun h => f_X8_row N h 51 v (b2i m) kv w) := by
  rintro h ⟨r, R, α, g⟩
  have g' := g
  obtain ⟨g1, A, M, O, f, T, g7, g8, g9⟩ := g
  have H := M.1
  have D := O.1
  show ∃ z h1 h2, f_X7_row N h 0 v (b2i m) kv w = some (z, h1) ∧ f_X8_row N h1 51 v (b2i m) kv w = some (z, h2) ∧ GG N h2
  have inw : ∀ h1, f_X8_in h1 w.toInt64 (0 : Int64) (2 : Int64) = some (if w < 0 then 0 else if 2 < w then 0 else 1) := fun h1 => m_in h1 w 0 2
  rcases set_or D v with ⟨c0, t, t1, t2, rfl⟩ | c
  · have n1 : ¬ (1 : Int32) = 0 := by decide
    by_cases c1 : kv < 0
    · refine ⟨-1, h, h, ?_, ?_, r, R, α, g'⟩
      · unfold f_X7_row
        rw [pp_0_1 H, bs, c_isSet A D, set_1 c0 D t1, bs, if_neg n1, if_pos c1]
      · unfold f_X8_row
        rw [m_isSet M D, set_1 c0 D t1, bs, if_neg n1, if_pos c1]
    · by_cases c2 : w < 0
      · refine ⟨-1, h, h, ?_, ?_, r, R, α, g'⟩
        · unfold f_X7_row
          rw [pp_0_1 H, bs, c_isSet A D, set_1 c0 D t1, bs, if_neg n1, if_neg c1, if_pos c2]
        · unfold f_X8_row
          rw [m_isSet M D, set_1 c0 D t1, bs, if_neg n1, if_neg c1, inw, bs, if_pos c2, if_pos rfl]
      · by_cases c3 : w ≤ 2
        · obtain ⟨k, k1, rfl⟩ := i_nat c1
          have h0 : 0 < lvl α := by omega
          obtain ⟨wa, w1, w2⟩ := wat0 O h0
          have el : lk α (nI wa) = α := lk_self w2.symm
          obtain ⟨u, h1, β, u1, u2, sm, Oβ, S, G1, _⟩ := c_expl (m := m) (w := wa) hN g' h0 w1 (fun _ => w2.symm) (by rw [el]; exact O)
          rw [el] at sm
          obtain ⟨_, A1, M1, _, _, T1, _, _, _⟩ := id G1
          obtain ⟨h2, X, G, n, e2, hS, hn, RM, k2, F2⟩ := m_goes (N := N) (rl := rlF R α) (m := m) hN M1 O h0 (fOk_rl T1 f)
          have SS := S
          obtain ⟨Y, K, q1, q2, q3, q4, q5, IY⟩ := srd_eq S Oβ O sm hS hn t1
          have IX : XI α (rlF R α) X G := by
            have := SR_XI (rl := rlF R α) (m := m) O n
            rw [hS] at this
            exact this
          have hG15 : G.length ≤ 1500 := Fin_len O (Or.inl ⟨n, hS, hn⟩)
          have H2 := Fr_SHP F2 M1.1
          have n15 : xn X ≤ 1500 := IX.1.2
          have M2 : Am h2 α := ⟨H2, Sd_congr D k2 M1.2⟩
          have e7 : f_X7_row N h 0 (nI t) (b2i m) (nI k) w = some (rowV α X G (nI t) k w, h1) := by
            unfold f_X7_row
            rw [pp_0_1 H, bs, c_isSet A D, set_1 c0 D t1, bs, if_neg n1, if_neg c1, if_neg c2, if_pos c3, pp_0_8 H, bs, bs, u1, bs, bs, ac_p8 A, bs, ac_l1 A, if_pos (by decide), ac_1 A (by decide), w2, u2, bs, pp_0_8 M1.1, bs, q2 N k hN k1 M1.1, bs, eR_eX, q3 k]
            unfold rowV
            cases e : eX X G (nI t) k with
            | some x =>
              obtain ⟨γ, i1, i2⟩ := eX_in IX hG15 e
              have i1' : Irr β (sr (sr β 1 (γ 1)) 5 (γ 5)) := by
                refine ⟨fun a h1 h5 => by rw [sr_o _ _ h5, sr_o _ _ h1], fun b hb => ?_, fun l hl => ?_⟩
                · rw [sr_s, i1.2.1 b (by rw [← Sm_bgs sm]; exact hb), sm.2.2.2.1]
                · rw [sr_o _ _ (by decide), sr_s, i1.2.2 l (by rw [← Sm_lvl sm]; exact hl), sm.1]
              have tcb : tc β x = tc α x := Sm_tc sm x
              have lt1 := tc_343 D i1 i2
              show (if 0 ≤ nI (tc β x) then Option.bind (f_X5_partOf h1 (nI (tc β x)) w) (fun r17 => some (r17, h1)) else some (nI (tc β x), h1)) = some (ptx α x w, h1)
              rw [tcb, if_pos (nI_pos' (by omega)), c_part D i1 i2 w, bs]
            | none =>
              show (if 0 ≤ (if fE Y (nI t) K = none then (if xo Y then (-3 : Int32) else -2) else -2) then _ else some ((if fE Y (nI t) K = none then (if xo Y then (-3 : Int32) else -2) else -2), h1)) = some ((if fE X (nI t) G = none then (if xo X then (-3 : Int32) else -2) else -2), h1)
              by_cases ef : fE X (nI t) G = none
              · rw [if_pos (q4.mpr ef), if_pos ef, q5 ef]
                cases xo X <;> rfl
              · rw [if_neg (fun z => ef (q4.mp z)), if_neg ef]
                rfl
          have e8 : f_X8_row N h1 51 (nI t) (b2i m) (nI k) w = some (rowV α X G (nI t) k w, h2) := by
            unfold f_X8_row rowV eX
            rw [m_isSet M1 D, set_1 c0 D t1, bs, if_neg n1, if_neg c1, inw, bs, if_neg c2, if_neg (Int32.not_lt.mpr c3), if_neg n1, e2, bs, m_endOf hN H2 hG15 RM, bs]
            cases e : fE X (nI t) G with
            | none =>
              show (if 0 ≤ (if xo X then (-3 : Int32) else -2) then _ else some ((if xo X then (-3 : Int32) else -2), h2)) = some ((if (none : Option Nat) = none then (if xo X then (-3 : Int32) else -2) else -2), h2)
              rw [if_pos rfl]
              cases xo X <;> rfl
            | some i =>
              have hi := (fE_some G e).1
              have hl : i < xn X := IX.2.2.2.2.1 i hi
              obtain ⟨d, d1, d2, d3, d4, d5⟩ := way_ok IX hG15 hi
              have r66 : ∀ j, j < xn X → hI h2 66 j = if j = 0 then -1 else nI (xf X j) := fun j hj => (RM.2.2.2.2.1 j hj).2.1
              have a54 := m_row54 (N := N) (X := X) (d := d) (i := i) (e := i) (vk := nI k) (w := w) H2 n15 d1 r66 d2 d3 (fun e he => IX.2.2.2.2.1 _ (d4 e he)) d 0 N (by omega) (by omega)
              have a54' : f_X8_row_54 N N h2 51 (nI k) w (nI i) 0 (nI i) = if nI k < nI d then f_X8_row_94 N N h2 51 (nI k) w (nI i) (nI d - 1) else some (-2, h2) := a54
              show (if 0 ≤ nI i then f_X8_row_54 N N h2 51 (nI k) w (nI i) 0 (nI i) else some (nI i, h2)) = some ((match (if k < dep X 1500 i then some (xb X (anc X (dep X 1500 i - 1 - k) i)) else none) with
                | some x => ptx α x w
                | none => if some i = none then (if xo X then (-3 : Int32) else -2) else -2), h2)
              rw [if_pos (nI_pos' (by omega)), a54', d5]
              by_cases hk : k < d
              · rw [if_pos hk, if_pos (nI_lt hk (by omega)), n_1, pk_sub (by omega)]
                have a94 := m_row94 (N := N) (X := X) (k := k) (d := d) (i := i) (w := w) M2 D n15 d1 hk r66 (fun j hj h0 => (RM.2.2.2.2.1 j hj).2.2.1 h0) (fun e he => by
                  have n0 := d3 e he
                  have nl := IX.2.2.2.2.1 _ (d4 e (by omega))
                  obtain ⟨f1, f2⟩ := IX.2.2.2.2.2.1 _ nl (by omega)
                  have Os := (IX.2.1 _ (IX.2.2.2.2.1 _ f1)).1
                  exact TL_400 Os.1 _ f2) d3 (fun e he => IX.2.2.2.2.1 _ (d4 e he)) (d - 1 - k) 0 N (by omega) (by omega)
                exact a94
              · rw [if_neg hk, if_neg (nI_nlt (by omega) k1)]
                rfl
          exact ⟨_, h1, h2, e7, e8, r, R, α, GI_ask G1 (Fr_q F2) PGt_ok k2⟩
        · refine ⟨-1, h, h, ?_, ?_, r, R, α, g'⟩
          · unfold f_X7_row
            rw [pp_0_1 H, bs, c_isSet A D, set_1 c0 D t1, bs, if_neg n1, if_neg c1, if_neg c2, if_neg c3]
          · unfold f_X8_row
            rw [m_isSet M D, set_1 c0 D t1, bs, if_neg n1, if_neg c1, inw, bs, if_neg c2, if_pos (Int32.not_le.mp c3), if_pos rfl]
  · refine ⟨-1, h, h, ?_, ?_, r, R, α, g'⟩
    · unfold f_X7_row
      rw [pp_0_1 H, bs, c_isSet A D, c, bs, if_pos rfl]
    · unfold f_X8_row
      rw [m_isSet M D, c, bs, if_pos rfl]
theorem tl_nat {α : SA} (V : Val α) (t : Int32) : ∀ n, n ≤ bgs α → ∃ s, s ≤ 999 * n ∧ tlS α t n = nI s
  | 0, _ => ⟨0, by omega, rfl⟩
  | n + 1, h => by
    obtain ⟨s, s1, s2⟩ := tl_nat V t n (by omega)
    obtain ⟨_, _, _, u, u1, u2⟩ := V.1 n (by omega)
    rw [tlS, s2, u2]
    unfold bt
    rcases and1 (t >>> (nI n &&& 31)) with z | z
    · rw [z]
      exact ⟨s, by omega, by rw [Int32.zero_mul, Int32.add_zero]⟩
    · rw [z]
      exact ⟨s + u, by omega, by rw [Int32.one_mul, nI_add]⟩
theorem c_dearer {h : Hp} {N : Nat} {α : SA} (hN : 20 ≤ N) (A : Ac h 3 α) (O : Ok α) (t b : Int32) : f_X5_isDearer N h 3 t b = some (if tlS α b (bgs α) < tlS α t (bgs α) then 1 else if tlS α t (bgs α) = tlS α b (bgs α) then (if bct b ≤ bct t then 0 else 1) else 0) := by
  have h6 := O.1.2.2.2.2.1
  obtain ⟨s, s1, s2⟩ := tl_nat O.2.2.2.1 t (bgs α) (Nat.le_refl _)
  obtain ⟨u, u1, u2⟩ := tl_nat O.2.2.2.1 b (bgs α) (Nat.le_refl _)
  unfold f_X5_isDearer
  rw [c_toll A O.1 hN, bs, c_toll A O.1 hN, bs, s2, u2]
  by_cases c : u < s
  · rw [pk_sub (by omega), if_pos (show (0 : Int32) < nI (s - u) from nI_lt (a := 0) (by omega) (by omega)), if_pos (nI_lt c (by omega))]
  · rw [if_neg (show ¬ nI u < nI s from nI_nlt (by omega) (by omega))]
    by_cases e : s = u
    · subst e
      rw [Int32.sub_self, if_neg (by decide), if_pos rfl, if_pos rfl, c_bct, bs, c_bct, bs]
      by_cases c3 : bct b ≤ bct t
      · rw [if_pos c3, if_pos c3]
      · rw [if_neg c3, if_neg c3]
    · have hneg : ¬ (0 : Int32) < nI s - nI u := by
        intro z
        have : nI s - nI u < 0 := by
          rw [show nI s - nI u = -(nI u - nI s) by rw [Int32.neg_sub], pk_sub (by omega)]
          have : ∀ n, 0 < n → n < 10000 → -(nI n) < 0 := by
            intro n h0 hn
            rw [Int32.lt_iff_toInt_lt]
            have e1 : (nI n).toInt = n := Int32.toInt_ofNat_of_lt (by omega)
            rw [Int32.toInt_neg, e1]
            have : (0 : Int32).toInt = 0 := by decide
            rw [this]
            rw [Int.bmod_eq_of_le (by omega) (by omega)]
            omega
          exact this (u - s) (by omega) (by omega)
        exact absurd z (Int32.not_lt.mpr (Int32.le_of_lt this))
      rw [if_neg hneg, if_neg (fun z => e (by
        have z2 : nI s - nI u + nI u = 0 + nI u := congrArg (· + nI u) z
        rw [Int32.sub_add_cancel, Int32.zero_add] at z2
        exact (nI_eq (by omega) (by omega)).mp z2)), if_neg (fun z => e ((nI_eq (by omega) (by omega)).mp z))]
theorem ok_dr_l {N : Nat} {h1 h2 : Hp} {α : SA} {X : XS} {G : List Nat} {w : Int32} (hN : 5000 ≤ N) (H1 : SHP h1) (A1 : Ac h1 3 α) (M2 : Am h2 α) (O : Ok α) (c0 : lvl α ≠ 0) (hc : ∀ t, t < 2 ^ bgs α → f_X3_costOf h1 32 (nI t) = some (eC X G (nI t))) (hneg : ∀ t, t < 2 ^ bgs α → (eC X G (nI t) < 0 ↔ fE X (nI t) G = none)) (hG : ∀ i, i ∈ G → i < 1500) (he : ∀ t : Nat, f_X8_endOf N h2 51 (nI t) = some (ev X (fE X (nI t) G))) : ∀ (m t b f e : Nat), t + m = 2 ^ bgs α → 0 < t → m < f → m < e → b < 2 ^ bgs α → ∃ z, f_X7_drought_54 N f h1 0 w (nI b) (nI t) = some (z, h1) ∧ f_X8_drought_66 N e h2 51 w (nI b) (nI t) = some (z, h2) := by
  have D := O.1
  have h6 := D.2.2.2.2.1
  have hp : 2 ^ bgs α ≤ 64 := Nat.pow_le_pow_right (n := 2) (by decide) h6
  intro m
  induction m with
  | zero =>
    intro t b f e ht t0 hf he' hb
    obtain ⟨f, rfl⟩ : ∃ k, f = k + 1 := ⟨f - 1, by omega⟩
    obtain ⟨e, rfl⟩ : ∃ k, e = k + 1 := ⟨e - 1, by omega⟩
    refine ⟨if w = 0 then tlS α (nI b) (bgs α) else nI b, ?_, ?_⟩
    · rw [f_X7_drought_54, pp_0_1 H1, bs, ac_0 A1 (by decide), D.2.1, shl1 _ h6, if_pos (nI_le (by omega) (by omega)), bs, c_toll A1 D (by omega), bs]
      by_cases w0 : w = 0
      · rw [if_pos w0, if_pos w0]
      · rw [if_neg w0, if_neg w0]
    · rw [f_X8_drought_66, pp_51_26 M2.1, bs, ll_62 M2.1, if_pos (show 1 < 93 by decide), am_1 M2, D.2.1, shl1 _ h6, if_pos (nI_le (by omega) (by omega)), m_toll M2 D (by omega), bs]
      by_cases w0 : w = 0
      · rw [if_pos w0, if_pos w0]
      · rw [if_neg w0, if_neg w0]
  | succ m ih =>
    intro t b f e ht t0 hf he' hb
    obtain ⟨f, rfl⟩ : ∃ k, f = k + 1 := ⟨f - 1, by omega⟩
    obtain ⟨e, rfl⟩ : ∃ k, e = k + 1 := ⟨e - 1, by omega⟩
    have htl : t < 2 ^ bgs α := by omega
    obtain ⟨z1, p1, p2⟩ := ih (t + 1) b f e (by omega) (by omega) (by omega) (by omega) hb
    obtain ⟨z2, p3, p4⟩ := ih (t + 1) t f e (by omega) (by omega) (by omega) (by omega) htl
    have l7 : f_X7_drought_54 N (f + 1) h1 0 w (nI b) (nI t) = if eC X G (nI t) < 0 then some (z1, h1) else if (if tlS α (nI b) (bgs α) < tlS α (nI t) (bgs α) then (1 : Int32) else if tlS α (nI t) (bgs α) = tlS α (nI b) (bgs α) then (if bct (nI b) ≤ bct (nI t) then 0 else 1) else 0) = 0 then some (z1, h1) else some (z2, h1) := by
      rw [f_X7_drought_54, pp_0_1 H1, bs, ac_0 A1 (by decide), D.2.1, shl1 _ h6, if_neg (nI_ge htl (by omega)), pp_0_8 H1, bs, hc t htl, bs, bs, c_dearer (by omega) A1 O, bs]
      unfold f_X7_drought_96
      rw [nI_1, p1, p3]
    have l8 : f_X8_drought_66 N (e + 1) h2 51 w (nI b) (nI t) = if fE X (nI t) G = none then some (z1, h2) else if tlS α (nI b) (bgs α) < tlS α (nI t) (bgs α) then some (z2, h2) else if tlS α (nI t) (bgs α) = tlS α (nI b) (bgs α) then (if bct (nI b) ≤ bct (nI t) then some (z1, h2) else some (z2, h2)) else some (z1, h2) := by
      rw [f_X8_drought_66, pp_51_26 M2.1, bs, ll_62 M2.1, if_pos (show 1 < 93 by decide), am_1 M2, D.2.1, shl1 _ h6, if_neg (nI_ge htl (by omega)), he t, bs, m_toll M2 D (by omega), bs, m_toll M2 D (by omega), bs, bs, bs, m_bits (by omega) (by omega), bs, m_bits (by omega) (by omega), bs]
      unfold f_X8_drought_134 f_X8_drought_138
      rw [nI_1, p2, p4]
      cases ef : fE X (nI t) G with
      | none =>
        rw [if_pos rfl]
        show (if 0 ≤ (if xo X then (-3 : Int32) else -2) then _ else _) = _
        cases xo X <;> rfl
      | some i =>
        rw [if_neg (show ¬ some i = none by simp)]
        show (if 0 ≤ nI i then _ else _) = _
        have := hG i (fE_some G ef).1
        rw [if_pos (nI_pos' (by omega))]
    rw [l7, l8]
    by_cases cn : fE X (nI t) G = none
    · rw [if_pos ((hneg t htl).mpr cn), if_pos cn]
      exact ⟨z1, rfl, rfl⟩
    · rw [if_neg (fun z => cn ((hneg t htl).mp z)), if_neg cn]
      by_cases q1 : tlS α (nI b) (bgs α) < tlS α (nI t) (bgs α)
      · rw [if_pos q1, if_neg (show ¬ (1 : Int32) = 0 by decide), if_pos q1]
        exact ⟨z2, rfl, rfl⟩
      · rw [if_neg q1, if_neg q1]
        by_cases q2 : tlS α (nI t) (bgs α) = tlS α (nI b) (bgs α)
        · rw [if_pos q2, if_pos q2]
          by_cases q3 : bct (nI b) ≤ bct (nI t)
          · rw [if_pos q3, if_pos rfl, if_pos q3]
            exact ⟨z1, rfl, rfl⟩
          · rw [if_neg q3, if_neg (show ¬ (1 : Int32) = 0 by decide), if_neg q3]
            exact ⟨z2, rfl, rfl⟩
        · rw [if_neg q2, if_pos rfl, if_neg q2]
          exact ⟨z1, rfl, rfl⟩
theorem ok_drought {N : Nat} (hN : 5000 ≤ N) (v w : Int32) : Cok N (fun h => f_X7_drought N h 0 v w) (fun h => f_X8_drought N h 51 v w) := by
  rintro h ⟨r, R, α, g⟩
  have g' := g
  obtain ⟨g1, A, M, O, f, T, g7, g8, g9⟩ := g
  have H := M.1
  have D := O.1
  have n1 : ¬ (1 : Int32) = 0 := by decide
  show ∃ z h1 h2, f_X7_drought N h 0 v w = some (z, h1) ∧ f_X8_drought N h1 51 v w = some (z, h2) ∧ GG N h2
  have inn : ∀ h1, f_X8_in h1 v.toInt64 (0 : Int64) (999 : Int64) = some (if v < 0 then 0 else if 999 < v then 0 else 1) := fun h1 => m_in h1 v 0 999
  have inw : ∀ h1, f_X8_in h1 w.toInt64 (0 : Int64) (1 : Int64) = some (if w < 0 then 0 else if 1 < w then 0 else 1) := fun h1 => m_in h1 w 0 1
  have nope : ∀ (c : lvl α = 0 ∨ v < 0 ∨ 999 < v ∨ w < 0 ∨ ¬ w ≤ 1), ∃ z h1 h2, f_X7_drought N h 0 v w = some (z, h1) ∧ f_X8_drought N h1 51 v w = some (z, h2) ∧ GG N h2 := by
    intro c
    refine ⟨-1, h, h, ?_, ?_, r, R, α, g'⟩
    · unfold f_X7_drought
      rw [pp_0_1 H, bs, ac_0 A (by decide)]
      by_cases c0 : lvl α = 0
      · rw [if_pos ((lv0 D).mpr c0)]
      · rw [if_neg (fun z => c0 ((lv0 D).mp z))]
        by_cases c1 : v < 0
        · rw [if_pos c1]
        · rw [if_neg c1]
          by_cases c2 : 999 < v
          · rw [if_pos c2]
          · rw [if_neg c2]
            by_cases c3 : w < 0
            · rw [if_pos c3]
            · rw [if_neg c3, if_neg ((((c.resolve_left c0).resolve_left c1).resolve_left c2).resolve_left c3)]
    · unfold f_X8_drought
      rw [pp_51_26 H, bs, ll_62 H, if_pos (show 0 < 93 by decide), am_0 M]
      by_cases c0 : lvl α = 0
      · rw [if_pos ((lv0 D).mpr c0)]
      · rw [if_neg (fun z => c0 ((lv0 D).mp z)), inn, bs]
        by_cases c1 : v < 0
        · rw [if_pos c1, if_pos rfl]
        · rw [if_neg c1]
          by_cases c2 : 999 < v
          · rw [if_pos c2, if_pos rfl]
          · rw [if_neg c2, if_neg n1, inw, bs]
            by_cases c3 : w < 0
            · rw [if_pos c3, if_pos rfl]
            · rw [if_neg c3, if_pos (Int32.not_le.mp ((((c.resolve_left c0).resolve_left c1).resolve_left c2).resolve_left c3)), if_pos rfl]
  by_cases c0 : lvl α = 0
  · exact nope (Or.inl c0)
  · by_cases c1 : v < 0
    · exact nope (Or.inr (Or.inl c1))
    · by_cases c2 : 999 < v
      · exact nope (Or.inr (Or.inr (Or.inl c2)))
      · by_cases c3 : w < 0
        · exact nope (Or.inr (Or.inr (Or.inr (Or.inl c3))))
        · by_cases c4 : w ≤ 1
          · obtain ⟨t, t1, rfl⟩ := i_nat c1
            have t9 : t ≤ 999 := (nI_leI (b := 999) t1 (by decide)).mp (Int32.not_lt.mp c2)
            have h0 : 0 < lvl α := by omega
            have Olk : Ok (lk α (nI t)) := Ok_lk O h0 (by omega)
            obtain ⟨u, h1, β, u1, u2, sm, Oβ, S, G1, _⟩ := c_expl (m := false) (w := t) hN g' h0 t1 (fun z => by cases z) Olk
            obtain ⟨_, A1, M1, _, _, T1, _, _, _⟩ := id G1
            have ll : lvl (lk α (nI t)) = lvl α := lvl_of (by unfold lk; rw [sr_o _ _ (by decide)])
            have lb : bgs (lk α (nI t)) = bgs α := bgs_of (by unfold lk; rw [sr_o _ _ (by decide)])
            have M2 : Am (sI h1 62 9 (nI t)) (lk α (nI t)) := Am_w M1 D (k := 1) (i := 0) (nI t) h0 (by omega)
            have F2 : Fr (fun a j => a = 62 ∧ j = 9) h1 (sI h1 62 9 (nI t)) := Fr_sI _ _ _ _ ⟨rfl, rfl⟩
            have r2 : ∀ j, hI (sI h1 62 9 (nI t)) 62 j = if j = 9 then nI t else hI h1 62 j := sI_r _ _ _ _
            have e8a : f_X8_drought N h1 51 (nI t) w = Option.bind (f_X8_goesThrough N (sI h1 62 9 (nI t)) 51 (0 : Int32)) (fun h28 => Option.bind (hP h28 51 26) (fun q29 => if 9 < hL h28 q29 then (lt (sI h28 q29 (9) (α 1 0)) (fun h31 => f_X8_drought_66 N N h31 51 w (0 : Int32) (1 : Int32))) else none)) := by
              unfold f_X8_drought
              rw [pp_51_26 M1.1, bs, ll_62 M1.1, if_pos (show 0 < 93 by decide), am_0 M1, if_neg (fun z => c0 ((lv0 D).mp z)), inn, bs, if_neg c1, if_neg c2, if_neg n1, inw, bs, if_neg c3, if_neg (Int32.not_lt.mpr c4), if_neg n1, show f_X8_waterOf h1 51 0 = some (α 1 0) from m_waterOf (l := 0) M1 D h0, bs, bs, ll_62 M1.1, if_pos (show 9 < 93 by decide), lts]
            generalize sI h1 62 9 (nI t) = h2 at M2 F2 r2 e8a
            have h05 : lk α (nI t) 0 5 = α 0 5 := by unfold lk; rw [sr_o _ _ (by decide)]
            have Q2 : Rm N h2 (lk α (nI t) 0 5) (rlF R α) := by
              rw [h05]
              exact Rm_Fr F2 (fun j z => by omega) (fun j z => by omega) (fun j z => by omega) (fOk_rl T1 f)
            obtain ⟨h3, X, G, n, e3, hS, hn, RM, k3, F3⟩ := m_goes (N := N) (rl := rlF R α) (m := false) hN M2 Olk (by rw [ll]; exact h0) Q2
            have e3' : f_X8_goesThrough N h2 51 0 = some h3 := e3
            have H3 := Fr_SHP F3 M2.1
            rw [e3', bs, pp_51_26 H3, bs, ll_62 H3, if_pos (show 9 < 93 by decide), lts] at e8a
            have F4 : Fr (fun a j => a = 62 ∧ j = 9) h3 (sI h3 62 9 (α 1 0)) := Fr_sI _ _ _ _ ⟨rfl, rfl⟩
            have r4 : ∀ j, hI (sI h3 62 9 (α 1 0)) 62 j = if j = 9 then α 1 0 else hI h3 62 j := sI_r _ _ _ _
            generalize sI h3 62 9 (α 1 0) = h4 at F4 r4 e8a
            have k4 : ∀ i, i < 93 → hI h4 62 i = hI h1 62 i := fun i hi => by
              rw [r4]
              by_cases e : i = 9
              · subst e
                rw [if_pos rfl]
                exact (am_r M1 (k := 1) (i := 0) h0).symm
              · rw [if_neg e, k3 i hi, r2, if_neg e]
            have H4 := Fr_SHP F4 H3
            have M4 : Am h4 α := ⟨H4, Sd_congr D k4 M1.2⟩
            have RM4 := RpM_of F4 (fun j hj z => by omega) (fun a j h1 h2 z => by omega) RM
            have IX : XI (lk α (nI t)) (rlF R α) X G := by
              have := SR_XI (rl := rlF R α) (m := false) Olk n
              rw [hS] at this
              exact this
            have n15 : xn X ≤ 1500 := IX.1.2
            have hG15 : G.length ≤ 1500 := Fin_len Olk (Or.inl ⟨n, hS, hn⟩)
            have CS : Cst (lk α (nI t)) X := by
              have := Cst_SR (rl := rlF R α) Olk n
              rw [hS] at this
              exact this
            have r42 := rem_42 Olk.1 Olk.2.1
            have hp : 2 ^ bgs α ≤ 64 := Nat.pow_le_pow_right (n := 2) (by decide) D.2.2.2.2.1
            have hp1 : 1 ≤ 2 ^ bgs α := Nat.one_le_two_pow
            obtain ⟨z, z7, z8⟩ := ok_dr_l (w := w) (X := X) (G := G) hN M1.1 A1 M4 O c0 (fun s hs => by
              obtain ⟨Y, K, q1, _⟩ := srd_eq S Oβ Olk sm hS hn (t := s) (by rw [lb]; exact hs)
              exact q1 M1.1) (fun s hs => by
              unfold eC
              cases e : fE X (nI s) G with
              | none => exact ⟨fun _ => rfl, fun _ => by show (if xo X then (-3 : Int32) else -2) < 0; cases xo X <;> decide⟩
              | some i =>
                obtain ⟨c, x1, x2⟩ := CS i (IX.2.2.2.2.1 i (fE_some G e).1)
                refine ⟨fun z => ?_, fun z => by cases z⟩
                have z' : xc X i < 0 := z
                rw [x1] at z'
                exact absurd z' (nI_pos (by omega))) (fun i hi => by have := IX.2.2.2.2.1 i hi; omega) (fun s => m_endOf hN H4 hG15 RM4) (2 ^ bgs α - 1) 1 0 N N (by omega) (by decide) (by omega) (by omega) (by omega)
            refine ⟨z, h1, h4, ?_, by rw [e8a]; exact z8, r, R, α, GI_ask G1 (Fq_trans (Fq_mono (Fr_q F2) (Q := PGt) (fun a j z => by unfold PGt PGo PGi PLd; omega)) (Fq_trans (Fr_q F3) (Fq_mono (Fr_q F4) (fun a j z => by unfold PGt PGo PGi PLd; omega)))) PGt_ok k4⟩
            have u2' : f_X3_explore N h 32 3 u 0 (nI t) = some h1 := u2
            unfold f_X7_drought
            rw [pp_0_1 H, bs, ac_0 A (by decide), if_neg (fun z => c0 ((lv0 D).mp z)), if_neg c1, if_neg c2, if_neg c3, if_pos c4, pp_0_8 H, bs, bs, u1, bs, u2', bs]
            exact z7
          · exact nope (Or.inr (Or.inr (Or.inr (Or.inr c4))))
