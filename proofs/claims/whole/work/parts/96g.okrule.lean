/-! ===== rule ===== -/
def PRu (r : Nat) : Nat → Nat → Prop := fun a j => (a = 1 ∧ 1 ≤ j) ∨ a = 30 ∨ a = 31 ∨ (a = 0 ∧ j = 5) ∨ (a = 51 ∧ (j = 2 ∨ j = 17)) ∨ PAl r a j
theorem PRu_A {r a j : Nat} (z : PAl r a j) : PRu r a j := Or.inr (Or.inr (Or.inr (Or.inr (Or.inr z))))
theorem PRu_17 {r a j : Nat} (z : a = 51 ∧ (j = 2 ∨ j = 17)) : PRu r a j := Or.inr (Or.inr (Or.inr (Or.inr (Or.inl z))))
def QRu (r : Nat) : Nat → Nat → Prop := fun a j => a = 28 ∧ j = r
theorem fOk_mono {r r' : Nat} {α : SA} (h : r ≤ r') (f : fOk r α) : fOk r' α := by
  rcases f with f | ⟨k, k1, k2⟩
  · exact Or.inl f
  · exact Or.inr ⟨k, by omega, k2⟩
theorem rlF_eq {r : Nat} {R R' : Nat → RLT} {α : SA} (hr : r ≤ 6) (f : fOk r α) (hR : ∀ k, k < r → R' k = R k) : rlF R' α = rlF R α := by
  unfold rlF
  rcases f with f | ⟨k, k1, k2⟩
  · rw [f, if_pos (by decide), if_pos (by decide)]
  · rw [k2, if_neg (nI_pos (by omega)), if_neg (nI_pos (by omega)), nI_clamp (by omega)]
    exact hR k k1
theorem GI_rule {N r r' : Nat} {h h3 : Hp} {R R' : Nat → RLT} {α : SA} (g : GI N h r R α) (F : Fx (PRu r) (QRu r) h h3) (hT : TAPE h3) (e5 : hI h3 0 5 = nI r') (e2 : hI h3 51 2 = nI r') (hr : r' = r ∨ (r' = r + 1 ∧ r < 6 ∧ ∃ q, hP h3 28 r = some q ∧ Rc N h3 (some q) (R' r) ∧ q + 4 ≤ hN h3 ∧ hN h ≤ q ∧ Rm N h3 (nI r) (R' r))) (hR : ∀ k, k < r → R' k = R k) : GI N h3 r' R' α := by
  obtain ⟨g1, A, M, O, f, T, g7, g8, g9⟩ := g
  have H := M.1
  have h77 := H.2.2
  have r6 := T.2.2.1
  have rr : r ≤ r' := by rcases hr with e | ⟨e, _⟩ <;> omega
  have hq : ∀ x j, QRu r x j → QN x j := fun x j z => Or.inr z.1
  have H3 : SHP h3 := SHP_Fx F hq H
  have e62 : hI h3 62 = hI h 62 := Fx_row F (by omega) (fun j z => by unfold PRu PAl at z; omega)
  have pi : ∀ k, hP h3 27 k = hP h 27 k := fun k => Fx_p F (by omega) (fun z => by unfold QRu at z; omega)
  have pr : ∀ k, k ≠ r → hP h3 28 k = hP h 28 k := fun k hk => Fx_p F (by omega) (fun z => hk z.2)
  refine ⟨hT, Ac_Fx F hq (by omega) (by omega) (fun x j h1 h2 z => by unfold PRu PAl at z; omega) A, ⟨H3, by rw [e62]; exact M.2⟩, O, fOk_mono rr f, ⟨e5, e2, ?_, fun k hk => ?_⟩, ?_, ⟨?_, ?_⟩, ?_⟩
  · rcases hr with e | ⟨e, e', _⟩ <;> omega
  · by_cases kr : k < r
    · obtain ⟨⟨q, q1, q2, q3⟩, q4⟩ := T.2.2.2 k kr
      rw [hR k kr]
      refine ⟨⟨q, by rw [pr k (by omega)]; exact q1, Rc_Fx F hq q3 (fun i z => by have := Rc_q77 q2 q rfl; unfold PRu PAl at z; omega) q2, Nat.le_trans q3 F.1⟩, Rm_w ?_ q4⟩
      rw [nI_clamp (by omega)]
      exact ⟨fun j h1 h2 => Fx_i F (by omega) (fun z => by unfold PRu PAl at z; omega), fun j h1 h2 => Fx_i F (by omega) (fun z => by unfold PRu PAl at z; omega), Fx_i F (by omega) (fun z => by unfold PRu PAl at z; omega)⟩
    · rcases hr with e | ⟨e, e', q, q1, q2, q3, q4, q5⟩
      · omega
      · have : k = r := by omega
        subst this
        exact ⟨⟨q, q1, q2, q3⟩, q5⟩
  · intro k hk
    rw [pi k, Fx_i F (x := 76) (j := k) (by omega) (fun z => by unfold PRu PAl at z; omega)]
    rcases g7 k hk with t | ⟨t1, s', β, s1, s2, s3, s4, s5, s6, s7⟩
    · exact Or.inl t
    · refine Or.inr ⟨t1, s', β, s1, s2, Nat.le_trans s3 F.1, Ac_Fx F hq s3 (Or.inr s2) (fun x j h1 h2 z => by unfold PRu PAl at z; omega) s4, Sd_congr s6.1 (fun i hi => ?_) s5, s6, fOk_mono rr s7⟩
      exact Fx_i F (by omega) (fun z => by unfold PRu PAl at z; omega)
  · intro a b sa sb ha hb hab pa pb
    rw [pi] at pa pb
    exact g8.1 a b sa sb ha hb hab pa pb
  · intro a j sa q ha hj pa pq
    rw [pi] at pa
    by_cases jr : j < r
    · rw [pr j (by omega)] at pq
      exact g8.2 a j sa q ha jr pa pq
    · rcases hr with e | ⟨e, e', q', q1, q2, q3, q4, q5⟩
      · omega
      · have : j = r := by omega
        subst this
        rw [q1] at pq
        cases pq
        rcases g7 a ha with ⟨_, t2⟩ | ⟨t1, s', β, s1, s2, s3, _⟩
        · rw [t2] at pa; cases pa
        · rw [s1] at pa; cases pa; omega
  · rw [rlF_eq r6 f hR]
    exact CaT_Fx F (by omega) (fun x j z y => by unfold PRu PAl at z; unfold Prs at y; omega) g9
theorem anF_iff (U : Nat → Int64) : ∀ k c, anF U k c = true ↔ ∃ i, c ≤ i ∧ i < c + k ∧ U i = 1 := by
  intro k
  induction k with
  | zero => intro c; exact ⟨fun z => absurd (show false = true from z) (by decide), fun ⟨i, h1, h2, _⟩ => by omega⟩
  | succ k ih =>
    intro c
    rw [anF, Bool.or_eq_true_iff, ih]
    constructor
    · rintro (z | ⟨i, h1, h2, h3⟩)
      · exact ⟨c, Nat.le_refl _, by omega, of_decide_eq_true z⟩
      · exact ⟨i, by omega, by omega, h3⟩
    · rintro ⟨i, h1, h2, h3⟩
      by_cases z : i = c
      · subst z; exact Or.inl (decide_eq_true h3)
      · exact Or.inr ⟨i, by omega, by omega, h3⟩
theorem Od_x {a b : Hp} (P Q : Nat → Nat → Prop) (l : hN a ≤ hN b) (F : Od a b) : Fx P Q a b := ⟨l, fun x hx => ⟨(F x hx).1, fun j _ => by rw [(F x hx).2.1], fun j _ => by rw [(F x hx).2.2]⟩⟩
theorem ok_rule {N : Nat} (hN' : 5000 ≤ N) : Cok N (fun h => f_X7_rule N h 0) (fun h => f_X8_rule N h 51) := by
  rintro h ⟨r, R, α, g⟩
  have g' := g
  obtain ⟨⟨n, hn, t1, t2, t3, t4⟩, A, M, O, f, T, g7, g8, g9⟩ := g
  have H := M.1
  have h77 := H.2.2
  have r6 := T.2.2.1
  show ∃ v h1 h2, f_X7_rule N h 0 = some (v, h1) ∧ f_X8_rule N h1 51 = some (v, h2) ∧ GG N h2
  by_cases c6 : r = 6
  · refine ⟨-1, h, h, ?_, ?_, r, R, α, g'⟩
    · unfold f_X7_rule
      rw [T.1, if_neg (show ¬ nI r < 6 by rw [c6]; decide)]
    · unfold f_X8_rule
      rw [T.2.1, if_pos (show nI r = 6 by rw [c6]; rfl)]
  have hr : r < 6 := by omega
  have hB : BY (hI h 2) n := t4
  have TP : ∀ g : Hp, hI g 1 1 = 0 → hI g 51 1 = 0 → TAPE g := fun g a b => ⟨0, by decide, a, b, fun i hi => absurd hi (Nat.not_lt_zero i), fun i hi => absurd hi (Nat.not_lt_zero i)⟩
  obtain ⟨h1, i1, C1, F1⟩ := r_read hN' H rfl t1 hn
  have H1 := Fr_SHP F1 H
  -- the reference, at a heap whose tape is as h's
  have ref : ∀ g1 : Hp, SHP g1 → Fx (PRu r) (QRu r) h g1 → (∀ a j, 51 ≤ a → a < 77 → hI g1 a j = hI h a j) → ∃ v g2, f_X8_rule N g1 51 = (if v = 0 then some (-2 - hI g2 51 15, g2) else some (nI r, sI g2 51 2 (nI (r + 1)))) ∧ Fr (fun a j => (a = 51 ∧ j = 17) ∨ PAl r a j) g1 g2 ∧ hI g2 51 1 = 0 ∧ AO r g2 v (yLp (hI h 2) n 13 (.inr (skp (hI h 2) n 0), [], 0)) := by
    intro g1 G1 _ eq
    unfold f_X8_rule
    rw [eq 51 2 (by decide) (by decide), T.2.1, if_neg (show ¬ nI r = 6 from fun z => c6 ((nI_eq (a := r) (b := 6) (by omega) (by decide)).mp z)), lts]
    have F2 : Fr (fun a j => a = 51 ∧ j = 17) g1 (sI g1 51 17 (nI r)) := Fr_sI _ _ _ _ ⟨rfl, rfl⟩
    have q2 : hI (sI g1 51 17 (nI r)) 51 17 = nI r := by rw [hI_sI, if_pos ⟨rfl, rfl⟩]
    generalize sI g1 51 17 (nI r) = g2 at F2 q2 ⊢
    have G2 := Fr_SHP F2 G1
    rw [pp_51_6 G2, bs, q2, ll_56 G2, if_inI hr (by omega), lts, nI_clamp (by omega)]
    have F3 : Fr (fun a j => a = 56 ∧ j = r) g2 (sI g2 56 r 0) := Fr_sI _ _ _ _ ⟨rfl, rfl⟩
    have q3 : hI (sI g2 56 r 0) 56 r = 0 := by rw [hI_sI, if_pos ⟨rfl, rfl⟩]
    generalize sI g2 56 r 0 = g3 at F3 q3 ⊢
    have G3 := Fr_SHP F3 G2
    have F13 : Fr (fun a j => (a = 51 ∧ j = 17) ∨ (a = 56 ∧ j = r)) g1 g3 := Fr_trans (Fr_mono F2 (fun a j z => Or.inl z)) (Fr_mono F3 (fun a j z => Or.inr z))
    obtain ⟨v, g4, a1, a2, a3, a4⟩ := v_reads (t := hI h 2) hN' hB G3 (by rw [F13.2.2.2 51 1 (by omega), eq 51 1 (by decide) (by decide)]; exact t2) hn (fun i hi => by rw [F13.2.2.2 52 i (by omega), eq 52 i (by decide) (by decide)]; exact (t3 i hi).symm) (by rw [F3.2.2.2 51 17 (by omega)]; exact q2) hr q3
    refine ⟨v, g4, ?_, Fr_trans (Fr_mono F13 (fun a j z => by unfold PAl; omega)) (Fr_mono a2 (fun a j z => Or.inr z)), a3, a4⟩
    rw [a1, b2s]
    by_cases z : v = 0
    · rw [if_pos z, if_pos z]
    · have e2 : hI g4 51 2 = nI r := by
        rw [a2.2.2.2 51 2 (fun z => by unfold PAl at z; omega), F13.2.2.2 51 2 (by omega), eq 51 2 (by decide) (by decide)]
        exact T.2.1
      rw [if_neg z, if_neg z, lts, e2, nI_1, hI_sI, if_pos ⟨rfl, rfl⟩, n_1, pk_sub (by omega), show r + 1 - 1 = r by omega]
  generalize hZ : yLp (hI h 2) n 13 (.inr (skp (hI h 2) n 0), [], 0) = Z at i1 C1 ref
  obtain ⟨b, x, cs, ct⟩ := Z
  have FP : Fr (PRu r) h h1 := Fr_mono F1 (fun a j z => by unfold PY at z; unfold PRu; omega)
  have FX1 : Fx (PRu r) (QRu r) h h1 := Fq_x _ (Fr_q FP)
  have n1 : hN h1 = hN h := F1.1.1
  have up1 : ∀ a j, 51 ≤ a → hI h1 a j = hI h a j := fun a j ha => F1.2.2.2 a j (fun z => by unfold PY at z; omega)
  cases b with
  | false =>
    have F2 : Fr (fun a j => a = 1 ∧ j = 1) h1 (sI h1 1 1 0) := Fr_sI _ _ _ _ ⟨rfl, rfl⟩
    have q2 : hI (sI h1 1 1 0) 1 1 = 0 := by rw [hI_sI, if_pos ⟨rfl, rfl⟩]
    have H2 := Fr_SHP F2 H1
    have e7 : f_X7_rule N h 0 = some (-2 - xE x, sI h1 1 1 0) := by
      unfold f_X7_rule
      rw [T.1, if_pos (show nI r < 6 from nI_lt (b := 6) hr (by decide)), pp_0_7 H, bs, i1, if_neg (show ¬ (false, x, cs, ct).1 = true from fun z => Bool.noConfusion z), b2s, pp_0_0 H1, bs, lts, if_pos rfl, pp_0_0 H2, bs, F2.2.2.2 1 6 (by omega), TX_e C1.1]
    generalize sI h1 1 1 0 = h2 at F2 q2 H2 e7
    have FX2 : Fx (PRu r) (QRu r) h h2 := Fx_trans FX1 (Fq_x _ (Fr_q (Fr_mono F2 (fun a j z => by unfold PRu; omega))))
    obtain ⟨v, g2, a1, a2, a3, a4⟩ := ref h2 H2 FX2 (fun a j h1 h2 => by rw [F2.2.2.2 a j (by omega), up1 a j h1])
    rcases a4 with ⟨v0, _, fl, d1, d2, d3⟩ | ⟨_, z, _⟩
    · have d1' : x = .inl fl := d1
      rw [v0, if_pos rfl, d3] at a1
      have ex : xE x = fl := by rw [d1']; rfl
      rw [ex] at e7
      have FX3 : Fx (PRu r) (QRu r) h g2 := Fx_trans FX2 (Fq_x _ (Fr_q (Fr_mono a2 (fun a j z => z.elim (fun y => PRu_17 ⟨y.1, Or.inr y.2⟩) PRu_A))))
      refine ⟨-2 - fl, h2, g2, e7, a1, r, R, α, GI_rule g' FX3 (TP g2 ?_ a3) ?_ ?_ (Or.inl rfl) (fun _ _ => rfl)⟩
      · rw [a2.2.2.2 1 1 (fun z => by unfold PAl at z; omega)]; exact q2
      · rw [a2.2.2.2 0 5 (fun z => by unfold PAl at z; omega), F2.2.2.2 0 5 (by omega), F1.2.2.2 0 5 (fun z => by unfold PY at z; omega)]; exact T.1
      · rw [a2.2.2.2 51 2 (fun z => by unfold PAl at z; omega), F2.2.2.2 51 2 (by omega), F1.2.2.2 51 2 (fun z => by unfold PY at z; omega)]; exact T.2.1
    · cases z
  | true =>
    obtain ⟨C0, C2, C3, C4, C5⟩ := C1
    have C2' : hI h1 30 2 = nI cs.length := C2
    have C3' : ∀ i, i < cs.length → hI h1 31 i = cs.getD i 0 := C3
    have C4' : cs.length ≤ 400 := C4
    obtain ⟨h2, k1, k2, k3, k4, k5, k6⟩ := r_al H1 C2' C4'
    rw [n1] at k1 k2 k3 k4 k5
    have FX12 : ∀ P Q : Nat → Nat → Prop, Fx P Q h1 h2 := fun P Q => Od_x P Q (by omega) k6
    have H2 : SHP h2 := SHP_Fx (FX12 (PRu r) (QRu r)) (fun x j z => Or.inr z.1) H1
    have F3 : Fr (fun a j => a = 1 ∧ j = 1) h2 (sI h2 1 1 0) := Fr_sI _ _ _ _ ⟨rfl, rfl⟩
    have q3 : hI (sI h2 1 1 0) 1 1 = 0 := by rw [hI_sI, if_pos ⟨rfl, rfl⟩]
    have e7a : f_X7_rule N h 0 = Option.bind (hP (sI h2 1 1 0) 0 4) (fun q8 => if 0 ≤ hI (sI h2 1 1 0) 0 5 ∧ (hI (sI h2 1 1 0) 0 5).toNatClampNeg < hL (sI h2 1 1 0) q8 then (lt (sP (sI h2 1 1 0) q8 ((hI (sI h2 1 1 0) 0 5).toNatClampNeg) (some (hN h))) (fun h11 => lt (sI h11 0 5 ((hI h11 0 5) + (1 : Int32))) (fun h12 => some (((hI h12 0 5) - (1 : Int32), h12))))) else none) := by
      unfold f_X7_rule
      rw [T.1, if_pos (show nI r < 6 from nI_lt (b := 6) hr (by decide)), pp_0_7 H, bs, i1, if_pos rfl, k1, b2s, pp_0_0 H2, bs, lts, if_neg (by simp)]
      rfl
    generalize sI h2 1 1 0 = h3 at F3 q3 e7a
    have H3 := Fr_SHP F3 H2
    have e5 : hI h3 0 5 = nI r := by rw [F3.2.2.2 0 5 (by omega), Fx_i (FX12 (fun _ _ => False) (fun _ _ => False)) (by omega) (fun z => z), F1.2.2.2 0 5 (fun z => by unfold PY at z; omega)]; exact T.1
    rw [pp_0_4 H3, bs, e5, ll_28 H3, if_inI hr (by omega), lts, nI_clamp (by omega)] at e7a
    have F4 : Fx (fun _ _ => False) (QRu r) h3 (sP h3 28 r (some (hN h))) := ⟨by rw [hN_sP]; exact Nat.le_refl _, fun x hx => ⟨by rw [hL_sP], fun j hj => by rw [hP_sP, if_neg (show ¬ (x = 28 ∧ j = r) from hj)], fun j _ => by rw [hI_sP]⟩⟩
    have p4 : hP (sP h3 28 r (some (hN h))) 28 r = some (hN h) := by rw [hP_sP, if_pos ⟨rfl, rfl⟩]
    have i4 : ∀ a j, hI (sP h3 28 r (some (hN h))) a j = hI h3 a j := fun a j => by rw [hI_sP]
    generalize sP h3 28 r (some (hN h)) = h4 at F4 p4 i4 e7a
    have H4 : SHP h4 := SHP_Fx F4 (fun x j z => Or.inr z.1) H3
    rw [lts, i4, e5, nI_1] at e7a
    have F5 : Fr (fun a j => a = 0 ∧ j = 5) h4 (sI h4 0 5 (nI (r + 1))) := Fr_sI _ _ _ _ ⟨rfl, rfl⟩
    have q5 : hI (sI h4 0 5 (nI (r + 1))) 0 5 = nI (r + 1) := by rw [hI_sI, if_pos ⟨rfl, rfl⟩]
    generalize sI h4 0 5 (nI (r + 1)) = h5 at F5 q5 e7a
    rw [q5, n_1, pk_sub (by omega), show r + 1 - 1 = r by omega] at e7a
    have H5 := Fr_SHP F5 H4
    have FX25 : Fx (PRu r) (QRu r) h2 h5 := Fx_trans (Fq_x _ (Fr_q (Fr_mono F3 (fun a j z => by unfold PRu; omega)))) (Fx_trans (Fx_mono F4 (fun _ _ z => z.elim) (fun _ _ z => z)) (Fq_x _ (Fr_q (Fr_mono F5 (fun a j z => by unfold PRu; omega)))))
    have FX5 : Fx (PRu r) (QRu r) h h5 := Fx_trans FX1 (Fx_trans (FX12 _ _) FX25)
    have up5 : ∀ a j, 51 ≤ a → a < 77 → hI h5 a j = hI h a j := fun a j h1 h2 => by
      rw [F5.2.2.2 a j (by omega), i4, F3.2.2.2 a j (by omega), Fx_i (FX12 (fun _ _ => False) (fun _ _ => False)) (by omega) (fun z => z), up1 a j h1]
    obtain ⟨v, g2, a1, a2, a3, a4⟩ := ref h5 H5 FX5 up5
    rcases a4 with ⟨_, z, _⟩ | ⟨v1, _, s, c, m, cs', bg, sq, U, d1, d2, d3, d4, d5, d6⟩
    · cases z
    · have d1' : (x, cs, ct) = (.inr s, cs', nI m) := d1
      injection d1' with y1 y2
      injection y2 with y2 y3
      subst y2
      rw [v1, if_neg (by decide)] at a1
      have F6 : Fr (fun a j => a = 51 ∧ j = 2) g2 (sI g2 51 2 (nI (r + 1))) := Fr_sI _ _ _ _ ⟨rfl, rfl⟩
      have q6 : hI (sI g2 51 2 (nI (r + 1))) 51 2 = nI (r + 1) := by rw [hI_sI, if_pos ⟨rfl, rfl⟩]
      generalize sI g2 51 2 (nI (r + 1)) = g3 at F6 q6 a1
      have F53 : Fr (fun a j => (a = 51 ∧ (j = 2 ∨ j = 17)) ∨ PAl r a j) h5 g3 := Fr_trans (Fr_mono a2 (fun a j z => z.elim (fun y => Or.inl ⟨y.1, Or.inr y.2⟩) Or.inr)) (Fr_mono F6 (fun a j z => Or.inl ⟨z.1, Or.inl z.2⟩))
      have FX53 : Fx (PRu r) (QRu r) h5 g3 := Fq_x _ (Fr_q (Fr_mono F53 (fun a j z => z.elim PRu_17 PRu_A)))
      obtain ⟨e1, e2, e3⟩ := d6
      obtain ⟨m1, V, hV⟩ := e3 (by omega)
      have RC : Rc N h2 (some (hN h)) (fun w => !decide (V w = 0)) := c_Rc hN' k3 k4 C4' (fun j hj => by rw [k5 j hj]; exact C3' j hj) V (fun w => (hV w).2.1)
      have RM : Rm N g3 (nI r) (fun w => anF (fun c => U c w) c 0) := m_Rm hN' hr d4 (RT_Fr F6 (fun j z => by omega) (fun j z => by omega) (fun j z => by omega) d5) (fun w i hi => (e1 i hi w).2)
      have ef : (fun w => anF (fun c => U c w) c 0) = (fun w => !decide (V w = 0)) := by
        funext w
        obtain ⟨w1, w2, w3⟩ := hV w
        by_cases z : V w = 0
        · rw [decide_eq_true z]
          refine Bool.eq_false_iff.mpr (fun y => ?_)
          obtain ⟨i, j1, j2, j3⟩ := (anF_iff _ _ _).mp y
          have j3' : U i w = 1 := j3
          rw [w3.mp z i (by omega)] at j3'
          exact absurd j3' (by decide)
        · rw [decide_eq_false z]
          apply (anF_iff _ _ _).mpr
          apply Classical.byContradiction
          intro y
          apply z
          apply w3.mpr
          intro i hi
          rcases (e1 i hi w).1 with u | u
          · exact u
          · exact absurd ⟨i, Nat.zero_le _, by omega, u⟩ y
      rw [ef] at RM
      refine ⟨nI r, h5, g3, e7a, a1, r + 1, fun k => if k = r then (fun w => !decide (V w = 0)) else R k, α, GI_rule g' (Fx_trans FX5 FX53) (TP g3 ?_ ?_) ?_ q6 (Or.inr ⟨rfl, hr, hN h, ?_, ?_, ?_, Nat.le_refl _, ?_⟩) (fun k hk => if_neg (by omega))⟩
      · rw [F53.2.2.2 1 1 (fun z => by unfold PAl at z; omega), F5.2.2.2 1 1 (by omega), i4]; exact q3
      · rw [F6.2.2.2 51 1 (by omega)]; exact a3
      · rw [F53.2.2.2 0 5 (fun z => by unfold PAl at z; omega)]; exact q5
      · rw [F53.2.1, F5.2.1]; exact p4
      · rw [if_pos rfl]
        exact Rc_Fx (Fx_trans FX25 FX53) (fun x j z => Or.inr z.1) (by omega) (fun j z => by unfold PRu PAl at z; omega) RC
      · have := (Fx_trans FX25 FX53).1
        omega
      · rw [if_pos rfl]
        exact RM
