/-! ===== the reference's search: it leads to others ===== -/
theorem RpM_of {P : Nat → Nat → Prop} {h h' : Hp} {X : XS} {G : List Nat} (F : Fr P h h') (h1 : ∀ j, j = 36 ∨ j = 37 ∨ j = 38 → ¬ P 51 j) (h2 : ∀ a j, 64 ≤ a → a ≤ 71 → ¬ P a j) (R : RpM h X G) : RpM h' X G := by
  obtain ⟨r1, r2, r3, r4, r5, ⟨sl, r6, r6'⟩, r7⟩ := R
  have e : ∀ a, 64 ≤ a → a ≤ 71 → hI h' a = hI h a := fun a ha ha' => Fr_row F (fun j => h2 a j ha ha')
  refine ⟨by rw [F.2.2.2 51 36 (h1 36 (by simp))]; exact r1, by rw [F.2.2.2 51 38 (h1 38 (by simp))]; exact r2, by rw [F.2.2.2 51 37 (h1 37 (by simp))]; exact r3, fun i hi k hk => ?_, fun i hi => ?_, ⟨sl, fun p hp => ?_, r6'⟩, fun j hj => ?_⟩
  · rw [e 64 (by decide) (by decide)]; exact r4 i hi k hk
  · rw [e 65 (by decide) (by decide), e 66 (by decide) (by decide), e 67 (by decide) (by decide), e 68 (by decide) (by decide)]; exact r5 i hi
  · rw [e 71 (by decide) (by decide)]; exact r6 p hp
  · rw [e 69 (by decide) (by decide), e 70 (by decide) (by decide)]; exact r7 j hj
def PLd : Nat → Nat → Prop := fun a j => a = 62 ∨ a = 64 ∨ a = 65 ∨ a = 66 ∨ a = 67 ∨ a = 68 ∨ a = 71 ∨ (a = 51 ∧ (j = 36 ∨ j = 38))
theorem m_leads43 {h : Hp} {N : Nat} {α : SA} {rl : RLT} {X : XS} {G : List Nat} {s x : Nat} {p w : Int32} (hN : 5000 ≤ N) (M : Am h (pw (xs X s) p)) (I : XI α rl X G) (h0G : 0 ∈ G) (hs : s ∈ G) (hx : x ∈ TL (xs X s) rl) (ho : xo X = false) (Dα : Dm α) (R : RpM h X G) : ∃ h', f_X8_leads_43 N h 51 (nI s) (nI x) (bI (td (xs X s) x)) (bI (tu (xs X s) x)) w (xc X s) = some h' ∧ RpM h' (rch X (nx (xs X s) x) s x (xc X s + w)) G ∧ (∃ q, Am h' (dN (pw (xs X s) q) x 1)) ∧ Fr PLd h h' := by
  have sl0 := I.2.2.2.2.1 s hs
  have n15 := I.1.2
  obtain ⟨Os, Is⟩ := I.2.1 s sl0
  have Opw := Ok_pw p Os
  have smp := pw_Sm (xs X s) p
  have hx' : x ∈ TL (pw (xs X s) p) rl := by rw [Sm_TL smp]; exact hx
  obtain ⟨h7, q1, q2, q3, q4, M7, F7⟩ := m_tipx M Opw.1 hx'
  rw [Sm_tk smp, Sm_td smp, Sm_tu smp] at q4
  rw [Sm_tk smp] at q1
  have H7 := M7.1
  have R7 : RpM h7 X G := RpM_of F7 (fun j _ (z : 51 = 62) => by omega) (fun a j h1 h2 (z : a = 62) => by omega) R
  obtain ⟨r1, r2, r3, r4, r5, ⟨sl, r6, r6'⟩, r7⟩ := R7
  have Onx := Ok_nx Os hx
  have Inx := Irr_nx Is Os.1 hx
  have ec : ∀ k, k < 14 → ce (dN (pw (xs X s) p) x 1) k = ce (nx (xs X s) x) k := fun k _ => by
    rw [Sm_ce (Sm_dN smp x 1), ce_nx]
  have ef : (fun i => hsM (xs X i)) = fun i => hsM (xs X i) := rfl
  have hsl : hsM (nx (xs X s) x) < 4096 := Nat.mod_lt _ (by decide)
  have hst := I.2.1
  have hds := I.2.2.1
  obtain ⟨d, d1, d2, d3⟩ := prb r6' n15 (fun i => sameB (nx (xs X s) x) (xs X i)) hsl
  have hmt : ∀ i, i < xn X → (sameB (nx (xs X s) x) (xs X i) ↔ ∀ k, k < 14 → ce (xs X i) k = ce (dN (pw (xs X s) p) x 1) k) := fun i hi => by
    rw [ce_same Inx (hst i hi).2 Dα]
    exact ⟨fun z k hk => (z k hk).trans (ec k hk).symm, fun z k hk => (z k hk).trans (ec k hk)⟩
  have hslot : f_X8_slotNow N h7 51 = some (nI ((hsM (nx (xs X s) x) + d) % 4096)) := by
    have e1 := m_hash_l (N := N) M7 Onx ec 14 0 N (by omega) (by omega)
    have e2 := m_slot_l (N := N) (st := xs X) (by omega) M7 n15 r4 hmt (fun p hp => ⟨r6 p hp, sl_le r6' hp⟩) (p0 := hsM (nx (xs X s) x)) d1 d2 d3 d 0 N (by omega) (by omega)
    rw [Nat.add_zero, Nat.mod_eq_of_lt hsl] at e2
    exact e1.trans e2
  have hp : (hsM (nx (xs X s) x) + d) % 4096 < 4096 := Nat.mod_lt _ (by decide)
  generalize hpe : (hsM (nx (xs X s) x) + d) % 4096 = pp at hslot hp d3
  have hle := sl_le r6' hp
  have hash_eq : ∀ i, i < xn X → sameB (nx (xs X s) x) (xs X i) → hsM (xs X i) = hsM (nx (xs X s) x) := fun i hi hsm => by
    have z := (ce_same Inx (hst i hi).2 Dα).mp hsm
    have : ∀ k, k ≤ 14 → hsS (xs X i) k = hsS (nx (xs X s) x) k := by
      intro k
      induction k with
      | zero => intro _; rfl
      | succ k ih =>
        intro hk
        show (hsS (xs X i) k * 31 + cv' (xs X i) k) % 1000003 = (hsS (nx (xs X s) x) k * 31 + cv' (nx (xs X s) x) k) % 1000003
        unfold cv'
        rw [ih (by omega), z k (by omega)]
    unfold hsM
    rw [this 14 (by omega)]
  unfold f_X8_leads_43
  rw [q1, bs, q4, b2s, hslot, bs, pp_51_35 H7, bs, ll_71 H7, if_inI hp (by omega), nI_clamp (by omega), r6 pp hp]
  have h0n : ∀ j, xg X j = false → j ≠ 0 := fun j hj e => by subst e; rw [(I.2.2.2.1 0).mpr h0G] at hj; cases hj
  by_cases h0 : sl pp = 0
  · have none_ : fnd (xs X) (nx (xs X s) x) (xn X) = none := by
      cases e : fnd (xs X) (nx (xs X s) x) (xn X) with
      | none => rfl
      | some i =>
        obtain ⟨i1, i2⟩ := fnd_some _ e
        exact absurd i2 (prb_0 r6' d2 (by rw [hpe]; exact h0) hash_eq i i1)
    rw [h0, if_pos (show nI 0 = 0 from rfl), r1]
    unfold f_X8_leads_92
    by_cases h15 : xn X = 1500
    · rw [rch_c3 none_ h15, if_pos (show nI (xn X) = 1500 by rw [h15]; rfl), if_pos (by decide), lts, if_neg (by rw [hI_sI, if_pos ⟨rfl, rfl⟩]; decide)]
      have F : Fr (fun a j => a = 51 ∧ j = 38) h7 (sI h7 51 38 1) := Fr_sI _ _ _ _ ⟨rfl, rfl⟩
      have e : ∀ a, a ≠ 51 → hI (sI h7 51 38 1) a = hI h7 a := fun a ha => Fr_row F (fun j z => ha z.1)
      refine ⟨_, rfl, ?_, ⟨p, Am_Fr F (fun j z => by omega) M7⟩, Fr_trans (Fr_mono F7 (fun a j z => Or.inl z)) (Fr_mono F (fun a j z => by unfold PLd; omega))⟩
      refine ⟨by rw [F.2.2.2 51 36 (fun z => by omega)]; exact r1, by rw [hI_sI, if_pos ⟨rfl, rfl⟩]; rfl, by rw [F.2.2.2 51 37 (fun z => by omega)]; exact r3, fun i hi k hk => by rw [e 64 (by decide)]; exact r4 i hi k hk, fun i hi => by rw [e 65 (by decide), e 66 (by decide), e 67 (by decide), e 68 (by decide)]; exact r5 i hi, ⟨sl, fun q hq => by rw [e 71 (by decide)]; exact r6 q hq, r6'⟩, fun j hj => by rw [e 69 (by decide), e 70 (by decide)]; exact r7 j hj⟩
    · have hlt : xn X < 1500 := by omega
      rw [rch_c4 none_ h15, if_neg (show ¬ nI (xn X) = 1500 by rw [show (1500 : Int32) = nI 1500 from rfl, nI_eq (by omega) (by decide)]; exact h15), if_pos (by decide), lts, if_pos (by rw [hI_sI, if_pos ⟨rfl, rfl⟩])]
      have F1 : Fr (fun a j => a = 51 ∧ j = 38) h7 (sI h7 51 38 0) := Fr_sI _ _ _ _ ⟨rfl, rfl⟩
      have g38 : hI (sI h7 51 38 0) 51 38 = 0 := by rw [hI_sI, if_pos ⟨rfl, rfl⟩]
      generalize sI h7 51 38 0 = h8 at F1 g38 ⊢
      have M8 : Am h8 (dN (pw (xs X s) p) x 1) := Am_Fr F1 (fun j z => by omega) M7
      obtain ⟨h9, a1, a2, a3, a4, a5, a6, a7, a8, F9⟩ := m_comes_l (N := N) (p := pp) (c := xc X s + w) (f := nI s) (b := nI x) hlt hp (h0 := h8) 14 0 N h8 (by omega) (by omega) M8 (by rw [F1.2.2.2 51 36 (fun z => by omega)]; exact r1) (fun j hj => absurd hj (Nat.not_lt_zero j)) (Fr_refl h8)
      have a1' : f_X8_comes N h8 51 (nI pp) (xc X s + w) (nI s) (nI x) = some h9 := a1
      rw [a1', bs]
      have e8 : ∀ a, a ≠ 51 → hI h8 a = hI h7 a := fun a ha => Fr_row F1 (fun j z => ha z.1)
      refine ⟨h9, rfl, ?_, ⟨p, Am_Fr F9 (fun j z => by omega) M8⟩, Fr_trans (Fr_mono F7 (fun a j z => Or.inl z)) (Fr_trans (Fr_mono F1 (fun a j z => by unfold PLd; omega)) (Fr_mono F9 (fun a j z => by unfold PLd; omega)))⟩
      have old : ∀ i, i < xn X → ∀ a, a = 65 ∨ a = 66 ∨ a = 67 ∨ a = 68 → hI h9 a i = hI h7 a i := fun i hi a ha => by
        rw [F9.2.2.2 a i (fun z => by omega), e8 a (by omega)]
      refine ⟨a8, ?_, ?_, fun i hi k hk => ?_, fun i hi => ?_, ⟨fu sl pp (xn X + 1), fun q hq => ?_, ?_⟩, fun j hj => ?_⟩
      · rw [F9.2.2.2 51 38 (fun z => by omega), g38]
        show 0 = b2i (xo X)
        rw [ho]
        rfl
      · rw [F9.2.2.2 51 37 (fun z => by omega), F1.2.2.2 51 37 (fun z => by omega)]; exact r3
      · have hi' : i < xn X + 1 := hi
        show _ = ce (fu (xs X) (xn X) (nx (xs X s) x) i) k
        by_cases e : i = xn X
        · subst e
          rw [fu_s, a2 k hk, ec k hk]
        · rw [fu_o _ _ e, F9.2.2.2 64 _ (fun z => by omega), e8 64 (by decide)]
          exact r4 i (by omega) k hk
      · have hi' : i < xn X + 1 := hi
        show hI h9 65 i = fu (xc X) (xn X) (xc X s + w) i ∧ hI h9 66 i = (if i = 0 then -1 else nI (fu (xf X) (xn X) s i)) ∧ (i ≠ 0 → hI h9 67 i = nI (fu (xb X) (xn X) x i)) ∧ hI h9 68 i = b2i (fu (xg X) (xn X) false i)
        by_cases e : i = xn X
        · subst e
          rw [fu_s, fu_s, fu_s, fu_s, if_neg (by have := I.1.1; omega)]
          exact ⟨a5, a6, fun _ => a7, a4⟩
        · rw [fu_o _ _ e, fu_o _ _ e, fu_o _ _ e, fu_o _ _ e, old i (by omega) 65 (by simp), old i (by omega) 66 (by simp), old i (by omega) 67 (by simp), old i (by omega) 68 (by simp)]
          exact r5 i (by omega)
      · by_cases e : q = pp
        · subst e; rw [fu_s]; exact a3
        · rw [fu_o _ _ e, F9.2.2.2 71 q (fun z => by omega), e8 71 (by decide)]
          exact r6 q hq
      · have := HI_add r6' d1 (fun e he => (d2 e he).1) (by rw [hpe]; exact h0)
        rw [hpe] at this
        refine HI_hs this (fun i hi => ?_)
        show hsM (fu (xs X) (xn X) (nx (xs X s) x) i) = _
        by_cases e : i = xn X
        · subst e; rw [fu_s, fu_s]
        · rw [fu_o _ _ e, fu_o _ _ e]
      · have gj : G.getD j 0 < xn X := I.2.2.2.2.1 _ (by
          rw [List.getD_eq_getElem?_getD, List.getElem?_eq_getElem hj]
          exact List.getElem_mem hj)
        show hI h9 69 j = nI (G.getD j 0) ∧ hI h9 70 j = hmS (fu (xs X) (xn X) (nx (xs X s) x) (G.getD j 0))
        rw [fu_o _ _ (by omega), F9.2.2.2 69 j (fun z => by omega), F9.2.2.2 70 j (fun z => by omega), e8 69 (by decide), e8 70 (by decide)]
        exact r7 j hj
  · have hsm := d3.resolve_left h0
    have hi : sl pp - 1 < xn X := by omega
    have some_ : fnd (xs X) (nx (xs X s) x) (xn X) = some (sl pp - 1) := by
      cases e : fnd (xs X) (nx (xs X s) x) (xn X) with
      | none => exact absurd hsm (fnd_none _ e _ hi)
      | some j =>
        obtain ⟨j1, j2⟩ := fnd_some _ e
        have bj := sameB_symm Inx (hst j j1).2 j2
        have : sameB (xs X j) (xs X (sl pp - 1)) := ⟨fun b hb => (bj.1 b hb).trans (hsm.1 b (by rw [Irr_b Inx]; rw [Irr_b (hst j j1).2] at hb; exact hb)), fun l hl => (bj.2 l hl).trans (hsm.2 l (by rw [Irr_l Inx]; rw [Irr_l (hst j j1).2] at hl; exact hl))⟩
        rw [hds j _ j1 hi this]
    have keep : RpM h7 X G := ⟨r1, r2, r3, r4, r5, ⟨sl, r6, r6'⟩, r7⟩
    have FK : Fr PLd h h7 := Fr_mono F7 (fun a j z => Or.inl z)
    rw [if_neg (nI_ne0 (by omega) (by omega)), bs, ll_71 H7, if_pos ⟨nI_pos' (by omega), hp⟩, lts, r6 pp hp, show nI (sl pp) - 1 = nI (sl pp - 1) by rw [n_1, pk_sub (by omega)]]
    generalize sl pp - 1 = i at hi some_ hsm ⊢
    obtain ⟨c1, c2, c3, c4⟩ := r5 i hi
    rw [pp_51_32 H7, bs, ll_68 H7, if_inI (by omega) (by omega), nI_clamp (by omega), c4]
    by_cases hg : xg X i = true
    · rw [if_neg (by rw [hg]; decide), rch_c1 some_ (Or.inl hg)]
      exact ⟨h7, rfl, keep, ⟨p, M7⟩, FK⟩
    · have hgf : xg X i = false := by simpa using hg
      rw [if_pos (by rw [b2i_0]; exact hgf), pp_51_29 H7, bs, ll_65 H7, if_pos ⟨nI_pos' (by omega), by omega⟩, c1]
      by_cases hc : xc X s + w < xc X i
      · rw [if_pos hc, bs, ll_65 H7, if_pos ⟨nI_pos' (by omega), by omega⟩, lts, rch_c2 some_ (fun z => by
          rcases z with z | z
          · exact hg z
          · exact Int32.not_le.mpr hc z)]
        have F1 : Fr (fun a j => (a = 65 ∨ a = 66 ∨ a = 67) ∧ j = i) h7 (sI h7 65 i (xc X s + w)) := Fr_sI _ _ _ _ (by omega)
        have g1 : hI (sI h7 65 i (xc X s + w)) 65 i = xc X s + w := by rw [hI_sI, if_pos ⟨rfl, rfl⟩]
        generalize sI h7 65 i (xc X s + w) = h8 at F1 g1 ⊢
        have H8 := Fr_SHP F1 H7
        rw [pp_51_30 H8, bs, ll_66 H8, if_pos ⟨nI_pos' (by omega), by omega⟩, lts]
        have F2 : Fr (fun a j => (a = 65 ∨ a = 66 ∨ a = 67) ∧ j = i) h7 (sI h8 66 i (nI s)) := Fr_trans F1 (Fr_sI _ _ _ _ (by omega))
        have g2 : hI (sI h8 66 i (nI s)) 66 i = nI s := by rw [hI_sI, if_pos ⟨rfl, rfl⟩]
        have g2' : hI (sI h8 66 i (nI s)) 65 i = xc X s + w := by rw [hI_sI, if_neg (by omega)]; exact g1
        generalize sI h8 66 i (nI s) = h9 at F2 g2 g2' ⊢
        have H9 := Fr_SHP F2 H7
        rw [pp_51_31 H9, bs, ll_67 H9, if_pos ⟨nI_pos' (by omega), by omega⟩, lts]
        have F3 : Fr (fun a j => (a = 65 ∨ a = 66 ∨ a = 67) ∧ j = i) h7 (sI h9 67 i (nI x)) := Fr_trans F2 (Fr_sI _ _ _ _ (by omega))
        have g3 : hI (sI h9 67 i (nI x)) 67 i = nI x := by rw [hI_sI, if_pos ⟨rfl, rfl⟩]
        have g3' : hI (sI h9 67 i (nI x)) 66 i = nI s := by rw [hI_sI, if_neg (by omega)]; exact g2
        have g3'' : hI (sI h9 67 i (nI x)) 65 i = xc X s + w := by rw [hI_sI, if_neg (by omega)]; exact g2'
        generalize sI h9 67 i (nI x) = h10 at F3 g3 g3' g3'' ⊢
        have i0 : i ≠ 0 := h0n i hgf
        refine ⟨h10, rfl, ?_, ⟨p, Am_Fr F3 (fun j z => by omega) M7⟩, Fr_trans FK (Fr_mono F3 (fun a j z => by unfold PLd; omega))⟩
        refine ⟨by rw [F3.2.2.2 51 36 (fun z => by omega)]; exact r1, by rw [F3.2.2.2 51 38 (fun z => by omega)]; exact r2, by rw [F3.2.2.2 51 37 (fun z => by omega)]; exact r3, fun j hj k hk => by rw [F3.2.2.2 64 _ (fun z => by omega)]; exact r4 j hj k hk, fun j hj => ?_, ⟨sl, fun q hq => by rw [F3.2.2.2 71 q (fun z => by omega)]; exact r6 q hq, r6'⟩, fun j hj => by rw [F3.2.2.2 69 j (fun z => by omega), F3.2.2.2 70 j (fun z => by omega)]; exact r7 j hj⟩
        show hI h10 65 j = fu (xc X) i (xc X s + w) j ∧ hI h10 66 j = (if j = 0 then -1 else nI (fu (xf X) i s j)) ∧ (j ≠ 0 → hI h10 67 j = nI (fu (xb X) i x j)) ∧ hI h10 68 j = b2i (xg X j)
        by_cases e : j = i
        · subst e
          rw [fu_s, fu_s, fu_s, if_neg i0, F3.2.2.2 68 j (fun z => by omega)]
          exact ⟨g3'', g3', fun _ => g3, c4⟩
        · rw [fu_o _ _ e, fu_o _ _ e, fu_o _ _ e, F3.2.2.2 65 j (fun z => e z.2), F3.2.2.2 66 j (fun z => e z.2), F3.2.2.2 67 j (fun z => e z.2), F3.2.2.2 68 j (fun z => by omega)]
          exact r5 j hj
      · rw [if_neg hc, rch_c1 some_ (Or.inr (Int32.not_lt.mp hc))]
        exact ⟨h7, rfl, keep, ⟨p, M7⟩, FK⟩
theorem m_leads {h : Hp} {N : Nat} {α : SA} {rl : RLT} {m : Bool} {X : XS} {G : List Nat} {s x : Nat} {p : Int32} (hN : 5000 ≤ N) (M : Am h (pw (xs X s) p)) (I : XI α rl X G) (h0G : 0 ∈ G) (hs : s ∈ G) (hx : x ∈ TL (xs X s) rl) (ho : xo X = false) (Dα : Dm α) (R : RpM h X G) : ∃ h', f_X8_leads N h 51 (nI s) (nI x) (b2i m) = some h' ∧ RpM h' (rch X (nx (xs X s) x) s x (xc X s + wgt m (xs X s) x)) G ∧ (∃ q, Am h' (dN (pw (xs X s) q) x 1)) ∧ Fr PLd h h' := by
  have sl0 := I.2.2.2.2.1 s hs
  have n15 := I.1.2
  obtain ⟨Os, Is⟩ := I.2.1 s sl0
  have Opw := Ok_pw p Os
  have smp := pw_Sm (xs X s) p
  have hx' : x ∈ TL (pw (xs X s) p) rl := by rw [Sm_TL smp]; exact hx
  obtain ⟨_, q1, q2, q3, _, _, _⟩ := m_tipx M Opw.1 hx'
  rw [Sm_td smp] at q2
  rw [Sm_tu smp] at q3
  have hd : td (xs X s) x ≤ bgs (pw (xs X s) p) := by rw [pw_b]; exact td_le _ _
  have hu : tu (xs X s) x ≤ bgs (pw (xs X s) p) := by rw [pw_b]; exact tu_le _ _
  unfold f_X8_leads
  rw [q2, bs, q3, bs, pp_51_29 M.1, bs, ll_65 M.1, if_inI (by omega) (by omega), nI_clamp (by omega), (R.2.2.2.2.1 s sl0).1]
  cases m with
  | false =>
    rw [if_pos (show b2i false = 0 from rfl), m_counted M Opw.1 hd hu, bs, Sm_Wo smp]
    exact m_leads43 hN M I h0G hs hx ho Dα R
  | true =>
    rw [if_neg (show ¬ b2i true = 0 by decide), m_needOf M Opw.1 hd hu, bs, Sm_Nd smp]
    exact m_leads43 hN M I h0G hs hx ho Dα R
theorem LF_tail {p : Nat → Bool} {x : Nat} {l : List Nat} : ∀ (m n : Nat), LF p m n = x :: l → n ≤ x ∧ x < n + m ∧ LF p (n + m - (x + 1)) (x + 1) = l
  | 0, n, h => by cases h
  | m + 1, n, h => by
    rw [LF] at h
    by_cases hp : p n = true
    · rw [if_pos hp] at h
      have h1 : n = x := (List.cons.inj h).1
      have h2 := (List.cons.inj h).2
      subst h1
      exact ⟨Nat.le_refl _, by omega, by rw [show n + (m + 1) - (n + 1) = m by omega]; exact h2⟩
    · rw [if_neg hp] at h
      obtain ⟨a, b, c⟩ := LF_tail m (n + 1) h
      exact ⟨by omega, by omega, by rw [show n + (m + 1) - (x + 1) = n + 1 + m - (x + 1) by omega]; exact c⟩
def PGi : Nat → Nat → Prop := fun a j => PLd a j ∨ PM a j
theorem Rm_PGi {a b : Hp} (F : Fr PGi a b) {N : Nat} {r : Int32} {rl : RLT} (H : Rm N a r rl) : Rm N b r rl := Rm_Fr F (fun j z => by unfold PGi PLd PM at z; omega) (fun j z => by unfold PGi PLd PM at z; omega) (fun j z => by unfold PGi PLd PM at z; omega) H
theorem m_inner {N : Nat} {α : SA} {rl : RLT} {m : Bool} {β : SA} {s : Nat} {G : List Nat} {s54 : Hp → Nat → Int32 → Int32 → Option Hp} (hN : 5000 ≤ N) (hs : s ∈ G) (h0G : 0 ∈ G) (Oα : Ok α) (Oβ : Ok β) (Iβ : Irr α β) : ∀ (l : List Nat) (n f : Nat) (h : Hp) (X : XS), l.length < f → n ≤ tM β → LF (lgl β rl) (tM β - n) n = l → XI α rl X G → xs X s = β → RpM h X G → hI h 63 3 = α 0 3 → Rm N h (α 0 5) rl → (∃ p, Am h (pw β p)) → ∃ h', f_X8_goesThrough_116 N s54 f h 51 (b2i m) (nI s) (hdI l) = f_X8_goesThrough_150 N s54 h' 51 (b2i m) ∧ RpM h' (spr m β s l X) G ∧ (∃ p, Am h' (pw β p)) ∧ Fr PGi h h'
  | [], n, f, h, X, hf, hn, hl, I, hX, R, K, Q, M => by
    obtain ⟨f, rfl⟩ : ∃ k, f = k + 1 := ⟨f - 1, by simp at hf; omega⟩
    rw [f_X8_goesThrough_116, if_pos (show hdI [] < 0 by decide)]
    exact ⟨h, rfl, R, M, Fr_refl h⟩
  | x :: l, n, f, h, X, hf, hn, hl, I, hX, R, K, Q, M => by
    rw [List.length_cons] at hf
    obtain ⟨f, rfl⟩ : ∃ k, f = k + 1 := ⟨f - 1, by omega⟩
    obtain ⟨p, M⟩ := M
    obtain ⟨t1, t2, t3⟩ := LF_tail _ _ hl
    have hxM : x < tM β := by omega
    have t343 := tM_le Oβ.1
    have hp : lgl β rl x = true := (LF_mem (tM β - n) n x (by rw [hl]; simp)).1
    have hx : x ∈ TL β rl := by
      have all : ∀ (m n : Nat), n ≤ x → x < n + m → x ∈ LF (lgl β rl) m n := by
        intro m
        induction m with
        | zero => intro n h1 h2; omega
        | succ m ih =>
          intro n h1 h2
          rw [LF]
          by_cases e : x = n
          · subst e; rw [if_pos hp]; simp
          · by_cases hq : lgl β rl n = true
            · rw [if_pos hq]; exact List.mem_cons_of_mem _ (ih (n + 1) (by omega) (by omega))
            · rw [if_neg hq]; exact ih (n + 1) (by omega) (by omega)
      exact all (tM β) 0 (by omega) (by omega)
    rw [f_X8_goesThrough_116, show hdI (x :: l) = nI x from rfl, if_neg (nI_pos (by omega)), R.2.1, spr]
    by_cases ho : xo X = true
    · rw [if_pos ho, if_neg (by rw [ho]; decide)]
      exact ⟨h, rfl, R, ⟨p, M⟩, Fr_refl h⟩
    · have hof : xo X = false := by simpa using ho
      have sl0 := I.2.2.2.2.1 s hs
      rw [if_neg ho, if_pos (by rw [hof]; rfl)]
      rw [← hX] at M hx
      obtain ⟨h1, q1, R1, ⟨p1, M1⟩, F1⟩ := m_leads (m := m) hN M I h0G hs hx hof Oα.1 R
      rw [hX] at R1 M1 hx
      rw [q1, bs]
      obtain ⟨I1, S1⟩ := XI_rch (c := xc X s + wgt m β x) I hs (by rw [hX]; exact hx)
      rw [hX] at I1 S1
      have e1 : xs (rch X (nx β x) s x (xc X s + wgt m β x)) s = β := (S1.2.1 s sl0).trans hX
      have sl1 := I1.2.2.2.2.1 s hs
      have K1 : hI h1 63 3 = α 0 3 := by rw [F1.2.2.2 63 3 (fun z => by unfold PLd at z; omega)]; exact K
      obtain ⟨h2, q2, M2, F2⟩ := m_stands (N := N) (n := xn (rch X (nx β x) s x (xc X s + wgt m β x))) (st := xs (rch X (nx β x) s x (xc X s + wgt m β x))) (i := s) (by omega) M1 Oα.1 (Irq_dN Iβ p1 x) sl1 I1.1.2 (by rw [e1]; exact Iβ) (fun k hk => R1.2.2.2.1 s sl1 k hk) K1
      rw [e1] at M2
      rw [q2, bs, nI_1]
      have R2 := RpM_of F2 (fun j _ (z : 51 = 62) => by omega) (fun a j h1 h2 (z : a = 62) => by omega) R1
      generalize dN (pw β p1) x 1 0 4 = p2 at M2
      have F12 : Fr PGi h h2 := Fr_trans (Fr_mono F1 (fun a j z => Or.inl z)) (Fr_mono F2 (fun a j z => Or.inl (Or.inl z)))
      have Q2 := Rm_PGi F12 Q
      have smp := pw_Sm β p2
      have h05 : pw β p2 0 5 = α 0 5 := by rw [pw_0 _ _ (by decide), Iβ.1 0 (by decide) (by decide)]
      obtain ⟨h3, q3, F3⟩ := m_first (N := N) (rl := rl) (n := x + 1) M2 (Ok_pw p2 Oβ).1 (by omega) (by rw [h05]; exact Q2) (by rw [Sm_tM smp]; omega)
      rw [Sm_lgl smp, Sm_tM smp] at q3
      have t3' : LF (lgl β rl) (tM β - (x + 1)) (x + 1) = l := by rw [← t3]; congr 1; omega
      rw [t3'] at q3
      rw [q3, b2s]
      have R3 := RpM_of F3 (fun j hj z => by have := z.2; omega) (fun a j h1 h2 z => by have := z.1; omega) R2
      obtain ⟨h4, q4, R4, M4, F4⟩ := m_inner hN hs h0G Oα Oβ Iβ l (x + 1) f h3 _ (by omega) (by omega) t3' I1 e1 R3 (by rw [F3.2.2.2 63 3 (fun z => by have := z.1; omega), F2.2.2.2 63 3 (fun (z : 63 = 62) => by omega)]; exact K1) (Rm_PM F3 Q2) ⟨p2, Am_PM F3 M2⟩
      exact ⟨h4, q4, R4, M4, Fr_trans F12 (Fr_trans (Fr_mono F3 (fun a j z => Or.inr z)) F4)⟩
