/-! ===== texts: the reference reads a stair ===== -/
theorem zLp_bad (t : TY) (n f : Nat) (α : SA) (lg bk : Bool) {fa : Int32} (h : fa ≠ 0) : zLp t n f α lg bk (.inl fa) = (α, lg, bk, .inl fa) := by
  cases f with
  | zero => rfl
  | succ f => rw [zLp, if_neg (show ¬ xE (.inl fa) = 0 from h)]
theorem nk256 (t : TY) (n : Nat) (f : Int32) : ¬ xK t n (.inl f) = 256 := show ¬ (261 : Int32) = 256 by decide
theorem nk59 (t : TY) (n : Nat) (f : Int32) : ¬ xK t n (.inl f) = 59 := show ¬ (261 : Int32) = 59 by decide
theorem zNx_l (t : TY) (n : Nat) (f : Int32) : zNx t n (.inl f) = .inl f := by
  unfold zNx
  rw [if_neg (nk59 t n f)]
  rfl
def OUT (h : Hp) (r : Int32) (Z : ZS) : Prop := hI h 51 1 = 0 ∧ ((∃ f, zEd Z = .inl f ∧ f ≠ 0 ∧ r = 0 ∧ hI h 51 15 = f) ∨ (∃ s, zEd Z = .inr s ∧ r = 1 ∧ 2 ≤ lvl Z.1 ∧ DM h Z.1 Z.2.1 Z.2.2.1))
def PSN : Nat → Nat → Prop := fun a j => PSM a j ∨ (a = 51 ∧ j = 1)
theorem SM_SN {a b : Hp} (F : Fr PSM a b) : Fr PSN a b := Fr_mono F (fun _ _ z => Or.inl z)
theorem m_119 {N : Nat} {h : Hp} : ∃ h', f_X8_readsAll_119 N h 51 = some (if hI h 51 15 = 0 then 1 else 0, h') ∧ hI h' 51 1 = 0 ∧ Fr (fun a j => a = 51 ∧ j = 1) h h' := by
  unfold f_X8_readsAll_119
  have F : Fr (fun a j => a = 51 ∧ j = 1) h (sI h 51 1 0) := Fr_sI _ _ _ _ ⟨rfl, rfl⟩
  have q : hI (sI h 51 1 0) 51 1 = 0 := by rw [hI_sI, if_pos ⟨rfl, rfl⟩]
  rw [lts]
  generalize sI h 51 1 0 = h1 at F q ⊢
  rw [F.2.2.2 51 15 (fun z => by omega)]
  by_cases c : hI h 51 15 = 0
  · rw [if_pos c, if_pos c]; exact ⟨h1, rfl, q, F⟩
  · rw [if_neg c, if_neg c]; exact ⟨h1, rfl, q, F⟩
theorem m_bad {N k : Nat} {h : Hp} {f : Int32} {Z : ZS} (hk : 0 < k) (e : hI h 51 15 = f) (hf : f ≠ 0) (hZ : Z.2.2.2 = .inl f) : ∃ r' h', f_X8_readsAll_35 N k h 51 0 = some (r', h') ∧ OUT h' r' Z ∧ Fr PSN h h' := by
  obtain ⟨k, rfl⟩ : ∃ j, k = j + 1 := ⟨k - 1, by omega⟩
  obtain ⟨h', i1, i2, i3⟩ := m_119 (N := N) (h := h)
  rw [f_X8_readsAll_35, if_pos rfl]
  unfold f_X8_readsAll_66 f_X8_readsAll_88
  rw [if_pos rfl, if_pos rfl, i1, e, if_neg hf]
  refine ⟨0, h', rfl, ⟨i2, Or.inl ⟨f, ?_, hf, rfl, by rw [i3.2.2.2 51 15 (fun z => by omega)]; exact e⟩⟩, Fr_mono i3 (fun a j z => Or.inr z)⟩
  unfold zEd
  rw [hZ]
  by_cases c : 2 ≤ lvl Z.1
  · rw [if_pos c]
  · rw [if_neg c]; rfl
theorem m_lp {N n : Nat} {t : TY} (hN : 5000 ≤ N) : ∀ (f c k : Nat) (h : Hp) (p : Nat) (α : SA) (lg bk : Bool), f + c = 32 → f < k → MS t n h p α lg bk c → ZI α → ∃ r h1, f_X8_clauseHere N h 51 = some (r, h1) ∧ ∃ r' h', f_X8_readsAll_35 N k h1 51 r = some (r', h') ∧ OUT h' r' (zLp t n (f + 1) α lg bk (.inr (skp t n p))) ∧ Fr PSN h h' := by
  intro f
  induction f with
  | zero =>
    intro c k h p α lg bk hc hk M Z
    have hn := M.1.2.2.1
    have hs : skp t n p ≤ n := sc_le M.1.2.2.2.2.1
    obtain ⟨r, h1, i1, i2, i3⟩ := s_cl hN M Z.1 (fun _ => by obtain ⟨g, g1, g2⟩ := Z.2.2.2.2.2.2.1; rw [g2]; exact nI_pos' (by omega)) (by omega)
    refine ⟨r, h1, i1, ?_⟩
    rw [decide_eq_false (by omega)] at i2
    obtain ⟨q, q4, e⟩ := zCl_f t n α lg bk (skp t n p)
    rw [e] at i2
    have fne : flt (skp t n p) (nI q) ≠ 0 := flt_ne (by omega) q4
    have er : zLp t n (0 + 1) α lg bk (.inr (skp t n p)) = (α, lg, bk, .inl (flt (skp t n p) (nI q))) := by
      rw [zLp, if_pos (show xE (.inr (skp t n p)) = 0 from rfl), decide_eq_false (by omega), e]
      show (if xK t n (.inl (flt (skp t n p) (nI q))) = 256 then _ else zLp t n 0 α lg bk (zNx t n (.inl (flt (skp t n p) (nI q))))) = _
      rw [if_neg (nk256 t n _), zNx_l, zLp_bad _ _ _ _ _ _ fne]
    rw [er]
    rcases i2 with ⟨fa, a1, a2, a3⟩ | ⟨s, a1, _⟩
    · have a1' : flt (skp t n p) (nI q) = fa := by injection a1
      subst a2
      obtain ⟨r', h', j1, j2, j3⟩ := m_bad (N := N) (Z := (α, lg, bk, .inl (flt (skp t n p) (nI q)))) (by omega : 0 < k) a3 (by rw [← a1']; exact fne) (by rw [← a1'])
      exact ⟨r', h', j1, j2, Fr_trans (SM_SN i3) j3⟩
    · cases a1
  | succ f ih =>
    intro c k h p α lg bk hc hk M Z
    have hn := M.1.2.2.1
    have hs : skp t n p ≤ n := sc_le M.1.2.2.2.2.1
    obtain ⟨r, h1, i1, i2, i3⟩ := s_cl hN M Z.1 (fun _ => by obtain ⟨g, g1, g2⟩ := Z.2.2.2.2.2.2.1; rw [g2]; exact nI_pos' (by omega)) (by omega)
    refine ⟨r, h1, i1, ?_⟩
    rw [zLp, if_pos (show xE (.inr (skp t n p)) = 0 from rfl), decide_eq_true (show 0 < f + 1 by omega)]
    rw [decide_eq_true (show c < 32 by omega)] at i2
    obtain ⟨Zz, gz⟩ := zCl_inv (t := t) (m := true) (lg := lg) (bk := bk) (x := .inr (skp t n p)) hn Z hs
    generalize zCl t n true α lg bk (.inr (skp t n p)) = z at i2 Zz gz ⊢
    obtain ⟨β, lg', bk', x⟩ := z
    have i2' : RM t n h1 (c + 1) (β, lg', bk', x) r := i2
    have Zb : ZI β := Zz
    have gx' : gx n x := gz
    show ∃ r' h', f_X8_readsAll_35 N k h1 51 r = some (r', h') ∧ OUT h' r' (if xK t n x = 256 then (β, lg', bk', x) else zLp t n (f + 1) β lg' bk' (zNx t n x)) ∧ Fr PSN h h'
    rcases i2' with ⟨fa, a1, a2, a3⟩ | ⟨s, a1, a2, p', a3, M1⟩
    · have a1' : x = .inl fa := a1
      subst a1' a2
      have fne : fa ≠ 0 := gx'
      rw [if_neg (nk256 t n _), zNx_l, zLp_bad _ _ _ _ _ _ fne]
      obtain ⟨r', h', j1, j2, j3⟩ := m_bad (N := N) (Z := (β, lg', bk', .inl fa)) (by omega : 0 < k) a3 fne rfl
      exact ⟨r', h', j1, j2, Fr_trans (SM_SN i3) j3⟩
    · have a1' : x = .inr s := a1
      subst a1' a2
      have M1' : MS t n h1 p' β lg' bk' (c + 1) := M1
      have hsn : s ≤ n := gx'
      have xk : xK t n (.inr s) = kd t n s := rfl
      obtain ⟨h2, e2, T2, F2⟩ := m_see hN M1'.1
      have fix : skp t n s = s := by rw [← a3]; exact sc_fix M1'.1.2.2.2.2.1
      rw [a3] at e2 T2
      have M2 := MS_PE F2 T2 M1'
      have F02 : Fr PSN h h2 := Fr_trans (SM_SN i3) (SM_SN (PE_SM F2))
      obtain ⟨k, rfl⟩ : ∃ j, k = j + 1 := ⟨k - 1, by omega⟩
      rw [f_X8_readsAll_35, if_neg (show ¬ (1 : Int32) = 0 by decide), e2, b2s, xk]
      by_cases k59 : kd t n s = 59
      · have s59 : sg t n s = 59 := (kd_sg (k := 59) (by decide) (by decide) (by decide) (by decide) (by decide)).mp k59
        obtain ⟨b1, b2', b3⟩ := bh_sg (k := 59) (by decide) k59
        rw [if_pos s59, if_neg (show ¬ kd t n s = 256 by rw [k59]; decide), lts, M2.1.2.2.2.2.2, nI_1]
        obtain ⟨T3, F3⟩ := TM_set (q := s + 1) (by omega) T2
        have M3 := MS_PE F3 T3 M2
        generalize sI h2 51 14 (nI (s + 1)) = h3 at T3 F3 M3 ⊢
        obtain ⟨r3, h4, j1, r', h', j2, j3, j4⟩ := ih (c + 1) k h3 (s + 1) β lg' bk' (by omega) (by omega) M3 Zb
        rw [j1, b2s]
        have e : zNx t n (.inr s) = .inr (skp t n (s + 1)) := by
          unfold zNx
          rw [xk, if_pos k59]
          show Sum.inr (nt t n s) = _
          unfold nt
          rw [b2']
        rw [e]
        exact ⟨r', h', j2, j3, Fr_trans F02 (Fr_trans (SM_SN (PE_SM F3)) j4)⟩
      · have s59 : ¬ sg t n s = 59 := fun z => k59 ((kd_sg (k := 59) (by decide) (by decide) (by decide) (by decide) (by decide)).mpr z)
        rw [if_neg s59]
        unfold f_X8_readsAll_66
        rw [if_neg (show ¬ (1 : Int32) = 0 by decide), m_see0 hN T2 fix, b2s]
        by_cases en : n ≤ s
        · rw [if_pos (kd_end.mpr en), if_pos (sg_end.mpr en)]
          unfold f_X8_readsAll_88
          rw [if_neg (show ¬ (1 : Int32) = 0 by decide), M2.2.2.1, if_pos rfl, M2.2.2.2.2.1]
          have hl8 := Zb.1.2.2.2.1
          by_cases l2 : 2 ≤ lvl β
          · rw [if_pos (show (2 : Int32) ≤ nI (lvl β) from nI_le (a := 2) l2 (by omega))]
            obtain ⟨h', j1, j2, j3⟩ := m_119 (N := N) (h := h2)
            rw [j1, M2.2.1, if_pos rfl]
            refine ⟨1, h', rfl, ⟨j2, Or.inr ⟨s, ?_, rfl, l2, DM_Fr j3 (fun j h1 h2 z => by omega) (fun j => ⟨fun z => by omega, fun z => by omega⟩) M2.2.2.2.2⟩⟩, Fr_trans F02 (Fr_mono j3 (fun a j z => Or.inr z))⟩
            unfold zEd
            rw [if_pos l2]
          · rw [if_neg (show ¬ (2 : Int32) ≤ nI (lvl β) from nI_ge (b := 2) (by omega) (by decide)), M2.1.2.2.2.2.2]
            obtain ⟨h3, g1, g2, g3⟩ := m_fails M2.2.1 0 s
            have fne : flt s (nI 0) ≠ 0 := flt_ne (by omega) (by decide)
            have g2' : hI h3 51 15 = flt s (nI 0) := g2
            rw [g1, b2s]
            obtain ⟨h', j1, j2, j3⟩ := m_119 (N := N) (h := h3)
            rw [j1, g2', if_neg fne]
            refine ⟨0, h', rfl, ⟨j2, Or.inl ⟨flt s (nI 0), ?_, fne, rfl, by rw [j3.2.2.2 51 15 (fun z => by omega)]; exact g2'⟩⟩, Fr_trans F02 (Fr_trans (Fr_mono g3 (fun a j z => Or.inl (Or.inl ⟨z.1, by omega⟩))) (Fr_mono j3 (fun a j z => Or.inr z)))⟩
            unfold zEd
            rw [if_neg l2]
            rfl
        · rw [if_neg (fun z => en (kd_end.mp z)), if_neg (fun z => en (sg_end.mp z)), M2.1.2.2.2.2.2]
          obtain ⟨h3, g1, g2, g3⟩ := m_fails M2.2.1 0 s
          have fne : flt s (nI 0) ≠ 0 := flt_ne (by omega) (by decide)
          have g2' : hI h3 51 15 = flt s (nI 0) := g2
          rw [g1, b2s]
          unfold f_X8_readsAll_88
          rw [if_pos rfl]
          obtain ⟨h', j1, j2, j3⟩ := m_119 (N := N) (h := h3)
          rw [j1, g2', if_neg fne]
          have e : zNx t n (.inr s) = .inl (flt s (nI 0)) := by
            unfold zNx
            rw [xk, if_neg k59]
            rfl
          rw [e, zLp_bad _ _ _ _ _ _ fne]
          refine ⟨0, h', rfl, ⟨j2, Or.inl ⟨flt s (nI 0), ?_, fne, rfl, by rw [j3.2.2.2 51 15 (fun z => by omega)]; exact g2'⟩⟩, Fr_trans F02 (Fr_trans (Fr_mono g3 (fun a j z => Or.inl (Or.inl ⟨z.1, by omega⟩))) (Fr_mono j3 (fun a j z => Or.inr z)))⟩
          unfold zEd
          by_cases l2 : 2 ≤ lvl β
          · rw [if_pos l2]
          · rw [if_neg l2]; rfl
