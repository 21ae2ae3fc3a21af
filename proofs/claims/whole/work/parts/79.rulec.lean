/-! ===== texts: the class reads a rule ===== -/
abbrev YS : Type := XT0 × List Int32 × Int32
def CR (t : TY) (n : Nat) (h : Hp) (y : YS) : Prop := TX t n h y.1 ∧ hI h 30 2 = nI y.2.1.length ∧ (∀ i, i < y.2.1.length → hI h 31 i = y.2.1.getD i 0) ∧ y.2.1.length ≤ 400 ∧ hI h 30 3 = y.2.2
def PY : Nat → Nat → Prop := fun a j => (a = 1 ∧ 2 ≤ j) ∨ a = 30 ∨ a = 31
theorem PT_Y {a b : Hp} (F : Fr PT a b) : Fr PY a b := Fr_mono F (fun _ _ z => Or.inl z)
theorem CR_T {t : TY} {n : Nat} {a b : Hp} {x : XT0} {cs : List Int32} {ct : Int32} (F : Fr PT a b) (T : TX t n b x) {x0 : XT0} (C : CR t n a (x0, cs, ct)) : CR t n b (x, cs, ct) := by
  obtain ⟨_, c1, c2, c3, c4⟩ := C
  refine ⟨T, ?_, fun i hi => ?_, c3, ?_⟩
  · rw [F.2.2.2 30 2 (fun z => by unfold PT at z; omega)]; exact c1
  · rw [F.2.2.2 31 i (fun z => by unfold PT at z; omega)]; exact c2 i hi
  · rw [F.2.2.2 30 3 (fun z => by unfold PT at z; omega)]; exact c4
def yA (t : TY) (n : Nat) (y : YS) : YS := (xA t n y.1, y.2)
def yF (k : Nat) (y : YS) : YS := (xF k y.1, y.2)
def yC (y : YS) : YS := (if y.2.2 < 60 then y.1 else xF 3 y.1, y.2.1, y.2.2 + 1)
def yE (c : Int32) (y : YS) : YS := if xE y.1 = 0 ∧ y.2.1.length < 400 then (y.1, y.2.1 ++ [c], y.2.2) else y
theorem r_adv {N n : Nat} {t : TY} {h : Hp} {y : YS} (hN : 5000 ≤ N) (C : CR t n h y) : ∃ h', f_X6_advance N h 1 = some h' ∧ CR t n h' (yA t n y) ∧ Fr PY h h' := by
  obtain ⟨x, cs, ct⟩ := y
  obtain ⟨h', i1, i2, i3⟩ := g_adv hN C.1
  exact ⟨h', i1, CR_T i3 i2 C, PT_Y i3⟩
theorem r_fail {n k : Nat} {t : TY} {h : Hp} {y : YS} (hk : k ≤ 4) (C : CR t n h y) : ∃ h', f_X6_fail h 1 (nI k) = some h' ∧ CR t n h' (yF k y) ∧ Fr PY h h' := by
  obtain ⟨x, cs, ct⟩ := y
  obtain ⟨h', i1, i2, i3⟩ := g_fail hk C.1
  exact ⟨h', i1, CR_T i3 i2 C, PT_Y i3⟩
theorem r_emit {n : Nat} {t : TY} {h : Hp} {y : YS} (c : Int32) (C : CR t n h y) : ∃ h', f_X2_emit h 30 c = some h' ∧ CR t n h' (yE c y) ∧ Fr PY h h' := by
  obtain ⟨x, cs, ct⟩ := y
  obtain ⟨T, c1, c2, c3, c4⟩ := C
  have T' : TX t n h x := T
  have c1' : hI h 30 2 = nI cs.length := c1
  have c2' : ∀ i, i < cs.length → hI h 31 i = cs.getD i 0 := c2
  have c3' : cs.length ≤ 400 := c3
  have c4' : hI h 30 3 = ct := c4
  have H := TX_S T'
  unfold f_X2_emit yE
  rw [pp_30_0 H, bs, TX_e T']
  by_cases e : xE x = 0
  · rw [if_pos e, pp_30_1 H, bs, ll_31 H, c1']
    by_cases l : cs.length < 400
    · rw [if_neg (nI_ge l (by decide)), bs, ll_31 H, if_inI l (by omega), lts, nI_clamp (by omega)]
      have F1 : Fr (fun a j => a = 31 ∧ j = cs.length) h (sI h 31 cs.length c) := Fr_sI _ _ _ _ ⟨rfl, rfl⟩
      have q1 : hI (sI h 31 cs.length c) 31 cs.length = c := by rw [hI_sI, if_pos ⟨rfl, rfl⟩]
      generalize sI h 31 cs.length c = h1 at F1 q1 ⊢
      rw [lts, F1.2.2.2 30 2 (fun z => by omega), c1', nI_1]
      have F2 : Fr (fun a j => a = 30 ∧ j = 2) h1 (sI h1 30 2 (nI (cs.length + 1))) := Fr_sI _ _ _ _ ⟨rfl, rfl⟩
      have q2 : hI (sI h1 30 2 (nI (cs.length + 1))) 30 2 = nI (cs.length + 1) := by rw [hI_sI, if_pos ⟨rfl, rfl⟩]
      generalize sI h1 30 2 (nI (cs.length + 1)) = h2 at F2 q2 ⊢
      have F : Fr (fun a j => (a = 31 ∧ j = cs.length) ∨ (a = 30 ∧ j = 2)) h h2 := Fr_trans (Fr_mono F1 (fun a j z => Or.inl z)) (Fr_mono F2 (fun a j z => Or.inr z))
      refine ⟨h2, rfl, ?_, Fr_mono F (fun a j z => Or.inr (by omega))⟩
      rw [if_pos (show xE (x, cs, ct).1 = 0 ∧ (x, cs, ct).2.1.length < 400 from ⟨e, l⟩)]
      show CR t n h2 (x, cs ++ [c], ct)
      refine ⟨TX_Fr F (fun j => ⟨by omega, by omega⟩) T', ?_, fun i hi => ?_, ?_, ?_⟩
      · show hI h2 30 2 = nI (cs ++ [c]).length
        rw [q2, List.length_append, List.length_singleton]
      · have hi' : i < (cs ++ [c]).length := hi
        rw [List.length_append, List.length_singleton] at hi'
        show hI h2 31 i = (cs ++ [c]).getD i 0
        by_cases z : i = cs.length
        · subst z
          rw [F2.2.2.2 31 _ (fun z => by omega), q1, List.getD_eq_getElem?_getD, List.getElem?_append_right (Nat.le_refl _), Nat.sub_self]
          rfl
        · rw [F.2.2.2 31 i (fun z => by omega), c2' i (by omega), List.getD_eq_getElem?_getD, List.getD_eq_getElem?_getD, List.getElem?_append_left (by omega)]
      · show (cs ++ [c]).length ≤ 400
        rw [List.length_append, List.length_singleton]
        omega
      · show hI h2 30 3 = ct
        rw [F.2.2.2 30 3 (fun z => by omega)]; exact c4'
    · rw [if_pos (nI_le (by omega) (by omega)), if_neg (fun z => l z.2)]
      exact ⟨h, rfl, ⟨T, c1, c2, c3, c4⟩, Fr_refl h⟩
  · rw [if_neg e, if_neg (fun z => e z.1)]
    exact ⟨h, rfl, ⟨T, c1, c2, c3, c4⟩, Fr_refl h⟩
theorem r_count {n : Nat} {t : TY} {h : Hp} {y : YS} (C : CR t n h y) : ∃ h', f_X2_countOne h 30 = some h' ∧ CR t n h' (yC y) ∧ Fr PY h h' := by
  obtain ⟨x, cs, ct⟩ := y
  have c4' : hI h 30 3 = ct := C.2.2.2.2
  have go : ∀ (g : Hp) (x' : XT0), CR t n g (x', cs, ct) → ∃ h', f_X2_countOne_17 g 30 = some h' ∧ CR t n h' (x', cs, ct + 1) ∧ Fr PY g h' := by
    intro g x' D
    obtain ⟨T, c1, c2, c3, c4⟩ := D
    have d4 : hI g 30 3 = ct := c4
    unfold f_X2_countOne_17
    rw [lts, d4]
    have F : Fr (fun a j => a = 30 ∧ j = 3) g (sI g 30 3 (ct + 1)) := Fr_sI _ _ _ _ ⟨rfl, rfl⟩
    refine ⟨_, rfl, ⟨TX_Fr F (fun j => ⟨by omega, by omega⟩) T, ?_, fun i hi => ?_, c3, ?_⟩, Fr_mono F (fun a j z => Or.inr (Or.inl z.1))⟩
    · rw [F.2.2.2 30 2 (fun z => by omega)]; exact c1
    · rw [F.2.2.2 31 i (fun z => by omega)]; exact c2 i hi
    · rw [hI_sI, if_pos ⟨rfl, rfl⟩]
  unfold f_X2_countOne yC
  rw [c4']
  by_cases l : ct < 60
  · rw [if_pos l]
    obtain ⟨h', i1, i2, i3⟩ := go h x C
    refine ⟨h', i1, ?_, i3⟩
    rw [if_pos (show (x, cs, ct).2.2 < 60 from l)]
    exact i2
  · rw [if_neg l, pp_30_0 (TX_S C.1), bs]
    obtain ⟨h1, j1, j2, j3⟩ := r_fail (k := 3) (by decide) C
    have j1' : f_X6_fail h 1 3 = some h1 := j1
    rw [j1', bs]
    obtain ⟨h', i1, i2, i3⟩ := go h1 (xF 3 x) j2
    refine ⟨h', i1, ?_, Fr_trans j3 i3⟩
    rw [if_neg (show ¬ (x, cs, ct).2.2 < 60 from l)]
    exact i2
