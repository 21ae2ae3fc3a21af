/-! ===== a new rule in the class ===== -/
/-- cells below h's end are as they were -/
def Od (h h' : Hp) : Prop := ∀ a, a < hN h → hL h' a = hL h a ∧ hP h' a = hP h a ∧ hI h' a = hI h a
theorem Od_trans {a b c : Hp} (F : Od a b) (l : hN a ≤ hN b) (G : Od b c) : Od a c := fun x hx => ⟨(G x (by omega)).1.trans (F x hx).1, (G x (by omega)).2.1.trans (F x hx).2.1, (G x (by omega)).2.2.trans (F x hx).2.2⟩
theorem Od_nO (h : Hp) (c z : Nat) : Od h (nO h c z) := fun a ha => ⟨by rw [hL_nO, if_neg (by omega)], funext fun j => by rw [hP_nO, if_neg (by omega)], funext fun j => by rw [hI_nO, if_neg (by omega)]⟩
theorem copy_e {h : Hp} {L v0 : Nat} (hv : v0 < hN h) (hl : hL h v0 = 400) (hL' : L ≤ 400) : ∃ h', f_J7_copyOf_59c91 h v0 (nI L) = some (hN h, h') ∧ hN h' = hN h + 1 ∧ hL h' (hN h) = L ∧ (∀ i, i < L → hI h' (hN h) i = hI h v0 i) ∧ Od h h' := by
  unfold f_J7_copyOf_59c91
  rw [hl]
  by_cases c : L = 400
  · subst c
    rw [if_pos rfl, if_pos (Nat.le_refl _), lts]
    refine ⟨nC h v0, rfl, rfl, ?_, fun i _ => ?_, fun a ha => ⟨?_, ?_, ?_⟩⟩
    · show (if hN h = hN h then hL h v0 else hL h (hN h)) = 400
      rw [if_pos rfl, hl]
    · show (if hN h = hN h then hI h v0 i else hI h (hN h) i) = _
      rw [if_pos rfl]
    · show (if a = hN h then hL h v0 else hL h a) = _
      rw [if_neg (by omega)]
    · funext j
      show (if a = hN h then none else hP h a j) = _
      rw [if_neg (by omega)]
    · funext j
      show (if a = hN h then hI h v0 j else hI h a j) = _
      rw [if_neg (by omega)]
  · have x1 : hL (nO h 10 L) v0 = 400 := by rw [hL_nO, if_neg (by omega), hl]
    have x2 : hL (nO h 10 L) (hN h) = L := by rw [hL_nO, if_pos rfl]
    rw [if_neg (fun z => c ((nI_eq (by omega) (by omega)).mp z)), nI_clamp (by omega), if_pos ⟨nI_pos' (by omega), hL'⟩, lts, lts, x1, x2, if_pos (show nI L < nI 400 from nI_lt (by omega) (by decide)), if_pos (nI_pos' (by omega)), nI_clamp (by omega), if_pos (by omega), if_pos (by omega), lts]
    refine ⟨_, rfl, ?_, ?_, fun i hi => ?_, fun a ha => ⟨?_, ?_, ?_⟩⟩
    · rw [hN_sC, hN_nO]
    · rw [hL_sC, hL_nO, if_pos rfl]
    · rw [hI_sC, if_pos rfl]
      unfold va_cpy
      rw [if_pos ⟨Nat.zero_le _, by omega⟩, hI_nO, if_neg (by omega), Nat.zero_add, Nat.sub_zero]
    · rw [hL_sC, hL_nO, if_neg (by omega)]
    · funext j
      rw [hP_sC, hP_nO, if_neg (by omega)]
    · funext j
      rw [hI_sC, if_neg (by omega), hI_nO, if_neg (by omega)]
theorem r_al {h : Hp} {L : Nat} (H : SHP h) (e : hI h 30 2 = nI L) (hL' : L ≤ 400) : ∃ h', rAl h = some (some (hN h), h') ∧ hN h' = hN h + 4 ∧ RP h' (hN h) ∧ hL h' (hN h + 1) = L ∧ (∀ i, i < L → hI h' (hN h + 1) i = hI h 31 i) ∧ Od h h' := by
  have h77 := H.2.2
  unfold rAl
  rw [lts]
  have O1 := Od_nO h 1 0
  have n1 : hN (nO h 1 0) = hN h + 1 := hN_nO _ _ _
  generalize nO h 1 0 = g1 at O1 n1 ⊢
  have p1 : hP g1 30 1 = some 31 := by rw [(O1 30 (by omega)).2.1]; exact pp_30_1 H
  have l1 : hL g1 31 = 400 := by rw [(O1 31 (by omega)).1]; exact ll_31 H
  have z1 : hI g1 30 2 = nI L := by rw [(O1 30 (by omega)).2.2]; exact e
  obtain ⟨g2, k2, n2, l2, v2, O2⟩ := copy_e (L := L) (show 31 < hN g1 by omega) l1 hL'
  rw [p1, bs, z1, k2, b2s]
  unfold f_X1_init
  rw [lts, lts, lts, lts, lts, bs]
  have O12 := Od_trans O1 (by omega) O2
  refine ⟨_, rfl, ?_, ⟨?_, ?_, ?_, ?_, ?_, h77⟩, ?_, fun i hi => ?_, fun a ha => ⟨?_, ?_, ?_⟩⟩
  · rw [hN_sP, hN_sP, hN_nO, hN_sP, hN_nO]; omega
  · rw [hP_sP, if_pos ⟨rfl, rfl⟩, n1]
  · rw [hP_sP, if_neg (by omega), hP_sP, if_neg (by omega), hP_nO, if_neg (by rw [hN_sP, hN_nO]; omega), hP_sP, if_pos ⟨rfl, rfl⟩, n2, n1]
  · rw [hP_sP, if_neg (by omega), hP_sP, if_pos ⟨rfl, rfl⟩, hN_sP, hN_nO, n2, n1]
  · rw [hL_sP, hL_sP, hL_nO, if_neg (by rw [hN_sP, hN_nO]; omega), hL_sP, hL_nO, if_pos (by omega)]
  · rw [hL_sP, hL_sP, hL_nO, if_pos (by rw [hN_sP, hN_nO]; omega)]
  · rw [hL_sP, hL_sP, hL_nO, if_neg (by rw [hN_sP, hN_nO]; omega), hL_sP, hL_nO, if_neg (by omega), ← n1, l2]
  · rw [hI_sP, hI_sP, hI_nO, if_neg (by rw [hN_sP, hN_nO]; omega), hI_sP, hI_nO, if_neg (by omega), ← n1, v2 i hi, (O1 31 (by omega)).2.2]
  · rw [hL_sP, hL_sP, hL_nO, if_neg (by rw [hN_sP, hN_nO]; omega), hL_sP, hL_nO, if_neg (by omega), (O12 a ha).1]
  · funext j
    rw [hP_sP, if_neg (by omega), hP_sP, if_neg (by omega), hP_nO, if_neg (by rw [hN_sP, hN_nO]; omega), hP_sP, if_neg (by omega), hP_nO, if_neg (by omega), (O12 a ha).2.1]
  · funext j
    rw [hI_sP, hI_sP, hI_nO, if_neg (by rw [hN_sP, hN_nO]; omega), hI_sP, hI_nO, if_neg (by omega), (O12 a ha).2.2]
