/-! ===== texts: the class reads a rule, clause for clause ===== -/
def yBar (t : TY) (n : Nat) (m : Bool) (y : YS) : YS := yA t n (if xW t n 4 y.1 = true then (if m = true then y else yF 4 y) else yF 0 y)
theorem r_bar {N n : Nat} {t : TY} {h : Hp} {y : YS} (m : Bool) (hN : 5000 ≤ N) (C : CR t n h y) : ∃ h', f_X2_takeBar N h 30 (b2i m) = some h' ∧ CR t n h' (yBar t n m y) ∧ Fr PY h h' := by
  have T := C.1
  have H := TX_S T
  have v35 : ∀ (g : Hp) (z : YS), CR t n g z → Fr PY h g → ∃ h', f_X2_takeBar_35 N g 30 = some h' ∧ CR t n h' (yA t n z) ∧ Fr PY h h' := by
    intro g z D F
    obtain ⟨h', i1, i2, i3⟩ := r_adv hN D
    unfold f_X2_takeBar_35
    rw [pp_30_0 (TX_S D.1), bs, i1, bs]
    exact ⟨h', rfl, i2, Fr_trans F i3⟩
  unfold f_X2_takeBar yBar
  rw [pp_30_0 H, bs, g_word hN (by decide) T, bs, b_if]
  by_cases w : xW t n 4 y.1 = true
  · rw [if_pos w, if_pos w]
    cases m with
    | true => rw [if_neg (by decide), if_pos rfl]; exact v35 h y C (Fr_refl h)
    | false =>
      rw [if_pos (show b2i false = 0 by decide), if_neg (by decide), bs]
      obtain ⟨h1, j1, j2, j3⟩ := r_fail (k := 4) (by decide) C
      have j1' : f_X6_fail h 1 4 = some h1 := j1
      rw [j1', bs]
      exact v35 h1 _ j2 j3
  · rw [if_neg w, if_neg w, bs]
    obtain ⟨h1, j1, j2, j3⟩ := r_fail (k := 0) (by decide) C
    have j1' : f_X6_fail h 1 0 = some h1 := j1
    rw [j1', bs]
    exact v35 h1 _ j2 j3
/-- clause c: whether one more is allowed, whether it is the first -/
def yCs (t : TY) (n : Nat) (m fst : Bool) (y : YS) : YS := if fst = true then yG t n 30 true 0 (yBar t n m y) else yE 100010 (yG t n 30 true 0 (yBar t n m y))
def yNx (t : TY) (n : Nat) (y : YS) : YS := yA t n (if xK t n y.1 = 59 then y else yF 0 y)
def yLp (t : TY) (n : Nat) : Nat → YS → Bool × YS
  | 0, y => (false, y)
  | f + 1, y => if xE y.1 = 0 then (if xK t n (yCs t n (decide (0 < f)) (decide (f = 12)) y).1 = 256 then (true, yCs t n (decide (0 < f)) (decide (f = 12)) y) else yLp t n f (yNx t n (yCs t n (decide (0 < f)) (decide (f = 12)) y))) else (false, y)
/-- the new rule's cells -/
def rAl (h : Hp) : Option (Option Nat × Hp) := lt (nO h 1 0) (fun h9 => Option.bind (hP h9 30 1) (fun q10 => b2 (f_J7_copyOf_59c91 h9 q10 (hI h9 30 2)) (fun r11 h12 => Option.bind (f_X1_init h12 (hN h) r11) (fun h13 => some ((some (hN h), h13))))))
theorem r_lp {N n : Nat} {t : TY} (hN : 5000 ≤ N) : ∀ (f c k : Nat) (h : Hp) (y : YS), f + c = 13 → f < k → CR t n h y → ∃ h', f_X2_readRule_19 N k h 30 (nI c) = (if (yLp t n f y).1 = true then rAl h' else some (none, h')) ∧ CR t n h' (yLp t n f y).2 ∧ Fr PY h h' := by
  intro f
  induction f with
  | zero =>
    intro c k h y hc hk C
    obtain ⟨k, rfl⟩ : ∃ j, k = j + 1 := ⟨k - 1, by omega⟩
    rw [f_X2_readRule_19, if_pos (show (12 : Int32) < nI c from nI_lt (a := 12) (by omega) (by omega))]
    exact ⟨h, rfl, C, Fr_refl h⟩
  | succ f ih =>
    intro c k h y hc hk C
    obtain ⟨k, rfl⟩ : ∃ j, k = j + 1 := ⟨k - 1, by omega⟩
    have T := C.1
    have H := TX_S T
    rw [f_X2_readRule_19, if_neg (show ¬ (12 : Int32) < nI c from nI_nlt (a := 12) (by omega) (by decide)), pp_30_0 H, bs, TX_e T, yLp]
    by_cases c0 : ¬ xE y.1 = 0
    · rw [if_neg c0, if_neg c0]
      exact ⟨h, rfl, C, Fr_refl h⟩
    · replace c0 : xE y.1 = 0 := Decidable.not_not.mp c0
      rw [if_pos c0, if_pos c0]
      have e : (if (12 : Int32) ≤ nI c then f_X2_readRule_47 N (f_X2_readRule_19 N k) h 30 (nI c) 0 30 else f_X2_readRule_47 N (f_X2_readRule_19 N k) h 30 (nI c) 1 30) = f_X2_readRule_47 N (f_X2_readRule_19 N k) h 30 (nI c) (b2i (decide (0 < f))) 30 := by
        by_cases c12 : 12 ≤ c
        · rw [if_pos (show (12 : Int32) ≤ nI c from nI_le (a := 12) c12 (by omega)), decide_eq_false (by omega)]; rfl
        · rw [if_neg (show ¬ (12 : Int32) ≤ nI c from nI_ge (b := 12) (by omega) (by decide)), decide_eq_true (by omega)]; rfl
      rw [e]
      obtain ⟨h1, i1, i2, i3⟩ := r_bar (decide (0 < f)) hN C
      obtain ⟨h2, j1, j2, j3⟩ := r_g (N := N) hN 30 true 0 h1 _ (by decide) (by rw [if_pos rfl]; decide) i2
      have j1' : f_X2_readTest N h1 30 0 = some h2 := j1
      obtain ⟨h3, e47, C3, F3⟩ : ∃ h3, f_X2_readRule_47 N (f_X2_readRule_19 N k) h 30 (nI c) (b2i (decide (0 < f))) 30 = f_X2_readRule_65 N (f_X2_readRule_19 N k) h3 30 (nI c) ∧ CR t n h3 (yCs t n (decide (0 < f)) (decide (f = 12)) y) ∧ Fr PY h h3 := by
        unfold f_X2_readRule_47 yCs
        rw [i1, bs, j1', bs]
        by_cases c00 : c = 0
        · rw [if_pos (show nI c ≤ 0 by rw [c00]; decide), decide_eq_true (show f = 12 by omega), if_pos rfl]
          exact ⟨h2, rfl, j2, Fr_trans i3 j3⟩
        · rw [if_neg (show ¬ nI c ≤ 0 from nI_ge (a := 0) (by omega) (by omega)), decide_eq_false (show ¬ f = 12 by omega), if_neg (show ¬ (false = true) by decide)]
          obtain ⟨h4, k1, k2, k3⟩ := r_emit 100010 j2
          rw [k1, bs]
          exact ⟨h4, rfl, k2, Fr_trans i3 (Fr_trans j3 k3)⟩
      rw [e47]
      generalize yCs t n (decide (0 < f)) (decide (f = 12)) y = z at C3 ⊢
      unfold f_X2_readRule_65
      rw [pp_30_0 (TX_S C3.1), bs, TX_k C3.1]
      by_cases k256 : xK t n z.1 = 256
      · rw [if_pos k256, if_pos k256]
        refine ⟨h3, ?_, C3, F3⟩
        rw [if_pos (show (true, z).1 = true from rfl)]
        rfl
      · rw [if_neg k256, if_neg k256, bs, TX_k C3.1]
        have go : ∀ (g : Hp) (z2 : YS), CR t n g z2 → Fr PY h g → ∃ h', f_X2_readRule_117 N (f_X2_readRule_19 N k) g 30 (nI c) = (if (yLp t n f (yA t n z2)).1 = true then rAl h' else some (none, h')) ∧ CR t n h' (yLp t n f (yA t n z2)).2 ∧ Fr PY h h' := by
          intro g z2 D G
          obtain ⟨g1, a1, a2, a3⟩ := r_adv hN D
          unfold f_X2_readRule_117
          rw [pp_30_0 (TX_S D.1), bs, a1, bs, nI_1]
          obtain ⟨g2, b1, b2', b3⟩ := ih (c + 1) k g1 _ (by omega) (by omega) a2
          exact ⟨g2, b1, b2', Fr_trans G (Fr_trans a3 b3)⟩
        unfold yNx
        by_cases k59 : xK t n z.1 = 59
        · rw [if_pos k59, if_pos k59]
          exact go h3 z C3 F3
        · rw [if_neg k59, if_neg k59, bs]
          obtain ⟨h4, a1, a2, a3⟩ := r_fail (k := 0) (by decide) C3
          have a1' : f_X6_fail h3 1 0 = some h4 := a1
          rw [a1', bs]
          exact go h4 _ a2 (Fr_trans F3 a3)
theorem r_read {N n : Nat} {t : TY} {h : Hp} (hN : 5000 ≤ N) (H : SHP h) (e2 : hI h 2 = t) (e1 : hI h 1 1 = nI n) (hn : n ≤ 400) : ∃ h', f_X2_readRule N h 30 = (if (yLp t n 13 (.inr (skp t n 0), [], 0)).1 = true then rAl h' else some (none, h')) ∧ CR t n h' (yLp t n 13 (.inr (skp t n 0), [], 0)).2 ∧ Fr PY h h' := by
  unfold f_X2_readRule
  rw [lts, lts]
  have F1 : Fr (fun a _ => a = 30) h (sI (sI h 30 2 0) 30 3 0) := Fr_trans (Fr_sI _ _ _ _ rfl) (Fr_sI _ _ _ _ rfl)
  have q2 : hI (sI (sI h 30 2 0) 30 3 0) 30 2 = 0 := by rw [hI_sI, if_neg (by omega), hI_sI, if_pos ⟨rfl, rfl⟩]
  have q3 : hI (sI (sI h 30 2 0) 30 3 0) 30 3 = 0 := by rw [hI_sI, if_pos ⟨rfl, rfl⟩]
  generalize sI (sI h 30 2 0) 30 3 0 = h1 at F1 q2 q3 ⊢
  have H1 := Fr_SHP F1 H
  obtain ⟨h2, i2, T2, F2⟩ := c_begin_t (N := N) hN H1 (t := t) (by rw [Fr_row F1 (fun j z => by omega)]; exact e2) (by rw [F1.2.2.2 1 1 (by omega)]; exact e1) hn
  have C2 : CR t n h2 (.inr (skp t n 0), [], 0) := ⟨T2, by rw [F2.2.2.2 30 2 (fun z => by unfold PT at z; omega)]; exact q2, fun i hi => absurd hi (Nat.not_lt_zero i), Nat.zero_le _, by rw [F2.2.2.2 30 3 (fun z => by unfold PT at z; omega)]; exact q3⟩
  obtain ⟨h3, i3, C3, F3⟩ := r_lp (N := N) hN 13 0 N h2 _ (by omega) (by omega) C2
  have i3' : f_X2_readRule_19 N N h2 30 0 = (if (yLp t n 13 (.inr (skp t n 0), [], 0)).1 = true then rAl h3 else some (none, h3)) := i3
  rw [pp_30_0 H1, bs, i2, bs, i3']
  exact ⟨h3, rfl, C3, Fr_trans (Fr_mono F1 (fun a j z => Or.inr (Or.inl z))) (Fr_trans (PT_Y F2) F3)⟩
