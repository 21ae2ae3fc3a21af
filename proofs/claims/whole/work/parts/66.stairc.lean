/-! ===== texts: the class reads on behind a fault, and nothing comes of it ===== -/
abbrev XT0 : Type := Int32 ⊕ Nat
def xA (t : TY) (n : Nat) : XT0 → XT0
  | .inl f => .inl f
  | .inr s => .inr (nt t n s)
def xF (k : Nat) : XT0 → XT0
  | .inl f => .inl f
  | .inr s => .inl (flt s (nI k))
def xV (t : TY) (n : Nat) (lo hi : Int32) : XT0 → Int32
  | .inl _ => lo
  | .inr s => if nok t n s lo hi then nmv t n s else lo
def xN (t : TY) (n : Nat) (lo hi : Int32) : XT0 → XT0
  | .inl f => .inl f
  | .inr s => if nok t n s lo hi then .inr (nt t n s) else .inl (nfl t n s)
def xW (t : TY) (n w : Nat) : XT0 → Bool
  | .inl _ => false
  | .inr s => wd t n s w
def xK (t : TY) (n : Nat) : XT0 → Int32
  | .inl _ => 261
  | .inr s => kd t n s
def xE : XT0 → Int32
  | .inl f => f
  | .inr _ => 0
def TX (t : TY) (n : Nat) (h : Hp) : XT0 → Prop
  | .inl f => TF h f
  | .inr s => TC t n h s
theorem xV_r (t : TY) (n s : Nat) (lo hi : Int32) : xV t n lo hi (.inr s) = if nok t n s lo hi then nmv t n s else lo := rfl
theorem xN_r (t : TY) (n s : Nat) (lo hi : Int32) : xN t n lo hi (.inr s) = if nok t n s lo hi then .inr (nt t n s) else .inl (nfl t n s) := rfl
theorem TX_S {t : TY} {n : Nat} {h : Hp} {x : XT0} (T : TX t n h x) : SHP h := by
  cases x with
  | inl f => exact T.1
  | inr s => exact T.1
theorem TX_Fr {P : Nat → Nat → Prop} {t : TY} {n : Nat} {a b : Hp} {x : XT0} (F : Fr P a b) (hp : ∀ j, ¬ P 1 j ∧ ¬ P 2 j) (T : TX t n a x) : TX t n b x := by
  cases x with
  | inl f =>
    obtain ⟨H, t1, t2, t3⟩ := T
    exact ⟨Fr_SHP F H, t1, by rw [F.2.2.2 1 6 (hp 6).1]; exact t2, by rw [F.2.2.2 1 2 (hp 2).1]; exact t3⟩
  | inr s =>
    obtain ⟨H, e2, e1, hn, hs, e6, ek, e4, e5, e3, hk⟩ := T
    exact ⟨Fr_SHP F H, by rw [Fr_row F (fun j => (hp j).2)]; exact e2, by rw [F.2.2.2 1 1 (hp 1).1]; exact e1, hn, hs, by rw [F.2.2.2 1 6 (hp 6).1]; exact e6, by rw [F.2.2.2 1 2 (hp 2).1]; exact ek, by rw [F.2.2.2 1 4 (hp 4).1]; exact e4, by rw [F.2.2.2 1 5 (hp 5).1]; exact e5, by rw [F.2.2.2 1 3 (hp 3).1]; exact e3, hk⟩
theorem TX_k {t : TY} {n : Nat} {h : Hp} {x : XT0} (T : TX t n h x) : hI h 1 2 = xK t n x := by
  cases x with
  | inl f => exact T.2.2.2
  | inr s => exact T.2.2.2.2.2.2.1
theorem TX_e {t : TY} {n : Nat} {h : Hp} {x : XT0} (T : TX t n h x) : hI h 1 6 = xE x := by
  cases x with
  | inl f => exact T.2.2.1
  | inr s => exact T.2.2.2.2.2.1
theorem g_adv {N n : Nat} {t : TY} {h : Hp} {x : XT0} (hN : 5000 ≤ N) (T : TX t n h x) : ∃ h', f_X6_advance N h 1 = some h' ∧ TX t n h' (xA t n x) ∧ Fr PT h h' := by
  cases x with
  | inl f => exact ⟨h, f_adv T, T, Fr_refl h⟩
  | inr s => exact c_adv hN T
theorem g_fail {n k : Nat} {t : TY} {h : Hp} {x : XT0} (hk : k ≤ 4) (T : TX t n h x) : ∃ h', f_X6_fail h 1 (nI k) = some h' ∧ TX t n h' (xF k x) ∧ Fr PT h h' := by
  cases x with
  | inl f => exact ⟨h, f_fail T _, T, Fr_refl h⟩
  | inr s => exact c_fail T hk
theorem g_word {N n w : Nat} {t : TY} {h : Hp} {x : XT0} (hN : 5000 ≤ N) (hw : w < 6) (T : TX t n h x) : f_X6_isWord N h 1 w = some (b2i (xW t n w x)) := by
  cases x with
  | inl f => exact f_word hN (by omega) T
  | inr s => exact c_word hN (by omega) (by omega) (wd_old w hw) T
theorem g_or {N n : Nat} {t : TY} {h : Hp} {x : XT0} (hN : 5000 ≤ N) (T : TX t n h x) : f_X6_isWord N h 1 7 = some (b2i (xW t n 16 x)) := by
  cases x with
  | inl f => exact f_word hN (by decide) T
  | inr s => exact c_word hN (by decide) (by decide) (by decide +kernel) T
theorem g_and {N n : Nat} {t : TY} {h : Hp} {x : XT0} (hN : 5000 ≤ N) (T : TX t n h x) : f_X6_isWord N h 1 8 = some (b2i (xW t n 17 x)) := by
  cases x with
  | inl f => exact f_word hN (by decide) T
  | inr s => exact c_word hN (by decide) (by decide) (by decide +kernel) T
theorem g_num {N n : Nat} {t : TY} {h : Hp} {x : XT0} {lo hi : Int32} (hN : 5000 ≤ N) (hlo : 0 ≤ lo) (T : TX t n h x) : ∃ h', f_X4_readNumber N h 29 lo hi = some (xV t n lo hi x, h') ∧ TX t n h' (xN t n lo hi x) ∧ Fr PT h h' := by
  cases x with
  | inl f => exact ⟨h, f_num T, T, Fr_refl h⟩
  | inr s =>
    obtain ⟨v, h', i1, i2, i3⟩ := c_num (hi := hi) hN T hlo
    refine ⟨h', ?_, ?_, i2⟩
    · rw [xV_r]
      rcases i3 with ⟨a, b, _⟩ | ⟨a, b, _⟩
      · rw [if_pos a, i1, b]
      · rw [if_neg a, i1, b]
    · rw [xN_r]
      rcases i3 with ⟨a, _, b⟩ | ⟨a, _, b⟩
      · rw [if_pos a]; exact b
      · rw [if_neg a]; exact b
/-! the draft -/
def c1 (α : SA) (k i : Nat) (x : Int32) : SA := sr α k (upd (α k) i x)
theorem c1_o (α : SA) {k j : Nat} (i : Nat) (x : Int32) (h : j ≠ k) : c1 α k i x j = α j := sr_o _ _ h
theorem c1_s (α : SA) (k i : Nat) (x : Int32) : c1 α k i x k i = x := by unfold c1; rw [sr_s, upd_s]
theorem c1_e (α : SA) {k i j : Nat} (x : Int32) (h : j ≠ i) : c1 α k i x k j = α k j := by unfold c1; rw [sr_s, upd_o _ _ h]
theorem ac_w {h : Hp} {α : SA} (A : Ac h 15 α) (k i : Nat) (x : Int32) : Ac (sI h (15 + k) i x) 15 (c1 α k i x) := by
  refine ⟨A.1, fun k' i' hk hi => ?_⟩
  rw [hI_sI]
  by_cases c : k' = k
  · subst c
    by_cases c' : i' = i
    · subst c'; rw [if_pos ⟨rfl, rfl⟩, c1_s]
    · rw [if_neg (fun z => c' z.2), c1_e _ _ c']; exact A.2 k' i' hk hi
  · rw [if_neg (fun z => c (by omega)), c1_o _ _ _ c]; exact A.2 k' i' hk hi
def PSC : Nat → Nat → Prop := fun a j => (a = 1 ∧ 2 ≤ j) ∨ (15 ≤ a ∧ a ≤ 26) ∨ a = 29
theorem PT_SC {a b : Hp} (F : Fr PT a b) : Fr PSC a b := Fr_mono F (fun _ _ z => Or.inl z)
theorem dr_w {t : TY} {n : Nat} {h : Hp} {α : SA} {x : XT0} (A : Ac h 15 α) (T : TX t n h x) (k i : Nat) (v : Int32) (hk : k ≤ 10) : ∃ h', sI h (15 + k) i v = h' ∧ Ac h' 15 (c1 α k i v) ∧ TX t n h' x ∧ Fr PSC h h' ∧ (∀ j, hI h' 29 j = hI h 29 j) := by
  have F : Fr (fun a _ => a = 15 + k) h (sI h (15 + k) i v) := Fr_sI _ _ _ _ rfl
  exact ⟨_, rfl, ac_w A k i v, TX_Fr F (fun j => ⟨by omega, by omega⟩) T, Fr_mono F (fun a j z => Or.inr (Or.inl (by omega))), fun j => F.2.2.2 29 j (by omega)⟩
def lvX (α : SA) (v1 v2 : Int32) : SA := c1 (c1 (c1 α 1 (lvl α) v1) 2 (lvl α) v2) 0 0 (nI (lvl α + 1))
/-- the draft, what was told, the tape -/
def DC (t : TY) (n : Nat) (h : Hp) (α : SA) (lg bk : Bool) (x : XT0) : Prop := Ac h 15 α ∧ Dm α ∧ hI h 29 2 = b2i lg ∧ hI h 29 3 = b2i bk ∧ TX t n h x
theorem c_lev {N n : Nat} {t : TY} {h : Hp} {α : SA} {lg bk : Bool} {x : XT0} (hN : 5000 ≤ N) (D : DC t n h α lg bk x) (hl : lvl α < 8) : ∃ h', f_X4_readLevel N h 29 1 = some h' ∧ DC t n h' (lvX α (xV t n 0 999 (xA t n x)) (xV t n 1 8 (xN t n 0 999 (xA t n x)))) lg bk (xN t n 1 8 (xN t n 0 999 (xA t n x))) ∧ Fr PSC h h' := by
  obtain ⟨A, Dm0, d2, d3, T⟩ := D
  have H := TX_S T
  unfold f_X4_readLevel
  rw [if_neg (by decide), pp_29_0 H, bs]
  obtain ⟨h1, i1, T1, F1⟩ := g_adv hN T
  have A1 : Ac h1 15 α := Fr_Ac F1 (fun a j h1 h2 z => by unfold PT at z; omega) A
  have H1 := TX_S T1
  have z0 : hI h1 15 0 = nI (lvl α) := by rw [ac_0 A1 (by decide)]; exact Dm0.1
  rw [i1, bs, pp_29_1 H1, bs, ac_p8 A1, bs, bs]
  obtain ⟨h2, i2, T2, F2⟩ := g_num (lo := 0) (hi := 999) hN (by decide) T1
  have A2 : Ac h2 15 α := Fr_Ac F2 (fun a j h1 h2 z => by unfold PT at z; omega) A1
  rw [i2, b2s, z0, ac_l1 A2, if_inI (by omega) (by omega), lts, nI_clamp (by omega)]
  obtain ⟨h3, e3, A3, T3, F3, r3⟩ := dr_w A2 T2 1 (lvl α) (xV t n 0 999 (xA t n x)) (by decide)
  rw [show 15 + 1 = 15 + 1 from rfl, e3]
  have H3 := TX_S T3
  have z3 : hI h3 15 0 = nI (lvl α) := by rw [ac_0 A3 (by decide), c1_o _ _ _ (by decide)]; exact Dm0.1
  rw [pp_29_1 H3, bs, ac_p9 A3, bs, bs]
  obtain ⟨h4, i4, T4, F4⟩ := g_num (lo := 1) (hi := 8) hN (by decide) T3
  have A4 := Fr_Ac F4 (fun a j h1 h2 z => by unfold PT at z; omega) A3
  rw [i4, b2s, z3, ac_l2 A4, if_inI (by omega) (by omega), lts, nI_clamp (by omega)]
  obtain ⟨h5, e5, A5, T5, F5, r5⟩ := dr_w A4 T4 2 (lvl α) (xV t n 1 8 (xN t n 0 999 (xA t n x))) (by decide)
  rw [e5, pp_29_1 (TX_S T5), bs, lts]
  have z5 : hI h5 15 0 = nI (lvl α) := by rw [ac_0 A5 (by decide), c1_o _ _ _ (by decide), c1_o _ _ _ (by decide)]; exact Dm0.1
  rw [z5, nI_1]
  obtain ⟨h6, e6, A6, T6, F6, r6⟩ := dr_w A5 T5 0 0 (nI (lvl α + 1)) (by decide)
  have e6' : sI h5 15 0 (nI (lvl α + 1)) = h6 := e6
  rw [e6']
  have F := Fr_trans (PT_SC F1) (Fr_trans (PT_SC F2) (Fr_trans F3 (Fr_trans (PT_SC F4) (Fr_trans F5 F6))))
  have r29 : ∀ j, hI h6 29 j = hI h 29 j := fun j => by rw [r6, r5, F4.2.2.2 29 j (fun z => by unfold PT at z; omega), r3, F2.2.2.2 29 j (fun z => by unfold PT at z; omega), F1.2.2.2 29 j (fun z => by unfold PT at z; omega)]
  refine ⟨h6, rfl, ⟨A6, ?_, by rw [r29]; exact d2, by rw [r29]; exact d3, T6⟩, F⟩
  have l1 : lvl (lvX α (xV t n 0 999 (xA t n x)) (xV t n 1 8 (xN t n 0 999 (xA t n x)))) = lvl α + 1 := by
    show (lvX α _ _ 0 0).toNatClampNeg = _
    unfold lvX
    rw [c1_s, nI_clamp (by omega)]
  have q : ∀ i, i ≠ 0 → lvX α (xV t n 0 999 (xA t n x)) (xV t n 1 8 (xN t n 0 999 (xA t n x))) 0 i = α 0 i := fun i hi => by
    unfold lvX
    rw [c1_e _ _ hi, c1_o _ _ _ (by decide), c1_o _ _ _ (by decide)]
  obtain ⟨m1, m2, m3, m4, m5, m6⟩ := Dm0
  have l2 : bgs (lvX α (xV t n 0 999 (xA t n x)) (xV t n 1 8 (xN t n 0 999 (xA t n x)))) = bgs α := by unfold bgs; rw [q 1 (by decide)]
  have l3 : bks (lvX α (xV t n 0 999 (xA t n x)) (xV t n 1 8 (xN t n 0 999 (xA t n x)))) = bks α := by unfold bks; rw [q 7 (by decide)]
  refine ⟨?_, ?_, ?_, by omega, by omega, by omega⟩
  · rw [l1]; unfold lvX; rw [c1_s]
  · rw [l2, q 1 (by decide)]; exact m2
  · rw [l3, q 7 (by decide)]; exact m3
