/-! ===== texts: the class reads sums, facts and tests ===== -/
theorem r_o {n : Nat} {t : TY} {h : Hp} {y : YS} (o : Int32) (C : CR t n h y) : ∃ h', (if o = -1 then some h else f_X2_emit h 30 o) = some h' ∧ CR t n h' (yO o y) ∧ Fr PY h h' := by
  unfold yO
  by_cases c : o = -1
  · rw [if_pos c, if_pos c]; exact ⟨h, rfl, C, Fr_refl h⟩
  · rw [if_neg c, if_neg c]; exact r_emit o C
theorem r_94 {N n : Nat} {t : TY} {h : Hp} {y : YS} (o : Int32) (C : CR t n h y) : ∃ h', f_X2_readSum_94 N h 30 o = some h' ∧ CR t n h' (yO o y) ∧ Fr PY h h' := by
  unfold f_X2_readSum_94 yO
  by_cases c : o = -1
  · rw [if_pos c, if_pos c]; exact ⟨h, rfl, C, Fr_refl h⟩
  · rw [if_neg c, if_neg c]
    obtain ⟨h', i1, i2, i3⟩ := r_emit o C
    rw [i1, bs]
    exact ⟨h', rfl, i2, i3⟩
theorem r_sl {N n : Nat} {t : TY} (hN : 5000 ≤ N) : ∀ (f c k : Nat) (h : Hp) (o : Int32) (y : YS), f + c = 400 → f < k → CR t n h y → ∃ h', f_X2_readSum_8 N k h 30 o (nI c) = some h' ∧ CR t n h' (ySl t n f o y) ∧ Fr PY h h' := by
  intro f
  induction f with
  | zero =>
    intro c k h o y hc hk C
    obtain ⟨k, rfl⟩ : ∃ j, k = j + 1 := ⟨k - 1, by omega⟩
    rw [f_X2_readSum_8, if_pos (show (400 : Int32) ≤ nI c from nI_le (a := 400) (by omega) (by omega))]
    exact r_94 o C
  | succ f ih =>
    intro c k h o y hc hk C
    obtain ⟨k, rfl⟩ : ∃ j, k = j + 1 := ⟨k - 1, by omega⟩
    have T := C.1
    rw [f_X2_readSum_8, if_neg (show ¬ (400 : Int32) ≤ nI c from nI_ge (b := 400) (by omega) (by decide)), r_op T, bs, ySl]
    by_cases n1 : xO t n y.1 = -1
    · rw [if_pos n1, if_pos n1]
      exact r_94 o C
    · rw [if_neg n1, if_neg n1, bs]
      -- the sign is passed, a value read
      have s62 : ∀ (g : Hp) (z : YS) (op v4 : Int32), CR t n g z → Fr PY h g → ∃ h3, f_X2_readSum_62 N (f_X2_readSum_8 N k) g 30 o (nI c) op v4 = (if v4 = 0 then f_X2_readSum_8 N k h3 30 op (nI (c + 1)) else Option.bind (f_X2_emit h3 30 op) (fun h5 => f_X2_readSum_8 N k h5 30 o (nI (c + 1)))) ∧ CR t n h3 (yVal t n (yA t n z)) ∧ Fr PY h h3 := by
        intro g z op v4 D F
        obtain ⟨g1, i1, i2, i3⟩ := r_adv hN D
        obtain ⟨g2, j1, j2, j3⟩ := r_val hN i2
        unfold f_X2_readSum_62 f_X2_readSum_88
        rw [pp_30_0 (TX_S D.1), bs, i1, bs, j1, bs, nI_1]
        exact ⟨g2, rfl, j2, Fr_trans F (Fr_trans i3 j3)⟩
      have term : ∃ h', f_X2_readSum_40 N (f_X2_readSum_8 N k) h 30 o (nI c) (xO t n y.1) = some h' ∧ CR t n h' (ySl t n f o (yE (xO t n y.1) (yVal t n (yA t n y)))) ∧ Fr PY h h' := by
        unfold f_X2_readSum_40 f_X2_readSum_45
        rw [if_neg (by decide)]
        obtain ⟨h3, i1, i2, i3⟩ := s62 h y (xO t n y.1) 1 C (Fr_refl h)
        rw [i1, if_neg (by decide)]
        obtain ⟨h4, j1, j2, j3⟩ := r_emit (xO t n y.1) i2
        rw [j1, bs]
        obtain ⟨h5, k1, k2, k3⟩ := ih (c + 1) k h4 o _ (by omega) (by omega) j2
        exact ⟨h5, k1, k2, Fr_trans i3 (Fr_trans j3 k3)⟩
      by_cases t2 : xO t n y.1 = 100002
      · rw [if_pos t2, if_pos (Or.inl t2)]; exact term
      · rw [if_neg t2]
        by_cases t3 : xO t n y.1 = 100003
        · rw [if_pos t3, if_pos (Or.inr t3)]; exact term
        · rw [if_neg t3, if_neg (fun z => z.elim t2 t3)]
          unfold f_X2_readSum_45
          rw [if_pos rfl]
          have fin : ∀ (g : Hp) (z : YS), CR t n g z → Fr PY h g → ∃ h', f_X2_readSum_62 N (f_X2_readSum_8 N k) g 30 o (nI c) (xO t n y.1) 0 = some h' ∧ CR t n h' (ySl t n f (xO t n y.1) (yVal t n (yA t n z))) ∧ Fr PY h h' := by
            intro g z D F
            obtain ⟨h3, i1, i2, i3⟩ := s62 g z (xO t n y.1) 0 D F
            rw [i1, if_pos rfl]
            obtain ⟨h5, k1, k2, k3⟩ := ih (c + 1) k h3 (xO t n y.1) _ (by omega) (by omega) i2
            exact ⟨h5, k1, k2, Fr_trans i3 k3⟩
          unfold yO
          by_cases o1 : o = -1
          · rw [if_pos o1, if_pos o1]; exact fin h y C (Fr_refl h)
          · rw [if_neg o1, if_neg o1]
            obtain ⟨h4, j1, j2, j3⟩ := r_emit o C
            rw [j1, bs]
            exact fin h4 _ j2 j3
theorem r_sum {N n : Nat} {t : TY} {h : Hp} {y : YS} (hN : 5000 ≤ N) (C : CR t n h y) : ∃ h', f_X2_readSum N h 30 = some h' ∧ CR t n h' (ySum t n y) ∧ Fr PY h h' := by
  obtain ⟨h1, i1, i2, i3⟩ := r_val hN C
  obtain ⟨h2, j1, j2, j3⟩ := r_sl (N := N) hN 400 0 N h1 (-1) _ (by omega) (by omega) i2
  have j1' : f_X2_readSum_8 N N h1 30 (-1) 0 = some h2 := j1
  unfold f_X2_readSum
  rw [i1, bs, j1']
  exact ⟨h2, rfl, j2, Fr_trans i3 j3⟩
def yCl (t : TY) (n : Nat) (y : YS) : YS := yA t n (if xK t n y.1 = 93 then y else yF 0 y)
theorem r_cl {N n : Nat} {t : TY} {h : Hp} {y : YS} (hN : 5000 ≤ N) (C : CR t n h y) : ∃ h', f_X2_takeClosing N h 30 = some h' ∧ CR t n h' (yCl t n y) ∧ Fr PY h h' := by
  unfold f_X2_takeClosing f_X2_takeClosing_20 yCl
  rw [pp_30_0 (TX_S C.1), bs, TX_k C.1]
  by_cases c : xK t n y.1 = 93
  · rw [if_pos c, if_pos c, bs]
    obtain ⟨h', i1, i2, i3⟩ := r_adv hN C
    rw [i1, bs]
    exact ⟨h', rfl, i2, i3⟩
  · rw [if_neg c, if_neg c, bs]
    obtain ⟨h1, j1, j2, j3⟩ := r_fail (k := 0) (by decide) C
    have j1' : f_X6_fail h 1 0 = some h1 := j1
    obtain ⟨h', i1, i2, i3⟩ := r_adv hN j2
    rw [j1', bs, pp_30_0 (TX_S j2.1), bs, i1, bs]
    exact ⟨h', rfl, i2, Fr_trans j3 i3⟩
def xP (t : TY) (n : Nat) (x : XT0) : Int32 := if xK t n x = 60 then 100004 else if xK t n x = 61 then 100006 else if xK t n x = 62 then 100008 else if xK t n x = 259 then 100005 else if xK t n x = 260 then 100007 else -1
def yP (t : TY) (n : Nat) (y : YS) : YS := yA t n (if xP t n y.1 = -1 then yF 0 y else yC y)
theorem r_cmp {N n : Nat} {t : TY} {h : Hp} {y : YS} (hN : 5000 ≤ N) (C : CR t n h y) : ∃ h', f_X2_takeComparison N h 30 = some (xP t n y.1, h') ∧ CR t n h' (yP t n y) ∧ Fr PY h h' := by
  have e : f_X2_comparisonAhead h 30 = some (xP t n y.1) := by
    unfold f_X2_comparisonAhead xP
    rw [pp_30_0 (TX_S C.1), bs, TX_k C.1]
    generalize xK t n y.1 = k
    by_cases a : k = 60
    · rw [if_pos a, if_pos a]
    rw [if_neg a, if_neg a]
    by_cases a : k = 61
    · rw [if_pos a, if_pos a]
    rw [if_neg a, if_neg a]
    by_cases a : k = 62
    · rw [if_pos a, if_pos a]
    rw [if_neg a, if_neg a]
    by_cases a : k = 259
    · rw [if_pos a, if_pos a]
    rw [if_neg a, if_neg a]
    by_cases a : k = 260
    · rw [if_pos a, if_pos a]
    rw [if_neg a, if_neg a]
  unfold f_X2_takeComparison f_X2_takeComparison_25 yP
  rw [e, bs]
  by_cases c : xP t n y.1 = -1
  · rw [if_pos c, if_pos c, pp_30_0 (TX_S C.1), bs]
    obtain ⟨h1, j1, j2, j3⟩ := r_fail (k := 0) (by decide) C
    have j1' : f_X6_fail h 1 0 = some h1 := j1
    obtain ⟨h', i1, i2, i3⟩ := r_adv hN j2
    rw [j1', bs, pp_30_0 (TX_S j2.1), bs, i1, bs]
    exact ⟨h', rfl, i2, Fr_trans j3 i3⟩
  · rw [if_neg c, if_neg c]
    obtain ⟨h1, j1, j2, j3⟩ := r_count C
    obtain ⟨h', i1, i2, i3⟩ := r_adv hN j2
    rw [j1, bs, pp_30_0 (TX_S j2.1), bs, i1, bs]
    exact ⟨h', rfl, i2, Fr_trans j3 i3⟩
/-- one comparison -/
def yCmp (t : TY) (n : Nat) (y : YS) : YS := yE (xP t n (ySum t n y).1) (ySum t n (yP t n (ySum t n y)))
/-- tests and facts, to a depth of recursion -/
def yTl (t : TY) (n : Nat) (F : YS → YS) : Nat → Bool → YS → YS
  | 0, o, y => if o = true then yE 100010 y else y
  | f + 1, o, y => if xW t n 16 y.1 = true then yTl t n F f true (F (yA t n (if o = true then yE 100010 y else y))) else if xW t n 17 y.1 = true then yTl t n F f o (yE 100009 (F (yA t n y))) else if o = true then yE 100010 y else y
def yG (t : TY) (n : Nat) : Nat → Bool → Nat → YS → YS
  | 0, _, _, y => y
  | D + 1, true, d, y => yTl t n (yG t n D false d) 400 false (yG t n D false d y)
  | D + 1, false, d, y => if (xW t n 5 y.1 = true ∨ xK t n y.1 = 91) ∧ 10 ≤ d then yF 2 y else if xW t n 5 y.1 = true then yE 100011 (yG t n D false (d + 1) (yA t n y)) else if xK t n y.1 = 91 then yCl t n (yG t n D true (d + 1) (yA t n y)) else yCmp t n y
