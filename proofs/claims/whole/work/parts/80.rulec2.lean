/-! ===== texts: the class reads values and sums ===== -/
def xWd (t : TY) (n : Nat) (x : XT0) : Int32 := if xK t n x = 258 then (if xW t n 6 x = true then 0 else if xW t n 7 x = true then 1 else if xW t n 8 x = true then 2 else if xW t n 9 x = true then 3 else if xW t n 10 x = true then 4 else if xW t n 11 x = true then 5 else if xW t n 12 x = true then 6 else if xW t n 13 x = true then 7 else if xW t n 14 x = true then 8 else if xW t n 15 x = true then 9 else -1) else -1
def xM (t : TY) (n : Nat) : XT0 → Int32
  | .inl _ => 0
  | .inr s => nm t s (dge t n s)
theorem b_if {β : Type} (b : Bool) (u v : β) : (if b2i b = 0 then u else v) = if b = true then v else u := by
  cases b
  · rw [if_pos (show b2i false = 0 by decide), if_neg (by decide)]
  · rw [if_neg (by decide), if_pos rfl]
theorem r_wah {N n : Nat} {t : TY} {h : Hp} {x : XT0} (hN : 5000 ≤ N) (T : TX t n h x) : f_X6_wordAmong N h 1 6 = some (xWd t n x) := by
  cases x with
  | inl f =>
    rw [f_among hN (by decide) T]
    unfold xWd
    rw [if_neg (show ¬ xK t n (.inl f) = 258 by show ¬ (261 : Int32) = 258; decide)]
  | inr s =>
    rw [c_among hN (by decide) T]
    unfold xWd
    by_cases l : s < n ∧ isL (t s) = true
    · rw [if_pos l, if_pos (show xK t n (.inr s) = 258 from kd_w l.1 l.2), wd_names]
      rfl
    · rw [if_neg l, if_neg (show ¬ xK t n (.inr s) = 258 from kd_nw l)]
def yVal (t : TY) (n : Nat) (y : YS) : YS := if xK t n y.1 = 257 then (if xM t n y.1 = -1 then yA t n (yF 1 y) else yA t n (yE (xM t n y.1) (yC y))) else if xWd t n y.1 = -1 then yA t n (yF 0 y) else yA t n (yE (-1 - xWd t n y.1) (yC y))
theorem TX_m {t : TY} {n : Nat} {h : Hp} {x : XT0} (T : TX t n h x) (k : xK t n x = 257) : hI h 1 3 = xM t n x := by
  cases x with
  | inl f => exact absurd (show (261 : Int32) = 257 from k) (by decide)
  | inr s =>
    have k' : kd t n s = 257 := k
    obtain ⟨H, e2, e1, hn, hs, e6, ek, e4, e5, e3, hk⟩ := T
    by_cases l : s < n ∧ isD (t s) = true
    · exact e3 l.1 l.2
    · exact absurd k' (kd_nd l)
theorem r_val {N n : Nat} {t : TY} {h : Hp} {y : YS} (hN : 5000 ≤ N) (C : CR t n h y) : ∃ h', f_X2_readValue N h 30 = some h' ∧ CR t n h' (yVal t n y) ∧ Fr PY h h' := by
  have T := C.1
  have H := TX_S T
  have v99 : ∀ (g : Hp) (z : YS), CR t n g z → Fr PY h g → ∃ h', f_X2_readValue_104 N g 30 = some h' ∧ CR t n h' (yA t n z) ∧ Fr PY h h' := by
    intro g z D F
    obtain ⟨h', i1, i2, i3⟩ := r_adv hN D
    unfold f_X2_readValue_104
    rw [pp_30_0 (TX_S D.1), bs, i1, bs]
    exact ⟨h', rfl, i2, Fr_trans F i3⟩
  have bad : ∀ k, k ≤ 4 → ∃ h', Option.bind (f_X6_fail h 1 (nI k)) (fun h20 => f_X2_readValue_104 N h20 30) = some h' ∧ CR t n h' (yA t n (yF k y)) ∧ Fr PY h h' := by
    intro k hk
    obtain ⟨h1, i1, i2, i3⟩ := r_fail hk C
    rw [i1, bs]
    exact v99 h1 _ i2 i3
  unfold f_X2_readValue yVal
  rw [pp_30_0 H, bs, r_wah hN T, bs, bs, TX_k T]
  by_cases k : xK t n y.1 = 257
  · rw [if_pos k, if_pos k, bs, TX_m T k]
    by_cases m : xM t n y.1 = -1
    · rw [if_pos m, if_pos m, bs]
      exact bad 1 (by decide)
    · rw [if_neg m, if_neg m]
      unfold f_X2_readValue_45
      rw [pp_30_0 H, bs, TX_k T, if_pos k]
      obtain ⟨h1, i1, i2, i3⟩ := r_count C
      rw [i1, bs, pp_30_0 (TX_S i2.1), bs]
      have e3 : hI h1 1 3 = xM t n y.1 := by
        have : hI h1 1 3 = hI h 1 3 := by
          unfold f_X2_countOne at i1
          by_cases l : hI h 30 3 < 60
          · rw [if_pos l] at i1
            unfold f_X2_countOne_17 at i1
            rw [lts] at i1
            have : sI h 30 3 (hI h 30 3 + 1) = h1 := by injection i1
            rw [← this, hI_sI, if_neg (by omega)]
          · rw [if_neg l, pp_30_0 H, bs] at i1
            unfold f_X6_fail f_X2_countOne_17 at i1
            by_cases e : hI h 1 6 = 0
            · rw [if_pos e, lts, lts, bs, lts] at i1
              have := (Option.some.inj i1)
              rw [← this, hI_sI, if_neg (by omega), hI_sI, if_neg (by omega), hI_sI, if_neg (by omega)]
            · rw [if_neg e, bs, lts] at i1
              have := (Option.some.inj i1)
              rw [← this, hI_sI, if_neg (by omega)]
        rw [this]
        exact TX_m T k
      rw [e3]
      obtain ⟨h2, j1, j2, j3⟩ := r_emit (xM t n y.1) i2
      rw [j1, bs]
      exact v99 h2 _ j2 (Fr_trans i3 j3)
  · rw [if_neg k, if_neg k]
    unfold f_X2_readValue_45
    rw [pp_30_0 H, bs, TX_k T, if_neg k]
    by_cases w : xWd t n y.1 = -1
    · rw [if_pos w, if_pos w, bs]
      exact bad 0 (by decide)
    · rw [if_neg w, if_neg w]
      obtain ⟨h1, i1, i2, i3⟩ := r_count C
      rw [i1, bs]
      unfold f_X1_codeOfWord
      rw [bs]
      obtain ⟨h2, j1, j2, j3⟩ := r_emit (-1 - xWd t n y.1) i2
      rw [j1, bs]
      exact v99 h2 _ j2 (Fr_trans i3 j3)
def xO (t : TY) (n : Nat) (x : XT0) : Int32 := if xK t n x = 42 then 100002 else if xK t n x = 43 then 100000 else if xK t n x = 45 then 100001 else if xK t n x = 47 then 100003 else -1
theorem r_op {n : Nat} {t : TY} {h : Hp} {x : XT0} (T : TX t n h x) : f_X2_operatorAhead h 30 = some (xO t n x) := by
  unfold f_X2_operatorAhead xO
  rw [pp_30_0 (TX_S T), bs, TX_k T]
  generalize xK t n x = k
  by_cases c42 : k = 42
  · rw [if_pos c42, if_pos c42]
  rw [if_neg c42, if_neg c42]
  by_cases c43 : k = 43
  · rw [if_pos c43, if_pos c43]
  rw [if_neg c43, if_neg c43]
  by_cases c44 : k = 44
  · rw [if_pos c44, c44, if_neg (by decide), if_neg (by decide)]
  rw [if_neg c44]
  by_cases c45 : k = 45
  · rw [if_pos c45, if_pos c45]
  rw [if_neg c45, if_neg c45]
  by_cases c46 : k = 46
  · rw [if_pos c46, c46, if_neg (by decide)]
  rw [if_neg c46]
  by_cases c47 : k = 47
  · rw [if_pos c47, if_pos c47]
  rw [if_neg c47, if_neg c47]
def yO (o : Int32) (y : YS) : YS := if o = -1 then y else yE o y
def ySl (t : TY) (n : Nat) : Nat → Int32 → YS → YS
  | 0, o, y => yO o y
  | f + 1, o, y => if xO t n y.1 = -1 then yO o y else if xO t n y.1 = 100002 ∨ xO t n y.1 = 100003 then ySl t n f o (yE (xO t n y.1) (yVal t n (yA t n y))) else ySl t n f (xO t n y.1) (yVal t n (yA t n (yO o y)))
def ySum (t : TY) (n : Nat) (y : YS) : YS := ySl t n 400 (-1) (yVal t n y)
