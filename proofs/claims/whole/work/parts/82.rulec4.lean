/-! ===== texts: the class reads tests ===== -/
theorem r_oE {n : Nat} {t : TY} {h : Hp} {y : YS} (o : Bool) (c : Int32) (C : CR t n h y) : ∃ h', (if b2i o = 0 then some h else f_X2_emit h 30 c) = some h' ∧ CR t n h' (if o = true then yE c y else y) ∧ Fr PY h h' := by
  cases o with
  | false => rw [if_pos (show b2i false = 0 by decide), if_neg (by decide)]; exact ⟨h, rfl, C, Fr_refl h⟩
  | true => rw [if_neg (by decide), if_pos rfl]; exact r_emit c C
theorem r_tl {N n d : Nat} {t : TY} {F : YS → YS} {rT rF : Hp → Nat → Int32 → Option Hp} (hN : 5000 ≤ N) (hF : ∀ h y, CR t n h y → ∃ h', rF h 30 (nI d) = some h' ∧ CR t n h' (F y) ∧ Fr PY h h') : ∀ (f c k : Nat) (h : Hp) (o : Bool) (y : YS), f + c = 400 → f < k → CR t n h y → ∃ h', f_X2_readTest_9 N rT rF k h 30 (nI d) (b2i o) (nI c) = some h' ∧ CR t n h' (yTl t n F f o y) ∧ Fr PY h h' := by
  have e100 : ∀ (h : Hp) (o : Bool) (y : YS), CR t n h y → ∃ h', f_X2_readTest_100 N rT rF h 30 (b2i o) = some h' ∧ CR t n h' (if o = true then yE 100010 y else y) ∧ Fr PY h h' := by
    intro h o y C
    unfold f_X2_readTest_100
    cases o with
    | false => rw [if_pos (show b2i false = 0 by decide), if_neg (by decide)]; exact ⟨h, rfl, C, Fr_refl h⟩
    | true =>
      rw [if_neg (by decide), if_pos rfl]
      obtain ⟨h', i1, i2, i3⟩ := r_emit 100010 C
      rw [i1, bs]
      exact ⟨h', rfl, i2, i3⟩
  intro f
  induction f with
  | zero =>
    intro c k h o y hc hk C
    obtain ⟨k, rfl⟩ : ∃ j, k = j + 1 := ⟨k - 1, by omega⟩
    rw [f_X2_readTest_9, if_pos (show (400 : Int32) ≤ nI c from nI_le (a := 400) (by omega) (by omega))]
    exact e100 h o y C
  | succ f ih =>
    intro c k h o y hc hk C
    obtain ⟨k, rfl⟩ : ∃ j, k = j + 1 := ⟨k - 1, by omega⟩
    have T := C.1
    have H := TX_S T
    have e66 : ∀ (g : Hp) (z : YS) (q : Bool), CR t n g z → Fr PY h g → ∃ h3, f_X2_readTest_66 N rT rF (f_X2_readTest_9 N rT rF k) g 30 (nI d) (b2i o) (nI c) (b2i q) = (if b2i q = 0 then Option.bind (f_X2_emit h3 30 100009) (fun h5 => f_X2_readTest_9 N rT rF k h5 30 (nI d) (b2i o ||| b2i q) (nI (c + 1))) else f_X2_readTest_9 N rT rF k h3 30 (nI d) (b2i o ||| b2i q) (nI (c + 1))) ∧ CR t n h3 (F (yA t n z)) ∧ Fr PY h h3 := by
      intro g z q D G
      obtain ⟨g1, i1, i2, i3⟩ := r_adv hN D
      obtain ⟨g2, j1, j2, j3⟩ := hF g1 _ i2
      unfold f_X2_readTest_66 f_X2_readTest_89
      rw [pp_30_0 (TX_S D.1), bs, i1, bs, j1, bs, nI_1]
      exact ⟨g2, rfl, j2, Fr_trans G (Fr_trans i3 j3)⟩
    rw [f_X2_readTest_9, if_neg (show ¬ (400 : Int32) ≤ nI c from nI_ge (b := 400) (by omega) (by decide)), pp_30_0 H, bs, g_or hN T, bs, yTl, b_if]
    by_cases w16 : xW t n 16 y.1 = true
    · rw [if_pos w16, if_pos w16]
      unfold f_X2_readTest_40
      rw [pp_30_0 H, bs, g_or hN T, bs, w16, if_neg (by decide)]
      have fin : ∀ (g : Hp) (z : YS), CR t n g z → Fr PY h g → ∃ h', f_X2_readTest_66 N rT rF (f_X2_readTest_9 N rT rF k) g 30 (nI d) (b2i o) (nI c) (b2i true) = some h' ∧ CR t n h' (yTl t n F f true (F (yA t n z))) ∧ Fr PY h h' := by
        intro g z D G
        obtain ⟨h3, i1, i2, i3⟩ := e66 g z true D G
        rw [i1, if_neg (by decide), show b2i o ||| b2i true = b2i true by cases o <;> decide]
        obtain ⟨h5, k1, k2, k3⟩ := ih (c + 1) k h3 true _ (by omega) (by omega) i2
        exact ⟨h5, k1, k2, Fr_trans i3 k3⟩
      cases o with
      | false =>
        rw [if_pos (show b2i false = 0 by decide), if_neg (show ¬ (false = true) by decide)]
        exact fin h y C (Fr_refl h)
      | true =>
        rw [if_neg (show ¬ b2i true = 0 by decide), if_pos rfl]
        obtain ⟨h4, j1, j2, j3⟩ := r_emit 100010 C
        rw [j1, bs]
        exact fin h4 _ j2 j3
    · rw [if_neg w16, if_neg w16, bs, g_and hN T, bs, b_if]
      by_cases w17 : xW t n 17 y.1 = true
      · rw [if_pos w17, if_pos w17]
        unfold f_X2_readTest_40
        rw [pp_30_0 H, bs, g_or hN T, bs, Bool.eq_false_iff.mpr w16, if_pos (show b2i false = 0 by decide)]
        obtain ⟨h3, i1, i2, i3⟩ := e66 h y false C (Fr_refl h)
        rw [i1, if_pos (show b2i false = 0 by decide), show b2i o ||| b2i false = b2i o by cases o <;> decide]
        obtain ⟨h4, j1, j2, j3⟩ := r_emit 100009 i2
        rw [j1, bs]
        obtain ⟨h5, k1, k2, k3⟩ := ih (c + 1) k h4 o _ (by omega) (by omega) j2
        exact ⟨h5, k1, k2, Fr_trans i3 (Fr_trans j3 k3)⟩
      · rw [if_neg w17, if_neg w17]
        exact e100 h o y C
theorem r_g {N n : Nat} {t : TY} (hN : 5000 ≤ N) : ∀ (D : Nat) (b : Bool) (d : Nat) (h : Hp) (y : YS), d ≤ 10 → 2 * (10 - d) + (if b = true then 2 else 1) ≤ D → CR t n h y → ∃ h', f_X2_readTest_grp N D b h 30 (nI d) = some h' ∧ CR t n h' (yG t n D b d y) ∧ Fr PY h h' := by
  intro D
  induction D with
  | zero =>
    intro b d h y hd hD C
    cases b with
    | false => rw [if_neg (by decide)] at hD; omega
    | true => rw [if_pos rfl] at hD; omega
  | succ D ih =>
    intro b d h y hd hD C
    cases b with
    | true =>
      rw [if_pos rfl] at hD
      have hF : ∀ g z, CR t n g z → ∃ h', f_X2_readTest_grp N D false g 30 (nI d) = some h' ∧ CR t n h' (yG t n D false d z) ∧ Fr PY g h' := fun g z Z => ih false d g z hd (by rw [if_neg (by decide)]; omega) Z
      obtain ⟨h1, i1, i2, i3⟩ := hF h y C
      obtain ⟨h2, j1, j2, j3⟩ := r_tl (N := N) (rT := f_X2_readTest_grp N D true) hN hF 400 0 N h1 false _ (by omega) (by omega) i2
      have j1' : f_X2_readTest_9 N (f_X2_readTest_grp N D true) (f_X2_readTest_grp N D false) N h1 30 (nI d) 0 0 = some h2 := j1
      rw [f_X2_readTest_grp]
      unfold f_X2_readTest_o
      rw [i1, bs, j1']
      exact ⟨h2, rfl, j2, Fr_trans i3 j3⟩
    | false =>
      rw [if_neg (by decide)] at hD
      have T := C.1
      have H := TX_S T
      rw [f_X2_readTest_grp, yG]
      unfold f_X2_readFact_o
      rw [pp_30_0 H, bs, g_word hN (by decide) T, bs, bs, TX_k T]
      have deep : 10 ≤ d → ∃ h', f_X2_readFact_36 N (f_X2_readTest_grp N D true) (f_X2_readTest_grp N D false) h 30 (nI d) (b2i (xW t n 5 y.1)) (if xK t n y.1 = 91 then 1 else 0) = some h' ∧ CR t n h' (yF 2 y) ∧ Fr PY h h' := by
        intro h10
        unfold f_X2_readFact_36
        rw [if_neg (show ¬ nI d < 10 from nI_nlt (b := 10) h10 (by omega)), pp_30_0 H, bs]
        obtain ⟨h1, j1, j2, j3⟩ := r_fail (k := 2) (by decide) C
        have j1' : f_X6_fail h 1 2 = some h1 := j1
        rw [j1', bs]
        exact ⟨h1, rfl, j2, j3⟩
      have e27 : ∀ v3 : Int32, (if xK t n y.1 = 91 then f_X2_readFact_27 N (f_X2_readTest_grp N D true) (f_X2_readTest_grp N D false) h 30 (nI d) (b2i (xW t n 5 y.1)) 1 else f_X2_readFact_27 N (f_X2_readTest_grp N D true) (f_X2_readTest_grp N D false) h 30 (nI d) (b2i (xW t n 5 y.1)) 0) = f_X2_readFact_27 N (f_X2_readTest_grp N D true) (f_X2_readTest_grp N D false) h 30 (nI d) (b2i (xW t n 5 y.1)) (if xK t n y.1 = 91 then 1 else 0) := by
        intro _
        by_cases c : xK t n y.1 = 91
        · rw [if_pos c, if_pos c]
        · rw [if_neg c, if_neg c]
      rw [e27 0]
      unfold f_X2_readFact_27
      by_cases w5 : xW t n 5 y.1 = true
      · by_cases h10 : 10 ≤ d
        · rw [if_pos (show (xW t n 5 y.1 = true ∨ xK t n y.1 = 91) ∧ 10 ≤ d from ⟨Or.inl w5, h10⟩), if_neg (show ¬ b2i (xW t n 5 y.1) = 0 by rw [w5]; decide)]
          exact deep h10
        · rw [if_neg (show ¬ ((xW t n 5 y.1 = true ∨ xK t n y.1 = 91) ∧ 10 ≤ d) from fun z => h10 z.2), if_pos w5, if_neg (show ¬ b2i (xW t n 5 y.1) = 0 by rw [w5]; decide)]
          unfold f_X2_readFact_36 f_X2_readFact_53
          rw [if_pos (show nI d < 10 from nI_lt (b := 10) (by omega) (by decide)), if_neg (show ¬ b2i (xW t n 5 y.1) = 0 by rw [w5]; decide), pp_30_0 H, bs]
          obtain ⟨h1, i1, i2, i3⟩ := r_adv hN C
          obtain ⟨h2, j1, j2, j3⟩ := ih false (d + 1) h1 _ (by omega) (by rw [if_neg (by decide)]; omega) i2
          obtain ⟨h3, k1, k2, k3⟩ := r_emit 100011 j2
          rw [i1, bs, nI_1, j1, bs, k1, bs]
          exact ⟨h3, rfl, k2, Fr_trans i3 (Fr_trans j3 k3)⟩
      · rw [if_pos (b2i_0.mpr (Bool.eq_false_iff.mpr w5))]
        by_cases c91 : xK t n y.1 = 91
        · by_cases h10 : 10 ≤ d
          · rw [if_pos (show (xW t n 5 y.1 = true ∨ xK t n y.1 = 91) ∧ 10 ≤ d from ⟨Or.inr c91, h10⟩)]
            have := deep h10
            rw [if_pos c91] at this ⊢
            rw [if_neg (by decide)]
            exact this
          · rw [if_neg (show ¬ ((xW t n 5 y.1 = true ∨ xK t n y.1 = 91) ∧ 10 ≤ d) from fun z => h10 z.2), if_neg w5, if_pos c91, if_pos c91, if_neg (show ¬ (1 : Int32) = 0 by decide)]
            unfold f_X2_readFact_36 f_X2_readFact_53
            rw [if_pos (show nI d < 10 from nI_lt (b := 10) (by omega) (by decide)), if_pos (b2i_0.mpr (Bool.eq_false_iff.mpr w5)), if_neg (show ¬ (1 : Int32) = 0 by decide), pp_30_0 H, bs]
            obtain ⟨h1, i1, i2, i3⟩ := r_adv hN C
            obtain ⟨h2, j1, j2, j3⟩ := ih true (d + 1) h1 _ (by omega) (by rw [if_pos rfl]; omega) i2
            obtain ⟨h3, k1, k2, k3⟩ := r_cl hN j2
            rw [i1, bs, nI_1, j1, bs, k1, bs]
            exact ⟨h3, rfl, k2, Fr_trans i3 (Fr_trans j3 k3)⟩
        · rw [if_neg (show ¬ ((xW t n 5 y.1 = true ∨ xK t n y.1 = 91) ∧ 10 ≤ d) from fun z => z.1.elim w5 c91), if_neg w5, if_neg c91, if_neg c91, if_pos rfl]
          unfold f_X2_readFact_53 yCmp
          rw [if_pos (b2i_0.mpr (Bool.eq_false_iff.mpr w5)), if_pos rfl]
          obtain ⟨h1, i1, i2, i3⟩ := r_sum hN C
          obtain ⟨h2, j1, j2, j3⟩ := r_cmp hN i2
          obtain ⟨h3, k1, k2, k3⟩ := r_sum hN j2
          obtain ⟨h4, l1, l2, l3⟩ := r_emit (xP t n (ySum t n y).1) k2
          rw [i1, bs, j1, b2s, k1, bs, l1, bs]
          exact ⟨h4, rfl, l2, Fr_trans i3 (Fr_trans j3 (Fr_trans k3 l3))⟩
