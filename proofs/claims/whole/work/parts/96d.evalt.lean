/-! ===== what a test's codes come to ===== -/
theorem nI_inj60 {a b : Nat} (ha : a ≤ 60) (hb : b ≤ 60) (e : nI a = nI b) : a = b := (nI_eq (by omega) (by omega)).mp e
/-- inside a test, an or perhaps open -/
def TI (n k s0 m0 : Nat) (cs0 : List Int32) (o : Bool) (y : YS) : Prop := (∃ f, y.1 = .inl f ∧ f ≠ 0) ∨ ∃ s cn m, y = (.inr s, cs0 ++ cn, nI m) ∧ s0 < s ∧ s ≤ n ∧ (cs0 ++ cn).length + k + (if o = true then 1 else 0) ≤ s ∧ m0 ≤ m ∧ m ≤ 60 ∧ (if o = true then QB2 cn (m - m0) else QB cn (m - m0))
theorem TI_o {n k s0 m0 : Nat} {cs0 : List Int32} {o : Bool} {y : YS} (hn : n ≤ 400) (S : TI n k s0 m0 cs0 o y) : TI n k s0 m0 cs0 false (if o = true then yE 100010 y else y) := by
  cases o with
  | false => exact S
  | true =>
    rw [if_pos rfl]
    rcases S with ⟨f, e, hf⟩ | ⟨s, cn, m, e, h1, h2, h3, h4, h5, h6⟩
    · exact Or.inl ⟨f, by rw [yE_1]; exact e, hf⟩
    · rw [if_pos rfl] at h3 h6
      rw [e, yE_r (by omega)]
      refine Or.inr ⟨s, cn ++ [100010], m, by rw [List.append_assoc], h1, h2, ?_, h4, h5, ?_⟩
      · rw [if_neg (by decide), ← List.append_assoc, List.length_append, List.length_singleton]
        omega
      · rw [if_neg (by decide)]
        exact QB2_or h6
def FW (n : Nat) (F : YS → YS) : Prop := ∀ (k s m : Nat) (cs : List Int32), s ≤ n → cs.length + k ≤ s → m ≤ 60 → WF n k (.inr s, cs, nI m) (F (.inr s, cs, nI m)) QB
theorem w_tl {t : TY} {n k s0 m0 : Nat} {cs0 : List Int32} {F : YS → YS} (hn : n ≤ 400) (hF : FW n F) : ∀ (f : Nat) (o : Bool) (y : YS), TI n k s0 m0 cs0 o y → TI n k s0 m0 cs0 false (yTl t n F f o y) := by
  intro f
  induction f with
  | zero => intro o y S; rw [yTl]; exact TI_o hn S
  | succ f ih =>
    intro o y S
    by_cases il : ∃ g, y.1 = .inl g ∧ g ≠ 0
    · obtain ⟨g, e, hg⟩ := il
      rw [yTl_l (f + 1) e hg]
      exact Or.inl ⟨g, e, hg⟩
    have S' := S
    rcases S with S | ⟨s, cn, m, e, h1, h2, h3, h4, h5, h6⟩
    · exact absurd S il
    rw [yTl]
    have ex : ∀ w, xW t n w y.1 = wd t n s w := fun w => by rw [e]; rfl
    rw [ex, ex]
    by_cases w16 : wd t n s 16 = true
    · rw [if_pos w16]
      apply ih
      have sn := (wd_yes (by decide) w16).1
      have gt := nt_gt (t := t) sn
      rcases TI_o hn S' with ⟨g, a1, a2⟩ | ⟨s', cn', m', e', g1, g2, g3, g4, g5, g6⟩
      · exfalso
        have : (if o = true then yE 100010 y else y).1 = y.1 := by
          cases o
          · rfl
          · exact yE_1 _ _
        rw [this, e] at a1
        cases a1
      · have es : s' = s := by
          have q : (if o = true then yE 100010 y else y).1 = y.1 := by
            cases o
            · rfl
            · exact yE_1 _ _
          have := congrArg Prod.fst e'
          rw [q, e] at this
          injection this with this
          exact this.symm
        subst es
        rw [if_neg (by decide)] at g3 g6
        rw [e', yA_p]
        rcases hF (k + 1) (nt t n s') m' (cs0 ++ cn') (nt_le (t := t) g2) (by omega) g5 with ⟨g, a1, a2⟩ | ⟨s1, s2, cs1, cv, m1, m2, a1, a2, a3, a4, a5, a6, a7, a8⟩
        · exact Or.inl ⟨g, a1, a2⟩
        · injection a1 with b1 b2'
          injection b1 with b1
          injection b2' with b2' b3
          have b4 : m' = m1 := nI_inj60 g5 (by omega) b3
          subst b1 b2' b4
          rw [a2]
          refine Or.inr ⟨s2, cn' ++ cv, m2, by rw [List.append_assoc], by omega, a4, ?_, by omega, a7, ?_⟩
          · rw [if_pos rfl, ← List.append_assoc]
            omega
          · rw [if_pos rfl, show m2 - m0 = (m' - m0) + (m2 - m') by omega]
            exact QB_app g6 a8
    · rw [if_neg w16]
      by_cases w17 : wd t n s 17 = true
      · rw [if_pos w17]
        apply ih
        have sn := (wd_yes (by decide) w17).1
        have gt := nt_gt (t := t) sn
        rw [e, yA_p]
        rcases hF (k + (if o = true then 1 else 0) + 1) (nt t n s) m (cs0 ++ cn) (nt_le (t := t) h2) (by omega) h5 with ⟨g, a1, a2⟩ | ⟨s1, s2, cs1, cv, m1, m2, a1, a2, a3, a4, a5, a6, a7, a8⟩
        · rw [yE_l a1 a2]; exact Or.inl ⟨g, a1, a2⟩
        · injection a1 with b1 b2'
          injection b1 with b1
          injection b2' with b2' b3
          have b4 : m = m1 := nI_inj60 h5 (by omega) b3
          subst b1 b2' b4
          rw [a2, yE_r (by omega)]
          refine Or.inr ⟨s2, cn ++ cv ++ [100009], m2, by simp only [List.append_assoc], by omega, a4, ?_, by omega, a7, ?_⟩
          · rw [show cs0 ++ (cn ++ cv ++ [100009]) = cs0 ++ cn ++ cv ++ [100009] by simp only [List.append_assoc], List.length_append, List.length_singleton]
            omega
          · rw [show m2 - m0 = (m - m0) + (m2 - m) by omega]
            cases o with
            | true => rw [if_pos rfl] at h6 ⊢; exact QB2_nd h6 a8
            | false => rw [if_neg (by decide)] at h6 ⊢; exact QB2_and (QB_app h6 a8)
      · rw [if_neg w17]; exact TI_o hn S'
theorem w_G {t : TY} {n : Nat} (hn : n ≤ 400) : ∀ (D : Nat), (∀ d, 2 * (10 - d) + 1 ≤ D → FW n (yG t n D false d)) ∧ (∀ d, 2 * (10 - d) + 2 ≤ D → FW n (yG t n D true d)) := by
  intro D
  induction D with
  | zero => exact ⟨fun d h => by omega, fun d h => by omega⟩
  | succ D ih =>
    refine ⟨fun d hD k s m cs hs hb hm => ?_, fun d hD k s m cs hs hb hm => ?_⟩
    · rw [yG_false]
      show WF n k (.inr s, cs, nI m) (if (wd t n s 5 = true ∨ kd t n s = 91) ∧ 10 ≤ d then _ else if wd t n s 5 = true then _ else if kd t n s = 91 then _ else _) QB
      by_cases c0 : (wd t n s 5 = true ∨ kd t n s = 91) ∧ 10 ≤ d
      · rw [if_pos c0]
        exact Or.inl ⟨flt s (nI 2), rfl, flt_ne (by omega) (by decide)⟩
      · rw [if_neg c0]
        by_cases w5 : wd t n s 5 = true
        · rw [if_pos w5, yA_p]
          have gt := nt_gt (t := t) (wd_yes (by decide) w5).1
          have d10 : ¬ 10 ≤ d := fun z => c0 ⟨Or.inl w5, z⟩
          rcases ih.1 (d + 1) (by omega) (k + 1) (nt t n s) m cs (nt_le (t := t) hs) (by omega) hm with ⟨g, a1, a2⟩ | ⟨s1, s2, cs1, cv, m1, m2, a1, a2, a3, a4, a5, a6, a7, a8⟩
          · rw [yE_l a1 a2]; exact Or.inl ⟨g, a1, a2⟩
          · injection a1 with b1 b2'
            injection b1 with b1
            injection b2' with b2' b3
            have b4 : m = m1 := nI_inj60 hm (by omega) b3
            subst b1 b2' b4
            rw [a2, yE_r (by omega)]
            refine Or.inr ⟨s, s2, cs, cv ++ [100011], m, m2, rfl, by rw [List.append_assoc], by omega, a4, ?_, a6, a7, QB_not a8⟩
            rw [← List.append_assoc, List.length_append, List.length_singleton]
            omega
        · rw [if_neg w5]
          by_cases c : kd t n s = 91
          · rw [if_pos c, yA_p]
            have gt := nt_gt (t := t) (nt_k (k := 91) (by decide) c).1
            have d10 : ¬ 10 ≤ d := fun z => c0 ⟨Or.inr c, z⟩
            rcases ih.2 (d + 1) (by omega) k (nt t n s) m cs (nt_le (t := t) hs) (by omega) hm with ⟨g, a1, a2⟩ | ⟨s1, s2, cs1, cv, m1, m2, a1, a2, a3, a4, a5, a6, a7, a8⟩
            · refine Or.inl ⟨g, ?_, a2⟩
              unfold yCl
              rw [xK_l a1, if_neg (by decide), yF_l a1, yA_l a1]
              exact a1
            · injection a1 with b1 b2'
              injection b1 with b1
              injection b2' with b2' b3
              have b4 : m = m1 := nI_inj60 hm (by omega) b3
              subst b1 b2' b4
              rw [a2]
              unfold yCl
              by_cases q : kd t n s2 = 93
              · rw [if_pos (show xK t n (Sum.inr s2, cs ++ cv, nI m2).1 = 93 from q), yA_p]
                have gt2 := nt_gt (t := t) (nt_k (k := 93) (by decide) q).1
                exact Or.inr ⟨s, nt t n s2, cs, cv, m, m2, rfl, rfl, by omega, nt_le (t := t) a4, by omega, a6, a7, a8⟩
              · rw [if_neg (show ¬ xK t n (Sum.inr s2, cs ++ cv, nI m2).1 = 93 from q)]
                exact Or.inl ⟨flt s2 (nI 0), rfl, flt_ne (by omega) (by decide)⟩
          · rw [if_neg c]
            exact w_cmp hn hs hb hm
    · rw [yG]
      have S : TI n k s m cs false (yG t n D false d (.inr s, cs, nI m)) := by
        rcases ih.1 d (by omega) k s m cs hs hb hm with a | ⟨s1, s2, cs1, cv, m1, m2, a1, a2, a3, a4, a5, a6, a7, a8⟩
        · exact Or.inl a
        · injection a1 with b1 b2'
          injection b1 with b1
          injection b2' with b2' b3
          have b4 : m = m1 := nI_inj60 hm (by omega) b3
          subst b1 b2' b4
          exact Or.inr ⟨s2, cv, m2, a2, a3, a4, by rw [if_neg (by decide)]; exact a5, a6, a7, by rw [if_neg (by decide)]; exact a8⟩
      rcases w_tl (t := t) hn (ih.1 d (by omega)) 400 false _ S with a | ⟨s2, cv, m2, a2, a3, a4, a5, a6, a7, a8⟩
      · exact Or.inl a
      · rw [if_neg (by decide)] at a5 a8
        exact Or.inr ⟨s, s2, cs, cv, m, m2, rfl, a2, a3, a4, a5, a6, a7, a8⟩
