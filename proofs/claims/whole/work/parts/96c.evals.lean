/-! ===== what the class's codes come to: each test leaves one value, 0 or 1 ===== -/
theorem evL_app (w : Nat → Int64) : ∀ (a b : List Int32) (st : List Int64), evL w (a ++ b) st = Option.bind (evL w a st) (evL w b) := by
  intro a
  induction a with
  | nil => intro b st; rfl
  | cons c a ih =>
    intro b st
    show Option.bind (ev1 w c st) (fun s' => evL w (a ++ b) s') = Option.bind (Option.bind (ev1 w c st) (fun s' => evL w a s')) (evL w b)
    rw [Option.bind_assoc]
    congr 1
    funext s'
    exact ih b s'
def QV (cn : List Int32) (c : Nat) : Prop := 1 ≤ c ∧ ∃ v : (Nat → Int64) → Int64, ∀ w st, st.length + c ≤ 60 → evL w cn st = some (v w :: st)
def QV2 (cn : List Int32) (c : Nat) : Prop := 2 ≤ c ∧ ∃ v1 v2 : (Nat → Int64) → Int64, ∀ w st, st.length + c ≤ 60 → evL w cn st = some (v2 w :: v1 w :: st)
def QB (cn : List Int32) (c : Nat) : Prop := 1 ≤ c ∧ ∃ v : (Nat → Int64) → Int64, (∀ w, v w = 0 ∨ v w = 1) ∧ ∀ w st, st.length + c ≤ 60 → evL w cn st = some (v w :: st)
def QB2 (cn : List Int32) (c : Nat) : Prop := 2 ≤ c ∧ ∃ v1 v2 : (Nat → Int64) → Int64, (∀ w, v1 w = 0 ∨ v1 w = 1) ∧ (∀ w, v2 w = 0 ∨ v2 w = 1) ∧ ∀ w st, st.length + c ≤ 60 → evL w cn st = some (v2 w :: v1 w :: st)
def bop (o : Int32) : Prop := ¬ o < 100000 ∧ o ≠ 100011
theorem ev_bop {o : Int32} (h : bop o) (w : Nat → Int64) (a b : Int64) (st : List Int64) : evL w [o] (b :: a :: st) = some (cmb o a b :: st) := by
  show Option.bind (ev1 w o (b :: a :: st)) _ = _
  unfold ev1
  rw [if_neg h.1, if_neg h.2]
  rfl
theorem QV_app {a b : List Int32} {c d : Nat} (A : QV a c) (B : QV b d) : QV2 (a ++ b) (c + d) := by
  obtain ⟨a1, v, av⟩ := A
  obtain ⟨b1, u, bu⟩ := B
  refine ⟨by omega, v, u, fun w st l => ?_⟩
  rw [evL_app, av w st (by omega), bs, bu w _ (by show st.length + 1 + d ≤ 60; omega)]
theorem QV2_op {a : List Int32} {c : Nat} {o : Int32} (h : bop o) (A : QV2 a c) : QV (a ++ [o]) c := by
  obtain ⟨a1, v, u, av⟩ := A
  refine ⟨by omega, fun w => cmb o (v w) (u w), fun w st l => ?_⟩
  rw [evL_app, av w st l, bs, ev_bop h]
theorem QV2_mul {a b : List Int32} {c d : Nat} {o : Int32} (h : bop o) (A : QV2 a c) (B : QV b d) : QV2 (a ++ b ++ [o]) (c + d) := by
  obtain ⟨a1, v, u, av⟩ := A
  obtain ⟨b1, x, bx⟩ := B
  refine ⟨by omega, v, fun w => cmb o (u w) (x w), fun w st l => ?_⟩
  rw [evL_app, evL_app, av w st (by omega), bs, bx w _ (by show st.length + 1 + 1 + d ≤ 60; omega), bs, ev_bop h]
theorem QV2_cmp {a : List Int32} {c : Nat} {o : Int32} (h : o = 100004 ∨ o = 100005 ∨ o = 100006 ∨ o = 100007 ∨ o = 100008) (A : QV2 a c) : QB (a ++ [o]) c := by
  obtain ⟨a1, v, u, av⟩ := A
  have hb : bop o := by rcases h with rfl | rfl | rfl | rfl | rfl <;> exact ⟨by decide, by decide⟩
  refine ⟨by omega, fun w => cmb o (v w) (u w), fun w => ?_, fun w st l => ?_⟩
  · have e : ∀ (p : Prop) [Decidable p] (x y : Int64), (x = 0 ∨ x = 1) → (y = 0 ∨ y = 1) → ((if p then x else y) = 0 ∨ (if p then x else y) = 1) := by
      intro p _ x y hx hy
      by_cases z : p
      · rw [if_pos z]; exact hx
      · rw [if_neg z]; exact hy
    show cmb o (v w) (u w) = 0 ∨ cmb o (v w) (u w) = 1
    unfold cmb
    rcases h with rfl | rfl | rfl | rfl | rfl
    · rw [if_neg (by decide), if_neg (by decide), if_neg (by decide), if_neg (by decide), if_pos rfl]
      exact e _ _ _ (Or.inl rfl) (Or.inr rfl)
    · rw [if_neg (by decide), if_neg (by decide), if_neg (by decide), if_neg (by decide), if_neg (by decide), if_pos rfl]
      exact e _ _ _ (Or.inl rfl) (Or.inr rfl)
    · rw [if_neg (by decide), if_neg (by decide), if_neg (by decide), if_neg (by decide), if_neg (by decide), if_neg (by decide), if_pos rfl]
      exact e _ _ _ (Or.inr rfl) (Or.inl rfl)
    · rw [if_neg (by decide), if_neg (by decide), if_neg (by decide), if_neg (by decide), if_neg (by decide), if_neg (by decide), if_neg (by decide), if_pos rfl]
      exact e _ _ _ (Or.inl rfl) (Or.inr rfl)
    · rw [if_neg (by decide), if_neg (by decide), if_neg (by decide), if_neg (by decide), if_neg (by decide), if_neg (by decide), if_neg (by decide), if_neg (by decide), if_pos rfl]
      exact e _ _ _ (Or.inl rfl) (Or.inr rfl)
  · rw [evL_app, av w st l, bs, ev_bop hb]
theorem QB_not {a : List Int32} {c : Nat} (A : QB a c) : QB (a ++ [100011]) c := by
  obtain ⟨a1, v, av, ae⟩ := A
  refine ⟨a1, fun w => 1 - v w, fun w => ?_, fun w st l => ?_⟩
  · show 1 - v w = 0 ∨ 1 - v w = 1
    rcases av w with e | e
    · rw [e]; decide
    · rw [e]; decide
  · rw [evL_app, ae w st l, bs]
    show Option.bind (ev1 w 100011 (v w :: st)) _ = _
    unfold ev1
    rw [if_neg (by decide), if_pos rfl]
    rfl
theorem cm_and {a b : Int64} (ha : a = 0 ∨ a = 1) (hb : b = 0 ∨ b = 1) : cmb 100009 a b = 0 ∨ cmb 100009 a b = 1 := by
  rcases ha with rfl | rfl <;> rcases hb with rfl | rfl <;> decide
theorem cm_or {a b : Int64} (ha : a = 0 ∨ a = 1) (hb : b = 0 ∨ b = 1) : (cmb 100010 a b = 0 ∨ cmb 100010 a b = 1) ∧ (cmb 100010 a b = 0 ↔ a = 0 ∧ b = 0) := by
  rcases ha with rfl | rfl <;> rcases hb with rfl | rfl <;> decide
theorem bop9 : bop 100009 := ⟨by decide, by decide⟩
theorem bop10 : bop 100010 := ⟨by decide, by decide⟩
theorem QB_app {a b : List Int32} {c d : Nat} (A : QB a c) (B : QB b d) : QB2 (a ++ b) (c + d) := by
  obtain ⟨a1, v, ab, av⟩ := A
  obtain ⟨b1, u, bb, bu⟩ := B
  refine ⟨by omega, v, u, ab, bb, fun w st l => ?_⟩
  rw [evL_app, av w st (by omega), bs, bu w _ (by show st.length + 1 + d ≤ 60; omega)]
theorem QB2_or {a : List Int32} {c : Nat} (A : QB2 a c) : QB (a ++ [100010]) c := by
  obtain ⟨a1, v, u, vb, ub, av⟩ := A
  refine ⟨by omega, fun w => cmb 100010 (v w) (u w), fun w => (cm_or (vb w) (ub w)).1, fun w st l => ?_⟩
  rw [evL_app, av w st l, bs, ev_bop bop10]
theorem QB2_and {a : List Int32} {c : Nat} (A : QB2 a c) : QB (a ++ [100009]) c := by
  obtain ⟨a1, v, u, vb, ub, av⟩ := A
  refine ⟨by omega, fun w => cmb 100009 (v w) (u w), fun w => cm_and (vb w) (ub w), fun w st l => ?_⟩
  rw [evL_app, av w st l, bs, ev_bop bop9]
theorem QB2_nd {a b : List Int32} {c d : Nat} (A : QB2 a c) (B : QB b d) : QB2 (a ++ b ++ [100009]) (c + d) := by
  obtain ⟨a1, v, u, vb, ub, av⟩ := A
  obtain ⟨b1, x, xb, bx⟩ := B
  refine ⟨by omega, v, fun w => cmb 100009 (u w) (x w), vb, fun w => cm_and (ub w) (xb w), fun w st l => ?_⟩
  rw [evL_app, evL_app, av w st (by omega), bs, bx w _ (by show st.length + 1 + 1 + d ≤ 60; omega), bs, ev_bop bop9]
theorem QV_mono {a : List Int32} {c d : Nat} (h : c ≤ d) (A : QV a c) : QV a d := ⟨by have := A.1; omega, A.2.elim fun v av => ⟨v, fun w st l => av w st (by omega)⟩⟩
theorem QB_mono {a : List Int32} {c d : Nat} (h : c ≤ d) (A : QB a c) : QB a d := ⟨by have := A.1; omega, A.2.elim fun v av => ⟨v, av.1, fun w st l => av.2 w st (by omega)⟩⟩
theorem QV_one {c : Int32} (h : c < 100000) : QV [c] 1 := by
  refine ⟨by decide, fun w => vC w c, fun w st l => ?_⟩
  show Option.bind (ev1 w c st) _ = _
  unfold ev1
  rw [if_pos h, if_pos (by omega)]
  rfl
/-- from y to y' by codes that keep Q, k places being kept free -/
def WF (n k : Nat) (y y' : YS) (Q : List Int32 → Nat → Prop) : Prop := (∃ f, y'.1 = .inl f ∧ f ≠ 0) ∨ ∃ s s' cs cn m m', y = (.inr s, cs, nI m) ∧ y' = (.inr s', cs ++ cn, nI m') ∧ s < s' ∧ s' ≤ n ∧ (cs ++ cn).length + k ≤ s' ∧ m ≤ m' ∧ m' ≤ 60 ∧ Q cn (m' - m)
theorem w_val {t : TY} {n k s m : Nat} {cs : List Int32} (hn : n ≤ 400) (hs : s ≤ n) (hb : cs.length + k ≤ s) (hm : m ≤ 60) : WF n k (.inr s, cs, nI m) (yVal t n (.inr s, cs, nI m)) QV := by
  have cnt : ∀ (c : Int32), s < n → c < 100000 → WF n k (.inr s, cs, nI m) (yA t n (yE c (yC (.inr s, cs, nI m)))) QV := by
    intro c sn hc
    by_cases l : nI m < 60
    · rw [yC_r l, yE_r (by omega), nI_1]
      have m6 : m < 60 := by
        by_cases z : m < 60
        · exact z
        · exact absurd l (nI_nlt (b := 60) (by omega) (by omega))
      have gt := nt_gt (t := t) sn
      refine Or.inr ⟨s, nt t n s, cs, [c], m, m + 1, rfl, rfl, gt, nt_le hs, by rw [List.length_append, List.length_singleton]; omega, by omega, by omega, ?_⟩
      rw [show m + 1 - m = 1 by omega]
      exact QV_one hc
    · refine Or.inl ⟨flt s (nI 3), ?_, flt_ne (by omega) (by decide)⟩
      show xA t n (yE c (yC (.inr s, cs, nI m))).1 = _
      rw [yE_1, yC_l l]
      rfl
  unfold yVal
  by_cases d : xK t n (Sum.inr s, cs, nI m).1 = 257
  · rw [if_pos d]
    have dd : s < n ∧ isD (t s) = true := Decidable.not_not.mp (fun z => kd_nd z d)
    by_cases x : xM t n (Sum.inr s, cs, nI m).1 = -1
    · rw [if_pos x]
      exact Or.inl ⟨flt s (nI 1), rfl, flt_ne (by omega) (by decide)⟩
    · rw [if_neg x]
      have l5 : dge t n s - s ≤ 5 := by
        by_cases z : dge t n s - s ≤ 5
        · exact z
        · refine absurd ?_ x
          show nm t s (dge t n s) = -1
          unfold nm
          rw [if_neg z]
      obtain ⟨v, m1, m2⟩ := nv_nat (t := t) (s := s) (dge t n s - s) l5 (fun i hi => sc_in (c := fun i => isD (t i)) (n := n) (p := s) (i := s + i) (by omega) (by omega) (show s + i < dge t n s by omega))
      have m5 : v ≤ 99999 := by
        have := Nat.pow_le_pow_right (n := 10) (by decide) l5
        omega
      refine cnt _ dd.1 ?_
      have : xM t n (Sum.inr s, cs, nI m).1 = nI v := by
        show nm t s (dge t n s) = _
        unfold nm
        rw [if_pos l5]
        exact m2
      rw [this]
      exact nI_lt (b := 100000) (by omega) (by decide)
  · rw [if_neg d]
    rcases xWd_c t n (.inr s) with z | ⟨⟨v, m1, m2⟩, k258⟩
    · rw [if_pos (show xWd t n (Sum.inr s, cs, nI m).1 = -1 from z)]
      exact Or.inl ⟨flt s (nI 0), rfl, flt_ne (by omega) (by decide)⟩
    · have l : s < n ∧ isL (t s) = true := Decidable.not_not.mp (fun z => kd_nw z k258)
      have m2' : xWd t n (Sum.inr s, cs, nI m).1 = nI v := m2
      rw [m2', if_neg (show ¬ nI v = -1 from fun z => nI_pos (n := v) (by omega) (by rw [z]; decide))]
      exact cnt _ l.1 (w_m v m1).2
theorem yA_p {t : TY} {n s : Nat} {x : List Int32 × Int32} : yA t n (.inr s, x) = (.inr (nt t n s), x) := rfl
theorem xO_in {t : TY} {n s : Nat} (h : xO t n (.inr s) ≠ -1) : s < n ∧ bop (xO t n (.inr s)) := by
  obtain ⟨x1, x2, x3, x4, x5⟩ := op_sg (t := t) (n := n) (s := s)
  have g : ∀ c, c < 128 → sg t n s = nI c → s < n := fun c hc e => (sg_in e hc).1
  by_cases a : sg t n s = 42
  · rw [x1.mpr a]; exact ⟨g 42 (by decide) a, by decide, by decide⟩
  by_cases b : sg t n s = 47
  · rw [x2.mpr b]; exact ⟨g 47 (by decide) b, by decide, by decide⟩
  by_cases c : sg t n s = 43
  · rw [x3.mpr c]; exact ⟨g 43 (by decide) c, by decide, by decide⟩
  by_cases d : sg t n s = 45
  · rw [x4.mpr d]; exact ⟨g 45 (by decide) d, by decide, by decide⟩
  exact absurd (x5.mpr ⟨a, b, c, d⟩) h
/-- inside a sum, an operator perhaps open -/
def SIu (n k s0 m0 : Nat) (cs0 : List Int32) (o : Int32) (y : YS) : Prop := (∃ f, y.1 = .inl f ∧ f ≠ 0) ∨ ∃ s cn m, y = (.inr s, cs0 ++ cn, nI m) ∧ s0 < s ∧ s ≤ n ∧ (cs0 ++ cn).length + k + (if o = -1 then 0 else 1) ≤ s ∧ m0 ≤ m ∧ m ≤ 60 ∧ ((o = -1 ∧ QV cn (m - m0)) ∨ (o ≠ -1 ∧ bop o ∧ QV2 cn (m - m0)))
theorem SI_o {n k s0 m0 : Nat} {cs0 : List Int32} {o : Int32} {y : YS} (hn : n ≤ 400) (S : SIu n k s0 m0 cs0 o y) : SIu n k s0 m0 cs0 (-1) (yO o y) := by
  rcases S with ⟨f, e, hf⟩ | ⟨s, cn, m, e, h1, h2, h3, h4, h5, h6⟩
  · exact Or.inl ⟨f, by rw [yO_1]; exact e, hf⟩
  · rcases h6 with ⟨o1, A⟩ | ⟨o1, b, A⟩
    · subst o1
      rw [yO_m]
      exact Or.inr ⟨s, cn, m, e, h1, h2, h3, h4, h5, Or.inl ⟨rfl, A⟩⟩
    · rw [if_neg o1] at h3
      unfold yO
      rw [if_neg o1, e, yE_r (by omega)]
      refine Or.inr ⟨s, cn ++ [o], m, by rw [List.append_assoc], h1, h2, ?_, h4, h5, Or.inl ⟨rfl, QV2_op b A⟩⟩
      rw [if_pos rfl, ← List.append_assoc, List.length_append, List.length_singleton]
      omega
theorem w_sl {t : TY} {n k s0 m0 : Nat} {cs0 : List Int32} (hn : n ≤ 400) : ∀ (f : Nat) (o : Int32) (y : YS), SIu n k s0 m0 cs0 o y → SIu n k s0 m0 cs0 (-1) (ySl t n f o y) := by
  intro f
  induction f with
  | zero => intro o y S; exact SI_o hn S
  | succ f ih =>
    intro o y S
    by_cases il : ∃ g, y.1 = .inl g ∧ g ≠ 0
    · obtain ⟨g, e, hg⟩ := il
      rw [ySl_l (f + 1) e hg]
      exact Or.inl ⟨g, e, hg⟩
    have S' := S
    rcases S with S | ⟨s, cn, m, e, h1, h2, h3, h4, h5, h6⟩
    · exact absurd S il
    rw [ySl]
    have ex : xO t n y.1 = xO t n (.inr s) := by rw [e]
    by_cases x1 : xO t n y.1 = -1
    · rw [if_pos x1]; exact SI_o hn S'
    · rw [if_neg x1]
      rw [ex] at x1 ⊢
      obtain ⟨sn, bo⟩ := xO_in x1
      have gt := nt_gt (t := t) sn
      by_cases x2 : xO t n (.inr s) = 100002 ∨ xO t n (.inr s) = 100003
      · rw [if_pos x2]
        apply ih
        rw [e, yA_p]
        rcases w_val (t := t) (k := k + (if o = -1 then 0 else 1) + 1) hn (nt_le (t := t) h2) (cs := cs0 ++ cn) (m := m) (by omega) h5 with ⟨g, a1, a2⟩ | ⟨s1, s2, cs1, cv, m1, m2, a1, a2, a3, a4, a5, a6, a7, a8⟩
        · rw [yE_l a1 a2]; exact Or.inl ⟨g, a1, a2⟩
        · injection a1 with b1 b2'
          injection b1 with b1
          injection b2' with b2' b3
          have b4 : m = m1 := (nI_eq (by omega) (by omega)).mp b3
          subst b1 b2' b4
          rw [a2, yE_r (by omega)]
          refine Or.inr ⟨s2, cn ++ cv ++ [xO t n (.inr s)], m2, by simp only [List.append_assoc], by omega, a4, ?_, by omega, a7, ?_⟩
          · rw [show cs0 ++ (cn ++ cv ++ [xO t n (.inr s)]) = cs0 ++ cn ++ cv ++ [xO t n (.inr s)] by simp only [List.append_assoc], List.length_append, List.length_singleton]
            omega
          · rw [show m2 - m0 = (m - m0) + (m2 - m) by omega]
            rcases h6 with ⟨o1, A⟩ | ⟨o1, b, A⟩
            · exact Or.inl ⟨o1, QV2_op bo (QV_app A a8)⟩
            · exact Or.inr ⟨o1, b, QV2_mul bo A a8⟩
      · rw [if_neg x2]
        apply ih
        rcases SI_o hn S' with ⟨g, a1, a2⟩ | ⟨s', cn', m', e', g1, g2, g3, g4, g5, g6⟩
        · rw [yO_1, e] at a1; cases a1
        · have es : s' = s := by
            have := congrArg Prod.fst e'
            rw [yO_1, e] at this
            injection this with this
            exact this.symm
          subst es
          rw [if_pos rfl] at g3
          have A : QV cn' (m' - m0) := by
            rcases g6 with ⟨_, A⟩ | ⟨z, _⟩
            · exact A
            · exact absurd rfl z
          rw [e', yA_p]
          rcases w_val (t := t) (k := k + 1) hn (nt_le (t := t) g2) (cs := cs0 ++ cn') (m := m') (by omega) g5 with ⟨g, a1, a2⟩ | ⟨s1, s2, cs1, cv, m1, m2, a1, a2, a3, a4, a5, a6, a7, a8⟩
          · exact Or.inl ⟨g, a1, a2⟩
          · injection a1 with b1 b2'
            injection b1 with b1
            injection b2' with b2' b3
            have b4 : m' = m1 := (nI_eq (by omega) (by omega)).mp b3
            subst b1 b2' b4
            rw [a2]
            refine Or.inr ⟨s2, cn' ++ cv, m2, by rw [List.append_assoc], by omega, a4, ?_, by omega, a7, Or.inr ⟨x1, bo, ?_⟩⟩
            · rw [if_neg x1, ← List.append_assoc]
              omega
            · rw [show m2 - m0 = (m' - m0) + (m2 - m') by omega]
              exact QV_app A a8
theorem w_sum {t : TY} {n k s m : Nat} {cs : List Int32} (hn : n ≤ 400) (hs : s ≤ n) (hb : cs.length + k ≤ s) (hm : m ≤ 60) : WF n k (.inr s, cs, nI m) (ySum t n (.inr s, cs, nI m)) QV := by
  have S : SIu n k s m cs (-1) (yVal t n (.inr s, cs, nI m)) := by
    rcases w_val (t := t) hn hs hb hm with a | ⟨s1, s2, cs1, cv, m1, m2, a1, a2, a3, a4, a5, a6, a7, a8⟩
    · exact Or.inl a
    · injection a1 with b1 b2'
      injection b1 with b1
      injection b2' with b2' b3
      have b4 : m = m1 := (nI_eq (by omega) (by omega)).mp b3
      subst b1 b2' b4
      exact Or.inr ⟨s2, cv, m2, a2, a3, a4, by rw [if_pos rfl]; exact a5, a6, a7, Or.inl ⟨rfl, a8⟩⟩
  rcases w_sl (t := t) hn 400 (-1) _ S with a | ⟨s2, cv, m2, a2, a3, a4, a5, a6, a7, a8⟩
  · exact Or.inl a
  · rw [if_pos rfl] at a5
    refine Or.inr ⟨s, s2, cs, cv, m, m2, rfl, a2, a3, a4, a5, a6, a7, ?_⟩
    rcases a8 with ⟨_, A⟩ | ⟨z, _⟩
    · exact A
    · exact absurd rfl z
theorem xP_in {t : TY} {n s : Nat} (h : xP t n (.inr s) ≠ -1) : s < n ∧ (xP t n (.inr s) = 100004 ∨ xP t n (.inr s) = 100005 ∨ xP t n (.inr s) = 100006 ∨ xP t n (.inr s) = 100007 ∨ xP t n (.inr s) = 100008) := by
  have xpd : xP t n (.inr s) = (if kd t n s = 60 then (100004 : Int32) else if kd t n s = 61 then 100006 else if kd t n s = 62 then 100008 else if kd t n s = 259 then 100005 else if kd t n s = 260 then 100007 else -1) := rfl
  constructor
  · by_cases c : n ≤ s
    · exfalso
      apply h
      rw [xpd, kd_end.mpr c]
      decide
    · omega
  · rw [xpd] at h ⊢
    generalize kd t n s = x at h ⊢
    by_cases a : x = 60
    · rw [if_pos a]; decide
    rw [if_neg a] at h ⊢
    by_cases b : x = 61
    · rw [if_pos b]; decide
    rw [if_neg b] at h ⊢
    by_cases c : x = 62
    · rw [if_pos c]; decide
    rw [if_neg c] at h ⊢
    by_cases d : x = 259
    · rw [if_pos d]; decide
    rw [if_neg d] at h ⊢
    by_cases e : x = 260
    · rw [if_pos e]; decide
    rw [if_neg e] at h
    exact absurd rfl h
theorem w_cmp {t : TY} {n k s m : Nat} {cs : List Int32} (hn : n ≤ 400) (hs : s ≤ n) (hb : cs.length + k ≤ s) (hm : m ≤ 60) : WF n k (.inr s, cs, nI m) (yCmp t n (.inr s, cs, nI m)) QB := by
  unfold yCmp
  rcases w_sum (t := t) hn hs hb hm with ⟨f, a1, a2⟩ | ⟨s1, s2, cs1, cv, m1, m2, a1, a2, a3, a4, a5, a6, a7, a8⟩
  · rw [yP_l a1, ySum_l a1 a2, yE_l a1 a2]
    exact Or.inl ⟨f, a1, a2⟩
  · injection a1 with b1 b2'
    injection b1 with b1
    injection b2' with b2' b3
    have b4 : m = m1 := (nI_eq (by omega) (by omega)).mp b3
    subst b1 b2' b4
    rw [a2]
    show WF n k (.inr s, cs, nI m) (yE (xP t n (.inr s2)) (ySum t n (yP t n (.inr s2, cs ++ cv, nI m2)))) QB
    by_cases x : xP t n (.inr s2) = -1
    · have e1 : (yP t n (.inr s2, cs ++ cv, nI m2)).1 = .inl (flt s2 (nI 0)) := by
        unfold yP
        rw [if_pos (show xP t n (Sum.inr s2, cs ++ cv, nI m2).1 = -1 from x)]
        rfl
      have hf : flt s2 (nI 0) ≠ 0 := flt_ne (by omega) (by decide)
      exact Or.inl ⟨flt s2 (nI 0), by rw [yE_1, ySum_l e1 hf]; exact e1, hf⟩
    · obtain ⟨sn, xp⟩ := xP_in x
      have gt := nt_gt (t := t) sn
      have ep : yP t n (.inr s2, cs ++ cv, nI m2) = yA t n (yC (.inr s2, cs ++ cv, nI m2)) := by
        unfold yP
        rw [if_neg (show ¬ xP t n (Sum.inr s2, cs ++ cv, nI m2).1 = -1 from x)]
      rw [ep]
      by_cases l : nI m2 < 60
      · have m6 : m2 < 60 := by
          by_cases z : m2 < 60
          · exact z
          · exact absurd l (nI_nlt (b := 60) (by omega) (by omega))
        rw [yC_r l, nI_1, yA_p]
        rcases w_sum (t := t) (k := k + 1) hn (nt_le (t := t) a4) (cs := cs ++ cv) (m := m2 + 1) (by omega) (by omega) with ⟨f, c1, c2⟩ | ⟨s3, s4, cs3, cu, m3, m4, c1, c2, c3, c4, c5, c6, c7, c8⟩
        · exact Or.inl ⟨f, by rw [yE_1]; exact c1, c2⟩
        · injection c1 with b1 b2'
          injection b1 with b1
          injection b2' with b2' b3
          have b4 : m2 + 1 = m3 := (nI_eq (by omega) (by omega)).mp b3
          subst b1 b2' b4
          rw [c2, yE_r (by omega)]
          refine Or.inr ⟨s, s4, cs, cv ++ cu ++ [xP t n (.inr s2)], m, m4, rfl, by simp only [List.append_assoc], by omega, c4, ?_, by omega, c7, ?_⟩
          · rw [show cs ++ (cv ++ cu ++ [xP t n (.inr s2)]) = cs ++ cv ++ cu ++ [xP t n (.inr s2)] by simp only [List.append_assoc], List.length_append, List.length_singleton]
            omega
          · exact QB_mono (c := (m2 - m) + (m4 - (m2 + 1))) (by omega) (QV2_cmp xp (QV_app a8 c8))
      · have e1 : (yA t n (yC (.inr s2, cs ++ cv, nI m2))).1 = .inl (flt s2 (nI 3)) := by
          rw [yA_l (yC_l l)]
          exact yC_l l
        have hf : flt s2 (nI 3) ≠ 0 := flt_ne (by omega) (by decide)
        exact Or.inl ⟨flt s2 (nI 3), by rw [yE_1, ySum_l e1 hf]; exact e1, hf⟩
