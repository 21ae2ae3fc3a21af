/-! ===== texts: the reference reads a rule: sums and comparisons ===== -/
theorem PNm_V {r gl : Nat} {a b : Hp} (F : Fr PNm a b) : Fr (PVr r gl) a b := Fr_mono F (fun _ _ z => Or.inl ⟨z.1, Or.inl z.2⟩)
theorem PK_V {r gl : Nat} {a b : Hp} (F : Fr (fun a j => a = 51 ∧ (j = 15 ∨ j = 18)) a b) : Fr (PVr r gl) a b := Fr_mono F (fun _ _ z => Or.inl ⟨z.1, by have := z.2; omega⟩)
theorem PF_V {r gl : Nat} {a b : Hp} (F : Fr (fun a j => a = 51 ∧ j = 15) a b) : Fr (PVr r gl) a b := Fr_mono F (fun _ _ z => Or.inl ⟨z.1, by have := z.2; omega⟩)
theorem v_val {N n r gl k p : Nat} {t : TY} {h : Hp} {cb cs : List Int32} {ct : Int32} (hN : 5000 ≤ N) (M : MR t n r gl cb k h p cs ct) : ∃ v h', f_X8_value N h 51 = some (v, h') ∧ RO t n r gl cb k (p + 1) h' v (yVal t n (.inr (skp t n p), cs, ct)) ∧ Fr (PVr r gl) h h' := by
  obtain ⟨h2, i1, i2, i3⟩ := m_see hN M.1
  have hps : p ≤ skp t n p := sc_ge _ _ _
  have hs0 : skp t n (skp t n p) = skp t n p := sc_fix M.1.2.2.2.2.1
  have M2 := MR_PE i3 i2 hps M
  have hb := M.2.2.2.2.2
  generalize skp t n p = s at i1 i2 hps hs0 M2 ⊢
  have T2 := M2.1
  have hn4 := T2.2.2.1
  have hsn := T2.2.2.2.2.1
  unfold f_X8_value
  rw [i1, b2s, T2.2.2.2.2.2, m_isD T2.1 T2.2.1 T2.2.2.1 T2.2.2.2.1 T2.2.2.2.2.1, bs, b_if]
  by_cases d : s < n ∧ isD (t s) = true
  · rw [if_pos (show (decide (s < n) && isD (t s)) = true by rw [decide_eq_true d.1, d.2]; rfl)]
    obtain ⟨h3, n1, n2, n3, n4⟩ := m_num (lo := 0) (hi := 99999) hN T2 M2.2.1
    rw [hs0] at n1 n3 n4
    unfold yVal
    rw [if_pos (show xK t n (Sum.inr s, cs, ct).1 = 257 from kd_d d.1 d.2)]
    have dg : s < dge t n s := by have := bh_gt (t := t) d.1; rw [bh_d d.1 d.2] at this; exact this
    by_cases l5 : dge t n s - s ≤ 5
    · obtain ⟨m, m1, m2⟩ := nv_nat (t := t) (s := s) (dge t n s - s) l5 (fun i hi => sc_in (c := fun i => isD (t i)) (n := n) (p := s) (i := s + i) (by omega) (by omega) (show s + i < dge t n s by omega))
      have m5 : m ≤ 99999 := by
        have := Nat.pow_le_pow_right (n := 10) (by decide) l5
        omega
      have nmve : nmv t n s = nI m := m2
      have nk : nok t n s 0 99999 := ⟨d.1, d.2, l5, by rw [nmve]; exact nI_pos' (by omega), by rw [nmve]; exact nI_le (b := 99999) m5 (by decide)⟩
      have xe : xM t n (Sum.inr s, cs, ct).1 = nI m := by
        show nm t s (dge t n s) = _
        unfold nm
        rw [if_pos l5]
        exact m2
      rw [if_neg (show ¬ xM t n (Sum.inr s, cs, ct).1 = -1 from fun z => nI_pos (n := m) (by omega) (by rw [← xe, z]; decide)), xe]
      obtain ⟨q1, q2, q3⟩ := n3 nk
      rw [decide_eq_true nk] at n1
      have M3 : MR t n r gl cb (k + 1) h3 (dge t n s) cs ct := MR_k (MR_Fr n2 q3 (by omega) q1 (fun z => by unfold PNm at z; omega) (fun z => by unfold PNm at z; omega) (fun j z => by unfold PNm at z; omega) (fun z => by unfold PNm at z; omega) M2) (by omega)
      rw [n1, b2s, if_neg (show ¬ b2i true = 0 by decide)]
      obtain ⟨h4, F4, Z⟩ := v_makes (q := s) M3
      rcases Z with ⟨l60, z1, z2⟩ | ⟨l60, z1, z2⟩
      · rw [z1, b2s, if_neg (show ¬ (1 : Int32) = 0 by decide), F4.2.2.2 51 16 (fun z => by omega), q2, nmve]
        obtain ⟨h5, u1, u2, u3⟩ := v_puts (c := nI m) (s := 0) (v := nI m) z2 (Or.inl ⟨m, m5, rfl, by show nI 0 + nI 16 * nI m = _; rw [pk_mul, nI_add]⟩)
        rw [u1, bs]
        refine ⟨1, h5, rfl, Or.inr ⟨dge t n s, cs ++ [nI m], ct + 1, ?_, rfl, by omega, u2⟩, Fr_trans (PE_V i3) (Fr_trans (PNm_V n2) (Fr_trans (PK_V F4) (PU_V u3)))⟩
        rw [yC_r l60, yE_r (by omega)]
        show (Sum.inr (nt t n s), _, _) = _
        unfold nt
        rw [bh_d d.1 d.2]
      · rw [z1, b2s, if_pos rfl]
        refine ⟨0, h4, rfl, Or.inl ⟨flt s (nI 3), ?_, flt_ne (by omega) (by decide), rfl, z2⟩, Fr_trans (PE_V i3) (Fr_trans (PNm_V n2) (PK_V F4))⟩
        rw [yE_l (yC_l l60) (flt_ne (by omega) (by decide))]
        show xA t n (yC (.inr s, cs, ct)).1 = _
        rw [yC_l l60]
        rfl
    · have nk : ¬ nok t n s 0 99999 := fun z => l5 z.2.2.1
      rw [decide_eq_false nk] at n1
      rw [n1, b2s, if_pos (show b2i false = 0 by decide), if_pos (show xM t n (Sum.inr s, cs, ct).1 = -1 by show nm t s (dge t n s) = _; unfold nm; rw [if_neg l5])]
      refine ⟨0, h3, rfl, Or.inl ⟨flt s (nI 1), rfl, flt_ne (by omega) (by decide), rfl, ?_⟩, Fr_trans (PE_V i3) (PNm_V n2)⟩
      rw [n4 nk]
      unfold nfl
      rw [if_pos d]
  · rw [if_neg (show ¬ (decide (s < n) && isD (t s)) = true from fun z => d ⟨by have := (Bool.and_eq_true_iff.mp z).1; exact of_decide_eq_true this, (Bool.and_eq_true_iff.mp z).2⟩), v_wordHere hN T2 hs0, b2s]
    unfold yVal
    rw [if_neg (show ¬ xK t n (Sum.inr s, cs, ct).1 = 257 from kd_nd d)]
    show ∃ v h', _ ∧ RO t n r gl cb k (p + 1) h' v (if xWd t n (.inr s) = -1 then yA t n (yF 0 (.inr s, cs, ct)) else yA t n (yE (-1 - xWd t n (.inr s)) (yC (.inr s, cs, ct)))) ∧ _
    rcases xWd_c t n (.inr s) with z | ⟨⟨m, m1, m2⟩, k258⟩
    · rw [z, if_neg (show ¬ (0 : Int32) ≤ -1 by decide), if_pos rfl]
      obtain ⟨h3, j1, j2, j3⟩ := m_fails M2.2.1 0 s
      rw [j1, b2s, if_pos (Or.inl rfl)]
      exact ⟨0, h3, rfl, Or.inl ⟨flt s (nI 0), rfl, flt_ne (by omega) (by decide), rfl, j2⟩, Fr_trans (PE_V i3) (PF_V j3)⟩
    · have l : s < n ∧ isL (t s) = true := Decidable.not_not.mp (fun z => kd_nw z k258)
      have lg : s < lte t n s := by have := bh_gt (t := t) l.1; rw [bh_w l.1 l.2] at this; exact this
      rw [m2, if_pos (nI_pos' (by omega)), if_neg (show ¬ nI m = -1 from fun z => nI_pos (n := m) (by omega) (by rw [z]; decide))]
      obtain ⟨h3, F3, Z⟩ := v_makes (q := s) M2
      rcases Z with ⟨l60, z1, z2⟩ | ⟨l60, z1, z2⟩
      · rw [z1, b2s, if_neg (show ¬ (1 : Int32) = 0 by decide)]
        obtain ⟨h4, j1, j2, j3⟩ := m_pw hN z2.1
        have M4 : MR t n r gl cb (k + 1) h4 (lte t n s) cs (ct + 1) := MR_k (MR_PE j3 j2 (by omega) z2) (by omega)
        obtain ⟨h5, u1, u2, u3⟩ := v_puts (c := -1 - nI m) (s := 1) (v := nI m) M4 (Or.inr (Or.inl ⟨m, m1, rfl, by show nI 1 + nI 16 * nI m = _; rw [pk_mul, nI_add]⟩))
        rw [j1, bs, u1, bs]
        refine ⟨1, h5, rfl, Or.inr ⟨lte t n s, cs ++ [-1 - nI m], ct + 1, ?_, rfl, by omega, u2⟩, Fr_trans (PE_V i3) (Fr_trans (PK_V F3) (Fr_trans (PE_V j3) (PU_V u3)))⟩
        rw [yC_r l60, yE_r (by omega)]
        show (Sum.inr (nt t n s), _, _) = _
        unfold nt
        rw [bh_w l.1 l.2]
      · rw [z1, b2s, if_pos rfl]
        refine ⟨0, h3, rfl, Or.inl ⟨flt s (nI 3), ?_, flt_ne (by omega) (by decide), rfl, z2⟩, Fr_trans (PE_V i3) (PK_V F3)⟩
        rw [yE_l (yC_l l60) (flt_ne (by omega) (by decide))]
        show xA t n (yC (.inr s, cs, ct)).1 = _
        rw [yC_l l60]
        rfl
/-! behind a fault nothing moves -/
theorem yA_l {t : TY} {n : Nat} {f : Int32} {y : YS} (e : y.1 = .inl f) : yA t n y = y := by
  obtain ⟨x, c⟩ := y
  have e' : x = .inl f := e
  subst e'
  rfl
theorem yF_l {k : Nat} {f : Int32} {y : YS} (e : y.1 = .inl f) : yF k y = y := by
  obtain ⟨x, c⟩ := y
  have e' : x = .inl f := e
  subst e'
  rfl
theorem xK_l {t : TY} {n : Nat} {f : Int32} {x : XT0} (e : x = .inl f) : xK t n x = 261 := by subst e; rfl
theorem xW_l {t : TY} {n w : Nat} {f : Int32} {x : XT0} (e : x = .inl f) : xW t n w x = false := by subst e; rfl
theorem xO_l {t : TY} {n : Nat} {f : Int32} {x : XT0} (e : x = .inl f) : xO t n x = -1 := by subst e; rfl
theorem xP_l {t : TY} {n : Nat} {f : Int32} {x : XT0} (e : x = .inl f) : xP t n x = -1 := by subst e; rfl
theorem yVal_l {t : TY} {n : Nat} {f : Int32} {y : YS} (e : y.1 = .inl f) : yVal t n y = y := by
  unfold yVal
  rw [xK_l e, if_neg (by decide), show xWd t n y.1 = -1 by unfold xWd; rw [xK_l e, if_neg (by decide)], if_pos rfl, yF_l e, yA_l e]
theorem yO_l {f o : Int32} {y : YS} (e : y.1 = .inl f) (hf : f ≠ 0) : yO o y = y := by
  unfold yO
  by_cases c : o = -1
  · rw [if_pos c]
  · rw [if_neg c, yE_l e hf]
theorem ySl_l {t : TY} {n : Nat} {f o : Int32} {y : YS} (g : Nat) (e : y.1 = .inl f) (hf : f ≠ 0) : ySl t n g o y = y := by
  cases g with
  | zero => exact yO_l e hf
  | succ g => rw [ySl, if_pos (xO_l e)]; exact yO_l e hf
theorem ySum_l {t : TY} {n : Nat} {f : Int32} {y : YS} (e : y.1 = .inl f) (hf : f ≠ 0) : ySum t n y = y := by
  unfold ySum
  rw [yVal_l e, ySl_l _ e hf]
theorem yP_l {t : TY} {n : Nat} {f : Int32} {y : YS} (e : y.1 = .inl f) : yP t n y = y := by
  unfold yP
  rw [if_pos (xP_l e), yF_l e, yA_l e]
theorem yCmp_l {t : TY} {n : Nat} {f : Int32} {y : YS} (e : y.1 = .inl f) (hf : f ≠ 0) : yCmp t n y = y := by
  unfold yCmp
  rw [ySum_l e hf, yP_l e, ySum_l e hf, yE_l e hf]
theorem yE_1 (c : Int32) (y : YS) : (yE c y).1 = y.1 := by
  unfold yE
  by_cases z : xE y.1 = 0 ∧ y.2.1.length < 400
  · rw [if_pos z]
  · rw [if_neg z]
theorem yO_1 (o : Int32) (y : YS) : (yO o y).1 = y.1 := by
  unfold yO
  by_cases c : o = -1
  · rw [if_pos c]
  · rw [if_neg c, yE_1]
theorem yO_m (y : YS) : yO (-1) y = y := by
  unfold yO
  rw [if_pos rfl]
theorem ySl_o {t : TY} {n : Nat} {o : Int32} {y : YS} (g : Nat) (h2 : xO t n y.1 ≠ 100002) (h3 : xO t n y.1 ≠ 100003) : ySl t n g o y = ySl t n g (-1) (yO o y) := by
  cases g with
  | zero => rw [ySl, ySl, yO_m]
  | succ g =>
    rw [ySl, ySl, yO_1, yO_m]
    by_cases c : xO t n y.1 = -1
    · rw [if_pos c, if_pos c]
    · rw [if_neg c, if_neg c, if_neg (fun z => z.elim h2 h3), if_neg (fun z => z.elim h2 h3)]
/-! signs -/
def BY (t : TY) (n : Nat) : Prop := ∀ i, i < n → (t i).toInt8.toInt32 = t i
theorem byte_eq {v : Int32} {k : Nat} (hb : v.toInt8.toInt32 = v) (hk : k < 128) (e : v &&& 255 = nI k) : v = nI k := by
  have e1 : v.toInt8 = (nI k).toInt8 := by
    rw [← e, Int32.toInt8_and, show (255 : Int32).toInt8 = -1 by decide, Int8.and_neg_one]
  have e2 : ∀ k, k < 128 → (nI k).toInt8.toInt32 = nI k := by decide +kernel
  rw [← hb, e1, e2 k hk]
theorem sg_in {t : TY} {n s k : Nat} (e : sg t n s = nI k) (hk : k < 128) : s < n ∧ t s &&& 255 = nI k := by
  unfold sg at e
  by_cases c : n ≤ s
  · rw [if_pos c] at e
    exact absurd (show nI k < 0 by rw [← e]; decide) (nI_pos (by omega))
  · rw [if_neg c] at e
    exact ⟨by omega, e⟩
/-- the sign of an operator, read by both -/
theorem op_sg {t : TY} {n s : Nat} : (xO t n (.inr s) = 100002 ↔ sg t n s = 42) ∧ (xO t n (.inr s) = 100003 ↔ sg t n s = 47) ∧ (xO t n (.inr s) = 100000 ↔ sg t n s = 43) ∧ (xO t n (.inr s) = 100001 ↔ sg t n s = 45) ∧ (xO t n (.inr s) = -1 ↔ ¬ sg t n s = 42 ∧ ¬ sg t n s = 47 ∧ ¬ sg t n s = 43 ∧ ¬ sg t n s = 45) := by
  have k42 : kd t n s = 42 ↔ sg t n s = 42 := kd_sg (k := 42) (by decide) (by decide) (by decide) (by decide) (by decide)
  have k43 : kd t n s = 43 ↔ sg t n s = 43 := kd_sg (k := 43) (by decide) (by decide) (by decide) (by decide) (by decide)
  have k45 : kd t n s = 45 ↔ sg t n s = 45 := kd_sg (k := 45) (by decide) (by decide) (by decide) (by decide) (by decide)
  have k47 : kd t n s = 47 ↔ sg t n s = 47 := kd_sg (k := 47) (by decide) (by decide) (by decide) (by decide) (by decide)
  rw [← k42, ← k43, ← k45, ← k47]
  unfold xO
  rw [show xK t n (Sum.inr s) = kd t n s from rfl]
  generalize kd t n s = x
  by_cases a : x = 42
  · subst a; decide
  by_cases b : x = 43
  · subst b; decide
  by_cases c : x = 45
  · subst c; decide
  by_cases d : x = 47
  · subst d; decide
  rw [if_neg a, if_neg b, if_neg c, if_neg d]
  exact ⟨⟨fun z => absurd z (by decide), fun z => absurd z a⟩, ⟨fun z => absurd z (by decide), fun z => absurd z d⟩, ⟨fun z => absurd z (by decide), fun z => absurd z b⟩, ⟨fun z => absurd z (by decide), fun z => absurd z c⟩, ⟨fun _ => ⟨a, d, b, c⟩, fun _ => rfl⟩⟩
