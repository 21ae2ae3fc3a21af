/-! ===== texts: the reference reads a rule: values ===== -/
theorem cw_4 : (6447474 : Int64) = cw 4 := by decide +kernel
theorem cw_5 : (7237492 : Int64) = cw 5 := by decide +kernel
theorem cw_6 : (1937007984 : Int64) = cw 6 := by decide +kernel
theorem cw_7 : (1685026670 : Int64) = cw 7 := by decide +kernel
theorem cw_8 : (30064 : Int64) = cw 8 := by decide +kernel
theorem cw_9 : (1852138852 : Int64) = cw 9 := by decide +kernel
theorem cw_10 : (512736126322 : Int64) = cw 10 := by decide +kernel
theorem cw_11 : (422608400247 : Int64) = cw 11 := by decide +kernel
theorem cw_12 : (1751478885 : Int64) = cw 12 := by decide +kernel
theorem cw_13 : (499967685221 : Int64) = cw 13 := by decide +kernel
theorem cw_14 : (2003395685 : Int64) = cw 14 := by decide +kernel
theorem cw_15 : (1953067123 : Int64) = cw 15 := by decide +kernel
theorem cw_16 : (28530 : Int64) = cw 16 := by decide +kernel
theorem cw_17 : (6385252 : Int64) = cw 17 := by decide +kernel
/-- the reference's heap, and the class's codes cs, of which cb stood before this clause -/
def MR (t : TY) (n r gl : Nat) (cb : List Int32) (k : Nat) (h : Hp) (p : Nat) (cs : List Int32) (ct : Int32) : Prop := TM t n h p ∧ hI h 51 15 = 0 ∧ (hI h 51 17 = nI r ∧ r < 6) ∧ (∃ m, m ≤ 60 ∧ ct = nI m ∧ hI h 51 18 = ct) ∧ (∃ cn, cs = cb ++ cn ∧ gl ≤ cb.length ∧ hI h 54 r = nI (gl + cn.length) ∧ ∀ j, j < cn.length → sgC (cn.getD j 0) (hI h 53 (400 * r + (gl + j)))) ∧ cs.length + k ≤ p
theorem MR_Fr {P : Nat → Nat → Prop} {t : TY} {n r gl k p q : Nat} {cb cs : List Int32} {ct : Int32} {a b : Hp} (F : Fr P a b) (T : TM t n b q) (hq : p ≤ q) (f15 : hI b 51 15 = 0) (h17 : ¬ P 51 17) (h18 : ¬ P 51 18) (h53 : ∀ j, ¬ P 53 j) (h54 : ¬ P 54 r) (M : MR t n r gl cb k a p cs ct) : MR t n r gl cb k b q cs ct := by
  obtain ⟨T0, e15, ⟨e17, hr⟩, ⟨m, m1, m2, m3⟩, ⟨cn, c1, c2, c3, c4⟩, hk⟩ := M
  refine ⟨T, f15, ⟨by rw [F.2.2.2 51 17 h17]; exact e17, hr⟩, ⟨m, m1, m2, by rw [F.2.2.2 51 18 h18]; exact m3⟩, ⟨cn, c1, c2, by rw [F.2.2.2 54 r h54]; exact c3, fun j hj => by rw [F.2.2.2 53 _ (h53 _)]; exact c4 j hj⟩, by omega⟩
theorem MR_PE {t : TY} {n r gl k p q : Nat} {cb cs : List Int32} {ct : Int32} {a b : Hp} (F : Fr PE a b) (T : TM t n b q) (hq : p ≤ q) (M : MR t n r gl cb k a p cs ct) : MR t n r gl cb k b q cs ct := MR_Fr F T hq (by rw [F.2.2.2 51 15 (fun z => by unfold PE at z; omega)]; exact M.2.1) (fun z => by unfold PE at z; omega) (fun z => by unfold PE at z; omega) (fun j z => by unfold PE at z; omega) (fun z => by unfold PE at z; omega) M
theorem MR_k {t : TY} {n r gl k l p : Nat} {cb cs : List Int32} {ct : Int32} {a : Hp} (M : MR t n r gl cb k a p cs ct) (hl : cs.length + l ≤ p) : MR t n r gl cb l a p cs ct := ⟨M.1, M.2.1, M.2.2.1, M.2.2.2.1, M.2.2.2.2.1, hl⟩
def PU (r gl : Nat) : Nat → Nat → Prop := fun a j => (a = 53 ∧ 400 * r + gl ≤ j ∧ j < 400 * r + 400) ∨ (a = 54 ∧ j = r)
def PVr (r gl : Nat) : Nat → Nat → Prop := fun a j => (a = 51 ∧ (14 ≤ j ∧ j ≤ 16 ∨ j = 18)) ∨ PU r gl a j
theorem PU_V {r gl : Nat} {a b : Hp} (F : Fr (PU r gl) a b) : Fr (PVr r gl) a b := Fr_mono F (fun _ _ z => Or.inr z)
theorem PE_V {r gl : Nat} {a b : Hp} (F : Fr PE a b) : Fr (PVr r gl) a b := Fr_mono F (fun _ _ z => Or.inl ⟨z.1, Or.inl (by have := z.2; omega)⟩)
theorem v_puts {t : TY} {n r gl k p : Nat} {cb cs : List Int32} {ct c s v : Int32} {h : Hp} (M : MR t n r gl cb (k + 1) h p cs ct) (g : sgC c (s + 16 * v)) : ∃ h', f_X8_puts h 51 s v = some h' ∧ MR t n r gl cb k h' p (cs ++ [c]) ct ∧ Fr (PU r gl) h h' := by
  obtain ⟨T, e15, ⟨e17, hr⟩, ⟨m, m1, m2, m3⟩, ⟨cn, c1, c2, c3, c4⟩, hk⟩ := M
  have H := T.1
  have hn := T.2.2.1
  have hp := T.2.2.2.2.1
  have lc : cs.length = cb.length + cn.length := by rw [c1, List.length_append]
  unfold f_X8_puts
  rw [pp_51_3 H, bs, pp_51_4 H, bs, e17, ll_54 H, if_inI (by omega) (by omega), nI_clamp (by omega), c3, show (400 : Int32) = nI 400 from rfl, pk_mul, nI_add, ll_53 H, if_inI (by omega) (by omega), lts, nI_clamp (by omega)]
  have F1 : Fr (fun a j => a = 53 ∧ j = 400 * r + (gl + cn.length)) h (sI h 53 (400 * r + (gl + cn.length)) (s + 16 * v)) := Fr_sI _ _ _ _ ⟨rfl, rfl⟩
  have q1 : hI (sI h 53 (400 * r + (gl + cn.length)) (s + 16 * v)) 53 (400 * r + (gl + cn.length)) = s + 16 * v := by rw [hI_sI, if_pos ⟨rfl, rfl⟩]
  generalize sI h 53 (400 * r + (gl + cn.length)) (s + 16 * v) = h5 at F1 q1 ⊢
  have H5 := Fr_SHP F1 H
  rw [pp_51_4 H5, bs, F1.2.2.2 51 17 (fun z => by omega), e17, ll_54 H5, if_inI (by omega) (by omega), lts, nI_clamp (by omega), F1.2.2.2 54 r (fun z => by omega), c3, nI_1, if_pos (show 0 ≤ nI r ∧ r < 7 from ⟨nI_pos' (by omega), by omega⟩), lts]
  have F2 : Fr (fun a j => a = 54 ∧ j = r) h5 (sI h5 54 r (nI (gl + cn.length + 1))) := Fr_sI _ _ _ _ ⟨rfl, rfl⟩
  have q2 : hI (sI h5 54 r (nI (gl + cn.length + 1))) 54 r = nI (gl + cn.length + 1) := by rw [hI_sI, if_pos ⟨rfl, rfl⟩]
  generalize sI h5 54 r (nI (gl + cn.length + 1)) = h6 at F2 q2 ⊢
  have F : Fr (fun a j => (a = 53 ∧ j = 400 * r + (gl + cn.length)) ∨ (a = 54 ∧ j = r)) h h6 := Fr_trans (Fr_mono F1 (fun a j z => Or.inl z)) (Fr_mono F2 (fun a j z => Or.inr z))
  refine ⟨h6, rfl, ⟨TM_Fr F (by omega) (by omega) (fun i => by omega) T, by rw [F.2.2.2 51 15 (by omega)]; exact e15, ⟨by rw [F.2.2.2 51 17 (by omega)]; exact e17, hr⟩, ⟨m, m1, m2, by rw [F.2.2.2 51 18 (by omega)]; exact m3⟩, ⟨cn ++ [c], by rw [c1, List.append_assoc], c2, by rw [q2, List.length_append, List.length_singleton]; rfl, fun j hj => ?_⟩, ?_⟩, Fr_mono F (fun a j z => by unfold PU; omega)⟩
  · rw [List.length_append, List.length_singleton] at hj
    by_cases z : j = cn.length
    · subst z
      rw [F2.2.2.2 53 _ (fun z => by omega), q1, List.getD_eq_getElem?_getD, List.getElem?_append_right (Nat.le_refl _), Nat.sub_self]
      exact g
    · rw [F.2.2.2 53 _ (fun z => by omega), List.getD_eq_getElem?_getD, List.getElem?_append_left (by omega), ← List.getD_eq_getElem?_getD]
      exact c4 j (by omega)
  · rw [List.length_append, List.length_singleton]; omega
theorem v_makes {t : TY} {n r gl k p q : Nat} {cb cs : List Int32} {ct : Int32} {h : Hp} (M : MR t n r gl cb k h p cs ct) : ∃ h', Fr (fun a j => a = 51 ∧ (j = 15 ∨ j = 18)) h h' ∧ ((ct < 60 ∧ f_X8_makes h 51 (nI q) = some (1, h') ∧ MR t n r gl cb k h' p cs (ct + 1)) ∨ (¬ ct < 60 ∧ f_X8_makes h 51 (nI q) = some (0, h') ∧ hI h' 51 15 = flt q (nI 3))) := by
  obtain ⟨T, e15, e17, ⟨m, m1, m2, m3⟩, ⟨cn, c1, c2, c3, c4⟩, hk⟩ := M
  unfold f_X8_makes
  rw [m3]
  by_cases l : m = 60
  · rw [if_pos (show ct = 60 by rw [m2, l]; rfl)]
    obtain ⟨h', i1, i2, i3⟩ := m_fails e15 3 q
    rw [i1, b2s, if_pos (Or.inl rfl)]
    exact ⟨h', Fr_mono i3 (fun a j z => ⟨z.1, Or.inl z.2⟩), Or.inr ⟨by rw [m2, l]; decide, rfl, i2⟩⟩
  · rw [if_neg (show ¬ ct = 60 from fun z => l ((nI_eq (a := m) (b := 60) (by omega) (by decide)).mp (by rw [← m2]; exact z))), lts]
    have F : Fr (fun a j => a = 51 ∧ j = 18) h (sI h 51 18 (ct + 1)) := Fr_sI _ _ _ _ ⟨rfl, rfl⟩
    have q1 : hI (sI h 51 18 (ct + 1)) 51 18 = ct + 1 := by rw [hI_sI, if_pos ⟨rfl, rfl⟩]
    generalize sI h 51 18 (ct + 1) = h1 at F q1 ⊢
    refine ⟨h1, Fr_mono F (fun a j z => ⟨z.1, Or.inr z.2⟩), Or.inl ⟨by rw [m2]; exact nI_lt (b := 60) (by omega) (by decide), rfl, TM_Fr F (by omega) (by omega) (fun i => by omega) T, by rw [F.2.2.2 51 15 (by omega)]; exact e15, ⟨by rw [F.2.2.2 51 17 (by omega)]; exact e17.1, e17.2⟩, ⟨m + 1, by omega, by rw [m2, nI_1], q1⟩, ⟨cn, c1, c2, by rw [F.2.2.2 54 r (by omega)]; exact c3, fun j hj => by rw [F.2.2.2 53 _ (by omega)]; exact c4 j hj⟩, hk⟩⟩
/-- what came of a piece: a fault, or the class's state -/
def RO (t : TY) (n r gl : Nat) (cb : List Int32) (k q : Nat) (h : Hp) (v : Int32) (y : YS) : Prop := (∃ f, y.1 = .inl f ∧ f ≠ 0 ∧ v = 0 ∧ hI h 51 15 = f) ∨ (∃ p cs ct, y = (.inr (skp t n p), cs, ct) ∧ v = 1 ∧ q ≤ p ∧ MR t n r gl cb k h p cs ct)
theorem yE_r {c ct : Int32} {s : Nat} {cs : List Int32} (l : cs.length < 400) : yE c (.inr s, cs, ct) = (.inr s, cs ++ [c], ct) := by
  unfold yE
  rw [if_pos (show xE (.inr s) = 0 ∧ cs.length < 400 from ⟨rfl, l⟩)]
theorem yE_l {c f : Int32} {y : YS} (e : y.1 = .inl f) (hf : f ≠ 0) : yE c y = y := by
  unfold yE
  rw [if_neg (fun z => hf (by have := z.1; rw [e] at this; exact this))]
theorem yC_r {ct : Int32} {s : Nat} {cs : List Int32} (l : ct < 60) : yC (.inr s, cs, ct) = (.inr s, cs, ct + 1) := by
  unfold yC
  rw [if_pos (show (Sum.inr s, cs, ct).2.2 < 60 from l)]
theorem yC_l {ct : Int32} {s : Nat} {cs : List Int32} (l : ¬ ct < 60) : (yC (.inr s, cs, ct)).1 = .inl (flt s (nI 3)) := by
  unfold yC
  rw [if_neg (show ¬ (Sum.inr s, cs, ct).2.2 < 60 from l)]
  rfl
theorem nv_nat {t : TY} {s : Nat} : ∀ j, j ≤ 5 → (∀ i, i < j → isD (t (s + i)) = true) → ∃ m, m < 10 ^ j ∧ nv t s j = nI m := by
  intro j
  induction j with
  | zero => intro _ _; exact ⟨0, by decide, rfl⟩
  | succ j ih =>
    intro hj hd
    obtain ⟨m, m1, m2⟩ := ih (by omega) (fun i hi => hd i (by omega))
    obtain ⟨d1, d2, d3⟩ := isD_nat (hd j (by omega))
    refine ⟨m * 10 + (t (s + j)).toNatClampNeg - 48, by rw [Nat.pow_succ]; omega, ?_⟩
    rw [nv, m2, d3, show (10 : Int32) = nI 10 from rfl, show (48 : Int32) = nI 48 from rfl, pk_mul, nI_add, pk_sub (by omega), ← d3]
theorem v_wordHere {N n s : Nat} {t : TY} {h : Hp} (hN : 5000 ≤ N) (T : TM t n h s) (hk : skp t n s = s) : f_X8_wordHere N h 51 = some (xWd t n (.inr s), h) := by
  have e : xWd t n (.inr s) = (if wd t n s 6 = true then 0 else if wd t n s 7 = true then 1 else if wd t n s 8 = true then 2 else if wd t n s 9 = true then 3 else if wd t n s 10 = true then 4 else if wd t n s 11 = true then 5 else if wd t n s 12 = true then 6 else if wd t n s 13 = true then 7 else if wd t n s 14 = true then 8 else if wd t n s 15 = true then 9 else -1) := by
    unfold xWd
    by_cases l : s < n ∧ isL (t s) = true
    · rw [if_pos (show xK t n (.inr s) = 258 from kd_w l.1 l.2)]
      rfl
    · rw [if_neg (show ¬ xK t n (.inr s) = 258 from kd_nw l)]
      have z : ∀ w, w < 18 → ¬ wd t n s w = true := fun w hw => by rw [wd_no hw l]; decide
      rw [if_neg (z 6 (by decide)), if_neg (z 7 (by decide)), if_neg (z 8 (by decide)), if_neg (z 9 (by decide)), if_neg (z 10 (by decide)), if_neg (z 11 (by decide)), if_neg (z 12 (by decide)), if_neg (z 13 (by decide)), if_neg (z 14 (by decide)), if_neg (z 15 (by decide))]
  rw [e]
  unfold f_X8_wordHere
  rw [m_word0 hN (by decide) cw_6 T hk, b2s, b_if]
  by_cases w6 : wd t n s 6 = true
  · rw [if_pos w6, if_pos w6]
  rw [if_neg w6, if_neg w6, m_word0 hN (by decide) cw_7 T hk, b2s, b_if]
  by_cases w7 : wd t n s 7 = true
  · rw [if_pos w7, if_pos w7]
  rw [if_neg w7, if_neg w7, m_word0 hN (by decide) cw_8 T hk, b2s, b_if]
  by_cases w8 : wd t n s 8 = true
  · rw [if_pos w8, if_pos w8]
  rw [if_neg w8, if_neg w8, m_word0 hN (by decide) cw_9 T hk, b2s, b_if]
  by_cases w9 : wd t n s 9 = true
  · rw [if_pos w9, if_pos w9]
  rw [if_neg w9, if_neg w9, m_word0 hN (by decide) cw_10 T hk, b2s, b_if]
  by_cases w10 : wd t n s 10 = true
  · rw [if_pos w10, if_pos w10]
  rw [if_neg w10, if_neg w10, m_word0 hN (by decide) cw_11 T hk, b2s, b_if]
  by_cases w11 : wd t n s 11 = true
  · rw [if_pos w11, if_pos w11]
  rw [if_neg w11, if_neg w11, m_word0 hN (by decide) cw_12 T hk, b2s, b_if]
  by_cases w12 : wd t n s 12 = true
  · rw [if_pos w12, if_pos w12]
  rw [if_neg w12, if_neg w12, m_word0 hN (by decide) cw_13 T hk, b2s, b_if]
  by_cases w13 : wd t n s 13 = true
  · rw [if_pos w13, if_pos w13]
  rw [if_neg w13, if_neg w13, m_word0 hN (by decide) cw_14 T hk, b2s, b_if]
  by_cases w14 : wd t n s 14 = true
  · rw [if_pos w14, if_pos w14]
  rw [if_neg w14, if_neg w14, m_word0 hN (by decide) cw_15 T hk, b2s, b_if]
  by_cases w15 : wd t n s 15 = true
  · rw [if_pos w15, if_pos w15]
  rw [if_neg w15, if_neg w15]
/-- a word that tells something -/
theorem xWd_c (t : TY) (n : Nat) (x : XT0) : xWd t n x = -1 ∨ (∃ m, m < 10 ∧ xWd t n x = nI m) ∧ xK t n x = 258 := by
  by_cases k : xK t n x = 258
  · have e : ∀ (b : Bool) (u v : Int32), (u = -1 ∨ ∃ m, m < 10 ∧ u = nI m) → (v = -1 ∨ ∃ m, m < 10 ∧ v = nI m) → ((if b = true then u else v) = -1 ∨ ∃ m, m < 10 ∧ (if b = true then u else v) = nI m) := by
      intro b u v hu hv
      cases b
      · exact hv
      · exact hu
    have : xWd t n x = -1 ∨ ∃ m, m < 10 ∧ xWd t n x = nI m := by
      unfold xWd
      rw [if_pos k]
      exact e _ _ _ (Or.inr ⟨0, by decide, rfl⟩) (e _ _ _ (Or.inr ⟨1, by decide, rfl⟩) (e _ _ _ (Or.inr ⟨2, by decide, rfl⟩) (e _ _ _ (Or.inr ⟨3, by decide, rfl⟩) (e _ _ _ (Or.inr ⟨4, by decide, rfl⟩) (e _ _ _ (Or.inr ⟨5, by decide, rfl⟩) (e _ _ _ (Or.inr ⟨6, by decide, rfl⟩) (e _ _ _ (Or.inr ⟨7, by decide, rfl⟩) (e _ _ _ (Or.inr ⟨8, by decide, rfl⟩) (e _ _ _ (Or.inr ⟨9, by decide, rfl⟩) (Or.inl rfl))))))))))
    rcases this with z | z
    · exact Or.inl z
    · exact Or.inr ⟨z, k⟩
  · left
    unfold xWd
    rw [if_neg k]
