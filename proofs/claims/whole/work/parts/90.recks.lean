/-! ===== what a rule's signs come to: the reference ===== -/
theorem m_push {h : Hp} {st : List Int64} (v : Int64) (H : SHP h) (e : hI h 51 24 = nI st.length) (l : st.length < 64) (S : SKl (hJ h 60) st) : ∃ h', f_X8_push h 51 v = some h' ∧ hI h' 51 24 = nI (v :: st).length ∧ SKl (hJ h' 60) (v :: st) ∧ hJ h' 61 = hJ h 61 ∧ Fr PM h h' := by
  unfold f_X8_push
  rw [pp_51_23 H, bs, ll_60 H, e, if_inI l (by omega), lts, nI_clamp (by omega)]
  have F1 : Fr PM h (sJ h 60 st.length v) := Fr_sJ _ _ _ _ ⟨by decide, by decide⟩
  have S1 := SKl_p (h := h) (q := 60) v S
  have j1 : hJ (sJ h 60 st.length v) 61 = hJ h 61 := funext fun j => by rw [hJ_sJ, if_neg (by omega)]
  have e1 : hI (sJ h 60 st.length v) 51 24 = nI st.length := by rw [hI_sJ]; exact e
  generalize sJ h 60 st.length v = h1 at F1 S1 j1 e1 ⊢
  rw [lts, e1, nI_1]
  refine ⟨_, rfl, by rw [hI_sI, if_pos ⟨rfl, rfl⟩]; rfl, by rw [hJ_sI]; exact S1, by rw [hJ_sI]; exact j1, Fr_trans F1 (Fr_sI _ _ _ _ ⟨rfl, rfl⟩)⟩
theorem m_pop {h : Hp} {a : Int64} {st : List Int64} (H : SHP h) (e : hI h 51 24 = nI (a :: st).length) (l : st.length < 64) (S : SKl (hJ h 60) (a :: st)) : ∃ h', f_X8_pop h 51 = some (a, h') ∧ hI h' 51 24 = nI st.length ∧ SKl (hJ h' 60) st ∧ hJ h' 61 = hJ h 61 ∧ Fr PM h h' := by
  unfold f_X8_pop
  have e' : hI h 51 24 = nI (st.length + 1) := e
  rw [lts, e', n_1, pk_sub (by omega), show st.length + 1 - 1 = st.length by omega]
  have F1 : Fr PM h (sI h 51 24 (nI st.length)) := Fr_sI _ _ _ _ ⟨rfl, rfl⟩
  have e1 : hI (sI h 51 24 (nI st.length)) 51 24 = nI st.length := by rw [hI_sI, if_pos ⟨rfl, rfl⟩]
  have j1 : hJ (sI h 51 24 (nI st.length)) = hJ h := hJ_sI _ _ _ _
  generalize sI h 51 24 (nI st.length) = h1 at F1 e1 j1 ⊢
  rw [pp_51_23 (Fr_SHP F1 H), bs, ll_60 (Fr_SHP F1 H), e1, if_inI l (by omega), nI_clamp (by omega), j1, show hJ h 60 st.length = a from S.1]
  exact ⟨h1, rfl, e1, by rw [j1]; exact S.2, by rw [j1], F1⟩
theorem neg_m {m : Nat} (h : m ≤ 99999) : -1 - nI m < 0 := by
  rw [Int32.lt_iff_toInt_lt, Int32.toInt_sub, show (nI m).toInt = (m : Int) from Int32.toInt_ofNat_of_lt (by omega)]
  show ((-1 : Int) - m).bmod (2 ^ 32) < 0
  rw [Int.bmod_eq_of_le (by omega) (by omega)]
  omega
theorem w_m : ∀ m, m < 10 → -1 - (-1 - nI m) = nI m ∧ -1 - nI m < 100000 := by decide +kernel
theorem op_m : ∀ k, k ≤ 13 → 2 ≤ k → ¬ nI (opc k) < 100000 ∧ (nI (opc k) = 100011 ↔ k = 11) := by decide +kernel
theorem m_reck_l {N r e : Nat} {w : Nat → Int64} (hr : r < 6) (he : e ≤ 400) : ∀ (cs : List Int32) (i k : Nat) (h : Hp) (st : List Int64) (v : Int64), i + cs.length = e → cs.length < k → SHP h → (∀ j, j < cs.length → sgC (cs.getD j 0) (hI h 53 (400 * r + (i + j)))) → (∀ j, j < 10 → hJ h 61 j = w j) → hI h 51 24 = nI st.length → SKl (hJ h 60) st → st.length ≤ 60 → evL w cs st = some [v] → ∃ h', f_X8_reckons_8 N k h 51 (nI r) (nI e) (nI i) = some (v, h') ∧ hJ h' 61 = hJ h 61 ∧ Fr PM h h' := by
  intro cs
  induction cs with
  | nil =>
    intro i k h st v hi hk H hc hw e24 S s60 ev
    obtain ⟨k, rfl⟩ : ∃ j, k = j + 1 := ⟨k - 1, by omega⟩
    have hi' : i = e := by have : i + 0 = e := hi; omega
    have es : st = [v] := by
      have e' : some st = some [v] := ev
      injection e'
    subst es
    rw [f_X8_reckons_8, if_pos (nI_le (by omega) (by omega))]
    obtain ⟨h', a1, a2, a3, a4, a5⟩ := m_pop (a := v) (st := []) H e24 (by decide) S
    rw [a1, b2s]
    exact ⟨h', rfl, a4, a5⟩
  | cons c cs ih =>
    intro i k h st v hi hk H hc hw e24 S s60 ev
    obtain ⟨k, rfl⟩ : ∃ j, k = j + 1 := ⟨k - 1, by omega⟩
    have hi' : i + (cs.length + 1) = e := hi
    have hk' : cs.length + 1 < k + 1 := hk
    have c0 : sgC c (hI h 53 (400 * r + i)) := hc 0 (Nat.succ_pos _)
    have next : ∀ (g : Hp) (st' : List Int64), Fr PM h g → hJ g 61 = hJ h 61 → hI g 51 24 = nI st'.length → SKl (hJ g 60) st' → st'.length ≤ 60 → evL w cs st' = some [v] → ∃ h', f_X8_reckons_129 N (f_X8_reckons_8 N k) g 51 (nI r) (nI e) (nI i) = some (v, h') ∧ hJ h' 61 = hJ h 61 ∧ Fr PM h h' := by
      intro g st' F W e2 S' l' e'
      unfold f_X8_reckons_129
      rw [nI_1]
      obtain ⟨h', a1, a2, a3⟩ := ih (i + 1) k g st' v (by omega) (by omega) (Fr_SHP F H) (fun j hj => by
        rw [F.2.2.2 53 _ (fun z => by unfold PM at z; omega), show i + 1 + j = i + (j + 1) by omega]
        exact hc (j + 1) (Nat.succ_lt_succ hj)) (fun j hj => by rw [W]; exact hw j hj) e2 S' l' e'
      exact ⟨h', a1, a2.trans W, Fr_trans F a3⟩
    rw [f_X8_reckons_8, if_neg (nI_ge (by omega) (by omega)), pp_51_3 H, bs, ll_53 H, show (400 : Int32) = nI 400 from rfl, pk_mul, nI_add, if_inI (by omega) (by omega), lts, bs, ll_53 H, if_inI (by omega) (by omega), lts, nI_clamp (by omega)]
    rw [evL] at ev
    unfold ev1 at ev
    rcases c0 with ⟨m, m1, m2, m3⟩ | ⟨m, m1, m2, m3⟩ | ⟨o, o1, o2, o3, o4⟩
    · rw [m3, nI_low (by decide), nI_hi (by decide) (by omega), if_pos (show nI 0 = 0 from rfl)]
      rw [m2, if_pos (show nI m < 100000 from nI_lt (a := m) (b := 100000) (by omega) (by decide))] at ev
      by_cases l60 : st.length < 60
      · rw [if_pos l60, bs] at ev
        unfold vC at ev
        rw [if_pos (neg_m m1)] at ev
        obtain ⟨g, a1, a2, a3, a4, a5⟩ := m_push (nI m).toInt64 H e24 (by omega) S
        rw [a1, bs]
        exact next g _ a5 a4 a2 a3 (by show st.length + 1 ≤ 60; omega) ev
      · rw [if_neg l60] at ev; cases ev
    · rw [m3, nI_low (by decide), nI_hi (by decide) (by omega), if_neg (show ¬ nI 1 = 0 by decide), if_pos (show nI 1 = 1 from rfl), pp_51_25 H, bs, ll_61 H, if_inI m1 (by omega), nI_clamp (by omega)]
      rw [m2, if_pos (w_m m m1).2] at ev
      by_cases l60 : st.length < 60
      · rw [if_pos l60, bs] at ev
        unfold vC at ev
        rw [(w_m m m1).1, if_neg (nI_pos (by omega)), if_neg (show ¬ (10 : Int32) ≤ nI m from nI_ge (b := 10) m1 (by decide)), nI_clamp (by omega)] at ev
        obtain ⟨g, a1, a2, a3, a4, a5⟩ := m_push (w m) H e24 (by omega) S
        rw [hw m m1, a1, bs]
        exact next g _ a5 a4 a2 a3 (by show st.length + 1 ≤ 60; omega) ev
      · rw [if_neg l60] at ev; cases ev
    · have oo := op_m o o2 o1
      rw [o4, nI_low (by omega), nI_hi (by omega) (by decide), if_neg (show ¬ nI o = 0 from fun z => by have := (nI_eq (a := o) (b := 0) (by omega) (by decide)).mp z; omega), if_neg (show ¬ nI o = 1 from fun z => by have := (nI_eq (a := o) (b := 1) (by omega) (by decide)).mp z; omega)]
      rw [o3, if_neg oo.1] at ev
      by_cases c11 : o = 11
      · rw [if_pos (oo.2.mpr c11)] at ev
        rw [if_pos (show nI o = 11 by rw [c11]; rfl)]
        cases st with
        | nil => cases ev
        | cons a rr =>
          have l60 : rr.length + 1 ≤ 60 := s60
          have e' : evL w cs ((1 - a) :: rr) = some [v] := ev
          obtain ⟨g, a1, a2, a3, a4, a5⟩ := m_pop H e24 (by omega) S
          obtain ⟨g', b1, b2', b3, b4, b5⟩ := m_push (1 - a) (Fr_SHP a5 H) a2 (by omega) a3
          rw [a1, b2s, b1, bs]
          exact next g' _ (Fr_trans a5 b5) (b4.trans a4) b2' b3 l60 e'
      · rw [if_neg (fun z => c11 (oo.2.mp z))] at ev
        rw [if_neg (show ¬ nI o = 11 from fun z => c11 ((nI_eq (a := o) (b := 11) (by omega) (by decide)).mp z))]
        match st, S, s60, ev, e24 with
        | [], _, _, e, _ => cases e
        | [_], _, _, e, _ => cases e
        | b :: a :: rr, S, s60, e, e24 =>
          have e' : evL w cs (cmb (nI (opc o)) a b :: rr) = some [v] := e
          have l60 : rr.length + 2 ≤ 60 := s60
          obtain ⟨g, a1, a2, a3, a4, a5⟩ := m_pop H e24 (by show rr.length + 1 < 64; omega) S
          obtain ⟨g', b1, b2', b3, b4, b5⟩ := m_pop (Fr_SHP a5 H) a2 (by omega) a3
          obtain ⟨g2, c1', c2', c3', c4', c5'⟩ := m_push (cmb (nI (opc o)) a b) (Fr_SHP (Fr_trans a5 b5) H) b2' (by omega) b3
          rw [a1, b2s, b1, b2s, m_one _ o1 o2 c11, bs, c1', bs]
          exact next g2 _ (Fr_trans a5 (Fr_trans b5 c5')) (c4'.trans (b4.trans a4)) c2' c3' (by show rr.length + 1 ≤ 60; omega) e'
theorem m_reck {N r b : Nat} {w : Nat → Int64} {cs : List Int32} {h : Hp} {v : Int64} (hN : 5000 ≤ N) (hr : r < 6) (he : b + cs.length ≤ 400) (H : SHP h) (hc : ∀ j, j < cs.length → sgC (cs.getD j 0) (hI h 53 (400 * r + (b + j)))) (hw : ∀ j, j < 10 → hJ h 61 j = w j) (ev : evL w cs [] = some [v]) : ∃ h', f_X8_reckons N h 51 (nI r) (nI b) (nI (b + cs.length)) = some (v, h') ∧ hJ h' 61 = hJ h 61 ∧ Fr PM h h' := by
  unfold f_X8_reckons
  rw [lts]
  have F1 : Fr PM h (sI h 51 24 0) := Fr_sI _ _ _ _ ⟨rfl, rfl⟩
  have e1 : hI (sI h 51 24 0) 51 24 = nI ([] : List Int64).length := by rw [hI_sI, if_pos ⟨rfl, rfl⟩]; rfl
  have j1 : hJ (sI h 51 24 0) = hJ h := hJ_sI _ _ _ _
  generalize sI h 51 24 0 = h1 at F1 e1 j1 ⊢
  obtain ⟨h', a1, a2, a3⟩ := m_reck_l (N := N) (w := w) hr he cs b N h1 [] v rfl (by omega) (Fr_SHP F1 H) (fun j hj => by rw [F1.2.2.2 53 _ (fun z => by unfold PM at z; omega)]; exact hc j hj) (fun j hj => by rw [j1]; exact hw j hj) e1 trivial (by decide) ev
  exact ⟨h', a1, by rw [a2, j1], Fr_trans F1 a3⟩
def anF (U : Nat → Int64) : Nat → Nat → Bool
  | 0, _ => false
  | k + 1, c => decide (U c = 1) || anF U k (c + 1)
/-- what the reference holds of rule r: m clauses, clause c the signs of the codes sg c -/
def RT (h : Hp) (r m : Nat) (bg : Nat → Nat) (sg : Nat → List Int32) : Prop := hI h 56 r = nI m ∧ ∀ c, c < m → hI h 55 (24 * r + 2 * c) = nI (bg c) ∧ hI h 55 (24 * r + 2 * c + 1) = nI (bg c + (sg c).length) ∧ bg c + (sg c).length ≤ 400 ∧ ∀ j, j < (sg c).length → sgC ((sg c).getD j 0) (hI h 53 (400 * r + (bg c + j)))
theorem RT_w {a b : Hp} {r m : Nat} {bg : Nat → Nat} {sg : Nat → List Int32} (hm : m ≤ 12) (W : Rrw b a r) (T : RT a r m bg sg) : RT b r m bg sg := by
  refine ⟨by rw [W.2.2]; exact T.1, fun c hc => ?_⟩
  obtain ⟨t1, t2, t3, t4⟩ := T.2 c hc
  refine ⟨by rw [W.2.1 _ (by omega) (by omega)]; exact t1, by rw [W.2.1 _ (by omega) (by omega)]; exact t2, t3, fun j hj => ?_⟩
  rw [W.1 _ (by omega) (by omega)]
  exact t4 j hj
theorem m_bar_l {N r m : Nat} {w : Nat → Int64} {bg : Nat → Nat} {sg : Nat → List Int32} {U : Nat → Int64} (hN : 5000 ≤ N) (hr : r < 6) (hm : m ≤ 12) (hU : ∀ c, c < m → evL w (sg c) [] = some [U c]) : ∀ (k c f : Nat) (h : Hp), c + k = m → k < f → SHP h → RT h r m bg sg → hI h 62 8 = nI r → (∀ j, j < 10 → hJ h 61 j = w j) → ∃ h', f_X8_isBarred_153 N f h 51 (nI c) = some (b2i (anF U k c), h') ∧ Fr PM h h' := by
  intro k
  induction k with
  | zero =>
    intro c f h hc hf H T e8 hw
    obtain ⟨f, rfl⟩ : ∃ j, f = j + 1 := ⟨f - 1, by omega⟩
    rw [f_X8_isBarred_153, pp_51_6 H, bs, pp_51_26 H, bs, ll_62 H, if_pos (show 8 < 93 by decide), e8, ll_56 H, if_inI hr (by omega), nI_clamp (by omega), T.1, if_pos (nI_le (by omega) (by omega))]
    exact ⟨h, rfl, Fr_refl h⟩
  | succ k ih =>
    intro c f h hc hf H T e8 hw
    obtain ⟨f, rfl⟩ : ∃ j, f = j + 1 := ⟨f - 1, by omega⟩
    obtain ⟨t1, t2, t3, t4⟩ := T.2 c (by omega)
    obtain ⟨h1, a1, a2, a3⟩ := m_reck (N := N) (w := w) hN hr t3 H t4 hw (hU c (by omega))
    rw [f_X8_isBarred_153, pp_51_6 H, bs, pp_51_26 H, bs, ll_62 H, if_pos (show 8 < 93 by decide), e8, ll_56 H, if_inI hr (by omega), nI_clamp (by omega), T.1, if_neg (nI_ge (by omega) (by omega)), bs, ll_62 H, if_pos (show 8 < 93 by decide), lts, bs, ll_62 H, if_pos (show 8 < 93 by decide), e8, pp_51_5 H, bs, ll_55 H, show (24 : Int32) = nI 24 from rfl, pk_mul, n_2, pk_mul, nI_add, if_inI (by omega) (by omega), bs, ll_55 H, nI_1, if_inI (by omega) (by omega), nI_clamp (by omega), nI_clamp (by omega), t1, t2, a1, b2s, anF]
    by_cases u : U c = 1
    · rw [if_pos ((lg_cmp_eq _ _).mpr u), decide_eq_true u]
      exact ⟨h1, rfl, a3⟩
    · rw [if_neg (fun z => u ((lg_cmp_eq _ _).mp z)), decide_eq_false u, Bool.false_or, nI_1]
      have W : Rrw h1 h r := Rrw_of (Fr_row a3 (fun j z => by unfold PM at z; omega)) (Fr_row a3 (fun j z => by unfold PM at z; omega)) (Fr_row a3 (fun j z => by unfold PM at z; omega))
      obtain ⟨h2, b1, b2'⟩ := ih (c + 1) f h1 (by omega) (by omega) (Fr_SHP a3 H) (RT_w hm W T) (by rw [a3.2.2.2 62 8 (fun z => by unfold PM at z; omega)]; exact e8) (fun j hj => by rw [a2]; exact hw j hj)
      exact ⟨h2, b1, Fr_trans a3 b2'⟩
theorem m_Rm {N r m : Nat} {h : Hp} {bg : Nat → Nat} {sg : Nat → List Int32} {U : Nat → (Nat → Int64) → Int64} (hN : 5000 ≤ N) (hr : r < 6) (hm : m ≤ 12) (T : RT h r m bg sg) (hU : ∀ w c, c < m → evL w (sg c) [] = some [U c w]) : Rm N h (nI r) (fun w => anF (fun c => U c w) m 0) := by
  refine Or.inr ⟨nI_pos' (by omega), fun h' w H W e8 hw => ?_⟩
  rw [nI_clamp (by omega)] at W
  exact m_bar_l (U := fun c => U c w) hN hr hm (hU w) m 0 N h' (by omega) (by omega) H (RT_w hm W T) e8 hw
