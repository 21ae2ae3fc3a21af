/-! ===== what a rule's codes come to: the class's stack ===== -/
def SKl (J : Nat → Int64) : List Int64 → Prop
  | [] => True
  | a :: r => J r.length = a ∧ SKl J r
theorem SKl_w {h : Hp} {q : Nat} : ∀ (st : List Int64) (i : Nat) (x : Int64), st.length ≤ i → SKl (hJ h q) st → SKl (hJ (sJ h q i x) q) st := by
  intro st
  induction st with
  | nil => intro i x _ _; trivial
  | cons a r ih =>
    intro i x hi S
    have hi' : r.length + 1 ≤ i := hi
    refine ⟨?_, ih i x (by omega) S.2⟩
    rw [hJ_sJ, if_neg (by omega)]
    exact S.1
theorem SKl_p {h : Hp} {q : Nat} {st : List Int64} (x : Int64) (S : SKl (hJ h q) st) : SKl (hJ (sJ h q st.length x) q) (x :: st) := ⟨by rw [hJ_sJ, if_pos ⟨rfl, rfl⟩], SKl_w st _ x (Nat.le_refl _) S⟩
theorem c_holds_l {N q L : Nat} {w : Nat → Int64} (hL4 : L ≤ 400) : ∀ (cs : List Int32) (i k : Nat) (h : Hp) (st : List Int64) (v : Int64), i + cs.length = L → cs.length < k → RP h q → hL h (q + 1) = L → (∀ j, j < cs.length → hI h (q + 1) (i + j) = cs.getD j 0) → (∀ j, j < 10 → hJ h (q + 2) j = w j) → SKl (hJ h (q + 3)) st → st.length ≤ 60 → evL w cs st = some [v] → ∃ h', f_X1_holds_4 N k h q (nI st.length) (nI i) = some (if v = 0 then 0 else 1, h') ∧ Fr PJ h h' := by
  intro cs
  induction cs with
  | nil =>
    intro i k h st v hi hk R hl hc hw S s60 e
    obtain ⟨k, rfl⟩ : ∃ j, k = j + 1 := ⟨k - 1, by omega⟩
    have hi' : i = L := by have : i + 0 = L := hi; omega
    have es : st = [v] := by
      have e' : some st = some [v] := e
      injection e'
    subst es
    have S1 : hJ h (q + 3) 0 = v := S.1
    rw [f_X1_holds_4, R.1, bs, hl, if_pos (nI_le (by omega) (by omega)), if_neg (show ¬ nI [v].length ≤ 0 from (by show ¬ nI 1 ≤ 0; decide)), R.2.2.1, bs, R.2.2.2.2.1, if_pos (by decide), S1]
    by_cases z : v = 0
    · rw [if_pos ((lg_cmp_eq _ _).mpr z), if_pos z]; exact ⟨h, rfl, Fr_refl h⟩
    · rw [if_neg (fun y => z ((lg_cmp_eq _ _).mp y)), if_neg z]; exact ⟨h, rfl, Fr_refl h⟩
  | cons c cs ih =>
    intro i k h st v hi hk R hl hc hw S s60 e
    obtain ⟨k, rfl⟩ : ∃ j, k = j + 1 := ⟨k - 1, by omega⟩
    have hi' : i + (cs.length + 1) = L := hi
    have hk' : cs.length + 1 < k + 1 := hk
    have c0 : hI h (q + 1) i = c := hc 0 (Nat.succ_pos _)
    have next : ∀ (g : Hp) (st' : List Int64), Fr PJ h g → (∀ j, j < 10 → hJ g (q + 2) j = w j) → SKl (hJ g (q + 3)) st' → st'.length ≤ 60 → evL w cs st' = some [v] → ∃ h', f_X1_holds_124 N (f_X1_holds_4 N k) g q (nI st'.length) (nI i) = some (if v = 0 then 0 else 1, h') ∧ Fr PJ h h' := by
      intro g st' F W S' l' e'
      unfold f_X1_holds_124
      rw [nI_1]
      obtain ⟨h', a1, a2⟩ := ih (i + 1) k g st' v (by omega) (by omega) (RP_Fr F R) (by rw [F.2.2.1]; exact hl) (fun j hj => by
        rw [F.2.2.2 (q + 1) _ (fun z => z), show i + 1 + j = i + (j + 1) by omega]
        exact hc (j + 1) (Nat.succ_lt_succ hj)) W S' l' e'
      exact ⟨h', a1, Fr_trans F a2⟩
    have h77 : 77 ≤ q := R.2.2.2.2.2
    have sj : ∀ (a : Nat) (x : Int64), Fr PJ h (sJ h (q + 3) a x) := fun a x => Fr_sJ _ _ _ _ ⟨by omega, by omega⟩
    have wj : ∀ (a : Nat) (x : Int64) (j : Nat), j < 10 → hJ (sJ h (q + 3) a x) (q + 2) j = w j := fun a x j hj => by rw [hJ_sJ, if_neg (by omega)]; exact hw j hj
    rw [f_X1_holds_4, R.1, bs, hl, if_neg (nI_ge (by omega) (by omega)), bs, hl, if_inI (by omega) (by omega), lts, nI_clamp (by omega), c0]
    rw [evL] at e
    unfold ev1 at e
    by_cases cp : c < 100000
    · rw [if_pos cp] at e
      rw [if_neg (Int32.not_le.mpr cp), R.2.2.1, bs, R.2.2.2.2.1]
      by_cases l60 : st.length < 60
      · rw [if_pos l60, bs] at e
        rw [if_neg (show ¬ nI 60 ≤ nI st.length from nI_ge l60 (by decide)), bs, c_valueOf R hw, bs, R.2.2.2.2.1, if_inI l60 (by omega), lts, nI_clamp (by omega), nI_1]
        exact next _ (vC w c :: st) (sj _ _) (wj _ _) (SKl_p _ S) (by show st.length + 1 ≤ 60; omega) e
      · rw [if_neg l60] at e; cases e
    · rw [if_neg cp] at e
      rw [if_pos (Int32.not_lt.mp cp)]
      unfold f_X1_holds_52
      by_cases c11 : c = 100011
      · rw [if_pos c11] at e
        rw [if_pos c11]
        cases st with
        | nil => cases e
        | cons a r =>
          have e' : evL w cs ((1 - a) :: r) = some [v] := e
          have ln' : (a :: r).length = r.length + 1 := rfl
          have l60 : r.length + 1 ≤ 60 := s60
          rw [ln', if_neg (show ¬ nI (r.length + 1) < 1 from nI_nlt (b := 1) (by omega) (by omega)), R.2.2.1, bs, bs, R.2.2.2.2.1, n_1, pk_sub (by omega), show r.length + 1 - 1 = r.length by omega, if_inI (by omega) (by omega), lts, if_inI (by omega) (by omega), lts, nI_clamp (by omega), show hJ h (q + 3) r.length = a from S.1]
          exact next _ ((1 - a) :: r) (sj _ _) (wj _ _) (SKl_p _ S.2) (by show r.length + 1 ≤ 60; omega) e'
      · rw [if_neg c11] at e
        rw [if_neg c11]
        unfold f_X1_holds_84
        rw [if_neg cp]
        match st, S, s60, e with
        | [], _, _, e => cases e
        | [_], _, _, e => cases e
        | b :: a :: r, S, s60, e =>
          have e' : evL w cs (cmb c a b :: r) = some [v] := e
          have ln' : (b :: a :: r).length = r.length + 2 := rfl
          have l60 : r.length + 2 ≤ 60 := s60
          have m1 : nI (r.length + 2) + (-1 : Int32) = nI (r.length + 1) := by
            rw [← Int32.sub_eq_add_neg, n_1, pk_sub (by omega)]
            rfl
          rw [ln', if_neg (show ¬ nI (r.length + 2) < 2 from nI_nlt (b := 2) (by omega) (by omega)), R.2.2.1, bs, bs, m1, n_1, pk_sub (by omega), show r.length + 1 - 1 = r.length by omega, R.2.2.2.2.1, if_inI (by omega) (by omega), bs, R.2.2.2.2.1, if_inI (by omega) (by omega), nI_clamp (by omega), nI_clamp (by omega), c_comb, bs, if_pos ⟨nI_pos' (by omega), by omega⟩, lts, show hJ h (q + 3) r.length = a from S.2.1, show hJ h (q + 3) (r.length + 1) = b from S.1]
          exact next _ (cmb c a b :: r) (sj _ _) (wj _ _) (SKl_p _ S.2.2) (by show r.length + 1 ≤ 60; omega) e'
