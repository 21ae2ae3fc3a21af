/-! ===== texts: the reference reads a rule: what stands open ===== -/
def OS (A : Nat → Int32) : List Int32 → Prop
  | [] => True
  | x :: o => A o.length = x ∧ OS A o
def MO (t : TY) (n r gl : Nat) (cb : List Int32) (k : Nat) (h : Hp) (p : Nat) (o : List Int32) (d : Nat) (cs : List Int32) (ct : Int32) : Prop := MR t n r gl cb (k + o.length) h p cs ct ∧ hI h 51 22 = nI o.length ∧ OS (hI h 59) o ∧ hI h 51 19 = nI d ∧ d ≤ 10
def PW (r gl : Nat) : Nat → Nat → Prop := fun a j => PVr r gl a j ∨ (a = 51 ∧ (j = 19 ∨ j = 22)) ∨ a = 59
theorem PV_W {r gl : Nat} {a b : Hp} (F : Fr (PVr r gl) a b) : Fr (PW r gl) a b := Fr_mono F (fun _ _ z => Or.inl z)
theorem MO_V {t : TY} {n r gl k p q d : Nat} {cb cs cs' o : List Int32} {ct ct' : Int32} {a b : Hp} (F : Fr (PVr r gl) a b) (M' : MR t n r gl cb (k + o.length) b q cs' ct') (M : MO t n r gl cb k a p o d cs ct) : MO t n r gl cb k b q o d cs' ct' := by
  obtain ⟨M0, e22, S, e19, d10⟩ := M
  refine ⟨M', by rw [F.2.2.2 51 22 (fun z => by unfold PVr PU at z; omega)]; exact e22, ?_, by rw [F.2.2.2 51 19 (fun z => by unfold PVr PU at z; omega)]; exact e19, d10⟩
  rw [Fr_row F (fun j z => by unfold PVr PU at z; omega)]
  exact S
theorem OS_w {A B : Nat → Int32} : ∀ (o : List Int32), (∀ i, i < o.length → B i = A i) → OS A o → OS B o := by
  intro o
  induction o with
  | nil => intro _ _; trivial
  | cons x o ih =>
    intro e S
    exact ⟨by rw [e o.length (Nat.lt_succ_self _)]; exact S.1, ih (fun i hi => e i (Nat.lt_succ_of_lt hi)) S.2⟩
theorem OS_in {A : Nat → Int32} {v : Int32} : ∀ (o : List Int32), OS A o → ((∃ i, i < o.length ∧ A i = v) ↔ v ∈ o) := by
  intro o
  induction o with
  | nil => intro _; exact ⟨fun ⟨i, hi, _⟩ => absurd hi (Nat.not_lt_zero i), fun z => absurd z List.not_mem_nil⟩
  | cons x o ih =>
    intro S
    constructor
    · rintro ⟨i, hi, e⟩
      have hi' : i < o.length + 1 := hi
      by_cases z : i = o.length
      · subst z
        exact List.mem_cons.mpr (Or.inl (by rw [← e, S.1]))
      · exact List.mem_cons.mpr (Or.inr ((ih S.2).mp ⟨i, by omega, e⟩))
    · intro m
      rcases List.mem_cons.mp m with e | m
      · exact ⟨o.length, Nat.lt_succ_self _, by rw [e]; exact S.1⟩
      · obtain ⟨i, hi, e⟩ := (ih S.2).mpr m
        exact ⟨i, Nat.lt_succ_of_lt hi, e⟩
theorem m_ins_l {N L : Nat} (hL : L ≤ 400) : ∀ (f k m : Nat) (h : Hp), k + f = L → f < m → SHP h → hI h 51 22 = nI L → ∃ b : Bool, f_X8_isInside_2 N m h 51 (nI k) = some (b2i b) ∧ (b = true ↔ ∃ i, k ≤ i ∧ i < L ∧ hI h 59 i = 91) := by
  intro f
  induction f with
  | zero =>
    intro k m h hk hm H e
    obtain ⟨m, rfl⟩ : ∃ j, m = j + 1 := ⟨m - 1, by omega⟩
    rw [f_X8_isInside_2, e, if_pos (nI_le (by omega) (by omega))]
    exact ⟨false, rfl, ⟨fun z => absurd z (by decide), fun ⟨i, h1, h2, _⟩ => by omega⟩⟩
  | succ f ih =>
    intro k m h hk hm H e
    obtain ⟨m, rfl⟩ : ∃ j, m = j + 1 := ⟨m - 1, by omega⟩
    rw [f_X8_isInside_2, e, if_neg (nI_ge (by omega) (by omega)), pp_51_21 H, bs, ll_59 H, if_inI (by omega) (by omega), nI_clamp (by omega)]
    by_cases c : hI h 59 k = 91
    · rw [if_pos c]
      exact ⟨true, rfl, ⟨fun _ => ⟨k, by omega, by omega, c⟩, fun _ => rfl⟩⟩
    · rw [if_neg c, nI_1]
      obtain ⟨b, b1, b2'⟩ := ih (k + 1) m h (by omega) (by omega) H e
      refine ⟨b, b1, b2'.trans ⟨fun ⟨i, h1, h2, h3⟩ => ⟨i, by omega, h2, h3⟩, fun ⟨i, h1, h2, h3⟩ => ⟨i, ?_, h2, h3⟩⟩⟩
      by_cases z : i = k
      · subst z; exact absurd h3 c
      · omega
theorem v_ins {N n r gl k p d : Nat} {t : TY} {h : Hp} {cb cs o : List Int32} {ct : Int32} (hN : 5000 ≤ N) (M : MO t n r gl cb k h p o d cs ct) : f_X8_isInside N h 51 = some (b2i (decide (91 ∈ o))) := by
  have hn4 := M.1.1.2.2.1
  have hp := M.1.1.2.2.2.2.1
  have hb := M.1.2.2.2.2.2
  obtain ⟨b, b1, b2'⟩ := m_ins_l (N := N) (L := o.length) (by omega) o.length 0 N h (by omega) (by omega) M.1.1.1 M.2.1
  have e : b = decide ((91 : Int32) ∈ o) := by
    have w : (∃ i, 0 ≤ i ∧ i < o.length ∧ hI h 59 i = 91) ↔ (91 : Int32) ∈ o := ⟨fun ⟨i, _, h2, h3⟩ => (OS_in o M.2.2.1).mp ⟨i, h2, h3⟩, fun z => by obtain ⟨i, h2, h3⟩ := (OS_in o M.2.2.1).mpr z; exact ⟨i, Nat.zero_le _, h2, h3⟩⟩
    by_cases z : (91 : Int32) ∈ o
    · rw [decide_eq_true z]; exact b2'.mpr (w.mpr z)
    · rw [decide_eq_false z]; exact Bool.eq_false_iff.mpr (fun y => z (w.mp (b2'.mp y)))
  unfold f_X8_isInside
  have b1' : f_X8_isInside_2 N N h 51 0 = some (b2i b) := b1
  rw [b1', e]
/-- how strong a sign that stands open is -/
def stN (v : Int32) : Nat := if v = 13 then 1 else if v = 12 then 2 else if v = 11 then 3 else 0
theorem m_str (h : Hp) (v : Int32) : f_X8_strength h v = some (nI (stN v)) := by
  unfold f_X8_strength stN
  by_cases a : v = 13
  · rw [if_pos a, if_pos a]; rfl
  rw [if_neg a, if_neg a]
  by_cases b : v = 12
  · rw [if_pos b, if_pos b]; rfl
  rw [if_neg b, if_neg b]
  by_cases c : v = 11
  · rw [if_pos c, if_pos c]; rfl
  rw [if_neg c, if_neg c]; rfl
theorem stN_le (v : Int32) : stN v ≤ 3 := by
  unfold stN
  by_cases a : v = 13
  · rw [if_pos a]; decide
  rw [if_neg a]
  by_cases b : v = 12
  · rw [if_pos b]; decide
  rw [if_neg b]
  by_cases c : v = 11
  · rw [if_pos c]; decide
  rw [if_neg c]; decide
theorem v_stop {N n r gl k p d l u : Nat} {t : TY} {h : Hp} {cb cs o : List Int32} {ct : Int32} (M : MO t n r gl cb k h p o d cs ct) (hl : l ≤ 3) (ho : ∀ x o', o = x :: o' → stN x < l) : f_X8_settles_0 N (u + 1) h 51 (nI l) = some h := by
  have hn4 := M.1.1.2.2.1
  have hp := M.1.1.2.2.2.2.1
  have hb := M.1.2.2.2.2.2
  rw [f_X8_settles_0, M.2.1]
  cases o with
  | nil => rw [if_pos (show nI ([] : List Int32).length ≤ 0 by decide)]
  | cons x o =>
    have ln : (x :: o).length = o.length + 1 := rfl
    rw [ln] at hb ⊢
    rw [if_neg (show ¬ nI (o.length + 1) ≤ 0 from nI_ge (a := 0) (by omega) (by omega)), pp_51_21 M.1.1.1, bs, n_1, pk_sub (by omega), show o.length + 1 - 1 = o.length by omega, ll_59 M.1.1.1, if_inI (by omega) (by omega), nI_clamp (by omega), show hI h 59 o.length = x from M.2.2.1.1, m_str, bs, if_pos (nI_lt (ho x o rfl) (by omega))]
theorem v_pop {N n r gl k p d l u : Nat} {t : TY} {h : Hp} {cb cs o : List Int32} {ct x c : Int32} (M : MO t n r gl cb k h p (x :: o) d cs ct) (hx : l ≤ stN x) (hc : sgC c (x + 16 * 0)) (hd : x = 11 → 1 ≤ d) : ∃ h', f_X8_settles_0 N (u + 1) h 51 (nI l) = f_X8_settles_0 N u h' 51 (nI l) ∧ MO t n r gl cb k h' p o (if x = 11 then d - 1 else d) (cs ++ [c]) ct ∧ Fr (PW r gl) h h' := by
  have hn4 := M.1.1.2.2.1
  have hp := M.1.1.2.2.2.2.1
  have hb := M.1.2.2.2.2.2
  have s3 := stN_le x
  have ln : (x :: o).length = o.length + 1 := rfl
  rw [ln] at hb
  obtain ⟨M0, e22, ⟨S1, S2⟩, e19, d10⟩ := M
  rw [ln] at e22
  have M0' : MR t n r gl cb (k + o.length + 1) h p cs ct := M0
  have H := M0.1.1
  rw [f_X8_settles_0, e22, if_neg (show ¬ nI (o.length + 1) ≤ 0 from nI_ge (a := 0) (by omega) (by omega)), pp_51_21 H, bs, n_1, pk_sub (by omega), show o.length + 1 - 1 = o.length by omega, ll_59 H, if_inI (by omega) (by omega), nI_clamp (by omega), S1, m_str, bs, if_neg (nI_nlt hx (by omega)), lts]
  have F1 : Fr (fun a j => a = 51 ∧ j = 22) h (sI h 51 22 (nI o.length)) := Fr_sI _ _ _ _ ⟨rfl, rfl⟩
  have q1 : hI (sI h 51 22 (nI o.length)) 51 22 = nI o.length := by rw [hI_sI, if_pos ⟨rfl, rfl⟩]
  generalize sI h 51 22 (nI o.length) = h6 at F1 q1 ⊢
  have M6 : MR t n r gl cb (k + o.length + 1) h6 p cs ct := MR_Fr F1 (TM_Fr F1 (by omega) (by omega) (fun i => by omega) M0'.1) (Nat.le_refl _) (by rw [F1.2.2.2 51 15 (by omega)]; exact M0'.2.1) (by omega) (by omega) (fun j => by omega) (by omega) M0'
  obtain ⟨h9, u1, u2, u3⟩ := v_puts (c := c) (s := x) (v := 0) M6 hc
  have H6 := Fr_SHP F1 H
  have H9 := Fr_SHP u3 H6
  have q9 : hI h9 51 22 = nI o.length := by rw [u3.2.2.2 51 22 (fun z => by unfold PU at z; omega)]; exact q1
  have r6 : hI h6 59 = hI h 59 := Fr_row F1 (fun j z => by omega)
  have r9 : hI h9 59 = hI h6 59 := Fr_row u3 (fun j z => by unfold PU at z; omega)
  have d9 : hI h9 51 19 = nI d := by rw [u3.2.2.2 51 19 (fun z => by unfold PU at z; omega), F1.2.2.2 51 19 (by omega)]; exact e19
  rw [pp_51_21 H6, bs, q1, ll_59 H6, if_inI (by omega) (by omega), nI_clamp (by omega), r6, S1, u1, bs, pp_51_21 H9, bs, q9, ll_59 H9, if_inI (by omega) (by omega), nI_clamp (by omega), r9, r6, S1]
  have F9 : Fr (PW r gl) h h9 := Fr_trans (Fr_mono F1 (fun a j z => by unfold PW; omega)) (PV_W (PU_V u3))
  by_cases e : x = 11
  · have hd1 := hd e
    rw [if_pos e, if_pos e, lts, d9, pk_sub hd1]
    have F2 : Fr (fun a j => a = 51 ∧ j = 19) h9 (sI h9 51 19 (nI (d - 1))) := Fr_sI _ _ _ _ ⟨rfl, rfl⟩
    have q2 : hI (sI h9 51 19 (nI (d - 1))) 51 19 = nI (d - 1) := by rw [hI_sI, if_pos ⟨rfl, rfl⟩]
    generalize sI h9 51 19 (nI (d - 1)) = h10 at F2 q2 ⊢
    refine ⟨h10, rfl, ⟨MR_Fr F2 (TM_Fr F2 (by omega) (by omega) (fun i => by omega) u2.1) (Nat.le_refl _) (by rw [F2.2.2.2 51 15 (by omega)]; exact u2.2.1) (by omega) (by omega) (fun j => by omega) (by omega) u2, by rw [F2.2.2.2 51 22 (by omega)]; exact q9, ?_, q2, by omega⟩, Fr_trans F9 (Fr_mono F2 (fun a j z => by unfold PW; omega))⟩
    rw [Fr_row F2 (fun j z => by omega), r9, r6]
    exact S2
  · rw [if_neg e, if_neg e]
    exact ⟨h9, rfl, ⟨u2, q9, by rw [r9, r6]; exact S2, d9, d10⟩, F9⟩
/-- a test's signs that stand open: and, or -/
def qs : Bool → Bool → List Int32
  | true, true => [12, 13]
  | true, false => [12]
  | false, true => [13]
  | false, false => []
def ca (a : Bool) : List Int32 := if a = true then [100009] else []
def co (a : Bool) : List Int32 := if a = true then [100010] else []
def T0 (o : List Int32) : Prop := ∀ x o', o = x :: o' → x = 91
theorem sC12 : sgC 100009 (12 + 16 * 0) := Or.inr (Or.inr ⟨12, by decide, by decide, by decide, by decide⟩)
theorem sC13 : sgC 100010 (13 + 16 * 0) := Or.inr (Or.inr ⟨13, by decide, by decide, by decide, by decide⟩)
theorem sC11 : sgC 100011 (11 + 16 * 0) := Or.inr (Or.inr ⟨11, by decide, by decide, by decide, by decide⟩)
theorem T0_s {o : List Int32} {l : Nat} (hl : 1 ≤ l) (h : T0 o) : ∀ x o', o = x :: o' → stN x < l := by
  intro x o' e
  rw [h x o' e]
  exact Nat.lt_of_lt_of_le (show stN 91 < 1 by decide) hl
theorem v_set2 {N n r gl k p d u : Nat} {t : TY} {h : Hp} {cb cs o : List Int32} {ct : Int32} {a b : Bool} (hu : 5 ≤ u) (h0 : T0 o) (M : MO t n r gl cb k h p (qs a b ++ o) d cs ct) : ∃ h', f_X8_settles_0 N u h 51 (nI 2) = some h' ∧ MO t n r gl cb k h' p (qs false b ++ o) d (cs ++ ca a) ct ∧ Fr (PW r gl) h h' := by
  obtain ⟨u, rfl⟩ : ∃ j, u = j + 2 := ⟨u - 2, by omega⟩
  have tp : ∀ x o', qs false b ++ o = x :: o' → stN x < 2 := by
    intro x o' e
    cases b with
    | true =>
      have : 13 :: o = x :: o' := e
      injection this with e1 _
      rw [← e1]; decide
    | false => exact T0_s (by decide) h0 x o' e
  cases a with
  | true =>
    have M' : MO t n r gl cb k h p (12 :: (qs false b ++ o)) d cs ct := by cases b <;> exact M
    obtain ⟨h1, a1, a2, a3⟩ := v_pop (N := N) (l := 2) (u := u + 1) M' (by decide) sC12 (fun z => absurd z (by decide))
    rw [if_neg (by decide)] at a2
    exact ⟨h1, by rw [a1]; exact v_stop a2 (by decide) tp, a2, a3⟩
  | false => exact ⟨h, v_stop M (by decide) tp, by rw [show ca false = [] from rfl, List.append_nil]; exact M, Fr_refl h⟩
theorem v_set1 {N n r gl k p d u : Nat} {t : TY} {h : Hp} {cb cs o : List Int32} {ct : Int32} {a b : Bool} (hu : 5 ≤ u) (h0 : T0 o) (M : MO t n r gl cb k h p (qs a b ++ o) d cs ct) : ∃ h', f_X8_settles_0 N u h 51 (nI 1) = some h' ∧ MO t n r gl cb k h' p o d (cs ++ ca a ++ co b) ct ∧ Fr (PW r gl) h h' := by
  obtain ⟨u, rfl⟩ : ∃ j, u = j + 3 := ⟨u - 3, by omega⟩
  have fin : ∀ (g : Hp) (v : Nat) (cs' : List Int32), MO t n r gl cb k g p (qs false b ++ o) d cs' ct → ∃ h', f_X8_settles_0 N (v + 2) g 51 (nI 1) = some h' ∧ MO t n r gl cb k h' p o d (cs' ++ co b) ct ∧ Fr (PW r gl) g h' := by
    intro g v cs' G
    cases b with
    | true =>
      have G' : MO t n r gl cb k g p (13 :: o) d cs' ct := G
      obtain ⟨h1, a1, a2, a3⟩ := v_pop (N := N) (l := 1) (u := v + 1) G' (by decide) sC13 (fun z => absurd z (by decide))
      rw [if_neg (by decide)] at a2
      exact ⟨h1, by rw [a1]; exact v_stop a2 (by decide) (T0_s (by decide) h0), a2, a3⟩
    | false => exact ⟨g, v_stop G (by decide) (T0_s (by decide) h0), by rw [show co false = [] from rfl, List.append_nil]; exact G, Fr_refl g⟩
  cases a with
  | true =>
    have M' : MO t n r gl cb k h p (12 :: (qs false b ++ o)) d cs ct := by cases b <;> exact M
    obtain ⟨h1, a1, a2, a3⟩ := v_pop (N := N) (l := 1) (u := u + 2) M' (by decide) sC12 (fun z => absurd z (by decide))
    rw [if_neg (by decide)] at a2
    obtain ⟨h2, b1, b2', b3⟩ := fin h1 u (cs ++ [100009]) a2
    exact ⟨h2, by rw [a1]; exact b1, b2', Fr_trans a3 b3⟩
  | false =>
    obtain ⟨h2, b1, b2', b3⟩ := fin h (u + 1) cs M
    exact ⟨h2, b1, by rw [show ca false = [] from rfl, List.append_nil]; exact b2', b3⟩
theorem v_opens {N n r gl k s d : Nat} {t : TY} {h : Hp} {cb cs o : List Int32} {ct : Int32} (x : Int32) (hs : s < n) (M : MO t n r gl cb k h s o d cs ct) : ∃ h', Fr (PW r gl) h h' ∧ ((d = 10 ∧ f_X8_opens h 51 x = some (0, h') ∧ hI h' 51 15 = flt s (nI 2)) ∨ (d < 10 ∧ f_X8_opens h 51 x = some (1, h') ∧ TM t n h' s ∧ ∀ g q, Fr PE h' g → TM t n g q → s < q → MO t n r gl cb k g q (x :: o) (d + 1) cs ct)) := by
  have hn4 := M.1.1.2.2.1
  have hp := M.1.1.2.2.2.2.1
  have hb := M.1.2.2.2.2.2
  obtain ⟨M0, e22, S, e19, d10⟩ := M
  have H := M0.1.1
  unfold f_X8_opens
  rw [e19]
  by_cases e : d = 10
  · rw [if_pos (show nI d = 10 by rw [e]; rfl), M0.1.2.2.2.2.2]
    obtain ⟨h', i1, i2, i3⟩ := m_fails M0.2.1 2 s
    rw [i1, b2s, if_pos (Or.inl rfl)]
    exact ⟨h', PV_W (PF_V i3), Or.inl ⟨e, rfl, i2⟩⟩
  · rw [if_neg (show ¬ nI d = 10 from fun z => e ((nI_eq (a := d) (b := 10) (by omega) (by decide)).mp z)), lts, nI_1]
    have F1 : Fr (fun a j => a = 51 ∧ j = 19) h (sI h 51 19 (nI (d + 1))) := Fr_sI _ _ _ _ ⟨rfl, rfl⟩
    have q1 : hI (sI h 51 19 (nI (d + 1))) 51 19 = nI (d + 1) := by rw [hI_sI, if_pos ⟨rfl, rfl⟩]
    generalize sI h 51 19 (nI (d + 1)) = h1 at F1 q1 ⊢
    have H1 := Fr_SHP F1 H
    rw [pp_51_21 H1, bs, F1.2.2.2 51 22 (by omega), e22, ll_59 H1, if_inI (by omega) (by omega), lts, nI_clamp (by omega)]
    have F2 : Fr (fun a j => a = 59 ∧ j = o.length) h1 (sI h1 59 o.length x) := Fr_sI _ _ _ _ ⟨rfl, rfl⟩
    have q2 : hI (sI h1 59 o.length x) 59 o.length = x := by rw [hI_sI, if_pos ⟨rfl, rfl⟩]
    generalize sI h1 59 o.length x = h2 at F2 q2 ⊢
    rw [lts, F2.2.2.2 51 22 (by omega), F1.2.2.2 51 22 (by omega), e22, nI_1]
    have F3 : Fr (fun a j => a = 51 ∧ j = 22) h2 (sI h2 51 22 (nI (o.length + 1))) := Fr_sI _ _ _ _ ⟨rfl, rfl⟩
    have q3 : hI (sI h2 51 22 (nI (o.length + 1))) 51 22 = nI (o.length + 1) := by rw [hI_sI, if_pos ⟨rfl, rfl⟩]
    generalize sI h2 51 22 (nI (o.length + 1)) = h3 at F3 q3 ⊢
    have F : Fr (fun a j => (a = 51 ∧ (j = 19 ∨ j = 22)) ∨ (a = 59 ∧ j = o.length)) h h3 := Fr_trans (Fr_mono F1 (fun a j z => by omega)) (Fr_trans (Fr_mono F2 (fun a j z => by omega)) (Fr_mono F3 (fun a j z => by omega)))
    have T3 : TM t n h3 s := TM_Fr F (by omega) (by omega) (fun i => by omega) M0.1
    refine ⟨h3, Fr_mono F (fun a j z => by unfold PW; omega), Or.inr ⟨by omega, rfl, T3, fun g q G T hq => ?_⟩⟩
    have M3 : MR t n r gl cb (k + o.length) h3 s cs ct := MR_Fr F T3 (Nat.le_refl _) (by rw [F.2.2.2 51 15 (by omega)]; exact M0.2.1) (by omega) (by omega) (fun j => by omega) (by omega) M0
    have Mg := MR_k (l := k + (x :: o).length) (MR_PE G T (by omega) M3) (by show cs.length + (k + (o.length + 1)) ≤ q; omega)
    refine ⟨Mg, by rw [G.2.2.2 51 22 (fun z => by unfold PE at z; omega)]; exact q3, ?_, ?_, by omega⟩
    · rw [Fr_row G (fun j z => by unfold PE at z; omega)]
      refine ⟨by rw [F3.2.2.2 59 _ (by omega)]; exact q2, OS_w o (fun i hi => F.2.2.2 59 i (by omega)) S⟩
    · rw [G.2.2.2 51 19 (fun z => by unfold PE at z; omega), F3.2.2.2 51 19 (by omega), F2.2.2.2 51 19 (by omega)]
      exact q1
