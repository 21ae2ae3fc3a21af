/-! ===== texts: the reference reads a rule: tests ===== -/
def KR (N m : Nat) (h : Hp) : Option (Int32 × Hp) := b2 (f_X8_isWord N h 51 (6385252 : Int64)) (fun r25 h26 => if r25 = 0 then (b2 (f_X8_isWord N h26 51 (28530 : Int64)) (fun r28 h29 => if r28 = 0 then (f_X8_tested_54 N (f_X8_tested_12 N m) h29 51 (0 : Int32)) else (f_X8_tested_49 N (f_X8_tested_12 N m) h29 51))) else (f_X8_tested_49 N (f_X8_tested_12 N m) h26 51))
def KC (N m j : Nat) (h : Hp) : Option (Int32 × Hp) := Option.bind (f_X8_closes_5 N j h 51) (fun h24 => KR N m h24)
def KB (N m j u : Nat) (h : Hp) : Option (Int32 × Hp) := Option.bind (f_X8_settles_0 N u h 51 (3 : Int32)) (fun h11 => KC N m j h11)
def KA (N m i : Nat) (h : Hp) : Option (Int32 × Hp) := b2 (f_X8_fact_2 N i h 51 (1 : Int32)) (fun r21 h22 => if r21 = 0 then (some (((0 : Int32), h22))) else KB N m N N h22)
theorem t12_A (N m : Nat) (h : Hp) : f_X8_tested_12 N (m + 1) h 51 1 = KA N m N h := by
  rw [f_X8_tested_12, if_neg (by decide)]
  unfold KA KB KC KR f_X8_fact f_X8_closes f_X8_settles
  simp only [Option.bind_assoc]
def KD (N m j : Nat) (h : Hp) : Option (Int32 × Hp) := KB N m j N (sI (sI (sI h 51 22 ((hI h 51 22) - (1 : Int32))) 51 19 ((hI (sI h 51 22 ((hI h 51 22) - (1 : Int32))) 51 19) - (1 : Int32))) 51 14 ((hI (sI (sI h 51 22 ((hI h 51 22) - (1 : Int32))) 51 19 ((hI (sI h 51 22 ((hI h 51 22) - (1 : Int32))) 51 19) - (1 : Int32))) 51 14) + (1 : Int32)))
theorem k_C {N n r gl k p d m j : Nat} {t : TY} {h : Hp} {cb cs o : List Int32} {ct : Int32} (hN : 5000 ≤ N) (M : MO t n r gl cb k h p o d cs ct) : ∃ h2, Fr PE h h2 ∧ MO t n r gl cb k h2 (skp t n p) o d cs ct ∧ (¬ (sg t n (skp t n p) = 93 ∧ 91 ∈ o) → KC N m (j + 1) h = KR N m h2) ∧ (sg t n (skp t n p) = 93 ∧ 91 ∈ o → KC N m (j + 1) h = Option.bind (f_X8_settles_0 N N h2 51 1) (fun h6 => KD N m j h6)) := by
  obtain ⟨h2, i1, i2, i3⟩ := m_see hN M.1.1
  have M2 : MO t n r gl cb k h2 (skp t n p) o d cs ct := MO_V (PE_V i3) (MR_PE i3 i2 (sc_ge _ _ _) M.1) M
  refine ⟨h2, i3, M2, fun z => ?_, fun z => ?_⟩
  · unfold KC
    rw [f_X8_closes_5, i1, b2s]
    by_cases c : sg t n (skp t n p) = 93
    · rw [if_pos c, v_ins hN M2, bs, decide_eq_false (fun y => z ⟨c, y⟩), if_pos (show b2i false = 0 by decide), bs]
    · rw [if_neg c, bs]
  · unfold KC
    rw [f_X8_closes_5, i1, b2s, if_pos z.1, v_ins hN M2, bs, decide_eq_true z.2, if_neg (show ¬ b2i true = 0 by decide)]
    unfold f_X8_settles KD KB KC
    simp only [Option.bind_assoc, lts]
theorem k_R0 {N n s m : Nat} {t : TY} {h : Hp} (hN : 5000 ≤ N) (T : TM t n h s) (hk : skp t n s = s) (w16 : wd t n s 16 = false) (w17 : wd t n s 17 = false) : KR N m h = f_X8_tested_12 N m h 51 0 := by
  unfold KR
  rw [m_word0 hN (by decide) cw_17 T hk, b2s, w17, if_pos (show b2i false = 0 by decide), m_word0 hN (by decide) cw_16 T hk, b2s, w16, if_pos (show b2i false = 0 by decide)]
  unfold f_X8_tested_54
  rw [if_pos rfl]
theorem k_Rw {N n s m : Nat} {t : TY} {h : Hp} (hN : 5000 ≤ N) (T : TM t n h s) (hk : skp t n s = s) (w : wd t n s 16 = true ∨ wd t n s 17 = true) : KR N m h = f_X8_tested_76 N (f_X8_tested_12 N m) h 51 1 (if wd t n s 17 = true then 12 else 13) := by
  have e49 : f_X8_tested_49 N (f_X8_tested_12 N m) h 51 = f_X8_tested_76 N (f_X8_tested_12 N m) h 51 1 (if wd t n s 17 = true then 12 else 13) := by
    unfold f_X8_tested_49 f_X8_tested_54
    rw [if_neg (by decide), m_word0 hN (by decide) cw_17 T hk, b2s, b_if]
    by_cases c : wd t n s 17 = true
    · rw [if_pos c, if_pos c]
    · rw [if_neg c, if_neg c]
  unfold KR
  rw [m_word0 hN (by decide) cw_17 T hk, b2s, b_if]
  by_cases c : wd t n s 17 = true
  · rw [if_pos c, e49]
  · rw [if_neg c, m_word0 hN (by decide) cw_16 T hk, b2s, b_if, if_pos (w.resolve_right c), e49]
theorem w_ex {t : TY} {n s : Nat} (h : wd t n s 16 = true) : wd t n s 17 = false := by
  apply Bool.eq_false_iff.mpr
  intro z
  have a := ((wd_iff t n s 16).mp h).1
  have b := ((wd_iff t n s 17).mp z).1
  rw [show wdL 16 = 2 by decide +kernel] at a
  rw [show wdL 17 = 3 by decide +kernel] at b
  omega
theorem sg_w {t : TY} {n s w c : Nat} (hw : w < 18) (h : wd t n s w = true) (hc : c < 97) : ¬ sg t n s = nI c := by
  obtain ⟨a, b⟩ := wd_yes hw h
  obtain ⟨l1, l2, l3⟩ := isL_nat b
  unfold sg
  rw [if_neg (by omega), l3, and_255 _ (by omega)]
  intro z
  have := (nI_eq (by omega) (by omega)).mp z
  omega
theorem v_psh {n r gl k p d : Nat} {t : TY} {h : Hp} {cb cs o : List Int32} {ct : Int32} (x : Int32) (s12 : Hp → Option (Int32 × Hp)) (M : MO t n r gl cb (k + 1) h p o d cs ct) : ∃ h', Option.bind (hP h 51 21) (fun q4 => if 0 ≤ hI h 51 22 ∧ (hI h 51 22).toNatClampNeg < hL h q4 then (lt (sI h q4 ((hI h 51 22).toNatClampNeg) x) (fun h6 => lt (sI h6 51 22 ((hI h6 51 22) + (1 : Int32))) (fun h7 => s12 h7))) else none) = s12 h' ∧ MO t n r gl cb k h' p (x :: o) d cs ct ∧ Fr (PW r gl) h h' := by
  have hn4 := M.1.1.2.2.1
  have hp := M.1.1.2.2.2.2.1
  have hb := M.1.2.2.2.2.2
  obtain ⟨M0, e22, S, e19, d10⟩ := M
  have H := M0.1.1
  rw [pp_51_21 H, bs, e22, ll_59 H, if_inI (by omega) (by omega), lts, nI_clamp (by omega)]
  have F2 : Fr (fun a j => a = 59 ∧ j = o.length) h (sI h 59 o.length x) := Fr_sI _ _ _ _ ⟨rfl, rfl⟩
  have q2 : hI (sI h 59 o.length x) 59 o.length = x := by rw [hI_sI, if_pos ⟨rfl, rfl⟩]
  generalize sI h 59 o.length x = h2 at F2 q2 ⊢
  rw [lts, F2.2.2.2 51 22 (by omega), e22, nI_1]
  have F3 : Fr (fun a j => a = 51 ∧ j = 22) h2 (sI h2 51 22 (nI (o.length + 1))) := Fr_sI _ _ _ _ ⟨rfl, rfl⟩
  have q3 : hI (sI h2 51 22 (nI (o.length + 1))) 51 22 = nI (o.length + 1) := by rw [hI_sI, if_pos ⟨rfl, rfl⟩]
  generalize sI h2 51 22 (nI (o.length + 1)) = h3 at F3 q3 ⊢
  have F : Fr (fun a j => (a = 51 ∧ j = 22) ∨ (a = 59 ∧ j = o.length)) h h3 := Fr_trans (Fr_mono F2 (fun a j z => by omega)) (Fr_mono F3 (fun a j z => by omega))
  have T3 : TM t n h3 p := TM_Fr F (by omega) (by omega) (fun i => by omega) M0.1
  have M3 : MR t n r gl cb (k + 1 + o.length) h3 p cs ct := MR_Fr F T3 (Nat.le_refl _) (by rw [F.2.2.2 51 15 (by omega)]; exact M0.2.1) (by omega) (by omega) (fun j => by omega) (by omega) M0
  refine ⟨h3, rfl, ⟨MR_k M3 (by show cs.length + (k + (o.length + 1)) ≤ p; omega), q3, ⟨by rw [F3.2.2.2 59 _ (by omega)]; exact q2, OS_w o (fun i hi => F.2.2.2 59 i (by omega)) S⟩, by rw [F.2.2.2 51 19 (by omega)]; exact e19, d10⟩, Fr_mono F (fun a j z => by unfold PW; omega)⟩
/-- behind a word that joins: on to the next fact -/
theorem k_join {N n r gl k s d m : Nat} {t : TY} {h : Hp} {cb cs o : List Int32} {ct : Int32} {a b : Bool} (hN : 5000 ≤ N) (h0 : T0 o) (hk : skp t n s = s) (M : MO t n r gl cb k h s (qs a b ++ o) d cs ct) : (wd t n s 16 = true → ∃ h', KR N (m + 1) h = KA N m N h' ∧ MO t n r gl cb k h' (lte t n s) (qs false true ++ o) d (cs ++ ca a ++ co b) ct ∧ Fr (PW r gl) h h') ∧ (wd t n s 17 = true → ∃ h', KR N (m + 1) h = KA N m N h' ∧ MO t n r gl cb k h' (lte t n s) (qs true b ++ o) d (cs ++ ca a) ct ∧ Fr (PW r gl) h h') := by
  have hb := M.1.2.2.2.2.2
  obtain ⟨h1, i1, i2, i3⟩ := m_pw hN M.1.1
  have M1 : ∀ w, w < 18 → wd t n s w = true → MO t n r gl cb (k + 1) h1 (lte t n s) (qs a b ++ o) d cs ct := by
    intro w hw ww
    obtain ⟨y1, y2⟩ := wd_yes hw ww
    have lg : s < lte t n s := by have := bh_gt (t := t) y1; rw [bh_w y1 y2] at this; exact this
    have Q : MO t n r gl cb k h1 (lte t n s) (qs a b ++ o) d cs ct := MO_V (PE_V i3) (MR_PE i3 i2 (by omega) M.1) M
    exact ⟨MR_k Q.1 (by omega), Q.2⟩
  constructor
  · intro w
    rw [k_Rw hN M.1.1 hk (Or.inl w), w_ex w, if_neg (by decide)]
    unfold f_X8_tested_76 f_X8_settles
    obtain ⟨h3, a1, a2, a3⟩ := v_set1 (N := N) (u := N) (by omega) h0 (M1 16 (by decide) w)
    rw [i1, bs, m_str, bs, show stN 13 = 1 by decide, a1, bs]
    obtain ⟨h4, b1, b2', b3⟩ := v_psh 13 (fun h7 => f_X8_tested_12 N (m + 1) h7 51 1) a2
    rw [b1, t12_A]
    exact ⟨h4, rfl, b2', Fr_trans (PV_W (PE_V i3)) (Fr_trans a3 b3)⟩
  · intro w
    rw [k_Rw hN M.1.1 hk (Or.inr w), w, if_pos rfl]
    unfold f_X8_tested_76 f_X8_settles
    obtain ⟨h3, a1, a2, a3⟩ := v_set2 (N := N) (u := N) (by omega) h0 (M1 17 (by decide) w)
    rw [i1, bs, m_str, bs, show stN 12 = 2 by decide, a1, bs]
    obtain ⟨h4, b1, b2', b3⟩ := v_psh 12 (fun h7 => f_X8_tested_12 N (m + 1) h7 51 1) a2
    rw [b1, t12_A]
    exact ⟨h4, rfl, by cases b <;> exact b2', Fr_trans (PV_W (PE_V i3)) (Fr_trans a3 b3)⟩
/-- what came of a fact, of a test -/
def FO (N n r gl k : Nat) (t : TY) (cb o : List Int32) (d p0 : Nat) (h0 : Hp) (K : Option (Int32 × Hp)) (y : YS) : Prop := (∃ fl h', y.1 = .inl fl ∧ fl ≠ 0 ∧ K = some (0, h') ∧ hI h' 51 15 = fl ∧ Fr (PW r gl) h0 h') ∨ (∃ h' p cs ct m j u, y = (.inr (skp t n p), cs, ct) ∧ p0 < p ∧ MO t n r gl cb k h' p o d cs ct ∧ n - p < m ∧ n - p < j ∧ o.length + 5 ≤ u ∧ K = KB N m j u h' ∧ Fr (PW r gl) h0 h')
def EO (N n r gl k : Nat) (t : TY) (cb o : List Int32) (d p0 : Nat) (h0 : Hp) (K : Option (Int32 × Hp)) (y : YS) : Prop := (∃ fl h', y.1 = .inl fl ∧ fl ≠ 0 ∧ K = some (0, h') ∧ hI h' 51 15 = fl ∧ Fr (PW r gl) h0 h') ∨ (∃ h' p cs ct m j a b, y = (.inr (skp t n p), cs ++ ca a ++ co b, ct) ∧ p0 < p ∧ MO t n r gl cb k h' p (qs a b ++ o) d cs ct ∧ n - p < m ∧ n - p < j ∧ wd t n (skp t n p) 16 = false ∧ wd t n (skp t n p) 17 = false ∧ K = KC N m j h' ∧ Fr (PW r gl) h0 h')
theorem EO_pre {N n r gl k d p0 p1 : Nat} {t : TY} {cb o : List Int32} {h0 h1 : Hp} {K0 K1 : Option (Int32 × Hp)} {y : YS} (F : Fr (PW r gl) h0 h1) (hp : p0 ≤ p1) (e : K0 = K1) (E : EO N n r gl k t cb o d p1 h1 K1 y) : EO N n r gl k t cb o d p0 h0 K0 y := by
  subst e
  rcases E with ⟨fl, h', a1, a2, a3, a4, a5⟩ | ⟨h', p, cs, ct, m, j, a, b, a1, a2, a3, a4, a5, a6, a7, a8, a9⟩
  · exact Or.inl ⟨fl, h', a1, a2, a3, a4, Fr_trans F a5⟩
  · exact Or.inr ⟨h', p, cs, ct, m, j, a, b, a1, by omega, a3, a4, a5, a6, a7, a8, Fr_trans F a9⟩
theorem FO_pre {N n r gl k d p0 p1 : Nat} {t : TY} {cb o : List Int32} {h0 h1 : Hp} {K0 K1 : Option (Int32 × Hp)} {y : YS} (F : Fr (PW r gl) h0 h1) (hp : p0 ≤ p1) (e : K0 = K1) (E : FO N n r gl k t cb o d p1 h1 K1 y) : FO N n r gl k t cb o d p0 h0 K0 y := by
  subst e
  rcases E with ⟨fl, h', a1, a2, a3, a4, a5⟩ | ⟨h', p, cs, ct, m, j, u, a1, a2, a3, a4, a5, a6, a7, a8⟩
  · exact Or.inl ⟨fl, h', a1, a2, a3, a4, Fr_trans F a5⟩
  · exact Or.inr ⟨h', p, cs, ct, m, j, u, a1, by omega, a3, a4, a5, a6, a7, Fr_trans F a8⟩
theorem yTl_l {t : TY} {n : Nat} {F : YS → YS} {fl : Int32} {y : YS} {o : Bool} (f : Nat) (e : y.1 = .inl fl) (hf : fl ≠ 0) : yTl t n F f o y = y := by
  have z : (if o = true then yE 100010 y else y) = y := by
    cases o
    · rfl
    · exact yE_l e hf
  cases f with
  | zero => exact z
  | succ f => rw [yTl, xW_l e, xW_l e, if_neg (by decide), if_neg (by decide)]; exact z
theorem qs_len (a b : Bool) : (qs a b).length = (ca a).length + (co b).length := by cases a <;> cases b <;> rfl
theorem ye_b {s : Nat} {cs : List Int32} {ct : Int32} (b : Bool) (l : cs.length + (co b).length ≤ 400) : (if b = true then yE 100010 (.inr s, cs, ct) else (.inr s, cs, ct)) = (.inr s, cs ++ co b, ct) := by
  cases b with
  | true => rw [if_pos rfl]; exact yE_r (by have : cs.length + 1 ≤ 400 := l; omega)
  | false => rw [if_neg (by decide), show co false = [] from rfl, List.append_nil]
theorem nt_w {t : TY} {n s w : Nat} (hw : w < 18) (h : wd t n s w = true) : nt t n s = skp t n (lte t n s) := by
  obtain ⟨y1, y2⟩ := wd_yes hw h
  unfold nt
  rw [bh_w y1 y2]
theorem lte_gt {t : TY} {n s w : Nat} (hw : w < 18) (h : wd t n s w = true) : s < lte t n s := by
  obtain ⟨y1, y2⟩ := wd_yes hw h
  have := bh_gt (t := t) y1
  rw [bh_w y1 y2] at this
  exact this
