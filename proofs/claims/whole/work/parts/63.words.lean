/-! ===== texts: words ===== -/
/-- the words of both languages, each by a number of its own -/
def wdS : List (List Int32) := [[108, 101, 118, 101, 108], [108, 97, 103], [98, 97, 114, 103, 101], [98, 114, 111, 107, 101, 110], [98, 97, 114], [110, 111, 116], [115, 116, 101, 112], [100, 111, 119, 110], [117, 112], [110, 101, 101, 100], [119, 97, 116, 101, 114], [98, 101, 108, 111, 119], [104, 101, 114, 101], [116, 104, 101, 114, 101], [119, 105, 100, 101], [116, 105, 112, 115], [111, 114], [97, 110, 100]]
def wdL (w : Nat) : Nat := (wdS.getD w []).length
def wdB (w i : Nat) : Int32 := (wdS.getD w []).getD i 0
theorem str_ok : ∀ w, w < 18 → ∀ i, i < wdL w → ((wdB w i &&& (255 : Int32)).toUInt32 % 65536).toInt32 = wdB w i ∧ 0 ≤ wdB w i ∧ wdB w i < 65536 ∧ 97 ≤ (wdB w i).toNatClampNeg ∧ (wdB w i).toNatClampNeg ≤ 122 ∧ wdB w i = nI (wdB w i).toNatClampNeg := by decide +kernel
theorem str_len : ∀ w, w < 18 → 2 ≤ wdL w ∧ wdL w ≤ 6 := by decide +kernel
theorem str_nb : ∀ w, w < 18 → ∀ c ∈ wdS.getD w [], c ≠ 32 := by decide +kernel
/-! the class's texts -/
theorem txt_ok : ∀ v, v < 9 → strL.getD v 0 = (strB.getD v []).length ∧ (strB.getD v []).length ≤ 50 ∧ ∀ i, i < (strB.getD v []).length → (((strB.getD v []).getD i 0 &&& (255 : Int32)).toUInt32 % 65536).toInt32 = (strB.getD v []).getD i 0 ∧ 0 ≤ (strB.getD v []).getD i 0 ∧ (strB.getD v []).getD i 0 < 65536 := by decide +kernel
theorem c_charAt {v i : Nat} (h : Hp) (hv : v < 9) (hi : i < (strB.getD v []).length) : f_J0_charAt_5068e h v (nI i) = some ((strB.getD v []).getD i 0) := by
  obtain ⟨hl, h50, hb⟩ := txt_ok v hv
  obtain ⟨s1, s2, s3⟩ := hb i hi
  have e : f_J1_charAt_3b067 h v (nI i) = some ((strB.getD v []).getD i 0) := by
    unfold f_J1_charAt_3b067 f_J0_checkIndex_df160 f_J3_checkIndex_8e157
    rw [if_neg (nI_pos (by omega)), hl, if_pos (nI_lt hi (by omega)), bs, bs, if_pos (in_nI hi (by omega)), nI_clamp (by omega), s1, if_pos ⟨s2, s3⟩]
  unfold f_J0_charAt_5068e f_J0_isLatin1_aae02
  rw [if_neg (by decide), if_pos rfl, bs, if_neg (by decide), e, bs, if_pos ⟨s2, s3⟩]
theorem c_len {v : Nat} (h : Hp) (hv : v < 9) : f_J0_length_8abf5 h v = some (nI (strB.getD v []).length) := by
  unfold f_J0_length_8abf5 f_J0_coder_7d493
  rw [if_neg (by decide), bs, show ((0 : Int32) &&& 31) = 0 by decide, (txt_ok v hv).1]
  show some (nI (strB.getD v []).length >>> 0) = _
  rw [Int32.shiftRight_zero]
def eqk (t : TY) (b : Nat → Int32) (s : Nat) : Nat → Nat → Bool
  | 0, _ => true
  | m + 1, i => decide (t (s + i) = b i) && eqk t b s m (i + 1)
theorem eqk_iff (t : TY) (b : Nat → Int32) (s : Nat) : ∀ m i, eqk t b s m i = true ↔ ∀ j, i ≤ j → j < i + m → t (s + j) = b j := by
  intro m
  induction m with
  | zero => intro i; exact ⟨fun _ j h1 h2 => by omega, fun _ => rfl⟩
  | succ m ih =>
    intro i
    rw [eqk, Bool.and_eq_true, ih, decide_eq_true_iff]
    constructor
    · rintro ⟨h1, h2⟩ j h3 h4
      by_cases e : j = i
      · rw [e]; exact h1
      · exact h2 j (by omega) (by omega)
    · intro H
      exact ⟨H i (by omega) (by omega), fun j h3 h4 => H j (by omega) (by omega)⟩
/-- whether the word w stands at s -/
def wd (t : TY) (n s w : Nat) : Bool := decide (lte t n s - s = wdL w) && eqk t (wdB w) s (wdL w) 0
theorem wd_iff (t : TY) (n s w : Nat) : wd t n s w = true ↔ lte t n s - s = wdL w ∧ ∀ j, j < wdL w → t (s + j) = wdB w j := by
  unfold wd
  rw [Bool.and_eq_true, decide_eq_true_iff, eqk_iff]
  exact ⟨fun h => ⟨h.1, fun j hj => h.2 j (Nat.zero_le j) (by omega)⟩, fun h => ⟨h.1, fun j _ hj => h.2 j (by omega)⟩⟩
theorem DL (v : Int32) (h : isL v = true) : isD v = false := by
  unfold isL at h
  unfold isD
  by_cases c : v < 97
  · rw [if_pos c] at h; cases h
  · have c' : (97 : Int32) ≤ v := Int32.not_lt.mp c
    rw [if_neg (show ¬ v < 48 from fun z => c (Int32.lt_trans z (by decide))), if_pos (Int32.lt_of_lt_of_le (by decide) c')]
theorem kd_w {t : TY} {n s : Nat} (hs : s < n) (l : isL (t s) = true) : kd t n s = 258 := by
  unfold kd
  rw [if_neg (by omega), DL _ l, if_neg (by decide), if_pos l]
theorem bh_w {t : TY} {n s : Nat} (hs : s < n) (l : isL (t s) = true) : bh t n s = lte t n s := by
  unfold bh
  rw [if_neg (by omega), DL _ l, if_neg (by decide), if_pos l]
theorem and_255 : ∀ m, m < 128 → nI m &&& (255 : Int32) = nI m := by decide +kernel
def sg (t : TY) (n s : Nat) : Int32 := if n ≤ s then -1 else t s &&& 255
theorem sg_lt (v : Int32) : ¬ v &&& 255 = 258 ∧ ¬ v &&& 255 = 257 ∧ ¬ v &&& 255 = 256 ∧ ¬ v &&& 255 = -1 ∧ ¬ v &&& 255 = 259 ∧ ¬ v &&& 255 = 260 ∧ ¬ v &&& 255 = 261 := by
  have h : ∀ c : Int32, (c.toBitVec.getLsbD 8 = true) → ¬ v &&& 255 = c := by
    intro c hc z
    have := congrArg (fun x : Int32 => x.toBitVec.getLsbD 8) z
    simp only [Int32.toBitVec_and, BitVec.getLsbD_and] at this
    rw [hc] at this
    have e : (255 : Int32).toBitVec.getLsbD 8 = false := by decide
    rw [e, Bool.and_false] at this
    cases this
  exact ⟨h _ (by decide), h _ (by decide), h _ (by decide), h _ (by decide), h _ (by decide), h _ (by decide), h _ (by decide)⟩
theorem kd_nw {t : TY} {n s : Nat} (l : ¬ (s < n ∧ isL (t s) = true)) : ¬ kd t n s = 258 := by
  unfold kd
  by_cases c : n ≤ s
  · rw [if_pos c]; decide
  · rw [if_neg c]
    by_cases d : isD (t s) = true
    · rw [if_pos d]; decide
    · rw [if_neg d, if_neg (fun z => l ⟨by omega, z⟩)]
      by_cases w : two t n s = true
      · rw [if_pos w]
        by_cases e : t s = 60
        · rw [if_pos e]; decide
        · rw [if_neg e]; decide
      · rw [if_neg w]; exact (sg_lt _).1
theorem wd_no {t : TY} {n s w : Nat} (hw : w < 18) (l : ¬ (s < n ∧ isL (t s) = true)) : wd t n s w = false := by
  rw [Bool.eq_false_iff]
  intro z
  have := ((wd_iff t n s w).mp z).1
  rw [show lte t n s = s from sc_stop l] at this
  have := (str_len w hw).1
  omega
theorem wd_yes {t : TY} {n s w : Nat} (hw : w < 18) (h : wd t n s w = true) : s < n ∧ isL (t s) = true := by
  by_cases l : s < n ∧ isL (t s) = true
  · exact l
  · rw [wd_no hw l] at h; cases h
/-! which of the names of a text the word is -/
def wOk (t : TY) (e : Nat) (c : Int32) : Option Nat → Option Nat
  | none => none
  | some p => if p < e ∧ t p = c then some (p + 1) else none
def wAm (t : TY) (e s : Nat) : List Int32 → Nat → Option Nat → Int32
  | [], k, o => if o = some e then nI k else -1
  | c :: r, k, o => if c = 32 then (if o = some e then nI k else wAm t e s r (k + 1) (some s)) else wAm t e s r k (wOk t e c o)
def wSc (t : TY) (e : Nat) : List Int32 → Option Nat → Option Nat
  | [], o => o
  | c :: r, o => wSc t e r (wOk t e c o)
theorem wAm_w (t : TY) (e s : Nat) : ∀ (w r : List Int32) (k : Nat) (o : Option Nat), (∀ c ∈ w, c ≠ 32) → wAm t e s (w ++ r) k o = wAm t e s r k (wSc t e w o) := by
  intro w
  induction w with
  | nil => intro r k o _; rfl
  | cons c w ih =>
    intro r k o hc
    rw [List.cons_append, wAm, if_neg (hc c List.mem_cons_self), ih r k _ (fun d hd => hc d (List.mem_cons_of_mem _ hd)), wSc]
theorem wSc_n (t : TY) (e : Nat) : ∀ w, wSc t e w none = none := by
  intro w
  induction w with
  | nil => rfl
  | cons c w ih => exact ih
theorem wSc_iff (t : TY) (e : Nat) : ∀ (w : List Int32) (p : Nat), wSc t e w (some p) = some e ↔ e = p + w.length ∧ ∀ j, j < w.length → t (p + j) = w.getD j 0 := by
  intro w
  induction w with
  | nil =>
    intro p
    constructor
    · intro z
      have z' : p = e := Option.some.inj z
      exact ⟨by rw [z']; rfl, fun j hj => absurd hj (Nat.not_lt_zero j)⟩
    · rintro ⟨z, -⟩
      have z' : e = p := z
      rw [z']; rfl
  | cons c w ih =>
    intro p
    rw [wSc, wOk]
    by_cases q : p < e ∧ t p = c
    · rw [if_pos q, ih]
      constructor
      · rintro ⟨a, b⟩
        refine ⟨by rw [List.length_cons]; omega, fun j hj => ?_⟩
        cases j with
        | zero => exact q.2
        | succ j =>
          have := b j (by rw [List.length_cons] at hj; omega)
          rw [show p + (j + 1) = p + 1 + j by omega, this]
          rfl
      · rintro ⟨a, b⟩
        rw [List.length_cons] at a
        refine ⟨by omega, fun j hj => ?_⟩
        have := b (j + 1) (by rw [List.length_cons]; omega)
        rw [show p + 1 + j = p + (j + 1) by omega, this]
        rfl
    · rw [if_neg q, wSc_n]
      constructor
      · intro z; cases z
      · rintro ⟨a, b⟩
        rw [List.length_cons] at a
        exact absurd ⟨by omega, b 0 (by rw [List.length_cons]; omega)⟩ q
theorem wd_sc {t : TY} {n s : Nat} (w : Nat) : wSc t (lte t n s) (wdS.getD w []) (some s) = some (lte t n s) ↔ wd t n s w = true := by
  have hge : s ≤ lte t n s := sc_ge _ _ _
  rw [wSc_iff, wd_iff]
  show lte t n s = s + wdL w ∧ (∀ j, j < wdL w → t (s + j) = wdB w j) ↔ _
  exact ⟨fun z => ⟨by omega, z.2⟩, fun z => ⟨by omega, z.2⟩⟩
theorem wAm_s {t : TY} {n s k w : Nat} {r : List Int32} (hw : w < 18) : wAm t (lte t n s) s (wdS.getD w [] ++ 32 :: r) k (some s) = if wd t n s w = true then nI k else wAm t (lte t n s) s r (k + 1) (some s) := by
  rw [wAm_w _ _ _ _ _ _ _ (str_nb w hw), wAm, if_pos rfl]
  by_cases c : wd t n s w = true
  · rw [if_pos c, if_pos ((wd_sc w).mpr c)]
  · rw [if_neg c, if_neg (fun z => c ((wd_sc w).mp z))]
theorem wAm_e {t : TY} {n s k w : Nat} (hw : w < 18) : wAm t (lte t n s) s (wdS.getD w []) k (some s) = if wd t n s w = true then nI k else -1 := by
  rw [show wdS.getD w [] = wdS.getD w [] ++ [] from (List.append_nil _).symm, wAm_w _ _ _ _ _ _ _ (str_nb w hw), wAm]
  by_cases c : wd t n s w = true
  · rw [if_pos c, if_pos ((wd_sc w).mpr c)]
  · rw [if_neg c, if_neg (fun z => c ((wd_sc w).mp z))]
theorem wd_names (t : TY) (n s : Nat) : wAm t (lte t n s) s (strB.getD 6 []) 0 (some s) = if wd t n s 6 = true then 0 else if wd t n s 7 = true then 1 else if wd t n s 8 = true then 2 else if wd t n s 9 = true then 3 else if wd t n s 10 = true then 4 else if wd t n s 11 = true then 5 else if wd t n s 12 = true then 6 else if wd t n s 13 = true then 7 else if wd t n s 14 = true then 8 else if wd t n s 15 = true then 9 else -1 := by
  have e : strB.getD 6 [] = wdS.getD 6 [] ++ 32 :: (wdS.getD 7 [] ++ 32 :: (wdS.getD 8 [] ++ 32 :: (wdS.getD 9 [] ++ 32 :: (wdS.getD 10 [] ++ 32 :: (wdS.getD 11 [] ++ 32 :: (wdS.getD 12 [] ++ 32 :: (wdS.getD 13 [] ++ 32 :: (wdS.getD 14 [] ++ 32 :: wdS.getD 15 [])))))))) := by decide +kernel
  rw [e, wAm_s (by decide), wAm_s (by decide), wAm_s (by decide), wAm_s (by decide), wAm_s (by decide), wAm_s (by decide), wAm_s (by decide), wAm_s (by decide), wAm_s (by decide), wAm_e (by decide)]
  rfl
theorem oI_eq {e : Nat} {o : Option Nat} (he : e ≤ 400) (ho : ∀ p, o = some p → p ≤ e) : oI o = nI e ↔ o = some e := by
  cases o with
  | none =>
    constructor
    · intro z
      have : (0 : Int32) ≤ -1 := by rw [show (-1 : Int32) = nI e from z]; exact nI_pos' (by omega)
      exact absurd this (by decide)
    · intro z; cases z
  | some p =>
    have hp := ho p rfl
    constructor
    · intro z; rw [(nI_eq (by omega) (by omega)).mp (show nI p = nI e from z)]
    · intro z; rw [Option.some.inj z]; rfl
theorem drop_c : ∀ (l : List Int32) (i : Nat), i < l.length → l.drop i = l.getD i 0 :: l.drop (i + 1)
  | [], i, h => absurd h (Nat.not_lt_zero i)
  | _ :: _, 0, _ => rfl
  | _ :: l, i + 1, h => drop_c l i (Nat.lt_of_succ_lt_succ h)
theorem c_am_l {N n s v : Nat} {t : TY} {h : Hp} (hv : v < 9) (T : TC t n h s) (l : s < n ∧ isL (t s) = true) : ∀ (m i k f : Nat) (o : Option Nat), i + m = (strB.getD v []).length → m + 1 < f → (∀ p, o = some p → p ≤ lte t n s) → f_X6_wordAmong_10 N f h 1 v (nI k) (oI o) (nI i) = some (wAm t (lte t n s) s ((strB.getD v []).drop i) k o) := by
  obtain ⟨H, e2, e1, hn, hs, e6, ek, e4, e5, e3, _⟩ := T
  have hle : lte t n s ≤ n := sc_le hs
  have hge : s ≤ lte t n s := sc_ge _ _ _
  have b5 : hI h 1 5 = nI (lte t n s) := by rw [e5, bh_w l.1 l.2]
  have ek' : hI h 1 2 = 258 := by rw [ek, kd_w l.1 l.2]
  have h50 := (txt_ok v hv).2.1
  have n1 : ¬ (1 : Int32) = 0 := by decide
  intro m
  induction m with
  | zero =>
    intro i k f o hi hf ho
    obtain ⟨f, rfl⟩ : ∃ j, f = j + 1 + 1 := ⟨f - 2, by omega⟩
    have hi' : i = (strB.getD v []).length := by omega
    have last : f_X6_wordAmong_10 N (f + 1) h 1 v (nI k + 1) (nI s) (nI i + 1) = some (-1) := by
      rw [f_X6_wordAmong_10, c_len h hv, bs, nI_1, nI_1, if_pos (nI_lt (by omega) (by omega))]
    rw [f_X6_wordAmong_10, c_len h hv, bs, if_neg (Int32.not_lt.mpr (nI_le (by omega) (by omega))), ek', if_pos rfl, bs, if_pos (by rw [hi'])]
    unfold f_X6_wordAmong_49 f_X6_wordAmong_54
    rw [if_neg n1, b5]
    unfold f_X6_wordAmong_71 f_X6_wordAmong_129
    rw [if_neg n1, e4, last, hi', List.drop_length, wAm]
    by_cases c : o = some (lte t n s)
    · rw [if_pos c, if_pos ((oI_eq (by omega) ho).mpr c)]
    · rw [if_neg c, if_neg (fun z => c ((oI_eq (by omega) ho).mp z))]
  | succ m ih =>
    intro i k f o hi hf ho
    obtain ⟨f, rfl⟩ : ∃ j, f = j + 1 := ⟨f - 1, by omega⟩
    have hil : i < (strB.getD v []).length := by omega
    have ed : (strB.getD v []).drop i = (strB.getD v []).getD i 0 :: (strB.getD v []).drop (i + 1) := drop_c _ i hil
    rw [f_X6_wordAmong_10, c_len h hv, bs, if_neg (Int32.not_lt.mpr (nI_le (by omega) (by omega))), ek', if_pos rfl, bs, if_neg (fun z => absurd ((nI_eq (by omega) (by omega)).mp z) (by omega)), c_charAt h hv hil, bs, ed, wAm]
    by_cases c : (strB.getD v []).getD i 0 = 32
    · rw [if_pos c, if_pos c]
      unfold f_X6_wordAmong_49 f_X6_wordAmong_54
      rw [if_neg n1, b5]
      unfold f_X6_wordAmong_71 f_X6_wordAmong_129
      rw [if_neg n1, e4, nI_1, nI_1]
      by_cases c' : o = some (lte t n s)
      · rw [if_pos c', if_pos ((oI_eq (by omega) ho).mpr c')]
      · rw [if_neg c', if_neg (fun z => c' ((oI_eq (by omega) ho).mp z))]
        exact ih (i + 1) (k + 1) f (some s) (by omega) (by omega) (fun p hp => by rw [← Option.some.inj hp]; exact hge)
    · rw [if_neg c, if_neg c]
      unfold f_X6_wordAmong_54
      rw [if_pos rfl]
      have no : f_X6_wordAmong_127 N (f_X6_wordAmong_10 N f) h 1 v (nI k) (nI i) = some (wAm t (lte t n s) s ((strB.getD v []).drop (i + 1)) k none) := by
        unfold f_X6_wordAmong_127 f_X6_wordAmong_129
        rw [nI_1]
        exact ih (i + 1) k f none (by omega) (by omega) (fun p hp => by cases hp)
      unfold f_X6_wordAmong_71
      rw [if_pos rfl]
      cases o with
      | none =>
        rw [if_pos (show oI none < 0 by decide)]
        exact no
      | some p =>
        have hp := ho p rfl
        rw [show oI (some p) = nI p from rfl, if_neg (nI_pos (by omega)), b5]
        by_cases q : p < lte t n s
        · rw [if_neg (nI_ge q (by omega)), show (400 : Int32) = nI 400 from rfl, if_neg (nI_ge (by omega) (by omega)), pp_1_0 H, bs, ll_2 H, if_pos (in_nI (by omega) (by omega)), c_charAt h hv hil, bs, nI_clamp (by omega), e2, wOk]
          by_cases q2 : t p = (strB.getD v []).getD i 0
          · rw [if_pos q2, if_pos ⟨q, q2⟩]
            unfold f_X6_wordAmong_129
            rw [nI_1, nI_1]
            exact ih (i + 1) k f (some (p + 1)) (by omega) (by omega) (fun p' hp' => by rw [← Option.some.inj hp']; exact q)
          · rw [if_neg q2, if_neg (fun z => q2 z.2)]
            exact no
        · rw [if_pos (nI_le (by omega) (by omega)), wOk, if_neg (fun z => q z.1)]
          exact no
theorem c_among {N n s v : Nat} {t : TY} {h : Hp} (hN : 5000 ≤ N) (hv : v < 9) (T : TC t n h s) : f_X6_wordAmong N h 1 v = some (if s < n ∧ isL (t s) = true then wAm t (lte t n s) s (strB.getD v []) 0 (some s) else -1) := by
  have h50 := (txt_ok v hv).2.1
  have hge : s ≤ lte t n s := sc_ge _ _ _
  by_cases l : s < n ∧ isL (t s) = true
  · have := c_am_l (N := N) hv T l (strB.getD v []).length 0 0 N (some s) (by omega) (by omega) (fun p hp => by rw [← Option.some.inj hp]; exact hge)
    rw [List.drop_zero] at this
    rw [if_pos l, ← this]
    unfold f_X6_wordAmong
    rw [T.2.2.2.2.2.2.2.1]
    rfl
  · obtain ⟨N, rfl⟩ : ∃ j, N = j + 1 := ⟨N - 1, by omega⟩
    unfold f_X6_wordAmong
    rw [if_neg l, f_X6_wordAmong_10, c_len h hv, bs, if_neg (Int32.not_lt.mpr (nI_pos' (by omega))), T.2.2.2.2.2.2.1, if_neg (kd_nw l)]
theorem f_among {N v : Nat} {h : Hp} {f : Int32} (hN : 5000 ≤ N) (hv : v < 9) (T : TF h f) : f_X6_wordAmong N h 1 v = some (-1) := by
  have h50 := (txt_ok v hv).2.1
  obtain ⟨N, rfl⟩ : ∃ j, N = j + 1 := ⟨N - 1, by omega⟩
  unfold f_X6_wordAmong
  rw [f_X6_wordAmong_10, c_len h hv, bs, if_neg (Int32.not_lt.mpr (nI_pos' (by omega))), T.2.2.2, if_neg (by decide)]
theorem f_word {N v : Nat} {h : Hp} {f : Int32} (hN : 5000 ≤ N) (hv : v < 9) (T : TF h f) : f_X6_isWord N h 1 v = some 0 := by
  unfold f_X6_isWord
  rw [f_among hN hv T, bs, if_neg (by decide)]
theorem c_word {N n s v w : Nat} {t : TY} {h : Hp} (hN : 5000 ≤ N) (hv : v < 9) (hw : w < 18) (e : strB.getD v [] = wdS.getD w []) (T : TC t n h s) : f_X6_isWord N h 1 v = some (b2i (wd t n s w)) := by
  unfold f_X6_isWord
  rw [c_among hN hv T, bs, e, wAm_e hw]
  by_cases l : s < n ∧ isL (t s) = true
  · rw [if_pos l]
    by_cases c : wd t n s w = true
    · rw [if_pos c, if_pos (show nI 0 = 0 from rfl), c]; rfl
    · rw [if_neg c, if_neg (by decide), Bool.eq_false_iff.mpr c]; rfl
  · rw [if_neg l, if_neg (by decide), wd_no hw l]; rfl
theorem wd_old : ∀ w, w < 6 → strB.getD w [] = wdS.getD w [] := by decide +kernel
/-! the reference's words, as numbers -/
def wkN (f : Nat → Nat) : Nat → Nat
  | 0 => 0
  | k + 1 => 256 * wkN f k + f k
theorem wkN_lt {f : Nat → Nat} (hf : ∀ i, f i < 256) : ∀ k, wkN f k < 256 ^ k := by
  intro k
  induction k with
  | zero => exact Nat.one_pos
  | succ k ih =>
    rw [wkN, Nat.pow_succ]
    have := hf k
    omega
theorem wkN_inj {f g : Nat → Nat} : ∀ k m, (∀ i, i < k → 1 ≤ f i ∧ f i < 256) → (∀ i, i < m → 1 ≤ g i ∧ g i < 256) → wkN f k = wkN g m → k = m ∧ ∀ i, i < k → f i = g i := by
  intro k
  induction k with
  | zero =>
    intro m hf hg h
    cases m with
    | zero => exact ⟨rfl, fun i hi => by omega⟩
    | succ m =>
      rw [wkN, wkN] at h
      have := hg m (by omega)
      omega
  | succ k ih =>
    intro m hf hg h
    cases m with
    | zero =>
      rw [wkN, wkN] at h
      have := hf k (by omega)
      omega
    | succ m =>
      rw [wkN, wkN] at h
      have h1 := hf k (by omega)
      have h2 := hg m (by omega)
      obtain ⟨i1, i2⟩ := ih m (fun i hi => hf i (by omega)) (fun i hi => hg i (by omega)) (by omega)
      subst i1
      refine ⟨rfl, fun i hi => ?_⟩
      by_cases e : i = k
      · rw [e]; omega
      · exact i2 i (by omega)
theorem wkN_congr {f g : Nat → Nat} : ∀ k, (∀ i, i < k → f i = g i) → wkN f k = wkN g k := by
  intro k
  induction k with
  | zero => intro _; rfl
  | succ k ih => intro h; rw [wkN, wkN, ih (fun i hi => h i (by omega)), h k (by omega)]
def cw (w : Nat) : Int64 := lN (wkN (fun i => (wdB w i).toNatClampNeg) (wdL w))
theorem lN_put {a b : Nat} (hb : b < 256) : (lN a <<< ((8 : Int32).toInt64 &&& 63)) ||| (nI b).toInt64 = lN (256 * a + b) := by
  rw [lN_shl (d := 8) (by decide), nI_l (by omega), orL, Nat.or_comm, orS a (show b < 2 ^ 8 by omega)]
  congr 1
  omega
theorem lN_inj {a b : Nat} (ha : a < 2 ^ 63) (hb : b < 2 ^ 63) (h : lN a = lN b) : a = b := by
  have := congrArg (fun x : Int64 => x.toBitVec.toNat) h
  have e : ∀ x, x < 2 ^ 63 → (lN x).toBitVec.toNat = x := fun x hx => by
    show (BitVec.ofNat 64 x).toNat = x
    rw [BitVec.toNat_ofNat, Nat.mod_eq_of_lt (by omega)]
  simp only [e a ha, e b hb] at this
  exact this
