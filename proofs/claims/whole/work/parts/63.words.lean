/-! ===== texts: words ===== -/
def wdL (w : Nat) : Nat := strL.getD w 0
def wdB (w i : Nat) : Int32 := (strB.getD w []).getD i 0
theorem str_ok : ∀ w, w < 18 → ∀ i, i < wdL w → ((wdB w i &&& (255 : Int32)).toUInt32 % 65536).toInt32 = wdB w i ∧ 0 ≤ wdB w i ∧ wdB w i < 65536 ∧ 97 ≤ (wdB w i).toNatClampNeg ∧ (wdB w i).toNatClampNeg ≤ 122 ∧ wdB w i = nI (wdB w i).toNatClampNeg := by decide +kernel
theorem str_len : ∀ w, w < 18 → 2 ≤ wdL w ∧ wdL w ≤ 6 := by decide +kernel
theorem c_charAt {w i : Nat} (h : Hp) (hw : w < 18) (hi : i < wdL w) : f_J0_charAt_5068e h w (nI i) = some (wdB w i) := by
  obtain ⟨s1, s2, s3, _⟩ := str_ok w hw i hi
  have hl := (str_len w hw).2
  have e : f_J1_charAt_3b067 h w (nI i) = some (wdB w i) := by
    unfold f_J1_charAt_3b067 f_J0_checkIndex_df160 f_J3_checkIndex_8e157
    rw [if_neg (nI_pos (by omega)), if_pos (show nI i < nI (strL.getD w 0) from nI_lt hi (by show wdL w < _; omega)), bs, bs, if_pos (show 0 ≤ nI i ∧ (nI i).toNatClampNeg < strL.getD w 0 from in_nI hi (by omega)), nI_clamp (by omega), show (strB.getD w []).getD i 0 = wdB w i from rfl, s1, if_pos ⟨s2, s3⟩]
  unfold f_J0_charAt_5068e f_J0_isLatin1_aae02
  rw [if_neg (by decide), if_pos rfl, bs, if_neg (by decide), e, bs, if_pos ⟨s2, s3⟩]
theorem c_len (h : Hp) (w : Nat) : f_J0_length_8abf5 h w = some (nI (wdL w)) := by
  unfold f_J0_length_8abf5 f_J0_coder_7d493
  rw [if_neg (by decide), bs, show ((0 : Int32) &&& 31) = 0 by decide]
  show some (nI (wdL w) >>> 0) = _
  rw [Int32.shiftRight_zero]
def eqk (t : TY) (b : Nat → Int32) (s : Nat) : Nat → Nat → Bool
  | 0, _ => true
  | m + 1, i => decide (t (s + i) = b i) && eqk t b s m (i + 1)
theorem eqk_iff (t : TY) (b : Nat → Int32) (s : Nat) : ∀ m i, eqk t b s m i = true ↔ ∀ j, i ≤ j → j < i + m → t (s + j) = b j := by
  intro m
  induction m with
  | zero => intro i; exact ⟨fun _ j h1 h2 => by omega, fun _ => rfl⟩
  | succ m ih =>
    intro i
    rw [eqk, Bool.and_eq_true, ih, decide_eq_true_iff]
    constructor
    · rintro ⟨h1, h2⟩ j h3 h4
      by_cases e : j = i
      · rw [e]; exact h1
      · exact h2 j (by omega) (by omega)
    · intro H
      exact ⟨H i (by omega) (by omega), fun j h3 h4 => H j (by omega) (by omega)⟩
/-- whether the word w stands at s -/
def wd (t : TY) (n s w : Nat) : Bool := decide (lte t n s - s = wdL w) && eqk t (wdB w) s (wdL w) 0
theorem wd_iff (t : TY) (n s w : Nat) : wd t n s w = true ↔ lte t n s - s = wdL w ∧ ∀ j, j < wdL w → t (s + j) = wdB w j := by
  unfold wd
  rw [Bool.and_eq_true, decide_eq_true_iff, eqk_iff]
  exact ⟨fun h => ⟨h.1, fun j hj => h.2 j (Nat.zero_le j) (by omega)⟩, fun h => ⟨h.1, fun j _ hj => h.2 j (by omega)⟩⟩
theorem DL (v : Int32) (h : isL v = true) : isD v = false := by
  unfold isL at h
  unfold isD
  by_cases c : v < 97
  · rw [if_pos c] at h; cases h
  · have c' : (97 : Int32) ≤ v := Int32.not_lt.mp c
    rw [if_neg (show ¬ v < 48 from fun z => c (Int32.lt_trans z (by decide))), if_pos (Int32.lt_of_lt_of_le (by decide) c')]
theorem kd_w {t : TY} {n s : Nat} (hs : s < n) (l : isL (t s) = true) : kd t n s = 258 := by
  unfold kd
  rw [if_neg (by omega), DL _ l, if_neg (by decide), if_pos l]
theorem bh_w {t : TY} {n s : Nat} (hs : s < n) (l : isL (t s) = true) : bh t n s = lte t n s := by
  unfold bh
  rw [if_neg (by omega), DL _ l, if_neg (by decide), if_pos l]
theorem and_255 : ∀ m, m < 128 → nI m &&& (255 : Int32) = nI m := by decide +kernel
def sg (t : TY) (n s : Nat) : Int32 := if n ≤ s then -1 else t s &&& 255
theorem sg_lt (v : Int32) : ¬ v &&& 255 = 258 ∧ ¬ v &&& 255 = 257 ∧ ¬ v &&& 255 = 256 ∧ ¬ v &&& 255 = -1 ∧ ¬ v &&& 255 = 259 ∧ ¬ v &&& 255 = 260 ∧ ¬ v &&& 255 = 261 := by
  have h : ∀ c : Int32, (c.toBitVec.getLsbD 8 = true) → ¬ v &&& 255 = c := by
    intro c hc z
    have := congrArg (fun x : Int32 => x.toBitVec.getLsbD 8) z
    simp only [Int32.toBitVec_and, BitVec.getLsbD_and] at this
    rw [hc] at this
    have e : (255 : Int32).toBitVec.getLsbD 8 = false := by decide
    rw [e, Bool.and_false] at this
    cases this
  exact ⟨h _ (by decide), h _ (by decide), h _ (by decide), h _ (by decide), h _ (by decide), h _ (by decide), h _ (by decide)⟩
theorem kd_nw {t : TY} {n s : Nat} (l : ¬ (s < n ∧ isL (t s) = true)) : ¬ kd t n s = 258 := by
  unfold kd
  by_cases c : n ≤ s
  · rw [if_pos c]; decide
  · rw [if_neg c]
    by_cases d : isD (t s) = true
    · rw [if_pos d]; decide
    · rw [if_neg d, if_neg (fun z => l ⟨by omega, z⟩)]
      by_cases w : two t n s = true
      · rw [if_pos w]
        by_cases e : t s = 60
        · rw [if_pos e]; decide
        · rw [if_neg e]; decide
      · rw [if_neg w]; exact (sg_lt _).1
theorem wd_no {t : TY} {n s w : Nat} (hw : w < 18) (l : ¬ (s < n ∧ isL (t s) = true)) : wd t n s w = false := by
  rw [Bool.eq_false_iff]
  intro z
  have := ((wd_iff t n s w).mp z).1
  rw [show lte t n s = s from sc_stop l] at this
  have := (str_len w hw).1
  omega
theorem wd_yes {t : TY} {n s w : Nat} (hw : w < 18) (h : wd t n s w = true) : s < n ∧ isL (t s) = true := by
  by_cases l : s < n ∧ isL (t s) = true
  · exact l
  · rw [wd_no hw l] at h; cases h
theorem c_word_l {N n s w : Nat} {t : TY} {h : Hp} (hw : w < 18) (T : TC t n h s) (hl : lte t n s = s + wdL w) (b5 : hI h 1 5 = nI (lte t n s)) : ∀ (m i k : Nat), i + m = wdL w → m < k → f_X6_isWord_33 N k h 1 w (nI (s + i)) = some (b2i (eqk t (wdB w) s m i)) := by
  obtain ⟨H, e2, e1, hn, hs, e6, ek, e4, e5, e3, _⟩ := T
  have hle : lte t n s ≤ n := sc_le hs
  intro m
  induction m with
  | zero =>
    intro i k hi hk
    obtain ⟨k, rfl⟩ : ∃ j, k = j + 1 := ⟨k - 1, by omega⟩
    rw [f_X6_isWord_33, b5, if_pos (nI_le (by omega) (by omega))]
    rfl
  | succ m ih =>
    intro i k hi hk
    obtain ⟨k, rfl⟩ : ∃ j, k = j + 1 := ⟨k - 1, by omega⟩
    rw [f_X6_isWord_33, b5, if_neg (nI_ge (by omega) (by omega)), show (400 : Int32) = nI 400 from rfl, if_neg (nI_ge (by omega) (by omega)), pp_1_0 H, bs, ll_2 H, if_inI (by omega) (by omega), nI_clamp (by omega), e4, pk_sub (by omega), show s + i - s = i by omega, c_charAt h hw (by omega), bs, e2, eqk]
    by_cases c : t (s + i) = wdB w i
    · rw [if_pos c, decide_eq_true c, nI_1, Nat.add_assoc, ih (i + 1) k (by omega) (by omega)]
      rfl
    · rw [if_neg c, decide_eq_false c]
      rfl
theorem c_word {N n s w : Nat} {t : TY} {h : Hp} (hN : 5000 ≤ N) (hw : w < 18) (T : TC t n h s) : f_X6_isWord N h 1 w = some (b2i (wd t n s w)) := by
  have T' := T
  obtain ⟨H, e2, e1, hn, hs, e6, ek, e4, e5, e3, _⟩ := T
  unfold f_X6_isWord
  rw [ek]
  have hle : lte t n s ≤ n := sc_le hs
  have hge : s ≤ lte t n s := sc_ge _ _ _
  by_cases l : s < n ∧ isL (t s) = true
  · have b5 : hI h 1 5 = nI (lte t n s) := by rw [e5, bh_w l.1 l.2]
    have h6 := (str_len w hw).2
    rw [kd_w l.1 l.2, if_pos rfl, c_len, bs, b5, e4, pk_sub (by omega)]
    by_cases c : lte t n s - s = wdL w
    · rw [c, if_pos rfl]
      have := c_word_l (N := N) hw T' (by omega) b5 (wdL w) 0 N (by omega) (by omega)
      rw [Nat.add_zero] at this
      rw [this]
      unfold wd
      rw [decide_eq_true c]
      rfl
    · rw [if_neg (fun z => c ((nI_eq (by omega) (by omega)).mp z))]
      unfold wd
      rw [decide_eq_false c]
      rfl
  · rw [if_neg (kd_nw l), wd_no hw l]
    rfl
/-! the reference's words, as numbers -/
def wkN (f : Nat → Nat) : Nat → Nat
  | 0 => 0
  | k + 1 => 256 * wkN f k + f k
theorem wkN_lt {f : Nat → Nat} (hf : ∀ i, f i < 256) : ∀ k, wkN f k < 256 ^ k := by
  intro k
  induction k with
  | zero => exact Nat.one_pos
  | succ k ih =>
    rw [wkN, Nat.pow_succ]
    have := hf k
    omega
theorem wkN_inj {f g : Nat → Nat} : ∀ k m, (∀ i, i < k → 1 ≤ f i ∧ f i < 256) → (∀ i, i < m → 1 ≤ g i ∧ g i < 256) → wkN f k = wkN g m → k = m ∧ ∀ i, i < k → f i = g i := by
  intro k
  induction k with
  | zero =>
    intro m hf hg h
    cases m with
    | zero => exact ⟨rfl, fun i hi => by omega⟩
    | succ m =>
      rw [wkN, wkN] at h
      have := hg m (by omega)
      omega
  | succ k ih =>
    intro m hf hg h
    cases m with
    | zero =>
      rw [wkN, wkN] at h
      have := hf k (by omega)
      omega
    | succ m =>
      rw [wkN, wkN] at h
      have h1 := hf k (by omega)
      have h2 := hg m (by omega)
      obtain ⟨i1, i2⟩ := ih m (fun i hi => hf i (by omega)) (fun i hi => hg i (by omega)) (by omega)
      subst i1
      refine ⟨rfl, fun i hi => ?_⟩
      by_cases e : i = k
      · rw [e]; omega
      · exact i2 i (by omega)
theorem wkN_congr {f g : Nat → Nat} : ∀ k, (∀ i, i < k → f i = g i) → wkN f k = wkN g k := by
  intro k
  induction k with
  | zero => intro _; rfl
  | succ k ih => intro h; rw [wkN, wkN, ih (fun i hi => h i (by omega)), h k (by omega)]
def cw (w : Nat) : Int64 := lN (wkN (fun i => (wdB w i).toNatClampNeg) (wdL w))
theorem lN_put {a b : Nat} (hb : b < 256) : (lN a <<< ((8 : Int32).toInt64 &&& 63)) ||| (nI b).toInt64 = lN (256 * a + b) := by
  rw [lN_shl (d := 8) (by decide), nI_l (by omega), orL, Nat.or_comm, orS a (show b < 2 ^ 8 by omega)]
  congr 1
  omega
theorem lN_inj {a b : Nat} (ha : a < 2 ^ 63) (hb : b < 2 ^ 63) (h : lN a = lN b) : a = b := by
  have := congrArg (fun x : Int64 => x.toBitVec.toNat) h
  have e : ∀ x, x < 2 ^ 63 → (lN x).toBitVec.toNat = x := fun x hx => by
    show (BitVec.ofNat 64 x).toNat = x
    rw [BitVec.toNat_ofNat, Nat.mod_eq_of_lt (by omega)]
  simp only [e a ha, e b hb] at this
  exact this
