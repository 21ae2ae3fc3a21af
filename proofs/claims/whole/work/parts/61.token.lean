/-! ===== texts: what both see on the tape ===== -/
def scn (c : Nat → Bool) (n : Nat) : Nat → Nat → Nat
  | 0, p => p
  | m + 1, p => if p < n ∧ c p = true then scn c n m (p + 1) else p
def sc (c : Nat → Bool) (n p : Nat) : Nat := scn c n (n - p) p
theorem sc_step {c : Nat → Bool} {n p : Nat} (h : p < n) (hc : c p = true) : sc c n p = sc c n (p + 1) := by
  unfold sc
  rw [show n - p = (n - (p + 1)) + 1 by omega, scn, if_pos ⟨h, hc⟩]
theorem sc_stop {c : Nat → Bool} {n p : Nat} (h : ¬ (p < n ∧ c p = true)) : sc c n p = p := by
  unfold sc
  cases e : n - p with
  | zero => rfl
  | succ m => rw [scn, if_neg h]
theorem scn_ge (c : Nat → Bool) (n : Nat) : ∀ m p, p ≤ scn c n m p := by
  intro m
  induction m with
  | zero => intro p; exact Nat.le_refl _
  | succ m ih =>
    intro p
    rw [scn]
    by_cases h : p < n ∧ c p = true
    · rw [if_pos h]; have := ih (p + 1); omega
    · rw [if_neg h]; exact Nat.le_refl _
theorem sc_ge (c : Nat → Bool) (n p : Nat) : p ≤ sc c n p := scn_ge c n _ p
theorem sc_all (c : Nat → Bool) (n : Nat) : ∀ m p, n - p ≤ m → p ≤ n → sc c n p ≤ n ∧ ¬ (sc c n p < n ∧ c (sc c n p) = true) ∧ ∀ i, p ≤ i → i < sc c n p → c i = true := by
  intro m
  induction m with
  | zero =>
    intro p h1 h2
    have e : sc c n p = p := sc_stop (by omega)
    rw [e]
    exact ⟨h2, by omega, fun i h3 h4 => by omega⟩
  | succ m ih =>
    intro p h1 h2
    by_cases h : p < n ∧ c p = true
    · rw [sc_step h.1 h.2]
      obtain ⟨i1, i2, i3⟩ := ih (p + 1) (by omega) (by omega)
      refine ⟨i1, i2, fun i h3 h4 => ?_⟩
      by_cases e : i = p
      · rw [e]; exact h.2
      · exact i3 i (by omega) h4
    · rw [sc_stop h]
      exact ⟨h2, h, fun i h3 h4 => by omega⟩
theorem sc_le {c : Nat → Bool} {n p : Nat} (h : p ≤ n) : sc c n p ≤ n := (sc_all c n _ p (Nat.le_refl _) h).1
theorem sc_end {c : Nat → Bool} {n p : Nat} (h : p ≤ n) : ¬ (sc c n p < n ∧ c (sc c n p) = true) := (sc_all c n _ p (Nat.le_refl _) h).2.1
theorem sc_in {c : Nat → Bool} {n p i : Nat} (h : p ≤ n) (h1 : p ≤ i) (h2 : i < sc c n p) : c i = true := (sc_all c n _ p (Nat.le_refl _) h).2.2 i h1 h2
theorem sc_fix {c : Nat → Bool} {n p : Nat} (h : p ≤ n) : sc c n (sc c n p) = sc c n p := sc_stop (sc_end h)
/-- inside a stretch the scan comes to the same end -/
theorem sc_mid {c : Nat → Bool} {n p : Nat} (h : p ≤ n) : ∀ d, p + d ≤ sc c n p → sc c n (p + d) = sc c n p := by
  intro d
  induction d with
  | zero => intro _; rfl
  | succ d ih =>
    intro hd
    have e := ih (by omega)
    have hc : c (p + d) = true := sc_in h (c := c) (by omega) (by omega)
    have hl := sc_le (c := c) h
    rw [← e, sc_step (p := p + d) (by omega) hc]
    rfl
def isD (v : Int32) : Bool := if v < 48 then false else if 57 < v then false else true
def isL (v : Int32) : Bool := if v < 97 then false else if 122 < v then false else true
abbrev TY : Type := Nat → Int32
def skp (t : TY) (n p : Nat) : Nat := sc (fun i => decide (t i = 32)) n p
def dge (t : TY) (n p : Nat) : Nat := sc (fun i => isD (t i)) n p
def lte (t : TY) (n p : Nat) : Nat := sc (fun i => isL (t i)) n p
/-- whether a sign of two stands here -/
def two (t : TY) (n s : Nat) : Bool := decide (s + 1 < n) && decide (t (s + 1) = 61) && (decide (t s = 60) || decide (t s = 62))
def bh (t : TY) (n s : Nat) : Nat := if n ≤ s then s else if isD (t s) then dge t n s else if isL (t s) then lte t n s else if two t n s then s + 2 else s + 1
def kd (t : TY) (n s : Nat) : Int32 := if n ≤ s then 256 else if isD (t s) then 257 else if isL (t s) then 258 else if two t n s then (if t s = 60 then 259 else 260) else t s &&& 255
def nv (t : TY) (s : Nat) : Nat → Int32
  | 0 => 0
  | k + 1 => nv t s k * 10 + t (s + k) - 48
def nm (t : TY) (s e : Nat) : Int32 := if e - s ≤ 5 then nv t s (e - s) else -1
def inR (a b v : Int32) : Bool := if v < a then false else if b < v then false else true
theorem inR_D (t : TY) : (fun i => inR 48 57 (t i)) = (fun i => isD (t i)) := rfl
theorem inR_L (t : TY) : (fun i => inR 97 122 (t i)) = (fun i => isL (t i)) := rfl
theorem m_isD {h : Hp} {t : TY} {n p : Nat} (H : SHP h) (e1 : hI h 51 1 = nI n) (hn : n ≤ 400) (e2 : ∀ i, i < n → hI h 52 i = t i) (hp : p ≤ n) : f_X8_isDigit h 51 (nI p) = some (b2i (decide (p < n) && isD (t p))) := by
  unfold f_X8_isDigit
  rw [e1]
  by_cases c : n ≤ p
  · rw [if_pos (nI_le c (by omega)), decide_eq_false (by omega)]; rfl
  · rw [if_neg (nI_ge (by omega) (by omega)), pp_51_0 H, bs, ll_52 H, if_inI (by omega) (by omega), nI_clamp (by omega), e2 p (by omega), decide_eq_true (show p < n by omega)]
    unfold isD
    by_cases h1 : t p < 48
    · rw [if_pos h1, if_pos h1]; rfl
    · rw [if_neg h1, if_neg h1, bs, ll_52 H, if_pos ⟨nI_pos' (by omega), by omega⟩, e2 p (by omega)]
      by_cases h2 : 57 < t p
      · rw [if_pos h2, if_pos h2]; rfl
      · rw [if_neg h2, if_neg h2]; rfl
theorem m_isL {h : Hp} {t : TY} {n p : Nat} (H : SHP h) (e1 : hI h 51 1 = nI n) (hn : n ≤ 400) (e2 : ∀ i, i < n → hI h 52 i = t i) (hp : p ≤ n) : f_X8_isLetter h 51 (nI p) = some (b2i (decide (p < n) && isL (t p))) := by
  unfold f_X8_isLetter
  rw [e1]
  by_cases c : n ≤ p
  · rw [if_pos (nI_le c (by omega)), decide_eq_false (by omega)]; rfl
  · rw [if_neg (nI_ge (by omega) (by omega)), pp_51_0 H, bs, ll_52 H, if_inI (by omega) (by omega), nI_clamp (by omega), e2 p (by omega), decide_eq_true (show p < n by omega)]
    unfold isL
    by_cases h1 : t p < 97
    · rw [if_pos h1, if_pos h1]; rfl
    · rw [if_neg h1, if_neg h1, bs, ll_52 H, if_pos ⟨nI_pos' (by omega), by omega⟩, e2 p (by omega)]
      by_cases h2 : 122 < t p
      · rw [if_pos h2, if_pos h2]; rfl
      · rw [if_neg h2, if_neg h2]; rfl
/-- the class's tape with the sign at s before it -/
def TC (t : TY) (n : Nat) (h : Hp) (s : Nat) : Prop := SHP h ∧ hI h 2 = t ∧ hI h 1 1 = nI n ∧ n ≤ 400 ∧ s ≤ n ∧ hI h 1 6 = 0 ∧ hI h 1 2 = kd t n s ∧ hI h 1 4 = nI s ∧ hI h 1 5 = nI (bh t n s) ∧ (s < n → isD (t s) = true → hI h 1 3 = nm t s (dge t n s)) ∧ skp t n s = s
/-- the class's tape behind a fault -/
def TF (h : Hp) (f : Int32) : Prop := SHP h ∧ f ≠ 0 ∧ hI h 1 6 = f ∧ hI h 1 2 = 261
def PT : Nat → Nat → Prop := fun a j => a = 1 ∧ 2 ≤ j
def nt (t : TY) (n s : Nat) : Nat := skp t n (bh t n s)
theorem bh_le {t : TY} {n s : Nat} (h : s ≤ n) : bh t n s ≤ n := by
  unfold bh
  by_cases c : n ≤ s
  · rw [if_pos c]; exact h
  · rw [if_neg c]
    by_cases d : isD (t s) = true
    · rw [if_pos d]; exact sc_le h
    · rw [if_neg d]
      by_cases l : isL (t s) = true
      · rw [if_pos l]; exact sc_le h
      · rw [if_neg l]
        by_cases w : two t n s = true
        · rw [if_pos w]
          unfold two at w
          have : s + 1 < n := by
            by_cases z : s + 1 < n
            · exact z
            · rw [decide_eq_false z] at w; cases w
          omega
        · rw [if_neg w]; omega
theorem bh_gt {t : TY} {n s : Nat} (h : s < n) : s < bh t n s := by
  unfold bh
  rw [if_neg (by omega)]
  by_cases d : isD (t s) = true
  · rw [if_pos d]
    unfold dge
    rw [sc_step h d]
    exact sc_ge _ _ _
  · rw [if_neg d]
    by_cases l : isL (t s) = true
    · rw [if_pos l]
      unfold lte
      rw [sc_step h l]
      exact sc_ge _ _ _
    · rw [if_neg l]
      by_cases w : two t n s = true
      · rw [if_pos w]; omega
      · rw [if_neg w]; omega
theorem nt_le {t : TY} {n s : Nat} (h : s ≤ n) : nt t n s ≤ n := sc_le (bh_le h)
theorem nt_gt {t : TY} {n s : Nat} (h : s < n) : s < nt t n s := Nat.lt_of_lt_of_le (bh_gt h) (sc_ge _ _ _)
theorem c_skip {N n : Nat} {t : TY} (hn : n ≤ 400) : ∀ (m p k : Nat) (h : Hp), n - p ≤ m → m < k → SHP h → hI h 2 = t → hI h 1 1 = nI n → p ≤ n → hI h 1 4 = nI p → ∃ h', f_X6_advance_16 N k h 1 = f_X6_advance_64 N h' 1 ∧ hI h' 1 4 = nI (skp t n p) ∧ Fr (fun a j => a = 1 ∧ j = 4) h h' := by
  intro m
  induction m with
  | zero =>
    intro p k h hm hk H e2 e1 hp e4
    obtain ⟨k, rfl⟩ : ∃ j, k = j + 1 := ⟨k - 1, by omega⟩
    refine ⟨h, ?_, ?_, Fr_refl h⟩
    · rw [f_X6_advance_16, e1, e4, if_pos (nI_le (by omega) (by omega))]
    · rw [e4, show skp t n p = p from sc_stop (by omega)]
  | succ m ih =>
    intro p k h hm hk H e2 e1 hp e4
    obtain ⟨k, rfl⟩ : ∃ j, k = j + 1 := ⟨k - 1, by omega⟩
    by_cases c : n ≤ p
    · refine ⟨h, ?_, ?_, Fr_refl h⟩
      · rw [f_X6_advance_16, e1, e4, if_pos (nI_le (by omega) (by omega))]
      · rw [e4, show skp t n p = p from sc_stop (by omega)]
    · by_cases b : t p = 32
      · have F1 : Fr (fun a j => a = 1 ∧ j = 4) h (sI h 1 4 (nI (p + 1))) := Fr_sI _ _ _ _ ⟨rfl, rfl⟩
        have q1 : hI (sI h 1 4 (nI (p + 1))) 1 4 = nI (p + 1) := by rw [hI_sI, if_pos ⟨rfl, rfl⟩]
        have e : f_X6_advance_16 N (k + 1) h 1 = f_X6_advance_16 N k (sI h 1 4 (nI (p + 1))) 1 := by
          rw [f_X6_advance_16, e1, e4, if_neg (nI_ge (by omega) (by omega)), show (400 : Int32) = nI 400 from rfl, if_neg (nI_ge (by omega) (by omega)), pp_1_0 H, bs, ll_2 H, if_inI (by omega) (by omega), nI_clamp (by omega), e2, if_pos b, lts, nI_1]
        generalize sI h 1 4 (nI (p + 1)) = h1 at F1 q1 e
        obtain ⟨h', i1, i2, i3⟩ := ih (p + 1) k h1 (by omega) (by omega) (Fr_SHP F1 H) (by rw [Fr_row F1 (fun j z => by omega)]; exact e2) (by rw [F1.2.2.2 1 1 (fun z => by omega)]; exact e1) (by omega) q1
        refine ⟨h', by rw [e, i1], ?_, Fr_trans F1 i3⟩
        rw [i2]
        unfold skp
        rw [sc_step (p := p) (by omega) (decide_eq_true b)]
      · refine ⟨h, ?_, ?_, Fr_refl h⟩
        · rw [f_X6_advance_16, e1, e4, if_neg (nI_ge (by omega) (by omega)), show (400 : Int32) = nI 400 from rfl, if_neg (nI_ge (by omega) (by omega)), pp_1_0 H, bs, ll_2 H, if_inI (by omega) (by omega), nI_clamp (by omega), e2, if_neg b]
        · rw [e4, show skp t n p = p from sc_stop (fun z => b (of_decide_eq_true z.2))]
