/-! ===== a stair as it stands: row 0 its numbers, rows 1 to 10 its arrays ===== -/
abbrev SA : Type := Nat → Nat → Int32
def lvl (α : SA) : Nat := (α 0 0).toNatClampNeg
def bgs (α : SA) : Nat := (α 0 1).toNatClampNeg
def bks (α : SA) : Nat := (α 0 7).toNatClampNeg
/-- 0 nobody, b + 1 the barge b -/
def bI : Nat → Int32
  | 0 => -1
  | b + 1 => nI b
def Dm (α : SA) : Prop := α 0 0 = nI (lvl α) ∧ α 0 1 = nI (bgs α) ∧ α 0 7 = nI (bks α) ∧ lvl α ≤ 8 ∧ bgs α ≤ 6 ∧ bks α ≤ 10
def isSt (h : Hp) (s : Nat) : Prop := (∀ k, k < 11 → hP h s (8 + k) = some (s + 1 + k)) ∧ (∀ k, k < 4 → hL h (s + 1 + k) = 8) ∧ (∀ k, k < 5 → hL h (s + 5 + k) = 6) ∧ hL h (s + 10) = 10 ∧ hL h (s + 11) = 16
def ln : Nat → Nat
  | 0 => 8
  | 1 => 8
  | 2 => 8
  | 3 => 8
  | 4 => 8
  | 5 => 6
  | 6 => 6
  | 7 => 6
  | 8 => 6
  | 9 => 6
  | _ => 10
def Ac (h : Hp) (s : Nat) (α : SA) : Prop := isSt h s ∧ ∀ k i, k ≤ 10 → i < ln k → hI h (s + k) i = α k i
theorem n_1 : (1 : Int32) = nI 1 := rfl
theorem n_2 : (2 : Int32) = nI 2 := rfl
theorem n_3 : (3 : Int32) = nI 3 := rfl
theorem n_4 : (4 : Int32) = nI 4 := rfl
theorem n_5 : (5 : Int32) = nI 5 := rfl
theorem n_9 : (9 : Int32) = nI 9 := rfl
theorem n_25 : (25 : Int32) = nI 25 := rfl
theorem n_55 : (55 : Int32) = nI 55 := rfl
theorem n_63 : (63 : Int32) = nI 63 := rfl
theorem nI_0c : (0 : Int32).toNatClampNeg = 0 := rfl
theorem ac_p {h : Hp} {s : Nat} {α : SA} (A : Ac h s α) {k : Nat} (hk : k < 11) : hP h s (8 + k) = some (s + 1 + k) := A.1.1 k hk
theorem ac_p8 {h : Hp} {s : Nat} {α : SA} (A : Ac h s α) : hP h s 8 = some (s + 1) := A.1.1 0 (by decide)
theorem ac_p9 {h : Hp} {s : Nat} {α : SA} (A : Ac h s α) : hP h s 9 = some (s + 2) := A.1.1 1 (by decide)
theorem ac_p10 {h : Hp} {s : Nat} {α : SA} (A : Ac h s α) : hP h s 10 = some (s + 3) := A.1.1 2 (by decide)
theorem ac_p11 {h : Hp} {s : Nat} {α : SA} (A : Ac h s α) : hP h s 11 = some (s + 4) := A.1.1 3 (by decide)
theorem ac_p12 {h : Hp} {s : Nat} {α : SA} (A : Ac h s α) : hP h s 12 = some (s + 5) := A.1.1 4 (by decide)
theorem ac_p13 {h : Hp} {s : Nat} {α : SA} (A : Ac h s α) : hP h s 13 = some (s + 6) := A.1.1 5 (by decide)
theorem ac_p14 {h : Hp} {s : Nat} {α : SA} (A : Ac h s α) : hP h s 14 = some (s + 7) := A.1.1 6 (by decide)
theorem ac_p15 {h : Hp} {s : Nat} {α : SA} (A : Ac h s α) : hP h s 15 = some (s + 8) := A.1.1 7 (by decide)
theorem ac_p16 {h : Hp} {s : Nat} {α : SA} (A : Ac h s α) : hP h s 16 = some (s + 9) := A.1.1 8 (by decide)
theorem ac_p17 {h : Hp} {s : Nat} {α : SA} (A : Ac h s α) : hP h s 17 = some (s + 10) := A.1.1 9 (by decide)
theorem ac_p18 {h : Hp} {s : Nat} {α : SA} (A : Ac h s α) : hP h s 18 = some (s + 11) := A.1.1 10 (by decide)
theorem ac_l1 {h : Hp} {s : Nat} {α : SA} (A : Ac h s α) : hL h (s + 1) = 8 := A.1.2.1 0 (by decide)
theorem ac_l2 {h : Hp} {s : Nat} {α : SA} (A : Ac h s α) : hL h (s + 2) = 8 := A.1.2.1 1 (by decide)
theorem ac_l3 {h : Hp} {s : Nat} {α : SA} (A : Ac h s α) : hL h (s + 3) = 8 := A.1.2.1 2 (by decide)
theorem ac_l4 {h : Hp} {s : Nat} {α : SA} (A : Ac h s α) : hL h (s + 4) = 8 := A.1.2.1 3 (by decide)
theorem ac_l5 {h : Hp} {s : Nat} {α : SA} (A : Ac h s α) : hL h (s + 5) = 6 := A.1.2.2.1 0 (by decide)
theorem ac_l6 {h : Hp} {s : Nat} {α : SA} (A : Ac h s α) : hL h (s + 6) = 6 := A.1.2.2.1 1 (by decide)
theorem ac_l7 {h : Hp} {s : Nat} {α : SA} (A : Ac h s α) : hL h (s + 7) = 6 := A.1.2.2.1 2 (by decide)
theorem ac_l8 {h : Hp} {s : Nat} {α : SA} (A : Ac h s α) : hL h (s + 8) = 6 := A.1.2.2.1 3 (by decide)
theorem ac_l9 {h : Hp} {s : Nat} {α : SA} (A : Ac h s α) : hL h (s + 9) = 6 := A.1.2.2.1 4 (by decide)
theorem ac_l10 {h : Hp} {s : Nat} {α : SA} (A : Ac h s α) : hL h (s + 10) = 10 := A.1.2.2.2.1
theorem ac_l11 {h : Hp} {s : Nat} {α : SA} (A : Ac h s α) : hL h (s + 11) = 16 := A.1.2.2.2.2
theorem ac_0 {h : Hp} {s : Nat} {α : SA} (A : Ac h s α) {i : Nat} (hi : i < 8) : hI h s i = α 0 i := A.2 0 i (by decide) hi
theorem ac_1 {h : Hp} {s : Nat} {α : SA} (A : Ac h s α) {i : Nat} (hi : i < 8) : hI h (s + 1) i = α 1 i := A.2 1 i (by decide) hi
theorem ac_2 {h : Hp} {s : Nat} {α : SA} (A : Ac h s α) {i : Nat} (hi : i < 8) : hI h (s + 2) i = α 2 i := A.2 2 i (by decide) hi
theorem ac_3 {h : Hp} {s : Nat} {α : SA} (A : Ac h s α) {i : Nat} (hi : i < 8) : hI h (s + 3) i = α 3 i := A.2 3 i (by decide) hi
theorem ac_4 {h : Hp} {s : Nat} {α : SA} (A : Ac h s α) {i : Nat} (hi : i < 8) : hI h (s + 4) i = α 4 i := A.2 4 i (by decide) hi
theorem ac_5 {h : Hp} {s : Nat} {α : SA} (A : Ac h s α) {i : Nat} (hi : i < 6) : hI h (s + 5) i = α 5 i := A.2 5 i (by decide) hi
theorem ac_6 {h : Hp} {s : Nat} {α : SA} (A : Ac h s α) {i : Nat} (hi : i < 6) : hI h (s + 6) i = α 6 i := A.2 6 i (by decide) hi
theorem ac_7 {h : Hp} {s : Nat} {α : SA} (A : Ac h s α) {i : Nat} (hi : i < 6) : hI h (s + 7) i = α 7 i := A.2 7 i (by decide) hi
theorem ac_8 {h : Hp} {s : Nat} {α : SA} (A : Ac h s α) {i : Nat} (hi : i < 6) : hI h (s + 8) i = α 8 i := A.2 8 i (by decide) hi
theorem ac_9 {h : Hp} {s : Nat} {α : SA} (A : Ac h s α) {i : Nat} (hi : i < 6) : hI h (s + 9) i = α 9 i := A.2 9 i (by decide) hi
theorem ac_10 {h : Hp} {s : Nat} {α : SA} (A : Ac h s α) {i : Nat} (hi : i < 10) : hI h (s + 10) i = α 10 i := A.2 10 i (by decide) hi
/-! what is asked of a stair -/
def Wt (α : SA) : Nat → Int32
  | 0 => 0
  | b + 1 => α 6 b
def Wi (α : SA) : Nat → Int32
  | 0 => 0
  | b + 1 => α 7 b
def Wo (α : SA) (d u : Nat) : Int32 := if Wi α d + Wi α u ≤ 0 then 1 else 2
def Nd (α : SA) (d u : Nat) : Int32 := (if 0 < Wt α u + α 0 2 - Wt α d then Wt α u + α 0 2 - Wt α d else 0) * Wo α d u
def b2i (b : Bool) : Int32 := if b then 1 else 0
/-- barge d stands at level l and goes that way (nobody always does) -/
def Rd (α : SA) (l : Nat) (w : Int32) : Nat → Bool
  | 0 => true
  | b + 1 => decide (α 5 b = nI l ∧ α 8 b = w)
def bst (p : Nat → Bool) : Nat → Int32
  | 0 => 0
  | n + 1 => if p n then bst p n ||| ((1 : Int32) <<< (nI n &&& 31)) else bst p n
def atS (α : SA) (l : Int32) : Int32 := bst (fun b => decide (α 5 b = l)) (bgs α)
def hm (α : SA) (b : Nat) : Bool := decide (α 5 b = if α 8 b = 0 then α 0 0 - 1 else 0)
def hmS (α : SA) : Int32 := bst (hm α) (bgs α)
def bct (x : Int32) : Int32 := (f_J6_bitCount_0f7a4 h00 x).getD 0
def Cn (α : SA) (l : Nat) : Int32 := bct (atS α (nI l))
def Se (α : SA) (l : Nat) (m : Int32) : Bool := decide (l = 0 ∨ l + 1 = lvl α ∨ m ≤ α 2 l)
def mo (d u : Nat) : Int32 := (if u = 0 then 0 else 1) - (if d = 0 then 0 else 1)
abbrev RLT : Type := (Nat → Int64) → Bool
def Wrd (α : SA) (k d u : Nat) : Nat → Int64
  | 0 => (nI k).toInt64
  | 1 => (Wt α d).toInt64
  | 2 => (Wt α u).toInt64
  | 3 => (Nd α d u).toInt64
  | 4 => (α 1 k).toInt64
  | 5 => (α 1 (k + 1)).toInt64
  | 6 => (Cn α k).toInt64
  | 7 => (Cn α (k + 1)).toInt64
  | 8 => (Wi α d + Wi α u).toInt64
  | _ => (α 0 3).toInt64
/-- the first law by which the tip may not be; 0: it may be -/
def Lw (α : SA) (rl : RLT) (k d u : Nat) : Int32 :=
  if α 3 k = 0 then 1
  else if (Rd α k 0 d && Rd α (k + 1) 1 u) = false then 2
  else if (Se α k (Cn α k + mo d u) && Se α (k + 1) (Cn α (k + 1) - mo d u)) = false then 3
  else if Nd α d u ≤ α 1 k then (if rl (Wrd α k d u) then 5 else 0) else 4
/-- what is written, and what isn't -/
def Fr (P : Nat → Nat → Prop) (h h' : Hp) : Prop := (hN h' = hN h ∧ hJ h' 35 = hJ h 35 ∧ hJ h' 36 = hJ h 36) ∧ hP h' = hP h ∧ hL h' = hL h ∧ ∀ a j, ¬ P a j → hI h' a j = hI h a j
theorem Fr_refl {P : Nat → Nat → Prop} (h : Hp) : Fr P h h := ⟨⟨rfl, rfl, rfl⟩, rfl, rfl, fun _ _ _ => rfl⟩
theorem Fr_trans {P : Nat → Nat → Prop} {a b c : Hp} (h1 : Fr P a b) (h2 : Fr P b c) : Fr P a c := ⟨⟨h2.1.1.trans h1.1.1, h2.1.2.1.trans h1.1.2.1, h2.1.2.2.trans h1.1.2.2⟩, h2.2.1.trans h1.2.1, h2.2.2.1.trans h1.2.2.1, fun x j hx => (h2.2.2.2 x j hx).trans (h1.2.2.2 x j hx)⟩
theorem Fr_mono {P Q : Nat → Nat → Prop} {a b : Hp} (h1 : Fr P a b) (hq : ∀ x j, P x j → Q x j) : Fr Q a b := ⟨h1.1, h1.2.1, h1.2.2.1, fun x j hx => h1.2.2.2 x j (fun z => hx (hq x j z))⟩
theorem Fr_row {P : Nat → Nat → Prop} {a b : Hp} (h1 : Fr P a b) {x : Nat} (hx : ∀ j, ¬ P x j) : hI b x = hI a x := funext fun j => h1.2.2.2 x j (hx j)
def PJ : Nat → Nat → Prop := fun _ _ => False
def PS (s : Nat) : Nat → Nat → Prop := fun a _ => s ≤ a ∧ a ≤ s + 11
def PM : Nat → Nat → Prop := fun a j => a = 51 ∧ j = 24
def PD : Nat → Nat → Prop := fun a j => a = 62 ∨ (a = 51 ∧ j = 24)
theorem Fr_J {P : Nat → Nat → Prop} {a b : Hp} (h1 : Fr PJ a b) : Fr P a b := Fr_mono h1 (fun _ _ z => z.elim)
theorem Fr_sI {P : Nat → Nat → Prop} (h : Hp) (v k : Nat) (x : Int32) (hv : P v k) : Fr P h (sI h v k x) := ⟨⟨rfl, rfl, rfl⟩, rfl, rfl, fun a j hn => by rw [hI_sI, if_neg]; rintro ⟨rfl, rfl⟩; exact hn hv⟩
theorem Fr_sJ {P : Nat → Nat → Prop} (h : Hp) (v k : Nat) (x : Int64) (hv : v ≠ 35 ∧ v ≠ 36) : Fr P h (sJ h v k x) := ⟨⟨rfl, funext fun j => by rw [hJ_sJ, if_neg (fun z => hv.1 z.1.symm)], funext fun j => by rw [hJ_sJ, if_neg (fun z => hv.2 z.1.symm)]⟩, rfl, rfl, fun _ _ _ => rfl⟩
theorem Fr_SHP {P : Nat → Nat → Prop} {a b : Hp} (h1 : Fr P a b) (H : SHP a) : SHP b := by
  unfold SHP
  rw [h1.1.1, h1.2.1, h1.2.2.1]
  exact H
theorem Fr_isSt {P : Nat → Nat → Prop} {a b : Hp} (h1 : Fr P a b) {s : Nat} (H : isSt a s) : isSt b s := by
  unfold isSt
  rw [h1.2.1, h1.2.2.1]
  exact H
theorem Fr_Ac {P : Nat → Nat → Prop} {a b : Hp} (h1 : Fr P a b) {s : Nat} {α : SA} (hs : ∀ x j, s ≤ x → x ≤ s + 10 → ¬ P x j) (H : Ac a s α) : Ac b s α :=
  ⟨Fr_isSt h1 H.1, fun k i hk hi => (h1.2.2.2 _ _ (hs _ _ (by omega) (by omega))).trans (H.2 k i hk hi)⟩
theorem Fr_Ac_J {a b : Hp} (h1 : Fr PJ a b) {s : Nat} {α : SA} (H : Ac a s α) : Ac b s α := Fr_Ac h1 (fun _ _ _ _ z => z) H
/-! ===== the class's questions ===== -/
theorem c_weightOf {h : Hp} {s : Nat} {α : SA} (A : Ac h s α) (D : Dm α) {d : Nat} (hd : d ≤ bgs α) : f_X5_weightOf h s (bI d) = some (Wt α d) := by
  obtain ⟨D0, D1, D2, D3, D4, D5⟩ := D
  cases d with
  | zero => rfl
  | succ b =>
    unfold bI f_X5_weightOf Wt
    simp (disch := omega) only [bs, b2s, if_pos, if_neg, lts, true_and, and_true, and_self, if_true, if_false, ite_self, nI_clamp, nI_pos', nI_leI, nI_ltI, nI_eq, nI_add, nI_1, pk_mul, pk_sub, n_2, n_3, n_4, n_5, n_9, n_25, n_55, n_63, nI_0c, ac_0 A, D1, ac_p13 A, ac_l6 A, ac_6 A, nI_pos]
theorem c_wideOf {h : Hp} {s : Nat} {α : SA} (A : Ac h s α) (D : Dm α) {d : Nat} (hd : d ≤ bgs α) : f_X5_wideOf h s (bI d) = some (Wi α d) := by
  obtain ⟨D0, D1, D2, D3, D4, D5⟩ := D
  cases d with
  | zero => rfl
  | succ b =>
    unfold bI f_X5_wideOf Wi
    simp (disch := omega) only [bs, b2s, if_pos, if_neg, lts, true_and, and_true, and_self, if_true, if_false, ite_self, nI_clamp, nI_pos', nI_leI, nI_ltI, nI_eq, nI_add, nI_1, pk_mul, pk_sub, n_2, n_3, n_4, n_5, n_9, n_25, n_55, n_63, nI_0c, ac_0 A, D1, ac_p14 A, ac_l7 A, ac_7 A, nI_pos]
theorem c_worth {h : Hp} {s : Nat} {α : SA} (A : Ac h s α) (D : Dm α) {d u : Nat} (hd : d ≤ bgs α) (hu : u ≤ bgs α) : f_X5_worth h s (bI d) (bI u) = some (Wo α d u) := by
  unfold f_X5_worth Wo
  rw [c_wideOf A D hd, c_wideOf A D hu, bs, bs]
  split <;> rfl
theorem c_need {h : Hp} {s : Nat} {α : SA} (A : Ac h s α) (D : Dm α) {d u : Nat} (hd : d ≤ bgs α) (hu : u ≤ bgs α) : f_X5_need h s (bI d) (bI u) = some (Nd α d u) := by
  unfold f_X5_need Nd
  rw [c_weightOf A D hd, c_weightOf A D hu, c_worth A D hd hu, bs, bs, lts, bs, ac_0 A (by decide)]
theorem c_hasStep {h : Hp} {s : Nat} {α : SA} (A : Ac h s α) (D : Dm α) {k : Nat} (hk : k + 1 < lvl α) : f_X5_hasStep h s (nI k) = some 1 := by
  obtain ⟨D0, D1, D2, D3, D4, D5⟩ := D
  unfold f_X5_hasStep
  rw [ac_0 A (by decide), D0, if_neg (nI_pos (by omega)), n_1, pk_sub (by omega), if_neg (nI_ge (by omega) (by omega))]
theorem c_hasBarge {h : Hp} {s : Nat} {α : SA} (A : Ac h s α) (D : Dm α) {d : Nat} (hd : d ≤ bgs α) : f_X5_hasBarge h s (bI d) = some (if d = 0 then 0 else 1) := by
  obtain ⟨D0, D1, D2, D3, D4, D5⟩ := D
  cases d with
  | zero => rfl
  | succ b =>
    unfold bI f_X5_hasBarge
    simp (disch := omega) only [bs, b2s, if_pos, if_neg, lts, true_and, and_true, and_self, if_true, if_false, ite_self, nI_clamp, nI_pos', nI_leI, nI_ltI, nI_eq, nI_add, nI_1, pk_mul, pk_sub, n_2, n_3, n_4, n_5, n_9, n_25, n_55, n_63, nI_0c, ac_0 A, D1, nI_pos]
theorem c_isReady {h : Hp} {s : Nat} {α : SA} (A : Ac h s α) (D : Dm α) {d l : Nat} {w : Int32} (hd : d ≤ bgs α) : f_X5_isReady h s (bI d) (nI l) w = some (b2i (Rd α l w d)) := by
  unfold f_X5_isReady
  rw [c_hasBarge A D hd, bs]
  obtain ⟨D0, D1, D2, D3, D4, D5⟩ := D
  cases d with
  | zero => rfl
  | succ b =>
    rw [if_neg (by simp)]
    unfold bI b2i Rd
    simp (disch := omega) only [bs, b2s, if_pos, if_neg, lts, true_and, and_true, and_self, if_true, if_false, ite_self, nI_clamp, nI_pos', nI_leI, nI_ltI, nI_eq, nI_add, nI_1, pk_mul, pk_sub, n_2, n_3, n_4, n_5, n_9, n_25, n_55, n_63, nI_0c, ac_p12 A, ac_p15 A, ac_l5 A, ac_l8 A, ac_5 A, ac_8 A]
    by_cases h1 : α 5 b = nI l
    · by_cases h2 : α 8 b = w
      · rw [if_pos h1, if_pos h2, if_pos (by simp [h1, h2])]
      · rw [if_pos h1, if_neg h2, if_neg (by simp [h2])]
    · rw [if_neg h1, if_neg (by simp [h1])]
theorem c_bits_l {h : Hp} {s N : Nat} {α : SA} (A : Ac h s α) (D : Dm α) (l : Int32) : ∀ (m b n : Nat), b + m = bgs α → m < n → f_X5_bargeBitsAt_4 N n h s l (bst (fun b => decide (α 5 b = l)) b) (nI b) = some (atS α l) := by
  intro m
  induction m with
  | zero =>
    intro b n hb hn
    obtain ⟨n, rfl⟩ : ∃ k, n = k + 1 := ⟨n - 1, by omega⟩
    rw [f_X5_bargeBitsAt_4, ac_0 A (by decide), D.2.1, if_pos (nI_le (by omega) (by have := D.2.2.2.2.1; omega))]
    unfold atS
    rw [show b = bgs α by omega]
  | succ m ih =>
    intro b n hb hn
    obtain ⟨n, rfl⟩ : ∃ k, n = k + 1 := ⟨n - 1, by omega⟩
    have h6 := D.2.2.2.2.1
    rw [f_X5_bargeBitsAt_4, ac_0 A (by decide), D.2.1, if_neg (nI_ge (by omega) (by omega)), ac_p12 A, bs, ac_l5 A, if_inI (by omega) (by omega), nI_clamp (by omega), ac_5 A (by omega)]
    have e := ih (b + 1) n (by omega) (by omega)
    rw [bst] at e
    unfold f_X5_bargeBitsAt_28
    rw [lts, nI_1]
    by_cases h1 : α 5 b = l
    · rw [if_pos h1, ← e, if_pos (by simp [h1])]
    · rw [if_neg h1, ← e, if_neg (by simp [h1])]
theorem c_bits {h : Hp} {s N : Nat} {α : SA} (A : Ac h s α) (D : Dm α) (hN : 20 ≤ N) (l : Int32) : f_X5_bargeBitsAt N h s l = some (atS α l) := c_bits_l A D l (bgs α) 0 N (by omega) (by have := D.2.2.2.2.1; omega)
theorem c_isHome {h : Hp} {s : Nat} {α : SA} (A : Ac h s α) (D : Dm α) {b : Nat} (hb : b < bgs α) : f_X5_isHome h s (nI b) = some (b2i (hm α b)) := by
  unfold f_X5_isHome
  rw [show nI b = bI (b + 1) from rfl, c_hasBarge A D (by omega), bs, if_neg (by simp), show bI (b + 1) = nI b from rfl]
  have h6 := D.2.2.2.2.1
  unfold f_X5_isHome_33
  simp (disch := omega) only [bs, b2s, if_pos, if_neg, lts, true_and, and_true, and_self, if_true, if_false, ite_self, nI_clamp, nI_pos', nI_leI, nI_ltI, nI_eq, nI_add, nI_1, pk_mul, pk_sub, n_2, n_3, n_4, n_5, n_9, n_25, n_55, n_63, nI_0c, ac_p12 A, ac_p15 A, ac_l5 A, ac_l8 A, ac_5 A, ac_8 A, ac_0 A]
  by_cases h1 : α 8 b = 0
  · rw [if_pos h1, show hm α b = decide (α 5 b = α 0 0 - 1) by unfold hm; simp [h1]]
    unfold b2i
    by_cases h2 : α 5 b = α 0 0 - 1
    · rw [if_pos h2, if_pos (by simp [h2])]
    · rw [if_neg h2, if_neg (by simp [h2])]
  · rw [if_neg h1, show hm α b = decide (α 5 b = 0) by unfold hm; simp [h1]]
    unfold b2i
    by_cases h2 : α 5 b = 0
    · rw [if_pos h2, if_pos (by simp [h2])]
    · rw [if_neg h2, if_neg (by simp [h2])]
theorem c_home_l {h : Hp} {s N : Nat} {α : SA} (A : Ac h s α) (D : Dm α) : ∀ (m b n : Nat), b + m = bgs α → m < n → f_X5_homeBits_4 N n h s (bst (hm α) b) (nI b) = some (hmS α) := by
  intro m
  induction m with
  | zero =>
    intro b n hb hn
    obtain ⟨n, rfl⟩ : ∃ k, n = k + 1 := ⟨n - 1, by omega⟩
    rw [f_X5_homeBits_4, ac_0 A (by decide), D.2.1, if_pos (nI_le (by omega) (by have := D.2.2.2.2.1; omega))]
    unfold hmS
    rw [show b = bgs α by omega]
  | succ m ih =>
    intro b n hb hn
    obtain ⟨n, rfl⟩ : ∃ k, n = k + 1 := ⟨n - 1, by omega⟩
    have h6 := D.2.2.2.2.1
    rw [f_X5_homeBits_4, ac_0 A (by decide), D.2.1, if_neg (nI_ge (by omega) (by omega)), c_isHome A D (by omega), bs]
    have e := ih (b + 1) n (by omega) (by omega)
    rw [bst] at e
    unfold f_X5_homeBits_26
    rw [lts, nI_1]
    unfold b2i
    by_cases h1 : hm α b
    · rw [if_pos h1, if_neg (by decide), ← e, if_pos h1]
    · rw [if_neg h1, if_pos (by decide), ← e, if_neg h1]
theorem c_home {h : Hp} {s N : Nat} {α : SA} (A : Ac h s α) (D : Dm α) (hN : 20 ≤ N) : f_X5_homeBits N h s = some (hmS α) := c_home_l A D (bgs α) 0 N (by omega) (by have := D.2.2.2.2.1; omega)
theorem c_bct (h : Hp) (x : Int32) : f_J6_bitCount_0f7a4 h x = some (bct x) := rfl
theorem c_hasSeats {h : Hp} {s N : Nat} {α : SA} (A : Ac h s α) (D : Dm α) (hN : 20 ≤ N) {l : Nat} (hl : l < lvl α) (m : Int32) : f_X5_hasSeats N h s (nI l) m = some (b2i (Se α l (Cn α l + m))) := by
  have h8 := D.2.2.2.1
  unfold f_X5_hasSeats f_X5_hasSeats_14 f_X5_hasSeats_19 Se b2i
  by_cases h0 : l = 0
  · subst h0
    rw [if_pos (by decide), if_neg (by decide), if_pos (by simp)]
  · rw [if_neg (nI_nle (by omega) (by omega)), ac_0 A (by decide), D.1, n_1, pk_sub (by omega)]
    by_cases h1 : l + 1 = lvl α
    · rw [if_neg (by rw [nI_ltI (by omega) (by omega)]; omega), if_neg (by decide), if_pos (by simp [h1])]
    · rw [if_pos (nI_lt (by omega) (by omega)), if_pos rfl, c_bits A D hN, bs, c_bct, bs, ac_p9 A, bs, ac_l2 A, if_inI (by omega) (by omega), nI_clamp (by omega), ac_2 A (by omega)]
      show (if α 2 l < Cn α l + m then _ else _) = _
      by_cases h2 : Cn α l + m ≤ α 2 l
      · rw [if_neg (Int32.not_lt.mpr h2), if_pos (by simp [h2])]
      · rw [if_pos (Int32.not_le.mp h2), if_neg (by simp [h0, h1, h2])]
