/-! ===== what a rule's codes come to: the class ===== -/
def vC (w : Nat → Int64) (c : Int32) : Int64 := if -1 - c < 0 then c.toInt64 else if (10 : Int32) ≤ -1 - c then c.toInt64 else w (-1 - c).toNatClampNeg
def cmb (c : Int32) (a b : Int64) : Int64 := if c = 100000 then a + b else if c = 100001 then a - b else if c = 100002 then a * b else if c = 100003 then (if b = 0 then 0 else a / b) else if c = 100004 then (if b ≤ a then 0 else 1) else if c = 100005 then (if b < a then 0 else 1) else if c = 100006 then (if a = b then 1 else 0) else if c = 100007 then (if a < b then 0 else 1) else if c = 100008 then (if a ≤ b then 0 else 1) else if c = 100009 then a &&& b else a ||| b
/-- one code on a stack, its top first -/
def ev1 (w : Nat → Int64) (c : Int32) (st : List Int64) : Option (List Int64) := if c < 100000 then (if st.length < 60 then some (vC w c :: st) else none) else if c = 100011 then (match st with | a :: r => some ((1 - a) :: r) | [] => none) else (match st with | b :: a :: r => some (cmb c a b :: r) | _ => none)
def evL (w : Nat → Int64) : List Int32 → List Int64 → Option (List Int64)
  | [], st => some st
  | c :: cs, st => Option.bind (ev1 w c st) (fun s' => evL w cs s')
theorem c_comb (h : Hp) (c : Int32) (a b : Int64) : f_X1_combine h c a b = some (cmb c a b) := by
  unfold f_X1_combine cmb
  by_cases c0 : c = 100000
  · rw [if_pos c0, if_pos c0]
  rw [if_neg c0, if_neg c0]
  by_cases c0 : c = 100001
  · rw [if_pos c0, if_pos c0]
  rw [if_neg c0, if_neg c0]
  by_cases c0 : c = 100002
  · rw [if_pos c0, if_pos c0]
  rw [if_neg c0, if_neg c0]
  by_cases c0 : c = 100003
  · rw [if_pos c0, if_pos c0]
    by_cases z : b = 0
    · rw [if_pos ((lg_cmp_eq _ _).mpr z), if_pos z]
    · rw [if_neg (fun y => z ((lg_cmp_eq _ _).mp y)), if_pos z, if_neg z]
  rw [if_neg c0, if_neg c0]
  by_cases c0 : c = 100004
  · rw [if_pos c0, if_pos c0]
    by_cases z : b ≤ a
    · rw [if_pos ((lg_cmp_ge _ _).mpr z), if_pos z]
    · rw [if_neg (fun y => z ((lg_cmp_ge _ _).mp y)), if_neg z]
  rw [if_neg c0, if_neg c0]
  by_cases c0 : c = 100005
  · rw [if_pos c0, if_pos c0]
    by_cases z : b < a
    · rw [if_pos ((lg_cmp_gt _ _).mpr z), if_pos z]
    · rw [if_neg (fun y => z ((lg_cmp_gt _ _).mp y)), if_neg z]
  rw [if_neg c0, if_neg c0]
  by_cases c0 : c = 100006
  · rw [if_pos c0, if_pos c0]
    by_cases z : a = b
    · rw [if_pos ((lg_cmp_eq _ _).mpr z), if_pos z]
    · rw [if_neg (fun y => z ((lg_cmp_eq _ _).mp y)), if_neg z]
  rw [if_neg c0, if_neg c0]
  by_cases c0 : c = 100007
  · rw [if_pos c0, if_pos c0]
    by_cases z : a < b
    · rw [if_pos ((lg_cmp_lt _ _).mpr z), if_pos z]
    · rw [if_neg (fun y => z ((lg_cmp_lt _ _).mp y)), if_neg z]
  rw [if_neg c0, if_neg c0]
  by_cases c0 : c = 100008
  · rw [if_pos c0, if_pos c0]
    by_cases z : a ≤ b
    · rw [if_pos ((lg_cmp_le _ _).mpr z), if_pos z]
    · rw [if_neg (fun y => z ((lg_cmp_le _ _).mp y)), if_neg z]
  rw [if_neg c0, if_neg c0]
  by_cases c0 : c = 100009
  · rw [if_pos c0, if_pos c0]
  rw [if_neg c0, if_neg c0]
theorem c_valueOf {h : Hp} {q : Nat} {w : Nat → Int64} (R : RP h q) (hw : ∀ i, i < 10 → hJ h (q + 2) i = w i) (c : Int32) : f_X1_valueOf h q c = some (vC w c) := by
  unfold f_X1_valueOf vC
  by_cases z : -1 - c < 0
  · rw [if_pos z, if_pos z]
  · rw [if_neg z, if_neg z]
    by_cases y : (10 : Int32) ≤ -1 - c
    · rw [if_pos y, if_pos y]
    · rw [if_neg y, if_neg y, R.2.1, bs, R.2.2.2.1]
      obtain ⟨m, m1, m2⟩ := i_nat z
      have m10 : m < 10 := by
        by_cases x : m < 10
        · exact x
        · exact absurd (show (10 : Int32) ≤ -1 - c by rw [m2]; exact nI_le (a := 10) (by omega) m1) y
      rw [m2, if_inI m10 m1, nI_clamp m1, hw m m10]
