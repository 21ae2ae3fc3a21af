/-! ===== PURE FROM HERE ON: heaps read behind writes ===== -/
theorem hI_sI (h : Hp) (v k : Nat) (x : Int32) (a j : Nat) : hI (sI h v k x) a j = if a = v ∧ j = k then x else hI h a j := rfl
theorem hJ_sI (h : Hp) (v k : Nat) (x : Int32) : hJ (sI h v k x) = hJ h := rfl
theorem hP_sI (h : Hp) (v k : Nat) (x : Int32) : hP (sI h v k x) = hP h := rfl
theorem hL_sI (h : Hp) (v k : Nat) (x : Int32) : hL (sI h v k x) = hL h := rfl
theorem hN_sI (h : Hp) (v k : Nat) (x : Int32) : hN (sI h v k x) = hN h := rfl
theorem hI_sJ (h : Hp) (v k : Nat) (x : Int64) : hI (sJ h v k x) = hI h := rfl
theorem hJ_sJ (h : Hp) (v k : Nat) (x : Int64) (a j : Nat) : hJ (sJ h v k x) a j = if a = v ∧ j = k then x else hJ h a j := rfl
theorem hP_sJ (h : Hp) (v k : Nat) (x : Int64) : hP (sJ h v k x) = hP h := rfl
theorem hL_sJ (h : Hp) (v k : Nat) (x : Int64) : hL (sJ h v k x) = hL h := rfl
theorem hN_sJ (h : Hp) (v k : Nat) (x : Int64) : hN (sJ h v k x) = hN h := rfl
theorem hI_sP (h : Hp) (v k : Nat) (x : Option Nat) : hI (sP h v k x) = hI h := rfl
theorem hJ_sP (h : Hp) (v k : Nat) (x : Option Nat) : hJ (sP h v k x) = hJ h := rfl
theorem hP_sP (h : Hp) (v k : Nat) (x : Option Nat) (a j : Nat) : hP (sP h v k x) a j = if a = v ∧ j = k then x else hP h a j := rfl
theorem hL_sP (h : Hp) (v k : Nat) (x : Option Nat) : hL (sP h v k x) = hL h := rfl
theorem hN_sP (h : Hp) (v k : Nat) (x : Option Nat) : hN (sP h v k x) = hN h := rfl
theorem hI_sC (h : Hp) (a0 a1 sp dp n a j : Nat) : hI (sC h a0 a1 sp dp n) a j = if a = a1 then va_cpy (hI h a0) (hI h a1) sp dp n j else hI h a j := rfl
theorem hJ_sC (h : Hp) (a0 a1 sp dp n : Nat) : hJ (sC h a0 a1 sp dp n) = hJ h := rfl
theorem hP_sC (h : Hp) (a0 a1 sp dp n : Nat) : hP (sC h a0 a1 sp dp n) = hP h := rfl
theorem hL_sC (h : Hp) (a0 a1 sp dp n : Nat) : hL (sC h a0 a1 sp dp n) = hL h := rfl
theorem hN_sC (h : Hp) (a0 a1 sp dp n : Nat) : hN (sC h a0 a1 sp dp n) = hN h := rfl
theorem hI_nO (h : Hp) (c z a j : Nat) : hI (nO h c z) a j = if a = hN h then 0 else hI h a j := rfl
theorem hP_nO (h : Hp) (c z a j : Nat) : hP (nO h c z) a j = if a = hN h then none else hP h a j := rfl
theorem hL_nO (h : Hp) (c z a : Nat) : hL (nO h c z) a = if a = hN h then z else hL h a := rfl
theorem hN_nO (h : Hp) (c z : Nat) : hN (nO h c z) = hN h + 1 := rfl
theorem bs {α β : Type} (a : α) (f : α → Option β) : Option.bind (some a) f = f a := rfl
theorem b2s {α β γ : Type} (a : α) (b : β) (f : α → β → Option γ) : b2 (some (a, b)) f = f a b := rfl
theorem lts {α β : Type} (a : α) (f : α → Option β) : lt a f = f a := rfl
theorem Hp_ext {a b : Hp} (h1 : hN a = hN b) (h2 : hK a = hK b) (h3 : hI a = hI b) (h4 : hJ a = hJ b) (h5 : hP a = hP b) (h6 : hL a = hL b) : a = b := by
  obtain ⟨n, k, i, j, p, l⟩ := a
  obtain ⟨n', k', i', j', p', l'⟩ := b
  cases h1; cases h2; cases h3; cases h4; cases h5; cases h6
  rfl
/-- one row of ints in place of another -/
def pR (h : Hp) (v : Nat) (f : Nat → Int32) : Hp := (hN h, hK h, fun a => if a = v then f else hI h a, hJ h, hP h, hL h)
theorem hI_pR (h : Hp) (v : Nat) (f : Nat → Int32) (a : Nat) : hI (pR h v f) a = if a = v then f else hI h a := rfl
theorem hP_pR (h : Hp) (v : Nat) (f : Nat → Int32) : hP (pR h v f) = hP h := rfl
theorem hL_pR (h : Hp) (v : Nat) (f : Nat → Int32) : hL (pR h v f) = hL h := rfl
theorem hN_pR (h : Hp) (v : Nat) (f : Nat → Int32) : hN (pR h v f) = hN h := rfl
theorem hJ_pR (h : Hp) (v : Nat) (f : Nat → Int32) : hJ (pR h v f) = hJ h := rfl
theorem hI_pR_s (h : Hp) (v : Nat) (f : Nat → Int32) : hI (pR h v f) v = f := if_pos rfl
theorem hI_pR_o (h : Hp) (v : Nat) (f : Nat → Int32) {a : Nat} (ha : a ≠ v) : hI (pR h v f) a = hI h a := if_neg ha
theorem sI_pR (h : Hp) (v k : Nat) (x : Int32) : sI h v k x = pR h v (upd (hI h v) k x) := by
  unfold sI pR
  congr 3
  funext a j
  by_cases ha : a = v
  · subst ha
    rw [if_pos rfl]
    unfold upd
    by_cases hj : j = k
    · rw [if_pos ⟨rfl, hj⟩, if_pos hj]
    · rw [if_neg (fun z => hj z.2), if_neg hj]
  · rw [if_neg (fun z => ha z.1), if_neg ha]
theorem pR_pR (h : Hp) (v : Nat) (f g : Nat → Int32) : pR (pR h v f) v g = pR h v g := by
  refine Hp_ext rfl rfl (funext fun a => ?_) rfl rfl rfl
  show (if a = v then g else if a = v then f else hI h a) = (if a = v then g else hI h a)
  by_cases ha : a = v
  · rw [if_pos ha, if_pos ha]
  · rw [if_neg ha, if_neg ha, if_neg ha]
theorem pR_self (h : Hp) (v : Nat) : pR h v (hI h v) = h := by
  obtain ⟨n, k, i, j, p, l⟩ := h
  unfold pR
  have e : (fun a => if a = v then hI (n, k, i, j, p, l) v else hI (n, k, i, j, p, l) a) = i := by
    funext a
    by_cases ha : a = v
    · subst ha
      rw [if_pos rfl]
      rfl
    · rw [if_neg ha]
      rfl
  rw [e]
  rfl
theorem pR_comm (h : Hp) {v w : Nat} (f g : Nat → Int32) (hvw : v ≠ w) : pR (pR h v f) w g = pR (pR h w g) v f := by
  refine Hp_ext rfl rfl (funext fun a => ?_) rfl rfl rfl
  show (if a = w then g else if a = v then f else hI h a) = (if a = v then f else if a = w then g else hI h a)
  by_cases h1 : a = v
  · subst h1
    rw [if_neg hvw, if_pos rfl, if_pos rfl]
  · rw [if_neg h1, if_neg h1]
theorem upd_s (f : Nat → Int32) (k : Nat) (x : Int32) : upd f k x k = x := if_pos rfl
theorem upd_o (f : Nat → Int32) {k j : Nat} (x : Int32) (h : j ≠ k) : upd f k x j = f j := if_neg h
/-- ints and numbers -/
theorem nI_lit0 : nI 0 = 0 := rfl
theorem nI_nonneg {n : Nat} (h : n < 2 ^ 31) : 0 ≤ nI n := nI_pos' h
theorem in_nI {n m : Nat} (h : n < m) (hn : n < 2 ^ 31) : 0 ≤ nI n ∧ (nI n).toNatClampNeg < m := ⟨nI_pos' hn, by rw [nI_clamp hn]; exact h⟩
theorem if_inI {n m : Nat} {α : Type} {a b : α} (h : n < m) (hn : n < 2 ^ 31) : (if 0 ≤ nI n ∧ (nI n).toNatClampNeg < m then a else b) = a := if_pos (in_nI h hn)
