/-! ===== fifteen tips at most ===== -/
def cb (p : Nat → Bool) : Nat → Nat
  | 0 => 0
  | n + 1 => cb p n + (if p n then 1 else 0)
theorem LF_app {p : Nat → Bool} : ∀ (a b n : Nat), LF p (a + b) n = LF p a n ++ LF p b (n + a)
  | 0, b, n => by rw [Nat.zero_add, Nat.add_zero]; rfl
  | a + 1, b, n => by
    rw [show a + 1 + b = a + b + 1 by omega, LF, LF, LF_app a b (n + 1), show n + 1 + a = n + (a + 1) by omega]
    split <;> rfl
theorem LF_sum {p : Nat → Bool} (C : Nat) : ∀ (K n : Nat), (LF p (K * C) n).length = sumB (fun k => (LF p C (n + k * C)).length) K
  | 0, n => by rw [Nat.zero_mul]; rfl
  | K + 1, n => by
    rw [Nat.succ_mul, LF_app, List.length_append, LF_sum C K n]
    rfl
theorem LF_le {p e : Nat → Bool} {n : Nat} : ∀ (m : Nat), (∀ j, j < m → p (n + j) = true → e j = true) → (LF p m n).length ≤ cb e m
  | 0, _ => Nat.le_refl _
  | m + 1, h => by
    rw [LF_app m 1 n, List.length_append]
    have h1 := LF_le m (fun j hj => h j (by omega))
    have h2 : (LF p 1 (n + m)).length ≤ if e m then 1 else 0 := by
      rw [LF]
      by_cases hp : p (n + m) = true
      · rw [if_pos hp, if_pos (h m (by omega) hp)]; exact Nat.le_refl _
      · rw [if_neg hp]; exact Nat.zero_le _
    exact Nat.add_le_add h1 h2
theorem cb_sum {c : Nat → Bool} (v : Nat) : ∀ n, sumB (fun i => if c i then v else 0) n = cb c n * v
  | 0 => by rw [show cb c 0 = 0 from rfl, Nat.zero_mul]; rfl
  | n + 1 => by
    show sumB _ n + _ = (cb c n + _) * v
    rw [cb_sum v n, Nat.add_mul]
    by_cases h : c n = true
    · simp [h]
    · simp [h]
def dk (α : SA) (k : Nat) : Nat := cb (fun b => Rd α k 0 (b + 1)) (bgs α)
def uk (α : SA) (k : Nat) : Nat := cb (fun b => Rd α (k + 1) 1 (b + 1)) (bgs α)
theorem cb_congr {p q : Nat → Bool} : ∀ n, (∀ j, j < n → p j = q j) → cb p n = cb q n
  | 0, _ => rfl
  | n + 1, h => by
    show cb p n + _ = cb q n + _
    rw [cb_congr n (fun j hj => h j (by omega)), h n (by omega)]
theorem blk_le {α : SA} {rl : RLT} {k : Nat} : (LF (lgl α rl) (tB α * tB α) (k * (tB α * tB α))).length ≤ dk α k * (uk α k + 1) + uk α k := by
  rw [LF_sum (tB α) (tB α)]
  show sumB _ (bgs α) + _ ≤ _
  have hB : tB α = bgs α + 1 := rfl
  have rdd : ∀ i, i < bgs α → tdi α i = i + 1 := fun i hi => by unfold tdi; rw [if_pos hi]
  have rd0 : tdi α (bgs α) = 0 := by unfold tdi; rw [if_neg (Nat.lt_irrefl _)]
  have eu : cb (fun j => Rd α (k + 1) 1 (tdi α j)) (bgs α) = uk α k := cb_congr _ (fun j hj => by rw [rdd j hj])
  have h1 : sumB (fun i => (LF (lgl α rl) (tB α) (k * (tB α * tB α) + i * tB α)).length) (bgs α) ≤ sumB (fun i => if Rd α k 0 (i + 1) then uk α k + 1 else 0) (bgs α) := by
    refine sumB_le _ (fun i hi => ?_)
    have lg : ∀ j, j < tB α → lgl α rl (k * (tB α * tB α) + i * tB α + j) = true → Rd α k 0 (i + 1) = true ∧ Rd α (k + 1) 1 (tdi α j) = true := by
      intro j hj hl
      obtain ⟨e1, e2, e3⟩ := n_kij (α := α) (k := k) (i := i) (by omega) hj
      have := Lw_0 (lgl_t hl).2
      rw [e1, e2, e3, rdd i hi] at this
      exact ⟨this.1, this.2.1⟩
    by_cases hc : Rd α k 0 (i + 1) = true
    · rw [if_pos hc]
      refine Nat.le_trans (LF_le (e := fun j => Rd α (k + 1) 1 (tdi α j)) _ (fun j hj hl => (lg j hj hl).2)) ?_
      show cb _ (bgs α) + _ ≤ _
      rw [eu]
      split <;> omega
    · rw [if_neg hc]
      refine Nat.le_trans (LF_le (e := fun _ => false) _ (fun j hj hl => absurd (lg j hj hl).1 hc)) ?_
      have : ∀ n, cb (fun _ => false) n = 0 := fun n => by
        induction n with
        | zero => rfl
        | succ n ih => show cb _ n + 0 = 0; rw [ih]
      rw [this]
      exact Nat.le_refl _
  rw [cb_sum] at h1
  have h2 : (LF (lgl α rl) (tB α) (k * (tB α * tB α) + bgs α * tB α)).length ≤ uk α k := by
    refine Nat.le_trans (LF_le (e := fun j => Rd α (k + 1) 1 (tdi α j) && decide (j < bgs α)) _ (fun j hj hl => ?_)) ?_
    · obtain ⟨e1, e2, e3⟩ := n_kij (α := α) (k := k) (i := bgs α) (by omega) hj
      have := lgl_t hl
      rw [e2, e3, rd0] at this
      have h3 := Lw_0 this.2
      rw [e1] at h3
      have hj2 : j < bgs α := by
        by_cases hh : j < bgs α
        · exact hh
        · exact absurd ⟨rfl, by unfold tdi; rw [if_neg hh]⟩ this.1
      show (_ && decide (j < bgs α)) = true
      rw [h3.2.1]
      simp [hj2]
    · show cb _ (bgs α) + _ ≤ _
      rw [cb_congr (q := fun j => Rd α (k + 1) 1 (tdi α j)) (bgs α) (fun j hj => by simp [hj]), eu]
      simp
  exact Nat.add_le_add h1 h2
theorem sum_one {f : Nat → Nat} (h1 : ∀ k, f k ≤ 1) (h2 : ∀ k j, f k = 1 → f j = 1 → k = j) : ∀ K, sumB f K ≤ 1 ∧ (∀ j, K ≤ j → f j = 1 → sumB f K = 0)
  | 0 => ⟨Nat.zero_le _, fun _ _ _ => rfl⟩
  | K + 1 => by
    obtain ⟨a, b⟩ := sum_one h1 h2 K
    have hK := h1 K
    refine ⟨?_, fun j hj e => ?_⟩
    · show sumB f K + f K ≤ 1
      by_cases e : f K = 1
      · rw [b K (Nat.le_refl _) e]; omega
      · omega
    · show sumB f K + f K = 0
      have : f K ≠ 1 := fun e2 => by have := h2 K j e2 e; omega
      rw [b j (by omega) e]
      omega
theorem sumB_add (f g : Nat → Nat) : ∀ n, sumB (fun k => f k + g k) n = sumB f n + sumB g n
  | 0 => rfl
  | n + 1 => by
    show sumB (fun k => f k + g k) n + (f n + g n) = sumB f n + f n + (sumB g n + g n)
    rw [sumB_add f g n]
    omega
def on1 (b : Bool) : Nat := if b then 1 else 0
theorem both_le {α : SA} (n : Nat) {K : Nat} (hK : K ≤ 8) : sumB (fun k => cb (fun b => Rd α k 0 (b + 1)) n + cb (fun b => Rd α (k + 1) 1 (b + 1)) n) K ≤ n := by
  induction n with
  | zero =>
    have : ∀ K, sumB (fun k => cb (fun b => Rd α k 0 (b + 1)) 0 + cb (fun b => Rd α (k + 1) 1 (b + 1)) 0) K = 0 := fun K => by
      induction K with
      | zero => rfl
      | succ K ih => show sumB _ K + 0 = 0; rw [ih]
    rw [this]
    exact Nat.le_refl _
  | succ n ih =>
    have e : (fun k => cb (fun b => Rd α k 0 (b + 1)) (n + 1) + cb (fun b => Rd α (k + 1) 1 (b + 1)) (n + 1)) = fun k => (cb (fun b => Rd α k 0 (b + 1)) n + cb (fun b => Rd α (k + 1) 1 (b + 1)) n) + (on1 (Rd α k 0 (n + 1)) + on1 (Rd α (k + 1) 1 (n + 1))) := by
      funext k
      show (cb (fun b => Rd α k 0 (b + 1)) n + on1 (Rd α k 0 (n + 1))) + (cb (fun b => Rd α (k + 1) 1 (b + 1)) n + on1 (Rd α (k + 1) 1 (n + 1))) = _
      omega
    rw [e, sumB_add]
    have key : sumB (fun k => on1 (Rd α k 0 (n + 1)) + on1 (Rd α (k + 1) 1 (n + 1))) K ≤ 1 := by
      have cut : sumB (fun k => on1 (Rd α k 0 (n + 1)) + on1 (Rd α (k + 1) 1 (n + 1))) K ≤ sumB (fun k => if k < 8 then on1 (Rd α k 0 (n + 1)) + on1 (Rd α (k + 1) 1 (n + 1)) else 0) K := sumB_le _ (fun k hk => by rw [if_pos (by omega)]; exact Nat.le_refl _)
      refine Nat.le_trans cut (sum_one (fun k => ?_) (fun k j hk hj => ?_) K).1
      · by_cases h8 : k < 8
        · rw [if_pos h8]
          by_cases a : Rd α k 0 (n + 1) = true
          · have : Rd α (k + 1) 1 (n + 1) = false := by
              have h0 := (of_decide_eq_true a).2
              show decide (α 5 n = nI (k + 1) ∧ α 8 n = 1) = false
              rw [h0]
              simp
            rw [a, this]; decide
          · have : Rd α k 0 (n + 1) = false := by simpa using a
            rw [this]
            have o : ∀ b, on1 false + on1 b ≤ 1 := by decide
            exact o _
        · rw [if_neg h8]; decide
      · by_cases h8 : k < 8
        · rw [if_pos h8] at hk
          by_cases j8 : j < 8
          · rw [if_pos j8] at hj
            have cl : ∀ k, k < 8 → on1 (Rd α k 0 (n + 1)) + on1 (Rd α (k + 1) 1 (n + 1)) = 1 → (α 5 n = nI k ∧ α 8 n = 0) ∨ (α 5 n = nI (k + 1) ∧ α 8 n = 1) := by
              intro k _ h
              by_cases a : Rd α k 0 (n + 1) = true
              · exact Or.inl (of_decide_eq_true a)
              · have : Rd α k 0 (n + 1) = false := by simpa using a
                rw [this] at h
                by_cases b : Rd α (k + 1) 1 (n + 1) = true
                · exact Or.inr (of_decide_eq_true b)
                · have : Rd α (k + 1) 1 (n + 1) = false := by simpa using b
                  rw [this] at h
                  exact absurd h (by decide)
            rcases cl k h8 hk with ⟨a1, a2⟩ | ⟨a1, a2⟩ <;> rcases cl j j8 hj with ⟨b1, b2⟩ | ⟨b1, b2⟩
            · rw [a1] at b1
              exact (nI_eq (by omega) (by omega)).mp b1
            · rw [a2] at b2; exact absurd b2 (by decide)
            · rw [a2] at b2; exact absurd b2 (by decide)
            · rw [a1] at b1
              have := (nI_eq (by omega) (by omega)).mp b1
              omega
          · rw [if_neg j8] at hj; cases hj
        · rw [if_neg h8] at hk; cases hk
    omega
def g15 (s : Nat) : Nat := s * s / 4 + s
theorem g15_fu : ∀ d, d ≤ 6 → ∀ u, u ≤ 6 → d + u ≤ 6 → d * (u + 1) + u ≤ g15 (d + u) := by decide
theorem g15_add : ∀ a, a ≤ 6 → ∀ b, b ≤ 6 → a + b ≤ 6 → g15 a + g15 b ≤ g15 (a + b) := by decide
theorem g15_6 : ∀ a, a ≤ 6 → g15 a ≤ 15 := by decide
theorem sum15 {d u : Nat → Nat} : ∀ K, sumB (fun k => d k + u k) K ≤ 6 → sumB (fun k => d k * (u k + 1) + u k) K ≤ g15 (sumB (fun k => d k + u k) K)
  | 0, _ => Nat.zero_le _
  | K + 1, h => by
    have h' : sumB (fun k => d k + u k) K + (d K + u K) ≤ 6 := h
    have ih := sum15 (d := d) (u := u) K (by omega)
    have a := g15_fu (d K) (by omega) (u K) (by omega) (by omega)
    have b := g15_add (sumB (fun k => d k + u k) K) (by omega) (d K + u K) (by omega) (by omega)
    show sumB _ K + (d K * (u K + 1) + u K) ≤ g15 (sumB _ K + (d K + u K))
    omega
theorem TL_15 {α : SA} {rl : RLT} (D : Dm α) : (TL α rl).length ≤ 15 := by
  have h8 := D.2.2.2.1
  have h6 := D.2.2.2.2.1
  unfold TL tM
  rw [LF_sum]
  have a : sumB (fun k => (LF (lgl α rl) (tB α * tB α) (0 + k * (tB α * tB α))).length) (lvl α - 1) ≤ sumB (fun k => dk α k * (uk α k + 1) + uk α k) (lvl α - 1) := sumB_le _ (fun k hk => by rw [Nat.zero_add]; exact blk_le)
  have b : sumB (fun k => dk α k + uk α k) (lvl α - 1) ≤ bgs α := both_le (bgs α) (by omega)
  have c := sum15 (d := dk α) (u := uk α) (lvl α - 1) (by omega)
  have d := g15_6 (sumB (fun k => dk α k + uk α k) (lvl α - 1)) (by omega)
  omega
