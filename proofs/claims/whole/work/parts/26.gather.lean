/-! ===== the tips that may be, in the order of a run ===== -/
/-- of the m numbers from n on, those with p -/
def LF (p : Nat → Bool) : Nat → Nat → List Nat
  | 0, _ => []
  | m + 1, n => if p n then n :: LF p m (n + 1) else LF p m (n + 1)
def tB (α : SA) : Nat := bgs α + 1
def tM (α : SA) : Nat := (lvl α - 1) * (tB α * tB α)
/-- who is the i-th: behind all barges nobody -/
def tdi (α : SA) (i : Nat) : Nat := if i < bgs α then i + 1 else 0
def tk (α : SA) (n : Nat) : Nat := n / (tB α * tB α)
def td (α : SA) (n : Nat) : Nat := tdi α (n / tB α % tB α)
def tu (α : SA) (n : Nat) : Nat := tdi α (n % tB α)
def tc (α : SA) (n : Nat) : Nat := cd (tk α n) (td α n) (tu α n)
def lgl (α : SA) (rl : RLT) (n : Nat) : Bool := decide (¬ (td α n = 0 ∧ tu α n = 0) ∧ Lw α rl (tk α n) (td α n) (tu α n) = 0)
def TL (α : SA) (rl : RLT) : List Nat := LF (lgl α rl) (tM α) 0
theorem tdi_le (α : SA) (i : Nat) : tdi α i ≤ bgs α := by unfold tdi; split <;> omega
theorem td_le (α : SA) (n : Nat) : td α n ≤ bgs α := tdi_le _ _
theorem tu_le (α : SA) (n : Nat) : tu α n ≤ bgs α := tdi_le _ _
theorem n_kij {α : SA} {k i j : Nat} (hi : i < tB α) (hj : j < tB α) : tk α (k * (tB α * tB α) + i * tB α + j) = k ∧ td α (k * (tB α * tB α) + i * tB α + j) = tdi α i ∧ tu α (k * (tB α * tB α) + i * tB α + j) = tdi α j := by
  have hB : 0 < tB α := by unfold tB; omega
  have e1 : k * (tB α * tB α) + i * tB α + j = tB α * (k * tB α + i) + j := by rw [Nat.mul_add, Nat.mul_left_comm (tB α) k, Nat.mul_comm (tB α) i]
  have d1 : (k * (tB α * tB α) + i * tB α + j) / tB α = k * tB α + i := by rw [e1, Nat.mul_add_div hB, Nat.div_eq_of_lt hj, Nat.add_zero]
  have d2 : (k * tB α + i) / tB α = k := by rw [Nat.mul_comm, Nat.mul_add_div hB, Nat.div_eq_of_lt hi, Nat.add_zero]
  have m2 : (k * tB α + i) % tB α = i := by rw [Nat.mul_comm, Nat.mul_add_mod, Nat.mod_eq_of_lt hi]
  have m1 : (k * (tB α * tB α) + i * tB α + j) % tB α = j := by rw [e1, Nat.mul_add_mod, Nat.mod_eq_of_lt hj]
  unfold tk td tu
  rw [← Nat.div_div_eq_div_mul, d1, d2, m2, m1]
  exact ⟨rfl, rfl, rfl⟩
theorem LF_skip {p : Nat → Bool} : ∀ (c m n : Nat), (∀ x, n ≤ x → x < n + c → p x = false) → LF p (m + c) n = LF p m (n + c)
  | 0, _, _, _ => rfl
  | c + 1, m, n, h => by
    show LF p (m + c + 1) n = _
    rw [LF, if_neg (by rw [h n (by omega) (by omega)]; decide), LF_skip c m (n + 1) (fun x h1 h2 => h x (by omega) (by omega)), show n + 1 + c = n + (c + 1) by omega]
def Gth (p : Nat → Bool) (c : Nat → Nat) (M room v2 n z : Nat) (h : Hp) (out : Option (Int32 × Hp)) : Prop :=
  ∃ h', out = some (nI (z + ((LF p (M - n) n).take (room - z)).length), h') ∧ (∀ i, i < ((LF p (M - n) n).take (room - z)).length → hI h' v2 (z + i) = nI (c (((LF p (M - n) n).take (room - z)).getD i 0))) ∧ Fr (fun a j => a = v2 ∧ z ≤ j) h h'
theorem G_stop {p : Nat → Bool} {c : Nat → Nat} {M room v2 n z : Nat} {h : Hp} (hz : M ≤ n ∨ room ≤ z) : Gth p c M room v2 n z h (some (nI z, h)) := by
  have e : (LF p (M - n) n).take (room - z) = [] := by
    cases hz with
    | inl hz => rw [show M - n = 0 by omega, LF, List.take_nil]
    | inr hz => rw [show room - z = 0 by omega]; rfl
  unfold Gth
  rw [e]
  exact ⟨h, rfl, fun i hi => absurd hi (by simp), Fr_refl h⟩
theorem G_full {p : Nat → Bool} {c : Nat → Nat} {M room v2 n n' z : Nat} {h : Hp} {out : Option (Int32 × Hp)} (hz : room ≤ z) (G : Gth p c M room v2 n z h out) : Gth p c M room v2 n' z h out := by
  unfold Gth at G ⊢
  rw [show room - z = 0 by omega, List.take_zero] at G ⊢
  exact G
theorem G_J {p : Nat → Bool} {c : Nat → Nat} {M room v2 n z : Nat} {h h1 : Hp} {out : Option (Int32 × Hp)} (F : Fr PJ h h1) (G : Gth p c M room v2 n z h1 out) : Gth p c M room v2 n z h out := by
  obtain ⟨h', e, g, F'⟩ := G
  exact ⟨h', e, g, Fr_trans (Fr_J F) F'⟩
theorem G_skip {p : Nat → Bool} {c : Nat → Nat} {M room v2 n z : Nat} {h : Hp} {out : Option (Int32 × Hp)} (b : Nat) (hb : n + b ≤ M) (hp : ∀ x, n ≤ x → x < n + b → p x = false) (G : Gth p c M room v2 (n + b) z h out) : Gth p c M room v2 n z h out := by
  unfold Gth at G ⊢
  rw [show M - n = M - (n + b) + b by omega, LF_skip b _ n hp]
  exact G
theorem G_take {p : Nat → Bool} {c : Nat → Nat} {M room v2 n z : Nat} {h : Hp} {out : Option (Int32 × Hp)} (hn : n < M) (hz : z < room) (hp : p n = true) (G : Gth p c M room v2 (n + 1) (z + 1) (sI h v2 z (nI (c n))) out) : Gth p c M room v2 n z h out := by
  unfold Gth at G ⊢
  rw [show M - n = M - (n + 1) + 1 by omega, LF, if_pos hp, show room - z = room - (z + 1) + 1 by omega, List.take_succ_cons]
  obtain ⟨h', e, g, F⟩ := G
  refine ⟨h', ?_, ?_, ?_⟩
  · rw [e, List.length_cons, show z + 1 + (List.take (room - (z + 1)) (LF p (M - (n + 1)) (n + 1))).length = z + ((List.take (room - (z + 1)) (LF p (M - (n + 1)) (n + 1))).length + 1) by omega]
  · intro i hi
    cases i with
    | zero =>
      rw [Nat.add_zero, F.2.2.2 v2 z (fun w => by omega), hI_sI, if_pos ⟨rfl, rfl⟩]
      rfl
    | succ i =>
      have := g i (by simpa using hi)
      rw [show z + (i + 1) = z + 1 + i by omega, this]
      rfl
  · refine Fr_trans (Fr_sI _ _ _ _ ⟨rfl, Nat.le_refl z⟩) (Fr_mono F (fun a j w => ⟨w.1, by omega⟩))
/-- what the search for tips stands on -/
def Gx (N : Nat) (s v2 len : Nat) (v1 : Option Nat) (α : SA) (rl : RLT) (h : Hp) : Prop := Ac h s α ∧ Rc N h v1 rl ∧ hL h v2 = len
theorem Gx_J {N s v2 len : Nat} {v1 : Option Nat} {α : SA} {rl : RLT} {h h' : Hp} (F : Fr PJ h h') (H : Gx N s v2 len v1 α rl h) : Gx N s v2 len v1 α rl h' := ⟨Fr_Ac_J F H.1, Rc_Fr F (fun _ _ _ z => z) H.2.1, by rw [F.2.2.1]; exact H.2.2⟩
theorem Gx_w {N s v2 len : Nat} {v1 : Option Nat} {α : SA} {rl : RLT} {h h' : Hp} {P : Nat → Nat → Prop} (F : Fr P h h') (hP1 : ∀ a j, P a j → a = v2) (hs : v2 < s ∨ s + 10 < v2) (hq : ∀ q, v1 = some q → q + 1 ≠ v2) (H : Gx N s v2 len v1 α rl h) : Gx N s v2 len v1 α rl h' :=
  ⟨Fr_Ac F (fun x j h1 h2 z => by have := hP1 _ _ z; omega) H.1, Rc_Fr F (fun q j e z => hq q e (hP1 _ _ z)) H.2.1, by rw [F.2.2.1]; exact H.2.2⟩
theorem Lw_not {α : SA} {rl : RLT} {k d u : Nat} (h : Rd α k 0 d = false) : ¬ Lw α rl k d u = 0 := by
  unfold Lw
  by_cases h1 : α 3 k = 0
  · rw [if_pos h1]; decide
  · rw [if_neg h1, if_pos (by rw [h]; rfl)]; decide
theorem c_gather_117 {N s v2 len room : Nat} {v1 : Option Nat} {α : SA} {rl : RLT} {h : Hp} (X : Gx N s v2 len v1 α rl h) (D : Dm α) (hN : 20 ≤ N) (hs : v2 < s ∨ s + 10 < v2) (hq : ∀ q, v1 = some q → q + 1 ≠ v2) (hr : room ≤ len) (hr2 : len < 1000) {k i j z : Nat} (hk : k + 1 < lvl α) (hi : i < tB α) (hj : j < tB α) (hz : z < room) {s14 : Hp → Nat → Option Nat → Nat → Int32 → Int32 → Int32 → Option (Int32 × Hp)} {s35 : Hp → Nat → Option Nat → Nat → Int32 → Int32 → Int32 → Int32 → Option (Int32 × Hp)} {s86 : Hp → Nat → Option Nat → Nat → Int32 → Int32 → Int32 → Int32 → Int32 → Int32 → Option (Int32 × Hp)} (hM : k * (tB α * tB α) + i * tB α + j < tM α)
    (S : ∀ h' z', z' ≤ room → Gx N s v2 len v1 α rl h' → Gth (lgl α rl) (tc α) (tM α) room v2 (k * (tB α * tB α) + i * tB α + j + 1) z' h' (s86 h' s v1 v2 (nI room) (nI z') (nI k) (nI i) (bI (tdi α i)) (nI (j + 1)))) :
    Gth (lgl α rl) (tc α) (tM α) room v2 (k * (tB α * tB α) + i * tB α + j) z h (f_X5_gatherTips_117 N s14 s35 s86 h s v1 v2 (nI room) (nI z) (nI k) (nI i) (bI (tdi α i)) (nI j) (bI (tdi α j))) := by
  obtain ⟨e1, e2, e3⟩ := n_kij (α := α) (k := k) hi hj
  unfold f_X5_gatherTips_117 f_X5_gatherTips_162
  rw [c_isTip X.1 D hk (tdi_le _ _) (tdi_le _ _), bs, nI_1]
  by_cases h0 : tdi α i = 0 ∧ tdi α j = 0
  · rw [if_pos h0, if_pos rfl]
    refine G_skip 1 (by omega) (fun x h1 h2 => ?_) (S h z (by omega) X)
    rw [show x = k * (tB α * tB α) + i * tB α + j by omega]
    unfold lgl
    rw [e2, e3]
    simp [h0]
  · rw [if_neg h0, if_neg (by decide)]
    obtain ⟨h1, e, F⟩ := c_law X.1 D hN X.2.1 hk (tdi_le α i) (tdi_le α j)
    rw [e, b2s]
    have X1 := Gx_J F X
    refine G_J F ?_
    by_cases h2 : Lw α rl k (tdi α i) (tdi α j) = 0
    · rw [if_pos h2, t_of, bs, X1.2.2, if_inI (by omega) (by omega), lts, nI_clamp (by omega), nI_1]
      have ec : tc α (k * (tB α * tB α) + i * tB α + j) = cd k (tdi α i) (tdi α j) := by unfold tc; rw [e1, e2, e3]
      refine G_take (by omega) hz (by unfold lgl; rw [e1, e2, e3]; exact decide_eq_true ⟨h0, h2⟩) ?_
      rw [ec]
      exact S _ (z + 1) (by omega) (Gx_w (P := fun a j => a = v2 ∧ j = z) (Fr_sI _ _ _ _ ⟨rfl, rfl⟩) (fun a j w => w.1) hs hq X1)
    · rw [if_neg h2]
      refine G_skip 1 (by omega) (fun x h3 h4 => ?_) (S h1 z (by omega) X1)
      rw [show x = k * (tB α * tB α) + i * tB α + j by omega]
      unfold lgl
      rw [e1, e2, e3]
      simp [h2]
theorem tM_lt {α : SA} {k i j : Nat} (hk : k + 1 < lvl α) (hi : i < tB α) (hj : j < tB α) : k * (tB α * tB α) + i * tB α + j < tM α := by
  unfold tM
  have a1 : i * tB α + tB α ≤ tB α * tB α := by
    rw [← Nat.succ_mul]
    exact Nat.mul_le_mul_right _ hi
  have a2 : (k + 1) * (tB α * tB α) ≤ (lvl α - 1) * (tB α * tB α) := Nat.mul_le_mul_right _ (by omega)
  rw [Nat.succ_mul] at a2
  omega
theorem c_gather_86 {N s v2 len room : Nat} {v1 : Option Nat} {α : SA} {rl : RLT} (D : Dm α) (hN : 20 ≤ N) (hs : v2 < s ∨ s + 10 < v2) (hq : ∀ q, v1 = some q → q + 1 ≠ v2) (hr : room ≤ len) (hr2 : len < 1000) {k i : Nat} (hk : k + 1 < lvl α) (hi : i < tB α) {s14 : Hp → Nat → Option Nat → Nat → Int32 → Int32 → Int32 → Option (Int32 × Hp)} {s35 : Hp → Nat → Option Nat → Nat → Int32 → Int32 → Int32 → Int32 → Option (Int32 × Hp)}
    (S : ∀ h' z', z' ≤ room → Gx N s v2 len v1 α rl h' → Gth (lgl α rl) (tc α) (tM α) room v2 (k * (tB α * tB α) + i * tB α + tB α) z' h' (s35 h' s v1 v2 (nI room) (nI z') (nI k) (nI (i + 1)))) :
    ∀ (m j n z : Nat) (h : Hp), j + m = tB α → m < n → z ≤ room → Gx N s v2 len v1 α rl h → Gth (lgl α rl) (tc α) (tM α) room v2 (k * (tB α * tB α) + i * tB α + j) z h (f_X5_gatherTips_86 N s14 s35 n h s v1 v2 (nI room) (nI z) (nI k) (nI i) (bI (tdi α i)) (nI j)) := by
  have h6 := D.2.2.2.2.1
  have hB : tB α = bgs α + 1 := rfl
  intro m
  induction m with
  | zero =>
    intro j n z h hj hn hz X
    obtain ⟨n, rfl⟩ : ∃ k, n = k + 1 := ⟨n - 1, by omega⟩
    rw [f_X5_gatherTips_86, ac_0 X.1 (by decide), D.2.1, if_pos (nI_lt (by omega) (by omega))]
    unfold f_X5_gatherTips_168
    rw [nI_1, show j = tB α by omega]
    exact S h z hz X
  | succ m ih =>
    intro j n z h hj hn hz X
    obtain ⟨n, rfl⟩ : ∃ k, n = k + 1 := ⟨n - 1, by omega⟩
    rw [f_X5_gatherTips_86, ac_0 X.1 (by decide), D.2.1, if_neg (nI_nlt (by omega) (by omega))]
    by_cases hz1 : room ≤ z
    · rw [if_pos (nI_le hz1 (by omega))]
      unfold f_X5_gatherTips_168
      rw [nI_1]
      exact G_full hz1 (S h z hz X)
    · rw [if_neg (nI_ge (by omega) (by omega))]
      have key := c_gather_117 X D hN hs hq hr hr2 hk hi (j := j) (by omega) (z := z) (by omega) (s14 := s14) (s35 := s35) (s86 := f_X5_gatherTips_86 N s14 s35 n) (tM_lt hk hi (by omega)) (fun h' z' hz' X' => ih (j + 1) n z' h' (by omega) (by omega) hz' X')
      by_cases hj1 : j < bgs α
      · rw [if_neg (nI_ge (by omega) (by omega))]
        rw [show bI (tdi α j) = nI j by unfold tdi; rw [if_pos hj1]; rfl] at key
        exact key
      · rw [if_pos (nI_le (by omega) (by omega))]
        rw [show bI (tdi α j) = -1 by unfold tdi; rw [if_neg hj1]; rfl] at key
        exact key
theorem c_gather_66 {N s v2 len room : Nat} {v1 : Option Nat} {α : SA} {rl : RLT} (D : Dm α) (hN : 20 ≤ N) (hs : v2 < s ∨ s + 10 < v2) (hq : ∀ q, v1 = some q → q + 1 ≠ v2) (hr : room ≤ len) (hr2 : len < 1000) {k i : Nat} (hk : k + 1 < lvl α) (hi : i < tB α) {s14 : Hp → Nat → Option Nat → Nat → Int32 → Int32 → Int32 → Option (Int32 × Hp)} {s35 : Hp → Nat → Option Nat → Nat → Int32 → Int32 → Int32 → Int32 → Option (Int32 × Hp)}
    (S : ∀ h' z', z' ≤ room → Gx N s v2 len v1 α rl h' → Gth (lgl α rl) (tc α) (tM α) room v2 (k * (tB α * tB α) + i * tB α + tB α) z' h' (s35 h' s v1 v2 (nI room) (nI z') (nI k) (nI (i + 1)))) {z : Nat} {h : Hp} (hz : z ≤ room) (X : Gx N s v2 len v1 α rl h) :
    Gth (lgl α rl) (tc α) (tM α) room v2 (k * (tB α * tB α) + i * tB α) z h (f_X5_gatherTips_66 N s14 s35 h s v1 v2 (nI room) (nI z) (nI k) (nI i) (bI (tdi α i))) := by
  have h6 := D.2.2.2.2.1
  have hB : tB α = bgs α + 1 := rfl
  unfold f_X5_gatherTips_66
  rw [c_isReady X.1 D (tdi_le _ _), bs]
  by_cases h1 : Rd α k 0 (tdi α i) = true
  · rw [if_neg (by rw [b2i_0, h1]; decide)]
    exact c_gather_86 D hN hs hq hr hr2 hk hi S (tB α) 0 N z h (by omega) (by omega) hz X
  · rw [if_pos (by rw [b2i_0]; simpa using h1)]
    unfold f_X5_gatherTips_168
    rw [nI_1]
    refine G_skip (tB α) (by have := tM_lt hk hi (j := bgs α) (by omega); omega) (fun x h3 h4 => ?_) (S h z hz X)
    obtain ⟨e1, e2, e3⟩ := n_kij (α := α) (k := k) (j := x - (k * (tB α * tB α) + i * tB α)) hi (by omega)
    rw [show x = k * (tB α * tB α) + i * tB α + (x - (k * (tB α * tB α) + i * tB α)) by omega]
    unfold lgl
    rw [e1, e2, e3]
    simp [Lw_not (show Rd α k 0 (tdi α i) = false by simpa using h1)]
theorem c_gather_35 {N s v2 len room : Nat} {v1 : Option Nat} {α : SA} {rl : RLT} (D : Dm α) (hN : 20 ≤ N) (hs : v2 < s ∨ s + 10 < v2) (hq : ∀ q, v1 = some q → q + 1 ≠ v2) (hr : room ≤ len) (hr2 : len < 1000) {k : Nat} (hk : k + 1 < lvl α) {s14 : Hp → Nat → Option Nat → Nat → Int32 → Int32 → Int32 → Option (Int32 × Hp)}
    (S : ∀ h' z', z' ≤ room → Gx N s v2 len v1 α rl h' → Gth (lgl α rl) (tc α) (tM α) room v2 ((k + 1) * (tB α * tB α)) z' h' (s14 h' s v1 v2 (nI room) (nI z') (nI (k + 1)))) :
    ∀ (m i n z : Nat) (h : Hp), i + m = tB α → m < n → z ≤ room → Gx N s v2 len v1 α rl h → Gth (lgl α rl) (tc α) (tM α) room v2 (k * (tB α * tB α) + i * tB α) z h (f_X5_gatherTips_35 N s14 n h s v1 v2 (nI room) (nI z) (nI k) (nI i)) := by
  have h6 := D.2.2.2.2.1
  have hB : tB α = bgs α + 1 := rfl
  intro m
  induction m with
  | zero =>
    intro j n z h hj hn hz X
    obtain ⟨n, rfl⟩ : ∃ k, n = k + 1 := ⟨n - 1, by omega⟩
    rw [f_X5_gatherTips_35, ac_0 X.1 (by decide), D.2.1, if_pos (nI_lt (by omega) (by omega))]
    unfold f_X5_gatherTips_174
    rw [nI_1, show j = tB α by omega, ← Nat.succ_mul]
    exact S h z hz X
  | succ m ih =>
    intro j n z h hj hn hz X
    obtain ⟨n, rfl⟩ : ∃ k, n = k + 1 := ⟨n - 1, by omega⟩
    rw [f_X5_gatherTips_35, ac_0 X.1 (by decide), D.2.1, if_neg (nI_nlt (by omega) (by omega))]
    by_cases hz1 : room ≤ z
    · rw [if_pos (nI_le hz1 (by omega))]
      unfold f_X5_gatherTips_174
      rw [nI_1]
      exact G_full hz1 (S h z hz X)
    · rw [if_neg (nI_ge (by omega) (by omega))]
      have key := c_gather_66 D hN hs hq hr hr2 hk (i := j) (by omega) (s14 := s14) (s35 := f_X5_gatherTips_35 N s14 n) (fun h' z' hz' X' => by
        rw [Nat.add_assoc, ← Nat.succ_mul]
        exact ih (j + 1) n z' h' (by omega) (by omega) hz' X') hz X
      by_cases hj1 : j < bgs α
      · rw [if_neg (nI_ge (by omega) (by omega))]
        rw [show bI (tdi α j) = nI j by unfold tdi; rw [if_pos hj1]; rfl] at key
        exact key
      · rw [if_pos (nI_le (by omega) (by omega))]
        rw [show bI (tdi α j) = -1 by unfold tdi; rw [if_neg hj1]; rfl] at key
        exact key
theorem c_gather_14 {N s v2 len room : Nat} {v1 : Option Nat} {α : SA} {rl : RLT} (D : Dm α) (hN : 20 ≤ N) (hs : v2 < s ∨ s + 10 < v2) (hq : ∀ q, v1 = some q → q + 1 ≠ v2) (hr : room ≤ len) (hr2 : len < 1000) (h0 : 0 < lvl α) :
    ∀ (m k n z : Nat) (h : Hp), k + m + 1 = lvl α → m < n → z ≤ room → Gx N s v2 len v1 α rl h → Gth (lgl α rl) (tc α) (tM α) room v2 (k * (tB α * tB α)) z h (f_X5_gatherTips_14 N n h s v1 v2 (nI room) (nI z) (nI k)) := by
  have h8 := D.2.2.2.1
  have h6 := D.2.2.2.2.1
  have hB : tB α = bgs α + 1 := rfl
  intro m
  induction m with
  | zero =>
    intro k n z h hk hn hz X
    obtain ⟨n, rfl⟩ : ∃ k, n = k + 1 := ⟨n - 1, by omega⟩
    rw [f_X5_gatherTips_14, ac_0 X.1 (by decide), D.1, n_1, pk_sub (by omega), if_pos (nI_le (by omega) (by omega))]
    refine G_stop (Or.inl ?_)
    unfold tM
    rw [show lvl α - 1 = k by omega]
    exact Nat.le_refl _
  | succ m ih =>
    intro k n z h hk hn hz X
    obtain ⟨n, rfl⟩ : ∃ k, n = k + 1 := ⟨n - 1, by omega⟩
    rw [f_X5_gatherTips_14, ac_0 X.1 (by decide), D.1, n_1, pk_sub (by omega), if_neg (nI_ge (by omega) (by omega))]
    by_cases hz1 : room ≤ z
    · rw [if_pos (nI_le hz1 (by omega))]
      exact G_stop (Or.inr hz1)
    · rw [if_neg (nI_ge (by omega) (by omega))]
      have key := c_gather_35 D hN hs hq hr hr2 (k := k) (by omega) (s14 := f_X5_gatherTips_14 N n) (fun h' z' hz' X' => ih (k + 1) n z' h' (by omega) (by omega) hz' X') (tB α) 0 N z h (by omega) (by omega) hz X
      rw [Nat.zero_mul, Nat.add_zero] at key
      exact key
theorem c_gather {N s v2 len most : Nat} {v1 : Option Nat} {α : SA} {rl : RLT} {h : Hp} (D : Dm α) (hN : 20 ≤ N) (hs : v2 < s ∨ s + 10 < v2) (hq : ∀ q, v1 = some q → q + 1 ≠ v2) (hr : most ≤ len) (hr2 : len < 1000) (h0 : 0 < lvl α) (X : Gx N s v2 len v1 α rl h) :
    ∃ h', f_X5_gatherTips N h s v1 v2 (nI most) = some (nI ((TL α rl).take most).length, h') ∧ (∀ i, i < ((TL α rl).take most).length → hI h' v2 i = nI (tc α (((TL α rl).take most).getD i 0))) ∧ Fr (fun a _ => a = v2) h h' := by
  have h8 := D.2.2.2.1
  have G := c_gather_14 D hN hs hq hr hr2 h0 (lvl α - 1) 0 N 0 h (by omega) (by omega) (by omega) X
  obtain ⟨h', e, g, F⟩ := G
  simp only [Nat.zero_mul, Nat.sub_zero, Nat.zero_add] at e g
  refine ⟨h', ?_, g, Fr_mono F (fun a j z => z.1)⟩
  unfold f_X5_gatherTips
  rw [lts, X.2.2, if_neg (nI_nlt (by omega) (by omega))]
  exact e
