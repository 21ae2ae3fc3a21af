/-! ===== situations packed into numbers ===== -/
theorem or_I (a b : Nat) : nI a ||| nI b = nI (a ||| b) := by
  unfold nI
  apply Int32.toBitVec_inj.mp
  simp [BitVec.ofNat_or]
theorem orS {a k : Nat} (b : Nat) (h : a < 2 ^ k) : a ||| b * 2 ^ k = a + b * 2 ^ k := by
  rw [Nat.or_comm, Nat.mul_comm, ← Nat.two_pow_add_eq_or_of_lt h, Nat.add_comm]
theorem orL (a b : Nat) : lN a ||| lN b = lN (a ||| b) := by
  unfold lN
  apply Int64.toBitVec_inj.mp
  simp [BitVec.ofNat_or]
theorem maskL (n k : Nat) : lN n &&& lN (2 ^ k - 1) = lN (n % 2 ^ k) := by
  rw [← Nat.and_two_pow_sub_one_eq_mod]
  apply Int64.toBitVec_inj.mp
  show BitVec.ofNat 64 n &&& BitVec.ofNat 64 (2 ^ k - 1) = BitVec.ofNat 64 (n &&& (2 ^ k - 1))
  rw [BitVec.ofNat_and]
theorem lN_shl {a d : Nat} {D : Int64} (hD : (D.toBitVec.smod 64).toNat = d) : lN a <<< D = lN (a * 2 ^ d) := by
  apply Int64.toBitVec_inj.mp
  rw [Int64.toBitVec_shiftLeft, BitVec.shiftLeft_eq', hD]
  apply BitVec.eq_of_toNat_eq
  show (BitVec.ofNat 64 a <<< d).toNat = (BitVec.ofNat 64 (a * 2 ^ d)).toNat
  rw [BitVec.toNat_shiftLeft, BitVec.toNat_ofNat, BitVec.toNat_ofNat, Nat.shiftLeft_eq, Nat.mul_mod, Nat.mod_mod, ← Nat.mul_mod]
/-- the upper twelve bits of a long -/
theorem top12 (y : Int64) : ∃ n, n < 4096 ∧ ((y.toUInt64 >>> ((52 : Int32).toInt64.toUInt64 &&& Int64.toUInt64 63)).toInt64).toInt32 = nI n := by
  refine ⟨y.toUInt64.toNat / 2 ^ 52, ?_, ?_⟩
  · have := y.toUInt64.toNat_lt
    omega
  · have e1 : ((52 : Int32).toInt64.toUInt64 &&& Int64.toUInt64 63) = 52 := by decide
    rw [e1, ← lN_i]
    congr 1
    apply Int64.toBitVec_inj.mp
    apply BitVec.eq_of_toNat_eq
    show (y.toUInt64 >>> 52).toNat = (BitVec.ofNat 64 _).toNat
    have := y.toUInt64.toNat_lt
    rw [UInt64.toNat_shiftRight, BitVec.toNat_ofNat, Nat.shiftRight_eq_div_pow, show (52 : UInt64).toNat % 64 = 52 by decide, Nat.mod_eq_of_lt (by omega)]
theorem sh16 : ∀ j, j < 4 → (((nI (16 * j)).toInt64 &&& 63).toBitVec.smod 64).toNat = 16 * j := by decide
def pkN (B : Nat) (f : Nat → Nat) : Nat → Nat
  | 0 => 0
  | n + 1 => pkN B f n + f n * B ^ n
theorem pkN_lt {B : Nat} {f : Nat → Nat} : ∀ n, (∀ i, i < n → f i < B) → pkN B f n < B ^ n
  | 0, _ => by show 0 < B ^ 0; rw [Nat.pow_zero]; decide
  | n + 1, h => by
    have h1 := pkN_lt n (fun i hi => h i (by omega))
    have h2 : f n + 1 ≤ B := h n (by omega)
    have h3 := Nat.mul_le_mul_right (B ^ n) h2
    rw [Nat.add_mul, Nat.one_mul] at h3
    rw [Nat.pow_succ, Nat.mul_comm (B ^ n)]
    show pkN B f n + f n * B ^ n < _
    omega
theorem pkN_dig {B : Nat} (hB : 0 < B) {f : Nat → Nat} : ∀ n, (∀ i, i < n → f i < B) → ∀ i, i < n → pkN B f n / B ^ i % B = f i
  | n + 1, h, i, hi => by
    show (pkN B f n + f n * B ^ n) / B ^ i % B = f i
    by_cases e : i = n
    · subst e
      rw [Nat.add_mul_div_right _ _ (Nat.pow_pos hB), Nat.div_eq_of_lt (pkN_lt i (fun j hj => h j (by omega))), Nat.zero_add]
      exact Nat.mod_eq_of_lt (h i (by omega))
    · obtain ⟨m, rfl⟩ : ∃ m, n = i + m + 1 := ⟨n - i - 1, by omega⟩
      rw [show B ^ (i + m + 1) = B * B ^ m * B ^ i by rw [Nat.pow_succ, Nat.pow_add, Nat.mul_comm (B ^ i), Nat.mul_assoc, Nat.mul_comm (B ^ i) B, ← Nat.mul_assoc, Nat.mul_comm (B ^ m) B], ← Nat.mul_assoc, Nat.add_mul_div_right _ _ (Nat.pow_pos hB), Nat.mul_left_comm, Nat.add_mul_mod_self_left]
      exact pkN_dig hB (i + m + 1) (fun j hj => h j (by omega)) i (by omega)
theorem pkN_inj {B : Nat} (hB : 0 < B) {f g : Nat → Nat} {n : Nat} (hf : ∀ i, i < n → f i < B) (hg : ∀ i, i < n → g i < B) (e : pkN B f n = pkN B g n) : ∀ i, i < n → f i = g i := fun i hi => by rw [← pkN_dig hB n hf i hi, ← pkN_dig hB n hg i hi, e]
theorem pkN_congr {B : Nat} {f g : Nat → Nat} : ∀ n, (∀ i, i < n → f i = g i) → pkN B f n = pkN B g n
  | 0, _ => rfl
  | n + 1, h => by
    show pkN B f n + f n * B ^ n = pkN B g n + g n * B ^ n
    rw [pkN_congr n (fun i hi => h i (by omega)), h n (by omega)]
def pv (β : SA) (b : Nat) : Nat := (β 5 b).toNatClampNeg
def wv (β : SA) (l : Nat) : Nat := (β 1 l).toNatClampNeg
theorem pv_e {β : SA} (D : Dm β) (P : Plc β) {b : Nat} (hb : b < bgs β) : β 5 b = nI (pv β b) ∧ pv β b < 8 := by
  obtain ⟨p, hp, e⟩ := P b hb
  have h8 := D.2.2.2.1
  unfold pv
  rw [e, nI_clamp (by omega)]
  exact ⟨rfl, by omega⟩
theorem wv_e {β : SA} (W : Wtr β) {l : Nat} (hl : l < lvl β) : β 1 l = nI (wv β l) ∧ wv β l ≤ 19995 := by
  obtain ⟨w, e, hw⟩ := W l hl
  unfold wv
  rw [e, nI_clamp (by omega)]
  exact ⟨rfl, by omega⟩
def pkP (β : SA) : Nat := pkN 8 (pv β) (bgs β)
/-- how many levels the f-th word holds -/
def wl4 (β : SA) (f : Nat) : Nat := if lvl β - f < 4 then lvl β - f else 4
def pkW (β : SA) (f : Nat) : Nat := pkN 65536 (fun j => wv β (f + j)) (wl4 β f)
theorem sh3 : ∀ b, b < 6 → ((nI (3 * b) &&& 31).toBitVec.smod 32).toNat = 3 * b := by decide
theorem c_pkP_l {h : Hp} {s N : Nat} {β : SA} (A : Ac h s β) (D : Dm β) (P : Plc β) : ∀ (m b n : Nat), b + m = bgs β → m < n → f_X5_packedPlaces_4 N n h s (nI (pkN 8 (pv β) b)) (nI b) = some (nI (pkP β)) := by
  have h6 := D.2.2.2.2.1
  intro m
  induction m with
  | zero =>
    intro b n hb hn
    obtain ⟨n, rfl⟩ : ∃ k, n = k + 1 := ⟨n - 1, by omega⟩
    rw [f_X5_packedPlaces_4, ac_0 A (by decide), D.2.1, if_pos (nI_le (by omega) (by omega)), show b = bgs β by omega]
    rfl
  | succ m ih =>
    intro b n hb hn
    obtain ⟨n, rfl⟩ : ∃ k, n = k + 1 := ⟨n - 1, by omega⟩
    obtain ⟨e1, e2⟩ := pv_e D P (b := b) (by omega)
    have lt := pkN_lt (B := 8) (f := pv β) b (fun i hi => (pv_e D P (by omega)).2)
    have e8 : (8 : Nat) ^ b = 2 ^ (3 * b) := by rw [Nat.pow_mul]
    have b2 : (2 : Nat) ^ (3 * b) ≤ 2 ^ 15 := Nat.pow_le_pow_right (by decide) (by omega)
    have b3 : pv β b * 2 ^ (3 * b) ≤ 7 * 2 ^ 15 := Nat.mul_le_mul (by omega) b2
    rw [f_X5_packedPlaces_4, ac_0 A (by decide), D.2.1, if_neg (nI_ge (by omega) (by omega)), ac_p12 A, bs, ac_l5 A, if_inI (by omega) (by omega), lts, nI_clamp (by omega), ac_5 A (by omega), e1, n_3, pk_mul, pk_shlN _ (3 * b) (sh3 b (by omega)) (by omega), or_I, orS _ (by rw [← e8]; exact lt), nI_1, ← e8]
    exact ih (b + 1) n (by omega) (by omega)
theorem c_pkP {h : Hp} {s N : Nat} {β : SA} (A : Ac h s β) (D : Dm β) (P : Plc β) (hN : 20 ≤ N) : f_X5_packedPlaces N h s = some (nI (pkP β)) := c_pkP_l A D P (bgs β) 0 N (by omega) (by have := D.2.2.2.2.1; omega)
theorem c_pkW_l {h : Hp} {s N f : Nat} {β : SA} (A : Ac h s β) (D : Dm β) (W : Wtr β) (hf : f ≤ 4) : ∀ (m j n : Nat), j + m = wl4 β f → m < n → f_X5_packedWater_5 N n h s (nI f) (lN (pkN 65536 (fun j => wv β (f + j)) j)) (nI j) = some (lN (pkW β f)) := by
  have h8 := D.2.2.2.1
  have w1 : wl4 β f ≤ 4 ∧ wl4 β f ≤ lvl β - f ∧ (wl4 β f = 4 ∨ wl4 β f = lvl β - f) := by unfold wl4; split <;> omega
  intro m
  induction m with
  | zero =>
    intro j n hj hn
    obtain ⟨n, rfl⟩ : ∃ k, n = k + 1 := ⟨n - 1, by omega⟩
    rw [f_X5_packedWater_5, nI_add, ac_0 A (by decide), D.1]
    have e : some (lN (pkN 65536 (fun j => wv β (f + j)) j)) = some (lN (pkW β f)) := by rw [show j = wl4 β f by omega]; rfl
    by_cases h4 : j = 4
    · rw [if_pos (by rw [h4]; decide)]
      exact e
    · rw [if_neg (show ¬ (4 : Int32) ≤ nI j from nI_ge (b := 4) (by omega) (by decide)), if_pos (nI_le (by omega) (by omega))]
      exact e
  | succ m ih =>
    intro j n hj hn
    obtain ⟨n, rfl⟩ : ∃ k, n = k + 1 := ⟨n - 1, by omega⟩
    obtain ⟨e1, e2⟩ := wv_e W (l := f + j) (by omega)
    have lt := pkN_lt (B := 65536) (f := fun j => wv β (f + j)) j (fun i hi => by have := (wv_e W (l := f + i) (by omega)).2; show wv β (f + i) < _; omega)
    have e8 : (65536 : Nat) ^ j = 2 ^ (16 * j) := by rw [Nat.pow_mul]
    have b2 : (2 : Nat) ^ (16 * j) ≤ 2 ^ 48 := Nat.pow_le_pow_right (by decide) (by omega)
    have b3 : wv β (f + j) * 2 ^ (16 * j) ≤ 19995 * 2 ^ 48 := Nat.mul_le_mul (by omega) b2
    rw [f_X5_packedWater_5, nI_add, ac_0 A (by decide), D.1, if_neg (show ¬ (4 : Int32) ≤ nI j from nI_ge (b := 4) (by omega) (by decide)), if_neg (nI_ge (by omega) (by omega)), ac_p8 A, bs, ac_l1 A, if_inI (by omega) (by omega), lts, nI_clamp (by omega), ac_1 A (by omega), e1, show (16 : Int32) = nI 16 from rfl, pk_mul, nI_l (n := wv β (f + j)) (by omega), lN_shl (sh16 j (by omega)), orL, orS _ (by rw [← e8]; exact lt), nI_1, ← e8]
    exact ih (j + 1) n (by omega) (by omega)
theorem c_pkW {h : Hp} {s N f : Nat} {β : SA} (A : Ac h s β) (D : Dm β) (W : Wtr β) (hN : 20 ≤ N) (hf : f ≤ 4) : f_X5_packedWater N h s (nI f) = some (lN (pkW β f)) := c_pkW_l A D W hf (wl4 β f) 0 N (by omega) (by unfold wl4; split <;> omega)
theorem pkW_lt {β : SA} (W : Wtr β) (f : Nat) : pkW β f < 2 ^ 63 := by
  have w1 : wl4 β f ≤ 4 ∧ wl4 β f ≤ lvl β - f := by unfold wl4; split <;> omega
  unfold pkW
  have l1 := pkN_lt (B := 65536) (f := fun j => wv β (f + j)) (wl4 β f) (fun i hi => by have := (wv_e W (l := f + i) (by omega)).2; show wv β (f + i) < _; omega)
  by_cases e : wl4 β f = 4
  · rw [e] at l1 ⊢
    have l3 := pkN_lt (B := 65536) (f := fun j => wv β (f + j)) 3 (fun i hi => by have := (wv_e W (l := f + i) (by omega)).2; show wv β (f + i) < _; omega)
    have := (wv_e W (l := f + 3) (by omega)).2
    show pkN 65536 (fun j => wv β (f + j)) 3 + wv β (f + 3) * 65536 ^ 3 < _
    have e3 : (65536 : Nat) ^ 3 = 281474976710656 := by decide
    rw [e3] at l3 ⊢
    omega
  · have : (65536 : Nat) ^ (wl4 β f) ≤ 65536 ^ 3 := Nat.pow_le_pow_right (by decide) (by omega)
    have e3 : (65536 : Nat) ^ 3 = 281474976710656 := by decide
    omega
theorem pkP_lt {β : SA} (D : Dm β) (P : Plc β) : pkP β < 262144 := by
  have l1 := pkN_lt (B := 8) (f := pv β) (bgs β) (fun i hi => (pv_e D P hi).2)
  have : (8 : Nat) ^ (bgs β) ≤ 8 ^ 6 := Nat.pow_le_pow_right (by decide) D.2.2.2.2.1
  have e : (8 : Nat) ^ 6 = 262144 := by decide
  unfold pkP
  omega
/-- packed alike is alike -/
theorem pk_same {α β γ : SA} (h1 : Irr α β) (h2 : Irr α γ) (O1 : Ok β) (O2 : Ok γ) : sameB β γ ↔ pkP β = pkP γ ∧ pkW β 0 = pkW γ 0 ∧ pkW β 4 = pkW γ 4 := by
  have eb : bgs γ = bgs β := (Irr_b h2).trans (Irr_b h1).symm
  have el : lvl γ = lvl β := (Irr_l h2).trans (Irr_l h1).symm
  have ew : ∀ f, wl4 γ f = wl4 β f := fun f => by unfold wl4; rw [el]
  have h8 := O1.1.2.2.2.1
  have wlt : ∀ {δ : SA} (W : Wtr δ) (f i : Nat), i < wl4 δ f → f + i < lvl δ := fun W f i hi => by unfold wl4 at hi; split at hi <;> omega
  constructor
  · intro h
    have hw : ∀ f, pkW β f = pkW γ f := fun f => by
      unfold pkW
      rw [ew]
      refine pkN_congr _ (fun i hi => ?_)
      show wv β (f + i) = wv γ (f + i)
      unfold wv
      rw [h.2 (f + i) (wlt O1.2.2.2.2 f i hi)]
    refine ⟨?_, hw 0, hw 4⟩
    unfold pkP
    rw [eb]
    exact pkN_congr _ (fun i hi => by unfold pv; rw [h.1 i hi])
  · intro ⟨a, b, c⟩
    unfold pkP at a
    rw [eb] at a
    have hp := pkN_inj (by decide) (fun i hi => (pv_e O1.1 O1.2.1 hi).2) (fun i hi => (pv_e O2.1 O2.2.1 (by rw [eb]; exact hi)).2) a
    have hw : ∀ f, f = 0 ∨ f = 4 → ∀ i, i < wl4 β f → wv β (f + i) = wv γ (f + i) := by
      intro f hf
      have e : pkW β f = pkW γ f := by
        rcases hf with rfl | rfl
        · exact b
        · exact c
      unfold pkW at e
      rw [ew] at e
      exact pkN_inj (f := fun j => wv β (f + j)) (g := fun j => wv γ (f + j)) (by decide) (fun i hi => by have := (wv_e O1.2.2.2.2 (l := f + i) (wlt O1.2.2.2.2 f i hi)).2; show wv β (f + i) < _; omega) (fun i hi => by have := (wv_e O2.2.2.2.2 (l := f + i) (by rw [el]; exact wlt O1.2.2.2.2 f i hi)).2; show wv γ (f + i) < _; omega) e
    refine ⟨fun i hi => by rw [(pv_e O1.1 O1.2.1 hi).1, (pv_e O2.1 O2.2.1 (by rw [eb]; exact hi)).1, hp i hi], fun l hl => ?_⟩
    have : wv β l = wv γ l := by
      by_cases e : l < 4
      · have := hw 0 (Or.inl rfl) l (by unfold wl4; split <;> omega)
        rw [Nat.zero_add] at this
        exact this
      · have := hw 4 (Or.inr rfl) (l - 4) (by unfold wl4; split <;> omega)
        rw [show 4 + (l - 4) = l by omega] at this
        exact this
    rw [(wv_e O1.2.2.2.2 hl).1, (wv_e O2.2.2.2.2 (by rw [el]; exact hl)).1, this]
def mx (n : Nat) (f g : Nat → Int32) : Nat → Int32 := fun j => if j < n then f j else g j
theorem mx_0 (f g : Nat → Int32) : mx 0 f g = g := funext fun j => if_neg (Nat.not_lt_zero j)
theorem mx_s (f g : Nat → Int32) (n : Nat) : upd (mx n f g) n (f n) = mx (n + 1) f g := by
  funext j
  unfold mx
  by_cases e : j = n
  · subst e; rw [upd_s, if_pos (by omega)]
  · rw [upd_o _ _ e]
    by_cases e2 : j < n
    · rw [if_pos e2, if_pos (by omega)]
    · rw [if_neg e2, if_neg (by omega)]
theorem c_unP_l {s N A : Nat} {γ : SA} (D : Dm γ) (hA : A < 2 ^ 31) : ∀ (m b n : Nat) (h : Hp), b + m = bgs γ → m < n → Ac h s (sr γ 5 (mx b (fun j => nI (A / 8 ^ j % 8)) (γ 5))) → ∃ h', f_X5_unpackPlaces_2 N n h s (nI A) (nI b) = some h' ∧ Ac h' s (sr γ 5 (mx (bgs γ) (fun j => nI (A / 8 ^ j % 8)) (γ 5))) ∧ Fr (PS s) h h' := by
  have h6 := D.2.2.2.2.1
  intro m
  induction m with
  | zero =>
    intro b n h hb hn C
    obtain ⟨n, rfl⟩ : ∃ k, n = k + 1 := ⟨n - 1, by omega⟩
    rw [f_X5_unpackPlaces_2, ac_0 C (by decide), sr_o _ _ (by decide), D.2.1, if_pos (nI_le (by omega) (by omega))]
    rw [show b = bgs γ by omega] at C
    exact ⟨h, rfl, C, Fr_refl h⟩
  | succ m ih =>
    intro b n h hb hn C
    obtain ⟨n, rfl⟩ : ∃ k, n = k + 1 := ⟨n - 1, by omega⟩
    have hd : A / 2 ^ (3 * b) ≤ A := Nat.div_le_self _ _
    rw [f_X5_unpackPlaces_2, ac_0 C (by decide), sr_o _ _ (by decide), D.2.1, if_neg (nI_ge (by omega) (by omega)), ac_p12 C, bs, lts, ac_l5 C, if_inI (by omega) (by omega), lts, nI_clamp (by omega), n_3, pk_mul, pk_shrN hA _ (3 * b) (sh3 b (by omega)), pk_andN (by omega) (m := 7) 3 (by decide), nI_1]
    have C1 := Ac_w C 5 b (nI (A / 8 ^ b % 8))
    rw [sr_sr, sr_s, mx_s (fun j => nI (A / 8 ^ j % 8))] at C1
    rw [show A / 2 ^ (3 * b) % 2 ^ 3 = A / 8 ^ b % 8 by rw [Nat.pow_mul]]
    obtain ⟨h', e, C', F⟩ := ih (b + 1) n _ (by omega) (by omega) C1
    exact ⟨h', e, C', Fr_trans (Fr_sI _ _ _ _ ⟨by omega, by omega⟩) F⟩
theorem lN_shr {a d : Nat} {D : Int64} (hD : (D.toBitVec.smod 64).toNat = d) (h : a < 2 ^ 63) : lN a >>> D = lN (a / 2 ^ d) := by
  have h2 : a / 2 ^ d ≤ a := Nat.div_le_self _ _
  apply Int64.toInt_inj.mp
  rw [pk_lT (by omega)]
  show (((lN a).toBitVec).sshiftRight (D.toBitVec.smod 64).toNat).toInt = _
  rw [hD, BitVec.toInt_sshiftRight]
  show (lN a).toInt >>> d = _
  rw [pk_lT h, Int.shiftRight_eq_div_pow]
  rfl
theorem c_unW_l {s N A f : Nat} {γ : SA} (D : Dm γ) (hA : A < 2 ^ 63) (hf : f ≤ 4) : ∀ (m j n : Nat) (h : Hp) (r : Nat → Int32), j + m = wl4 γ f → m < n → Ac h s (sr γ 1 r) → ∃ h' r', f_X5_unpackWater_3 N n h s (nI f) (lN A) (nI j) = some h' ∧ Ac h' s (sr γ 1 r') ∧ (∀ l, r' l = if f + j ≤ l ∧ l < f + wl4 γ f then nI (A / 65536 ^ (l - f) % 65536) else r l) ∧ Fr (PS s) h h' := by
  have h8 := D.2.2.2.1
  have w1 : wl4 γ f ≤ 4 ∧ wl4 γ f ≤ lvl γ - f ∧ (wl4 γ f = 4 ∨ wl4 γ f = lvl γ - f) := by unfold wl4; split <;> omega
  intro m
  induction m with
  | zero =>
    intro j n h r hj hn C
    obtain ⟨n, rfl⟩ : ∃ k, n = k + 1 := ⟨n - 1, by omega⟩
    rw [f_X5_unpackWater_3, nI_add, ac_0 C (by decide), sr_o _ _ (by decide), D.1]
    have fin : ∃ h' r', some h = some h' ∧ Ac h' s (sr γ 1 r') ∧ (∀ l, r' l = if f + j ≤ l ∧ l < f + wl4 γ f then nI (A / 65536 ^ (l - f) % 65536) else r l) ∧ Fr (PS s) h h' := ⟨h, r, rfl, C, fun l => by rw [if_neg (by omega)], Fr_refl h⟩
    by_cases h4 : j = 4
    · rw [if_pos (by rw [h4]; decide)]
      exact fin
    · rw [if_neg (show ¬ (4 : Int32) ≤ nI j from nI_ge (b := 4) (by omega) (by decide)), if_pos (nI_le (by omega) (by omega))]
      exact fin
  | succ m ih =>
    intro j n h r hj hn C
    obtain ⟨n, rfl⟩ : ∃ k, n = k + 1 := ⟨n - 1, by omega⟩
    have hd : A / 2 ^ (16 * j) ≤ A := Nat.div_le_self _ _
    rw [f_X5_unpackWater_3, nI_add, ac_0 C (by decide), sr_o _ _ (by decide), D.1, if_neg (show ¬ (4 : Int32) ≤ nI j from nI_ge (b := 4) (by omega) (by decide)), if_neg (nI_ge (by omega) (by omega)), ac_p8 C, bs, lts, ac_l1 C, if_inI (by omega) (by omega), lts, nI_clamp (by omega), show (16 : Int32) = nI 16 from rfl, pk_mul, lN_shr (sh16 j (by omega)) hA, show (65535 : Int64) = lN (2 ^ 16 - 1) from rfl, maskL, lN_i, nI_1]
    have C1 := Ac_w C 1 (f + j) (nI (A / 2 ^ (16 * j) % 2 ^ 16))
    rw [sr_sr, sr_s] at C1
    obtain ⟨h', r', e, C', g, F⟩ := ih (j + 1) n _ _ (by omega) (by omega) C1
    refine ⟨h', r', e, C', fun l => ?_, Fr_trans (Fr_sI _ _ _ _ ⟨by omega, by omega⟩) F⟩
    rw [g l]
    by_cases e1 : f + (j + 1) ≤ l ∧ l < f + wl4 γ f
    · rw [if_pos e1, if_pos (by omega)]
    · rw [if_neg e1]
      by_cases e2 : l = f + j
      · subst e2
        rw [upd_s, if_pos (by omega), Nat.add_sub_cancel_left, show (65536 : Nat) ^ j = 2 ^ (16 * j) by rw [Nat.pow_mul]]
      · rw [upd_o _ _ e2, if_neg (by omega)]
