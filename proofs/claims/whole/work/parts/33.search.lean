/-! ===== the search for plans, as numbers see it ===== -/
abbrev XS : Type := Nat × (Nat → SA) × (Nat → Int32) × (Nat → Nat) × (Nat → Nat) × (Nat → Bool) × Bool
def xn (X : XS) : Nat := X.1
def xs (X : XS) : Nat → SA := X.2.1
def xc (X : XS) : Nat → Int32 := X.2.2.1
def xf (X : XS) : Nat → Nat := X.2.2.2.1
def xb (X : XS) : Nat → Nat := X.2.2.2.2.1
def xg (X : XS) : Nat → Bool := X.2.2.2.2.2.1
def xo (X : XS) : Bool := X.2.2.2.2.2.2
def fu {A : Type} (f : Nat → A) (k : Nat) (x : A) : Nat → A := fun j => if j = k then x else f j
theorem fu_s {A : Type} (f : Nat → A) (k : Nat) (x : A) : fu f k x k = x := if_pos rfl
theorem fu_o {A : Type} (f : Nat → A) {k j : Nat} (x : A) (h : j ≠ k) : fu f k x j = f j := if_neg h
abbrev sameB (β γ : SA) : Prop := (∀ b, b < bgs β → β 5 b = γ 5 b) ∧ ∀ l, l < lvl β → β 1 l = γ 1 l
def fnd (st : Nat → SA) (β : SA) : Nat → Option Nat
  | 0 => none
  | n + 1 => match fnd st β n with
    | some i => some i
    | none => if sameB β (st n) then some n else none
theorem fnd_some {st : Nat → SA} {β : SA} {i : Nat} : ∀ n, fnd st β n = some i → i < n ∧ sameB β (st i)
  | 0, h => by cases h
  | n + 1, h => by
    rw [fnd] at h
    cases e : fnd st β n with
    | some j =>
      rw [e] at h
      have : j = i := by simpa using h
      subst this
      have := fnd_some n e
      exact ⟨by omega, this.2⟩
    | none =>
      rw [e] at h
      by_cases hs : sameB β (st n)
      · have h2 : (if sameB β (st n) then some n else none) = some i := h
        rw [if_pos hs] at h2
        have : n = i := by simpa using h2
        subst this
        exact ⟨by omega, hs⟩
      · have h2 : (if sameB β (st n) then some n else none) = some i := h
        rw [if_neg hs] at h2
        cases h2
theorem fnd_none {st : Nat → SA} {β : SA} : ∀ n, fnd st β n = none → ∀ i, i < n → ¬ sameB β (st i)
  | 0, _ => fun i hi => absurd hi (Nat.not_lt_zero i)
  | n + 1, h => by
    intro i hi
    rw [fnd] at h
    cases e : fnd st β n with
    | some j => rw [e] at h; cases h
    | none =>
      rw [e] at h
      by_cases hs : sameB β (st n)
      · have h2 : (if sameB β (st n) then some n else none) = none := h
        rw [if_pos hs] at h2
        cases h2
      · by_cases e2 : i = n
        · subst e2; exact hs
        · exact fnd_none n e i (by omega)
def rch (X : XS) (β : SA) (s x : Nat) (c : Int32) : XS := match fnd (xs X) β (xn X) with
  | some i => if xg X i = true ∨ xc X i ≤ c then X else (xn X, xs X, fu (xc X) i c, fu (xf X) i s, fu (xb X) i x, xg X, xo X)
  | none => if xn X = 1500 then (xn X, xs X, xc X, xf X, xb X, xg X, true) else (xn X + 1, fu (xs X) (xn X) β, fu (xc X) (xn X) c, fu (xf X) (xn X) s, fu (xb X) (xn X) x, fu (xg X) (xn X) false, xo X)
def nx (β : SA) (x : Nat) : SA := sr (sr β 5 (dN β x 1 5)) 1 (dN β x 1 1)
def wgt (m : Bool) (β : SA) (x : Nat) : Int32 := if m then Nd β (td β x) (tu β x) else Wo β (td β x) (tu β x)
def spr (m : Bool) (β : SA) (s : Nat) : List Nat → XS → XS
  | [], X => X
  | x :: l, X => if xo X then X else spr m β s l (rch X (nx β x) s x (xc X s + wgt m β x))
def lsF (X : XS) : Nat → Option Nat
  | 0 => none
  | n + 1 => match lsF X n with
    | none => if xg X n then none else some n
    | some b => if xg X n = false ∧ xc X n < xc X b then some n else some b
def nxt (X : XS) : Option Nat := if xo X then none else lsF X (xn X)
def mrk (X : XS) (s : Nat) : XS := (xn X, xs X, xc X, xf X, xb X, fu (xg X) s true, xo X)
def stp (rl : RLT) (m : Bool) (X : XS) (s : Nat) : XS := spr m (xs X s) s (TL (xs X s) rl) (mrk X s)
def X0 (α : SA) : XS := (1, fun _ => α, fun _ => 0, fun _ => 0, fun _ => 0, fun _ => false, false)
/-- what all situations have in common with the first -/
def Irr (α β : SA) : Prop := (∀ a, a ≠ 1 → a ≠ 5 → β a = α a) ∧ (∀ b, bgs α ≤ b → β 5 b = α 5 b) ∧ ∀ l, lvl α ≤ l → β 1 l = α 1 l
theorem Irr_l {α β : SA} (h : Irr α β) : lvl β = lvl α := lvl_of (by rw [h.1 0 (by decide) (by decide)])
theorem Irr_b {α β : SA} (h : Irr α β) : bgs β = bgs α := bgs_of (by rw [h.1 0 (by decide) (by decide)])
theorem nx_Sm {β : SA} {x : Nat} : Sm (sr (dN β x 1) 0 (upd (dN β x 1 0) 3 (β 0 3))) (nx β x) := by
  have o : ∀ a, a ≠ 0 → a ≠ 1 → a ≠ 5 → dN β x 1 a = β a := fun a h0 h1 h5 => dT_o _ _ _ _ _ h0 h1 h5
  have z : ∀ j, j ≠ 3 → j ≠ 4 → dN β x 1 0 j = β 0 j := fun j h3 h4 => dT_0 _ _ _ _ _ h3 h4
  have n : ∀ a, a ≠ 1 → a ≠ 5 → nx β x a = β a := fun a h1 h5 => by unfold nx; rw [sr_o _ _ h1, sr_o _ _ h5]
  refine ⟨?_, ?_, ?_, ?_, ?_, ?_, ?_, ?_, ?_, ?_, ?_⟩
  · rw [sr_o _ _ (by decide)]; exact sr_s _ _ _
  · rw [sr_o _ _ (by decide), n 2 (by decide) (by decide), o 2 (by decide) (by decide) (by decide)]
  · rw [sr_o _ _ (by decide), n 3 (by decide) (by decide), o 3 (by decide) (by decide) (by decide)]
  · rw [sr_o _ _ (by decide)]; unfold nx; rw [sr_o _ _ (by decide), sr_s]
  · rw [sr_o _ _ (by decide), n 6 (by decide) (by decide), o 6 (by decide) (by decide) (by decide)]
  · rw [sr_o _ _ (by decide), n 7 (by decide) (by decide), o 7 (by decide) (by decide) (by decide)]
  · rw [sr_o _ _ (by decide), n 8 (by decide) (by decide), o 8 (by decide) (by decide) (by decide)]
  · rw [sr_s, upd_o _ _ (by decide), n 0 (by decide) (by decide), z 0 (by decide) (by decide)]
  · rw [sr_s, upd_o _ _ (by decide), n 0 (by decide) (by decide), z 1 (by decide) (by decide)]
  · rw [sr_s, upd_o _ _ (by decide), n 0 (by decide) (by decide), z 2 (by decide) (by decide)]
  · rw [sr_s, upd_s, n 0 (by decide) (by decide)]
theorem nx_5 (β : SA) (x : Nat) : nx β x 5 = dN β x 1 5 := by unfold nx; rw [sr_o _ _ (by decide), sr_s]
theorem nx_1 (β : SA) (x : Nat) : nx β x 1 = dN β x 1 1 := by unfold nx; rw [sr_s]
theorem nx_o (β : SA) (x : Nat) {a : Nat} (h1 : a ≠ 1) (h5 : a ≠ 5) : nx β x a = β a := by unfold nx; rw [sr_o _ _ h1, sr_o _ _ h5]
theorem nx_l (β : SA) (x : Nat) : lvl (nx β x) = lvl β := lvl_of (by rw [nx_o _ _ (by decide) (by decide)])
theorem nx_b (β : SA) (x : Nat) : bgs (nx β x) = bgs β := bgs_of (by rw [nx_o _ _ (by decide) (by decide)])
theorem rem_nx (β : SA) (x : Nat) : rem (nx β x) = rem (dN β x 1) := by
  unfold rem
  rw [nx_b, (dN_dims β x 1).2]
  congr 1
  funext b
  unfold rm1
  rw [nx_5, nx_l, (dN_dims β x 1).1, nx_o _ _ (by decide) (by decide), show dN β x 1 8 = β 8 from dT_o _ _ _ _ _ (by decide) (by decide) (by decide)]
theorem Ok_nx {β : SA} {rl : RLT} {x : Nat} (O : Ok β) (h : x ∈ TL β rl) : Ok (nx β x) := by
  obtain ⟨D, P, S, V, W⟩ := Ok_tip O h
  obtain ⟨D0, P0, S0, V0, W0⟩ := O
  have e0 : nx β x 0 = β 0 := nx_o _ _ (by decide) (by decide)
  refine ⟨Dm_of (fun j _ => by rw [e0]) D0, fun b hb => ?_, fun l hl => ?_, ?_, fun l hl => ?_⟩
  · rw [nx_b] at hb
    rw [nx_l, nx_5]
    have := P b (by rw [(dN_dims β x 1).2]; exact hb)
    rw [(dN_dims β x 1).1] at this
    exact this
  · rw [nx_l] at hl
    rw [nx_o _ _ (by decide) (by decide)]
    exact S0 l hl
  · unfold Val
    rw [nx_l, nx_b, e0, nx_o _ _ (by decide) (by decide), nx_o _ _ (by decide) (by decide), nx_o _ _ (by decide) (by decide), nx_o _ _ (by decide) (by decide), nx_o _ _ (by decide) (by decide)]
    exact V0
  · rw [nx_l] at hl
    rw [nx_1, rem_nx]
    exact W l (by rw [(dN_dims β x 1).1]; exact hl)
theorem Irr_nx {α β : SA} {rl : RLT} {x : Nat} (h : Irr α β) (D : Dm β) (hx : x ∈ TL β rl) : Irr α (nx β x) := by
  have hk := tk_lt (TL_mem hx).2
  have hd := td_le β x
  have hu := tu_le β x
  refine ⟨fun a h1 h5 => by rw [nx_o _ _ h1 h5]; exact h.1 a h1 h5, fun b hb => ?_, fun l hl => ?_⟩
  · rw [nx_5, dN_at hx b, if_neg (by rw [Irr_b h] at hd; omega), if_neg (by rw [Irr_b h] at hu; omega)]
    exact h.2.1 b hb
  · rw [Irr_l h] at hk
    rw [nx_1, show dN β x 1 1 = _ from dT_1 _ _ _ _ _, upd_o _ _ (by omega), upd_o _ _ (by omega)]
    exact h.2.2 l hl
/-- what the search keeps; G: those gone through, in their order -/
def XI (α : SA) (rl : RLT) (X : XS) (G : List Nat) : Prop :=
  (1 ≤ xn X ∧ xn X ≤ 1500) ∧ (∀ i, i < xn X → Ok (xs X i) ∧ Irr α (xs X i)) ∧ (∀ i j, i < xn X → j < xn X → sameB (xs X i) (xs X j) → i = j) ∧ (∀ i, xg X i = true ↔ i ∈ G) ∧ (∀ i, i ∈ G → i < xn X) ∧ (∀ i, i < xn X → 0 < i → xf X i ∈ G ∧ xb X i ∈ TL (xs X (xf X i)) rl) ∧ ∀ G1 i G2, G = G1 ++ i :: G2 → 0 < i → xf X i ∈ G1
theorem sameB_symm {α β γ : SA} (h1 : Irr α β) (h2 : Irr α γ) (h : sameB β γ) : sameB γ β := ⟨fun b hb => (h.1 b (by rw [Irr_b h1]; rw [Irr_b h2] at hb; exact hb)).symm, fun l hl => (h.2 l (by rw [Irr_l h1]; rw [Irr_l h2] at hl; exact hl)).symm⟩
theorem rch_c1 {X : XS} {β : SA} {s x i : Nat} {c : Int32} (e : fnd (xs X) β (xn X) = some i) (h : xg X i = true ∨ xc X i ≤ c) : rch X β s x c = X := by unfold rch; rw [e]; exact if_pos h
theorem rch_c2 {X : XS} {β : SA} {s x i : Nat} {c : Int32} (e : fnd (xs X) β (xn X) = some i) (h : ¬ (xg X i = true ∨ xc X i ≤ c)) : rch X β s x c = (xn X, xs X, fu (xc X) i c, fu (xf X) i s, fu (xb X) i x, xg X, xo X) := by unfold rch; rw [e]; exact if_neg h
theorem rch_c3 {X : XS} {β : SA} {s x : Nat} {c : Int32} (e : fnd (xs X) β (xn X) = none) (h : xn X = 1500) : rch X β s x c = (xn X, xs X, xc X, xf X, xb X, xg X, true) := by unfold rch; rw [e]; exact if_pos h
theorem rch_c4 {X : XS} {β : SA} {s x : Nat} {c : Int32} (e : fnd (xs X) β (xn X) = none) (h : ¬ xn X = 1500) : rch X β s x c = (xn X + 1, fu (xs X) (xn X) β, fu (xc X) (xn X) c, fu (xf X) (xn X) s, fu (xb X) (xn X) x, fu (xg X) (xn X) false, xo X) := by unfold rch; rw [e]; exact if_neg h
/-- what is gone through stays as it is -/
def Stb (X Y : XS) : Prop := xn X ≤ xn Y ∧ (∀ i, i < xn X → xs Y i = xs X i) ∧ ∀ i, xg X i = true → i < xn X → xg Y i = true ∧ xc Y i = xc X i ∧ xf Y i = xf X i ∧ xb Y i = xb X i
theorem Stb_refl (X : XS) : Stb X X := ⟨Nat.le_refl _, fun _ _ => rfl, fun _ h _ => ⟨h, rfl, rfl, rfl⟩⟩
theorem Stb_trans {X Y Z : XS} (h1 : Stb X Y) (h2 : Stb Y Z) : Stb X Z := by
  refine ⟨Nat.le_trans h1.1 h2.1, fun i hi => (h2.2.1 i (Nat.lt_of_lt_of_le hi h1.1)).trans (h1.2.1 i hi), fun i hg hi => ?_⟩
  obtain ⟨a, b, c, d⟩ := h1.2.2 i hg hi
  obtain ⟨a', b', c', d'⟩ := h2.2.2 i a (Nat.lt_of_lt_of_le hi h1.1)
  exact ⟨a', b'.trans b, c'.trans c, d'.trans d⟩
theorem XI_rch {α : SA} {rl : RLT} {X : XS} {G : List Nat} (I : XI α rl X G) {s x : Nat} {c : Int32} (hs : s ∈ G) (hx : x ∈ TL (xs X s) rl) : XI α rl (rch X (nx (xs X s) x) s x c) G ∧ Stb X (rch X (nx (xs X s) x) s x c) := by
  obtain ⟨⟨n1, n2⟩, ok, ds, gn, gl, fr, od⟩ := I
  have sl := gl s hs
  cases e : fnd (xs X) (nx (xs X s) x) (xn X) with
  | some i =>
    have hi := fnd_some _ e
    by_cases h : xg X i = true ∨ xc X i ≤ c
    · rw [rch_c1 e h]
      exact ⟨⟨⟨n1, n2⟩, ok, ds, gn, gl, fr, od⟩, Stb_refl X⟩
    · rw [rch_c2 e h]
      have hg : ¬ i ∈ G := fun z => h (Or.inl ((gn i).mpr z))
      refine ⟨⟨⟨n1, n2⟩, ok, ds, gn, gl, fun j hj h0 => ?_, fun G1 j G2 hG h0 => ?_⟩, Nat.le_refl _, fun _ _ => rfl, fun j hj _ => ?_⟩
      · by_cases ej : j = i
        · subst ej
          show fu (xf X) j s j ∈ G ∧ fu (xb X) j x j ∈ TL (xs X (fu (xf X) j s j)) rl
          rw [fu_s, fu_s]
          exact ⟨hs, hx⟩
        · show fu (xf X) i s j ∈ G ∧ fu (xb X) i x j ∈ TL (xs X (fu (xf X) i s j)) rl
          rw [fu_o _ _ ej, fu_o _ _ ej]
          exact fr j hj h0
      · have hj : j ∈ G := by rw [hG]; simp
        show fu (xf X) i s j ∈ G1
        rw [fu_o _ _ (fun (z : j = i) => hg (z ▸ hj))]
        exact od G1 j G2 hG h0
      · have ej : j ≠ i := fun z => h (Or.inl (z ▸ hj))
        exact ⟨hj, fu_o _ _ ej, fu_o _ _ ej, fu_o _ _ ej⟩
  | none =>
    by_cases h : xn X = 1500
    · rw [rch_c3 e h]
      exact ⟨⟨⟨n1, n2⟩, ok, ds, gn, gl, fr, od⟩, Nat.le_refl _, fun _ _ => rfl, fun j hj _ => ⟨hj, rfl, rfl, rfl⟩⟩
    · rw [rch_c4 e h]
      have nn := fnd_none _ e
      have oks := ok s sl
      have irn := Irr_nx oks.2 oks.1.1 hx
      have old : ∀ {A : Type} (f : Nat → A) (a : A) j, j < xn X → fu f (xn X) a j = f j := fun f a j hj => fu_o _ _ (by omega)
      refine ⟨⟨⟨by show 1 ≤ xn X + 1; omega, by show xn X + 1 ≤ 1500; omega⟩, fun j hj => ?_, fun i j hi hj hh => ?_, fun i => ?_, fun i hi => Nat.lt_succ_of_lt (gl i hi), fun j hj h0 => ?_, fun G1 j G2 hG h0 => ?_⟩, Nat.le_succ _, fun j hj => old _ _ j hj, fun j hj hl => ?_⟩
      · have hj' : j < xn X + 1 := hj
        show Ok (fu (xs X) (xn X) _ j) ∧ Irr α (fu (xs X) (xn X) _ j)
        by_cases ej : j = xn X
        · subst ej
          rw [fu_s]
          exact ⟨Ok_nx oks.1 hx, irn⟩
        · rw [fu_o _ _ ej]
          exact ok j (by omega)
      · have hi' : i < xn X + 1 := hi
        have hj' : j < xn X + 1 := hj
        have hh' : sameB (fu (xs X) (xn X) (nx (xs X s) x) i) (fu (xs X) (xn X) (nx (xs X s) x) j) := hh
        by_cases ei : i = xn X <;> by_cases ej : j = xn X
        · omega
        · rw [ei, fu_s, fu_o _ _ ej] at hh'
          exact absurd hh' (nn j (by omega))
        · rw [ej, fu_s, fu_o _ _ ei] at hh'
          exact absurd (sameB_symm (ok i (by omega)).2 irn hh') (nn i (by omega))
        · rw [fu_o _ _ ei, fu_o _ _ ej] at hh'
          exact ds i j (by omega) (by omega) hh'
      · show fu (xg X) (xn X) false i = true ↔ i ∈ G
        by_cases ei : i = xn X
        · subst ei
          rw [fu_s]
          exact ⟨fun z => (by cases z), fun z => absurd (gl _ z) (by omega)⟩
        · rw [fu_o _ _ ei]
          exact gn i
      · have hj' : j < xn X + 1 := hj
        show fu (xf X) (xn X) s j ∈ G ∧ fu (xb X) (xn X) x j ∈ TL (fu (xs X) (xn X) _ (fu (xf X) (xn X) s j)) rl
        by_cases ej : j = xn X
        · subst ej
          rw [fu_s, fu_s, old _ _ s sl]
          exact ⟨hs, hx⟩
        · rw [fu_o _ _ ej, fu_o _ _ ej]
          have := fr j (by omega) h0
          rw [old _ _ _ (gl _ this.1)]
          exact this
      · have hj : j ∈ G := by rw [hG]; simp
        show fu (xf X) (xn X) s j ∈ G1
        rw [old _ _ _ (gl j hj)]
        exact od G1 j G2 hG h0
      · exact ⟨(old _ _ j hl).trans hj, old _ _ j hl, old _ _ j hl, old _ _ j hl⟩
theorem XI_spr {α : SA} {rl : RLT} {m : Bool} {s : Nat} {β : SA} {G : List Nat} (hs : s ∈ G) : ∀ (l : List Nat) (X : XS), XI α rl X G → xs X s = β → (∀ x, x ∈ l → x ∈ TL β rl) → XI α rl (spr m β s l X) G ∧ Stb X (spr m β s l X)
  | [], X, I, _, _ => ⟨I, Stb_refl X⟩
  | x :: l, X, I, e, h => by
    rw [spr]
    by_cases ho : xo X = true
    · rw [if_pos ho]
      exact ⟨I, Stb_refl X⟩
    · rw [if_neg ho]
      have := XI_rch I hs (x := x) (c := xc X s + wgt m β x) (by rw [e]; exact h x (by simp))
      rw [e] at this
      obtain ⟨I1, S1⟩ := this
      obtain ⟨I2, S2⟩ := XI_spr hs l _ I1 ((S1.2.1 s (I.2.2.2.2.1 s hs)).trans e) (fun y hy => h y (by simp [hy]))
      exact ⟨I2, Stb_trans S1 S2⟩
theorem lsF_some {X : XS} {s : Nat} : ∀ n, lsF X n = some s → s < n ∧ xg X s = false ∧ (∀ i, i < n → xg X i = false → xc X s < xc X i ∨ (xc X s = xc X i ∧ s ≤ i))
  | 0, h => by cases h
  | n + 1, h => by
    rw [lsF] at h
    cases e : lsF X n with
    | none =>
      rw [e] at h
      have h' : (if xg X n then none else some n) = some s := h
      by_cases hg : xg X n = true
      · rw [if_pos hg] at h'; cases h'
      · rw [if_neg hg] at h'
        have : n = s := by simpa using h'
        subst this
        refine ⟨by omega, by simpa using hg, fun i hi hi2 => ?_⟩
        by_cases ei : i = n
        · subst ei; exact Or.inr ⟨rfl, Nat.le_refl _⟩
        · exfalso
          have none_all : ∀ m, lsF X m = none → ∀ i, i < m → xg X i = true := by
            intro m
            induction m with
            | zero => intro _ i hi; omega
            | succ m ih =>
              intro hm i hi
              rw [lsF] at hm
              cases em : lsF X m with
              | none =>
                rw [em] at hm
                have hm' : (if xg X m then none else some m) = none := hm
                by_cases hgm : xg X m = true
                · by_cases eim : i = m
                  · subst eim; exact hgm
                  · exact ih em i (by omega)
                · rw [if_neg hgm] at hm'; cases hm'
              | some b =>
                rw [em] at hm
                have hm' : (if xg X m = false ∧ xc X m < xc X b then some m else some b) = none := hm
                split at hm' <;> cases hm'
          rw [none_all n e i (by omega)] at hi2
          cases hi2
    | some b =>
      rw [e] at h
      have h' : (if xg X n = false ∧ xc X n < xc X b then some n else some b) = some s := h
      obtain ⟨b1, b2, b3⟩ := lsF_some n e
      by_cases hc : xg X n = false ∧ xc X n < xc X b
      · rw [if_pos hc] at h'
        have : n = s := by simpa using h'
        subst this
        refine ⟨by omega, hc.1, fun i hi hi2 => ?_⟩
        by_cases ei : i = n
        · subst ei; exact Or.inr ⟨rfl, Nat.le_refl _⟩
        · rcases b3 i (by omega) hi2 with z | z
          · exact Or.inl (Int32.lt_trans hc.2 z)
          · exact Or.inl (by rw [← z.1]; exact hc.2)
      · rw [if_neg hc] at h'
        have : b = s := by simpa using h'
        subst this
        refine ⟨by omega, b2, fun i hi hi2 => ?_⟩
        by_cases ei : i = n
        · subst ei
          have : ¬ xc X i < xc X b := fun z => hc ⟨hi2, z⟩
          by_cases eq : xc X b = xc X i
          · exact Or.inr ⟨eq, by omega⟩
          · exact Or.inl (Int32.lt_of_le_of_ne (Int32.not_lt.mp this) eq)
        · exact b3 i (by omega) hi2
theorem lsF_none {X : XS} : ∀ n, lsF X n = none → ∀ i, i < n → xg X i = true
  | 0, _, i, hi => by omega
  | n + 1, h, i, hi => by
    rw [lsF] at h
    cases e : lsF X n with
    | none =>
      rw [e] at h
      have h' : (if xg X n then none else some n) = none := h
      by_cases hg : xg X n = true
      · by_cases ei : i = n
        · subst ei; exact hg
        · exact lsF_none n e i (by omega)
      · rw [if_neg hg] at h'; cases h'
    | some b =>
      rw [e] at h
      have h' : (if xg X n = false ∧ xc X n < xc X b then some n else some b) = none := h
      split at h' <;> cases h'
/-- the least is the one that is least -/
theorem lsF_is {X : XS} {n s : Nat} (h1 : s < n) (h2 : xg X s = false) (h3 : ∀ i, i < n → xg X i = false → xc X s < xc X i ∨ (xc X s = xc X i ∧ s ≤ i)) : lsF X n = some s := by
  cases e : lsF X n with
  | none => rw [lsF_none n e s h1] at h2; cases h2
  | some b =>
    obtain ⟨b1, b2, b3⟩ := lsF_some n e
    rcases h3 b b1 b2 with z | z
    · rcases b3 s h1 h2 with w | w
      · exact absurd z (Int32.not_lt.mpr (Int32.le_of_lt w))
      · rw [w.1] at z; exact absurd z (Int32.lt_irrefl)
    · rcases b3 s h1 h2 with w | w
      · rw [z.1] at w; exact absurd w (Int32.lt_irrefl)
      · rw [show b = s by omega]
theorem XI_mrk {α : SA} {rl : RLT} {X : XS} {G : List Nat} (I : XI α rl X G) {s : Nat} (hs : s < xn X) (hg : xg X s = false) : XI α rl (mrk X s) (G ++ [s]) ∧ Stb X (mrk X s) := by
  obtain ⟨nn, ok, ds, gn, gl, fr, od⟩ := I
  refine ⟨⟨nn, ok, ds, fun i => ?_, fun i hi => ?_, fun j hj h0 => ?_, fun G1 j G2 hG h0 => ?_⟩, Nat.le_refl _, fun _ _ => rfl, fun i hi _ => ?_⟩
  · show fu (xg X) s true i = true ↔ _
    by_cases ei : i = s
    · subst ei; rw [fu_s]; simp
    · rw [fu_o _ _ ei, gn i]; simp [ei]
  · rcases List.mem_append.mp hi with z | z
    · exact gl i z
    · have : i = s := by simpa using z
      subst this
      exact hs
  · have := fr j hj h0
    exact ⟨List.mem_append.mpr (Or.inl this.1), this.2⟩
  · rcases List.append_eq_append_iff.mp hG with ⟨a, e1, e2⟩ | ⟨a, e1, e2⟩
    · have hl := congrArg List.length e2
      simp at hl
      have ha : a = [] := List.eq_nil_of_length_eq_zero (by omega)
      subst ha
      simp at e2
      rw [e1, List.append_nil]
      have hj : j < xn X := by rw [← e2.1]; exact hs
      exact (fr j hj h0).1
    · cases a with
      | nil =>
        simp at e2
        rw [List.append_nil] at e1
        rw [← e1]
        have hj : j < xn X := by rw [e2.1]; exact hs
        exact (fr j hj h0).1
      | cons b a =>
        simp at e2
        obtain ⟨e3, e4⟩ := e2
        subst e3
        exact od G1 j a e1 h0
  · show fu (xg X) s true i = true ∧ _
    refine ⟨?_, rfl, rfl, rfl⟩
    by_cases ei : i = s
    · subst ei; rw [fu_s]
    · rw [fu_o _ _ ei]; exact hi
theorem XI_stp {α : SA} {rl : RLT} {m : Bool} {X : XS} {G : List Nat} (I : XI α rl X G) {s : Nat} (h : nxt X = some s) : XI α rl (stp rl m X s) (G ++ [s]) ∧ Stb (mrk X s) (stp rl m X s) ∧ Stb X (stp rl m X s) := by
  unfold nxt at h
  by_cases ho : xo X = true
  · rw [if_pos ho] at h; cases h
  · rw [if_neg ho] at h
    obtain ⟨h1, h2, _⟩ := lsF_some _ h
    obtain ⟨I1, S1⟩ := XI_mrk I h1 h2
    obtain ⟨I2, S2⟩ := XI_spr (m := m) (s := s) (β := xs X s) (G := G ++ [s]) (by simp) (TL (xs X s) rl) (mrk X s) I1 rfl (fun x hx => hx)
    exact ⟨I2, S2, Stb_trans S1 S2⟩
theorem XI_0 {α : SA} {rl : RLT} (O : Ok α) : XI α rl (X0 α) [] := by
  refine ⟨⟨Nat.le_refl _, show 1 ≤ 1500 by decide⟩, fun i hi => ⟨O, fun _ _ _ => rfl, fun _ _ => rfl, fun _ _ => rfl⟩, fun i j hi hj _ => ?_, fun i => ?_, fun i hi => ?_, fun i hi h0 => ?_, fun G1 i G2 hG _ => ?_⟩
  · have hi' : i < 1 := hi
    have hj' : j < 1 := hj
    omega
  · exact ⟨fun z => (by cases z), fun z => (by cases z)⟩
  · cases hi
  · have hi' : i < 1 := hi
    omega
  · have := congrArg List.length hG
    simp at this
