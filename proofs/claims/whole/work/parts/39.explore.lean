/-! ===== the class's search: ends, its begin, its loop ===== -/
def fE (X : XS) (t : Int32) : List Nat → Option Nat
  | [] => none
  | i :: G => if t &&& hmS (xs X i) = t then some i else fE X t G
def oI : Option Nat → Int32
  | none => -1
  | some i => nI i
theorem fE_app (X : XS) (t : Int32) (i : Nat) : ∀ G, fE X t (G ++ [i]) = match fE X t G with
    | some e => some e
    | none => if t &&& hmS (xs X i) = t then some i else none
  | [] => by
    show (if t &&& hmS (xs X i) = t then some i else none) = _
    rfl
  | e :: G => by
    show (if t &&& hmS (xs X e) = t then some e else fE X t (G ++ [i])) = _
    by_cases h : t &&& hmS (xs X e) = t
    · rw [if_pos h, show fE X t (e :: G) = some e from if_pos h]
    · rw [if_neg h, show fE X t (e :: G) = fE X t G from if_neg h, fE_app X t i G]
theorem fE_some {X : XS} {t : Int32} {e : Nat} : ∀ G, fE X t G = some e → e ∈ G ∧ t &&& hmS (xs X e) = t
  | [], h => by cases h
  | i :: G, h => by
    by_cases hi : t &&& hmS (xs X i) = t
    · rw [show fE X t (i :: G) = some i from if_pos hi] at h
      have : i = e := by simpa using h
      subst this
      exact ⟨by simp, hi⟩
    · rw [show fE X t (i :: G) = fE X t G from if_neg hi] at h
      have := fE_some G h
      exact ⟨by simp [this.1], this.2⟩
theorem fE_none {X : XS} {t : Int32} : ∀ G, fE X t G = none → ∀ e, e ∈ G → ¬ t &&& hmS (xs X e) = t
  | [], _ => fun e he => by cases he
  | i :: G, h => by
    by_cases hi : t &&& hmS (xs X i) = t
    · rw [show fE X t (i :: G) = some i from if_pos hi] at h; cases h
    · rw [show fE X t (i :: G) = fE X t G from if_neg hi] at h
      intro e he
      rcases List.mem_cons.mp he with z | z
      · subst z; exact hi
      · exact fE_none G h e z
theorem fE_congr {X Y : XS} {t : Int32} : ∀ G, (∀ i, i ∈ G → xs Y i = xs X i) → fE Y t G = fE X t G
  | [], _ => rfl
  | i :: G, h => by
    unfold fE
    rw [h i (by simp), fE_congr G (fun j hj => h j (by simp [hj]))]
theorem sub_tr {t g e : Int32} (h1 : t &&& g = t) (h2 : g &&& e = g) : t &&& e = t := by
  rw [← h1, Int32.and_assoc, h2]
def EN (h : Hp) (X : XS) (G : List Nat) : Prop := ∀ t, t < 64 → hI h 43 t = oI (fE X (nI t) G)
theorem oI_m1 {X : XS} {t : Int32} {G : List Nat} (hG : ∀ i, i ∈ G → i < 1500) : oI (fE X t G) = -1 ↔ fE X t G = none := by
  cases e : fE X t G with
  | none => exact ⟨fun _ => rfl, fun _ => rfl⟩
  | some i =>
    have := hG i (fE_some G e).1
    exact ⟨fun z => absurd (nI_pos' (n := i) (by omega)) (by rw [show nI i = -1 from z]; decide), fun z => by cases z⟩
theorem c_note_l {N i : Nat} {g : Int32} {od : Nat → Int32} : ∀ (m t f : Nat) (h : Hp), t + m = 64 → m < f → SHP h → (∀ j, j < 64 → hI h 43 j = if j < t ∧ od j = -1 ∧ nI j &&& g = nI j then nI i else od j) → ∃ h', f_X3_noteEnds_13 N f h 32 (nI i) g (nI t) = some h' ∧ (∀ j, j < 64 → hI h' 43 j = if od j = -1 ∧ nI j &&& g = nI j then nI i else od j) ∧ Fr (fun a _ => a = 43) h h' := by
  intro m
  induction m with
  | zero =>
    intro t f h ht hf H E
    obtain ⟨f, rfl⟩ : ∃ k, f = k + 1 := ⟨f - 1, by omega⟩
    rw [f_X3_noteEnds_13, if_pos (show (64 : Int32) ≤ nI t from nI_le (a := 64) (by omega) (by omega))]
    refine ⟨h, rfl, fun j hj => ?_, Fr_refl h⟩
    rw [E j hj]
    simp only [show j < t by omega, true_and]
  | succ m ih =>
    intro t f h ht hf H E
    obtain ⟨f, rfl⟩ : ∃ k, f = k + 1 := ⟨f - 1, by omega⟩
    rw [f_X3_noteEnds_13, if_neg (show ¬ (64 : Int32) ≤ nI t from nI_ge (b := 64) (by omega) (by decide))]
    have et := E t (by omega)
    rw [if_neg (fun z => by omega)] at et
    unfold f_X3_noteEnds_43
    rw [nI_1]
    by_cases h1 : nI t &&& g = nI t
    · rw [if_pos h1, pp_32_11 H, bs, ll_43 H, if_inI (by omega) (by omega), nI_clamp (by omega), et]
      by_cases h2 : od t = -1
      · rw [if_pos h2, bs, ll_43 H, if_pos ⟨nI_pos' (by omega), by omega⟩, lts]
        obtain ⟨h', q, e, F⟩ := ih (t + 1) f (sI h 43 t (nI i)) (by omega) (by omega) (Fr_SHP (P := fun a _ => a = 43) (Fr_sI _ _ _ _ rfl) H) (fun j hj => by
          rw [hI_sI]
          by_cases ej : j = t
          · subst ej
            rw [if_pos ⟨rfl, rfl⟩, if_pos ⟨by omega, h2, h1⟩]
          · rw [if_neg (fun z => ej z.2), E j hj]
            have : (j < t) = (j < t + 1) := propext ⟨fun z => by omega, fun z => by omega⟩
            simp only [this])
        exact ⟨h', q, e, Fr_trans (Fr_sI _ _ _ _ rfl) F⟩
      · rw [if_neg h2]
        refine ih (t + 1) f h (by omega) (by omega) H (fun j hj => ?_)
        rw [E j hj]
        by_cases ej : j = t
        · subst ej
          rw [if_neg (fun z => h2 z.2.1), if_neg (fun z => h2 z.2.1)]
        · have : (j < t) = (j < t + 1) := propext ⟨fun z => by omega, fun z => by omega⟩
          simp only [this]
    · rw [if_neg h1]
      refine ih (t + 1) f h (by omega) (by omega) H (fun j hj => ?_)
      rw [E j hj]
      by_cases ej : j = t
      · subst ej
        rw [if_neg (fun z => h1 z.2.2), if_neg (fun z => h1 z.2.2)]
      · have : (j < t) = (j < t + 1) := propext ⟨fun z => by omega, fun z => by omega⟩
        simp only [this]
theorem EN_app {h : Hp} {X : XS} {G : List Nat} {i : Nat} {od : Nat → Int32} (hG : ∀ i, i ∈ G → i < 1500) (ho : ∀ t, t < 64 → od t = oI (fE X (nI t) G)) (E : ∀ j, j < 64 → hI h 43 j = if od j = -1 ∧ nI j &&& hmS (xs X i) = nI j then nI i else od j) : EN h X (G ++ [i]) := by
  intro t ht
  rw [E t ht, fE_app, ho t ht]
  have z := oI_m1 (X := X) (t := nI t) hG
  cases e : fE X (nI t) G with
  | none =>
    by_cases h1 : nI t &&& hmS (xs X i) = nI t
    · rw [if_pos ⟨rfl, h1⟩]
      show _ = oI (if nI t &&& hmS (xs X i) = nI t then some i else none)
      rw [if_pos h1]
      rfl
    · rw [if_neg (fun z => h1 z.2)]
      show _ = oI (if nI t &&& hmS (xs X i) = nI t then some i else none)
      rw [if_neg h1]
  | some e' =>
    rw [e] at z
    rw [if_neg (fun w => by have := z.mp w.1; cases this)]
theorem c_note {h : Hp} {N i : Nat} {X : XS} {G : List Nat} (hN : 100 ≤ N) (H : SHP h) (D : Dm (xs X i)) (hG : ∀ i, i ∈ G → i < 1500) (E : EN h X G) : ∃ h', f_X3_noteEnds N h 32 (nI i) (hmS (xs X i)) = some h' ∧ EN h' X (G ++ [i]) ∧ Fr (fun a _ => a = 43) h h' := by
  obtain ⟨g, hg, eg⟩ := bst_lt (hm (xs X i)) (bgs (xs X i)) D.2.2.2.2.1
  have hg6 : g < 64 := Nat.lt_of_lt_of_le hg (Nat.pow_le_pow_right (n := 2) (by decide) D.2.2.2.2.1)
  have eg' : hmS (xs X i) = nI g := eg
  unfold f_X3_noteEnds
  rw [pp_32_11 H, bs, ll_43 H, eg', if_inI hg6 (by omega), nI_clamp (by omega)]
  by_cases h1 : hI h 43 g = -1
  · rw [if_pos h1]
    obtain ⟨h', q, e, F⟩ := c_note_l (N := N) (i := i) (g := nI g) (od := fun t => oI (fE X (nI t) G)) 64 0 N h (by omega) (by omega) H (fun j hj => by
      rw [if_neg (fun z => by omega)]; exact E j hj)
    exact ⟨h', q, EN_app (od := fun t => oI (fE X (nI t) G)) hG (fun _ _ => rfl) (fun j hj => by rw [eg']; exact e j hj), F⟩
  · rw [if_neg h1]
    refine ⟨h, rfl, fun t ht => ?_, Fr_refl h⟩
    rw [E t ht, fE_app]
    cases e : fE X (nI t) G with
    | some e' => rfl
    | none =>
      show _ = oI (if nI t &&& hmS (xs X i) = nI t then some i else none)
      rw [if_neg (fun z => ?_)]
      rw [E g hg6] at h1
      cases e2 : fE X (nI g) G with
      | none => rw [e2] at h1; exact h1 rfl
      | some e3 =>
        have := fE_some G e2
        rw [eg'] at z
        exact fE_none G e e3 this.1 (sub_tr z this.2)
theorem c_fill_l {N q : Nat} {v : Int32} {len : Nat} (hlen : len < 10000) : ∀ (m t f : Nat) (h : Hp), t + m = len → m < f → hL h q = len → (∀ j, j < t → hI h q j = v) → ∃ h', f_J7_fill_53178_5 N f h q v (nI t) (nI len) = some h' ∧ (∀ j, j < len → hI h' q j = v) ∧ Fr (fun a _ => a = q) h h' := by
  intro m
  induction m with
  | zero =>
    intro t f h ht hf hl E
    obtain ⟨f, rfl⟩ : ∃ k, f = k + 1 := ⟨f - 1, by omega⟩
    rw [f_J7_fill_53178_5, if_pos (nI_le (by omega) (by omega))]
    exact ⟨h, rfl, fun j hj => E j (by omega), Fr_refl h⟩
  | succ m ih =>
    intro t f h ht hf hl E
    obtain ⟨f, rfl⟩ : ∃ k, f = k + 1 := ⟨f - 1, by omega⟩
    rw [f_J7_fill_53178_5, if_neg (nI_ge (by omega) (by omega)), hl, if_inI (by omega) (by omega), lts, nI_clamp (by omega), nI_1]
    obtain ⟨h', a, b, F⟩ := ih (t + 1) f (sI h q t v) (by omega) (by omega) hl (fun j hj => by
      rw [hI_sI]
      by_cases ej : j = t
      · rw [if_pos ⟨rfl, ej⟩]
      · rw [if_neg (fun z => ej z.2)]; exact E j (by omega))
    exact ⟨h', a, b, Fr_trans (Fr_sI _ _ _ _ rfl) F⟩
theorem c_fill {h : Hp} {N q : Nat} {v : Int32} {len : Nat} (hlen : len < 10000) (hN : len < N) (hl : hL h q = len) : ∃ h', f_J7_fill_53178 N h q v = some h' ∧ (∀ j, j < len → hI h' q j = v) ∧ Fr (fun a _ => a = q) h h' := by
  unfold f_J7_fill_53178
  rw [hl]
  exact c_fill_l hlen len 0 N h (by omega) hN hl (fun j hj => absurd hj (Nat.not_lt_zero j))
def Xe (α : SA) : XS := (0, fun _ => α, fun _ => 0, fun _ => 0, fun _ => 0, fun _ => false, false)
theorem fu_c {A : Type} (k : Nat) (x : A) : fu (fun _ => x) k x = fun _ => x := by
  funext j
  unfold fu
  split <;> rfl
theorem rch_e (α : SA) : rch (Xe α) α 0 0 0 = X0 α := by
  rw [rch_c4 (show fnd (xs (Xe α)) α (xn (Xe α)) = none from rfl) (show ¬ (0 : Nat) = 1500 by decide)]
  unfold Xe X0 xn xs xc xf xb xg xo
  simp only [fu_c]
/-- the upper lake has so much -/
def lk (α : SA) (w : Int32) : SA := sr α 1 (upd (α 1) 0 w)
def PBg : Nat → Nat → Prop := fun a j => PSp a j ∨ a = 43
theorem c_begin {h : Hp} {N : Nat} {α : SA} {w : Int32} (hN : 5000 ≤ N) (H : SHP h) (A : Ac h 3 α) (O : Ok (lk α w)) (I15 : isSt h 15) : ∃ h', f_X3_begin N h 32 3 w = some h' ∧ SHP h' ∧ RpC h' (lk α w) (X0 (lk α w)) ∧ EN h' (X0 (lk α w)) [] ∧ Ac h' 15 (lk α w) ∧ Fq PBg h h' := by
  unfold f_X3_begin
  obtain ⟨h1, q1, A1, F1⟩ := c_copy (s0 := 15) (s1 := 3) (Or.inr (by decide)) A I15
  have H1 := Fr_SHP F1 H
  rw [pp_32_0 H, bs, q1, bs, pp_32_0 H1, bs, pp_15_8 H1, bs, ll_16 H1, if_pos (by decide), lts]
  have A2 : Ac (sI h1 16 0 w) 15 (lk α w) := Ac_w A1 1 0 w
  have F2 : Fr (PS 15) h (sI h1 16 0 w) := Fr_trans F1 (Fr_sI _ _ _ _ ⟨by decide, by decide⟩)
  generalize sI h1 16 0 w = h2 at A2 F2 ⊢
  have H2 := Fr_SHP F2 H
  obtain ⟨h3, q3, e3, F3⟩ := c_fill (N := N) (v := 0) (by decide) (by omega) (ll_42 H2)
  have H3 := Fr_SHP F3 H2
  rw [pp_32_10 H2, bs, q3, bs]
  obtain ⟨h4, q4, e4, F4⟩ := c_fill (N := N) (v := -1) (by decide) (by omega) (ll_43 H3)
  have H4 := Fr_SHP F4 H3
  rw [pp_32_11 H3, bs, q4, bs, lts, lts, lts]
  have F5 : Fr (fun a j => a = 32 ∧ (j = 12 ∨ j = 13 ∨ j = 14)) h4 (sI (sI (sI h4 32 12 0) 32 13 0) 32 14 0) := Fr_trans (Fr_sI _ _ _ _ ⟨rfl, Or.inl rfl⟩) (Fr_trans (Fr_sI _ _ _ _ ⟨rfl, Or.inr (Or.inl rfl)⟩) (Fr_sI _ _ _ _ ⟨rfl, Or.inr (Or.inr rfl)⟩))
  have g12 : hI (sI (sI (sI h4 32 12 0) 32 13 0) 32 14 0) 32 12 = 0 := by rw [hI_sI, if_neg (by omega), hI_sI, if_neg (by omega), hI_sI, if_pos ⟨rfl, rfl⟩]
  have g13 : hI (sI (sI (sI h4 32 12 0) 32 13 0) 32 14 0) 32 13 = 0 := by rw [hI_sI, if_neg (by omega), hI_sI, if_pos ⟨rfl, rfl⟩]
  have g14 : hI (sI (sI (sI h4 32 12 0) 32 13 0) 32 14 0) 32 14 = 0 := by rw [hI_sI, if_pos ⟨rfl, rfl⟩]
  generalize sI (sI (sI h4 32 12 0) 32 13 0) 32 14 0 = h5 at F5 g12 g13 g14 ⊢
  have H5 := Fr_SHP F5 H4
  have A5 : Ac h5 15 (lk α w) := Fr_Ac F5 (fun a j h1 h2 z => by omega) (Fr_Ac F4 (fun a j h1 h2 z => by omega) (Fr_Ac F3 (fun a j h1 h2 z => by omega) A2))
  have r42 : ∀ j, hI h5 42 j = hI h3 42 j := fun j => by rw [F5.2.2.2 42 j (fun z => by omega), F4.2.2.2 42 j (fun z => by omega)]
  have r43 : ∀ j, hI h5 43 j = hI h4 43 j := fun j => F5.2.2.2 43 j (fun z => by omega)
  have Re : RpC h5 (lk α w) (Xe (lk α w)) := by
    refine ⟨g12, g14, fun i hi => absurd hi (Nat.not_lt_zero i), fun i hi => absurd hi (Nat.not_lt_zero i), ⟨fun _ => 0, fun p hp => by rw [r42, e3 p hp]; rfl, HI_hs HI_nil (fun i hi => absurd hi (Nat.not_lt_zero i))⟩, ⟨fun _ => 0, fun _ => 0, 0, g13, by decide, ⟨fun q hq => absurd hq (Nat.not_lt_zero q), fun i hi => absurd hi.1 (Nat.not_lt_zero i), fun q hq => absurd hq (Nat.not_lt_zero q), fun i hi => absurd hi.1 (Nat.not_lt_zero i)⟩, fun q _ hq => absurd hq (Nat.not_lt_zero q)⟩, fun i hi => absurd hi (Nat.not_lt_zero i)⟩
  obtain ⟨h6, q6, R6, F6⟩ := c_reach (N := N) (α := lk α w) (β := lk α w) (X := Xe (lk α w)) (s := 0) (x := 0) (c := 0) (t := 0) hN H5 A5 O ⟨O, fun _ _ _ => rfl, fun _ _ => rfl, fun _ _ => rfl⟩ rfl rfl (fun _ _ => rfl) (show 0 ≤ 1500 by decide) (fun i hi => absurd hi (Nat.not_lt_zero i)) (fun i j hi _ _ => absurd hi (Nat.not_lt_zero i)) (if_pos rfl).symm (fun j hj => absurd hj (Nat.not_lt_zero j)) Re
  rw [rch_e] at R6
  have q6' : f_X3_reach N h5 32 0 0 0 = some h6 := q6
  rw [q6', bs]
  refine ⟨h6, rfl, Fq_SHP F6 H5, R6, fun t ht => ?_, Fq_Ac F6 (fun a j h1 h2 z => by unfold PRc at z; omega) A5, ?_⟩
  · rw [F6.2.2.2 43 t (fun z => by unfold PRc at z; omega), r43, e4 t ht]
    rfl
  · refine Fq_trans (Fq_mono (Fr_q F2) (fun a j z => Or.inl (Or.inr z))) (Fq_trans (Fq_mono (Fr_q F3) (fun a j z => Or.inl (Or.inl (Or.inr (by omega))))) (Fq_trans (Fq_mono (Fr_q F4) (fun a j z => Or.inr z)) (Fq_trans (Fq_mono (Fr_q F5) (fun a j z => Or.inl (Or.inl (Or.inl z)))) (Fq_mono F6 (fun a j z => Or.inl (Or.inl z))))))
/-! the search as a row of steps -/
def SR (α : SA) (rl : RLT) (m : Bool) : Nat → XS × List Nat
  | 0 => (X0 α, [])
  | n + 1 => match nxt (SR α rl m n).1 with
    | none => SR α rl m n
    | some s => (stp rl m (SR α rl m n).1 s, (SR α rl m n).2 ++ [s])
theorem SR_none {α : SA} {rl : RLT} {m : Bool} {n : Nat} (h : nxt (SR α rl m n).1 = none) : SR α rl m (n + 1) = SR α rl m n := by
  rw [SR, h]
theorem SR_some {α : SA} {rl : RLT} {m : Bool} {n s : Nat} (h : nxt (SR α rl m n).1 = some s) : SR α rl m (n + 1) = (stp rl m (SR α rl m n).1 s, (SR α rl m n).2 ++ [s]) := by
  rw [SR, h]
def cG (X : XS) : Nat := cz (fun i => if xg X i = true then 1 else 0) 1500
theorem cG_mrk {X : XS} {s : Nat} (hs : s < 1500) (hg : xg X s = false) : cG (mrk X s) = cG X + 1 := by
  unfold cG
  have e : (fun i => if xg (mrk X s) i = true then 1 else 0) = fu (fun i => if xg X i = true then 1 else 0) s 1 := by
    funext i
    show (if fu (xg X) s true i = true then 1 else 0) = _
    by_cases ei : i = s
    · subst ei; rw [fu_s, fu_s, if_pos rfl]
    · rw [fu_o _ _ ei, fu_o _ _ ei]
  rw [e, cz_fu (by rw [if_neg (by rw [hg]; decide)]) (by decide) 1500 hs]
theorem cz_all {sl : Nat → Nat} : ∀ n, cz sl n = n → ∀ p, p < n → sl p ≠ 0
  | 0, _, p, hp => absurd hp (Nat.not_lt_zero p)
  | n + 1, h, p, hp => by
    have h' : cz sl n + (if sl n = 0 then 0 else 1) = n + 1 := h
    have := cz_le (sl := sl) n
    by_cases e : sl n = 0
    · rw [if_pos e] at h'; omega
    · rw [if_neg e] at h'
      by_cases ep : p = n
      · subst ep; exact e
      · exact cz_all n (by omega) p (by omega)
theorem rch_xg {X : XS} {β : SA} {s x : Nat} {c : Int32} (hX : ∀ i, xg X i = true → i < xn X) : xg (rch X β s x c) = xg X := by
  cases e : fnd (xs X) β (xn X) with
  | some i =>
    by_cases h : xg X i = true ∨ xc X i ≤ c
    · rw [rch_c1 e h]
    · rw [rch_c2 e h]; rfl
  | none =>
    by_cases h : xn X = 1500
    · rw [rch_c3 e h]; rfl
    · rw [rch_c4 e h]
      show fu (xg X) (xn X) false = xg X
      funext i
      by_cases ei : i = xn X
      · subst ei
        rw [fu_s]
        cases eg : xg X (xn X) with
        | false => rfl
        | true => exact absurd (hX _ eg) (Nat.lt_irrefl _)
      · rw [fu_o _ _ ei]
theorem spr_xg {α : SA} {rl : RLT} {m : Bool} {s : Nat} {β : SA} {G : List Nat} (hs : s ∈ G) : ∀ (l : List Nat) (X : XS), XI α rl X G → xs X s = β → (∀ x, x ∈ l → x ∈ TL β rl) → xg (spr m β s l X) = xg X
  | [], X, _, _, _ => rfl
  | x :: l, X, I, e, h => by
    rw [spr]
    by_cases ho : xo X = true
    · rw [if_pos ho]
    · rw [if_neg ho]
      have := XI_rch I hs (x := x) (c := xc X s + wgt m β x) (by rw [e]; exact h x (by simp))
      rw [e] at this
      obtain ⟨I1, S1⟩ := this
      rw [spr_xg hs l _ I1 ((S1.2.1 s (I.2.2.2.2.1 s hs)).trans e) (fun y hy => h y (by simp [hy]))]
      exact rch_xg (fun i hi => I.2.2.2.2.1 i ((I.2.2.2.1 i).mp hi))
theorem nxt_s {X : XS} {s : Nat} (h : nxt X = some s) : xo X = false ∧ s < xn X ∧ xg X s = false := by
  unfold nxt at h
  by_cases ho : xo X = true
  · rw [if_pos ho] at h; cases h
  · rw [if_neg ho] at h
    have := lsF_some _ h
    exact ⟨by simpa using ho, this.1, this.2.1⟩
theorem cG_stp {α : SA} {rl : RLT} {m : Bool} {X : XS} {G : List Nat} (I : XI α rl X G) {s : Nat} (h : nxt X = some s) : cG (stp rl m X s) = cG X + 1 := by
  obtain ⟨_, h1, h2⟩ := nxt_s h
  have I1 := (XI_mrk I h1 h2).1
  rw [← cG_mrk (X := X) (s := s) (by have := I.1.2; omega) h2]
  unfold cG stp
  rw [spr_xg (m := m) (β := xs X s) (α := α) (rl := rl) (G := G ++ [s]) (by simp) (TL (xs X s) rl) (mrk X s) I1 rfl (fun x hx => hx)]
theorem cG_full {α : SA} {rl : RLT} {X : XS} {G : List Nat} (I : XI α rl X G) (h : cG X = 1500) : nxt X = none := by
  cases e : nxt X with
  | none => rfl
  | some s =>
    obtain ⟨_, h1, h2⟩ := nxt_s e
    have := cz_all 1500 h s (by have := I.1.2; omega)
    rw [h2] at this
    exact absurd rfl this
theorem cG_le (X : XS) : cG X ≤ 1500 := cz_le 1500
theorem SR_XI {α : SA} {rl : RLT} {m : Bool} (O : Ok α) : ∀ n, XI α rl (SR α rl m n).1 (SR α rl m n).2
  | 0 => XI_0 O
  | n + 1 => by
    have I := SR_XI (rl := rl) (m := m) O n
    cases e : nxt (SR α rl m n).1 with
    | none => rw [SR_none e]; exact I
    | some s => rw [SR_some e]; exact (XI_stp I e).1
theorem SR_c {α : SA} {rl : RLT} {m : Bool} (O : Ok α) : ∀ n, cG (SR α rl m n).1 = n ∨ nxt (SR α rl m n).1 = none
  | 0 => Or.inl (by
      unfold cG
      have e : (fun i => if xg (SR α rl m 0).1 i = true then 1 else 0) = fun _ => (0 : Nat) := funext fun i => if_neg (by show ¬ false = true; decide)
      rw [e]
      have : ∀ n, cz (fun _ => 0) n = 0 := fun n => by
        induction n with
        | zero => rfl
        | succ n ih => show cz _ n + 0 = 0; rw [ih]
      exact this 1500)
  | n + 1 => by
    cases e : nxt (SR α rl m n).1 with
    | none => rw [SR_none e]; exact Or.inr e
    | some s =>
      rcases SR_c (rl := rl) (m := m) O n with z | z
      · rw [SR_some e]
        exact Or.inl (by rw [cG_stp (SR_XI O n) e, z])
      · rw [e] at z; cases z
theorem SR_end {α : SA} {rl : RLT} {m : Bool} (O : Ok α) {n : Nat} (hn : 1500 ≤ n) : nxt (SR α rl m n).1 = none := by
  rcases SR_c (rl := rl) (m := m) O n with z | z
  · have := cG_le (SR α rl m n).1
    exact cG_full (SR_XI O n) (by omega)
  · exact z
