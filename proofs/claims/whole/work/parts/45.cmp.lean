/-! ===== what the reference's search tells; both searches tell the same ===== -/
def ev (X : XS) : Option Nat → Int32
  | some e => nI e
  | none => if xo X then -3 else -2
theorem m_endOf_l {h : Hp} {N : Nat} {X : XS} {G : List Nat} {t : Int32} (H : SHP h) (hG : G.length ≤ 1500) (R : RpM h X G) : ∀ (m k f : Nat), k + m = G.length → m < f → f_X8_endOf_2 N f h 51 t (nI k) = some (ev X (fE X t (G.drop k))) := by
  obtain ⟨r1, r2, r3, r4, r5, r6, r7⟩ := R
  intro m
  induction m with
  | zero =>
    intro k f hk hf
    obtain ⟨f, rfl⟩ : ∃ k, f = k + 1 := ⟨f - 1, by omega⟩
    rw [f_X8_endOf_2, r3, if_pos (nI_le (by omega) (by omega)), r2, List.drop_eq_nil_of_le (by omega)]
    show _ = some (if xo X then -3 else -2)
    cases xo X <;> rfl
  | succ m ih =>
    intro k f hk hf
    obtain ⟨f, rfl⟩ : ∃ k, f = k + 1 := ⟨f - 1, by omega⟩
    have hk' : k < G.length := by omega
    have eg : G.getD k 0 = G[k] := by rw [List.getD_eq_getElem?_getD, List.getElem?_eq_getElem hk']; rfl
    rw [f_X8_endOf_2, r3, if_neg (nI_ge (by omega) (by omega)), pp_51_34 H, bs, ll_70 H, if_inI (by omega) (by omega), nI_clamp (by omega), (r7 k hk').2, eg, List.drop_eq_getElem_cons hk', fE, Int32.and_comm]
    by_cases e : t &&& hmS (xs X G[k]) = t
    · rw [if_pos e, if_pos e, pp_51_33 H, bs, ll_69 H, if_pos ⟨nI_pos' (by omega), by omega⟩, (r7 k hk').1, eg]
      rfl
    · rw [if_neg e, if_neg e, nI_1]
      exact ih (k + 1) f (by omega) (by omega)
theorem m_endOf {h : Hp} {N : Nat} {X : XS} {G : List Nat} {t : Int32} (hN : 5000 ≤ N) (H : SHP h) (hG : G.length ≤ 1500) (R : RpM h X G) : f_X8_endOf N h 51 t = some (ev X (fE X t G)) := m_endOf_l H hG R G.length 0 N (by omega) (by omega)
def ptx (α : SA) (x : Nat) (w : Int32) : Int32 := if w = 0 then nI (tk α x) else if w = 1 then bI (td α x) else bI (tu α x)
theorem m_row94 {h : Hp} {N : Nat} {α : SA} {X : XS} {k d i : Nat} {w : Int32} (M : Am h α) (D : Dm α) (hn : xn X ≤ 1500) (hd : d < 1500) (hk : k < d) (hf : ∀ j, j < xn X → hI h 66 j = if j = 0 then -1 else nI (xf X j)) (ht : ∀ j, j < xn X → j ≠ 0 → hI h 67 j = nI (xb X j)) (hb : ∀ e, e < d → xb X (anc X e i) < 400) (d3 : ∀ e, e < d → anc X e i ≠ 0) (d4 : ∀ e, e ≤ d → anc X e i < xn X) : ∀ (m l f : Nat), l + m = d - 1 - k → m < f → f_X8_row_94 N f h 51 (nI k) w (nI (anc X l i)) (nI (d - 1 - l)) = some (ptx α (xb X (anc X (d - 1 - k) i)) w, h) := by
  intro m
  induction m with
  | zero =>
    intro l f hl hf'
    obtain ⟨f, rfl⟩ : ∃ k, f = k + 1 := ⟨f - 1, by omega⟩
    have a1 := d3 l (by omega)
    have a2 := d4 l (by omega)
    have a3 := hb l (by omega)
    rw [f_X8_row_94, if_pos (nI_le (by omega) (by omega))]
    unfold ptx
    have c : 0 ≤ nI (anc X l i) ∧ (nI (anc X l i)).toNatClampNeg < hL h 67 := by rw [ll_67 M.1]; exact in_nI (by omega) (by omega)
    have v : hI h 67 (nI (anc X l i)).toNatClampNeg = nI (xb X (anc X l i)) := by rw [nI_clamp (by omega)]; exact ht _ a2 a1
    rw [← show l = d - 1 - k by omega]
    by_cases w0 : w = 0
    · rw [if_pos w0, if_pos w0, pp_51_31 M.1, bs, if_pos c, v, m_stepBy M D a3, bs]
    · rw [if_neg w0, if_neg w0]
      by_cases w1 : w = 1
      · rw [if_pos w1, if_pos w1, pp_51_31 M.1, bs, if_pos c, v, m_downBy M D a3, bs]
      · rw [if_neg w1, if_neg w1, pp_51_31 M.1, bs, if_pos c, v, m_upBy M D a3, bs]
  | succ m ih =>
    intro l f hl hf'
    obtain ⟨f, rfl⟩ : ∃ k, f = k + 1 := ⟨f - 1, by omega⟩
    have a1 := d3 l (by omega)
    have a2 := d4 l (by omega)
    rw [f_X8_row_94, if_neg (nI_ge (by omega) (by omega)), pp_51_30 M.1, bs, ll_66 M.1, if_inI (by omega) (by omega), lts, nI_clamp (by omega), hf _ a2, if_neg a1, ← anc_s, show nI (d - 1 - l) + (-1) = nI (d - 1 - (l + 1)) by rw [← Int32.sub_eq_add_neg, n_1, pk_sub (by omega)]; congr 1]
    exact ih (l + 1) f (by omega) (by omega)
theorem m_row54 {h : Hp} {N : Nat} {X : XS} {d i e : Nat} {vk w : Int32} (H : SHP h) (hn : xn X ≤ 1500) (hd : d < 1500) (hf : ∀ j, j < xn X → hI h 66 j = if j = 0 then -1 else nI (xf X j)) (d2 : anc X d i = 0) (d3 : ∀ e, e < d → anc X e i ≠ 0) (d4 : ∀ e, e ≤ d → anc X e i < xn X) : ∀ (m l f : Nat), l + m = d → m < f → f_X8_row_54 N f h 51 vk w (nI e) (nI l) (nI (anc X l i)) = if vk < nI d then f_X8_row_94 N N h 51 vk w (nI e) (nI d - 1) else some (-2, h) := by
  intro m
  induction m with
  | zero =>
    intro l f hl hf'
    obtain ⟨f, rfl⟩ : ∃ k, f = k + 1 := ⟨f - 1, by omega⟩
    have a2 := d4 l (by omega)
    have : l = d := by omega
    subst this
    rw [f_X8_row_54, pp_51_30 H, bs, ll_66 H, if_inI (by omega) (by omega), nI_clamp (by omega), hf _ a2, if_pos d2, if_pos (by decide)]
  | succ m ih =>
    intro l f hl hf'
    obtain ⟨f, rfl⟩ : ∃ k, f = k + 1 := ⟨f - 1, by omega⟩
    have a1 := d3 l (by omega)
    have a2 := d4 l (by omega)
    have a3 := d4 (l + 1) (by omega)
    rw [f_X8_row_54, pp_51_30 H, bs, ll_66 H, if_inI (by omega) (by omega), nI_clamp (by omega), hf _ a2, if_neg a1, ← anc_s, if_neg (nI_pos (by omega)), bs, ll_66 H, if_pos ⟨nI_pos' (by omega), by omega⟩, lts, hf _ a2, if_neg a1, ← anc_s, nI_1]
    exact ih (l + 1) f (by omega) (by omega)
/-- the row of a plan: which tip is the k-th -/
def eX (X : XS) (G : List Nat) (t : Int32) (k : Nat) : Option Nat := match fE X t G with
  | some e => if k < dep X 1500 e then some (xb X (anc X (dep X 1500 e - 1 - k) e)) else none
  | none => none
/-! likeness of searches -/
def Sim (X Y : XS) : Prop := xn Y = xn X ∧ (∀ i, Sm (xs X i) (xs Y i)) ∧ xc Y = xc X ∧ xf Y = xf X ∧ xb Y = xb X ∧ xg Y = xg X ∧ xo Y = xo X
theorem sameB_Sm {β β' γ γ' : SA} (h1 : Sm β β') (h2 : Sm γ γ') : sameB β' γ' ↔ sameB β γ := by
  unfold sameB
  rw [Sm_bgs h1, Sm_lvl h1, h1.1, h1.2.2.2.1, h2.1, h2.2.2.2.1]
theorem fnd_Sm {st st' : Nat → SA} {β β' : SA} (h : ∀ i, Sm (st i) (st' i)) (hb : Sm β β') : ∀ n, fnd st' β' n = fnd st β n
  | 0 => rfl
  | n + 1 => by
    rw [fnd, fnd, fnd_Sm h hb n]
    have := sameB_Sm hb (h n)
    cases fnd st β n with
    | some i => rfl
    | none =>
      show (if sameB β' (st' n) then some n else none) = (if sameB β (st n) then some n else none)
      by_cases hs : sameB β (st n)
      · rw [if_pos hs, if_pos (this.mpr hs)]
      · rw [if_neg hs, if_neg (fun z => hs (this.mp z))]
theorem Sim_rch {X Y : XS} {β β' : SA} (S : Sim X Y) (hb : Sm β β') (s x : Nat) (c : Int32) : Sim (rch X β s x c) (rch Y β' s x c) := by
  obtain ⟨s1, s2, s3, s4, s5, s6, s7⟩ := S
  have ef : fnd (xs Y) β' (xn Y) = fnd (xs X) β (xn X) := by rw [s1]; exact fnd_Sm s2 hb _
  cases e : fnd (xs X) β (xn X) with
  | some i =>
    have e' := ef.trans e
    by_cases h : xg X i = true ∨ xc X i ≤ c
    · rw [rch_c1 e h, rch_c1 e' (by rw [s6, s3]; exact h)]
      exact ⟨s1, s2, s3, s4, s5, s6, s7⟩
    · rw [rch_c2 e h, rch_c2 e' (by rw [s6, s3]; exact h)]
      refine ⟨s1, s2, ?_, ?_, ?_, s6, s7⟩
      · show fu (xc Y) i c = fu (xc X) i c; rw [s3]
      · show fu (xf Y) i s = fu (xf X) i s; rw [s4]
      · show fu (xb Y) i x = fu (xb X) i x; rw [s5]
  | none =>
    have e' := ef.trans e
    by_cases h : xn X = 1500
    · rw [rch_c3 e h, rch_c3 e' (by rw [s1]; exact h)]
      exact ⟨s1, s2, s3, s4, s5, s6, rfl⟩
    · rw [rch_c4 e h, rch_c4 e' (by rw [s1]; exact h)]
      refine ⟨?_, fun i => ?_, ?_, ?_, ?_, ?_, s7⟩
      · show xn Y + 1 = xn X + 1; rw [s1]
      · show Sm (fu (xs X) (xn X) β i) (fu (xs Y) (xn Y) β' i)
        rw [s1]
        by_cases ei : i = xn X
        · subst ei; rw [fu_s, fu_s]; exact hb
        · rw [fu_o _ _ ei, fu_o _ _ ei]; exact s2 i
      · show fu (xc Y) (xn Y) c = fu (xc X) (xn X) c; rw [s3, s1]
      · show fu (xf Y) (xn Y) s = fu (xf X) (xn X) s; rw [s4, s1]
      · show fu (xb Y) (xn Y) x = fu (xb X) (xn X) x; rw [s5, s1]
      · show fu (xg Y) (xn Y) false = fu (xg X) (xn X) false; rw [s6, s1]
theorem nx_Sm2 {β β' : SA} (h : Sm β β') (x : Nat) : Sm (nx β x) (nx β' x) := by
  have d := Sm_dN h x 1
  obtain ⟨a1, a2, a3, a4, a5, a6, a7, a8, a9, a10, a11⟩ := h
  have o : ∀ γ a, a ≠ 1 → a ≠ 5 → nx γ x a = γ a := fun γ a h1 h5 => nx_o _ _ h1 h5
  refine ⟨?_, ?_, ?_, ?_, ?_, ?_, ?_, ?_, ?_, ?_, ?_⟩
  · rw [nx_1, nx_1]; exact d.1
  · rw [o _ 2 (by decide) (by decide), o _ 2 (by decide) (by decide)]; exact a2
  · rw [o _ 3 (by decide) (by decide), o _ 3 (by decide) (by decide)]; exact a3
  · rw [nx_5, nx_5]; exact d.2.2.2.1
  · rw [o _ 6 (by decide) (by decide), o _ 6 (by decide) (by decide)]; exact a5
  · rw [o _ 7 (by decide) (by decide), o _ 7 (by decide) (by decide)]; exact a6
  · rw [o _ 8 (by decide) (by decide), o _ 8 (by decide) (by decide)]; exact a7
  · rw [o _ 0 (by decide) (by decide), o _ 0 (by decide) (by decide)]; exact a8
  · rw [o _ 0 (by decide) (by decide), o _ 0 (by decide) (by decide)]; exact a9
  · rw [o _ 0 (by decide) (by decide), o _ 0 (by decide) (by decide)]; exact a10
  · rw [o _ 0 (by decide) (by decide), o _ 0 (by decide) (by decide)]; exact a11
theorem Sim_spr {m : Bool} {β β' : SA} (hb : Sm β β') {s : Nat} : ∀ (l : List Nat) {X Y : XS}, Sim X Y → Sim (spr m β s l X) (spr m β' s l Y)
  | [], _, _, S => S
  | x :: l, X, Y, S => by
    rw [spr, spr, S.2.2.2.2.2.2]
    by_cases ho : xo X = true
    · rw [if_pos ho, if_pos ho]; exact S
    · rw [if_neg ho, if_neg ho, S.2.2.1]
      have ew : wgt m β' x = wgt m β x := by
        unfold wgt
        rw [Sm_td hb, Sm_tu hb, Sm_Nd hb, Sm_Wo hb]
      rw [ew]
      exact Sim_spr hb l (Sim_rch S (nx_Sm2 hb x) s x _)
theorem Sim_lsF {X Y : XS} (S : Sim X Y) : ∀ n, lsF Y n = lsF X n
  | 0 => rfl
  | n + 1 => by
    rw [lsF, lsF, Sim_lsF S n, S.2.2.1, S.2.2.2.2.2.1]
theorem Sim_nxt {X Y : XS} (S : Sim X Y) : nxt Y = nxt X := by
  unfold nxt
  rw [S.2.2.2.2.2.2, S.1, Sim_lsF S]
theorem Sim_stp {rl : RLT} {m : Bool} {X Y : XS} (S : Sim X Y) (s : Nat) : Sim (stp rl m X s) (stp rl m Y s) := by
  unfold stp
  rw [Sm_TL (S.2.1 s)]
  refine Sim_spr (S.2.1 s) _ ?_
  obtain ⟨s1, s2, s3, s4, s5, s6, s7⟩ := S
  exact ⟨s1, s2, s3, s4, s5, by show fu (xg Y) s true = fu (xg X) s true; rw [s6], s7⟩
theorem Sim_SR {α α' : SA} (h : Sm α α') {rl : RLT} {m : Bool} : ∀ n, Sim (SR α rl m n).1 (SR α' rl m n).1 ∧ (SR α' rl m n).2 = (SR α rl m n).2
  | 0 => ⟨⟨rfl, fun _ => h, rfl, rfl, rfl, rfl, rfl⟩, rfl⟩
  | n + 1 => by
    obtain ⟨a, b⟩ := Sim_SR h (rl := rl) (m := m) n
    have e := Sim_nxt a
    cases e1 : nxt (SR α rl m n).1 with
    | none =>
      rw [SR_none e1, SR_none (e.trans e1)]
      exact ⟨a, b⟩
    | some s =>
      rw [SR_some e1, SR_some (e.trans e1)]
      exact ⟨Sim_stp a s, by rw [b]⟩
theorem Sim_fE {X Y : XS} (S : Sim X Y) (t : Int32) : ∀ G, fE Y t G = fE X t G
  | [] => rfl
  | i :: G => by rw [fE, fE, Sm_hm (S.2.1 i), Sim_fE S t G]
theorem Sim_anc {X Y : XS} (e : xf Y = xf X) : ∀ k i, anc Y k i = anc X k i
  | 0, _ => rfl
  | k + 1, i => by rw [anc, anc, e, Sim_anc e k]
theorem Sim_dep {X Y : XS} (e : xf Y = xf X) : ∀ k i, dep Y k i = dep X k i
  | 0, _ => rfl
  | k + 1, i => by rw [dep, dep, e, Sim_dep e k]
theorem Sim_eC {X Y : XS} (S : Sim X Y) (G : List Nat) (t : Int32) : eC Y G t = eC X G t := by
  unfold eC
  rw [Sim_fE S, S.2.2.1, S.2.2.2.2.2.2]
theorem Sim_eX {X Y : XS} (S : Sim X Y) (G : List Nat) (t : Int32) (k : Nat) : eX Y G t k = eX X G t k := by
  unfold eX
  rw [Sim_fE S, S.2.2.2.2.1]
  cases fE X t G with
  | none => rfl
  | some e =>
    show (if k < dep Y 1500 e then _ else _) = (if k < dep X 1500 e then _ else _)
    rw [Sim_dep S.2.2.2.1, Sim_anc S.2.2.2.1]
/-! a search goes on: what was gone through stays -/
theorem SR_fix {α : SA} {rl : RLT} {m : Bool} {n : Nat} (h : nxt (SR α rl m n).1 = none) : ∀ k, SR α rl m (n + k) = SR α rl m n
  | 0 => rfl
  | k + 1 => by
    have e := SR_fix h k
    show SR α rl m (n + k + 1) = _
    rw [SR_none (by rw [e]; exact h), e]
theorem SR_on {α : SA} {rl : RLT} {m : Bool} (O : Ok α) {n s : Nat} (h : nxt (SR α rl m n).1 = some s) : ∀ k, (∃ K, (SR α rl m (n + 1 + k)).2 = ((SR α rl m n).2 ++ [s]) ++ K) ∧ Stb (mrk (SR α rl m n).1 s) (SR α rl m (n + 1 + k)).1
  | 0 => by
    rw [Nat.add_zero, SR_some h]
    exact ⟨⟨[], by simp⟩, (XI_stp (SR_XI O n) h).2.1⟩
  | k + 1 => by
    obtain ⟨⟨K, hK⟩, S⟩ := SR_on O h k
    show (∃ K, (SR α rl m (n + 1 + k + 1)).2 = _) ∧ Stb _ (SR α rl m (n + 1 + k + 1)).1
    cases e : nxt (SR α rl m (n + 1 + k)).1 with
    | none => rw [SR_none e]; exact ⟨⟨K, hK⟩, S⟩
    | some s' =>
      rw [SR_some e]
      exact ⟨⟨K ++ [s'], by show (SR α rl m (n + 1 + k)).2 ++ [s'] = _; rw [hK]; simp⟩, Stb_trans S (XI_stp (SR_XI O (n + 1 + k)) e).2.2⟩
theorem fE_pre {X Y : XS} {t : Int32} {e : Nat} (G K : List Nat) (hx : ∀ i, i ∈ G → xs Y i = xs X i) (h : fE X t G = some e) : fE Y t (G ++ K) = some e := by
  induction G with
  | nil => cases h
  | cons i G ih =>
    show (if t &&& hmS (xs Y i) = t then some i else fE Y t (G ++ K)) = some e
    have h' : (if t &&& hmS (xs X i) = t then some i else fE X t G) = some e := h
    rw [hx i (by simp)]
    by_cases hi : t &&& hmS (xs X i) = t
    · rw [if_pos hi] at h' ⊢; exact h'
    · rw [if_neg hi] at h' ⊢; exact ih (fun j hj => hx j (by simp [hj])) h'
theorem Stb_anc {X Y : XS} {G : List Nat} (hf : ∀ i, i ∈ G → xf Y i = xf X i) : ∀ (k i : Nat), (∀ e, e < k → anc X e i ∈ G) → anc Y k i = anc X k i
  | 0, _, _ => rfl
  | k + 1, i, h => by
    show anc Y k (xf Y i) = anc X k (xf X i)
    rw [hf i (h 0 (by omega))]
    exact Stb_anc hf k (xf X i) (fun e he => h (e + 1) (by omega))
theorem both {α : SA} {rl : RLT} {m : Bool} {X Y : XS} {G K : List Nat} {n : Nat} {t : Int32} (O : Ok α) (F : Fin α rl m X G) (hS : SR α rl m n = (Y, K)) (hn : nxt Y = none) (ht : t &&& nI (2 ^ bgs α - 1) = t) : eC X G t = eC Y K t ∧ (∀ k, eX X G t k = eX Y K t k) ∧ (fE X t G = none → xo X = xo Y) ∧ (fE X t G = none ↔ fE Y t K = none) := by
  have hn' : nxt (SR α rl m n).1 = none := by rw [hS]; exact hn
  rcases F with ⟨n', h1, h2⟩ | ⟨n', Z, L, s, h1, h2, h3, h4, e, he, hh⟩
  · have h2' : nxt (SR α rl m n').1 = none := by rw [h1]; exact h2
    have : SR α rl m n = SR α rl m n' := by
      by_cases c : n ≤ n'
      · obtain ⟨d, rfl⟩ : ∃ d, n' = n + d := ⟨n' - n, by omega⟩
        exact (SR_fix hn' d).symm
      · obtain ⟨d, rfl⟩ : ∃ d, n = n' + d := ⟨n - n', by omega⟩
        exact SR_fix h2' d
    rw [hS, h1] at this
    have e1 : Y = X := congrArg Prod.fst this
    have e2 : K = G := congrArg Prod.snd this
    subst e1 e2
    exact ⟨rfl, fun _ => rfl, fun _ => rfl, Iff.rfl⟩
  · have h2' : nxt (SR α rl m n').1 = some s := by rw [h1]; exact h2
    have hlt : n' < n := by
      by_cases c : n ≤ n'
      · obtain ⟨d, rfl⟩ : ∃ d, n' = n + d := ⟨n' - n, by omega⟩
        rw [SR_fix hn' d, hn'] at h2'
        cases h2'
      · omega
    obtain ⟨d, rfl⟩ : ∃ d, n = n' + 1 + d := ⟨n - (n' + 1), by omega⟩
    obtain ⟨⟨E, hE⟩, S⟩ := SR_on O h2' d
    have I0 := SR_XI (rl := rl) (m := m) O n'
    rw [hS, h1] at hE S
    rw [h1] at I0
    have hE' : K = (L ++ [s]) ++ E := hE
    have S' : Stb X Y := by rw [h3]; exact S
    obtain ⟨_, s1, s2⟩ := nxt_s h2
    have I : XI α rl X G := by rw [h3, h4]; exact (XI_mrk I0 s1 s2).1
    have gx : ∀ i, i ∈ G → xg X i = true ∧ i < xn X := fun i hi => ⟨(I.2.2.2.1 i).mpr hi, I.2.2.2.2.1 i hi⟩
    have xsE : ∀ i, i ∈ G → xs Y i = xs X i := fun i hi => S'.2.1 i (gx i hi).2
    cases hf : fE X t G with
    | none =>
      exact absurd (sub_tr ht hh) (fE_none G hf e he)
    | some e' =>
      have hf' : fE Y t K = some e' := by rw [hE', ← h4]; exact fE_pre G E xsE hf
      have he' := (fE_some G hf).1
      have st := S'.2.2 e' (gx e' he').1 (gx e' he').2
      have gl : G.length ≤ 1500 := Fin_len O (Or.inr ⟨n', Z, L, s, h1, h2, h3, h4, e, he, hh⟩)
      refine ⟨?_, fun k => ?_, fun z => (by cases z), ⟨fun z => (by cases z), fun z => (by rw [hf'] at z; cases z)⟩⟩
      · unfold eC
        rw [hf, hf']
        exact st.2.1.symm
      · unfold eX
        rw [hf, hf']
        show (if k < dep X 1500 e' then _ else _) = (if k < dep Y 1500 e' then _ else _)
        obtain ⟨dd, d1, d2, d3, d4, d5⟩ := way_ok I gl he'
        have hxf : ∀ i, i ∈ G → xf Y i = xf X i := fun i hi => (S'.2.2 i (gx i hi).1 (gx i hi).2).2.2.1
        have hxb : ∀ i, i ∈ G → xb Y i = xb X i := fun i hi => (S'.2.2 i (gx i hi).1 (gx i hi).2).2.2.2
        have aY : ∀ e, e ≤ dd → anc Y e e' = anc X e e' := fun e he => Stb_anc hxf e e' (fun e2 h2 => d4 e2 (by omega))
        have dY : dep Y 1500 e' = dd := dep_eq 1500 dd e' (by omega) (by rw [aY dd (Nat.le_refl _)]; exact d2) (fun e he => by rw [aY e (by omega)]; exact d3 e he)
        rw [d5, dY]
        by_cases hk : k < dd
        · rw [if_pos hk, if_pos hk, aY _ (by omega), hxb _ (d4 _ (by omega))]
        · rw [if_neg hk, if_neg hk]
/-! by tips, what it takes stays small -/
def Cst (α : SA) (X : XS) : Prop := ∀ i, i < xn X → ∃ c, xc X i = nI c ∧ c + 2 * rem (xs X i) ≤ 2 * rem α
theorem Wo_nat (β : SA) (d u : Nat) : ∃ w, w ≤ 2 ∧ Wo β d u = nI w := by
  unfold Wo
  split
  · exact ⟨1, by decide, rfl⟩
  · exact ⟨2, by decide, rfl⟩
theorem sumB_cong {f g : Nat → Nat} : ∀ n, (∀ b, b < n → f b = g b) → sumB f n = sumB g n
  | 0, _ => rfl
  | n + 1, h => by
    rw [sumB, sumB, sumB_cong n (fun b hb => h b (by omega)), h n (by omega)]
theorem rm1_same {α β γ : SA} (h1 : Irr α β) (h2 : Irr α γ) (h : sameB β γ) {b : Nat} (hb : b < bgs α) : rm1 β b = rm1 γ b := by
  have a1 := h1.1 8 (by decide) (by decide)
  have a2 := h2.1 8 (by decide) (by decide)
  have a3 := h.1 b (by rw [Irr_b h1]; exact hb)
  have a4 := Irr_l h1
  have a5 := Irr_l h2
  unfold rm1
  simp only [a1, a2, a3, a4, a5]
theorem rem_same {α β γ : SA} (h1 : Irr α β) (h2 : Irr α γ) (h : sameB β γ) : rem β = rem γ := by
  unfold rem
  rw [Irr_b h1, Irr_b h2]
  exact sumB_cong _ (fun b hb => rm1_same h1 h2 h hb)
theorem Cst_rch {α : SA} {rl : RLT} {X : XS} {G : List Nat} {s x : Nat} {c : Int32} (I : XI α rl X G) (C : Cst α X) (hs : s ∈ G) (hx : x ∈ TL (xs X s) rl) (hc : ∃ k, c = nI k ∧ k + 2 * rem (nx (xs X s) x) ≤ 2 * rem α) : Cst α (rch X (nx (xs X s) x) s x c) := by
  have sl := I.2.2.2.2.1 s hs
  obtain ⟨Os, Is⟩ := I.2.1 s sl
  cases e : fnd (xs X) (nx (xs X s) x) (xn X) with
  | some i =>
    obtain ⟨i1, i2⟩ := fnd_some _ e
    by_cases h : xg X i = true ∨ xc X i ≤ c
    · rw [rch_c1 e h]; exact C
    · rw [rch_c2 e h]
      intro j hj
      show ∃ c', fu (xc X) i c j = nI c' ∧ c' + 2 * rem (xs X j) ≤ 2 * rem α
      by_cases ej : j = i
      · subst ej
        rw [fu_s, ← rem_same (Irr_nx Is Os.1 hx) (I.2.1 j i1).2 i2]
        exact hc
      · rw [fu_o _ _ ej]; exact C j hj
  | none =>
    by_cases h : xn X = 1500
    · rw [rch_c3 e h]; exact C
    · rw [rch_c4 e h]
      intro j hj
      have hj' : j < xn X + 1 := hj
      show ∃ c', fu (xc X) (xn X) c j = nI c' ∧ c' + 2 * rem (fu (xs X) (xn X) (nx (xs X s) x) j) ≤ 2 * rem α
      by_cases ej : j = xn X
      · subst ej; rw [fu_s, fu_s]; exact hc
      · rw [fu_o _ _ ej, fu_o _ _ ej]; exact C j (by omega)
theorem Cst_spr {α : SA} {rl : RLT} {s : Nat} {β : SA} {G : List Nat} (hs : s ∈ G) : ∀ (l : List Nat) (X : XS), XI α rl X G → Cst α X → xs X s = β → (∀ x, x ∈ l → x ∈ TL β rl) → Cst α (spr false β s l X)
  | [], X, _, C, _, _ => C
  | x :: l, X, I, C, e, h => by
    rw [spr]
    by_cases ho : xo X = true
    · rw [if_pos ho]; exact C
    · rw [if_neg ho]
      have hx : x ∈ TL β rl := h x (by simp)
      have sl := I.2.2.2.2.1 s hs
      have hx' : x ∈ TL (xs X s) rl := by rw [e]; exact hx
      obtain ⟨I1, S1⟩ := XI_rch I hs (x := x) (c := xc X s + wgt false β x) hx'
      have C1 := Cst_rch (c := xc X s + wgt false β x) I C hs hx' (by
        obtain ⟨k, k1, k2⟩ := C s sl
        obtain ⟨w, w1, w2⟩ := Wo_nat β (td β x) (tu β x)
        have Ob := (I.2.1 s sl).1
        have := rem_tip Ob.1 Ob.2.1 hx'
        rw [e] at this k2
        refine ⟨k + w, by rw [k1, show wgt false β x = Wo β (td β x) (tu β x) from rfl, w2, nI_add], ?_⟩
        rw [e, rem_nx]
        omega)
      rw [e] at I1 S1 C1
      exact Cst_spr hs l _ I1 C1 ((S1.2.1 s sl).trans e) (fun y hy => h y (by simp [hy]))
theorem Cst_SR {α : SA} {rl : RLT} (O : Ok α) : ∀ n, Cst α (SR α rl false n).1
  | 0 => fun i hi => ⟨0, rfl, by show 0 + 2 * rem α ≤ _; omega⟩
  | n + 1 => by
    have C := Cst_SR (rl := rl) O n
    cases e : nxt (SR α rl false n).1 with
    | none => rw [SR_none e]; exact C
    | some s =>
      rw [SR_some e]
      obtain ⟨_, s1, s2⟩ := nxt_s e
      have I := SR_XI (rl := rl) (m := false) O n
      have I1 := (XI_mrk I s1 s2).1
      exact Cst_spr (G := (SR α rl false n).2 ++ [s]) (by simp) _ (mrk (SR α rl false n).1 s) I1 C rfl (fun x hx => hx)
theorem rem_42 {α : SA} (D : Dm α) (P : Plc α) : rem α ≤ 42 := by
  have h8 := D.2.2.2.1
  have h6 := D.2.2.2.2.1
  unfold rem
  have : ∀ n, n ≤ bgs α → sumB (rm1 α) n ≤ 7 * n := by
    intro n
    induction n with
    | zero => intro _; exact Nat.le_refl _
    | succ n ih =>
      intro hn
      have := ih (by omega)
      have e : rm1 α n ≤ 7 := by
        obtain ⟨p, p1, p2⟩ := P n (by omega)
        unfold rm1
        rw [p2, nI_clamp (by omega)]
        split <;> omega
      show sumB (rm1 α) n + rm1 α n ≤ _
      omega
  have := this (bgs α) (Nat.le_refl _)
  omega
