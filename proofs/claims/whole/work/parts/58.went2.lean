/-! ===== went: the reference's rows ===== -/
theorem RW_len {rl : RLT} : ∀ (n : Nat) {α : SA}, Dm α → (RW rl n α).length ≤ 15 ^ n
  | 0, α, _ => by
    unfold RW
    split <;> simp
  | n + 1, α, D => by
    have t15 := TL_15 (α := α) (rl := rl) D
    have key : ∀ l : List Nat, (RWl rl n α l).length ≤ l.length * 15 ^ n := by
      intro l
      induction l with
      | nil => simp [RWl_nil]
      | cons x l ih =>
        rw [RWl_cons, List.length_append, List.length_map, List.length_cons, Nat.succ_mul]
        have := RW_len (rl := rl) n (dT_D D (tk α x) (td α x) (tu α x) 1)
        have this' : (RW rl n (dN α x 1)).length ≤ 15 ^ n := this
        omega
    have := key (TL α rl)
    have h2 : (TL α rl).length * 15 ^ n ≤ 15 * 15 ^ n := Nat.mul_le_mul_right _ t15
    show (RWl rl n α (TL α rl)).length ≤ _
    rw [Nat.pow_succ, Nat.mul_comm]
    omega
theorem tM_of {α β : SA} (hl : lvl β = lvl α) (hb : bgs β = bgs α) : tM β = tM α := by
  unfold tM tB
  rw [hl, hb]
theorem RW_mem {rl : RLT} : ∀ (n : Nat) {α : SA} {r : List Nat}, r ∈ RW rl n α → r.length = n ∧ ∀ x, x ∈ r → x < tM α
  | 0, α, r, h => by
    unfold RW at h
    split at h
    · have : r = [] := by simpa using h
      subst this
      exact ⟨rfl, fun x hx => by cases hx⟩
    · cases h
  | n + 1, α, r, h => by
    have h' : r ∈ (TL α rl).flatMap (fun x => (RW rl n (dN α x 1)).map (x :: ·)) := h
    obtain ⟨x, hx, hr⟩ := List.mem_flatMap.mp h'
    obtain ⟨q, hq, e⟩ := List.mem_map.mp hr
    subst e
    obtain ⟨q1, q2⟩ := RW_mem n hq
    refine ⟨by rw [List.length_cons, q1], fun y hy => ?_⟩
    rcases List.mem_cons.mp hy with z | z
    · subst z; exact (TL_mem hx).2
    · have := q2 y z
      rw [tM_of (dN_dims α x 1).1 (dN_dims α x 1).2] at this
      exact this
def ubd : Nat → Nat
  | 0 => 0
  | j + 1 => 1 + 15 * (1 + ubd j)
def PRo (d : Nat) : Nat → Nat → Prop := fun a j => a = 62 ∨ (a = 72 ∧ 93 * (d + 1) ≤ j) ∨ (a = 73 ∧ d ≤ j) ∨ a = 74 ∨ (a = 51 ∧ j = 24)
theorem Rm_PRo {d : Nat} {a b : Hp} (F : Fr (PRo d) a b) {N : Nat} {r : Int32} {rl : RLT} (H : Rm N a r rl) : Rm N b r rl := Rm_Fr F (fun j z => by unfold PRo at z; omega) (fun j z => by unfold PRo at z; omega) (fun j z => by unfold PRo at z; omega) H
theorem m_138 {N n d many : Nat} {q : Nat → Nat} (hn : n ≤ 3) (hm : many < 30000) : ∀ (m k f : Nat) (h : Hp), k + m = n → m < f → SHP h → (∀ i, i < n → hI h 73 i = nI (q i)) → (many = 0 → ∀ i, i < k → hI h 74 i = nI (q i)) → ∃ h', (∀ s16 : Hp → Nat → Int32 → Int32 → Int32 → Option (Int32 × Hp), f_X8_rowsOf_138 N s16 f h 51 (nI n) (nI many) (nI d) (nI k) = s16 h' 51 (nI n) (nI (many + 1)) (nI d)) ∧ (if many = 0 then ∀ i, i < n → hI h' 74 i = nI (q i) else hI h' 74 = hI h 74) ∧ Fr (fun a _ => a = 74) h h' := by
  intro m
  induction m with
  | zero =>
    intro k f h hk hf H t E
    obtain ⟨f, rfl⟩ : ∃ k, f = k + 1 := ⟨f - 1, by omega⟩
    refine ⟨h, fun s16 => ?_, ?_, Fr_refl h⟩
    · rw [f_X8_rowsOf_138, if_pos (nI_le (by omega) (by omega))]
      unfold f_X8_rowsOf_168
      rw [nI_1]
    · by_cases c : many = 0
      · rw [if_pos c]; exact fun i hi => E c i (by omega)
      · rw [if_neg c]
  | succ m ih =>
    intro k f h hk hf H t E
    obtain ⟨f, rfl⟩ : ∃ k, f = k + 1 := ⟨f - 1, by omega⟩
    by_cases c : many = 0
    · have F1 : Fr (fun a _ => a = 74) h (sI h 74 k (nI (q k))) := Fr_sI _ _ _ _ rfl
      obtain ⟨h', e, g, F⟩ := ih (k + 1) f (sI h 74 k (nI (q k))) (by omega) (by omega) (Fr_SHP F1 H) (fun i hi => by rw [F1.2.2.2 73 i (fun z => by omega)]; exact t i hi) (fun _ i hi => by
        rw [sI_r]
        by_cases e : i = k
        · rw [if_pos e, e]
        · rw [if_neg e]; exact E c i (by omega))
      rw [if_pos c] at g
      refine ⟨h', fun s16 => ?_, ?_, Fr_trans F1 F⟩
      · rw [f_X8_rowsOf_138, if_neg (nI_ge (by omega) (by omega)), if_pos (show nI many = 0 by rw [c]; rfl), pp_51_41 H, bs, pp_51_40 H, bs, ll_73 H, if_inI (by omega) (by omega), lts, ll_74 H, if_inI (by omega) (by omega), lts, nI_clamp (by omega), t k (by omega), nI_1]
        exact e s16
      · rw [if_pos c]
        exact g
    · refine ⟨h, fun s16 => ?_, ?_, Fr_refl h⟩
      · rw [f_X8_rowsOf_138, if_neg (nI_ge (by omega) (by omega)), if_neg (show ¬ nI many = 0 from fun z => c ((nI_eq (b := 0) (by omega) (by decide)).mp z))]
        unfold f_X8_rowsOf_168
        rw [nI_1]
      · rw [if_neg c]
/-- one step of the reference's loop, down to where a tip is sought -/
theorem m_top {N n d many y : Nat} {rl : RLT} {α : SA} {h : Hp} (hN : 5000 ≤ N) (hd : d < n) (hn : n ≤ 3) (hm : many < 30000) (H : SHP h) (D : Dm α) (S : Sd (fun i => hI h 72 (93 * d + i)) α) (Q : Rm N h (α 0 5) rl) (ty : hI h 73 d + 1 = nI y) (hy : y ≤ tM α) : ∃ h19, Am h19 α ∧ hI h19 73 d = hdI (LF (lgl α rl) (tM α - y) y) ∧ Fr (fun a j => a = 62 ∨ (a = 73 ∧ j = d) ∨ (a = 51 ∧ j = 24)) h h19 ∧ ∀ f, f_X8_rowsOf_16 N (f + 1) h 51 (nI n) (nI many) (nI d) = if 0 ≤ hdI (LF (lgl α rl) (tM α - y) y) then (Option.bind (f_X8_stepBy h19 51 (hdI (LF (lgl α rl) (tM α - y) y))) (fun r25 => Option.bind (f_X8_downBy h19 51 (hdI (LF (lgl α rl) (tM α - y) y))) (fun r28 => Option.bind (f_X8_upBy h19 51 (hdI (LF (lgl α rl) (tM α - y) y))) (fun r31 => b2 (f_X8_does h19 51 r25 r28 r31) (fun r32 h33 => if (nI n - (1 : Int32)) ≤ nI d then (Option.bind (f_X8_isSeen N h33 51) (fun r35 => if r35 = 0 then (f_X8_rowsOf_16 N f h33 51 (nI n) (nI many) (nI d)) else (f_X8_rowsOf_138 N (f_X8_rowsOf_16 N f) N h33 51 (nI n) (nI many) (nI d) (0 : Int32)))) else (Option.bind (f_X8_keepsAt N h33 51 (nI d + (1 : Int32))) (fun h37 => Option.bind (hP h37 51 40) (fun q38 => if 0 ≤ nI d + (1 : Int32) ∧ (nI d + (1 : Int32)).toNatClampNeg < hL h37 q38 then (lt (sI h37 q38 ((nI d + (1 : Int32)).toNatClampNeg) (-1 : Int32)) (fun h40 => f_X8_rowsOf_16 N f h40 51 (nI n) (nI many) (nI d + (1 : Int32)))) else none))))))))
    else f_X8_rowsOf_16 N f h19 51 (nI n) (nI many) (nI d + (-1 : Int32)) := by
  obtain ⟨h1, e1, F1, k1⟩ := m_putsAt_l (N := N) (h0 := h) (d := d) (by omega) 93 0 N h (by omega) (by omega) H (Fr_refl h) (fun i hi => absurd hi (Nat.not_lt_zero i))
  have e1' : f_X8_putsBackAt N h 51 (nI d) = some h1 := e1
  have H1 := Fr_SHP F1 H
  have M1 : Am h1 α := ⟨H1, Sd_congr D (fun i hi => k1 i hi) S⟩
  have ty1 : hI h1 73 d + 1 = nI y := by rw [F1.2.2.2 73 d (fun z => by omega)]; exact ty
  obtain ⟨h2, e2, F2⟩ := m_first (N := N) (rl := rl) (n := y) M1 D (by omega) (Rm_Fr F1 (fun j z => by omega) (fun j z => by omega) (fun j z => by omega) Q) hy
  have H2 := Fr_SHP F2 H1
  have F3 : Fr (fun a j => a = 73 ∧ j = d) h2 (sI h2 73 d (hdI (LF (lgl α rl) (tM α - y) y))) := Fr_sI _ _ _ _ ⟨rfl, rfl⟩
  have g3 : hI (sI h2 73 d (hdI (LF (lgl α rl) (tM α - y) y))) 73 d = hdI (LF (lgl α rl) (tM α - y) y) := by rw [sI_r, if_pos rfl]
  have eq : ∀ f, f_X8_rowsOf_16 N (f + 1) h 51 (nI n) (nI many) (nI d) = Option.bind (hP (sI h2 73 d (hdI (LF (lgl α rl) (tM α - y) y))) 51 40) (fun q20 => if 0 ≤ nI d ∧ (nI d).toNatClampNeg < hL (sI h2 73 d (hdI (LF (lgl α rl) (tM α - y) y))) q20 then (if 0 ≤ (hI (sI h2 73 d (hdI (LF (lgl α rl) (tM α - y) y))) q20 ((nI d).toNatClampNeg)) then (Option.bind (hP (sI h2 73 d (hdI (LF (lgl α rl) (tM α - y) y))) 51 40) (fun q23 => if 0 ≤ nI d ∧ (nI d).toNatClampNeg < hL (sI h2 73 d (hdI (LF (lgl α rl) (tM α - y) y))) q23 then (Option.bind (f_X8_stepBy (sI h2 73 d (hdI (LF (lgl α rl) (tM α - y) y))) 51 (hI (sI h2 73 d (hdI (LF (lgl α rl) (tM α - y) y))) q23 ((nI d).toNatClampNeg))) (fun r25 => Option.bind (hP (sI h2 73 d (hdI (LF (lgl α rl) (tM α - y) y))) 51 40) (fun q26 => if 0 ≤ nI d ∧ (nI d).toNatClampNeg < hL (sI h2 73 d (hdI (LF (lgl α rl) (tM α - y) y))) q26 then (Option.bind (f_X8_downBy (sI h2 73 d (hdI (LF (lgl α rl) (tM α - y) y))) 51 (hI (sI h2 73 d (hdI (LF (lgl α rl) (tM α - y) y))) q26 ((nI d).toNatClampNeg))) (fun r28 => Option.bind (hP (sI h2 73 d (hdI (LF (lgl α rl) (tM α - y) y))) 51 40) (fun q29 => if 0 ≤ nI d ∧ (nI d).toNatClampNeg < hL (sI h2 73 d (hdI (LF (lgl α rl) (tM α - y) y))) q29 then (Option.bind (f_X8_upBy (sI h2 73 d (hdI (LF (lgl α rl) (tM α - y) y))) 51 (hI (sI h2 73 d (hdI (LF (lgl α rl) (tM α - y) y))) q29 ((nI d).toNatClampNeg))) (fun r31 => b2 (f_X8_does (sI h2 73 d (hdI (LF (lgl α rl) (tM α - y) y))) 51 r25 r28 r31) (fun r32 h33 => if (nI n - (1 : Int32)) ≤ nI d then (Option.bind (f_X8_isSeen N h33 51) (fun r35 => if r35 = 0 then (f_X8_rowsOf_16 N f h33 51 (nI n) (nI many) (nI d)) else (f_X8_rowsOf_138 N (f_X8_rowsOf_16 N f) N h33 51 (nI n) (nI many) (nI d) (0 : Int32)))) else (Option.bind (f_X8_keepsAt N h33 51 (nI d + (1 : Int32))) (fun h37 => Option.bind (hP h37 51 40) (fun q38 => if 0 ≤ nI d + (1 : Int32) ∧ (nI d + (1 : Int32)).toNatClampNeg < hL h37 q38 then (lt (sI h37 q38 ((nI d + (1 : Int32)).toNatClampNeg) (-1 : Int32)) (fun h40 => f_X8_rowsOf_16 N f h40 51 (nI n) (nI many) (nI d + (1 : Int32)))) else none)))))) else none))) else none))) else none)) else (f_X8_rowsOf_16 N f (sI h2 73 d (hdI (LF (lgl α rl) (tM α - y) y))) 51 (nI n) (nI many) (nI d + (-1 : Int32)))) else none) := by
    intro f
    rw [f_X8_rowsOf_16, if_neg (nI_pos (by omega)), if_neg (show ¬ (30000 : Int32) ≤ nI many from nI_ge (b := 30000) hm (by decide)), e1', bs, pp_51_40 H1, bs, bs, ll_73 H1, if_inI (by omega) (by omega), nI_clamp (n := d) (by omega), ty1, e2, b2s, ll_73 H2, if_pos ⟨nI_pos' (by omega), by omega⟩, lts]
  have H3 := Fr_SHP F3 H2
  have c3 : 0 ≤ nI d ∧ (nI d).toNatClampNeg < hL (sI h2 73 d (hdI (LF (lgl α rl) (tM α - y) y))) 73 := by rw [ll_73 H3]; exact in_nI (by omega) (by omega)
  have p3 := pp_51_40 H3
  have v3 : hI (sI h2 73 d (hdI (LF (lgl α rl) (tM α - y) y))) 73 (nI d).toNatClampNeg = hdI (LF (lgl α rl) (tM α - y) y) := by rw [nI_clamp (by omega)]; exact g3
  refine ⟨sI h2 73 d (hdI (LF (lgl α rl) (tM α - y) y)), Am_Fr F3 (fun j z => by omega) (Am_PM F2 M1), g3, Fr_trans (Fr_mono F1 (fun a j z => Or.inl z.1)) (Fr_trans (Fr_mono F2 (fun a j z => Or.inr (Or.inr z))) (Fr_mono F3 (fun a j z => Or.inr (Or.inl z)))), fun f => ?_⟩
  rw [eq f]
  clear eq
  generalize sI h2 73 d (hdI (LF (lgl α rl) (tM α - y) y)) = h3 at c3 p3 v3
  rw [p3]
  simp only [bs, if_pos c3, v3]
theorem m_rw_nil {N n j d many y : Nat} {rl : RLT} {α : SA} {h : Hp} {pre : Nat → Nat} (hN : 5000 ≤ N) (hn : n ≤ 3) (hd : d < n) (hm : many < 30000) (H : SHP h) (D : Dm α) (S : Sd (fun i => hI h 72 (93 * d + i)) α) (Q : Rm N h (α 0 5) rl) (ty : hI h 73 d + 1 = nI y) (hy : y ≤ tM α) (hl : LF (lgl α rl) (tM α - y) y = []) : ∃ u h', u ≤ 1 + ([] : List Nat).length * (1 + ubd j) ∧ (∀ f, f_X8_rowsOf_16 N (u + f) h 51 (nI n) (nI many) (nI d) = f_X8_rowsOf_16 N f h' 51 (nI n) (nI (many + (RWl rl j α []).length)) (nI d + (-1 : Int32))) ∧ fst1 (hI h' 74) (hI h 74) n d many pre id (RWl rl j α []) ∧ Fr (PRo d) h h' := by
  obtain ⟨h1, M1, _, F1, e1⟩ := m_top (N := N) (n := n) (d := d) (many := many) (rl := rl) hN hd hn hm H D S Q ty hy
  rw [hl] at e1
  refine ⟨1, h1, by simp, fun f => ?_, ?_, Fr_mono F1 (fun a j z => by unfold PRo; omega)⟩
  · rw [show 1 + f = f + 1 by omega, e1 f, if_neg (show ¬ 0 ≤ hdI [] by decide)]
    rfl
  · rw [RWl_nil]
    unfold fst1
    split
    · trivial
    · exact fun i _ => F1.2.2.2 74 i (fun z => by omega)
theorem m_rw {N n : Nat} {rl : RLT} (hN : 5000 ≤ N) (hn : n ≤ 3) : ∀ (j d : Nat) (α : SA), d + (j + 1) = n → Dm α → Sn α → ∀ (l : List Nat) (h : Hp) (many y : Nat) (pre : Nat → Nat), SHP h → Sd (fun i => hI h 72 (93 * d + i)) α → Rm N h (α 0 5) rl → hI h 73 d + 1 = nI y → y ≤ tM α → LF (lgl α rl) (tM α - y) y = l → (∀ i, i < d → hI h 73 i = nI (pre i)) → many + (RWl rl j α l).length < 30000 → ∃ u h', u ≤ 1 + l.length * (1 + ubd j) ∧ (∀ f, f_X8_rowsOf_16 N (u + f) h 51 (nI n) (nI many) (nI d) = f_X8_rowsOf_16 N f h' 51 (nI n) (nI (many + (RWl rl j α l).length)) (nI d + (-1 : Int32))) ∧ fst1 (hI h' 74) (hI h 74) n d many pre id (RWl rl j α l) ∧ Fr (PRo d) h h' := by
  intro j
  induction j with
  | zero =>
    intro d α hdj D Sα l
    induction l with
    | nil =>
      intro h many y pre H S Q ty hy hl ch hm
      exact m_rw_nil hN hn (by omega) hm H D S Q ty hy hl
    | cons x l ih =>
      intro h many y pre H S Q ty hy hl ch hm
      rw [RWl_cons, List.length_append, List.length_map] at hm
      have t3 := tM_le D
      obtain ⟨t1, t2, t4⟩ := LF_tail _ _ hl
      have hx : x ∈ TL α rl := LF_in (LF_mem (tM α - y) y x (by rw [hl]; simp)).1 (tM α) 0 (Nat.zero_le _) (by omega)
      obtain ⟨h1, M1, g1, F1, e1⟩ := m_top (N := N) (n := n) (d := d) (many := many) (rl := rl) hN (by omega) hn (by omega) H D S Q ty hy
      rw [hl] at e1 g1
      obtain ⟨h2, q1, q2, q3, q4, M2, F2⟩ := m_tipx M1 D hx
      have H2 := M2.1
      have g1' : hI h1 73 d = nI x := g1
      have Sn2 : Sn (dN α x 1) := fun k hk => by
        rw [(dN_dims α x 1).1] at hk
        rw [show dN α x 1 4 = α 4 from dT_o _ _ _ _ _ (by decide) (by decide) (by decide)]
        exact Sα k hk
      have F02 : Fr (PRo d) h h2 := Fr_trans (Fr_mono F1 (fun a j z => by unfold PRo; omega)) (Fr_mono F2 (fun a j z => Or.inl z))
      have r72 : ∀ i, i < 93 → hI h2 72 (93 * d + i) = hI h 72 (93 * d + i) := fun i hi => F02.2.2.2 72 _ (fun z => by unfold PRo at z; omega)
      have ty2 : hI h2 73 d + 1 = nI (x + 1) := by rw [F2.2.2.2 73 d (fun (z : 73 = 62) => by omega), g1', nI_1]
      have hl' : LF (lgl α rl) (tM α - (x + 1)) (x + 1) = l := by rw [← t4]; congr 1; omega
      have step : ∀ f, f_X8_rowsOf_16 N (f + 1) h 51 (nI n) (nI many) (nI d) = if b2i (asS (dN α x 1)) = 0 then f_X8_rowsOf_16 N f h2 51 (nI n) (nI many) (nI d) else f_X8_rowsOf_138 N (f_X8_rowsOf_16 N f) N h2 51 (nI n) (nI many) (nI d) (0 : Int32) := fun f => by
        rw [e1 f, show hdI (x :: l) = nI x from rfl, if_pos (nI_pos' (by omega)), q1, bs, q2, bs, q3, bs, q4, b2s, if_pos (by rw [n_1, pk_sub (by omega)]; exact nI_le (by omega) (by omega)), m_as M2 (dT_D D _ _ _ _) Sn2 (by omega), bs]
      by_cases sn : asS (dN α x 1) = true
      · have eR : RW rl 0 (dN α x 1) = [[]] := by unfold RW; rw [if_pos sn]
        rw [eR, List.length_singleton] at hm
        obtain ⟨h3, e3, f3, F3⟩ := m_138 (N := N) (n := n) (d := d) (many := many) (q := fun i => if i = d then x else pre i) hn (by omega) n 0 N h2 (by omega) (by omega) H2 (fun i hi => by
          show _ = nI (if i = d then x else pre i)
          by_cases e : i = d
          · rw [if_pos e, e, F2.2.2.2 73 d (fun (z : 73 = 62) => by omega)]; exact g1'
          · rw [if_neg e, F2.2.2.2 73 i (fun (z : 73 = 62) => by omega), F1.2.2.2 73 i (fun z => by omega)]; exact ch i (by omega)) (fun _ i hi => absurd hi (Nat.not_lt_zero i))
        have F03 : Fr (PRo d) h h3 := Fr_trans F02 (Fr_mono F3 (fun a j z => by unfold PRo; omega))
        obtain ⟨u, h4, u1, e4, f4, F4⟩ := ih h3 (many + 1) (x + 1) pre (Fr_SHP F3 H2) (Sd_congr D (fun i hi => by rw [F3.2.2.2 72 _ (fun z => by omega)]; exact r72 i hi) S) (Rm_PRo F03 Q) (by rw [F3.2.2.2 73 d (fun z => by omega)]; exact ty2) (by omega) hl' (fun i hi => by rw [F03.2.2.2 73 i (fun z => by unfold PRo at z; omega)]; exact ch i hi) (by omega)
        refine ⟨u + 1, h4, ?_, fun f => ?_, ?_, Fr_trans F03 F4⟩
        · rw [List.length_cons, Nat.succ_mul]
          have : ubd 0 = 0 := rfl
          omega
        · rw [show u + 1 + f = u + f + 1 by omega, step, if_neg (by rw [sn]; decide)]
          have e3' := e3 (f_X8_rowsOf_16 N (u + f))
          have e3'' : f_X8_rowsOf_138 N (f_X8_rowsOf_16 N (u + f)) N h2 51 (nI n) (nI many) (nI d) 0 = f_X8_rowsOf_16 N (u + f) h3 51 (nI n) (nI (many + 1)) (nI d) := e3'
          rw [e3'', e4 f, RWl_cons, eR, List.length_append, List.length_map, List.length_singleton, Nat.add_assoc]
        · rw [RWl_cons]
          have f3' : fst1 (hI h3 74) (hI h 74) n (d + 1) many (fun i => if i = d then x else pre i) id (RW rl 0 (dN α x 1)) := by
            rw [eR]
            unfold fst1
            have h74 : hI h2 74 = hI h 74 := by
              rw [Fr_row F2 (fun j (z : 74 = 62) => by omega), Fr_row F1 (fun j z => by omega)]
            by_cases c : many = 0
            · rw [if_pos c] at f3 ⊢
              intro i hi
              rw [f3 i hi]
              congr 1
              rw [if_pos (show i < d + 1 by omega)]
            · rw [if_neg c] at f3 ⊢
              intro i _
              rw [f3, h74]
          refine fst1_app (x := x) (c1 := many + 1) (by omega) (fun i hi => by show (if i = d then _ else _) = _; rw [if_neg (by omega)]) (by show (if d = d then _ else _) = _; rw [if_pos rfl]; rfl) ⟨fun z => by omega, fun z => by rw [eR] at z; cases z.2⟩ f3' f4
      · have eR : RW rl 0 (dN α x 1) = [] := by unfold RW; rw [if_neg sn]
        rw [eR, List.length_nil] at hm
        obtain ⟨u, h4, u1, e4, f4, F4⟩ := ih h2 many (x + 1) pre H2 (Sd_congr D r72 S) (Rm_PRo F02 Q) ty2 (by omega) hl' (fun i hi => by rw [F02.2.2.2 73 i (fun z => by unfold PRo at z; omega)]; exact ch i hi) (by omega)
        refine ⟨u + 1, h4, ?_, fun f => ?_, ?_, Fr_trans F02 F4⟩
        · rw [List.length_cons, Nat.succ_mul]
          have : ubd 0 = 0 := rfl
          omega
        · rw [show u + 1 + f = u + f + 1 by omega, step, if_pos (by rw [b2i_0]; simpa using sn), e4 f, RWl_cons, eR]
          rfl
        · rw [RWl_cons, eR]
          have h74 : hI h2 74 = hI h 74 := by
            rw [Fr_row F2 (fun j (z : 74 = 62) => by omega), Fr_row F1 (fun j z => by omega)]
          rw [h74] at f4
          exact f4
  | succ j ihj =>
    intro d α hdj D Sα l
    induction l with
    | nil =>
      intro h many y pre H S Q ty hy hl ch hm
      exact m_rw_nil hN hn (by omega) hm H D S Q ty hy hl
    | cons x l ih =>
      intro h many y pre H S Q ty hy hl ch hm
      rw [RWl_cons, List.length_append, List.length_map] at hm
      have t3 := tM_le D
      obtain ⟨t1, t2, t4⟩ := LF_tail _ _ hl
      have hx : x ∈ TL α rl := LF_in (LF_mem (tM α - y) y x (by rw [hl]; simp)).1 (tM α) 0 (Nat.zero_le _) (by omega)
      obtain ⟨h1, M1, g1, F1, e1⟩ := m_top (N := N) (n := n) (d := d) (many := many) (rl := rl) hN (by omega) hn (by omega) H D S Q ty hy
      rw [hl] at e1 g1
      obtain ⟨h2, q1, q2, q3, q4, M2, F2⟩ := m_tipx M1 D hx
      have H2 := M2.1
      have g1' : hI h1 73 d = nI x := g1
      have D2 : Dm (dN α x 1) := dT_D D _ _ _ _
      have Sn2 : Sn (dN α x 1) := fun k hk => by
        rw [(dN_dims α x 1).1] at hk
        rw [show dN α x 1 4 = α 4 from dT_o _ _ _ _ _ (by decide) (by decide) (by decide)]
        exact Sα k hk
      have F02 : Fr (PRo d) h h2 := Fr_trans (Fr_mono F1 (fun a j z => by unfold PRo; omega)) (Fr_mono F2 (fun a j z => Or.inl z))
      obtain ⟨h3, e3, F3, k3⟩ := m_keepsAt_l (N := N) (h0 := h2) (d := d + 1) (by omega) 93 0 N h2 (by omega) (by omega) H2 (Fr_refl h2) (fun i hi => absurd hi (Nat.not_lt_zero i))
      have e3' : f_X8_keepsAt N h2 51 (nI (d + 1)) = some h3 := e3
      have H3 := Fr_SHP F3 H2
      have F4 : Fr (fun a j => a = 73 ∧ j = d + 1) h3 (sI h3 73 (d + 1) (-1)) := Fr_sI _ _ _ _ ⟨rfl, rfl⟩
      have g4 : hI (sI h3 73 (d + 1) (-1)) 73 (d + 1) = -1 := by rw [sI_r, if_pos rfl]
      have step : ∀ f, f_X8_rowsOf_16 N (f + 1) h 51 (nI n) (nI many) (nI d) = f_X8_rowsOf_16 N f (sI h3 73 (d + 1) (-1)) 51 (nI n) (nI many) (nI (d + 1)) := fun f => by
        rw [e1 f, show hdI (x :: l) = nI x from rfl, if_pos (nI_pos' (by omega)), q1, bs, q2, bs, q3, bs, q4, b2s, if_neg (by rw [n_1, pk_sub (by omega)]; exact nI_ge (by omega) (by omega)), nI_1, e3', bs, pp_51_40 H3, bs, ll_73 H3, if_inI (by omega) (by omega), lts, nI_clamp (by omega)]
      generalize sI h3 73 (d + 1) (-1) = h4 at F4 g4 step
      have F04 : Fr (PRo d) h h4 := Fr_trans F02 (Fr_trans (Fr_mono F3 (fun a j z => by unfold PRo; omega)) (Fr_mono F4 (fun a j z => by unfold PRo; omega)))
      have r72 : ∀ i, i < 93 → hI h4 72 (93 * d + i) = hI h 72 (93 * d + i) := fun i hi => F04.2.2.2 72 _ (fun z => by unfold PRo at z; omega)
      have x05 : dN α x 1 0 5 = α 0 5 := dN_05 _ _ _
      have g4d : hI h4 73 d = nI x := by rw [F4.2.2.2 73 d (fun z => by omega), F3.2.2.2 73 d (fun z => by omega), F2.2.2.2 73 d (fun (z : 73 = 62) => by omega)]; exact g1'
      obtain ⟨u, h5, u1, e5, f5, F5⟩ := ihj (d + 1) (dN α x 1) (by omega) D2 Sn2 (TL (dN α x 1) rl) h4 many 0 (fun i => if i = d then x else pre i) (Fr_SHP F4 H3) (Sd_congr D2 (fun i hi => by rw [F4.2.2.2 72 _ (fun z => by omega)]; exact k3 i hi) M2.2) (by rw [x05]; exact Rm_PRo F04 Q) (by rw [g4]; rfl) (Nat.zero_le _) rfl (fun i hi => by
        show _ = nI (if i = d then x else pre i)
        by_cases e : i = d
        · rw [if_pos e, e]; exact g4d
        · rw [if_neg e, F04.2.2.2 73 i (fun z => by unfold PRo at z; omega)]; exact ch i (by omega)) (by
        show many + (RW rl (j + 1) (dN α x 1)).length < 30000
        omega)
      have t15 := TL_15 (α := dN α x 1) (rl := rl) D2
      have F05 : Fr (PRo d) h h5 := Fr_trans F04 (Fr_mono F5 (fun a j z => by unfold PRo at z ⊢; omega))
      have hl' : LF (lgl α rl) (tM α - (x + 1)) (x + 1) = l := by rw [← t4]; congr 1; omega
      have g5d : hI h5 73 d = nI x := by rw [F5.2.2.2 73 d (fun z => by unfold PRo at z; omega)]; exact g4d
      obtain ⟨u', h6, u1', e6, f6, F6⟩ := ih h5 (many + (RW rl (j + 1) (dN α x 1)).length) (x + 1) pre (Fr_SHP F05 H) (Sd_congr D (fun i hi => F05.2.2.2 72 _ (fun z => by unfold PRo at z; omega)) S) (Rm_PRo F05 Q) (by rw [g5d, nI_1]) (by omega) hl' (fun i hi => by rw [F05.2.2.2 73 i (fun z => by unfold PRo at z; omega)]; exact ch i hi) (by omega)
      refine ⟨u' + u + 1, h6, ?_, fun f => ?_, ?_, Fr_trans F05 F6⟩
      · rw [List.length_cons, Nat.succ_mul]
        have : ubd (j + 1) = 1 + 15 * (1 + ubd j) := rfl
        have m1 : (TL (dN α x 1) rl).length * (1 + ubd j) ≤ 15 * (1 + ubd j) := Nat.mul_le_mul_right _ t15
        omega
      · rw [show u' + u + 1 + f = (u + (u' + f)) + 1 by omega, step, e5 (u' + f)]
        have e6' := e6 f
        rw [show nI (d + 1) + (-1 : Int32) = nI d by rw [← Int32.sub_eq_add_neg, nI_pred]]
        show f_X8_rowsOf_16 N (u' + f) h5 51 (nI n) (nI (many + (RW rl (j + 1) (dN α x 1)).length)) (nI d) = _
        rw [e6', RWl_cons, List.length_append, List.length_map, Nat.add_assoc]
      · rw [RWl_cons]
        have h74 : hI h4 74 = hI h 74 := by
          rw [Fr_row F4 (fun j z => by omega), Fr_row F3 (fun j z => by omega), Fr_row F2 (fun j (z : 74 = 62) => by omega), Fr_row F1 (fun j z => by omega)]
        rw [h74] at f5
        refine fst1_app (x := x) (c1 := many + (RW rl (j + 1) (dN α x 1)).length) (by omega) (fun i hi => by show (if i = d then _ else _) = _; rw [if_neg (by omega)]) (by show (if d = d then _ else _) = _; rw [if_pos rfl]; rfl) ?_ f5 f6
        constructor
        · intro z
          exact ⟨by omega, List.eq_nil_of_length_eq_zero (by omega)⟩
        · intro z
          rw [z.2, z.1]
          rfl
theorem c_rows {h : Hp} {N r n most : Nat} {R : Nat → RLT} {α : SA} {v : Option Nat} (hN : 5000 ≤ N) (A : Ac h 3 α) (H : SHP h) (D : Dm α) (h0 : 0 < lvl α) (Q : Rc N h v (rlF R α)) (hn : 1 ≤ n ∧ n ≤ 3) (hm : 1 ≤ most ∧ most ≤ 30000) : ∃ h', f_X0_countRows N h 44 3 v (nI n) (nI most) = some (nI (lim most 0 (RW (rlF R α) n α).length), h') ∧ (∀ q L, RW (rlF R α) n α = q :: L → ∀ i, i < n → hI h' 50 i = nI (tc α (q.getD i 0))) ∧ Fq PQc h h' := by
  unfold f_X0_countRows
  obtain ⟨h1, e1, A1, F1⟩ := c_copy (s0 := 15) (s1 := 3) (Or.inr (by decide)) A (st_15 H)
  have H1 := Fr_SHP F1 H
  have F2 : Fr (fun a j => a = 44 ∧ j = 4) h1 (sI h1 44 4 0) := Fr_sI _ _ _ _ ⟨rfl, rfl⟩
  have g2 : hI (sI h1 44 4 0) 44 4 = nI 0 := by rw [sI_r, if_pos rfl]; rfl
  rw [pp_44_0 H, bs, e1, bs, lts, lts, if_neg (show ¬ (3 : Int32) < nI n from nI_nlt (a := 3) (by omega) (by decide))]
  generalize sI h1 44 4 0 = h2 at F2 g2 ⊢
  have H2 := Fr_SHP F2 H1
  have Q12 : Fq PQc h h2 := Fq_trans (Fq_mono (Fr_q F1) (fun a j z => by have := z.1; have := z.2; unfold PQc; omega)) (Fq_mono (Fr_q F2) (fun a j z => by unfold PQc; omega))
  obtain ⟨h3, e3, _, c3, f3, F3⟩ := c_fol (N := N) (n := n) (most := most) (v := v) (rl := rlF R α) (α0 := α) hN hn.2 hm n 0 30 true h2 0 α (fun _ => 0) (by omega) (by omega) H2 D h0 rfl (Fr_Ac F2 (fun a j h1 h2 z => by omega) A1) (Fq_Rc Q12 (fun a j z => by unfold PQc at z; omega) Q) (by omega) g2 (fun i hi => absurd hi (Nat.not_lt_zero i))
  have e3' : f_X0_follow N h2 44 v 0 (nI n) (nI most) = some h3 := e3
  rw [e3', bs, c3]
  refine ⟨h3, rfl, fun q L e i hi => ?_, Fq_trans Q12 (Fq_mono (Fr_q F3) PFo_q)⟩
  unfold fst1 at f3
  rw [if_pos rfl, e] at f3
  have := f3 i hi
  rw [if_neg (Nat.not_lt_zero i), Nat.sub_zero] at this
  exact this
theorem m_rows {h : Hp} {N n : Nat} {rl : RLT} {α : SA} (hN : 5000 ≤ N) (M : Am h α) (O : Ok α) (Q : Rm N h (α 0 5) rl) (hn : 1 ≤ n ∧ n ≤ 3) : ∃ h', f_X8_rowsOf N h 51 (nI n) = some (nI (RW rl n α).length, h') ∧ (∀ q L, RW rl n α = q :: L → ∀ i, i < n → hI h' 74 i = nI (q.getD i 0)) ∧ (∀ i, i < 93 → hI h' 62 i = hI h 62 i) ∧ Fq PQm h h' := by
  have D := O.1
  have H := M.1
  unfold f_X8_rowsOf
  obtain ⟨h1, e1, F1, k1⟩ := m_keepsAt_l (N := N) (h0 := h) (d := 0) (by omega) 93 0 N h (by omega) (by omega) H (Fr_refl h) (fun i hi => absurd hi (Nat.not_lt_zero i))
  have e1' : f_X8_keepsAt N h 51 0 = some h1 := e1
  have H1 := Fr_SHP F1 H
  have F2 : Fr (fun a j => a = 73 ∧ j = 0) h1 (sI h1 73 0 (-1)) := Fr_sI _ _ _ _ ⟨rfl, rfl⟩
  have g2 : hI (sI h1 73 0 (-1)) 73 0 = -1 := by rw [sI_r, if_pos rfl]
  rw [e1', bs, pp_51_40 H1, bs, ll_73 H1, if_pos (by decide), lts]
  generalize sI h1 73 0 (-1) = h2 at F2 g2 ⊢
  have H2 := Fr_SHP F2 H1
  have F12 : Fq PQm h h2 := Fq_trans (Fq_mono (Fr_q F1) (fun a j z => by unfold PQm; omega)) (Fq_mono (Fr_q F2) (fun a j z => by unfold PQm; omega))
  obtain ⟨j, rfl⟩ : ∃ j, n = j + 1 := ⟨n - 1, by omega⟩
  have len := RW_len (rl := rl) (j + 1) D
  have p3 : 15 ^ (j + 1) ≤ 15 ^ 3 := Nat.pow_le_pow_right (by decide) hn.2
  have p33 : (15 : Nat) ^ 3 = 3375 := by decide
  have k2 : ∀ i, i < 93 → hI h2 72 (93 * 0 + i) = hI h 62 i := fun i hi => by rw [F2.2.2.2 72 _ (fun z => by omega)]; exact k1 i hi
  obtain ⟨u, h3, u1, e3, f3, F3⟩ := m_rw (N := N) (n := j + 1) (rl := rl) hN hn.2 j 0 α (by omega) D O.2.2.1 (TL α rl) h2 0 0 (fun _ => 0) H2 (Sd_congr D k2 M.2) (Rm_Fq F12 (fun j z => by unfold PQm at z; omega) (fun j z => by unfold PQm at z; omega) (fun j z => by unfold PQm at z; omega) Q) (by rw [g2]; rfl) (Nat.zero_le _) rfl (fun i hi => absurd hi (Nat.not_lt_zero i)) (by
    show 0 + (RW rl (j + 1) α).length < 30000
    omega)
  have t15 := TL_15 (α := α) (rl := rl) D
  have ub : u ≤ 4000 := by
    have m1 : (TL α rl).length * (1 + ubd j) ≤ 15 * (1 + ubd j) := Nat.mul_le_mul_right _ t15
    have : ubd j ≤ 256 := by
      obtain rfl | rfl | rfl : j = 0 ∨ j = 1 ∨ j = 2 := by omega
      · decide
      · decide
      · decide
    omega
  have e3' := e3 (N - u)
  rw [show u + (N - u) = N by omega] at e3'
  have e3'' : f_X8_rowsOf_16 N N h2 51 (nI (j + 1)) 0 0 = f_X8_rowsOf_16 N (N - u) h3 51 (nI (j + 1)) (nI (0 + (RW rl (j + 1) α).length)) (-1) := e3'
  rw [e3'', Nat.zero_add]
  obtain ⟨z, hz⟩ : ∃ z, N - u = z + 1 := ⟨N - u - 1, by omega⟩
  have H3 := Fr_SHP F3 H2
  obtain ⟨h4, e4, F4, k4⟩ := m_putsAt_l (N := N) (h0 := h3) (d := 0) (by omega) 93 0 N h3 (by omega) (by omega) H3 (Fr_refl h3) (fun i hi => absurd hi (Nat.not_lt_zero i))
  have e4' : f_X8_putsBackAt N h3 51 0 = some h4 := e4
  rw [hz, f_X8_rowsOf_16, if_pos (by decide)]
  unfold f_X8_rowsOf_174
  rw [e4', bs]
  refine ⟨h4, rfl, fun q L e i hi => ?_, fun i hi => ?_, Fq_trans F12 (Fq_trans (Fq_mono (Fr_q F3) (fun a j z => by unfold PRo at z; unfold PQm; omega)) (Fq_mono (Fr_q F4) (fun a j z => by unfold PQm; omega)))⟩
  · unfold fst1 at f3
    have e' : RWl rl j α (TL α rl) = q :: L := e
    rw [if_pos rfl, e'] at f3
    have := f3 i hi
    rw [if_neg (Nat.not_lt_zero i), Nat.sub_zero] at this
    rw [F4.2.2.2 74 i (fun z => by omega)]
    exact this
  · rw [k4 i hi, F3.2.2.2 72 _ (fun z => by unfold PRo at z; omega), k2 i hi]
theorem ok_went {N : Nat} (hN : 5000 ≤ N) (v w : Int32) : Cok N (fun h => f_X7_went N h 0 v w) (fun h => f_X8_went N h 51 v w) := by
  rintro h ⟨r, R, α, g⟩
  have g' := g
  obtain ⟨g1, A, M, O, f, T, g7, g8, g9⟩ := g
  have H := M.1
  have D := O.1
  have n1 : ¬ (1 : Int32) = 0 := by decide
  show ∃ z h1 h2, f_X7_went N h 0 v w = some (z, h1) ∧ f_X8_went N h1 51 v w = some (z, h2) ∧ GG N h2
  have inv : ∀ h1, f_X8_in h1 v.toInt64 (1 : Int64) (3 : Int64) = some (if v < 1 then 0 else if 3 < v then 0 else 1) := fun h1 => m_in h1 v 1 3
  have inw : ∀ h1, f_X8_in h1 w.toInt64 (0 : Int64) ((3 : Int32) * v).toInt64 = some (if w < 0 then 0 else if 3 * v < w then 0 else 1) := fun h1 => m_in h1 w 0 (3 * v)
  have nope : ∀ (c : lvl α = 0 ∨ v < 1 ∨ 3 < v ∨ w < 0 ∨ ¬ w ≤ 3 * v), ∃ z h1 h2, f_X7_went N h 0 v w = some (z, h1) ∧ f_X8_went N h1 51 v w = some (z, h2) ∧ GG N h2 := by
    intro c
    refine ⟨-1, h, h, ?_, ?_, r, R, α, g'⟩
    · unfold f_X7_went
      rw [pp_0_1 H, bs, ac_0 A (by decide)]
      by_cases c0 : lvl α = 0
      · rw [if_pos ((lv0 D).mpr c0)]
      · rw [if_neg (fun z => c0 ((lv0 D).mp z))]
        by_cases c1 : v < 1
        · rw [if_pos c1]
        · rw [if_neg c1]
          by_cases c2 : 3 < v
          · rw [if_pos c2]
          · rw [if_neg c2]
            by_cases c3 : w < 0
            · rw [if_pos c3]
            · rw [if_neg c3, if_neg ((((c.resolve_left c0).resolve_left c1).resolve_left c2).resolve_left c3)]
    · unfold f_X8_went
      rw [pp_51_26 H, bs, ll_62 H, if_pos (show 0 < 93 by decide), am_0 M]
      by_cases c0 : lvl α = 0
      · rw [if_pos ((lv0 D).mpr c0)]
      · rw [if_neg (fun z => c0 ((lv0 D).mp z)), inv, bs]
        by_cases c1 : v < 1
        · rw [if_pos c1, if_pos rfl]
        · rw [if_neg c1]
          by_cases c2 : 3 < v
          · rw [if_pos c2, if_pos rfl]
          · rw [if_neg c2, if_neg n1, inw, bs]
            by_cases c3 : w < 0
            · rw [if_pos c3, if_pos rfl]
            · rw [if_neg c3, if_pos (Int32.not_le.mp ((((c.resolve_left c0).resolve_left c1).resolve_left c2).resolve_left c3)), if_pos rfl]
  by_cases c0 : lvl α = 0
  · exact nope (Or.inl c0)
  · by_cases c1 : v < 1
    · exact nope (Or.inr (Or.inl c1))
    · by_cases c2 : 3 < v
      · exact nope (Or.inr (Or.inr (Or.inl c2)))
      · by_cases c3 : w < 0
        · exact nope (Or.inr (Or.inr (Or.inr (Or.inl c3))))
        · by_cases c4 : w ≤ 3 * v
          · have v0 : ¬ v < 0 := fun z => c1 (Int32.lt_trans z (by decide))
            obtain ⟨n, nn, rfl⟩ := i_nat v0
            obtain ⟨wn, wn1, rfl⟩ := i_nat c3
            have hn : 1 ≤ n ∧ n ≤ 3 := ⟨(nI_leI (a := 1) (by decide) nn).mp (Int32.not_lt.mp c1), (nI_leI (b := 3) nn (by decide)).mp (Int32.not_lt.mp c2)⟩
            have e3n : (3 : Int32) * nI n = nI (3 * n) := by rw [n_3, pk_mul]
            have wl : wn ≤ 3 * n := by rw [e3n] at c4; exact (nI_leI wn1 (by omega)).mp c4
            have h0 : 0 < lvl α := by omega
            obtain ⟨u, u1, u2⟩ := c_rif H A T f
            have len := RW_len (rl := rlF R α) n D
            have p3 : 15 ^ n ≤ 15 ^ 3 := Nat.pow_le_pow_right (by decide) hn.2
            have p33 : (15 : Nat) ^ 3 = 3375 := by decide
            by_cases w0 : wn = 0
            · subst w0
              obtain ⟨h1, e1, _, Q1⟩ := c_rows (r := r) (most := 30000) hN A H D h0 u2 hn ⟨by decide, by decide⟩
              have M1 := Am_q Q1 M
              obtain ⟨h2, e2, _, k2, Q2⟩ := m_rows hN M1 O (Rm_q Q1 (fOk_rl T f)) hn
              have el : lim 30000 0 (RW (rlF R α) n α).length = (RW (rlF R α) n α).length := by unfold lim; rw [if_pos (by omega)]; omega
              rw [el] at e1
              have e1' : f_X0_countRows N h 44 3 u (nI n) 30000 = some (nI (RW (rlF R α) n α).length, h1) := e1
              refine ⟨nI (RW (rlF R α) n α).length, h1, h2, ?_, ?_, ask2 g' Q1 Q2 k2⟩
              · unfold f_X7_went f_X7_went_57
                rw [pp_0_1 H, bs, ac_0 A (by decide), if_neg (fun z => c0 ((lv0 D).mp z)), if_neg c1, if_neg c2, if_neg c3, if_pos c4, pp_0_9 H, bs, bs, u1, bs, if_pos (show nI 0 = 0 from rfl), e1', b2s, if_pos (show nI 0 = 0 from rfl)]
              · unfold f_X8_went
                rw [pp_51_26 M1.1, bs, ll_62 M1.1, if_pos (show 0 < 93 by decide), am_0 M1, if_neg (fun z => c0 ((lv0 D).mp z)), inv, bs, if_neg c1, if_neg c2, if_neg n1, inw, bs, if_neg c3, if_neg (Int32.not_lt.mpr c4), if_neg n1, e2, b2s, if_pos (show nI 0 = 0 from rfl)]
            · obtain ⟨h1, e1, t1, Q1⟩ := c_rows (r := r) (most := 1) hN A H D h0 u2 hn ⟨by decide, by decide⟩
              have M1 := Am_q Q1 M
              have H1 := M1.1
              obtain ⟨h2, e2, t2, k2, Q2⟩ := m_rows hN M1 O (Rm_q Q1 (fOk_rl T f)) hn
              have M2 : Am h2 α := ⟨Fq_SHP Q2 H1, Sd_congr D k2 M1.2⟩
              have wz : ¬ nI wn = 0 := nI_ne0 (by omega) wn1
              have e1' : f_X0_countRows N h 44 3 u (nI n) 1 = some (nI (lim 1 0 (RW (rlF R α) n α).length), h1) := e1
              have d1 : (nI wn - 1) / 3 = nI ((wn - 1) / 3) := by rw [n_1, n_3, pk_sub (by omega), pk_div (by omega) (by decide) (by decide)]
              have d2 : (nI wn - 1) - (nI wn - 1) / 3 * 3 = nI ((wn - 1) % 3) := by rw [n_1, n_3, pk_sub (by omega), pk_rem (by omega) (by decide) (by decide)]
              have d3 : nI wn - nI wn / 3 * 3 = nI (wn % 3) := by rw [n_3, pk_rem (by omega) (by decide) (by decide)]
              cases eq : RW (rlF R α) n α with
              | nil =>
                rw [eq] at e1' e2
                refine ⟨-2, h1, h2, ?_, ?_, ask2 g' Q1 Q2 k2⟩
                · unfold f_X7_went f_X7_went_57
                  rw [pp_0_1 H, bs, ac_0 A (by decide), if_neg (fun z => c0 ((lv0 D).mp z)), if_neg c1, if_neg c2, if_neg c3, if_pos c4, pp_0_9 H, bs, bs, u1, bs, if_neg wz, e1', b2s, if_neg wz, if_pos (show nI (lim 1 0 ([] : List (List Nat)).length) = 0 from rfl)]
                · unfold f_X8_went
                  rw [pp_51_26 M1.1, bs, ll_62 M1.1, if_pos (show 0 < 93 by decide), am_0 M1, if_neg (fun z => c0 ((lv0 D).mp z)), inv, bs, if_neg c1, if_neg c2, if_neg n1, inw, bs, if_neg c3, if_neg (Int32.not_lt.mpr c4), if_neg n1, e2, b2s, if_neg wz, if_pos (show nI ([] : List (List Nat)).length = 0 from rfl)]
              | cons q L =>
                have qm := RW_mem (rl := rlF R α) n (α := α) (r := q) (by rw [eq]; simp)
                have hi : (wn - 1) / 3 < n := by omega
                have hxl : (wn - 1) / 3 < q.length := by rw [qm.1]; exact hi
                have xM : q.getD ((wn - 1) / 3) 0 < tM α := by
                  rw [List.getD_eq_getElem?_getD, List.getElem?_eq_getElem hxl]
                  exact qm.2 _ (List.getElem_mem hxl)
                have t1' := t1 q L eq ((wn - 1) / 3) hi
                have t2' := t2 q L eq ((wn - 1) / 3) hi
                generalize q.getD ((wn - 1) / 3) 0 = x at xM t1' t2'
                have h8 := D.2.2.2.1
                have h6 := D.2.2.2.2.1
                have hk := tk_lt xM
                have hd := td_le α x
                have hu := tu_le α x
                have t343 := tM_le D
                rw [eq, List.length_cons] at e1' e2 len
                have el : nI (lim 1 0 (L.length + 1)) = 1 := by
                  unfold lim
                  by_cases c : 0 + (L.length + 1) ≤ 1
                  · rw [if_pos c, show 0 + (L.length + 1) = 1 by omega]; rfl
                  · rw [if_neg c]; rfl
                rw [el] at e1'
                refine ⟨ptx α x (nI ((wn - 1) % 3)), h1, h2, ?_, ?_, ask2 g' Q1 Q2 k2⟩
                · have cp : f_X5_partOf h1 (nI (tc α x)) (nI ((wn - 1) % 3)) = some (ptx α x (nI ((wn - 1) % 3))) := by
                    unfold f_X5_partOf ptx
                    rw [show f_X5_stepOf h1 (nI (tc α x)) = some (nI (tk α x)) from t_step h1 (by omega) (by omega) (by omega), show f_X5_downOf h1 (nI (tc α x)) = some (bI (td α x)) from t_down h1 (by omega) (by omega) (by omega), show f_X5_upOf h1 (nI (tc α x)) = some (bI (tu α x)) from t_up h1 (by omega) (by omega) (by omega), bs, bs, bs]
                    split
                    · rfl
                    · split <;> rfl
                  unfold f_X7_went f_X7_went_57
                  rw [pp_0_1 H, bs, ac_0 A (by decide), if_neg (fun z => c0 ((lv0 D).mp z)), if_neg c1, if_neg c2, if_neg c3, if_pos c4, pp_0_9 H, bs, bs, u1, bs, if_neg wz, e1', b2s, if_neg wz, if_neg n1, pp_0_9 H1, bs, pp_44_3 H1, bs, d2, d1, ll_50 H1, if_inI (by omega) (by omega), nI_clamp (by omega), t1', cp, bs]
                · unfold f_X8_went
                  rw [pp_51_26 M1.1, bs, ll_62 M1.1, if_pos (show 0 < 93 by decide), am_0 M1, if_neg (fun z => c0 ((lv0 D).mp z)), inv, bs, if_neg c1, if_neg c2, if_neg n1, inw, bs, if_neg c3, if_neg (Int32.not_lt.mpr c4), if_neg n1, e2, b2s, if_neg wz, if_neg (nI_ne0 (by omega) (by omega)), pp_51_41 M2.1, bs, d1, d3, ll_74 M2.1, if_inI (by omega) (by omega), lts, nI_clamp (by omega), t2', m_stepBy M2 D (by omega), m_downBy M2 D (by omega), m_upBy M2 D (by omega), bs, bs, bs]
                  unfold ptx
                  have m3 : wn % 3 = 0 ∨ wn % 3 = 1 ∨ wn % 3 = 2 := by omega
                  rcases m3 with z | z | z
                  · rw [z, show (wn - 1) % 3 = 2 by omega]
                    rfl
                  · rw [z, show (wn - 1) % 3 = 0 by omega]
                    rfl
                  · rw [z, show (wn - 1) % 3 = 1 by omega]
                    rfl
          · exact nope (Or.inr (Or.inr (Or.inr (Or.inr c4))))
