/-! ===== calls: went ===== -/
/-- rows of n tips that may be, behind which all is as seen -/
def RW (rl : RLT) : Nat → SA → List (List Nat)
  | 0, α => if asS α then [[]] else []
  | n + 1, α => (TL α rl).flatMap (fun x => (RW rl n (dN α x 1)).map (x :: ·))
def RWl (rl : RLT) (n : Nat) (α : SA) (l : List Nat) : List (List Nat) := l.flatMap (fun x => (RW rl n (dN α x 1)).map (x :: ·))
theorem RWl_nil (rl : RLT) (n : Nat) (α : SA) : RWl rl n α [] = [] := rfl
theorem RWl_cons (rl : RLT) (n : Nat) (α : SA) (x : Nat) (l : List Nat) : RWl rl n α (x :: l) = (RW rl n (dN α x 1)).map (x :: ·) ++ RWl rl n α l := rfl
/-- as many as there are, but not above m -/
def lim (m c k : Nat) : Nat := if c + k ≤ m then c + k else m
theorem lim_le {m c k : Nat} (h : c ≤ m) : lim m c k ≤ m ∧ c ≤ lim m c k := by
  unfold lim
  split <;> omega
theorem lim_lim {m c a b : Nat} (h : c ≤ m) : lim m (lim m c a) b = lim m c (a + b) := by
  unfold lim
  by_cases h1 : c + a ≤ m
  · rw [if_pos h1, Nat.add_assoc]
  · rw [if_neg h1, if_neg (show ¬ c + (a + b) ≤ m by omega)]
    by_cases hb : b = 0
    · subst hb; rw [if_pos (by omega)]; omega
    · rw [if_neg (by omega)]
theorem lim_0 {m c : Nat} (h : c ≤ m) : lim m c 0 = c := by
  unfold lim
  rw [if_pos (by omega)]
  omega
theorem lim_full (m k : Nat) : lim m m k = m := by
  unfold lim
  split <;> omega
/-- where the first row of all is told -/
def fst1 (g : Nat → Int32) (f : Nat → Int32) (n dp c : Nat) (pre : Nat → Nat) (cdf : Nat → Nat) (L : List (List Nat)) : Prop := if c = 0 then (match L with
  | [] => True
  | r :: _ => ∀ i, i < n → g i = nI (if i < dp then pre i else cdf (r.getD (i - dp) 0))) else ∀ i, i < n → g i = f i
theorem tc_b {α β : SA} (h : bgs β = bgs α) (x : Nat) : tc β x = tc α x := by
  unfold tc tk td tu tdi tB
  rw [h]
def PFo (dp : Nat) : Nat → Nat → Prop := fun a j => (15 ≤ a ∧ a ≤ 26) ∨ (a = 44 ∧ j = 4) ∨ (46 + dp ≤ a ∧ a ≤ 48) ∨ (a = 49 ∧ dp ≤ j) ∨ a = 50
theorem PFo_mono {dp : Nat} : ∀ a j, PFo (dp + 1) a j → PFo dp a j := fun a j z => by unfold PFo at z ⊢; omega
theorem PFo_q {dp : Nat} : ∀ a j, PFo dp a j → PQc a j := fun a j z => by unfold PFo at z; unfold PQc; omega
theorem c_noteRow {h : Hp} {N n c : Nat} {α : SA} {pre : Nat → Nat} {cdf : Nat → Nat} {rl : RLT} (hN : 20 ≤ N) (H : SHP h) (A : Ac h 15 α) (D : Dm α) (h4 : hI h 44 4 = nI c) (hc : c < 40000) (hn : n ≤ 3) (ch : ∀ i, i < n → hI h 49 i = nI (pre i)) : ∃ h', f_X0_noteRow N h 44 = some h' ∧ hI h' 44 4 = nI (c + (RW rl 0 α).length) ∧ fst1 (hI h' 50) (hI h 50) n n c pre cdf (RW rl 0 α) ∧ Fr (fun a j => (a = 44 ∧ j = 4) ∨ a = 50) h h' := by
  unfold f_X0_noteRow
  rw [pp_44_0 H, bs, c_as A D hN, bs]
  by_cases s : asS α = true
  · have er : RW rl 0 α = [[]] := by unfold RW; rw [if_pos s]
    rw [if_neg (by rw [s]; decide), er, h4]
    unfold f_X0_noteRow_32
    by_cases c0 : c = 0
    · rw [if_pos (show nI c = 0 by rw [c0]; rfl), pp_44_2 H, bs, pp_44_3 H, bs, ll_49 H, if_pos (by decide), ll_50 H, if_pos (by decide), lts, lts]
      have e4 : hI (sC h 49 50 0 0 3) 44 4 = nI c := by rw [hI_sC, if_neg (by decide)]; exact h4
      rw [e4, nI_1]
      have F1 : Fr (fun a j => (a = 44 ∧ j = 4) ∨ a = 50) h (sC h 49 50 0 0 3) := ⟨⟨rfl, rfl, rfl⟩, rfl, rfl, fun a j z => by
        rw [hI_sC, if_neg (fun e => z (Or.inr e))]⟩
      have r50 : ∀ i, i < 3 → hI (sC h 49 50 0 0 3) 50 i = hI h 49 i := fun i hi => by
        rw [hI_sC, if_pos rfl]
        unfold va_cpy
        rw [if_pos (by omega)]
        simp
      generalize sC h 49 50 0 0 3 = h1 at e4 F1 r50 ⊢
      refine ⟨_, rfl, by rw [sI_r, if_pos rfl]; rfl, ?_, Fr_trans F1 (Fr_sI _ _ _ _ (Or.inl ⟨rfl, rfl⟩))⟩
      unfold fst1
      rw [if_pos c0]
      intro i hi
      rw [sI_a _ _ _ _ (by decide), r50 i (by omega), if_pos hi, ch i hi]
    · rw [if_neg (show ¬ nI c = 0 from fun z => c0 ((nI_eq (b := 0) (by omega) (by decide)).mp z)), lts, h4, nI_1]
      refine ⟨_, rfl, by rw [sI_r, if_pos rfl]; rfl, ?_, Fr_sI _ _ _ _ (Or.inl ⟨rfl, rfl⟩)⟩
      unfold fst1
      rw [if_neg c0]
      intro i hi
      rw [sI_a _ _ _ _ (by decide)]
  · have er : RW rl 0 α = [] := by unfold RW; rw [if_neg s]
    rw [if_pos (by rw [b2i_0]; simpa using s), er]
    refine ⟨h, rfl, h4, ?_, Fr_refl h⟩
    unfold fst1
    by_cases c0 : c = 0
    · rw [if_pos c0]; trivial
    · rw [if_neg c0]; exact fun i _ => rfl
theorem fst1_app {g0 g1 g2 : Nat → Int32} {n dp c c1 : Nat} {pre pre' : Nat → Nat} {cdf : Nat → Nat} {x : Nat} {L1 L2 : List (List Nat)} (hdp : dp < n) (hpre : ∀ i, i < dp → pre' i = pre i) (hpx : pre' dp = cdf x) (hc1 : c1 = 0 ↔ c = 0 ∧ L1 = []) (h1 : fst1 g1 g0 n (dp + 1) c pre' cdf L1) (h2 : fst1 g2 g1 n dp c1 pre cdf L2) : fst1 g2 g0 n dp c pre cdf (L1.map (x :: ·) ++ L2) := by
  unfold fst1 at h1 h2 ⊢
  by_cases c0 : c = 0
  · rw [if_pos c0] at h1 ⊢
    cases L1 with
    | nil =>
      rw [if_pos (hc1.mpr ⟨c0, rfl⟩)] at h2
      exact h2
    | cons r L =>
      rw [if_neg (fun z => by have := (hc1.mp z).2; cases this)] at h2
      have h1' : ∀ i, i < n → g1 i = nI (if i < dp + 1 then pre' i else cdf (r.getD (i - (dp + 1)) 0)) := h1
      show ∀ i, i < n → g2 i = nI (if i < dp then pre i else cdf ((x :: r).getD (i - dp) 0))
      intro i hi
      rw [h2 i hi, h1' i hi]
      congr 1
      by_cases a : i < dp
      · rw [if_pos a, if_pos (by omega), hpre i a]
      · rw [if_neg a]
        by_cases b : i = dp
        · subst b
          rw [if_pos (by omega), hpx, Nat.sub_self]
          rfl
        · rw [if_neg (by omega), show i - dp = (i - (dp + 1)) + 1 by omega]
          rfl
  · rw [if_neg c0] at h1 ⊢
    rw [if_neg (fun z => c0 (hc1.mp z).1)] at h2
    intro i hi
    rw [h2 i hi, h1 i hi]
theorem c_fol_45 {N n most dp j : Nat} {v : Option Nat} {rl : RLT} {α α0 : SA} {rec' : Hp → Nat → Option Nat → Int32 → Int32 → Int32 → Option Hp} (hN : 5000 ≤ N) (hn : n ≤ 3) (hm : 1 ≤ most ∧ most ≤ 30000) (hdp : dp + (j + 1) = n) (D : Dm α) (h0 : 0 < lvl α) (hb : bgs α = bgs α0)
    (IH : ∀ (h : Hp) (c : Nat) (β : SA) (pre : Nat → Nat), SHP h → Dm β → 0 < lvl β → bgs β = bgs α0 → Ac h 15 β → Rc N h v rl → c < most → hI h 44 4 = nI c → (∀ i, i < dp + 1 → hI h 49 i = nI (pre i)) → ∃ h', rec' h 44 v (nI (dp + 1)) (nI n) (nI most) = some h' ∧ Ac h' 15 β ∧ hI h' 44 4 = nI (lim most c (RW rl j β).length) ∧ fst1 (hI h' 50) (hI h 50) n (dp + 1) c pre (tc α0) (RW rl j β) ∧ Fr (PFo (dp + 1)) h h') :
    ∀ (l : List Nat) (k f : Nat) (h : Hp) (c : Nat) (pre : Nat → Nat), l.length < f → k + l.length ≤ 16 → (∀ x, x ∈ l → x ∈ TL α rl) → SHP h → Ac h 15 α → Rc N h v rl → c ≤ most → hI h 44 4 = nI c → (∀ i, i < dp → hI h 49 i = nI (pre i)) → (∀ i, i < l.length → hI h (46 + dp) (k + i) = nI (tc α (l.getD i 0))) → ∃ h', f_X0_follow_45 N rec' f h 44 v (nI dp) (nI n) (nI most) (46 + dp) (nI (k + l.length)) (nI k) = some h' ∧ Ac h' 15 α ∧ hI h' 44 4 = nI (lim most c (RWl rl j α l).length) ∧ fst1 (hI h' 50) (hI h 50) n dp c pre (tc α0) (RWl rl j α l) ∧ Fr (PFo dp) h h'
  | [], k, f, h, c, pre, hf, hk, hl, H, A, Q, hc, h4, ch, op => by
    obtain ⟨f, rfl⟩ : ∃ k, f = k + 1 := ⟨f - 1, by simp at hf; omega⟩
    rw [f_X0_follow_45, List.length_nil, Nat.add_zero, if_pos (Int32.le_refl _), RWl_nil, List.length_nil, lim_0 hc]
    refine ⟨h, rfl, A, h4, ?_, Fr_refl h⟩
    unfold fst1
    split
    · trivial
    · exact fun i _ => rfl
  | x :: l, k, f, h, c, pre, hf, hk, hl, H, A, Q, hc, h4, ch, op => by
    rw [List.length_cons] at hf hk
    obtain ⟨f, rfl⟩ : ∃ k, f = k + 1 := ⟨f - 1, by omega⟩
    rw [f_X0_follow_45, List.length_cons, if_neg (nI_ge (by omega) (by omega)), h4, RWl_cons]
    by_cases cm : most ≤ c
    · have : c = most := by omega
      subst this
      rw [if_pos (Int32.le_refl _), lim_full]
      refine ⟨h, rfl, A, h4, ?_, Fr_refl h⟩
      unfold fst1
      rw [if_neg (by omega)]
      exact fun i _ => rfl
    · have hx : x ∈ TL α rl := hl x (by simp)
      have o0 : hI h (46 + dp) k = nI (tc α x) := by have := op 0 (by simp); rw [Nat.add_zero] at this; exact this
      have l46 : ∀ h', SHP h' → hL h' (46 + dp) = 16 := fun h' H' => by
        obtain rfl | rfl | rfl : dp = 0 ∨ dp = 1 ∨ dp = 2 := by omega
        · exact ll_46 H'
        · exact ll_47 H'
        · exact ll_48 H'
      rw [if_neg (nI_ge (by omega) (by omega)), pp_44_2 H, bs, l46 h H, if_inI (by omega) (by omega), lts, nI_clamp (n := k) (by omega), o0, ll_49 H, if_inI (by omega) (by omega), lts, nI_clamp (n := dp) (by omega)]
      have F1 : Fr (PFo dp) h (sI h 49 dp (nI (tc α x))) := Fr_sI _ _ _ _ (Or.inr (Or.inr (Or.inr (Or.inl ⟨rfl, Nat.le_refl _⟩))))
      have g1 : ∀ i, hI (sI h 49 dp (nI (tc α x))) 49 i = if i = dp then nI (tc α x) else hI h 49 i := sI_r _ _ _ _
      have o1 : ∀ a, a ≠ 49 → hI (sI h 49 dp (nI (tc α x))) a = hI h a := fun a ha => sI_a _ _ _ _ ha
      generalize sI h 49 dp (nI (tc α x)) = h1 at F1 g1 o1 ⊢
      have H1 := Fr_SHP F1 H
      have A1 : Ac h1 15 α := ⟨Fr_isSt F1 A.1, fun a i ha hi => by rw [o1 _ (by omega)]; exact A.2 a i ha hi⟩
      obtain ⟨h2, e2, A2, F2⟩ := c_tipx A1 D hx
      have H2 := Fr_SHP F2 H1
      have Q2 : Rc N h2 v rl := Fq_Rc (Fq_trans (Fr_q (Fr_mono F1 (Q := PQc) PFo_q)) (Fq_mono (Fr_q F2) (fun a j z => by have := z.1; have := z.2; unfold PQc; omega))) (fun a j z => by unfold PQc at z; omega) Q
      rw [pp_44_0 H1, bs, l46 h1 H1, if_pos ⟨nI_pos' (by omega), by omega⟩, o1 _ (by omega), o0, e2, bs, nI_1]
      have h42 : hI h2 44 4 = nI c := by rw [F2.2.2.2 44 4 (fun z => by have := z.2; omega), o1 44 (by decide)]; exact h4
      obtain ⟨h3, e3, A3, c3, f3, F3⟩ := IH h2 c (dN α x 1) (fun i => if i = dp then tc α x else pre i) H2 (dT_D D _ _ _ _) (by rw [(dN_dims α x 1).1]; exact h0) (by rw [(dN_dims α x 1).2]; exact hb) A2 Q2 (by omega) h42 (fun i hi => by
        show _ = nI (if i = dp then tc α x else pre i)
        rw [F2.2.2.2 49 i (fun z => by have := z.2; omega), g1]
        by_cases e : i = dp
        · rw [if_pos e, if_pos e]
        · rw [if_neg e, if_neg e]; exact ch i (by omega))
      have H3 := Fr_SHP F3 H2
      have o3 : hI h3 (46 + dp) = hI h (46 + dp) := by
        rw [Fr_row F3 (fun j z => by unfold PFo at z; omega), Fr_row F2 (fun j z => by have := z.2; omega), o1 _ (by omega)]
      obtain ⟨h4', e4, A4, F4⟩ := c_undoTip (k := tk α x) (d := td α x) (u := tu α x) A3 (dT_D D _ _ _ _) (by rw [(dN_dims α x 1).1]; exact tk_lt (TL_mem hx).2) (by rw [(dN_dims α x 1).2]; exact td_le α x) (by rw [(dN_dims α x 1).2]; exact tu_le α x)
      rw [dN_undo hx] at A4
      have e4' : f_X5_undoTip h3 15 (nI (tc α x)) = some h4' := e4
      rw [e3, bs, pp_44_0 H3, bs, l46 h3 H3, if_pos ⟨nI_pos' (by omega), by omega⟩, o3, o0, e4', bs, nI_1]
      have H4 := Fr_SHP F4 H3
      have F04 : Fr (PFo dp) h h4' := Fr_trans F1 (Fr_trans (Fr_mono F2 (fun a j z => Or.inl ⟨z.1, z.2⟩)) (Fr_trans (Fr_mono F3 PFo_mono) (Fr_mono F4 (fun a j z => Or.inl ⟨z.1, z.2⟩))))
      have c4 : hI h4' 44 4 = nI (lim most c (RW rl j (dN α x 1)).length) := by rw [F4.2.2.2 44 4 (fun z => by have := z.2; omega)]; exact c3
      have ll := lim_le (k := (RW rl j (dN α x 1)).length) hc
      obtain ⟨h5, e5, A5, c5, f5, F5⟩ := c_fol_45 hN hn hm hdp D h0 hb IH l (k + 1) f h4' (lim most c (RW rl j (dN α x 1)).length) pre (by omega) (by omega) (fun y hy => hl y (by simp [hy])) H4 A4 (Fq_Rc (Fr_q F04) (fun a j z => by unfold PFo at z; omega) Q) ll.1 c4 (fun i hi => by rw [F04.2.2.2 49 i (fun z => by unfold PFo at z; omega)]; exact ch i hi) (fun i hi => by
        rw [Fr_row F4 (fun j z => by have := z.2; omega), o3, show k + 1 + i = k + (i + 1) by omega, op (i + 1) (by simp; omega)]
        rfl)
      rw [show k + 1 + l.length = k + (l.length + 1) by omega] at e5
      refine ⟨h5, e5, A5, ?_, ?_, Fr_trans F04 F5⟩
      · rw [c5, lim_lim hc, List.length_append, List.length_map]
      · have f3' : fst1 (hI h4' 50) (hI h 50) n (dp + 1) c (fun i => if i = dp then tc α x else pre i) (tc α0) (RW rl j (dN α x 1)) := by
          rw [Fr_row F4 (fun j z => by have := z.2; omega)]
          rw [Fr_row F2 (fun j z => by have := z.2; omega), o1 50 (by decide)] at f3
          exact f3
        refine fst1_app (by omega) (fun i hi => by show (if i = dp then _ else _) = _; rw [if_neg (by omega)]) (by show (if dp = dp then _ else _) = _; rw [if_pos rfl]; exact tc_b hb x) ?_ f3' f5
        cases e : RW rl j (dN α x 1) with
        | nil =>
          rw [List.length_nil, lim_0 hc]
          exact ⟨fun z => ⟨z, rfl⟩, fun z => z.1⟩
        | cons r L =>
          refine ⟨fun z => ?_, fun z => by have := z.2; cases this⟩
          exfalso
          unfold lim at z
          rw [List.length_cons] at z
          split at z <;> omega
theorem c_fol {N n most : Nat} {v : Option Nat} {rl : RLT} {α0 : SA} (hN : 5000 ≤ N) (hn : n ≤ 3) (hm : 1 ≤ most ∧ most ≤ 30000) : ∀ (j dp g : Nat) (b : Bool) (h : Hp) (c : Nat) (α : SA) (pre : Nat → Nat), dp + j = n → j < g → SHP h → Dm α → 0 < lvl α → bgs α = bgs α0 → Ac h 15 α → Rc N h v rl → c < most → hI h 44 4 = nI c → (∀ i, i < dp → hI h 49 i = nI (pre i)) → ∃ h', f_X0_follow_grp N g b h 44 v (nI dp) (nI n) (nI most) = some h' ∧ Ac h' 15 α ∧ hI h' 44 4 = nI (lim most c (RW rl j α).length) ∧ fst1 (hI h' 50) (hI h 50) n dp c pre (tc α0) (RW rl j α) ∧ Fr (PFo dp) h h' := by
  intro j
  induction j with
  | zero =>
    intro dp g b h c α pre hdp hg H D h0 hb A Q hc h4 ch
    obtain ⟨g, rfl⟩ : ∃ k, g = k + 1 := ⟨g - 1, by omega⟩
    have : dp = n := by omega
    subst this
    rw [f_X0_follow_grp]
    unfold f_X0_follow_o f_X0_follow_14
    rw [if_neg (nI_pos (by omega)), if_pos (Int32.le_refl _)]
    obtain ⟨h1, e1, c1, f1, F1⟩ := c_noteRow (N := N) (n := dp) (pre := pre) (cdf := tc α0) (rl := rl) (by omega) H A D h4 (by omega) hn ch
    rw [e1, bs]
    refine ⟨h1, rfl, Fr_Ac F1 (fun a j h1 h2 z => by omega) A, ?_, f1, Fr_mono F1 (fun a j z => by unfold PFo; omega)⟩
    rw [c1]
    congr 1
    unfold lim
    have : (RW rl 0 α).length ≤ 1 := by unfold RW; split <;> simp
    rw [if_pos (by omega)]
  | succ j ih =>
    intro dp g b h c α pre hdp hg H D h0 hb A Q hc h4 ch
    obtain ⟨g, rfl⟩ : ∃ k, g = k + 1 := ⟨g - 1, by omega⟩
    have t15 := TL_15 (α := α) (rl := rl) D
    have p45 : hP h 45 dp = some (46 + dp) := by
      obtain rfl | rfl | rfl : dp = 0 ∨ dp = 1 ∨ dp = 2 := by omega
      · exact pp_45_0 H
      · exact pp_45_1 H
      · exact pp_45_2 H
    have l46 : hL h (46 + dp) = 16 := by
      obtain rfl | rfl | rfl : dp = 0 ∨ dp = 1 ∨ dp = 2 := by omega
      · exact ll_46 H
      · exact ll_47 H
      · exact ll_48 H
    rw [f_X0_follow_grp]
    unfold f_X0_follow_o
    obtain ⟨h1, q1, r1, F1⟩ := c_gather (N := N) (s := 15) (v2 := 46 + dp) (len := 16) (most := 16) (v1 := v) D (by omega) (Or.inr (by omega)) (fun q e => by have := Rc_q77 Q q e; omega) (Nat.le_refl _) (by decide) h0 ⟨A, Q, l46⟩
    rw [List.take_of_length_le (by omega)] at q1 r1
    rw [if_neg (nI_pos (by omega)), if_neg (nI_ge (by omega) (by omega)), if_pos (show nI dp < 3 from nI_lt (b := 3) (by omega) (by decide)), pp_44_1 H, bs, ll_45 H, if_inI (by omega) (by omega), nI_clamp (by omega), p45, bs, pp_44_0 H, bs, l46, q1, b2s]
    have H1 := Fr_SHP F1 H
    obtain ⟨h2, e2, A2, c2, f2, F2⟩ := c_fol_45 (N := N) (n := n) (most := most) (dp := dp) (j := j) (v := v) (rl := rl) (α := α) (α0 := α0) (rec' := f_X0_follow_grp N g true) hN hn hm (by omega) D h0 hb (fun h c β pre H D' l0 b' A' Q' c' h4' ch' => ih (dp + 1) g true h c β pre (by omega) (by omega) H D' l0 b' A' Q' c' h4' ch') (TL α rl) 0 N h1 c pre (by omega) (by omega) (fun x hx => hx) H1 (Fr_Ac F1 (fun a j h1 h2 z => by omega) A) (Fq_Rc (Fr_q F1) (fun a j z => by omega) Q) (by omega) (by rw [F1.2.2.2 44 4 (fun z => by omega)]; exact h4) (fun i hi => by rw [F1.2.2.2 49 i (fun z => by omega)]; exact ch i hi) (fun i hi => by rw [Nat.zero_add]; exact r1 i hi)
    rw [Nat.zero_add] at e2
    refine ⟨h2, e2, A2, c2, ?_, Fr_trans (Fr_mono F1 (fun a j z => by unfold PFo; omega)) F2⟩
    rw [Fr_row F1 (fun j z => by omega)] at f2
    exact f2
