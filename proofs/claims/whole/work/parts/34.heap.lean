/-! ===== the class's heap of open situations ===== -/
def ah (c : Nat → Int32) (i j : Nat) : Prop := c i < c j ∨ (c i = c j ∧ i < j)
theorem ah_tr {c : Nat → Int32} {i j k : Nat} (h1 : ¬ ah c j i) (h2 : ¬ ah c k j) : ¬ ah c k i := by
  unfold ah at *
  intro h
  rcases h with h | h
  · by_cases e : c j < c i
    · exact h1 (Or.inl e)
    · exact h2 (Or.inl (Int32.lt_of_lt_of_le h (Int32.not_lt.mp e)))
  · by_cases e : c j < c i
    · exact h1 (Or.inl e)
    · by_cases e2 : c k < c j
      · exact h2 (Or.inl e2)
      · have e3 : c i = c j := Int32.le_antisymm (Int32.not_lt.mp e) (by rw [← h.1]; exact Int32.not_lt.mp e2)
        by_cases e4 : j < i
        · exact h1 (Or.inr ⟨e3.symm, e4⟩)
        · exact h2 (Or.inr ⟨h.1.trans e3, by omega⟩)
theorem ah_as {c : Nat → Int32} {i j : Nat} (h : ah c i j) : ¬ ah c j i := by
  unfold ah at *
  intro h'
  rcases h with h | h <;> rcases h' with h' | h'
  · exact absurd h (Int32.not_lt.mpr (Int32.le_of_lt h'))
  · rw [h'.1] at h; exact Int32.lt_irrefl h
  · rw [h.1] at h'; exact Int32.lt_irrefl h'
  · omega
theorem ah_or {c : Nat → Int32} (i j : Nat) : ah c i j ∨ ¬ ah c i j := Classical.em _
def HV (c : Nat → Int32) (b : Nat → Nat) (m : Nat) : Prop := ∀ q, 0 < q → q < m → ¬ ah c (b q) (b ((q - 1) / 2))
def BJ (b P : Nat → Nat) (m : Nat) (S : Nat → Prop) : Prop := (∀ q, q < m → S (b q) ∧ P (b q) = q) ∧ ∀ i, S i → P i < m ∧ b (P i) = i
theorem HV_0 {c : Nat → Int32} {b : Nat → Nat} {m : Nat} (h : HV c b m) : ∀ q, q < m → ¬ ah c (b q) (b 0) := by
  intro q
  induction q using Nat.strongRecOn with
  | _ q ih =>
    intro hq
    by_cases e : q = 0
    · subst e
      intro z
      exact ah_as z z
    · exact ah_tr (ih ((q - 1) / 2) (by omega) (by omega)) (h q (by omega) hq)
def swp (b : Nat → Nat) (p q : Nat) : Nat → Nat := fu (fu b p (b q)) q (b p)
def swP (b P : Nat → Nat) (p q : Nat) : Nat → Nat := fu (fu P (b q) p) (b p) q
theorem BJ_swp {b P : Nat → Nat} {m : Nat} {S : Nat → Prop} (h : BJ b P m S) {p q : Nat} (hp : p < m) (hq : q < m) (hpq : p ≠ q) : BJ (swp b p q) (swP b P p q) m S := by
  have inj : ∀ x y, x < m → y < m → b x = b y → x = y := fun x y hx hy e => by rw [← (h.1 x hx).2, ← (h.1 y hy).2, e]
  have hne : b p ≠ b q := fun z => hpq (inj p q hp hq z)
  unfold swp swP
  refine ⟨fun x hx => ?_, fun i hi => ?_⟩
  · by_cases e1 : x = q
    · subst e1
      rw [fu_s, fu_s]
      exact ⟨(h.1 p hp).1, rfl⟩
    · rw [fu_o _ _ e1]
      by_cases e2 : x = p
      · subst e2
        rw [fu_s, fu_o _ _ hne.symm, fu_s]
        exact ⟨(h.1 q hq).1, rfl⟩
      · rw [fu_o _ _ e2, fu_o _ _ (fun z => e2 (inj x p hx hp z)), fu_o _ _ (fun z => e1 (inj x q hx hq z))]
        exact h.1 x hx
  · obtain ⟨i1, i2⟩ := h.2 i hi
    by_cases e1 : i = b p
    · subst e1
      rw [fu_s, fu_s]
      exact ⟨hq, rfl⟩
    · rw [fu_o _ _ e1]
      by_cases e2 : i = b q
      · subst e2
        rw [fu_s, fu_o _ _ hpq, fu_s]
        exact ⟨hp, rfl⟩
      · rw [fu_o _ _ e2, fu_o _ _ (fun z => e2 (by rw [← z]; exact i2.symm)), fu_o _ _ (fun z => e1 (by rw [← z]; exact i2.symm))]
        exact ⟨i1, i2⟩
/-- a hole at p: what rises may be ahead of what stands over it -/
def RI (c : Nat → Int32) (b : Nat → Nat) (m p : Nat) : Prop := (∀ q, 0 < q → q < m → q ≠ p → ¬ ah c (b q) (b ((q - 1) / 2))) ∧ ∀ q, 0 < q → q < m → (q - 1) / 2 = p → 0 < p → ¬ ah c (b q) (b ((p - 1) / 2))
theorem RI_step {c : Nat → Int32} {b : Nat → Nat} {m p : Nat} (h : RI c b m p) (hp : 0 < p) (hm : p < m) (ha : ah c (b p) (b ((p - 1) / 2))) : RI c (swp b p ((p - 1) / 2)) m ((p - 1) / 2) := by
  have hlt : (p - 1) / 2 < p := by omega
  unfold swp
  refine ⟨fun q h0 hq hne => ?_, fun q h0 hq he h1 => ?_⟩
  · rw [fu_o _ _ hne]
    by_cases e1 : q = p
    · subst e1
      rw [fu_s, fu_s]
      exact ah_as ha
    · rw [fu_o _ _ e1]
      by_cases e2 : (q - 1) / 2 = (p - 1) / 2
      · rw [e2, fu_s]
        have := h.1 q h0 hq e1
        rw [e2] at this
        exact ah_tr (ah_as ha) this
      · rw [fu_o _ _ e2]
        by_cases e3 : (q - 1) / 2 = p
        · rw [e3, fu_s]
          exact h.2 q h0 hq e3 hp
        · rw [fu_o _ _ e3]
          exact h.1 q h0 hq e1
  · have e0 : ((p - 1) / 2 - 1) / 2 ≠ (p - 1) / 2 := by omega
    have e0' : ((p - 1) / 2 - 1) / 2 ≠ p := by omega
    rw [fu_o _ _ e0, fu_o _ _ e0']
    have eq1 : q ≠ (p - 1) / 2 := by omega
    rw [fu_o _ _ eq1]
    have up := h.1 ((p - 1) / 2) h1 (by omega) (by omega)
    by_cases e1 : q = p
    · subst e1
      rw [fu_s]
      exact up
    · rw [fu_o _ _ e1]
      have := h.1 q h0 hq e1
      rw [he] at this
      exact ah_tr up this
theorem RI_end {c : Nat → Int32} {b : Nat → Nat} {m p : Nat} (h : RI c b m p) (he : p = 0 ∨ ¬ ah c (b p) (b ((p - 1) / 2))) : HV c b m := by
  intro q h0 hq
  by_cases e : q = p
  · subst e
    rcases he with z | z
    · omega
    · exact z
  · exact h.1 q h0 hq e
/-- a hole at p: what sinks may be behind what stands below it -/
def SI (c : Nat → Int32) (b : Nat → Nat) (m p : Nat) : Prop := (∀ q, 0 < q → q < m → (q - 1) / 2 ≠ p → ¬ ah c (b q) (b ((q - 1) / 2))) ∧ ∀ q, 0 < q → q < m → (q - 1) / 2 = p → 0 < p → ¬ ah c (b q) (b ((p - 1) / 2))
theorem SI_step {c : Nat → Int32} {b : Nat → Nat} {m p q : Nat} (h : SI c b m p) (hm : q < m) (hq : q = 2 * p + 1 ∨ q = 2 * p + 2) (ha : ah c (b q) (b p)) (hl : ∀ r, r < m → (r = 2 * p + 1 ∨ r = 2 * p + 2) → ¬ ah c (b r) (b q)) : SI c (swp b p q) m q := by
  have hpq : p ≠ q := by omega
  unfold swp
  refine ⟨fun r h0 hr hne => ?_, fun r h0 hr he h1 => ?_⟩
  · by_cases e1 : r = q
    · subst e1
      have : (r - 1) / 2 = p := by omega
      rw [this, fu_s, fu_o _ _ hpq, fu_s]
      exact ah_as ha
    · rw [fu_o _ _ e1, fu_o _ _ hne]
      by_cases e2 : r = p
      · subst e2
        have e3 : (r - 1) / 2 ≠ r := by omega
        rw [fu_s, fu_o _ _ e3]
        exact h.2 q (by omega) hm (by omega) h0
      · rw [fu_o _ _ e2]
        by_cases e3 : (r - 1) / 2 = p
        · rw [e3, fu_s]
          exact hl r hr (by omega)
        · rw [fu_o _ _ e3]
          exact h.1 r h0 hr e3
  · have e1 : r ≠ q := by omega
    have e2 : r ≠ p := by omega
    have e3 : (q - 1) / 2 = p := by omega
    rw [fu_o _ _ e1, fu_o _ _ e2, e3, fu_o _ _ hpq, fu_s]
    have := h.1 r h0 hr (by omega)
    rw [he] at this
    exact this
theorem SI_end {c : Nat → Int32} {b : Nat → Nat} {m p : Nat} (h : SI c b m p) (he : ∀ q, q < m → (q = 2 * p + 1 ∨ q = 2 * p + 2) → ¬ ah c (b q) (b p)) : HV c b m := by
  intro q h0 hq
  by_cases e : (q - 1) / 2 = p
  · rw [e]
    exact he q hq (by omega)
  · exact h.1 q h0 hq e
/-! the rows 40 (heap) and 41 (places in it) -/
def PH (S : Nat → Prop) : Nat → Nat → Prop := fun a j => a = 40 ∨ (a = 41 ∧ S j)
def HF (h : Hp) (b P : Nat → Nat) (m : Nat) (S : Nat → Prop) : Prop := (∀ q, q < m → hI h 40 q = nI (b q)) ∧ (∀ i, S i → hI h 41 i = nI (P i)) ∧ BJ b P m S
def HH (h : Hp) (b P : Nat → Nat) (m : Nat) (S : Nat → Prop) (p : Nat) : Prop := (∀ q, q < m → q ≠ p → hI h 40 q = nI (b q)) ∧ (∀ i, S i → i ≠ b p → hI h 41 i = nI (P i)) ∧ BJ b P m S
theorem c_put {h : Hp} (H : SHP h) {p v : Nat} (hp : p < 1500) (hv : v < 1500) : f_X3_putInHeap h 32 (nI p) (nI v) = some (sI (sI h 40 p (nI v)) 41 v (nI p)) := by
  unfold f_X3_putInHeap
  rw [pp_32_8 H, bs, ll_40 H, if_inI hp (by omega), lts, nI_clamp (by omega)]
  have H1 : SHP (sI h 40 p (nI v)) := H
  rw [pp_32_9 H1, bs, ll_41 H1, if_inI hv (by omega), lts, nI_clamp (by omega)]
theorem Fr_put {S : Nat → Prop} (h : Hp) (p v : Nat) (hv : S v) : Fr (PH S) h (sI (sI h 40 p (nI v)) 41 v (nI p)) := Fr_trans (Fr_sI _ _ _ _ (Or.inl rfl)) (Fr_sI _ _ _ _ (Or.inr ⟨rfl, hv⟩))
theorem c_ahead {h : Hp} (H : SHP h) {c : Nat → Int32} {i j : Nat} (hi : i < 1500) (hj : j < 1500) (ci : hI h 37 i = c i) (cj : hI h 37 j = c j) : f_X3_isAhead h 32 (nI i) (nI j) = some (if c i < c j then 1 else if c i = c j then (if i < j then 1 else 0) else 0) := by
  unfold f_X3_isAhead
  rw [pp_32_5 H, bs, ll_37 H, if_inI hi (by omega), bs, ll_37 H, if_inI hj (by omega), bs, ll_37 H, if_inI hi (by omega), bs, ll_37 H, if_inI hj (by omega), nI_clamp (by omega), nI_clamp (by omega), ci, cj]
  by_cases e1 : c i < c j
  · rw [if_pos e1, if_pos e1]
  · rw [if_neg e1, if_neg e1]
    by_cases e2 : c i = c j
    · rw [if_pos e2, if_pos e2]
      by_cases e3 : i < j
      · rw [if_neg (nI_ge e3 (by omega)), if_pos e3]
      · rw [if_pos (nI_le (by omega) (by omega)), if_neg e3]
    · rw [if_neg e2, if_neg e2]
theorem ah_val {c : Nat → Int32} {i j : Nat} : ((if c i < c j then (1 : Int32) else if c i = c j then (if i < j then 1 else 0) else 0) = 0) ↔ ¬ ah c i j := by
  unfold ah
  by_cases e1 : c i < c j
  · rw [if_pos e1]
    exact ⟨fun z => absurd z (by decide), fun z => absurd (Or.inl e1) z⟩
  · rw [if_neg e1]
    by_cases e2 : c i = c j
    · rw [if_pos e2]
      by_cases e3 : i < j
      · rw [if_pos e3]
        exact ⟨fun z => absurd z (by decide), fun z => absurd (Or.inr ⟨e2, e3⟩) z⟩
      · rw [if_neg e3]
        exact ⟨fun _ z => z.elim e1 (fun w => e3 w.2), fun _ => rfl⟩
    · rw [if_neg e2]
      exact ⟨fun _ z => z.elim e1 (fun w => e2 w.1), fun _ => rfl⟩
/-- what moves to p, leaving a hole at q -/
theorem HH_put {h : Hp} {b P : Nat → Nat} {m : Nat} {S : Nat → Prop} {p q : Nat} (K : HH h b P m S p) (hp : p < m) (hq : q < m) (hpq : p ≠ q) : HH (sI (sI h 40 p (nI (b q))) 41 (b q) (nI p)) (swp b p q) (swP b P p q) m S q := by
  obtain ⟨k1, k2, k3⟩ := K
  have inj : ∀ x y, x < m → y < m → b x = b y → x = y := fun x y hx hy e => by rw [← (k3.1 x hx).2, ← (k3.1 y hy).2, e]
  have hne : b p ≠ b q := fun z => hpq (inj p q hp hq z)
  refine ⟨fun r hr hn => ?_, fun i hi hn => ?_, BJ_swp k3 hp hq hpq⟩
  · rw [hI_sI, if_neg (by omega), hI_sI]
    unfold swp
    rw [fu_o _ _ hn]
    by_cases e : r = p
    · subst e
      rw [if_pos ⟨rfl, rfl⟩, fu_s]
    · rw [if_neg (fun z => e z.2), fu_o _ _ e]
      exact k1 r hr e
  · have hb : swp b p q q = b p := by unfold swp; rw [fu_s]
    rw [hb] at hn
    unfold swP
    rw [hI_sI, fu_o _ _ hn]
    by_cases e : i = b q
    · subst e
      rw [if_pos ⟨rfl, rfl⟩, fu_s]
    · rw [if_neg (fun z => e z.2), hI_sI, if_neg (by omega), fu_o _ _ e]
      exact k2 i hi hn
theorem HH_fin {h : Hp} {b P : Nat → Nat} {m : Nat} {S : Nat → Prop} {p : Nat} (K : HH h b P m S p) (hp : p < m) : HF (sI (sI h 40 p (nI (b p))) 41 (b p) (nI p)) b P m S := by
  obtain ⟨k1, k2, k3⟩ := K
  refine ⟨fun r hr => ?_, fun i hi => ?_, k3⟩
  · rw [hI_sI, if_neg (by omega), hI_sI]
    by_cases e : r = p
    · subst e
      rw [if_pos ⟨rfl, rfl⟩]
    · rw [if_neg (fun z => e z.2)]
      exact k1 r hr e
  · rw [hI_sI]
    by_cases e : i = b p
    · subst e
      rw [if_pos ⟨rfl, rfl⟩, (k3.1 p hp).2]
    · rw [if_neg (fun z => e z.2), hI_sI, if_neg (by omega)]
      exact k2 i hi e
theorem c_rise_l {N m : Nat} {c : Nat → Int32} {S : Nat → Prop} (hm : m ≤ 1500) (hS : ∀ i, S i → i < 1500) : ∀ (f : Nat) (h : Hp) (b P : Nat → Nat) (p : Nat), p < f → p < m → SHP h → (∀ i, S i → hI h 37 i = c i) → HH h b P m S p → RI c b m p → ∃ h' b' P', f_X3_rise_9 N f h 32 (nI (b p)) (nI p) = some h' ∧ HF h' b' P' m S ∧ HV c b' m ∧ Fr (PH S) h h'
  | 0, _, _, _, _, h0, _, _, _, _, _ => absurd h0 (Nat.not_lt_zero _)
  | f + 1, h, b, P, p, hf, hp, H, hc, K, R => by
    have Sb : ∀ q, q < m → S (b q) := fun q hq => (K.2.2.1 q hq).1
    rw [f_X3_rise_9]
    have fin : (p = 0 ∨ ¬ ah c (b p) (b ((p - 1) / 2))) → ∃ h' b' P', f_X3_rise_55 N h 32 (nI (b p)) (nI p) = some h' ∧ HF h' b' P' m S ∧ HV c b' m ∧ Fr (PH S) h h' := by
      intro he
      unfold f_X3_rise_55
      rw [c_put H (by omega) (hS _ (Sb p hp)), bs]
      exact ⟨_, b, P, rfl, HH_fin K hp, RI_end R he, Fr_put _ _ _ (Sb p hp)⟩
    by_cases e0 : p = 0
    · rw [if_pos (by rw [e0]; decide)]
      exact fin (Or.inl e0)
    · rw [if_neg (nI_nle (by omega) (by omega)), pp_32_8 H, bs, n_1, pk_sub (by omega), n_2, pk_div (by omega) (by decide) (by decide), ll_40 H, if_inI (by omega) (by omega), nI_clamp (by omega), K.1 ((p - 1) / 2) (by omega) (by omega), c_ahead H (hS _ (Sb p hp)) (hS _ (Sb _ (by omega))) (hc _ (Sb p hp)) (hc _ (Sb _ (by omega))), bs]
      by_cases e1 : ah c (b p) (b ((p - 1) / 2))
      · rw [if_neg (fun z => ah_val.mp z e1), bs, ll_40 H, if_pos ⟨nI_pos' (by omega), by omega⟩, K.1 ((p - 1) / 2) (by omega) (by omega), c_put H (by omega) (hS _ (Sb _ (by omega))), bs, lts]
        have K1 := HH_put K hp (q := (p - 1) / 2) (by omega) (by omega)
        have F1 := Fr_put (S := S) h p (b ((p - 1) / 2)) (Sb _ (by omega))
        have e2 : swp b p ((p - 1) / 2) ((p - 1) / 2) = b p := by unfold swp; rw [fu_s]
        obtain ⟨h', b', P', a1, a2, a3, a4⟩ := c_rise_l hm hS f _ (swp b p ((p - 1) / 2)) (swP b P p ((p - 1) / 2)) ((p - 1) / 2) (by omega) (by omega) (Fr_SHP F1 H) (fun i hi => by rw [F1.2.2.2 37 i (by unfold PH; simp)]; exact hc i hi) K1 (RI_step R (by omega) hp e1)
        rw [e2] at a1
        exact ⟨h', b', P', a1, a2, a3, Fr_trans F1 a4⟩
      · rw [if_pos (ah_val.mpr e1)]
        exact fin (Or.inr e1)
theorem c_rise {N m : Nat} {c : Nat → Int32} {S : Nat → Prop} {h : Hp} {b P : Nat → Nat} {p : Nat} (hN : 1600 ≤ N) (hm : m ≤ 1500) (hS : ∀ i, S i → i < 1500) (H : SHP h) (hp : p < m) (hc : ∀ i, S i → hI h 37 i = c i) (K : HF h b P m S) (R : RI c b m p) : ∃ h' b' P', f_X3_rise N h 32 (nI p) = some h' ∧ HF h' b' P' m S ∧ HV c b' m ∧ Fr (PH S) h h' := by
  unfold f_X3_rise
  rw [pp_32_8 H, bs, ll_40 H, if_inI (by omega) (by omega), lts, nI_clamp (by omega), K.1 p hp]
  exact c_rise_l hm hS N h b P p (by omega) hp H hc ⟨fun q hq _ => K.1 q hq, fun i hi _ => K.2.1 i hi, K.2.2⟩ R
theorem c_sink_51 {N m : Nat} {c : Nat → Int32} {S : Nat → Prop} (hm : m ≤ 1500) (hS : ∀ i, S i → i < 1500) {s4 : Hp → Nat → Int32 → Int32 → Int32 → Option Hp} {h : Hp} {b P : Nat → Nat} {p q : Nat} (hp : p < m) (hq : q < m) (hpq : q = 2 * p + 1 ∨ q = 2 * p + 2) (H : SHP h) (hc : ∀ i, S i → hI h 37 i = c i) (K : HH h b P m S p) (R : SI c b m p) (hl : ∀ r, r < m → (r = 2 * p + 1 ∨ r = 2 * p + 2) → ¬ ah c (b r) (b q))
    (IH : ∀ h1, SHP h1 → (∀ i, S i → hI h1 37 i = c i) → HH h1 (swp b p q) (swP b P p q) m S q → SI c (swp b p q) m q → Fr (PH S) h h1 → ∃ h' b' P', s4 h1 32 (nI (b p)) (nI q) (nI (2 * q + 1)) = some h' ∧ HF h' b' P' m S ∧ HV c b' m ∧ Fr (PH S) h1 h') :
    ∃ h' b' P', f_X3_sink_51 N s4 h 32 (nI (b p)) (nI p) (nI q) = some h' ∧ HF h' b' P' m S ∧ HV c b' m ∧ Fr (PH S) h h' := by
  have Sb : ∀ q, q < m → S (b q) := fun q hq => (K.2.2.1 q hq).1
  unfold f_X3_sink_51
  rw [pp_32_8 H, bs, ll_40 H, if_inI (by omega) (by omega), nI_clamp (by omega), K.1 q hq (by omega), c_ahead H (hS _ (Sb q hq)) (hS _ (Sb p hp)) (hc _ (Sb q hq)) (hc _ (Sb p hp)), bs]
  by_cases e1 : ah c (b q) (b p)
  · rw [if_neg (fun z => ah_val.mp z e1), bs, ll_40 H, if_pos ⟨nI_pos' (by omega), by omega⟩, K.1 q hq (by omega), c_put H (by omega) (hS _ (Sb q hq)), bs, lts, n_2, pk_mul, n_1, nI_add]
    have F1 := Fr_put (S := S) h p (b q) (Sb q hq)
    obtain ⟨h', b', P', a1, a2, a3, a4⟩ := IH _ (Fr_SHP F1 H) (fun i hi => by rw [F1.2.2.2 37 i (by unfold PH; simp)]; exact hc i hi) (HH_put K hp hq (by omega)) (SI_step R hq hpq e1 hl) F1
    exact ⟨h', b', P', a1, a2, a3, Fr_trans F1 a4⟩
  · rw [if_pos (ah_val.mpr e1)]
    unfold f_X3_sink_93
    rw [c_put H (by omega) (hS _ (Sb p hp)), bs]
    exact ⟨_, b, P, rfl, HH_fin K hp, SI_end R (fun r hr hr2 z => absurd (ah_tr e1 (hl r hr hr2)) (fun w => w z)), Fr_put _ _ _ (Sb p hp)⟩
theorem c_sink_l {N m : Nat} {c : Nat → Int32} {S : Nat → Prop} (hm : m ≤ 1500) (hS : ∀ i, S i → i < 1500) : ∀ (f : Nat) (h : Hp) (b P : Nat → Nat) (p : Nat), m - p < f → p < m → SHP h → hI h 32 13 = nI m → (∀ i, S i → hI h 37 i = c i) → HH h b P m S p → SI c b m p → ∃ h' b' P', f_X3_sink_4 N f h 32 (nI (b p)) (nI p) (nI (2 * p + 1)) = some h' ∧ HF h' b' P' m S ∧ HV c b' m ∧ Fr (PH S) h h'
  | 0, _, _, _, _, h0, _, _, _, _, _, _ => absurd h0 (Nat.not_lt_zero _)
  | f + 1, h, b, P, p, hf, hp, H, h13, hc, K, R => by
    have Sb : ∀ q, q < m → S (b q) := fun q hq => (K.2.2.1 q hq).1
    rw [f_X3_sink_4, h13]
    have ih : ∀ q, q < m → (q = 2 * p + 1 ∨ q = 2 * p + 2) → ∀ h1, SHP h1 → (∀ i, S i → hI h1 37 i = c i) → HH h1 (swp b p q) (swP b P p q) m S q → SI c (swp b p q) m q → Fr (PH S) h h1 → ∃ h' b' P', f_X3_sink_4 N f h1 32 (nI (b p)) (nI q) (nI (2 * q + 1)) = some h' ∧ HF h' b' P' m S ∧ HV c b' m ∧ Fr (PH S) h1 h' := by
      intro q hq hpq h1 H1 hc1 K1 R1 F1
      have e2 : swp b p q q = b p := by unfold swp; rw [fu_s]
      have := c_sink_l (N := N) hm hS f h1 (swp b p q) (swP b P p q) q (by omega) hq H1 (by rw [F1.2.2.2 32 13 (by unfold PH; simp)]; exact h13) hc1 K1 R1
      rw [e2] at this
      exact this
    by_cases e1 : m ≤ 2 * p + 1
    · rw [if_pos (nI_le e1 (by omega))]
      unfold f_X3_sink_93
      rw [c_put H (by omega) (hS _ (Sb p hp)), bs]
      exact ⟨_, b, P, rfl, HH_fin K hp, SI_end R (fun r hr hr2 => by omega), Fr_put _ _ _ (Sb p hp)⟩
    · rw [if_neg (nI_ge (by omega) (by omega)), nI_1]
      by_cases e2 : m ≤ 2 * p + 1 + 1
      · rw [if_pos (nI_le e2 (by omega))]
        exact c_sink_51 hm hS hp (q := 2 * p + 1) (by omega) (Or.inl rfl) H hc K R (fun r hr hr2 z => by
          have : r = 2 * p + 1 := by omega
          subst this
          exact ah_as z z) (ih _ (by omega) (Or.inl rfl))
      · rw [if_neg (nI_ge (by omega) (by omega)), pp_32_8 H, bs, ll_40 H, if_inI (by omega) (by omega), bs, ll_40 H, if_inI (by omega) (by omega), nI_clamp (by omega), nI_clamp (by omega), K.1 (2 * p + 1 + 1) (by omega) (by omega), K.1 (2 * p + 1) (by omega) (by omega), c_ahead H (hS _ (Sb _ (by omega))) (hS _ (Sb _ (by omega))) (hc _ (Sb _ (by omega))) (hc _ (Sb _ (by omega))), bs]
        by_cases e3 : ah c (b (2 * p + 1 + 1)) (b (2 * p + 1))
        · rw [if_neg (fun z => ah_val.mp z e3)]
          exact c_sink_51 hm hS hp (q := 2 * p + 1 + 1) (by omega) (Or.inr rfl) H hc K R (fun r hr hr2 z => by
            rcases hr2 with w | w
            · subst w; exact ah_as e3 z
            · subst w; exact ah_as z z) (ih _ (by omega) (Or.inr rfl))
        · rw [if_pos (ah_val.mpr e3)]
          exact c_sink_51 hm hS hp (q := 2 * p + 1) (by omega) (Or.inl rfl) H hc K R (fun r hr hr2 z => by
            rcases hr2 with w | w
            · subst w; exact ah_as z z
            · subst w; exact e3 z) (ih _ (by omega) (Or.inl rfl))
def PH' (S : Nat → Prop) : Nat → Nat → Prop := fun a j => a = 40 ∨ (a = 41 ∧ S j) ∨ (a = 32 ∧ j = 13)
theorem PH_PH' {S T : Nat → Prop} {h h' : Hp} (hST : ∀ i, S i → T i) (F : Fr (PH S) h h') : Fr (PH' T) h h' := Fr_mono F (fun a j z => by rcases z with z | z; exact Or.inl z; exact Or.inr (Or.inl ⟨z.1, hST _ z.2⟩))
theorem c_take {N m : Nat} {c : Nat → Int32} {S : Nat → Prop} {h : Hp} {b P : Nat → Nat} (hN : 1600 ≤ N) (hm : m ≤ 1500) (h0 : 0 < m) (hS : ∀ i, S i → i < 1500) (H : SHP h) (h13 : hI h 32 13 = nI m) (hc : ∀ i, S i → hI h 37 i = c i) (K : HF h b P m S) (V : HV c b m) : ∃ h' b' P', f_X3_takeLeast N h 32 = some (nI (b 0), h') ∧ hI h' 41 (b 0) = -1 ∧ hI h' 32 13 = nI (m - 1) ∧ HF h' b' P' (m - 1) (fun i => S i ∧ i ≠ b 0) ∧ HV c b' (m - 1) ∧ Fr (PH' S) h h' := by
  have Sb : ∀ q, q < m → S (b q) := fun q hq => (K.2.2.1 q hq).1
  have inj : ∀ x y, x < m → y < m → b x = b y → x = y := fun x y hx hy e => by rw [← (K.2.2.1 x hx).2, ← (K.2.2.1 y hy).2, e]
  have b0 := hS _ (Sb 0 h0)
  unfold f_X3_takeLeast
  rw [pp_32_8 H, bs, ll_40 H, if_pos (by decide), pp_32_9 H, bs, K.1 0 h0, ll_41 H, if_inI b0 (by omega), lts, nI_clamp (by omega)]
  have F1 : Fr (PH' S) h (sI h 41 (b 0) (-1)) := Fr_sI _ _ _ _ (Or.inr (Or.inl ⟨rfl, Sb 0 h0⟩))
  have g1 : hI (sI h 41 (b 0) (-1)) 32 13 = nI m := by rw [hI_sI, if_neg (by omega)]; exact h13
  have g2 : ∀ j, hI (sI h 41 (b 0) (-1)) 41 j = if j = b 0 then -1 else hI h 41 j := fun j => by
    rw [hI_sI]
    by_cases e : j = b 0 <;> simp [e]
  have g3 : hI (sI h 41 (b 0) (-1)) 40 = hI h 40 := Fr_row (Fr_sI (P := fun a _ => a = 41) _ _ _ _ rfl) (fun j => by simp)
  generalize sI h 41 (b 0) (-1) = h1 at F1 g1 g2 g3 ⊢
  rw [lts, g1, show nI m - 1 = nI (m - 1) by rw [n_1, pk_sub (by omega)]]
  have F2 : Fr (PH' S) h (sI h1 32 13 (nI (m - 1))) := Fr_trans F1 (Fr_sI _ _ _ _ (Or.inr (Or.inr ⟨rfl, rfl⟩)))
  have k1 : hI (sI h1 32 13 (nI (m - 1))) 32 13 = nI (m - 1) := by rw [hI_sI, if_pos ⟨rfl, rfl⟩]
  have k2 : ∀ j, hI (sI h1 32 13 (nI (m - 1))) 41 j = if j = b 0 then -1 else hI h 41 j := fun j => by rw [hI_sI, if_neg (by omega)]; exact g2 j
  have k3 : hI (sI h1 32 13 (nI (m - 1))) 40 = hI h 40 := (Fr_row (Fr_sI (P := fun a _ => a = 32) _ _ _ _ rfl) (fun j => by simp)).trans g3
  generalize sI h1 32 13 (nI (m - 1)) = h2 at F2 k1 k2 k3 ⊢
  have H2 := Fr_SHP F2 H
  rw [k1]
  by_cases e : m = 1
  · subst e
    rw [if_pos (by decide)]
    refine ⟨h2, b, P, rfl, by rw [k2, if_pos rfl], k1, ⟨fun q hq => absurd hq (Nat.not_lt_zero _), fun i hi => ?_, fun q hq => absurd hq (Nat.not_lt_zero _), fun i hi => ?_⟩, fun q _ hq => absurd hq (Nat.not_lt_zero _), F2⟩
    · have := K.2.2.2 i hi.1
      exact absurd (by rw [← this.2, show P i = 0 by omega]) hi.2
    · have := K.2.2.2 i hi.1
      exact absurd (by rw [← this.2, show P i = 0 by omega]) hi.2
  · have hz : ¬ nI (m - 1) ≤ 0 := nI_nle (by omega) (by omega)
    rw [if_neg hz, pp_32_8 H2, bs, ll_40 H2, if_inI (by omega) (by omega), nI_clamp (by omega), k3, K.1 (m - 1) (by omega)]
    unfold f_X3_sink
    have hl : b (m - 1) ≠ b 0 := fun z => by have := inj _ _ (by omega) h0 z; omega
    have K2 : HH h2 (fu b 0 (b (m - 1))) (fu P (b (m - 1)) 0) (m - 1) (fun i => S i ∧ i ≠ b 0) 0 := by
      refine ⟨fun q hq hq0 => ?_, fun i hi hi2 => ?_, fun q hq => ?_, fun i hi => ?_⟩
      · rw [k3, fu_o _ _ hq0]; exact K.1 q (by omega)
      · rw [fu_s] at hi2
        rw [k2, if_neg hi.2, fu_o _ _ hi2]
        exact K.2.1 i hi.1
      · by_cases e0 : q = 0
        · subst e0
          rw [fu_s, fu_s]
          exact ⟨⟨Sb _ (by omega), hl⟩, rfl⟩
        · rw [fu_o _ _ e0, fu_o _ _ (fun z => by have := inj _ _ (by omega) (by omega) z; omega)]
          exact ⟨⟨Sb q (by omega), fun z => e0 (inj _ _ (by omega) h0 z)⟩, (K.2.2.1 q (by omega)).2⟩
      · obtain ⟨i1, i2⟩ := K.2.2.2 i hi.1
        by_cases ei : i = b (m - 1)
        · subst ei
          rw [fu_s, fu_s]
          exact ⟨by omega, rfl⟩
        · rw [fu_o _ _ ei]
          have hP0 : P i ≠ 0 := fun z => hi.2 (by rw [← i2, z])
          have hPm : P i ≠ m - 1 := fun z => ei (by rw [← i2, z])
          rw [fu_o _ _ hP0]
          exact ⟨by omega, i2⟩
    have SIi : SI c (fu b 0 (b (m - 1))) (m - 1) 0 := by
      refine ⟨fun q h0 hq hne => ?_, fun q _ _ _ h0 => by omega⟩
      rw [fu_o _ _ (by omega), fu_o _ _ hne]
      exact V q h0 (by omega)
    obtain ⟨h', b', P', a1, a2, a3, a4⟩ := c_sink_l (N := N) (m := m - 1) (c := c) (S := fun i => S i ∧ i ≠ b 0) (by omega) (fun i hi => hS i hi.1) N h2 (fu b 0 (b (m - 1))) (fu P (b (m - 1)) 0) 0 (by omega) (by omega) H2 k1 (fun i hi => by rw [F2.2.2.2 37 i (by unfold PH'; simp)]; exact hc i hi.1) K2 SIi
    rw [fu_s] at a1
    rw [show (2 * 0 + 1) = 1 from rfl] at a1
    rw [show f_X3_sink_4 N N h2 32 (nI (b (m - 1))) 0 1 = some h' from a1, bs]
    exact ⟨h', b', P', rfl, by rw [a4.2.2.2 41 (b 0) (by unfold PH; simp), k2, if_pos rfl], by rw [a4.2.2.2 32 13 (by unfold PH; simp)]; exact k1, a2, a3, Fr_trans F2 (PH_PH' (fun i hi => hi.1) a4)⟩
