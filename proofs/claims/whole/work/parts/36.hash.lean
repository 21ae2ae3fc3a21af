/-! ===== slots found by what a situation is ===== -/
def Fq (P : Nat → Nat → Prop) (h h' : Hp) : Prop := hN h' = hN h ∧ hP h' = hP h ∧ hL h' = hL h ∧ ∀ a j, ¬ P a j → hI h' a j = hI h a j
theorem Fr_q {P : Nat → Nat → Prop} {a b : Hp} (h : Fr P a b) : Fq P a b := ⟨h.1.1, h.2⟩
theorem Fq_refl {P : Nat → Nat → Prop} (h : Hp) : Fq P h h := ⟨rfl, rfl, rfl, fun _ _ _ => rfl⟩
theorem Fq_trans {P : Nat → Nat → Prop} {a b c : Hp} (h1 : Fq P a b) (h2 : Fq P b c) : Fq P a c := ⟨h2.1.trans h1.1, h2.2.1.trans h1.2.1, h2.2.2.1.trans h1.2.2.1, fun x j hx => (h2.2.2.2 x j hx).trans (h1.2.2.2 x j hx)⟩
theorem Fq_mono {P Q : Nat → Nat → Prop} {a b : Hp} (h1 : Fq P a b) (hq : ∀ x j, P x j → Q x j) : Fq Q a b := ⟨h1.1, h1.2.1, h1.2.2.1, fun x j hx => h1.2.2.2 x j (fun z => hx (hq x j z))⟩
theorem Fq_row {P : Nat → Nat → Prop} {a b : Hp} (h1 : Fq P a b) {x : Nat} (hx : ∀ j, ¬ P x j) : hI b x = hI a x := funext fun j => h1.2.2.2 x j (hx j)
theorem Fq_sI {P : Nat → Nat → Prop} (h : Hp) (v k : Nat) (x : Int32) (hv : P v k) : Fq P h (sI h v k x) := Fr_q (Fr_sI h v k x hv)
theorem Fq_sJ {P : Nat → Nat → Prop} (h : Hp) (v k : Nat) (x : Int64) : Fq P h (sJ h v k x) := ⟨rfl, rfl, rfl, fun _ _ _ => rfl⟩
theorem Fq_SHP {P : Nat → Nat → Prop} {a b : Hp} (h1 : Fq P a b) (H : SHP a) : SHP b := by
  unfold SHP
  rw [h1.1, h1.2.1, h1.2.2.1]
  exact H
theorem Fq_Ac {P : Nat → Nat → Prop} {a b : Hp} (h1 : Fq P a b) {s : Nat} {α : SA} (hs : ∀ x j, s ≤ x → x ≤ s + 10 → ¬ P x j) (H : Ac a s α) : Ac b s α := by
  refine ⟨?_, fun k i hk hi => (h1.2.2.2 _ _ (hs _ _ (by omega) (by omega))).trans (H.2 k i hk hi)⟩
  unfold isSt
  rw [h1.2.1, h1.2.2.1]
  exact H.1
theorem Rc_Fq {P : Nat → Nat → Prop} {a b : Hp} (F : Fq P a b) {N : Nat} {v : Option Nat} {rl : RLT} (hv : ∀ q j, v = some q → ¬ P (q + 1) j) (H : Rc N a v rl) : Rc N b v rl := by
  cases v with
  | none => exact H
  | some q =>
    refine ⟨?_, fun h' w r l e j => H.2 h' w r (by rw [l, F.2.2.1]) (by rw [e, Fq_row F (fun j => hv q j rfl)]) j⟩
    unfold RP
    rw [F.2.1, F.2.2.1]
    exact H.1
def cz (sl : Nat → Nat) : Nat → Nat
  | 0 => 0
  | n + 1 => cz sl n + (if sl n = 0 then 0 else 1)
theorem cz_full {sl : Nat → Nat} : ∀ n, (∀ p, p < n → sl p ≠ 0) → cz sl n = n
  | 0, _ => rfl
  | n + 1, h => by
    show cz sl n + _ = _
    rw [cz_full n (fun p hp => h p (by omega)), if_neg (h n (by omega))]
theorem cz_le {sl : Nat → Nat} : ∀ n, cz sl n ≤ n
  | 0 => Nat.le_refl _
  | n + 1 => by
    show cz sl n + _ ≤ _
    have := cz_le (sl := sl) n
    split <;> omega
theorem cz_cong {sl sm : Nat → Nat} : ∀ n, (∀ p, p < n → sl p = sm p) → cz sl n = cz sm n
  | 0, _ => rfl
  | n + 1, h => by
    show cz sl n + _ = cz sm n + _
    rw [cz_cong n (fun p hp => h p (by omega)), h n (by omega)]
theorem cz_fu {sl : Nat → Nat} {p v : Nat} (h0 : sl p = 0) (hv : v ≠ 0) : ∀ n, p < n → cz (fu sl p v) n = cz sl n + 1
  | n + 1, hp => by
    show cz _ n + _ = cz sl n + _ + 1
    by_cases e : p = n
    · subst e
      rw [fu_s, if_neg hv, if_pos h0, cz_cong (sm := sl) p (fun q hq => fu_o _ _ (by omega))]
    · rw [cz_fu h0 hv n (by omega), fu_o _ _ (by omega)]
      omega
def HI (sl hs : Nat → Nat) (n : Nat) : Prop := cz sl 4096 = n ∧ (∀ p, p < 4096 → sl p ≤ n) ∧ ∀ i, i < n → ∃ d, d < 4096 ∧ sl ((hs i + d) % 4096) = i + 1 ∧ ∀ e, e < d → sl ((hs i + e) % 4096) ≠ 0
theorem least_ex {Q : Nat → Prop} : ∀ n, (∃ d, d < n ∧ Q d) → ∃ d, d < n ∧ Q d ∧ ∀ e, e < d → ¬ Q e
  | 0, h => by obtain ⟨d, hd, _⟩ := h; omega
  | n + 1, h => by
    by_cases e : ∃ d, d < n ∧ Q d
    · obtain ⟨d, h1, h2, h3⟩ := least_ex n e
      exact ⟨d, by omega, h2, h3⟩
    · obtain ⟨d, h1, h2⟩ := h
      have : d = n := by
        by_cases hd : d < n
        · exact absurd ⟨d, hd, h2⟩ e
        · omega
      subst this
      exact ⟨d, by omega, h2, fun e' he' hq => e ⟨e', he', hq⟩⟩
theorem prb {sl hs : Nat → Nat} {n : Nat} (H : HI sl hs n) (hn : n ≤ 1500) (mt : Nat → Prop) {p0 : Nat} (hp : p0 < 4096) : ∃ d, d < 4096 ∧ (∀ e, e < d → sl ((p0 + e) % 4096) ≠ 0 ∧ ¬ mt (sl ((p0 + e) % 4096) - 1)) ∧ (sl ((p0 + d) % 4096) = 0 ∨ mt (sl ((p0 + d) % 4096) - 1)) := by
  have hz : ∃ p, p < 4096 ∧ sl p = 0 := by
    by_cases e : ∃ p, p < 4096 ∧ sl p = 0
    · exact e
    · have := cz_full (sl := sl) 4096 (fun p hp hz => e ⟨p, hp, hz⟩)
      have := H.1
      omega
  obtain ⟨p, hp2, hz2⟩ := hz
  have : ∃ d, d < 4096 ∧ (sl ((p0 + d) % 4096) = 0 ∨ mt (sl ((p0 + d) % 4096) - 1)) := by
    refine ⟨(p + 4096 - p0) % 4096, Nat.mod_lt _ (by decide), Or.inl ?_⟩
    rw [show (p0 + (p + 4096 - p0) % 4096) % 4096 = p by omega]
    exact hz2
  obtain ⟨d, h1, h2, h3⟩ := least_ex _ this
  exact ⟨d, h1, fun e he => ⟨fun z => h3 e he (Or.inl z), fun z => h3 e he (Or.inr z)⟩, h2⟩
theorem prb_0 {sl hs : Nat → Nat} {n : Nat} (H : HI sl hs n) {mt : Nat → Prop} {p0 d : Nat} (hd : ∀ e, e < d → sl ((p0 + e) % 4096) ≠ 0 ∧ ¬ mt (sl ((p0 + e) % 4096) - 1)) (h0 : sl ((p0 + d) % 4096) = 0) (hh : ∀ i, i < n → mt i → hs i = p0) : ∀ i, i < n → ¬ mt i := by
  intro i hi hm
  obtain ⟨d', h1, h2, h3⟩ := H.2.2 i hi
  rw [hh i hi hm] at h2 h3
  by_cases e : d' < d
  · have := (hd d' e).2
    rw [h2, Nat.add_sub_cancel] at this
    exact this hm
  · by_cases e2 : d' = d
    · subst e2; omega
    · exact h3 d (by omega) h0
theorem HI_add {sl hs : Nat → Nat} {n : Nat} (H : HI sl hs n) {p0 d : Nat} (hd0 : d < 4096) (hd : ∀ e, e < d → sl ((p0 + e) % 4096) ≠ 0) (h0 : sl ((p0 + d) % 4096) = 0) : HI (fu sl ((p0 + d) % 4096) (n + 1)) (fu hs n p0) (n + 1) := by
  have hp : (p0 + d) % 4096 < 4096 := Nat.mod_lt _ (by decide)
  have nz : ∀ q, sl q ≠ 0 → fu sl ((p0 + d) % 4096) (n + 1) q ≠ 0 := fun q hq => by
    by_cases e : q = (p0 + d) % 4096
    · rw [e, fu_s]; omega
    · rw [fu_o _ _ e]; exact hq
  refine ⟨by rw [cz_fu h0 (by omega) 4096 hp, H.1], fun p hp2 => ?_, fun i hi => ?_⟩
  · by_cases e : p = (p0 + d) % 4096
    · rw [e, fu_s]; exact Nat.le_refl _
    · rw [fu_o _ _ e]; exact Nat.le_succ_of_le (H.2.1 p hp2)
  · by_cases e : i = n
    · subst e
      rw [fu_s]
      exact ⟨d, hd0, by rw [fu_s], fun e he => nz _ (hd e he)⟩
    · rw [fu_o _ _ e]
      obtain ⟨d', h1, h2, h3⟩ := H.2.2 i (by omega)
      refine ⟨d', h1, ?_, fun e he => nz _ (h3 e he)⟩
      rw [fu_o _ _ (fun z => by rw [z, h0] at h2; omega)]
      exact h2
theorem HI_hs {sl hs ht : Nat → Nat} {n : Nat} (H : HI sl hs n) (e : ∀ i, i < n → ht i = hs i) : HI sl ht n := ⟨H.1, H.2.1, fun i hi => by rw [e i hi]; exact H.2.2 i hi⟩
theorem HI_nil : HI (fun _ => 0) (fun _ => 0) 0 := by
  refine ⟨?_, fun p _ => Nat.le_refl _, fun i hi => absurd hi (Nat.not_lt_zero _)⟩
  have : ∀ n, cz (fun _ => 0) n = 0 := fun n => by
    induction n with
    | zero => rfl
    | succ n ih => show cz _ n + 0 = 0; rw [ih]
  exact this _
/-! ===== the class's slots ===== -/
def hxC (u l p : Nat) : Int32 := (((((((lN u) * (31 : Int64)) + (lN l)) * (31 : Int64)) + ((nI p).toInt64)) * (-7046029254386353131 : Int64)).toUInt64 >>> ((52 : Int32).toInt64.toUInt64 &&& Int64.toUInt64 63)).toInt64.toInt32
def hsC (β : SA) : Nat := (hxC (pkW β 0) (pkW β 4) (pkP β)).toNatClampNeg
theorem hsC_e (β : SA) : hxC (pkW β 0) (pkW β 4) (pkP β) = nI (hsC β) ∧ hsC β < 4096 := by
  obtain ⟨n, hn, e⟩ := top12 ((((((lN (pkW β 0)) * (31 : Int64)) + (lN (pkW β 4))) * (31 : Int64)) + ((nI (pkP β)).toInt64)) * (-7046029254386353131 : Int64))
  have e' : hxC (pkW β 0) (pkW β 4) (pkP β) = nI n := e
  unfold hsC
  rw [e', nI_clamp (by omega)]
  exact ⟨rfl, hn⟩
/-- what the class's rows of situations say -/
def Sit (h : Hp) (st : Nat → SA) (n : Nat) : Prop := ∀ i, i < n → hI h 34 i = nI (pkP (st i)) ∧ hJ h 35 i = lN (pkW (st i) 0) ∧ hJ h 36 i = lN (pkW (st i) 4)
theorem c_slot_l {h : Hp} {N n : Nat} {α γ : SA} {st : Nat → SA} {sl : Nat → Nat} (H : SHP h) (hn : n ≤ 1500) (hst : ∀ i, i < n → Ok (st i) ∧ Irr α (st i)) (hγ : Ok γ ∧ Irr α γ) (S : Sit h st n) (L : ∀ p, p < 4096 → hI h 42 p = nI (sl p) ∧ sl p ≤ n) {p0 d : Nat} (hd0 : d < 4096) (hd : ∀ e, e < d → sl ((p0 + e) % 4096) ≠ 0 ∧ ¬ sameB γ (st (sl ((p0 + e) % 4096) - 1))) (hz : sl ((p0 + d) % 4096) = 0 ∨ sameB γ (st (sl ((p0 + d) % 4096) - 1))) : ∀ (m e f : Nat), e + m = d → m < f → f_X3_slotOfTrial_59 N f h 32 (nI (pkP γ)) (lN (pkW γ 0)) (lN (pkW γ 4)) (nI ((p0 + e) % 4096)) (nI e) = some (nI ((p0 + d) % 4096)) := by
  intro m
  induction m with
  | zero =>
    intro e f he hf
    obtain rfl : e = d := by omega
    obtain ⟨f, rfl⟩ : ∃ k, f = k + 1 := ⟨f - 1, by omega⟩
    have hp : (p0 + e) % 4096 < 4096 := Nat.mod_lt _ (by decide)
    rw [f_X3_slotOfTrial_59, if_neg (show ¬ (4096 : Int32) ≤ nI e from nI_ge (b := 4096) (by omega) (by decide)), pp_32_10 H, bs, ll_42 H, if_inI hp (by omega), nI_clamp (by omega), (L _ hp).1]
    by_cases h0 : sl ((p0 + e) % 4096) = 0
    · rw [h0, if_pos (show nI 0 = 0 from rfl)]
    · have hs := hz.resolve_left h0
      have hl := (L _ hp).2
      have hi : sl ((p0 + e) % 4096) - 1 < n := by omega
      have pk := (pk_same hγ.2 (hst _ hi).2 hγ.1 (hst _ hi).1).mp hs
      obtain ⟨s1, s2, s3⟩ := S _ hi
      rw [if_neg (nI_ne0 (by omega) (by omega)), bs, ll_42 H, if_pos ⟨nI_pos' (by omega), hp⟩, lts, (L _ hp).1, n_1, pk_sub (by omega), pp_32_2 H, bs, ll_34 H, if_inI (by omega) (by omega), nI_clamp (by omega), s1, pk.1, if_pos rfl, pp_32_3 H, bs, ll_35 H, if_pos ⟨nI_pos' (by omega), by omega⟩, s2, pk.2.1, if_pos ((lg_cmp_eq _ _).mpr rfl), pp_32_4 H, bs, ll_36 H, if_pos ⟨nI_pos' (by omega), by omega⟩, s3, pk.2.2, if_pos ((lg_cmp_eq _ _).mpr rfl)]
  | succ m ih =>
    intro e f he hf
    obtain ⟨f, rfl⟩ : ∃ k, f = k + 1 := ⟨f - 1, by omega⟩
    have hp : (p0 + e) % 4096 < 4096 := Nat.mod_lt _ (by decide)
    obtain ⟨d1, d2⟩ := hd e (by omega)
    have hl := (L _ hp).2
    have hi : sl ((p0 + e) % 4096) - 1 < n := by omega
    obtain ⟨s1, s2, s3⟩ := S _ hi
    have go : f_X3_slotOfTrial_127 N (f_X3_slotOfTrial_59 N f) h 32 (nI (pkP γ)) (lN (pkW γ 0)) (lN (pkW γ 4)) (nI ((p0 + e) % 4096)) (nI e) = some (nI ((p0 + d) % 4096)) := by
      unfold f_X3_slotOfTrial_127
      rw [lts, nI_1, nI_1, show (4096 : Int32) = nI 4096 from rfl, pk_rem (by omega) (by decide) (by decide), show ((p0 + e) % 4096 + 1) % 4096 = (p0 + (e + 1)) % 4096 by omega]
      exact ih (e + 1) f (by omega) (by omega)
    rw [f_X3_slotOfTrial_59, if_neg (show ¬ (4096 : Int32) ≤ nI e from nI_ge (b := 4096) (by omega) (by decide)), pp_32_10 H, bs, ll_42 H, if_inI hp (by omega), nI_clamp (by omega), (L _ hp).1, if_neg (nI_ne0 (by omega) (by omega)), bs, ll_42 H, if_pos ⟨nI_pos' (by omega), hp⟩, lts, (L _ hp).1, show nI (sl ((p0 + e) % 4096)) - 1 = nI (sl ((p0 + e) % 4096) - 1) by rw [n_1, pk_sub (by omega)], pp_32_2 H, bs, ll_34 H, if_inI (by omega) (by omega), nI_clamp (by omega), s1]
    have w1 := pkW_lt hγ.1.2.2.2.2
    have w2 := pkW_lt (hst _ hi).1.2.2.2.2
    have p1 := pkP_lt hγ.1.1 hγ.1.2.1
    have p2 := pkP_lt (hst _ hi).1.1 (hst _ hi).1.2.1
    by_cases e1 : pkP (st (sl ((p0 + e) % 4096) - 1)) = pkP γ
    · rw [if_pos (by rw [e1]), pp_32_3 H, bs, ll_35 H, if_pos ⟨nI_pos' (by omega), by omega⟩, s2]
      by_cases e2 : pkW (st (sl ((p0 + e) % 4096) - 1)) 0 = pkW γ 0
      · rw [if_pos ((lg_cmp_eq _ _).mpr (by rw [e2])), pp_32_4 H, bs, ll_36 H, if_pos ⟨nI_pos' (by omega), by omega⟩, s3]
        rw [if_neg (fun z => d2 ((pk_same hγ.2 (hst _ hi).2 hγ.1 (hst _ hi).1).mpr ⟨e1.symm, e2.symm, (pk_lEQ (w1 4) (w2 4)).mp ((lg_cmp_eq _ _).mp z).symm⟩))]
        exact go
      · rw [if_neg (fun z => e2 ((pk_lEQ (w2 0) (w1 0)).mp ((lg_cmp_eq _ _).mp z)))]
        exact go
    · rw [if_neg (fun z => e1 ((nI_eq (by omega) (by omega)).mp z))]
      exact go
theorem c_slot {h : Hp} {N n : Nat} {α γ : SA} {st : Nat → SA} {sl : Nat → Nat} (H : SHP h) (hN : 5000 ≤ N) (A : Ac h 15 γ) (hn : n ≤ 1500) (hst : ∀ i, i < n → Ok (st i) ∧ Irr α (st i)) (hγ : Ok γ) {γ' : SA} (hγ' : Ok γ' ∧ Irr α γ') (e5 : γ' 5 = γ 5) (e1 : γ' 1 = γ 1) (e0 : ∀ j, j = 0 ∨ j = 1 → γ' 0 j = γ 0 j) (S : Sit h st n) (L : ∀ p, p < 4096 → hI h 42 p = nI (sl p) ∧ sl p ≤ n) {d : Nat} (hd0 : d < 4096) (hd : ∀ e, e < d → sl ((hsC γ' + e) % 4096) ≠ 0 ∧ ¬ sameB γ' (st (sl ((hsC γ' + e) % 4096) - 1))) (hz : sl ((hsC γ' + d) % 4096) = 0 ∨ sameB γ' (st (sl ((hsC γ' + d) % 4096) - 1))) : f_X3_slotOfTrial N h 32 = some (nI ((hsC γ' + d) % 4096)) := by
  have eb : bgs γ' = bgs γ := bgs_of (e0 1 (by simp))
  have el : lvl γ' = lvl γ := lvl_of (e0 0 (by simp))
  have ep : pkP γ' = pkP γ := by unfold pkP pv; rw [eb, e5]
  have ew : ∀ f, pkW γ' f = pkW γ f := fun f => by unfold pkW wl4 wv; rw [el, e1]
  unfold f_X3_slotOfTrial
  rw [pp_32_0 H, bs, c_pkP A hγ.1 hγ.2.1 (by omega), bs, bs, show (0 : Int32) = nI 0 from rfl, c_pkW A hγ.1 hγ.2.2.2.2 (by omega) (by decide), bs, bs, show (4 : Int32) = nI 4 from rfl, c_pkW A hγ.1 hγ.2.2.2.2 (by omega) (by decide), bs, lts, lts, ← ep, ← ew, ← ew]
  have e := hsC_e γ'
  rw [show (((((((lN (pkW γ' 0)) * (31 : Int64)) + (lN (pkW γ' 4))) * (31 : Int64)) + ((nI (pkP γ')).toInt64)) * (-7046029254386353131 : Int64)).toUInt64 >>> ((52 : Int32).toInt64.toUInt64 &&& Int64.toUInt64 63)).toInt64.toInt32 = nI (hsC γ') from e.1]
  have := c_slot_l (N := N) H hn hst hγ' S L (p0 := hsC γ') hd0 hd hz d 0 N (by omega) (by omega)
  rw [Nat.add_zero, Nat.mod_eq_of_lt e.2] at this
  exact this
