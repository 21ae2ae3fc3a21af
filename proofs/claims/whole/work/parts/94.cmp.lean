/-! ===== texts: the reference reads a rule: comparisons ===== -/
def al2 (t : TY) (n s : Nat) : Bool := decide (s + 1 < n) && decide (t (s + 1) = 61)
theorem al2_c {t : TY} {n s c : Nat} (hs : s < n) (e : t s = nI c) (hc : c = 60 ∨ c = 62) : kd t n s = (if al2 t n s = true then (if c = 60 then 259 else 260) else nI c) ∧ bh t n s = (if al2 t n s = true then s + 2 else s + 1) := by
  have d : isD (t s) = false := by rw [e]; rcases hc with rfl | rfl <;> decide
  have l : isL (t s) = false := by rw [e]; rcases hc with rfl | rfl <;> decide
  have tw : two t n s = al2 t n s := by
    unfold two al2
    rw [e, show (decide (nI c = 60) || decide (nI c = 62)) = true by rcases hc with rfl | rfl <;> decide, Bool.and_true]
  have lo : t s &&& 255 = nI c := by rw [e]; rcases hc with rfl | rfl <;> decide
  have nn : ¬ n ≤ s := by omega
  have ff : ¬ (false = true) := by decide
  constructor
  · unfold kd
    rw [if_neg nn, d, l, tw, lo, if_neg ff, if_neg ff]
    by_cases a : al2 t n s = true
    · rw [if_pos a, if_pos a, e]
      rcases hc with rfl | rfl <;> decide
    · rw [if_neg a, if_neg a]
  · unfold bh
    rw [if_neg nn, d, l, tw, if_neg ff, if_neg ff]
theorem eq_c {t : TY} {n s : Nat} (hs : s < n) (e : t s = 61) : kd t n s = 61 ∧ bh t n s = s + 1 := by
  have k : kd t n s = nI 61 := (kd_sg (k := 61) (by decide) (by decide) (by decide) (by decide) (by decide)).mpr (by unfold sg; rw [if_neg (by omega), e]; decide)
  exact ⟨k, (bh_sg (k := 61) (by decide) k).2.1⟩
theorem kd_two {t : TY} {n s : Nat} (h : kd t n s = 259 ∨ kd t n s = 260) : s < n ∧ (t s = 60 ∨ t s = 62) := by
  have lt := sg_lt (t s)
  by_cases c : n ≤ s
  · exfalso
    rw [kd_end.mpr c] at h
    rcases h with h | h
    · exact absurd h (by decide)
    · exact absurd h (by decide)
  · refine ⟨by omega, ?_⟩
    by_cases w : two t n s = true
    · exact two_yes w
    · exfalso
      unfold kd at h
      rw [if_neg c] at h
      by_cases d : isD (t s) = true
      · rw [if_pos d] at h
        rcases h with h | h
        · exact absurd h (by decide)
        · exact absurd h (by decide)
      · rw [if_neg d] at h
        by_cases l : isL (t s) = true
        · rw [if_pos l] at h
          rcases h with h | h
          · exact absurd h (by decide)
          · exact absurd h (by decide)
        · rw [if_neg l, if_neg w] at h
          rcases h with h | h
          · exact lt.2.2.2.2.1 h
          · exact lt.2.2.2.2.2.1 h
theorem xP_no {t : TY} {n s : Nat} (h0 : ¬ sg t n s = 60) (h1 : ¬ sg t n s = 61) (h2 : ¬ sg t n s = 62) : xP t n (.inr s) = -1 := by
  have f : ∀ c, c < 128 → ¬ sg t n s = nI c → ¬ kd t n s = nI c := by
    intro c hc ns k
    obtain ⟨a1, a2, a3⟩ := bh_sg hc k
    exact ns (by unfold sg; rw [if_neg (by omega)]; exact a3)
  have g : ¬ (kd t n s = 259 ∨ kd t n s = 260) := by
    intro z
    obtain ⟨a1, a2⟩ := kd_two z
    rcases a2 with a2 | a2
    · exact h0 (by unfold sg; rw [if_neg (by omega), a2]; decide)
    · exact h2 (by unfold sg; rw [if_neg (by omega), a2]; decide)
  unfold xP
  show (if kd t n s = 60 then (100004 : Int32) else if kd t n s = 61 then 100006 else if kd t n s = 62 then 100008 else if kd t n s = 259 then 100005 else if kd t n s = 260 then 100007 else -1) = -1
  rw [if_neg (show ¬ kd t n s = 60 from f 60 (by decide) h0), if_neg (show ¬ kd t n s = 61 from f 61 (by decide) h1), if_neg (show ¬ kd t n s = 62 from f 62 (by decide) h2), if_neg (fun z => g (Or.inl z)), if_neg (fun z => g (Or.inr z))]
theorem v_c44 {N n r gl k s : Nat} {t : TY} {h : Hp} {cb cs : List Int32} {ct v1 : Int32} (M : MR t n r gl cb k h s cs ct) (hs : s < n) : ∃ h', f_X8_compare_44 N h 51 v1 (nI s) = f_X8_compare_105 N h' 51 v1 (nI s) (if v1 = 61 then 0 else b2i (al2 t n s)) ∧ MR t n r gl cb (k + 1) h' (if v1 = 61 then s + 1 else if al2 t n s = true then s + 2 else s + 1) cs ct ∧ Fr (PVr r gl) h h' := by
  have T := M.1
  have hn4 := T.2.2.1
  unfold f_X8_compare_44
  rw [lts, T.2.2.2.2.2, nI_1]
  obtain ⟨T1, F1⟩ := TM_set (q := s + 1) (by omega) T
  generalize sI h 51 14 (nI (s + 1)) = h1 at T1 F1 ⊢
  have M1 : MR t n r gl cb (k + 1) h1 (s + 1) cs ct := MR_k (MR_PE F1 T1 (by omega) M) (by have := M.2.2.2.2.2; omega)
  have fin : f_X8_compare_89 N h1 51 v1 (nI s) = f_X8_compare_105 N h1 51 v1 (nI s) 0 := by
    unfold f_X8_compare_89 f_X8_compare_90
    rw [if_pos rfl]
  by_cases e : v1 = 61
  · rw [if_pos e, if_pos e, if_pos e, fin]
    exact ⟨h1, rfl, M1, PE_V F1⟩
  · rw [if_neg e, if_neg e, if_neg e, T1.2.2.2.2.2, T1.2.1]
    unfold al2
    by_cases l : s + 1 < n
    · rw [if_neg (nI_ge l (by omega)), pp_51_0 T1.1, bs, ll_52 T1.1, if_inI (by omega) (by omega), nI_clamp (by omega), T1.2.2.2.1 (s + 1) l, decide_eq_true l, Bool.true_and]
      by_cases q : t (s + 1) = 61
      · rw [if_pos q, decide_eq_true q, if_pos rfl]
        unfold f_X8_compare_90
        rw [if_neg (show ¬ (1 : Int32) = 0 by decide), lts, T1.2.2.2.2.2, nI_1]
        obtain ⟨T2, F2⟩ := TM_set (q := s + 2) (by omega) T1
        exact ⟨_, rfl, MR_PE F2 T2 (by omega) M1, Fr_trans (PE_V F1) (PE_V F2)⟩
      · rw [if_neg q, decide_eq_false q, if_neg (show ¬ (false = true) by decide), fin]
        exact ⟨h1, rfl, M1, PE_V F1⟩
    · rw [if_pos (nI_le (by omega) (by omega)), decide_eq_false l, Bool.false_and, if_neg (show ¬ (false = true) by decide), fin]
      exact ⟨h1, rfl, M1, PE_V F1⟩
theorem v_c105 {N n r gl k p s q : Nat} {t : TY} {h : Hp} {cb cs : List Int32} {ct cd v1 v3 : Int32} (hN : 5000 ≤ N) (hB : BY t n) (hs : s ≤ n) (hps : s ≤ p) (hnt : nt t n s = skp t n p) (M : MR t n r gl cb (k + 1) h p cs ct) (hsel : ∀ h6, (if v1 = (60 : Int32) then (if v3 = 0 then (f_X8_compare_152 N h6 51 (0 : Int32)) else (f_X8_compare_152 N h6 51 (1 : Int32))) else (if v1 = (61 : Int32) then (f_X8_compare_152 N h6 51 (2 : Int32)) else (if v3 = 0 then (f_X8_compare_152 N h6 51 (4 : Int32)) else (f_X8_compare_152 N h6 51 (3 : Int32))))) = f_X8_compare_152 N h6 51 (nI q)) (hc : sgC cd (6 + nI q + 16 * 0)) : ∃ v h', f_X8_compare_105 N h 51 v1 (nI s) v3 = some (v, h') ∧ Fr (PVr r gl) h h' ∧ RO t n r gl cb k (s + 1) h' v (yE cd (ySum t n (yA t n (yC (.inr s, cs, ct))))) := by
  have hn4 := M.1.2.2.1
  unfold f_X8_compare_105
  obtain ⟨h3, F3, Z⟩ := v_makes (q := s) M
  rcases Z with ⟨l60, z1, z2⟩ | ⟨l60, z1, z2⟩
  · rw [z1, b2s, if_neg (show ¬ (1 : Int32) = 0 by decide), hsel]
    unfold f_X8_compare_152
    rw [yC_r l60, show yA t n (.inr s, cs, ct + 1) = (.inr (skp t n p), cs, ct + 1) by show (Sum.inr (nt t n s), _) = _; rw [hnt]]
    obtain ⟨v, h4, a1, a2, a3⟩ := v_sum hN hB z2
    rw [a1, b2s]
    rcases a3 with ⟨fl, d1, d2, d3, d4⟩ | ⟨p', cs', ct', d1, d2, d3, d4⟩
    · rw [d3, if_pos rfl]
      exact ⟨0, h4, rfl, Fr_trans (PK_V F3) a2, Or.inl ⟨fl, by rw [yE_1]; exact d1, d2, rfl, d4⟩⟩
    · obtain ⟨h5, u1, u2, u3⟩ := v_puts (c := cd) (s := 6 + nI q) (v := 0) d4 hc
      have hp' := d4.1.2.2.2.2.1
      have hb' := d4.2.2.2.2.2
      rw [d2, if_neg (show ¬ (1 : Int32) = 0 by decide), u1, bs, d1, yE_r (by omega)]
      exact ⟨1, h5, rfl, Fr_trans (PK_V F3) (Fr_trans a2 (PU_V u3)), Or.inr ⟨p', cs' ++ [cd], ct', rfl, rfl, by omega, u2⟩⟩
  · rw [z1, b2s, if_pos rfl]
    have hf : flt s (nI 3) ≠ 0 := flt_ne (by omega) (by decide)
    refine ⟨0, h3, rfl, PK_V F3, Or.inl ⟨flt s (nI 3), ?_, hf, rfl, z2⟩⟩
    rw [yE_1, yA_l (yC_l l60), ySum_l (yC_l l60) hf]
    exact yC_l l60
theorem v_cmp {N n r gl k p : Nat} {t : TY} {h : Hp} {cb cs : List Int32} {ct : Int32} (hN : 5000 ≤ N) (hB : BY t n) (M : MR t n r gl cb k h p cs ct) : ∃ v h', f_X8_compare N h 51 = some (v, h') ∧ Fr (PVr r gl) h h' ∧ RO t n r gl cb k (p + 1) h' v (yCmp t n (.inr (skp t n p), cs, ct)) := by
  obtain ⟨v, h1, a1, a2, a3⟩ := v_sum hN hB M
  unfold f_X8_compare yCmp
  rw [a1, b2s]
  rcases a3 with ⟨fl, d1, d2, d3, d4⟩ | ⟨p1, cs1, ct1, d1, d2, d3, d4⟩
  · rw [d3, if_pos rfl]
    exact ⟨0, h1, rfl, a2, Or.inl ⟨fl, by rw [yE_1, yP_l d1, ySum_l d1 d2]; exact d1, d2, rfl, d4⟩⟩
  · rw [d2, if_neg (show ¬ (1 : Int32) = 0 by decide), d1]
    obtain ⟨h2, i1, i2, i3⟩ := m_see hN d4.1
    have hps : p1 ≤ skp t n p1 := sc_ge _ _ _
    have M2 := MR_PE i3 i2 hps d4
    generalize skp t n p1 = s at i1 i2 hps M2 ⊢
    have T2 := M2.1
    have hn4 := T2.2.2.1
    have hsn := T2.2.2.2.2.1
    rw [i1, b2s, T2.2.2.2.2.2]
    show ∃ v h', _ ∧ _ ∧ RO t n r gl cb k (p + 1) h' v (yE (xP t n (.inr s)) (ySum t n (yP t n (.inr s, cs1, ct1))))
    have yp : ∀ c, xP t n (.inr s) = c → c ≠ -1 → yP t n (.inr s, cs1, ct1) = yA t n (yC (.inr s, cs1, ct1)) := by
      intro c e ne
      unfold yP
      rw [if_neg (show ¬ xP t n (Sum.inr s, cs1, ct1).1 = -1 by show ¬ xP t n (.inr s) = -1; rw [e]; exact ne)]
    -- one sign, read
    have go : ∀ (c q : Nat) (cd : Int32), sg t n s = nI c → c < 128 → (if nI c = 61 then s + 1 else if al2 t n s = true then s + 2 else s + 1) = bh t n s → (∀ h6, (if nI c = (60 : Int32) then (if (if nI c = 61 then (0 : Int32) else b2i (al2 t n s)) = 0 then (f_X8_compare_152 N h6 51 (0 : Int32)) else (f_X8_compare_152 N h6 51 (1 : Int32))) else (if nI c = (61 : Int32) then (f_X8_compare_152 N h6 51 (2 : Int32)) else (if (if nI c = 61 then (0 : Int32) else b2i (al2 t n s)) = 0 then (f_X8_compare_152 N h6 51 (4 : Int32)) else (f_X8_compare_152 N h6 51 (3 : Int32))))) = f_X8_compare_152 N h6 51 (nI q)) → xP t n (.inr s) = cd → cd ≠ -1 → sgC cd (6 + nI q + 16 * 0) → ∃ v h', f_X8_compare_44 N h2 51 (sg t n s) (nI s) = some (v, h') ∧ Fr (PVr r gl) h h' ∧ RO t n r gl cb k (p + 1) h' v (yE (xP t n (.inr s)) (ySum t n (yP t n (.inr s, cs1, ct1)))) := by
      intro c q cd es c8 hb hsel xp ne hc
      obtain ⟨s1, -⟩ := sg_in es c8
      rw [es, yp cd xp ne, xp]
      obtain ⟨h3, b1, b2', b3⟩ := v_c44 (N := N) (v1 := nI c) M2 s1
      rw [b1]
      rw [hb] at b2'
      have gt := bh_gt (t := t) s1
      obtain ⟨v, h4, e1, e2, e3⟩ := v_c105 (s := s) (q := q) (cd := cd) hN hB (by omega) (by omega) rfl b2' hsel hc
      refine ⟨v, h4, e1, Fr_trans a2 (Fr_trans (PE_V i3) (Fr_trans b3 e2)), ?_⟩
      rcases e3 with e | ⟨p3, cs3, ct3, e1, e2, e3, e4⟩
      · exact Or.inl e
      · exact Or.inr ⟨p3, cs3, ct3, e1, e2, by omega, e4⟩
    have xpd : xP t n (.inr s) = (if kd t n s = 60 then (100004 : Int32) else if kd t n s = 61 then 100006 else if kd t n s = 62 then 100008 else if kd t n s = 259 then 100005 else if kd t n s = 260 then 100007 else -1) := rfl
    have ops : ∀ k, 2 ≤ k → k ≤ 13 → ∀ c g, c = nI (opc k) → g = nI (k + 16 * 0) → sgC c g := fun k h1 h2 c g e1 e2 => Or.inr (Or.inr ⟨k, h1, h2, e1, e2⟩)
    by_cases c60 : sg t n s = 60
    · rw [if_pos c60]
      obtain ⟨s1, s2⟩ := sg_in (k := 60) c60 (by decide)
      obtain ⟨k1, k2⟩ := al2_c (c := 60) s1 (byte_eq (hB s s1) (by decide) s2) (Or.inl rfl)
      by_cases a : al2 t n s = true
      · rw [if_pos a, if_pos rfl] at k1
        refine go 60 1 100005 c60 (by decide) (by rw [if_neg (by decide), k2]) (fun h6 => ?_) (by rw [xpd, k1]; decide) (by decide) (ops 7 (by decide) (by decide) _ _ (by decide) (by decide))
        rw [a, if_pos (show nI 60 = 60 from rfl), if_neg (show ¬ (if nI 60 = 61 then (0 : Int32) else b2i true) = 0 by decide)]
        rfl
      · rw [if_neg a] at k1
        refine go 60 0 100004 c60 (by decide) (by rw [if_neg (by decide), k2]) (fun h6 => ?_) (by rw [xpd, k1]; decide) (by decide) (ops 6 (by decide) (by decide) _ _ (by decide) (by decide))
        rw [Bool.eq_false_iff.mpr a, if_pos (show nI 60 = 60 from rfl), if_pos (show (if nI 60 = 61 then (0 : Int32) else b2i false) = 0 by decide)]
        rfl
    rw [if_neg c60]
    by_cases c61 : sg t n s = 61
    · rw [if_pos c61]
      obtain ⟨s1, s2⟩ := sg_in (k := 61) c61 (by decide)
      obtain ⟨k1, k2⟩ := eq_c s1 (byte_eq (k := 61) (hB s s1) (by decide) s2)
      refine go 61 2 100006 c61 (by decide) (by rw [if_pos (show nI 61 = 61 from rfl), k2]) (fun h6 => ?_) (by rw [xpd, k1]; decide) (by decide) (ops 8 (by decide) (by decide) _ _ (by decide) (by decide))
      rw [if_neg (show ¬ nI 61 = 60 by decide), if_pos (show nI 61 = 61 from rfl)]
      rfl
    rw [if_neg c61]
    by_cases c62 : sg t n s = 62
    · rw [if_pos c62]
      obtain ⟨s1, s2⟩ := sg_in (k := 62) c62 (by decide)
      obtain ⟨k1, k2⟩ := al2_c (c := 62) s1 (byte_eq (hB s s1) (by decide) s2) (Or.inr rfl)
      by_cases a : al2 t n s = true
      · rw [if_pos a, if_neg (by decide)] at k1
        refine go 62 3 100007 c62 (by decide) (by rw [if_neg (by decide), k2]) (fun h6 => ?_) (by rw [xpd, k1]; decide) (by decide) (ops 9 (by decide) (by decide) _ _ (by decide) (by decide))
        rw [a, if_neg (show ¬ nI 62 = 60 by decide), if_neg (show ¬ nI 62 = 61 by decide), if_neg (show ¬ (if nI 62 = 61 then (0 : Int32) else b2i true) = 0 by decide)]
        rfl
      · rw [if_neg a] at k1
        refine go 62 4 100008 c62 (by decide) (by rw [if_neg (by decide), k2]) (fun h6 => ?_) (by rw [xpd, k1]; decide) (by decide) (ops 10 (by decide) (by decide) _ _ (by decide) (by decide))
        rw [Bool.eq_false_iff.mpr a, if_neg (show ¬ nI 62 = 60 by decide), if_neg (show ¬ nI 62 = 61 by decide), if_pos (show (if nI 62 = 61 then (0 : Int32) else b2i false) = 0 by decide)]
        rfl
    rw [if_neg c62]
    have xm := xP_no c60 c61 c62
    obtain ⟨h3, j1, j2, j3⟩ := m_fails M2.2.1 0 s
    rw [j1, b2s, if_pos (Or.inl rfl)]
    have hf : flt s (nI 0) ≠ 0 := flt_ne (by omega) (by decide)
    have e1 : (yP t n (.inr s, cs1, ct1)).1 = .inl (flt s (nI 0)) := by
      unfold yP
      rw [if_pos (show xP t n (Sum.inr s, cs1, ct1).1 = -1 from xm)]
      rfl
    exact ⟨0, h3, rfl, Fr_trans a2 (Fr_trans (PE_V i3) (PF_V j3)), Or.inl ⟨flt s (nI 0), by rw [yE_1, ySum_l e1 hf]; exact e1, hf, rfl, j2⟩⟩
