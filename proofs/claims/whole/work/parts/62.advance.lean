/-! ===== texts: the class goes from sign to sign ===== -/
def sR (a b : Int32) (t : TY) (n q : Nat) : Nat := sc (fun i => inR a b (t i)) n q
theorem c_h60 {N s e : Nat} {h : Hp} (hs : s < 1000) (he : e < 1000) (e4 : hI h 1 4 = nI s) (e5 : hI h 1 5 = nI e) : f_X6_hasTaken_60 N h 1 = some (b2i (decide (s < e)), h) := by
  unfold f_X6_hasTaken_60
  rw [e4, e5]
  by_cases c : e ≤ s
  · rw [if_pos (nI_le c (by omega)), decide_eq_false (by omega)]; rfl
  · rw [if_neg (nI_ge (by omega) (by omega)), decide_eq_true (show s < e by omega)]; rfl
theorem c_ht {N n s : Nat} {t : TY} (a b : Int32) (hn : n ≤ 400) (hs : s ≤ n) : ∀ (m q k : Nat) (h : Hp), n - q ≤ m → m < k → SHP h → hI h 2 = t → hI h 1 1 = nI n → q ≤ n → hI h 1 4 = nI s → hI h 1 5 = nI q → ∃ h', f_X6_hasTaken_0 N k h 1 a b = some (b2i (decide (s < sR a b t n q)), h') ∧ hI h' 1 5 = nI (sR a b t n q) ∧ Fr (fun a j => a = 1 ∧ j = 5) h h' := by
  intro m
  induction m with
  | zero =>
    intro q k h hm hk H e2 e1 h1 e4 e5
    obtain ⟨k, rfl⟩ : ∃ j, k = j + 1 := ⟨k - 1, by omega⟩
    have e : sR a b t n q = q := sc_stop (by omega)
    refine ⟨h, ?_, by rw [e5, e], Fr_refl h⟩
    rw [f_X6_hasTaken_0, e1, e5, if_pos (nI_le (by omega) (by omega)), e]
    exact c_h60 (by omega) (by omega) e4 e5
  | succ m ih =>
    intro q k h hm hk H e2 e1 h1 e4 e5
    obtain ⟨k, rfl⟩ : ∃ j, k = j + 1 := ⟨k - 1, by omega⟩
    by_cases c : n ≤ q
    · have e : sR a b t n q = q := sc_stop (by omega)
      refine ⟨h, ?_, by rw [e5, e], Fr_refl h⟩
      rw [f_X6_hasTaken_0, e1, e5, if_pos (nI_le (by omega) (by omega)), e]
      exact c_h60 (by omega) (by omega) e4 e5
    · by_cases d : inR a b (t q) = true
      · have na : ¬ t q < a := fun z => by
          unfold inR at d
          rw [if_pos z] at d
          cases d
        have nb : ¬ b < t q := fun z => by
          unfold inR at d
          rw [if_neg na, if_pos z] at d
          cases d
        have e : f_X6_hasTaken_0 N (k + 1) h 1 a b = f_X6_hasTaken_0 N k (sI h 1 5 (nI (q + 1))) 1 a b := by
          rw [f_X6_hasTaken_0, e1, e5, if_neg (nI_ge (by omega) (by omega)), show (400 : Int32) = nI 400 from rfl, if_neg (nI_ge (by omega) (by omega)), pp_1_0 H, bs, ll_2 H, if_inI (by omega) (by omega), nI_clamp (by omega), e2, if_neg na, bs, ll_2 H, if_pos ⟨nI_pos' (by omega), by omega⟩, e2, if_neg nb, lts, nI_1]
        have F1 : Fr (fun a j => a = 1 ∧ j = 5) h (sI h 1 5 (nI (q + 1))) := Fr_sI _ _ _ _ ⟨rfl, rfl⟩
        have q5 : hI (sI h 1 5 (nI (q + 1))) 1 5 = nI (q + 1) := by rw [hI_sI, if_pos ⟨rfl, rfl⟩]
        generalize sI h 1 5 (nI (q + 1)) = h1 at F1 q5 e
        obtain ⟨h', i1, i2, i3⟩ := ih (q + 1) k h1 (by omega) (by omega) (Fr_SHP F1 H) (by rw [Fr_row F1 (fun j z => by omega)]; exact e2) (by rw [F1.2.2.2 1 1 (fun z => by omega)]; exact e1) (by omega) (by rw [F1.2.2.2 1 4 (fun z => by omega)]; exact e4) q5
        have es : sR a b t n q = sR a b t n (q + 1) := sc_step (c := fun i => inR a b (t i)) (by omega) d
        exact ⟨h', by rw [e, i1, es], by rw [i2, es], Fr_trans F1 i3⟩
      · have e : sR a b t n q = q := sc_stop (fun z => d z.2)
        refine ⟨h, ?_, by rw [e5, e], Fr_refl h⟩
        rw [f_X6_hasTaken_0, e1, e5, if_neg (nI_ge (by omega) (by omega)), show (400 : Int32) = nI 400 from rfl, if_neg (nI_ge (by omega) (by omega)), pp_1_0 H, bs, ll_2 H, if_inI (by omega) (by omega), nI_clamp (by omega), e2, e]
        by_cases na : t q < a
        · rw [if_pos na]
          exact c_h60 (by omega) (by omega) e4 e5
        · have nb : b < t q := by
            by_cases z : b < t q
            · exact z
            · exfalso
              apply d
              unfold inR
              rw [if_neg na, if_neg z]
          rw [if_neg na, bs, ll_2 H, if_pos ⟨nI_pos' (by omega), by omega⟩, e2, if_pos nb]
          exact c_h60 (by omega) (by omega) e4 e5
theorem c_taken {N n s : Nat} {t : TY} {h : Hp} (a b : Int32) (hN : 5000 ≤ N) (hn : n ≤ 400) (hs : s ≤ n) (H : SHP h) (e2 : hI h 2 = t) (e1 : hI h 1 1 = nI n) (e4 : hI h 1 4 = nI s) (e5 : hI h 1 5 = nI s) : ∃ h', f_X6_hasTaken N h 1 a b = some (b2i (decide (s < sR a b t n s)), h') ∧ hI h' 1 5 = nI (sR a b t n s) ∧ Fr (fun a j => a = 1 ∧ j = 5) h h' := by
  unfold f_X6_hasTaken
  exact c_ht a b hn hs (n - s) s N h (Nat.le_refl _) (by omega) H e2 e1 hs e4 e5
theorem c_n22 {N s e : Nat} {t : TY} {h : Hp} (he : e ≤ 400) (H : SHP h) (e2 : hI h 2 = t) (e5 : hI h 1 5 = nI e) : ∀ (m q k : Nat), e - q ≤ m → m < k → s ≤ q → q ≤ e → f_X6_numberTaken_22 N k h 1 (nv t s (q - s)) (nI q) = some (nv t s (e - s)) := by
  intro m
  induction m with
  | zero =>
    intro q k hm hk h1 h2
    obtain ⟨k, rfl⟩ : ∃ j, k = j + 1 := ⟨k - 1, by omega⟩
    rw [f_X6_numberTaken_22, e5, if_pos (nI_le (by omega) (by omega)), show e = q by omega]
  | succ m ih =>
    intro q k hm hk h1 h2
    obtain ⟨k, rfl⟩ : ∃ j, k = j + 1 := ⟨k - 1, by omega⟩
    by_cases c : e ≤ q
    · rw [f_X6_numberTaken_22, e5, if_pos (nI_le (by omega) (by omega)), show e = q by omega]
    · have i := ih (q + 1) k (by omega) (by omega) (by omega) (by omega)
      rw [show q + 1 - s = (q - s) + 1 by omega, nv, show s + (q - s) = q by omega] at i
      rw [f_X6_numberTaken_22, e5, if_neg (nI_ge (by omega) (by omega)), show (400 : Int32) = nI 400 from rfl, if_neg (nI_ge (by omega) (by omega)), pp_1_0 H, bs, ll_2 H, if_inI (by omega) (by omega), nI_clamp (by omega), e2, lts, nI_1]
      exact i
theorem c_nmtk {N s e : Nat} {t : TY} {h : Hp} (hN : 5000 ≤ N) (he : e ≤ 400) (hs : s ≤ e) (H : SHP h) (e2 : hI h 2 = t) (e4 : hI h 1 4 = nI s) (e5 : hI h 1 5 = nI e) : f_X6_numberTaken N h 1 = some (nm t s e) := by
  unfold f_X6_numberTaken nm
  rw [e4, e5, pk_sub (by omega), show (5 : Int32) = nI 5 from rfl]
  by_cases c : e - s ≤ 5
  · rw [if_pos (nI_le c (by omega)), if_pos c]
    have i := c_n22 (N := N) (s := s) he H e2 e5 (e - s) s N (Nat.le_refl _) (by omega) (Nat.le_refl _) hs
    rw [Nat.sub_self] at i
    exact i
  · rw [if_neg (nI_ge (by omega) (by omega)), if_neg c]
theorem c_ts {n s : Nat} {t : TY} {h : Hp} (hn : n ≤ 400) (H : SHP h) (e2 : hI h 2 = t) (e1 : hI h 1 1 = nI n) (hs : s < n) (e4 : hI h 1 4 = nI s) : ∃ h', f_X6_takeSign h 1 (t s) = some h' ∧ hI h' 1 2 = (if two t n s then (if t s = 60 then 259 else 260) else t s &&& 255) ∧ hI h' 1 5 = nI (if two t n s then s + 2 else s + 1) ∧ Fr (fun a j => a = 1 ∧ (j = 2 ∨ j = 5)) h h' := by
  unfold f_X6_takeSign
  rw [lts]
  have F1 : Fr (fun a j => a = 1 ∧ (j = 2 ∨ j = 5)) h (sI h 1 2 (t s &&& 255)) := Fr_sI _ _ _ _ ⟨rfl, Or.inl rfl⟩
  have q1 : hI (sI h 1 2 (t s &&& 255)) 1 2 = t s &&& 255 := by rw [hI_sI, if_pos ⟨rfl, rfl⟩]
  generalize sI h 1 2 (t s &&& 255) = h1 at F1 q1 ⊢
  rw [F1.2.2.2 1 4 (fun z => by omega), e4, nI_1, lts]
  have F2 : Fr (fun a j => a = 1 ∧ (j = 2 ∨ j = 5)) h1 (sI h1 1 5 (nI (s + 1))) := Fr_sI _ _ _ _ ⟨rfl, Or.inr rfl⟩
  have q2 : hI (sI h1 1 5 (nI (s + 1))) 1 5 = nI (s + 1) := by rw [hI_sI, if_pos ⟨rfl, rfl⟩]
  have q3 : hI (sI h1 1 5 (nI (s + 1))) 1 2 = t s &&& 255 := by rw [hI_sI, if_neg (by omega)]; exact q1
  generalize sI h1 1 5 (nI (s + 1)) = h2 at F2 q2 q3 ⊢
  have F := Fr_trans F1 F2
  have H2 := Fr_SHP F H
  rw [F.2.2.2 1 1 (fun z => by omega), e1, q2]
  have no : two t n s = false → f_X6_takeSign_58 h2 1 (t s) = some h2 := fun _ => by
    unfold f_X6_takeSign_58 f_X6_takeSign_59
    rw [if_pos rfl]
  have ne : two t n s = false → hI h2 1 2 = (if two t n s then (if t s = 60 then 259 else 260) else t s &&& 255) ∧ hI h2 1 5 = nI (if two t n s then s + 2 else s + 1) := fun z => by
    rw [z, if_neg (by decide), if_neg (by decide)]
    exact ⟨q3, q2⟩
  by_cases c : n ≤ s + 1
  · have z : two t n s = false := by unfold two; rw [decide_eq_false (by omega)]; rfl
    rw [if_pos (nI_le c (by omega))]
    exact ⟨h2, no z, (ne z).1, (ne z).2, F⟩
  · rw [if_neg (nI_ge (by omega) (by omega)), show (400 : Int32) = nI 400 from rfl, if_neg (nI_ge (by omega) (by omega)), pp_1_0 H2, bs, ll_2 H2, if_inI (by omega) (by omega), nI_clamp (by omega), Fr_row F (x := 2) (fun j z => by omega), e2]
    by_cases d : t (s + 1) = 61
    · rw [if_pos d]
      unfold f_X6_takeSign_59
      rw [if_neg (by decide)]
      have w : ∀ v, ∃ h', f_X6_takeSign_92 h2 1 v 1 = some h' ∧ hI h' 1 2 = v ∧ hI h' 1 5 = nI (s + 2) ∧ Fr (fun a j => a = 1 ∧ (j = 2 ∨ j = 5)) h h' := by
        intro v
        refine ⟨sI (sI h2 1 2 v) 1 5 (nI (s + 2)), ?_, ?_, ?_, Fr_trans F (Fr_trans (Fr_sI _ _ _ _ ⟨rfl, Or.inl rfl⟩) (Fr_sI _ _ _ _ ⟨rfl, Or.inr rfl⟩))⟩
        · unfold f_X6_takeSign_92
          rw [lts, lts, hI_sI, if_neg (by omega), q2, nI_1]
        · rw [hI_sI, if_neg (by omega), hI_sI, if_pos ⟨rfl, rfl⟩]
        · rw [hI_sI, if_pos ⟨rfl, rfl⟩]
      by_cases c60 : t s = 60
      · have z : two t n s = true := by unfold two; rw [decide_eq_true (show s + 1 < n by omega), decide_eq_true d, decide_eq_true c60]; rfl
        obtain ⟨h', w1, w2, w3, w4⟩ := w 259
        rw [if_pos c60]
        unfold f_X6_takeSign_76
        rw [if_pos c60]
        refine ⟨h', w1, ?_, ?_, w4⟩
        · rw [if_pos z, if_pos c60]; exact w2
        · rw [if_pos z]; exact w3
      · rw [if_neg c60]
        by_cases c62 : t s = 62
        · have z : two t n s = true := by unfold two; rw [decide_eq_true (show s + 1 < n by omega), decide_eq_true d, decide_eq_true c62, Bool.or_true]; rfl
          obtain ⟨h', w1, w2, w3, w4⟩ := w 260
          rw [if_pos c62]
          unfold f_X6_takeSign_76
          rw [if_neg c60]
          refine ⟨h', w1, ?_, ?_, w4⟩
          · rw [if_pos z, if_neg c60]; exact w2
          · rw [if_pos z]; exact w3
        · have z : two t n s = false := by unfold two; rw [decide_eq_false c60, decide_eq_false c62, Bool.or_false, Bool.and_false]
          rw [if_neg c62]
          exact ⟨h2, rfl, (ne z).1, (ne z).2, F⟩
    · have z : two t n s = false := by unfold two; rw [decide_eq_false d, Bool.and_false]; rfl
      rw [if_neg d]
      exact ⟨h2, no z, (ne z).1, (ne z).2, F⟩
theorem c_a64 {N n s : Nat} {t : TY} {h : Hp} (hN : 5000 ≤ N) (hn : n ≤ 400) (H : SHP h) (e2 : hI h 2 = t) (e1 : hI h 1 1 = nI n) (hs : s ≤ n) (e4 : hI h 1 4 = nI s) (e6 : hI h 1 6 = 0) (hk : skp t n s = s) : ∃ h', f_X6_advance_64 N h 1 = some h' ∧ TC t n h' s ∧ Fr PT h h' := by
  unfold f_X6_advance_64
  rw [lts, e4]
  have F1 : Fr PT h (sI h 1 5 (nI s)) := Fr_sI _ _ _ _ ⟨rfl, by decide⟩
  have q5 : hI (sI h 1 5 (nI s)) 1 5 = nI s := by rw [hI_sI, if_pos ⟨rfl, rfl⟩]
  have q4 : hI (sI h 1 5 (nI s)) 1 4 = nI s := by rw [hI_sI, if_neg (by omega)]; exact e4
  have q6 : hI (sI h 1 5 (nI s)) 1 6 = 0 := by rw [hI_sI, if_neg (by omega)]; exact e6
  generalize sI h 1 5 (nI s) = h1 at F1 q5 q4 q6 ⊢
  have H1 := Fr_SHP F1 H
  have r1 : hI h1 1 1 = nI n := by rw [F1.2.2.2 1 1 (fun z => by unfold PT at z; omega)]; exact e1
  have r2 : hI h1 2 = t := by rw [Fr_row F1 (fun j z => by unfold PT at z; omega)]; exact e2
  rw [r1, q4]
  by_cases c : n ≤ s
  · rw [if_pos (nI_le c (by omega))]
    have F2 : Fr PT h1 (sI h1 1 2 256) := Fr_sI _ _ _ _ ⟨rfl, by decide⟩
    refine ⟨sI h1 1 2 256, rfl, ⟨Fr_SHP F2 H1, r2, r1, hn, hs, q6, ?_, q4, ?_, fun z => by omega, hk⟩, Fr_trans F1 F2⟩
    · rw [hI_sI, if_pos ⟨rfl, rfl⟩]; unfold kd; rw [if_pos c]
    · unfold bh; rw [if_pos c]; exact q5
  · rw [if_neg (nI_ge (by omega) (by omega)), show (400 : Int32) = nI 400 from rfl, if_pos (nI_lt (by omega) (by omega))]
    obtain ⟨h2, a1, a2, a3⟩ := c_taken (N := N) (t := t) 48 57 hN hn hs H1 r2 r1 q4 q5
    have G1 : Fr PT h1 h2 := Fr_mono a3 (fun a j z => ⟨z.1, by omega⟩)
    have H2 := Fr_SHP G1 H1
    have s1 : hI h2 1 1 = nI n := by rw [a3.2.2.2 1 1 (fun z => by omega)]; exact r1
    have s2 : hI h2 2 = t := by rw [Fr_row a3 (fun j z => by omega)]; exact r2
    have s4 : hI h2 1 4 = nI s := by rw [a3.2.2.2 1 4 (fun z => by omega)]; exact q4
    have s6 : hI h2 1 6 = 0 := by rw [a3.2.2.2 1 6 (fun z => by omega)]; exact q6
    have F12 := Fr_trans F1 G1
    rw [a1, b2s]
    by_cases d : isD (t s) = true
    · have eD : sR 48 57 t n s = dge t n s := rfl
      have gD : s < dge t n s := by
        unfold dge
        rw [sc_step (c := fun i => isD (t i)) (by omega) d]
        exact sc_ge _ _ _
      have lD : dge t n s ≤ n := sc_le hs
      rw [eD] at a2
      rw [eD, decide_eq_true gD, if_neg (show ¬ b2i true = 0 by decide), lts]
      have F2 : Fr PT h2 (sI h2 1 2 257) := Fr_sI _ _ _ _ ⟨rfl, by decide⟩
      have p2 : hI (sI h2 1 2 257) 1 2 = 257 := by rw [hI_sI, if_pos ⟨rfl, rfl⟩]
      have p4 : hI (sI h2 1 2 257) 1 4 = nI s := by rw [hI_sI, if_neg (by omega)]; exact s4
      have p5 : hI (sI h2 1 2 257) 1 5 = nI (dge t n s) := by rw [hI_sI, if_neg (by omega)]; exact a2
      have p6 : hI (sI h2 1 2 257) 1 6 = 0 := by rw [hI_sI, if_neg (by omega)]; exact s6
      generalize sI h2 1 2 257 = h3 at F2 p2 p4 p5 p6 ⊢
      have H3 := Fr_SHP F2 H2
      have v2 : hI h3 2 = t := by rw [Fr_row F2 (fun j z => by unfold PT at z; omega)]; exact s2
      rw [c_nmtk (N := N) hN (by omega) (Nat.le_of_lt gD) H3 v2 p4 p5, bs, lts]
      have F3 : Fr PT h3 (sI h3 1 3 (nm t s (dge t n s))) := Fr_sI _ _ _ _ ⟨rfl, by decide⟩
      have w3 : hI (sI h3 1 3 (nm t s (dge t n s))) 1 3 = nm t s (dge t n s) := by rw [hI_sI, if_pos ⟨rfl, rfl⟩]
      have w2 : hI (sI h3 1 3 (nm t s (dge t n s))) 1 2 = 257 := by rw [hI_sI, if_neg (by omega)]; exact p2
      have w4 : hI (sI h3 1 3 (nm t s (dge t n s))) 1 4 = nI s := by rw [hI_sI, if_neg (by omega)]; exact p4
      have w5 : hI (sI h3 1 3 (nm t s (dge t n s))) 1 5 = nI (dge t n s) := by rw [hI_sI, if_neg (by omega)]; exact p5
      have w6 : hI (sI h3 1 3 (nm t s (dge t n s))) 1 6 = 0 := by rw [hI_sI, if_neg (by omega)]; exact p6
      generalize sI h3 1 3 (nm t s (dge t n s)) = h' at F3 w3 w2 w4 w5 w6 ⊢
      have F := Fr_trans F12 (Fr_trans F2 F3)
      refine ⟨h', rfl, ⟨Fr_SHP F H, by rw [Fr_row F (fun j z => by unfold PT at z; omega)]; exact e2, by rw [F.2.2.2 1 1 (fun z => by unfold PT at z; omega)]; exact e1, hn, hs, w6, ?_, w4, ?_, fun _ _ => w3, hk⟩, F⟩
      · rw [w2]; unfold kd; rw [if_neg c, if_pos d]
      · rw [w5]; unfold bh; rw [if_neg c, if_pos d]
    · have eD : sR 48 57 t n s = s := sc_stop (fun z => d z.2)
      rw [eD] at a2
      rw [eD, decide_eq_false (Nat.lt_irrefl s), if_pos (show b2i false = 0 by decide)]
      obtain ⟨h3, b1, b2', b3⟩ := c_taken (N := N) (t := t) 97 122 hN hn hs H2 s2 s1 s4 a2
      have G2 : Fr PT h2 h3 := Fr_mono b3 (fun a j z => ⟨z.1, by omega⟩)
      have H3 := Fr_SHP G2 H2
      have u1 : hI h3 1 1 = nI n := by rw [b3.2.2.2 1 1 (fun z => by omega)]; exact s1
      have u2 : hI h3 2 = t := by rw [Fr_row b3 (fun j z => by omega)]; exact s2
      have u4 : hI h3 1 4 = nI s := by rw [b3.2.2.2 1 4 (fun z => by omega)]; exact s4
      have u6 : hI h3 1 6 = 0 := by rw [b3.2.2.2 1 6 (fun z => by omega)]; exact s6
      have F13 := Fr_trans F12 G2
      rw [b1, b2s]
      by_cases l : isL (t s) = true
      · have eL : sR 97 122 t n s = lte t n s := rfl
        have gL : s < lte t n s := by
          unfold lte
          rw [sc_step (c := fun i => isL (t i)) (by omega) l]
          exact sc_ge _ _ _
        rw [eL] at b2'
        rw [eL, decide_eq_true gL, if_neg (show ¬ b2i true = 0 by decide), lts]
        have F2 : Fr PT h3 (sI h3 1 2 258) := Fr_sI _ _ _ _ ⟨rfl, by decide⟩
        have p2 : hI (sI h3 1 2 258) 1 2 = 258 := by rw [hI_sI, if_pos ⟨rfl, rfl⟩]
        have p4 : hI (sI h3 1 2 258) 1 4 = nI s := by rw [hI_sI, if_neg (by omega)]; exact u4
        have p5 : hI (sI h3 1 2 258) 1 5 = nI (lte t n s) := by rw [hI_sI, if_neg (by omega)]; exact b2'
        have p6 : hI (sI h3 1 2 258) 1 6 = 0 := by rw [hI_sI, if_neg (by omega)]; exact u6
        generalize sI h3 1 2 258 = h' at F2 p2 p4 p5 p6 ⊢
        have F := Fr_trans F13 F2
        refine ⟨h', rfl, ⟨Fr_SHP F H, by rw [Fr_row F (fun j z => by unfold PT at z; omega)]; exact e2, by rw [F.2.2.2 1 1 (fun z => by unfold PT at z; omega)]; exact e1, hn, hs, p6, ?_, p4, ?_, fun _ z => absurd z d, hk⟩, F⟩
        · rw [p2]; unfold kd; rw [if_neg c, if_neg d, if_pos l]
        · rw [p5]; unfold bh; rw [if_neg c, if_neg d, if_pos l]
      · have eL : sR 97 122 t n s = s := sc_stop (fun z => l z.2)
        rw [eL, decide_eq_false (Nat.lt_irrefl s), if_pos (show b2i false = 0 by decide), pp_1_0 H3, bs, u4, ll_2 H3, if_inI (by omega) (by omega), nI_clamp (by omega), u2]
        obtain ⟨h', i1, i2, i3, i4⟩ := c_ts hn H3 u2 u1 (s := s) (by omega) u4
        rw [i1, bs]
        have F3 : Fr PT h3 h' := Fr_mono i4 (fun a j z => ⟨z.1, by omega⟩)
        have F := Fr_trans F13 F3
        refine ⟨h', rfl, ⟨Fr_SHP F H, by rw [Fr_row F (fun j z => by unfold PT at z; omega)]; exact e2, by rw [F.2.2.2 1 1 (fun z => by unfold PT at z; omega)]; exact e1, hn, hs, ?_, ?_, ?_, ?_, fun _ z => absurd z d, hk⟩, F⟩
        · rw [i4.2.2.2 1 6 (fun z => by omega)]; exact u6
        · rw [i2]; unfold kd; rw [if_neg c, if_neg d, if_neg l]
        · rw [i4.2.2.2 1 4 (fun z => by omega)]; exact u4
        · rw [i3]; unfold bh; rw [if_neg c, if_neg d, if_neg l]
theorem c_adv {N n s : Nat} {t : TY} {h : Hp} (hN : 5000 ≤ N) (T : TC t n h s) : ∃ h', f_X6_advance N h 1 = some h' ∧ TC t n h' (nt t n s) ∧ Fr PT h h' := by
  obtain ⟨H, e2, e1, hn, hs, e6, ek, e4, e5, e3, hk⟩ := T
  unfold f_X6_advance
  rw [e6, if_pos rfl, lts, e5]
  have F1 : Fr PT h (sI h 1 4 (nI (bh t n s))) := Fr_sI _ _ _ _ ⟨rfl, by decide⟩
  have q4 : hI (sI h 1 4 (nI (bh t n s))) 1 4 = nI (bh t n s) := by rw [hI_sI, if_pos ⟨rfl, rfl⟩]
  have q6 : hI (sI h 1 4 (nI (bh t n s))) 1 6 = 0 := by rw [hI_sI, if_neg (by omega)]; exact e6
  generalize sI h 1 4 (nI (bh t n s)) = h1 at F1 q4 q6 ⊢
  have H1 := Fr_SHP F1 H
  have r1 : hI h1 1 1 = nI n := by rw [F1.2.2.2 1 1 (fun z => by unfold PT at z; omega)]; exact e1
  have r2 : hI h1 2 = t := by rw [Fr_row F1 (fun j z => by unfold PT at z; omega)]; exact e2
  obtain ⟨h2, i1, i2, i3⟩ := c_skip (N := N) hn (n - bh t n s) (bh t n s) N h1 (Nat.le_refl _) (by omega) H1 r2 r1 (bh_le hs) q4
  have F2 : Fr PT h1 h2 := Fr_mono i3 (fun a j z => ⟨z.1, by omega⟩)
  obtain ⟨h3, j1, j2, j3⟩ := c_a64 (N := N) hN hn (Fr_SHP F2 H1) (by rw [Fr_row F2 (fun j z => by unfold PT at z; omega)]; exact r2) (by rw [F2.2.2.2 1 1 (fun z => by unfold PT at z; omega)]; exact r1) (nt_le hs) i2 (by rw [i3.2.2.2 1 6 (fun z => by omega)]; exact q6) (sc_fix (bh_le hs))
  exact ⟨h3, by rw [i1, j1], j2, Fr_trans F1 (Fr_trans F2 j3)⟩
theorem c_begin_t {N n : Nat} {t : TY} {h : Hp} (hN : 5000 ≤ N) (H : SHP h) (e2 : hI h 2 = t) (e1 : hI h 1 1 = nI n) (hn : n ≤ 400) : ∃ h', f_X6_begin N h 1 = some h' ∧ TC t n h' (skp t n 0) ∧ Fr PT h h' := by
  unfold f_X6_begin f_X6_advance
  rw [lts, lts]
  have F0 : Fr PT h (sI (sI h 1 6 0) 1 5 0) := Fr_trans (Fr_sI _ _ _ _ ⟨rfl, by decide⟩) (Fr_sI _ _ _ _ ⟨rfl, by decide⟩)
  have p6 : hI (sI (sI h 1 6 0) 1 5 0) 1 6 = 0 := by rw [hI_sI, if_neg (by omega), hI_sI, if_pos ⟨rfl, rfl⟩]
  have p5 : hI (sI (sI h 1 6 0) 1 5 0) 1 5 = nI 0 := by rw [hI_sI, if_pos ⟨rfl, rfl⟩]; rfl
  generalize sI (sI h 1 6 0) 1 5 0 = h0 at F0 p6 p5 ⊢
  rw [p6, if_pos rfl, lts, p5]
  have F1 : Fr PT h0 (sI h0 1 4 (nI 0)) := Fr_sI _ _ _ _ ⟨rfl, by decide⟩
  have q4 : hI (sI h0 1 4 (nI 0)) 1 4 = nI 0 := by rw [hI_sI, if_pos ⟨rfl, rfl⟩]
  have q6 : hI (sI h0 1 4 (nI 0)) 1 6 = 0 := by rw [hI_sI, if_neg (by omega)]; exact p6
  generalize sI h0 1 4 (nI 0) = h1 at F1 q4 q6 ⊢
  have F01 := Fr_trans F0 F1
  have H1 := Fr_SHP F01 H
  have r1 : hI h1 1 1 = nI n := by rw [F01.2.2.2 1 1 (fun z => by unfold PT at z; omega)]; exact e1
  have r2 : hI h1 2 = t := by rw [Fr_row F01 (fun j z => by unfold PT at z; omega)]; exact e2
  obtain ⟨h2, i1, i2, i3⟩ := c_skip (N := N) hn (n - 0) 0 N h1 (Nat.le_refl _) (by omega) H1 r2 r1 (by omega) q4
  have F2 : Fr PT h1 h2 := Fr_mono i3 (fun a j z => ⟨z.1, by omega⟩)
  obtain ⟨h3, j1, j2, j3⟩ := c_a64 (N := N) hN hn (Fr_SHP F2 H1) (by rw [Fr_row F2 (fun j z => by unfold PT at z; omega)]; exact r2) (by rw [F2.2.2.2 1 1 (fun z => by unfold PT at z; omega)]; exact r1) (sc_le (Nat.zero_le n)) i2 (by rw [i3.2.2.2 1 6 (fun z => by omega)]; exact q6) (sc_fix (Nat.zero_le n))
  exact ⟨h3, by rw [i1, j1, bs], j2, Fr_trans F01 (Fr_trans F2 j3)⟩
/-- the fault at s -/
def flt (s : Nat) (w : Int32) : Int32 := ((1 : Int32) + ((8 : Int32) * nI s)) + w
theorem flt_nat (s k : Nat) : flt s (nI k) = nI (1 + 8 * s + k) := by
  unfold flt
  rw [show (1 : Int32) = nI 1 from rfl, show (8 : Int32) = nI 8 from rfl, pk_mul, nI_add, nI_add]
theorem flt_ne {s k : Nat} (hs : s ≤ 400) (hk : k ≤ 4) : flt s (nI k) ≠ 0 := by
  rw [flt_nat]
  intro z
  have := congrArg Int32.toNatClampNeg z
  rw [nI_clamp (by omega)] at this
  have e0 : (0 : Int32).toNatClampNeg = 0 := rfl
  omega
theorem c_fail {t : TY} {n s k : Nat} {h : Hp} (T : TC t n h s) (hk : k ≤ 4) : ∃ h', f_X6_fail h 1 (nI k) = some h' ∧ TF h' (flt s (nI k)) ∧ Fr PT h h' := by
  obtain ⟨H, e2, e1, hn, hs, e6, ek, e4, e5, e3, _⟩ := T
  unfold f_X6_fail
  rw [e6, if_pos rfl, e4, lts, lts]
  have F : Fr PT h (sI (sI h 1 6 (1 + 8 * nI s + nI k)) 1 2 261) := Fr_trans (Fr_sI _ _ _ _ ⟨rfl, by decide⟩) (Fr_sI _ _ _ _ ⟨rfl, by decide⟩)
  refine ⟨_, rfl, ⟨Fr_SHP F H, flt_ne (by omega) hk, ?_, ?_⟩, F⟩
  · rw [hI_sI, if_neg (by omega), hI_sI, if_pos ⟨rfl, rfl⟩]; rfl
  · rw [hI_sI, if_pos ⟨rfl, rfl⟩]
theorem f_fail {h : Hp} {f : Int32} (T : TF h f) (k : Int32) : f_X6_fail h 1 k = some h := by
  unfold f_X6_fail
  rw [T.2.2.1, if_neg T.2.1]
theorem f_adv {N : Nat} {h : Hp} {f : Int32} (T : TF h f) : f_X6_advance N h 1 = some h := by
  unfold f_X6_advance
  rw [T.2.2.1, if_neg T.2.1]
