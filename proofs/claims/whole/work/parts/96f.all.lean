/-! ===== texts: both read a rule alike ===== -/
def upf {β : Type} (f : Nat → β) (c : Nat) (x : β) : Nat → β := fun i => if i = c then x else f i
theorem upf_s {β : Type} (f : Nat → β) (c : Nat) (x : β) : upf f c x c = x := if_pos rfl
theorem upf_o {β : Type} (f : Nat → β) {c i : Nat} (x : β) (h : i ≠ c) : upf f c x i = f i := if_neg h
def CV (c m : Nat) (cs : List Int32) (sg : Nat → List Int32) (U : Nat → (Nat → Int64) → Int64) : Prop := (∀ i, i < c → ∀ w, (U i w = 0 ∨ U i w = 1) ∧ evL w (sg i) [] = some [U i w]) ∧ (c = 0 → cs = []) ∧ (0 < c → 1 ≤ m ∧ ∃ V : (Nat → Int64) → Int64, ∀ w, (V w = 0 ∨ V w = 1) ∧ evL w cs [] = some [V w] ∧ (V w = 0 ↔ ∀ i, i < c → U i w = 0))
theorem CV_step {c m m' : Nat} {cs cn : List Int32} {sg : Nat → List Int32} {U : Nat → (Nat → Int64) → Int64} (C : CV c m cs sg U) (B : QB cn (m' - m)) (h1 : m ≤ m') (h2 : m' ≤ 60) : ∃ v, CV (c + 1) m' (nwc c cs cn) (upf sg c cn) (upf U c v) := by
  obtain ⟨b1, v, vb, ve⟩ := B
  obtain ⟨c1, c2, c3⟩ := C
  have ev0 : ∀ w, evL w cn [] = some [v w] := fun w => ve w [] (by show 0 + (m' - m) ≤ 60; omega)
  refine ⟨v, fun i hi w => ?_, fun z => by omega, fun _ => ⟨by omega, ?_⟩⟩
  · by_cases z : i = c
    · subst z
      rw [upf_s, upf_s]
      exact ⟨vb w, ev0 w⟩
    · rw [upf_o _ _ z, upf_o _ _ z]
      exact c1 i (by omega) w
  · by_cases z : c = 0
    · subst z
      refine ⟨v, fun w => ⟨vb w, ?_, ?_⟩⟩
      · unfold nwc
        rw [if_pos rfl, c2 rfl]
        exact ev0 w
      · constructor
        · intro e i hi
          have : i = 0 := by omega
          subst this
          rw [upf_s]
          exact e
        · intro e
          have := e 0 (by decide)
          rw [upf_s] at this
          exact this
    · obtain ⟨m1, V, hV⟩ := c3 (by omega)
      refine ⟨fun w => cmb 100010 (V w) (v w), fun w => ?_⟩
      obtain ⟨v1, v2, v3⟩ := hV w
      refine ⟨(cm_or v1 (vb w)).1, ?_, ?_⟩
      · unfold nwc
        rw [if_neg z, evL_app, evL_app, v2, bs, ve w [V w] (by show 1 + (m' - m) ≤ 60; omega), bs, ev_bop bop10]
      · show cmb 100010 (V w) (v w) = 0 ↔ _
        rw [(cm_or v1 (vb w)).2, v3]
        constructor
        · intro e i hi
          by_cases y : i = c
          · subst y
            rw [upf_s]
            exact e.2
          · rw [upf_o _ _ y]
            exact e.1 i (by omega)
        · intro e
          refine ⟨fun i hi => ?_, ?_⟩
          · have := e i (by omega)
            rw [upf_o _ _ (by omega)] at this
            exact this
          · have := e c (by omega)
            rw [upf_s] at this
            exact this
theorem RT_step {a b : Hp} {r c gl : Nat} {bg : Nat → Nat} {sg : Nat → List Int32} {cn : List Int32} (hc : c < 12) (T : RT a r c bg sg) (hg : ∀ i, i < c → bg i + (sg i).length ≤ gl) (F : Fr (PCl r gl c) a b) (e56 : hI b 56 r = nI (c + 1)) (e1 : hI b 55 (24 * r + 2 * c) = nI gl) (e2 : hI b 55 (24 * r + 2 * c + 1) = nI (gl + cn.length)) (h4 : gl + cn.length ≤ 400) (hs : ∀ j, j < cn.length → sgC (cn.getD j 0) (hI b 53 (400 * r + (gl + j)))) : RT b r (c + 1) (upf bg c gl) (upf sg c cn) ∧ ∀ i, i < c + 1 → upf bg c gl i + (upf sg c cn i).length ≤ gl + cn.length := by
  refine ⟨⟨e56, fun i hi => ?_⟩, fun i hi => ?_⟩
  · by_cases z : i = c
    · subst z
      rw [upf_s, upf_s]
      exact ⟨e1, e2, h4, hs⟩
    · rw [upf_o _ _ z, upf_o _ _ z]
      obtain ⟨t1, t2, t3, t4⟩ := T.2 i (by omega)
      have := hg i (by omega)
      refine ⟨?_, ?_, t3, fun j hj => ?_⟩
      · rw [F.2.2.2 55 _ (fun y => by unfold PCl PW PVr PU at y; omega)]; exact t1
      · rw [F.2.2.2 55 _ (fun y => by unfold PCl PW PVr PU at y; omega)]; exact t2
      · rw [F.2.2.2 53 _ (fun y => by unfold PCl PW PVr PU at y; omega)]; exact t4 j hj
  · by_cases z : i = c
    · subst z
      rw [upf_s, upf_s]
      exact Nat.le_refl _
    · rw [upf_o _ _ z, upf_o _ _ z]
      have := hg i (by omega)
      omega
def PAl (r : Nat) : Nat → Nat → Prop := fun a j => (a = 51 ∧ (j = 1 ∨ (14 ≤ j ∧ j ≤ 16) ∨ (18 ≤ j ∧ j ≤ 20) ∨ j = 22)) ∨ (a = 53 ∧ 400 * r ≤ j ∧ j < 400 * r + 400) ∨ (a = 54 ∧ j = r) ∨ (a = 55 ∧ 24 * r ≤ j ∧ j < 24 * r + 24) ∨ (a = 56 ∧ j = r) ∨ a = 59
theorem PCl_A {r gl c : Nat} {a b : Hp} (F : Fr (PCl r gl c) a b) : Fr (PAl r) a b := Fr_mono F (fun a j z => by unfold PCl PW PVr PU at z; unfold PAl; omega)
theorem PE_A {r : Nat} {a b : Hp} (F : Fr PE a b) : Fr (PAl r) a b := Fr_mono F (fun a j z => by unfold PE at z; unfold PAl; omega)
/-- what came of all clauses -/
def AO (r : Nat) (h : Hp) (v : Int32) (z : Bool × YS) : Prop := (v = 0 ∧ z.1 = false ∧ ∃ fl, z.2.1 = .inl fl ∧ fl ≠ 0 ∧ hI h 51 15 = fl) ∨ (v = 1 ∧ z.1 = true ∧ ∃ s c m cs bg sg U, z.2 = (.inr s, cs, nI m) ∧ cs.length ≤ 400 ∧ 1 ≤ c ∧ c ≤ 12 ∧ RT h r c bg sg ∧ CV c m cs sg U)
theorem yLp_l {t : TY} {n : Nat} {fl : Int32} {y : YS} (e : y.1 = .inl fl) (hf : fl ≠ 0) (f : Nat) : yLp t n f y = (false, y) := by
  cases f with
  | zero => rfl
  | succ f => rw [yLp, if_neg (show ¬ xE y.1 = 0 by rw [e]; exact hf)]
theorem v_119 {N : Nat} {h : Hp} : ∃ h', f_X8_readsAll_119 N h 51 = some (if hI h 51 15 = 0 then 1 else 0, h') ∧ hI h' 51 1 = 0 ∧ Fr (fun a j => a = 51 ∧ j = 1) h h' := by
  unfold f_X8_readsAll_119
  rw [lts]
  have F : Fr (fun a j => a = 51 ∧ j = 1) h (sI h 51 1 0) := Fr_sI _ _ _ _ ⟨rfl, rfl⟩
  have q : hI (sI h 51 1 0) 51 1 = 0 := by rw [hI_sI, if_pos ⟨rfl, rfl⟩]
  generalize sI h 51 1 0 = h1 at F q ⊢
  rw [F.2.2.2 51 15 (by omega)]
  by_cases z : hI h 51 15 = 0
  · rw [if_pos z, if_pos z]; exact ⟨h1, rfl, q, F⟩
  · rw [if_neg z, if_neg z]; exact ⟨h1, rfl, q, F⟩
theorem v_end0 {N r k : Nat} {h : Hp} {fl : Int32} (hf : fl ≠ 0) (e : hI h 51 15 = fl) : ∃ h', f_X8_readsAll_35 N (k + 1) h 51 0 = some (0, h') ∧ f_X8_readsAll_88 N h 51 0 = some (0, h') ∧ hI h' 51 1 = 0 ∧ hI h' 51 15 = fl ∧ Fr (PAl r) h h' := by
  obtain ⟨h', a1, a2, a3⟩ := v_119 (N := N) (h := h)
  rw [if_neg (by rw [e]; exact hf)] at a1
  have a88 : f_X8_readsAll_88 N h 51 0 = some (0, h') := by
    unfold f_X8_readsAll_88
    rw [if_pos rfl]
    exact a1
  refine ⟨h', ?_, a88, a2, by rw [a3.2.2.2 51 15 (by omega)]; exact e, Fr_mono a3 (fun a j z => by unfold PAl; omega)⟩
  rw [f_X8_readsAll_35, if_pos rfl]
  unfold f_X8_readsAll_66
  rw [if_pos rfl]
  exact a88
theorem RT_Fr {P : Nat → Nat → Prop} {a b : Hp} {r c : Nat} {bg : Nat → Nat} {sg : Nat → List Int32} (F : Fr P a b) (h53 : ∀ j, ¬ P 53 j) (h55 : ∀ j, ¬ P 55 j) (h56 : ∀ j, ¬ P 56 j) (T : RT a r c bg sg) : RT b r c bg sg := by
  unfold RT at T ⊢
  rw [Fr_row F h53, Fr_row F h55, Fr_row F h56]
  exact T
theorem v_35 {N n r : Nat} {t : TY} (hN : 5000 ≤ N) (hB : BY t n) : ∀ (f c k m p gl : Nat) (h : Hp) (cs : List Int32) (bg : Nat → Nat) (sq : Nat → List Int32) (U : Nat → (Nat → Int64) → Int64), c + f = 12 → f + 2 ≤ k → MR t n r gl cs 0 h p cs (nI m) → m ≤ 60 → hI h 51 20 = nI c → RT h r c bg sq → (∀ i, i < c → bg i + (sq i).length ≤ gl) → CV c m cs sq U → ∃ v h', b2 (f_X8_clauseHere N h 51) (fun r28 h29 => f_X8_readsAll_35 N k h29 51 r28) = some (v, h') ∧ Fr (PAl r) h h' ∧ hI h' 51 1 = 0 ∧ AO r h' v (yLp t n (f + 1) (.inr (skp t n p), cs, nI m)) := by
  intro f
  induction f with
  | zero =>
    intro c k m p gl h cs bg sq U hc hk M m60 e20 T hg C
    obtain ⟨k, rfl⟩ : ∃ j, k = j + 1 := ⟨k - 1, by omega⟩
    obtain ⟨v, h1, a1, a2, a3⟩ := v_clause (f := 0) hN hB hc M m60 e20 T.1
    rw [a1, b2s, yLp, if_pos (show xE (Sum.inr (skp t n p), cs, nI m).1 = 0 from rfl)]
    generalize yCs t n (decide (0 < 0)) (decide (0 = 12)) (.inr (skp t n p), cs, nI m) = z at a3 ⊢
    rcases a3 with ⟨fl, d1, d2, d3, d4⟩ | ⟨d1, _⟩
    · obtain ⟨h2, b1, _, b3, b4, b5⟩ := v_end0 (N := N) (r := r) (k := k) d2 d4
      rw [d3, b1, xK_l d1, if_neg (by decide)]
      unfold yNx
      rw [xK_l d1, if_neg (by decide), yF_l d1, yA_l d1, yLp_l d1 d2]
      exact ⟨0, h2, rfl, Fr_trans (PCl_A a2) b5, b3, Or.inl ⟨rfl, rfl, fl, d1, d2, b4⟩⟩
    · omega
  | succ f ih =>
    intro c k m p gl h cs bg sq U hc hk M m60 e20 T hg C
    obtain ⟨k, rfl⟩ : ∃ j, k = j + 1 := ⟨k - 1, by omega⟩
    obtain ⟨v, h1, a1, a2, a3⟩ := v_clause (f := f + 1) hN hB hc M m60 e20 T.1
    rw [a1, b2s, yLp, if_pos (show xE (Sum.inr (skp t n p), cs, nI m).1 = 0 from rfl)]
    generalize yCs t n (decide (0 < f + 1)) (decide (f + 1 = 12)) (.inr (skp t n p), cs, nI m) = z at a3 ⊢
    rcases a3 with ⟨fl, d1, d2, d3, d4⟩ | ⟨d1, d2, q, cn, m', d3, d4, d5, d6, d7, d8, d9, d10, d11, d12, d13, d14⟩
    · obtain ⟨h2, b1, _, b3, b4, b5⟩ := v_end0 (N := N) (r := r) (k := k) d2 d4
      rw [d3, b1, xK_l d1, if_neg (by decide)]
      unfold yNx
      rw [xK_l d1, if_neg (by decide), yF_l d1, yA_l d1, yLp_l d1 d2]
      exact ⟨0, h2, rfl, Fr_trans (PCl_A a2) b5, b3, Or.inl ⟨rfl, rfl, fl, d1, d2, b4⟩⟩
    · have hn4 := d5.1.2.2.1
      have hb5 := d5.2.2.2.2.2
      have hq := d5.1.2.2.2.2.1
      have hr := d5.2.2.1.2
      obtain ⟨T', hg'⟩ := RT_step d1 T hg a2 d10 d11 d12 d13 d14
      obtain ⟨u, C'⟩ := CV_step C d6 d7 d8
      obtain ⟨h2, i1, i2, i3⟩ := m_see hN d5.1
      have hs0 : skp t n (skp t n q) = skp t n q := sc_fix hq
      have hps : q ≤ skp t n q := sc_ge _ _ _
      have M2 := MR_PE i3 i2 hps d5
      have T2 : RT h2 r (c + 1) (upf bg c gl) (upf sq c cn) := RT_Fr i3 (fun j z => by unfold PE at z; omega) (fun j z => by unfold PE at z; omega) (fun j z => by unfold PE at z; omega) T'
      rw [d2, f_X8_readsAll_35, if_neg (by decide), i1, b2s, d3]
      generalize skp t n q = s at i1 i2 hs0 hps M2 ⊢
      have hsn := i2.2.2.2.2.1
      have k59 : kd t n s = 59 ↔ sg t n s = 59 := kd_sg (k := 59) (by decide) (by decide) (by decide) (by decide) (by decide)
      show ∃ v h', _ ∧ _ ∧ _ ∧ AO r h' v (if kd t n s = 256 then (true, (.inr s, nwc c cs cn, nI m')) else yLp t n (f + 1) (yA t n (if kd t n s = 59 then (.inr s, nwc c cs cn, nI m') else yF 0 (.inr s, nwc c cs cn, nI m'))))
      by_cases c59 : kd t n s = 59
      · obtain ⟨s1, s2⟩ := nt_k (k := 59) (by decide) c59
        rw [if_pos (k59.mp c59), lts, i2.2.2.2.2.2, nI_1, if_neg (show ¬ kd t n s = 256 by rw [c59]; decide), if_pos c59, yA_p, s2]
        obtain ⟨T3, F3⟩ := TM_set (q := s + 1) (by omega) i2
        generalize sI h2 51 14 (nI (s + 1)) = h3 at T3 F3 ⊢
        have M3 := MR_PE F3 T3 (by omega) M2
        obtain ⟨v', h4, b1, b2', b3, b4⟩ := ih (c + 1) k m' (s + 1) (gl + cn.length) h3 (nwc c cs cn) (upf bg c gl) (upf sq c cn) (upf U c u) (by omega) (by omega) M3 d8 (by rw [F3.2.2.2 51 20 (fun z => by unfold PE at z; omega), i3.2.2.2 51 20 (fun z => by unfold PE at z; omega)]; exact d9) (RT_Fr F3 (fun j z => by unfold PE at z; omega) (fun j z => by unfold PE at z; omega) (fun j z => by unfold PE at z; omega) T2) hg' C'
        exact ⟨v', h4, b1, Fr_trans (PCl_A a2) (Fr_trans (PE_A i3) (Fr_trans (PE_A F3) b2')), b3, b4⟩
      · rw [if_neg (fun z => c59 (k59.mpr z)), if_neg c59]
        unfold f_X8_readsAll_66
        rw [if_neg (by decide), m_see0 hN i2 hs0, b2s]
        by_cases ce : kd t n s = 256
        · rw [if_pos (sg_end.mpr (kd_end.mp ce)), if_pos ce]
          unfold f_X8_readsAll_88
          rw [if_neg (by decide), M2.2.2.1.1, if_neg (show ¬ nI r = 6 from fun z => by have := (nI_eq (a := r) (b := 6) (by omega) (by decide)).mp z; omega)]
          obtain ⟨h3, b1, b2', b3⟩ := v_119 (N := N) (h := h2)
          rw [if_pos M2.2.1] at b1
          rw [b1]
          refine ⟨1, h3, rfl, Fr_trans (PCl_A a2) (Fr_trans (PE_A i3) (Fr_mono b3 (fun a j z => by unfold PAl; omega))), b2', Or.inr ⟨rfl, rfl, s, c + 1, m', nwc c cs cn, upf bg c gl, upf sq c cn, upf U c u, rfl, by omega, by omega, by omega, RT_Fr b3 (fun j z => by omega) (fun j z => by omega) (fun j z => by omega) T2, C'⟩⟩
        · rw [if_neg (fun z => ce (kd_end.mpr (sg_end.mp z))), if_neg ce, i2.2.2.2.2.2]
          obtain ⟨h3, j1, j2, j3⟩ := m_fails M2.2.1 0 s
          have hf : flt s (nI 0) ≠ 0 := flt_ne (by omega) (by decide)
          obtain ⟨h4, _, b1, b2', b3, b4⟩ := v_end0 (N := N) (r := r) (k := 0) hf j2
          rw [j1, b2s, b1]
          have el : (yA t n (yF 0 (.inr s, nwc c cs cn, nI m'))).1 = .inl (flt s (nI 0)) := rfl
          rw [yLp_l el hf]
          exact ⟨0, h4, rfl, Fr_trans (PCl_A a2) (Fr_trans (PE_A i3) (Fr_trans (Fr_mono j3 (fun a j z => by unfold PAl; omega)) b4)), b2', Or.inl ⟨rfl, rfl, flt s (nI 0), el, hf, b3⟩⟩
theorem v_reads {N n r : Nat} {t : TY} {h : Hp} (hN : 5000 ≤ N) (hB : BY t n) (H : SHP h) (e1 : hI h 51 1 = nI n) (hn : n ≤ 400) (e52 : ∀ i, i < n → hI h 52 i = t i) (e17 : hI h 51 17 = nI r) (hr : r < 6) (e56 : hI h 56 r = 0) : ∃ v h', f_X8_readsAll N h 51 = some (v, h') ∧ Fr (PAl r) h h' ∧ hI h' 51 1 = 0 ∧ AO r h' v (yLp t n 13 (.inr (skp t n 0), [], 0)) := by
  unfold f_X8_readsAll
  rw [pp_51_4 H, bs, e17, ll_54 H, if_inI (by omega) (by omega), lts, nI_clamp (by omega)]
  have F1 : Fr (fun a j => a = 54 ∧ j = r) h (sI h 54 r 0) := Fr_sI _ _ _ _ ⟨rfl, rfl⟩
  have q1 : hI (sI h 54 r 0) 54 r = 0 := by rw [hI_sI, if_pos ⟨rfl, rfl⟩]
  generalize sI h 54 r 0 = h1 at F1 q1 ⊢
  rw [lts]
  have F2 : Fr (fun a j => a = 51 ∧ j = 20) h1 (sI h1 51 20 0) := Fr_sI _ _ _ _ ⟨rfl, rfl⟩
  have q2 : hI (sI h1 51 20 0) 51 20 = 0 := by rw [hI_sI, if_pos ⟨rfl, rfl⟩]
  generalize sI h1 51 20 0 = h2 at F2 q2 ⊢
  rw [lts]
  have F3 : Fr (fun a j => a = 51 ∧ j = 14) h2 (sI h2 51 14 0) := Fr_sI _ _ _ _ ⟨rfl, rfl⟩
  have q3 : hI (sI h2 51 14 0) 51 14 = 0 := by rw [hI_sI, if_pos ⟨rfl, rfl⟩]
  generalize sI h2 51 14 0 = h3 at F3 q3 ⊢
  rw [lts]
  have F4 : Fr (fun a j => a = 51 ∧ j = 15) h3 (sI h3 51 15 0) := Fr_sI _ _ _ _ ⟨rfl, rfl⟩
  have q4 : hI (sI h3 51 15 0) 51 15 = 0 := by rw [hI_sI, if_pos ⟨rfl, rfl⟩]
  generalize sI h3 51 15 0 = h4 at F4 q4 ⊢
  rw [lts]
  have F5 : Fr (fun a j => a = 51 ∧ j = 18) h4 (sI h4 51 18 0) := Fr_sI _ _ _ _ ⟨rfl, rfl⟩
  have q5 : hI (sI h4 51 18 0) 51 18 = 0 := by rw [hI_sI, if_pos ⟨rfl, rfl⟩]
  generalize sI h4 51 18 0 = h5 at F5 q5 ⊢
  have F : Fr (fun a j => (a = 54 ∧ j = r) ∨ (a = 51 ∧ (j = 20 ∨ j = 14 ∨ j = 15 ∨ j = 18))) h h5 := Fr_trans (Fr_mono F1 (fun a j z => by omega)) (Fr_trans (Fr_mono F2 (fun a j z => by omega)) (Fr_trans (Fr_mono F3 (fun a j z => by omega)) (Fr_trans (Fr_mono F4 (fun a j z => by omega)) (Fr_mono F5 (fun a j z => by omega)))))
  have T5 : TM t n h5 0 := ⟨Fr_SHP F H, by rw [F.2.2.2 51 1 (by omega)]; exact e1, hn, fun i hi => by rw [F.2.2.2 52 i (by omega)]; exact e52 i hi, Nat.zero_le _, by rw [F5.2.2.2 51 14 (by omega), F4.2.2.2 51 14 (by omega)]; exact q3⟩
  have M5 : MR t n r 0 [] 0 h5 0 [] (nI 0) := ⟨T5, by rw [F5.2.2.2 51 15 (by omega)]; exact q4, ⟨by rw [F.2.2.2 51 17 (by omega)]; exact e17, hr⟩, ⟨0, by decide, rfl, q5⟩, ⟨[], rfl, Nat.le_refl _, by rw [F5.2.2.2 54 r (by omega), F4.2.2.2 54 r (by omega), F3.2.2.2 54 r (by omega), F2.2.2.2 54 r (by omega)]; exact q1, fun j hj => absurd hj (Nat.not_lt_zero j)⟩, Nat.le_refl _⟩
  have T0' : RT h5 r 0 (fun _ => 0) (fun _ => []) := ⟨by rw [F.2.2.2 56 r (by omega)]; exact e56, fun i hi => absurd hi (Nat.not_lt_zero i)⟩
  obtain ⟨v, h6, a1, a2, a3, a4⟩ := v_35 hN hB 12 0 N 0 0 0 h5 [] (fun _ => 0) (fun _ => []) (fun _ _ => 0) rfl (by omega) M5 (by decide) (by rw [F5.2.2.2 51 20 (by omega), F4.2.2.2 51 20 (by omega), F3.2.2.2 51 20 (by omega)]; exact q2) T0' (fun i hi => absurd hi (Nat.not_lt_zero i)) ⟨fun i hi => absurd hi (Nat.not_lt_zero i), fun _ => rfl, fun z => absurd z (Nat.not_lt_zero 0)⟩
  exact ⟨v, h6, a1, Fr_trans (Fr_mono F (fun a j z => by unfold PAl; omega)) a2, a3, a4⟩
