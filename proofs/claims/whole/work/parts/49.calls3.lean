/-! ===== calls: rain, chains, runs ===== -/
theorem m_waterL {h : Hp} {α : SA} (M : Am h α) (D : Dm α) {l : Nat} (hl : l < lvl α) : f_X8_waterOf h 51 (nI l) = some (α 1 l) := m_waterOf M D hl
theorem Ok_water {α : SA} (O : Ok α) {l w : Nat} (hl : l < lvl α) (hw : w ≤ 9999) : Ok (sr α 1 (upd (α 1) l (nI w))) := by
  obtain ⟨D, P, S, V, W⟩ := O
  have o : ∀ a, a ≠ 1 → sr α 1 (upd (α 1) l (nI w)) a = α a := fun a ha => sr_o _ _ ha
  have el : lvl (sr α 1 (upd (α 1) l (nI w))) = lvl α := lvl_of (by rw [o 0 (by decide)])
  have eb : bgs (sr α 1 (upd (α 1) l (nI w))) = bgs α := bgs_of (by rw [o 0 (by decide)])
  have er : rem (sr α 1 (upd (α 1) l (nI w))) = rem α := by
    unfold rem
    rw [eb]
    exact sumB_cong _ (fun b _ => by
      unfold rm1
      rw [o 8 (by decide), el, o 5 (by decide)])
  refine ⟨Dm_of (fun j _ => by rw [o 0 (by decide)]) D, fun b hb => ?_, fun k hk => ?_, ?_, fun k hk => ?_⟩
  · rw [eb] at hb
    rw [el, o 5 (by decide)]
    exact P b hb
  · rw [el] at hk
    rw [o 4 (by decide)]
    exact S k hk
  · unfold Val
    rw [el, eb, o 8 (by decide), o 7 (by decide), o 6 (by decide), o 9 (by decide), o 3 (by decide), o 0 (by decide)]
    exact V
  · rw [el] at hk
    rw [sr_s, er]
    have r42 := rem_42 D P
    by_cases e : k = l
    · subst e
      rw [upd_s]
      exact ⟨w, rfl, by omega⟩
    · rw [upd_o _ _ e]
      exact W k hk
theorem ok_rain {N : Nat} (v t : Int32) : Cok N (fun h => f_X7_rain h 0 v t) (fun h => f_X8_rain h 51 v t) := by
  rintro h ⟨r, R, α, g⟩
  have g' := g
  obtain ⟨g1, A, M, O, f, T, g7, g8, g9⟩ := g
  have H := M.1
  have D := O.1
  have h8 := D.2.2.2.1
  show ∃ z h1 h2, f_X7_rain h 0 v t = some (z, h1) ∧ f_X8_rain h1 51 v t = some (z, h2) ∧ GG N h2
  unfold f_X7_rain f_X8_rain
  rw [pp_0_1 H, bs]
  have inn : ∀ h1, f_X8_in h1 t.toInt64 (0 : Int64) (9999 : Int64) = some (if t < 0 then 0 else if 9999 < t then 0 else 1) := fun h1 => m_in h1 t 0 9999
  rcases lv_or D v with ⟨l, l1, rfl⟩ | ⟨a1, a2⟩
  · rw [c_hasLevel A D l1, bs, if_neg (by decide)]
    by_cases t1 : t < 0
    · rw [if_pos t1]
      refine ⟨-1, h, h, rfl, ?_, r, R, α, g'⟩
      rw [m_isLevel M D l1, bs, if_neg (by decide), inn, bs, if_pos t1, if_pos rfl]
    · rw [if_neg t1]
      obtain ⟨tn, tn1, rfl⟩ := i_nat t1
      by_cases t2 : tn ≤ 9999
      · have t2' : ¬ (9999 : Int32) < nI tn := nI_nlt (b := tn) (a := 9999) t2 (by decide)
        obtain ⟨w, w1, w2⟩ := O.2.2.2.2 l l1
        rw [if_pos (show nI tn ≤ 9999 from nI_le (b := 9999) t2 (by decide)), bs, ac_p8 A, bs, ac_l1 A, if_inI (by omega) (by omega), nI_clamp (by omega), ac_1 A (by omega), w1]
        have m1 : ∀ k1, Am k1 α → f_X8_isLevel k1 51 (nI l) = some 1 := fun k1 M1 => m_isLevel M1 D l1
        by_cases hw : 9999 ≤ w
        · rw [if_pos (show (9999 : Int32) ≤ nI w from nI_le (a := 9999) hw (by omega))]
          unfold f_X7_rain_65
          rw [pp_0_8 H, bs, forget_e, bs]
          have F2 : Fr (fun a j => a = 32 ∧ j = 15) h (sI h 32 15 (-2)) := Fr_sI _ _ _ _ ⟨rfl, rfl⟩
          have q2 : hI (sI h 32 15 (-2)) 32 15 = -2 := by rw [hI_sI, if_pos ⟨rfl, rfl⟩]
          generalize sI h 32 15 (-2) = h2 at F2 q2 ⊢
          have A2 : Ac h2 3 α := Fr_Ac F2 (fun a j h1 h2 z => by omega) A
          have M2 : Am h2 α := Am_Fr F2 (fun j z => by omega) M
          rw [pp_0_1 M2.1, bs, ac_p8 A2, bs, ac_l1 A2, if_inI (by omega) (by omega), nI_clamp (by omega), ac_1 A2 (by omega)]
          refine ⟨α 1 l, h2, h2, rfl, ?_, r, R, α, GI_set g' (Fq_mono (Fr_q F2) (Q := PCh) (fun a j z => by unfold PCh; omega)) PCh_ok A2 M2 O f (Or.inl q2)⟩
          rw [m1 h2 M2, bs, if_neg (by decide), inn, bs, if_neg t1, if_neg t2', if_neg (by decide), m_waterOf M2 D l1, bs, bs, w1, if_pos (show (9999 : Int32) ≤ nI w from nI_le (a := 9999) hw (by omega))]
          unfold f_X8_rain_66
          rw [m_waterOf M2 D l1, bs, w1]
        · rw [if_neg (show ¬ (9999 : Int32) ≤ nI w from nI_ge (b := 9999) (by omega) (by decide)), bs, ac_p8 A, bs, bs, ac_p8 A, bs, ac_l1 A, if_pos ⟨nI_pos' (by omega), by omega⟩, lts, if_pos ⟨nI_pos' (by omega), by omega⟩, lts, ac_1 A (by omega), w1, nI_add]
          have ex : (if (9999 : Int32) < nI (w + tn) then (9999 : Int32) else nI (w + tn)) = nI (if 9999 < w + tn then 9999 else w + tn) := by
            by_cases c : 9999 < w + tn
            · rw [if_pos c, if_pos (show (9999 : Int32) < nI (w + tn) from nI_lt (a := 9999) c (by omega))]; rfl
            · rw [if_neg c, if_neg (show ¬ (9999 : Int32) < nI (w + tn) from nI_nlt (a := 9999) (by omega) (by decide))]
          rw [ex]
          have hx : (if 9999 < w + tn then 9999 else w + tn) ≤ 9999 := by split <;> omega
          have ex2 : (if nI (w + tn) ≤ (9999 : Int32) then nI (w + tn) else (9999 : Int32)) = nI (if 9999 < w + tn then 9999 else w + tn) := by
            by_cases c : 9999 < w + tn
            · rw [if_pos c, if_neg (show ¬ nI (w + tn) ≤ (9999 : Int32) from nI_ge (a := 9999) c (by omega))]; rfl
            · rw [if_neg c, if_pos (show nI (w + tn) ≤ (9999 : Int32) from nI_le (b := 9999) (by omega) (by decide))]
          generalize hxe : (if 9999 < w + tn then 9999 else w + tn) = x at hx ex2 ⊢
          have A1 := Ac_w A 1 l (nI x)
          have F1 : Fr (fun a j => a = 4) h (sI h (3 + 1) l (nI x)) := Fr_sI _ _ _ _ rfl
          have A1' : Ac (sI h 4 l (nI x)) 3 (sr α 1 (upd (α 1) l (nI x))) := A1
          have F1' : Fr (fun a j => a = 4) h (sI h 4 l (nI x)) := F1
          show ∃ z h1 h2, f_X7_rain_65 (sI h 4 l (nI x)) 0 (nI l) = some (z, h1) ∧ _
          generalize sI h 4 l (nI x) = h1 at A1' F1' ⊢
          have H1 := Fr_SHP F1' H
          unfold f_X7_rain_65
          rw [pp_0_8 H1, bs, forget_e, bs]
          have F2 : Fr (fun a j => a = 32 ∧ j = 15) h1 (sI h1 32 15 (-2)) := Fr_sI _ _ _ _ ⟨rfl, rfl⟩
          have q2 : hI (sI h1 32 15 (-2)) 32 15 = -2 := by rw [hI_sI, if_pos ⟨rfl, rfl⟩]
          generalize sI h1 32 15 (-2) = h2 at F2 q2 ⊢
          have A2 : Ac h2 3 (sr α 1 (upd (α 1) l (nI x))) := Fr_Ac F2 (fun a j h1 h2 z => by omega) A1'
          have F12 : Fq PCc h h2 := Fq_trans (Fq_mono (Fr_q F1') (fun a j z => Or.inl (by omega))) (Fq_mono (Fr_q F2) (fun a j z => Or.inr z))
          have M2 : Am h2 α := Am_Fq F12 (fun j z => by unfold PCc at z; omega) M
          rw [pp_0_1 M2.1, bs, ac_p8 A2, bs, ac_l1 A2, if_inI (by omega) (by omega), nI_clamp (by omega), ac_1 A2 (by omega), sr_s, upd_s]
          have M3 := Am_w M2 D (k := 1) (i := l) (nI x) l1 (by omega)
          rw [show ad 1 l = 9 + 2 * l from rfl] at M3
          have F3 : Fq PCm h2 (sI h2 62 (9 + 2 * l) (nI x)) := Fq_sI _ _ _ _ (Or.inl rfl)
          refine ⟨nI x, h2, sI h2 62 (9 + 2 * l) (nI x), rfl, ?_, r, R, sr α 1 (upd (α 1) l (nI x)), ?_⟩
          · rw [m1 h2 M2, bs, if_neg (by decide), inn, bs, if_neg t1, if_neg t2', if_neg (by decide), m_waterOf M2 D l1, bs, bs, w1, if_neg (show ¬ (9999 : Int32) ≤ nI w from nI_ge (b := 9999) (by omega) (by decide)), pp_51_26 M2.1, bs, nI_add]
            have fin : ∀ y, y = nI x → f_X8_rain_65 h2 51 (nI l) y (9 + 2 * nI l) 62 = some (nI x, sI h2 62 (9 + 2 * l) (nI x)) := by
              rintro y rfl
              unfold f_X8_rain_65 f_X8_rain_66
              have D3 : Dm (sr α 1 (upd (α 1) l (nI x))) := Dm_of (fun j _ => by rw [sr_o _ _ (by decide)]) D
              rw [ix2, ll_62 M2.1, if_inI (by omega) (by omega), lts, nI_clamp (by omega), m_waterOf M3 D3 (by rw [lvl_of (by rw [sr_o _ _ (by decide)])]; exact l1), bs, sr_s, upd_s]
            by_cases c : nI (w + tn) ≤ (9999 : Int32)
            · rw [if_pos c] at ex2 ⊢
              exact fin _ ex2
            · rw [if_neg c] at ex2 ⊢
              exact fin _ ex2
          · generalize sI h2 62 (9 + 2 * l) (nI x) = h3 at M3 F3 ⊢
            exact GI_set g' (Fq_trans (Fq_mono F12 PCc_h) (Fq_mono F3 PCm_h)) PCh_ok (Fq_Ac F3 (fun a j h1 h2 z => by unfold PCm at z; omega) A2) M3 (Ok_water O l1 hx) (fOk_of (by rw [sr_o _ _ (by decide)]) f) (Or.inl (by rw [F3.2.2.2 32 15 (fun z => by unfold PCm at z; omega)]; exact q2))
      · have c1 : ¬ nI tn ≤ (9999 : Int32) := nI_ge (a := 9999) (by omega) tn1
        rw [if_neg c1]
        refine ⟨-1, h, h, rfl, ?_, r, R, α, g'⟩
        rw [m_isLevel M D l1, bs, if_neg (by decide), inn, bs, if_neg t1, if_pos (Int32.not_le.mp c1), if_pos rfl]
  · rw [a1 h A, bs, if_pos rfl]
    refine ⟨-1, h, h, rfl, ?_, r, R, α, g'⟩
    rw [a2 h M, bs, if_pos rfl]
/-! bits of what is broken -/
theorem shr_xor (x y : Int32) (s : Int32) : (x ^^^ y) >>> s = (x >>> s) ^^^ (y >>> s) := by
  apply Int32.toBitVec_inj.mp
  simp [Int32.toBitVec_shiftRight, Int32.toBitVec_xor, BitVec.sshiftRight_xor_distrib]
theorem and_xor (x y z : Int32) : (x ^^^ y) &&& z = (x &&& z) ^^^ (y &&& z) := by
  apply Int32.toBitVec_inj.mp
  simp only [Int32.toBitVec_and, Int32.toBitVec_xor]
  ext i hi
  simp [Bool.and_xor_distrib_right]
theorem one_bit : ∀ k, k < 8 → ∀ l, l < 8 → (((1 : Int32) <<< (nI k &&& 31)) >>> (nI l &&& 31)) &&& 1 = if l = k then 1 else 0 := by decide
theorem flip_bit (x : Int32) {k l : Nat} (hk : k < 8) (hl : l < 8) : (((x ^^^ ((1 : Int32) <<< (nI k &&& 31))) >>> (nI l &&& 31)) &&& 1 = 1) ↔ (if l = k then ¬ (x >>> (nI l &&& 31)) &&& 1 = 1 else (x >>> (nI l &&& 31)) &&& 1 = 1) := by
  rw [shr_xor, and_xor, one_bit k hk l hl]
  by_cases e : l = k
  · rw [if_pos e, if_pos e]
    rcases and1 (x >>> (nI l &&& 31)) with z | z
    · rw [z]; decide
    · rw [z]; decide
  · rw [if_neg e, if_neg e]
    rcases and1 (x >>> (nI l &&& 31)) with z | z
    · rw [z]; decide
    · rw [z]; decide
theorem ok_chain {N : Nat} (v s : Int32) (hs : s = 0 ∨ s = 1) : Cok N (fun h => f_X7_chain h 0 v s) (fun h => f_X8_chain h 51 v s) := by
  rintro h ⟨r, R, α, g⟩
  have g' := g
  obtain ⟨g1, A, M, O, f, T, g7, g8, g9⟩ := g
  have H := M.1
  have D := O.1
  have h8 := D.2.2.2.1
  show ∃ z h1 h2, f_X7_chain h 0 v s = some (z, h1) ∧ f_X8_chain h1 51 v s = some (z, h2) ∧ GG N h2
  have c9 : f_X7_chain h 0 v s = f_X7_chain_9 h 0 v s := by
    unfold f_X7_chain
    rcases hs with rfl | rfl
    · rw [if_pos rfl]
    · rw [if_neg (by decide)]
  rw [c9]
  unfold f_X7_chain_9 f_X8_chain
  rw [pp_0_1 H, bs]
  rcases st_or D v with ⟨k, k1, rfl⟩ | ⟨a1, a2⟩
  · have v01 := O.2.2.2.1.2.2.1 k k1
    rw [c_hasStep A D k1, bs, if_neg (by decide), bs, ac_p10 A, bs, ac_l3 A, if_inI (by omega) (by omega), nI_clamp (by omega), ac_3 A (by omega)]
    by_cases e : α 3 k = s
    · rw [if_pos e]
      refine ⟨0, h, h, rfl, ?_, r, R, α, g'⟩
      rw [m_isStep M D k1, bs, if_neg (by decide), pp_51_26 H, bs, ll_62 H, if_pos (by decide), m_isOf M k1, bs]
      rw [if_neg ?_]
      rcases v01 with z | z
      · rw [if_pos z, ← e, z]; decide
      · rw [if_neg (by rw [z]; decide), ← e, z]; decide
    · rw [if_neg e, bs, ac_p10 A, bs, ac_l3 A, if_pos ⟨nI_pos' (by omega), by omega⟩, lts]
      have A1 : Ac (sI h 6 k s) 3 (sr α 3 (upd (α 3) k s)) := Ac_w A 3 k s
      have F1 : Fr (fun a j => a = 6) h (sI h 6 k s) := Fr_sI _ _ _ _ rfl
      show ∃ z h1 h2, (Option.bind (hP (sI h 6 k s) 0 8) (fun q12 => Option.bind (f_X3_forget (sI h 6 k s) q12) (fun h13 => some (((1 : Int32), h13))))) = some (z, h1) ∧ _
      generalize sI h 6 k s = h1 at A1 F1 ⊢
      have H1 := Fr_SHP F1 H
      rw [pp_0_8 H1, bs, forget_e, bs]
      have F2 : Fr (fun a j => a = 32 ∧ j = 15) h1 (sI h1 32 15 (-2)) := Fr_sI _ _ _ _ ⟨rfl, rfl⟩
      have q2 : hI (sI h1 32 15 (-2)) 32 15 = -2 := by rw [hI_sI, if_pos ⟨rfl, rfl⟩]
      generalize sI h1 32 15 (-2) = h2 at F2 q2 ⊢
      have A2 : Ac h2 3 (sr α 3 (upd (α 3) k s)) := Fr_Ac F2 (fun a j h1 h2 z => by omega) A1
      have F12 : Fq PCc h h2 := Fq_trans (Fq_mono (Fr_q F1) (fun a j z => Or.inl (by omega))) (Fq_mono (Fr_q F2) (fun a j z => Or.inr z))
      have M2 : Am h2 α := Am_Fq F12 (fun j z => by unfold PCc at z; omega) M
      have F3 : Fq PCm h2 (sI h2 62 5 (hI h2 62 5 ^^^ ((1 : Int32) <<< (nI k &&& 31)))) := Fq_sI _ _ _ _ (Or.inl rfl)
      refine ⟨1, h2, sI h2 62 5 (hI h2 62 5 ^^^ ((1 : Int32) <<< (nI k &&& 31))), rfl, ?_, r, R, sr α 3 (upd (α 3) k s), ?_⟩
      · rw [m_isStep M2 D k1, bs, if_neg (by decide), pp_51_26 M2.1, bs, ll_62 M2.1, if_pos (by decide), m_isOf M2 k1, bs, if_pos ?_, bs, ll_62 M2.1, if_pos (by decide), lts, if_pos (by decide), lts]
        rcases v01 with z | z
        · rw [if_pos z]
          rcases hs with rfl | rfl
          · exact absurd z e
          · rfl
        · rw [if_neg (by rw [z]; decide)]
          rcases hs with rfl | rfl
          · rfl
          · exact absurd z e
      · have o : ∀ a, a ≠ 3 → sr α 3 (upd (α 3) k s) a = α a := fun a ha => sr_o _ _ ha
        have el : lvl (sr α 3 (upd (α 3) k s)) = lvl α := lvl_of (by rw [o 0 (by decide)])
        have eb : bgs (sr α 3 (upd (α 3) k s)) = bgs α := bgs_of (by rw [o 0 (by decide)])
        have M3 : Am (sI h2 62 5 (hI h2 62 5 ^^^ ((1 : Int32) <<< (nI k &&& 31)))) (sr α 3 (upd (α 3) k s)) := by
          refine ⟨Fq_SHP F3 M2.1, ?_⟩
          rw [hI_sI_s]
          have S := M2.2
          refine ⟨fun a i hi => ?_, fun l hl => ?_, fun a ha => ?_, fun b hb h6 => ?_, fun l hl h8' => ?_⟩
          · rw [rgn_of (fun j _ => by rw [o 0 (by decide)])] at hi
            obtain ⟨x1, x2⟩ := rgn_le D hi
            rw [upd_o _ _ (ad_63 a x1 i x2).2, o a (fun z => by subst z; exact absurd hi (Nat.not_lt_zero i))]
            exact S.1 a i hi
          · rw [el] at hl
            rw [upd_s, flip_bit _ (by omega) (by omega), sr_s]
            have sl := S.2.1 l hl
            by_cases e2 : l = k
            · subst e2
              rw [if_pos rfl, upd_s, sl]
              rcases v01 with z | z
              · rcases hs with rfl | rfl
                · exact absurd z e
                · rw [z]; decide
              · rcases hs with rfl | rfl
                · rw [z]; decide
                · exact absurd z e
            · rw [if_neg e2, upd_o _ _ e2, sl]
          · rw [bks_of (by rw [o 0 (by decide)])] at ha
            rw [el, eb, o 10 (by decide), upd_o _ _ (by omega), upd_o _ _ (by omega), upd_o _ _ (by omega)]
            exact S.2.2.1 a ha
          · rw [upd_o _ _ (by omega)]; exact S.2.2.2.1 b (by rw [← eb]; exact hb) h6
          · rw [upd_o _ _ (by omega)]; exact S.2.2.2.2 l (by rw [← el]; exact hl) h8'
        generalize sI h2 62 5 (hI h2 62 5 ^^^ ((1 : Int32) <<< (nI k &&& 31))) = h3 at M3 F3 ⊢
        have Ok3 : Ok (sr α 3 (upd (α 3) k s)) := by
          obtain ⟨D0, P0, S0, V0, W0⟩ := O
          refine ⟨Dm_of (fun j _ => by rw [o 0 (by decide)]) D0, fun b hb => by rw [eb] at hb; rw [el, o 5 (by decide)]; exact P0 b hb, fun l hl => by rw [el] at hl; rw [o 4 (by decide)]; exact S0 l hl, ?_, fun l hl => ?_⟩
          · obtain ⟨u1, u2, u3, u4, u5, u6⟩ := V0
            unfold Val
            rw [el, eb, o 8 (by decide), o 7 (by decide), o 6 (by decide), o 9 (by decide), o 0 (by decide), sr_s]
            refine ⟨u1, u2, fun l hl => ?_, u4, u5, u6⟩
            by_cases e2 : l = k
            · subst e2; rw [upd_s]; exact hs
            · rw [upd_o _ _ e2]; exact u3 l hl
          · rw [el] at hl
            rw [o 1 (by decide)]
            have er : rem (sr α 3 (upd (α 3) k s)) = rem α := by
              unfold rem
              rw [eb]
              exact sumB_cong _ (fun b _ => by
                unfold rm1
                rw [o 8 (by decide), el, o 5 (by decide)])
            rw [er]
            exact W0 l hl
        exact GI_set g' (Fq_trans (Fq_mono F12 PCc_h) (Fq_mono F3 PCm_h)) PCh_ok (Fq_Ac F3 (fun a j h1 h2 z => by unfold PCm at z; omega) A2) M3 Ok3 (fOk_of (by rw [o 0 (by decide)]) f) (Or.inl (by rw [F3.2.2.2 32 15 (fun z => by unfold PCm at z; omega)]; exact q2))
  · rw [a1 h A, bs, if_pos rfl]
    refine ⟨0, h, h, rfl, ?_, r, R, α, g'⟩
    rw [a2 h M, bs, if_pos rfl]
theorem RN_ok {rl : RLT} : ∀ (n : Nat) {α : SA}, Ok α → Ok (RN rl n α).2 ∧ (RN rl n α).2 0 5 = α 0 5 ∧ lvl (RN rl n α).2 = lvl α ∧ bgs (RN rl n α).2 = bgs α
  | 0, α, O => ⟨O, rfl, rfl, rfl⟩
  | n + 1, α, O => by
    rw [RN]
    cases e : TL α rl with
    | nil => exact ⟨O, rfl, rfl, rfl⟩
    | cons x l =>
      have hx : x ∈ TL α rl := by rw [e]; simp
      obtain ⟨a, b, c, d⟩ := RN_ok (rl := rl) n (Ok_tip O hx)
      exact ⟨a, b.trans (dN_05 _ _ _), c.trans (dN_dims _ _ _).1, d.trans (dN_dims _ _ _).2⟩
