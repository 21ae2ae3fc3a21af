section VA
variable {X : XT} {cc : ByteArray} {own : String} {nL : Nat} {ret : Option FieldType} {rm : Room} {cs sl : Nat} {h : Hp} {pc : Nat} {lv lv' : List (Nat × PV)} {st : List PV}
theorem V_iald (C : CX X cc own nL ret rm) {w : Nat} {i : Int32} {j : Nat} (hin : vp_in i (hL h w)) (hj : i.toNatClampNeg = j) (d : decode cc pc = .ok (.iaload, 1)) (k : V X cs sl h (pc + 1) lv (vI (hI h w j) :: st)) : V X cs sl h pc lv (vI i :: vR 10 (some w) :: st) := by
  subst hj
  obtain ⟨p, l, e, R, s, m, args, below, meth, cd, Q, G, n', h0⟩ := X
  obtain ⟨hx, hb, hml, hown, hts, hKv, rfl, hR, hr, hlk, hgb, hsk⟩ := C
  intro H locs ls hE hPi hS hl t1 t2
  obtain ⟨hw1, hw2⟩ := ty_r (by decide : 10 < 16) (ty_h (ty_1 t2))
  have he := hw_get (G := G) hw1
  rw [hc_int hw2 (by decide) (by decide) (by decide)] at he
  exact va_iald hx hb hKv hPi.2.2 w 1 he rfl hin d (k H locs ls hE hPi hS hl t1 (ty_c trivial (ty_2 t2)))
theorem V_bald (C : CX X cc own nL ret rm) {w : Nat} {i : Int32} {j : Nat} (hin : vp_in i (hL h w)) (hj : i.toNatClampNeg = j) (d : decode cc pc = .ok (.baload, 1)) (k : V X cs sl h (pc + 1) lv (vI (hI h w j) :: st)) : V X cs sl h pc lv (vI i :: vR 9 (some w) :: st) := by
  subst hj
  obtain ⟨p, l, e, R, s, m, args, below, meth, cd, Q, G, n', h0⟩ := X
  obtain ⟨hx, hb, hml, hown, hts, hKv, rfl, hR, hr, hlk, hgb, hsk⟩ := C
  intro H locs ls hE hPi hS hl t1 t2
  obtain ⟨hw1, hw2⟩ := ty_r (by decide : 9 < 16) (ty_h (ty_1 t2))
  have he := hw_get (G := G) hw1
  rw [hc_int hw2 (by decide) (by decide) (by decide)] at he
  exact va_bald hx hb hKv hPi.2.2 w 0 he rfl hin d (k H locs ls hE hPi hS hl t1 (ty_c trivial (ty_2 t2)))
theorem V_zald (C : CX X cc own nL ret rm) {w : Nat} {i : Int32} {j : Nat} (hin : vp_in i (hL h w)) (hj : i.toNatClampNeg = j) (d : decode cc pc = .ok (.baload, 1)) (k : V X cs sl h (pc + 1) lv (vI (hI h w j) :: st)) : V X cs sl h pc lv (vI i :: vR 12 (some w) :: st) := by
  subst hj
  obtain ⟨p, l, e, R, s, m, args, below, meth, cd, Q, G, n', h0⟩ := X
  obtain ⟨hx, hb, hml, hown, hts, hKv, rfl, hR, hr, hlk, hgb, hsk⟩ := C
  intro H locs ls hE hPi hS hl t1 t2
  obtain ⟨hw1, hw2⟩ := ty_r (by decide : 12 < 16) (ty_h (ty_1 t2))
  have he := hw_get (G := G) hw1
  rw [hc_int hw2 (by decide) (by decide) (by decide)] at he
  exact va_zald hx hb hKv hPi.2.2 w 3 he rfl hin d (k H locs ls hE hPi hS hl t1 (ty_c trivial (ty_2 t2)))
theorem V_lald (C : CX X cc own nL ret rm) {w : Nat} {i : Int32} {j : Nat} (hin : vp_in i (hL h w)) (hj : i.toNatClampNeg = j) (d : decode cc pc = .ok (.laload, 1)) (k : V X cs sl h (pc + 1) lv (vL (hJ h w j) :: st)) : V X cs sl h pc lv (vI i :: vR 11 (some w) :: st) := by
  subst hj
  obtain ⟨p, l, e, R, s, m, args, below, meth, cd, Q, G, n', h0⟩ := X
  obtain ⟨hx, hb, hml, hown, hts, hKv, rfl, hR, hr, hlk, hgb, hsk⟩ := C
  intro H locs ls hE hPi hS hl t1 t2
  obtain ⟨hw1, hw2⟩ := ty_r (by decide : 11 < 16) (ty_h (ty_1 t2))
  have he := hw_get (G := G) hw1
  rw [hc_long hw2] at he
  exact va_lald hx hb hKv hPi.2.2 w 2 he rfl hin d (k H locs ls hE hPi hS hl t1 (ty_c trivial (ty_2 t2)))
theorem V_ruleld (C : CX X cc own nL ret rm) {w : Nat} {i : Int32} {j : Nat} (hin : vp_in i (hL h w)) (hj : i.toNatClampNeg = j) (d : decode cc pc = .ok (.aaload, 1)) (k : V X cs sl h (pc + 1) lv (vR 1 (hP h w j) :: st)) : V X cs sl h pc lv (vI i :: vR 13 (some w) :: st) := by
  subst hj
  obtain ⟨p, l, e, R, s, m, args, below, meth, cd, Q, G, n', h0⟩ := X
  obtain ⟨hx, hb, hml, hown, hts, hKv, rfl, hR, hr, hlk, hgb, hsk⟩ := C
  intro H locs ls hE hPi hS hl t1 t2
  obtain ⟨hw1, hw2⟩ := ty_r (by decide : 13 < 16) (ty_h (ty_1 t2))
  have he := hw_get (G := G) hw1
  rw [hc_ref hw2 (by decide)] at he
  refine va_aldq hx hb hKv hPi.2.2 w 4 he rfl hin d ?_
  have k1 := k H locs ls hE hPi hS hl t1 (ty_c (fun q hq => ?_) (ty_2 t2))
  · exact k1
  · have h1 := hPi.2.1 w _ q hw1 hq
    rw [hw2] at h1
    exact Or.inr ⟨(by decide : 1 < 16), h1⟩
theorem V_stateld (C : CX X cc own nL ret rm) {w : Nat} {i : Int32} {j : Nat} (hin : vp_in i (hL h w)) (hj : i.toNatClampNeg = j) (d : decode cc pc = .ok (.aaload, 1)) (k : V X cs sl h (pc + 1) lv (vR 5 (hP h w j) :: st)) : V X cs sl h pc lv (vI i :: vR 14 (some w) :: st) := by
  subst hj
  obtain ⟨p, l, e, R, s, m, args, below, meth, cd, Q, G, n', h0⟩ := X
  obtain ⟨hx, hb, hml, hown, hts, hKv, rfl, hR, hr, hlk, hgb, hsk⟩ := C
  intro H locs ls hE hPi hS hl t1 t2
  obtain ⟨hw1, hw2⟩ := ty_r (by decide : 14 < 16) (ty_h (ty_1 t2))
  have he := hw_get (G := G) hw1
  rw [hc_ref hw2 (by decide)] at he
  refine va_aldq hx hb hKv hPi.2.2 w 5 he rfl hin d ?_
  have k1 := k H locs ls hE hPi hS hl t1 (ty_c (fun q hq => ?_) (ty_2 t2))
  · exact k1
  · have h1 := hPi.2.1 w _ q hw1 hq
    rw [hw2] at h1
    exact Or.inr ⟨(by decide : 5 < 16), h1⟩
theorem V_iast (C : CX X cc own nL ret rm) {w : Nat} {i : Int32} {x : Int32} {j : Nat} (hin : vp_in i (hL h w)) (hj : i.toNatClampNeg = j) (d : decode cc pc = .ok (.iastore, 1)) (k : V X cs sl (sI h w j (x)) (pc + 1) lv st) : V X cs sl h pc lv (vI x :: vI i :: vR 10 (some w) :: st) := by
  subst hj
  obtain ⟨p, l, e, R, s, m, args, below, meth, cd, Q, G, n', h0⟩ := X
  obtain ⟨hx, hb, hml, hown, hts, hKv, rfl, hR, hr, hlk, hgb, hsk⟩ := C
  intro H locs ls hE hPi hS hl t1 t2
  obtain ⟨hw1, hw2⟩ := ty_r (by decide : 10 < 16) (ty_h (ty_1 (ty_1 t2)))
  have hat := Pic_at hPi hw1
  rw [hc_int hw2 (by decide) (by decide) (by decide)] at hat
  refine W.iast hx hb (a := gB G + w) hat ((hKv.2 1 _ rfl).1 (hL h w) (fun j => .int (hI h w j))) (fun q => by cases q) (by show ¬ (i < 0 ∨ (arrV _ _ _).slots.size ≤ _); rw [arrV_size]; exact hin) rfl rfl d fun H1 e9 z oq => ?_
  refine k H1 _ ls hE (Pic_set (w := w) hPi hw1 z oq rfl sI_o hPi.2.1 ?_) (hS.put z oq (by show gB G ≤ _; omega)) hl t1 (ty_3 t2)
  rw [hc_int (show hK (sI h w i.toNatClampNeg (x)) w = 10 from hw2) (by decide) (by decide) (by decide)]
  show H1[gB G + w]? = some (vp_cell _ _)
  rw [e9, vp_cell_i, vp_cell_i, arrV_store]
  congr 2
  funext q
  show updV _ _ _ q = .int (if w = w ∧ q = i.toNatClampNeg then _ else _)
  by_cases hq : q = i.toNatClampNeg
  · rw [if_pos ⟨rfl, hq⟩]
    simp [updV, hq]
  · rw [if_neg (fun z => hq z.2)]
    simp [updV, hq]
theorem V_bast (C : CX X cc own nL ret rm) {w : Nat} {i : Int32} {x : Int32} {j : Nat} (hin : vp_in i (hL h w)) (hj : i.toNatClampNeg = j) (d : decode cc pc = .ok (.bastore, 1)) (k : V X cs sl (sI h w j (x.toInt8.toInt32)) (pc + 1) lv st) : V X cs sl h pc lv (vI x :: vI i :: vR 9 (some w) :: st) := by
  subst hj
  obtain ⟨p, l, e, R, s, m, args, below, meth, cd, Q, G, n', h0⟩ := X
  obtain ⟨hx, hb, hml, hown, hts, hKv, rfl, hR, hr, hlk, hgb, hsk⟩ := C
  intro H locs ls hE hPi hS hl t1 t2
  obtain ⟨hw1, hw2⟩ := ty_r (by decide : 9 < 16) (ty_h (ty_1 (ty_1 t2)))
  have hat := Pic_at hPi hw1
  rw [hc_int hw2 (by decide) (by decide) (by decide)] at hat
  refine W.bast hx hb (a := gB G + w) hat ((hKv.2 0 _ rfl).1 (hL h w) (fun j => .int (hI h w j))) (fun q => by cases q) (by show ¬ (i < 0 ∨ (arrV _ _ _).slots.size ≤ _); rw [arrV_size]; exact hin) rfl rfl d fun H1 e9 z oq => ?_
  rw [show narrow .byte (.int x) = .int x.toInt8.toInt32 from rfl] at e9
  refine k H1 _ ls hE (Pic_set (w := w) hPi hw1 z oq rfl sI_o hPi.2.1 ?_) (hS.put z oq (by show gB G ≤ _; omega)) hl t1 (ty_3 t2)
  rw [hc_int (show hK (sI h w i.toNatClampNeg (x.toInt8.toInt32)) w = 9 from hw2) (by decide) (by decide) (by decide)]
  show H1[gB G + w]? = some (vp_cell _ _)
  rw [e9, vp_cell_i, vp_cell_i, arrV_store]
  congr 2
  funext q
  show updV _ _ _ q = .int (if w = w ∧ q = i.toNatClampNeg then _ else _)
  by_cases hq : q = i.toNatClampNeg
  · rw [if_pos ⟨rfl, hq⟩]
    simp [updV, hq]
  · rw [if_neg (fun z => hq z.2)]
    simp [updV, hq]
theorem V_zast (C : CX X cc own nL ret rm) {w : Nat} {i : Int32} {x : Int32} {j : Nat} (hz : x = 0 ∨ x = 1) (hin : vp_in i (hL h w)) (hj : i.toNatClampNeg = j) (d : decode cc pc = .ok (.bastore, 1)) (k : V X cs sl (sI h w j (x)) (pc + 1) lv st) : V X cs sl h pc lv (vI x :: vI i :: vR 12 (some w) :: st) := by
  subst hj
  obtain ⟨p, l, e, R, s, m, args, below, meth, cd, Q, G, n', h0⟩ := X
  obtain ⟨hx, hb, hml, hown, hts, hKv, rfl, hR, hr, hlk, hgb, hsk⟩ := C
  intro H locs ls hE hPi hS hl t1 t2
  obtain ⟨hw1, hw2⟩ := ty_r (by decide : 12 < 16) (ty_h (ty_1 (ty_1 t2)))
  have hat := Pic_at hPi hw1
  rw [hc_int hw2 (by decide) (by decide) (by decide)] at hat
  refine W.zast hx hb (a := gB G + w) hat ((hKv.2 3 _ rfl).1 (hL h w) (fun j => .int (hI h w j))) (fun q => by cases q) (by show ¬ (i < 0 ∨ (arrV _ _ _).slots.size ≤ _); rw [arrV_size]; exact hin) rfl rfl d fun H1 e9 z oq => ?_
  rw [show narrow .boolean (.int x) = .int x from by rcases hz with rfl | rfl <;> decide] at e9
  refine k H1 _ ls hE (Pic_set (w := w) hPi hw1 z oq rfl sI_o hPi.2.1 ?_) (hS.put z oq (by show gB G ≤ _; omega)) hl t1 (ty_3 t2)
  rw [hc_int (show hK (sI h w i.toNatClampNeg (x)) w = 12 from hw2) (by decide) (by decide) (by decide)]
  show H1[gB G + w]? = some (vp_cell _ _)
  rw [e9, vp_cell_i, vp_cell_i, arrV_store]
  congr 2
  funext q
  show updV _ _ _ q = .int (if w = w ∧ q = i.toNatClampNeg then _ else _)
  by_cases hq : q = i.toNatClampNeg
  · rw [if_pos ⟨rfl, hq⟩]
    simp [updV, hq]
  · rw [if_neg (fun z => hq z.2)]
    simp [updV, hq]
theorem V_last (C : CX X cc own nL ret rm) {w : Nat} {i : Int32} {x : Int64} {j : Nat} (hin : vp_in i (hL h w)) (hj : i.toNatClampNeg = j) (d : decode cc pc = .ok (.lastore, 1)) (k : V X cs sl (sJ h w j (x)) (pc + 1) lv st) : V X cs sl h pc lv (vL x :: vI i :: vR 11 (some w) :: st) := by
  subst hj
  obtain ⟨p, l, e, R, s, m, args, below, meth, cd, Q, G, n', h0⟩ := X
  obtain ⟨hx, hb, hml, hown, hts, hKv, rfl, hR, hr, hlk, hgb, hsk⟩ := C
  intro H locs ls hE hPi hS hl t1 t2
  obtain ⟨hw1, hw2⟩ := ty_r (by decide : 11 < 16) (ty_h (ty_1 (ty_1 t2)))
  have hat := Pic_at hPi hw1
  rw [hc_long hw2] at hat
  refine W.last hx hb (a := gB G + w) hat ((hKv.2 2 _ rfl).1 (hL h w) (fun j => .long (hJ h w j))) (fun q => by cases q) (by show ¬ (i < 0 ∨ (arrV _ _ _).slots.size ≤ _); rw [arrV_size]; exact hin) rfl rfl d fun H1 e9 z oq => ?_
  refine k H1 _ ls hE (Pic_set (w := w) hPi hw1 z oq rfl sJ_o hPi.2.1 ?_) (hS.put z oq (by show gB G ≤ _; omega)) hl t1 (ty_3 t2)
  rw [hc_long (show hK (sJ h w i.toNatClampNeg (x)) w = 11 from hw2)]
  show H1[gB G + w]? = some (vp_cell _ _)
  rw [e9, vp_cell_l, vp_cell_l, arrV_store]
  congr 2
  funext q
  show updV _ _ _ q = .long (if w = w ∧ q = i.toNatClampNeg then _ else _)
  by_cases hq : q = i.toNatClampNeg
  · rw [if_pos ⟨rfl, hq⟩]
    simp [updV, hq]
  · rw [if_neg (fun z => hq z.2)]
    simp [updV, hq]
theorem V_rulest (C : CX X cc own nL ret rm) {w q : Nat} {i : Int32} {j : Nat} (hin : vp_in i (hL h w)) (hj : i.toNatClampNeg = j) (d : decode cc pc = .ok (.aastore, 1)) (k : V X cs sl (sP h w j (some q)) (pc + 1) lv st) : V X cs sl h pc lv (vR 1 (some q) :: vI i :: vR 13 (some w) :: st) := by
  subst hj
  obtain ⟨p, l, e, R, s, m, args, below, meth, cd, Q, G, n', h0⟩ := X
  obtain ⟨hx, hb, hml, hown, hts, hKv, rfl, hR, hr, hlk, hgb, hsk⟩ := C
  intro H locs ls hE hPi hS hl t1 t2
  obtain ⟨hq1, hq2⟩ := ty_r (by decide : 1 < 16) (ty_h t2)
  obtain ⟨hw1, hw2⟩ := ty_r (by decide : 13 < 16) (ty_h (ty_1 (ty_1 t2)))
  have hat := Pic_at hPi hw1
  rw [hc_ref hw2 (by decide)] at hat
  have hlt : i.toNatClampNeg < hL h w := Nat.not_le.mp fun z => hin (Or.inr z)
  have hi0 : ¬ i < 0 := fun z => hin (Or.inl z)
  have hatq := Pic_at hPi hq1
  rw [hc_obj hq2 (by decide)] at hatq
  obtain ⟨r', hr', cellV, g1, g2, g3, -⟩ := hatq
  have hcls := (hKv.1 1 _ rfl).2
  obtain ⟨kA, comp, k1, k2, k3, -⟩ := (hKv.2 4 _ rfl).2
  have hcomp : comp = (gD G).1 1 := Option.some.inj (k3.symm.trans hcls.1)
  subst hcomp
  obtain ⟨kC, hkC, -⟩ := hcls.2
  refine W.aast hx hb (a := gB G + w) (v := gB G + q) hat (fun q h => by cases h) (fun h => by cases h) k1 k2 rfl hkC ⟨hi0, by show _ < (arrV _ _ _).slots.size; rw [arrV_size]; exact hlt⟩ g1 (fun q h => by rw [g3] at h; cases h) (by rw [g2]; exact hkC) (by rw [g2]; exact va_assign hcls) rfl rfl d fun H1 e9 z oq => ?_
  refine k H1 _ ls hE (Pic_set (w := w) hPi hw1 z oq rfl sP_o (TH_sP hPi.2.1 hq1 (by rw [hw2]; exact hq2)) ?_) (hS.put z oq (by show gB G ≤ _; omega)) hl t1 (ty_3 t2)
  rw [hc_ref (show hK (sP h w i.toNatClampNeg (some q)) w = 13 from hw2) (by decide)]
  show H1[gB G + w]? = some (vp_cell _ _)
  rw [e9, vp_cell_q, vp_cell_q, arrV_store]
  congr 2
  funext j
  show updV _ _ _ j = va_rf ((if w = w ∧ j = i.toNatClampNeg then some q else hP h w j).map _)
  by_cases hq : j = i.toNatClampNeg
  · rw [if_pos ⟨rfl, hq⟩]
    simp [updV, hq, va_rf]
  · rw [if_neg (fun z => hq z.2)]
    simp [updV, hq]
theorem V_statest (C : CX X cc own nL ret rm) {w q : Nat} {i : Int32} {j : Nat} (hin : vp_in i (hL h w)) (hj : i.toNatClampNeg = j) (d : decode cc pc = .ok (.aastore, 1)) (k : V X cs sl (sP h w j (some q)) (pc + 1) lv st) : V X cs sl h pc lv (vR 5 (some q) :: vI i :: vR 14 (some w) :: st) := by
  subst hj
  obtain ⟨p, l, e, R, s, m, args, below, meth, cd, Q, G, n', h0⟩ := X
  obtain ⟨hx, hb, hml, hown, hts, hKv, rfl, hR, hr, hlk, hgb, hsk⟩ := C
  intro H locs ls hE hPi hS hl t1 t2
  obtain ⟨hq1, hq2⟩ := ty_r (by decide : 5 < 16) (ty_h t2)
  obtain ⟨hw1, hw2⟩ := ty_r (by decide : 14 < 16) (ty_h (ty_1 (ty_1 t2)))
  have hat := Pic_at hPi hw1
  rw [hc_ref hw2 (by decide)] at hat
  have hlt : i.toNatClampNeg < hL h w := Nat.not_le.mp fun z => hin (Or.inr z)
  have hi0 : ¬ i < 0 := fun z => hin (Or.inl z)
  have hatq := Pic_at hPi hq1
  rw [hc_obj hq2 (by decide)] at hatq
  obtain ⟨r', hr', cellV, g1, g2, g3, -⟩ := hatq
  have hcls := (hKv.1 5 _ rfl).2
  obtain ⟨kA, comp, k1, k2, k3, -⟩ := (hKv.2 5 _ rfl).2
  have hcomp : comp = (gD G).1 5 := Option.some.inj (k3.symm.trans hcls.1)
  subst hcomp
  obtain ⟨kC, hkC, -⟩ := hcls.2
  refine W.aast hx hb (a := gB G + w) (v := gB G + q) hat (fun q h => by cases h) (fun h => by cases h) k1 k2 rfl hkC ⟨hi0, by show _ < (arrV _ _ _).slots.size; rw [arrV_size]; exact hlt⟩ g1 (fun q h => by rw [g3] at h; cases h) (by rw [g2]; exact hkC) (by rw [g2]; exact va_assign hcls) rfl rfl d fun H1 e9 z oq => ?_
  refine k H1 _ ls hE (Pic_set (w := w) hPi hw1 z oq rfl sP_o (TH_sP hPi.2.1 hq1 (by rw [hw2]; exact hq2)) ?_) (hS.put z oq (by show gB G ≤ _; omega)) hl t1 (ty_3 t2)
  rw [hc_ref (show hK (sP h w i.toNatClampNeg (some q)) w = 14 from hw2) (by decide)]
  show H1[gB G + w]? = some (vp_cell _ _)
  rw [e9, vp_cell_q, vp_cell_q, arrV_store]
  congr 2
  funext j
  show updV _ _ _ j = va_rf ((if w = w ∧ j = i.toNatClampNeg then some q else hP h w j).map _)
  by_cases hq : j = i.toNatClampNeg
  · rw [if_pos ⟨rfl, hq⟩]
    simp [updV, hq, va_rf]
  · rw [if_neg (fun z => hq z.2)]
    simp [updV, hq]
theorem V_alen (C : CX X cc own nL ret rm) {w kd : Nat} (h9 : 9 ≤ kd) (h15 : kd < 16) (d : decode cc pc = .ok (.arraylength, 1)) (k : V X cs sl h (pc + 1) lv (vI (nI (hL h w)) :: st)) : V X cs sl h pc lv (vR kd (some w) :: st) := by
  obtain ⟨p, l, e, R, s, m, args, below, meth, cd, Q, G, n', h0⟩ := X
  obtain ⟨hx, hb, hml, hown, hts, hKv, rfl, hR, hr, hlk, hgb, hsk⟩ := C
  intro H locs ls hE hPi hS hl t1 t2
  obtain ⟨hw1, hw2⟩ := ty_r h15 (ty_h t2)
  have he := hw_get (G := G) hw1
  rw [List.map_cons, show cv G (vR kd (some w)) = .ref (gB G + w) from cR_s h15]
  have k1 := k H locs ls hE hPi hS hl t1 (ty_c trivial (ty_1 t2))
  obtain ⟨y, hy, hy1⟩ : ∃ y : vp_A, hcell G h w = .inl (gC G kd, y) ∧ y.1 = hL h w := by
    by_cases h11 : kd = 11
    · subst h11
      exact ⟨_, hc_long hw2, rfl⟩
    · by_cases h13 : kd < 13
      · exact ⟨_, hc_int hw2 (by omega) h11 h13, rfl⟩
      · exact ⟨_, hc_ref hw2 h13, rfl⟩
  rw [hy] at he
  have ht : ∃ ty, (tys G)[kd - 9]? = some (gC G kd, ty) := by
    rcases (show kd = 9 ∨ kd = 10 ∨ kd = 11 ∨ kd = 12 ∨ kd = 13 ∨ kd = 14 ∨ kd = 15 by omega) with rfl | rfl | rfl | rfl | rfl | rfl | rfl <;> exact ⟨_, rfl⟩
  obtain ⟨ty, ht⟩ := ht
  exact va_alen hx hb hKv hPi.2.2 w (kd - 9) he ht (by rw [hy1]; rfl) d k1
def isS (t : FieldType) : Bool := match t with
  | .object _ => true
  | .array _ => true
  | .int => true
  | .boolean => true
  | _ => false
/-- a class that can be made: links -/
def NL (own : String) (ix c : Nat) (N : Nat) : Prop := ∃ (Cn : String) (T : u_T), FX c Cn T N ∧ (∀ k, k < N → isS (fT c k) = true) ∧ Cond.classLink own ix Cn ∈ TT ∧ Cond.instantiable Cn N ∈ TT ∧ Cond.initialized Cn ∈ TT
theorem V_new (C : CX X cc own nL ret rm) {ix c N : Nat} (F : NL own ix c N) (hcs : cs + 1 ≤ rm.cells) (hsl : sl + N ≤ rm.slots) (d : decode cc pc = .ok (.new ix, 3)) (k : V X (cs + 1) (sl + N) (nO h c 0) (pc + 3) lv (vR c (some (hN h)) :: st)) : V X cs sl h pc lv st := by
  obtain ⟨p, l, e, R, s, m, args, below, meth, cd, Q, G, n', h0⟩ := X
  obtain ⟨hx, hb, hml, hown, hts, hKv, rfl, hR, hr, hlk, hgb, hsk⟩ := C
  intro H locs ls hE hPi hS hl t1 t2
  obtain ⟨Cn, T, F, hT, w1, w2, w3⟩ := F
  have hKn := hKv.1 c _ F.1
  subst hR
  refine W.newcK hx hb hown (hts _ w1) (hts _ w2) (hts _ w3) rfl d hcs hsl hKn.2.1 hPi.1 fun H1 kC hkC e1 z1 o1 => ?_
  have c16 : c < 16 := by have := F.2.2.1; omega
  have k1 := k H1 locs ls (ext_tr hE (ext_nO h c 0)) (Pic_push hPi (by rw [z1, hPi.1]) (fun q hq => o1 q (by rw [← hPi.1]; exact hq)) ?_) ⟨Nat.le_trans hS.1 (by rw [z1, hPi.1]; omega), fun x h1 h2 => (o1 x (by rw [← hPi.1]; exact Nat.lt_of_lt_of_le h1 hS.1)).trans (hS.2.1 x h1 h2), hS.2.2⟩ hl (tyl_ext (ext_nO h c 0) t1) (ty_c (ty_w c16 (Nat.lt_succ_self _) nO_k) (tys_ext (ext_nO h c 0) t2))
  · rw [List.map_cons, show cv G (vR c (some (hN h))) = .ref (gB G + hN h) from cR_s c16] at k1
    exact k1
  · rw [hc_obj nO_k F.2.2.1]
    refine ⟨_, F.1, (u_born (fT c) hts F.2.1 hKn hkC e1 F.2.2.2.2.1).to fun j hj => ?_⟩
    show defaultValue (fT c j) = vp_V _ j
    unfold vp_V
    rw [List.getD_eq_getElem?_getD, rg_get (by rw [F.2.2.2.1]; exact hj)]
    show defaultValue (fT c j) = fv G (nO h c 0) (hN h) j (fT c j)
    have hs := hT j hj
    have e8 : hI (nO h c 0) (hN h) j = 0 := if_pos rfl
    have e7 : hP (nO h c 0) (hN h) j = none := if_pos rfl
    generalize fT c j = t at hs ⊢
    unfold fv
    rw [e8, e7]
    cases t <;> first | rfl | exact absurd hs Bool.false_ne_true
theorem V_newb (C : CX X cc own nL ret rm) {n : Int32} {N : Nat} (hn : ¬ n < 0) (hN' : n.toNatClampNeg = N) (hby : N * componentBytes .byte ≤ 536870912) (hw : Cond.arrayClass .byte ∈ TT) (hcs : cs + 1 ≤ rm.cells) (hsl : sl + N ≤ rm.slots) (d : decode cc pc = .ok (.newarray .byte, 2)) (k : V X (cs + 1) (sl + N) (nO h 9 N) (pc + 2) lv (vR 9 (some (hN h)) :: st)) : V X cs sl h pc lv (vI n :: st) := by
  obtain ⟨p, l, e, R, s, m, args, below, meth, cd, Q, G, n', h0⟩ := X
  obtain ⟨hx, hb, hml, hown, hts, hKv, rfl, hR, hr, hlk, hgb, hsk⟩ := C
  intro H locs ls hE hPi hS hl t1 t2
  subst hR
  refine va_newaK (atype := .byte) hx hb (hts _ hw) rfl d rfl hn hN' hby hcs hsl hPi.1 fun H1 cA e1 z1 o1 hAr hNm => ?_
  have k1 := k H1 locs ls (ext_tr hE (ext_nO h 9 N)) (Pic_push hPi (by rw [z1, hPi.1]) (fun q hq => o1 q (by rw [← hPi.1]; exact hq)) ?_) ⟨Nat.le_trans hS.1 (by rw [z1, hPi.1]; omega), fun x h1 h2 => (o1 x (by rw [← hPi.1]; exact Nat.lt_of_lt_of_le h1 hS.1)).trans (hS.2.1 x h1 h2), hS.2.2⟩ hl (tyl_ext (ext_nO h 9 N) t1) (ty_c (ty_w (by decide) (Nat.lt_succ_self _) nO_k) (tys_ext (ext_nO h 9 N) (ty_1 t2)))
  · exact k1
  · rw [hc_int nO_k (by decide) (by decide) (by decide)]
    show H1[gB G + hN h]? = some (vp_cell _ _)
    have hcA : cA = gC G 9 := Option.some.inj (hNm.symm.trans (hKv.2 0 _ rfl).2)
    rw [e1, hcA, vp_cell_i]
    congr 2
    · exact (if_pos rfl).symm
    · funext j
      show _ = Value.int (if hN h = hN h then _ else _)
      rw [if_pos rfl]
      rfl
theorem V_newi (C : CX X cc own nL ret rm) {n : Int32} {N : Nat} (hn : ¬ n < 0) (hN' : n.toNatClampNeg = N) (hby : N * componentBytes .int ≤ 536870912) (hw : Cond.arrayClass .int ∈ TT) (hcs : cs + 1 ≤ rm.cells) (hsl : sl + N ≤ rm.slots) (d : decode cc pc = .ok (.newarray .int, 2)) (k : V X (cs + 1) (sl + N) (nO h 10 N) (pc + 2) lv (vR 10 (some (hN h)) :: st)) : V X cs sl h pc lv (vI n :: st) := by
  obtain ⟨p, l, e, R, s, m, args, below, meth, cd, Q, G, n', h0⟩ := X
  obtain ⟨hx, hb, hml, hown, hts, hKv, rfl, hR, hr, hlk, hgb, hsk⟩ := C
  intro H locs ls hE hPi hS hl t1 t2
  subst hR
  refine va_newaK (atype := .int) hx hb (hts _ hw) rfl d rfl hn hN' hby hcs hsl hPi.1 fun H1 cA e1 z1 o1 hAr hNm => ?_
  have k1 := k H1 locs ls (ext_tr hE (ext_nO h 10 N)) (Pic_push hPi (by rw [z1, hPi.1]) (fun q hq => o1 q (by rw [← hPi.1]; exact hq)) ?_) ⟨Nat.le_trans hS.1 (by rw [z1, hPi.1]; omega), fun x h1 h2 => (o1 x (by rw [← hPi.1]; exact Nat.lt_of_lt_of_le h1 hS.1)).trans (hS.2.1 x h1 h2), hS.2.2⟩ hl (tyl_ext (ext_nO h 10 N) t1) (ty_c (ty_w (by decide) (Nat.lt_succ_self _) nO_k) (tys_ext (ext_nO h 10 N) (ty_1 t2)))
  · exact k1
  · rw [hc_int nO_k (by decide) (by decide) (by decide)]
    show H1[gB G + hN h]? = some (vp_cell _ _)
    have hcA : cA = gC G 10 := Option.some.inj (hNm.symm.trans (hKv.2 1 _ rfl).2)
    rw [e1, hcA, vp_cell_i]
    congr 2
    · exact (if_pos rfl).symm
    · funext j
      show _ = Value.int (if hN h = hN h then _ else _)
      rw [if_pos rfl]
      rfl
theorem V_newl (C : CX X cc own nL ret rm) {n : Int32} {N : Nat} (hn : ¬ n < 0) (hN' : n.toNatClampNeg = N) (hby : N * componentBytes .long ≤ 536870912) (hw : Cond.arrayClass .long ∈ TT) (hcs : cs + 1 ≤ rm.cells) (hsl : sl + N ≤ rm.slots) (d : decode cc pc = .ok (.newarray .long, 2)) (k : V X (cs + 1) (sl + N) (nO h 11 N) (pc + 2) lv (vR 11 (some (hN h)) :: st)) : V X cs sl h pc lv (vI n :: st) := by
  obtain ⟨p, l, e, R, s, m, args, below, meth, cd, Q, G, n', h0⟩ := X
  obtain ⟨hx, hb, hml, hown, hts, hKv, rfl, hR, hr, hlk, hgb, hsk⟩ := C
  intro H locs ls hE hPi hS hl t1 t2
  subst hR
  refine va_newaK (atype := .long) hx hb (hts _ hw) rfl d rfl hn hN' hby hcs hsl hPi.1 fun H1 cA e1 z1 o1 hAr hNm => ?_
  have k1 := k H1 locs ls (ext_tr hE (ext_nO h 11 N)) (Pic_push hPi (by rw [z1, hPi.1]) (fun q hq => o1 q (by rw [← hPi.1]; exact hq)) ?_) ⟨Nat.le_trans hS.1 (by rw [z1, hPi.1]; omega), fun x h1 h2 => (o1 x (by rw [← hPi.1]; exact Nat.lt_of_lt_of_le h1 hS.1)).trans (hS.2.1 x h1 h2), hS.2.2⟩ hl (tyl_ext (ext_nO h 11 N) t1) (ty_c (ty_w (by decide) (Nat.lt_succ_self _) nO_k) (tys_ext (ext_nO h 11 N) (ty_1 t2)))
  · exact k1
  · rw [hc_long nO_k]
    show H1[gB G + hN h]? = some (vp_cell _ _)
    have hcA : cA = gC G 11 := Option.some.inj (hNm.symm.trans (hKv.2 2 _ rfl).2)
    rw [e1, hcA, vp_cell_l]
    congr 2
    · exact (if_pos rfl).symm
    · funext j
      show _ = Value.long (if hN h = hN h then _ else _)
      rw [if_pos rfl]
      rfl
theorem V_newz (C : CX X cc own nL ret rm) {n : Int32} {N : Nat} (hn : ¬ n < 0) (hN' : n.toNatClampNeg = N) (hby : N * componentBytes .boolean ≤ 536870912) (hw : Cond.arrayClass .boolean ∈ TT) (hcs : cs + 1 ≤ rm.cells) (hsl : sl + N ≤ rm.slots) (d : decode cc pc = .ok (.newarray .boolean, 2)) (k : V X (cs + 1) (sl + N) (nO h 12 N) (pc + 2) lv (vR 12 (some (hN h)) :: st)) : V X cs sl h pc lv (vI n :: st) := by
  obtain ⟨p, l, e, R, s, m, args, below, meth, cd, Q, G, n', h0⟩ := X
  obtain ⟨hx, hb, hml, hown, hts, hKv, rfl, hR, hr, hlk, hgb, hsk⟩ := C
  intro H locs ls hE hPi hS hl t1 t2
  subst hR
  refine va_newaK (atype := .boolean) hx hb (hts _ hw) rfl d rfl hn hN' hby hcs hsl hPi.1 fun H1 cA e1 z1 o1 hAr hNm => ?_
  have k1 := k H1 locs ls (ext_tr hE (ext_nO h 12 N)) (Pic_push hPi (by rw [z1, hPi.1]) (fun q hq => o1 q (by rw [← hPi.1]; exact hq)) ?_) ⟨Nat.le_trans hS.1 (by rw [z1, hPi.1]; omega), fun x h1 h2 => (o1 x (by rw [← hPi.1]; exact Nat.lt_of_lt_of_le h1 hS.1)).trans (hS.2.1 x h1 h2), hS.2.2⟩ hl (tyl_ext (ext_nO h 12 N) t1) (ty_c (ty_w (by decide) (Nat.lt_succ_self _) nO_k) (tys_ext (ext_nO h 12 N) (ty_1 t2)))
  · exact k1
  · rw [hc_int nO_k (by decide) (by decide) (by decide)]
    show H1[gB G + hN h]? = some (vp_cell _ _)
    have hcA : cA = gC G 12 := Option.some.inj (hNm.symm.trans (hKv.2 3 _ rfl).2)
    rw [e1, hcA, vp_cell_i]
    congr 2
    · exact (if_pos rfl).symm
    · funext j
      show _ = Value.int (if hN h = hN h then _ else _)
      rw [if_pos rfl]
      rfl
end VA
