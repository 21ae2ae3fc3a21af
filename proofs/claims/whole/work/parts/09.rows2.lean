section VB
variable {X : XT} {cc : ByteArray} {own : String} {nL : Nat} {ret : Option FieldType} {rm : Room} {cs sl : Nat} {h : Hp} {pc : Nat} {lv lv' : List (Nat × PV)} {st : List PV}
theorem V_copyK (C : CX X cc own nL ret rm) {ix a0 a1 : Nat} {sp dp n : Int32} (w1 : Cond.methodLink own ix arraycopyName ∈ TT) (w2 : Cond.native arraycopyName ∈ TT) (w3 : Cond.static arraycopyName ∈ TT) (w4 : Cond.initialized "java/lang/System" ∈ TT) (h1 : ¬ sp < 0) (h2 : ¬ dp < 0) (h3 : ¬ n < 0) {s0 d0 n0 : Nat} (e1 : sp.toNatClampNeg = s0) (e2 : dp.toNatClampNeg = d0) (e3 : n.toNatClampNeg = n0) (h4 : s0 + n0 ≤ hL h a0) (h5 : d0 + n0 ≤ hL h a1) (hf : 1 ≤ rm.frames) (hlo : csum st + (nativeFrameWords "java/lang/System" "arraycopy" 5 + 11) ≤ rm.locals) (d : decode cc pc = .ok (.invokestatic ix, 3)) (k : V X cs sl (sC h a0 a1 s0 d0 n0) (pc + 3) lv st) : V X cs sl h pc lv (vI n :: vI dp :: vR 10 (some a1) :: vI sp :: vR 10 (some a0) :: st) := by
  subst e1
  subst e2
  subst e3
  exact V_copy C w1 w2 w3 w4 h1 h2 h3 h4 h5 hf hlo d k
theorem V_rowld (C : CX X cc own nL ret rm) {w q : Nat} {i : Int32} {j : Nat} (hin : vp_in i (hL h w)) (hj : i.toNatClampNeg = j) (hq : hP h w j = some q) (d : decode cc pc = .ok (.aaload, 1)) (k : V X cs sl h (pc + 1) lv (vR 10 (some q) :: st)) : V X cs sl h pc lv (vI i :: vR 15 (some w) :: st) := by
  subst hj
  obtain ⟨p, l, e, R, s, m, args, below, meth, cd, Q, G, n', h0⟩ := X
  obtain ⟨hx, hb, hml, hown, hts, hKv, rfl, hR, hr, hlk, hgb, hsk⟩ := C
  intro H locs ls hE hPi hS hl t1 t2
  obtain ⟨hw1, hw2⟩ := ty_r (by decide : 15 < 16) (ty_h (ty_1 t2))
  have hat := Pic_at hPi hw1
  rw [hc_ref hw2 (by decide)] at hat
  have hq1 := hPi.2.1 w _ q hw1 hq
  rw [hw2] at hq1
  have hlt : i.toNatClampNeg < hL h w := Nat.not_le.mp fun z => hin (Or.inr z)
  refine W.aald hx hb (a := gB G + w) (v := .ref (gB G + q)) hat ((hKv.2 6 _ rfl).1 (hL h w) (fun j => va_rf ((hP h w j).map (gB G + ·)))) rfl (fun q => by cases q) (by show ¬ (i < 0 ∨ (arrV _ _ _).slots.size ≤ _); rw [arrV_size]; exact hin) ?_ rfl rfl d (k H locs ls hE hPi hS hl t1 (ty_c (ty_w (by decide) hq1.1 hq1.2) (ty_2 t2)))
  show (arrV (gC G 15) (hL h w) (fun j => va_rf ((hP h w j).map (gB G + ·)))).slots[i.toNatClampNeg]? = _
  rw [arrV_read _ _ hlt, hq]
  rfl
theorem V_newq13 (C : CX X cc own nL ret rm) {ix : Nat} {n : Int32} {N : Nat} (hcl : Cond.classLink own ix "WaterStair$Rule" ∈ TT) (hn : ¬ n < 0) (hN' : n.toNatClampNeg = N) (hby : N * 4 ≤ 536870912) (hcs : cs + 1 ≤ rm.cells) (hsl : sl + N ≤ rm.slots) (d : decode cc pc = .ok (.anewarray ix, 3)) (k : V X (cs + 1) (sl + N) (nO h 13 N) (pc + 3) lv (vR 13 (some (hN h)) :: st)) : V X cs sl h pc lv (vI n :: st) := by
  subst hN'
  obtain ⟨p, l, e, R, s, m, args, below, meth, cd, Q, G, n', h0⟩ := X
  obtain ⟨hx, hb, hml, hown, hts, hKv, rfl, hR, hr, hlk, hgb, hsk⟩ := C
  intro H locs ls hE hPi hS hl t1 t2
  subst hR
  refine W.anew hx hb hown (hts _ hcl) (ao_use hsk.2.2.2.1) rfl d rfl hn hby hcs hsl fun cA kA comp f1 f2 f3 f4 => ?_
  generalize hH1 : H.push ({ cls := cA, slots := Array.replicate n.toNatClampNeg .null, vm := .none } : Cell) = H1
  have z1 : H1.size = H.size + 1 := by rw [← hH1, Array.size_push]
  have e1 : H1[H.size]? = some (arrV cA n.toNatClampNeg (fun _ => .null)) := by rw [← hH1, Array.getElem?_push_size, ← arrV_new]
  have o1 : ∀ q : Nat, q < H.size → H1[q]? = H[q]? := fun q hq => by rw [← hH1, Array.getElem?_push, if_neg (Nat.ne_of_lt hq)]
  have k1 := k H1 locs ls (ext_tr hE (ext_nO h 13 n.toNatClampNeg)) (Pic_push hPi z1 o1 ?_) ⟨Nat.le_trans hS.1 (by rw [z1]; omega), fun x h1 h2 => (o1 x (Nat.lt_of_lt_of_le h1 hS.1)).trans (hS.2.1 x h1 h2), hS.2.2⟩ hl (tyl_ext (ext_nO h 13 n.toNatClampNeg) t1) (ty_c (ty_w (by decide) (Nat.lt_succ_self _) nO_k) (tys_ext (ext_nO h 13 n.toNatClampNeg) (ty_1 t2)))
  · rw [List.map_cons, show cv G (vR 13 (some (hN h))) = .ref (gB G + hN h) from cR_s (k := 13) (by decide), ← hPi.1] at k1
    exact k1
  · rw [hc_ref nO_k (by decide)]
    show H1[gB G + hN h]? = some (vp_cell _ _)
    obtain ⟨_, _, _, _, _, k4⟩ := (hKv.2 4 _ rfl).2
    have hcA : cA = gC G 13 := Option.some.inj (f1.symm.trans k4)
    rw [← hPi.1, e1, hcA, vp_cell_q]
    congr 2
    · exact (if_pos rfl).symm
    · funext j
      show _ = va_rf ((if hN h = hN h then none else _).map _)
      rw [if_pos rfl]
      rfl
theorem V_newq14 (C : CX X cc own nL ret rm) {ix : Nat} {n : Int32} {N : Nat} (hcl : Cond.classLink own ix "WaterStair$State" ∈ TT) (hn : ¬ n < 0) (hN' : n.toNatClampNeg = N) (hby : N * 4 ≤ 536870912) (hcs : cs + 1 ≤ rm.cells) (hsl : sl + N ≤ rm.slots) (d : decode cc pc = .ok (.anewarray ix, 3)) (k : V X (cs + 1) (sl + N) (nO h 14 N) (pc + 3) lv (vR 14 (some (hN h)) :: st)) : V X cs sl h pc lv (vI n :: st) := by
  subst hN'
  obtain ⟨p, l, e, R, s, m, args, below, meth, cd, Q, G, n', h0⟩ := X
  obtain ⟨hx, hb, hml, hown, hts, hKv, rfl, hR, hr, hlk, hgb, hsk⟩ := C
  intro H locs ls hE hPi hS hl t1 t2
  subst hR
  refine W.anew hx hb hown (hts _ hcl) (ao_use hsk.2.2.2.2.1) rfl d rfl hn hby hcs hsl fun cA kA comp f1 f2 f3 f4 => ?_
  generalize hH1 : H.push ({ cls := cA, slots := Array.replicate n.toNatClampNeg .null, vm := .none } : Cell) = H1
  have z1 : H1.size = H.size + 1 := by rw [← hH1, Array.size_push]
  have e1 : H1[H.size]? = some (arrV cA n.toNatClampNeg (fun _ => .null)) := by rw [← hH1, Array.getElem?_push_size, ← arrV_new]
  have o1 : ∀ q : Nat, q < H.size → H1[q]? = H[q]? := fun q hq => by rw [← hH1, Array.getElem?_push, if_neg (Nat.ne_of_lt hq)]
  have k1 := k H1 locs ls (ext_tr hE (ext_nO h 14 n.toNatClampNeg)) (Pic_push hPi z1 o1 ?_) ⟨Nat.le_trans hS.1 (by rw [z1]; omega), fun x h1 h2 => (o1 x (Nat.lt_of_lt_of_le h1 hS.1)).trans (hS.2.1 x h1 h2), hS.2.2⟩ hl (tyl_ext (ext_nO h 14 n.toNatClampNeg) t1) (ty_c (ty_w (by decide) (Nat.lt_succ_self _) nO_k) (tys_ext (ext_nO h 14 n.toNatClampNeg) (ty_1 t2)))
  · rw [List.map_cons, show cv G (vR 14 (some (hN h))) = .ref (gB G + hN h) from cR_s (k := 14) (by decide), ← hPi.1] at k1
    exact k1
  · rw [hc_ref nO_k (by decide)]
    show H1[gB G + hN h]? = some (vp_cell _ _)
    obtain ⟨_, _, _, _, _, k4⟩ := (hKv.2 5 _ rfl).2
    have hcA : cA = gC G 14 := Option.some.inj (f1.symm.trans k4)
    rw [← hPi.1, e1, hcA, vp_cell_q]
    congr 2
    · exact (if_pos rfl).symm
    · funext j
      show _ = va_rf ((if hN h = hN h then none else _).map _)
      rw [if_pos rfl]
      rfl
theorem ty_s {h : Hp} {k w : Nat} (hk : 16 ≤ k) (t : tyo h (vR k (some w))) : w < 9 := by
  rcases t w rfl with t | t
  · exact t.2
  · exact absurd t.1 (by omega)
theorem ty_x {h : Hp} {k w : Nat} (hk : 16 ≤ k) (a : w < 9) : tyo h (vR k (some w)) := fun w' e => by
  cases e
  exact Or.inl ⟨hk, a⟩
/-- a constant text's bytes -/
theorem V_strval (C : CX X cc own nL ret rm) {w ix : Nat} (hw : Cond.fieldLink own ix "java/lang/String" "value" "[B" ∈ TT) (d : decode cc pc = .ok (.getfield ix, 3)) (k : V X cs sl h (pc + 3) lv (vR 17 (some w) :: st)) : V X cs sl h pc lv (vR 16 (some w) :: st) := by
  obtain ⟨p, l, e, R, s, m, args, below, meth, cd, Q, G, n', h0⟩ := X
  obtain ⟨hx, hb, hml, hown, hts, hKv, rfl, hR, hr, hlk, hgb, hsk⟩ := C
  intro H locs ls hE hPi hS hl t1 t2
  have hi := ty_s (by decide : 16 ≤ 16) (ty_h t2)
  exact vk_getf hx hb (hsk.1.1.1 w hi).2.2.1 hS hown (hts _ hw) (fun x h9 => h9) d (k H locs ls hE hPi hS hl t1 (ty_c (ty_x (by decide) hi) (ty_1 t2)))
theorem V_strcoder (C : CX X cc own nL ret rm) {w ix : Nat} (hw : Cond.fieldLink own ix "java/lang/String" "coder" "B" ∈ TT) (d : decode cc pc = .ok (.getfield ix, 3)) (k : V X cs sl h (pc + 3) lv (vI 0 :: st)) : V X cs sl h pc lv (vR 16 (some w) :: st) := by
  obtain ⟨p, l, e, R, s, m, args, below, meth, cd, Q, G, n', h0⟩ := X
  obtain ⟨hx, hb, hml, hown, hts, hKv, rfl, hR, hr, hlk, hgb, hsk⟩ := C
  intro H locs ls hE hPi hS hl t1 t2
  have hi := ty_s (by decide : 16 ≤ 16) (ty_h t2)
  exact vk_getf hx hb (hsk.1.1.1 w hi).2.1 hS hown (hts _ hw) (fun x h9 => h9) d (k H locs ls hE hPi hS hl t1 (ty_c trivial (ty_1 t2)))
theorem V_gets1 (C : CX X cc own nL ret rm) {ix : Nat} (hw : Cond.fieldLink own ix "java/lang/String" "COMPACT_STRINGS" "Z" ∈ TT) (d : decode cc pc = .ok (.getstatic ix, 3)) (k : V X cs sl h (pc + 3) lv (vI 1 :: st)) : V X cs sl h pc lv st := by
  obtain ⟨p, l, e, R, s, m, args, below, meth, cd, Q, G, n', h0⟩ := X
  obtain ⟨hx, hb, hml, hown, hts, hKv, rfl, hR, hr, hlk, hgb, hsk⟩ := C
  intro H locs ls hE hPi hS hl t1 t2
  exact va_gets hx hb hsk.1.2.1 hS hown (hts _ hw) (fun x h9 => h9) d (k H locs ls hE hPi hS hl t1 (ty_c trivial t2))
theorem V_getsF (C : CX X cc own nL ret rm) {ix : Nat} (hw : Cond.fieldLink own ix "jdk/internal/util/Preconditions" "SIOOBE_FORMATTER" "Ljava/util/function/BiFunction;" ∈ TT) (d : decode cc pc = .ok (.getstatic ix, 3)) (k : V X cs sl h (pc + 3) lv (vR 18 (some 0) :: st)) : V X cs sl h pc lv st := by
  obtain ⟨p, l, e, R, s, m, args, below, meth, cd, Q, G, n', h0⟩ := X
  obtain ⟨hx, hb, hml, hown, hts, hKv, rfl, hR, hr, hlk, hgb, hsk⟩ := C
  intro H locs ls hE hPi hS hl t1 t2
  exact va_gets hx hb hsk.1.2.2 hS hown (hts _ hw) (fun x h9 => h9) d (k H locs ls hE hPi hS hl t1 (ty_c (ty_x (by decide) (by decide)) t2))
theorem V_tbld (C : CX X cc own nL ret rm) {w : Nat} {i : Int32} {j : Nat} (hin : vp_in i (strL.getD w 0)) (hj : i.toNatClampNeg = j) (d : decode cc pc = .ok (.baload, 1)) (k : V X cs sl h (pc + 1) lv (vI ((strB.getD w []).getD j 0) :: st)) : V X cs sl h pc lv (vI i :: vR 17 (some w) :: st) := by
  subst hj
  obtain ⟨p, l, e, R, s, m, args, below, meth, cd, Q, G, n', h0⟩ := X
  obtain ⟨hx, hb, hml, hown, hts, hKv, rfl, hR, hr, hlk, hgb, hsk⟩ := C
  intro H locs ls hE hPi hS hl t1 t2
  have hi := ty_s (by decide : 16 ≤ 17) (ty_h (ty_1 t2))
  exact va_tb hx hb (hsk.1.1.1 w hi).2.2.2 hS hin rfl d (k H locs ls hE hPi hS hl t1 (ty_c trivial (ty_2 t2)))
theorem V_tlen (C : CX X cc own nL ret rm) {w : Nat} (d : decode cc pc = .ok (.arraylength, 1)) (k : V X cs sl h (pc + 1) lv (vI (nI (strL.getD w 0)) :: st)) : V X cs sl h pc lv (vR 17 (some w) :: st) := by
  obtain ⟨p, l, e, R, s, m, args, below, meth, cd, Q, G, n', h0⟩ := X
  obtain ⟨hx, hb, hml, hown, hts, hKv, rfl, hR, hr, hlk, hgb, hsk⟩ := C
  intro H locs ls hE hPi hS hl t1 t2
  have hi := ty_s (by decide : 16 ≤ 17) (ty_h t2)
  exact va_tlen hx hb (hsk.1.1.1 w hi).2.2.2 hS rfl d (k H locs ls hE hPi hS hl t1 (ty_c trivial (ty_1 t2)))
theorem V_i2c (C : CX X cc own nL ret rm) {x : Int32} (d : decode cc pc = .ok (.i2c, 1)) (k : V X cs sl h (pc + 1) lv (vI (x.toUInt32 % 65536).toInt32 :: st)) : V X cs sl h pc lv (vI x :: st) := by
  obtain ⟨p, l, e, R, s, m, args, below, meth, cd, Q, G, n', h0⟩ := X
  obtain ⟨hx, hb, hml, hown, hts, hKv, rfl, hR, hr, hlk, hgb, hsk⟩ := C
  intro H locs ls hE hPi hS hl t1 t2
  exact lv_i2c hx hb d rfl (k H locs ls hE hPi hS hl t1 (ty_c trivial (ty_1 t2)))
theorem nar_c {r : Int32} (h : 0 ≤ r ∧ r < 65536) : narrow .char (.int r) = .int r := by
  have h1 := Int32.le_iff_toInt_le.mp h.1
  have h2 := Int32.lt_iff_toInt_lt.mp h.2
  obtain ⟨j, hj, rfl⟩ := nI_of (x := r) (Int32.not_lt.mpr h.1)
  have h3 : (nI j).toInt = (j : Int) := nI_toInt hj
  exact (pk_charN (by
    have h4 : (65536 : Int32).toInt = 65536 := by decide
    rw [h3, h4] at h2
    omega)).1
theorem V_callT (C : CX X cc own nL ret rm) {ix : Nat} {y : MethodName} {cy : ByteArray} {nLy n : Nat} {rety : Option FieldType} (L : MLV own ix y cy nLy rety n) (hy : y.cls = "java/lang/String") {w : Nat} {rmy : Room} {as : List PV} {r : Option PV} {h' : Hp} (hM : ∀ l G, MC l G y cy nLy rety rmy h (vR 16 (some w) :: as) r h') (hn : as.length = n) (hrm : rmy.frames + 1 ≤ rm.frames ∧ 8 + (nLy + 11) + rmy.locals ≤ rm.locals ∧ cs + rmy.cells ≤ rm.cells ∧ sl + rmy.slots ≤ rm.slots) (hst : csum st ≤ 8) {st0 : List PV} (hst0 : st0 = as.reverse ++ vR 16 (some w) :: st) (d : decode cc pc = .ok (.invokevirtual ix, 3)) {cs' sl' : Nat} (ecs : cs + rmy.cells = cs') (esl : sl + rmy.slots = sl') (k : V X cs' sl' h' (pc + 3) lv (r.toList ++ st)) : V X cs sl h pc lv st0 := by
  subst ecs
  subst esl
  obtain ⟨p, l, e, R, s, m, args, below, meth, cd, Q, G, n', h0⟩ := X
  obtain ⟨hx, hb, hml, hown, hts, hKv, rfl, hR, hr, hlk, hgb, hsk⟩ := C
  intro H locs ls hE hPi hS hl t1 t2
  subst hR
  subst hst0
  have tav : ∀ q ∈ vR 16 (some w) :: as, tyo h q := fun q hq => t2 q (by
    rcases List.mem_cons.mp hq with e9 | e9
    · subst e9
      exact List.mem_append_right _ List.mem_cons_self
    · exact List.mem_append_left _ (List.mem_reverse.mpr e9))
  have tst : ∀ q ∈ st, tyo h q := fun q hq => t2 q (List.mem_append_right _ (List.mem_cons_of_mem _ hq))
  have hi := ty_s (by decide : 16 ≤ 16) (tav _ List.mem_cons_self)
  have hcv : cv G (vR 16 (some w)) = .ref (gS G w) := rfl
  have hG := tt_c L.2.2.2.2.1
  have hM1 := hM l G
  unfold MC at hM1
  have hpre := pre_of (av := vR 16 (some w) :: as) hKv hPi hsk hS tav
  have hbl := blind_of (h := h) (G := G) (av := vR 16 (some w) :: as)
  rw [List.map_cons, hcv] at hM1 hpre hbl
  have hsel := hts _ L.2.2.1
  rw [hy] at hsel
  have hrun := va_runV (C := "java/lang/String") (p := p) (e := e) (below := below) (meth := meth) (H := H) (locs := locs) (cells := cs) (slots := sl) (As := as.map (cv G)) (rest := st.map (cv G)) (g := F0 m pc ls ((as.reverse ++ vR 16 (some w) :: st).map (cv G))) ⟨hx, hb, hml, hown, hts⟩ hM1 ⟨callB_of n hts hG rfl rfl rfl (hts _ L.2.2.2.1) (hts _ L.1) L.2.2.2.2.2 ⟨hrm.1, hrm.2.1⟩, hts _ L.2.1, hsel⟩ ⟨hbl, vk_recv hsk.1.1 hi hS, hpre⟩ rfl (by rw [List.length_map]; exact hn) hl.1 (by simp [hcv]) (by show 2 * 0 + _ ≤ 8; rw [csum_map]; omega) d hrm.2.2
  refine W_run hrun hS fun H1 locs1 hP1 hE1 hr1 hS1 => ?_
  have k1 := k H1 locs1 ls (ext_tr hE hE1) hP1 hS1 hl (tyl_ext hE1 t1) (fun q hq => by
    rcases List.mem_append.mp hq with e9 | e9
    · exact hr1 q (by cases r <;> simp_all)
    · exact tyo_ext hE1 (tst q e9))
  rw [List.map_append] at k1
  cases r <;> exact k1
theorem V_mmax (C : CX X cc own nL ret rm) {ix : Nat} {x y : Int32} (w1 : Cond.methodLink own ix Lib.Math.max.name ∈ TT) (w2 : Cond.static Lib.Math.max.name ∈ TT) (w3 : Cond.initialized "java/lang/Math" ∈ TT) (w4 : Cond.code Lib.Math.max.name Lib.Math.max.code 2 (some .int) ∈ TT) (hf : 1 ≤ rm.frames) (hlo : csum st + 13 ≤ rm.locals) (hcs : cs ≤ rm.cells) (hsl : sl ≤ rm.slots) (d : decode cc pc = .ok (.invokestatic ix, 3)) (k : V X cs sl h (pc + 3) lv (vI (if x < y then y else x) :: st)) : V X cs sl h pc lv (vI y :: vI x :: st) := by
  obtain ⟨p, l, e, R, s, m, args, below, meth, cd, Q, G, n', h0⟩ := X
  obtain ⟨hx, hb, hml, hown, hts, hKv, rfl, hR, hr, hlk, hgb, hsk⟩ := C
  intro H locs ls hE hPi hS hl t1 t2
  subst hR
  exact va_mmax hx hb (hml.trans hl.1.symm) hown (hts _ w1) (hts _ w2) (hts _ w3) (hts _ w4) hf (by rw [csum_map]; exact hlo) hcs hsl d (k H locs ls hE hPi hS hl t1 (ty_c trivial (ty_2 t2)))
theorem V_mmin (C : CX X cc own nL ret rm) {ix : Nat} {x y : Int32} (w1 : Cond.methodLink own ix Lib.Math.min.name ∈ TT) (w2 : Cond.static Lib.Math.min.name ∈ TT) (w3 : Cond.initialized "java/lang/Math" ∈ TT) (w4 : Cond.code Lib.Math.min.name Lib.Math.min.code 2 (some .int) ∈ TT) (hf : 1 ≤ rm.frames) (hlo : csum st + 13 ≤ rm.locals) (hcs : cs ≤ rm.cells) (hsl : sl ≤ rm.slots) (d : decode cc pc = .ok (.invokestatic ix, 3)) (k : V X cs sl h (pc + 3) lv (vI (if y < x then y else x) :: st)) : V X cs sl h pc lv (vI y :: vI x :: st) := by
  obtain ⟨p, l, e, R, s, m, args, below, meth, cd, Q, G, n', h0⟩ := X
  obtain ⟨hx, hb, hml, hown, hts, hKv, rfl, hR, hr, hlk, hgb, hsk⟩ := C
  intro H locs ls hE hPi hS hl t1 t2
  subst hR
  exact va_mmin hx hb (hml.trans hl.1.symm) hown (hts _ w1) (hts _ w2) (hts _ w3) (hts _ w4) hf (by rw [csum_map]; exact hlo) hcs hsl d (k H locs ls hE hPi hS hl t1 (ty_c trivial (ty_2 t2)))
end VB
