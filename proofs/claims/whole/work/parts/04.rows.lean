section VR
variable {X : XT} {cc : ByteArray} {own : String} {nL : Nat} {ret : Option FieldType} {rm : Room} {cs sl : Nat} {h : Hp} {pc : Nat} {lv lv' : List (Nat × PV)} {st : List PV}
def cat (v : PV) : Nat := match v with
  | .inl _ => 1
  | .inr (.inl _) => 2
  | .inr (.inr _) => 1
theorem cat_cv (G : GT) (v : PV) : (cv G v).category = cat v := by
  rcases v with x | x | ⟨k, o⟩
  · rfl
  · rfl
  · show (cR G k o).category = 1
    rcases cR_or G k o with ⟨x, e⟩ | e <;> rw [e] <;> rfl
def lst (i : Nat) (v : PV) (lv : List (Nat × PV)) : List (Nat × PV) := (i, v) :: lv.filter (fun q => !(q.1 == i) && !(q.1 + 1 == i && cat q.2 == 2))
def lst2 (i : Nat) (v : PV) (lv : List (Nat × PV)) : List (Nat × PV) := (i, v) :: lv.filter (fun q => !(q.1 == i) && (!(q.1 == i + 1) && !(q.1 + 1 == i && cat q.2 == 2)))
theorem lst_map (G : GT) (i : Nat) (v : PV) (lv : List (Nat × PV)) : (i, cv G v) :: (lv.map (fun q => (q.1, cv G q.2))).filter (fun q => !(q.1 == i) && !(q.1 + 1 == i && q.2.category == 2)) = (lst i v lv).map (fun q => (q.1, cv G q.2)) := by
  unfold lst
  rw [List.map_cons, List.filter_map]
  congr 2
  apply List.filter_congr
  intro q _
  simp only [Function.comp, cat_cv]
theorem lst2_map (G : GT) (i : Nat) (v : PV) (lv : List (Nat × PV)) : (i, cv G v) :: (lv.map (fun q => (q.1, cv G q.2))).filter (fun q => !(q.1 == i) && (!(q.1 == i + 1) && !(q.1 + 1 == i && q.2.category == 2))) = (lst2 i v lv).map (fun q => (q.1, cv G q.2)) := by
  unfold lst2
  rw [List.map_cons, List.filter_map]
  congr 2
  apply List.filter_congr
  intro q _
  simp only [Function.comp, cat_cv]
theorem lst_ty {i : Nat} {v : PV} (t : tyo h v) (t1 : ∀ q ∈ lv, tyo h q.2) : ∀ q ∈ lst i v lv, tyo h q.2 := by
  intro q hq
  rcases List.mem_cons.mp hq with e | e
  · subst e
    exact t
  · exact t1 q (List.mem_filter.mp e).1
theorem lst2_ty {i : Nat} {v : PV} (t : tyo h v) (t1 : ∀ q ∈ lv, tyo h q.2) : ∀ q ∈ lst2 i v lv, tyo h q.2 := by
  intro q hq
  rcases List.mem_cons.mp hq with e | e
  · subst e
    exact t
  · exact t1 q (List.mem_filter.mp e).1
theorem lv_get {G : GT} {ls : Array Slot} {n i : Nat} {v : PV} (hl : lv_has ls n (lv.map (fun q => (q.1, cv G q.2)))) (k : Nat) (hk : lv[k]? = some (i, v)) : ls[i]? = some (.val (cv G v)) := lv_at hl k (by rw [List.getElem?_map, hk]; rfl)
theorem lv_gty {i : Nat} {v : PV} (t1 : ∀ q ∈ lv, tyo h q.2) (k : Nat) (hk : lv[k]? = some (i, v)) : tyo h v := t1 (i, v) (List.mem_of_getElem? hk)
/-- fewer locals, in any order -/
theorem V_sub (ks : List Nat) (hl : ks.filterMap (fun k => lv[k]?) = lv') (k : V X cs sl h pc lv' st) : V X cs sl h pc lv st := by
  obtain ⟨p, l, e, R, s, m, args, below, meth, c, Q, G, n', h0⟩ := X
  intro H locs ls hE hPi hS hl1 t1 t2
  have hm : ∀ q ∈ lv', q ∈ lv := fun q hq => by
    rw [← hl] at hq
    obtain ⟨i, -, hi⟩ := List.mem_filterMap.mp hq
    exact List.mem_of_getElem? hi
  refine k H locs ls hE hPi hS ⟨hl1.1, hl1.2.1, fun q hq => ?_⟩ (fun q hq => t1 q (hm q hq)) t2
  obtain ⟨q', hq', rfl⟩ := List.mem_map.mp hq
  exact hl1.2.2 _ (List.mem_map.mpr ⟨q', hm q' hq', rfl⟩)
/-- more room was counted -/
theorem V_wide {cs' sl' : Nat} (h1 : cs ≤ cs') (h2 : sl ≤ sl') (k : V X cs' sl' h pc lv st) : V X cs sl h pc lv st := by
  obtain ⟨p, l, e, R, s, m, args, below, meth, c, Q, G, n', h0⟩ := X
  intro H locs ls hE hPi hS hl t1 t2
  exact W.widen h1 h2 (k H locs ls hE hPi hS hl t1 t2)
theorem V_iconst (C : CX X cc own nL ret rm) {n : Int} {v : Int32} (d : decode cc pc = .ok (.iconst n, 1)) (hv : Int32.ofInt n = v) (k : V X cs sl h (pc + 1) lv (vI v :: st)) : V X cs sl h pc lv (st) := by
  obtain ⟨p, l, e, R, s, m, args, below, meth, c, Q, G, n', h0⟩ := X
  obtain ⟨hx, hb, hml, hown, hts, hK, rfl, hR, hr, hlk, hgb, hsk⟩ := C
  intro H locs ls hE hPi hS hl t1 t2
  exact lv_iconst hx hb d hv (k H locs ls hE hPi hS hl t1 (ty_c trivial t2))
theorem V_bipush (C : CX X cc own nL ret rm) {n : Int} {v : Int32} (d : decode cc pc = .ok (.bipush n, 2)) (hv : (Int8.ofInt n).toInt32 = v) (k : V X cs sl h (pc + 2) lv (vI v :: st)) : V X cs sl h pc lv (st) := by
  obtain ⟨p, l, e, R, s, m, args, below, meth, c, Q, G, n', h0⟩ := X
  obtain ⟨hx, hb, hml, hown, hts, hK, rfl, hR, hr, hlk, hgb, hsk⟩ := C
  intro H locs ls hE hPi hS hl t1 t2
  exact lv_bipush hx hb d hv (k H locs ls hE hPi hS hl t1 (ty_c trivial t2))
theorem V_sipush (C : CX X cc own nL ret rm) {n : Int} {v : Int32} (d : decode cc pc = .ok (.sipush n, 3)) (hv : (Int16.ofInt n).toInt32 = v) (k : V X cs sl h (pc + 3) lv (vI v :: st)) : V X cs sl h pc lv (st) := by
  obtain ⟨p, l, e, R, s, m, args, below, meth, c, Q, G, n', h0⟩ := X
  obtain ⟨hx, hb, hml, hown, hts, hK, rfl, hR, hr, hlk, hgb, hsk⟩ := C
  intro H locs ls hE hPi hS hl t1 t2
  exact lv_sipush hx hb d hv (k H locs ls hE hPi hS hl t1 (ty_c trivial t2))
theorem V_lconst (C : CX X cc own nL ret rm) {n : Fin 2} {v : Int64} (d : decode cc pc = .ok (.lconst n, 1)) (hv : Int64.ofNat (n : Nat) = v) (k : V X cs sl h (pc + 1) lv (vL v :: st)) : V X cs sl h pc lv (st) := by
  obtain ⟨p, l, e, R, s, m, args, below, meth, c, Q, G, n', h0⟩ := X
  obtain ⟨hx, hb, hml, hown, hts, hK, rfl, hR, hr, hlk, hgb, hsk⟩ := C
  intro H locs ls hE hPi hS hl t1 t2
  exact lv_lconst hx hb d hv (k H locs ls hE hPi hS hl t1 (ty_c trivial t2))
theorem V_ldc (C : CX X cc own nL ret rm) {i : Nat} {v : Int32} (w : Jvm.Cond.constant own i v ∈ TT) (d : decode cc pc = .ok (.ldc i, 2)) (k : V X cs sl h (pc + 2) lv (vI v :: st)) : V X cs sl h pc lv (st) := by
  obtain ⟨p, l, e, R, s, m, args, below, meth, c, Q, G, n', h0⟩ := X
  obtain ⟨hx, hb, hml, hown, hts, hK, rfl, hR, hr, hlk, hgb, hsk⟩ := C
  intro H locs ls hE hPi hS hl t1 t2
  exact lv_ldc hx hb hown (hts _ w) d (k H locs ls hE hPi hS hl t1 (ty_c trivial t2))
theorem V_ldcw (C : CX X cc own nL ret rm) {i : Nat} {v : Int32} (w : Jvm.Cond.constant own i v ∈ TT) (d : decode cc pc = .ok (.ldc_w i, 3)) (k : V X cs sl h (pc + 3) lv (vI v :: st)) : V X cs sl h pc lv (st) := by
  obtain ⟨p, l, e, R, s, m, args, below, meth, c, Q, G, n', h0⟩ := X
  obtain ⟨hx, hb, hml, hown, hts, hK, rfl, hR, hr, hlk, hgb, hsk⟩ := C
  intro H locs ls hE hPi hS hl t1 t2
  exact lv_ldcw hx hb hown (hts _ w) d (k H locs ls hE hPi hS hl t1 (ty_c trivial t2))
theorem V_ldc2 (C : CX X cc own nL ret rm) {i : Nat} {v : Int64} (w : Jvm.Cond.constantLong own i v ∈ TT) (d : decode cc pc = .ok (.ldc2_w i, 3)) (k : V X cs sl h (pc + 3) lv (vL v :: st)) : V X cs sl h pc lv (st) := by
  obtain ⟨p, l, e, R, s, m, args, below, meth, c, Q, G, n', h0⟩ := X
  obtain ⟨hx, hb, hml, hown, hts, hK, rfl, hR, hr, hlk, hgb, hsk⟩ := C
  intro H locs ls hE hPi hS hl t1 t2
  exact lv_ldc2 hx hb hown (hts _ w) d (k H locs ls hE hPi hS hl t1 (ty_c trivial t2))
theorem V_ldcS (C : CX X cc own nL ret rm) (i : Nat) {ix : Nat} {tx : String} (hi : strO[i]? = some (own, ix, tx)) (d : decode cc pc = .ok (.ldc ix, 2)) (k : V X cs sl h (pc + 2) lv (vR 16 (some i) :: st)) : V X cs sl h pc lv (st) := by
  obtain ⟨p, l, e, R, s, m, args, below, meth, c, Q, G, n', h0⟩ := X
  obtain ⟨hx, hb, hml, hown, hts, hK, rfl, hR, hr, hlk, hgb, hsk⟩ := C
  intro H locs ls hE hPi hS hl t1 t2
  exact va_ldcS hx hb hown (hsk.2.1 i _ hi) d (k H locs ls hE hPi hS hl t1 (ty_c (fun w e9 => by cases e9; exact Or.inl ⟨Nat.le_refl 16, (List.getElem?_eq_some_iff.mp hi).1⟩) t2))
theorem V_null {k0 : Nat} (hk : k0 < 16) (C : CX X cc own nL ret rm) (d : decode cc pc = .ok (.aconst_null, 1)) (k : V X cs sl h (pc + 1) lv (vR k0 none :: st)) : V X cs sl h pc lv st := by
  obtain ⟨p, l, e, R, s, m, args, below, meth, c, Q, G, n', h0⟩ := X
  obtain ⟨hx, hb, hml, hown, hts, hK, rfl, hR, hr, hlk, hgb, hsk⟩ := C
  intro H locs ls hE hPi hS hl t1 t2
  refine lv_null hx hb d ?_
  have k1 := k H locs ls hE hPi hS hl t1 (ty_c (fun w e9 => by cases e9) t2)
  rw [List.map_cons, show cv G (vR k0 none) = .null from cR_n hk] at k1
  exact k1
theorem V_iload_n (C : CX X cc own nL ret rm) {k : Fin 4} {i : Nat} {x : Int32} (d : decode cc pc = .ok (.iload_n k, 1)) (hi : (k : Nat) = i) (j : Nat) (hj : lv[j]? = some (i, vI x)) (k : V X cs sl h (pc + 1) lv (vI x :: st)) : V X cs sl h pc lv (st) := by
  obtain ⟨p, l, e, R, s, m, args, below, meth, c, Q, G, n', h0⟩ := X
  obtain ⟨hx, hb, hml, hown, hts, hK, rfl, hR, hr, hlk, hgb, hsk⟩ := C
  intro H locs ls hE hPi hS hl t1 t2
  exact lv_iload_n hx hb d hi (lv_get hl j hj) (k H locs ls hE hPi hS hl t1 (ty_c trivial t2))
theorem V_iload (C : CX X cc own nL ret rm) {i : Nat} {x : Int32} (d : decode cc pc = .ok (.iload i, 2)) (j : Nat) (hj : lv[j]? = some (i, vI x)) (k : V X cs sl h (pc + 2) lv (vI x :: st)) : V X cs sl h pc lv (st) := by
  obtain ⟨p, l, e, R, s, m, args, below, meth, c, Q, G, n', h0⟩ := X
  obtain ⟨hx, hb, hml, hown, hts, hK, rfl, hR, hr, hlk, hgb, hsk⟩ := C
  intro H locs ls hE hPi hS hl t1 t2
  exact lv_iload hx hb d (lv_get hl j hj) (k H locs ls hE hPi hS hl t1 (ty_c trivial t2))
theorem V_lload_n (C : CX X cc own nL ret rm) {k : Fin 4} {i : Nat} {x : Int64} (d : decode cc pc = .ok (.lload_n k, 1)) (hi : (k : Nat) = i) (j : Nat) (hj : lv[j]? = some (i, vL x)) (k : V X cs sl h (pc + 1) lv (vL x :: st)) : V X cs sl h pc lv (st) := by
  obtain ⟨p, l, e, R, s, m, args, below, meth, c, Q, G, n', h0⟩ := X
  obtain ⟨hx, hb, hml, hown, hts, hK, rfl, hR, hr, hlk, hgb, hsk⟩ := C
  intro H locs ls hE hPi hS hl t1 t2
  exact lv_lload_n hx hb d hi (lv_get hl j hj) (k H locs ls hE hPi hS hl t1 (ty_c trivial t2))
theorem V_lload (C : CX X cc own nL ret rm) {i : Nat} {x : Int64} (d : decode cc pc = .ok (.lload i, 2)) (j : Nat) (hj : lv[j]? = some (i, vL x)) (k : V X cs sl h (pc + 2) lv (vL x :: st)) : V X cs sl h pc lv (st) := by
  obtain ⟨p, l, e, R, s, m, args, below, meth, c, Q, G, n', h0⟩ := X
  obtain ⟨hx, hb, hml, hown, hts, hK, rfl, hR, hr, hlk, hgb, hsk⟩ := C
  intro H locs ls hE hPi hS hl t1 t2
  exact lv_lload hx hb d (lv_get hl j hj) (k H locs ls hE hPi hS hl t1 (ty_c trivial t2))
theorem V_aload_n (C : CX X cc own nL ret rm) {k0 : Fin 4} {i : Nat} {q : Nat} {r : Option Nat} (d : decode cc pc = .ok (.aload_n k0, 1)) (hi : (k0 : Nat) = i) (j : Nat) (hj : lv[j]? = some (i, vR q r)) (k : V X cs sl h (pc + 1) lv (vR q r :: st)) : V X cs sl h pc lv st := by
  obtain ⟨p, l, e, R, s, m, args, below, meth, c, Q, G, n', h0⟩ := X
  obtain ⟨hx, hb, hml, hown, hts, hK, rfl, hR, hr, hlk, hgb, hsk⟩ := C
  intro H locs ls hE hPi hS hl t1 t2
  have g := lv_get hl j hj
  have k1 := k H locs ls hE hPi hS hl t1 (ty_c (lv_gty t1 j hj) t2)
  rcases (show (∃ x, cv G (vR q r) = .ref x) ∨ cv G (vR q r) = .null from cR_or G q r) with ⟨x, e9⟩ | e9
  · rw [e9] at g
    rw [List.map_cons, e9] at k1
    exact lv_aload_n hx hb d hi g k1
  · rw [e9] at g
    rw [List.map_cons, e9] at k1
    exact lv_aload_nN hx hb d hi g k1
theorem V_aload (C : CX X cc own nL ret rm) {i : Nat} {q : Nat} {r : Option Nat} (d : decode cc pc = .ok (.aload i, 2)) (j : Nat) (hj : lv[j]? = some (i, vR q r)) (k : V X cs sl h (pc + 2) lv (vR q r :: st)) : V X cs sl h pc lv st := by
  obtain ⟨p, l, e, R, s, m, args, below, meth, c, Q, G, n', h0⟩ := X
  obtain ⟨hx, hb, hml, hown, hts, hK, rfl, hR, hr, hlk, hgb, hsk⟩ := C
  intro H locs ls hE hPi hS hl t1 t2
  have g := lv_get hl j hj
  have k1 := k H locs ls hE hPi hS hl t1 (ty_c (lv_gty t1 j hj) t2)
  rcases (show (∃ x, cv G (vR q r) = .ref x) ∨ cv G (vR q r) = .null from cR_or G q r) with ⟨x, e9⟩ | e9
  · rw [e9] at g
    rw [List.map_cons, e9] at k1
    exact lv_aload hx hb d g k1
  · rw [e9] at g
    rw [List.map_cons, e9] at k1
    exact lv_aloadN hx hb d g k1
theorem V_istore_n (C : CX X cc own nL ret rm) {k0 : Fin 4} {i : Nat} {x : Int32} (d : decode cc pc = .ok (.istore_n k0, 1)) (hi : (k0 : Nat) = i) (hn : i < nL) (he : lst i (vI x) lv = lv') (k : V X cs sl h (pc + 1) lv' st) : V X cs sl h pc lv (vI x :: st) := by
  obtain ⟨p, l, e, R, s, m, args, below, meth, c, Q, G, n', h0⟩ := X
  obtain ⟨hx, hb, hml, hown, hts, hK, rfl, hR, hr, hlk, hgb, hsk⟩ := C
  intro H locs ls hE hPi hS hl t1 t2
  subst he
  exact lv_istore_n hx hb d hi hl hn (lst_map G i (vI x) lv) (fun ls' hl' => k H locs ls' hE hPi hS hl' (lst_ty trivial t1) (ty_1 t2))
theorem V_istore (C : CX X cc own nL ret rm) {i : Nat} {x : Int32} (d : decode cc pc = .ok (.istore i, 2)) (hn : i < nL) (he : lst i (vI x) lv = lv') (k : V X cs sl h (pc + 2) lv' st) : V X cs sl h pc lv (vI x :: st) := by
  obtain ⟨p, l, e, R, s, m, args, below, meth, c, Q, G, n', h0⟩ := X
  obtain ⟨hx, hb, hml, hown, hts, hK, rfl, hR, hr, hlk, hgb, hsk⟩ := C
  intro H locs ls hE hPi hS hl t1 t2
  subst he
  exact lv_istore hx hb d hl hn (lst_map G i (vI x) lv) (fun ls' hl' => k H locs ls' hE hPi hS hl' (lst_ty trivial t1) (ty_1 t2))
theorem V_lstore_n (C : CX X cc own nL ret rm) {k0 : Fin 4} {i : Nat} {x : Int64} (d : decode cc pc = .ok (.lstore_n k0, 1)) (hi : (k0 : Nat) = i) (hn : i + 1 < nL) (he : lst2 i (vL x) lv = lv') (k : V X cs sl h (pc + 1) lv' st) : V X cs sl h pc lv (vL x :: st) := by
  obtain ⟨p, l, e, R, s, m, args, below, meth, c, Q, G, n', h0⟩ := X
  obtain ⟨hx, hb, hml, hown, hts, hK, rfl, hR, hr, hlk, hgb, hsk⟩ := C
  intro H locs ls hE hPi hS hl t1 t2
  subst he
  exact lv_lstore_n hx hb d hi hl hn (lst2_map G i (vL x) lv) (fun ls' hl' => k H locs ls' hE hPi hS hl' (lst2_ty trivial t1) (ty_1 t2))
theorem V_lstore (C : CX X cc own nL ret rm) {i : Nat} {x : Int64} (d : decode cc pc = .ok (.lstore i, 2)) (hn : i + 1 < nL) (he : lst2 i (vL x) lv = lv') (k : V X cs sl h (pc + 2) lv' st) : V X cs sl h pc lv (vL x :: st) := by
  obtain ⟨p, l, e, R, s, m, args, below, meth, c, Q, G, n', h0⟩ := X
  obtain ⟨hx, hb, hml, hown, hts, hK, rfl, hR, hr, hlk, hgb, hsk⟩ := C
  intro H locs ls hE hPi hS hl t1 t2
  subst he
  exact lv_lstore hx hb d hl hn (lst2_map G i (vL x) lv) (fun ls' hl' => k H locs ls' hE hPi hS hl' (lst2_ty trivial t1) (ty_1 t2))
theorem V_astore_n (C : CX X cc own nL ret rm) {k0 : Fin 4} {i : Nat} {q : Nat} {r : Option Nat} (d : decode cc pc = .ok (.astore_n k0, 1)) (hi : (k0 : Nat) = i) (hn : i < nL) (he : lst i (vR q r) lv = lv') (k : V X cs sl h (pc + 1) lv' st) : V X cs sl h pc lv (vR q r :: st) := by
  obtain ⟨p, l, e, R, s, m, args, below, meth, c, Q, G, n', h0⟩ := X
  obtain ⟨hx, hb, hml, hown, hts, hK, rfl, hR, hr, hlk, hgb, hsk⟩ := C
  intro H locs ls hE hPi hS hl t1 t2
  subst he
  have hm := lst_map G i (vR q r) lv
  have k1 := fun (ls' : Array Slot) (hl' : lv_has ls' n' ((lst i (vR q r) lv).map (fun q => (q.1, cv G q.2)))) => k H locs ls' hE hPi hS hl' (lst_ty (ty_h t2) t1) (ty_1 t2)
  rw [List.map_cons]
  rcases (show (∃ x, cv G (vR q r) = .ref x) ∨ cv G (vR q r) = .null from cR_or G q r) with ⟨x, e9⟩ | e9
  · rw [e9] at hm
    rw [e9]
    exact lv_astore_n hx hb d hi hl hn hm k1
  · rw [e9] at hm
    rw [e9]
    exact lv_astore_nN hx hb d hi hl hn hm k1
theorem V_astore (C : CX X cc own nL ret rm) {i : Nat} {q : Nat} {r : Option Nat} (d : decode cc pc = .ok (.astore i, 2)) (hn : i < nL) (he : lst i (vR q r) lv = lv') (k : V X cs sl h (pc + 2) lv' st) : V X cs sl h pc lv (vR q r :: st) := by
  obtain ⟨p, l, e, R, s, m, args, below, meth, c, Q, G, n', h0⟩ := X
  obtain ⟨hx, hb, hml, hown, hts, hK, rfl, hR, hr, hlk, hgb, hsk⟩ := C
  intro H locs ls hE hPi hS hl t1 t2
  subst he
  have hm := lst_map G i (vR q r) lv
  have k1 := fun (ls' : Array Slot) (hl' : lv_has ls' n' ((lst i (vR q r) lv).map (fun q => (q.1, cv G q.2)))) => k H locs ls' hE hPi hS hl' (lst_ty (ty_h t2) t1) (ty_1 t2)
  rw [List.map_cons]
  rcases (show (∃ x, cv G (vR q r) = .ref x) ∨ cv G (vR q r) = .null from cR_or G q r) with ⟨x, e9⟩ | e9
  · rw [e9] at hm
    rw [e9]
    exact lv_astore hx hb d hl hn hm k1
  · rw [e9] at hm
    rw [e9]
    exact lv_astoreN hx hb d hl hn hm k1
theorem V_iinc (C : CX X cc own nL ret rm) {i : Nat} {n : Int} {x v : Int32} (d : decode cc pc = .ok (.iinc i n, 3)) (j : Nat) (hj : lv[j]? = some (i, vI x)) (hv : x + Int32.ofInt n = v) (hn : i < nL) (he : lst i (vI v) lv = lv') (k : V X cs sl h (pc + 3) lv' st) : V X cs sl h pc lv st := by
  obtain ⟨p, l, e, R, s, m, args, below, meth, c, Q, G, n', h0⟩ := X
  obtain ⟨hx, hb, hml, hown, hts, hK, rfl, hR, hr, hlk, hgb, hsk⟩ := C
  intro H locs ls hE hPi hS hl t1 t2
  subst he
  exact lv_iinc hx hb d hl (k := j) (by rw [List.getElem?_map, hj]; rfl) hv hn (lst_map G i (vI v) lv) (fun ls' hl' => k H locs ls' hE hPi hS hl' (lst_ty trivial t1) t2)
theorem V_iadd (C : CX X cc own nL ret rm) {x y : Int32} (d : decode cc pc = .ok (.iadd, 1)) (k : V X cs sl h (pc + 1) lv (vI (x + y) :: st)) : V X cs sl h pc lv (vI y :: vI x :: st) := by
  obtain ⟨p, l, e, R, s, m, args, below, meth, c, Q, G, n', h0⟩ := X
  obtain ⟨hx, hb, hml, hown, hts, hK, rfl, hR, hr, hlk, hgb, hsk⟩ := C
  intro H locs ls hE hPi hS hl t1 t2
  exact lv_iadd hx hb d (k H locs ls hE hPi hS hl t1 (ty_c trivial (ty_2 t2)))
theorem V_ladd (C : CX X cc own nL ret rm) {x y : Int64} (d : decode cc pc = .ok (.ladd, 1)) (k : V X cs sl h (pc + 1) lv (vL (x + y) :: st)) : V X cs sl h pc lv (vL y :: vL x :: st) := by
  obtain ⟨p, l, e, R, s, m, args, below, meth, c, Q, G, n', h0⟩ := X
  obtain ⟨hx, hb, hml, hown, hts, hK, rfl, hR, hr, hlk, hgb, hsk⟩ := C
  intro H locs ls hE hPi hS hl t1 t2
  exact lv_ladd hx hb d (k H locs ls hE hPi hS hl t1 (ty_c trivial (ty_2 t2)))
theorem V_isub (C : CX X cc own nL ret rm) {x y : Int32} (d : decode cc pc = .ok (.isub, 1)) (k : V X cs sl h (pc + 1) lv (vI (x - y) :: st)) : V X cs sl h pc lv (vI y :: vI x :: st) := by
  obtain ⟨p, l, e, R, s, m, args, below, meth, c, Q, G, n', h0⟩ := X
  obtain ⟨hx, hb, hml, hown, hts, hK, rfl, hR, hr, hlk, hgb, hsk⟩ := C
  intro H locs ls hE hPi hS hl t1 t2
  exact lv_isub hx hb d (k H locs ls hE hPi hS hl t1 (ty_c trivial (ty_2 t2)))
theorem V_lsub (C : CX X cc own nL ret rm) {x y : Int64} (d : decode cc pc = .ok (.lsub, 1)) (k : V X cs sl h (pc + 1) lv (vL (x - y) :: st)) : V X cs sl h pc lv (vL y :: vL x :: st) := by
  obtain ⟨p, l, e, R, s, m, args, below, meth, c, Q, G, n', h0⟩ := X
  obtain ⟨hx, hb, hml, hown, hts, hK, rfl, hR, hr, hlk, hgb, hsk⟩ := C
  intro H locs ls hE hPi hS hl t1 t2
  exact lv_lsub hx hb d (k H locs ls hE hPi hS hl t1 (ty_c trivial (ty_2 t2)))
theorem V_imul (C : CX X cc own nL ret rm) {x y : Int32} (d : decode cc pc = .ok (.imul, 1)) (k : V X cs sl h (pc + 1) lv (vI (x * y) :: st)) : V X cs sl h pc lv (vI y :: vI x :: st) := by
  obtain ⟨p, l, e, R, s, m, args, below, meth, c, Q, G, n', h0⟩ := X
  obtain ⟨hx, hb, hml, hown, hts, hK, rfl, hR, hr, hlk, hgb, hsk⟩ := C
  intro H locs ls hE hPi hS hl t1 t2
  exact lv_imul hx hb d (k H locs ls hE hPi hS hl t1 (ty_c trivial (ty_2 t2)))
theorem V_lmul (C : CX X cc own nL ret rm) {x y : Int64} (d : decode cc pc = .ok (.lmul, 1)) (k : V X cs sl h (pc + 1) lv (vL (x * y) :: st)) : V X cs sl h pc lv (vL y :: vL x :: st) := by
  obtain ⟨p, l, e, R, s, m, args, below, meth, c, Q, G, n', h0⟩ := X
  obtain ⟨hx, hb, hml, hown, hts, hK, rfl, hR, hr, hlk, hgb, hsk⟩ := C
  intro H locs ls hE hPi hS hl t1 t2
  exact lv_lmul hx hb d (k H locs ls hE hPi hS hl t1 (ty_c trivial (ty_2 t2)))
theorem V_iand (C : CX X cc own nL ret rm) {x y : Int32} (d : decode cc pc = .ok (.iand, 1)) (k : V X cs sl h (pc + 1) lv (vI (x &&& y) :: st)) : V X cs sl h pc lv (vI y :: vI x :: st) := by
  obtain ⟨p, l, e, R, s, m, args, below, meth, c, Q, G, n', h0⟩ := X
  obtain ⟨hx, hb, hml, hown, hts, hK, rfl, hR, hr, hlk, hgb, hsk⟩ := C
  intro H locs ls hE hPi hS hl t1 t2
  exact lv_iand hx hb d (k H locs ls hE hPi hS hl t1 (ty_c trivial (ty_2 t2)))
theorem V_land (C : CX X cc own nL ret rm) {x y : Int64} (d : decode cc pc = .ok (.land, 1)) (k : V X cs sl h (pc + 1) lv (vL (x &&& y) :: st)) : V X cs sl h pc lv (vL y :: vL x :: st) := by
  obtain ⟨p, l, e, R, s, m, args, below, meth, c, Q, G, n', h0⟩ := X
  obtain ⟨hx, hb, hml, hown, hts, hK, rfl, hR, hr, hlk, hgb, hsk⟩ := C
  intro H locs ls hE hPi hS hl t1 t2
  exact lv_land hx hb d (k H locs ls hE hPi hS hl t1 (ty_c trivial (ty_2 t2)))
theorem V_ior (C : CX X cc own nL ret rm) {x y : Int32} (d : decode cc pc = .ok (.ior, 1)) (k : V X cs sl h (pc + 1) lv (vI (x ||| y) :: st)) : V X cs sl h pc lv (vI y :: vI x :: st) := by
  obtain ⟨p, l, e, R, s, m, args, below, meth, c, Q, G, n', h0⟩ := X
  obtain ⟨hx, hb, hml, hown, hts, hK, rfl, hR, hr, hlk, hgb, hsk⟩ := C
  intro H locs ls hE hPi hS hl t1 t2
  exact lv_ior hx hb d (k H locs ls hE hPi hS hl t1 (ty_c trivial (ty_2 t2)))
theorem V_lor (C : CX X cc own nL ret rm) {x y : Int64} (d : decode cc pc = .ok (.lor, 1)) (k : V X cs sl h (pc + 1) lv (vL (x ||| y) :: st)) : V X cs sl h pc lv (vL y :: vL x :: st) := by
  obtain ⟨p, l, e, R, s, m, args, below, meth, c, Q, G, n', h0⟩ := X
  obtain ⟨hx, hb, hml, hown, hts, hK, rfl, hR, hr, hlk, hgb, hsk⟩ := C
  intro H locs ls hE hPi hS hl t1 t2
  exact lv_lor hx hb d (k H locs ls hE hPi hS hl t1 (ty_c trivial (ty_2 t2)))
theorem V_ixor (C : CX X cc own nL ret rm) {x y : Int32} (d : decode cc pc = .ok (.ixor, 1)) (k : V X cs sl h (pc + 1) lv (vI (x ^^^ y) :: st)) : V X cs sl h pc lv (vI y :: vI x :: st) := by
  obtain ⟨p, l, e, R, s, m, args, below, meth, c, Q, G, n', h0⟩ := X
  obtain ⟨hx, hb, hml, hown, hts, hK, rfl, hR, hr, hlk, hgb, hsk⟩ := C
  intro H locs ls hE hPi hS hl t1 t2
  exact lv_ixor hx hb d (k H locs ls hE hPi hS hl t1 (ty_c trivial (ty_2 t2)))
theorem V_lxor (C : CX X cc own nL ret rm) {x y : Int64} (d : decode cc pc = .ok (.lxor, 1)) (k : V X cs sl h (pc + 1) lv (vL (x ^^^ y) :: st)) : V X cs sl h pc lv (vL y :: vL x :: st) := by
  obtain ⟨p, l, e, R, s, m, args, below, meth, c, Q, G, n', h0⟩ := X
  obtain ⟨hx, hb, hml, hown, hts, hK, rfl, hR, hr, hlk, hgb, hsk⟩ := C
  intro H locs ls hE hPi hS hl t1 t2
  exact lv_lxor hx hb d (k H locs ls hE hPi hS hl t1 (ty_c trivial (ty_2 t2)))
theorem V_idiv (C : CX X cc own nL ret rm) {x y : Int32} (d : decode cc pc = .ok (.idiv, 1)) (hne : ¬ y = 0) (k : V X cs sl h (pc + 1) lv (vI (x / y) :: st)) : V X cs sl h pc lv (vI y :: vI x :: st) := by
  obtain ⟨p, l, e, R, s, m, args, below, meth, c, Q, G, n', h0⟩ := X
  obtain ⟨hx, hb, hml, hown, hts, hK, rfl, hR, hr, hlk, hgb, hsk⟩ := C
  intro H locs ls hE hPi hS hl t1 t2
  exact lv_idiv hx hb d hne (k H locs ls hE hPi hS hl t1 (ty_c trivial (ty_2 t2)))
theorem V_ldiv (C : CX X cc own nL ret rm) {x y : Int64} (d : decode cc pc = .ok (.ldiv, 1)) (hne : ¬ y = 0) (k : V X cs sl h (pc + 1) lv (vL (x / y) :: st)) : V X cs sl h pc lv (vL y :: vL x :: st) := by
  obtain ⟨p, l, e, R, s, m, args, below, meth, c, Q, G, n', h0⟩ := X
  obtain ⟨hx, hb, hml, hown, hts, hK, rfl, hR, hr, hlk, hgb, hsk⟩ := C
  intro H locs ls hE hPi hS hl t1 t2
  exact lv_ldiv hx hb d hne (k H locs ls hE hPi hS hl t1 (ty_c trivial (ty_2 t2)))
theorem V_irem (C : CX X cc own nL ret rm) {x y : Int32} (d : decode cc pc = .ok (.irem, 1)) (hne : ¬ y = 0) (k : V X cs sl h (pc + 1) lv (vI (x - x / y * y) :: st)) : V X cs sl h pc lv (vI y :: vI x :: st) := by
  obtain ⟨p, l, e, R, s, m, args, below, meth, c, Q, G, n', h0⟩ := X
  obtain ⟨hx, hb, hml, hown, hts, hK, rfl, hR, hr, hlk, hgb, hsk⟩ := C
  intro H locs ls hE hPi hS hl t1 t2
  exact lv_irem hx hb d hne (k H locs ls hE hPi hS hl t1 (ty_c trivial (ty_2 t2)))
theorem V_lrem (C : CX X cc own nL ret rm) {x y : Int64} (d : decode cc pc = .ok (.lrem, 1)) (hne : ¬ y = 0) (k : V X cs sl h (pc + 1) lv (vL (x - x / y * y) :: st)) : V X cs sl h pc lv (vL y :: vL x :: st) := by
  obtain ⟨p, l, e, R, s, m, args, below, meth, c, Q, G, n', h0⟩ := X
  obtain ⟨hx, hb, hml, hown, hts, hK, rfl, hR, hr, hlk, hgb, hsk⟩ := C
  intro H locs ls hE hPi hS hl t1 t2
  exact lv_lrem hx hb d hne (k H locs ls hE hPi hS hl t1 (ty_c trivial (ty_2 t2)))
theorem V_ishl (C : CX X cc own nL ret rm) {x y : Int32} (d : decode cc pc = .ok (.ishl, 1)) (k : V X cs sl h (pc + 1) lv (vI (x <<< (y &&& 31)) :: st)) : V X cs sl h pc lv (vI y :: vI x :: st) := by
  obtain ⟨p, l, e, R, s, m, args, below, meth, c, Q, G, n', h0⟩ := X
  obtain ⟨hx, hb, hml, hown, hts, hK, rfl, hR, hr, hlk, hgb, hsk⟩ := C
  intro H locs ls hE hPi hS hl t1 t2
  exact lv_ishl hx hb d (k H locs ls hE hPi hS hl t1 (ty_c trivial (ty_2 t2)))
theorem V_ishr (C : CX X cc own nL ret rm) {x y : Int32} (d : decode cc pc = .ok (.ishr, 1)) (k : V X cs sl h (pc + 1) lv (vI (x >>> (y &&& 31)) :: st)) : V X cs sl h pc lv (vI y :: vI x :: st) := by
  obtain ⟨p, l, e, R, s, m, args, below, meth, c, Q, G, n', h0⟩ := X
  obtain ⟨hx, hb, hml, hown, hts, hK, rfl, hR, hr, hlk, hgb, hsk⟩ := C
  intro H locs ls hE hPi hS hl t1 t2
  exact lv_ishr hx hb d (k H locs ls hE hPi hS hl t1 (ty_c trivial (ty_2 t2)))
theorem V_iushr (C : CX X cc own nL ret rm) {x y : Int32} (d : decode cc pc = .ok (.iushr, 1)) (k : V X cs sl h (pc + 1) lv (vI ((x.toUInt32 >>> (y.toUInt32 &&& Int32.toUInt32 31)).toInt32) :: st)) : V X cs sl h pc lv (vI y :: vI x :: st) := by
  obtain ⟨p, l, e, R, s, m, args, below, meth, c, Q, G, n', h0⟩ := X
  obtain ⟨hx, hb, hml, hown, hts, hK, rfl, hR, hr, hlk, hgb, hsk⟩ := C
  intro H locs ls hE hPi hS hl t1 t2
  exact lv_iushr hx hb d rfl (k H locs ls hE hPi hS hl t1 (ty_c trivial (ty_2 t2)))
theorem V_lshl (C : CX X cc own nL ret rm) {x : Int64} {y : Int32} (d : decode cc pc = .ok (.lshl, 1)) (k : V X cs sl h (pc + 1) lv (vL (x <<< (y.toInt64 &&& 63)) :: st)) : V X cs sl h pc lv (vI y :: vL x :: st) := by
  obtain ⟨p, l, e, R, s, m, args, below, meth, c, Q, G, n', h0⟩ := X
  obtain ⟨hx, hb, hml, hown, hts, hK, rfl, hR, hr, hlk, hgb, hsk⟩ := C
  intro H locs ls hE hPi hS hl t1 t2
  exact lv_lshl hx hb d rfl (k H locs ls hE hPi hS hl t1 (ty_c trivial (ty_2 t2)))
theorem V_lshr (C : CX X cc own nL ret rm) {x : Int64} {y : Int32} (d : decode cc pc = .ok (.lshr, 1)) (k : V X cs sl h (pc + 1) lv (vL (x >>> (y.toInt64 &&& 63)) :: st)) : V X cs sl h pc lv (vI y :: vL x :: st) := by
  obtain ⟨p, l, e, R, s, m, args, below, meth, c, Q, G, n', h0⟩ := X
  obtain ⟨hx, hb, hml, hown, hts, hK, rfl, hR, hr, hlk, hgb, hsk⟩ := C
  intro H locs ls hE hPi hS hl t1 t2
  exact lv_lshr hx hb d rfl (k H locs ls hE hPi hS hl t1 (ty_c trivial (ty_2 t2)))
theorem V_lushr (C : CX X cc own nL ret rm) {x : Int64} {y : Int32} (d : decode cc pc = .ok (.lushr, 1)) (k : V X cs sl h (pc + 1) lv (vL ((x.toUInt64 >>> (y.toInt64.toUInt64 &&& Int64.toUInt64 63)).toInt64) :: st)) : V X cs sl h pc lv (vI y :: vL x :: st) := by
  obtain ⟨p, l, e, R, s, m, args, below, meth, c, Q, G, n', h0⟩ := X
  obtain ⟨hx, hb, hml, hown, hts, hK, rfl, hR, hr, hlk, hgb, hsk⟩ := C
  intro H locs ls hE hPi hS hl t1 t2
  exact lv_lushr hx hb d rfl (k H locs ls hE hPi hS hl t1 (ty_c trivial (ty_2 t2)))
theorem V_ineg (C : CX X cc own nL ret rm) {x : Int32} (d : decode cc pc = .ok (.ineg, 1)) (k : V X cs sl h (pc + 1) lv (vI (-x) :: st)) : V X cs sl h pc lv (vI x :: st) := by
  obtain ⟨p, l, e, R, s, m, args, below, meth, c, Q, G, n', h0⟩ := X
  obtain ⟨hx, hb, hml, hown, hts, hK, rfl, hR, hr, hlk, hgb, hsk⟩ := C
  intro H locs ls hE hPi hS hl t1 t2
  exact lv_ineg hx hb d (k H locs ls hE hPi hS hl t1 (ty_c trivial (ty_1 t2)))
theorem V_i2l (C : CX X cc own nL ret rm) {x : Int32} (d : decode cc pc = .ok (.i2l, 1)) (k : V X cs sl h (pc + 1) lv (vL x.toInt64 :: st)) : V X cs sl h pc lv (vI x :: st) := by
  obtain ⟨p, l, e, R, s, m, args, below, meth, c, Q, G, n', h0⟩ := X
  obtain ⟨hx, hb, hml, hown, hts, hK, rfl, hR, hr, hlk, hgb, hsk⟩ := C
  intro H locs ls hE hPi hS hl t1 t2
  exact lv_i2l hx hb d rfl (k H locs ls hE hPi hS hl t1 (ty_c trivial (ty_1 t2)))
theorem V_l2i (C : CX X cc own nL ret rm) {x : Int64} (d : decode cc pc = .ok (.l2i, 1)) (k : V X cs sl h (pc + 1) lv (vI x.toInt32 :: st)) : V X cs sl h pc lv (vL x :: st) := by
  obtain ⟨p, l, e, R, s, m, args, below, meth, c, Q, G, n', h0⟩ := X
  obtain ⟨hx, hb, hml, hown, hts, hK, rfl, hR, hr, hlk, hgb, hsk⟩ := C
  intro H locs ls hE hPi hS hl t1 t2
  exact lv_l2i hx hb d rfl (k H locs ls hE hPi hS hl t1 (ty_c trivial (ty_1 t2)))
theorem V_i2b (C : CX X cc own nL ret rm) {x : Int32} (d : decode cc pc = .ok (.i2b, 1)) (k : V X cs sl h (pc + 1) lv (vI x.toInt8.toInt32 :: st)) : V X cs sl h pc lv (vI x :: st) := by
  obtain ⟨p, l, e, R, s, m, args, below, meth, c, Q, G, n', h0⟩ := X
  obtain ⟨hx, hb, hml, hown, hts, hK, rfl, hR, hr, hlk, hgb, hsk⟩ := C
  intro H locs ls hE hPi hS hl t1 t2
  exact lv_i2b hx hb d rfl (k H locs ls hE hPi hS hl t1 (ty_c trivial (ty_1 t2)))
theorem V_lcmp (C : CX X cc own nL ret rm) {x y : Int64} (d : decode cc pc = .ok (.lcmp, 1)) (k : V X cs sl h (pc + 1) lv (vI (lg_cmp x y) :: st)) : V X cs sl h pc lv (vL y :: vL x :: st) := by
  obtain ⟨p, l, e, R, s, m, args, below, meth, c, Q, G, n', h0⟩ := X
  obtain ⟨hx, hb, hml, hown, hts, hK, rfl, hR, hr, hlk, hgb, hsk⟩ := C
  intro H locs ls hE hPi hS hl t1 t2
  exact W.lcmp hx hb d (k H locs ls hE hPi hS hl t1 (ty_c trivial (ty_2 t2)))
theorem V_dup (C : CX X cc own nL ret rm) {v : PV} (d : decode cc pc = .ok (.dup, 1)) (hc : cat v = 1) (k : V X cs sl h (pc + 1) lv (v :: v :: st)) : V X cs sl h pc lv (v :: st) := by
  obtain ⟨p, l, e, R, s, m, args, below, meth, c, Q, G, n', h0⟩ := X
  obtain ⟨hx, hb, hml, hown, hts, hK, rfl, hR, hr, hlk, hgb, hsk⟩ := C
  intro H locs ls hE hPi hS hl t1 t2
  exact lv_dup hx hb d ((cat_cv G v).trans hc) (k H locs ls hE hPi hS hl t1 (ty_c (ty_h t2) t2))
theorem V_dup2 (C : CX X cc own nL ret rm) {v w : PV} (d : decode cc pc = .ok (.dup2, 1)) (hv : cat v = 1) (hw : cat w = 1) (k : V X cs sl h (pc + 1) lv (v :: w :: v :: w :: st)) : V X cs sl h pc lv (v :: w :: st) := by
  obtain ⟨p, l, e, R, s, m, args, below, meth, c, Q, G, n', h0⟩ := X
  obtain ⟨hx, hb, hml, hown, hts, hK, rfl, hR, hr, hlk, hgb, hsk⟩ := C
  intro H locs ls hE hPi hS hl t1 t2
  exact lv_dup2_11 hx hb d ((cat_cv G v).trans hv) ((cat_cv G w).trans hw) (k H locs ls hE hPi hS hl t1 (ty_c (ty_h t2) (ty_c (ty_h (ty_1 t2)) t2)))
theorem V_pop (C : CX X cc own nL ret rm) {v : PV} (d : decode cc pc = .ok (.pop, 1)) (hv : cat v = 1) (k : V X cs sl h (pc + 1) lv (st)) : V X cs sl h pc lv (v :: st) := by
  obtain ⟨p, l, e, R, s, m, args, below, meth, c, Q, G, n', h0⟩ := X
  obtain ⟨hx, hb, hml, hown, hts, hK, rfl, hR, hr, hlk, hgb, hsk⟩ := C
  intro H locs ls hE hPi hS hl t1 t2
  exact lv_pop hx hb d ((cat_cv G v).trans hv) (k H locs ls hE hPi hS hl t1 (ty_1 t2))
theorem V_if_eq (C : CX X cc own nL ret rm) {x : Int32} {off : Int} (tgt : Nat) (d : decode cc pc = .ok (.ifCond .eq off, 3)) (ht : (pc : Int) + off = (tgt : Int)) (kt : x = 0 → V X cs sl h tgt lv st) (kf : ¬ x = 0 → V X cs sl h (pc + 3) lv st) : V X cs sl h pc lv (vI x :: st) := by
  obtain ⟨p, l, e, R, s, m, args, below, meth, c, Q, G, n', h0⟩ := X
  obtain ⟨hx, hb, hml, hown, hts, hK, rfl, hR, hr, hlk, hgb, hsk⟩ := C
  intro H locs ls hE hPi hS hl t1 t2
  exact lv_if_eq hx hb d ht (fun c1 => kt c1 H locs ls hE hPi hS hl t1 (ty_1 t2)) (fun c1 => kf c1 H locs ls hE hPi hS hl t1 (ty_1 t2))
theorem V_if_ne (C : CX X cc own nL ret rm) {x : Int32} {off : Int} (tgt : Nat) (d : decode cc pc = .ok (.ifCond .ne off, 3)) (ht : (pc : Int) + off = (tgt : Int)) (kt : ¬ x = 0 → V X cs sl h tgt lv st) (kf : x = 0 → V X cs sl h (pc + 3) lv st) : V X cs sl h pc lv (vI x :: st) := by
  obtain ⟨p, l, e, R, s, m, args, below, meth, c, Q, G, n', h0⟩ := X
  obtain ⟨hx, hb, hml, hown, hts, hK, rfl, hR, hr, hlk, hgb, hsk⟩ := C
  intro H locs ls hE hPi hS hl t1 t2
  exact lv_if_ne hx hb d ht (fun c1 => kt c1 H locs ls hE hPi hS hl t1 (ty_1 t2)) (fun c1 => kf c1 H locs ls hE hPi hS hl t1 (ty_1 t2))
theorem V_if_lt (C : CX X cc own nL ret rm) {x : Int32} {off : Int} (tgt : Nat) (d : decode cc pc = .ok (.ifCond .lt off, 3)) (ht : (pc : Int) + off = (tgt : Int)) (kt : x < 0 → V X cs sl h tgt lv st) (kf : ¬ x < 0 → V X cs sl h (pc + 3) lv st) : V X cs sl h pc lv (vI x :: st) := by
  obtain ⟨p, l, e, R, s, m, args, below, meth, c, Q, G, n', h0⟩ := X
  obtain ⟨hx, hb, hml, hown, hts, hK, rfl, hR, hr, hlk, hgb, hsk⟩ := C
  intro H locs ls hE hPi hS hl t1 t2
  exact lv_if_lt hx hb d ht (fun c1 => kt c1 H locs ls hE hPi hS hl t1 (ty_1 t2)) (fun c1 => kf c1 H locs ls hE hPi hS hl t1 (ty_1 t2))
theorem V_if_ge (C : CX X cc own nL ret rm) {x : Int32} {off : Int} (tgt : Nat) (d : decode cc pc = .ok (.ifCond .ge off, 3)) (ht : (pc : Int) + off = (tgt : Int)) (kt : 0 ≤ x → V X cs sl h tgt lv st) (kf : ¬ 0 ≤ x → V X cs sl h (pc + 3) lv st) : V X cs sl h pc lv (vI x :: st) := by
  obtain ⟨p, l, e, R, s, m, args, below, meth, c, Q, G, n', h0⟩ := X
  obtain ⟨hx, hb, hml, hown, hts, hK, rfl, hR, hr, hlk, hgb, hsk⟩ := C
  intro H locs ls hE hPi hS hl t1 t2
  exact lv_if_ge hx hb d ht (fun c1 => kt c1 H locs ls hE hPi hS hl t1 (ty_1 t2)) (fun c1 => kf c1 H locs ls hE hPi hS hl t1 (ty_1 t2))
theorem V_if_gt (C : CX X cc own nL ret rm) {x : Int32} {off : Int} (tgt : Nat) (d : decode cc pc = .ok (.ifCond .gt off, 3)) (ht : (pc : Int) + off = (tgt : Int)) (kt : 0 < x → V X cs sl h tgt lv st) (kf : ¬ 0 < x → V X cs sl h (pc + 3) lv st) : V X cs sl h pc lv (vI x :: st) := by
  obtain ⟨p, l, e, R, s, m, args, below, meth, c, Q, G, n', h0⟩ := X
  obtain ⟨hx, hb, hml, hown, hts, hK, rfl, hR, hr, hlk, hgb, hsk⟩ := C
  intro H locs ls hE hPi hS hl t1 t2
  exact lv_if_gt hx hb d ht (fun c1 => kt c1 H locs ls hE hPi hS hl t1 (ty_1 t2)) (fun c1 => kf c1 H locs ls hE hPi hS hl t1 (ty_1 t2))
theorem V_if_le (C : CX X cc own nL ret rm) {x : Int32} {off : Int} (tgt : Nat) (d : decode cc pc = .ok (.ifCond .le off, 3)) (ht : (pc : Int) + off = (tgt : Int)) (kt : x ≤ 0 → V X cs sl h tgt lv st) (kf : ¬ x ≤ 0 → V X cs sl h (pc + 3) lv st) : V X cs sl h pc lv (vI x :: st) := by
  obtain ⟨p, l, e, R, s, m, args, below, meth, c, Q, G, n', h0⟩ := X
  obtain ⟨hx, hb, hml, hown, hts, hK, rfl, hR, hr, hlk, hgb, hsk⟩ := C
  intro H locs ls hE hPi hS hl t1 t2
  exact lv_if_le hx hb d ht (fun c1 => kt c1 H locs ls hE hPi hS hl t1 (ty_1 t2)) (fun c1 => kf c1 H locs ls hE hPi hS hl t1 (ty_1 t2))
theorem V_icmp_eq (C : CX X cc own nL ret rm) {x y : Int32} {off : Int} (tgt : Nat) (d : decode cc pc = .ok (.if_icmp .eq off, 3)) (ht : (pc : Int) + off = (tgt : Int)) (kt : x = y → V X cs sl h tgt lv st) (kf : ¬ x = y → V X cs sl h (pc + 3) lv st) : V X cs sl h pc lv (vI y :: vI x :: st) := by
  obtain ⟨p, l, e, R, s, m, args, below, meth, c, Q, G, n', h0⟩ := X
  obtain ⟨hx, hb, hml, hown, hts, hK, rfl, hR, hr, hlk, hgb, hsk⟩ := C
  intro H locs ls hE hPi hS hl t1 t2
  exact lv_icmp_eq hx hb d ht (fun c1 => kt c1 H locs ls hE hPi hS hl t1 (ty_2 t2)) (fun c1 => kf c1 H locs ls hE hPi hS hl t1 (ty_2 t2))
theorem V_icmp_ne (C : CX X cc own nL ret rm) {x y : Int32} {off : Int} (tgt : Nat) (d : decode cc pc = .ok (.if_icmp .ne off, 3)) (ht : (pc : Int) + off = (tgt : Int)) (kt : ¬ x = y → V X cs sl h tgt lv st) (kf : x = y → V X cs sl h (pc + 3) lv st) : V X cs sl h pc lv (vI y :: vI x :: st) := by
  obtain ⟨p, l, e, R, s, m, args, below, meth, c, Q, G, n', h0⟩ := X
  obtain ⟨hx, hb, hml, hown, hts, hK, rfl, hR, hr, hlk, hgb, hsk⟩ := C
  intro H locs ls hE hPi hS hl t1 t2
  exact lv_icmp_ne hx hb d ht (fun c1 => kt c1 H locs ls hE hPi hS hl t1 (ty_2 t2)) (fun c1 => kf c1 H locs ls hE hPi hS hl t1 (ty_2 t2))
theorem V_icmp_lt (C : CX X cc own nL ret rm) {x y : Int32} {off : Int} (tgt : Nat) (d : decode cc pc = .ok (.if_icmp .lt off, 3)) (ht : (pc : Int) + off = (tgt : Int)) (kt : x < y → V X cs sl h tgt lv st) (kf : ¬ x < y → V X cs sl h (pc + 3) lv st) : V X cs sl h pc lv (vI y :: vI x :: st) := by
  obtain ⟨p, l, e, R, s, m, args, below, meth, c, Q, G, n', h0⟩ := X
  obtain ⟨hx, hb, hml, hown, hts, hK, rfl, hR, hr, hlk, hgb, hsk⟩ := C
  intro H locs ls hE hPi hS hl t1 t2
  exact lv_icmp_lt hx hb d ht (fun c1 => kt c1 H locs ls hE hPi hS hl t1 (ty_2 t2)) (fun c1 => kf c1 H locs ls hE hPi hS hl t1 (ty_2 t2))
theorem V_icmp_ge (C : CX X cc own nL ret rm) {x y : Int32} {off : Int} (tgt : Nat) (d : decode cc pc = .ok (.if_icmp .ge off, 3)) (ht : (pc : Int) + off = (tgt : Int)) (kt : y ≤ x → V X cs sl h tgt lv st) (kf : ¬ y ≤ x → V X cs sl h (pc + 3) lv st) : V X cs sl h pc lv (vI y :: vI x :: st) := by
  obtain ⟨p, l, e, R, s, m, args, below, meth, c, Q, G, n', h0⟩ := X
  obtain ⟨hx, hb, hml, hown, hts, hK, rfl, hR, hr, hlk, hgb, hsk⟩ := C
  intro H locs ls hE hPi hS hl t1 t2
  exact lv_icmp_ge hx hb d ht (fun c1 => kt c1 H locs ls hE hPi hS hl t1 (ty_2 t2)) (fun c1 => kf c1 H locs ls hE hPi hS hl t1 (ty_2 t2))
theorem V_icmp_gt (C : CX X cc own nL ret rm) {x y : Int32} {off : Int} (tgt : Nat) (d : decode cc pc = .ok (.if_icmp .gt off, 3)) (ht : (pc : Int) + off = (tgt : Int)) (kt : y < x → V X cs sl h tgt lv st) (kf : ¬ y < x → V X cs sl h (pc + 3) lv st) : V X cs sl h pc lv (vI y :: vI x :: st) := by
  obtain ⟨p, l, e, R, s, m, args, below, meth, c, Q, G, n', h0⟩ := X
  obtain ⟨hx, hb, hml, hown, hts, hK, rfl, hR, hr, hlk, hgb, hsk⟩ := C
  intro H locs ls hE hPi hS hl t1 t2
  exact lv_icmp_gt hx hb d ht (fun c1 => kt c1 H locs ls hE hPi hS hl t1 (ty_2 t2)) (fun c1 => kf c1 H locs ls hE hPi hS hl t1 (ty_2 t2))
theorem V_icmp_le (C : CX X cc own nL ret rm) {x y : Int32} {off : Int} (tgt : Nat) (d : decode cc pc = .ok (.if_icmp .le off, 3)) (ht : (pc : Int) + off = (tgt : Int)) (kt : x ≤ y → V X cs sl h tgt lv st) (kf : ¬ x ≤ y → V X cs sl h (pc + 3) lv st) : V X cs sl h pc lv (vI y :: vI x :: st) := by
  obtain ⟨p, l, e, R, s, m, args, below, meth, c, Q, G, n', h0⟩ := X
  obtain ⟨hx, hb, hml, hown, hts, hK, rfl, hR, hr, hlk, hgb, hsk⟩ := C
  intro H locs ls hE hPi hS hl t1 t2
  exact lv_icmp_le hx hb d ht (fun c1 => kt c1 H locs ls hE hPi hS hl t1 (ty_2 t2)) (fun c1 => kf c1 H locs ls hE hPi hS hl t1 (ty_2 t2))
theorem V_goto (C : CX X cc own nL ret rm) {off : Int} (tgt : Nat) (d : decode cc pc = .ok (.goto off, 3)) (ht : (pc : Int) + off = (tgt : Int)) (k : V X cs sl h tgt lv st) : V X cs sl h pc lv st := by
  obtain ⟨p, l, e, R, s, m, args, below, meth, c, Q, G, n', h0⟩ := X
  obtain ⟨hx, hb, hml, hown, hts, hK, rfl, hR, hr, hlk, hgb, hsk⟩ := C
  intro H locs ls hE hPi hS hl t1 t2
  exact lv_goto hx hb d ht (k H locs ls hE hPi hS hl t1 t2)
theorem V_ifnull (C : CX X cc own nL ret rm) {q : Nat} (hq : q < 16) {r : Option Nat} {off : Int} (tgt : Nat) (d : decode cc pc = .ok (.ifnull off, 3)) (ht : (pc : Int) + off = (tgt : Int)) (kt : r = none → V X cs sl h tgt lv st) (kf : ∀ w, r = some w → V X cs sl h (pc + 3) lv st) : V X cs sl h pc lv (vR q r :: st) := by
  obtain ⟨p, l, e, R, s, m, args, below, meth, c, Q, G, n', h0⟩ := X
  obtain ⟨hx, hb, hml, hown, hts, hK, rfl, hR, hr, hlk, hgb, hsk⟩ := C
  intro H locs ls hE hPi hS hl t1 t2
  rw [List.map_cons]
  cases r with
  | none =>
    rw [show cv G (vR q none) = .null from cR_n hq]
    exact lv_ifnullN hx hb d ht (kt rfl H locs ls hE hPi hS hl t1 (ty_1 t2))
  | some w =>
    rw [show cv G (vR q (some w)) = .ref (gB G + w) from cR_s hq]
    exact lv_ifnull hx hb d (kf w rfl H locs ls hE hPi hS hl t1 (ty_1 t2))
theorem V_ifnonnull (C : CX X cc own nL ret rm) {q : Nat} (hq : q < 16) {r : Option Nat} {off : Int} (tgt : Nat) (d : decode cc pc = .ok (.ifnonnull off, 3)) (ht : (pc : Int) + off = (tgt : Int)) (kt : ∀ w, r = some w → V X cs sl h tgt lv st) (kf : r = none → V X cs sl h (pc + 3) lv st) : V X cs sl h pc lv (vR q r :: st) := by
  obtain ⟨p, l, e, R, s, m, args, below, meth, c, Q, G, n', h0⟩ := X
  obtain ⟨hx, hb, hml, hown, hts, hK, rfl, hR, hr, hlk, hgb, hsk⟩ := C
  intro H locs ls hE hPi hS hl t1 t2
  rw [List.map_cons]
  cases r with
  | none =>
    rw [show cv G (vR q none) = .null from cR_n hq]
    exact lv_ifnonnullN hx hb d (kf rfl H locs ls hE hPi hS hl t1 (ty_1 t2))
  | some w =>
    rw [show cv G (vR q (some w)) = .ref (gB G + w) from cR_s hq]
    exact lv_ifnonnull hx hb d ht (kt w rfl H locs ls hE hPi hS hl t1 (ty_1 t2))
theorem V_tabOut (C : CX X cc own nL ret rm) {dflt lo hi : Int} {offs : Array Int} {len : Nat} {x : Int32} (tgt : Nat) (d : decode cc pc = .ok (.tableswitch dflt lo hi offs, len)) (hh : x.toInt < lo ∨ hi < x.toInt) (ht : (pc : Int) + dflt = (tgt : Int)) (k : V X cs sl h tgt lv st) : V X cs sl h pc lv (vI x :: st) := by
  obtain ⟨p, l, e, R, s, m, args, below, meth, c, Q, G, n', h0⟩ := X
  obtain ⟨hx, hb, hml, hown, hts, hK, rfl, hR, hr, hlk, hgb, hsk⟩ := C
  intro H locs ls hE hPi hS hl t1 t2
  exact lv_tableOut hx hb d hh ht (k H locs ls hE hPi hS hl t1 (ty_1 t2))
theorem V_tabIn (C : CX X cc own nL ret rm) {dflt lo hi : Int} {offs : Array Int} {len : Nat} {x : Int32} {off : Int} (tgt : Nat) (d : decode cc pc = .ok (.tableswitch dflt lo hi offs, len)) (h1 : ¬ x.toInt < lo) (h2 : ¬ hi < x.toInt) (ho : offs[(x.toInt - lo).toNat]? = some off) (ht : (pc : Int) + off = (tgt : Int)) (k : V X cs sl h tgt lv st) : V X cs sl h pc lv (vI x :: st) := by
  obtain ⟨p, l, e, R, s, m, args, below, meth, c, Q, G, n', h0⟩ := X
  obtain ⟨hx, hb, hml, hown, hts, hK, rfl, hR, hr, hlk, hgb, hsk⟩ := C
  intro H locs ls hE hPi hS hl t1 t2
  exact lv_tableIn hx hb d h1 h2 ho ht (k H locs ls hE hPi hS hl t1 (ty_1 t2))
theorem V_look (C : CX X cc own nL ret rm) {dflt : Int} {ps : Array (Int × Int)} {len : Nat} {x : Int32} {off : Int} (tgt : Nat) (d : decode cc pc = .ok (.lookupswitch dflt ps, len)) (hp : (ps.toList.zip (ps.toList.drop 1)).all (fun (a, next) => a.1 < next.1) = true) (ho : Op.lookupswitch.offset ps.toList dflt x.toInt = off) (ht : (pc : Int) + off = (tgt : Int)) (k : V X cs sl h tgt lv st) : V X cs sl h pc lv (vI x :: st) := by
  obtain ⟨p, l, e, R, s, m, args, below, meth, c, Q, G, n', h0⟩ := X
  obtain ⟨hx, hb, hml, hown, hts, hK, rfl, hR, hr, hlk, hgb, hsk⟩ := C
  intro H locs ls hE hPi hS hl t1 t2
  exact lv_lookup hx hb d hp ho ht (k H locs ls hE hPi hS hl t1 (ty_1 t2))
end VR
