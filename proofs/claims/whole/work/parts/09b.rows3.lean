section VD
variable {X : XT} {cc : ByteArray} {own : String} {nL : Nat} {ret : Option FieldType} {rm : Room} {cs sl : Nat} {h : Hp} {pc : Nat} {lv lv' : List (Nat × PV)} {st : List PV}
/-- three rows of sixteen ints, and the row of these -/
def nG0 (h : Hp) : Hp := nO (nO (nO (nO h 15 3) 10 16) 10 16) 10 16
def nG (h : Hp) : Hp := sP (sP (sP (nG0 h) (hN h) 0 (some (hN h + 1))) (hN h) 1 (some (hN h + 2))) (hN h) 2 (some (hN h + 3))
theorem nG_k0 : hK (nG0 h) (hN h) = 15 := by
  show (if hN h = hN h + 1 + 1 + 1 then 10 else if hN h = hN h + 1 + 1 then 10 else if hN h = hN h + 1 then 10 else if hN h = hN h then 15 else hK h (hN h)) = 15
  rw [if_neg (by omega), if_neg (by omega), if_neg (by omega), if_pos rfl]
theorem nG_k (i : Nat) (h0 : 0 < i) (h3 : i ≤ 3) : hK (nG0 h) (hN h + i) = 10 := by
  rcases (show i = 1 ∨ i = 2 ∨ i = 3 by omega) with rfl | rfl | rfl <;> simp [nG0, nO, hK, hN]
theorem nG_l (i : Nat) (h0 : 0 < i) (h3 : i ≤ 3) : hL (nG0 h) (hN h + i) = 16 := by
  rcases (show i = 1 ∨ i = 2 ∨ i = 3 by omega) with rfl | rfl | rfl <;> simp [nG0, nO, hL, hN]
theorem nG_i (i : Nat) (h0 : 0 < i) (h3 : i ≤ 3) (j : Nat) : hI (nG0 h) (hN h + i) j = 0 := by
  rcases (show i = 1 ∨ i = 2 ∨ i = 3 by omega) with rfl | rfl | rfl <;> simp [nG0, nO, hI, hN]
theorem nG_ext : ext h (nG h) := ext_tr (ext_nO h 15 3) (ext_tr (ext_nO _ 10 16) (ext_tr (ext_nO _ 10 16) (ext_nO _ 10 16)))
theorem nG_TH (ht : TH h) : TH (nG h) := by
  have n0 : hN (nG0 h) = hN h + 4 := rfl
  have t0 : TH (nG0 h) := TH_nO (TH_nO (TH_nO (TH_nO ht)))
  have t1 : TH (sP (nG0 h) (hN h) 0 (some (hN h + 1))) := TH_sP t0 (by rw [n0]; omega) (by rw [nG_k0]; exact nG_k 1 (by decide) (by decide))
  have t2 : TH (sP (sP (nG0 h) (hN h) 0 (some (hN h + 1))) (hN h) 1 (some (hN h + 2))) := TH_sP t1 (by show hN h + 2 < hN (nG0 h); rw [n0]; omega) (by show hK (nG0 h) _ = xk (hK (nG0 h) _) 1; rw [nG_k0]; exact nG_k 2 (by decide) (by decide))
  exact TH_sP t2 (by show hN h + 3 < hN (nG0 h); rw [n0]; omega) (by show hK (nG0 h) _ = xk (hK (nG0 h) _) 2; rw [nG_k0]; exact nG_k 3 (by decide) (by decide))
theorem nG_old {G : GT} (u : Nat) (hu : u < hN h) : hcell G (nG h) u = hcell G h u := by
  have e0 : hcell G (nG h) u = hcell G (nG0 h) u := by
    unfold nG
    rw [sP_o u (by omega), sP_o u (by omega), sP_o u (by omega)]
  rw [e0]
  unfold nG0
  rw [nO_o u (by show u < hN h + 3; omega), nO_o u (by show u < hN h + 2; omega), nO_o u (by show u < hN h + 1; omega), nO_o u hu]
theorem nG_p (j : Nat) : hP (nG h) (hN h) j = if j < 3 then some (hN h + 1 + j) else none := by
  have e0 : hP (nG0 h) (hN h) j = none := by simp [nG0, nO, hP, hN]
  show (if hN h = hN h ∧ j = 2 then some (hN h + 3) else if hN h = hN h ∧ j = 1 then some (hN h + 2) else if hN h = hN h ∧ j = 0 then some (hN h + 1) else hP (nG0 h) (hN h) j) = _
  by_cases h2 : j = 2
  · simp [h2]
  · by_cases h1 : j = 1
    · simp [h1]
    · by_cases h00 : j = 0
      · simp [h00]
      · rw [e0]
        simp [h2, h1, h00, show ¬ j < 3 by omega]
theorem vx_outer (c : ClassId) (N h0 : Nat) : ∀ i : Nat, Jvm.Free.Multi.outerC c N h0 i = arrV c N (fun j => va_rf (if j < i then some (h0 + 1 + j) else none))
  | 0 => by
    show ({ cls := c, slots := Array.replicate N .null, vm := .none } : Cell) = _
    rw [arrV_new]
    exact congrArg (arrV c N) (funext fun j => by simp [va_rf])
  | i + 1 => by
    show (Jvm.Free.Multi.outerC c N h0 i).setSlot i (.ref (h0 + 1 + i)) = _
    rw [vx_outer c N h0 i, arrV_store]
    refine congrArg (arrV c N) (funext fun j => ?_)
    by_cases e : j = i
    · subst e
      simp [updV, va_rf]
    · by_cases h : j < i
      · simp [updV, e, h, Nat.lt_succ_of_lt h]
      · simp [updV, e, h, show ¬ j < i + 1 by omega]
theorem V_mna (C : CX X cc own nL ret rm) {ix : Nat} (w1 : Cond.classLink own ix "[[I" ∈ TT) (w2 : Cond.arrayClass .int ∈ TT) (hcs : cs + 4 ≤ rm.cells) (hsl : sl + 51 ≤ rm.slots) (d : decode cc pc = .ok (.multianewarray ix 2, 4)) (k : V X (cs + 4) (sl + 51) (nG h) (pc + 4) lv (vR 15 (some (hN h)) :: st)) : V X cs sl h pc lv (vI 16 :: vI 3 :: st) := by
  obtain ⟨p, l, e, R, s, m, args, below, meth, cd, Q, G, n', h0⟩ := X
  obtain ⟨hx, hb, hml, hown, hts, hKv, rfl, hR, hr, hlk, hgb, hsk⟩ := C
  intro H locs ls hE hPi hS hl t1 t2
  subst hR
  intro T hT Xs
  obtain ⟨vm₁, cA, comp, -, fA, fC, hO, -, X', step⟩ := Xs.multianewarray2F hx hown (ty := .int) (hts _ w1) (ao_use hsk.2.2.2.2.2.1) (hts _ w2) (n := 3) (k := 16) (rest := st.map (cv G)) (g := F0 m pc ls (.int 16 :: .int 3 :: st.map (cv G))) rfl (by rw [hb]; exact d) rfl (by decide) (by decide) (by decide) (by decide) (by decide) rfl rfl hcs hsl
  have hcA : cA = gC G 15 := Option.some.inj (fA.symm.trans (hKv.2 6 _ rfl).2)
  have hcm : comp = gC G 10 := Option.some.inj (fC.symm.trans (hKv.2 1 _ rfl).2)
  subst hcA
  subst hcm
  have e3 : Int32.toNatClampNeg 3 = 3 := by decide
  have e16 : Int32.toNatClampNeg 16 = 16 := by decide
  rw [e3, e16] at X' step
  have hTh : (T.setVm vm₁).heap = H := hT
  obtain ⟨f1, f2, -, -⟩ := Jvm.Free.Multi.fill_facts (T.setVm vm₁) (gC G 15) (gC G 10) 3 16 (defaultValue .int) 3
  have hold := fun (x : Nat) (hx : x < H.size) => Jvm.Free.Multi.fill_old (T.setVm vm₁) (gC G 15) (gC G 10) 3 16 (defaultValue .int) (a := x) (by rw [hTh]; exact hx) 3
  have hrow := fun (j : Nat) (hj : j < 3) => Jvm.Free.Multi.fill_inner (T.setVm vm₁) (gC G 15) (gC G 10) 3 16 (defaultValue .int) 3 j hj
  generalize hF : Jvm.Free.Multi.fill (T.setVm vm₁) (gC G 15) (gC G 10) 3 16 (defaultValue .int) 3 = F at X' step f1 f2 hold hrow
  rw [hTh] at f1 f2
  simp only [hTh] at hold hrow
  rw [vx_outer] at f2
  have hPn : Pic G (nG h) F.heap := by
    refine ⟨by rw [f1, hPi.1]; show gB G + hN h + 1 + 3 = gB G + (hN h + 1 + 1 + 1 + 1); omega, nG_TH hPi.2.1, ?_⟩
    intro v q hq
    have hv : v < hN h + 4 := by
      have h9 := (List.getElem?_eq_some_iff.mp hq).1
      simpa [hw, nG, nG0, sP, nO, hN] using h9
    rw [hw_get (show v < hN (nG h) from hv)] at hq
    cases hq
    by_cases hv1 : v < hN h
    · rw [nG_old v hv1]
      exact (Pic_at hPi hv1).kept (hold _ (by rw [hPi.1]; omega))
    · by_cases hv2 : v = hN h
      · subst hv2
        rw [hc_ref (h := nG h) (v := hN h) (c := 15) nG_k0 (by decide)]
        show F.heap[gB G + hN h]? = some (vp_cell _ _)
        rw [← hPi.1, f2, vp_cell_q]
        congr 2
        · show 3 = (if hN h = hN h + 1 + 1 + 1 then 16 else if hN h = hN h + 1 + 1 then 16 else if hN h = hN h + 1 then 16 else if hN h = hN h then 3 else hL h (hN h))
          rw [if_neg (by omega), if_neg (by omega), if_neg (by omega), if_pos rfl]
        · funext j
          rw [nG_p]
          by_cases hj : j < 3
          · rw [if_pos hj, if_pos hj, hPi.1]
            show va_rf (some (gB G + hN h + 1 + j)) = va_rf (some (gB G + (hN h + 1 + j)))
            rw [show gB G + hN h + 1 + j = gB G + (hN h + 1 + j) by omega]
          · rw [if_neg hj, if_neg hj]
            rfl
      · obtain ⟨i, hi⟩ : ∃ i, v = hN h + i := ⟨v - hN h, by omega⟩
        subst hi
        have a1 : 0 < i := by omega
        have a2 : i ≤ 3 := by omega
        rw [hc_int (h := nG h) (v := hN h + i) (c := 10) (nG_k i a1 a2) (by decide) (by decide) (by decide)]
        show F.heap[gB G + (hN h + i)]? = some (vp_cell _ _)
        have h9 := hrow (i - 1) (by omega)
        rw [show H.size + 1 + (i - 1) = gB G + (hN h + i) by rw [hPi.1]; omega] at h9
        rw [h9, vp_cell_i]
        show some ({ cls := gC G 10, slots := Array.replicate 16 (defaultValue .int), vm := .none } : Cell) = _
        rw [arrV_new]
        congr 2
        · exact (nG_l i a1 a2).symm
        · funext j
          show Value.int 0 = Value.int (hI (nG0 h) (hN h + i) j)
          rw [nG_i i a1 a2 j]
  have h15 : hK (nG h) (hN h) = 15 := nG_k0
  obtain ⟨t, b1, b2⟩ := k F.heap locs ls (ext_tr hE nG_ext) hPn ⟨by rw [f1]; have := hS.1; omega, fun x h1 h2 => (hold x (Nat.lt_of_lt_of_le h1 hS.1)).trans (hS.2.1 x h1 h2), hS.2.2⟩ hl (tyl_ext nG_ext t1) (ty_c (ty_w (by decide) (show hN h < hN h + 1 + 1 + 1 + 1 by omega) h15) (tys_ext nG_ext (ty_2 t2))) F rfl X'
  refine ⟨t, step t ?_, b2⟩
  rw [hT, hPi.1]
  exact b1
/-- a copy of a row of ints -/
def nC (h : Hp) (a : Nat) : Hp := (hN h + 1, fun b => if b = hN h then 10 else hK h b, fun b j => if b = hN h then hI h a j else hI h b j, fun b j => if b = hN h then 0 else hJ h b j, fun b j => if b = hN h then none else hP h b j, fun b => if b = hN h then hL h a else hL h b)
theorem nC_ext (a : Nat) : ext h (nC h a) := ⟨Nat.le_succ _, fun v hv => by show (if v = hN h then 10 else hK h v) = _; rw [if_neg (by omega)]⟩
theorem nC_TH {a : Nat} (ht : TH h) : TH (nC h a) := TH_nO (c := 10) (z := hL h a) ht
theorem nC_o {G : GT} {a : Nat} : ∀ u, u < hN h → hcell G (nC h a) u = hcell G h u := fun u hu => hc_cong (if_neg (by omega)) (funext fun j => if_neg (by omega)) (funext fun j => if_neg (by omega)) (funext fun j => if_neg (by omega)) (if_neg (by omega))
theorem V_clone (C : CX X cc own nL ret rm) {ix a : Nat} (w1 : Cond.methodLink own ix ⟨"[I", "clone", "()Ljava/lang/Object;"⟩ ∈ TT) (w2 : Cond.sameMethod "[I" "java/lang/Object" "clone" "()Ljava/lang/Object;" ∈ TT) (w3 : Cond.native ⟨"java/lang/Object", "clone", "()Ljava/lang/Object;"⟩ ∈ TT) (w4 : Cond.instanceMethod ⟨"java/lang/Object", "clone", "()Ljava/lang/Object;"⟩ ∈ TT) (w5 : Cond.selects "[I" ⟨"[I", "clone", "()Ljava/lang/Object;"⟩ ⟨"java/lang/Object", "clone", "()Ljava/lang/Object;"⟩ ∈ TT) (hf : 1 ≤ rm.frames) (hlo : csum st + 14 ≤ rm.locals) {z : Nat} (hz : hL h a ≤ z) (hcs : cs + 1 ≤ rm.cells) (hsl : sl + z ≤ rm.slots) (d : decode cc pc = .ok (.invokevirtual ix, 3)) (k : V X (cs + 1) (sl + z) (nC h a) (pc + 3) lv (vR 10 (some (hN h)) :: st)) : V X cs sl h pc lv (vR 10 (some a) :: st) := by
  have k := V_wide (cs := cs + 1) (sl := sl + hL h a) (Nat.le_refl _) (by omega) k
  have hsl2 : sl + hL h a ≤ rm.slots := by omega
  clear hsl hz
  obtain ⟨p, l, e, R, s, m, args, below, meth, cd, Q, G, n', h0⟩ := X
  obtain ⟨hx, hb, hml, hown, hts, hKv, rfl, hR, hr, hlk, hgb, hsk⟩ := C
  intro H locs ls hE hPi hS hl t1 t2
  subst hR
  obtain ⟨hw1, hw2⟩ := ty_r (by decide : 10 < 16) (ty_h t2)
  have hat := Pic_at hPi hw1
  rw [hc_int hw2 (by decide) (by decide) (by decide)] at hat
  have hat : H[gB G + a]? = some (vp_cell (gC G 10) (hL h a, .inl (hI h a))) := hat
  have hnm : s.vm.findClass "[I" = some (gC G 10) := (hKv.2 1 _ rfl).2
  obtain ⟨c0, t0', f1, f2, f3⟩ := Cond.castable_spec (va_Nw.use (A := args) rfl hsk.2.2.2.2.2.2)
  have hc0 : c0 = gC G 10 := Option.some.inj (f1.symm.trans hnm)
  subst hc0
  intro T hT Xs
  have hsz : (vp_cell (gC G 10) (hL h a, .inl (hI h a))).slots.size = hL h a := by
    show (arrV _ _ _).slots.size = _
    rw [arrV_size]
  obtain ⟨-, kA, hkA, comp, hkind⟩ := State.isArrayOf_alike Xs.warmed.alike ((hKv.2 1 _ rfl).1 0 (fun _ => .null))
  obtain ⟨-, kS, hkS, compS, hkindS⟩ := (hKv.2 1 _ rfl).1 0 (fun _ => .null)
  obtain ⟨vm', X', stp⟩ := Xs.cloneArray hx hown (hts _ w1) (hts _ w2) (hts _ w3) (hts _ w4) (hts _ w5) (a := gB G + a) (cell := vp_cell (gC G 10) (hL h a, .inl (hI h a))) (by rw [hT]; exact hat) (fun k h => by cases h) (fun h => by cases h) hnm f2 f3
    (fun i v hv => by
      have hk' : T.vm.classes[gC G 10]? = some kA := hkA
      have hv' : (arrV (gC G 10) (hL h a) (fun j => .int (hI h a j))).slots[i]? = some v := hv
      have hi : i < hL h a := by
        have := (Array.getElem?_eq_some_iff.mp hv').1
        rwa [arrV_size] at this
      rw [arrV_read _ _ hi] at hv'
      cases hv'
      have hcl : (vp_cell (gC G 10) (hL h a, .inl (hI h a))).cls = gC G 10 := rfl
      simp [State.fitsSlot, State.slotType?, hcl, hk', hkind, fits])
    (g := F0 m pc ls (.ref (gB G + a) :: st.map (cv G))) rfl (by rw [hml]; exact hl.1) rfl (by rw [hb]; exact d) hf (by show 2 * 0 + _ + 14 ≤ _; rw [csum_map]; omega) hcs (by rw [hsz]; exact hsl2) (hloader := Vm.clonesLoader_of_array hkS hkindS)
  have hce : ({ cls := (vp_cell (gC G 10) (hL h a, .inl (hI h a))).cls, slots := (vp_cell (gC G 10) (hL h a, .inl (hI h a))).slots } : Cell) = vp_cell (gC G 10) (hL h a, .inl (hI h a)) := rfl
  rw [hce, hsz] at X'
  generalize hH1 : H.push (vp_cell (gC G 10) (hL h a, .inl (hI h a))) = H1
  have z1 : H1.size = H.size + 1 := by rw [← hH1, Array.size_push]
  have e1 : H1[H.size]? = some (vp_cell (gC G 10) (hL h a, .inl (hI h a))) := by rw [← hH1, Array.getElem?_push_size]
  have o1 : ∀ q : Nat, q < H.size → H1[q]? = H[q]? := fun q hq => by rw [← hH1, Array.getElem?_push, if_neg (Nat.ne_of_lt hq)]
  have hPn : Pic G (nC h a) H1 := by
    refine ⟨by rw [z1, hPi.1]; rfl, nC_TH hPi.2.1, ?_⟩
    rw [← hw_push (h := h) (h1 := nC h a) rfl nC_o]
    refine va_P.app (va_P.kept hPi.2.2 (fun k q hk => o1 q.1 (hPi.2.2 k q hk).lt)) ?_
    intro k q hk
    have hz : k < 1 := (List.getElem?_eq_some_iff.mp hk).1
    rw [show k = 0 by omega] at hk
    cases hk
    rw [hc_int (c := 10) (show hK (nC h a) (hN h) = 10 from if_pos rfl) (by decide) (by decide) (by decide)]
    show H1[gB G + hN h]? = some (vp_cell _ _)
    rw [← hPi.1, e1, vp_cell_i, vp_cell_i]
    congr 2
    · exact (if_pos rfl).symm
    · funext j
      show Value.int (hI h a j) = Value.int (if hN h = hN h then hI h a j else _)
      rw [if_pos rfl]
  obtain ⟨t, b1, b2⟩ := k H1 locs ls (ext_tr hE (nC_ext a)) hPn ⟨Nat.le_trans hS.1 (by rw [z1]; omega), fun x h1 h2 => (o1 x (Nat.lt_of_lt_of_le h1 hS.1)).trans (hS.2.1 x h1 h2), hS.2.2⟩ hl (tyl_ext (nC_ext a) t1) (ty_c (ty_w (by decide) (Nat.lt_succ_self _) (if_pos rfl)) (tys_ext (nC_ext a) (ty_1 t2))) ((T.setVm vm').pushCell (vp_cell (gC G 10) (hL h a, .inl (hI h a)))) (by rw [← hH1, ← hT]; rfl) X'
  refine ⟨t, stp t ?_, b2⟩
  rw [hce, hT, hPi.1]
  exact b1
theorem V_castI (C : CX X cc own nL ret rm) {ix a : Nat} (w1 : Cond.classLink own ix "[I" ∈ TT) (d : decode cc pc = .ok (.checkcast ix, 3)) (k : V X cs sl h (pc + 3) lv (vR 10 (some a) :: st)) : V X cs sl h pc lv (vR 10 (some a) :: st) := by
  obtain ⟨p, l, e, R, s, m, args, below, meth, cd, Q, G, n', h0⟩ := X
  obtain ⟨hx, hb, hml, hown, hts, hKv, rfl, hR, hr, hlk, hgb, hsk⟩ := C
  intro H locs ls hE hPi hS hl t1 t2
  obtain ⟨hw1, hw2⟩ := ty_r (by decide : 10 < 16) (ty_h t2)
  have he := hw_get (G := G) hw1
  rw [hc_int hw2 (by decide) (by decide) (by decide)] at he
  exact va_castA hx hb hown (hts _ w1) hPi.2.2 a he (hKv.2 1 _ rfl).2 d (k H locs ls hE hPi hS hl t1 t2)
end VD
