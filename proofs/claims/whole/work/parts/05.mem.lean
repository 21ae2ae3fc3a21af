section VM
variable {X : XT} {cc : ByteArray} {own : String} {nL : Nat} {ret : Option FieldType} {rm : Room} {cs sl : Nat} {h : Hp} {pc : Nat} {lv lv' : List (Nat × PV)} {st : List PV}
def isI (t : FieldType) : Bool := match t with
  | .object _ => false
  | .array _ => false
  | _ => true
theorem fv_I {G : GT} {v k : Nat} {t : FieldType} (ht : isI t = true) : fv G h v k t = .int (hI h v k) := by
  cases t <;> first | rfl | exact absurd ht Bool.false_ne_true | exact absurd ht (fun e => Bool.false_ne_true e.symm)
theorem fv_R {G : GT} {v k : Nat} {t : FieldType} (ht : isI t = false) : fv G h v k t = va_rf ((hP h v k).map (gB G + ·)) := by
  cases t <;> first | rfl | exact absurd ht Bool.false_ne_true | exact absurd ht (fun e => Bool.false_ne_true e.symm)
/-- a class of the system: its number, name, fields -/
def FX (c : Nat) (Cn : String) (T : u_T) (N : Nat) : Prop := vwCl[c]? = some (Cn, T, N) ∧ (∀ w ∈ u_ws Cn T N, w ∈ TT) ∧ c < 9 ∧ fN c = N ∧ (∀ k, k < N → parseFieldDescriptor (T k).2.2.1 = some (fT c k)) ∧ (∀ a, a < N → ∀ b, b < N → a ≠ b → (T a).2.1 ≠ (T b).2.1) ∧ ∀ k, k < N → (T k).1 = Cn
/-- a field by the link of a class's pool -/
def FL (own : String) (ix c k : Nat) : Prop := ∃ (Cn : String) (T : u_T) (N : Nat), FX c Cn T N ∧ k < N ∧ Cond.fieldLink own ix Cn (T k).2.1 (T k).2.2.1 ∈ TT
theorem Pic_set {G : GT} {h1 : Hp} {H H1 : Heap} {w : Nat} (hPi : Pic G h H) (hw : w < hN h) (hz : H1.size = H.size) (oq : ∀ q : Nat, q ≠ gB G + w → H1[q]? = H[q]?) (hn : hN h1 = hN h) (ho : ∀ u, u ≠ w → hcell G h1 u = hcell G h u) (ht : TH h1) (hc : va_at (gD G) vwCl (gB G + w, hcell G h1 w) H1) : Pic G h1 H1 := by
  refine ⟨by rw [hz, hn]; exact hPi.1, ht, ?_⟩
  rw [← hw_set hn ho]
  exact va_P.set hPi.2.2 (hw_D G h) (hw_get hw) hc oq
theorem Pic_at {G : GT} {H : Heap} {w : Nat} (hPi : Pic G h H) (hw : w < hN h) : va_at (gD G) vwCl (gB G + w, hcell G h w) H := hPi.2.2 w _ (hw_get hw)
theorem sI_o {G : GT} {w k : Nat} {x : Int32} : ∀ u, u ≠ w → hcell G (sI h w k x) u = hcell G h u := fun u hu => hc_cong rfl (funext fun j => if_neg (fun e => hu e.1)) rfl rfl rfl
theorem sJ_o {G : GT} {w k : Nat} {x : Int64} : ∀ u, u ≠ w → hcell G (sJ h w k x) u = hcell G h u := fun u hu => hc_cong rfl rfl (funext fun j => if_neg (fun e => hu e.1)) rfl rfl
theorem sP_o {G : GT} {w k : Nat} {x : Option Nat} : ∀ u, u ≠ w → hcell G (sP h w k x) u = hcell G h u := fun u hu => hc_cong rfl rfl rfl (funext fun j => if_neg (fun e => hu e.1)) rfl
theorem sC_o {G : GT} {a0 a1 sp dp n : Nat} : ∀ u, u ≠ a1 → hcell G (sC h a0 a1 sp dp n) u = hcell G h u := fun u hu => hc_cong rfl (funext fun j => if_neg hu) rfl rfl rfl
theorem TH_sP {w k q : Nat} (ht : TH h) (hq : q < hN h) (hk : hK h q = xk (hK h w) k) : TH (sP h w k (some q)) := by
  intro v j u hv hu
  have hu : (if v = w ∧ j = k then some q else hP h v j) = some u := hu
  by_cases e : v = w ∧ j = k
  · rw [if_pos e] at hu
    cases hu
    obtain ⟨rfl, rfl⟩ := e
    exact ⟨hq, hk⟩
  · rw [if_neg e] at hu
    exact ht v j u hv hu
theorem TH_nO {c z : Nat} (ht : TH h) : TH (nO h c z) := by
  intro v j u hv hu
  have hv : v < hN h + 1 := hv
  have hu : (if v = hN h then none else hP h v j) = some u := hu
  by_cases e : v = hN h
  · rw [if_pos e] at hu
    cases hu
  · rw [if_neg e] at hu
    have h1 := ht v j u (by omega) hu
    refine ⟨Nat.lt_succ_of_lt h1.1, ?_⟩
    show (if u = hN h then c else hK h u) = xk (if v = hN h then c else hK h v) j
    rw [if_neg (by omega), if_neg e]
    exact h1.2
theorem nO_o {G : GT} {c z : Nat} : ∀ u, u < hN h → hcell G (nO h c z) u = hcell G h u := fun u hu => hc_cong (if_neg (by omega)) (funext fun j => if_neg (by omega)) (funext fun j => if_neg (by omega)) (funext fun j => if_neg (by omega)) (if_neg (by omega))
theorem nO_k {c z : Nat} : hK (nO h c z) (hN h) = c := if_pos rfl
theorem Pic_push {G : GT} {H H1 : Heap} {c z : Nat} (hPi : Pic G h H) (hz : H1.size = H.size + 1) (oq : ∀ q : Nat, q < H.size → H1[q]? = H[q]?) (hc : va_at (gD G) vwCl (gB G + hN h, hcell G (nO h c z) (hN h)) H1) : Pic G (nO h c z) H1 := by
  refine ⟨by rw [hz, hPi.1]; rfl, TH_nO hPi.2.1, ?_⟩
  rw [← hw_push (h := h) (h1 := nO h c z) rfl nO_o]
  refine va_P.app (va_P.kept hPi.2.2 (fun k q hk => oq q.1 (hPi.2.2 k q hk).lt)) ?_
  intro k q hk
  have hz : k < 1 := (List.getElem?_eq_some_iff.mp hk).1
  rw [show k = 0 by omega] at hk
  cases hk
  exact hc
theorem rg_get {c k : Nat} {f : Nat → Value} (hk : k < fN c) : ((List.range (fN c)).map f)[k]? = some (f k) := by
  rw [List.getElem?_map, List.getElem?_range hk]
  rfl
theorem rg_set {N k : Nat} {f g : Nat → Value} (hg : ∀ j, j ≠ k → g j = f j) : ((List.range N).map f).set k (g k) = (List.range N).map g := by
  apply List.ext_getElem?
  intro i
  rw [List.getElem?_set]
  by_cases e : k = i
  · subst e
    by_cases hk : k < N
    · simp [hk]
    · simp [hk]
  · rw [if_neg e, List.getElem?_map, List.getElem?_map]
    by_cases hk : i < N
    · rw [List.getElem?_range hk]
      simp [hg i (fun z => e z.symm)]
    · rw [List.getElem?_eq_none (by simp; omega)]
      rfl
theorem V_getI (C : CX X cc own nL ret rm) {w c ix k0 : Nat} (F : FL own ix c k0) (ht : isI (fT c k0) = true) (d : decode cc pc = .ok (.getfield ix, 3)) (k : V X cs sl h (pc + 3) lv (vI (hI h w k0) :: st)) : V X cs sl h pc lv (vR c (some w) :: st) := by
  obtain ⟨p, l, e, R, s, m, args, below, meth, c', Q, G, n', h0⟩ := X
  obtain ⟨hx, hb, hml, hown, hts, hKv, rfl, hR, hr, hlk, hgb, hsk⟩ := C
  intro H locs ls hE hPi hS hl t1 t2
  obtain ⟨Cn, T, N, ⟨f1, f2, f3, f4, f5, f6, f7⟩, hkN, hlink⟩ := F
  obtain ⟨hw1, hw2⟩ := ty_r (by omega : c < 16) (ty_h t2)
  rw [List.map_cons, show cv G (vR c (some w)) = .ref (gB G + w) from cR_s (by omega)]
  have he := hw_get (G := G) hw1
  rw [hc_obj hw2 f3] at he
  refine va_get (D := gD G) (ci := c) (v := .int (hI h w k0)) hx hb hts f2 hown hKv hPi.2.2 w he f1 k0 hkN (hts _ hlink) (fun x h9 => by rw [f7 k0 hkN] at h9; exact h9) ?_ d (k H locs ls hE hPi hS hl t1 (ty_c trivial (ty_1 t2)))
  rw [rg_get (by omega), fv_I ht]
theorem V_getR (C : CX X cc own nL ret rm) {w c ix k0 q kd : Nat} (F : FL own ix c k0) (ht : isI (fT c k0) = false) (hx : xk c k0 = kd) (hkd : kd < 16) (hq : hP h w k0 = some q) (d : decode cc pc = .ok (.getfield ix, 3)) (k : V X cs sl h (pc + 3) lv (vR kd (some q) :: st)) : V X cs sl h pc lv (vR c (some w) :: st) := by
  obtain ⟨p, l, e, R, s, m, args, below, meth, c', Q, G, n', h0⟩ := X
  obtain ⟨hx', hb, hml, hown, hts, hKv, rfl, hR, hr, hlk, hgb, hsk⟩ := C
  intro H locs ls hE hPi hS hl t1 t2
  obtain ⟨Cn, T, N, ⟨f1, f2, f3, f4, f5, f6, f7⟩, hkN, hlink⟩ := F
  obtain ⟨hw1, hw2⟩ := ty_r (by omega : c < 16) (ty_h t2)
  have hq1 := hPi.2.1 w k0 q hw1 hq
  rw [hw2, hx] at hq1
  have k1 := k H locs ls hE hPi hS hl t1 (ty_c (ty_w hkd hq1.1 hq1.2) (ty_1 t2))
  rw [List.map_cons, show cv G (vR kd (some q)) = .ref (gB G + q) from cR_s hkd] at k1
  rw [List.map_cons, show cv G (vR c (some w)) = .ref (gB G + w) from cR_s (by omega)]
  have he := hw_get (G := G) hw1
  rw [hc_obj hw2 f3] at he
  refine va_get (D := gD G) (ci := c) (v := .ref (gB G + q)) hx' hb hts f2 hown hKv hPi.2.2 w he f1 k0 hkN (hts _ hlink) (fun x h9 => by rw [f7 k0 hkN] at h9; exact h9) ?_ d k1
  rw [rg_get (by omega), fv_R ht, hq]
  rfl
/-- a field is stored: what is known of the heap behind it -/
theorem W_put {p : Program} {l : Launch} {e : Env} {R : Room} {s : State} {m : MethodId} {args : Array Value} {below : List Frame} {meth : Method} {c : Code} {H : Heap} {locs : List Loc} {cells slots : Nat} {Q : State → Prop} {ls : Array Slot} {rest : List Value} {G : GT} (hexec : p.tables.exec = Jvm.exec) (hb : c.code = cc) (hts : ∀ w ∈ TT, w.before args s = true) (hown : s.vm.findClass own = some m.cls) (hK : va_K (gD G) vwCl (tys G) s) {ci a ix k0 : Nat} {fs : List Value} (hat : va_at (gD G) vwCl (a, .inr (ci, fs)) H) {Cn : String} {T : u_T} {N : Nat} (F : FX ci Cn T N) (hk : k0 < N) (hlink : Cond.fieldLink own ix Cn (T k0).2.1 (T k0).2.2.1 ∈ TT) (hfin : (T k0).2.2.2 = false ∨ ((T k0).2.2.2 = true ∧ own = Cn ∧ meth.name = "<init>")) {v : Value} (hn : narrow (fT ci k0) v = v) (hfit : fits (fT ci k0) v = true) (hl : k0 < fs.length) (d : decode cc pc = .ok (.putfield ix, 3))
    (kk : ∀ (H1 : Heap) (i : Nat), H1.size = H.size → (∀ q : Nat, q ≠ a → H1[q]? = H[q]?) → va_at (gD G) vwCl (a, .inr (ci, fs.set k0 v)) H1 → W p l e R s m args below meth c H1 (locs ++ [⟨a, i⟩]) cells slots Q (F0 m (pc + 3) ls rest)) : W p l e R s m args below meth c H locs cells slots Q (F0 m pc ls (v :: .ref a :: rest)) := by
  obtain ⟨hc, hin, f3, f4, hty, hnm, f7⟩ := F
  have hap := va_apart (own := own) hts hin (fT ci) hty hnm hK hc
  obtain ⟨r, h1, cell, q1, q2, q3, q4⟩ := hat
  have hr : r = (Cn, T, N) := Option.some.inj (h1.symm.trans hc)
  subst hr
  obtain ⟨hS, hfc, kC, hkC, hkind⟩ := hK.1 ci _ hc
  obtain ⟨cf, kf, fi, f, hi, hsl⟩ := hS k0 hk
  have hlay := hts _ (hin _ (u_in_lay hk))
  have hst := (u_facts hfc hkC (u_lays hts hin hk) hi).1
  have hi2 : s.fieldFound? Cn (T k0).2.1 (T k0).2.2.1 = some (cf, kf, fi, f) := by rw [← f7 k0 hk]; exact hi
  have hend : ∀ H' : Heap, H'[a]? = some (cell.setSlot f.slot v) → va_at (gD G) vwCl (a, .inr (ci, fs.set k0 v)) H' := fun H' e1 => by
    rw [hsl] at e1
    exact ⟨_, hc, t_OB.to (V := updV (vp_V fs) k0 v) ⟨_, e1, q2, q3, t_set q4 hap hk v⟩ (fun j _ => vp_updV_set hl v j)⟩
  unfold u_lay at hlay
  rcases hfin with hfin | ⟨hfin, hoc, hmn⟩
  · rw [if_neg (by rw [hfin]; decide)] at hlay
    have h6 := u_store hfc hkC hkind hlay hi (hty k0 hk) hn hfit
    exact W.putK hexec hb (f := f) ⟨hown, hts _ hlink, ⟨_, _, _, hi2⟩, hst⟩ (by rw [q2]; exact h6) q1 q3 (by rw [hsl]; exact k2_hasslot (q4 k0 hk)) rfl rfl d fun H' e1 e2 e3 => kk H' _ e2 e3 (hend H' e1)
  · rw [if_pos hfin] at hlay
    have hcf : m.cls = cf := by
      obtain ⟨_, _, c', _, _, _, -, -, hf', -, -, -, hown2, -⟩ := Cond.laysFinal_spec hlay
      have e1 : c' = cf := by have := hi.symm.trans hf'; simp at this; exact this.1.symm
      rw [f7 k0 hk, ← hoc] at hown2
      rw [← e1]
      exact Option.some.inj (hown.symm.trans hown2)
    have h6 := u_fits hfc hkC hkind (Or.inr hlay) hi (hty k0 hk) hn hfit
    exact W.putFinK hexec hb hown (hts _ hlink) hi2 hst hcf hmn (by rw [q2]; exact h6) q1 q3 (by rw [hsl]; exact k2_hasslot (q4 k0 hk)) rfl rfl d fun H' e1 e2 e3 => kk H' _ e2 e3 (hend H' e1)
/-- what a stored int may be: any for an int, 0 or 1 for a boolean -/
def okI (t : FieldType) (x : Int32) : Prop := narrow t (.int x) = .int x ∧ fits t (.int x) = true
theorem okI_int (x : Int32) : okI .int x := ⟨rfl, rfl⟩
theorem okI_z {x : Int32} (hx : x = 0 ∨ x = 1) : okI .boolean x := by
  rcases hx with rfl | rfl <;> exact ⟨by decide, by decide⟩
/-- fields that are not final -/
def nfin (own : String) (ix c k : Nat) : Prop := ∃ (Cn : String) (T : u_T) (N : Nat), FX c Cn T N ∧ k < N ∧ Cond.fieldLink own ix Cn (T k).2.1 (T k).2.2.1 ∈ TT ∧ (T k).2.2.2 = false
theorem V_putI (C : CX X cc own nL ret rm) {w c ix k0 : Nat} {x : Int32} (F : nfin own ix c k0) (ht : isI (fT c k0) = true) (hv : okI (fT c k0) x) (d : decode cc pc = .ok (.putfield ix, 3)) (k : V X cs sl (sI h w k0 x) (pc + 3) lv st) : V X cs sl h pc lv (vI x :: vR c (some w) :: st) := by
  obtain ⟨p, l, e, R, s, m, args, below, meth, c', Q, G, n', h0⟩ := X
  obtain ⟨hx, hb, hml, hown, hts, hKv, rfl, hR, hr, hlk, hgb, hsk⟩ := C
  intro H locs ls hE hPi hS hl t1 t2
  obtain ⟨Cn, T, N, F, hkN, hlink, hfin⟩ := F
  obtain ⟨hw1, hw2⟩ := ty_r (by have := F.2.2.1; omega : c < 16) (ty_h (ty_1 t2))
  rw [List.map_cons, List.map_cons, show cv G (vR c (some w)) = .ref (gB G + w) from cR_s (by have := F.2.2.1; omega)]
  have hat := Pic_at hPi hw1
  rw [hc_obj hw2 F.2.2.1] at hat
  refine W_put hx hb hts hown hKv hat F hkN hlink (Or.inl hfin) hv.1 hv.2 (by simp [F.2.2.2.1, hkN]) d fun H1 i z oq ha => k H1 _ ls hE ?_ (hS.put z oq (by show gB G ≤ _; omega)) hl t1 (ty_2 t2)
  refine Pic_set (w := w) hPi hw1 z oq rfl sI_o hPi.2.1 ?_
  rw [hc_obj (show hK (sI h w k0 x) w = c from hw2) F.2.2.1]
  rw [← rg_set (k := k0) (f := fun k => fv G h w k (fT c k)) (g := fun k => fv G (sI h w k0 x) w k (fT c k)) (fun j hj => ?_)]
  · have e9 : fv G (sI h w k0 x) w k0 (fT c k0) = .int x := by
      rw [fv_I ht]
      show Value.int (if w = w ∧ k0 = k0 then x else _) = _
      rw [if_pos ⟨rfl, rfl⟩]
    rw [e9]
    exact ha
  · show fv G (sI h w k0 x) w j (fT c j) = fv G h w j (fT c j)
    unfold fv
    have e8 : hI (sI h w k0 x) w j = hI h w j := if_neg (fun z => hj z.2)
    rw [e8]
    rfl
/-- final fields, in the class's own constructor -/
def ffin (own : String) (ix c k : Nat) : Prop := ∃ (T : u_T) (N : Nat), FX c own T N ∧ k < N ∧ Cond.fieldLink own ix own (T k).2.1 (T k).2.2.1 ∈ TT ∧ (T k).2.2.2 = true
def okR (t : FieldType) : Prop := ∀ a, narrow t (.ref a) = .ref a ∧ fits t (.ref a) = true
theorem V_putR (C : CX X cc own nL ret rm) (hin : X.2.2.2.2.2.2.2.2.1.name = "<init>") {w c ix k0 q kd : Nat} (F : ffin own ix c k0) (ht : isI (fT c k0) = false) (hok : okR (fT c k0)) (hx : xk c k0 = kd) (hkd : kd < 16) (d : decode cc pc = .ok (.putfield ix, 3)) (k : V X cs sl (sP h w k0 (some q)) (pc + 3) lv st) : V X cs sl h pc lv (vR kd (some q) :: vR c (some w) :: st) := by
  obtain ⟨p, l, e, R, s, m, args, below, meth, c', Q, G, n', h0⟩ := X
  obtain ⟨hx', hb, hml, hown, hts, hKv, rfl, hR, hr, hlk, hgb, hsk⟩ := C
  intro H locs ls hE hPi hS hl t1 t2
  obtain ⟨T, N, F, hkN, hlink, hfin⟩ := F
  obtain ⟨hq1, hq2⟩ := ty_r hkd (ty_h t2)
  obtain ⟨hw1, hw2⟩ := ty_r (by have := F.2.2.1; omega : c < 16) (ty_h (ty_1 t2))
  rw [List.map_cons, List.map_cons, show cv G (vR c (some w)) = .ref (gB G + w) from cR_s (by have := F.2.2.1; omega), show cv G (vR kd (some q)) = .ref (gB G + q) from cR_s hkd]
  have hat := Pic_at hPi hw1
  rw [hc_obj hw2 F.2.2.1] at hat
  refine W_put hx' hb hts hown hKv hat F hkN hlink (Or.inr ⟨hfin, rfl, hin⟩) (hok _).1 (hok _).2 (by simp [F.2.2.2.1, hkN]) d fun H1 i z oq ha => k H1 _ ls hE ?_ (hS.put z oq (by show gB G ≤ _; omega)) hl t1 (ty_2 t2)
  refine Pic_set (w := w) hPi hw1 z oq rfl sP_o (TH_sP hPi.2.1 hq1 (by rw [hw2, hx]; exact hq2)) ?_
  rw [hc_obj (show hK (sP h w k0 (some q)) w = c from hw2) F.2.2.1]
  rw [← rg_set (k := k0) (f := fun k => fv G h w k (fT c k)) (g := fun k => fv G (sP h w k0 (some q)) w k (fT c k)) (fun j hj => ?_)]
  · have e9 : fv G (sP h w k0 (some q)) w k0 (fT c k0) = .ref (gB G + q) := by
      rw [fv_R ht]
      show va_rf ((if w = w ∧ k0 = k0 then some q else _).map _) = _
      rw [if_pos ⟨rfl, rfl⟩]
      rfl
    rw [e9]
    exact ha
  · show fv G (sP h w k0 (some q)) w j (fT c j) = fv G h w j (fT c j)
    unfold fv
    have e8 : hP (sP h w k0 (some q)) w j = hP h w j := if_neg (fun z => hj z.2)
    rw [e8]
    rfl
end VM
