section VC
variable {X : XT} {cc : ByteArray} {own : String} {nL : Nat} {ret : Option FieldType} {rm : Room} {cs sl : Nat} {h : Hp} {pc : Nat} {lv lv' : List (Nat × PV)} {st : List PV}
/-- how a method ends: its answer, the world behind it -/
def QR (G : GT) (h : Hp) (r : Option PV) (h' : Hp) : Array Value → State → Outcome → State → Prop := fun _ st oc t => oc = .returned (r.map (cv G)) ∧ Wd G h' t ∧ ext h h' ∧ (∀ q, r = some q → tyo h' q) ∧ va_F (gA G) st t
/-- a method's contract: at this pure heap, with these arguments, it answers r and leaves h' -/
def MC (l : Launch) (G : GT) (y : MethodName) (cc : ByteArray) (nL : Nat) (ret : Option FieldType) (rm : Room) (h : Hp) (av : List PV) (r : Option PV) (h' : Hp) : Prop := Met l y (.code y cc nL ret :: TT) rm (va_Pc (av.map (cv G)) (fun U => Wd G h U ∧ ∀ q ∈ av, tyo h q)) (QR G h r h') rm.cells rm.slots (gA G)
def QX (X : XT) (r : Option PV) (h' : Hp) (mc ms : Nat) : Prop := match X with
  | (p, l, e, R, s, m, args, below, meth, c, Q, G, nL, h0) => Q = MQ below (QR G h0 r h') args s mc ms (gA G)
def lva : Nat → List PV → List (Nat × PV)
  | _, [] => []
  | i, v :: vs => (i, v) :: lva (if cat v = 2 then i + 2 else i + 1) vs
theorem lva_map (G : GT) : ∀ (av : List PV) (i : Nat), lv_args i (av.map (cv G)) = (lva i av).map (fun q => (q.1, cv G q.2))
  | [], _ => rfl
  | v :: vs, i => by
    show (i, cv G v) :: lv_args (if (cv G v).category = 2 then i + 2 else i + 1) (vs.map (cv G)) = (i, cv G v) :: (lva (if cat v = 2 then i + 2 else i + 1) vs).map _
    rw [cat_cv, lva_map G vs]
theorem lva_mem : ∀ (av : List PV) (i : Nat) (q : Nat × PV), q ∈ lva i av → q.2 ∈ av
  | [], _, _, hq => absurd hq List.not_mem_nil
  | v :: vs, i, q, hq => by
    rcases List.mem_cons.mp hq with e | e
    · subst e
      exact List.mem_cons_self
    · exact List.mem_cons_of_mem _ (lva_mem vs _ q e)
def lsz : List PV → Nat
  | [] => 0
  | v :: vs => cat v + lsz vs
theorem lg_len (G : GT) : ∀ av : List PV, (lg_sl (av.map (cv G))).length = lsz av
  | [] => rfl
  | v :: vs => by
    have ih := lg_len G vs
    rcases v with x | x | ⟨k, o⟩
    · simp [lg_sl, cv, cat, lsz, Value.category] at ih ⊢
      omega
    · simp [lg_sl, cv, cat, lsz, Value.category] at ih ⊢
      omega
    · have hcr : (cR G k o).category = 1 := cat_cv G (vR k o)
      simp [lg_sl, cv, cat, lsz, hcr] at ih ⊢
      omega
/-- a contract out of a walk from the method's entry -/
theorem MC_of {l : Launch} {G : GT} {y : MethodName} {av : List PV} {r : Option PV} {h' : Hp} (hp : plainName y.cls = true) (hy : y.cls = own) (hlen : lsz av ≤ nL) (hlv : lva 0 av = lv) (k : ∀ X : XT, CX X cc own nL ret rm → QX X r h' rm.cells rm.slots → X.2.2.2.2.2.2.2.2.1.name = y.name → V X 0 0 h 0 lv []) : MC l G y cc nL ret rm h av r h' := by
  refine Met.ofW (cc := cc) (maxL := nL) (ret := ret) hp rfl ?_
  intro p e s m args below meth c s₁ B hml hv
  obtain ⟨rfl, ⟨hKv, hPi, hsk⟩, hty⟩ := hv
  have hx := B.exec
  have hb := B.bytes
  have hr := B.returns
  have hts := atoms_spec (ws := .code y cc nL ret :: TT) B.pre
  have hown : s.vm.findClass own = some m.cls := by rw [← hy]; exact findClass_of_methodNamed B.named
  have hlocks := B.notSynchronized
  have hin : meth.name = y.name := (name_of_methodNamed B.named B.method).1
  have hl := lv_entry (av.map (cv G)) (n := nL) (by rw [lg_len]; exact hlen)
  rw [lg_entry_eq]
  generalize (lg_sl (av.map (cv G)) ++ List.replicate (nL - (lg_sl (av.map (cv G))).length) Slot.unset).toArray = ls at hl ⊢
  rw [lva_map, hlv] at hl
  exact k (p, l, e, rm, s, m, (av.map (cv G)).toArray, below, meth, c, MQ below (QR G h r h') (av.map (cv G)).toArray s rm.cells rm.slots (gA G), G, nL, h) ⟨hx, hb, hml, hown, fun w hw => hts w (List.mem_cons_of_mem _ hw), hKv, rfl, rfl, hr, hlocks, by rw [hPi.1]; omega, hsk⟩ rfl hin s.heap [] ls (ext_rf h) hPi va_S.rf hl (fun q hq => hty q.2 (lva_mem av 0 q (hlv ▸ hq))) (fun q hq => absurd hq List.not_mem_nil)
/-- the world at a return -/
theorem Wd_end {G : GT} {s t : State} {H : Heap} {locs : List Loc} (hKv : va_K (gD G) vwCl (tys G) s) (hPi : Pic G h H) (hsk : SK G s s.heap) (hS : va_S (gA G) s.heap H locs) (ht : t.heap = H) (hW : s.WarmedH t.vm) : Wd G h t := by
  refine ⟨va_K.moved hW.alike hKv, by rw [ht]; exact hPi, ?_, SW_warm hW hsk.2⟩
  rw [ht]
  exact SH_kept (SH_moved hW.alike hsk.1) (fun a h1 h2 => hS.2.1 a h1 h2)
theorem V_iret (C : CX X cc own nL (some .int) rm) {x : Int32} (hQ : QX X (some (vI x)) h cs sl) (d : decode cc pc = .ok (.ireturn, 1)) : V X cs sl h pc lv [vI x] := by
  obtain ⟨p, l, e, R, s, m, args, below, meth, c, Q, G, n', h0⟩ := X
  obtain ⟨hx, hb, hml, hown, hts, hKv, rfl, hR, hr, hlk, hgb, hsk⟩ := C
  intro H locs ls hE hPi hS hl t1 t2
  have hQ : Q = MQ below (QR G h0 (some (vI x)) h) args s cs sl (gA G) := hQ
  subst hQ
  exact W.iret hx hb hr (fun t ht hW => ⟨rfl, Wd_end hKv hPi hsk hS ht hW, hE, fun q hq => by cases hq; trivial, hS.F ht⟩) (fun q hq => hS.2.2 q hq) d hlk
theorem V_zret {ty : FieldType} (C : CX X cc own nL (some ty) rm) {x : Int32} (hz : narrow ty (.int x) = .int x) (hQ : QX X (some (vI x)) h cs sl) (d : decode cc pc = .ok (.ireturn, 1)) : V X cs sl h pc lv [vI x] := by
  obtain ⟨p, l, e, R, s, m, args, below, meth, c, Q, G, n', h0⟩ := X
  obtain ⟨hx, hb, hml, hown, hts, hKv, rfl, hR, hr, hlk, hgb, hsk⟩ := C
  intro H locs ls hE hPi hS hl t1 t2
  have hQ : Q = MQ below (QR G h0 (some (vI x)) h) args s cs sl (gA G) := hQ
  subst hQ
  exact W.zret hx hb hr hz (fun t ht hW => ⟨rfl, Wd_end hKv hPi hsk hS ht hW, hE, fun q hq => by cases hq; trivial, hS.F ht⟩) (fun q hq => hS.2.2 q hq) d hlk
theorem V_lret (C : CX X cc own nL (some .long) rm) {x : Int64} (hQ : QX X (some (vL x)) h cs sl) (d : decode cc pc = .ok (.lreturn, 1)) : V X cs sl h pc lv [vL x] := by
  obtain ⟨p, l, e, R, s, m, args, below, meth, c, Q, G, n', h0⟩ := X
  obtain ⟨hx, hb, hml, hown, hts, hKv, rfl, hR, hr, hlk, hgb, hsk⟩ := C
  intro H locs ls hE hPi hS hl t1 t2
  have hQ : Q = MQ below (QR G h0 (some (vL x)) h) args s cs sl (gA G) := hQ
  subst hQ
  exact W.lret hx hb hr (fun t ht hW => ⟨rfl, Wd_end hKv hPi hsk hS ht hW, hE, fun q hq => by cases hq; trivial, hS.F ht⟩) (fun q hq => hS.2.2 q hq) d hlk
theorem V_vret (C : CX X cc own nL none rm) (hQ : QX X none h cs sl) (d : decode cc pc = .ok (.return_, 1)) : V X cs sl h pc lv [] := by
  obtain ⟨p, l, e, R, s, m, args, below, meth, c, Q, G, n', h0⟩ := X
  obtain ⟨hx, hb, hml, hown, hts, hKv, rfl, hR, hr, hlk, hgb, hsk⟩ := C
  intro H locs ls hE hPi hS hl t1 t2
  have hQ : Q = MQ below (QR G h0 none h) args s cs sl (gA G) := hQ
  subst hQ
  exact W.vret hx hb hr (fun t ht hW => ⟨rfl, Wd_end hKv hPi hsk hS ht hW, hE, (fun q hq => by cases hq), hS.F ht⟩) (fun q hq => hS.2.2 q hq) d hlk
theorem V_aret {ty : FieldType} (C : CX X cc own nL (some ty) rm) (hty : (∃ n, ty = .object n) ∨ ∃ t, ty = .array t) {q : Nat} {o : Option Nat} (hq : q < 16) (hQ : QX X (some (vR q o)) h cs sl) (d : decode cc pc = .ok (.areturn, 1)) : V X cs sl h pc lv [vR q o] := by
  obtain ⟨p, l, e, R, s, m, args, below, meth, c, Q, G, n', h0⟩ := X
  obtain ⟨hx, hb, hml, hown, hts, hKv, rfl, hR, hr, hlk, hgb, hsk⟩ := C
  intro H locs ls hE hPi hS hl t1 t2
  have hQ : Q = MQ below (QR G h0 (some (vR q o)) h) args s cs sl (gA G) := hQ
  subst hQ
  refine W.aret hx hb hr hty ?_ (fun t ht hW => ⟨rfl, Wd_end hKv hPi hsk hS ht hW, hE, fun z hz => by cases hz; exact ty_h t2, hS.F ht⟩) (fun q hq => hS.2.2 q hq) d hlk
  show cR G q o = .null ∨ ∃ a, cR G q o = .ref a
  cases o with
  | none => exact Or.inl (cR_n hq)
  | some w => exact Or.inr ⟨_, cR_s hq⟩
/-- behind a call: the callee's world -/
theorem W_run {p : Program} {l : Launch} {e : Env} {R : Room} {s : State} {m : MethodId} {args : Array Value} {below : List Frame} {meth : Method} {c : Code} {Q : State → Prop} {G : GT} {H : Heap} {locs : List Loc} {ls : Array Slot} {mc ms : Nat} {st0 rest : List Value} {r : Option PV} {h' : Hp} {a : Array Value} (hr : va_Run p l e R s m args below meth c H locs cs sl mc ms (F0 m pc ls st0) rest (QR G h r h' a) (gA G)) (hS : va_S (gA G) s.heap H locs)
    (kk : ∀ (H1 : Heap) (locs1 : List Loc), Pic G h' H1 → ext h h' → (∀ q, r = some q → tyo h' q) → va_S (gA G) s.heap H1 locs1 → W p l e R s m args below meth c H1 locs1 (cs + mc) (sl + ms) Q (F0 m (pc + 3) ls ((r.map (cv G)).toList ++ rest))) : W p l e R s m args below meth c H locs cs sl Q (F0 m pc ls st0) := by
  intro T hT Xs
  obtain ⟨v, st₀, t, T', L, e0, X', hL, e1, e2, ⟨hv, hWd, hE, hty, hz, hk⟩, stp⟩ := hr T hT Xs
  cases hv
  rw [e0] at hz hk
  have hP1 : Pic G h' T'.heap := by rw [e1]; exact hWd.2.1
  obtain ⟨t2, a1, b1⟩ := kk T'.heap (locs ++ L) hP1 hE hty ⟨Nat.le_trans hS.1 (by rw [e1]; exact hz), fun q h1 h2 => by rw [e1, hk q (Nat.lt_of_lt_of_le h1 hS.1) h2]; exact hS.2.1 q h1 h2, fun q hq => by
    rcases List.mem_append.mp hq with h3 | h3
    · exact hS.2.2 q h3
    · exact hL q h3⟩ T' rfl X'
  exact ⟨t2, stp t2 a1, b1⟩
/-- the words of a call: of an instance's method, of a static one, of a constructor -/
def MLV (own : String) (ix : Nat) (y : MethodName) (cy : ByteArray) (nLy : Nat) (rety : Option FieldType) (n : Nat) : Prop := Cond.methodLink own ix y ∈ TT ∧ Cond.instanceMethod y ∈ TT ∧ Cond.selects y.cls y y ∈ TT ∧ Cond.initialized y.cls ∈ TT ∧ Cond.code y cy nLy rety ∈ TT ∧ (y.cls ≠ "java/lang/invoke/MethodHandle" ∧ y.cls ≠ "java/lang/invoke/VarHandle" ∧ (parseMethodDescriptor y.desc).map (fun d => d.parameters.length) = some n)
def MLS (own : String) (ix : Nat) (y : MethodName) (cy : ByteArray) (nLy : Nat) (rety : Option FieldType) (n : Nat) : Prop := Cond.methodLink own ix y ∈ TT ∧ Cond.static y ∈ TT ∧ Cond.initialized y.cls ∈ TT ∧ Cond.code y cy nLy rety ∈ TT ∧ (y.cls ≠ "java/lang/invoke/MethodHandle" ∧ y.cls ≠ "java/lang/invoke/VarHandle" ∧ (parseMethodDescriptor y.desc).map (fun d => d.parameters.length) = some n)
def MLI (own : String) (ix : Nat) (y : MethodName) (cy : ByteArray) (nLy : Nat) (n : Nat) : Prop := Cond.methodLink own ix y ∈ TT ∧ Cond.instanceMethod y ∈ TT ∧ Cond.initialized y.cls ∈ TT ∧ Cond.code y cy nLy none ∈ TT ∧ y.name = "<init>" ∧ (y.cls ≠ "java/lang/invoke/MethodHandle" ∧ y.cls ≠ "java/lang/invoke/VarHandle" ∧ (parseMethodDescriptor y.desc).map (fun d => d.parameters.length) = some n)
def MLN (own : String) (ix : Nat) (y : MethodName) (host : String) (cy : ByteArray) (nLy : Nat) (n : Nat) : Prop := Cond.methodLinkNest own ix y host ∈ nests ∧ Cond.instanceMethod y ∈ TT ∧ Cond.initialized y.cls ∈ TT ∧ Cond.code y cy nLy none ∈ TT ∧ y.name = "<init>" ∧ (y.cls ≠ "java/lang/invoke/MethodHandle" ∧ y.cls ≠ "java/lang/invoke/VarHandle" ∧ (parseMethodDescriptor y.desc).map (fun d => d.parameters.length) = some n)
theorem tt_c {c2 : Cond} (h : c2 ∈ TT) : GoodIn TT (c2 :: TT) := tt_codeT h
def csum : List PV → Nat
  | [] => 0
  | v :: vs => cat v + csum vs
theorem csum_map (G : GT) : ∀ l : List PV, ((l.map (cv G)).map fun v => v.category).sum = csum l
  | [] => rfl
  | v :: vs => by
    have ih := csum_map G vs
    simp only [List.map_cons, List.sum_cons, cat_cv, csum] at ih ⊢
    rw [ih]
/-- what a callee is given -/
theorem pre_of {G : GT} {s : State} {H : Heap} {locs : List Loc} {av : List PV} (hKv : va_K (gD G) vwCl (tys G) s) (hPi : Pic G h H) (hsk : SK G s s.heap) (hS : va_S (gA G) s.heap H locs) (ht : ∀ q ∈ av, tyo h q) : ∀ U : State, U.heap = H → s.WarmedH U.vm → va_Pc (av.map (cv G)) (fun U => Wd G h U ∧ ∀ q ∈ av, tyo h q) (av.map (cv G)).toArray U :=
  fun U hU hW => ⟨rfl, Wd_end hKv hPi hsk hS hU hW, ht⟩
theorem blind_of {G : GT} {av : List PV} : FrameBlind (va_Pc (av.map (cv G)) (fun U => Wd G h U ∧ ∀ q ∈ av, tyo h q)) := fun a U g mk q => by
  obtain ⟨q0, ⟨q1, q2, q3, q4⟩, q5⟩ := q
  exact ⟨q0, ⟨va_K.moved (u := U) (U := U.calling g mk a) (Vm.Alike.refl U.vm) q1, q2, SH_moved (u := U) (U := U.calling g mk a) (Vm.Alike.refl U.vm) q3, SW_same (s := U) (U := U.calling g mk a) rfl q4⟩, q5⟩
theorem V_callV (C : CX X cc own nL ret rm) {ix : Nat} {y : MethodName} {cy : ByteArray} {nLy n : Nat} {rety : Option FieldType} (L : MLV own ix y cy nLy rety n) {c w : Nat} {T : u_T} {N : Nat} (F : FX c y.cls T N) {rmy : Room} {as : List PV} {r : Option PV} {h' : Hp} (hM : ∀ l G, MC l G y cy nLy rety rmy h (vR c (some w) :: as) r h') (hn : as.length = n) (hrm : rmy.frames + 1 ≤ rm.frames ∧ 8 + (nLy + 11) + rmy.locals ≤ rm.locals ∧ cs + rmy.cells ≤ rm.cells ∧ sl + rmy.slots ≤ rm.slots) (hst : csum st ≤ 8) {st0 : List PV} (hst0 : st0 = as.reverse ++ vR c (some w) :: st) (d : decode cc pc = .ok (.invokevirtual ix, 3)) {cs' sl' : Nat} (ecs : cs + rmy.cells = cs') (esl : sl + rmy.slots = sl') (k : V X cs' sl' h' (pc + 3) lv (r.toList ++ st)) : V X cs sl h pc lv st0 := by
  subst ecs
  subst esl
  obtain ⟨p, l, e, R, s, m, args, below, meth, cd, Q, G, n', h0⟩ := X
  obtain ⟨hx, hb, hml, hown, hts, hKv, rfl, hR, hr, hlk, hgb, hsk⟩ := C
  intro H locs ls hE hPi hS hl t1 t2
  subst hR
  subst hst0
  have c16 : c < 16 := by have := F.2.2.1; omega
  have tav : ∀ q ∈ vR c (some w) :: as, tyo h q := fun q hq => t2 q (by
    rcases List.mem_cons.mp hq with e9 | e9
    · subst e9
      exact List.mem_append_right _ List.mem_cons_self
    · exact List.mem_append_left _ (List.mem_reverse.mpr e9))
  have tst : ∀ q ∈ st, tyo h q := fun q hq => t2 q (List.mem_append_right _ (List.mem_cons_of_mem _ hq))
  obtain ⟨hw1, hw2⟩ := ty_r c16 (tav _ List.mem_cons_self)
  have he := hw_get (G := G) hw1
  rw [hc_obj hw2 F.2.2.1] at he
  have hcv : cv G (vR c (some w)) = .ref (gB G + w) := cR_s c16
  have hG := tt_c L.2.2.2.2.1
  have hM1 := hM l G
  unfold MC at hM1
  have hpre := pre_of (av := vR c (some w) :: as) hKv hPi hsk hS tav
  have hbl := blind_of (h := h) (G := G) (av := vR c (some w) :: as)
  rw [List.map_cons, hcv] at hM1 hpre hbl
  have hrun := va_runV (p := p) (e := e) (below := below) (meth := meth) (H := H) (locs := locs) (cells := cs) (slots := sl) (As := as.map (cv G)) (rest := st.map (cv G)) (g := F0 m pc ls ((as.reverse ++ vR c (some w) :: st).map (cv G))) ⟨hx, hb, hml, hown, hts⟩ hM1 ⟨callB_of n hts hG rfl rfl rfl (hts _ L.2.2.2.1) (hts _ L.1) L.2.2.2.2.2 ⟨hrm.1, hrm.2.1⟩, hts _ L.2.1, hts _ L.2.2.1⟩ ⟨hbl, va_recv hKv hPi.2.2 F.1 he, hpre⟩ rfl (by rw [List.length_map]; exact hn) hl.1 (by simp [hcv]) (by show 2 * 0 + _ ≤ 8; rw [csum_map]; omega) d hrm.2.2
  refine W_run hrun hS fun H1 locs1 hP1 hE1 hr1 hS1 => ?_
  have k1 := k H1 locs1 ls (ext_tr hE hE1) hP1 hS1 hl (tyl_ext hE1 t1) (fun q hq => by
    rcases List.mem_append.mp hq with e9 | e9
    · exact hr1 q (by cases r <;> simp_all)
    · exact tyo_ext hE1 (tst q e9))
  rw [List.map_append] at k1
  cases r <;> exact k1
theorem V_callS (C : CX X cc own nL ret rm) {ix : Nat} {y : MethodName} {cy : ByteArray} {nLy n : Nat} {rety : Option FieldType} (L : MLS own ix y cy nLy rety n) {rmy : Room} {as : List PV} {r : Option PV} {h' : Hp} (hM : ∀ l G, MC l G y cy nLy rety rmy h as r h') (hn : as.length = n) (hrm : rmy.frames + 1 ≤ rm.frames ∧ 8 + (nLy + 11) + rmy.locals ≤ rm.locals ∧ cs + rmy.cells ≤ rm.cells ∧ sl + rmy.slots ≤ rm.slots) (hst : csum st ≤ 8) {st0 : List PV} (hst0 : st0 = as.reverse ++ st) (d : decode cc pc = .ok (.invokestatic ix, 3)) {cs' sl' : Nat} (ecs : cs + rmy.cells = cs') (esl : sl + rmy.slots = sl') (k : V X cs' sl' h' (pc + 3) lv (r.toList ++ st)) : V X cs sl h pc lv st0 := by
  subst ecs
  subst esl
  obtain ⟨p, l, e, R, s, m, args, below, meth, cd, Q, G, n', h0⟩ := X
  obtain ⟨hx, hb, hml, hown, hts, hKv, rfl, hR, hr, hlk, hgb, hsk⟩ := C
  intro H locs ls hE hPi hS hl t1 t2
  subst hR
  subst hst0
  have tav : ∀ q ∈ as, tyo h q := fun q hq => t2 q (List.mem_append_left _ (List.mem_reverse.mpr hq))
  have tst : ∀ q ∈ st, tyo h q := fun q hq => t2 q (List.mem_append_right _ hq)
  have hG := tt_c L.2.2.2.1
  have hM1 := hM l G
  unfold MC at hM1
  have hpre := pre_of (av := as) hKv hPi hsk hS tav
  have hbl := blind_of (h := h) (G := G) (av := as)
  have hrun := va_runS (p := p) (e := e) (below := below) (meth := meth) (H := H) (locs := locs) (cells := cs) (slots := sl) (As := as.map (cv G)) (rest := st.map (cv G)) (g := F0 m pc ls ((as.reverse ++ st).map (cv G))) ⟨hx, hb, hml, hown, hts⟩ hM1 ⟨callB_of n hts hG rfl rfl rfl (hts _ L.2.2.1) (hts _ L.1) L.2.2.2.2 ⟨hrm.1, hrm.2.1⟩, hts _ L.2.1⟩ ⟨hbl, hpre⟩ rfl (by rw [List.length_map]; exact hn) hl.1 (by simp) (by show 2 * 0 + _ ≤ 8; rw [csum_map]; omega) d hrm.2.2
  refine W_run hrun hS fun H1 locs1 hP1 hE1 hr1 hS1 => ?_
  have k1 := k H1 locs1 ls (ext_tr hE hE1) hP1 hS1 hl (tyl_ext hE1 t1) (fun q hq => by
    rcases List.mem_append.mp hq with e9 | e9
    · exact hr1 q (by cases r <;> simp_all)
    · exact tyo_ext hE1 (tst q e9))
  rw [List.map_append] at k1
  cases r <;> exact k1
theorem V_callI (C : CX X cc own nL ret rm) {ix : Nat} {y : MethodName} {cy : ByteArray} {nLy n : Nat} (L : MLI own ix y cy nLy n) {c w : Nat} (c16 : c < 16) {rmy : Room} {as : List PV} {h' : Hp} (hM : ∀ l G, MC l G y cy nLy none rmy h (vR c (some w) :: as) none h') (hn : as.length = n) (hrm : rmy.frames + 1 ≤ rm.frames ∧ 8 + (nLy + 11) + rmy.locals ≤ rm.locals ∧ cs + rmy.cells ≤ rm.cells ∧ sl + rmy.slots ≤ rm.slots) (hst : csum st ≤ 8) {st0 : List PV} (hst0 : st0 = as.reverse ++ vR c (some w) :: st) (d : decode cc pc = .ok (.invokespecial ix, 3)) {cs' sl' : Nat} (ecs : cs + rmy.cells = cs') (esl : sl + rmy.slots = sl') (k : V X cs' sl' h' (pc + 3) lv st) : V X cs sl h pc lv st0 := by
  subst ecs
  subst esl
  obtain ⟨p, l, e, R, s, m, args, below, meth, cd, Q, G, n', h0⟩ := X
  obtain ⟨hx, hb, hml, hown, hts, hKv, rfl, hR, hr, hlk, hgb, hsk⟩ := C
  intro H locs ls hE hPi hS hl t1 t2
  subst hR
  subst hst0
  have tav : ∀ q ∈ vR c (some w) :: as, tyo h q := fun q hq => t2 q (by
    rcases List.mem_cons.mp hq with e9 | e9
    · subst e9
      exact List.mem_append_right _ List.mem_cons_self
    · exact List.mem_append_left _ (List.mem_reverse.mpr e9))
  have tst : ∀ q ∈ st, tyo h q := fun q hq => t2 q (List.mem_append_right _ (List.mem_cons_of_mem _ hq))
  have hcv : cv G (vR c (some w)) = .ref (gB G + w) := cR_s c16
  have hG := tt_c L.2.2.2.1
  have hM1 := hM l G
  unfold MC at hM1
  have hpre := pre_of (av := vR c (some w) :: as) hKv hPi hsk hS tav
  have hbl := blind_of (h := h) (G := G) (av := vR c (some w) :: as)
  rw [List.map_cons, hcv] at hM1 hpre hbl
  have hrun := va_runI (p := p) (e := e) (below := below) (meth := meth) (H := H) (locs := locs) (cells := cs) (slots := sl) (As := as.map (cv G)) (rest := st.map (cv G)) (g := F0 m pc ls ((as.reverse ++ vR c (some w) :: st).map (cv G))) ⟨hx, hb, hml, hown, hts⟩ hM1 ⟨callB_of n hts hG rfl rfl rfl (hts _ L.2.2.1) (hts _ L.1) L.2.2.2.2.2 ⟨hrm.1, hrm.2.1⟩, L.2.2.2.2.1, hts _ L.2.1⟩ ⟨hbl, hpre⟩ rfl (by rw [List.length_map]; exact hn) hl.1 (by simp [hcv]) (by show 2 * 0 + _ ≤ 8; rw [csum_map]; omega) d hrm.2.2
  refine W_run hrun hS fun H1 locs1 hP1 hE1 hr1 hS1 => ?_
  exact k H1 locs1 ls (ext_tr hE hE1) hP1 hS1 hl (tyl_ext hE1 t1) (fun q hq => tyo_ext hE1 (tst q hq))
theorem V_callN (C : CX X cc own nL ret rm) {ix : Nat} {y : MethodName} {host : String} {cy : ByteArray} {nLy n : Nat} (L : MLN own ix y host cy nLy n) {c w : Nat} (c16 : c < 16) {rmy : Room} {as : List PV} {h' : Hp} (hM : ∀ l G, MC l G y cy nLy none rmy h (vR c (some w) :: as) none h') (hn : as.length = n) (hrm : rmy.frames + 1 ≤ rm.frames ∧ 8 + (nLy + 11) + rmy.locals ≤ rm.locals ∧ cs + rmy.cells ≤ rm.cells ∧ sl + rmy.slots ≤ rm.slots) (hst : csum st ≤ 8) {st0 : List PV} (hst0 : st0 = as.reverse ++ vR c (some w) :: st) (d : decode cc pc = .ok (.invokespecial ix, 3)) {cs' sl' : Nat} (ecs : cs + rmy.cells = cs') (esl : sl + rmy.slots = sl') (k : V X cs' sl' h' (pc + 3) lv st) : V X cs sl h pc lv st0 := by
  subst ecs
  subst esl
  obtain ⟨p, l, e, R, s, m, args, below, meth, cd, Q, G, n', h0⟩ := X
  obtain ⟨hx, hb, hml, hown, hts, hKv, rfl, hR, hr, hlk, hgb, hsk⟩ := C
  intro H locs ls hE hPi hS hl t1 t2
  subst hR
  subst hst0
  have tav : ∀ q ∈ vR c (some w) :: as, tyo h q := fun q hq => t2 q (by
    rcases List.mem_cons.mp hq with e9 | e9
    · subst e9
      exact List.mem_append_right _ List.mem_cons_self
    · exact List.mem_append_left _ (List.mem_reverse.mpr e9))
  have tst : ∀ q ∈ st, tyo h q := fun q hq => t2 q (List.mem_append_right _ (List.mem_cons_of_mem _ hq))
  have hcv : cv G (vR c (some w)) = .ref (gB G + w) := cR_s c16
  have hG := tt_c L.2.2.2.1
  have hM1 := hM l G
  unfold MC at hM1
  have hpre := pre_of (av := vR c (some w) :: as) hKv hPi hsk hS tav
  have hbl := blind_of (h := h) (G := G) (av := vR c (some w) :: as)
  rw [List.map_cons, hcv] at hM1 hpre hbl
  have hrun := va_runIN (p := p) (e := e) (below := below) (meth := meth) (H := H) (locs := locs) (cells := cs) (slots := sl) (As := as.map (cv G)) (rest := st.map (cv G)) (g := F0 m pc ls ((as.reverse ++ vR c (some w) :: st).map (cv G))) ⟨hx, hb, hml, hown, hts⟩ hM1 ⟨va_cnB n hts hG rfl rfl rfl (hsk.2.2.1 _ L.1) (hts _ L.2.2.1) L.2.2.2.2.2 ⟨hrm.1, hrm.2.1⟩, L.2.2.2.2.1, hts _ L.2.1⟩ ⟨hbl, hpre⟩ rfl (by rw [List.length_map]; exact hn) hl.1 (by simp [hcv]) (by show 2 * 0 + _ ≤ 8; rw [csum_map]; omega) d hrm.2.2
  refine W_run hrun hS fun H1 locs1 hP1 hE1 hr1 hS1 => ?_
  exact k H1 locs1 ls (ext_tr hE hE1) hP1 hS1 hl (tyl_ext hE1 t1) (fun q hq => tyo_ext hE1 (tst q hq))
/-- Object's own constructor -/
theorem V_obj (C : CX X cc own nL ret rm) {ix c w : Nat} (c16 : c < 16) (w1 : Cond.methodLink own ix objectInit ∈ TT) (w2 : Cond.instanceMethod objectInit ∈ TT) (w3 : Cond.code objectInit ⟨#[0xb1]⟩ 1 none ∈ TT) (hf : 1 ≤ rm.frames) (hlo : csum st + 12 ≤ rm.locals) (d : decode cc pc = .ok (.invokespecial ix, 3)) (k : V X cs sl h (pc + 3) lv st) : V X cs sl h pc lv (vR c (some w) :: st) := by
  obtain ⟨p, l, e, R, s, m, args, below, meth, cd, Q, G, n', h0⟩ := X
  obtain ⟨hx, hb, hml, hown, hts, hKv, rfl, hR, hr, hlk, hgb, hsk⟩ := C
  intro H locs ls hE hPi hS hl t1 t2
  subst hR
  rw [List.map_cons, show cv G (vR c (some w)) = .ref (gB G + w) from cR_s c16]
  exact W.objInit hx hb hown (hts _ w1) (hts _ w2) (hts _ w3) rfl (by rw [hml]; exact hl.1) rfl d hf (by show 2 * 0 + _ + 12 ≤ _; rw [csum_map]; omega) (k H locs ls hE hPi hS hl t1 (ty_1 t2))
/-- ints are copied from row to row -/
theorem V_copy (C : CX X cc own nL ret rm) {ix a0 a1 : Nat} {sp dp n : Int32} (w1 : Cond.methodLink own ix arraycopyName ∈ TT) (w2 : Cond.native arraycopyName ∈ TT) (w3 : Cond.static arraycopyName ∈ TT) (w4 : Cond.initialized "java/lang/System" ∈ TT) (h1 : ¬ sp < 0) (h2 : ¬ dp < 0) (h3 : ¬ n < 0) (h4 : sp.toNatClampNeg + n.toNatClampNeg ≤ hL h a0) (h5 : dp.toNatClampNeg + n.toNatClampNeg ≤ hL h a1) (hf : 1 ≤ rm.frames) (hlo : csum st + (nativeFrameWords "java/lang/System" "arraycopy" 5 + 11) ≤ rm.locals) (d : decode cc pc = .ok (.invokestatic ix, 3)) (k : V X cs sl (sC h a0 a1 sp.toNatClampNeg dp.toNatClampNeg n.toNatClampNeg) (pc + 3) lv st) : V X cs sl h pc lv (vI n :: vI dp :: vR 10 (some a1) :: vI sp :: vR 10 (some a0) :: st) := by
  obtain ⟨p, l, e, R, s, m, args, below, meth, cd, Q, G, n', h0⟩ := X
  obtain ⟨hx, hb, hml, hown, hts, hKv, rfl, hR, hr, hlk, hgb, hsk⟩ := C
  intro H locs ls hE hPi hS hl t1 t2
  subst hR
  obtain ⟨hw1, hw2⟩ := ty_r (by decide : 10 < 16) (ty_h (ty_2 t2))
  obtain ⟨hv1, hv2⟩ := ty_r (by decide : 10 < 16) (ty_h (ty_1 (ty_3 t2)))
  have hat := Pic_at hPi hw1
  rw [hc_int hw2 (by decide) (by decide) (by decide)] at hat
  have hg := Pic_at hPi hv1
  rw [hc_int hv2 (by decide) (by decide) (by decide)] at hg
  have nn : ∀ z : Int32, ¬ z < 0 → z.toInt = (z.toNatClampNeg : Int) := fun z hz => by
    have hz0 : (0 : Int) ≤ z.toInt := by
      have := Int32.not_lt.mp hz
      simpa using Int32.le_iff_toInt_le.mp this
    show z.toInt = ((z.toInt.toNat : Nat) : Int)
    omega
  intro T hT Xs
  have c1' : H[gB G + a1]? = some (vp_cell (gC G 10) (hL h a1, .inl (hI h a1))) := hat
  have c0' : H[gB G + a0]? = some (vp_cell (gC G 10) (hL h a0, .inl (hI h a0))) := hg
  obtain ⟨-, k0, hk0, cm0, hkk0⟩ := (hKv.2 1 _ rfl).1 (hL h a0) (fun j => .int (hI h a0 j))
  obtain ⟨-, k1, hk1, cm1, hkk1⟩ := (hKv.2 1 _ rfl).1 (hL h a1) (fun j => .int (hI h a1 j))
  obtain ⟨vm', X', step⟩ := Xs.arraycopy hx hown (hts _ w1) (hts _ w2) (hts _ w3) (hts _ w4) (src := gB G + a0) (dst := gB G + a1) (cs := vp_cell (gC G 10) (hL h a0, .inl (hI h a0))) (cd := vp_cell (gC G 10) (hL h a1, .inl (hI h a1))) (srcPos := sp) (destPos := dp) (n := n) (by rw [hT]; exact c0') (by rw [hT]; exact c1')
    (fun _ h => by cases h) (fun _ h => by cases h) (fun h => by cases h) (fun h => by cases h) hk0 hk1 hkk0 hkk1 (by show (refKind FieldType.int != refKind FieldType.int || !refKind FieldType.int && FieldType.int != FieldType.int) = false; decide) h1 h2 h3
    (by rw [nn sp h1, nn n h3]; show ¬ _ > ((arrV (gC G 10) (hL h a0) (fun j => .int (hI h a0 j))).slots.size : Int); rw [arrV_size]; omega)
    (by rw [nn dp h2, nn n h3]; show ¬ _ > ((arrV (gC G 10) (hL h a1) (fun j => .int (hI h a1 j))).slots.size : Int); rw [arrV_size]; omega)
    (fun vm₁ _ i hi => by
      have e : (vp_cell (gC G 10) (hL h a0, .inl (hI h a0))).slots.getD (sp.toNatClampNeg + i) .null = .int (hI h a0 (sp.toNatClampNeg + i)) := by
        show (arrV (gC G 10) (hL h a0) (fun j => .int (hI h a0 j))).slots.getD _ _ = _
        rw [Array.getD_eq_getD_getElem?, arrV_read _ _ (by omega)]
        rfl
      exact ⟨by rw [e]; rfl, by rw [e]; exact trivial⟩)
    (g := F0 m pc ls (.int n :: .int dp :: .ref (gB G + a1) :: .int sp :: .ref (gB G + a0) :: st.map (cv G))) rfl (by rw [hml]; exact hl.1) (rest := st.map (cv G)) rfl (by rw [hb]; exact d) hf (by show 2 * 0 + _ + _ ≤ _; rw [csum_map]; omega)
  rw [show copied (vp_cell (gC G 10) (hL h a0, .inl (hI h a0))) (vp_cell (gC G 10) (hL h a1, .inl (hI h a1))) sp dp n = vp_cell (gC G 10) (hL h a1, .inl (va_cpy (hI h a0) (hI h a1) sp.toNatClampNeg dp.toNatClampNeg n.toNatClampNeg)) from va_copied (fun z => .int z) _ _ _ _ h4] at X' step
  generalize hce : vp_cell (gC G 10) (hL h a1, .inl (va_cpy (hI h a0) (hI h a1) sp.toNatClampNeg dp.toNatClampNeg n.toNatClampNeg)) = ce at X' step
  have hlt : gB G + a1 < H.size := (Array.getElem?_eq_some_iff.mp c1').1
  have hheap : ((T.setVm vm').setCell (gB G + a1) ce).heap = H.setIfInBounds (gB G + a1) ce := by rw [← hT]; rfl
  have oq : ∀ q : Nat, q ≠ gB G + a1 → (H.setIfInBounds (gB G + a1) ce)[q]? = H[q]? := fun q hq => by simp [Array.getElem?_setIfInBounds, Ne.symm hq]
  obtain ⟨t, b1, b2⟩ := k _ _ ls hE (Pic_set (w := a1) (h1 := sC h a0 a1 sp.toNatClampNeg dp.toNatClampNeg n.toNatClampNeg) hPi hw1 (by simp) oq rfl sC_o hPi.2.1 (by
      rw [hc_int (show hK (sC h a0 a1 sp.toNatClampNeg dp.toNatClampNeg n.toNatClampNeg) a1 = 10 from hw2) (by decide) (by decide) (by decide)]
      show (H.setIfInBounds (gB G + a1) ce)[gB G + a1]? = some (vp_cell (gC G 10) (hL h a1, .inl (fun j => if a1 = a1 then va_cpy (hI h a0) (hI h a1) sp.toNatClampNeg dp.toNatClampNeg n.toNatClampNeg j else hI h a1 j)))
      simp only [if_pos]
      rw [hce]
      simp [Array.getElem?_setIfInBounds, hlt])) ⟨by simp; exact hS.1, fun q g1 g2 => by
      rw [oq q (fun e => g2 (by rw [e]; show gB G ≤ _; omega))]
      exact hS.2.1 q g1 g2, fun q hq => by
      rcases List.mem_append.mp hq with h6 | h6
      · exact hS.2.2 q h6
      · obtain ⟨z, -, hz⟩ := List.mem_map.mp h6
        rw [← hz]
        show gB G ≤ gB G + a1
        omega⟩ hl t1 (ty_2 (ty_3 t2)) _ hheap X'
  exact ⟨t, step t b1, b2⟩
theorem V_eqI {x y : Int32} (e : y = x) (k : V X cs sl h pc lv (vI y :: st)) : V X cs sl h pc lv (vI x :: st) := e ▸ k
theorem V_eqL {x y : Int64} (e : y = x) (k : V X cs sl h pc lv (vL y :: st)) : V X cs sl h pc lv (vL x :: st) := e ▸ k
theorem V_eqR {q : Nat} {o : Option Nat} {w : Nat} (e : o = some w) (k : V X cs sl h pc lv (vR q (some w) :: st)) : V X cs sl h pc lv (vR q o :: st) := e ▸ k
theorem V_eqH {h1 : Hp} (e : h1 = h) (k : V X cs sl h1 pc lv st) : V X cs sl h pc lv st := e ▸ k
end VC
/-! ===== pure programs: how they are taken apart ===== -/
def lt {α β : Type} (x : α) (f : α → Option β) : Option β := f x
def b2 {α β γ : Type} (o : Option (α × β)) (f : α → β → Option γ) : Option γ := match o with
  | none => none
  | some p => f p.1 p.2
theorem o_l {α β : Type} {x : α} {f : α → Option β} {r : β} (h : lt x f = some r) : ∃ y, y = x ∧ f y = some r := ⟨x, rfl, h⟩
theorem o_b {α β : Type} {o : Option α} {f : α → Option β} {r : β} (h : o.bind f = some r) : ∃ a, o = some a ∧ f a = some r := by
  cases o with
  | none => cases h
  | some a => exact ⟨a, rfl, h⟩
theorem o_b2 {α β γ : Type} {o : Option (α × β)} {f : α → β → Option γ} {r : γ} (h : b2 o f = some r) : ∃ a b, o = some (a, b) ∧ f a b = some r := by
  cases o with
  | none => cases h
  | some a => exact ⟨a.1, a.2, rfl, h⟩
theorem o_if {c : Prop} [Decidable c] {β : Type} {a : Option β} {r : β} (h : (if c then a else none) = some r) : c ∧ a = some r := by
  by_cases hc : c
  · rw [if_pos hc] at h
    exact ⟨hc, h⟩
  · rw [if_neg hc] at h
    cases h
theorem i_t {c : Prop} [Decidable c] {β : Type} {a b : Option β} {r : β} (hc : c) (h : (if c then a else b) = some r) : a = some r := by
  rw [if_pos hc] at h
  exact h
theorem i_f {c : Prop} [Decidable c] {β : Type} {a b : Option β} {r : β} (hc : ¬ c) (h : (if c then a else b) = some r) : b = some r := by
  rw [if_neg hc] at h
  exact h
theorem vp_g {i : Int32} {n : Nat} (h : 0 ≤ i ∧ i.toNatClampNeg < n) : vp_in i n := fun z => z.elim (fun z => absurd h.1 (Int32.not_le.mpr z)) (fun z => absurd h.2 (Nat.not_lt.mpr z))
theorem vp_k {i : Int32} {j n : Nat} (h0 : 0 ≤ i) (hj : i.toNatClampNeg = j) (h : j < n) : vp_in i n := vp_g ⟨h0, by rw [hj]; exact h⟩
theorem tab_o {x : Int32} {lo hi : Int} (h : ∀ z : Int, lo ≤ z → z ≤ hi → ¬ x.toInt = z) : x.toInt < lo ∨ hi < x.toInt := by
  by_cases h1 : x.toInt < lo
  · exact Or.inl h1
  · by_cases h2 : hi < x.toInt
    · exact Or.inr h2
    · exact absurd rfl (h x.toInt (by omega) (by omega))
theorem tab_n {x y : Int32} (h : ¬ x = y) {z : Int} (hy : y.toInt = z) : ¬ x.toInt = z := fun e => h (Int32.toInt_inj.mp (e.trans hy.symm))
