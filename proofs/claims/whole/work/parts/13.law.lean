/-! THE CLAIM OUT OF ONE WALK OF THE LAW'S BODY. Your part is whole_start (and what it stands on); all else here is the same for every law, but numbers. -/
def R_law : String := "WaterStairLaw"
def lw_P (b : Addr) (xs : List Int32) (args : Array Value) (s : State) : Prop := args = #[.ref b] ∧ s.IntsAt b xs ∧ xs.length ≤ 3072 ∧ (Jvm.Cond.and given_1 narrow_1).before args s = true
def lw_Q (_ : Array Value) (s : State) (o : Outcome) (t : State) : Prop := o = .returned (some (.int 1)) ∧ Framed s o t [] 600000 7302250
def lw_Z (below : List Frame) (a : Array Value) (s : State) : State → Prop := fun t => ∃ o, t.status = .running ∧ Ended t below o ∧ lw_Q a s o t
/-- the law's own end, with 1 on the stack, nothing written that was there before, its room as the claim has it -/
theorem lw_ret {p : Program} {l : Launch} {e : Env} {s : State} {m : MethodId} {below : List Frame} {meth : Method} {c : Code} {b : Nat} (hx : p.tables.exec = Jvm.exec) (hb : c.code = code) (hr : meth.sig.returnType = ret) (hlocks : meth.locks = false) {pc : Nat} {H : Heap} {ls : Array Slot} (hdg : decode code pc = .ok (.ireturn, 1)) : W p l e room_1 s m #[Value.ref b] below meth c H [] 600000 7302250 (lw_Z below #[Value.ref b] s) (F0 m pc ls [.int 1]) := by
  intro T hT X
  obtain ⟨fs, hret, hrun, hended, hW, hframe⟩ := X.leave (v := some (.int 1)) (hlocks := hlocks) (fun h => by rw [hr] at h; cases h)
  have hmeth' : T.vm.method? m = some meth := X.method'
  refine ⟨T.setFrames fs, ?_, .returned (some (.int 1)), hrun, hended, rfl, ⟨_, rfl⟩, hW, hframe⟩
  jvm_step X.here [X.here.top, hx, hb, hdg, hmeth', hr, ret, narrow_b1]
  (try refine ⟨rfl, ?_⟩); (try refine ⟨rfl, ?_⟩)
  first | (intro acts; rw [hret _ acts rfl rfl rfl]) | rw [hret _ _ rfl rfl rfl]
  exact Steps.refl _
/-- what holds at the law's entry: the machine, the code, the tables' words (any of lw_tbl by 'hts w (by decide +kernel)'), the script of L ints xs at the cell b, what the Statement gives of the start (any of its parts by flat_of_before) -/
def lw_At (p : Program) (s : State) (m : MethodId) (meth : Method) (c : Code) (b L : Nat) (xs : Nat → Int32) : Prop :=
  p.tables.exec = Jvm.exec ∧ c.code = code ∧ meth.sig.returnType = ret ∧ c.maxLocals = 4 ∧ s.vm.findClass R_law = some m.cls ∧ (∀ w ∈ lw_tbl, w.before #[Value.ref b] s = true) ∧ va_X b L xs s s.heap ∧ b < s.heap.size ∧ meth.locks = false ∧ (Jvm.Cond.and given_1 narrow_1).before #[Value.ref b] s = true
/-! ===== the law's own walk: its room turn by turn, its script, its end ===== -/
def cL (n : Nat) : Nat := 100 + 12 * (600 - n)
def sL (n : Nat) : Nat := 56000 + 473 * (600 - n)
theorem cL_le (n : Nat) : cL n ≤ 7300 := by unfold cL; omega
theorem sL_le (n : Nat) : sL n ≤ 339800 := by unfold sL; omega
theorem cL_st {n k : Nat} (hn : n < 600) (hk : k ≤ 12) : cL (n + 1) + k ≤ cL n := by unfold cL; omega
theorem sL_st {n k : Nat} (hn : n < 600) (hk : k ≤ 473) : sL (n + 1) + k ≤ sL n := by unfold sL; omega
def LX (X : XT) (L : Nat) (xs : Nat → Int32) (b : Nat) : Prop := match X with
  | (p, l, e, R, s, m, args, below, meth, c, Q, G, nL, h0) => va_X b L xs s s.heap ∧ b < s.heap.size ∧ b < gB G ∧ gS G 9 = b
def LW (X : XT) (b : Nat) : Prop := match X with
  | (p, l, e, R, s, m, args, below, meth, c, Q, G, nL, h0) => Q = lw_Z below #[Value.ref b] s ∧ args = #[Value.ref b] ∧ s.heap.size ≤ gB G
section VL
variable {X : XT} {cc : ByteArray} {own : String} {nL : Nat} {ret' : Option FieldType} {rm : Room} {cs sl : Nat} {h : Hp} {pc : Nat} {lv lv' : List (Nat × PV)} {st : List PV} {L : Nat} {xs : Nat → Int32} {b : Nat}
theorem V_sld (C : CX X cc own nL ret' rm) (hLX : LX X L xs b) {w : Nat} {i : Int32} (hin : vp_in i L) (d : decode cc pc = .ok (.iaload, 1)) (k : V X cs sl h (pc + 1) lv (vI (xs i.toNatClampNeg) :: st)) : V X cs sl h pc lv (vI i :: vR 19 (some w) :: st) := by
  obtain ⟨p, l, e, R, s, m, args, below, meth, cd, Q, G, n', h0⟩ := X
  obtain ⟨hx, hb, hml, hown, hts, hKv, rfl, hR, hr, hlk, hgb, hsk⟩ := C
  obtain ⟨hX, hbl, hbg, hbe⟩ := hLX
  intro H locs ls hE hPi hS hl t1 t2
  have e9 : cv G (vR 19 (some w)) = .ref b := by rw [← hbe]; rfl
  rw [List.map_cons, List.map_cons, e9]
  exact va_sld hx hb hX hbl (fun z => absurd z (by show ¬ gB G ≤ b; omega)) hS hin d (k H locs ls hE hPi hS hl t1 (ty_c trivial (ty_2 t2)))
theorem V_slen (C : CX X cc own nL ret' rm) (hLX : LX X L xs b) {w : Nat} (d : decode cc pc = .ok (.arraylength, 1)) (k : V X cs sl h (pc + 1) lv (vI (nI L) :: st)) : V X cs sl h pc lv (vR 19 (some w) :: st) := by
  obtain ⟨p, l, e, R, s, m, args, below, meth, cd, Q, G, n', h0⟩ := X
  obtain ⟨hx, hb, hml, hown, hts, hKv, rfl, hR, hr, hlk, hgb, hsk⟩ := C
  obtain ⟨hX, hbl, hbg, hbe⟩ := hLX
  intro H locs ls hE hPi hS hl t1 t2
  have e9 : cv G (vR 19 (some w)) = .ref b := by rw [← hbe]; rfl
  rw [List.map_cons, e9]
  exact va_slen hx hb hX hbl (fun z => absurd z (by show ¬ gB G ≤ b; omega)) hS d (k H locs ls hE hPi hS hl t1 (ty_c trivial (ty_1 t2)))
theorem V_lawret (C : CX X code "WaterStairLaw" 4 (some .boolean) room_1) (hlw : LW X b) (h1 : cs ≤ 600000) (h2 : sl ≤ 7302250) (d : decode code pc = .ok (.ireturn, 1)) : V X cs sl h pc lv [vI 1] := by
  obtain ⟨p, l, e, R, s, m, args, below, meth, cd, Q, G, n', h0⟩ := X
  obtain ⟨hx, hb, hml, hown, hts, hKv, hnl, hR, hr, hlk, hgb, hsk⟩ := C
  obtain ⟨hQ, ha, hsz⟩ := hlw
  subst hQ
  subst ha
  subst hR
  intro H locs ls hE hPi hS hl t1 t2
  refine va_forget (fun q hq => Nat.le_trans hsz (hS.2.2 q hq)) ?_
  refine W.widen h1 h2 ?_
  exact lw_ret hx hb hr hlk d
end VL
def f_L_law_1052 (N : Nat) (xs : Nat → Int32) (L : Nat) (s18 : Hp → Nat → Nat → Nat → Int32 → Option Int32) (h : Hp) (v0 : Nat) (v1 : Nat) (v2 : Nat) (v3 : Int32) : Option Int32 := s18 h v0 v1 v2 (v3 + (6 : Int32))
set_option maxHeartbeats 8000000 in
set_option maxRecDepth 100000 in
theorem p_L_law_1052 {X : XT} {xs : Nat → Int32} {L : Nat} {b : Nat} (hLX : LX X L xs b) (hlw : LW X b) {n : Nat} (hn : n < 600) (C : CX X code "WaterStairLaw" 4 (some .boolean) room_1) {N : Nat} {s18 : Hp → Nat → Nat → Nat → Int32 → Option Int32} (S18 : ∀ (h : Hp) (v0 : Nat) (v1 : Nat) (v2 : Nat) (v3 : Int32), s18 h v0 v1 v2 v3 = some 1 → V X (cL n) (sL n) h 18 [(0, vR 19 (some v0)), (1, vR 7 (some v1)), (2, vR 8 (some v2)), (3, vI v3)] []) {h : Hp} {v0 : Nat} {v1 : Nat} {v2 : Nat} {v3 : Int32} (hf : f_L_law_1052 N xs L s18 h v0 v1 v2 v3 = some 1) : V X (cL n) (sL n) h 1052 [(0, vR 19 (some v0)), (1, vR 7 (some v1)), (2, vR 8 (some v2)), (3, vI v3)] [] := by
  unfold f_L_law_1052 at hf
  refine V_iinc (lv' := [(3, vI (v3 + (6 : Int32))), (0, vR 19 (some v0)), (1, vR 7 (some v1)), (2, vR 8 (some v2))]) C dL_law_1052 3 rfl (congrArg (v3 + ·) (by decide : Int32.ofInt (6) = (6 : Int32))) (by decide) rfl ?_
  refine V_goto C 18 dL_law_1055 (by decide) ?_
  refine V_sub (lv' := [(0, vR 19 (some v0)), (1, vR 7 (some v1)), (2, vR 8 (some v2)), (3, vI (v3 + (6 : Int32)))]) [1, 2, 3, 0] rfl ?_
  exact S18 _ _ _ _ _ hf
def f_L_law_521 (N : Nat) (xs : Nat → Int32) (L : Nat) (s18 : Hp → Nat → Nat → Nat → Int32 → Option Int32) (h : Hp) (v0 : Nat) (v1 : Nat) (v2 : Nat) (v3 : Int32) (s3_ : Int32) (s2_ : Int32) (s1_ : Nat) (s0_ : Int32) : Option Int32 := b2 (f_X8_chain h s1_ s2_ s3_) (fun r1 h2 => if s0_ = r1 then (f_L_law_1052 N xs L s18 h2 v0 v1 v2 v3) else (some (0 : Int32)))
set_option maxHeartbeats 8000000 in
set_option maxRecDepth 100000 in
theorem p_L_law_521 {X : XT} {xs : Nat → Int32} {L : Nat} {b : Nat} (hLX : LX X L xs b) (hlw : LW X b) {n : Nat} (hn : n < 600) (C : CX X code "WaterStairLaw" 4 (some .boolean) room_1) {N : Nat} {s18 : Hp → Nat → Nat → Nat → Int32 → Option Int32} (S18 : ∀ (h : Hp) (v0 : Nat) (v1 : Nat) (v2 : Nat) (v3 : Int32), s18 h v0 v1 v2 v3 = some 1 → V X (cL n) (sL n) h 18 [(0, vR 19 (some v0)), (1, vR 7 (some v1)), (2, vR 8 (some v2)), (3, vI v3)] []) {h : Hp} {v0 : Nat} {v1 : Nat} {v2 : Nat} {v3 : Int32} {s3_ : Int32} {s2_ : Int32} {s1_ : Nat} {s0_ : Int32} (hf : f_L_law_521 N xs L s18 h v0 v1 v2 v3 s3_ s2_ s1_ s0_ = some 1) : V X (cL (n + 1)) (sL (n + 1)) h 521 [(0, vR 19 (some v0)), (1, vR 7 (some v1)), (2, vR 8 (some v2)), (3, vI v3)] [vI s3_, vI s2_, vR 8 (some s1_), vI s0_] := by
  unfold f_L_law_521 at hf
  obtain ⟨r1, h2, er1, hf⟩ := o_b2 hf
  refine V_callV (as := [vI s2_, vI s3_]) (st := [vI s0_]) C ml_L_62 fx8 (ct_X8_chain er1) rfl ⟨by decide, by decide, Nat.le_trans (Nat.add_le_add (cL_le _) (by decide : rmX8_chain.cells ≤ 20)) (by decide), Nat.le_trans (Nat.add_le_add (sL_le _) (by decide : rmX8_chain.slots ≤ 1000)) (by decide)⟩ (Nat.le_of_ble_eq_true rfl) rfl dL_law_521 (cs' := (cL (n + 1))) (sl' := (sL (n + 1))) rfl rfl ?_
  refine V_icmp_eq C 1052 dL_law_524 (by decide) (fun c3 => ?_) (fun c3 => ?_)
  · have hf := i_t c3 hf
    refine V_wide (cs' := (cL n)) (sl' := (sL n)) (cL_st hn (by decide : 0 ≤ 12)) (sL_st hn (by decide : 0 ≤ 473)) ?_
    refine V_sub (lv' := [(0, vR 19 (some v0)), (1, vR 7 (some v1)), (2, vR 8 (some v2)), (3, vI v3)]) [0, 1, 2, 3] rfl ?_
    exact p_L_law_1052 hLX hlw hn C S18 hf
  · have hf := i_f c3 hf
    refine V_iconst (v := (0 : Int32)) C dL_law_527 (by decide) ?_
    exact absurd (Option.some.inj hf) (by decide)
def f_L_law_499 (N : Nat) (xs : Nat → Int32) (L : Nat) (s18 : Hp → Nat → Nat → Nat → Int32 → Option Int32) (h : Hp) (v0 : Nat) (v1 : Nat) (v2 : Nat) (v3 : Int32) (s2_ : Int32) (s1_ : Int32) (s0_ : Nat) : Option Int32 := b2 (f_X7_chain h s0_ s1_ s2_) (fun r4 h5 => if 0 ≤ v3 + (1 : Int32) ∧ (v3 + (1 : Int32)).toNatClampNeg < L then (if 0 ≤ v3 + (2 : Int32) ∧ (v3 + (2 : Int32)).toNatClampNeg < L then (if xs (v3 + (2 : Int32)).toNatClampNeg = 0 then (f_L_law_521 N xs L s18 h5 v0 v1 v2 v3 (0 : Int32) (xs (v3 + (1 : Int32)).toNatClampNeg) v2 r4) else (f_L_law_521 N xs L s18 h5 v0 v1 v2 v3 (1 : Int32) (xs (v3 + (1 : Int32)).toNatClampNeg) v2 r4)) else none) else none)
set_option maxHeartbeats 8000000 in
set_option maxRecDepth 100000 in
theorem p_L_law_499 {X : XT} {xs : Nat → Int32} {L : Nat} {b : Nat} (hLX : LX X L xs b) (hlw : LW X b) {n : Nat} (hn : n < 600) (C : CX X code "WaterStairLaw" 4 (some .boolean) room_1) {N : Nat} {s18 : Hp → Nat → Nat → Nat → Int32 → Option Int32} (S18 : ∀ (h : Hp) (v0 : Nat) (v1 : Nat) (v2 : Nat) (v3 : Int32), s18 h v0 v1 v2 v3 = some 1 → V X (cL n) (sL n) h 18 [(0, vR 19 (some v0)), (1, vR 7 (some v1)), (2, vR 8 (some v2)), (3, vI v3)] []) {h : Hp} {v0 : Nat} {v1 : Nat} {v2 : Nat} {v3 : Int32} {s2_ : Int32} {s1_ : Int32} {s0_ : Nat} (hf : f_L_law_499 N xs L s18 h v0 v1 v2 v3 s2_ s1_ s0_ = some 1) : V X (cL (n + 1)) (sL (n + 1)) h 499 [(0, vR 19 (some v0)), (1, vR 7 (some v1)), (2, vR 8 (some v2)), (3, vI v3)] [vI s2_, vI s1_, vR 7 (some s0_)] := by
  unfold f_L_law_499 at hf
  obtain ⟨r4, h5, er4, hf⟩ := o_b2 hf
  refine V_callV (as := [vI s1_, vI s2_]) (st := []) C ml_L_58 fx7 (ct_X7_chain er4) rfl ⟨by decide, by decide, Nat.le_trans (Nat.add_le_add (cL_le _) (by decide : rmX7_chain.cells ≤ 20)) (by decide), Nat.le_trans (Nat.add_le_add (sL_le _) (by decide : rmX7_chain.slots ≤ 1000)) (by decide)⟩ (Nat.le_of_ble_eq_true rfl) rfl dL_law_499 (cs' := (cL (n + 1))) (sl' := (sL (n + 1))) rfl rfl ?_
  refine V_aload_n C dL_law_502 rfl 2 rfl ?_
  refine V_aload_n C dL_law_503 rfl 0 rfl ?_
  refine V_iload_n C dL_law_504 rfl 3 rfl ?_
  refine V_iconst (v := (1 : Int32)) C dL_law_505 (by decide) ?_
  refine V_iadd C dL_law_506 ?_
  obtain ⟨g6, hf⟩ := o_if hf
  refine V_sld C hLX (vp_g g6) dL_law_507 ?_
  refine V_aload_n C dL_law_508 rfl 0 rfl ?_
  refine V_iload_n C dL_law_509 rfl 3 rfl ?_
  refine V_iconst (v := (2 : Int32)) C dL_law_510 (by decide) ?_
  refine V_iadd C dL_law_511 ?_
  obtain ⟨g7, hf⟩ := o_if hf
  refine V_sld C hLX (vp_g g7) dL_law_512 ?_
  refine V_if_eq C 520 dL_law_513 (by decide) (fun c8 => ?_) (fun c8 => ?_)
  · have hf := i_t c8 hf
    refine V_iconst (v := (0 : Int32)) C dL_law_520 (by decide) ?_
    refine V_sub (lv' := [(0, vR 19 (some v0)), (1, vR 7 (some v1)), (2, vR 8 (some v2)), (3, vI v3)]) [0, 1, 2, 3] rfl ?_
    exact p_L_law_521 hLX hlw hn C S18 hf
  · have hf := i_f c8 hf
    refine V_iconst (v := (1 : Int32)) C dL_law_516 (by decide) ?_
    refine V_goto C 521 dL_law_517 (by decide) ?_
    refine V_sub (lv' := [(0, vR 19 (some v0)), (1, vR 7 (some v1)), (2, vR 8 (some v2)), (3, vI v3)]) [0, 1, 2, 3] rfl ?_
    exact p_L_law_521 hLX hlw hn C S18 hf
def f_L_law_639 (N : Nat) (xs : Nat → Int32) (L : Nat) (s18 : Hp → Nat → Nat → Nat → Int32 → Option Int32) (h : Hp) (v0 : Nat) (v1 : Nat) (v2 : Nat) (v3 : Int32) (s3_ : Int32) (s2_ : Int32) (s1_ : Nat) (s0_ : Int32) : Option Int32 := b2 (f_X8_plan N h s1_ s2_ s3_) (fun r9 h10 => if s0_ = r9 then (f_L_law_1052 N xs L s18 h10 v0 v1 v2 v3) else (some (0 : Int32)))
set_option maxHeartbeats 8000000 in
set_option maxRecDepth 100000 in
theorem p_L_law_639 {X : XT} {xs : Nat → Int32} {L : Nat} {b : Nat} (hLX : LX X L xs b) (hlw : LW X b) {n : Nat} (hn : n < 600) (C : CX X code "WaterStairLaw" 4 (some .boolean) room_1) {N : Nat} {s18 : Hp → Nat → Nat → Nat → Int32 → Option Int32} (S18 : ∀ (h : Hp) (v0 : Nat) (v1 : Nat) (v2 : Nat) (v3 : Int32), s18 h v0 v1 v2 v3 = some 1 → V X (cL n) (sL n) h 18 [(0, vR 19 (some v0)), (1, vR 7 (some v1)), (2, vR 8 (some v2)), (3, vI v3)] []) {h : Hp} {v0 : Nat} {v1 : Nat} {v2 : Nat} {v3 : Int32} {s3_ : Int32} {s2_ : Int32} {s1_ : Nat} {s0_ : Int32} (hf : f_L_law_639 N xs L s18 h v0 v1 v2 v3 s3_ s2_ s1_ s0_ = some 1) : V X (cL (n + 1)) (sL (n + 1)) h 639 [(0, vR 19 (some v0)), (1, vR 7 (some v1)), (2, vR 8 (some v2)), (3, vI v3)] [vI s3_, vI s2_, vR 8 (some s1_), vI s0_] := by
  unfold f_L_law_639 at hf
  obtain ⟨r9, h10, er9, hf⟩ := o_b2 hf
  refine V_callV (as := [vI s2_, vI s3_]) (st := [vI s0_]) C ml_L_79 fx8 (ct_X8_plan er9) rfl ⟨by decide, by decide, Nat.le_trans (Nat.add_le_add (cL_le _) (by decide : rmX8_plan.cells ≤ 20)) (by decide), Nat.le_trans (Nat.add_le_add (sL_le _) (by decide : rmX8_plan.slots ≤ 1000)) (by decide)⟩ (Nat.le_of_ble_eq_true rfl) rfl dL_law_639 (cs' := (cL (n + 1))) (sl' := (sL (n + 1))) rfl rfl ?_
  refine V_icmp_eq C 1052 dL_law_642 (by decide) (fun c11 => ?_) (fun c11 => ?_)
  · have hf := i_t c11 hf
    refine V_wide (cs' := (cL n)) (sl' := (sL n)) (cL_st hn (by decide : 0 ≤ 12)) (sL_st hn (by decide : 0 ≤ 473)) ?_
    refine V_sub (lv' := [(0, vR 19 (some v0)), (1, vR 7 (some v1)), (2, vR 8 (some v2)), (3, vI v3)]) [0, 1, 2, 3] rfl ?_
    exact p_L_law_1052 hLX hlw hn C S18 hf
  · have hf := i_f c11 hf
    refine V_iconst (v := (0 : Int32)) C dL_law_645 (by decide) ?_
    exact absurd (Option.some.inj hf) (by decide)
def f_L_law_617 (N : Nat) (xs : Nat → Int32) (L : Nat) (s18 : Hp → Nat → Nat → Nat → Int32 → Option Int32) (h : Hp) (v0 : Nat) (v1 : Nat) (v2 : Nat) (v3 : Int32) (s2_ : Int32) (s1_ : Int32) (s0_ : Nat) : Option Int32 := b2 (f_X7_plan N h s0_ s1_ s2_) (fun r12 h13 => if 0 ≤ v3 + (1 : Int32) ∧ (v3 + (1 : Int32)).toNatClampNeg < L then (if 0 ≤ v3 + (2 : Int32) ∧ (v3 + (2 : Int32)).toNatClampNeg < L then (if xs (v3 + (2 : Int32)).toNatClampNeg = 0 then (f_L_law_639 N xs L s18 h13 v0 v1 v2 v3 (0 : Int32) (xs (v3 + (1 : Int32)).toNatClampNeg) v2 r12) else (f_L_law_639 N xs L s18 h13 v0 v1 v2 v3 (1 : Int32) (xs (v3 + (1 : Int32)).toNatClampNeg) v2 r12)) else none) else none)
set_option maxHeartbeats 8000000 in
set_option maxRecDepth 100000 in
theorem p_L_law_617 {X : XT} {xs : Nat → Int32} {L : Nat} {b : Nat} (hLX : LX X L xs b) (hlw : LW X b) {n : Nat} (hn : n < 600) (C : CX X code "WaterStairLaw" 4 (some .boolean) room_1) {N : Nat} {s18 : Hp → Nat → Nat → Nat → Int32 → Option Int32} (S18 : ∀ (h : Hp) (v0 : Nat) (v1 : Nat) (v2 : Nat) (v3 : Int32), s18 h v0 v1 v2 v3 = some 1 → V X (cL n) (sL n) h 18 [(0, vR 19 (some v0)), (1, vR 7 (some v1)), (2, vR 8 (some v2)), (3, vI v3)] []) {h : Hp} {v0 : Nat} {v1 : Nat} {v2 : Nat} {v3 : Int32} {s2_ : Int32} {s1_ : Int32} {s0_ : Nat} (hf : f_L_law_617 N xs L s18 h v0 v1 v2 v3 s2_ s1_ s0_ = some 1) : V X (cL (n + 1)) (sL (n + 1)) h 617 [(0, vR 19 (some v0)), (1, vR 7 (some v1)), (2, vR 8 (some v2)), (3, vI v3)] [vI s2_, vI s1_, vR 7 (some s0_)] := by
  unfold f_L_law_617 at hf
  obtain ⟨r12, h13, er12, hf⟩ := o_b2 hf
  refine V_callV (as := [vI s1_, vI s2_]) (st := []) C ml_L_75 fx7 (ct_X7_plan er12) rfl ⟨by decide, by decide, Nat.le_trans (Nat.add_le_add (cL_le _) (by decide : rmX7_plan.cells ≤ 20)) (by decide), Nat.le_trans (Nat.add_le_add (sL_le _) (by decide : rmX7_plan.slots ≤ 1000)) (by decide)⟩ (Nat.le_of_ble_eq_true rfl) rfl dL_law_617 (cs' := (cL (n + 1))) (sl' := (sL (n + 1))) rfl rfl ?_
  refine V_aload_n C dL_law_620 rfl 2 rfl ?_
  refine V_aload_n C dL_law_621 rfl 0 rfl ?_
  refine V_iload_n C dL_law_622 rfl 3 rfl ?_
  refine V_iconst (v := (1 : Int32)) C dL_law_623 (by decide) ?_
  refine V_iadd C dL_law_624 ?_
  obtain ⟨g14, hf⟩ := o_if hf
  refine V_sld C hLX (vp_g g14) dL_law_625 ?_
  refine V_aload_n C dL_law_626 rfl 0 rfl ?_
  refine V_iload_n C dL_law_627 rfl 3 rfl ?_
  refine V_iconst (v := (2 : Int32)) C dL_law_628 (by decide) ?_
  refine V_iadd C dL_law_629 ?_
  obtain ⟨g15, hf⟩ := o_if hf
  refine V_sld C hLX (vp_g g15) dL_law_630 ?_
  refine V_if_eq C 638 dL_law_631 (by decide) (fun c16 => ?_) (fun c16 => ?_)
  · have hf := i_t c16 hf
    refine V_iconst (v := (0 : Int32)) C dL_law_638 (by decide) ?_
    refine V_sub (lv' := [(0, vR 19 (some v0)), (1, vR 7 (some v1)), (2, vR 8 (some v2)), (3, vI v3)]) [0, 1, 2, 3] rfl ?_
    exact p_L_law_639 hLX hlw hn C S18 hf
  · have hf := i_f c16 hf
    refine V_iconst (v := (1 : Int32)) C dL_law_634 (by decide) ?_
    refine V_goto C 639 dL_law_635 (by decide) ?_
    refine V_sub (lv' := [(0, vR 19 (some v0)), (1, vR 7 (some v1)), (2, vR 8 (some v2)), (3, vI v3)]) [0, 1, 2, 3] rfl ?_
    exact p_L_law_639 hLX hlw hn C S18 hf
def f_L_law_698 (N : Nat) (xs : Nat → Int32) (L : Nat) (s18 : Hp → Nat → Nat → Nat → Int32 → Option Int32) (h : Hp) (v0 : Nat) (v1 : Nat) (v2 : Nat) (v3 : Int32) (s3_ : Int32) (s2_ : Int32) (s1_ : Nat) (s0_ : Int32) : Option Int32 := if 0 ≤ v3 + (3 : Int32) ∧ (v3 + (3 : Int32)).toNatClampNeg < L then (if 0 ≤ v3 + (4 : Int32) ∧ (v3 + (4 : Int32)).toNatClampNeg < L then (b2 (f_X8_row N h s1_ s2_ s3_ (xs (v3 + (3 : Int32)).toNatClampNeg) (xs (v3 + (4 : Int32)).toNatClampNeg)) (fun r19 h20 => if s0_ = r19 then (f_L_law_1052 N xs L s18 h20 v0 v1 v2 v3) else (some (0 : Int32)))) else none) else none
set_option maxHeartbeats 8000000 in
set_option maxRecDepth 100000 in
theorem p_L_law_698 {X : XT} {xs : Nat → Int32} {L : Nat} {b : Nat} (hLX : LX X L xs b) (hlw : LW X b) {n : Nat} (hn : n < 600) (C : CX X code "WaterStairLaw" 4 (some .boolean) room_1) {N : Nat} {s18 : Hp → Nat → Nat → Nat → Int32 → Option Int32} (S18 : ∀ (h : Hp) (v0 : Nat) (v1 : Nat) (v2 : Nat) (v3 : Int32), s18 h v0 v1 v2 v3 = some 1 → V X (cL n) (sL n) h 18 [(0, vR 19 (some v0)), (1, vR 7 (some v1)), (2, vR 8 (some v2)), (3, vI v3)] []) {h : Hp} {v0 : Nat} {v1 : Nat} {v2 : Nat} {v3 : Int32} {s3_ : Int32} {s2_ : Int32} {s1_ : Nat} {s0_ : Int32} (hf : f_L_law_698 N xs L s18 h v0 v1 v2 v3 s3_ s2_ s1_ s0_ = some 1) : V X (cL (n + 1)) (sL (n + 1)) h 698 [(0, vR 19 (some v0)), (1, vR 7 (some v1)), (2, vR 8 (some v2)), (3, vI v3)] [vI s3_, vI s2_, vR 8 (some s1_), vI s0_] := by
  unfold f_L_law_698 at hf
  refine V_aload_n C dL_law_698 rfl 0 rfl ?_
  refine V_iload_n C dL_law_699 rfl 3 rfl ?_
  refine V_iconst (v := (3 : Int32)) C dL_law_700 (by decide) ?_
  refine V_iadd C dL_law_701 ?_
  obtain ⟨g17, hf⟩ := o_if hf
  refine V_sld C hLX (vp_g g17) dL_law_702 ?_
  refine V_aload_n C dL_law_703 rfl 0 rfl ?_
  refine V_iload_n C dL_law_704 rfl 3 rfl ?_
  refine V_iconst (v := (4 : Int32)) C dL_law_705 (by decide) ?_
  refine V_iadd C dL_law_706 ?_
  obtain ⟨g18, hf⟩ := o_if hf
  refine V_sld C hLX (vp_g g18) dL_law_707 ?_
  obtain ⟨r19, h20, er19, hf⟩ := o_b2 hf
  refine V_callV (as := [vI s2_, vI s3_, vI (xs (v3 + (3 : Int32)).toNatClampNeg), vI (xs (v3 + (4 : Int32)).toNatClampNeg)]) (st := [vI s0_]) C ml_L_84 fx8 (ct_X8_row er19) rfl ⟨by decide, by decide, Nat.le_trans (Nat.add_le_add (cL_le _) (by decide : rmX8_row.cells ≤ 20)) (by decide), Nat.le_trans (Nat.add_le_add (sL_le _) (by decide : rmX8_row.slots ≤ 1000)) (by decide)⟩ (Nat.le_of_ble_eq_true rfl) rfl dL_law_708 (cs' := (cL (n + 1))) (sl' := (sL (n + 1))) rfl rfl ?_
  refine V_icmp_eq C 1052 dL_law_711 (by decide) (fun c21 => ?_) (fun c21 => ?_)
  · have hf := i_t c21 hf
    refine V_wide (cs' := (cL n)) (sl' := (sL n)) (cL_st hn (by decide : 0 ≤ 12)) (sL_st hn (by decide : 0 ≤ 473)) ?_
    refine V_sub (lv' := [(0, vR 19 (some v0)), (1, vR 7 (some v1)), (2, vR 8 (some v2)), (3, vI v3)]) [0, 1, 2, 3] rfl ?_
    exact p_L_law_1052 hLX hlw hn C S18 hf
  · have hf := i_f c21 hf
    refine V_iconst (v := (0 : Int32)) C dL_law_714 (by decide) ?_
    exact absurd (Option.some.inj hf) (by decide)
def f_L_law_666 (N : Nat) (xs : Nat → Int32) (L : Nat) (s18 : Hp → Nat → Nat → Nat → Int32 → Option Int32) (h : Hp) (v0 : Nat) (v1 : Nat) (v2 : Nat) (v3 : Int32) (s2_ : Int32) (s1_ : Int32) (s0_ : Nat) : Option Int32 := if 0 ≤ v3 + (3 : Int32) ∧ (v3 + (3 : Int32)).toNatClampNeg < L then (if 0 ≤ v3 + (4 : Int32) ∧ (v3 + (4 : Int32)).toNatClampNeg < L then (b2 (f_X7_row N h s0_ s1_ s2_ (xs (v3 + (3 : Int32)).toNatClampNeg) (xs (v3 + (4 : Int32)).toNatClampNeg)) (fun r24 h25 => if 0 ≤ v3 + (1 : Int32) ∧ (v3 + (1 : Int32)).toNatClampNeg < L then (if 0 ≤ v3 + (2 : Int32) ∧ (v3 + (2 : Int32)).toNatClampNeg < L then (if xs (v3 + (2 : Int32)).toNatClampNeg = 0 then (f_L_law_698 N xs L s18 h25 v0 v1 v2 v3 (0 : Int32) (xs (v3 + (1 : Int32)).toNatClampNeg) v2 r24) else (f_L_law_698 N xs L s18 h25 v0 v1 v2 v3 (1 : Int32) (xs (v3 + (1 : Int32)).toNatClampNeg) v2 r24)) else none) else none)) else none) else none
set_option maxHeartbeats 8000000 in
set_option maxRecDepth 100000 in
theorem p_L_law_666 {X : XT} {xs : Nat → Int32} {L : Nat} {b : Nat} (hLX : LX X L xs b) (hlw : LW X b) {n : Nat} (hn : n < 600) (C : CX X code "WaterStairLaw" 4 (some .boolean) room_1) {N : Nat} {s18 : Hp → Nat → Nat → Nat → Int32 → Option Int32} (S18 : ∀ (h : Hp) (v0 : Nat) (v1 : Nat) (v2 : Nat) (v3 : Int32), s18 h v0 v1 v2 v3 = some 1 → V X (cL n) (sL n) h 18 [(0, vR 19 (some v0)), (1, vR 7 (some v1)), (2, vR 8 (some v2)), (3, vI v3)] []) {h : Hp} {v0 : Nat} {v1 : Nat} {v2 : Nat} {v3 : Int32} {s2_ : Int32} {s1_ : Int32} {s0_ : Nat} (hf : f_L_law_666 N xs L s18 h v0 v1 v2 v3 s2_ s1_ s0_ = some 1) : V X (cL (n + 1)) (sL (n + 1)) h 666 [(0, vR 19 (some v0)), (1, vR 7 (some v1)), (2, vR 8 (some v2)), (3, vI v3)] [vI s2_, vI s1_, vR 7 (some s0_)] := by
  unfold f_L_law_666 at hf
  refine V_aload_n C dL_law_666 rfl 0 rfl ?_
  refine V_iload_n C dL_law_667 rfl 3 rfl ?_
  refine V_iconst (v := (3 : Int32)) C dL_law_668 (by decide) ?_
  refine V_iadd C dL_law_669 ?_
  obtain ⟨g22, hf⟩ := o_if hf
  refine V_sld C hLX (vp_g g22) dL_law_670 ?_
  refine V_aload_n C dL_law_671 rfl 0 rfl ?_
  refine V_iload_n C dL_law_672 rfl 3 rfl ?_
  refine V_iconst (v := (4 : Int32)) C dL_law_673 (by decide) ?_
  refine V_iadd C dL_law_674 ?_
  obtain ⟨g23, hf⟩ := o_if hf
  refine V_sld C hLX (vp_g g23) dL_law_675 ?_
  obtain ⟨r24, h25, er24, hf⟩ := o_b2 hf
  refine V_callV (as := [vI s1_, vI s2_, vI (xs (v3 + (3 : Int32)).toNatClampNeg), vI (xs (v3 + (4 : Int32)).toNatClampNeg)]) (st := []) C ml_L_80 fx7 (ct_X7_row er24) rfl ⟨by decide, by decide, Nat.le_trans (Nat.add_le_add (cL_le _) (by decide : rmX7_row.cells ≤ 20)) (by decide), Nat.le_trans (Nat.add_le_add (sL_le _) (by decide : rmX7_row.slots ≤ 1000)) (by decide)⟩ (Nat.le_of_ble_eq_true rfl) rfl dL_law_676 (cs' := (cL (n + 1))) (sl' := (sL (n + 1))) rfl rfl ?_
  refine V_aload_n C dL_law_679 rfl 2 rfl ?_
  refine V_aload_n C dL_law_680 rfl 0 rfl ?_
  refine V_iload_n C dL_law_681 rfl 3 rfl ?_
  refine V_iconst (v := (1 : Int32)) C dL_law_682 (by decide) ?_
  refine V_iadd C dL_law_683 ?_
  obtain ⟨g26, hf⟩ := o_if hf
  refine V_sld C hLX (vp_g g26) dL_law_684 ?_
  refine V_aload_n C dL_law_685 rfl 0 rfl ?_
  refine V_iload_n C dL_law_686 rfl 3 rfl ?_
  refine V_iconst (v := (2 : Int32)) C dL_law_687 (by decide) ?_
  refine V_iadd C dL_law_688 ?_
  obtain ⟨g27, hf⟩ := o_if hf
  refine V_sld C hLX (vp_g g27) dL_law_689 ?_
  refine V_if_eq C 697 dL_law_690 (by decide) (fun c28 => ?_) (fun c28 => ?_)
  · have hf := i_t c28 hf
    refine V_iconst (v := (0 : Int32)) C dL_law_697 (by decide) ?_
    refine V_sub (lv' := [(0, vR 19 (some v0)), (1, vR 7 (some v1)), (2, vR 8 (some v2)), (3, vI v3)]) [0, 1, 2, 3] rfl ?_
    exact p_L_law_698 hLX hlw hn C S18 hf
  · have hf := i_f c28 hf
    refine V_iconst (v := (1 : Int32)) C dL_law_693 (by decide) ?_
    refine V_goto C 698 dL_law_694 (by decide) ?_
    refine V_sub (lv' := [(0, vR 19 (some v0)), (1, vR 7 (some v1)), (2, vR 8 (some v2)), (3, vI v3)]) [0, 1, 2, 3] rfl ?_
    exact p_L_law_698 hLX hlw hn C S18 hf
def f_L_law_18 (N : Nat) (xs : Nat → Int32) (L : Nat) : Nat → Hp → Nat → Nat → Nat → Int32 → Option Int32
  | 0, _, _, _, _, _ => none
  | n + 1, h, v0, v1, v2, v3 => if ((nI L) - (6 : Int32)) < v3 then (some (1 : Int32)) else (if 0 ≤ v3 ∧ v3.toNatClampNeg < L then (if (xs v3.toNatClampNeg) &&& (31 : Int32) = (0 : Int32) then (if 0 ≤ v3 + (1 : Int32) ∧ (v3 + (1 : Int32)).toNatClampNeg < L then (if 0 ≤ v3 + (2 : Int32) ∧ (v3 + (2 : Int32)).toNatClampNeg < L then (if 0 ≤ v3 + (3 : Int32) ∧ (v3 + (3 : Int32)).toNatClampNeg < L then (if 0 ≤ v3 + (4 : Int32) ∧ (v3 + (4 : Int32)).toNatClampNeg < L then (if 0 ≤ v3 + (5 : Int32) ∧ (v3 + (5 : Int32)).toNatClampNeg < L then (b2 (f_X7_feed N h v1 (xs (v3 + (1 : Int32)).toNatClampNeg) (xs (v3 + (2 : Int32)).toNatClampNeg) (xs (v3 + (3 : Int32)).toNatClampNeg) (xs (v3 + (4 : Int32)).toNatClampNeg) (xs (v3 + (5 : Int32)).toNatClampNeg)) (fun r37 h38 => if 0 ≤ v3 + (1 : Int32) ∧ (v3 + (1 : Int32)).toNatClampNeg < L then (if 0 ≤ v3 + (2 : Int32) ∧ (v3 + (2 : Int32)).toNatClampNeg < L then (if 0 ≤ v3 + (3 : Int32) ∧ (v3 + (3 : Int32)).toNatClampNeg < L then (if 0 ≤ v3 + (4 : Int32) ∧ (v3 + (4 : Int32)).toNatClampNeg < L then (if 0 ≤ v3 + (5 : Int32) ∧ (v3 + (5 : Int32)).toNatClampNeg < L then (b2 (f_X8_feed N h38 v2 (xs (v3 + (1 : Int32)).toNatClampNeg) (xs (v3 + (2 : Int32)).toNatClampNeg) (xs (v3 + (3 : Int32)).toNatClampNeg) (xs (v3 + (4 : Int32)).toNatClampNeg) (xs (v3 + (5 : Int32)).toNatClampNeg)) (fun r44 h45 => if r37 = r44 then (f_L_law_1052 N xs L (f_L_law_18 N xs L n) h45 v0 v1 v2 v3) else (some (0 : Int32)))) else none) else none) else none) else none) else none)) else none) else none) else none) else none) else none) else if (xs v3.toNatClampNeg) &&& (31 : Int32) = (1 : Int32) then (if 0 ≤ v3 + (1 : Int32) ∧ (v3 + (1 : Int32)).toNatClampNeg < L then (b2 (f_X7_end h v1 (xs (v3 + (1 : Int32)).toNatClampNeg)) (fun r49 h50 => if 0 ≤ v3 + (1 : Int32) ∧ (v3 + (1 : Int32)).toNatClampNeg < L then (b2 (f_X8_end h50 v2 (xs (v3 + (1 : Int32)).toNatClampNeg)) (fun r52 h53 => if r49 = r52 then (f_L_law_1052 N xs L (f_L_law_18 N xs L n) h53 v0 v1 v2 v3) else (some (0 : Int32)))) else none)) else none) else if (xs v3.toNatClampNeg) &&& (31 : Int32) = (2 : Int32) then (b2 (f_X7_stair N h v1) (fun r56 h57 => b2 (f_X8_stair N h57 v2) (fun r58 h59 => if r56 = r58 then (f_L_law_1052 N xs L (f_L_law_18 N xs L n) h59 v0 v1 v2 v3) else (some (0 : Int32))))) else if (xs v3.toNatClampNeg) &&& (31 : Int32) = (3 : Int32) then (b2 (f_X7_rule N h v1) (fun r62 h63 => b2 (f_X8_rule N h63 v2) (fun r64 h65 => if r62 = r64 then (f_L_law_1052 N xs L (f_L_law_18 N xs L n) h65 v0 v1 v2 v3) else (some (0 : Int32))))) else if (xs v3.toNatClampNeg) &&& (31 : Int32) = (4 : Int32) then (if 0 ≤ v3 + (1 : Int32) ∧ (v3 + (1 : Int32)).toNatClampNeg < L then (b2 (f_X7_force h v1 (xs (v3 + (1 : Int32)).toNatClampNeg)) (fun r69 h70 => if 0 ≤ v3 + (1 : Int32) ∧ (v3 + (1 : Int32)).toNatClampNeg < L then (b2 (f_X8_force h70 v2 (xs (v3 + (1 : Int32)).toNatClampNeg)) (fun r72 h73 => if r69 = r72 then (f_L_law_1052 N xs L (f_L_law_18 N xs L n) h73 v0 v1 v2 v3) else (some (0 : Int32)))) else none)) else none) else if (xs v3.toNatClampNeg) &&& (31 : Int32) = (5 : Int32) then (if 0 ≤ v3 + (1 : Int32) ∧ (v3 + (1 : Int32)).toNatClampNeg < L then (if 0 ≤ v3 + (2 : Int32) ∧ (v3 + (2 : Int32)).toNatClampNeg < L then (Option.bind (f_X7_level N h v1 (xs (v3 + (1 : Int32)).toNatClampNeg) (xs (v3 + (2 : Int32)).toNatClampNeg)) (fun r78 => if 0 ≤ v3 + (1 : Int32) ∧ (v3 + (1 : Int32)).toNatClampNeg < L then (if 0 ≤ v3 + (2 : Int32) ∧ (v3 + (2 : Int32)).toNatClampNeg < L then (Option.bind (f_X8_level N h v2 (xs (v3 + (1 : Int32)).toNatClampNeg) (xs (v3 + (2 : Int32)).toNatClampNeg)) (fun r81 => if r78 = r81 then (f_L_law_1052 N xs L (f_L_law_18 N xs L n) h v0 v1 v2 v3) else (some (0 : Int32)))) else none) else none)) else none) else none) else if (xs v3.toNatClampNeg) &&& (31 : Int32) = (6 : Int32) then (if 0 ≤ v3 + (1 : Int32) ∧ (v3 + (1 : Int32)).toNatClampNeg < L then (if 0 ≤ v3 + (2 : Int32) ∧ (v3 + (2 : Int32)).toNatClampNeg < L then (Option.bind (f_X7_barge h v1 (xs (v3 + (1 : Int32)).toNatClampNeg) (xs (v3 + (2 : Int32)).toNatClampNeg)) (fun r86 => if 0 ≤ v3 + (1 : Int32) ∧ (v3 + (1 : Int32)).toNatClampNeg < L then (if 0 ≤ v3 + (2 : Int32) ∧ (v3 + (2 : Int32)).toNatClampNeg < L then (Option.bind (f_X8_barge h v2 (xs (v3 + (1 : Int32)).toNatClampNeg) (xs (v3 + (2 : Int32)).toNatClampNeg)) (fun r89 => if r86 = r89 then (f_L_law_1052 N xs L (f_L_law_18 N xs L n) h v0 v1 v2 v3) else (some (0 : Int32)))) else none) else none)) else none) else none) else if (xs v3.toNatClampNeg) &&& (31 : Int32) = (7 : Int32) then (if 0 ≤ v3 + (1 : Int32) ∧ (v3 + (1 : Int32)).toNatClampNeg < L then (if 0 ≤ v3 + (2 : Int32) ∧ (v3 + (2 : Int32)).toNatClampNeg < L then (if 0 ≤ v3 + (3 : Int32) ∧ (v3 + (3 : Int32)).toNatClampNeg < L then (b2 (f_X7_tip N h v1 (xs (v3 + (1 : Int32)).toNatClampNeg) (xs (v3 + (2 : Int32)).toNatClampNeg) (xs (v3 + (3 : Int32)).toNatClampNeg)) (fun r95 h96 => if 0 ≤ v3 + (1 : Int32) ∧ (v3 + (1 : Int32)).toNatClampNeg < L then (if 0 ≤ v3 + (2 : Int32) ∧ (v3 + (2 : Int32)).toNatClampNeg < L then (if 0 ≤ v3 + (3 : Int32) ∧ (v3 + (3 : Int32)).toNatClampNeg < L then (b2 (f_X8_tip N h96 v2 (xs (v3 + (1 : Int32)).toNatClampNeg) (xs (v3 + (2 : Int32)).toNatClampNeg) (xs (v3 + (3 : Int32)).toNatClampNeg)) (fun r100 h101 => if r95 = r100 then (f_L_law_1052 N xs L (f_L_law_18 N xs L n) h101 v0 v1 v2 v3) else (some (0 : Int32)))) else none) else none) else none)) else none) else none) else none) else if (xs v3.toNatClampNeg) &&& (31 : Int32) = (8 : Int32) then (if 0 ≤ v3 + (1 : Int32) ∧ (v3 + (1 : Int32)).toNatClampNeg < L then (if 0 ≤ v3 + (2 : Int32) ∧ (v3 + (2 : Int32)).toNatClampNeg < L then (if 0 ≤ v3 + (3 : Int32) ∧ (v3 + (3 : Int32)).toNatClampNeg < L then (b2 (f_X7_may N h v1 (xs (v3 + (1 : Int32)).toNatClampNeg) (xs (v3 + (2 : Int32)).toNatClampNeg) (xs (v3 + (3 : Int32)).toNatClampNeg)) (fun r107 h108 => if 0 ≤ v3 + (1 : Int32) ∧ (v3 + (1 : Int32)).toNatClampNeg < L then (if 0 ≤ v3 + (2 : Int32) ∧ (v3 + (2 : Int32)).toNatClampNeg < L then (if 0 ≤ v3 + (3 : Int32) ∧ (v3 + (3 : Int32)).toNatClampNeg < L then (b2 (f_X8_may N h108 v2 (xs (v3 + (1 : Int32)).toNatClampNeg) (xs (v3 + (2 : Int32)).toNatClampNeg) (xs (v3 + (3 : Int32)).toNatClampNeg)) (fun r112 h113 => if r107 = r112 then (f_L_law_1052 N xs L (f_L_law_18 N xs L n) h113 v0 v1 v2 v3) else (some (0 : Int32)))) else none) else none) else none)) else none) else none) else none) else if (xs v3.toNatClampNeg) &&& (31 : Int32) = (9 : Int32) then (if 0 ≤ v3 + (1 : Int32) ∧ (v3 + (1 : Int32)).toNatClampNeg < L then (if 0 ≤ v3 + (2 : Int32) ∧ (v3 + (2 : Int32)).toNatClampNeg < L then (b2 (f_X7_rain h v1 (xs (v3 + (1 : Int32)).toNatClampNeg) (xs (v3 + (2 : Int32)).toNatClampNeg)) (fun r118 h119 => if 0 ≤ v3 + (1 : Int32) ∧ (v3 + (1 : Int32)).toNatClampNeg < L then (if 0 ≤ v3 + (2 : Int32) ∧ (v3 + (2 : Int32)).toNatClampNeg < L then (b2 (f_X8_rain h119 v2 (xs (v3 + (1 : Int32)).toNatClampNeg) (xs (v3 + (2 : Int32)).toNatClampNeg)) (fun r122 h123 => if r118 = r122 then (f_L_law_1052 N xs L (f_L_law_18 N xs L n) h123 v0 v1 v2 v3) else (some (0 : Int32)))) else none) else none)) else none) else none) else if (xs v3.toNatClampNeg) &&& (31 : Int32) = (10 : Int32) then (if 0 ≤ v3 + (1 : Int32) ∧ (v3 + (1 : Int32)).toNatClampNeg < L then (if 0 ≤ v3 + (2 : Int32) ∧ (v3 + (2 : Int32)).toNatClampNeg < L then (if xs (v3 + (2 : Int32)).toNatClampNeg = 0 then (f_L_law_499 N xs L (f_L_law_18 N xs L n) h v0 v1 v2 v3 (0 : Int32) (xs (v3 + (1 : Int32)).toNatClampNeg) v1) else (f_L_law_499 N xs L (f_L_law_18 N xs L n) h v0 v1 v2 v3 (1 : Int32) (xs (v3 + (1 : Int32)).toNatClampNeg) v1)) else none) else none) else if (xs v3.toNatClampNeg) &&& (31 : Int32) = (11 : Int32) then (if 0 ≤ v3 + (1 : Int32) ∧ (v3 + (1 : Int32)).toNatClampNeg < L then (b2 (f_X7_run N h v1 (xs (v3 + (1 : Int32)).toNatClampNeg)) (fun r131 h132 => if 0 ≤ v3 + (1 : Int32) ∧ (v3 + (1 : Int32)).toNatClampNeg < L then (b2 (f_X8_run N h132 v2 (xs (v3 + (1 : Int32)).toNatClampNeg)) (fun r134 h135 => if r131 = r134 then (f_L_law_1052 N xs L (f_L_law_18 N xs L n) h135 v0 v1 v2 v3) else (some (0 : Int32)))) else none)) else none) else if (xs v3.toNatClampNeg) &&& (31 : Int32) = (12 : Int32) then (if 0 ≤ v3 + (1 : Int32) ∧ (v3 + (1 : Int32)).toNatClampNeg < L then (if 0 ≤ v3 + (2 : Int32) ∧ (v3 + (2 : Int32)).toNatClampNeg < L then (b2 (f_X7_would N h v1 (xs (v3 + (1 : Int32)).toNatClampNeg) (xs (v3 + (2 : Int32)).toNatClampNeg)) (fun r140 h141 => if 0 ≤ v3 + (1 : Int32) ∧ (v3 + (1 : Int32)).toNatClampNeg < L then (if 0 ≤ v3 + (2 : Int32) ∧ (v3 + (2 : Int32)).toNatClampNeg < L then (b2 (f_X8_would N h141 v2 (xs (v3 + (1 : Int32)).toNatClampNeg) (xs (v3 + (2 : Int32)).toNatClampNeg)) (fun r144 h145 => if r140 = r144 then (f_L_law_1052 N xs L (f_L_law_18 N xs L n) h145 v0 v1 v2 v3) else (some (0 : Int32)))) else none) else none)) else none) else none) else if (xs v3.toNatClampNeg) &&& (31 : Int32) = (13 : Int32) then (b2 (f_X7_can N h v1) (fun r148 h149 => b2 (f_X8_can N h149 v2) (fun r150 h151 => if r148 = r150 then (f_L_law_1052 N xs L (f_L_law_18 N xs L n) h151 v0 v1 v2 v3) else (some (0 : Int32))))) else if (xs v3.toNatClampNeg) &&& (31 : Int32) = (14 : Int32) then (if 0 ≤ v3 + (1 : Int32) ∧ (v3 + (1 : Int32)).toNatClampNeg < L then (if 0 ≤ v3 + (2 : Int32) ∧ (v3 + (2 : Int32)).toNatClampNeg < L then (if xs (v3 + (2 : Int32)).toNatClampNeg = 0 then (f_L_law_617 N xs L (f_L_law_18 N xs L n) h v0 v1 v2 v3 (0 : Int32) (xs (v3 + (1 : Int32)).toNatClampNeg) v1) else (f_L_law_617 N xs L (f_L_law_18 N xs L n) h v0 v1 v2 v3 (1 : Int32) (xs (v3 + (1 : Int32)).toNatClampNeg) v1)) else none) else none) else if (xs v3.toNatClampNeg) &&& (31 : Int32) = (15 : Int32) then (if 0 ≤ v3 + (1 : Int32) ∧ (v3 + (1 : Int32)).toNatClampNeg < L then (if 0 ≤ v3 + (2 : Int32) ∧ (v3 + (2 : Int32)).toNatClampNeg < L then (if xs (v3 + (2 : Int32)).toNatClampNeg = 0 then (f_L_law_666 N xs L (f_L_law_18 N xs L n) h v0 v1 v2 v3 (0 : Int32) (xs (v3 + (1 : Int32)).toNatClampNeg) v1) else (f_L_law_666 N xs L (f_L_law_18 N xs L n) h v0 v1 v2 v3 (1 : Int32) (xs (v3 + (1 : Int32)).toNatClampNeg) v1)) else none) else none) else if (xs v3.toNatClampNeg) &&& (31 : Int32) = (16 : Int32) then (if 0 ≤ v3 + (1 : Int32) ∧ (v3 + (1 : Int32)).toNatClampNeg < L then (if 0 ≤ v3 + (2 : Int32) ∧ (v3 + (2 : Int32)).toNatClampNeg < L then (b2 (f_X7_drought N h v1 (xs (v3 + (1 : Int32)).toNatClampNeg) (xs (v3 + (2 : Int32)).toNatClampNeg)) (fun r164 h165 => if 0 ≤ v3 + (1 : Int32) ∧ (v3 + (1 : Int32)).toNatClampNeg < L then (if 0 ≤ v3 + (2 : Int32) ∧ (v3 + (2 : Int32)).toNatClampNeg < L then (b2 (f_X8_drought N h165 v2 (xs (v3 + (1 : Int32)).toNatClampNeg) (xs (v3 + (2 : Int32)).toNatClampNeg)) (fun r168 h169 => if r164 = r168 then (f_L_law_1052 N xs L (f_L_law_18 N xs L n) h169 v0 v1 v2 v3) else (some (0 : Int32)))) else none) else none)) else none) else none) else if (xs v3.toNatClampNeg) &&& (31 : Int32) = (17 : Int32) then (if 0 ≤ v3 + (1 : Int32) ∧ (v3 + (1 : Int32)).toNatClampNeg < L then (Option.bind (f_X7_pass N h v1 (xs (v3 + (1 : Int32)).toNatClampNeg)) (fun r173 => if 0 ≤ v3 + (1 : Int32) ∧ (v3 + (1 : Int32)).toNatClampNeg < L then (Option.bind (f_X8_pass N h v2 (xs (v3 + (1 : Int32)).toNatClampNeg)) (fun r175 => if r173 = r175 then (f_L_law_1052 N xs L (f_L_law_18 N xs L n) h v0 v1 v2 v3) else (some (0 : Int32)))) else none)) else none) else if (xs v3.toNatClampNeg) &&& (31 : Int32) = (18 : Int32) then (Option.bind (f_X7_worst N h v1) (fun r178 => Option.bind (f_X8_worst N h v2) (fun r179 => if r178 = r179 then (f_L_law_1052 N xs L (f_L_law_18 N xs L n) h v0 v1 v2 v3) else (some (0 : Int32))))) else if (xs v3.toNatClampNeg) &&& (31 : Int32) = (19 : Int32) then (if 0 ≤ v3 + (1 : Int32) ∧ (v3 + (1 : Int32)).toNatClampNeg < L then (if 0 ≤ v3 + (2 : Int32) ∧ (v3 + (2 : Int32)).toNatClampNeg < L then (b2 (f_X7_seen h v1 (xs (v3 + (1 : Int32)).toNatClampNeg) (xs (v3 + (2 : Int32)).toNatClampNeg)) (fun r184 h185 => if 0 ≤ v3 + (1 : Int32) ∧ (v3 + (1 : Int32)).toNatClampNeg < L then (if 0 ≤ v3 + (2 : Int32) ∧ (v3 + (2 : Int32)).toNatClampNeg < L then (b2 (f_X8_seen h185 v2 (xs (v3 + (1 : Int32)).toNatClampNeg) (xs (v3 + (2 : Int32)).toNatClampNeg)) (fun r188 h189 => if r184 = r188 then (f_L_law_1052 N xs L (f_L_law_18 N xs L n) h189 v0 v1 v2 v3) else (some (0 : Int32)))) else none) else none)) else none) else none) else if (xs v3.toNatClampNeg) &&& (31 : Int32) = (20 : Int32) then (if 0 ≤ v3 + (1 : Int32) ∧ (v3 + (1 : Int32)).toNatClampNeg < L then (if 0 ≤ v3 + (2 : Int32) ∧ (v3 + (2 : Int32)).toNatClampNeg < L then (b2 (f_X7_went N h v1 (xs (v3 + (1 : Int32)).toNatClampNeg) (xs (v3 + (2 : Int32)).toNatClampNeg)) (fun r194 h195 => if 0 ≤ v3 + (1 : Int32) ∧ (v3 + (1 : Int32)).toNatClampNeg < L then (if 0 ≤ v3 + (2 : Int32) ∧ (v3 + (2 : Int32)).toNatClampNeg < L then (b2 (f_X8_went N h195 v2 (xs (v3 + (1 : Int32)).toNatClampNeg) (xs (v3 + (2 : Int32)).toNatClampNeg)) (fun r198 h199 => if r194 = r198 then (f_L_law_1052 N xs L (f_L_law_18 N xs L n) h199 v0 v1 v2 v3) else (some (0 : Int32)))) else none) else none)) else none) else none) else if (xs v3.toNatClampNeg) &&& (31 : Int32) = (21 : Int32) then (if 0 ≤ v3 + (1 : Int32) ∧ (v3 + (1 : Int32)).toNatClampNeg < L then (if 0 ≤ v3 + (2 : Int32) ∧ (v3 + (2 : Int32)).toNatClampNeg < L then (if 0 ≤ v3 + (3 : Int32) ∧ (v3 + (3 : Int32)).toNatClampNeg < L then (b2 (f_X7_book h v1 (xs (v3 + (1 : Int32)).toNatClampNeg) (xs (v3 + (2 : Int32)).toNatClampNeg) (xs (v3 + (3 : Int32)).toNatClampNeg)) (fun r205 h206 => if 0 ≤ v3 + (1 : Int32) ∧ (v3 + (1 : Int32)).toNatClampNeg < L then (if 0 ≤ v3 + (2 : Int32) ∧ (v3 + (2 : Int32)).toNatClampNeg < L then (if 0 ≤ v3 + (3 : Int32) ∧ (v3 + (3 : Int32)).toNatClampNeg < L then (b2 (f_X8_book h206 v2 (xs (v3 + (1 : Int32)).toNatClampNeg) (xs (v3 + (2 : Int32)).toNatClampNeg) (xs (v3 + (3 : Int32)).toNatClampNeg)) (fun r210 h211 => if r205 = r210 then (f_L_law_1052 N xs L (f_L_law_18 N xs L n) h211 v0 v1 v2 v3) else (some (0 : Int32)))) else none) else none) else none)) else none) else none) else none) else if (xs v3.toNatClampNeg) &&& (31 : Int32) = (22 : Int32) then (if 0 ≤ v3 + (1 : Int32) ∧ (v3 + (1 : Int32)).toNatClampNeg < L then (b2 (f_X7_smuggled N h v1 (xs (v3 + (1 : Int32)).toNatClampNeg)) (fun r215 h216 => if 0 ≤ v3 + (1 : Int32) ∧ (v3 + (1 : Int32)).toNatClampNeg < L then (b2 (f_X8_smuggled N h216 v2 (xs (v3 + (1 : Int32)).toNatClampNeg)) (fun r218 h219 => if r215 = r218 then (f_L_law_1052 N xs L (f_L_law_18 N xs L n) h219 v0 v1 v2 v3) else (some (0 : Int32)))) else none)) else none) else if (xs v3.toNatClampNeg) &&& (31 : Int32) = (23 : Int32) then (if 0 ≤ v3 + (1 : Int32) ∧ (v3 + (1 : Int32)).toNatClampNeg < L then (b2 (f_X7_seed h v1 (xs (v3 + (1 : Int32)).toNatClampNeg)) (fun r223 h224 => if 0 ≤ v3 + (1 : Int32) ∧ (v3 + (1 : Int32)).toNatClampNeg < L then (b2 (f_X8_seed h224 v2 (xs (v3 + (1 : Int32)).toNatClampNeg)) (fun r226 h227 => if r223 = r226 then (f_L_law_1052 N xs L (f_L_law_18 N xs L n) h227 v0 v1 v2 v3) else (some (0 : Int32)))) else none)) else none) else if (xs v3.toNatClampNeg) &&& (31 : Int32) = (24 : Int32) then (if 0 ≤ v3 + (1 : Int32) ∧ (v3 + (1 : Int32)).toNatClampNeg < L then (if 0 ≤ v3 + (2 : Int32) ∧ (v3 + (2 : Int32)).toNatClampNeg < L then (if 0 ≤ v3 + (3 : Int32) ∧ (v3 + (3 : Int32)).toNatClampNeg < L then (b2 (f_X7_seasons N h v1 (xs (v3 + (1 : Int32)).toNatClampNeg) (xs (v3 + (2 : Int32)).toNatClampNeg) (xs (v3 + (3 : Int32)).toNatClampNeg)) (fun r233 h234 => if 0 ≤ v3 + (1 : Int32) ∧ (v3 + (1 : Int32)).toNatClampNeg < L then (if 0 ≤ v3 + (2 : Int32) ∧ (v3 + (2 : Int32)).toNatClampNeg < L then (if 0 ≤ v3 + (3 : Int32) ∧ (v3 + (3 : Int32)).toNatClampNeg < L then (b2 (f_X8_seasons N h234 v2 (xs (v3 + (1 : Int32)).toNatClampNeg) (xs (v3 + (2 : Int32)).toNatClampNeg) (xs (v3 + (3 : Int32)).toNatClampNeg)) (fun r238 h239 => if r233 = r238 then (f_L_law_1052 N xs L (f_L_law_18 N xs L n) h239 v0 v1 v2 v3) else (some (0 : Int32)))) else none) else none) else none)) else none) else none) else none) else if (xs v3.toNatClampNeg) &&& (31 : Int32) = (25 : Int32) then (if 0 ≤ v3 + (1 : Int32) ∧ (v3 + (1 : Int32)).toNatClampNeg < L then (Option.bind (f_X7_count N h v1 (xs (v3 + (1 : Int32)).toNatClampNeg)) (fun r243 => if 0 ≤ v3 + (1 : Int32) ∧ (v3 + (1 : Int32)).toNatClampNeg < L then (Option.bind (f_X8_count N h v2 (xs (v3 + (1 : Int32)).toNatClampNeg)) (fun r245 => if r243 = r245 then (f_L_law_1052 N xs L (f_L_law_18 N xs L n) h v0 v1 v2 v3) else (some (0 : Int32)))) else none)) else none) else if (xs v3.toNatClampNeg) &&& (31 : Int32) = (26 : Int32) then (if 0 ≤ v3 + (1 : Int32) ∧ (v3 + (1 : Int32)).toNatClampNeg < L then (b2 (f_X7_image h v1 (xs (v3 + (1 : Int32)).toNatClampNeg)) (fun r249 h250 => if 0 ≤ v3 + (1 : Int32) ∧ (v3 + (1 : Int32)).toNatClampNeg < L then (b2 (f_X8_image N h250 v2 (xs (v3 + (1 : Int32)).toNatClampNeg)) (fun r252 h253 => if r249 = r252 then (f_L_law_1052 N xs L (f_L_law_18 N xs L n) h253 v0 v1 v2 v3) else (some (0 : Int32)))) else none)) else none) else if (xs v3.toNatClampNeg) &&& (31 : Int32) = (27 : Int32) then (if 0 ≤ v3 + (1 : Int32) ∧ (v3 + (1 : Int32)).toNatClampNeg < L then (b2 (f_X7_back h v1 (xs (v3 + (1 : Int32)).toNatClampNeg)) (fun r257 h258 => if 0 ≤ v3 + (1 : Int32) ∧ (v3 + (1 : Int32)).toNatClampNeg < L then (b2 (f_X8_back N h258 v2 (xs (v3 + (1 : Int32)).toNatClampNeg)) (fun r260 h261 => if r257 = r260 then (f_L_law_1052 N xs L (f_L_law_18 N xs L n) h261 v0 v1 v2 v3) else (some (0 : Int32)))) else none)) else none) else (f_L_law_1052 N xs L (f_L_law_18 N xs L n) h v0 v1 v2 v3)) else none)
set_option maxHeartbeats 8000000 in
set_option maxRecDepth 100000 in
theorem p_L_law_18 {X : XT} {xs : Nat → Int32} {L : Nat} {b : Nat} (hLX : LX X L xs b) (hlw : LW X b) (C : CX X code "WaterStairLaw" 4 (some .boolean) room_1) {N : Nat} : ∀ (n : Nat), n ≤ 600 → ∀ (h : Hp) (v0 : Nat) (v1 : Nat) (v2 : Nat) (v3 : Int32), f_L_law_18 N xs L n h v0 v1 v2 v3 = some 1 → V X (cL n) (sL n) h 18 [(0, vR 19 (some v0)), (1, vR 7 (some v1)), (2, vR 8 (some v2)), (3, vI v3)] [] := by
  intro n
  induction n with
  | zero =>
    intro _ h v0 v1 v2 v3 hf
    have hf : (none : Option Int32) = some _ := hf
    cases hf
  | succ n ih =>
    intro hn h v0 v1 v2 v3 hf
    rw [f_L_law_18] at hf
    refine V_iload_n C dL_law_18 rfl 3 rfl ?_
    refine V_aload_n C dL_law_19 rfl 0 rfl ?_
    refine V_slen C hLX dL_law_20 ?_
    refine V_bipush (v := (6 : Int32)) C dL_law_21 (by decide) ?_
    refine V_isub C dL_law_23 ?_
    refine V_icmp_gt C 1058 dL_law_24 (by decide) (fun c29 => ?_) (fun c29 => ?_)
    · have hf := i_t c29 hf
      refine V_iconst (v := (1 : Int32)) C dL_law_1058 (by decide) ?_
      exact V_lawret C hlw (Nat.le_trans (cL_le _) (by decide)) (Nat.le_trans (sL_le _) (by decide)) dL_law_1059
    · have hf := i_f c29 hf
      refine V_aload_n C dL_law_27 rfl 0 rfl ?_
      refine V_iload_n C dL_law_28 rfl 3 rfl ?_
      obtain ⟨g30, hf⟩ := o_if hf
      refine V_sld C hLX (vp_g g30) dL_law_29 ?_
      refine V_bipush (v := (31 : Int32)) C dL_law_30 (by decide) ?_
      refine V_iand C dL_law_32 ?_
      by_cases c31 : (xs v3.toNatClampNeg) &&& (31 : Int32) = (0 : Int32)
      · have hf := i_t c31 hf
        refine V_tabIn (off := 127) C 160 dL_law_33 (by rw [c31]; decide) (by rw [c31]; decide) (by rw [c31]; decide) (by decide) ?_
        refine V_aload_n C dL_law_160 rfl 1 rfl ?_
        refine V_aload_n C dL_law_161 rfl 0 rfl ?_
        refine V_iload_n C dL_law_162 rfl 3 rfl ?_
        refine V_iconst (v := (1 : Int32)) C dL_law_163 (by decide) ?_
        refine V_iadd C dL_law_164 ?_
        obtain ⟨g32, hf⟩ := o_if hf
        refine V_sld C hLX (vp_g g32) dL_law_165 ?_
        refine V_aload_n C dL_law_166 rfl 0 rfl ?_
        refine V_iload_n C dL_law_167 rfl 3 rfl ?_
        refine V_iconst (v := (2 : Int32)) C dL_law_168 (by decide) ?_
        refine V_iadd C dL_law_169 ?_
        obtain ⟨g33, hf⟩ := o_if hf
        refine V_sld C hLX (vp_g g33) dL_law_170 ?_
        refine V_aload_n C dL_law_171 rfl 0 rfl ?_
        refine V_iload_n C dL_law_172 rfl 3 rfl ?_
        refine V_iconst (v := (3 : Int32)) C dL_law_173 (by decide) ?_
        refine V_iadd C dL_law_174 ?_
        obtain ⟨g34, hf⟩ := o_if hf
        refine V_sld C hLX (vp_g g34) dL_law_175 ?_
        refine V_aload_n C dL_law_176 rfl 0 rfl ?_
        refine V_iload_n C dL_law_177 rfl 3 rfl ?_
        refine V_iconst (v := (4 : Int32)) C dL_law_178 (by decide) ?_
        refine V_iadd C dL_law_179 ?_
        obtain ⟨g35, hf⟩ := o_if hf
        refine V_sld C hLX (vp_g g35) dL_law_180 ?_
        refine V_aload_n C dL_law_181 rfl 0 rfl ?_
        refine V_iload_n C dL_law_182 rfl 3 rfl ?_
        refine V_iconst (v := (5 : Int32)) C dL_law_183 (by decide) ?_
        refine V_iadd C dL_law_184 ?_
        obtain ⟨g36, hf⟩ := o_if hf
        refine V_sld C hLX (vp_g g36) dL_law_185 ?_
        obtain ⟨r37, h38, er37, hf⟩ := o_b2 hf
        refine V_callV (as := [vI (xs (v3 + (1 : Int32)).toNatClampNeg), vI (xs (v3 + (2 : Int32)).toNatClampNeg), vI (xs (v3 + (3 : Int32)).toNatClampNeg), vI (xs (v3 + (4 : Int32)).toNatClampNeg), vI (xs (v3 + (5 : Int32)).toNatClampNeg)]) (st := []) C ml_L_13 fx7 (ct_X7_feed er37) rfl ⟨by decide, by decide, Nat.le_trans (Nat.add_le_add (cL_le _) (by decide : rmX7_feed.cells ≤ 20)) (by decide), Nat.le_trans (Nat.add_le_add (sL_le _) (by decide : rmX7_feed.slots ≤ 1000)) (by decide)⟩ (Nat.le_of_ble_eq_true rfl) rfl dL_law_186 (cs' := (cL (n + 1))) (sl' := (sL (n + 1))) rfl rfl ?_
        refine V_aload_n C dL_law_189 rfl 2 rfl ?_
        refine V_aload_n C dL_law_190 rfl 0 rfl ?_
        refine V_iload_n C dL_law_191 rfl 3 rfl ?_
        refine V_iconst (v := (1 : Int32)) C dL_law_192 (by decide) ?_
        refine V_iadd C dL_law_193 ?_
        obtain ⟨g39, hf⟩ := o_if hf
        refine V_sld C hLX (vp_g g39) dL_law_194 ?_
        refine V_aload_n C dL_law_195 rfl 0 rfl ?_
        refine V_iload_n C dL_law_196 rfl 3 rfl ?_
        refine V_iconst (v := (2 : Int32)) C dL_law_197 (by decide) ?_
        refine V_iadd C dL_law_198 ?_
        obtain ⟨g40, hf⟩ := o_if hf
        refine V_sld C hLX (vp_g g40) dL_law_199 ?_
        refine V_aload_n C dL_law_200 rfl 0 rfl ?_
        refine V_iload_n C dL_law_201 rfl 3 rfl ?_
        refine V_iconst (v := (3 : Int32)) C dL_law_202 (by decide) ?_
        refine V_iadd C dL_law_203 ?_
        obtain ⟨g41, hf⟩ := o_if hf
        refine V_sld C hLX (vp_g g41) dL_law_204 ?_
        refine V_aload_n C dL_law_205 rfl 0 rfl ?_
        refine V_iload_n C dL_law_206 rfl 3 rfl ?_
        refine V_iconst (v := (4 : Int32)) C dL_law_207 (by decide) ?_
        refine V_iadd C dL_law_208 ?_
        obtain ⟨g42, hf⟩ := o_if hf
        refine V_sld C hLX (vp_g g42) dL_law_209 ?_
        refine V_aload_n C dL_law_210 rfl 0 rfl ?_
        refine V_iload_n C dL_law_211 rfl 3 rfl ?_
        refine V_iconst (v := (5 : Int32)) C dL_law_212 (by decide) ?_
        refine V_iadd C dL_law_213 ?_
        obtain ⟨g43, hf⟩ := o_if hf
        refine V_sld C hLX (vp_g g43) dL_law_214 ?_
        obtain ⟨r44, h45, er44, hf⟩ := o_b2 hf
        refine V_callV (as := [vI (xs (v3 + (1 : Int32)).toNatClampNeg), vI (xs (v3 + (2 : Int32)).toNatClampNeg), vI (xs (v3 + (3 : Int32)).toNatClampNeg), vI (xs (v3 + (4 : Int32)).toNatClampNeg), vI (xs (v3 + (5 : Int32)).toNatClampNeg)]) (st := [vI r37]) C ml_L_17 fx8 (ct_X8_feed er44) rfl ⟨by decide, by decide, Nat.le_trans (Nat.add_le_add (cL_le _) (by decide : rmX8_feed.cells ≤ 20)) (by decide), Nat.le_trans (Nat.add_le_add (sL_le _) (by decide : rmX8_feed.slots ≤ 1000)) (by decide)⟩ (Nat.le_of_ble_eq_true rfl) rfl dL_law_215 (cs' := (cL (n + 1))) (sl' := (sL (n + 1))) rfl rfl ?_
        refine V_icmp_eq C 1052 dL_law_218 (by decide) (fun c46 => ?_) (fun c46 => ?_)
        · have hf := i_t c46 hf
          refine V_wide (cs' := (cL n)) (sl' := (sL n)) (cL_st hn (by decide : 0 ≤ 12)) (sL_st hn (by decide : 0 ≤ 473)) ?_
          refine V_sub (lv' := [(0, vR 19 (some v0)), (1, vR 7 (some v1)), (2, vR 8 (some v2)), (3, vI v3)]) [0, 1, 2, 3] rfl ?_
          exact p_L_law_1052 hLX hlw hn C (ih (Nat.le_of_lt hn)) hf
        · have hf := i_f c46 hf
          refine V_iconst (v := (0 : Int32)) C dL_law_221 (by decide) ?_
          exact absurd (Option.some.inj hf) (by decide)
      have hf := i_f c31 hf
      by_cases c47 : (xs v3.toNatClampNeg) &&& (31 : Int32) = (1 : Int32)
      · have hf := i_t c47 hf
        refine V_tabIn (off := 190) C 223 dL_law_33 (by rw [c47]; decide) (by rw [c47]; decide) (by rw [c47]; decide) (by decide) ?_
        refine V_aload_n C dL_law_223 rfl 1 rfl ?_
        refine V_aload_n C dL_law_224 rfl 0 rfl ?_
        refine V_iload_n C dL_law_225 rfl 3 rfl ?_
        refine V_iconst (v := (1 : Int32)) C dL_law_226 (by decide) ?_
        refine V_iadd C dL_law_227 ?_
        obtain ⟨g48, hf⟩ := o_if hf
        refine V_sld C hLX (vp_g g48) dL_law_228 ?_
        obtain ⟨r49, h50, er49, hf⟩ := o_b2 hf
        refine V_callV (as := [vI (xs (v3 + (1 : Int32)).toNatClampNeg)]) (st := []) C ml_L_18 fx7 (ct_X7_end er49) rfl ⟨by decide, by decide, Nat.le_trans (Nat.add_le_add (cL_le _) (by decide : rmX7_end.cells ≤ 20)) (by decide), Nat.le_trans (Nat.add_le_add (sL_le _) (by decide : rmX7_end.slots ≤ 1000)) (by decide)⟩ (Nat.le_of_ble_eq_true rfl) rfl dL_law_229 (cs' := (cL (n + 1))) (sl' := (sL (n + 1))) rfl rfl ?_
        refine V_aload_n C dL_law_232 rfl 2 rfl ?_
        refine V_aload_n C dL_law_233 rfl 0 rfl ?_
        refine V_iload_n C dL_law_234 rfl 3 rfl ?_
        refine V_iconst (v := (1 : Int32)) C dL_law_235 (by decide) ?_
        refine V_iadd C dL_law_236 ?_
        obtain ⟨g51, hf⟩ := o_if hf
        refine V_sld C hLX (vp_g g51) dL_law_237 ?_
        obtain ⟨r52, h53, er52, hf⟩ := o_b2 hf
        refine V_callV (as := [vI (xs (v3 + (1 : Int32)).toNatClampNeg)]) (st := [vI r49]) C ml_L_22 fx8 (ct_X8_end er52) rfl ⟨by decide, by decide, Nat.le_trans (Nat.add_le_add (cL_le _) (by decide : rmX8_end.cells ≤ 20)) (by decide), Nat.le_trans (Nat.add_le_add (sL_le _) (by decide : rmX8_end.slots ≤ 1000)) (by decide)⟩ (Nat.le_of_ble_eq_true rfl) rfl dL_law_238 (cs' := (cL (n + 1))) (sl' := (sL (n + 1))) rfl rfl ?_
        refine V_icmp_eq C 1052 dL_law_241 (by decide) (fun c54 => ?_) (fun c54 => ?_)
        · have hf := i_t c54 hf
          refine V_wide (cs' := (cL n)) (sl' := (sL n)) (cL_st hn (by decide : 0 ≤ 12)) (sL_st hn (by decide : 0 ≤ 473)) ?_
          refine V_sub (lv' := [(0, vR 19 (some v0)), (1, vR 7 (some v1)), (2, vR 8 (some v2)), (3, vI v3)]) [0, 1, 2, 3] rfl ?_
          exact p_L_law_1052 hLX hlw hn C (ih (Nat.le_of_lt hn)) hf
        · have hf := i_f c54 hf
          refine V_iconst (v := (0 : Int32)) C dL_law_244 (by decide) ?_
          exact absurd (Option.some.inj hf) (by decide)
      have hf := i_f c47 hf
      by_cases c55 : (xs v3.toNatClampNeg) &&& (31 : Int32) = (2 : Int32)
      · have hf := i_t c55 hf
        refine V_tabIn (off := 213) C 246 dL_law_33 (by rw [c55]; decide) (by rw [c55]; decide) (by rw [c55]; decide) (by decide) ?_
        refine V_aload_n C dL_law_246 rfl 1 rfl ?_
        obtain ⟨r56, h57, er56, hf⟩ := o_b2 hf
        refine V_callV (as := []) (st := []) C ml_L_23 fx7 (ct_X7_stair er56) rfl ⟨by decide, by decide, Nat.le_trans (Nat.add_le_add (cL_le _) (by decide : rmX7_stair.cells ≤ 20)) (by decide), Nat.le_trans (Nat.add_le_add (sL_le _) (by decide : rmX7_stair.slots ≤ 1000)) (by decide)⟩ (Nat.le_of_ble_eq_true rfl) rfl dL_law_247 (cs' := (cL (n + 1))) (sl' := (sL (n + 1))) rfl rfl ?_
        refine V_aload_n C dL_law_250 rfl 2 rfl ?_
        obtain ⟨r58, h59, er58, hf⟩ := o_b2 hf
        refine V_callV (as := []) (st := [vI r56]) C ml_L_27 fx8 (ct_X8_stair er58) rfl ⟨by decide, by decide, Nat.le_trans (Nat.add_le_add (cL_le _) (by decide : rmX8_stair.cells ≤ 20)) (by decide), Nat.le_trans (Nat.add_le_add (sL_le _) (by decide : rmX8_stair.slots ≤ 1000)) (by decide)⟩ (Nat.le_of_ble_eq_true rfl) rfl dL_law_251 (cs' := (cL (n + 1))) (sl' := (sL (n + 1))) rfl rfl ?_
        refine V_icmp_eq C 1052 dL_law_254 (by decide) (fun c60 => ?_) (fun c60 => ?_)
        · have hf := i_t c60 hf
          refine V_wide (cs' := (cL n)) (sl' := (sL n)) (cL_st hn (by decide : 0 ≤ 12)) (sL_st hn (by decide : 0 ≤ 473)) ?_
          refine V_sub (lv' := [(0, vR 19 (some v0)), (1, vR 7 (some v1)), (2, vR 8 (some v2)), (3, vI v3)]) [0, 1, 2, 3] rfl ?_
          exact p_L_law_1052 hLX hlw hn C (ih (Nat.le_of_lt hn)) hf
        · have hf := i_f c60 hf
          refine V_iconst (v := (0 : Int32)) C dL_law_257 (by decide) ?_
          exact absurd (Option.some.inj hf) (by decide)
      have hf := i_f c55 hf
      by_cases c61 : (xs v3.toNatClampNeg) &&& (31 : Int32) = (3 : Int32)
      · have hf := i_t c61 hf
        refine V_tabIn (off := 226) C 259 dL_law_33 (by rw [c61]; decide) (by rw [c61]; decide) (by rw [c61]; decide) (by decide) ?_
        refine V_aload_n C dL_law_259 rfl 1 rfl ?_
        obtain ⟨r62, h63, er62, hf⟩ := o_b2 hf
        refine V_callV (as := []) (st := []) C ml_L_28 fx7 (ct_X7_rule er62) rfl ⟨by decide, by decide, Nat.le_trans (Nat.add_le_add (cL_le _) (by decide : rmX7_rule.cells ≤ 20)) (by decide), Nat.le_trans (Nat.add_le_add (sL_le _) (by decide : rmX7_rule.slots ≤ 1000)) (by decide)⟩ (Nat.le_of_ble_eq_true rfl) rfl dL_law_260 (cs' := ((cL (n + 1)) + 4)) (sl' := ((sL (n + 1)) + 473)) rfl rfl ?_
        refine V_aload_n C dL_law_263 rfl 2 rfl ?_
        obtain ⟨r64, h65, er64, hf⟩ := o_b2 hf
        refine V_callV (as := []) (st := [vI r62]) C ml_L_31 fx8 (ct_X8_rule er64) rfl ⟨by decide, by decide, Nat.le_trans (Nat.add_le_add (Nat.add_le_add_right (cL_le _) 4) (by decide : rmX8_rule.cells ≤ 20)) (by decide), Nat.le_trans (Nat.add_le_add (Nat.add_le_add_right (sL_le _) 473) (by decide : rmX8_rule.slots ≤ 1000)) (by decide)⟩ (Nat.le_of_ble_eq_true rfl) rfl dL_law_264 (cs' := ((cL (n + 1)) + 4)) (sl' := ((sL (n + 1)) + 473)) rfl rfl ?_
        refine V_icmp_eq C 1052 dL_law_267 (by decide) (fun c66 => ?_) (fun c66 => ?_)
        · have hf := i_t c66 hf
          refine V_wide (cs' := (cL n)) (sl' := (sL n)) (cL_st hn (by decide : 4 ≤ 12)) (sL_st hn (by decide : 473 ≤ 473)) ?_
          refine V_sub (lv' := [(0, vR 19 (some v0)), (1, vR 7 (some v1)), (2, vR 8 (some v2)), (3, vI v3)]) [0, 1, 2, 3] rfl ?_
          exact p_L_law_1052 hLX hlw hn C (ih (Nat.le_of_lt hn)) hf
        · have hf := i_f c66 hf
          refine V_iconst (v := (0 : Int32)) C dL_law_270 (by decide) ?_
          exact absurd (Option.some.inj hf) (by decide)
      have hf := i_f c61 hf
      by_cases c67 : (xs v3.toNatClampNeg) &&& (31 : Int32) = (4 : Int32)
      · have hf := i_t c67 hf
        refine V_tabIn (off := 239) C 272 dL_law_33 (by rw [c67]; decide) (by rw [c67]; decide) (by rw [c67]; decide) (by decide) ?_
        refine V_aload_n C dL_law_272 rfl 1 rfl ?_
        refine V_aload_n C dL_law_273 rfl 0 rfl ?_
        refine V_iload_n C dL_law_274 rfl 3 rfl ?_
        refine V_iconst (v := (1 : Int32)) C dL_law_275 (by decide) ?_
        refine V_iadd C dL_law_276 ?_
        obtain ⟨g68, hf⟩ := o_if hf
        refine V_sld C hLX (vp_g g68) dL_law_277 ?_
        obtain ⟨r69, h70, er69, hf⟩ := o_b2 hf
        refine V_callV (as := [vI (xs (v3 + (1 : Int32)).toNatClampNeg)]) (st := []) C ml_L_32 fx7 (ct_X7_force er69) rfl ⟨by decide, by decide, Nat.le_trans (Nat.add_le_add (cL_le _) (by decide : rmX7_force.cells ≤ 20)) (by decide), Nat.le_trans (Nat.add_le_add (sL_le _) (by decide : rmX7_force.slots ≤ 1000)) (by decide)⟩ (Nat.le_of_ble_eq_true rfl) rfl dL_law_278 (cs' := (cL (n + 1))) (sl' := (sL (n + 1))) rfl rfl ?_
        refine V_aload_n C dL_law_281 rfl 2 rfl ?_
        refine V_aload_n C dL_law_282 rfl 0 rfl ?_
        refine V_iload_n C dL_law_283 rfl 3 rfl ?_
        refine V_iconst (v := (1 : Int32)) C dL_law_284 (by decide) ?_
        refine V_iadd C dL_law_285 ?_
        obtain ⟨g71, hf⟩ := o_if hf
        refine V_sld C hLX (vp_g g71) dL_law_286 ?_
        obtain ⟨r72, h73, er72, hf⟩ := o_b2 hf
        refine V_callV (as := [vI (xs (v3 + (1 : Int32)).toNatClampNeg)]) (st := [vI r69]) C ml_L_35 fx8 (ct_X8_force er72) rfl ⟨by decide, by decide, Nat.le_trans (Nat.add_le_add (cL_le _) (by decide : rmX8_force.cells ≤ 20)) (by decide), Nat.le_trans (Nat.add_le_add (sL_le _) (by decide : rmX8_force.slots ≤ 1000)) (by decide)⟩ (Nat.le_of_ble_eq_true rfl) rfl dL_law_287 (cs' := (cL (n + 1))) (sl' := (sL (n + 1))) rfl rfl ?_
        refine V_icmp_eq C 1052 dL_law_290 (by decide) (fun c74 => ?_) (fun c74 => ?_)
        · have hf := i_t c74 hf
          refine V_wide (cs' := (cL n)) (sl' := (sL n)) (cL_st hn (by decide : 0 ≤ 12)) (sL_st hn (by decide : 0 ≤ 473)) ?_
          refine V_sub (lv' := [(0, vR 19 (some v0)), (1, vR 7 (some v1)), (2, vR 8 (some v2)), (3, vI v3)]) [0, 1, 2, 3] rfl ?_
          exact p_L_law_1052 hLX hlw hn C (ih (Nat.le_of_lt hn)) hf
        · have hf := i_f c74 hf
          refine V_iconst (v := (0 : Int32)) C dL_law_293 (by decide) ?_
          exact absurd (Option.some.inj hf) (by decide)
      have hf := i_f c67 hf
      by_cases c75 : (xs v3.toNatClampNeg) &&& (31 : Int32) = (5 : Int32)
      · have hf := i_t c75 hf
        refine V_tabIn (off := 262) C 295 dL_law_33 (by rw [c75]; decide) (by rw [c75]; decide) (by rw [c75]; decide) (by decide) ?_
        refine V_aload_n C dL_law_295 rfl 1 rfl ?_
        refine V_aload_n C dL_law_296 rfl 0 rfl ?_
        refine V_iload_n C dL_law_297 rfl 3 rfl ?_
        refine V_iconst (v := (1 : Int32)) C dL_law_298 (by decide) ?_
        refine V_iadd C dL_law_299 ?_
        obtain ⟨g76, hf⟩ := o_if hf
        refine V_sld C hLX (vp_g g76) dL_law_300 ?_
        refine V_aload_n C dL_law_301 rfl 0 rfl ?_
        refine V_iload_n C dL_law_302 rfl 3 rfl ?_
        refine V_iconst (v := (2 : Int32)) C dL_law_303 (by decide) ?_
        refine V_iadd C dL_law_304 ?_
        obtain ⟨g77, hf⟩ := o_if hf
        refine V_sld C hLX (vp_g g77) dL_law_305 ?_
        obtain ⟨r78, er78, hf⟩ := o_b hf
        refine V_callV (as := [vI (xs (v3 + (1 : Int32)).toNatClampNeg), vI (xs (v3 + (2 : Int32)).toNatClampNeg)]) (st := []) C ml_L_36 fx7 (ct_X7_level er78) rfl ⟨by decide, by decide, Nat.le_trans (Nat.add_le_add (cL_le _) (by decide : rmX7_level.cells ≤ 20)) (by decide), Nat.le_trans (Nat.add_le_add (sL_le _) (by decide : rmX7_level.slots ≤ 1000)) (by decide)⟩ (Nat.le_of_ble_eq_true rfl) rfl dL_law_306 (cs' := (cL (n + 1))) (sl' := (sL (n + 1))) rfl rfl ?_
        refine V_aload_n C dL_law_309 rfl 2 rfl ?_
        refine V_aload_n C dL_law_310 rfl 0 rfl ?_
        refine V_iload_n C dL_law_311 rfl 3 rfl ?_
        refine V_iconst (v := (1 : Int32)) C dL_law_312 (by decide) ?_
        refine V_iadd C dL_law_313 ?_
        obtain ⟨g79, hf⟩ := o_if hf
        refine V_sld C hLX (vp_g g79) dL_law_314 ?_
        refine V_aload_n C dL_law_315 rfl 0 rfl ?_
        refine V_iload_n C dL_law_316 rfl 3 rfl ?_
        refine V_iconst (v := (2 : Int32)) C dL_law_317 (by decide) ?_
        refine V_iadd C dL_law_318 ?_
        obtain ⟨g80, hf⟩ := o_if hf
        refine V_sld C hLX (vp_g g80) dL_law_319 ?_
        obtain ⟨r81, er81, hf⟩ := o_b hf
        refine V_callV (as := [vI (xs (v3 + (1 : Int32)).toNatClampNeg), vI (xs (v3 + (2 : Int32)).toNatClampNeg)]) (st := [vI r78]) C ml_L_40 fx8 (ct_X8_level er81) rfl ⟨by decide, by decide, Nat.le_trans (Nat.add_le_add (cL_le _) (by decide : rmX8_level.cells ≤ 20)) (by decide), Nat.le_trans (Nat.add_le_add (sL_le _) (by decide : rmX8_level.slots ≤ 1000)) (by decide)⟩ (Nat.le_of_ble_eq_true rfl) rfl dL_law_320 (cs' := (cL (n + 1))) (sl' := (sL (n + 1))) rfl rfl ?_
        refine V_icmp_eq C 1052 dL_law_323 (by decide) (fun c82 => ?_) (fun c82 => ?_)
        · have hf := i_t c82 hf
          refine V_wide (cs' := (cL n)) (sl' := (sL n)) (cL_st hn (by decide : 0 ≤ 12)) (sL_st hn (by decide : 0 ≤ 473)) ?_
          refine V_sub (lv' := [(0, vR 19 (some v0)), (1, vR 7 (some v1)), (2, vR 8 (some v2)), (3, vI v3)]) [0, 1, 2, 3] rfl ?_
          exact p_L_law_1052 hLX hlw hn C (ih (Nat.le_of_lt hn)) hf
        · have hf := i_f c82 hf
          refine V_iconst (v := (0 : Int32)) C dL_law_326 (by decide) ?_
          exact absurd (Option.some.inj hf) (by decide)
      have hf := i_f c75 hf
      by_cases c83 : (xs v3.toNatClampNeg) &&& (31 : Int32) = (6 : Int32)
      · have hf := i_t c83 hf
        refine V_tabIn (off := 295) C 328 dL_law_33 (by rw [c83]; decide) (by rw [c83]; decide) (by rw [c83]; decide) (by decide) ?_
        refine V_aload_n C dL_law_328 rfl 1 rfl ?_
        refine V_aload_n C dL_law_329 rfl 0 rfl ?_
        refine V_iload_n C dL_law_330 rfl 3 rfl ?_
        refine V_iconst (v := (1 : Int32)) C dL_law_331 (by decide) ?_
        refine V_iadd C dL_law_332 ?_
        obtain ⟨g84, hf⟩ := o_if hf
        refine V_sld C hLX (vp_g g84) dL_law_333 ?_
        refine V_aload_n C dL_law_334 rfl 0 rfl ?_
        refine V_iload_n C dL_law_335 rfl 3 rfl ?_
        refine V_iconst (v := (2 : Int32)) C dL_law_336 (by decide) ?_
        refine V_iadd C dL_law_337 ?_
        obtain ⟨g85, hf⟩ := o_if hf
        refine V_sld C hLX (vp_g g85) dL_law_338 ?_
        obtain ⟨r86, er86, hf⟩ := o_b hf
        refine V_callV (as := [vI (xs (v3 + (1 : Int32)).toNatClampNeg), vI (xs (v3 + (2 : Int32)).toNatClampNeg)]) (st := []) C ml_L_41 fx7 (ct_X7_barge er86) rfl ⟨by decide, by decide, Nat.le_trans (Nat.add_le_add (cL_le _) (by decide : rmX7_barge.cells ≤ 20)) (by decide), Nat.le_trans (Nat.add_le_add (sL_le _) (by decide : rmX7_barge.slots ≤ 1000)) (by decide)⟩ (Nat.le_of_ble_eq_true rfl) rfl dL_law_339 (cs' := (cL (n + 1))) (sl' := (sL (n + 1))) rfl rfl ?_
        refine V_aload_n C dL_law_342 rfl 2 rfl ?_
        refine V_aload_n C dL_law_343 rfl 0 rfl ?_
        refine V_iload_n C dL_law_344 rfl 3 rfl ?_
        refine V_iconst (v := (1 : Int32)) C dL_law_345 (by decide) ?_
        refine V_iadd C dL_law_346 ?_
        obtain ⟨g87, hf⟩ := o_if hf
        refine V_sld C hLX (vp_g g87) dL_law_347 ?_
        refine V_aload_n C dL_law_348 rfl 0 rfl ?_
        refine V_iload_n C dL_law_349 rfl 3 rfl ?_
        refine V_iconst (v := (2 : Int32)) C dL_law_350 (by decide) ?_
        refine V_iadd C dL_law_351 ?_
        obtain ⟨g88, hf⟩ := o_if hf
        refine V_sld C hLX (vp_g g88) dL_law_352 ?_
        obtain ⟨r89, er89, hf⟩ := o_b hf
        refine V_callV (as := [vI (xs (v3 + (1 : Int32)).toNatClampNeg), vI (xs (v3 + (2 : Int32)).toNatClampNeg)]) (st := [vI r86]) C ml_L_44 fx8 (ct_X8_barge er89) rfl ⟨by decide, by decide, Nat.le_trans (Nat.add_le_add (cL_le _) (by decide : rmX8_barge.cells ≤ 20)) (by decide), Nat.le_trans (Nat.add_le_add (sL_le _) (by decide : rmX8_barge.slots ≤ 1000)) (by decide)⟩ (Nat.le_of_ble_eq_true rfl) rfl dL_law_353 (cs' := (cL (n + 1))) (sl' := (sL (n + 1))) rfl rfl ?_
        refine V_icmp_eq C 1052 dL_law_356 (by decide) (fun c90 => ?_) (fun c90 => ?_)
        · have hf := i_t c90 hf
          refine V_wide (cs' := (cL n)) (sl' := (sL n)) (cL_st hn (by decide : 0 ≤ 12)) (sL_st hn (by decide : 0 ≤ 473)) ?_
          refine V_sub (lv' := [(0, vR 19 (some v0)), (1, vR 7 (some v1)), (2, vR 8 (some v2)), (3, vI v3)]) [0, 1, 2, 3] rfl ?_
          exact p_L_law_1052 hLX hlw hn C (ih (Nat.le_of_lt hn)) hf
        · have hf := i_f c90 hf
          refine V_iconst (v := (0 : Int32)) C dL_law_359 (by decide) ?_
          exact absurd (Option.some.inj hf) (by decide)
      have hf := i_f c83 hf
      by_cases c91 : (xs v3.toNatClampNeg) &&& (31 : Int32) = (7 : Int32)
      · have hf := i_t c91 hf
        refine V_tabIn (off := 328) C 361 dL_law_33 (by rw [c91]; decide) (by rw [c91]; decide) (by rw [c91]; decide) (by decide) ?_
        refine V_aload_n C dL_law_361 rfl 1 rfl ?_
        refine V_aload_n C dL_law_362 rfl 0 rfl ?_
        refine V_iload_n C dL_law_363 rfl 3 rfl ?_
        refine V_iconst (v := (1 : Int32)) C dL_law_364 (by decide) ?_
        refine V_iadd C dL_law_365 ?_
        obtain ⟨g92, hf⟩ := o_if hf
        refine V_sld C hLX (vp_g g92) dL_law_366 ?_
        refine V_aload_n C dL_law_367 rfl 0 rfl ?_
        refine V_iload_n C dL_law_368 rfl 3 rfl ?_
        refine V_iconst (v := (2 : Int32)) C dL_law_369 (by decide) ?_
        refine V_iadd C dL_law_370 ?_
        obtain ⟨g93, hf⟩ := o_if hf
        refine V_sld C hLX (vp_g g93) dL_law_371 ?_
        refine V_aload_n C dL_law_372 rfl 0 rfl ?_
        refine V_iload_n C dL_law_373 rfl 3 rfl ?_
        refine V_iconst (v := (3 : Int32)) C dL_law_374 (by decide) ?_
        refine V_iadd C dL_law_375 ?_
        obtain ⟨g94, hf⟩ := o_if hf
        refine V_sld C hLX (vp_g g94) dL_law_376 ?_
        obtain ⟨r95, h96, er95, hf⟩ := o_b2 hf
        refine V_callV (as := [vI (xs (v3 + (1 : Int32)).toNatClampNeg), vI (xs (v3 + (2 : Int32)).toNatClampNeg), vI (xs (v3 + (3 : Int32)).toNatClampNeg)]) (st := []) C ml_L_45 fx7 (ct_X7_tip er95) rfl ⟨by decide, by decide, Nat.le_trans (Nat.add_le_add (cL_le _) (by decide : rmX7_tip.cells ≤ 20)) (by decide), Nat.le_trans (Nat.add_le_add (sL_le _) (by decide : rmX7_tip.slots ≤ 1000)) (by decide)⟩ (Nat.le_of_ble_eq_true rfl) rfl dL_law_377 (cs' := (cL (n + 1))) (sl' := (sL (n + 1))) rfl rfl ?_
        refine V_aload_n C dL_law_380 rfl 2 rfl ?_
        refine V_aload_n C dL_law_381 rfl 0 rfl ?_
        refine V_iload_n C dL_law_382 rfl 3 rfl ?_
        refine V_iconst (v := (1 : Int32)) C dL_law_383 (by decide) ?_
        refine V_iadd C dL_law_384 ?_
        obtain ⟨g97, hf⟩ := o_if hf
        refine V_sld C hLX (vp_g g97) dL_law_385 ?_
        refine V_aload_n C dL_law_386 rfl 0 rfl ?_
        refine V_iload_n C dL_law_387 rfl 3 rfl ?_
        refine V_iconst (v := (2 : Int32)) C dL_law_388 (by decide) ?_
        refine V_iadd C dL_law_389 ?_
        obtain ⟨g98, hf⟩ := o_if hf
        refine V_sld C hLX (vp_g g98) dL_law_390 ?_
        refine V_aload_n C dL_law_391 rfl 0 rfl ?_
        refine V_iload_n C dL_law_392 rfl 3 rfl ?_
        refine V_iconst (v := (3 : Int32)) C dL_law_393 (by decide) ?_
        refine V_iadd C dL_law_394 ?_
        obtain ⟨g99, hf⟩ := o_if hf
        refine V_sld C hLX (vp_g g99) dL_law_395 ?_
        obtain ⟨r100, h101, er100, hf⟩ := o_b2 hf
        refine V_callV (as := [vI (xs (v3 + (1 : Int32)).toNatClampNeg), vI (xs (v3 + (2 : Int32)).toNatClampNeg), vI (xs (v3 + (3 : Int32)).toNatClampNeg)]) (st := [vI r95]) C ml_L_49 fx8 (ct_X8_tip er100) rfl ⟨by decide, by decide, Nat.le_trans (Nat.add_le_add (cL_le _) (by decide : rmX8_tip.cells ≤ 20)) (by decide), Nat.le_trans (Nat.add_le_add (sL_le _) (by decide : rmX8_tip.slots ≤ 1000)) (by decide)⟩ (Nat.le_of_ble_eq_true rfl) rfl dL_law_396 (cs' := (cL (n + 1))) (sl' := (sL (n + 1))) rfl rfl ?_
        refine V_icmp_eq C 1052 dL_law_399 (by decide) (fun c102 => ?_) (fun c102 => ?_)
        · have hf := i_t c102 hf
          refine V_wide (cs' := (cL n)) (sl' := (sL n)) (cL_st hn (by decide : 0 ≤ 12)) (sL_st hn (by decide : 0 ≤ 473)) ?_
          refine V_sub (lv' := [(0, vR 19 (some v0)), (1, vR 7 (some v1)), (2, vR 8 (some v2)), (3, vI v3)]) [0, 1, 2, 3] rfl ?_
          exact p_L_law_1052 hLX hlw hn C (ih (Nat.le_of_lt hn)) hf
        · have hf := i_f c102 hf
          refine V_iconst (v := (0 : Int32)) C dL_law_402 (by decide) ?_
          exact absurd (Option.some.inj hf) (by decide)
      have hf := i_f c91 hf
      by_cases c103 : (xs v3.toNatClampNeg) &&& (31 : Int32) = (8 : Int32)
      · have hf := i_t c103 hf
        refine V_tabIn (off := 371) C 404 dL_law_33 (by rw [c103]; decide) (by rw [c103]; decide) (by rw [c103]; decide) (by decide) ?_
        refine V_aload_n C dL_law_404 rfl 1 rfl ?_
        refine V_aload_n C dL_law_405 rfl 0 rfl ?_
        refine V_iload_n C dL_law_406 rfl 3 rfl ?_
        refine V_iconst (v := (1 : Int32)) C dL_law_407 (by decide) ?_
        refine V_iadd C dL_law_408 ?_
        obtain ⟨g104, hf⟩ := o_if hf
        refine V_sld C hLX (vp_g g104) dL_law_409 ?_
        refine V_aload_n C dL_law_410 rfl 0 rfl ?_
        refine V_iload_n C dL_law_411 rfl 3 rfl ?_
        refine V_iconst (v := (2 : Int32)) C dL_law_412 (by decide) ?_
        refine V_iadd C dL_law_413 ?_
        obtain ⟨g105, hf⟩ := o_if hf
        refine V_sld C hLX (vp_g g105) dL_law_414 ?_
        refine V_aload_n C dL_law_415 rfl 0 rfl ?_
        refine V_iload_n C dL_law_416 rfl 3 rfl ?_
        refine V_iconst (v := (3 : Int32)) C dL_law_417 (by decide) ?_
        refine V_iadd C dL_law_418 ?_
        obtain ⟨g106, hf⟩ := o_if hf
        refine V_sld C hLX (vp_g g106) dL_law_419 ?_
        obtain ⟨r107, h108, er107, hf⟩ := o_b2 hf
        refine V_callV (as := [vI (xs (v3 + (1 : Int32)).toNatClampNeg), vI (xs (v3 + (2 : Int32)).toNatClampNeg), vI (xs (v3 + (3 : Int32)).toNatClampNeg)]) (st := []) C ml_L_50 fx7 (ct_X7_may er107) rfl ⟨by decide, by decide, Nat.le_trans (Nat.add_le_add (cL_le _) (by decide : rmX7_may.cells ≤ 20)) (by decide), Nat.le_trans (Nat.add_le_add (sL_le _) (by decide : rmX7_may.slots ≤ 1000)) (by decide)⟩ (Nat.le_of_ble_eq_true rfl) rfl dL_law_420 (cs' := (cL (n + 1))) (sl' := (sL (n + 1))) rfl rfl ?_
        refine V_aload_n C dL_law_423 rfl 2 rfl ?_
        refine V_aload_n C dL_law_424 rfl 0 rfl ?_
        refine V_iload_n C dL_law_425 rfl 3 rfl ?_
        refine V_iconst (v := (1 : Int32)) C dL_law_426 (by decide) ?_
        refine V_iadd C dL_law_427 ?_
        obtain ⟨g109, hf⟩ := o_if hf
        refine V_sld C hLX (vp_g g109) dL_law_428 ?_
        refine V_aload_n C dL_law_429 rfl 0 rfl ?_
        refine V_iload_n C dL_law_430 rfl 3 rfl ?_
        refine V_iconst (v := (2 : Int32)) C dL_law_431 (by decide) ?_
        refine V_iadd C dL_law_432 ?_
        obtain ⟨g110, hf⟩ := o_if hf
        refine V_sld C hLX (vp_g g110) dL_law_433 ?_
        refine V_aload_n C dL_law_434 rfl 0 rfl ?_
        refine V_iload_n C dL_law_435 rfl 3 rfl ?_
        refine V_iconst (v := (3 : Int32)) C dL_law_436 (by decide) ?_
        refine V_iadd C dL_law_437 ?_
        obtain ⟨g111, hf⟩ := o_if hf
        refine V_sld C hLX (vp_g g111) dL_law_438 ?_
        obtain ⟨r112, h113, er112, hf⟩ := o_b2 hf
        refine V_callV (as := [vI (xs (v3 + (1 : Int32)).toNatClampNeg), vI (xs (v3 + (2 : Int32)).toNatClampNeg), vI (xs (v3 + (3 : Int32)).toNatClampNeg)]) (st := [vI r107]) C ml_L_53 fx8 (ct_X8_may er112) rfl ⟨by decide, by decide, Nat.le_trans (Nat.add_le_add (cL_le _) (by decide : rmX8_may.cells ≤ 20)) (by decide), Nat.le_trans (Nat.add_le_add (sL_le _) (by decide : rmX8_may.slots ≤ 1000)) (by decide)⟩ (Nat.le_of_ble_eq_true rfl) rfl dL_law_439 (cs' := (cL (n + 1))) (sl' := (sL (n + 1))) rfl rfl ?_
        refine V_icmp_eq C 1052 dL_law_442 (by decide) (fun c114 => ?_) (fun c114 => ?_)
        · have hf := i_t c114 hf
          refine V_wide (cs' := (cL n)) (sl' := (sL n)) (cL_st hn (by decide : 0 ≤ 12)) (sL_st hn (by decide : 0 ≤ 473)) ?_
          refine V_sub (lv' := [(0, vR 19 (some v0)), (1, vR 7 (some v1)), (2, vR 8 (some v2)), (3, vI v3)]) [0, 1, 2, 3] rfl ?_
          exact p_L_law_1052 hLX hlw hn C (ih (Nat.le_of_lt hn)) hf
        · have hf := i_f c114 hf
          refine V_iconst (v := (0 : Int32)) C dL_law_445 (by decide) ?_
          exact absurd (Option.some.inj hf) (by decide)
      have hf := i_f c103 hf
      by_cases c115 : (xs v3.toNatClampNeg) &&& (31 : Int32) = (9 : Int32)
      · have hf := i_t c115 hf
        refine V_tabIn (off := 414) C 447 dL_law_33 (by rw [c115]; decide) (by rw [c115]; decide) (by rw [c115]; decide) (by decide) ?_
        refine V_aload_n C dL_law_447 rfl 1 rfl ?_
        refine V_aload_n C dL_law_448 rfl 0 rfl ?_
        refine V_iload_n C dL_law_449 rfl 3 rfl ?_
        refine V_iconst (v := (1 : Int32)) C dL_law_450 (by decide) ?_
        refine V_iadd C dL_law_451 ?_
        obtain ⟨g116, hf⟩ := o_if hf
        refine V_sld C hLX (vp_g g116) dL_law_452 ?_
        refine V_aload_n C dL_law_453 rfl 0 rfl ?_
        refine V_iload_n C dL_law_454 rfl 3 rfl ?_
        refine V_iconst (v := (2 : Int32)) C dL_law_455 (by decide) ?_
        refine V_iadd C dL_law_456 ?_
        obtain ⟨g117, hf⟩ := o_if hf
        refine V_sld C hLX (vp_g g117) dL_law_457 ?_
        obtain ⟨r118, h119, er118, hf⟩ := o_b2 hf
        refine V_callV (as := [vI (xs (v3 + (1 : Int32)).toNatClampNeg), vI (xs (v3 + (2 : Int32)).toNatClampNeg)]) (st := []) C ml_L_54 fx7 (ct_X7_rain er118) rfl ⟨by decide, by decide, Nat.le_trans (Nat.add_le_add (cL_le _) (by decide : rmX7_rain.cells ≤ 20)) (by decide), Nat.le_trans (Nat.add_le_add (sL_le _) (by decide : rmX7_rain.slots ≤ 1000)) (by decide)⟩ (Nat.le_of_ble_eq_true rfl) rfl dL_law_458 (cs' := (cL (n + 1))) (sl' := (sL (n + 1))) rfl rfl ?_
        refine V_aload_n C dL_law_461 rfl 2 rfl ?_
        refine V_aload_n C dL_law_462 rfl 0 rfl ?_
        refine V_iload_n C dL_law_463 rfl 3 rfl ?_
        refine V_iconst (v := (1 : Int32)) C dL_law_464 (by decide) ?_
        refine V_iadd C dL_law_465 ?_
        obtain ⟨g120, hf⟩ := o_if hf
        refine V_sld C hLX (vp_g g120) dL_law_466 ?_
        refine V_aload_n C dL_law_467 rfl 0 rfl ?_
        refine V_iload_n C dL_law_468 rfl 3 rfl ?_
        refine V_iconst (v := (2 : Int32)) C dL_law_469 (by decide) ?_
        refine V_iadd C dL_law_470 ?_
        obtain ⟨g121, hf⟩ := o_if hf
        refine V_sld C hLX (vp_g g121) dL_law_471 ?_
        obtain ⟨r122, h123, er122, hf⟩ := o_b2 hf
        refine V_callV (as := [vI (xs (v3 + (1 : Int32)).toNatClampNeg), vI (xs (v3 + (2 : Int32)).toNatClampNeg)]) (st := [vI r118]) C ml_L_57 fx8 (ct_X8_rain er122) rfl ⟨by decide, by decide, Nat.le_trans (Nat.add_le_add (cL_le _) (by decide : rmX8_rain.cells ≤ 20)) (by decide), Nat.le_trans (Nat.add_le_add (sL_le _) (by decide : rmX8_rain.slots ≤ 1000)) (by decide)⟩ (Nat.le_of_ble_eq_true rfl) rfl dL_law_472 (cs' := (cL (n + 1))) (sl' := (sL (n + 1))) rfl rfl ?_
        refine V_icmp_eq C 1052 dL_law_475 (by decide) (fun c124 => ?_) (fun c124 => ?_)
        · have hf := i_t c124 hf
          refine V_wide (cs' := (cL n)) (sl' := (sL n)) (cL_st hn (by decide : 0 ≤ 12)) (sL_st hn (by decide : 0 ≤ 473)) ?_
          refine V_sub (lv' := [(0, vR 19 (some v0)), (1, vR 7 (some v1)), (2, vR 8 (some v2)), (3, vI v3)]) [0, 1, 2, 3] rfl ?_
          exact p_L_law_1052 hLX hlw hn C (ih (Nat.le_of_lt hn)) hf
        · have hf := i_f c124 hf
          refine V_iconst (v := (0 : Int32)) C dL_law_478 (by decide) ?_
          exact absurd (Option.some.inj hf) (by decide)
      have hf := i_f c115 hf
      by_cases c125 : (xs v3.toNatClampNeg) &&& (31 : Int32) = (10 : Int32)
      · have hf := i_t c125 hf
        refine V_tabIn (off := 447) C 480 dL_law_33 (by rw [c125]; decide) (by rw [c125]; decide) (by rw [c125]; decide) (by decide) ?_
        refine V_aload_n C dL_law_480 rfl 1 rfl ?_
        refine V_aload_n C dL_law_481 rfl 0 rfl ?_
        refine V_iload_n C dL_law_482 rfl 3 rfl ?_
        refine V_iconst (v := (1 : Int32)) C dL_law_483 (by decide) ?_
        refine V_iadd C dL_law_484 ?_
        obtain ⟨g126, hf⟩ := o_if hf
        refine V_sld C hLX (vp_g g126) dL_law_485 ?_
        refine V_aload_n C dL_law_486 rfl 0 rfl ?_
        refine V_iload_n C dL_law_487 rfl 3 rfl ?_
        refine V_iconst (v := (2 : Int32)) C dL_law_488 (by decide) ?_
        refine V_iadd C dL_law_489 ?_
        obtain ⟨g127, hf⟩ := o_if hf
        refine V_sld C hLX (vp_g g127) dL_law_490 ?_
        refine V_if_eq C 498 dL_law_491 (by decide) (fun c128 => ?_) (fun c128 => ?_)
        · have hf := i_t c128 hf
          refine V_iconst (v := (0 : Int32)) C dL_law_498 (by decide) ?_
          refine V_sub (lv' := [(0, vR 19 (some v0)), (1, vR 7 (some v1)), (2, vR 8 (some v2)), (3, vI v3)]) [0, 1, 2, 3] rfl ?_
          exact p_L_law_499 hLX hlw hn C (ih (Nat.le_of_lt hn)) hf
        · have hf := i_f c128 hf
          refine V_iconst (v := (1 : Int32)) C dL_law_494 (by decide) ?_
          refine V_goto C 499 dL_law_495 (by decide) ?_
          refine V_sub (lv' := [(0, vR 19 (some v0)), (1, vR 7 (some v1)), (2, vR 8 (some v2)), (3, vI v3)]) [0, 1, 2, 3] rfl ?_
          exact p_L_law_499 hLX hlw hn C (ih (Nat.le_of_lt hn)) hf
      have hf := i_f c125 hf
      by_cases c129 : (xs v3.toNatClampNeg) &&& (31 : Int32) = (11 : Int32)
      · have hf := i_t c129 hf
        refine V_tabIn (off := 496) C 529 dL_law_33 (by rw [c129]; decide) (by rw [c129]; decide) (by rw [c129]; decide) (by decide) ?_
        refine V_aload_n C dL_law_529 rfl 1 rfl ?_
        refine V_aload_n C dL_law_530 rfl 0 rfl ?_
        refine V_iload_n C dL_law_531 rfl 3 rfl ?_
        refine V_iconst (v := (1 : Int32)) C dL_law_532 (by decide) ?_
        refine V_iadd C dL_law_533 ?_
        obtain ⟨g130, hf⟩ := o_if hf
        refine V_sld C hLX (vp_g g130) dL_law_534 ?_
        obtain ⟨r131, h132, er131, hf⟩ := o_b2 hf
        refine V_callV (as := [vI (xs (v3 + (1 : Int32)).toNatClampNeg)]) (st := []) C ml_L_63 fx7 (ct_X7_run er131) rfl ⟨by decide, by decide, Nat.le_trans (Nat.add_le_add (cL_le _) (by decide : rmX7_run.cells ≤ 20)) (by decide), Nat.le_trans (Nat.add_le_add (sL_le _) (by decide : rmX7_run.slots ≤ 1000)) (by decide)⟩ (Nat.le_of_ble_eq_true rfl) rfl dL_law_535 (cs' := (cL (n + 1))) (sl' := (sL (n + 1))) rfl rfl ?_
        refine V_aload_n C dL_law_538 rfl 2 rfl ?_
        refine V_aload_n C dL_law_539 rfl 0 rfl ?_
        refine V_iload_n C dL_law_540 rfl 3 rfl ?_
        refine V_iconst (v := (1 : Int32)) C dL_law_541 (by decide) ?_
        refine V_iadd C dL_law_542 ?_
        obtain ⟨g133, hf⟩ := o_if hf
        refine V_sld C hLX (vp_g g133) dL_law_543 ?_
        obtain ⟨r134, h135, er134, hf⟩ := o_b2 hf
        refine V_callV (as := [vI (xs (v3 + (1 : Int32)).toNatClampNeg)]) (st := [vI r131]) C ml_L_66 fx8 (ct_X8_run er134) rfl ⟨by decide, by decide, Nat.le_trans (Nat.add_le_add (cL_le _) (by decide : rmX8_run.cells ≤ 20)) (by decide), Nat.le_trans (Nat.add_le_add (sL_le _) (by decide : rmX8_run.slots ≤ 1000)) (by decide)⟩ (Nat.le_of_ble_eq_true rfl) rfl dL_law_544 (cs' := (cL (n + 1))) (sl' := (sL (n + 1))) rfl rfl ?_
        refine V_icmp_eq C 1052 dL_law_547 (by decide) (fun c136 => ?_) (fun c136 => ?_)
        · have hf := i_t c136 hf
          refine V_wide (cs' := (cL n)) (sl' := (sL n)) (cL_st hn (by decide : 0 ≤ 12)) (sL_st hn (by decide : 0 ≤ 473)) ?_
          refine V_sub (lv' := [(0, vR 19 (some v0)), (1, vR 7 (some v1)), (2, vR 8 (some v2)), (3, vI v3)]) [0, 1, 2, 3] rfl ?_
          exact p_L_law_1052 hLX hlw hn C (ih (Nat.le_of_lt hn)) hf
        · have hf := i_f c136 hf
          refine V_iconst (v := (0 : Int32)) C dL_law_550 (by decide) ?_
          exact absurd (Option.some.inj hf) (by decide)
      have hf := i_f c129 hf
      by_cases c137 : (xs v3.toNatClampNeg) &&& (31 : Int32) = (12 : Int32)
      · have hf := i_t c137 hf
        refine V_tabIn (off := 519) C 552 dL_law_33 (by rw [c137]; decide) (by rw [c137]; decide) (by rw [c137]; decide) (by decide) ?_
        refine V_aload_n C dL_law_552 rfl 1 rfl ?_
        refine V_aload_n C dL_law_553 rfl 0 rfl ?_
        refine V_iload_n C dL_law_554 rfl 3 rfl ?_
        refine V_iconst (v := (1 : Int32)) C dL_law_555 (by decide) ?_
        refine V_iadd C dL_law_556 ?_
        obtain ⟨g138, hf⟩ := o_if hf
        refine V_sld C hLX (vp_g g138) dL_law_557 ?_
        refine V_aload_n C dL_law_558 rfl 0 rfl ?_
        refine V_iload_n C dL_law_559 rfl 3 rfl ?_
        refine V_iconst (v := (2 : Int32)) C dL_law_560 (by decide) ?_
        refine V_iadd C dL_law_561 ?_
        obtain ⟨g139, hf⟩ := o_if hf
        refine V_sld C hLX (vp_g g139) dL_law_562 ?_
        obtain ⟨r140, h141, er140, hf⟩ := o_b2 hf
        refine V_callV (as := [vI (xs (v3 + (1 : Int32)).toNatClampNeg), vI (xs (v3 + (2 : Int32)).toNatClampNeg)]) (st := []) C ml_L_67 fx7 (ct_X7_would er140) rfl ⟨by decide, by decide, Nat.le_trans (Nat.add_le_add (cL_le _) (by decide : rmX7_would.cells ≤ 20)) (by decide), Nat.le_trans (Nat.add_le_add (sL_le _) (by decide : rmX7_would.slots ≤ 1000)) (by decide)⟩ (Nat.le_of_ble_eq_true rfl) rfl dL_law_563 (cs' := (cL (n + 1))) (sl' := (sL (n + 1))) rfl rfl ?_
        refine V_aload_n C dL_law_566 rfl 2 rfl ?_
        refine V_aload_n C dL_law_567 rfl 0 rfl ?_
        refine V_iload_n C dL_law_568 rfl 3 rfl ?_
        refine V_iconst (v := (1 : Int32)) C dL_law_569 (by decide) ?_
        refine V_iadd C dL_law_570 ?_
        obtain ⟨g142, hf⟩ := o_if hf
        refine V_sld C hLX (vp_g g142) dL_law_571 ?_
        refine V_aload_n C dL_law_572 rfl 0 rfl ?_
        refine V_iload_n C dL_law_573 rfl 3 rfl ?_
        refine V_iconst (v := (2 : Int32)) C dL_law_574 (by decide) ?_
        refine V_iadd C dL_law_575 ?_
        obtain ⟨g143, hf⟩ := o_if hf
        refine V_sld C hLX (vp_g g143) dL_law_576 ?_
        obtain ⟨r144, h145, er144, hf⟩ := o_b2 hf
        refine V_callV (as := [vI (xs (v3 + (1 : Int32)).toNatClampNeg), vI (xs (v3 + (2 : Int32)).toNatClampNeg)]) (st := [vI r140]) C ml_L_70 fx8 (ct_X8_would er144) rfl ⟨by decide, by decide, Nat.le_trans (Nat.add_le_add (cL_le _) (by decide : rmX8_would.cells ≤ 20)) (by decide), Nat.le_trans (Nat.add_le_add (sL_le _) (by decide : rmX8_would.slots ≤ 1000)) (by decide)⟩ (Nat.le_of_ble_eq_true rfl) rfl dL_law_577 (cs' := (cL (n + 1))) (sl' := (sL (n + 1))) rfl rfl ?_
        refine V_icmp_eq C 1052 dL_law_580 (by decide) (fun c146 => ?_) (fun c146 => ?_)
        · have hf := i_t c146 hf
          refine V_wide (cs' := (cL n)) (sl' := (sL n)) (cL_st hn (by decide : 0 ≤ 12)) (sL_st hn (by decide : 0 ≤ 473)) ?_
          refine V_sub (lv' := [(0, vR 19 (some v0)), (1, vR 7 (some v1)), (2, vR 8 (some v2)), (3, vI v3)]) [0, 1, 2, 3] rfl ?_
          exact p_L_law_1052 hLX hlw hn C (ih (Nat.le_of_lt hn)) hf
        · have hf := i_f c146 hf
          refine V_iconst (v := (0 : Int32)) C dL_law_583 (by decide) ?_
          exact absurd (Option.some.inj hf) (by decide)
      have hf := i_f c137 hf
      by_cases c147 : (xs v3.toNatClampNeg) &&& (31 : Int32) = (13 : Int32)
      · have hf := i_t c147 hf
        refine V_tabIn (off := 552) C 585 dL_law_33 (by rw [c147]; decide) (by rw [c147]; decide) (by rw [c147]; decide) (by decide) ?_
        refine V_aload_n C dL_law_585 rfl 1 rfl ?_
        obtain ⟨r148, h149, er148, hf⟩ := o_b2 hf
        refine V_callV (as := []) (st := []) C ml_L_71 fx7 (ct_X7_can er148) rfl ⟨by decide, by decide, Nat.le_trans (Nat.add_le_add (cL_le _) (by decide : rmX7_can.cells ≤ 20)) (by decide), Nat.le_trans (Nat.add_le_add (sL_le _) (by decide : rmX7_can.slots ≤ 1000)) (by decide)⟩ (Nat.le_of_ble_eq_true rfl) rfl dL_law_586 (cs' := (cL (n + 1))) (sl' := (sL (n + 1))) rfl rfl ?_
        refine V_aload_n C dL_law_589 rfl 2 rfl ?_
        obtain ⟨r150, h151, er150, hf⟩ := o_b2 hf
        refine V_callV (as := []) (st := [vI r148]) C ml_L_74 fx8 (ct_X8_can er150) rfl ⟨by decide, by decide, Nat.le_trans (Nat.add_le_add (cL_le _) (by decide : rmX8_can.cells ≤ 20)) (by decide), Nat.le_trans (Nat.add_le_add (sL_le _) (by decide : rmX8_can.slots ≤ 1000)) (by decide)⟩ (Nat.le_of_ble_eq_true rfl) rfl dL_law_590 (cs' := (cL (n + 1))) (sl' := (sL (n + 1))) rfl rfl ?_
        refine V_icmp_eq C 1052 dL_law_593 (by decide) (fun c152 => ?_) (fun c152 => ?_)
        · have hf := i_t c152 hf
          refine V_wide (cs' := (cL n)) (sl' := (sL n)) (cL_st hn (by decide : 0 ≤ 12)) (sL_st hn (by decide : 0 ≤ 473)) ?_
          refine V_sub (lv' := [(0, vR 19 (some v0)), (1, vR 7 (some v1)), (2, vR 8 (some v2)), (3, vI v3)]) [0, 1, 2, 3] rfl ?_
          exact p_L_law_1052 hLX hlw hn C (ih (Nat.le_of_lt hn)) hf
        · have hf := i_f c152 hf
          refine V_iconst (v := (0 : Int32)) C dL_law_596 (by decide) ?_
          exact absurd (Option.some.inj hf) (by decide)
      have hf := i_f c147 hf
      by_cases c153 : (xs v3.toNatClampNeg) &&& (31 : Int32) = (14 : Int32)
      · have hf := i_t c153 hf
        refine V_tabIn (off := 565) C 598 dL_law_33 (by rw [c153]; decide) (by rw [c153]; decide) (by rw [c153]; decide) (by decide) ?_
        refine V_aload_n C dL_law_598 rfl 1 rfl ?_
        refine V_aload_n C dL_law_599 rfl 0 rfl ?_
        refine V_iload_n C dL_law_600 rfl 3 rfl ?_
        refine V_iconst (v := (1 : Int32)) C dL_law_601 (by decide) ?_
        refine V_iadd C dL_law_602 ?_
        obtain ⟨g154, hf⟩ := o_if hf
        refine V_sld C hLX (vp_g g154) dL_law_603 ?_
        refine V_aload_n C dL_law_604 rfl 0 rfl ?_
        refine V_iload_n C dL_law_605 rfl 3 rfl ?_
        refine V_iconst (v := (2 : Int32)) C dL_law_606 (by decide) ?_
        refine V_iadd C dL_law_607 ?_
        obtain ⟨g155, hf⟩ := o_if hf
        refine V_sld C hLX (vp_g g155) dL_law_608 ?_
        refine V_if_eq C 616 dL_law_609 (by decide) (fun c156 => ?_) (fun c156 => ?_)
        · have hf := i_t c156 hf
          refine V_iconst (v := (0 : Int32)) C dL_law_616 (by decide) ?_
          refine V_sub (lv' := [(0, vR 19 (some v0)), (1, vR 7 (some v1)), (2, vR 8 (some v2)), (3, vI v3)]) [0, 1, 2, 3] rfl ?_
          exact p_L_law_617 hLX hlw hn C (ih (Nat.le_of_lt hn)) hf
        · have hf := i_f c156 hf
          refine V_iconst (v := (1 : Int32)) C dL_law_612 (by decide) ?_
          refine V_goto C 617 dL_law_613 (by decide) ?_
          refine V_sub (lv' := [(0, vR 19 (some v0)), (1, vR 7 (some v1)), (2, vR 8 (some v2)), (3, vI v3)]) [0, 1, 2, 3] rfl ?_
          exact p_L_law_617 hLX hlw hn C (ih (Nat.le_of_lt hn)) hf
      have hf := i_f c153 hf
      by_cases c157 : (xs v3.toNatClampNeg) &&& (31 : Int32) = (15 : Int32)
      · have hf := i_t c157 hf
        refine V_tabIn (off := 614) C 647 dL_law_33 (by rw [c157]; decide) (by rw [c157]; decide) (by rw [c157]; decide) (by decide) ?_
        refine V_aload_n C dL_law_647 rfl 1 rfl ?_
        refine V_aload_n C dL_law_648 rfl 0 rfl ?_
        refine V_iload_n C dL_law_649 rfl 3 rfl ?_
        refine V_iconst (v := (1 : Int32)) C dL_law_650 (by decide) ?_
        refine V_iadd C dL_law_651 ?_
        obtain ⟨g158, hf⟩ := o_if hf
        refine V_sld C hLX (vp_g g158) dL_law_652 ?_
        refine V_aload_n C dL_law_653 rfl 0 rfl ?_
        refine V_iload_n C dL_law_654 rfl 3 rfl ?_
        refine V_iconst (v := (2 : Int32)) C dL_law_655 (by decide) ?_
        refine V_iadd C dL_law_656 ?_
        obtain ⟨g159, hf⟩ := o_if hf
        refine V_sld C hLX (vp_g g159) dL_law_657 ?_
        refine V_if_eq C 665 dL_law_658 (by decide) (fun c160 => ?_) (fun c160 => ?_)
        · have hf := i_t c160 hf
          refine V_iconst (v := (0 : Int32)) C dL_law_665 (by decide) ?_
          refine V_sub (lv' := [(0, vR 19 (some v0)), (1, vR 7 (some v1)), (2, vR 8 (some v2)), (3, vI v3)]) [0, 1, 2, 3] rfl ?_
          exact p_L_law_666 hLX hlw hn C (ih (Nat.le_of_lt hn)) hf
        · have hf := i_f c160 hf
          refine V_iconst (v := (1 : Int32)) C dL_law_661 (by decide) ?_
          refine V_goto C 666 dL_law_662 (by decide) ?_
          refine V_sub (lv' := [(0, vR 19 (some v0)), (1, vR 7 (some v1)), (2, vR 8 (some v2)), (3, vI v3)]) [0, 1, 2, 3] rfl ?_
          exact p_L_law_666 hLX hlw hn C (ih (Nat.le_of_lt hn)) hf
      have hf := i_f c157 hf
      by_cases c161 : (xs v3.toNatClampNeg) &&& (31 : Int32) = (16 : Int32)
      · have hf := i_t c161 hf
        refine V_tabIn (off := 683) C 716 dL_law_33 (by rw [c161]; decide) (by rw [c161]; decide) (by rw [c161]; decide) (by decide) ?_
        refine V_aload_n C dL_law_716 rfl 1 rfl ?_
        refine V_aload_n C dL_law_717 rfl 0 rfl ?_
        refine V_iload_n C dL_law_718 rfl 3 rfl ?_
        refine V_iconst (v := (1 : Int32)) C dL_law_719 (by decide) ?_
        refine V_iadd C dL_law_720 ?_
        obtain ⟨g162, hf⟩ := o_if hf
        refine V_sld C hLX (vp_g g162) dL_law_721 ?_
        refine V_aload_n C dL_law_722 rfl 0 rfl ?_
        refine V_iload_n C dL_law_723 rfl 3 rfl ?_
        refine V_iconst (v := (2 : Int32)) C dL_law_724 (by decide) ?_
        refine V_iadd C dL_law_725 ?_
        obtain ⟨g163, hf⟩ := o_if hf
        refine V_sld C hLX (vp_g g163) dL_law_726 ?_
        obtain ⟨r164, h165, er164, hf⟩ := o_b2 hf
        refine V_callV (as := [vI (xs (v3 + (1 : Int32)).toNatClampNeg), vI (xs (v3 + (2 : Int32)).toNatClampNeg)]) (st := []) C ml_L_85 fx7 (ct_X7_drought er164) rfl ⟨by decide, by decide, Nat.le_trans (Nat.add_le_add (cL_le _) (by decide : rmX7_drought.cells ≤ 20)) (by decide), Nat.le_trans (Nat.add_le_add (sL_le _) (by decide : rmX7_drought.slots ≤ 1000)) (by decide)⟩ (Nat.le_of_ble_eq_true rfl) rfl dL_law_727 (cs' := (cL (n + 1))) (sl' := (sL (n + 1))) rfl rfl ?_
        refine V_aload_n C dL_law_730 rfl 2 rfl ?_
        refine V_aload_n C dL_law_731 rfl 0 rfl ?_
        refine V_iload_n C dL_law_732 rfl 3 rfl ?_
        refine V_iconst (v := (1 : Int32)) C dL_law_733 (by decide) ?_
        refine V_iadd C dL_law_734 ?_
        obtain ⟨g166, hf⟩ := o_if hf
        refine V_sld C hLX (vp_g g166) dL_law_735 ?_
        refine V_aload_n C dL_law_736 rfl 0 rfl ?_
        refine V_iload_n C dL_law_737 rfl 3 rfl ?_
        refine V_iconst (v := (2 : Int32)) C dL_law_738 (by decide) ?_
        refine V_iadd C dL_law_739 ?_
        obtain ⟨g167, hf⟩ := o_if hf
        refine V_sld C hLX (vp_g g167) dL_law_740 ?_
        obtain ⟨r168, h169, er168, hf⟩ := o_b2 hf
        refine V_callV (as := [vI (xs (v3 + (1 : Int32)).toNatClampNeg), vI (xs (v3 + (2 : Int32)).toNatClampNeg)]) (st := [vI r164]) C ml_L_88 fx8 (ct_X8_drought er168) rfl ⟨by decide, by decide, Nat.le_trans (Nat.add_le_add (cL_le _) (by decide : rmX8_drought.cells ≤ 20)) (by decide), Nat.le_trans (Nat.add_le_add (sL_le _) (by decide : rmX8_drought.slots ≤ 1000)) (by decide)⟩ (Nat.le_of_ble_eq_true rfl) rfl dL_law_741 (cs' := (cL (n + 1))) (sl' := (sL (n + 1))) rfl rfl ?_
        refine V_icmp_eq C 1052 dL_law_744 (by decide) (fun c170 => ?_) (fun c170 => ?_)
        · have hf := i_t c170 hf
          refine V_wide (cs' := (cL n)) (sl' := (sL n)) (cL_st hn (by decide : 0 ≤ 12)) (sL_st hn (by decide : 0 ≤ 473)) ?_
          refine V_sub (lv' := [(0, vR 19 (some v0)), (1, vR 7 (some v1)), (2, vR 8 (some v2)), (3, vI v3)]) [0, 1, 2, 3] rfl ?_
          exact p_L_law_1052 hLX hlw hn C (ih (Nat.le_of_lt hn)) hf
        · have hf := i_f c170 hf
          refine V_iconst (v := (0 : Int32)) C dL_law_747 (by decide) ?_
          exact absurd (Option.some.inj hf) (by decide)
      have hf := i_f c161 hf
      by_cases c171 : (xs v3.toNatClampNeg) &&& (31 : Int32) = (17 : Int32)
      · have hf := i_t c171 hf
        refine V_tabIn (off := 716) C 749 dL_law_33 (by rw [c171]; decide) (by rw [c171]; decide) (by rw [c171]; decide) (by decide) ?_
        refine V_aload_n C dL_law_749 rfl 1 rfl ?_
        refine V_aload_n C dL_law_750 rfl 0 rfl ?_
        refine V_iload_n C dL_law_751 rfl 3 rfl ?_
        refine V_iconst (v := (1 : Int32)) C dL_law_752 (by decide) ?_
        refine V_iadd C dL_law_753 ?_
        obtain ⟨g172, hf⟩ := o_if hf
        refine V_sld C hLX (vp_g g172) dL_law_754 ?_
        obtain ⟨r173, er173, hf⟩ := o_b hf
        refine V_callV (as := [vI (xs (v3 + (1 : Int32)).toNatClampNeg)]) (st := []) C ml_L_89 fx7 (ct_X7_pass er173) rfl ⟨by decide, by decide, Nat.le_trans (Nat.add_le_add (cL_le _) (by decide : rmX7_pass.cells ≤ 20)) (by decide), Nat.le_trans (Nat.add_le_add (sL_le _) (by decide : rmX7_pass.slots ≤ 1000)) (by decide)⟩ (Nat.le_of_ble_eq_true rfl) rfl dL_law_755 (cs' := (cL (n + 1))) (sl' := (sL (n + 1))) rfl rfl ?_
        refine V_aload_n C dL_law_758 rfl 2 rfl ?_
        refine V_aload_n C dL_law_759 rfl 0 rfl ?_
        refine V_iload_n C dL_law_760 rfl 3 rfl ?_
        refine V_iconst (v := (1 : Int32)) C dL_law_761 (by decide) ?_
        refine V_iadd C dL_law_762 ?_
        obtain ⟨g174, hf⟩ := o_if hf
        refine V_sld C hLX (vp_g g174) dL_law_763 ?_
        obtain ⟨r175, er175, hf⟩ := o_b hf
        refine V_callV (as := [vI (xs (v3 + (1 : Int32)).toNatClampNeg)]) (st := [vI r173]) C ml_L_92 fx8 (ct_X8_pass er175) rfl ⟨by decide, by decide, Nat.le_trans (Nat.add_le_add (cL_le _) (by decide : rmX8_pass.cells ≤ 20)) (by decide), Nat.le_trans (Nat.add_le_add (sL_le _) (by decide : rmX8_pass.slots ≤ 1000)) (by decide)⟩ (Nat.le_of_ble_eq_true rfl) rfl dL_law_764 (cs' := (cL (n + 1))) (sl' := (sL (n + 1))) rfl rfl ?_
        refine V_icmp_eq C 1052 dL_law_767 (by decide) (fun c176 => ?_) (fun c176 => ?_)
        · have hf := i_t c176 hf
          refine V_wide (cs' := (cL n)) (sl' := (sL n)) (cL_st hn (by decide : 0 ≤ 12)) (sL_st hn (by decide : 0 ≤ 473)) ?_
          refine V_sub (lv' := [(0, vR 19 (some v0)), (1, vR 7 (some v1)), (2, vR 8 (some v2)), (3, vI v3)]) [0, 1, 2, 3] rfl ?_
          exact p_L_law_1052 hLX hlw hn C (ih (Nat.le_of_lt hn)) hf
        · have hf := i_f c176 hf
          refine V_iconst (v := (0 : Int32)) C dL_law_770 (by decide) ?_
          exact absurd (Option.some.inj hf) (by decide)
      have hf := i_f c171 hf
      by_cases c177 : (xs v3.toNatClampNeg) &&& (31 : Int32) = (18 : Int32)
      · have hf := i_t c177 hf
        refine V_tabIn (off := 739) C 772 dL_law_33 (by rw [c177]; decide) (by rw [c177]; decide) (by rw [c177]; decide) (by decide) ?_
        refine V_aload_n C dL_law_772 rfl 1 rfl ?_
        obtain ⟨r178, er178, hf⟩ := o_b hf
        refine V_callV (as := []) (st := []) C ml_L_93 fx7 (ct_X7_worst er178) rfl ⟨by decide, by decide, Nat.le_trans (Nat.add_le_add (cL_le _) (by decide : rmX7_worst.cells ≤ 20)) (by decide), Nat.le_trans (Nat.add_le_add (sL_le _) (by decide : rmX7_worst.slots ≤ 1000)) (by decide)⟩ (Nat.le_of_ble_eq_true rfl) rfl dL_law_773 (cs' := (cL (n + 1))) (sl' := (sL (n + 1))) rfl rfl ?_
        refine V_aload_n C dL_law_776 rfl 2 rfl ?_
        obtain ⟨r179, er179, hf⟩ := o_b hf
        refine V_callV (as := []) (st := [vI r178]) C ml_L_96 fx8 (ct_X8_worst er179) rfl ⟨by decide, by decide, Nat.le_trans (Nat.add_le_add (cL_le _) (by decide : rmX8_worst.cells ≤ 20)) (by decide), Nat.le_trans (Nat.add_le_add (sL_le _) (by decide : rmX8_worst.slots ≤ 1000)) (by decide)⟩ (Nat.le_of_ble_eq_true rfl) rfl dL_law_777 (cs' := (cL (n + 1))) (sl' := (sL (n + 1))) rfl rfl ?_
        refine V_icmp_eq C 1052 dL_law_780 (by decide) (fun c180 => ?_) (fun c180 => ?_)
        · have hf := i_t c180 hf
          refine V_wide (cs' := (cL n)) (sl' := (sL n)) (cL_st hn (by decide : 0 ≤ 12)) (sL_st hn (by decide : 0 ≤ 473)) ?_
          refine V_sub (lv' := [(0, vR 19 (some v0)), (1, vR 7 (some v1)), (2, vR 8 (some v2)), (3, vI v3)]) [0, 1, 2, 3] rfl ?_
          exact p_L_law_1052 hLX hlw hn C (ih (Nat.le_of_lt hn)) hf
        · have hf := i_f c180 hf
          refine V_iconst (v := (0 : Int32)) C dL_law_783 (by decide) ?_
          exact absurd (Option.some.inj hf) (by decide)
      have hf := i_f c177 hf
      by_cases c181 : (xs v3.toNatClampNeg) &&& (31 : Int32) = (19 : Int32)
      · have hf := i_t c181 hf
        refine V_tabIn (off := 752) C 785 dL_law_33 (by rw [c181]; decide) (by rw [c181]; decide) (by rw [c181]; decide) (by decide) ?_
        refine V_aload_n C dL_law_785 rfl 1 rfl ?_
        refine V_aload_n C dL_law_786 rfl 0 rfl ?_
        refine V_iload_n C dL_law_787 rfl 3 rfl ?_
        refine V_iconst (v := (1 : Int32)) C dL_law_788 (by decide) ?_
        refine V_iadd C dL_law_789 ?_
        obtain ⟨g182, hf⟩ := o_if hf
        refine V_sld C hLX (vp_g g182) dL_law_790 ?_
        refine V_aload_n C dL_law_791 rfl 0 rfl ?_
        refine V_iload_n C dL_law_792 rfl 3 rfl ?_
        refine V_iconst (v := (2 : Int32)) C dL_law_793 (by decide) ?_
        refine V_iadd C dL_law_794 ?_
        obtain ⟨g183, hf⟩ := o_if hf
        refine V_sld C hLX (vp_g g183) dL_law_795 ?_
        obtain ⟨r184, h185, er184, hf⟩ := o_b2 hf
        refine V_callV (as := [vI (xs (v3 + (1 : Int32)).toNatClampNeg), vI (xs (v3 + (2 : Int32)).toNatClampNeg)]) (st := []) C ml_L_97 fx7 (ct_X7_seen er184) rfl ⟨by decide, by decide, Nat.le_trans (Nat.add_le_add (cL_le _) (by decide : rmX7_seen.cells ≤ 20)) (by decide), Nat.le_trans (Nat.add_le_add (sL_le _) (by decide : rmX7_seen.slots ≤ 1000)) (by decide)⟩ (Nat.le_of_ble_eq_true rfl) rfl dL_law_796 (cs' := (cL (n + 1))) (sl' := (sL (n + 1))) rfl rfl ?_
        refine V_aload_n C dL_law_799 rfl 2 rfl ?_
        refine V_aload_n C dL_law_800 rfl 0 rfl ?_
        refine V_iload_n C dL_law_801 rfl 3 rfl ?_
        refine V_iconst (v := (1 : Int32)) C dL_law_802 (by decide) ?_
        refine V_iadd C dL_law_803 ?_
        obtain ⟨g186, hf⟩ := o_if hf
        refine V_sld C hLX (vp_g g186) dL_law_804 ?_
        refine V_aload_n C dL_law_805 rfl 0 rfl ?_
        refine V_iload_n C dL_law_806 rfl 3 rfl ?_
        refine V_iconst (v := (2 : Int32)) C dL_law_807 (by decide) ?_
        refine V_iadd C dL_law_808 ?_
        obtain ⟨g187, hf⟩ := o_if hf
        refine V_sld C hLX (vp_g g187) dL_law_809 ?_
        obtain ⟨r188, h189, er188, hf⟩ := o_b2 hf
        refine V_callV (as := [vI (xs (v3 + (1 : Int32)).toNatClampNeg), vI (xs (v3 + (2 : Int32)).toNatClampNeg)]) (st := [vI r184]) C ml_L_101 fx8 (ct_X8_seen er188) rfl ⟨by decide, by decide, Nat.le_trans (Nat.add_le_add (cL_le _) (by decide : rmX8_seen.cells ≤ 20)) (by decide), Nat.le_trans (Nat.add_le_add (sL_le _) (by decide : rmX8_seen.slots ≤ 1000)) (by decide)⟩ (Nat.le_of_ble_eq_true rfl) rfl dL_law_810 (cs' := (cL (n + 1))) (sl' := (sL (n + 1))) rfl rfl ?_
        refine V_icmp_eq C 1052 dL_law_813 (by decide) (fun c190 => ?_) (fun c190 => ?_)
        · have hf := i_t c190 hf
          refine V_wide (cs' := (cL n)) (sl' := (sL n)) (cL_st hn (by decide : 0 ≤ 12)) (sL_st hn (by decide : 0 ≤ 473)) ?_
          refine V_sub (lv' := [(0, vR 19 (some v0)), (1, vR 7 (some v1)), (2, vR 8 (some v2)), (3, vI v3)]) [0, 1, 2, 3] rfl ?_
          exact p_L_law_1052 hLX hlw hn C (ih (Nat.le_of_lt hn)) hf
        · have hf := i_f c190 hf
          refine V_iconst (v := (0 : Int32)) C dL_law_816 (by decide) ?_
          exact absurd (Option.some.inj hf) (by decide)
      have hf := i_f c181 hf
      by_cases c191 : (xs v3.toNatClampNeg) &&& (31 : Int32) = (20 : Int32)
      · have hf := i_t c191 hf
        refine V_tabIn (off := 785) C 818 dL_law_33 (by rw [c191]; decide) (by rw [c191]; decide) (by rw [c191]; decide) (by decide) ?_
        refine V_aload_n C dL_law_818 rfl 1 rfl ?_
        refine V_aload_n C dL_law_819 rfl 0 rfl ?_
        refine V_iload_n C dL_law_820 rfl 3 rfl ?_
        refine V_iconst (v := (1 : Int32)) C dL_law_821 (by decide) ?_
        refine V_iadd C dL_law_822 ?_
        obtain ⟨g192, hf⟩ := o_if hf
        refine V_sld C hLX (vp_g g192) dL_law_823 ?_
        refine V_aload_n C dL_law_824 rfl 0 rfl ?_
        refine V_iload_n C dL_law_825 rfl 3 rfl ?_
        refine V_iconst (v := (2 : Int32)) C dL_law_826 (by decide) ?_
        refine V_iadd C dL_law_827 ?_
        obtain ⟨g193, hf⟩ := o_if hf
        refine V_sld C hLX (vp_g g193) dL_law_828 ?_
        obtain ⟨r194, h195, er194, hf⟩ := o_b2 hf
        refine V_callV (as := [vI (xs (v3 + (1 : Int32)).toNatClampNeg), vI (xs (v3 + (2 : Int32)).toNatClampNeg)]) (st := []) C ml_L_102 fx7 (ct_X7_went er194) rfl ⟨by decide, by decide, Nat.le_trans (Nat.add_le_add (cL_le _) (by decide : rmX7_went.cells ≤ 20)) (by decide), Nat.le_trans (Nat.add_le_add (sL_le _) (by decide : rmX7_went.slots ≤ 1000)) (by decide)⟩ (Nat.le_of_ble_eq_true rfl) rfl dL_law_829 (cs' := (cL (n + 1))) (sl' := (sL (n + 1))) rfl rfl ?_
        refine V_aload_n C dL_law_832 rfl 2 rfl ?_
        refine V_aload_n C dL_law_833 rfl 0 rfl ?_
        refine V_iload_n C dL_law_834 rfl 3 rfl ?_
        refine V_iconst (v := (1 : Int32)) C dL_law_835 (by decide) ?_
        refine V_iadd C dL_law_836 ?_
        obtain ⟨g196, hf⟩ := o_if hf
        refine V_sld C hLX (vp_g g196) dL_law_837 ?_
        refine V_aload_n C dL_law_838 rfl 0 rfl ?_
        refine V_iload_n C dL_law_839 rfl 3 rfl ?_
        refine V_iconst (v := (2 : Int32)) C dL_law_840 (by decide) ?_
        refine V_iadd C dL_law_841 ?_
        obtain ⟨g197, hf⟩ := o_if hf
        refine V_sld C hLX (vp_g g197) dL_law_842 ?_
        obtain ⟨r198, h199, er198, hf⟩ := o_b2 hf
        refine V_callV (as := [vI (xs (v3 + (1 : Int32)).toNatClampNeg), vI (xs (v3 + (2 : Int32)).toNatClampNeg)]) (st := [vI r194]) C ml_L_105 fx8 (ct_X8_went er198) rfl ⟨by decide, by decide, Nat.le_trans (Nat.add_le_add (cL_le _) (by decide : rmX8_went.cells ≤ 20)) (by decide), Nat.le_trans (Nat.add_le_add (sL_le _) (by decide : rmX8_went.slots ≤ 1000)) (by decide)⟩ (Nat.le_of_ble_eq_true rfl) rfl dL_law_843 (cs' := (cL (n + 1))) (sl' := (sL (n + 1))) rfl rfl ?_
        refine V_icmp_eq C 1052 dL_law_846 (by decide) (fun c200 => ?_) (fun c200 => ?_)
        · have hf := i_t c200 hf
          refine V_wide (cs' := (cL n)) (sl' := (sL n)) (cL_st hn (by decide : 0 ≤ 12)) (sL_st hn (by decide : 0 ≤ 473)) ?_
          refine V_sub (lv' := [(0, vR 19 (some v0)), (1, vR 7 (some v1)), (2, vR 8 (some v2)), (3, vI v3)]) [0, 1, 2, 3] rfl ?_
          exact p_L_law_1052 hLX hlw hn C (ih (Nat.le_of_lt hn)) hf
        · have hf := i_f c200 hf
          refine V_iconst (v := (0 : Int32)) C dL_law_849 (by decide) ?_
          exact absurd (Option.some.inj hf) (by decide)
      have hf := i_f c191 hf
      by_cases c201 : (xs v3.toNatClampNeg) &&& (31 : Int32) = (21 : Int32)
      · have hf := i_t c201 hf
        refine V_tabIn (off := 818) C 851 dL_law_33 (by rw [c201]; decide) (by rw [c201]; decide) (by rw [c201]; decide) (by decide) ?_
        refine V_aload_n C dL_law_851 rfl 1 rfl ?_
        refine V_aload_n C dL_law_852 rfl 0 rfl ?_
        refine V_iload_n C dL_law_853 rfl 3 rfl ?_
        refine V_iconst (v := (1 : Int32)) C dL_law_854 (by decide) ?_
        refine V_iadd C dL_law_855 ?_
        obtain ⟨g202, hf⟩ := o_if hf
        refine V_sld C hLX (vp_g g202) dL_law_856 ?_
        refine V_aload_n C dL_law_857 rfl 0 rfl ?_
        refine V_iload_n C dL_law_858 rfl 3 rfl ?_
        refine V_iconst (v := (2 : Int32)) C dL_law_859 (by decide) ?_
        refine V_iadd C dL_law_860 ?_
        obtain ⟨g203, hf⟩ := o_if hf
        refine V_sld C hLX (vp_g g203) dL_law_861 ?_
        refine V_aload_n C dL_law_862 rfl 0 rfl ?_
        refine V_iload_n C dL_law_863 rfl 3 rfl ?_
        refine V_iconst (v := (3 : Int32)) C dL_law_864 (by decide) ?_
        refine V_iadd C dL_law_865 ?_
        obtain ⟨g204, hf⟩ := o_if hf
        refine V_sld C hLX (vp_g g204) dL_law_866 ?_
        obtain ⟨r205, h206, er205, hf⟩ := o_b2 hf
        refine V_callV (as := [vI (xs (v3 + (1 : Int32)).toNatClampNeg), vI (xs (v3 + (2 : Int32)).toNatClampNeg), vI (xs (v3 + (3 : Int32)).toNatClampNeg)]) (st := []) C ml_L_106 fx7 (ct_X7_book er205) rfl ⟨by decide, by decide, Nat.le_trans (Nat.add_le_add (cL_le _) (by decide : rmX7_book.cells ≤ 20)) (by decide), Nat.le_trans (Nat.add_le_add (sL_le _) (by decide : rmX7_book.slots ≤ 1000)) (by decide)⟩ (Nat.le_of_ble_eq_true rfl) rfl dL_law_867 (cs' := (cL (n + 1))) (sl' := (sL (n + 1))) rfl rfl ?_
        refine V_aload_n C dL_law_870 rfl 2 rfl ?_
        refine V_aload_n C dL_law_871 rfl 0 rfl ?_
        refine V_iload_n C dL_law_872 rfl 3 rfl ?_
        refine V_iconst (v := (1 : Int32)) C dL_law_873 (by decide) ?_
        refine V_iadd C dL_law_874 ?_
        obtain ⟨g207, hf⟩ := o_if hf
        refine V_sld C hLX (vp_g g207) dL_law_875 ?_
        refine V_aload_n C dL_law_876 rfl 0 rfl ?_
        refine V_iload_n C dL_law_877 rfl 3 rfl ?_
        refine V_iconst (v := (2 : Int32)) C dL_law_878 (by decide) ?_
        refine V_iadd C dL_law_879 ?_
        obtain ⟨g208, hf⟩ := o_if hf
        refine V_sld C hLX (vp_g g208) dL_law_880 ?_
        refine V_aload_n C dL_law_881 rfl 0 rfl ?_
        refine V_iload_n C dL_law_882 rfl 3 rfl ?_
        refine V_iconst (v := (3 : Int32)) C dL_law_883 (by decide) ?_
        refine V_iadd C dL_law_884 ?_
        obtain ⟨g209, hf⟩ := o_if hf
        refine V_sld C hLX (vp_g g209) dL_law_885 ?_
        obtain ⟨r210, h211, er210, hf⟩ := o_b2 hf
        refine V_callV (as := [vI (xs (v3 + (1 : Int32)).toNatClampNeg), vI (xs (v3 + (2 : Int32)).toNatClampNeg), vI (xs (v3 + (3 : Int32)).toNatClampNeg)]) (st := [vI r205]) C ml_L_109 fx8 (ct_X8_book er210) rfl ⟨by decide, by decide, Nat.le_trans (Nat.add_le_add (cL_le _) (by decide : rmX8_book.cells ≤ 20)) (by decide), Nat.le_trans (Nat.add_le_add (sL_le _) (by decide : rmX8_book.slots ≤ 1000)) (by decide)⟩ (Nat.le_of_ble_eq_true rfl) rfl dL_law_886 (cs' := (cL (n + 1))) (sl' := (sL (n + 1))) rfl rfl ?_
        refine V_icmp_eq C 1052 dL_law_889 (by decide) (fun c212 => ?_) (fun c212 => ?_)
        · have hf := i_t c212 hf
          refine V_wide (cs' := (cL n)) (sl' := (sL n)) (cL_st hn (by decide : 0 ≤ 12)) (sL_st hn (by decide : 0 ≤ 473)) ?_
          refine V_sub (lv' := [(0, vR 19 (some v0)), (1, vR 7 (some v1)), (2, vR 8 (some v2)), (3, vI v3)]) [0, 1, 2, 3] rfl ?_
          exact p_L_law_1052 hLX hlw hn C (ih (Nat.le_of_lt hn)) hf
        · have hf := i_f c212 hf
          refine V_iconst (v := (0 : Int32)) C dL_law_892 (by decide) ?_
          exact absurd (Option.some.inj hf) (by decide)
      have hf := i_f c201 hf
      by_cases c213 : (xs v3.toNatClampNeg) &&& (31 : Int32) = (22 : Int32)
      · have hf := i_t c213 hf
        refine V_tabIn (off := 861) C 894 dL_law_33 (by rw [c213]; decide) (by rw [c213]; decide) (by rw [c213]; decide) (by decide) ?_
        refine V_aload_n C dL_law_894 rfl 1 rfl ?_
        refine V_aload_n C dL_law_895 rfl 0 rfl ?_
        refine V_iload_n C dL_law_896 rfl 3 rfl ?_
        refine V_iconst (v := (1 : Int32)) C dL_law_897 (by decide) ?_
        refine V_iadd C dL_law_898 ?_
        obtain ⟨g214, hf⟩ := o_if hf
        refine V_sld C hLX (vp_g g214) dL_law_899 ?_
        obtain ⟨r215, h216, er215, hf⟩ := o_b2 hf
        refine V_callV (as := [vI (xs (v3 + (1 : Int32)).toNatClampNeg)]) (st := []) C ml_L_110 fx7 (ct_X7_smuggled er215) rfl ⟨by decide, by decide, Nat.le_trans (Nat.add_le_add (cL_le _) (by decide : rmX7_smuggled.cells ≤ 20)) (by decide), Nat.le_trans (Nat.add_le_add (sL_le _) (by decide : rmX7_smuggled.slots ≤ 1000)) (by decide)⟩ (Nat.le_of_ble_eq_true rfl) rfl dL_law_900 (cs' := (cL (n + 1))) (sl' := (sL (n + 1))) rfl rfl ?_
        refine V_aload_n C dL_law_903 rfl 2 rfl ?_
        refine V_aload_n C dL_law_904 rfl 0 rfl ?_
        refine V_iload_n C dL_law_905 rfl 3 rfl ?_
        refine V_iconst (v := (1 : Int32)) C dL_law_906 (by decide) ?_
        refine V_iadd C dL_law_907 ?_
        obtain ⟨g217, hf⟩ := o_if hf
        refine V_sld C hLX (vp_g g217) dL_law_908 ?_
        obtain ⟨r218, h219, er218, hf⟩ := o_b2 hf
        refine V_callV (as := [vI (xs (v3 + (1 : Int32)).toNatClampNeg)]) (st := [vI r215]) C ml_L_113 fx8 (ct_X8_smuggled er218) rfl ⟨by decide, by decide, Nat.le_trans (Nat.add_le_add (cL_le _) (by decide : rmX8_smuggled.cells ≤ 20)) (by decide), Nat.le_trans (Nat.add_le_add (sL_le _) (by decide : rmX8_smuggled.slots ≤ 1000)) (by decide)⟩ (Nat.le_of_ble_eq_true rfl) rfl dL_law_909 (cs' := (cL (n + 1))) (sl' := (sL (n + 1))) rfl rfl ?_
        refine V_icmp_eq C 1052 dL_law_912 (by decide) (fun c220 => ?_) (fun c220 => ?_)
        · have hf := i_t c220 hf
          refine V_wide (cs' := (cL n)) (sl' := (sL n)) (cL_st hn (by decide : 0 ≤ 12)) (sL_st hn (by decide : 0 ≤ 473)) ?_
          refine V_sub (lv' := [(0, vR 19 (some v0)), (1, vR 7 (some v1)), (2, vR 8 (some v2)), (3, vI v3)]) [0, 1, 2, 3] rfl ?_
          exact p_L_law_1052 hLX hlw hn C (ih (Nat.le_of_lt hn)) hf
        · have hf := i_f c220 hf
          refine V_iconst (v := (0 : Int32)) C dL_law_915 (by decide) ?_
          exact absurd (Option.some.inj hf) (by decide)
      have hf := i_f c213 hf
      by_cases c221 : (xs v3.toNatClampNeg) &&& (31 : Int32) = (23 : Int32)
      · have hf := i_t c221 hf
        refine V_tabIn (off := 884) C 917 dL_law_33 (by rw [c221]; decide) (by rw [c221]; decide) (by rw [c221]; decide) (by decide) ?_
        refine V_aload_n C dL_law_917 rfl 1 rfl ?_
        refine V_aload_n C dL_law_918 rfl 0 rfl ?_
        refine V_iload_n C dL_law_919 rfl 3 rfl ?_
        refine V_iconst (v := (1 : Int32)) C dL_law_920 (by decide) ?_
        refine V_iadd C dL_law_921 ?_
        obtain ⟨g222, hf⟩ := o_if hf
        refine V_sld C hLX (vp_g g222) dL_law_922 ?_
        obtain ⟨r223, h224, er223, hf⟩ := o_b2 hf
        refine V_callV (as := [vI (xs (v3 + (1 : Int32)).toNatClampNeg)]) (st := []) C ml_L_114 fx7 (ct_X7_seed er223) rfl ⟨by decide, by decide, Nat.le_trans (Nat.add_le_add (cL_le _) (by decide : rmX7_seed.cells ≤ 20)) (by decide), Nat.le_trans (Nat.add_le_add (sL_le _) (by decide : rmX7_seed.slots ≤ 1000)) (by decide)⟩ (Nat.le_of_ble_eq_true rfl) rfl dL_law_923 (cs' := (cL (n + 1))) (sl' := (sL (n + 1))) rfl rfl ?_
        refine V_aload_n C dL_law_926 rfl 2 rfl ?_
        refine V_aload_n C dL_law_927 rfl 0 rfl ?_
        refine V_iload_n C dL_law_928 rfl 3 rfl ?_
        refine V_iconst (v := (1 : Int32)) C dL_law_929 (by decide) ?_
        refine V_iadd C dL_law_930 ?_
        obtain ⟨g225, hf⟩ := o_if hf
        refine V_sld C hLX (vp_g g225) dL_law_931 ?_
        obtain ⟨r226, h227, er226, hf⟩ := o_b2 hf
        refine V_callV (as := [vI (xs (v3 + (1 : Int32)).toNatClampNeg)]) (st := [vI r223]) C ml_L_117 fx8 (ct_X8_seed er226) rfl ⟨by decide, by decide, Nat.le_trans (Nat.add_le_add (cL_le _) (by decide : rmX8_seed.cells ≤ 20)) (by decide), Nat.le_trans (Nat.add_le_add (sL_le _) (by decide : rmX8_seed.slots ≤ 1000)) (by decide)⟩ (Nat.le_of_ble_eq_true rfl) rfl dL_law_932 (cs' := (cL (n + 1))) (sl' := (sL (n + 1))) rfl rfl ?_
        refine V_icmp_eq C 1052 dL_law_935 (by decide) (fun c228 => ?_) (fun c228 => ?_)
        · have hf := i_t c228 hf
          refine V_wide (cs' := (cL n)) (sl' := (sL n)) (cL_st hn (by decide : 0 ≤ 12)) (sL_st hn (by decide : 0 ≤ 473)) ?_
          refine V_sub (lv' := [(0, vR 19 (some v0)), (1, vR 7 (some v1)), (2, vR 8 (some v2)), (3, vI v3)]) [0, 1, 2, 3] rfl ?_
          exact p_L_law_1052 hLX hlw hn C (ih (Nat.le_of_lt hn)) hf
        · have hf := i_f c228 hf
          refine V_iconst (v := (0 : Int32)) C dL_law_938 (by decide) ?_
          exact absurd (Option.some.inj hf) (by decide)
      have hf := i_f c221 hf
      by_cases c229 : (xs v3.toNatClampNeg) &&& (31 : Int32) = (24 : Int32)
      · have hf := i_t c229 hf
        refine V_tabIn (off := 907) C 940 dL_law_33 (by rw [c229]; decide) (by rw [c229]; decide) (by rw [c229]; decide) (by decide) ?_
        refine V_aload_n C dL_law_940 rfl 1 rfl ?_
        refine V_aload_n C dL_law_941 rfl 0 rfl ?_
        refine V_iload_n C dL_law_942 rfl 3 rfl ?_
        refine V_iconst (v := (1 : Int32)) C dL_law_943 (by decide) ?_
        refine V_iadd C dL_law_944 ?_
        obtain ⟨g230, hf⟩ := o_if hf
        refine V_sld C hLX (vp_g g230) dL_law_945 ?_
        refine V_aload_n C dL_law_946 rfl 0 rfl ?_
        refine V_iload_n C dL_law_947 rfl 3 rfl ?_
        refine V_iconst (v := (2 : Int32)) C dL_law_948 (by decide) ?_
        refine V_iadd C dL_law_949 ?_
        obtain ⟨g231, hf⟩ := o_if hf
        refine V_sld C hLX (vp_g g231) dL_law_950 ?_
        refine V_aload_n C dL_law_951 rfl 0 rfl ?_
        refine V_iload_n C dL_law_952 rfl 3 rfl ?_
        refine V_iconst (v := (3 : Int32)) C dL_law_953 (by decide) ?_
        refine V_iadd C dL_law_954 ?_
        obtain ⟨g232, hf⟩ := o_if hf
        refine V_sld C hLX (vp_g g232) dL_law_955 ?_
        obtain ⟨r233, h234, er233, hf⟩ := o_b2 hf
        refine V_callV (as := [vI (xs (v3 + (1 : Int32)).toNatClampNeg), vI (xs (v3 + (2 : Int32)).toNatClampNeg), vI (xs (v3 + (3 : Int32)).toNatClampNeg)]) (st := []) C ml_L_118 fx7 (ct_X7_seasons er233) rfl ⟨by decide, by decide, Nat.le_trans (Nat.add_le_add (cL_le _) (by decide : rmX7_seasons.cells ≤ 20)) (by decide), Nat.le_trans (Nat.add_le_add (sL_le _) (by decide : rmX7_seasons.slots ≤ 1000)) (by decide)⟩ (Nat.le_of_ble_eq_true rfl) rfl dL_law_956 (cs' := (cL (n + 1))) (sl' := (sL (n + 1))) rfl rfl ?_
        refine V_aload_n C dL_law_959 rfl 2 rfl ?_
        refine V_aload_n C dL_law_960 rfl 0 rfl ?_
        refine V_iload_n C dL_law_961 rfl 3 rfl ?_
        refine V_iconst (v := (1 : Int32)) C dL_law_962 (by decide) ?_
        refine V_iadd C dL_law_963 ?_
        obtain ⟨g235, hf⟩ := o_if hf
        refine V_sld C hLX (vp_g g235) dL_law_964 ?_
        refine V_aload_n C dL_law_965 rfl 0 rfl ?_
        refine V_iload_n C dL_law_966 rfl 3 rfl ?_
        refine V_iconst (v := (2 : Int32)) C dL_law_967 (by decide) ?_
        refine V_iadd C dL_law_968 ?_
        obtain ⟨g236, hf⟩ := o_if hf
        refine V_sld C hLX (vp_g g236) dL_law_969 ?_
        refine V_aload_n C dL_law_970 rfl 0 rfl ?_
        refine V_iload_n C dL_law_971 rfl 3 rfl ?_
        refine V_iconst (v := (3 : Int32)) C dL_law_972 (by decide) ?_
        refine V_iadd C dL_law_973 ?_
        obtain ⟨g237, hf⟩ := o_if hf
        refine V_sld C hLX (vp_g g237) dL_law_974 ?_
        obtain ⟨r238, h239, er238, hf⟩ := o_b2 hf
        refine V_callV (as := [vI (xs (v3 + (1 : Int32)).toNatClampNeg), vI (xs (v3 + (2 : Int32)).toNatClampNeg), vI (xs (v3 + (3 : Int32)).toNatClampNeg)]) (st := [vI r233]) C ml_L_121 fx8 (ct_X8_seasons er238) rfl ⟨by decide, by decide, Nat.le_trans (Nat.add_le_add (cL_le _) (by decide : rmX8_seasons.cells ≤ 20)) (by decide), Nat.le_trans (Nat.add_le_add (sL_le _) (by decide : rmX8_seasons.slots ≤ 1000)) (by decide)⟩ (Nat.le_of_ble_eq_true rfl) rfl dL_law_975 (cs' := (cL (n + 1))) (sl' := (sL (n + 1))) rfl rfl ?_
        refine V_icmp_eq C 1052 dL_law_978 (by decide) (fun c240 => ?_) (fun c240 => ?_)
        · have hf := i_t c240 hf
          refine V_wide (cs' := (cL n)) (sl' := (sL n)) (cL_st hn (by decide : 0 ≤ 12)) (sL_st hn (by decide : 0 ≤ 473)) ?_
          refine V_sub (lv' := [(0, vR 19 (some v0)), (1, vR 7 (some v1)), (2, vR 8 (some v2)), (3, vI v3)]) [0, 1, 2, 3] rfl ?_
          exact p_L_law_1052 hLX hlw hn C (ih (Nat.le_of_lt hn)) hf
        · have hf := i_f c240 hf
          refine V_iconst (v := (0 : Int32)) C dL_law_981 (by decide) ?_
          exact absurd (Option.some.inj hf) (by decide)
      have hf := i_f c229 hf
      by_cases c241 : (xs v3.toNatClampNeg) &&& (31 : Int32) = (25 : Int32)
      · have hf := i_t c241 hf
        refine V_tabIn (off := 950) C 983 dL_law_33 (by rw [c241]; decide) (by rw [c241]; decide) (by rw [c241]; decide) (by decide) ?_
        refine V_aload_n C dL_law_983 rfl 1 rfl ?_
        refine V_aload_n C dL_law_984 rfl 0 rfl ?_
        refine V_iload_n C dL_law_985 rfl 3 rfl ?_
        refine V_iconst (v := (1 : Int32)) C dL_law_986 (by decide) ?_
        refine V_iadd C dL_law_987 ?_
        obtain ⟨g242, hf⟩ := o_if hf
        refine V_sld C hLX (vp_g g242) dL_law_988 ?_
        obtain ⟨r243, er243, hf⟩ := o_b hf
        refine V_callV (as := [vI (xs (v3 + (1 : Int32)).toNatClampNeg)]) (st := []) C ml_L_122 fx7 (ct_X7_count er243) rfl ⟨by decide, by decide, Nat.le_trans (Nat.add_le_add (cL_le _) (by decide : rmX7_count.cells ≤ 20)) (by decide), Nat.le_trans (Nat.add_le_add (sL_le _) (by decide : rmX7_count.slots ≤ 1000)) (by decide)⟩ (Nat.le_of_ble_eq_true rfl) rfl dL_law_989 (cs' := (cL (n + 1))) (sl' := (sL (n + 1))) rfl rfl ?_
        refine V_aload_n C dL_law_992 rfl 2 rfl ?_
        refine V_aload_n C dL_law_993 rfl 0 rfl ?_
        refine V_iload_n C dL_law_994 rfl 3 rfl ?_
        refine V_iconst (v := (1 : Int32)) C dL_law_995 (by decide) ?_
        refine V_iadd C dL_law_996 ?_
        obtain ⟨g244, hf⟩ := o_if hf
        refine V_sld C hLX (vp_g g244) dL_law_997 ?_
        obtain ⟨r245, er245, hf⟩ := o_b hf
        refine V_callV (as := [vI (xs (v3 + (1 : Int32)).toNatClampNeg)]) (st := [vI r243]) C ml_L_125 fx8 (ct_X8_count er245) rfl ⟨by decide, by decide, Nat.le_trans (Nat.add_le_add (cL_le _) (by decide : rmX8_count.cells ≤ 20)) (by decide), Nat.le_trans (Nat.add_le_add (sL_le _) (by decide : rmX8_count.slots ≤ 1000)) (by decide)⟩ (Nat.le_of_ble_eq_true rfl) rfl dL_law_998 (cs' := (cL (n + 1))) (sl' := (sL (n + 1))) rfl rfl ?_
        refine V_icmp_eq C 1052 dL_law_1001 (by decide) (fun c246 => ?_) (fun c246 => ?_)
        · have hf := i_t c246 hf
          refine V_wide (cs' := (cL n)) (sl' := (sL n)) (cL_st hn (by decide : 0 ≤ 12)) (sL_st hn (by decide : 0 ≤ 473)) ?_
          refine V_sub (lv' := [(0, vR 19 (some v0)), (1, vR 7 (some v1)), (2, vR 8 (some v2)), (3, vI v3)]) [0, 1, 2, 3] rfl ?_
          exact p_L_law_1052 hLX hlw hn C (ih (Nat.le_of_lt hn)) hf
        · have hf := i_f c246 hf
          refine V_iconst (v := (0 : Int32)) C dL_law_1004 (by decide) ?_
          exact absurd (Option.some.inj hf) (by decide)
      have hf := i_f c241 hf
      by_cases c247 : (xs v3.toNatClampNeg) &&& (31 : Int32) = (26 : Int32)
      · have hf := i_t c247 hf
        refine V_tabIn (off := 973) C 1006 dL_law_33 (by rw [c247]; decide) (by rw [c247]; decide) (by rw [c247]; decide) (by decide) ?_
        refine V_aload_n C dL_law_1006 rfl 1 rfl ?_
        refine V_aload_n C dL_law_1007 rfl 0 rfl ?_
        refine V_iload_n C dL_law_1008 rfl 3 rfl ?_
        refine V_iconst (v := (1 : Int32)) C dL_law_1009 (by decide) ?_
        refine V_iadd C dL_law_1010 ?_
        obtain ⟨g248, hf⟩ := o_if hf
        refine V_sld C hLX (vp_g g248) dL_law_1011 ?_
        obtain ⟨r249, h250, er249, hf⟩ := o_b2 hf
        refine V_callV (as := [vI (xs (v3 + (1 : Int32)).toNatClampNeg)]) (st := []) C ml_L_126 fx7 (ct_X7_image er249) rfl ⟨by decide, by decide, Nat.le_trans (Nat.add_le_add (cL_le _) (by decide : rmX7_image.cells ≤ 20)) (by decide), Nat.le_trans (Nat.add_le_add (sL_le _) (by decide : rmX7_image.slots ≤ 1000)) (by decide)⟩ (Nat.le_of_ble_eq_true rfl) rfl dL_law_1012 (cs' := ((cL (n + 1)) + 12)) (sl' := ((sL (n + 1)) + 107)) rfl rfl ?_
        refine V_aload_n C dL_law_1015 rfl 2 rfl ?_
        refine V_aload_n C dL_law_1016 rfl 0 rfl ?_
        refine V_iload_n C dL_law_1017 rfl 3 rfl ?_
        refine V_iconst (v := (1 : Int32)) C dL_law_1018 (by decide) ?_
        refine V_iadd C dL_law_1019 ?_
        obtain ⟨g251, hf⟩ := o_if hf
        refine V_sld C hLX (vp_g g251) dL_law_1020 ?_
        obtain ⟨r252, h253, er252, hf⟩ := o_b2 hf
        refine V_callV (as := [vI (xs (v3 + (1 : Int32)).toNatClampNeg)]) (st := [vI r249]) C ml_L_129 fx8 (ct_X8_image er252) rfl ⟨by decide, by decide, Nat.le_trans (Nat.add_le_add (Nat.add_le_add_right (cL_le _) 12) (by decide : rmX8_image.cells ≤ 20)) (by decide), Nat.le_trans (Nat.add_le_add (Nat.add_le_add_right (sL_le _) 107) (by decide : rmX8_image.slots ≤ 1000)) (by decide)⟩ (Nat.le_of_ble_eq_true rfl) rfl dL_law_1021 (cs' := ((cL (n + 1)) + 12)) (sl' := ((sL (n + 1)) + 107)) rfl rfl ?_
        refine V_icmp_eq C 1052 dL_law_1024 (by decide) (fun c254 => ?_) (fun c254 => ?_)
        · have hf := i_t c254 hf
          refine V_wide (cs' := (cL n)) (sl' := (sL n)) (cL_st hn (by decide : 12 ≤ 12)) (sL_st hn (by decide : 107 ≤ 473)) ?_
          refine V_sub (lv' := [(0, vR 19 (some v0)), (1, vR 7 (some v1)), (2, vR 8 (some v2)), (3, vI v3)]) [0, 1, 2, 3] rfl ?_
          exact p_L_law_1052 hLX hlw hn C (ih (Nat.le_of_lt hn)) hf
        · have hf := i_f c254 hf
          refine V_iconst (v := (0 : Int32)) C dL_law_1027 (by decide) ?_
          exact absurd (Option.some.inj hf) (by decide)
      have hf := i_f c247 hf
      by_cases c255 : (xs v3.toNatClampNeg) &&& (31 : Int32) = (27 : Int32)
      · have hf := i_t c255 hf
        refine V_tabIn (off := 996) C 1029 dL_law_33 (by rw [c255]; decide) (by rw [c255]; decide) (by rw [c255]; decide) (by decide) ?_
        refine V_aload_n C dL_law_1029 rfl 1 rfl ?_
        refine V_aload_n C dL_law_1030 rfl 0 rfl ?_
        refine V_iload_n C dL_law_1031 rfl 3 rfl ?_
        refine V_iconst (v := (1 : Int32)) C dL_law_1032 (by decide) ?_
        refine V_iadd C dL_law_1033 ?_
        obtain ⟨g256, hf⟩ := o_if hf
        refine V_sld C hLX (vp_g g256) dL_law_1034 ?_
        obtain ⟨r257, h258, er257, hf⟩ := o_b2 hf
        refine V_callV (as := [vI (xs (v3 + (1 : Int32)).toNatClampNeg)]) (st := []) C ml_L_130 fx7 (ct_X7_back er257) rfl ⟨by decide, by decide, Nat.le_trans (Nat.add_le_add (cL_le _) (by decide : rmX7_back.cells ≤ 20)) (by decide), Nat.le_trans (Nat.add_le_add (sL_le _) (by decide : rmX7_back.slots ≤ 1000)) (by decide)⟩ (Nat.le_of_ble_eq_true rfl) rfl dL_law_1035 (cs' := (cL (n + 1))) (sl' := (sL (n + 1))) rfl rfl ?_
        refine V_aload_n C dL_law_1038 rfl 2 rfl ?_
        refine V_aload_n C dL_law_1039 rfl 0 rfl ?_
        refine V_iload_n C dL_law_1040 rfl 3 rfl ?_
        refine V_iconst (v := (1 : Int32)) C dL_law_1041 (by decide) ?_
        refine V_iadd C dL_law_1042 ?_
        obtain ⟨g259, hf⟩ := o_if hf
        refine V_sld C hLX (vp_g g259) dL_law_1043 ?_
        obtain ⟨r260, h261, er260, hf⟩ := o_b2 hf
        refine V_callV (as := [vI (xs (v3 + (1 : Int32)).toNatClampNeg)]) (st := [vI r257]) C ml_L_133 fx8 (ct_X8_back er260) rfl ⟨by decide, by decide, Nat.le_trans (Nat.add_le_add (cL_le _) (by decide : rmX8_back.cells ≤ 20)) (by decide), Nat.le_trans (Nat.add_le_add (sL_le _) (by decide : rmX8_back.slots ≤ 1000)) (by decide)⟩ (Nat.le_of_ble_eq_true rfl) rfl dL_law_1044 (cs' := (cL (n + 1))) (sl' := (sL (n + 1))) rfl rfl ?_
        refine V_icmp_eq C 1052 dL_law_1047 (by decide) (fun c262 => ?_) (fun c262 => ?_)
        · have hf := i_t c262 hf
          refine V_wide (cs' := (cL n)) (sl' := (sL n)) (cL_st hn (by decide : 0 ≤ 12)) (sL_st hn (by decide : 0 ≤ 473)) ?_
          refine V_sub (lv' := [(0, vR 19 (some v0)), (1, vR 7 (some v1)), (2, vR 8 (some v2)), (3, vI v3)]) [0, 1, 2, 3] rfl ?_
          exact p_L_law_1052 hLX hlw hn C (ih (Nat.le_of_lt hn)) hf
        · have hf := i_f c262 hf
          refine V_iconst (v := (0 : Int32)) C dL_law_1050 (by decide) ?_
          exact absurd (Option.some.inj hf) (by decide)
      have hf := i_f c255 hf
      refine V_tabOut C 1052 dL_law_33 (tab_o (fun z z1 z2 => ?_)) (by decide) ?_
      · rcases (show z = 0 ∨ z = 1 ∨ z = 2 ∨ z = 3 ∨ z = 4 ∨ z = 5 ∨ z = 6 ∨ z = 7 ∨ z = 8 ∨ z = 9 ∨ z = 10 ∨ z = 11 ∨ z = 12 ∨ z = 13 ∨ z = 14 ∨ z = 15 ∨ z = 16 ∨ z = 17 ∨ z = 18 ∨ z = 19 ∨ z = 20 ∨ z = 21 ∨ z = 22 ∨ z = 23 ∨ z = 24 ∨ z = 25 ∨ z = 26 ∨ z = 27 by omega) with rfl | rfl | rfl | rfl | rfl | rfl | rfl | rfl | rfl | rfl | rfl | rfl | rfl | rfl | rfl | rfl | rfl | rfl | rfl | rfl | rfl | rfl | rfl | rfl | rfl | rfl | rfl | rfl
        · exact tab_n c31 (by decide)
        · exact tab_n c47 (by decide)
        · exact tab_n c55 (by decide)
        · exact tab_n c61 (by decide)
        · exact tab_n c67 (by decide)
        · exact tab_n c75 (by decide)
        · exact tab_n c83 (by decide)
        · exact tab_n c91 (by decide)
        · exact tab_n c103 (by decide)
        · exact tab_n c115 (by decide)
        · exact tab_n c125 (by decide)
        · exact tab_n c129 (by decide)
        · exact tab_n c137 (by decide)
        · exact tab_n c147 (by decide)
        · exact tab_n c153 (by decide)
        · exact tab_n c157 (by decide)
        · exact tab_n c161 (by decide)
        · exact tab_n c171 (by decide)
        · exact tab_n c177 (by decide)
        · exact tab_n c181 (by decide)
        · exact tab_n c191 (by decide)
        · exact tab_n c201 (by decide)
        · exact tab_n c213 (by decide)
        · exact tab_n c221 (by decide)
        · exact tab_n c229 (by decide)
        · exact tab_n c241 (by decide)
        · exact tab_n c247 (by decide)
        · exact tab_n c255 (by decide)
      refine V_wide (cs' := (cL n)) (sl' := (sL n)) (cL_st hn (by decide : 0 ≤ 12)) (sL_st hn (by decide : 0 ≤ 473)) ?_
      refine V_sub (lv' := [(0, vR 19 (some v0)), (1, vR 7 (some v1)), (2, vR 8 (some v2)), (3, vI v3)]) [0, 1, 2, 3] rfl ?_
      exact p_L_law_1052 hLX hlw hn C (ih (Nat.le_of_lt hn)) hf
def f_L_law (N : Nat) (xs : Nat → Int32) (L : Nat) (h : Hp) : Option Int32 := lt (nO h 7 0) (fun h263 => Option.bind (f_X7_init h263 (hN h)) (fun h264 => lt (nO h264 8 0) (fun h265 => Option.bind (f_X8_init h265 (hN h264)) (fun h266 => f_L_law_18 N xs L 600 h266 (0) (hN h) (hN h264) (0 : Int32)))))
set_option maxHeartbeats 8000000 in
set_option maxRecDepth 100000 in
theorem p_L_law {X : XT} {xs : Nat → Int32} {L : Nat} {b : Nat} (hLX : LX X L xs b) (hlw : LW X b) (C : CX X code "WaterStairLaw" 4 (some .boolean) room_1) {N : Nat} {h : Hp} (hf : f_L_law N xs L h = some 1) : V X 0 0 h 0 [(0, vR 19 (some 0))] [] := by
  unfold f_L_law at hf
  obtain ⟨h263, eh263, hf⟩ := o_l hf
  refine V_new C nl_L_7 (by decide) (by decide) dL_law_0 (V_eqH eh263 ?_)
  refine V_dup C dL_law_3 rfl ?_
  obtain ⟨h264, eh264, hf⟩ := o_b hf
  refine V_callI (as := []) (st := [vR 7 (some (hN h))]) C ml_L_9 (by decide) (ct_X7_init eh264) rfl ⟨by decide, by decide, by decide, by decide⟩ (Nat.le_of_ble_eq_true rfl) rfl dL_law_4 (cs' := 51) (sl' := 17306) rfl rfl ?_
  refine V_astore_n (lv' := [(1, vR 7 (some (hN h))), (0, vR 19 (some (0)))]) C dL_law_7 rfl (by decide) rfl ?_
  obtain ⟨h265, eh265, hf⟩ := o_l hf
  refine V_new C nl_L_10 (by decide) (by decide) dL_law_8 (V_eqH eh265 ?_)
  refine V_dup C dL_law_11 rfl ?_
  obtain ⟨h266, eh266, hf⟩ := o_b hf
  refine V_callI (as := []) (st := [vR 8 (some (hN h264))]) C ml_L_12 (by decide) (ct_X8_init eh266) rfl ⟨by decide, by decide, by decide, by decide⟩ (Nat.le_of_ble_eq_true rfl) rfl dL_law_12 (cs' := 77) (sl' := 55858) rfl rfl ?_
  refine V_astore_n (lv' := [(2, vR 8 (some (hN h264))), (1, vR 7 (some (hN h))), (0, vR 19 (some (0)))]) C dL_law_15 rfl (by decide) rfl ?_
  refine V_iconst (v := (0 : Int32)) C dL_law_16 (by decide) ?_
  refine V_istore_n (lv' := [(3, vI (0 : Int32)), (2, vR 8 (some (hN h264))), (1, vR 7 (some (hN h))), (0, vR 19 (some (0)))]) C dL_law_17 rfl (by decide) rfl ?_
  refine V_wide (cs' := cL 600) (sl' := sL 600) (by decide) (by decide) ?_
  refine V_sub (lv' := [(0, vR 19 (some (0))), (1, vR 7 (some (hN h))), (2, vR 8 (some (hN h264))), (3, vI (0 : Int32))]) [3, 2, 1, 0] rfl ?_
  exact p_L_law_18 hLX hlw C 600 (Nat.le_refl _) _ _ _ _ _ hf
