abbrev rmX0_init : Room := { frames := 1, cells := 6, slots := 57, locals := 20 }
def f_X0_init (h : Hp) (v0 : Nat) (v1 : Nat) : Option (Hp) := lt (nG h) (fun h1 => lt (sP h1 v0 1 (some (hN h))) (fun h2 => lt (nO h2 10 3) (fun h3 => lt (sP h3 v0 2 (some (hN h2))) (fun h4 => lt (nO h4 10 3) (fun h5 => lt (sP h5 v0 3 (some (hN h4))) (fun h6 => lt (sI h6 v0 4 (0 : Int32)) (fun h7 => lt (sI h7 v0 5 (0 : Int32)) (fun h8 => lt (sI h8 v0 6 (0 : Int32)) (fun h9 => lt (sI h9 v0 7 (0 : Int32)) (fun h10 => lt (sP h10 v0 0 (some v1)) (fun h11 => some h11)))))))))))
set_option maxHeartbeats 4000000 in
set_option maxRecDepth 100000 in
theorem p_X0_init {X : XT} {h' : Hp} (C : CX X cX0_init "WaterStair$Dusk" 2 none rmX0_init) (hin : X.2.2.2.2.2.2.2.2.1.name = "<init>") {h : Hp} {v0 : Nat} {v1 : Nat} (hQ : QX X none h' rmX0_init.cells rmX0_init.slots) (hf : f_X0_init h v0 v1 = some h') : V X 0 0 h 0 [(0, vR 0 (some v0)), (1, vR 5 (some v1))] [] := by
  unfold f_X0_init at hf
  refine V_aload_n C dX0_init_0 rfl 0 rfl ?_
  refine V_obj C (by decide) ob_X0_3 ob_i ob_c (by decide) (by decide) dX0_init_1 ?_
  refine V_aload_n C dX0_init_4 rfl 0 rfl ?_
  refine V_iconst (v := (3 : Int32)) C dX0_init_5 (by decide) ?_
  refine V_bipush (v := (16 : Int32)) C dX0_init_6 (by decide) ?_
  obtain ⟨h1, eh1, hf⟩ := o_l hf
  refine V_mna C cl_X0_9 kA10 (by decide) (by decide) dX0_init_8 (V_eqH eh1 ?_)
  obtain ⟨h2, eh2, hf⟩ := o_l hf
  refine V_putR C hin ff_X0_11 rfl (fun _ => ⟨rfl, rfl⟩) rfl (by decide) dX0_init_12 (V_eqH eh2 ?_)
  refine V_aload_n C dX0_init_15 rfl 0 rfl ?_
  refine V_iconst (v := (3 : Int32)) C dX0_init_16 (by decide) ?_
  obtain ⟨h3, eh3, hf⟩ := o_l hf
  refine V_newi C (by decide) (by decide : Int32.toNatClampNeg (3 : Int32) = 3) (by decide) kA10 (by decide) (by decide) dX0_init_17 (V_eqH eh3 ?_)
  obtain ⟨h4, eh4, hf⟩ := o_l hf
  refine V_putR C hin ff_X0_16 rfl (fun _ => ⟨rfl, rfl⟩) rfl (by decide) dX0_init_19 (V_eqH eh4 ?_)
  refine V_aload_n C dX0_init_22 rfl 0 rfl ?_
  refine V_iconst (v := (3 : Int32)) C dX0_init_23 (by decide) ?_
  obtain ⟨h5, eh5, hf⟩ := o_l hf
  refine V_newi C (by decide) (by decide : Int32.toNatClampNeg (3 : Int32) = 3) (by decide) kA10 (by decide) (by decide) dX0_init_24 (V_eqH eh5 ?_)
  obtain ⟨h6, eh6, hf⟩ := o_l hf
  refine V_putR C hin ff_X0_20 rfl (fun _ => ⟨rfl, rfl⟩) rfl (by decide) dX0_init_26 (V_eqH eh6 ?_)
  refine V_aload_n C dX0_init_29 rfl 0 rfl ?_
  refine V_iconst (v := (0 : Int32)) C dX0_init_30 (by decide) ?_
  obtain ⟨h7, eh7, hf⟩ := o_l hf
  refine V_putI C nf_X0_23 rfl (okI_int _) dX0_init_31 (V_eqH eh7 ?_)
  refine V_aload_n C dX0_init_34 rfl 0 rfl ?_
  refine V_iconst (v := (0 : Int32)) C dX0_init_35 (by decide) ?_
  obtain ⟨h8, eh8, hf⟩ := o_l hf
  refine V_putI C nf_X0_27 rfl (okI_int _) dX0_init_36 (V_eqH eh8 ?_)
  refine V_aload_n C dX0_init_39 rfl 0 rfl ?_
  refine V_iconst (v := (0 : Int32)) C dX0_init_40 (by decide) ?_
  obtain ⟨h9, eh9, hf⟩ := o_l hf
  refine V_putI C nf_X0_30 rfl (okI_int _) dX0_init_41 (V_eqH eh9 ?_)
  refine V_aload_n C dX0_init_44 rfl 0 rfl ?_
  refine V_iconst (v := (0 : Int32)) C dX0_init_45 (by decide) ?_
  obtain ⟨h10, eh10, hf⟩ := o_l hf
  refine V_putI C nf_X0_33 rfl (okI_int _) dX0_init_46 (V_eqH eh10 ?_)
  refine V_aload_n C dX0_init_49 rfl 0 rfl ?_
  refine V_aload_n C dX0_init_50 rfl 1 rfl ?_
  obtain ⟨h11, eh11, hf⟩ := o_l hf
  refine V_putR C hin ff_X0_36 rfl (fun _ => ⟨rfl, rfl⟩) rfl (by decide) dX0_init_51 (V_eqH eh11 ?_)
  have hf := Option.some.inj hf
  subst hf
  exact V_vret C hQ dX0_init_54
theorem ct_X0_init {h' : Hp} {h : Hp} {v0 : Nat} {v1 : Nat} (hf : f_X0_init h v0 v1 = some h') (l : Launch) (G : GT) : MC l G yX0_init cX0_init 2 none rmX0_init h [vR 0 (some v0), vR 5 (some v1)] none h' := MC_of (by decide) rfl (Nat.le_of_ble_eq_true rfl) rfl (fun X C hQ hin => p_X0_init C hin hQ hf)
abbrev rmX5_isAsSeen : Room := { frames := 0, cells := 0, slots := 0, locals := 0 }
def f_X5_isAsSeen_37 (N : Nat) (s2 : Hp → Nat → Int32 → Option (Int32)) (h : Hp) (v0 : Nat) (v1 : Int32) : Option (Int32) := s2 h v0 (v1 + (1 : Int32))
set_option maxHeartbeats 4000000 in
set_option maxRecDepth 100000 in
theorem p_X5_isAsSeen_37 {X : XT} {r : Int32} {h : Hp} (C : CX X cX5_isAsSeen "WaterStair$State" 2 (some .boolean) rmX5_isAsSeen) (hQ : QX X (some (vI r)) h rmX5_isAsSeen.cells rmX5_isAsSeen.slots) {N : Nat} {s2 : Hp → Nat → Int32 → Option (Int32)} (S2 : ∀ (v0 : Nat) (v1 : Int32), s2 h v0 v1 = some r → V X 0 0 h 2 [(0, vR 5 (some v0)), (1, vI v1)] [])  {v0 : Nat} {v1 : Int32} (hf : f_X5_isAsSeen_37 N s2 h v0 v1 = some r) : V X 0 0 h 37 [(0, vR 5 (some v0)), (1, vI v1)] [] := by
  unfold f_X5_isAsSeen_37 at hf
  refine V_iinc (lv' := [(1, vI (v1 + (1 : Int32))), (0, vR 5 (some v0))]) C dX5_isAsSeen_37 1 rfl (congrArg (v1 + ·) (by decide : Int32.ofInt (1) = (1 : Int32))) (by decide) rfl ?_
  refine V_goto C 2 dX5_isAsSeen_40 (by decide) ?_
  refine V_sub (lv' := [(0, vR 5 (some v0)), (1, vI (v1 + (1 : Int32)))]) [1, 0] rfl ?_
  exact S2 _ _ hf
def f_X5_isAsSeen_2 (N : Nat) : Nat → Hp → Nat → Int32 → Option (Int32)
  | 0, _, _, _ => none
  | n + 1, h, v0, v1 => if (hI h v0 0) ≤ v1 then (some (1 : Int32)) else (Option.bind (hP h v0 11) (fun q2 => if 0 ≤ v1 ∧ v1.toNatClampNeg < hL h q2 then (if (hI h q2 (v1.toNatClampNeg)) = (-1 : Int32) then (f_X5_isAsSeen_37 N (f_X5_isAsSeen_2 N n) h v0 v1) else (Option.bind (hP h v0 11) (fun q5 => if 0 ≤ v1 ∧ v1.toNatClampNeg < hL h q5 then (Option.bind (hP h v0 8) (fun q7 => if 0 ≤ v1 ∧ v1.toNatClampNeg < hL h q7 then (if (hI h q5 (v1.toNatClampNeg)) = (hI h q7 (v1.toNatClampNeg)) then (f_X5_isAsSeen_37 N (f_X5_isAsSeen_2 N n) h v0 v1) else (some (0 : Int32))) else none)) else none))) else none))
set_option maxHeartbeats 4000000 in
set_option maxRecDepth 100000 in
theorem p_X5_isAsSeen_2 {X : XT} {r : Int32} {h : Hp} (C : CX X cX5_isAsSeen "WaterStair$State" 2 (some .boolean) rmX5_isAsSeen) (hQ : QX X (some (vI r)) h rmX5_isAsSeen.cells rmX5_isAsSeen.slots) {N : Nat}  : ∀ (n : Nat) (v0 : Nat) (v1 : Int32), f_X5_isAsSeen_2 N n h v0 v1 = some r → V X 0 0 h 2 [(0, vR 5 (some v0)), (1, vI v1)] [] := by
  intro n
  induction n with
  | zero =>
    intro v0 v1 hf
    have hf : (none : Option (Int32)) = some _ := hf
    cases hf
  | succ n ih =>
    intro v0 v1 hf
    rw [f_X5_isAsSeen_2] at hf
    refine V_iload_n C dX5_isAsSeen_2 rfl 1 rfl ?_
    refine V_aload_n C dX5_isAsSeen_3 rfl 0 rfl ?_
    refine V_getI C fl_X5_9 rfl dX5_isAsSeen_4 ?_
    refine V_icmp_ge C 43 dX5_isAsSeen_7 (by decide) (fun c1 => ?_) (fun c1 => ?_)
    · have hf := i_t c1 hf
      refine V_iconst (v := (1 : Int32)) C dX5_isAsSeen_43 (by decide) ?_
      have hf := Option.some.inj hf
      subst hf
      exact V_zret C (by decide) hQ dX5_isAsSeen_44
    · have hf := i_f c1 hf
      refine V_aload_n C dX5_isAsSeen_10 rfl 0 rfl ?_
      obtain ⟨q2, eq2, hf⟩ := o_b hf
      refine V_getR C fl_X5_46 rfl rfl (by decide) eq2 dX5_isAsSeen_11 ?_
      refine V_iload_n C dX5_isAsSeen_14 rfl 1 rfl ?_
      obtain ⟨g3, hf⟩ := o_if hf
      refine V_iald C (vp_g g3) rfl dX5_isAsSeen_15 ?_
      refine V_iconst (v := (-1 : Int32)) C dX5_isAsSeen_16 (by decide) ?_
      refine V_icmp_eq C 37 dX5_isAsSeen_17 (by decide) (fun c4 => ?_) (fun c4 => ?_)
      · have hf := i_t c4 hf
        refine V_sub (lv' := [(0, vR 5 (some v0)), (1, vI v1)]) [0, 1] rfl ?_
        exact p_X5_isAsSeen_37 C hQ ih hf
      · have hf := i_f c4 hf
        refine V_aload_n C dX5_isAsSeen_20 rfl 0 rfl ?_
        obtain ⟨q5, eq5, hf⟩ := o_b hf
        refine V_getR C fl_X5_46 rfl rfl (by decide) eq5 dX5_isAsSeen_21 ?_
        refine V_iload_n C dX5_isAsSeen_24 rfl 1 rfl ?_
        obtain ⟨g6, hf⟩ := o_if hf
        refine V_iald C (vp_g g6) rfl dX5_isAsSeen_25 ?_
        refine V_aload_n C dX5_isAsSeen_26 rfl 0 rfl ?_
        obtain ⟨q7, eq7, hf⟩ := o_b hf
        refine V_getR C fl_X5_36 rfl rfl (by decide) eq7 dX5_isAsSeen_27 ?_
        refine V_iload_n C dX5_isAsSeen_30 rfl 1 rfl ?_
        obtain ⟨g8, hf⟩ := o_if hf
        refine V_iald C (vp_g g8) rfl dX5_isAsSeen_31 ?_
        refine V_icmp_eq C 37 dX5_isAsSeen_32 (by decide) (fun c9 => ?_) (fun c9 => ?_)
        · have hf := i_t c9 hf
          refine V_sub (lv' := [(0, vR 5 (some v0)), (1, vI v1)]) [0, 1] rfl ?_
          exact p_X5_isAsSeen_37 C hQ ih hf
        · have hf := i_f c9 hf
          refine V_iconst (v := (0 : Int32)) C dX5_isAsSeen_35 (by decide) ?_
          have hf := Option.some.inj hf
          subst hf
          exact V_zret C (by decide) hQ dX5_isAsSeen_36
def f_X5_isAsSeen (N : Nat) (h : Hp) (v0 : Nat) : Option (Int32) := f_X5_isAsSeen_2 N N h v0 (0 : Int32)
set_option maxHeartbeats 4000000 in
set_option maxRecDepth 100000 in
theorem p_X5_isAsSeen {X : XT} {r : Int32} (C : CX X cX5_isAsSeen "WaterStair$State" 2 (some .boolean) rmX5_isAsSeen) {N : Nat} {h : Hp} {v0 : Nat} (hQ : QX X (some (vI r)) h rmX5_isAsSeen.cells rmX5_isAsSeen.slots) (hf : f_X5_isAsSeen N h v0 = some r) : V X 0 0 h 0 [(0, vR 5 (some v0))] [] := by
  unfold f_X5_isAsSeen at hf
  refine V_iconst (v := (0 : Int32)) C dX5_isAsSeen_0 (by decide) ?_
  refine V_istore_n (lv' := [(1, vI (0 : Int32)), (0, vR 5 (some v0))]) C dX5_isAsSeen_1 rfl (by decide) rfl ?_
  refine V_sub (lv' := [(0, vR 5 (some v0)), (1, vI (0 : Int32))]) [1, 0] rfl ?_
  exact p_X5_isAsSeen_2 C hQ N _ _ hf
theorem ct_X5_isAsSeen {r : Int32} {N : Nat} {h : Hp} {v0 : Nat} (hf : f_X5_isAsSeen N h v0 = some r) (l : Launch) (G : GT) : MC l G yX5_isAsSeen cX5_isAsSeen 2 (some .boolean) rmX5_isAsSeen h [vR 5 (some v0)] (some (vI r)) h := MC_of (by decide) rfl (Nat.le_of_ble_eq_true rfl) rfl (fun X C hQ hin => p_X5_isAsSeen C hQ hf)
abbrev rmX0_noteRow : Room := { frames := 1, cells := 0, slots := 0, locals := 64 }
def f_X0_noteRow_32 (N : Nat) (h : Hp) (v0 : Nat) : Option (Hp) := lt (sI h v0 4 ((hI h v0 4) + (1 : Int32))) (fun h1 => some h1)
set_option maxHeartbeats 4000000 in
set_option maxRecDepth 100000 in
theorem p_X0_noteRow_32 {X : XT} {h' : Hp} (C : CX X cX0_noteRow "WaterStair$Dusk" 1 none rmX0_noteRow) (hQ : QX X none h' rmX0_noteRow.cells rmX0_noteRow.slots) {N : Nat}  {h : Hp} {v0 : Nat} (hf : f_X0_noteRow_32 N h v0 = some h') : V X 0 0 h 32 [(0, vR 0 (some v0))] [] := by
  unfold f_X0_noteRow_32 at hf
  refine V_aload_n C dX0_noteRow_32 rfl 0 rfl ?_
  refine V_dup C dX0_noteRow_33 rfl ?_
  refine V_getI C fl_X0_23 rfl dX0_noteRow_34 ?_
  refine V_iconst (v := (1 : Int32)) C dX0_noteRow_37 (by decide) ?_
  refine V_iadd C dX0_noteRow_38 ?_
  obtain ⟨h1, eh1, hf⟩ := o_l hf
  refine V_putI C nf_X0_23 rfl (okI_int _) dX0_noteRow_39 (V_eqH eh1 ?_)
  have hf := Option.some.inj hf
  subst hf
  exact V_vret C hQ dX0_noteRow_42
def f_X0_noteRow (N : Nat) (h : Hp) (v0 : Nat) : Option (Hp) := Option.bind (hP h v0 0) (fun q2 => Option.bind (f_X5_isAsSeen N h q2) (fun r3 => if r3 = 0 then (some h) else (if hI h v0 4 = 0 then (Option.bind (hP h v0 2) (fun q6 => Option.bind (hP h v0 3) (fun q7 => if 0 + 3 ≤ hL h q6 then (if 0 + 3 ≤ hL h q7 then (lt (sC h q6 q7 (0) (0) (3)) (fun h10 => f_X0_noteRow_32 N h10 v0)) else none) else none))) else (f_X0_noteRow_32 N h v0))))
set_option maxHeartbeats 4000000 in
set_option maxRecDepth 100000 in
theorem p_X0_noteRow {X : XT} {h' : Hp} (C : CX X cX0_noteRow "WaterStair$Dusk" 1 none rmX0_noteRow) {N : Nat} {h : Hp} {v0 : Nat} (hQ : QX X none h' rmX0_noteRow.cells rmX0_noteRow.slots) (hf : f_X0_noteRow N h v0 = some h') : V X 0 0 h 0 [(0, vR 0 (some v0))] [] := by
  unfold f_X0_noteRow at hf
  refine V_aload_n C dX0_noteRow_0 rfl 0 rfl ?_
  obtain ⟨q2, eq2, hf⟩ := o_b hf
  refine V_getR C fl_X0_36 rfl rfl (by decide) eq2 dX0_noteRow_1 ?_
  obtain ⟨r3, er3, hf⟩ := o_b hf
  refine V_callV (as := []) (st := []) C ml_X0_70 fx5 (ct_X5_isAsSeen er3) rfl ⟨by decide, by decide, by decide, by decide⟩ (Nat.le_of_ble_eq_true rfl) rfl dX0_noteRow_4 (cs' := 0) (sl' := 0) rfl rfl ?_
  refine V_if_ne C 11 dX0_noteRow_7 (by decide) (fun c4 => ?_) (fun c4 => ?_)
  · have hf := i_f c4 hf
    refine V_aload_n C dX0_noteRow_11 rfl 0 rfl ?_
    refine V_getI C fl_X0_23 rfl dX0_noteRow_12 ?_
    refine V_if_ne C 32 dX0_noteRow_15 (by decide) (fun c5 => ?_) (fun c5 => ?_)
    · have hf := i_f c5 hf
      refine V_sub (lv' := [(0, vR 0 (some v0))]) [0] rfl ?_
      exact p_X0_noteRow_32 C hQ hf
    · have hf := i_t c5 hf
      refine V_aload_n C dX0_noteRow_18 rfl 0 rfl ?_
      obtain ⟨q6, eq6, hf⟩ := o_b hf
      refine V_getR C fl_X0_16 rfl rfl (by decide) eq6 dX0_noteRow_19 ?_
      refine V_iconst (v := (0 : Int32)) C dX0_noteRow_22 (by decide) ?_
      refine V_aload_n C dX0_noteRow_23 rfl 0 rfl ?_
      obtain ⟨q7, eq7, hf⟩ := o_b hf
      refine V_getR C fl_X0_20 rfl rfl (by decide) eq7 dX0_noteRow_24 ?_
      refine V_iconst (v := (0 : Int32)) C dX0_noteRow_27 (by decide) ?_
      refine V_iconst (v := (3 : Int32)) C dX0_noteRow_28 (by decide) ?_
      obtain ⟨g8, hf⟩ := o_if hf
      obtain ⟨g9, hf⟩ := o_if hf
      obtain ⟨h10, eh10, hf⟩ := o_l hf
      refine V_copyK C ac_X0_74 ac_n ac_s ac_y (by decide) (by decide) (by decide) (by decide : Int32.toNatClampNeg (0 : Int32) = 0) (by decide : Int32.toNatClampNeg (0 : Int32) = 0) (by decide : Int32.toNatClampNeg (3 : Int32) = 3) g8 g9 (by decide) (by decide) dX0_noteRow_29 (V_eqH eh10 ?_)
      refine V_sub (lv' := [(0, vR 0 (some v0))]) [0] rfl ?_
      exact p_X0_noteRow_32 C hQ hf
  · have hf := i_t c4 hf
    have hf := Option.some.inj hf
    subst hf
    exact V_vret C hQ dX0_noteRow_10
theorem ct_X0_noteRow {h' : Hp} {N : Nat} {h : Hp} {v0 : Nat} (hf : f_X0_noteRow N h v0 = some h') (l : Launch) (G : GT) : MC l G yX0_noteRow cX0_noteRow 1 none rmX0_noteRow h [vR 0 (some v0)] none h' := MC_of (by decide) rfl (Nat.le_of_ble_eq_true rfl) rfl (fun X C hQ hin => p_X0_noteRow C hQ hf)
abbrev rmX5_downOf : Room := { frames := 0, cells := 0, slots := 0, locals := 0 }
def f_X5_downOf (h : Hp) (v0 : Int32) : Option (Int32) := some (((v0 - v0 / (49 : Int32) * (49 : Int32)) / (7 : Int32)) - (1 : Int32))
set_option maxHeartbeats 4000000 in
set_option maxRecDepth 100000 in
theorem p_X5_downOf {X : XT} {r : Int32} (C : CX X cX5_downOf "WaterStair$State" 1 (some .int) rmX5_downOf) {h : Hp} {v0 : Int32} (hQ : QX X (some (vI r)) h rmX5_downOf.cells rmX5_downOf.slots) (hf : f_X5_downOf h v0 = some r) : V X 0 0 h 0 [(0, vI v0)] [] := by
  unfold f_X5_downOf at hf
  refine V_iload_n C dX5_downOf_0 rfl 0 rfl ?_
  refine V_bipush (v := (49 : Int32)) C dX5_downOf_1 (by decide) ?_
  refine V_irem C dX5_downOf_3 (by decide) ?_
  refine V_bipush (v := (7 : Int32)) C dX5_downOf_4 (by decide) ?_
  refine V_idiv C dX5_downOf_6 (by decide) ?_
  refine V_iconst (v := (1 : Int32)) C dX5_downOf_7 (by decide) ?_
  refine V_isub C dX5_downOf_8 ?_
  have hf := Option.some.inj hf
  subst hf
  exact V_iret C hQ dX5_downOf_9
theorem ct_X5_downOf {r : Int32} {h : Hp} {v0 : Int32} (hf : f_X5_downOf h v0 = some r) (l : Launch) (G : GT) : MC l G yX5_downOf cX5_downOf 1 (some .int) rmX5_downOf h [vI v0] (some (vI r)) h := MC_of (by decide) rfl (Nat.le_of_ble_eq_true rfl) rfl (fun X C hQ hin => p_X5_downOf C hQ hf)
abbrev rmX5_hasBarge : Room := { frames := 0, cells := 0, slots := 0, locals := 0 }
def f_X5_hasBarge (h : Hp) (v0 : Nat) (v1 : Int32) : Option (Int32) := if v1 < 0 then (some (0 : Int32)) else (if (hI h v0 1) ≤ v1 then (some (0 : Int32)) else (some (1 : Int32)))
set_option maxHeartbeats 4000000 in
set_option maxRecDepth 100000 in
theorem p_X5_hasBarge {X : XT} {r : Int32} (C : CX X cX5_hasBarge "WaterStair$State" 2 (some .boolean) rmX5_hasBarge) {h : Hp} {v0 : Nat} {v1 : Int32} (hQ : QX X (some (vI r)) h rmX5_hasBarge.cells rmX5_hasBarge.slots) (hf : f_X5_hasBarge h v0 v1 = some r) : V X 0 0 h 0 [(0, vR 5 (some v0)), (1, vI v1)] [] := by
  unfold f_X5_hasBarge at hf
  refine V_iload_n C dX5_hasBarge_0 rfl 1 rfl ?_
  refine V_if_lt C 16 dX5_hasBarge_1 (by decide) (fun c1 => ?_) (fun c1 => ?_)
  · have hf := i_t c1 hf
    refine V_iconst (v := (0 : Int32)) C dX5_hasBarge_16 (by decide) ?_
    have hf := Option.some.inj hf
    subst hf
    exact V_zret C (by decide) hQ dX5_hasBarge_17
  · have hf := i_f c1 hf
    refine V_iload_n C dX5_hasBarge_4 rfl 1 rfl ?_
    refine V_aload_n C dX5_hasBarge_5 rfl 0 rfl ?_
    refine V_getI C fl_X5_15 rfl dX5_hasBarge_6 ?_
    refine V_icmp_ge C 16 dX5_hasBarge_9 (by decide) (fun c2 => ?_) (fun c2 => ?_)
    · have hf := i_t c2 hf
      refine V_iconst (v := (0 : Int32)) C dX5_hasBarge_16 (by decide) ?_
      have hf := Option.some.inj hf
      subst hf
      exact V_zret C (by decide) hQ dX5_hasBarge_17
    · have hf := i_f c2 hf
      refine V_iconst (v := (1 : Int32)) C dX5_hasBarge_12 (by decide) ?_
      refine V_goto C 17 dX5_hasBarge_13 (by decide) ?_
      have hf := Option.some.inj hf
      subst hf
      exact V_zret C (by decide) hQ dX5_hasBarge_17
theorem ct_X5_hasBarge {r : Int32} {h : Hp} {v0 : Nat} {v1 : Int32} (hf : f_X5_hasBarge h v0 v1 = some r) (l : Launch) (G : GT) : MC l G yX5_hasBarge cX5_hasBarge 2 (some .boolean) rmX5_hasBarge h [vR 5 (some v0), vI v1] (some (vI r)) h := MC_of (by decide) rfl (Nat.le_of_ble_eq_true rfl) rfl (fun X C hQ hin => p_X5_hasBarge C hQ hf)
abbrev rmX5_upOf : Room := { frames := 0, cells := 0, slots := 0, locals := 0 }
def f_X5_upOf (h : Hp) (v0 : Int32) : Option (Int32) := some ((v0 - v0 / (7 : Int32) * (7 : Int32)) - (1 : Int32))
set_option maxHeartbeats 4000000 in
set_option maxRecDepth 100000 in
theorem p_X5_upOf {X : XT} {r : Int32} (C : CX X cX5_upOf "WaterStair$State" 1 (some .int) rmX5_upOf) {h : Hp} {v0 : Int32} (hQ : QX X (some (vI r)) h rmX5_upOf.cells rmX5_upOf.slots) (hf : f_X5_upOf h v0 = some r) : V X 0 0 h 0 [(0, vI v0)] [] := by
  unfold f_X5_upOf at hf
  refine V_iload_n C dX5_upOf_0 rfl 0 rfl ?_
  refine V_bipush (v := (7 : Int32)) C dX5_upOf_1 (by decide) ?_
  refine V_irem C dX5_upOf_3 (by decide) ?_
  refine V_iconst (v := (1 : Int32)) C dX5_upOf_4 (by decide) ?_
  refine V_isub C dX5_upOf_5 ?_
  have hf := Option.some.inj hf
  subst hf
  exact V_iret C hQ dX5_upOf_6
theorem ct_X5_upOf {r : Int32} {h : Hp} {v0 : Int32} (hf : f_X5_upOf h v0 = some r) (l : Launch) (G : GT) : MC l G yX5_upOf cX5_upOf 1 (some .int) rmX5_upOf h [vI v0] (some (vI r)) h := MC_of (by decide) rfl (Nat.le_of_ble_eq_true rfl) rfl (fun X C hQ hin => p_X5_upOf C hQ hf)
abbrev rmX5_moveBarges : Room := { frames := 1, cells := 0, slots := 0, locals := 21 }
def f_X5_moveBarges_29 (h : Hp) (v0 : Nat) (v2 : Int32) (v4 : Int32) : Option (Hp) := Option.bind (f_X5_hasBarge h v0 v4) (fun r1 => if r1 = 0 then (some h) else (Option.bind (hP h v0 12) (fun q3 => if 0 ≤ v4 ∧ v4.toNatClampNeg < hL h q3 then (lt ((hI h q3 (v4.toNatClampNeg)) - v2) (fun y5 => if 0 ≤ v4 ∧ v4.toNatClampNeg < hL h q3 then (lt (sI h q3 (v4.toNatClampNeg) y5) (fun h7 => some h7)) else none)) else none)))
set_option maxHeartbeats 4000000 in
set_option maxRecDepth 100000 in
theorem p_X5_moveBarges_29 {X : XT} {h' : Hp} (C : CX X cX5_moveBarges "WaterStair$State" 5 none rmX5_moveBarges) (hQ : QX X none h' rmX5_moveBarges.cells rmX5_moveBarges.slots)  {h : Hp} {v0 : Nat} {v2 : Int32} {v4 : Int32} (hf : f_X5_moveBarges_29 h v0 v2 v4 = some h') : V X 0 0 h 29 [(0, vR 5 (some v0)), (2, vI v2), (4, vI v4)] [] := by
  unfold f_X5_moveBarges_29 at hf
  refine V_aload_n C dX5_moveBarges_29 rfl 0 rfl ?_
  refine V_iload C dX5_moveBarges_30 2 rfl ?_
  obtain ⟨r1, er1, hf⟩ := o_b hf
  refine V_callV (as := [vI v4]) (st := []) C ml_X5_92 fx5 (ct_X5_hasBarge er1) rfl ⟨by decide, by decide, by decide, by decide⟩ (Nat.le_of_ble_eq_true rfl) rfl dX5_moveBarges_32 (cs' := 0) (sl' := 0) rfl rfl ?_
  refine V_if_eq C 49 dX5_moveBarges_35 (by decide) (fun c2 => ?_) (fun c2 => ?_)
  · have hf := i_t c2 hf
    have hf := Option.some.inj hf
    subst hf
    exact V_vret C hQ dX5_moveBarges_49
  · have hf := i_f c2 hf
    refine V_aload_n C dX5_moveBarges_38 rfl 0 rfl ?_
    obtain ⟨q3, eq3, hf⟩ := o_b hf
    refine V_getR C fl_X5_49 rfl rfl (by decide) eq3 dX5_moveBarges_39 ?_
    refine V_iload C dX5_moveBarges_42 2 rfl ?_
    refine V_dup2 C dX5_moveBarges_44 rfl rfl ?_
    obtain ⟨g4, hf⟩ := o_if hf
    refine V_iald C (vp_g g4) rfl dX5_moveBarges_45 ?_
    refine V_iload_n C dX5_moveBarges_46 rfl 1 rfl ?_
    refine V_isub C dX5_moveBarges_47 ?_
    obtain ⟨y5, ey5, hf⟩ := o_l hf
    refine V_eqI ey5 ?_
    obtain ⟨g6, hf⟩ := o_if hf
    obtain ⟨h7, eh7, hf⟩ := o_l hf
    refine V_iast C (vp_g g6) rfl dX5_moveBarges_48 (V_eqH eh7 ?_)
    have hf := Option.some.inj hf
    subst hf
    exact V_vret C hQ dX5_moveBarges_49
def f_X5_moveBarges (h : Hp) (v0 : Nat) (v1 : Int32) (v2 : Int32) : Option (Hp) := Option.bind (f_X5_downOf h v1) (fun r8 => Option.bind (f_X5_upOf h v1) (fun r9 => Option.bind (f_X5_hasBarge h v0 r8) (fun r10 => if r10 = 0 then (f_X5_moveBarges_29 h v0 v2 r9) else (Option.bind (hP h v0 12) (fun q12 => if 0 ≤ r8 ∧ r8.toNatClampNeg < hL h q12 then (lt ((hI h q12 (r8.toNatClampNeg)) + v2) (fun y14 => if 0 ≤ r8 ∧ r8.toNatClampNeg < hL h q12 then (lt (sI h q12 (r8.toNatClampNeg) y14) (fun h16 => f_X5_moveBarges_29 h16 v0 v2 r9)) else none)) else none)))))
set_option maxHeartbeats 4000000 in
set_option maxRecDepth 100000 in
theorem p_X5_moveBarges {X : XT} {h' : Hp} (C : CX X cX5_moveBarges "WaterStair$State" 5 none rmX5_moveBarges) {h : Hp} {v0 : Nat} {v1 : Int32} {v2 : Int32} (hQ : QX X none h' rmX5_moveBarges.cells rmX5_moveBarges.slots) (hf : f_X5_moveBarges h v0 v1 v2 = some h') : V X 0 0 h 0 [(0, vR 5 (some v0)), (1, vI v1), (2, vI v2)] [] := by
  unfold f_X5_moveBarges at hf
  refine V_iload_n C dX5_moveBarges_0 rfl 1 rfl ?_
  obtain ⟨r8, er8, hf⟩ := o_b hf
  refine V_callS (as := [vI v1]) (st := []) C ml_X5_74 (ct_X5_downOf er8) rfl ⟨by decide, by decide, by decide, by decide⟩ (Nat.le_of_ble_eq_true rfl) rfl dX5_moveBarges_1 (cs' := 0) (sl' := 0) rfl rfl ?_
  refine V_istore_n (lv' := [(3, vI r8), (0, vR 5 (some v0)), (1, vI v1), (2, vI v2)]) C dX5_moveBarges_4 rfl (by decide) rfl ?_
  refine V_iload_n C dX5_moveBarges_5 rfl 2 rfl ?_
  obtain ⟨r9, er9, hf⟩ := o_b hf
  refine V_callS (as := [vI v1]) (st := []) C ml_X5_77 (ct_X5_upOf er9) rfl ⟨by decide, by decide, by decide, by decide⟩ (Nat.le_of_ble_eq_true rfl) rfl dX5_moveBarges_6 (cs' := 0) (sl' := 0) rfl rfl ?_
  refine V_istore (lv' := [(4, vI r9), (3, vI r8), (0, vR 5 (some v0)), (1, vI v1), (2, vI v2)]) C dX5_moveBarges_9 (by decide) rfl ?_
  refine V_aload_n C dX5_moveBarges_11 rfl 2 rfl ?_
  refine V_iload_n C dX5_moveBarges_12 rfl 1 rfl ?_
  obtain ⟨r10, er10, hf⟩ := o_b hf
  refine V_callV (as := [vI r8]) (st := []) C ml_X5_92 fx5 (ct_X5_hasBarge er10) rfl ⟨by decide, by decide, by decide, by decide⟩ (Nat.le_of_ble_eq_true rfl) rfl dX5_moveBarges_13 (cs' := 0) (sl' := 0) rfl rfl ?_
  refine V_if_eq C 29 dX5_moveBarges_16 (by decide) (fun c11 => ?_) (fun c11 => ?_)
  · have hf := i_t c11 hf
    refine V_sub (lv' := [(0, vR 5 (some v0)), (2, vI v2), (4, vI r9)]) [2, 4, 0] rfl ?_
    exact p_X5_moveBarges_29 C hQ hf
  · have hf := i_f c11 hf
    refine V_aload_n C dX5_moveBarges_19 rfl 2 rfl ?_
    obtain ⟨q12, eq12, hf⟩ := o_b hf
    refine V_getR C fl_X5_49 rfl rfl (by decide) eq12 dX5_moveBarges_20 ?_
    refine V_iload_n C dX5_moveBarges_23 rfl 1 rfl ?_
    refine V_dup2 C dX5_moveBarges_24 rfl rfl ?_
    obtain ⟨g13, hf⟩ := o_if hf
    refine V_iald C (vp_g g13) rfl dX5_moveBarges_25 ?_
    refine V_iload_n C dX5_moveBarges_26 rfl 4 rfl ?_
    refine V_iadd C dX5_moveBarges_27 ?_
    obtain ⟨y14, ey14, hf⟩ := o_l hf
    refine V_eqI ey14 ?_
    obtain ⟨g15, hf⟩ := o_if hf
    obtain ⟨h16, eh16, hf⟩ := o_l hf
    refine V_iast C (vp_g g15) rfl dX5_moveBarges_28 (V_eqH eh16 ?_)
    refine V_sub (lv' := [(0, vR 5 (some v0)), (2, vI v2), (4, vI r9)]) [2, 4, 0] rfl ?_
    exact p_X5_moveBarges_29 C hQ hf
theorem ct_X5_moveBarges {h' : Hp} {h : Hp} {v0 : Nat} {v1 : Int32} {v2 : Int32} (hf : f_X5_moveBarges h v0 v1 v2 = some h') (l : Launch) (G : GT) : MC l G yX5_moveBarges cX5_moveBarges 5 none rmX5_moveBarges h [vR 5 (some v0), vI v1, vI v2] none h' := MC_of (by decide) rfl (Nat.le_of_ble_eq_true rfl) rfl (fun X C hQ hin => p_X5_moveBarges C hQ hf)
abbrev rmX5_hasStep : Room := { frames := 0, cells := 0, slots := 0, locals := 0 }
def f_X5_hasStep (h : Hp) (v0 : Nat) (v1 : Int32) : Option (Int32) := if v1 < 0 then (some (0 : Int32)) else (if ((hI h v0 0) - (1 : Int32)) ≤ v1 then (some (0 : Int32)) else (some (1 : Int32)))
set_option maxHeartbeats 4000000 in
set_option maxRecDepth 100000 in
theorem p_X5_hasStep {X : XT} {r : Int32} (C : CX X cX5_hasStep "WaterStair$State" 2 (some .boolean) rmX5_hasStep) {h : Hp} {v0 : Nat} {v1 : Int32} (hQ : QX X (some (vI r)) h rmX5_hasStep.cells rmX5_hasStep.slots) (hf : f_X5_hasStep h v0 v1 = some r) : V X 0 0 h 0 [(0, vR 5 (some v0)), (1, vI v1)] [] := by
  unfold f_X5_hasStep at hf
  refine V_iload_n C dX5_hasStep_0 rfl 1 rfl ?_
  refine V_if_lt C 18 dX5_hasStep_1 (by decide) (fun c1 => ?_) (fun c1 => ?_)
  · have hf := i_t c1 hf
    refine V_iconst (v := (0 : Int32)) C dX5_hasStep_18 (by decide) ?_
    have hf := Option.some.inj hf
    subst hf
    exact V_zret C (by decide) hQ dX5_hasStep_19
  · have hf := i_f c1 hf
    refine V_iload_n C dX5_hasStep_4 rfl 1 rfl ?_
    refine V_aload_n C dX5_hasStep_5 rfl 0 rfl ?_
    refine V_getI C fl_X5_9 rfl dX5_hasStep_6 ?_
    refine V_iconst (v := (1 : Int32)) C dX5_hasStep_9 (by decide) ?_
    refine V_isub C dX5_hasStep_10 ?_
    refine V_icmp_ge C 18 dX5_hasStep_11 (by decide) (fun c2 => ?_) (fun c2 => ?_)
    · have hf := i_t c2 hf
      refine V_iconst (v := (0 : Int32)) C dX5_hasStep_18 (by decide) ?_
      have hf := Option.some.inj hf
      subst hf
      exact V_zret C (by decide) hQ dX5_hasStep_19
    · have hf := i_f c2 hf
      refine V_iconst (v := (1 : Int32)) C dX5_hasStep_14 (by decide) ?_
      refine V_goto C 19 dX5_hasStep_15 (by decide) ?_
      have hf := Option.some.inj hf
      subst hf
      exact V_zret C (by decide) hQ dX5_hasStep_19
theorem ct_X5_hasStep {r : Int32} {h : Hp} {v0 : Nat} {v1 : Int32} (hf : f_X5_hasStep h v0 v1 = some r) (l : Launch) (G : GT) : MC l G yX5_hasStep cX5_hasStep 2 (some .boolean) rmX5_hasStep h [vR 5 (some v0), vI v1] (some (vI r)) h := MC_of (by decide) rfl (Nat.le_of_ble_eq_true rfl) rfl (fun X C hQ hin => p_X5_hasStep C hQ hf)
abbrev rmX5_weightOf : Room := { frames := 0, cells := 0, slots := 0, locals := 0 }
def f_X5_weightOf (h : Hp) (v0 : Nat) (v1 : Int32) : Option (Int32) := if v1 < 0 then (some (0 : Int32)) else (if v1 < (hI h v0 1) then (Option.bind (hP h v0 13) (fun q3 => if 0 ≤ v1 ∧ v1.toNatClampNeg < hL h q3 then (some (hI h q3 (v1.toNatClampNeg))) else none)) else (some (0 : Int32)))
set_option maxHeartbeats 4000000 in
set_option maxRecDepth 100000 in
theorem p_X5_weightOf {X : XT} {r : Int32} (C : CX X cX5_weightOf "WaterStair$State" 2 (some .int) rmX5_weightOf) {h : Hp} {v0 : Nat} {v1 : Int32} (hQ : QX X (some (vI r)) h rmX5_weightOf.cells rmX5_weightOf.slots) (hf : f_X5_weightOf h v0 v1 = some r) : V X 0 0 h 0 [(0, vR 5 (some v0)), (1, vI v1)] [] := by
  unfold f_X5_weightOf at hf
  refine V_iload_n C dX5_weightOf_0 rfl 1 rfl ?_
  refine V_if_lt C 12 dX5_weightOf_1 (by decide) (fun c1 => ?_) (fun c1 => ?_)
  · have hf := i_t c1 hf
    refine V_iconst (v := (0 : Int32)) C dX5_weightOf_12 (by decide) ?_
    refine V_goto C 22 dX5_weightOf_13 (by decide) ?_
    have hf := Option.some.inj hf
    subst hf
    exact V_iret C hQ dX5_weightOf_22
  · have hf := i_f c1 hf
    refine V_iload_n C dX5_weightOf_4 rfl 1 rfl ?_
    refine V_aload_n C dX5_weightOf_5 rfl 0 rfl ?_
    refine V_getI C fl_X5_15 rfl dX5_weightOf_6 ?_
    refine V_icmp_lt C 16 dX5_weightOf_9 (by decide) (fun c2 => ?_) (fun c2 => ?_)
    · have hf := i_t c2 hf
      refine V_aload_n C dX5_weightOf_16 rfl 0 rfl ?_
      obtain ⟨q3, eq3, hf⟩ := o_b hf
      refine V_getR C fl_X5_52 rfl rfl (by decide) eq3 dX5_weightOf_17 ?_
      refine V_iload_n C dX5_weightOf_20 rfl 1 rfl ?_
      obtain ⟨g4, hf⟩ := o_if hf
      refine V_iald C (vp_g g4) rfl dX5_weightOf_21 ?_
      have hf := Option.some.inj hf
      subst hf
      exact V_iret C hQ dX5_weightOf_22
    · have hf := i_f c2 hf
      refine V_iconst (v := (0 : Int32)) C dX5_weightOf_12 (by decide) ?_
      refine V_goto C 22 dX5_weightOf_13 (by decide) ?_
      have hf := Option.some.inj hf
      subst hf
      exact V_iret C hQ dX5_weightOf_22
theorem ct_X5_weightOf {r : Int32} {h : Hp} {v0 : Nat} {v1 : Int32} (hf : f_X5_weightOf h v0 v1 = some r) (l : Launch) (G : GT) : MC l G yX5_weightOf cX5_weightOf 2 (some .int) rmX5_weightOf h [vR 5 (some v0), vI v1] (some (vI r)) h := MC_of (by decide) rfl (Nat.le_of_ble_eq_true rfl) rfl (fun X C hQ hin => p_X5_weightOf C hQ hf)
abbrev rmX5_wideOf : Room := { frames := 0, cells := 0, slots := 0, locals := 0 }
def f_X5_wideOf (h : Hp) (v0 : Nat) (v1 : Int32) : Option (Int32) := if v1 < 0 then (some (0 : Int32)) else (if v1 < (hI h v0 1) then (Option.bind (hP h v0 14) (fun q3 => if 0 ≤ v1 ∧ v1.toNatClampNeg < hL h q3 then (some (hI h q3 (v1.toNatClampNeg))) else none)) else (some (0 : Int32)))
set_option maxHeartbeats 4000000 in
set_option maxRecDepth 100000 in
theorem p_X5_wideOf {X : XT} {r : Int32} (C : CX X cX5_wideOf "WaterStair$State" 2 (some .int) rmX5_wideOf) {h : Hp} {v0 : Nat} {v1 : Int32} (hQ : QX X (some (vI r)) h rmX5_wideOf.cells rmX5_wideOf.slots) (hf : f_X5_wideOf h v0 v1 = some r) : V X 0 0 h 0 [(0, vR 5 (some v0)), (1, vI v1)] [] := by
  unfold f_X5_wideOf at hf
  refine V_iload_n C dX5_wideOf_0 rfl 1 rfl ?_
  refine V_if_lt C 12 dX5_wideOf_1 (by decide) (fun c1 => ?_) (fun c1 => ?_)
  · have hf := i_t c1 hf
    refine V_iconst (v := (0 : Int32)) C dX5_wideOf_12 (by decide) ?_
    refine V_goto C 22 dX5_wideOf_13 (by decide) ?_
    have hf := Option.some.inj hf
    subst hf
    exact V_iret C hQ dX5_wideOf_22
  · have hf := i_f c1 hf
    refine V_iload_n C dX5_wideOf_4 rfl 1 rfl ?_
    refine V_aload_n C dX5_wideOf_5 rfl 0 rfl ?_
    refine V_getI C fl_X5_15 rfl dX5_wideOf_6 ?_
    refine V_icmp_lt C 16 dX5_wideOf_9 (by decide) (fun c2 => ?_) (fun c2 => ?_)
    · have hf := i_t c2 hf
      refine V_aload_n C dX5_wideOf_16 rfl 0 rfl ?_
      obtain ⟨q3, eq3, hf⟩ := o_b hf
      refine V_getR C fl_X5_55 rfl rfl (by decide) eq3 dX5_wideOf_17 ?_
      refine V_iload_n C dX5_wideOf_20 rfl 1 rfl ?_
      obtain ⟨g4, hf⟩ := o_if hf
      refine V_iald C (vp_g g4) rfl dX5_wideOf_21 ?_
      have hf := Option.some.inj hf
      subst hf
      exact V_iret C hQ dX5_wideOf_22
    · have hf := i_f c2 hf
      refine V_iconst (v := (0 : Int32)) C dX5_wideOf_12 (by decide) ?_
      refine V_goto C 22 dX5_wideOf_13 (by decide) ?_
      have hf := Option.some.inj hf
      subst hf
      exact V_iret C hQ dX5_wideOf_22
theorem ct_X5_wideOf {r : Int32} {h : Hp} {v0 : Nat} {v1 : Int32} (hf : f_X5_wideOf h v0 v1 = some r) (l : Launch) (G : GT) : MC l G yX5_wideOf cX5_wideOf 2 (some .int) rmX5_wideOf h [vR 5 (some v0), vI v1] (some (vI r)) h := MC_of (by decide) rfl (Nat.le_of_ble_eq_true rfl) rfl (fun X C hQ hin => p_X5_wideOf C hQ hf)
abbrev rmX5_worth : Room := { frames := 1, cells := 0, slots := 0, locals := 21 }
def f_X5_worth (h : Hp) (v0 : Nat) (v1 : Int32) (v2 : Int32) : Option (Int32) := Option.bind (f_X5_wideOf h v0 v1) (fun r1 => Option.bind (f_X5_wideOf h v0 v2) (fun r2 => if (r1 + r2) ≤ 0 then (some (1 : Int32)) else (some (2 : Int32))))
set_option maxHeartbeats 4000000 in
set_option maxRecDepth 100000 in
theorem p_X5_worth {X : XT} {r : Int32} (C : CX X cX5_worth "WaterStair$State" 3 (some .int) rmX5_worth) {h : Hp} {v0 : Nat} {v1 : Int32} {v2 : Int32} (hQ : QX X (some (vI r)) h rmX5_worth.cells rmX5_worth.slots) (hf : f_X5_worth h v0 v1 v2 = some r) : V X 0 0 h 0 [(0, vR 5 (some v0)), (1, vI v1), (2, vI v2)] [] := by
  unfold f_X5_worth at hf
  refine V_aload_n C dX5_worth_0 rfl 0 rfl ?_
  refine V_iload_n C dX5_worth_1 rfl 1 rfl ?_
  obtain ⟨r1, er1, hf⟩ := o_b hf
  refine V_callV (as := [vI v1]) (st := []) C ml_X5_122 fx5 (ct_X5_wideOf er1) rfl ⟨by decide, by decide, by decide, by decide⟩ (Nat.le_of_ble_eq_true rfl) rfl dX5_worth_2 (cs' := 0) (sl' := 0) rfl rfl ?_
  refine V_aload_n C dX5_worth_5 rfl 0 rfl ?_
  refine V_iload_n C dX5_worth_6 rfl 2 rfl ?_
  obtain ⟨r2, er2, hf⟩ := o_b hf
  refine V_callV (as := [vI v2]) (st := [vI r1]) C ml_X5_122 fx5 (ct_X5_wideOf er2) rfl ⟨by decide, by decide, by decide, by decide⟩ (Nat.le_of_ble_eq_true rfl) rfl dX5_worth_7 (cs' := 0) (sl' := 0) rfl rfl ?_
  refine V_iadd C dX5_worth_10 ?_
  refine V_if_le C 18 dX5_worth_11 (by decide) (fun c3 => ?_) (fun c3 => ?_)
  · have hf := i_t c3 hf
    refine V_iconst (v := (1 : Int32)) C dX5_worth_18 (by decide) ?_
    have hf := Option.some.inj hf
    subst hf
    exact V_iret C hQ dX5_worth_19
  · have hf := i_f c3 hf
    refine V_iconst (v := (2 : Int32)) C dX5_worth_14 (by decide) ?_
    refine V_goto C 19 dX5_worth_15 (by decide) ?_
    have hf := Option.some.inj hf
    subst hf
    exact V_iret C hQ dX5_worth_19
theorem ct_X5_worth {r : Int32} {h : Hp} {v0 : Nat} {v1 : Int32} {v2 : Int32} (hf : f_X5_worth h v0 v1 v2 = some r) (l : Launch) (G : GT) : MC l G yX5_worth cX5_worth 3 (some .int) rmX5_worth h [vR 5 (some v0), vI v1, vI v2] (some (vI r)) h := MC_of (by decide) rfl (Nat.le_of_ble_eq_true rfl) rfl (fun X C hQ hin => p_X5_worth C hQ hf)
abbrev rmX5_need : Room := { frames := 2, cells := 0, slots := 0, locals := 43 }
def f_X5_need (h : Hp) (v0 : Nat) (v1 : Int32) (v2 : Int32) : Option (Int32) := Option.bind (f_X5_weightOf h v0 v2) (fun r1 => Option.bind (f_X5_weightOf h v0 v1) (fun r2 => lt (if (0 : Int32) < (r1 + (hI h v0 2)) - r2 then (r1 + (hI h v0 2)) - r2 else (0 : Int32)) (fun y3 => Option.bind (f_X5_worth h v0 v1 v2) (fun r4 => some (y3 * r4)))))
set_option maxHeartbeats 4000000 in
set_option maxRecDepth 100000 in
theorem p_X5_need {X : XT} {r : Int32} (C : CX X cX5_need "WaterStair$State" 4 (some .int) rmX5_need) {h : Hp} {v0 : Nat} {v1 : Int32} {v2 : Int32} (hQ : QX X (some (vI r)) h rmX5_need.cells rmX5_need.slots) (hf : f_X5_need h v0 v1 v2 = some r) : V X 0 0 h 0 [(0, vR 5 (some v0)), (1, vI v1), (2, vI v2)] [] := by
  unfold f_X5_need at hf
  refine V_iconst (v := (0 : Int32)) C dX5_need_0 (by decide) ?_
  refine V_aload_n C dX5_need_1 rfl 0 rfl ?_
  refine V_iload_n C dX5_need_2 rfl 2 rfl ?_
  obtain ⟨r1, er1, hf⟩ := o_b hf
  refine V_callV (as := [vI v2]) (st := [vI (0 : Int32)]) C ml_X5_110 fx5 (ct_X5_weightOf er1) rfl ⟨by decide, by decide, by decide, by decide⟩ (Nat.le_of_ble_eq_true rfl) rfl dX5_need_3 (cs' := 0) (sl' := 0) rfl rfl ?_
  refine V_aload_n C dX5_need_6 rfl 0 rfl ?_
  refine V_getI C fl_X5_18 rfl dX5_need_7 ?_
  refine V_iadd C dX5_need_10 ?_
  refine V_aload_n C dX5_need_11 rfl 0 rfl ?_
  refine V_iload_n C dX5_need_12 rfl 1 rfl ?_
  obtain ⟨r2, er2, hf⟩ := o_b hf
  refine V_callV (as := [vI v1]) (st := [vI (r1 + (hI h v0 2)), vI (0 : Int32)]) C ml_X5_110 fx5 (ct_X5_weightOf er2) rfl ⟨by decide, by decide, by decide, by decide⟩ (Nat.le_of_ble_eq_true rfl) rfl dX5_need_13 (cs' := 0) (sl' := 0) rfl rfl ?_
  refine V_isub C dX5_need_16 ?_
  refine V_mmax C mm_X5_113 mm_smax mm_i mm_cmax (by decide) (Nat.le_of_ble_eq_true rfl) (by decide) (by decide) dX5_need_17 ?_
  obtain ⟨y3, ey3, hf⟩ := o_l hf
  refine V_eqI ey3 ?_
  refine V_istore_n (lv' := [(3, vI y3), (0, vR 5 (some v0)), (1, vI v1), (2, vI v2)]) C dX5_need_20 rfl (by decide) rfl ?_
  refine V_iload_n C dX5_need_21 rfl 0 rfl ?_
  refine V_aload_n C dX5_need_22 rfl 1 rfl ?_
  refine V_iload_n C dX5_need_23 rfl 2 rfl ?_
  refine V_iload_n C dX5_need_24 rfl 3 rfl ?_
  obtain ⟨r4, er4, hf⟩ := o_b hf
  refine V_callV (as := [vI v1, vI v2]) (st := [vI y3]) C ml_X5_119 fx5 (ct_X5_worth er4) rfl ⟨by decide, by decide, by decide, by decide⟩ (Nat.le_of_ble_eq_true rfl) rfl dX5_need_25 (cs' := 0) (sl' := 0) rfl rfl ?_
  refine V_imul C dX5_need_28 ?_
  have hf := Option.some.inj hf
  subst hf
  exact V_iret C hQ dX5_need_29
theorem ct_X5_need {r : Int32} {h : Hp} {v0 : Nat} {v1 : Int32} {v2 : Int32} (hf : f_X5_need h v0 v1 v2 = some r) (l : Launch) (G : GT) : MC l G yX5_need cX5_need 4 (some .int) rmX5_need h [vR 5 (some v0), vI v1, vI v2] (some (vI r)) h := MC_of (by decide) rfl (Nat.le_of_ble_eq_true rfl) rfl (fun X C hQ hin => p_X5_need C hQ hf)
abbrev rmX5_stepOf : Room := { frames := 0, cells := 0, slots := 0, locals := 0 }
def f_X5_stepOf (h : Hp) (v0 : Int32) : Option (Int32) := some (v0 / (49 : Int32))
set_option maxHeartbeats 4000000 in
set_option maxRecDepth 100000 in
theorem p_X5_stepOf {X : XT} {r : Int32} (C : CX X cX5_stepOf "WaterStair$State" 1 (some .int) rmX5_stepOf) {h : Hp} {v0 : Int32} (hQ : QX X (some (vI r)) h rmX5_stepOf.cells rmX5_stepOf.slots) (hf : f_X5_stepOf h v0 = some r) : V X 0 0 h 0 [(0, vI v0)] [] := by
  unfold f_X5_stepOf at hf
  refine V_iload_n C dX5_stepOf_0 rfl 0 rfl ?_
  refine V_bipush (v := (49 : Int32)) C dX5_stepOf_1 (by decide) ?_
  refine V_idiv C dX5_stepOf_3 (by decide) ?_
  have hf := Option.some.inj hf
  subst hf
  exact V_iret C hQ dX5_stepOf_4
theorem ct_X5_stepOf {r : Int32} {h : Hp} {v0 : Int32} (hf : f_X5_stepOf h v0 = some r) (l : Launch) (G : GT) : MC l G yX5_stepOf cX5_stepOf 1 (some .int) rmX5_stepOf h [vI v0] (some (vI r)) h := MC_of (by decide) rfl (Nat.le_of_ble_eq_true rfl) rfl (fun X C hQ hin => p_X5_stepOf C hQ hf)
abbrev rmX5_pour : Room := { frames := 3, cells := 0, slots := 0, locals := 66 }
def f_X5_pour (h : Hp) (v0 : Nat) (v1 : Int32) (v2 : Int32) : Option (Hp) := Option.bind (f_X5_stepOf h v1) (fun r1 => Option.bind (f_X5_hasStep h v0 r1) (fun r2 => if r2 = 0 then (some h) else (Option.bind (f_X5_downOf h v1) (fun r4 => Option.bind (f_X5_upOf h v1) (fun r5 => Option.bind (f_X5_need h v0 r4 r5) (fun r6 => Option.bind (hP h v0 8) (fun q7 => if 0 ≤ r1 ∧ r1.toNatClampNeg < hL h q7 then (lt ((hI h q7 (r1.toNatClampNeg)) - (v2 * r6)) (fun y9 => if 0 ≤ r1 ∧ r1.toNatClampNeg < hL h q7 then (lt (sI h q7 (r1.toNatClampNeg) y9) (fun h11 => Option.bind (hP h11 v0 8) (fun q12 => if 0 ≤ r1 + (1 : Int32) ∧ (r1 + (1 : Int32)).toNatClampNeg < hL h11 q12 then (lt ((hI h11 q12 ((r1 + (1 : Int32)).toNatClampNeg)) + (v2 * r6)) (fun y14 => if 0 ≤ r1 + (1 : Int32) ∧ (r1 + (1 : Int32)).toNatClampNeg < hL h11 q12 then (lt (sI h11 q12 ((r1 + (1 : Int32)).toNatClampNeg) y14) (fun h16 => lt (sI h16 v0 4 ((hI h16 v0 4) + (v2 * r6))) (fun h17 => Option.bind (f_X5_downOf h17 v1) (fun r18 => Option.bind (f_X5_upOf h17 v1) (fun r19 => Option.bind (f_X5_worth h17 v0 r18 r19) (fun r20 => lt (sI h17 v0 3 ((hI h17 v0 3) + (v2 * r20))) (fun h21 => some h21))))))) else none)) else none))) else none)) else none)))))))
set_option maxHeartbeats 4000000 in
set_option maxRecDepth 100000 in
theorem p_X5_pour {X : XT} {h' : Hp} (C : CX X cX5_pour "WaterStair$State" 5 none rmX5_pour) {h : Hp} {v0 : Nat} {v1 : Int32} {v2 : Int32} (hQ : QX X none h' rmX5_pour.cells rmX5_pour.slots) (hf : f_X5_pour h v0 v1 v2 = some h') : V X 0 0 h 0 [(0, vR 5 (some v0)), (1, vI v1), (2, vI v2)] [] := by
  unfold f_X5_pour at hf
  refine V_iload_n C dX5_pour_0 rfl 1 rfl ?_
  obtain ⟨r1, er1, hf⟩ := o_b hf
  refine V_callS (as := [vI v1]) (st := []) C ml_X5_70 (ct_X5_stepOf er1) rfl ⟨by decide, by decide, by decide, by decide⟩ (Nat.le_of_ble_eq_true rfl) rfl dX5_pour_1 (cs' := 0) (sl' := 0) rfl rfl ?_
  refine V_istore_n (lv' := [(3, vI r1), (0, vR 5 (some v0)), (1, vI v1), (2, vI v2)]) C dX5_pour_4 rfl (by decide) rfl ?_
  refine V_aload_n C dX5_pour_5 rfl 1 rfl ?_
  refine V_iload_n C dX5_pour_6 rfl 0 rfl ?_
  obtain ⟨r2, er2, hf⟩ := o_b hf
  refine V_callV (as := [vI r1]) (st := []) C ml_X5_96 fx5 (ct_X5_hasStep er2) rfl ⟨by decide, by decide, by decide, by decide⟩ (Nat.le_of_ble_eq_true rfl) rfl dX5_pour_7 (cs' := 0) (sl' := 0) rfl rfl ?_
  refine V_if_ne C 14 dX5_pour_10 (by decide) (fun c3 => ?_) (fun c3 => ?_)
  · have hf := i_f c3 hf
    refine V_iload_n C dX5_pour_14 rfl 3 rfl ?_
    refine V_aload_n C dX5_pour_15 rfl 1 rfl ?_
    refine V_iload_n C dX5_pour_16 rfl 2 rfl ?_
    obtain ⟨r4, er4, hf⟩ := o_b hf
    refine V_callS (as := [vI v1]) (st := [vR 5 (some v0), vI v2]) C ml_X5_74 (ct_X5_downOf er4) rfl ⟨by decide, by decide, by decide, by decide⟩ (Nat.le_of_ble_eq_true rfl) rfl dX5_pour_17 (cs' := 0) (sl' := 0) rfl rfl ?_
    refine V_iload_n C dX5_pour_20 rfl 2 rfl ?_
    obtain ⟨r5, er5, hf⟩ := o_b hf
    refine V_callS (as := [vI v1]) (st := [vI r4, vR 5 (some v0), vI v2]) C ml_X5_77 (ct_X5_upOf er5) rfl ⟨by decide, by decide, by decide, by decide⟩ (Nat.le_of_ble_eq_true rfl) rfl dX5_pour_21 (cs' := 0) (sl' := 0) rfl rfl ?_
    obtain ⟨r6, er6, hf⟩ := o_b hf
    refine V_callV (as := [vI r4, vI r5]) (st := [vI v2]) C ml_X5_133 fx5 (ct_X5_need er6) rfl ⟨by decide, by decide, by decide, by decide⟩ (Nat.le_of_ble_eq_true rfl) rfl dX5_pour_24 (cs' := 0) (sl' := 0) rfl rfl ?_
    refine V_imul C dX5_pour_27 ?_
    refine V_istore (lv' := [(4, vI (v2 * r6)), (3, vI r1), (0, vR 5 (some v0)), (1, vI v1), (2, vI v2)]) C dX5_pour_28 (by decide) rfl ?_
    refine V_aload_n C dX5_pour_30 rfl 2 rfl ?_
    obtain ⟨q7, eq7, hf⟩ := o_b hf
    refine V_getR C fl_X5_36 rfl rfl (by decide) eq7 dX5_pour_31 ?_
    refine V_iload_n C dX5_pour_34 rfl 1 rfl ?_
    refine V_dup2 C dX5_pour_35 rfl rfl ?_
    obtain ⟨g8, hf⟩ := o_if hf
    refine V_iald C (vp_g g8) rfl dX5_pour_36 ?_
    refine V_iload C dX5_pour_37 0 rfl ?_
    refine V_isub C dX5_pour_39 ?_
    obtain ⟨y9, ey9, hf⟩ := o_l hf
    refine V_eqI ey9 ?_
    obtain ⟨g10, hf⟩ := o_if hf
    obtain ⟨h11, eh11, hf⟩ := o_l hf
    refine V_iast C (vp_g g10) rfl dX5_pour_40 (V_eqH eh11 ?_)
    refine V_aload_n C dX5_pour_41 rfl 2 rfl ?_
    obtain ⟨q12, eq12, hf⟩ := o_b hf
    refine V_getR C fl_X5_36 rfl rfl (by decide) eq12 dX5_pour_42 ?_
    refine V_iload_n C dX5_pour_45 rfl 1 rfl ?_
    refine V_iconst (v := (1 : Int32)) C dX5_pour_46 (by decide) ?_
    refine V_iadd C dX5_pour_47 ?_
    refine V_dup2 C dX5_pour_48 rfl rfl ?_
    obtain ⟨g13, hf⟩ := o_if hf
    refine V_iald C (vp_g g13) rfl dX5_pour_49 ?_
    refine V_iload C dX5_pour_50 0 rfl ?_
    refine V_iadd C dX5_pour_52 ?_
    obtain ⟨y14, ey14, hf⟩ := o_l hf
    refine V_eqI ey14 ?_
    obtain ⟨g15, hf⟩ := o_if hf
    obtain ⟨h16, eh16, hf⟩ := o_l hf
    refine V_iast C (vp_g g15) rfl dX5_pour_53 (V_eqH eh16 ?_)
    refine V_aload_n C dX5_pour_54 rfl 2 rfl ?_
    refine V_dup C dX5_pour_55 rfl ?_
    refine V_getI C fl_X5_24 rfl dX5_pour_56 ?_
    refine V_iload C dX5_pour_59 0 rfl ?_
    refine V_iadd C dX5_pour_61 ?_
    obtain ⟨h17, eh17, hf⟩ := o_l hf
    refine V_putI C nf_X5_24 rfl (okI_int _) dX5_pour_62 (V_eqH eh17 ?_)
    refine V_aload_n C dX5_pour_65 rfl 2 rfl ?_
    refine V_dup C dX5_pour_66 rfl ?_
    refine V_getI C fl_X5_21 rfl dX5_pour_67 ?_
    refine V_iload_n C dX5_pour_70 rfl 4 rfl ?_
    refine V_aload_n C dX5_pour_71 rfl 2 rfl ?_
    refine V_iload_n C dX5_pour_72 rfl 3 rfl ?_
    obtain ⟨r18, er18, hf⟩ := o_b hf
    refine V_callS (as := [vI v1]) (st := [vR 5 (some v0), vI v2, vI (hI h17 v0 3), vR 5 (some v0)]) C ml_X5_74 (ct_X5_downOf er18) rfl ⟨by decide, by decide, by decide, by decide⟩ (Nat.le_of_ble_eq_true rfl) rfl dX5_pour_73 (cs' := 0) (sl' := 0) rfl rfl ?_
    refine V_iload_n C dX5_pour_76 rfl 3 rfl ?_
    obtain ⟨r19, er19, hf⟩ := o_b hf
    refine V_callS (as := [vI v1]) (st := [vI r18, vR 5 (some v0), vI v2, vI (hI h17 v0 3), vR 5 (some v0)]) C ml_X5_77 (ct_X5_upOf er19) rfl ⟨by decide, by decide, by decide, by decide⟩ (Nat.le_of_ble_eq_true rfl) rfl dX5_pour_77 (cs' := 0) (sl' := 0) rfl rfl ?_
    obtain ⟨r20, er20, hf⟩ := o_b hf
    refine V_callV (as := [vI r18, vI r19]) (st := [vI v2, vI (hI h17 v0 3), vR 5 (some v0)]) C ml_X5_119 fx5 (ct_X5_worth er20) rfl ⟨by decide, by decide, by decide, by decide⟩ (Nat.le_of_ble_eq_true rfl) rfl dX5_pour_80 (cs' := 0) (sl' := 0) rfl rfl ?_
    refine V_imul C dX5_pour_83 ?_
    refine V_iadd C dX5_pour_84 ?_
    obtain ⟨h21, eh21, hf⟩ := o_l hf
    refine V_putI C nf_X5_21 rfl (okI_int _) dX5_pour_85 (V_eqH eh21 ?_)
    have hf := Option.some.inj hf
    subst hf
    exact V_vret C hQ dX5_pour_88
  · have hf := i_t c3 hf
    have hf := Option.some.inj hf
    subst hf
    exact V_vret C hQ dX5_pour_13
theorem ct_X5_pour {h' : Hp} {h : Hp} {v0 : Nat} {v1 : Int32} {v2 : Int32} (hf : f_X5_pour h v0 v1 v2 = some h') (l : Launch) (G : GT) : MC l G yX5_pour cX5_pour 5 none rmX5_pour h [vR 5 (some v0), vI v1, vI v2] none h' := MC_of (by decide) rfl (Nat.le_of_ble_eq_true rfl) rfl (fun X C hQ hin => p_X5_pour C hQ hf)
abbrev rmX5_doTip : Room := { frames := 4, cells := 0, slots := 0, locals := 90 }
def f_X5_doTip (h : Hp) (v0 : Nat) (v1 : Int32) : Option (Hp) := Option.bind (f_X5_moveBarges h v0 v1 (1 : Int32)) (fun h1 => Option.bind (f_X5_pour h1 v0 v1 (1 : Int32)) (fun h2 => some h2))
set_option maxHeartbeats 4000000 in
set_option maxRecDepth 100000 in
theorem p_X5_doTip {X : XT} {h' : Hp} (C : CX X cX5_doTip "WaterStair$State" 2 none rmX5_doTip) {h : Hp} {v0 : Nat} {v1 : Int32} (hQ : QX X none h' rmX5_doTip.cells rmX5_doTip.slots) (hf : f_X5_doTip h v0 v1 = some h') : V X 0 0 h 0 [(0, vR 5 (some v0)), (1, vI v1)] [] := by
  unfold f_X5_doTip at hf
  refine V_aload_n C dX5_doTip_0 rfl 0 rfl ?_
  refine V_iload_n C dX5_doTip_1 rfl 1 rfl ?_
  refine V_iconst (v := (1 : Int32)) C dX5_doTip_2 (by decide) ?_
  obtain ⟨h1, eh1, hf⟩ := o_b hf
  refine V_callV (as := [vI v1, vI (1 : Int32)]) (st := []) C ml_X5_167 fx5 (ct_X5_moveBarges eh1) rfl ⟨by decide, by decide, by decide, by decide⟩ (Nat.le_of_ble_eq_true rfl) rfl dX5_doTip_3 (cs' := 0) (sl' := 0) rfl rfl ?_
  refine V_aload_n C dX5_doTip_6 rfl 0 rfl ?_
  refine V_iload_n C dX5_doTip_7 rfl 1 rfl ?_
  refine V_iconst (v := (1 : Int32)) C dX5_doTip_8 (by decide) ?_
  obtain ⟨h2, eh2, hf⟩ := o_b hf
  refine V_callV (as := [vI v1, vI (1 : Int32)]) (st := []) C ml_X5_171 fx5 (ct_X5_pour eh2) rfl ⟨by decide, by decide, by decide, by decide⟩ (Nat.le_of_ble_eq_true rfl) rfl dX5_doTip_9 (cs' := 0) (sl' := 0) rfl rfl ?_
  have hf := Option.some.inj hf
  subst hf
  exact V_vret C hQ dX5_doTip_12
theorem ct_X5_doTip {h' : Hp} {h : Hp} {v0 : Nat} {v1 : Int32} (hf : f_X5_doTip h v0 v1 = some h') (l : Launch) (G : GT) : MC l G yX5_doTip cX5_doTip 2 none rmX5_doTip h [vR 5 (some v0), vI v1] none h' := MC_of (by decide) rfl (Nat.le_of_ble_eq_true rfl) rfl (fun X C hQ hin => p_X5_doTip C hQ hf)
abbrev rmX1_combine : Room := { frames := 0, cells := 0, slots := 0, locals := 0 }
def f_X1_combine (h : Hp) (v0 : Int32) (v1 : Int64) (v3 : Int64) : Option (Int64) := if v0 = (100000 : Int32) then (some (v1 + v3)) else if v0 = (100001 : Int32) then (some (v1 - v3)) else if v0 = (100002 : Int32) then (some (v1 * v3)) else if v0 = (100003 : Int32) then (if lg_cmp v3 (0 : Int64) = 0 then (some (0 : Int64)) else (if ¬ v3 = 0 then (some (v1 / v3)) else none)) else if v0 = (100004 : Int32) then (if 0 ≤ (lg_cmp v1 v3) then (some (0 : Int64)) else (some (1 : Int64))) else if v0 = (100005 : Int32) then (if 0 < (lg_cmp v1 v3) then (some (0 : Int64)) else (some (1 : Int64))) else if v0 = (100006 : Int32) then (if lg_cmp v1 v3 = 0 then (some (1 : Int64)) else (some (0 : Int64))) else if v0 = (100007 : Int32) then (if (lg_cmp v1 v3) < 0 then (some (0 : Int64)) else (some (1 : Int64))) else if v0 = (100008 : Int32) then (if (lg_cmp v1 v3) ≤ 0 then (some (0 : Int64)) else (some (1 : Int64))) else if v0 = (100009 : Int32) then (some (v1 &&& v3)) else (some (v1 ||| v3))
set_option maxHeartbeats 4000000 in
set_option maxRecDepth 100000 in
theorem p_X1_combine {X : XT} {r : Int64} (C : CX X cX1_combine "WaterStair$Rule" 5 (some .long) rmX1_combine) {h : Hp} {v0 : Int32} {v1 : Int64} {v3 : Int64} (hQ : QX X (some (vL r)) h rmX1_combine.cells rmX1_combine.slots) (hf : f_X1_combine h v0 v1 v3 = some r) : V X 0 0 h 0 [(0, vI v0), (1, vL v1), (3, vL v3)] [] := by
  unfold f_X1_combine at hf
  refine V_iload_n C dX1_combine_0 rfl 0 rfl ?_
  by_cases c1 : v0 = (100000 : Int32)
  · have hf := i_t c1 hf
    refine V_tabIn (off := 55) C 56 dX1_combine_1 (by rw [c1]; decide) (by rw [c1]; decide) (by rw [c1]; decide) (by decide) ?_
    refine V_lload_n C dX1_combine_56 rfl 1 rfl ?_
    refine V_lload_n C dX1_combine_57 rfl 2 rfl ?_
    refine V_ladd C dX1_combine_58 ?_
    have hf := Option.some.inj hf
    subst hf
    exact V_lret C hQ dX1_combine_59
  have hf := i_f c1 hf
  by_cases c2 : v0 = (100001 : Int32)
  · have hf := i_t c2 hf
    refine V_tabIn (off := 59) C 60 dX1_combine_1 (by rw [c2]; decide) (by rw [c2]; decide) (by rw [c2]; decide) (by decide) ?_
    refine V_lload_n C dX1_combine_60 rfl 1 rfl ?_
    refine V_lload_n C dX1_combine_61 rfl 2 rfl ?_
    refine V_lsub C dX1_combine_62 ?_
    have hf := Option.some.inj hf
    subst hf
    exact V_lret C hQ dX1_combine_63
  have hf := i_f c2 hf
  by_cases c3 : v0 = (100002 : Int32)
  · have hf := i_t c3 hf
    refine V_tabIn (off := 63) C 64 dX1_combine_1 (by rw [c3]; decide) (by rw [c3]; decide) (by rw [c3]; decide) (by decide) ?_
    refine V_lload_n C dX1_combine_64 rfl 1 rfl ?_
    refine V_lload_n C dX1_combine_65 rfl 2 rfl ?_
    refine V_lmul C dX1_combine_66 ?_
    have hf := Option.some.inj hf
    subst hf
    exact V_lret C hQ dX1_combine_67
  have hf := i_f c3 hf
  by_cases c4 : v0 = (100003 : Int32)
  · have hf := i_t c4 hf
    refine V_tabIn (off := 67) C 68 dX1_combine_1 (by rw [c4]; decide) (by rw [c4]; decide) (by rw [c4]; decide) (by decide) ?_
    refine V_lload_n C dX1_combine_68 rfl 2 rfl ?_
    refine V_lconst (v := (0 : Int64)) C dX1_combine_69 (by decide) ?_
    refine V_lcmp C dX1_combine_70 ?_
    refine V_if_ne C 78 dX1_combine_71 (by decide) (fun c5 => ?_) (fun c5 => ?_)
    · have hf := i_f c5 hf
      refine V_lload_n C dX1_combine_78 rfl 1 rfl ?_
      refine V_lload_n C dX1_combine_79 rfl 2 rfl ?_
      obtain ⟨g6, hf⟩ := o_if hf
      refine V_ldiv C dX1_combine_80 g6 ?_
      have hf := Option.some.inj hf
      subst hf
      exact V_lret C hQ dX1_combine_81
    · have hf := i_t c5 hf
      refine V_lconst (v := (0 : Int64)) C dX1_combine_74 (by decide) ?_
      refine V_goto C 81 dX1_combine_75 (by decide) ?_
      have hf := Option.some.inj hf
      subst hf
      exact V_lret C hQ dX1_combine_81
  have hf := i_f c4 hf
  by_cases c7 : v0 = (100004 : Int32)
  · have hf := i_t c7 hf
    refine V_tabIn (off := 81) C 82 dX1_combine_1 (by rw [c7]; decide) (by rw [c7]; decide) (by rw [c7]; decide) (by decide) ?_
    refine V_lload_n C dX1_combine_82 rfl 1 rfl ?_
    refine V_lload_n C dX1_combine_83 rfl 2 rfl ?_
    refine V_lcmp C dX1_combine_84 ?_
    refine V_if_ge C 92 dX1_combine_85 (by decide) (fun c8 => ?_) (fun c8 => ?_)
    · have hf := i_t c8 hf
      refine V_lconst (v := (0 : Int64)) C dX1_combine_92 (by decide) ?_
      have hf := Option.some.inj hf
      subst hf
      exact V_lret C hQ dX1_combine_93
    · have hf := i_f c8 hf
      refine V_lconst (v := (1 : Int64)) C dX1_combine_88 (by decide) ?_
      refine V_goto C 93 dX1_combine_89 (by decide) ?_
      have hf := Option.some.inj hf
      subst hf
      exact V_lret C hQ dX1_combine_93
  have hf := i_f c7 hf
  by_cases c9 : v0 = (100005 : Int32)
  · have hf := i_t c9 hf
    refine V_tabIn (off := 93) C 94 dX1_combine_1 (by rw [c9]; decide) (by rw [c9]; decide) (by rw [c9]; decide) (by decide) ?_
    refine V_lload_n C dX1_combine_94 rfl 1 rfl ?_
    refine V_lload_n C dX1_combine_95 rfl 2 rfl ?_
    refine V_lcmp C dX1_combine_96 ?_
    refine V_if_gt C 104 dX1_combine_97 (by decide) (fun c10 => ?_) (fun c10 => ?_)
    · have hf := i_t c10 hf
      refine V_lconst (v := (0 : Int64)) C dX1_combine_104 (by decide) ?_
      have hf := Option.some.inj hf
      subst hf
      exact V_lret C hQ dX1_combine_105
    · have hf := i_f c10 hf
      refine V_lconst (v := (1 : Int64)) C dX1_combine_100 (by decide) ?_
      refine V_goto C 105 dX1_combine_101 (by decide) ?_
      have hf := Option.some.inj hf
      subst hf
      exact V_lret C hQ dX1_combine_105
  have hf := i_f c9 hf
  by_cases c11 : v0 = (100006 : Int32)
  · have hf := i_t c11 hf
    refine V_tabIn (off := 105) C 106 dX1_combine_1 (by rw [c11]; decide) (by rw [c11]; decide) (by rw [c11]; decide) (by decide) ?_
    refine V_lload_n C dX1_combine_106 rfl 1 rfl ?_
    refine V_lload_n C dX1_combine_107 rfl 2 rfl ?_
    refine V_lcmp C dX1_combine_108 ?_
    refine V_if_ne C 116 dX1_combine_109 (by decide) (fun c12 => ?_) (fun c12 => ?_)
    · have hf := i_f c12 hf
      refine V_lconst (v := (0 : Int64)) C dX1_combine_116 (by decide) ?_
      have hf := Option.some.inj hf
      subst hf
      exact V_lret C hQ dX1_combine_117
    · have hf := i_t c12 hf
      refine V_lconst (v := (1 : Int64)) C dX1_combine_112 (by decide) ?_
      refine V_goto C 117 dX1_combine_113 (by decide) ?_
      have hf := Option.some.inj hf
      subst hf
      exact V_lret C hQ dX1_combine_117
  have hf := i_f c11 hf
  by_cases c13 : v0 = (100007 : Int32)
  · have hf := i_t c13 hf
    refine V_tabIn (off := 117) C 118 dX1_combine_1 (by rw [c13]; decide) (by rw [c13]; decide) (by rw [c13]; decide) (by decide) ?_
    refine V_lload_n C dX1_combine_118 rfl 1 rfl ?_
    refine V_lload_n C dX1_combine_119 rfl 2 rfl ?_
    refine V_lcmp C dX1_combine_120 ?_
    refine V_if_lt C 128 dX1_combine_121 (by decide) (fun c14 => ?_) (fun c14 => ?_)
    · have hf := i_t c14 hf
      refine V_lconst (v := (0 : Int64)) C dX1_combine_128 (by decide) ?_
      have hf := Option.some.inj hf
      subst hf
      exact V_lret C hQ dX1_combine_129
    · have hf := i_f c14 hf
      refine V_lconst (v := (1 : Int64)) C dX1_combine_124 (by decide) ?_
      refine V_goto C 129 dX1_combine_125 (by decide) ?_
      have hf := Option.some.inj hf
      subst hf
      exact V_lret C hQ dX1_combine_129
  have hf := i_f c13 hf
  by_cases c15 : v0 = (100008 : Int32)
  · have hf := i_t c15 hf
    refine V_tabIn (off := 129) C 130 dX1_combine_1 (by rw [c15]; decide) (by rw [c15]; decide) (by rw [c15]; decide) (by decide) ?_
    refine V_lload_n C dX1_combine_130 rfl 1 rfl ?_
    refine V_lload_n C dX1_combine_131 rfl 2 rfl ?_
    refine V_lcmp C dX1_combine_132 ?_
    refine V_if_le C 140 dX1_combine_133 (by decide) (fun c16 => ?_) (fun c16 => ?_)
    · have hf := i_t c16 hf
      refine V_lconst (v := (0 : Int64)) C dX1_combine_140 (by decide) ?_
      have hf := Option.some.inj hf
      subst hf
      exact V_lret C hQ dX1_combine_141
    · have hf := i_f c16 hf
      refine V_lconst (v := (1 : Int64)) C dX1_combine_136 (by decide) ?_
      refine V_goto C 141 dX1_combine_137 (by decide) ?_
      have hf := Option.some.inj hf
      subst hf
      exact V_lret C hQ dX1_combine_141
  have hf := i_f c15 hf
  by_cases c17 : v0 = (100009 : Int32)
  · have hf := i_t c17 hf
    refine V_tabIn (off := 141) C 142 dX1_combine_1 (by rw [c17]; decide) (by rw [c17]; decide) (by rw [c17]; decide) (by decide) ?_
    refine V_lload_n C dX1_combine_142 rfl 1 rfl ?_
    refine V_lload_n C dX1_combine_143 rfl 2 rfl ?_
    refine V_land C dX1_combine_144 ?_
    have hf := Option.some.inj hf
    subst hf
    exact V_lret C hQ dX1_combine_145
  have hf := i_f c17 hf
  refine V_tabOut C 146 dX1_combine_1 (tab_o (fun z z1 z2 => ?_)) (by decide) ?_
  · rcases (show z = 100000 ∨ z = 100001 ∨ z = 100002 ∨ z = 100003 ∨ z = 100004 ∨ z = 100005 ∨ z = 100006 ∨ z = 100007 ∨ z = 100008 ∨ z = 100009 by omega) with rfl | rfl | rfl | rfl | rfl | rfl | rfl | rfl | rfl | rfl
    · exact tab_n c1 (by decide)
    · exact tab_n c2 (by decide)
    · exact tab_n c3 (by decide)
    · exact tab_n c4 (by decide)
    · exact tab_n c7 (by decide)
    · exact tab_n c9 (by decide)
    · exact tab_n c11 (by decide)
    · exact tab_n c13 (by decide)
    · exact tab_n c15 (by decide)
    · exact tab_n c17 (by decide)
  refine V_lload_n C dX1_combine_146 rfl 1 rfl ?_
  refine V_lload_n C dX1_combine_147 rfl 2 rfl ?_
  refine V_lor C dX1_combine_148 ?_
  have hf := Option.some.inj hf
  subst hf
  exact V_lret C hQ dX1_combine_149
theorem ct_X1_combine {r : Int64} {h : Hp} {v0 : Int32} {v1 : Int64} {v3 : Int64} (hf : f_X1_combine h v0 v1 v3 = some r) (l : Launch) (G : GT) : MC l G yX1_combine cX1_combine 5 (some .long) rmX1_combine h [vI v0, vL v1, vL v3] (some (vL r)) h := MC_of (by decide) rfl (Nat.le_of_ble_eq_true rfl) rfl (fun X C hQ hin => p_X1_combine C hQ hf)
abbrev rmX1_valueOf : Room := { frames := 0, cells := 0, slots := 0, locals := 0 }
def f_X1_valueOf (h : Hp) (v0 : Nat) (v1 : Int32) : Option (Int64) := if ((-1 : Int32) - v1) < 0 then (some (v1.toInt64)) else (if (10 : Int32) ≤ ((-1 : Int32) - v1) then (some (v1.toInt64)) else (Option.bind (hP h v0 1) (fun q3 => if 0 ≤ (-1 : Int32) - v1 ∧ ((-1 : Int32) - v1).toNatClampNeg < hL h q3 then (some (hJ h q3 (((-1 : Int32) - v1).toNatClampNeg))) else none)))
set_option maxHeartbeats 4000000 in
set_option maxRecDepth 100000 in
theorem p_X1_valueOf {X : XT} {r : Int64} (C : CX X cX1_valueOf "WaterStair$Rule" 3 (some .long) rmX1_valueOf) {h : Hp} {v0 : Nat} {v1 : Int32} (hQ : QX X (some (vL r)) h rmX1_valueOf.cells rmX1_valueOf.slots) (hf : f_X1_valueOf h v0 v1 = some r) : V X 0 0 h 0 [(0, vR 1 (some v0)), (1, vI v1)] [] := by
  unfold f_X1_valueOf at hf
  refine V_iconst (v := (-1 : Int32)) C dX1_valueOf_0 (by decide) ?_
  refine V_iload_n C dX1_valueOf_1 rfl 1 rfl ?_
  refine V_isub C dX1_valueOf_2 ?_
  refine V_istore_n (lv' := [(2, vI ((-1 : Int32) - v1)), (0, vR 1 (some v0)), (1, vI v1)]) C dX1_valueOf_3 rfl (by decide) rfl ?_
  refine V_iload_n C dX1_valueOf_4 rfl 0 rfl ?_
  refine V_if_lt C 23 dX1_valueOf_5 (by decide) (fun c1 => ?_) (fun c1 => ?_)
  · have hf := i_t c1 hf
    refine V_iload_n C dX1_valueOf_23 rfl 2 rfl ?_
    refine V_i2l C dX1_valueOf_24 ?_
    have hf := Option.some.inj hf
    subst hf
    exact V_lret C hQ dX1_valueOf_25
  · have hf := i_f c1 hf
    refine V_iload_n C dX1_valueOf_8 rfl 0 rfl ?_
    refine V_bipush (v := (10 : Int32)) C dX1_valueOf_9 (by decide) ?_
    refine V_icmp_ge C 23 dX1_valueOf_11 (by decide) (fun c2 => ?_) (fun c2 => ?_)
    · have hf := i_t c2 hf
      refine V_iload_n C dX1_valueOf_23 rfl 2 rfl ?_
      refine V_i2l C dX1_valueOf_24 ?_
      have hf := Option.some.inj hf
      subst hf
      exact V_lret C hQ dX1_valueOf_25
    · have hf := i_f c2 hf
      refine V_aload_n C dX1_valueOf_14 rfl 1 rfl ?_
      obtain ⟨q3, eq3, hf⟩ := o_b hf
      refine V_getR C fl_X1_9 rfl rfl (by decide) eq3 dX1_valueOf_15 ?_
      refine V_iload_n C dX1_valueOf_18 rfl 0 rfl ?_
      obtain ⟨g4, hf⟩ := o_if hf
      refine V_lald C (vp_g g4) rfl dX1_valueOf_19 ?_
      refine V_goto C 25 dX1_valueOf_20 (by decide) ?_
      have hf := Option.some.inj hf
      subst hf
      exact V_lret C hQ dX1_valueOf_25
theorem ct_X1_valueOf {r : Int64} {h : Hp} {v0 : Nat} {v1 : Int32} (hf : f_X1_valueOf h v0 v1 = some r) (l : Launch) (G : GT) : MC l G yX1_valueOf cX1_valueOf 3 (some .long) rmX1_valueOf h [vR 1 (some v0), vI v1] (some (vL r)) h := MC_of (by decide) rfl (Nat.le_of_ble_eq_true rfl) rfl (fun X C hQ hin => p_X1_valueOf C hQ hf)
abbrev rmX1_holds : Room := { frames := 1, cells := 0, slots := 0, locals := 24 }
def f_X1_holds_124 (N : Nat) (s4 : Hp → Nat → Int32 → Int32 → Option (Int32 × Hp)) (h : Hp) (v0 : Nat) (v1 : Int32) (v2 : Int32) : Option (Int32 × Hp) := s4 h v0 v1 (v2 + (1 : Int32))
set_option maxHeartbeats 4000000 in
set_option maxRecDepth 100000 in
theorem p_X1_holds_124 {X : XT} {r : Int32} {h' : Hp} (C : CX X cX1_holds "WaterStair$Rule" 4 (some .boolean) rmX1_holds) (hQ : QX X (some (vI r)) h' rmX1_holds.cells rmX1_holds.slots) {N : Nat} {s4 : Hp → Nat → Int32 → Int32 → Option (Int32 × Hp)} (S4 : ∀ (h : Hp) (v0 : Nat) (v1 : Int32) (v2 : Int32), s4 h v0 v1 v2 = some ((r, h')) → V X 0 0 h 4 [(0, vR 1 (some v0)), (1, vI v1), (2, vI v2)] []) {h : Hp} {v0 : Nat} {v1 : Int32} {v2 : Int32} (hf : f_X1_holds_124 N s4 h v0 v1 v2 = some ((r, h'))) : V X 0 0 h 124 [(0, vR 1 (some v0)), (1, vI v1), (2, vI v2)] [] := by
  unfold f_X1_holds_124 at hf
  refine V_iinc (lv' := [(2, vI (v2 + (1 : Int32))), (0, vR 1 (some v0)), (1, vI v1)]) C dX1_holds_124 2 rfl (congrArg (v2 + ·) (by decide : Int32.ofInt (1) = (1 : Int32))) (by decide) rfl ?_
  refine V_goto C 4 dX1_holds_127 (by decide) ?_
  refine V_sub (lv' := [(0, vR 1 (some v0)), (1, vI v1), (2, vI (v2 + (1 : Int32)))]) [1, 2, 0] rfl ?_
  exact S4 _ _ _ _ hf
def f_X1_holds_84 (N : Nat) (s4 : Hp → Nat → Int32 → Int32 → Option (Int32 × Hp)) (h : Hp) (v0 : Nat) (v1 : Int32) (v2 : Int32) (v3 : Int32) : Option (Int32 × Hp) := if v3 < (100000 : Int32) then (f_X1_holds_124 N s4 h v0 v1 v2) else (if v1 < (2 : Int32) then (f_X1_holds_124 N s4 h v0 v1 v2) else (Option.bind (hP h v0 2) (fun q3 => Option.bind (hP h v0 2) (fun q4 => if 0 ≤ (v1 + (-1 : Int32)) - (1 : Int32) ∧ ((v1 + (-1 : Int32)) - (1 : Int32)).toNatClampNeg < hL h q4 then (Option.bind (hP h v0 2) (fun q6 => if 0 ≤ v1 + (-1 : Int32) ∧ (v1 + (-1 : Int32)).toNatClampNeg < hL h q6 then (Option.bind (f_X1_combine h v3 (hJ h q4 (((v1 + (-1 : Int32)) - (1 : Int32)).toNatClampNeg)) (hJ h q6 ((v1 + (-1 : Int32)).toNatClampNeg))) (fun r8 => if 0 ≤ (v1 + (-1 : Int32)) - (1 : Int32) ∧ ((v1 + (-1 : Int32)) - (1 : Int32)).toNatClampNeg < hL h q3 then (lt (sJ h q3 (((v1 + (-1 : Int32)) - (1 : Int32)).toNatClampNeg) r8) (fun h10 => f_X1_holds_124 N s4 h10 v0 (v1 + (-1 : Int32)) v2)) else none)) else none)) else none))))
set_option maxHeartbeats 4000000 in
set_option maxRecDepth 100000 in
theorem p_X1_holds_84 {X : XT} {r : Int32} {h' : Hp} (C : CX X cX1_holds "WaterStair$Rule" 4 (some .boolean) rmX1_holds) (hQ : QX X (some (vI r)) h' rmX1_holds.cells rmX1_holds.slots) {N : Nat} {s4 : Hp → Nat → Int32 → Int32 → Option (Int32 × Hp)} (S4 : ∀ (h : Hp) (v0 : Nat) (v1 : Int32) (v2 : Int32), s4 h v0 v1 v2 = some ((r, h')) → V X 0 0 h 4 [(0, vR 1 (some v0)), (1, vI v1), (2, vI v2)] []) {h : Hp} {v0 : Nat} {v1 : Int32} {v2 : Int32} {v3 : Int32} (hf : f_X1_holds_84 N s4 h v0 v1 v2 v3 = some ((r, h'))) : V X 0 0 h 84 [(0, vR 1 (some v0)), (1, vI v1), (2, vI v2), (3, vI v3)] [] := by
  unfold f_X1_holds_84 at hf
  refine V_iload_n C dX1_holds_84 rfl 3 rfl ?_
  refine V_ldc C kc_X1_22 dX1_holds_85 ?_
  refine V_icmp_lt C 124 dX1_holds_87 (by decide) (fun c1 => ?_) (fun c1 => ?_)
  · have hf := i_t c1 hf
    refine V_sub (lv' := [(0, vR 1 (some v0)), (1, vI v1), (2, vI v2)]) [0, 1, 2] rfl ?_
    exact p_X1_holds_124 C hQ S4 hf
  · have hf := i_f c1 hf
    refine V_iload_n C dX1_holds_90 rfl 1 rfl ?_
    refine V_iconst (v := (2 : Int32)) C dX1_holds_91 (by decide) ?_
    refine V_icmp_lt C 124 dX1_holds_92 (by decide) (fun c2 => ?_) (fun c2 => ?_)
    · have hf := i_t c2 hf
      refine V_sub (lv' := [(0, vR 1 (some v0)), (1, vI v1), (2, vI v2)]) [0, 1, 2] rfl ?_
      exact p_X1_holds_124 C hQ S4 hf
    · have hf := i_f c2 hf
      refine V_iinc (lv' := [(1, vI (v1 + (-1 : Int32))), (0, vR 1 (some v0)), (2, vI v2), (3, vI v3)]) C dX1_holds_95 1 rfl (congrArg (v1 + ·) (by decide : Int32.ofInt (-1) = (-1 : Int32))) (by decide) rfl ?_
      refine V_aload_n C dX1_holds_98 rfl 1 rfl ?_
      obtain ⟨q3, eq3, hf⟩ := o_b hf
      refine V_getR C fl_X1_15 rfl rfl (by decide) eq3 dX1_holds_99 ?_
      refine V_iload_n C dX1_holds_102 rfl 0 rfl ?_
      refine V_iconst (v := (1 : Int32)) C dX1_holds_103 (by decide) ?_
      refine V_isub C dX1_holds_104 ?_
      refine V_iload_n C dX1_holds_105 rfl 3 rfl ?_
      refine V_aload_n C dX1_holds_106 rfl 1 rfl ?_
      obtain ⟨q4, eq4, hf⟩ := o_b hf
      refine V_getR C fl_X1_15 rfl rfl (by decide) eq4 dX1_holds_107 ?_
      refine V_iload_n C dX1_holds_110 rfl 0 rfl ?_
      refine V_iconst (v := (1 : Int32)) C dX1_holds_111 (by decide) ?_
      refine V_isub C dX1_holds_112 ?_
      obtain ⟨g5, hf⟩ := o_if hf
      refine V_lald C (vp_g g5) rfl dX1_holds_113 ?_
      refine V_aload_n C dX1_holds_114 rfl 1 rfl ?_
      obtain ⟨q6, eq6, hf⟩ := o_b hf
      refine V_getR C fl_X1_15 rfl rfl (by decide) eq6 dX1_holds_115 ?_
      refine V_iload_n C dX1_holds_118 rfl 0 rfl ?_
      obtain ⟨g7, hf⟩ := o_if hf
      refine V_lald C (vp_g g7) rfl dX1_holds_119 ?_
      obtain ⟨r8, er8, hf⟩ := o_b hf
      refine V_callS (as := [vI v3, vL (hJ h q4 (((v1 + (-1 : Int32)) - (1 : Int32)).toNatClampNeg)), vL (hJ h q6 ((v1 + (-1 : Int32)).toNatClampNeg))]) (st := [vI ((v1 + (-1 : Int32)) - (1 : Int32)), vR 11 (some q3)]) C ml_X1_28 (ct_X1_combine er8) rfl ⟨by decide, by decide, by decide, by decide⟩ (Nat.le_of_ble_eq_true rfl) rfl dX1_holds_120 (cs' := 0) (sl' := 0) rfl rfl ?_
      obtain ⟨g9, hf⟩ := o_if hf
      obtain ⟨h10, eh10, hf⟩ := o_l hf
      refine V_last C (vp_g g9) rfl dX1_holds_123 (V_eqH eh10 ?_)
      refine V_sub (lv' := [(0, vR 1 (some v0)), (1, vI (v1 + (-1 : Int32))), (2, vI v2)]) [1, 0, 2] rfl ?_
      exact p_X1_holds_124 C hQ S4 hf
def f_X1_holds_52 (N : Nat) (s4 : Hp → Nat → Int32 → Int32 → Option (Int32 × Hp)) (h : Hp) (v0 : Nat) (v1 : Int32) (v2 : Int32) (v3 : Int32) : Option (Int32 × Hp) := if v3 = (100011 : Int32) then (if v1 < (1 : Int32) then (f_X1_holds_84 N s4 h v0 v1 v2 v3) else (Option.bind (hP h v0 2) (fun q13 => Option.bind (hP h v0 2) (fun q14 => if 0 ≤ v1 - (1 : Int32) ∧ (v1 - (1 : Int32)).toNatClampNeg < hL h q14 then (lt ((1 : Int64) - (hJ h q14 ((v1 - (1 : Int32)).toNatClampNeg))) (fun y16 => if 0 ≤ v1 - (1 : Int32) ∧ (v1 - (1 : Int32)).toNatClampNeg < hL h q13 then (lt (sJ h q13 ((v1 - (1 : Int32)).toNatClampNeg) y16) (fun h18 => f_X1_holds_124 N s4 h18 v0 v1 v2)) else none)) else none)))) else (f_X1_holds_84 N s4 h v0 v1 v2 v3)
set_option maxHeartbeats 4000000 in
set_option maxRecDepth 100000 in
theorem p_X1_holds_52 {X : XT} {r : Int32} {h' : Hp} (C : CX X cX1_holds "WaterStair$Rule" 4 (some .boolean) rmX1_holds) (hQ : QX X (some (vI r)) h' rmX1_holds.cells rmX1_holds.slots) {N : Nat} {s4 : Hp → Nat → Int32 → Int32 → Option (Int32 × Hp)} (S4 : ∀ (h : Hp) (v0 : Nat) (v1 : Int32) (v2 : Int32), s4 h v0 v1 v2 = some ((r, h')) → V X 0 0 h 4 [(0, vR 1 (some v0)), (1, vI v1), (2, vI v2)] []) {h : Hp} {v0 : Nat} {v1 : Int32} {v2 : Int32} {v3 : Int32} (hf : f_X1_holds_52 N s4 h v0 v1 v2 v3 = some ((r, h'))) : V X 0 0 h 52 [(0, vR 1 (some v0)), (1, vI v1), (2, vI v2), (3, vI v3)] [] := by
  unfold f_X1_holds_52 at hf
  refine V_iload_n C dX1_holds_52 rfl 3 rfl ?_
  refine V_ldc C kc_X1_27 dX1_holds_53 ?_
  refine V_icmp_ne C 84 dX1_holds_55 (by decide) (fun c11 => ?_) (fun c11 => ?_)
  · have hf := i_f c11 hf
    refine V_sub (lv' := [(0, vR 1 (some v0)), (1, vI v1), (2, vI v2), (3, vI v3)]) [0, 1, 2, 3] rfl ?_
    exact p_X1_holds_84 C hQ S4 hf
  · have hf := i_t c11 hf
    refine V_iload_n C dX1_holds_58 rfl 1 rfl ?_
    refine V_iconst (v := (1 : Int32)) C dX1_holds_59 (by decide) ?_
    refine V_icmp_lt C 84 dX1_holds_60 (by decide) (fun c12 => ?_) (fun c12 => ?_)
    · have hf := i_t c12 hf
      refine V_sub (lv' := [(0, vR 1 (some v0)), (1, vI v1), (2, vI v2), (3, vI v3)]) [0, 1, 2, 3] rfl ?_
      exact p_X1_holds_84 C hQ S4 hf
    · have hf := i_f c12 hf
      refine V_aload_n C dX1_holds_63 rfl 0 rfl ?_
      obtain ⟨q13, eq13, hf⟩ := o_b hf
      refine V_getR C fl_X1_15 rfl rfl (by decide) eq13 dX1_holds_64 ?_
      refine V_iload_n C dX1_holds_67 rfl 1 rfl ?_
      refine V_iconst (v := (1 : Int32)) C dX1_holds_68 (by decide) ?_
      refine V_isub C dX1_holds_69 ?_
      refine V_lconst (v := (1 : Int64)) C dX1_holds_70 (by decide) ?_
      refine V_aload_n C dX1_holds_71 rfl 0 rfl ?_
      obtain ⟨q14, eq14, hf⟩ := o_b hf
      refine V_getR C fl_X1_15 rfl rfl (by decide) eq14 dX1_holds_72 ?_
      refine V_iload_n C dX1_holds_75 rfl 1 rfl ?_
      refine V_iconst (v := (1 : Int32)) C dX1_holds_76 (by decide) ?_
      refine V_isub C dX1_holds_77 ?_
      obtain ⟨g15, hf⟩ := o_if hf
      refine V_lald C (vp_g g15) rfl dX1_holds_78 ?_
      refine V_lsub C dX1_holds_79 ?_
      obtain ⟨y16, ey16, hf⟩ := o_l hf
      refine V_eqL ey16 ?_
      obtain ⟨g17, hf⟩ := o_if hf
      obtain ⟨h18, eh18, hf⟩ := o_l hf
      refine V_last C (vp_g g17) rfl dX1_holds_80 (V_eqH eh18 ?_)
      refine V_goto C 124 dX1_holds_81 (by decide) ?_
      refine V_sub (lv' := [(0, vR 1 (some v0)), (1, vI v1), (2, vI v2)]) [0, 1, 2] rfl ?_
      exact p_X1_holds_124 C hQ S4 hf
def f_X1_holds_4 (N : Nat) : Nat → Hp → Nat → Int32 → Int32 → Option (Int32 × Hp)
  | 0, _, _, _, _ => none
  | n + 1, h, v0, v1, v2 => Option.bind (hP h v0 0) (fun q19 => if (nI (hL h q19)) ≤ v2 then (if v1 ≤ 0 then (some (((0 : Int32), h))) else (Option.bind (hP h v0 2) (fun q22 => if 0 < hL h q22 then (if lg_cmp (hJ h q22 (0)) (0 : Int64) = 0 then (some (((0 : Int32), h))) else (some (((1 : Int32), h)))) else none))) else (Option.bind (hP h v0 0) (fun q25 => if 0 ≤ v2 ∧ v2.toNatClampNeg < hL h q25 then (lt (hI h q25 (v2.toNatClampNeg)) (fun y27 => if (100000 : Int32) ≤ y27 then (f_X1_holds_52 N (f_X1_holds_4 N n) h v0 v1 v2 y27) else (Option.bind (hP h v0 2) (fun q29 => if (nI (hL h q29)) ≤ v1 then (f_X1_holds_52 N (f_X1_holds_4 N n) h v0 v1 v2 y27) else (Option.bind (hP h v0 2) (fun q31 => Option.bind (f_X1_valueOf h v0 y27) (fun r32 => if 0 ≤ v1 ∧ v1.toNatClampNeg < hL h q31 then (lt (sJ h q31 (v1.toNatClampNeg) r32) (fun h34 => f_X1_holds_124 N (f_X1_holds_4 N n) h34 v0 (v1 + (1 : Int32)) v2)) else none))))))) else none)))
set_option maxHeartbeats 4000000 in
set_option maxRecDepth 100000 in
theorem p_X1_holds_4 {X : XT} {r : Int32} {h' : Hp} (C : CX X cX1_holds "WaterStair$Rule" 4 (some .boolean) rmX1_holds) (hQ : QX X (some (vI r)) h' rmX1_holds.cells rmX1_holds.slots) {N : Nat}  : ∀ (n : Nat) (h : Hp) (v0 : Nat) (v1 : Int32) (v2 : Int32), f_X1_holds_4 N n h v0 v1 v2 = some ((r, h')) → V X 0 0 h 4 [(0, vR 1 (some v0)), (1, vI v1), (2, vI v2)] [] := by
  intro n
  induction n with
  | zero =>
    intro h v0 v1 v2 hf
    have hf : (none : Option (Int32 × Hp)) = some _ := hf
    cases hf
  | succ n ih =>
    intro h v0 v1 v2 hf
    rw [f_X1_holds_4] at hf
    refine V_iload_n C dX1_holds_4 rfl 2 rfl ?_
    refine V_aload_n C dX1_holds_5 rfl 0 rfl ?_
    obtain ⟨q19, eq19, hf⟩ := o_b hf
    refine V_getR C fl_X1_18 rfl rfl (by decide) eq19 dX1_holds_6 ?_
    refine V_alen C (by decide) (by decide) dX1_holds_9 ?_
    refine V_icmp_ge C 130 dX1_holds_10 (by decide) (fun c20 => ?_) (fun c20 => ?_)
    · have hf := i_t c20 hf
      refine V_iload_n C dX1_holds_130 rfl 1 rfl ?_
      refine V_if_le C 149 dX1_holds_131 (by decide) (fun c21 => ?_) (fun c21 => ?_)
      · have hf := i_t c21 hf
        refine V_iconst (v := (0 : Int32)) C dX1_holds_149 (by decide) ?_
        obtain ⟨hf1, hf2⟩ := Prod.mk.inj (Option.some.inj hf)
        subst hf1
        subst hf2
        exact V_zret C (by decide) hQ dX1_holds_150
      · have hf := i_f c21 hf
        refine V_aload_n C dX1_holds_134 rfl 0 rfl ?_
        obtain ⟨q22, eq22, hf⟩ := o_b hf
        refine V_getR C fl_X1_15 rfl rfl (by decide) eq22 dX1_holds_135 ?_
        refine V_iconst (v := (0 : Int32)) C dX1_holds_138 (by decide) ?_
        obtain ⟨g23, hf⟩ := o_if hf
        refine V_lald C (vp_k (by decide) (by decide) g23) (by decide : Int32.toNatClampNeg (0 : Int32) = 0) dX1_holds_139 ?_
        refine V_lconst (v := (0 : Int64)) C dX1_holds_140 (by decide) ?_
        refine V_lcmp C dX1_holds_141 ?_
        refine V_if_eq C 149 dX1_holds_142 (by decide) (fun c24 => ?_) (fun c24 => ?_)
        · have hf := i_t c24 hf
          refine V_iconst (v := (0 : Int32)) C dX1_holds_149 (by decide) ?_
          obtain ⟨hf1, hf2⟩ := Prod.mk.inj (Option.some.inj hf)
          subst hf1
          subst hf2
          exact V_zret C (by decide) hQ dX1_holds_150
        · have hf := i_f c24 hf
          refine V_iconst (v := (1 : Int32)) C dX1_holds_145 (by decide) ?_
          refine V_goto C 150 dX1_holds_146 (by decide) ?_
          obtain ⟨hf1, hf2⟩ := Prod.mk.inj (Option.some.inj hf)
          subst hf1
          subst hf2
          exact V_zret C (by decide) hQ dX1_holds_150
    · have hf := i_f c20 hf
      refine V_aload_n C dX1_holds_13 rfl 0 rfl ?_
      obtain ⟨q25, eq25, hf⟩ := o_b hf
      refine V_getR C fl_X1_18 rfl rfl (by decide) eq25 dX1_holds_14 ?_
      refine V_iload_n C dX1_holds_17 rfl 2 rfl ?_
      obtain ⟨g26, hf⟩ := o_if hf
      refine V_iald C (vp_g g26) rfl dX1_holds_18 ?_
      obtain ⟨y27, ey27, hf⟩ := o_l hf
      refine V_eqI ey27 ?_
      refine V_istore_n (lv' := [(3, vI y27), (0, vR 1 (some v0)), (1, vI v1), (2, vI v2)]) C dX1_holds_19 rfl (by decide) rfl ?_
      refine V_iload_n C dX1_holds_20 rfl 0 rfl ?_
      refine V_ldc C kc_X1_22 dX1_holds_21 ?_
      refine V_icmp_ge C 52 dX1_holds_23 (by decide) (fun c28 => ?_) (fun c28 => ?_)
      · have hf := i_t c28 hf
        refine V_sub (lv' := [(0, vR 1 (some v0)), (1, vI v1), (2, vI v2), (3, vI y27)]) [1, 2, 3, 0] rfl ?_
        exact p_X1_holds_52 C hQ ih hf
      · have hf := i_f c28 hf
        refine V_iload_n C dX1_holds_26 rfl 2 rfl ?_
        refine V_aload_n C dX1_holds_27 rfl 1 rfl ?_
        obtain ⟨q29, eq29, hf⟩ := o_b hf
        refine V_getR C fl_X1_15 rfl rfl (by decide) eq29 dX1_holds_28 ?_
        refine V_alen C (by decide) (by decide) dX1_holds_31 ?_
        refine V_icmp_ge C 52 dX1_holds_32 (by decide) (fun c30 => ?_) (fun c30 => ?_)
        · have hf := i_t c30 hf
          refine V_sub (lv' := [(0, vR 1 (some v0)), (1, vI v1), (2, vI v2), (3, vI y27)]) [1, 2, 3, 0] rfl ?_
          exact p_X1_holds_52 C hQ ih hf
        · have hf := i_f c30 hf
          refine V_aload_n C dX1_holds_35 rfl 1 rfl ?_
          obtain ⟨q31, eq31, hf⟩ := o_b hf
          refine V_getR C fl_X1_15 rfl rfl (by decide) eq31 dX1_holds_36 ?_
          refine V_iload_n C dX1_holds_39 rfl 2 rfl ?_
          refine V_aload_n C dX1_holds_40 rfl 1 rfl ?_
          refine V_iload_n C dX1_holds_41 rfl 0 rfl ?_
          obtain ⟨r32, er32, hf⟩ := o_b hf
          refine V_callV (as := [vI y27]) (st := [vI v1, vR 11 (some q31)]) C ml_X1_23 fx1 (ct_X1_valueOf er32) rfl ⟨by decide, by decide, by decide, by decide⟩ (Nat.le_of_ble_eq_true rfl) rfl dX1_holds_42 (cs' := 0) (sl' := 0) rfl rfl ?_
          obtain ⟨g33, hf⟩ := o_if hf
          obtain ⟨h34, eh34, hf⟩ := o_l hf
          refine V_last C (vp_g g33) rfl dX1_holds_45 (V_eqH eh34 ?_)
          refine V_iinc (lv' := [(1, vI (v1 + (1 : Int32))), (3, vI y27), (0, vR 1 (some v0)), (2, vI v2)]) C dX1_holds_46 2 rfl (congrArg (v1 + ·) (by decide : Int32.ofInt (1) = (1 : Int32))) (by decide) rfl ?_
          refine V_goto C 124 dX1_holds_49 (by decide) ?_
          refine V_sub (lv' := [(0, vR 1 (some v0)), (1, vI (v1 + (1 : Int32))), (2, vI v2)]) [2, 0, 3] rfl ?_
          exact p_X1_holds_124 C hQ ih hf
def f_X1_holds (N : Nat) (h : Hp) (v0 : Nat) : Option (Int32 × Hp) := f_X1_holds_4 N N h v0 (0 : Int32) (0 : Int32)
set_option maxHeartbeats 4000000 in
set_option maxRecDepth 100000 in
theorem p_X1_holds {X : XT} {r : Int32} {h' : Hp} (C : CX X cX1_holds "WaterStair$Rule" 4 (some .boolean) rmX1_holds) {N : Nat} {h : Hp} {v0 : Nat} (hQ : QX X (some (vI r)) h' rmX1_holds.cells rmX1_holds.slots) (hf : f_X1_holds N h v0 = some ((r, h'))) : V X 0 0 h 0 [(0, vR 1 (some v0))] [] := by
  unfold f_X1_holds at hf
  refine V_iconst (v := (0 : Int32)) C dX1_holds_0 (by decide) ?_
  refine V_istore_n (lv' := [(1, vI (0 : Int32)), (0, vR 1 (some v0))]) C dX1_holds_1 rfl (by decide) rfl ?_
  refine V_iconst (v := (0 : Int32)) C dX1_holds_2 (by decide) ?_
  refine V_istore_n (lv' := [(2, vI (0 : Int32)), (1, vI (0 : Int32)), (0, vR 1 (some v0))]) C dX1_holds_3 rfl (by decide) rfl ?_
  refine V_sub (lv' := [(0, vR 1 (some v0)), (1, vI (0 : Int32)), (2, vI (0 : Int32))]) [2, 1, 0] rfl ?_
  exact p_X1_holds_4 C hQ N _ _ _ _ hf
theorem ct_X1_holds {r : Int32} {h' : Hp} {N : Nat} {h : Hp} {v0 : Nat} (hf : f_X1_holds N h v0 = some ((r, h'))) (l : Launch) (G : GT) : MC l G yX1_holds cX1_holds 4 (some .boolean) rmX1_holds h [vR 1 (some v0)] (some (vI r)) h' := MC_of (by decide) rfl (Nat.le_of_ble_eq_true rfl) rfl (fun X C hQ hin => p_X1_holds C hQ hf)
abbrev rmJ6_bitCount_0f7a4 : Room := { frames := 0, cells := 0, slots := 0, locals := 0 }
def f_J6_bitCount_0f7a4 (h : Hp) (v0 : Int32) : Option (Int32) := lt (v0 - (((v0.toUInt32 >>> ((1 : Int32).toUInt32 &&& Int32.toUInt32 31)).toInt32) &&& (1431655765 : Int32))) (fun y1 => lt ((y1 &&& (858993459 : Int32)) + (((y1.toUInt32 >>> ((2 : Int32).toUInt32 &&& Int32.toUInt32 31)).toInt32) &&& (858993459 : Int32))) (fun y2 => lt ((y2 + ((y2.toUInt32 >>> ((4 : Int32).toUInt32 &&& Int32.toUInt32 31)).toInt32)) &&& (252645135 : Int32)) (fun y3 => lt (y3 + ((y3.toUInt32 >>> ((8 : Int32).toUInt32 &&& Int32.toUInt32 31)).toInt32)) (fun y4 => lt (y4 + ((y4.toUInt32 >>> ((16 : Int32).toUInt32 &&& Int32.toUInt32 31)).toInt32)) (fun y5 => some (y5 &&& (63 : Int32)))))))
set_option maxHeartbeats 4000000 in
set_option maxRecDepth 100000 in
theorem p_J6_bitCount_0f7a4 {X : XT} {r : Int32} (C : CX X cJ6_bitCount_0f7a4 "java/lang/Integer" 1 (some .int) rmJ6_bitCount_0f7a4) {h : Hp} {v0 : Int32} (hQ : QX X (some (vI r)) h rmJ6_bitCount_0f7a4.cells rmJ6_bitCount_0f7a4.slots) (hf : f_J6_bitCount_0f7a4 h v0 = some r) : V X 0 0 h 0 [(0, vI v0)] [] := by
  unfold f_J6_bitCount_0f7a4 at hf
  refine V_iload_n C dJ6_bitCount_0f7a4_0 rfl 0 rfl ?_
  refine V_iload_n C dJ6_bitCount_0f7a4_1 rfl 0 rfl ?_
  refine V_iconst (v := (1 : Int32)) C dJ6_bitCount_0f7a4_2 (by decide) ?_
  refine V_iushr C dJ6_bitCount_0f7a4_3 ?_
  refine V_ldcw C kc_J6_265 dJ6_bitCount_0f7a4_4 ?_
  refine V_iand C dJ6_bitCount_0f7a4_7 ?_
  refine V_isub C dJ6_bitCount_0f7a4_8 ?_
  obtain ⟨y1, ey1, hf⟩ := o_l hf
  refine V_eqI ey1 ?_
  refine V_istore_n (lv' := [(0, vI y1)]) C dJ6_bitCount_0f7a4_9 rfl (by decide) rfl ?_
  refine V_iload_n C dJ6_bitCount_0f7a4_10 rfl 0 rfl ?_
  refine V_ldcw C kc_J6_266 dJ6_bitCount_0f7a4_11 ?_
  refine V_iand C dJ6_bitCount_0f7a4_14 ?_
  refine V_iload_n C dJ6_bitCount_0f7a4_15 rfl 0 rfl ?_
  refine V_iconst (v := (2 : Int32)) C dJ6_bitCount_0f7a4_16 (by decide) ?_
  refine V_iushr C dJ6_bitCount_0f7a4_17 ?_
  refine V_ldcw C kc_J6_266 dJ6_bitCount_0f7a4_18 ?_
  refine V_iand C dJ6_bitCount_0f7a4_21 ?_
  refine V_iadd C dJ6_bitCount_0f7a4_22 ?_
  obtain ⟨y2, ey2, hf⟩ := o_l hf
  refine V_eqI ey2 ?_
  refine V_istore_n (lv' := [(0, vI y2)]) C dJ6_bitCount_0f7a4_23 rfl (by decide) rfl ?_
  refine V_iload_n C dJ6_bitCount_0f7a4_24 rfl 0 rfl ?_
  refine V_iload_n C dJ6_bitCount_0f7a4_25 rfl 0 rfl ?_
  refine V_iconst (v := (4 : Int32)) C dJ6_bitCount_0f7a4_26 (by decide) ?_
  refine V_iushr C dJ6_bitCount_0f7a4_27 ?_
  refine V_iadd C dJ6_bitCount_0f7a4_28 ?_
  refine V_ldcw C kc_J6_267 dJ6_bitCount_0f7a4_29 ?_
  refine V_iand C dJ6_bitCount_0f7a4_32 ?_
  obtain ⟨y3, ey3, hf⟩ := o_l hf
  refine V_eqI ey3 ?_
  refine V_istore_n (lv' := [(0, vI y3)]) C dJ6_bitCount_0f7a4_33 rfl (by decide) rfl ?_
  refine V_iload_n C dJ6_bitCount_0f7a4_34 rfl 0 rfl ?_
  refine V_iload_n C dJ6_bitCount_0f7a4_35 rfl 0 rfl ?_
  refine V_bipush (v := (8 : Int32)) C dJ6_bitCount_0f7a4_36 (by decide) ?_
  refine V_iushr C dJ6_bitCount_0f7a4_38 ?_
  refine V_iadd C dJ6_bitCount_0f7a4_39 ?_
  obtain ⟨y4, ey4, hf⟩ := o_l hf
  refine V_eqI ey4 ?_
  refine V_istore_n (lv' := [(0, vI y4)]) C dJ6_bitCount_0f7a4_40 rfl (by decide) rfl ?_
  refine V_iload_n C dJ6_bitCount_0f7a4_41 rfl 0 rfl ?_
  refine V_iload_n C dJ6_bitCount_0f7a4_42 rfl 0 rfl ?_
  refine V_bipush (v := (16 : Int32)) C dJ6_bitCount_0f7a4_43 (by decide) ?_
  refine V_iushr C dJ6_bitCount_0f7a4_45 ?_
  refine V_iadd C dJ6_bitCount_0f7a4_46 ?_
  obtain ⟨y5, ey5, hf⟩ := o_l hf
  refine V_eqI ey5 ?_
  refine V_istore_n (lv' := [(0, vI y5)]) C dJ6_bitCount_0f7a4_47 rfl (by decide) rfl ?_
  refine V_iload_n C dJ6_bitCount_0f7a4_48 rfl 0 rfl ?_
  refine V_bipush (v := (63 : Int32)) C dJ6_bitCount_0f7a4_49 (by decide) ?_
  refine V_iand C dJ6_bitCount_0f7a4_51 ?_
  have hf := Option.some.inj hf
  subst hf
  exact V_iret C hQ dJ6_bitCount_0f7a4_52
theorem ct_J6_bitCount_0f7a4 {r : Int32} {h : Hp} {v0 : Int32} (hf : f_J6_bitCount_0f7a4 h v0 = some r) (l : Launch) (G : GT) : MC l G yJ6_bitCount_0f7a4 cJ6_bitCount_0f7a4 1 (some .int) rmJ6_bitCount_0f7a4 h [vI v0] (some (vI r)) h := MC_of (by decide) rfl (Nat.le_of_ble_eq_true rfl) rfl (fun X C hQ hin => p_J6_bitCount_0f7a4 C hQ hf)
abbrev rmX5_bargeBitsAt : Room := { frames := 0, cells := 0, slots := 0, locals := 0 }
def f_X5_bargeBitsAt_28 (N : Nat) (s4 : Hp → Nat → Int32 → Int32 → Int32 → Option (Int32)) (h : Hp) (v0 : Nat) (v1 : Int32) (v2 : Int32) (v3 : Int32) : Option (Int32) := s4 h v0 v1 v2 (v3 + (1 : Int32))
set_option maxHeartbeats 4000000 in
set_option maxRecDepth 100000 in
theorem p_X5_bargeBitsAt_28 {X : XT} {r : Int32} {h : Hp} (C : CX X cX5_bargeBitsAt "WaterStair$State" 4 (some .int) rmX5_bargeBitsAt) (hQ : QX X (some (vI r)) h rmX5_bargeBitsAt.cells rmX5_bargeBitsAt.slots) {N : Nat} {s4 : Hp → Nat → Int32 → Int32 → Int32 → Option (Int32)} (S4 : ∀ (v0 : Nat) (v1 : Int32) (v2 : Int32) (v3 : Int32), s4 h v0 v1 v2 v3 = some r → V X 0 0 h 4 [(0, vR 5 (some v0)), (1, vI v1), (2, vI v2), (3, vI v3)] [])  {v0 : Nat} {v1 : Int32} {v2 : Int32} {v3 : Int32} (hf : f_X5_bargeBitsAt_28 N s4 h v0 v1 v2 v3 = some r) : V X 0 0 h 28 [(0, vR 5 (some v0)), (1, vI v1), (2, vI v2), (3, vI v3)] [] := by
  unfold f_X5_bargeBitsAt_28 at hf
  refine V_iinc (lv' := [(3, vI (v3 + (1 : Int32))), (0, vR 5 (some v0)), (1, vI v1), (2, vI v2)]) C dX5_bargeBitsAt_28 3 rfl (congrArg (v3 + ·) (by decide : Int32.ofInt (1) = (1 : Int32))) (by decide) rfl ?_
  refine V_goto C 4 dX5_bargeBitsAt_31 (by decide) ?_
  refine V_sub (lv' := [(0, vR 5 (some v0)), (1, vI v1), (2, vI v2), (3, vI (v3 + (1 : Int32)))]) [1, 2, 3, 0] rfl ?_
  exact S4 _ _ _ _ hf
def f_X5_bargeBitsAt_4 (N : Nat) : Nat → Hp → Nat → Int32 → Int32 → Int32 → Option (Int32)
  | 0, _, _, _, _, _ => none
  | n + 1, h, v0, v1, v2, v3 => if (hI h v0 1) ≤ v3 then (some v2) else (Option.bind (hP h v0 12) (fun q2 => if 0 ≤ v3 ∧ v3.toNatClampNeg < hL h q2 then (if (hI h q2 (v3.toNatClampNeg)) = v1 then (lt (v2 ||| ((1 : Int32) <<< (v3 &&& 31))) (fun y5 => f_X5_bargeBitsAt_28 N (f_X5_bargeBitsAt_4 N n) h v0 v1 y5 v3)) else (f_X5_bargeBitsAt_28 N (f_X5_bargeBitsAt_4 N n) h v0 v1 v2 v3)) else none))
set_option maxHeartbeats 4000000 in
set_option maxRecDepth 100000 in
theorem p_X5_bargeBitsAt_4 {X : XT} {r : Int32} {h : Hp} (C : CX X cX5_bargeBitsAt "WaterStair$State" 4 (some .int) rmX5_bargeBitsAt) (hQ : QX X (some (vI r)) h rmX5_bargeBitsAt.cells rmX5_bargeBitsAt.slots) {N : Nat}  : ∀ (n : Nat) (v0 : Nat) (v1 : Int32) (v2 : Int32) (v3 : Int32), f_X5_bargeBitsAt_4 N n h v0 v1 v2 v3 = some r → V X 0 0 h 4 [(0, vR 5 (some v0)), (1, vI v1), (2, vI v2), (3, vI v3)] [] := by
  intro n
  induction n with
  | zero =>
    intro v0 v1 v2 v3 hf
    have hf : (none : Option (Int32)) = some _ := hf
    cases hf
  | succ n ih =>
    intro v0 v1 v2 v3 hf
    rw [f_X5_bargeBitsAt_4] at hf
    refine V_iload_n C dX5_bargeBitsAt_4 rfl 3 rfl ?_
    refine V_aload_n C dX5_bargeBitsAt_5 rfl 0 rfl ?_
    refine V_getI C fl_X5_15 rfl dX5_bargeBitsAt_6 ?_
    refine V_icmp_ge C 34 dX5_bargeBitsAt_9 (by decide) (fun c1 => ?_) (fun c1 => ?_)
    · have hf := i_t c1 hf
      refine V_iload_n C dX5_bargeBitsAt_34 rfl 2 rfl ?_
      have hf := Option.some.inj hf
      subst hf
      exact V_iret C hQ dX5_bargeBitsAt_35
    · have hf := i_f c1 hf
      refine V_aload_n C dX5_bargeBitsAt_12 rfl 0 rfl ?_
      obtain ⟨q2, eq2, hf⟩ := o_b hf
      refine V_getR C fl_X5_49 rfl rfl (by decide) eq2 dX5_bargeBitsAt_13 ?_
      refine V_iload_n C dX5_bargeBitsAt_16 rfl 3 rfl ?_
      obtain ⟨g3, hf⟩ := o_if hf
      refine V_iald C (vp_g g3) rfl dX5_bargeBitsAt_17 ?_
      refine V_iload_n C dX5_bargeBitsAt_18 rfl 1 rfl ?_
      refine V_icmp_ne C 28 dX5_bargeBitsAt_19 (by decide) (fun c4 => ?_) (fun c4 => ?_)
      · have hf := i_f c4 hf
        refine V_sub (lv' := [(0, vR 5 (some v0)), (1, vI v1), (2, vI v2), (3, vI v3)]) [0, 1, 2, 3] rfl ?_
        exact p_X5_bargeBitsAt_28 C hQ ih hf
      · have hf := i_t c4 hf
        refine V_iload_n C dX5_bargeBitsAt_22 rfl 2 rfl ?_
        refine V_iconst (v := (1 : Int32)) C dX5_bargeBitsAt_23 (by decide) ?_
        refine V_iload_n C dX5_bargeBitsAt_24 rfl 3 rfl ?_
        refine V_ishl C dX5_bargeBitsAt_25 ?_
        refine V_ior C dX5_bargeBitsAt_26 ?_
        obtain ⟨y5, ey5, hf⟩ := o_l hf
        refine V_eqI ey5 ?_
        refine V_istore_n (lv' := [(2, vI y5), (0, vR 5 (some v0)), (1, vI v1), (3, vI v3)]) C dX5_bargeBitsAt_27 rfl (by decide) rfl ?_
        refine V_sub (lv' := [(0, vR 5 (some v0)), (1, vI v1), (2, vI y5), (3, vI v3)]) [1, 2, 0, 3] rfl ?_
        exact p_X5_bargeBitsAt_28 C hQ ih hf
def f_X5_bargeBitsAt (N : Nat) (h : Hp) (v0 : Nat) (v1 : Int32) : Option (Int32) := f_X5_bargeBitsAt_4 N N h v0 v1 (0 : Int32) (0 : Int32)
set_option maxHeartbeats 4000000 in
set_option maxRecDepth 100000 in
theorem p_X5_bargeBitsAt {X : XT} {r : Int32} (C : CX X cX5_bargeBitsAt "WaterStair$State" 4 (some .int) rmX5_bargeBitsAt) {N : Nat} {h : Hp} {v0 : Nat} {v1 : Int32} (hQ : QX X (some (vI r)) h rmX5_bargeBitsAt.cells rmX5_bargeBitsAt.slots) (hf : f_X5_bargeBitsAt N h v0 v1 = some r) : V X 0 0 h 0 [(0, vR 5 (some v0)), (1, vI v1)] [] := by
  unfold f_X5_bargeBitsAt at hf
  refine V_iconst (v := (0 : Int32)) C dX5_bargeBitsAt_0 (by decide) ?_
  refine V_istore_n (lv' := [(2, vI (0 : Int32)), (0, vR 5 (some v0)), (1, vI v1)]) C dX5_bargeBitsAt_1 rfl (by decide) rfl ?_
  refine V_iconst (v := (0 : Int32)) C dX5_bargeBitsAt_2 (by decide) ?_
  refine V_istore_n (lv' := [(3, vI (0 : Int32)), (2, vI (0 : Int32)), (0, vR 5 (some v0)), (1, vI v1)]) C dX5_bargeBitsAt_3 rfl (by decide) rfl ?_
  refine V_sub (lv' := [(0, vR 5 (some v0)), (1, vI v1), (2, vI (0 : Int32)), (3, vI (0 : Int32))]) [2, 3, 1, 0] rfl ?_
  exact p_X5_bargeBitsAt_4 C hQ N _ _ _ _ hf
theorem ct_X5_bargeBitsAt {r : Int32} {N : Nat} {h : Hp} {v0 : Nat} {v1 : Int32} (hf : f_X5_bargeBitsAt N h v0 v1 = some r) (l : Launch) (G : GT) : MC l G yX5_bargeBitsAt cX5_bargeBitsAt 4 (some .int) rmX5_bargeBitsAt h [vR 5 (some v0), vI v1] (some (vI r)) h := MC_of (by decide) rfl (Nat.le_of_ble_eq_true rfl) rfl (fun X C hQ hin => p_X5_bargeBitsAt C hQ hf)
abbrev rmX5_hasSeats : Room := { frames := 1, cells := 0, slots := 0, locals := 23 }
def f_X5_hasSeats_19 (N : Nat) (h : Hp) (v0 : Nat) (v1 : Int32) (v2 : Int32) (s0_ : Int32) : Option (Int32) := if s0_ = 0 then (Option.bind (f_X5_bargeBitsAt N h v0 v1) (fun r2 => Option.bind (f_J6_bitCount_0f7a4 h r2) (fun r3 => Option.bind (hP h v0 9) (fun q4 => if 0 ≤ v1 ∧ v1.toNatClampNeg < hL h q4 then (if (hI h q4 (v1.toNatClampNeg)) < (r3 + v2) then (some (0 : Int32)) else (some (1 : Int32))) else none)))) else (some (1 : Int32))
set_option maxHeartbeats 4000000 in
set_option maxRecDepth 100000 in
theorem p_X5_hasSeats_19 {X : XT} {r : Int32} {h : Hp} (C : CX X cX5_hasSeats "WaterStair$State" 4 (some .boolean) rmX5_hasSeats) (hQ : QX X (some (vI r)) h rmX5_hasSeats.cells rmX5_hasSeats.slots) {N : Nat}   {v0 : Nat} {v1 : Int32} {v2 : Int32} {s0_ : Int32} (hf : f_X5_hasSeats_19 N h v0 v1 v2 s0_ = some r) : V X 0 0 h 19 [(0, vR 5 (some v0)), (1, vI v1), (2, vI v2)] [vI s0_] := by
  unfold f_X5_hasSeats_19 at hf
  refine V_istore_n (lv' := [(3, vI s0_), (0, vR 5 (some v0)), (1, vI v1), (2, vI v2)]) C dX5_hasSeats_19 rfl (by decide) rfl ?_
  refine V_iload_n C dX5_hasSeats_20 rfl 0 rfl ?_
  refine V_if_ne C 43 dX5_hasSeats_21 (by decide) (fun c1 => ?_) (fun c1 => ?_)
  · have hf := i_f c1 hf
    refine V_iconst (v := (1 : Int32)) C dX5_hasSeats_43 (by decide) ?_
    refine V_goto C 48 dX5_hasSeats_44 (by decide) ?_
    have hf := Option.some.inj hf
    subst hf
    exact V_zret C (by decide) hQ dX5_hasSeats_48
  · have hf := i_t c1 hf
    refine V_aload_n C dX5_hasSeats_24 rfl 1 rfl ?_
    refine V_iload_n C dX5_hasSeats_25 rfl 2 rfl ?_
    obtain ⟨r2, er2, hf⟩ := o_b hf
    refine V_callV (as := [vI v1]) (st := []) C ml_X5_150 fx5 (ct_X5_bargeBitsAt er2) rfl ⟨by decide, by decide, by decide, by decide⟩ (Nat.le_of_ble_eq_true rfl) rfl dX5_hasSeats_26 (cs' := 0) (sl' := 0) rfl rfl ?_
    obtain ⟨r3, er3, hf⟩ := o_b hf
    refine V_callS (as := [vI r2]) (st := []) C ml_X5_105 (ct_J6_bitCount_0f7a4 er3) rfl ⟨by decide, by decide, by decide, by decide⟩ (Nat.le_of_ble_eq_true rfl) rfl dX5_hasSeats_29 (cs' := 0) (sl' := 0) rfl rfl ?_
    refine V_iload_n C dX5_hasSeats_32 rfl 3 rfl ?_
    refine V_iadd C dX5_hasSeats_33 ?_
    refine V_aload_n C dX5_hasSeats_34 rfl 1 rfl ?_
    obtain ⟨q4, eq4, hf⟩ := o_b hf
    refine V_getR C fl_X5_40 rfl rfl (by decide) eq4 dX5_hasSeats_35 ?_
    refine V_iload_n C dX5_hasSeats_38 rfl 2 rfl ?_
    obtain ⟨g5, hf⟩ := o_if hf
    refine V_iald C (vp_g g5) rfl dX5_hasSeats_39 ?_
    refine V_icmp_gt C 47 dX5_hasSeats_40 (by decide) (fun c6 => ?_) (fun c6 => ?_)
    · have hf := i_t c6 hf
      refine V_iconst (v := (0 : Int32)) C dX5_hasSeats_47 (by decide) ?_
      have hf := Option.some.inj hf
      subst hf
      exact V_zret C (by decide) hQ dX5_hasSeats_48
    · have hf := i_f c6 hf
      refine V_iconst (v := (1 : Int32)) C dX5_hasSeats_43 (by decide) ?_
      refine V_goto C 48 dX5_hasSeats_44 (by decide) ?_
      have hf := Option.some.inj hf
      subst hf
      exact V_zret C (by decide) hQ dX5_hasSeats_48
def f_X5_hasSeats_14 (N : Nat) (h : Hp) (v0 : Nat) (v1 : Int32) (v2 : Int32) : Option (Int32) := f_X5_hasSeats_19 N h v0 v1 v2 (1 : Int32)
set_option maxHeartbeats 4000000 in
set_option maxRecDepth 100000 in
theorem p_X5_hasSeats_14 {X : XT} {r : Int32} {h : Hp} (C : CX X cX5_hasSeats "WaterStair$State" 4 (some .boolean) rmX5_hasSeats) (hQ : QX X (some (vI r)) h rmX5_hasSeats.cells rmX5_hasSeats.slots) {N : Nat}   {v0 : Nat} {v1 : Int32} {v2 : Int32} (hf : f_X5_hasSeats_14 N h v0 v1 v2 = some r) : V X 0 0 h 14 [(0, vR 5 (some v0)), (1, vI v1), (2, vI v2)] [] := by
  unfold f_X5_hasSeats_14 at hf
  refine V_iconst (v := (1 : Int32)) C dX5_hasSeats_14 (by decide) ?_
  refine V_goto C 19 dX5_hasSeats_15 (by decide) ?_
  refine V_sub (lv' := [(0, vR 5 (some v0)), (1, vI v1), (2, vI v2)]) [0, 1, 2] rfl ?_
  exact p_X5_hasSeats_19 C hQ hf
def f_X5_hasSeats (N : Nat) (h : Hp) (v0 : Nat) (v1 : Int32) (v2 : Int32) : Option (Int32) := if v1 ≤ 0 then (f_X5_hasSeats_14 N h v0 v1 v2) else (if v1 < ((hI h v0 0) - (1 : Int32)) then (f_X5_hasSeats_19 N h v0 v1 v2 (0 : Int32)) else (f_X5_hasSeats_14 N h v0 v1 v2))
set_option maxHeartbeats 4000000 in
set_option maxRecDepth 100000 in
theorem p_X5_hasSeats {X : XT} {r : Int32} (C : CX X cX5_hasSeats "WaterStair$State" 4 (some .boolean) rmX5_hasSeats) {N : Nat} {h : Hp} {v0 : Nat} {v1 : Int32} {v2 : Int32} (hQ : QX X (some (vI r)) h rmX5_hasSeats.cells rmX5_hasSeats.slots) (hf : f_X5_hasSeats N h v0 v1 v2 = some r) : V X 0 0 h 0 [(0, vR 5 (some v0)), (1, vI v1), (2, vI v2)] [] := by
  unfold f_X5_hasSeats at hf
  refine V_iload_n C dX5_hasSeats_0 rfl 1 rfl ?_
  refine V_if_le C 14 dX5_hasSeats_1 (by decide) (fun c7 => ?_) (fun c7 => ?_)
  · have hf := i_t c7 hf
    refine V_sub (lv' := [(0, vR 5 (some v0)), (1, vI v1), (2, vI v2)]) [0, 1, 2] rfl ?_
    exact p_X5_hasSeats_14 C hQ hf
  · have hf := i_f c7 hf
    refine V_iload_n C dX5_hasSeats_4 rfl 1 rfl ?_
    refine V_aload_n C dX5_hasSeats_5 rfl 0 rfl ?_
    refine V_getI C fl_X5_9 rfl dX5_hasSeats_6 ?_
    refine V_iconst (v := (1 : Int32)) C dX5_hasSeats_9 (by decide) ?_
    refine V_isub C dX5_hasSeats_10 ?_
    refine V_icmp_lt C 18 dX5_hasSeats_11 (by decide) (fun c8 => ?_) (fun c8 => ?_)
    · have hf := i_t c8 hf
      refine V_iconst (v := (0 : Int32)) C dX5_hasSeats_18 (by decide) ?_
      refine V_sub (lv' := [(0, vR 5 (some v0)), (1, vI v1), (2, vI v2)]) [0, 1, 2] rfl ?_
      exact p_X5_hasSeats_19 C hQ hf
    · have hf := i_f c8 hf
      refine V_sub (lv' := [(0, vR 5 (some v0)), (1, vI v1), (2, vI v2)]) [0, 1, 2] rfl ?_
      exact p_X5_hasSeats_14 C hQ hf
theorem ct_X5_hasSeats {r : Int32} {N : Nat} {h : Hp} {v0 : Nat} {v1 : Int32} {v2 : Int32} (hf : f_X5_hasSeats N h v0 v1 v2 = some r) (l : Launch) (G : GT) : MC l G yX5_hasSeats cX5_hasSeats 4 (some .boolean) rmX5_hasSeats h [vR 5 (some v0), vI v1, vI v2] (some (vI r)) h := MC_of (by decide) rfl (Nat.le_of_ble_eq_true rfl) rfl (fun X C hQ hin => p_X5_hasSeats C hQ hf)
abbrev rmX5_isReady : Room := { frames := 1, cells := 0, slots := 0, locals := 21 }
def f_X5_isReady (h : Hp) (v0 : Nat) (v1 : Int32) (v2 : Int32) (v3 : Int32) : Option (Int32) := Option.bind (f_X5_hasBarge h v0 v1) (fun r1 => if r1 = 0 then (some (1 : Int32)) else (Option.bind (hP h v0 12) (fun q3 => if 0 ≤ v1 ∧ v1.toNatClampNeg < hL h q3 then (if (hI h q3 (v1.toNatClampNeg)) = v2 then (Option.bind (hP h v0 15) (fun q6 => if 0 ≤ v1 ∧ v1.toNatClampNeg < hL h q6 then (if (hI h q6 (v1.toNatClampNeg)) = v3 then (some (1 : Int32)) else (some (0 : Int32))) else none)) else (some (0 : Int32))) else none)))
set_option maxHeartbeats 4000000 in
set_option maxRecDepth 100000 in
theorem p_X5_isReady {X : XT} {r : Int32} (C : CX X cX5_isReady "WaterStair$State" 4 (some .boolean) rmX5_isReady) {h : Hp} {v0 : Nat} {v1 : Int32} {v2 : Int32} {v3 : Int32} (hQ : QX X (some (vI r)) h rmX5_isReady.cells rmX5_isReady.slots) (hf : f_X5_isReady h v0 v1 v2 v3 = some r) : V X 0 0 h 0 [(0, vR 5 (some v0)), (1, vI v1), (2, vI v2), (3, vI v3)] [] := by
  unfold f_X5_isReady at hf
  refine V_aload_n C dX5_isReady_0 rfl 0 rfl ?_
  refine V_iload_n C dX5_isReady_1 rfl 1 rfl ?_
  obtain ⟨r1, er1, hf⟩ := o_b hf
  refine V_callV (as := [vI v1]) (st := []) C ml_X5_92 fx5 (ct_X5_hasBarge er1) rfl ⟨by decide, by decide, by decide, by decide⟩ (Nat.le_of_ble_eq_true rfl) rfl dX5_isReady_2 (cs' := 0) (sl' := 0) rfl rfl ?_
  refine V_if_eq C 28 dX5_isReady_5 (by decide) (fun c2 => ?_) (fun c2 => ?_)
  · have hf := i_t c2 hf
    refine V_iconst (v := (1 : Int32)) C dX5_isReady_28 (by decide) ?_
    refine V_goto C 33 dX5_isReady_29 (by decide) ?_
    have hf := Option.some.inj hf
    subst hf
    exact V_zret C (by decide) hQ dX5_isReady_33
  · have hf := i_f c2 hf
    refine V_aload_n C dX5_isReady_8 rfl 0 rfl ?_
    obtain ⟨q3, eq3, hf⟩ := o_b hf
    refine V_getR C fl_X5_49 rfl rfl (by decide) eq3 dX5_isReady_9 ?_
    refine V_iload_n C dX5_isReady_12 rfl 1 rfl ?_
    obtain ⟨g4, hf⟩ := o_if hf
    refine V_iald C (vp_g g4) rfl dX5_isReady_13 ?_
    refine V_iload_n C dX5_isReady_14 rfl 2 rfl ?_
    refine V_icmp_ne C 32 dX5_isReady_15 (by decide) (fun c5 => ?_) (fun c5 => ?_)
    · have hf := i_f c5 hf
      refine V_iconst (v := (0 : Int32)) C dX5_isReady_32 (by decide) ?_
      have hf := Option.some.inj hf
      subst hf
      exact V_zret C (by decide) hQ dX5_isReady_33
    · have hf := i_t c5 hf
      refine V_aload_n C dX5_isReady_18 rfl 0 rfl ?_
      obtain ⟨q6, eq6, hf⟩ := o_b hf
      refine V_getR C fl_X5_58 rfl rfl (by decide) eq6 dX5_isReady_19 ?_
      refine V_iload_n C dX5_isReady_22 rfl 1 rfl ?_
      obtain ⟨g7, hf⟩ := o_if hf
      refine V_iald C (vp_g g7) rfl dX5_isReady_23 ?_
      refine V_iload_n C dX5_isReady_24 rfl 3 rfl ?_
      refine V_icmp_ne C 32 dX5_isReady_25 (by decide) (fun c8 => ?_) (fun c8 => ?_)
      · have hf := i_f c8 hf
        refine V_iconst (v := (0 : Int32)) C dX5_isReady_32 (by decide) ?_
        have hf := Option.some.inj hf
        subst hf
        exact V_zret C (by decide) hQ dX5_isReady_33
      · have hf := i_t c8 hf
        refine V_iconst (v := (1 : Int32)) C dX5_isReady_28 (by decide) ?_
        refine V_goto C 33 dX5_isReady_29 (by decide) ?_
        have hf := Option.some.inj hf
        subst hf
        exact V_zret C (by decide) hQ dX5_isReady_33
theorem ct_X5_isReady {r : Int32} {h : Hp} {v0 : Nat} {v1 : Int32} {v2 : Int32} {v3 : Int32} (hf : f_X5_isReady h v0 v1 v2 v3 = some r) (l : Launch) (G : GT) : MC l G yX5_isReady cX5_isReady 4 (some .boolean) rmX5_isReady h [vR 5 (some v0), vI v1, vI v2, vI v3] (some (vI r)) h := MC_of (by decide) rfl (Nat.le_of_ble_eq_true rfl) rfl (fun X C hQ hin => p_X5_isReady C hQ hf)
abbrev rmX5_tellWords : Room := { frames := 1, cells := 0, slots := 0, locals := 23 }
def f_X5_tellWords (N : Nat) (h : Hp) (v0 : Nat) (v1 : Nat) (v2 : Int32) (v3 : Int32) (v4 : Int32) (v5 : Int32) : Option (Hp) := if (nI (hL h v1)) < (10 : Int32) then (some h) else (Option.bind (f_X5_hasStep h v0 v2) (fun r2 => if r2 = 0 then (some h) else (if 0 < hL h v1 then (lt (sJ h v1 (0) (v2.toInt64)) (fun h5 => Option.bind (f_X5_weightOf h5 v0 v3) (fun r6 => if 1 < hL h5 v1 then (lt (sJ h5 v1 (1) (r6.toInt64)) (fun h8 => Option.bind (f_X5_weightOf h8 v0 v4) (fun r9 => if 2 < hL h8 v1 then (lt (sJ h8 v1 (2) (r9.toInt64)) (fun h11 => if 3 < hL h11 v1 then (lt (sJ h11 v1 (3) (v5.toInt64)) (fun h13 => Option.bind (hP h13 v0 8) (fun q14 => if 0 ≤ v2 ∧ v2.toNatClampNeg < hL h13 q14 then (lt ((hI h13 q14 (v2.toNatClampNeg)).toInt64) (fun y16 => if 4 < hL h13 v1 then (lt (sJ h13 v1 (4) y16) (fun h18 => Option.bind (hP h18 v0 8) (fun q19 => if 0 ≤ v2 + (1 : Int32) ∧ (v2 + (1 : Int32)).toNatClampNeg < hL h18 q19 then (lt ((hI h18 q19 ((v2 + (1 : Int32)).toNatClampNeg)).toInt64) (fun y21 => if 5 < hL h18 v1 then (lt (sJ h18 v1 (5) y21) (fun h23 => Option.bind (f_X5_bargeBitsAt N h23 v0 v2) (fun r24 => Option.bind (f_J6_bitCount_0f7a4 h23 r24) (fun r25 => if 6 < hL h23 v1 then (lt (sJ h23 v1 (6) (r25.toInt64)) (fun h27 => Option.bind (f_X5_bargeBitsAt N h27 v0 (v2 + (1 : Int32))) (fun r28 => Option.bind (f_J6_bitCount_0f7a4 h27 r28) (fun r29 => if 7 < hL h27 v1 then (lt (sJ h27 v1 (7) (r29.toInt64)) (fun h31 => Option.bind (f_X5_wideOf h31 v0 v3) (fun r32 => Option.bind (f_X5_wideOf h31 v0 v4) (fun r33 => if 8 < hL h31 v1 then (lt (sJ h31 v1 (8) ((r32 + r33).toInt64)) (fun h35 => if 9 < hL h35 v1 then (lt (sJ h35 v1 (9) ((hI h35 v0 3).toInt64)) (fun h37 => some h37)) else none)) else none)))) else none)))) else none)))) else none)) else none))) else none)) else none))) else none)) else none))) else none))) else none)))
set_option maxHeartbeats 4000000 in
set_option maxRecDepth 100000 in
theorem p_X5_tellWords {X : XT} {h' : Hp} (C : CX X cX5_tellWords "WaterStair$State" 6 none rmX5_tellWords) {N : Nat} {h : Hp} {v0 : Nat} {v1 : Nat} {v2 : Int32} {v3 : Int32} {v4 : Int32} {v5 : Int32} (hQ : QX X none h' rmX5_tellWords.cells rmX5_tellWords.slots) (hf : f_X5_tellWords N h v0 v1 v2 v3 v4 v5 = some h') : V X 0 0 h 0 [(0, vR 5 (some v0)), (1, vR 11 (some v1)), (2, vI v2), (3, vI v3), (4, vI v4), (5, vI v5)] [] := by
  unfold f_X5_tellWords at hf
  refine V_aload_n C dX5_tellWords_0 rfl 1 rfl ?_
  refine V_alen C (by decide) (by decide) dX5_tellWords_1 ?_
  refine V_bipush (v := (10 : Int32)) C dX5_tellWords_2 (by decide) ?_
  refine V_icmp_lt C 15 dX5_tellWords_4 (by decide) (fun c1 => ?_) (fun c1 => ?_)
  · have hf := i_t c1 hf
    have hf := Option.some.inj hf
    subst hf
    exact V_vret C hQ dX5_tellWords_15
  · have hf := i_f c1 hf
    refine V_aload_n C dX5_tellWords_7 rfl 0 rfl ?_
    refine V_iload_n C dX5_tellWords_8 rfl 2 rfl ?_
    obtain ⟨r2, er2, hf⟩ := o_b hf
    refine V_callV (as := [vI v2]) (st := []) C ml_X5_96 fx5 (ct_X5_hasStep er2) rfl ⟨by decide, by decide, by decide, by decide⟩ (Nat.le_of_ble_eq_true rfl) rfl dX5_tellWords_9 (cs' := 0) (sl' := 0) rfl rfl ?_
    refine V_if_ne C 16 dX5_tellWords_12 (by decide) (fun c3 => ?_) (fun c3 => ?_)
    · have hf := i_f c3 hf
      refine V_aload_n C dX5_tellWords_16 rfl 1 rfl ?_
      refine V_iconst (v := (0 : Int32)) C dX5_tellWords_17 (by decide) ?_
      refine V_iload_n C dX5_tellWords_18 rfl 2 rfl ?_
      refine V_i2l C dX5_tellWords_19 ?_
      obtain ⟨g4, hf⟩ := o_if hf
      obtain ⟨h5, eh5, hf⟩ := o_l hf
      refine V_last C (vp_k (by decide) (by decide) g4) (by decide : Int32.toNatClampNeg (0 : Int32) = 0) dX5_tellWords_20 (V_eqH eh5 ?_)
      refine V_aload_n C dX5_tellWords_21 rfl 1 rfl ?_
      refine V_iconst (v := (1 : Int32)) C dX5_tellWords_22 (by decide) ?_
      refine V_aload_n C dX5_tellWords_23 rfl 0 rfl ?_
      refine V_iload_n C dX5_tellWords_24 rfl 3 rfl ?_
      obtain ⟨r6, er6, hf⟩ := o_b hf
      refine V_callV (as := [vI v3]) (st := [vI (1 : Int32), vR 11 (some v1)]) C ml_X5_110 fx5 (ct_X5_weightOf er6) rfl ⟨by decide, by decide, by decide, by decide⟩ (Nat.le_of_ble_eq_true rfl) rfl dX5_tellWords_25 (cs' := 0) (sl' := 0) rfl rfl ?_
      refine V_i2l C dX5_tellWords_28 ?_
      obtain ⟨g7, hf⟩ := o_if hf
      obtain ⟨h8, eh8, hf⟩ := o_l hf
      refine V_last C (vp_k (by decide) (by decide) g7) (by decide : Int32.toNatClampNeg (1 : Int32) = 1) dX5_tellWords_29 (V_eqH eh8 ?_)
      refine V_aload_n C dX5_tellWords_30 rfl 1 rfl ?_
      refine V_iconst (v := (2 : Int32)) C dX5_tellWords_31 (by decide) ?_
      refine V_aload_n C dX5_tellWords_32 rfl 0 rfl ?_
      refine V_iload C dX5_tellWords_33 4 rfl ?_
      obtain ⟨r9, er9, hf⟩ := o_b hf
      refine V_callV (as := [vI v4]) (st := [vI (2 : Int32), vR 11 (some v1)]) C ml_X5_110 fx5 (ct_X5_weightOf er9) rfl ⟨by decide, by decide, by decide, by decide⟩ (Nat.le_of_ble_eq_true rfl) rfl dX5_tellWords_35 (cs' := 0) (sl' := 0) rfl rfl ?_
      refine V_i2l C dX5_tellWords_38 ?_
      obtain ⟨g10, hf⟩ := o_if hf
      obtain ⟨h11, eh11, hf⟩ := o_l hf
      refine V_last C (vp_k (by decide) (by decide) g10) (by decide : Int32.toNatClampNeg (2 : Int32) = 2) dX5_tellWords_39 (V_eqH eh11 ?_)
      refine V_aload_n C dX5_tellWords_40 rfl 1 rfl ?_
      refine V_iconst (v := (3 : Int32)) C dX5_tellWords_41 (by decide) ?_
      refine V_iload C dX5_tellWords_42 5 rfl ?_
      refine V_i2l C dX5_tellWords_44 ?_
      obtain ⟨g12, hf⟩ := o_if hf
      obtain ⟨h13, eh13, hf⟩ := o_l hf
      refine V_last C (vp_k (by decide) (by decide) g12) (by decide : Int32.toNatClampNeg (3 : Int32) = 3) dX5_tellWords_45 (V_eqH eh13 ?_)
      refine V_aload_n C dX5_tellWords_46 rfl 1 rfl ?_
      refine V_iconst (v := (4 : Int32)) C dX5_tellWords_47 (by decide) ?_
      refine V_aload_n C dX5_tellWords_48 rfl 0 rfl ?_
      obtain ⟨q14, eq14, hf⟩ := o_b hf
      refine V_getR C fl_X5_36 rfl rfl (by decide) eq14 dX5_tellWords_49 ?_
      refine V_iload_n C dX5_tellWords_52 rfl 2 rfl ?_
      obtain ⟨g15, hf⟩ := o_if hf
      refine V_iald C (vp_g g15) rfl dX5_tellWords_53 ?_
      refine V_i2l C dX5_tellWords_54 ?_
      obtain ⟨y16, ey16, hf⟩ := o_l hf
      refine V_eqL ey16 ?_
      obtain ⟨g17, hf⟩ := o_if hf
      obtain ⟨h18, eh18, hf⟩ := o_l hf
      refine V_last C (vp_k (by decide) (by decide) g17) (by decide : Int32.toNatClampNeg (4 : Int32) = 4) dX5_tellWords_55 (V_eqH eh18 ?_)
      refine V_aload_n C dX5_tellWords_56 rfl 1 rfl ?_
      refine V_iconst (v := (5 : Int32)) C dX5_tellWords_57 (by decide) ?_
      refine V_aload_n C dX5_tellWords_58 rfl 0 rfl ?_
      obtain ⟨q19, eq19, hf⟩ := o_b hf
      refine V_getR C fl_X5_36 rfl rfl (by decide) eq19 dX5_tellWords_59 ?_
      refine V_iload_n C dX5_tellWords_62 rfl 2 rfl ?_
      refine V_iconst (v := (1 : Int32)) C dX5_tellWords_63 (by decide) ?_
      refine V_iadd C dX5_tellWords_64 ?_
      obtain ⟨g20, hf⟩ := o_if hf
      refine V_iald C (vp_g g20) rfl dX5_tellWords_65 ?_
      refine V_i2l C dX5_tellWords_66 ?_
      obtain ⟨y21, ey21, hf⟩ := o_l hf
      refine V_eqL ey21 ?_
      obtain ⟨g22, hf⟩ := o_if hf
      obtain ⟨h23, eh23, hf⟩ := o_l hf
      refine V_last C (vp_k (by decide) (by decide) g22) (by decide : Int32.toNatClampNeg (5 : Int32) = 5) dX5_tellWords_67 (V_eqH eh23 ?_)
      refine V_aload_n C dX5_tellWords_68 rfl 1 rfl ?_
      refine V_bipush (v := (6 : Int32)) C dX5_tellWords_69 (by decide) ?_
      refine V_aload_n C dX5_tellWords_71 rfl 0 rfl ?_
      refine V_iload_n C dX5_tellWords_72 rfl 2 rfl ?_
      obtain ⟨r24, er24, hf⟩ := o_b hf
      refine V_callV (as := [vI v2]) (st := [vI (6 : Int32), vR 11 (some v1)]) C ml_X5_150 fx5 (ct_X5_bargeBitsAt er24) rfl ⟨by decide, by decide, by decide, by decide⟩ (Nat.le_of_ble_eq_true rfl) rfl dX5_tellWords_73 (cs' := 0) (sl' := 0) rfl rfl ?_
      obtain ⟨r25, er25, hf⟩ := o_b hf
      refine V_callS (as := [vI r24]) (st := [vI (6 : Int32), vR 11 (some v1)]) C ml_X5_105 (ct_J6_bitCount_0f7a4 er25) rfl ⟨by decide, by decide, by decide, by decide⟩ (Nat.le_of_ble_eq_true rfl) rfl dX5_tellWords_76 (cs' := 0) (sl' := 0) rfl rfl ?_
      refine V_i2l C dX5_tellWords_79 ?_
      obtain ⟨g26, hf⟩ := o_if hf
      obtain ⟨h27, eh27, hf⟩ := o_l hf
      refine V_last C (vp_k (by decide) (by decide) g26) (by decide : Int32.toNatClampNeg (6 : Int32) = 6) dX5_tellWords_80 (V_eqH eh27 ?_)
      refine V_aload_n C dX5_tellWords_81 rfl 1 rfl ?_
      refine V_bipush (v := (7 : Int32)) C dX5_tellWords_82 (by decide) ?_
      refine V_aload_n C dX5_tellWords_84 rfl 0 rfl ?_
      refine V_iload_n C dX5_tellWords_85 rfl 2 rfl ?_
      refine V_iconst (v := (1 : Int32)) C dX5_tellWords_86 (by decide) ?_
      refine V_iadd C dX5_tellWords_87 ?_
      obtain ⟨r28, er28, hf⟩ := o_b hf
      refine V_callV (as := [vI (v2 + (1 : Int32))]) (st := [vI (7 : Int32), vR 11 (some v1)]) C ml_X5_150 fx5 (ct_X5_bargeBitsAt er28) rfl ⟨by decide, by decide, by decide, by decide⟩ (Nat.le_of_ble_eq_true rfl) rfl dX5_tellWords_88 (cs' := 0) (sl' := 0) rfl rfl ?_
      obtain ⟨r29, er29, hf⟩ := o_b hf
      refine V_callS (as := [vI r28]) (st := [vI (7 : Int32), vR 11 (some v1)]) C ml_X5_105 (ct_J6_bitCount_0f7a4 er29) rfl ⟨by decide, by decide, by decide, by decide⟩ (Nat.le_of_ble_eq_true rfl) rfl dX5_tellWords_91 (cs' := 0) (sl' := 0) rfl rfl ?_
      refine V_i2l C dX5_tellWords_94 ?_
      obtain ⟨g30, hf⟩ := o_if hf
      obtain ⟨h31, eh31, hf⟩ := o_l hf
      refine V_last C (vp_k (by decide) (by decide) g30) (by decide : Int32.toNatClampNeg (7 : Int32) = 7) dX5_tellWords_95 (V_eqH eh31 ?_)
      refine V_aload_n C dX5_tellWords_96 rfl 1 rfl ?_
      refine V_bipush (v := (8 : Int32)) C dX5_tellWords_97 (by decide) ?_
      refine V_aload_n C dX5_tellWords_99 rfl 0 rfl ?_
      refine V_iload_n C dX5_tellWords_100 rfl 3 rfl ?_
      obtain ⟨r32, er32, hf⟩ := o_b hf
      refine V_callV (as := [vI v3]) (st := [vI (8 : Int32), vR 11 (some v1)]) C ml_X5_122 fx5 (ct_X5_wideOf er32) rfl ⟨by decide, by decide, by decide, by decide⟩ (Nat.le_of_ble_eq_true rfl) rfl dX5_tellWords_101 (cs' := 0) (sl' := 0) rfl rfl ?_
      refine V_aload_n C dX5_tellWords_104 rfl 0 rfl ?_
      refine V_iload C dX5_tellWords_105 4 rfl ?_
      obtain ⟨r33, er33, hf⟩ := o_b hf
      refine V_callV (as := [vI v4]) (st := [vI r32, vI (8 : Int32), vR 11 (some v1)]) C ml_X5_122 fx5 (ct_X5_wideOf er33) rfl ⟨by decide, by decide, by decide, by decide⟩ (Nat.le_of_ble_eq_true rfl) rfl dX5_tellWords_107 (cs' := 0) (sl' := 0) rfl rfl ?_
      refine V_iadd C dX5_tellWords_110 ?_
      refine V_i2l C dX5_tellWords_111 ?_
      obtain ⟨g34, hf⟩ := o_if hf
      obtain ⟨h35, eh35, hf⟩ := o_l hf
      refine V_last C (vp_k (by decide) (by decide) g34) (by decide : Int32.toNatClampNeg (8 : Int32) = 8) dX5_tellWords_112 (V_eqH eh35 ?_)
      refine V_aload_n C dX5_tellWords_113 rfl 1 rfl ?_
      refine V_bipush (v := (9 : Int32)) C dX5_tellWords_114 (by decide) ?_
      refine V_aload_n C dX5_tellWords_116 rfl 0 rfl ?_
      refine V_getI C fl_X5_21 rfl dX5_tellWords_117 ?_
      refine V_i2l C dX5_tellWords_120 ?_
      obtain ⟨g36, hf⟩ := o_if hf
      obtain ⟨h37, eh37, hf⟩ := o_l hf
      refine V_last C (vp_k (by decide) (by decide) g36) (by decide : Int32.toNatClampNeg (9 : Int32) = 9) dX5_tellWords_121 (V_eqH eh37 ?_)
      have hf := Option.some.inj hf
      subst hf
      exact V_vret C hQ dX5_tellWords_122
    · have hf := i_t c3 hf
      have hf := Option.some.inj hf
      subst hf
      exact V_vret C hQ dX5_tellWords_15
theorem ct_X5_tellWords {h' : Hp} {N : Nat} {h : Hp} {v0 : Nat} {v1 : Nat} {v2 : Int32} {v3 : Int32} {v4 : Int32} {v5 : Int32} (hf : f_X5_tellWords N h v0 v1 v2 v3 v4 v5 = some h') (l : Launch) (G : GT) : MC l G yX5_tellWords cX5_tellWords 6 none rmX5_tellWords h [vR 5 (some v0), vR 11 (some v1), vI v2, vI v3, vI v4, vI v5] none h' := MC_of (by decide) rfl (Nat.le_of_ble_eq_true rfl) rfl (fun X C hQ hin => p_X5_tellWords C hQ hf)
abbrev rmX5_brokenLaw : Room := { frames := 3, cells := 0, slots := 0, locals := 66 }
def f_X5_brokenLaw_65 (N : Nat) (h : Hp) (v0 : Nat) (v1 : Option Nat) (v2 : Int32) (v3 : Int32) (v4 : Int32) (s1_ : Int32) (s0_ : Int32) : Option (Int32 × Hp) := Option.bind (f_X5_hasSeats N h v0 v2 (s0_ - s1_)) (fun r1 => if r1 = 0 then (some (((3 : Int32), h))) else (Option.bind (f_X5_hasSeats N h v0 (v2 + (1 : Int32)) (-(s0_ - s1_))) (fun r3 => if r3 = 0 then (some (((3 : Int32), h))) else (Option.bind (f_X5_need h v0 v3 v4) (fun r5 => Option.bind (hP h v0 8) (fun q6 => if 0 ≤ v2 ∧ v2.toNatClampNeg < hL h q6 then (if r5 ≤ (hI h q6 (v2.toNatClampNeg)) then (if v1 = none then (some (((0 : Int32), h))) else (Option.bind v1 (fun q10 => Option.bind (hP h q10 1) (fun q11 => Option.bind (f_X5_tellWords N h v0 q11 v2 v3 v4 r5) (fun h12 => Option.bind v1 (fun q13 => b2 (f_X1_holds N h12 q13) (fun r14 h15 => if r14 = 0 then (some (((0 : Int32), h15))) else (some (((5 : Int32), h15)))))))))) else (some (((4 : Int32), h)))) else none))))))
set_option maxHeartbeats 4000000 in
set_option maxRecDepth 100000 in
theorem p_X5_brokenLaw_65 {X : XT} {r : Int32} {h' : Hp} (C : CX X cX5_brokenLaw "WaterStair$State" 7 (some .int) rmX5_brokenLaw) (hQ : QX X (some (vI r)) h' rmX5_brokenLaw.cells rmX5_brokenLaw.slots) {N : Nat}  {h : Hp} {v0 : Nat} {v1 : Option Nat} {v2 : Int32} {v3 : Int32} {v4 : Int32} {s1_ : Int32} {s0_ : Int32} (hf : f_X5_brokenLaw_65 N h v0 v1 v2 v3 v4 s1_ s0_ = some ((r, h'))) : V X 0 0 h 65 [(0, vR 5 (some v0)), (1, vR 1 v1), (2, vI v2), (3, vI v3), (4, vI v4)] [vI s1_, vI s0_] := by
  unfold f_X5_brokenLaw_65 at hf
  refine V_isub C dX5_brokenLaw_65 ?_
  refine V_istore (lv' := [(5, vI (s0_ - s1_)), (0, vR 5 (some v0)), (1, vR 1 v1), (2, vI v2), (3, vI v3), (4, vI v4)]) C dX5_brokenLaw_66 (by decide) rfl ?_
  refine V_aload_n C dX5_brokenLaw_68 rfl 1 rfl ?_
  refine V_iload_n C dX5_brokenLaw_69 rfl 3 rfl ?_
  refine V_iload C dX5_brokenLaw_70 0 rfl ?_
  obtain ⟨r1, er1, hf⟩ := o_b hf
  refine V_callV (as := [vI v2, vI (s0_ - s1_)]) (st := []) C ml_X5_129 fx5 (ct_X5_hasSeats er1) rfl ⟨by decide, by decide, by decide, by decide⟩ (Nat.le_of_ble_eq_true rfl) rfl dX5_brokenLaw_72 (cs' := 0) (sl' := 0) rfl rfl ?_
  refine V_if_eq C 91 dX5_brokenLaw_75 (by decide) (fun c2 => ?_) (fun c2 => ?_)
  · have hf := i_t c2 hf
    refine V_iconst (v := (3 : Int32)) C dX5_brokenLaw_91 (by decide) ?_
    obtain ⟨hf1, hf2⟩ := Prod.mk.inj (Option.some.inj hf)
    subst hf1
    subst hf2
    exact V_iret C hQ dX5_brokenLaw_92
  · have hf := i_f c2 hf
    refine V_aload_n C dX5_brokenLaw_78 rfl 1 rfl ?_
    refine V_iload_n C dX5_brokenLaw_79 rfl 3 rfl ?_
    refine V_iconst (v := (1 : Int32)) C dX5_brokenLaw_80 (by decide) ?_
    refine V_iadd C dX5_brokenLaw_81 ?_
    refine V_iload C dX5_brokenLaw_82 0 rfl ?_
    refine V_ineg C dX5_brokenLaw_84 ?_
    obtain ⟨r3, er3, hf⟩ := o_b hf
    refine V_callV (as := [vI (v2 + (1 : Int32)), vI (-(s0_ - s1_))]) (st := []) C ml_X5_129 fx5 (ct_X5_hasSeats er3) rfl ⟨by decide, by decide, by decide, by decide⟩ (Nat.le_of_ble_eq_true rfl) rfl dX5_brokenLaw_85 (cs' := 0) (sl' := 0) rfl rfl ?_
    refine V_if_ne C 93 dX5_brokenLaw_88 (by decide) (fun c4 => ?_) (fun c4 => ?_)
    · have hf := i_f c4 hf
      refine V_aload_n C dX5_brokenLaw_93 rfl 1 rfl ?_
      refine V_iload_n C dX5_brokenLaw_94 rfl 4 rfl ?_
      refine V_iload C dX5_brokenLaw_95 5 rfl ?_
      obtain ⟨r5, er5, hf⟩ := o_b hf
      refine V_callV (as := [vI v3, vI v4]) (st := []) C ml_X5_133 fx5 (ct_X5_need er5) rfl ⟨by decide, by decide, by decide, by decide⟩ (Nat.le_of_ble_eq_true rfl) rfl dX5_brokenLaw_97 (cs' := 0) (sl' := 0) rfl rfl ?_
      refine V_istore (lv' := [(6, vI r5), (5, vI (s0_ - s1_)), (0, vR 5 (some v0)), (1, vR 1 v1), (2, vI v2), (3, vI v3), (4, vI v4)]) C dX5_brokenLaw_100 (by decide) rfl ?_
      refine V_aload_n C dX5_brokenLaw_102 rfl 2 rfl ?_
      obtain ⟨q6, eq6, hf⟩ := o_b hf
      refine V_getR C fl_X5_36 rfl rfl (by decide) eq6 dX5_brokenLaw_103 ?_
      refine V_iload_n C dX5_brokenLaw_106 rfl 4 rfl ?_
      obtain ⟨g7, hf⟩ := o_if hf
      refine V_iald C (vp_g g7) rfl dX5_brokenLaw_107 ?_
      refine V_iload C dX5_brokenLaw_108 0 rfl ?_
      refine V_icmp_ge C 115 dX5_brokenLaw_110 (by decide) (fun c8 => ?_) (fun c8 => ?_)
      · have hf := i_t c8 hf
        refine V_aload_n C dX5_brokenLaw_115 rfl 3 rfl ?_
        refine V_ifnonnull C (by decide) 121 dX5_brokenLaw_116 (by decide) (fun wc9 c9 => ?_) (fun c9 => ?_)
        · have hf := i_f (fun z => by rw [c9] at z; cases z) hf
          refine V_aload_n C dX5_brokenLaw_121 rfl 2 rfl ?_
          refine V_aload_n C dX5_brokenLaw_122 rfl 3 rfl ?_
          obtain ⟨q10, eq10, hf⟩ := o_b hf
          refine V_eqR eq10 ?_
          obtain ⟨q11, eq11, hf⟩ := o_b hf
          refine V_getR C fl_X5_136 rfl rfl (by decide) eq11 dX5_brokenLaw_123 ?_
          refine V_iload_n C dX5_brokenLaw_126 rfl 4 rfl ?_
          refine V_iload_n C dX5_brokenLaw_127 rfl 5 rfl ?_
          refine V_iload C dX5_brokenLaw_128 6 rfl ?_
          refine V_iload C dX5_brokenLaw_130 0 rfl ?_
          obtain ⟨h12, eh12, hf⟩ := o_b hf
          refine V_callV (as := [vR 11 (some q11), vI v2, vI v3, vI v4, vI r5]) (st := []) C ml_X5_142 fx5 (ct_X5_tellWords eh12) rfl ⟨by decide, by decide, by decide, by decide⟩ (Nat.le_of_ble_eq_true rfl) rfl dX5_brokenLaw_132 (cs' := 0) (sl' := 0) rfl rfl ?_
          refine V_aload_n C dX5_brokenLaw_135 rfl 3 rfl ?_
          obtain ⟨q13, eq13, hf⟩ := o_b hf
          refine V_eqR eq13 ?_
          obtain ⟨r14, h15, er14, hf⟩ := o_b2 hf
          refine V_callV (as := []) (st := []) C ml_X5_146 fx1 (ct_X1_holds er14) rfl ⟨by decide, by decide, by decide, by decide⟩ (Nat.le_of_ble_eq_true rfl) rfl dX5_brokenLaw_136 (cs' := 0) (sl' := 0) rfl rfl ?_
          refine V_if_eq C 146 dX5_brokenLaw_139 (by decide) (fun c16 => ?_) (fun c16 => ?_)
          · have hf := i_t c16 hf
            refine V_iconst (v := (0 : Int32)) C dX5_brokenLaw_146 (by decide) ?_
            obtain ⟨hf1, hf2⟩ := Prod.mk.inj (Option.some.inj hf)
            subst hf1
            subst hf2
            exact V_iret C hQ dX5_brokenLaw_147
          · have hf := i_f c16 hf
            refine V_iconst (v := (5 : Int32)) C dX5_brokenLaw_142 (by decide) ?_
            refine V_goto C 147 dX5_brokenLaw_143 (by decide) ?_
            obtain ⟨hf1, hf2⟩ := Prod.mk.inj (Option.some.inj hf)
            subst hf1
            subst hf2
            exact V_iret C hQ dX5_brokenLaw_147
        · have hf := i_t c9 hf
          refine V_iconst (v := (0 : Int32)) C dX5_brokenLaw_119 (by decide) ?_
          obtain ⟨hf1, hf2⟩ := Prod.mk.inj (Option.some.inj hf)
          subst hf1
          subst hf2
          exact V_iret C hQ dX5_brokenLaw_120
      · have hf := i_f c8 hf
        refine V_iconst (v := (4 : Int32)) C dX5_brokenLaw_113 (by decide) ?_
        obtain ⟨hf1, hf2⟩ := Prod.mk.inj (Option.some.inj hf)
        subst hf1
        subst hf2
        exact V_iret C hQ dX5_brokenLaw_114
    · have hf := i_t c4 hf
      refine V_iconst (v := (3 : Int32)) C dX5_brokenLaw_91 (by decide) ?_
      obtain ⟨hf1, hf2⟩ := Prod.mk.inj (Option.some.inj hf)
      subst hf1
      subst hf2
      exact V_iret C hQ dX5_brokenLaw_92
def f_X5_brokenLaw_55 (N : Nat) (h : Hp) (v0 : Nat) (v1 : Option Nat) (v2 : Int32) (v3 : Int32) (v4 : Int32) (s0_ : Int32) : Option (Int32 × Hp) := if v3 = (-1 : Int32) then (f_X5_brokenLaw_65 N h v0 v1 v2 v3 v4 (0 : Int32) s0_) else (f_X5_brokenLaw_65 N h v0 v1 v2 v3 v4 (1 : Int32) s0_)
set_option maxHeartbeats 4000000 in
set_option maxRecDepth 100000 in
theorem p_X5_brokenLaw_55 {X : XT} {r : Int32} {h' : Hp} (C : CX X cX5_brokenLaw "WaterStair$State" 7 (some .int) rmX5_brokenLaw) (hQ : QX X (some (vI r)) h' rmX5_brokenLaw.cells rmX5_brokenLaw.slots) {N : Nat}  {h : Hp} {v0 : Nat} {v1 : Option Nat} {v2 : Int32} {v3 : Int32} {v4 : Int32} {s0_ : Int32} (hf : f_X5_brokenLaw_55 N h v0 v1 v2 v3 v4 s0_ = some ((r, h'))) : V X 0 0 h 55 [(0, vR 5 (some v0)), (1, vR 1 v1), (2, vI v2), (3, vI v3), (4, vI v4)] [vI s0_] := by
  unfold f_X5_brokenLaw_55 at hf
  refine V_iload_n C dX5_brokenLaw_55 rfl 3 rfl ?_
  refine V_iconst (v := (-1 : Int32)) C dX5_brokenLaw_56 (by decide) ?_
  refine V_icmp_ne C 64 dX5_brokenLaw_57 (by decide) (fun c17 => ?_) (fun c17 => ?_)
  · have hf := i_f c17 hf
    refine V_iconst (v := (1 : Int32)) C dX5_brokenLaw_64 (by decide) ?_
    refine V_sub (lv' := [(0, vR 5 (some v0)), (1, vR 1 v1), (2, vI v2), (3, vI v3), (4, vI v4)]) [0, 1, 2, 3, 4] rfl ?_
    exact p_X5_brokenLaw_65 C hQ hf
  · have hf := i_t c17 hf
    refine V_iconst (v := (0 : Int32)) C dX5_brokenLaw_60 (by decide) ?_
    refine V_goto C 65 dX5_brokenLaw_61 (by decide) ?_
    refine V_sub (lv' := [(0, vR 5 (some v0)), (1, vR 1 v1), (2, vI v2), (3, vI v3), (4, vI v4)]) [0, 1, 2, 3, 4] rfl ?_
    exact p_X5_brokenLaw_65 C hQ hf
def f_X5_brokenLaw (N : Nat) (h : Hp) (v0 : Nat) (v1 : Option Nat) (v2 : Int32) (v3 : Int32) (v4 : Int32) : Option (Int32 × Hp) := Option.bind (f_X5_hasStep h v0 v2) (fun r18 => if r18 = 0 then (some (((1 : Int32), h))) else (Option.bind (hP h v0 10) (fun q20 => if 0 ≤ v2 ∧ v2.toNatClampNeg < hL h q20 then (if hI h q20 (v2.toNatClampNeg) = 0 then (some (((1 : Int32), h))) else (Option.bind (f_X5_isReady h v0 v3 v2 (0 : Int32)) (fun r23 => if r23 = 0 then (some (((2 : Int32), h))) else (Option.bind (f_X5_isReady h v0 v4 (v2 + (1 : Int32)) (1 : Int32)) (fun r25 => if r25 = 0 then (some (((2 : Int32), h))) else (if v4 = (-1 : Int32) then (f_X5_brokenLaw_55 N h v0 v1 v2 v3 v4 (0 : Int32)) else (f_X5_brokenLaw_55 N h v0 v1 v2 v3 v4 (1 : Int32)))))))) else none)))
set_option maxHeartbeats 4000000 in
set_option maxRecDepth 100000 in
theorem p_X5_brokenLaw {X : XT} {r : Int32} {h' : Hp} (C : CX X cX5_brokenLaw "WaterStair$State" 7 (some .int) rmX5_brokenLaw) {N : Nat} {h : Hp} {v0 : Nat} {v1 : Option Nat} {v2 : Int32} {v3 : Int32} {v4 : Int32} (hQ : QX X (some (vI r)) h' rmX5_brokenLaw.cells rmX5_brokenLaw.slots) (hf : f_X5_brokenLaw N h v0 v1 v2 v3 v4 = some ((r, h'))) : V X 0 0 h 0 [(0, vR 5 (some v0)), (1, vR 1 v1), (2, vI v2), (3, vI v3), (4, vI v4)] [] := by
  unfold f_X5_brokenLaw at hf
  refine V_aload_n C dX5_brokenLaw_0 rfl 0 rfl ?_
  refine V_iload_n C dX5_brokenLaw_1 rfl 2 rfl ?_
  obtain ⟨r18, er18, hf⟩ := o_b hf
  refine V_callV (as := [vI v2]) (st := []) C ml_X5_96 fx5 (ct_X5_hasStep er18) rfl ⟨by decide, by decide, by decide, by decide⟩ (Nat.le_of_ble_eq_true rfl) rfl dX5_brokenLaw_2 (cs' := 0) (sl' := 0) rfl rfl ?_
  refine V_if_eq C 17 dX5_brokenLaw_5 (by decide) (fun c19 => ?_) (fun c19 => ?_)
  · have hf := i_t c19 hf
    refine V_iconst (v := (1 : Int32)) C dX5_brokenLaw_17 (by decide) ?_
    obtain ⟨hf1, hf2⟩ := Prod.mk.inj (Option.some.inj hf)
    subst hf1
    subst hf2
    exact V_iret C hQ dX5_brokenLaw_18
  · have hf := i_f c19 hf
    refine V_aload_n C dX5_brokenLaw_8 rfl 0 rfl ?_
    obtain ⟨q20, eq20, hf⟩ := o_b hf
    refine V_getR C fl_X5_43 rfl rfl (by decide) eq20 dX5_brokenLaw_9 ?_
    refine V_iload_n C dX5_brokenLaw_12 rfl 2 rfl ?_
    obtain ⟨g21, hf⟩ := o_if hf
    refine V_iald C (vp_g g21) rfl dX5_brokenLaw_13 ?_
    refine V_if_ne C 19 dX5_brokenLaw_14 (by decide) (fun c22 => ?_) (fun c22 => ?_)
    · have hf := i_f c22 hf
      refine V_aload_n C dX5_brokenLaw_19 rfl 0 rfl ?_
      refine V_iload_n C dX5_brokenLaw_20 rfl 3 rfl ?_
      refine V_iload_n C dX5_brokenLaw_21 rfl 2 rfl ?_
      refine V_iconst (v := (0 : Int32)) C dX5_brokenLaw_22 (by decide) ?_
      obtain ⟨r23, er23, hf⟩ := o_b hf
      refine V_callV (as := [vI v3, vI v2, vI (0 : Int32)]) (st := []) C ml_X5_125 fx5 (ct_X5_isReady er23) rfl ⟨by decide, by decide, by decide, by decide⟩ (Nat.le_of_ble_eq_true rfl) rfl dX5_brokenLaw_23 (cs' := 0) (sl' := 0) rfl rfl ?_
      refine V_if_eq C 42 dX5_brokenLaw_26 (by decide) (fun c24 => ?_) (fun c24 => ?_)
      · have hf := i_t c24 hf
        refine V_iconst (v := (2 : Int32)) C dX5_brokenLaw_42 (by decide) ?_
        obtain ⟨hf1, hf2⟩ := Prod.mk.inj (Option.some.inj hf)
        subst hf1
        subst hf2
        exact V_iret C hQ dX5_brokenLaw_43
      · have hf := i_f c24 hf
        refine V_aload_n C dX5_brokenLaw_29 rfl 0 rfl ?_
        refine V_iload C dX5_brokenLaw_30 4 rfl ?_
        refine V_iload_n C dX5_brokenLaw_32 rfl 2 rfl ?_
        refine V_iconst (v := (1 : Int32)) C dX5_brokenLaw_33 (by decide) ?_
        refine V_iadd C dX5_brokenLaw_34 ?_
        refine V_iconst (v := (1 : Int32)) C dX5_brokenLaw_35 (by decide) ?_
        obtain ⟨r25, er25, hf⟩ := o_b hf
        refine V_callV (as := [vI v4, vI (v2 + (1 : Int32)), vI (1 : Int32)]) (st := []) C ml_X5_125 fx5 (ct_X5_isReady er25) rfl ⟨by decide, by decide, by decide, by decide⟩ (Nat.le_of_ble_eq_true rfl) rfl dX5_brokenLaw_36 (cs' := 0) (sl' := 0) rfl rfl ?_
        refine V_if_ne C 44 dX5_brokenLaw_39 (by decide) (fun c26 => ?_) (fun c26 => ?_)
        · have hf := i_f c26 hf
          refine V_iload C dX5_brokenLaw_44 4 rfl ?_
          refine V_iconst (v := (-1 : Int32)) C dX5_brokenLaw_46 (by decide) ?_
          refine V_icmp_ne C 54 dX5_brokenLaw_47 (by decide) (fun c27 => ?_) (fun c27 => ?_)
          · have hf := i_f c27 hf
            refine V_iconst (v := (1 : Int32)) C dX5_brokenLaw_54 (by decide) ?_
            refine V_sub (lv' := [(0, vR 5 (some v0)), (1, vR 1 v1), (2, vI v2), (3, vI v3), (4, vI v4)]) [0, 1, 2, 3, 4] rfl ?_
            exact p_X5_brokenLaw_55 C hQ hf
          · have hf := i_t c27 hf
            refine V_iconst (v := (0 : Int32)) C dX5_brokenLaw_50 (by decide) ?_
            refine V_goto C 55 dX5_brokenLaw_51 (by decide) ?_
            refine V_sub (lv' := [(0, vR 5 (some v0)), (1, vR 1 v1), (2, vI v2), (3, vI v3), (4, vI v4)]) [0, 1, 2, 3, 4] rfl ?_
            exact p_X5_brokenLaw_55 C hQ hf
        · have hf := i_t c26 hf
          refine V_iconst (v := (2 : Int32)) C dX5_brokenLaw_42 (by decide) ?_
          obtain ⟨hf1, hf2⟩ := Prod.mk.inj (Option.some.inj hf)
          subst hf1
          subst hf2
          exact V_iret C hQ dX5_brokenLaw_43
    · have hf := i_t c22 hf
      refine V_iconst (v := (1 : Int32)) C dX5_brokenLaw_17 (by decide) ?_
      obtain ⟨hf1, hf2⟩ := Prod.mk.inj (Option.some.inj hf)
      subst hf1
      subst hf2
      exact V_iret C hQ dX5_brokenLaw_18
theorem ct_X5_brokenLaw {r : Int32} {h' : Hp} {N : Nat} {h : Hp} {v0 : Nat} {v1 : Option Nat} {v2 : Int32} {v3 : Int32} {v4 : Int32} (hf : f_X5_brokenLaw N h v0 v1 v2 v3 v4 = some ((r, h'))) (l : Launch) (G : GT) : MC l G yX5_brokenLaw cX5_brokenLaw 7 (some .int) rmX5_brokenLaw h [vR 5 (some v0), vR 1 v1, vI v2, vI v3, vI v4] (some (vI r)) h' := MC_of (by decide) rfl (Nat.le_of_ble_eq_true rfl) rfl (fun X C hQ hin => p_X5_brokenLaw C hQ hf)
abbrev rmX5_isTip : Room := { frames := 1, cells := 0, slots := 0, locals := 21 }
def f_X5_isTip_38 (h : Hp) (v0 : Nat) (v1 : Int32) (v2 : Int32) (v3 : Int32) (v4 : Int32) (s0_ : Int32) : Option (Int32) := Option.bind (f_X5_hasStep h v0 v1) (fun r1 => if r1 = 0 then (some (0 : Int32)) else (if v4 = 0 then (some (0 : Int32)) else (if s0_ = 0 then (some (0 : Int32)) else (if v2 = (-1 : Int32) then (if v3 = (-1 : Int32) then (some (0 : Int32)) else (some (1 : Int32))) else (some (1 : Int32))))))
set_option maxHeartbeats 4000000 in
set_option maxRecDepth 100000 in
theorem p_X5_isTip_38 {X : XT} {r : Int32} {h : Hp} (C : CX X cX5_isTip "WaterStair$State" 6 (some .boolean) rmX5_isTip) (hQ : QX X (some (vI r)) h rmX5_isTip.cells rmX5_isTip.slots)   {v0 : Nat} {v1 : Int32} {v2 : Int32} {v3 : Int32} {v4 : Int32} {s0_ : Int32} (hf : f_X5_isTip_38 h v0 v1 v2 v3 v4 s0_ = some r) : V X 0 0 h 38 [(0, vR 5 (some v0)), (1, vI v1), (2, vI v2), (3, vI v3), (4, vI v4)] [vI s0_] := by
  unfold f_X5_isTip_38 at hf
  refine V_istore (lv' := [(5, vI s0_), (0, vR 5 (some v0)), (1, vI v1), (2, vI v2), (3, vI v3), (4, vI v4)]) C dX5_isTip_38 (by decide) rfl ?_
  refine V_aload_n C dX5_isTip_40 rfl 1 rfl ?_
  refine V_iload_n C dX5_isTip_41 rfl 2 rfl ?_
  obtain ⟨r1, er1, hf⟩ := o_b hf
  refine V_callV (as := [vI v1]) (st := []) C ml_X5_96 fx5 (ct_X5_hasStep er1) rfl ⟨by decide, by decide, by decide, by decide⟩ (Nat.le_of_ble_eq_true rfl) rfl dX5_isTip_42 (cs' := 0) (sl' := 0) rfl rfl ?_
  refine V_if_eq C 72 dX5_isTip_45 (by decide) (fun c2 => ?_) (fun c2 => ?_)
  · have hf := i_t c2 hf
    refine V_iconst (v := (0 : Int32)) C dX5_isTip_72 (by decide) ?_
    have hf := Option.some.inj hf
    subst hf
    exact V_zret C (by decide) hQ dX5_isTip_73
  · have hf := i_f c2 hf
    refine V_iload C dX5_isTip_48 5 rfl ?_
    refine V_if_eq C 72 dX5_isTip_50 (by decide) (fun c3 => ?_) (fun c3 => ?_)
    · have hf := i_t c3 hf
      refine V_iconst (v := (0 : Int32)) C dX5_isTip_72 (by decide) ?_
      have hf := Option.some.inj hf
      subst hf
      exact V_zret C (by decide) hQ dX5_isTip_73
    · have hf := i_f c3 hf
      refine V_iload C dX5_isTip_53 0 rfl ?_
      refine V_if_eq C 72 dX5_isTip_55 (by decide) (fun c4 => ?_) (fun c4 => ?_)
      · have hf := i_t c4 hf
        refine V_iconst (v := (0 : Int32)) C dX5_isTip_72 (by decide) ?_
        have hf := Option.some.inj hf
        subst hf
        exact V_zret C (by decide) hQ dX5_isTip_73
      · have hf := i_f c4 hf
        refine V_iload_n C dX5_isTip_58 rfl 3 rfl ?_
        refine V_iconst (v := (-1 : Int32)) C dX5_isTip_59 (by decide) ?_
        refine V_icmp_ne C 68 dX5_isTip_60 (by decide) (fun c5 => ?_) (fun c5 => ?_)
        · have hf := i_f c5 hf
          refine V_iconst (v := (1 : Int32)) C dX5_isTip_68 (by decide) ?_
          refine V_goto C 73 dX5_isTip_69 (by decide) ?_
          have hf := Option.some.inj hf
          subst hf
          exact V_zret C (by decide) hQ dX5_isTip_73
        · have hf := i_t c5 hf
          refine V_iload_n C dX5_isTip_63 rfl 4 rfl ?_
          refine V_iconst (v := (-1 : Int32)) C dX5_isTip_64 (by decide) ?_
          refine V_icmp_eq C 72 dX5_isTip_65 (by decide) (fun c6 => ?_) (fun c6 => ?_)
          · have hf := i_t c6 hf
            refine V_iconst (v := (0 : Int32)) C dX5_isTip_72 (by decide) ?_
            have hf := Option.some.inj hf
            subst hf
            exact V_zret C (by decide) hQ dX5_isTip_73
          · have hf := i_f c6 hf
            refine V_iconst (v := (1 : Int32)) C dX5_isTip_68 (by decide) ?_
            refine V_goto C 73 dX5_isTip_69 (by decide) ?_
            have hf := Option.some.inj hf
            subst hf
            exact V_zret C (by decide) hQ dX5_isTip_73
def f_X5_isTip_33 (h : Hp) (v0 : Nat) (v1 : Int32) (v2 : Int32) (v3 : Int32) (v4 : Int32) : Option (Int32) := f_X5_isTip_38 h v0 v1 v2 v3 v4 (1 : Int32)
set_option maxHeartbeats 4000000 in
set_option maxRecDepth 100000 in
theorem p_X5_isTip_33 {X : XT} {r : Int32} {h : Hp} (C : CX X cX5_isTip "WaterStair$State" 6 (some .boolean) rmX5_isTip) (hQ : QX X (some (vI r)) h rmX5_isTip.cells rmX5_isTip.slots)   {v0 : Nat} {v1 : Int32} {v2 : Int32} {v3 : Int32} {v4 : Int32} (hf : f_X5_isTip_33 h v0 v1 v2 v3 v4 = some r) : V X 0 0 h 33 [(0, vR 5 (some v0)), (1, vI v1), (2, vI v2), (3, vI v3), (4, vI v4)] [] := by
  unfold f_X5_isTip_33 at hf
  refine V_iconst (v := (1 : Int32)) C dX5_isTip_33 (by decide) ?_
  refine V_goto C 38 dX5_isTip_34 (by decide) ?_
  refine V_sub (lv' := [(0, vR 5 (some v0)), (1, vI v1), (2, vI v2), (3, vI v3), (4, vI v4)]) [0, 1, 2, 3, 4] rfl ?_
  exact p_X5_isTip_38 C hQ hf
def f_X5_isTip_18 (h : Hp) (v0 : Nat) (v1 : Int32) (v2 : Int32) (v3 : Int32) (s0_ : Int32) : Option (Int32) := if v3 = (-1 : Int32) then (f_X5_isTip_33 h v0 v1 v2 v3 s0_) else (Option.bind (f_X5_hasBarge h v0 v3) (fun r8 => if r8 = 0 then (f_X5_isTip_38 h v0 v1 v2 v3 s0_ (0 : Int32)) else (f_X5_isTip_33 h v0 v1 v2 v3 s0_)))
set_option maxHeartbeats 4000000 in
set_option maxRecDepth 100000 in
theorem p_X5_isTip_18 {X : XT} {r : Int32} {h : Hp} (C : CX X cX5_isTip "WaterStair$State" 6 (some .boolean) rmX5_isTip) (hQ : QX X (some (vI r)) h rmX5_isTip.cells rmX5_isTip.slots)   {v0 : Nat} {v1 : Int32} {v2 : Int32} {v3 : Int32} {s0_ : Int32} (hf : f_X5_isTip_18 h v0 v1 v2 v3 s0_ = some r) : V X 0 0 h 18 [(0, vR 5 (some v0)), (1, vI v1), (2, vI v2), (3, vI v3)] [vI s0_] := by
  unfold f_X5_isTip_18 at hf
  refine V_istore (lv' := [(4, vI s0_), (0, vR 5 (some v0)), (1, vI v1), (2, vI v2), (3, vI v3)]) C dX5_isTip_18 (by decide) rfl ?_
  refine V_iload_n C dX5_isTip_20 rfl 4 rfl ?_
  refine V_iconst (v := (-1 : Int32)) C dX5_isTip_21 (by decide) ?_
  refine V_icmp_eq C 33 dX5_isTip_22 (by decide) (fun c7 => ?_) (fun c7 => ?_)
  · have hf := i_t c7 hf
    refine V_sub (lv' := [(0, vR 5 (some v0)), (1, vI v1), (2, vI v2), (3, vI v3), (4, vI s0_)]) [1, 2, 3, 4, 0] rfl ?_
    exact p_X5_isTip_33 C hQ hf
  · have hf := i_f c7 hf
    refine V_aload_n C dX5_isTip_25 rfl 1 rfl ?_
    refine V_iload_n C dX5_isTip_26 rfl 4 rfl ?_
    obtain ⟨r8, er8, hf⟩ := o_b hf
    refine V_callV (as := [vI v3]) (st := []) C ml_X5_92 fx5 (ct_X5_hasBarge er8) rfl ⟨by decide, by decide, by decide, by decide⟩ (Nat.le_of_ble_eq_true rfl) rfl dX5_isTip_27 (cs' := 0) (sl' := 0) rfl rfl ?_
    refine V_if_eq C 37 dX5_isTip_30 (by decide) (fun c9 => ?_) (fun c9 => ?_)
    · have hf := i_t c9 hf
      refine V_iconst (v := (0 : Int32)) C dX5_isTip_37 (by decide) ?_
      refine V_sub (lv' := [(0, vR 5 (some v0)), (1, vI v1), (2, vI v2), (3, vI v3), (4, vI s0_)]) [1, 2, 3, 4, 0] rfl ?_
      exact p_X5_isTip_38 C hQ hf
    · have hf := i_f c9 hf
      refine V_sub (lv' := [(0, vR 5 (some v0)), (1, vI v1), (2, vI v2), (3, vI v3), (4, vI s0_)]) [1, 2, 3, 4, 0] rfl ?_
      exact p_X5_isTip_33 C hQ hf
def f_X5_isTip_13 (h : Hp) (v0 : Nat) (v1 : Int32) (v2 : Int32) (v3 : Int32) : Option (Int32) := f_X5_isTip_18 h v0 v1 v2 v3 (1 : Int32)
set_option maxHeartbeats 4000000 in
set_option maxRecDepth 100000 in
theorem p_X5_isTip_13 {X : XT} {r : Int32} {h : Hp} (C : CX X cX5_isTip "WaterStair$State" 6 (some .boolean) rmX5_isTip) (hQ : QX X (some (vI r)) h rmX5_isTip.cells rmX5_isTip.slots)   {v0 : Nat} {v1 : Int32} {v2 : Int32} {v3 : Int32} (hf : f_X5_isTip_13 h v0 v1 v2 v3 = some r) : V X 0 0 h 13 [(0, vR 5 (some v0)), (1, vI v1), (2, vI v2), (3, vI v3)] [] := by
  unfold f_X5_isTip_13 at hf
  refine V_iconst (v := (1 : Int32)) C dX5_isTip_13 (by decide) ?_
  refine V_goto C 18 dX5_isTip_14 (by decide) ?_
  refine V_sub (lv' := [(0, vR 5 (some v0)), (1, vI v1), (2, vI v2), (3, vI v3)]) [0, 1, 2, 3] rfl ?_
  exact p_X5_isTip_18 C hQ hf
def f_X5_isTip (h : Hp) (v0 : Nat) (v1 : Int32) (v2 : Int32) (v3 : Int32) : Option (Int32) := if v2 = (-1 : Int32) then (f_X5_isTip_13 h v0 v1 v2 v3) else (Option.bind (f_X5_hasBarge h v0 v2) (fun r11 => if r11 = 0 then (f_X5_isTip_18 h v0 v1 v2 v3 (0 : Int32)) else (f_X5_isTip_13 h v0 v1 v2 v3)))
set_option maxHeartbeats 4000000 in
set_option maxRecDepth 100000 in
theorem p_X5_isTip {X : XT} {r : Int32} (C : CX X cX5_isTip "WaterStair$State" 6 (some .boolean) rmX5_isTip) {h : Hp} {v0 : Nat} {v1 : Int32} {v2 : Int32} {v3 : Int32} (hQ : QX X (some (vI r)) h rmX5_isTip.cells rmX5_isTip.slots) (hf : f_X5_isTip h v0 v1 v2 v3 = some r) : V X 0 0 h 0 [(0, vR 5 (some v0)), (1, vI v1), (2, vI v2), (3, vI v3)] [] := by
  unfold f_X5_isTip at hf
  refine V_iload_n C dX5_isTip_0 rfl 2 rfl ?_
  refine V_iconst (v := (-1 : Int32)) C dX5_isTip_1 (by decide) ?_
  refine V_icmp_eq C 13 dX5_isTip_2 (by decide) (fun c10 => ?_) (fun c10 => ?_)
  · have hf := i_t c10 hf
    refine V_sub (lv' := [(0, vR 5 (some v0)), (1, vI v1), (2, vI v2), (3, vI v3)]) [0, 1, 2, 3] rfl ?_
    exact p_X5_isTip_13 C hQ hf
  · have hf := i_f c10 hf
    refine V_aload_n C dX5_isTip_5 rfl 0 rfl ?_
    refine V_iload_n C dX5_isTip_6 rfl 2 rfl ?_
    obtain ⟨r11, er11, hf⟩ := o_b hf
    refine V_callV (as := [vI v2]) (st := []) C ml_X5_92 fx5 (ct_X5_hasBarge er11) rfl ⟨by decide, by decide, by decide, by decide⟩ (Nat.le_of_ble_eq_true rfl) rfl dX5_isTip_7 (cs' := 0) (sl' := 0) rfl rfl ?_
    refine V_if_eq C 17 dX5_isTip_10 (by decide) (fun c12 => ?_) (fun c12 => ?_)
    · have hf := i_t c12 hf
      refine V_iconst (v := (0 : Int32)) C dX5_isTip_17 (by decide) ?_
      refine V_sub (lv' := [(0, vR 5 (some v0)), (1, vI v1), (2, vI v2), (3, vI v3)]) [0, 1, 2, 3] rfl ?_
      exact p_X5_isTip_18 C hQ hf
    · have hf := i_f c12 hf
      refine V_sub (lv' := [(0, vR 5 (some v0)), (1, vI v1), (2, vI v2), (3, vI v3)]) [0, 1, 2, 3] rfl ?_
      exact p_X5_isTip_13 C hQ hf
theorem ct_X5_isTip {r : Int32} {h : Hp} {v0 : Nat} {v1 : Int32} {v2 : Int32} {v3 : Int32} (hf : f_X5_isTip h v0 v1 v2 v3 = some r) (l : Launch) (G : GT) : MC l G yX5_isTip cX5_isTip 6 (some .boolean) rmX5_isTip h [vR 5 (some v0), vI v1, vI v2, vI v3] (some (vI r)) h := MC_of (by decide) rfl (Nat.le_of_ble_eq_true rfl) rfl (fun X C hQ hin => p_X5_isTip C hQ hf)
abbrev rmX5_tipOf : Room := { frames := 0, cells := 0, slots := 0, locals := 0 }
def f_X5_tipOf (h : Hp) (v0 : Int32) (v1 : Int32) (v2 : Int32) : Option (Int32) := some ((((v0 * (49 : Int32)) + ((v1 + (1 : Int32)) * (7 : Int32))) + v2) + (1 : Int32))
set_option maxHeartbeats 4000000 in
set_option maxRecDepth 100000 in
theorem p_X5_tipOf {X : XT} {r : Int32} (C : CX X cX5_tipOf "WaterStair$State" 3 (some .int) rmX5_tipOf) {h : Hp} {v0 : Int32} {v1 : Int32} {v2 : Int32} (hQ : QX X (some (vI r)) h rmX5_tipOf.cells rmX5_tipOf.slots) (hf : f_X5_tipOf h v0 v1 v2 = some r) : V X 0 0 h 0 [(0, vI v0), (1, vI v1), (2, vI v2)] [] := by
  unfold f_X5_tipOf at hf
  refine V_iload_n C dX5_tipOf_0 rfl 0 rfl ?_
  refine V_bipush (v := (49 : Int32)) C dX5_tipOf_1 (by decide) ?_
  refine V_imul C dX5_tipOf_3 ?_
  refine V_iload_n C dX5_tipOf_4 rfl 1 rfl ?_
  refine V_iconst (v := (1 : Int32)) C dX5_tipOf_5 (by decide) ?_
  refine V_iadd C dX5_tipOf_6 ?_
  refine V_bipush (v := (7 : Int32)) C dX5_tipOf_7 (by decide) ?_
  refine V_imul C dX5_tipOf_9 ?_
  refine V_iadd C dX5_tipOf_10 ?_
  refine V_iload_n C dX5_tipOf_11 rfl 2 rfl ?_
  refine V_iadd C dX5_tipOf_12 ?_
  refine V_iconst (v := (1 : Int32)) C dX5_tipOf_13 (by decide) ?_
  refine V_iadd C dX5_tipOf_14 ?_
  have hf := Option.some.inj hf
  subst hf
  exact V_iret C hQ dX5_tipOf_15
theorem ct_X5_tipOf {r : Int32} {h : Hp} {v0 : Int32} {v1 : Int32} {v2 : Int32} (hf : f_X5_tipOf h v0 v1 v2 = some r) (l : Launch) (G : GT) : MC l G yX5_tipOf cX5_tipOf 3 (some .int) rmX5_tipOf h [vI v0, vI v1, vI v2] (some (vI r)) h := MC_of (by decide) rfl (Nat.le_of_ble_eq_true rfl) rfl (fun X C hQ hin => p_X5_tipOf C hQ hf)
abbrev rmX5_gatherTips : Room := { frames := 4, cells := 0, slots := 0, locals := 92 }
def f_X5_gatherTips_162 (N : Nat) (s14 : Hp → Nat → Option Nat → Nat → Int32 → Int32 → Int32 → Option (Int32 × Hp)) (s35 : Hp → Nat → Option Nat → Nat → Int32 → Int32 → Int32 → Int32 → Option (Int32 × Hp)) (s86 : Hp → Nat → Option Nat → Nat → Int32 → Int32 → Int32 → Int32 → Int32 → Int32 → Option (Int32 × Hp)) (h : Hp) (v0 : Nat) (v1 : Option Nat) (v2 : Nat) (v4 : Int32) (v5 : Int32) (v6 : Int32) (v7 : Int32) (v8 : Int32) (v9 : Int32) : Option (Int32 × Hp) := s86 h v0 v1 v2 v4 v5 v6 v7 v8 (v9 + (1 : Int32))
set_option maxHeartbeats 4000000 in
set_option maxRecDepth 100000 in
theorem p_X5_gatherTips_162 {X : XT} {r : Int32} {h' : Hp} (C : CX X cX5_gatherTips "WaterStair$State" 11 (some .int) rmX5_gatherTips) (hQ : QX X (some (vI r)) h' rmX5_gatherTips.cells rmX5_gatherTips.slots) {N : Nat} {s14 : Hp → Nat → Option Nat → Nat → Int32 → Int32 → Int32 → Option (Int32 × Hp)} {s35 : Hp → Nat → Option Nat → Nat → Int32 → Int32 → Int32 → Int32 → Option (Int32 × Hp)} {s86 : Hp → Nat → Option Nat → Nat → Int32 → Int32 → Int32 → Int32 → Int32 → Int32 → Option (Int32 × Hp)} (S14 : ∀ (h : Hp) (v0 : Nat) (v1 : Option Nat) (v2 : Nat) (v4 : Int32) (v5 : Int32) (v6 : Int32), s14 h v0 v1 v2 v4 v5 v6 = some ((r, h')) → V X 0 0 h 14 [(0, vR 5 (some v0)), (1, vR 1 v1), (2, vR 10 (some v2)), (4, vI v4), (5, vI v5), (6, vI v6)] []) (S35 : ∀ (h : Hp) (v0 : Nat) (v1 : Option Nat) (v2 : Nat) (v4 : Int32) (v5 : Int32) (v6 : Int32) (v7 : Int32), s35 h v0 v1 v2 v4 v5 v6 v7 = some ((r, h')) → V X 0 0 h 35 [(0, vR 5 (some v0)), (1, vR 1 v1), (2, vR 10 (some v2)), (4, vI v4), (5, vI v5), (6, vI v6), (7, vI v7)] []) (S86 : ∀ (h : Hp) (v0 : Nat) (v1 : Option Nat) (v2 : Nat) (v4 : Int32) (v5 : Int32) (v6 : Int32) (v7 : Int32) (v8 : Int32) (v9 : Int32), s86 h v0 v1 v2 v4 v5 v6 v7 v8 v9 = some ((r, h')) → V X 0 0 h 86 [(0, vR 5 (some v0)), (1, vR 1 v1), (2, vR 10 (some v2)), (4, vI v4), (5, vI v5), (6, vI v6), (7, vI v7), (8, vI v8), (9, vI v9)] []) {h : Hp} {v0 : Nat} {v1 : Option Nat} {v2 : Nat} {v4 : Int32} {v5 : Int32} {v6 : Int32} {v7 : Int32} {v8 : Int32} {v9 : Int32} (hf : f_X5_gatherTips_162 N s14 s35 s86 h v0 v1 v2 v4 v5 v6 v7 v8 v9 = some ((r, h'))) : V X 0 0 h 162 [(0, vR 5 (some v0)), (1, vR 1 v1), (2, vR 10 (some v2)), (4, vI v4), (5, vI v5), (6, vI v6), (7, vI v7), (8, vI v8), (9, vI v9)] [] := by
  unfold f_X5_gatherTips_162 at hf
  refine V_iinc (lv' := [(9, vI (v9 + (1 : Int32))), (0, vR 5 (some v0)), (1, vR 1 v1), (2, vR 10 (some v2)), (4, vI v4), (5, vI v5), (6, vI v6), (7, vI v7), (8, vI v8)]) C dX5_gatherTips_162 8 rfl (congrArg (v9 + ·) (by decide : Int32.ofInt (1) = (1 : Int32))) (by decide) rfl ?_
  refine V_goto C 86 dX5_gatherTips_165 (by decide) ?_
  refine V_sub (lv' := [(0, vR 5 (some v0)), (1, vR 1 v1), (2, vR 10 (some v2)), (4, vI v4), (5, vI v5), (6, vI v6), (7, vI v7), (8, vI v8), (9, vI (v9 + (1 : Int32)))]) [1, 2, 3, 4, 5, 6, 7, 8, 0] rfl ?_
  exact S86 _ _ _ _ _ _ _ _ _ _ hf
def f_X5_gatherTips_117 (N : Nat) (s14 : Hp → Nat → Option Nat → Nat → Int32 → Int32 → Int32 → Option (Int32 × Hp)) (s35 : Hp → Nat → Option Nat → Nat → Int32 → Int32 → Int32 → Int32 → Option (Int32 × Hp)) (s86 : Hp → Nat → Option Nat → Nat → Int32 → Int32 → Int32 → Int32 → Int32 → Int32 → Option (Int32 × Hp)) (h : Hp) (v0 : Nat) (v1 : Option Nat) (v2 : Nat) (v4 : Int32) (v5 : Int32) (v6 : Int32) (v7 : Int32) (v8 : Int32) (v9 : Int32) (s0_ : Int32) : Option (Int32 × Hp) := Option.bind (f_X5_isTip h v0 v6 v8 s0_) (fun r1 => if r1 = 0 then (f_X5_gatherTips_162 N s14 s35 s86 h v0 v1 v2 v4 v5 v6 v7 v8 v9) else (b2 (f_X5_brokenLaw N h v0 v1 v6 v8 s0_) (fun r3 h4 => if r3 = 0 then (Option.bind (f_X5_tipOf h4 v6 v8 s0_) (fun r6 => if 0 ≤ v5 ∧ v5.toNatClampNeg < hL h4 v2 then (lt (sI h4 v2 (v5.toNatClampNeg) r6) (fun h8 => f_X5_gatherTips_162 N s14 s35 s86 h8 v0 v1 v2 v4 (v5 + (1 : Int32)) v6 v7 v8 v9)) else none)) else (f_X5_gatherTips_162 N s14 s35 s86 h4 v0 v1 v2 v4 v5 v6 v7 v8 v9))))
set_option maxHeartbeats 4000000 in
set_option maxRecDepth 100000 in
theorem p_X5_gatherTips_117 {X : XT} {r : Int32} {h' : Hp} (C : CX X cX5_gatherTips "WaterStair$State" 11 (some .int) rmX5_gatherTips) (hQ : QX X (some (vI r)) h' rmX5_gatherTips.cells rmX5_gatherTips.slots) {N : Nat} {s14 : Hp → Nat → Option Nat → Nat → Int32 → Int32 → Int32 → Option (Int32 × Hp)} {s35 : Hp → Nat → Option Nat → Nat → Int32 → Int32 → Int32 → Int32 → Option (Int32 × Hp)} {s86 : Hp → Nat → Option Nat → Nat → Int32 → Int32 → Int32 → Int32 → Int32 → Int32 → Option (Int32 × Hp)} (S14 : ∀ (h : Hp) (v0 : Nat) (v1 : Option Nat) (v2 : Nat) (v4 : Int32) (v5 : Int32) (v6 : Int32), s14 h v0 v1 v2 v4 v5 v6 = some ((r, h')) → V X 0 0 h 14 [(0, vR 5 (some v0)), (1, vR 1 v1), (2, vR 10 (some v2)), (4, vI v4), (5, vI v5), (6, vI v6)] []) (S35 : ∀ (h : Hp) (v0 : Nat) (v1 : Option Nat) (v2 : Nat) (v4 : Int32) (v5 : Int32) (v6 : Int32) (v7 : Int32), s35 h v0 v1 v2 v4 v5 v6 v7 = some ((r, h')) → V X 0 0 h 35 [(0, vR 5 (some v0)), (1, vR 1 v1), (2, vR 10 (some v2)), (4, vI v4), (5, vI v5), (6, vI v6), (7, vI v7)] []) (S86 : ∀ (h : Hp) (v0 : Nat) (v1 : Option Nat) (v2 : Nat) (v4 : Int32) (v5 : Int32) (v6 : Int32) (v7 : Int32) (v8 : Int32) (v9 : Int32), s86 h v0 v1 v2 v4 v5 v6 v7 v8 v9 = some ((r, h')) → V X 0 0 h 86 [(0, vR 5 (some v0)), (1, vR 1 v1), (2, vR 10 (some v2)), (4, vI v4), (5, vI v5), (6, vI v6), (7, vI v7), (8, vI v8), (9, vI v9)] []) {h : Hp} {v0 : Nat} {v1 : Option Nat} {v2 : Nat} {v4 : Int32} {v5 : Int32} {v6 : Int32} {v7 : Int32} {v8 : Int32} {v9 : Int32} {s0_ : Int32} (hf : f_X5_gatherTips_117 N s14 s35 s86 h v0 v1 v2 v4 v5 v6 v7 v8 v9 s0_ = some ((r, h'))) : V X 0 0 h 117 [(0, vR 5 (some v0)), (1, vR 1 v1), (2, vR 10 (some v2)), (4, vI v4), (5, vI v5), (6, vI v6), (7, vI v7), (8, vI v8), (9, vI v9)] [vI s0_] := by
  unfold f_X5_gatherTips_117 at hf
  refine V_istore (lv' := [(10, vI s0_), (0, vR 5 (some v0)), (1, vR 1 v1), (2, vR 10 (some v2)), (4, vI v4), (5, vI v5), (6, vI v6), (7, vI v7), (8, vI v8), (9, vI v9)]) C dX5_gatherTips_117 (by decide) rfl ?_
  refine V_aload_n C dX5_gatherTips_119 rfl 1 rfl ?_
  refine V_iload C dX5_gatherTips_120 6 rfl ?_
  refine V_iload C dX5_gatherTips_122 8 rfl ?_
  refine V_iload C dX5_gatherTips_124 0 rfl ?_
  obtain ⟨r1, er1, hf⟩ := o_b hf
  refine V_callV (as := [vI v6, vI v8, vI s0_]) (st := []) C ml_X5_156 fx5 (ct_X5_isTip er1) rfl ⟨by decide, by decide, by decide, by decide⟩ (Nat.le_of_ble_eq_true rfl) rfl dX5_gatherTips_126 (cs' := 0) (sl' := 0) rfl rfl ?_
  refine V_if_eq C 162 dX5_gatherTips_129 (by decide) (fun c2 => ?_) (fun c2 => ?_)
  · have hf := i_t c2 hf
    refine V_sub (lv' := [(0, vR 5 (some v0)), (1, vR 1 v1), (2, vR 10 (some v2)), (4, vI v4), (5, vI v5), (6, vI v6), (7, vI v7), (8, vI v8), (9, vI v9)]) [1, 2, 3, 4, 5, 6, 7, 8, 9] rfl ?_
    exact p_X5_gatherTips_162 C hQ S14 S35 S86 hf
  · have hf := i_f c2 hf
    refine V_aload_n C dX5_gatherTips_132 rfl 1 rfl ?_
    refine V_aload_n C dX5_gatherTips_133 rfl 2 rfl ?_
    refine V_iload C dX5_gatherTips_134 6 rfl ?_
    refine V_iload C dX5_gatherTips_136 8 rfl ?_
    refine V_iload C dX5_gatherTips_138 0 rfl ?_
    obtain ⟨r3, h4, er3, hf⟩ := o_b2 hf
    refine V_callV (as := [vR 1 v1, vI v6, vI v8, vI s0_]) (st := []) C ml_X5_159 fx5 (ct_X5_brokenLaw er3) rfl ⟨by decide, by decide, by decide, by decide⟩ (Nat.le_of_ble_eq_true rfl) rfl dX5_gatherTips_140 (cs' := 0) (sl' := 0) rfl rfl ?_
    refine V_if_ne C 162 dX5_gatherTips_143 (by decide) (fun c5 => ?_) (fun c5 => ?_)
    · have hf := i_f c5 hf
      refine V_sub (lv' := [(0, vR 5 (some v0)), (1, vR 1 v1), (2, vR 10 (some v2)), (4, vI v4), (5, vI v5), (6, vI v6), (7, vI v7), (8, vI v8), (9, vI v9)]) [1, 2, 3, 4, 5, 6, 7, 8, 9] rfl ?_
      exact p_X5_gatherTips_162 C hQ S14 S35 S86 hf
    · have hf := i_t c5 hf
      refine V_aload_n C dX5_gatherTips_146 rfl 3 rfl ?_
      refine V_iload C dX5_gatherTips_147 5 rfl ?_
      refine V_iload C dX5_gatherTips_149 6 rfl ?_
      refine V_iload C dX5_gatherTips_151 8 rfl ?_
      refine V_iload C dX5_gatherTips_153 0 rfl ?_
      obtain ⟨r6, er6, hf⟩ := o_b hf
      refine V_callS (as := [vI v6, vI v8, vI s0_]) (st := [vI v5, vR 10 (some v2)]) C ml_X5_163 (ct_X5_tipOf er6) rfl ⟨by decide, by decide, by decide, by decide⟩ (Nat.le_of_ble_eq_true rfl) rfl dX5_gatherTips_155 (cs' := 0) (sl' := 0) rfl rfl ?_
      obtain ⟨g7, hf⟩ := o_if hf
      obtain ⟨h8, eh8, hf⟩ := o_l hf
      refine V_iast C (vp_g g7) rfl dX5_gatherTips_158 (V_eqH eh8 ?_)
      refine V_iinc (lv' := [(5, vI (v5 + (1 : Int32))), (10, vI s0_), (0, vR 5 (some v0)), (1, vR 1 v1), (2, vR 10 (some v2)), (4, vI v4), (6, vI v6), (7, vI v7), (8, vI v8), (9, vI v9)]) C dX5_gatherTips_159 5 rfl (congrArg (v5 + ·) (by decide : Int32.ofInt (1) = (1 : Int32))) (by decide) rfl ?_
      refine V_sub (lv' := [(0, vR 5 (some v0)), (1, vR 1 v1), (2, vR 10 (some v2)), (4, vI v4), (5, vI (v5 + (1 : Int32))), (6, vI v6), (7, vI v7), (8, vI v8), (9, vI v9)]) [2, 3, 4, 5, 0, 6, 7, 8, 9] rfl ?_
      exact p_X5_gatherTips_162 C hQ S14 S35 S86 hf
def f_X5_gatherTips_168 (N : Nat) (s14 : Hp → Nat → Option Nat → Nat → Int32 → Int32 → Int32 → Option (Int32 × Hp)) (s35 : Hp → Nat → Option Nat → Nat → Int32 → Int32 → Int32 → Int32 → Option (Int32 × Hp)) (h : Hp) (v0 : Nat) (v1 : Option Nat) (v2 : Nat) (v4 : Int32) (v5 : Int32) (v6 : Int32) (v7 : Int32) : Option (Int32 × Hp) := s35 h v0 v1 v2 v4 v5 v6 (v7 + (1 : Int32))
set_option maxHeartbeats 4000000 in
set_option maxRecDepth 100000 in
theorem p_X5_gatherTips_168 {X : XT} {r : Int32} {h' : Hp} (C : CX X cX5_gatherTips "WaterStair$State" 11 (some .int) rmX5_gatherTips) (hQ : QX X (some (vI r)) h' rmX5_gatherTips.cells rmX5_gatherTips.slots) {N : Nat} {s14 : Hp → Nat → Option Nat → Nat → Int32 → Int32 → Int32 → Option (Int32 × Hp)} {s35 : Hp → Nat → Option Nat → Nat → Int32 → Int32 → Int32 → Int32 → Option (Int32 × Hp)} (S14 : ∀ (h : Hp) (v0 : Nat) (v1 : Option Nat) (v2 : Nat) (v4 : Int32) (v5 : Int32) (v6 : Int32), s14 h v0 v1 v2 v4 v5 v6 = some ((r, h')) → V X 0 0 h 14 [(0, vR 5 (some v0)), (1, vR 1 v1), (2, vR 10 (some v2)), (4, vI v4), (5, vI v5), (6, vI v6)] []) (S35 : ∀ (h : Hp) (v0 : Nat) (v1 : Option Nat) (v2 : Nat) (v4 : Int32) (v5 : Int32) (v6 : Int32) (v7 : Int32), s35 h v0 v1 v2 v4 v5 v6 v7 = some ((r, h')) → V X 0 0 h 35 [(0, vR 5 (some v0)), (1, vR 1 v1), (2, vR 10 (some v2)), (4, vI v4), (5, vI v5), (6, vI v6), (7, vI v7)] []) {h : Hp} {v0 : Nat} {v1 : Option Nat} {v2 : Nat} {v4 : Int32} {v5 : Int32} {v6 : Int32} {v7 : Int32} (hf : f_X5_gatherTips_168 N s14 s35 h v0 v1 v2 v4 v5 v6 v7 = some ((r, h'))) : V X 0 0 h 168 [(0, vR 5 (some v0)), (1, vR 1 v1), (2, vR 10 (some v2)), (4, vI v4), (5, vI v5), (6, vI v6), (7, vI v7)] [] := by
  unfold f_X5_gatherTips_168 at hf
  refine V_iinc (lv' := [(7, vI (v7 + (1 : Int32))), (0, vR 5 (some v0)), (1, vR 1 v1), (2, vR 10 (some v2)), (4, vI v4), (5, vI v5), (6, vI v6)]) C dX5_gatherTips_168 6 rfl (congrArg (v7 + ·) (by decide : Int32.ofInt (1) = (1 : Int32))) (by decide) rfl ?_
  refine V_goto C 35 dX5_gatherTips_171 (by decide) ?_
  refine V_sub (lv' := [(0, vR 5 (some v0)), (1, vR 1 v1), (2, vR 10 (some v2)), (4, vI v4), (5, vI v5), (6, vI v6), (7, vI (v7 + (1 : Int32)))]) [1, 2, 3, 4, 5, 6, 0] rfl ?_
  exact S35 _ _ _ _ _ _ _ _ hf
def f_X5_gatherTips_86 (N : Nat) (s14 : Hp → Nat → Option Nat → Nat → Int32 → Int32 → Int32 → Option (Int32 × Hp)) (s35 : Hp → Nat → Option Nat → Nat → Int32 → Int32 → Int32 → Int32 → Option (Int32 × Hp)) : Nat → Hp → Nat → Option Nat → Nat → Int32 → Int32 → Int32 → Int32 → Int32 → Int32 → Option (Int32 × Hp)
  | 0, _, _, _, _, _, _, _, _, _, _ => none
  | n + 1, h, v0, v1, v2, v4, v5, v6, v7, v8, v9 => if (hI h v0 1) < v9 then (f_X5_gatherTips_168 N s14 s35 h v0 v1 v2 v4 v5 v6 v7) else (if v4 ≤ v5 then (f_X5_gatherTips_168 N s14 s35 h v0 v1 v2 v4 v5 v6 v7) else (if (hI h v0 1) ≤ v9 then (f_X5_gatherTips_117 N s14 s35 (f_X5_gatherTips_86 N s14 s35 n) h v0 v1 v2 v4 v5 v6 v7 v8 v9 (-1 : Int32)) else (f_X5_gatherTips_117 N s14 s35 (f_X5_gatherTips_86 N s14 s35 n) h v0 v1 v2 v4 v5 v6 v7 v8 v9 v9)))
set_option maxHeartbeats 4000000 in
set_option maxRecDepth 100000 in
theorem p_X5_gatherTips_86 {X : XT} {r : Int32} {h' : Hp} (C : CX X cX5_gatherTips "WaterStair$State" 11 (some .int) rmX5_gatherTips) (hQ : QX X (some (vI r)) h' rmX5_gatherTips.cells rmX5_gatherTips.slots) {N : Nat} {s14 : Hp → Nat → Option Nat → Nat → Int32 → Int32 → Int32 → Option (Int32 × Hp)} {s35 : Hp → Nat → Option Nat → Nat → Int32 → Int32 → Int32 → Int32 → Option (Int32 × Hp)} (S14 : ∀ (h : Hp) (v0 : Nat) (v1 : Option Nat) (v2 : Nat) (v4 : Int32) (v5 : Int32) (v6 : Int32), s14 h v0 v1 v2 v4 v5 v6 = some ((r, h')) → V X 0 0 h 14 [(0, vR 5 (some v0)), (1, vR 1 v1), (2, vR 10 (some v2)), (4, vI v4), (5, vI v5), (6, vI v6)] []) (S35 : ∀ (h : Hp) (v0 : Nat) (v1 : Option Nat) (v2 : Nat) (v4 : Int32) (v5 : Int32) (v6 : Int32) (v7 : Int32), s35 h v0 v1 v2 v4 v5 v6 v7 = some ((r, h')) → V X 0 0 h 35 [(0, vR 5 (some v0)), (1, vR 1 v1), (2, vR 10 (some v2)), (4, vI v4), (5, vI v5), (6, vI v6), (7, vI v7)] []) : ∀ (n : Nat) (h : Hp) (v0 : Nat) (v1 : Option Nat) (v2 : Nat) (v4 : Int32) (v5 : Int32) (v6 : Int32) (v7 : Int32) (v8 : Int32) (v9 : Int32), f_X5_gatherTips_86 N s14 s35 n h v0 v1 v2 v4 v5 v6 v7 v8 v9 = some ((r, h')) → V X 0 0 h 86 [(0, vR 5 (some v0)), (1, vR 1 v1), (2, vR 10 (some v2)), (4, vI v4), (5, vI v5), (6, vI v6), (7, vI v7), (8, vI v8), (9, vI v9)] [] := by
  intro n
  induction n with
  | zero =>
    intro h v0 v1 v2 v4 v5 v6 v7 v8 v9 hf
    have hf : (none : Option (Int32 × Hp)) = some _ := hf
    cases hf
  | succ n ih =>
    intro h v0 v1 v2 v4 v5 v6 v7 v8 v9 hf
    rw [f_X5_gatherTips_86] at hf
    refine V_iload C dX5_gatherTips_86 8 rfl ?_
    refine V_aload_n C dX5_gatherTips_88 rfl 0 rfl ?_
    refine V_getI C fl_X5_15 rfl dX5_gatherTips_89 ?_
    refine V_icmp_gt C 168 dX5_gatherTips_92 (by decide) (fun c9 => ?_) (fun c9 => ?_)
    · have hf := i_t c9 hf
      refine V_sub (lv' := [(0, vR 5 (some v0)), (1, vR 1 v1), (2, vR 10 (some v2)), (4, vI v4), (5, vI v5), (6, vI v6), (7, vI v7)]) [0, 1, 2, 3, 4, 5, 6] rfl ?_
      exact p_X5_gatherTips_168 C hQ S14 S35 hf
    · have hf := i_f c9 hf
      refine V_iload C dX5_gatherTips_95 4 rfl ?_
      refine V_iload C dX5_gatherTips_97 3 rfl ?_
      refine V_icmp_ge C 168 dX5_gatherTips_99 (by decide) (fun c10 => ?_) (fun c10 => ?_)
      · have hf := i_t c10 hf
        refine V_sub (lv' := [(0, vR 5 (some v0)), (1, vR 1 v1), (2, vR 10 (some v2)), (4, vI v4), (5, vI v5), (6, vI v6), (7, vI v7)]) [0, 1, 2, 3, 4, 5, 6] rfl ?_
        exact p_X5_gatherTips_168 C hQ S14 S35 hf
      · have hf := i_f c10 hf
        refine V_iload C dX5_gatherTips_102 8 rfl ?_
        refine V_aload_n C dX5_gatherTips_104 rfl 0 rfl ?_
        refine V_getI C fl_X5_15 rfl dX5_gatherTips_105 ?_
        refine V_icmp_ge C 116 dX5_gatherTips_108 (by decide) (fun c11 => ?_) (fun c11 => ?_)
        · have hf := i_t c11 hf
          refine V_iconst (v := (-1 : Int32)) C dX5_gatherTips_116 (by decide) ?_
          refine V_sub (lv' := [(0, vR 5 (some v0)), (1, vR 1 v1), (2, vR 10 (some v2)), (4, vI v4), (5, vI v5), (6, vI v6), (7, vI v7), (8, vI v8), (9, vI v9)]) [0, 1, 2, 3, 4, 5, 6, 7, 8] rfl ?_
          exact p_X5_gatherTips_117 C hQ S14 S35 ih hf
        · have hf := i_f c11 hf
          refine V_iload C dX5_gatherTips_111 8 rfl ?_
          refine V_goto C 117 dX5_gatherTips_113 (by decide) ?_
          refine V_sub (lv' := [(0, vR 5 (some v0)), (1, vR 1 v1), (2, vR 10 (some v2)), (4, vI v4), (5, vI v5), (6, vI v6), (7, vI v7), (8, vI v8), (9, vI v9)]) [0, 1, 2, 3, 4, 5, 6, 7, 8] rfl ?_
          exact p_X5_gatherTips_117 C hQ S14 S35 ih hf
def f_X5_gatherTips_66 (N : Nat) (s14 : Hp → Nat → Option Nat → Nat → Int32 → Int32 → Int32 → Option (Int32 × Hp)) (s35 : Hp → Nat → Option Nat → Nat → Int32 → Int32 → Int32 → Int32 → Option (Int32 × Hp)) (h : Hp) (v0 : Nat) (v1 : Option Nat) (v2 : Nat) (v4 : Int32) (v5 : Int32) (v6 : Int32) (v7 : Int32) (s0_ : Int32) : Option (Int32 × Hp) := Option.bind (f_X5_isReady h v0 s0_ v6 (0 : Int32)) (fun r12 => if r12 = 0 then (f_X5_gatherTips_168 N s14 s35 h v0 v1 v2 v4 v5 v6 v7) else (f_X5_gatherTips_86 N s14 s35 N h v0 v1 v2 v4 v5 v6 v7 s0_ (0 : Int32)))
set_option maxHeartbeats 4000000 in
set_option maxRecDepth 100000 in
theorem p_X5_gatherTips_66 {X : XT} {r : Int32} {h' : Hp} (C : CX X cX5_gatherTips "WaterStair$State" 11 (some .int) rmX5_gatherTips) (hQ : QX X (some (vI r)) h' rmX5_gatherTips.cells rmX5_gatherTips.slots) {N : Nat} {s14 : Hp → Nat → Option Nat → Nat → Int32 → Int32 → Int32 → Option (Int32 × Hp)} {s35 : Hp → Nat → Option Nat → Nat → Int32 → Int32 → Int32 → Int32 → Option (Int32 × Hp)} (S14 : ∀ (h : Hp) (v0 : Nat) (v1 : Option Nat) (v2 : Nat) (v4 : Int32) (v5 : Int32) (v6 : Int32), s14 h v0 v1 v2 v4 v5 v6 = some ((r, h')) → V X 0 0 h 14 [(0, vR 5 (some v0)), (1, vR 1 v1), (2, vR 10 (some v2)), (4, vI v4), (5, vI v5), (6, vI v6)] []) (S35 : ∀ (h : Hp) (v0 : Nat) (v1 : Option Nat) (v2 : Nat) (v4 : Int32) (v5 : Int32) (v6 : Int32) (v7 : Int32), s35 h v0 v1 v2 v4 v5 v6 v7 = some ((r, h')) → V X 0 0 h 35 [(0, vR 5 (some v0)), (1, vR 1 v1), (2, vR 10 (some v2)), (4, vI v4), (5, vI v5), (6, vI v6), (7, vI v7)] []) {h : Hp} {v0 : Nat} {v1 : Option Nat} {v2 : Nat} {v4 : Int32} {v5 : Int32} {v6 : Int32} {v7 : Int32} {s0_ : Int32} (hf : f_X5_gatherTips_66 N s14 s35 h v0 v1 v2 v4 v5 v6 v7 s0_ = some ((r, h'))) : V X 0 0 h 66 [(0, vR 5 (some v0)), (1, vR 1 v1), (2, vR 10 (some v2)), (4, vI v4), (5, vI v5), (6, vI v6), (7, vI v7)] [vI s0_] := by
  unfold f_X5_gatherTips_66 at hf
  refine V_istore (lv' := [(8, vI s0_), (0, vR 5 (some v0)), (1, vR 1 v1), (2, vR 10 (some v2)), (4, vI v4), (5, vI v5), (6, vI v6), (7, vI v7)]) C dX5_gatherTips_66 (by decide) rfl ?_
  refine V_aload_n C dX5_gatherTips_68 rfl 1 rfl ?_
  refine V_iload C dX5_gatherTips_69 0 rfl ?_
  refine V_iload C dX5_gatherTips_71 6 rfl ?_
  refine V_iconst (v := (0 : Int32)) C dX5_gatherTips_73 (by decide) ?_
  obtain ⟨r12, er12, hf⟩ := o_b hf
  refine V_callV (as := [vI s0_, vI v6, vI (0 : Int32)]) (st := []) C ml_X5_125 fx5 (ct_X5_isReady er12) rfl ⟨by decide, by decide, by decide, by decide⟩ (Nat.le_of_ble_eq_true rfl) rfl dX5_gatherTips_74 (cs' := 0) (sl' := 0) rfl rfl ?_
  refine V_if_ne C 83 dX5_gatherTips_77 (by decide) (fun c13 => ?_) (fun c13 => ?_)
  · have hf := i_f c13 hf
    refine V_iconst (v := (0 : Int32)) C dX5_gatherTips_83 (by decide) ?_
    refine V_istore (lv' := [(9, vI (0 : Int32)), (8, vI s0_), (0, vR 5 (some v0)), (1, vR 1 v1), (2, vR 10 (some v2)), (4, vI v4), (5, vI v5), (6, vI v6), (7, vI v7)]) C dX5_gatherTips_84 (by decide) rfl ?_
    refine V_sub (lv' := [(0, vR 5 (some v0)), (1, vR 1 v1), (2, vR 10 (some v2)), (4, vI v4), (5, vI v5), (6, vI v6), (7, vI v7), (8, vI s0_), (9, vI (0 : Int32))]) [2, 3, 4, 5, 6, 7, 8, 1, 0] rfl ?_
    exact p_X5_gatherTips_86 C hQ S14 S35 N _ _ _ _ _ _ _ _ _ _ hf
  · have hf := i_t c13 hf
    refine V_goto C 168 dX5_gatherTips_80 (by decide) ?_
    refine V_sub (lv' := [(0, vR 5 (some v0)), (1, vR 1 v1), (2, vR 10 (some v2)), (4, vI v4), (5, vI v5), (6, vI v6), (7, vI v7)]) [1, 2, 3, 4, 5, 6, 7] rfl ?_
    exact p_X5_gatherTips_168 C hQ S14 S35 hf
def f_X5_gatherTips_174 (N : Nat) (s14 : Hp → Nat → Option Nat → Nat → Int32 → Int32 → Int32 → Option (Int32 × Hp)) (h : Hp) (v0 : Nat) (v1 : Option Nat) (v2 : Nat) (v4 : Int32) (v5 : Int32) (v6 : Int32) : Option (Int32 × Hp) := s14 h v0 v1 v2 v4 v5 (v6 + (1 : Int32))
set_option maxHeartbeats 4000000 in
set_option maxRecDepth 100000 in
theorem p_X5_gatherTips_174 {X : XT} {r : Int32} {h' : Hp} (C : CX X cX5_gatherTips "WaterStair$State" 11 (some .int) rmX5_gatherTips) (hQ : QX X (some (vI r)) h' rmX5_gatherTips.cells rmX5_gatherTips.slots) {N : Nat} {s14 : Hp → Nat → Option Nat → Nat → Int32 → Int32 → Int32 → Option (Int32 × Hp)} (S14 : ∀ (h : Hp) (v0 : Nat) (v1 : Option Nat) (v2 : Nat) (v4 : Int32) (v5 : Int32) (v6 : Int32), s14 h v0 v1 v2 v4 v5 v6 = some ((r, h')) → V X 0 0 h 14 [(0, vR 5 (some v0)), (1, vR 1 v1), (2, vR 10 (some v2)), (4, vI v4), (5, vI v5), (6, vI v6)] []) {h : Hp} {v0 : Nat} {v1 : Option Nat} {v2 : Nat} {v4 : Int32} {v5 : Int32} {v6 : Int32} (hf : f_X5_gatherTips_174 N s14 h v0 v1 v2 v4 v5 v6 = some ((r, h'))) : V X 0 0 h 174 [(0, vR 5 (some v0)), (1, vR 1 v1), (2, vR 10 (some v2)), (4, vI v4), (5, vI v5), (6, vI v6)] [] := by
  unfold f_X5_gatherTips_174 at hf
  refine V_iinc (lv' := [(6, vI (v6 + (1 : Int32))), (0, vR 5 (some v0)), (1, vR 1 v1), (2, vR 10 (some v2)), (4, vI v4), (5, vI v5)]) C dX5_gatherTips_174 5 rfl (congrArg (v6 + ·) (by decide : Int32.ofInt (1) = (1 : Int32))) (by decide) rfl ?_
  refine V_goto C 14 dX5_gatherTips_177 (by decide) ?_
  refine V_sub (lv' := [(0, vR 5 (some v0)), (1, vR 1 v1), (2, vR 10 (some v2)), (4, vI v4), (5, vI v5), (6, vI (v6 + (1 : Int32)))]) [1, 2, 3, 4, 5, 0] rfl ?_
  exact S14 _ _ _ _ _ _ _ hf
def f_X5_gatherTips_35 (N : Nat) (s14 : Hp → Nat → Option Nat → Nat → Int32 → Int32 → Int32 → Option (Int32 × Hp)) : Nat → Hp → Nat → Option Nat → Nat → Int32 → Int32 → Int32 → Int32 → Option (Int32 × Hp)
  | 0, _, _, _, _, _, _, _, _ => none
  | n + 1, h, v0, v1, v2, v4, v5, v6, v7 => if (hI h v0 1) < v7 then (f_X5_gatherTips_174 N s14 h v0 v1 v2 v4 v5 v6) else (if v4 ≤ v5 then (f_X5_gatherTips_174 N s14 h v0 v1 v2 v4 v5 v6) else (if (hI h v0 1) ≤ v7 then (f_X5_gatherTips_66 N s14 (f_X5_gatherTips_35 N s14 n) h v0 v1 v2 v4 v5 v6 v7 (-1 : Int32)) else (f_X5_gatherTips_66 N s14 (f_X5_gatherTips_35 N s14 n) h v0 v1 v2 v4 v5 v6 v7 v7)))
set_option maxHeartbeats 4000000 in
set_option maxRecDepth 100000 in
theorem p_X5_gatherTips_35 {X : XT} {r : Int32} {h' : Hp} (C : CX X cX5_gatherTips "WaterStair$State" 11 (some .int) rmX5_gatherTips) (hQ : QX X (some (vI r)) h' rmX5_gatherTips.cells rmX5_gatherTips.slots) {N : Nat} {s14 : Hp → Nat → Option Nat → Nat → Int32 → Int32 → Int32 → Option (Int32 × Hp)} (S14 : ∀ (h : Hp) (v0 : Nat) (v1 : Option Nat) (v2 : Nat) (v4 : Int32) (v5 : Int32) (v6 : Int32), s14 h v0 v1 v2 v4 v5 v6 = some ((r, h')) → V X 0 0 h 14 [(0, vR 5 (some v0)), (1, vR 1 v1), (2, vR 10 (some v2)), (4, vI v4), (5, vI v5), (6, vI v6)] []) : ∀ (n : Nat) (h : Hp) (v0 : Nat) (v1 : Option Nat) (v2 : Nat) (v4 : Int32) (v5 : Int32) (v6 : Int32) (v7 : Int32), f_X5_gatherTips_35 N s14 n h v0 v1 v2 v4 v5 v6 v7 = some ((r, h')) → V X 0 0 h 35 [(0, vR 5 (some v0)), (1, vR 1 v1), (2, vR 10 (some v2)), (4, vI v4), (5, vI v5), (6, vI v6), (7, vI v7)] [] := by
  intro n
  induction n with
  | zero =>
    intro h v0 v1 v2 v4 v5 v6 v7 hf
    have hf : (none : Option (Int32 × Hp)) = some _ := hf
    cases hf
  | succ n ih =>
    intro h v0 v1 v2 v4 v5 v6 v7 hf
    rw [f_X5_gatherTips_35] at hf
    refine V_iload C dX5_gatherTips_35 6 rfl ?_
    refine V_aload_n C dX5_gatherTips_37 rfl 0 rfl ?_
    refine V_getI C fl_X5_15 rfl dX5_gatherTips_38 ?_
    refine V_icmp_gt C 174 dX5_gatherTips_41 (by decide) (fun c14 => ?_) (fun c14 => ?_)
    · have hf := i_t c14 hf
      refine V_sub (lv' := [(0, vR 5 (some v0)), (1, vR 1 v1), (2, vR 10 (some v2)), (4, vI v4), (5, vI v5), (6, vI v6)]) [0, 1, 2, 3, 4, 5] rfl ?_
      exact p_X5_gatherTips_174 C hQ S14 hf
    · have hf := i_f c14 hf
      refine V_iload C dX5_gatherTips_44 4 rfl ?_
      refine V_iload C dX5_gatherTips_46 3 rfl ?_
      refine V_icmp_ge C 174 dX5_gatherTips_48 (by decide) (fun c15 => ?_) (fun c15 => ?_)
      · have hf := i_t c15 hf
        refine V_sub (lv' := [(0, vR 5 (some v0)), (1, vR 1 v1), (2, vR 10 (some v2)), (4, vI v4), (5, vI v5), (6, vI v6)]) [0, 1, 2, 3, 4, 5] rfl ?_
        exact p_X5_gatherTips_174 C hQ S14 hf
      · have hf := i_f c15 hf
        refine V_iload C dX5_gatherTips_51 6 rfl ?_
        refine V_aload_n C dX5_gatherTips_53 rfl 0 rfl ?_
        refine V_getI C fl_X5_15 rfl dX5_gatherTips_54 ?_
        refine V_icmp_ge C 65 dX5_gatherTips_57 (by decide) (fun c16 => ?_) (fun c16 => ?_)
        · have hf := i_t c16 hf
          refine V_iconst (v := (-1 : Int32)) C dX5_gatherTips_65 (by decide) ?_
          refine V_sub (lv' := [(0, vR 5 (some v0)), (1, vR 1 v1), (2, vR 10 (some v2)), (4, vI v4), (5, vI v5), (6, vI v6), (7, vI v7)]) [0, 1, 2, 3, 4, 5, 6] rfl ?_
          exact p_X5_gatherTips_66 C hQ S14 ih hf
        · have hf := i_f c16 hf
          refine V_iload C dX5_gatherTips_60 6 rfl ?_
          refine V_goto C 66 dX5_gatherTips_62 (by decide) ?_
          refine V_sub (lv' := [(0, vR 5 (some v0)), (1, vR 1 v1), (2, vR 10 (some v2)), (4, vI v4), (5, vI v5), (6, vI v6), (7, vI v7)]) [0, 1, 2, 3, 4, 5, 6] rfl ?_
          exact p_X5_gatherTips_66 C hQ S14 ih hf
def f_X5_gatherTips_14 (N : Nat) : Nat → Hp → Nat → Option Nat → Nat → Int32 → Int32 → Int32 → Option (Int32 × Hp)
  | 0, _, _, _, _, _, _, _ => none
  | n + 1, h, v0, v1, v2, v4, v5, v6 => if ((hI h v0 0) - (1 : Int32)) ≤ v6 then (some ((v5, h))) else (if v4 ≤ v5 then (some ((v5, h))) else (f_X5_gatherTips_35 N (f_X5_gatherTips_14 N n) N h v0 v1 v2 v4 v5 v6 (0 : Int32)))
set_option maxHeartbeats 4000000 in
set_option maxRecDepth 100000 in
theorem p_X5_gatherTips_14 {X : XT} {r : Int32} {h' : Hp} (C : CX X cX5_gatherTips "WaterStair$State" 11 (some .int) rmX5_gatherTips) (hQ : QX X (some (vI r)) h' rmX5_gatherTips.cells rmX5_gatherTips.slots) {N : Nat}  : ∀ (n : Nat) (h : Hp) (v0 : Nat) (v1 : Option Nat) (v2 : Nat) (v4 : Int32) (v5 : Int32) (v6 : Int32), f_X5_gatherTips_14 N n h v0 v1 v2 v4 v5 v6 = some ((r, h')) → V X 0 0 h 14 [(0, vR 5 (some v0)), (1, vR 1 v1), (2, vR 10 (some v2)), (4, vI v4), (5, vI v5), (6, vI v6)] [] := by
  intro n
  induction n with
  | zero =>
    intro h v0 v1 v2 v4 v5 v6 hf
    have hf : (none : Option (Int32 × Hp)) = some _ := hf
    cases hf
  | succ n ih =>
    intro h v0 v1 v2 v4 v5 v6 hf
    rw [f_X5_gatherTips_14] at hf
    refine V_iload C dX5_gatherTips_14 5 rfl ?_
    refine V_aload_n C dX5_gatherTips_16 rfl 0 rfl ?_
    refine V_getI C fl_X5_9 rfl dX5_gatherTips_17 ?_
    refine V_iconst (v := (1 : Int32)) C dX5_gatherTips_20 (by decide) ?_
    refine V_isub C dX5_gatherTips_21 ?_
    refine V_icmp_ge C 180 dX5_gatherTips_22 (by decide) (fun c17 => ?_) (fun c17 => ?_)
    · have hf := i_t c17 hf
      refine V_iload C dX5_gatherTips_180 4 rfl ?_
      obtain ⟨hf1, hf2⟩ := Prod.mk.inj (Option.some.inj hf)
      subst hf1
      subst hf2
      exact V_iret C hQ dX5_gatherTips_182
    · have hf := i_f c17 hf
      refine V_iload C dX5_gatherTips_25 4 rfl ?_
      refine V_iload C dX5_gatherTips_27 3 rfl ?_
      refine V_icmp_ge C 180 dX5_gatherTips_29 (by decide) (fun c18 => ?_) (fun c18 => ?_)
      · have hf := i_t c18 hf
        refine V_iload C dX5_gatherTips_180 4 rfl ?_
        obtain ⟨hf1, hf2⟩ := Prod.mk.inj (Option.some.inj hf)
        subst hf1
        subst hf2
        exact V_iret C hQ dX5_gatherTips_182
      · have hf := i_f c18 hf
        refine V_iconst (v := (0 : Int32)) C dX5_gatherTips_32 (by decide) ?_
        refine V_istore (lv' := [(7, vI (0 : Int32)), (0, vR 5 (some v0)), (1, vR 1 v1), (2, vR 10 (some v2)), (4, vI v4), (5, vI v5), (6, vI v6)]) C dX5_gatherTips_33 (by decide) rfl ?_
        refine V_sub (lv' := [(0, vR 5 (some v0)), (1, vR 1 v1), (2, vR 10 (some v2)), (4, vI v4), (5, vI v5), (6, vI v6), (7, vI (0 : Int32))]) [1, 2, 3, 4, 5, 6, 0] rfl ?_
        exact p_X5_gatherTips_35 C hQ ih N _ _ _ _ _ _ _ _ hf
def f_X5_gatherTips (N : Nat) (h : Hp) (v0 : Nat) (v1 : Option Nat) (v2 : Nat) (v3 : Int32) : Option (Int32 × Hp) := lt (if nI (hL h v2) < v3 then nI (hL h v2) else v3) (fun y19 => f_X5_gatherTips_14 N N h v0 v1 v2 y19 (0 : Int32) (0 : Int32))
set_option maxHeartbeats 4000000 in
set_option maxRecDepth 100000 in
theorem p_X5_gatherTips {X : XT} {r : Int32} {h' : Hp} (C : CX X cX5_gatherTips "WaterStair$State" 11 (some .int) rmX5_gatherTips) {N : Nat} {h : Hp} {v0 : Nat} {v1 : Option Nat} {v2 : Nat} {v3 : Int32} (hQ : QX X (some (vI r)) h' rmX5_gatherTips.cells rmX5_gatherTips.slots) (hf : f_X5_gatherTips N h v0 v1 v2 v3 = some ((r, h'))) : V X 0 0 h 0 [(0, vR 5 (some v0)), (1, vR 1 v1), (2, vR 10 (some v2)), (3, vI v3)] [] := by
  unfold f_X5_gatherTips at hf
  refine V_iload_n C dX5_gatherTips_0 rfl 3 rfl ?_
  refine V_aload_n C dX5_gatherTips_1 rfl 2 rfl ?_
  refine V_alen C (by decide) (by decide) dX5_gatherTips_2 ?_
  refine V_mmin C mm_X5_153 mm_smin mm_i mm_cmin (by decide) (Nat.le_of_ble_eq_true rfl) (by decide) (by decide) dX5_gatherTips_3 ?_
  obtain ⟨y19, ey19, hf⟩ := o_l hf
  refine V_eqI ey19 ?_
  refine V_istore (lv' := [(4, vI y19), (0, vR 5 (some v0)), (1, vR 1 v1), (2, vR 10 (some v2)), (3, vI v3)]) C dX5_gatherTips_6 (by decide) rfl ?_
  refine V_iconst (v := (0 : Int32)) C dX5_gatherTips_8 (by decide) ?_
  refine V_istore (lv' := [(5, vI (0 : Int32)), (4, vI y19), (0, vR 5 (some v0)), (1, vR 1 v1), (2, vR 10 (some v2)), (3, vI v3)]) C dX5_gatherTips_9 (by decide) rfl ?_
  refine V_iconst (v := (0 : Int32)) C dX5_gatherTips_11 (by decide) ?_
  refine V_istore (lv' := [(6, vI (0 : Int32)), (5, vI (0 : Int32)), (4, vI y19), (0, vR 5 (some v0)), (1, vR 1 v1), (2, vR 10 (some v2)), (3, vI v3)]) C dX5_gatherTips_12 (by decide) rfl ?_
  refine V_sub (lv' := [(0, vR 5 (some v0)), (1, vR 1 v1), (2, vR 10 (some v2)), (4, vI y19), (5, vI (0 : Int32)), (6, vI (0 : Int32))]) [3, 4, 5, 2, 1, 0] rfl ?_
  exact p_X5_gatherTips_14 C hQ N _ _ _ _ _ _ _ hf
theorem ct_X5_gatherTips {r : Int32} {h' : Hp} {N : Nat} {h : Hp} {v0 : Nat} {v1 : Option Nat} {v2 : Nat} {v3 : Int32} (hf : f_X5_gatherTips N h v0 v1 v2 v3 = some ((r, h'))) (l : Launch) (G : GT) : MC l G yX5_gatherTips cX5_gatherTips 11 (some .int) rmX5_gatherTips h [vR 5 (some v0), vR 1 v1, vR 10 (some v2), vI v3] (some (vI r)) h' := MC_of (by decide) rfl (Nat.le_of_ble_eq_true rfl) rfl (fun X C hQ hin => p_X5_gatherTips C hQ hf)
abbrev rmX5_undoTip : Room := { frames := 4, cells := 0, slots := 0, locals := 90 }
def f_X5_undoTip (h : Hp) (v0 : Nat) (v1 : Int32) : Option (Hp) := Option.bind (f_X5_moveBarges h v0 v1 (-1 : Int32)) (fun h1 => Option.bind (f_X5_pour h1 v0 v1 (-1 : Int32)) (fun h2 => some h2))
set_option maxHeartbeats 4000000 in
set_option maxRecDepth 100000 in
theorem p_X5_undoTip {X : XT} {h' : Hp} (C : CX X cX5_undoTip "WaterStair$State" 2 none rmX5_undoTip) {h : Hp} {v0 : Nat} {v1 : Int32} (hQ : QX X none h' rmX5_undoTip.cells rmX5_undoTip.slots) (hf : f_X5_undoTip h v0 v1 = some h') : V X 0 0 h 0 [(0, vR 5 (some v0)), (1, vI v1)] [] := by
  unfold f_X5_undoTip at hf
  refine V_aload_n C dX5_undoTip_0 rfl 0 rfl ?_
  refine V_iload_n C dX5_undoTip_1 rfl 1 rfl ?_
  refine V_iconst (v := (-1 : Int32)) C dX5_undoTip_2 (by decide) ?_
  obtain ⟨h1, eh1, hf⟩ := o_b hf
  refine V_callV (as := [vI v1, vI (-1 : Int32)]) (st := []) C ml_X5_167 fx5 (ct_X5_moveBarges eh1) rfl ⟨by decide, by decide, by decide, by decide⟩ (Nat.le_of_ble_eq_true rfl) rfl dX5_undoTip_3 (cs' := 0) (sl' := 0) rfl rfl ?_
  refine V_aload_n C dX5_undoTip_6 rfl 0 rfl ?_
  refine V_iload_n C dX5_undoTip_7 rfl 1 rfl ?_
  refine V_iconst (v := (-1 : Int32)) C dX5_undoTip_8 (by decide) ?_
  obtain ⟨h2, eh2, hf⟩ := o_b hf
  refine V_callV (as := [vI v1, vI (-1 : Int32)]) (st := []) C ml_X5_171 fx5 (ct_X5_pour eh2) rfl ⟨by decide, by decide, by decide, by decide⟩ (Nat.le_of_ble_eq_true rfl) rfl dX5_undoTip_9 (cs' := 0) (sl' := 0) rfl rfl ?_
  have hf := Option.some.inj hf
  subst hf
  exact V_vret C hQ dX5_undoTip_12
theorem ct_X5_undoTip {h' : Hp} {h : Hp} {v0 : Nat} {v1 : Int32} (hf : f_X5_undoTip h v0 v1 = some h') (l : Launch) (G : GT) : MC l G yX5_undoTip cX5_undoTip 2 none rmX5_undoTip h [vR 5 (some v0), vI v1] none h' := MC_of (by decide) rfl (Nat.le_of_ble_eq_true rfl) rfl (fun X C hQ hin => p_X5_undoTip C hQ hf)
def f_X0_follow_45 (N : Nat) (r_X0_follow : Hp → Nat → Option Nat → Int32 → Int32 → Int32 → Option Hp) : Nat → Hp → Nat → Option Nat → Int32 → Int32 → Int32 → Nat → Int32 → Int32 → Option (Hp)
  | 0, _, _, _, _, _, _, _, _, _ => none
  | n + 1, h, v0, v1, v2, v3, v4, v5, v6, v7 => if v6 ≤ v7 then (some h) else (if v4 ≤ (hI h v0 4) then (some h) else (Option.bind (hP h v0 2) (fun q3 => if 0 ≤ v7 ∧ v7.toNatClampNeg < hL h v5 then (lt (hI h v5 (v7.toNatClampNeg)) (fun y5 => if 0 ≤ v2 ∧ v2.toNatClampNeg < hL h q3 then (lt (sI h q3 (v2.toNatClampNeg) y5) (fun h7 => Option.bind (hP h7 v0 0) (fun q8 => if 0 ≤ v7 ∧ v7.toNatClampNeg < hL h7 v5 then (Option.bind (f_X5_doTip h7 q8 (hI h7 v5 (v7.toNatClampNeg))) (fun h10 => Option.bind (r_X0_follow h10 v0 v1 (v2 + (1 : Int32)) v3 v4) (fun h11 => Option.bind (hP h11 v0 0) (fun q12 => if 0 ≤ v7 ∧ v7.toNatClampNeg < hL h11 v5 then (Option.bind (f_X5_undoTip h11 q12 (hI h11 v5 (v7.toNatClampNeg))) (fun h14 => f_X0_follow_45 N r_X0_follow n h14 v0 v1 v2 v3 v4 v5 v6 (v7 + (1 : Int32)))) else none)))) else none))) else none)) else none)))
set_option maxHeartbeats 4000000 in
set_option maxRecDepth 100000 in
theorem p_X0_follow_45 {rm rmr : Room} (hR : 60 ≤ rm.frames ∧ 2000 ≤ rm.locals ∧ rm.cells = 0 ∧ rm.slots = 0) (hRr : rmr.frames + 1 ≤ rm.frames ∧ 60 + rmr.locals ≤ rm.locals ∧ rmr.cells = 0 ∧ rmr.slots = 0) {r_X0_follow : Hp → Nat → Option Nat → Int32 → Int32 → Int32 → Option Hp} (H_X0_follow : ∀ (h : Hp) (a0 : Nat) (a1 : Option Nat) (a2 : Int32) (a3 : Int32) (a4 : Int32) (h' : Hp), r_X0_follow h a0 a1 a2 a3 a4 = some h' → ∀ (l : Launch) (G : GT), MC l G yX0_follow cX0_follow 8 none rmr h [vR 0 (some a0), vR 1 a1, vI a2, vI a3, vI a4] none h') {X : XT} {h' : Hp} (C : CX X cX0_follow "WaterStair$Dusk" 8 none rm) (hQ : QX X none h' 0 0) {N : Nat}  : ∀ (n : Nat) (h : Hp) (v0 : Nat) (v1 : Option Nat) (v2 : Int32) (v3 : Int32) (v4 : Int32) (v5 : Nat) (v6 : Int32) (v7 : Int32), f_X0_follow_45 N r_X0_follow n h v0 v1 v2 v3 v4 v5 v6 v7 = some h' → V X 0 0 h 45 [(0, vR 0 (some v0)), (1, vR 1 v1), (2, vI v2), (3, vI v3), (4, vI v4), (5, vR 10 (some v5)), (6, vI v6), (7, vI v7)] [] := by
  intro n
  induction n with
  | zero =>
    intro h v0 v1 v2 v3 v4 v5 v6 v7 hf
    have hf : (none : Option (Hp)) = some _ := hf
    cases hf
  | succ n ih =>
    intro h v0 v1 v2 v3 v4 v5 v6 v7 hf
    rw [f_X0_follow_45] at hf
    refine V_iload C dX0_follow_45 7 rfl ?_
    refine V_iload C dX0_follow_47 6 rfl ?_
    refine V_icmp_ge C 113 dX0_follow_49 (by decide) (fun c1 => ?_) (fun c1 => ?_)
    · have hf := i_t c1 hf
      have hf := Option.some.inj hf
      subst hf
      exact V_vret C hQ dX0_follow_113
    · have hf := i_f c1 hf
      refine V_aload_n C dX0_follow_52 rfl 0 rfl ?_
      refine V_getI C fl_X0_23 rfl dX0_follow_53 ?_
      refine V_iload C dX0_follow_56 4 rfl ?_
      refine V_icmp_ge C 113 dX0_follow_58 (by decide) (fun c2 => ?_) (fun c2 => ?_)
      · have hf := i_t c2 hf
        have hf := Option.some.inj hf
        subst hf
        exact V_vret C hQ dX0_follow_113
      · have hf := i_f c2 hf
        refine V_aload_n C dX0_follow_61 rfl 0 rfl ?_
        obtain ⟨q3, eq3, hf⟩ := o_b hf
        refine V_getR C fl_X0_16 rfl rfl (by decide) eq3 dX0_follow_62 ?_
        refine V_iload_n C dX0_follow_65 rfl 2 rfl ?_
        refine V_aload C dX0_follow_66 5 rfl ?_
        refine V_iload C dX0_follow_68 7 rfl ?_
        obtain ⟨g4, hf⟩ := o_if hf
        refine V_iald C (vp_g g4) rfl dX0_follow_70 ?_
        obtain ⟨y5, ey5, hf⟩ := o_l hf
        refine V_eqI ey5 ?_
        obtain ⟨g6, hf⟩ := o_if hf
        obtain ⟨h7, eh7, hf⟩ := o_l hf
        refine V_iast C (vp_g g6) rfl dX0_follow_71 (V_eqH eh7 ?_)
        refine V_aload_n C dX0_follow_72 rfl 0 rfl ?_
        obtain ⟨q8, eq8, hf⟩ := o_b hf
        refine V_getR C fl_X0_36 rfl rfl (by decide) eq8 dX0_follow_73 ?_
        refine V_aload C dX0_follow_76 5 rfl ?_
        refine V_iload C dX0_follow_78 7 rfl ?_
        obtain ⟨g9, hf⟩ := o_if hf
        refine V_iald C (vp_g g9) rfl dX0_follow_80 ?_
        obtain ⟨h10, eh10, hf⟩ := o_b hf
        refine V_callV (as := [vI (hI h7 v5 (v7.toNatClampNeg))]) (st := []) C ml_X0_63 fx5 (ct_X5_doTip eh10) rfl ⟨Nat.le_trans (by decide : rmX5_doTip.frames + 1 ≤ 60) hR.1, Nat.le_trans (by decide : 8 + (2 + 11) + rmX5_doTip.locals ≤ 2000) hR.2.1, Nat.le_trans (by decide : 0 + rmX5_doTip.cells ≤ 0) (Nat.zero_le _), Nat.le_trans (by decide : 0 + rmX5_doTip.slots ≤ 0) (Nat.zero_le _)⟩ (Nat.le_of_ble_eq_true rfl) rfl dX0_follow_81 (cs' := 0) (sl' := 0) rfl rfl ?_
        refine V_aload_n C dX0_follow_84 rfl 0 rfl ?_
        refine V_aload_n C dX0_follow_85 rfl 1 rfl ?_
        refine V_iload_n C dX0_follow_86 rfl 2 rfl ?_
        refine V_iconst (v := (1 : Int32)) C dX0_follow_87 (by decide) ?_
        refine V_iadd C dX0_follow_88 ?_
        refine V_iload_n C dX0_follow_89 rfl 3 rfl ?_
        refine V_iload C dX0_follow_90 4 rfl ?_
        obtain ⟨h11, eh11, hf⟩ := o_b hf
        refine V_callV (as := [vR 1 v1, vI (v2 + (1 : Int32)), vI v3, vI v4]) (st := []) C ml_X0_52 fx0 (H_X0_follow _ _ _ _ _ _ _ eh11) rfl ⟨hRr.1, by have := hRr.2.1; omega, by have := hRr.2.2.1; omega, by have := hRr.2.2.2; omega⟩ (Nat.le_of_ble_eq_true rfl) rfl dX0_follow_92 (cs' := 0) (sl' := 0) (by have := hRr.2.2.1; omega) (by have := hRr.2.2.2; omega) ?_
        refine V_aload_n C dX0_follow_95 rfl 0 rfl ?_
        obtain ⟨q12, eq12, hf⟩ := o_b hf
        refine V_getR C fl_X0_36 rfl rfl (by decide) eq12 dX0_follow_96 ?_
        refine V_aload C dX0_follow_99 5 rfl ?_
        refine V_iload C dX0_follow_101 7 rfl ?_
        obtain ⟨g13, hf⟩ := o_if hf
        refine V_iald C (vp_g g13) rfl dX0_follow_103 ?_
        obtain ⟨h14, eh14, hf⟩ := o_b hf
        refine V_callV (as := [vI (hI h11 v5 (v7.toNatClampNeg))]) (st := []) C ml_X0_67 fx5 (ct_X5_undoTip eh14) rfl ⟨Nat.le_trans (by decide : rmX5_undoTip.frames + 1 ≤ 60) hR.1, Nat.le_trans (by decide : 8 + (2 + 11) + rmX5_undoTip.locals ≤ 2000) hR.2.1, Nat.le_trans (by decide : 0 + rmX5_undoTip.cells ≤ 0) (Nat.zero_le _), Nat.le_trans (by decide : 0 + rmX5_undoTip.slots ≤ 0) (Nat.zero_le _)⟩ (Nat.le_of_ble_eq_true rfl) rfl dX0_follow_104 (cs' := 0) (sl' := 0) rfl rfl ?_
        refine V_iinc (lv' := [(7, vI (v7 + (1 : Int32))), (0, vR 0 (some v0)), (1, vR 1 v1), (2, vI v2), (3, vI v3), (4, vI v4), (5, vR 10 (some v5)), (6, vI v6)]) C dX0_follow_107 7 rfl (congrArg (v7 + ·) (by decide : Int32.ofInt (1) = (1 : Int32))) (by decide) rfl ?_
        refine V_goto C 45 dX0_follow_110 (by decide) ?_
        refine V_sub (lv' := [(0, vR 0 (some v0)), (1, vR 1 v1), (2, vI v2), (3, vI v3), (4, vI v4), (5, vR 10 (some v5)), (6, vI v6), (7, vI (v7 + (1 : Int32)))]) [1, 2, 3, 4, 5, 6, 7, 0] rfl ?_
        exact ih _ _ _ _ _ _ _ _ _ hf
def f_X0_follow_14 (N : Nat) (r_X0_follow : Hp → Nat → Option Nat → Int32 → Int32 → Int32 → Option Hp) (h : Hp) (v0 : Nat) : Option (Hp) := Option.bind (f_X0_noteRow N h v0) (fun h15 => some h15)
set_option maxHeartbeats 4000000 in
set_option maxRecDepth 100000 in
theorem p_X0_follow_14 {rm rmr : Room} (hR : 60 ≤ rm.frames ∧ 2000 ≤ rm.locals ∧ rm.cells = 0 ∧ rm.slots = 0) (hRr : rmr.frames + 1 ≤ rm.frames ∧ 60 + rmr.locals ≤ rm.locals ∧ rmr.cells = 0 ∧ rmr.slots = 0) {r_X0_follow : Hp → Nat → Option Nat → Int32 → Int32 → Int32 → Option Hp} (H_X0_follow : ∀ (h : Hp) (a0 : Nat) (a1 : Option Nat) (a2 : Int32) (a3 : Int32) (a4 : Int32) (h' : Hp), r_X0_follow h a0 a1 a2 a3 a4 = some h' → ∀ (l : Launch) (G : GT), MC l G yX0_follow cX0_follow 8 none rmr h [vR 0 (some a0), vR 1 a1, vI a2, vI a3, vI a4] none h') {X : XT} {h' : Hp} (C : CX X cX0_follow "WaterStair$Dusk" 8 none rm) (hQ : QX X none h' 0 0) {N : Nat}  {h : Hp} {v0 : Nat} (hf : f_X0_follow_14 N r_X0_follow h v0 = some h') : V X 0 0 h 14 [(0, vR 0 (some v0))] [] := by
  unfold f_X0_follow_14 at hf
  refine V_aload_n C dX0_follow_14 rfl 0 rfl ?_
  obtain ⟨h15, eh15, hf⟩ := o_b hf
  refine V_callV (as := []) (st := []) C ml_X0_56 fx0 (ct_X0_noteRow eh15) rfl ⟨Nat.le_trans (by decide : rmX0_noteRow.frames + 1 ≤ 60) hR.1, Nat.le_trans (by decide : 8 + (1 + 11) + rmX0_noteRow.locals ≤ 2000) hR.2.1, Nat.le_trans (by decide : 0 + rmX0_noteRow.cells ≤ 0) (Nat.zero_le _), Nat.le_trans (by decide : 0 + rmX0_noteRow.slots ≤ 0) (Nat.zero_le _)⟩ (Nat.le_of_ble_eq_true rfl) rfl dX0_follow_15 (cs' := 0) (sl' := 0) rfl rfl ?_
  have hf := Option.some.inj hf
  subst hf
  exact V_vret C hQ dX0_follow_18
def f_X0_follow_o (N : Nat) (r_X0_follow : Hp → Nat → Option Nat → Int32 → Int32 → Int32 → Option Hp) (h : Hp) (v0 : Nat) (v1 : Option Nat) (v2 : Int32) (v3 : Int32) (v4 : Int32) : Option (Hp) := if v2 < 0 then (f_X0_follow_14 N r_X0_follow h v0) else (if v3 ≤ v2 then (f_X0_follow_14 N r_X0_follow h v0) else (if v2 < (3 : Int32) then (Option.bind (hP h v0 1) (fun q19 => if 0 ≤ v2 ∧ v2.toNatClampNeg < hL h q19 then (Option.bind (hP h q19 (v2.toNatClampNeg)) (fun q21 => Option.bind (hP h v0 0) (fun q22 => b2 (f_X5_gatherTips N h q22 v1 q21 (nI (hL h q21))) (fun r23 h24 => f_X0_follow_45 N r_X0_follow N h24 v0 v1 v2 v3 v4 q21 r23 (0 : Int32))))) else none)) else (f_X0_follow_14 N r_X0_follow h v0)))
set_option maxHeartbeats 4000000 in
set_option maxRecDepth 100000 in
theorem p_X0_follow {rm rmr : Room} (hR : 60 ≤ rm.frames ∧ 2000 ≤ rm.locals ∧ rm.cells = 0 ∧ rm.slots = 0) (hRr : rmr.frames + 1 ≤ rm.frames ∧ 60 + rmr.locals ≤ rm.locals ∧ rmr.cells = 0 ∧ rmr.slots = 0) {r_X0_follow : Hp → Nat → Option Nat → Int32 → Int32 → Int32 → Option Hp} (H_X0_follow : ∀ (h : Hp) (a0 : Nat) (a1 : Option Nat) (a2 : Int32) (a3 : Int32) (a4 : Int32) (h' : Hp), r_X0_follow h a0 a1 a2 a3 a4 = some h' → ∀ (l : Launch) (G : GT), MC l G yX0_follow cX0_follow 8 none rmr h [vR 0 (some a0), vR 1 a1, vI a2, vI a3, vI a4] none h') {X : XT} {h' : Hp} (C : CX X cX0_follow "WaterStair$Dusk" 8 none rm) {N : Nat} {h : Hp} {v0 : Nat} {v1 : Option Nat} {v2 : Int32} {v3 : Int32} {v4 : Int32} (hQ : QX X none h' rm.cells rm.slots) (hf : f_X0_follow_o N r_X0_follow h v0 v1 v2 v3 v4 = some h') : V X 0 0 h 0 [(0, vR 0 (some v0)), (1, vR 1 v1), (2, vI v2), (3, vI v3), (4, vI v4)] [] := by
  rw [hR.2.2.1, hR.2.2.2] at hQ
  unfold f_X0_follow_o at hf
  refine V_iload_n C dX0_follow_0 rfl 2 rfl ?_
  refine V_if_lt C 14 dX0_follow_1 (by decide) (fun c16 => ?_) (fun c16 => ?_)
  · have hf := i_t c16 hf
    refine V_sub (lv' := [(0, vR 0 (some v0))]) [0] rfl ?_
    exact p_X0_follow_14 hR hRr H_X0_follow C hQ hf
  · have hf := i_f c16 hf
    refine V_iload_n C dX0_follow_4 rfl 2 rfl ?_
    refine V_iload_n C dX0_follow_5 rfl 3 rfl ?_
    refine V_icmp_ge C 14 dX0_follow_6 (by decide) (fun c17 => ?_) (fun c17 => ?_)
    · have hf := i_t c17 hf
      refine V_sub (lv' := [(0, vR 0 (some v0))]) [0] rfl ?_
      exact p_X0_follow_14 hR hRr H_X0_follow C hQ hf
    · have hf := i_f c17 hf
      refine V_iload_n C dX0_follow_9 rfl 2 rfl ?_
      refine V_iconst (v := (3 : Int32)) C dX0_follow_10 (by decide) ?_
      refine V_icmp_lt C 19 dX0_follow_11 (by decide) (fun c18 => ?_) (fun c18 => ?_)
      · have hf := i_t c18 hf
        refine V_aload_n C dX0_follow_19 rfl 0 rfl ?_
        obtain ⟨q19, eq19, hf⟩ := o_b hf
        refine V_getR C fl_X0_11 rfl rfl (by decide) eq19 dX0_follow_20 ?_
        refine V_iload_n C dX0_follow_23 rfl 2 rfl ?_
        obtain ⟨g20, hf⟩ := o_if hf
        obtain ⟨q21, eq21, hf⟩ := o_b hf
        refine V_rowld C (vp_g g20) rfl eq21 dX0_follow_24 ?_
        refine V_astore (lv' := [(5, vR 10 (some q21)), (0, vR 0 (some v0)), (1, vR 1 v1), (2, vI v2), (3, vI v3), (4, vI v4)]) C dX0_follow_25 (by decide) rfl ?_
        refine V_aload_n C dX0_follow_27 rfl 1 rfl ?_
        obtain ⟨q22, eq22, hf⟩ := o_b hf
        refine V_getR C fl_X0_36 rfl rfl (by decide) eq22 dX0_follow_28 ?_
        refine V_aload_n C dX0_follow_31 rfl 2 rfl ?_
        refine V_aload C dX0_follow_32 0 rfl ?_
        refine V_aload C dX0_follow_34 0 rfl ?_
        refine V_alen C (by decide) (by decide) dX0_follow_36 ?_
        obtain ⟨r23, h24, er23, hf⟩ := o_b2 hf
        refine V_callV (as := [vR 1 v1, vR 10 (some q21), vI (nI (hL h q21))]) (st := []) C ml_X0_59 fx5 (ct_X5_gatherTips er23) rfl ⟨Nat.le_trans (by decide : rmX5_gatherTips.frames + 1 ≤ 60) hR.1, Nat.le_trans (by decide : 8 + (11 + 11) + rmX5_gatherTips.locals ≤ 2000) hR.2.1, Nat.le_trans (by decide : 0 + rmX5_gatherTips.cells ≤ 0) (Nat.zero_le _), Nat.le_trans (by decide : 0 + rmX5_gatherTips.slots ≤ 0) (Nat.zero_le _)⟩ (Nat.le_of_ble_eq_true rfl) rfl dX0_follow_37 (cs' := 0) (sl' := 0) rfl rfl ?_
        refine V_istore (lv' := [(6, vI r23), (5, vR 10 (some q21)), (0, vR 0 (some v0)), (1, vR 1 v1), (2, vI v2), (3, vI v3), (4, vI v4)]) C dX0_follow_40 (by decide) rfl ?_
        refine V_iconst (v := (0 : Int32)) C dX0_follow_42 (by decide) ?_
        refine V_istore (lv' := [(7, vI (0 : Int32)), (6, vI r23), (5, vR 10 (some q21)), (0, vR 0 (some v0)), (1, vR 1 v1), (2, vI v2), (3, vI v3), (4, vI v4)]) C dX0_follow_43 (by decide) rfl ?_
        refine V_sub (lv' := [(0, vR 0 (some v0)), (1, vR 1 v1), (2, vI v2), (3, vI v3), (4, vI v4), (5, vR 10 (some q21)), (6, vI r23), (7, vI (0 : Int32))]) [3, 4, 5, 6, 7, 2, 1, 0] rfl ?_
        exact p_X0_follow_45 hR hRr H_X0_follow C hQ N _ _ _ _ _ _ _ _ _ hf
      · have hf := i_f c18 hf
        refine V_sub (lv' := [(0, vR 0 (some v0))]) [0] rfl ?_
        exact p_X0_follow_14 hR hRr H_X0_follow C hQ hf
abbrev rmD (D : Nat) : Room := { frames := 60 + D, cells := 0, slots := 0, locals := 2000 + 60 * D }
def f_X0_follow_grp (N : Nat) : Nat → Bool → Hp → Nat → Option Nat → Int32 → Int32 → Int32 → Option Hp
  | 0, _, _, _, _, _, _, _ => none
  | D + 1, _, h, v0, v1, v2, v3, v4 => f_X0_follow_o N (f_X0_follow_grp N D true) h v0 v1 v2 v3 v4
theorem ct_X0_follow_grp {N : Nat} : ∀ D : Nat, (∀ (h : Hp) (v0 : Nat) (v1 : Option Nat) (v2 : Int32) (v3 : Int32) (v4 : Int32) (h' : Hp), f_X0_follow_grp N D true h v0 v1 v2 v3 v4 = some h' → ∀ (l : Launch) (G : GT), MC l G yX0_follow cX0_follow 8 none (rmD D) h [vR 0 (some v0), vR 1 v1, vI v2, vI v3, vI v4] none h')
  | 0 => fun h v0 v1 v2 v3 v4 h' hf => absurd (show (none : Option Hp) = some h' from hf) (fun z => by cases z)
  | D + 1 => by
    have ih := ct_X0_follow_grp (N := N) D
    exact fun h v0 v1 v2 v3 v4 h' hf l G => MC_of (by decide) rfl (Nat.le_of_ble_eq_true rfl) rfl (fun X C hQ hin => p_X0_follow (rm := rmD (D + 1)) (rmr := rmD D) ⟨by show 60 ≤ 60 + (D + 1); omega, by show 2000 ≤ 2000 + 60 * (D + 1); omega, rfl, rfl⟩ ⟨Nat.le_refl _, by show 60 + (2000 + 60 * D) ≤ 2000 + 60 * (D + 1); omega, rfl, rfl⟩ ih C hQ hf)
abbrev rmX0_follow : Room := rmD 30
def f_X0_follow (N : Nat) (h : Hp) (v0 : Nat) (v1 : Option Nat) (v2 : Int32) (v3 : Int32) (v4 : Int32) : Option Hp := f_X0_follow_grp N 30 true h v0 v1 v2 v3 v4
theorem ct_X0_follow {h' : Hp} {N : Nat} {h : Hp} {v0 : Nat} {v1 : Option Nat} {v2 : Int32} {v3 : Int32} {v4 : Int32} (hf : f_X0_follow N h v0 v1 v2 v3 v4 = some h') (l : Launch) (G : GT) : MC l G yX0_follow cX0_follow 8 none rmX0_follow h [vR 0 (some v0), vR 1 v1, vI v2, vI v3, vI v4] none h' := (ct_X0_follow_grp (N := N) 30) _ _ _ _ _ _ _ hf l G
abbrev rmX5_copyFrom : Room := { frames := 1, cells := 0, slots := 0, locals := 64 }
def f_X5_copyFrom (h : Hp) (v0 : Nat) (v1 : Nat) : Option (Hp) := lt (sI h v0 0 (hI h v1 0)) (fun h1 => lt (sI h1 v0 1 (hI h1 v1 1)) (fun h2 => lt (sI h2 v0 2 (hI h2 v1 2)) (fun h3 => lt (sI h3 v0 3 (hI h3 v1 3)) (fun h4 => lt (sI h4 v0 4 (hI h4 v1 4)) (fun h5 => lt (sI h5 v0 5 (hI h5 v1 5)) (fun h6 => lt (sI h6 v0 6 (hI h6 v1 6)) (fun h7 => lt (sI h7 v0 7 (hI h7 v1 7)) (fun h8 => Option.bind (hP h8 v1 8) (fun q9 => Option.bind (hP h8 v0 8) (fun q10 => if 0 + 8 ≤ hL h8 q9 then (if 0 + 8 ≤ hL h8 q10 then (lt (sC h8 q9 q10 (0) (0) (8)) (fun h13 => Option.bind (hP h13 v1 9) (fun q14 => Option.bind (hP h13 v0 9) (fun q15 => if 0 + 8 ≤ hL h13 q14 then (if 0 + 8 ≤ hL h13 q15 then (lt (sC h13 q14 q15 (0) (0) (8)) (fun h18 => Option.bind (hP h18 v1 10) (fun q19 => Option.bind (hP h18 v0 10) (fun q20 => if 0 + 8 ≤ hL h18 q19 then (if 0 + 8 ≤ hL h18 q20 then (lt (sC h18 q19 q20 (0) (0) (8)) (fun h23 => Option.bind (hP h23 v1 11) (fun q24 => Option.bind (hP h23 v0 11) (fun q25 => if 0 + 8 ≤ hL h23 q24 then (if 0 + 8 ≤ hL h23 q25 then (lt (sC h23 q24 q25 (0) (0) (8)) (fun h28 => Option.bind (hP h28 v1 12) (fun q29 => Option.bind (hP h28 v0 12) (fun q30 => if 0 + 6 ≤ hL h28 q29 then (if 0 + 6 ≤ hL h28 q30 then (lt (sC h28 q29 q30 (0) (0) (6)) (fun h33 => Option.bind (hP h33 v1 13) (fun q34 => Option.bind (hP h33 v0 13) (fun q35 => if 0 + 6 ≤ hL h33 q34 then (if 0 + 6 ≤ hL h33 q35 then (lt (sC h33 q34 q35 (0) (0) (6)) (fun h38 => Option.bind (hP h38 v1 14) (fun q39 => Option.bind (hP h38 v0 14) (fun q40 => if 0 + 6 ≤ hL h38 q39 then (if 0 + 6 ≤ hL h38 q40 then (lt (sC h38 q39 q40 (0) (0) (6)) (fun h43 => Option.bind (hP h43 v1 15) (fun q44 => Option.bind (hP h43 v0 15) (fun q45 => if 0 + 6 ≤ hL h43 q44 then (if 0 + 6 ≤ hL h43 q45 then (lt (sC h43 q44 q45 (0) (0) (6)) (fun h48 => Option.bind (hP h48 v1 16) (fun q49 => Option.bind (hP h48 v0 16) (fun q50 => if 0 + 6 ≤ hL h48 q49 then (if 0 + 6 ≤ hL h48 q50 then (lt (sC h48 q49 q50 (0) (0) (6)) (fun h53 => Option.bind (hP h53 v1 17) (fun q54 => Option.bind (hP h53 v0 17) (fun q55 => if 0 + 10 ≤ hL h53 q54 then (if 0 + 10 ≤ hL h53 q55 then (lt (sC h53 q54 q55 (0) (0) (10)) (fun h58 => some h58)) else none) else none)))) else none) else none)))) else none) else none)))) else none) else none)))) else none) else none)))) else none) else none)))) else none) else none)))) else none) else none)))) else none) else none)))) else none) else none))))))))))
set_option maxHeartbeats 4000000 in
set_option maxRecDepth 100000 in
theorem p_X5_copyFrom {X : XT} {h' : Hp} (C : CX X cX5_copyFrom "WaterStair$State" 2 none rmX5_copyFrom) {h : Hp} {v0 : Nat} {v1 : Nat} (hQ : QX X none h' rmX5_copyFrom.cells rmX5_copyFrom.slots) (hf : f_X5_copyFrom h v0 v1 = some h') : V X 0 0 h 0 [(0, vR 5 (some v0)), (1, vR 5 (some v1))] [] := by
  unfold f_X5_copyFrom at hf
  refine V_aload_n C dX5_copyFrom_0 rfl 0 rfl ?_
  refine V_aload_n C dX5_copyFrom_1 rfl 1 rfl ?_
  refine V_getI C fl_X5_9 rfl dX5_copyFrom_2 ?_
  obtain ⟨h1, eh1, hf⟩ := o_l hf
  refine V_putI C nf_X5_9 rfl (okI_int _) dX5_copyFrom_5 (V_eqH eh1 ?_)
  refine V_aload_n C dX5_copyFrom_8 rfl 0 rfl ?_
  refine V_aload_n C dX5_copyFrom_9 rfl 1 rfl ?_
  refine V_getI C fl_X5_15 rfl dX5_copyFrom_10 ?_
  obtain ⟨h2, eh2, hf⟩ := o_l hf
  refine V_putI C nf_X5_15 rfl (okI_int _) dX5_copyFrom_13 (V_eqH eh2 ?_)
  refine V_aload_n C dX5_copyFrom_16 rfl 0 rfl ?_
  refine V_aload_n C dX5_copyFrom_17 rfl 1 rfl ?_
  refine V_getI C fl_X5_18 rfl dX5_copyFrom_18 ?_
  obtain ⟨h3, eh3, hf⟩ := o_l hf
  refine V_putI C nf_X5_18 rfl (okI_int _) dX5_copyFrom_21 (V_eqH eh3 ?_)
  refine V_aload_n C dX5_copyFrom_24 rfl 0 rfl ?_
  refine V_aload_n C dX5_copyFrom_25 rfl 1 rfl ?_
  refine V_getI C fl_X5_21 rfl dX5_copyFrom_26 ?_
  obtain ⟨h4, eh4, hf⟩ := o_l hf
  refine V_putI C nf_X5_21 rfl (okI_int _) dX5_copyFrom_29 (V_eqH eh4 ?_)
  refine V_aload_n C dX5_copyFrom_32 rfl 0 rfl ?_
  refine V_aload_n C dX5_copyFrom_33 rfl 1 rfl ?_
  refine V_getI C fl_X5_24 rfl dX5_copyFrom_34 ?_
  obtain ⟨h5, eh5, hf⟩ := o_l hf
  refine V_putI C nf_X5_24 rfl (okI_int _) dX5_copyFrom_37 (V_eqH eh5 ?_)
  refine V_aload_n C dX5_copyFrom_40 rfl 0 rfl ?_
  refine V_aload_n C dX5_copyFrom_41 rfl 1 rfl ?_
  refine V_getI C fl_X5_27 rfl dX5_copyFrom_42 ?_
  obtain ⟨h6, eh6, hf⟩ := o_l hf
  refine V_putI C nf_X5_27 rfl (okI_int _) dX5_copyFrom_45 (V_eqH eh6 ?_)
  refine V_aload_n C dX5_copyFrom_48 rfl 0 rfl ?_
  refine V_aload_n C dX5_copyFrom_49 rfl 1 rfl ?_
  refine V_getI C fl_X5_30 rfl dX5_copyFrom_50 ?_
  obtain ⟨h7, eh7, hf⟩ := o_l hf
  refine V_putI C nf_X5_30 rfl (okI_int _) dX5_copyFrom_53 (V_eqH eh7 ?_)
  refine V_aload_n C dX5_copyFrom_56 rfl 0 rfl ?_
  refine V_aload_n C dX5_copyFrom_57 rfl 1 rfl ?_
  refine V_getI C fl_X5_33 rfl dX5_copyFrom_58 ?_
  obtain ⟨h8, eh8, hf⟩ := o_l hf
  refine V_putI C nf_X5_33 rfl (okI_int _) dX5_copyFrom_61 (V_eqH eh8 ?_)
  refine V_aload_n C dX5_copyFrom_64 rfl 1 rfl ?_
  obtain ⟨q9, eq9, hf⟩ := o_b hf
  refine V_getR C fl_X5_36 rfl rfl (by decide) eq9 dX5_copyFrom_65 ?_
  refine V_iconst (v := (0 : Int32)) C dX5_copyFrom_68 (by decide) ?_
  refine V_aload_n C dX5_copyFrom_69 rfl 0 rfl ?_
  obtain ⟨q10, eq10, hf⟩ := o_b hf
  refine V_getR C fl_X5_36 rfl rfl (by decide) eq10 dX5_copyFrom_70 ?_
  refine V_iconst (v := (0 : Int32)) C dX5_copyFrom_73 (by decide) ?_
  refine V_bipush (v := (8 : Int32)) C dX5_copyFrom_74 (by decide) ?_
  obtain ⟨g11, hf⟩ := o_if hf
  obtain ⟨g12, hf⟩ := o_if hf
  obtain ⟨h13, eh13, hf⟩ := o_l hf
  refine V_copyK C ac_X5_86 ac_n ac_s ac_y (by decide) (by decide) (by decide) (by decide : Int32.toNatClampNeg (0 : Int32) = 0) (by decide : Int32.toNatClampNeg (0 : Int32) = 0) (by decide : Int32.toNatClampNeg (8 : Int32) = 8) g11 g12 (by decide) (by decide) dX5_copyFrom_76 (V_eqH eh13 ?_)
  refine V_aload_n C dX5_copyFrom_79 rfl 1 rfl ?_
  obtain ⟨q14, eq14, hf⟩ := o_b hf
  refine V_getR C fl_X5_40 rfl rfl (by decide) eq14 dX5_copyFrom_80 ?_
  refine V_iconst (v := (0 : Int32)) C dX5_copyFrom_83 (by decide) ?_
  refine V_aload_n C dX5_copyFrom_84 rfl 0 rfl ?_
  obtain ⟨q15, eq15, hf⟩ := o_b hf
  refine V_getR C fl_X5_40 rfl rfl (by decide) eq15 dX5_copyFrom_85 ?_
  refine V_iconst (v := (0 : Int32)) C dX5_copyFrom_88 (by decide) ?_
  refine V_bipush (v := (8 : Int32)) C dX5_copyFrom_89 (by decide) ?_
  obtain ⟨g16, hf⟩ := o_if hf
  obtain ⟨g17, hf⟩ := o_if hf
  obtain ⟨h18, eh18, hf⟩ := o_l hf
  refine V_copyK C ac_X5_86 ac_n ac_s ac_y (by decide) (by decide) (by decide) (by decide : Int32.toNatClampNeg (0 : Int32) = 0) (by decide : Int32.toNatClampNeg (0 : Int32) = 0) (by decide : Int32.toNatClampNeg (8 : Int32) = 8) g16 g17 (by decide) (by decide) dX5_copyFrom_91 (V_eqH eh18 ?_)
  refine V_aload_n C dX5_copyFrom_94 rfl 1 rfl ?_
  obtain ⟨q19, eq19, hf⟩ := o_b hf
  refine V_getR C fl_X5_43 rfl rfl (by decide) eq19 dX5_copyFrom_95 ?_
  refine V_iconst (v := (0 : Int32)) C dX5_copyFrom_98 (by decide) ?_
  refine V_aload_n C dX5_copyFrom_99 rfl 0 rfl ?_
  obtain ⟨q20, eq20, hf⟩ := o_b hf
  refine V_getR C fl_X5_43 rfl rfl (by decide) eq20 dX5_copyFrom_100 ?_
  refine V_iconst (v := (0 : Int32)) C dX5_copyFrom_103 (by decide) ?_
  refine V_bipush (v := (8 : Int32)) C dX5_copyFrom_104 (by decide) ?_
  obtain ⟨g21, hf⟩ := o_if hf
  obtain ⟨g22, hf⟩ := o_if hf
  obtain ⟨h23, eh23, hf⟩ := o_l hf
  refine V_copyK C ac_X5_86 ac_n ac_s ac_y (by decide) (by decide) (by decide) (by decide : Int32.toNatClampNeg (0 : Int32) = 0) (by decide : Int32.toNatClampNeg (0 : Int32) = 0) (by decide : Int32.toNatClampNeg (8 : Int32) = 8) g21 g22 (by decide) (by decide) dX5_copyFrom_106 (V_eqH eh23 ?_)
  refine V_aload_n C dX5_copyFrom_109 rfl 1 rfl ?_
  obtain ⟨q24, eq24, hf⟩ := o_b hf
  refine V_getR C fl_X5_46 rfl rfl (by decide) eq24 dX5_copyFrom_110 ?_
  refine V_iconst (v := (0 : Int32)) C dX5_copyFrom_113 (by decide) ?_
  refine V_aload_n C dX5_copyFrom_114 rfl 0 rfl ?_
  obtain ⟨q25, eq25, hf⟩ := o_b hf
  refine V_getR C fl_X5_46 rfl rfl (by decide) eq25 dX5_copyFrom_115 ?_
  refine V_iconst (v := (0 : Int32)) C dX5_copyFrom_118 (by decide) ?_
  refine V_bipush (v := (8 : Int32)) C dX5_copyFrom_119 (by decide) ?_
  obtain ⟨g26, hf⟩ := o_if hf
  obtain ⟨g27, hf⟩ := o_if hf
  obtain ⟨h28, eh28, hf⟩ := o_l hf
  refine V_copyK C ac_X5_86 ac_n ac_s ac_y (by decide) (by decide) (by decide) (by decide : Int32.toNatClampNeg (0 : Int32) = 0) (by decide : Int32.toNatClampNeg (0 : Int32) = 0) (by decide : Int32.toNatClampNeg (8 : Int32) = 8) g26 g27 (by decide) (by decide) dX5_copyFrom_121 (V_eqH eh28 ?_)
  refine V_aload_n C dX5_copyFrom_124 rfl 1 rfl ?_
  obtain ⟨q29, eq29, hf⟩ := o_b hf
  refine V_getR C fl_X5_49 rfl rfl (by decide) eq29 dX5_copyFrom_125 ?_
  refine V_iconst (v := (0 : Int32)) C dX5_copyFrom_128 (by decide) ?_
  refine V_aload_n C dX5_copyFrom_129 rfl 0 rfl ?_
  obtain ⟨q30, eq30, hf⟩ := o_b hf
  refine V_getR C fl_X5_49 rfl rfl (by decide) eq30 dX5_copyFrom_130 ?_
  refine V_iconst (v := (0 : Int32)) C dX5_copyFrom_133 (by decide) ?_
  refine V_bipush (v := (6 : Int32)) C dX5_copyFrom_134 (by decide) ?_
  obtain ⟨g31, hf⟩ := o_if hf
  obtain ⟨g32, hf⟩ := o_if hf
  obtain ⟨h33, eh33, hf⟩ := o_l hf
  refine V_copyK C ac_X5_86 ac_n ac_s ac_y (by decide) (by decide) (by decide) (by decide : Int32.toNatClampNeg (0 : Int32) = 0) (by decide : Int32.toNatClampNeg (0 : Int32) = 0) (by decide : Int32.toNatClampNeg (6 : Int32) = 6) g31 g32 (by decide) (by decide) dX5_copyFrom_136 (V_eqH eh33 ?_)
  refine V_aload_n C dX5_copyFrom_139 rfl 1 rfl ?_
  obtain ⟨q34, eq34, hf⟩ := o_b hf
  refine V_getR C fl_X5_52 rfl rfl (by decide) eq34 dX5_copyFrom_140 ?_
  refine V_iconst (v := (0 : Int32)) C dX5_copyFrom_143 (by decide) ?_
  refine V_aload_n C dX5_copyFrom_144 rfl 0 rfl ?_
  obtain ⟨q35, eq35, hf⟩ := o_b hf
  refine V_getR C fl_X5_52 rfl rfl (by decide) eq35 dX5_copyFrom_145 ?_
  refine V_iconst (v := (0 : Int32)) C dX5_copyFrom_148 (by decide) ?_
  refine V_bipush (v := (6 : Int32)) C dX5_copyFrom_149 (by decide) ?_
  obtain ⟨g36, hf⟩ := o_if hf
  obtain ⟨g37, hf⟩ := o_if hf
  obtain ⟨h38, eh38, hf⟩ := o_l hf
  refine V_copyK C ac_X5_86 ac_n ac_s ac_y (by decide) (by decide) (by decide) (by decide : Int32.toNatClampNeg (0 : Int32) = 0) (by decide : Int32.toNatClampNeg (0 : Int32) = 0) (by decide : Int32.toNatClampNeg (6 : Int32) = 6) g36 g37 (by decide) (by decide) dX5_copyFrom_151 (V_eqH eh38 ?_)
  refine V_aload_n C dX5_copyFrom_154 rfl 1 rfl ?_
  obtain ⟨q39, eq39, hf⟩ := o_b hf
  refine V_getR C fl_X5_55 rfl rfl (by decide) eq39 dX5_copyFrom_155 ?_
  refine V_iconst (v := (0 : Int32)) C dX5_copyFrom_158 (by decide) ?_
  refine V_aload_n C dX5_copyFrom_159 rfl 0 rfl ?_
  obtain ⟨q40, eq40, hf⟩ := o_b hf
  refine V_getR C fl_X5_55 rfl rfl (by decide) eq40 dX5_copyFrom_160 ?_
  refine V_iconst (v := (0 : Int32)) C dX5_copyFrom_163 (by decide) ?_
  refine V_bipush (v := (6 : Int32)) C dX5_copyFrom_164 (by decide) ?_
  obtain ⟨g41, hf⟩ := o_if hf
  obtain ⟨g42, hf⟩ := o_if hf
  obtain ⟨h43, eh43, hf⟩ := o_l hf
  refine V_copyK C ac_X5_86 ac_n ac_s ac_y (by decide) (by decide) (by decide) (by decide : Int32.toNatClampNeg (0 : Int32) = 0) (by decide : Int32.toNatClampNeg (0 : Int32) = 0) (by decide : Int32.toNatClampNeg (6 : Int32) = 6) g41 g42 (by decide) (by decide) dX5_copyFrom_166 (V_eqH eh43 ?_)
  refine V_aload_n C dX5_copyFrom_169 rfl 1 rfl ?_
  obtain ⟨q44, eq44, hf⟩ := o_b hf
  refine V_getR C fl_X5_58 rfl rfl (by decide) eq44 dX5_copyFrom_170 ?_
  refine V_iconst (v := (0 : Int32)) C dX5_copyFrom_173 (by decide) ?_
  refine V_aload_n C dX5_copyFrom_174 rfl 0 rfl ?_
  obtain ⟨q45, eq45, hf⟩ := o_b hf
  refine V_getR C fl_X5_58 rfl rfl (by decide) eq45 dX5_copyFrom_175 ?_
  refine V_iconst (v := (0 : Int32)) C dX5_copyFrom_178 (by decide) ?_
  refine V_bipush (v := (6 : Int32)) C dX5_copyFrom_179 (by decide) ?_
  obtain ⟨g46, hf⟩ := o_if hf
  obtain ⟨g47, hf⟩ := o_if hf
  obtain ⟨h48, eh48, hf⟩ := o_l hf
  refine V_copyK C ac_X5_86 ac_n ac_s ac_y (by decide) (by decide) (by decide) (by decide : Int32.toNatClampNeg (0 : Int32) = 0) (by decide : Int32.toNatClampNeg (0 : Int32) = 0) (by decide : Int32.toNatClampNeg (6 : Int32) = 6) g46 g47 (by decide) (by decide) dX5_copyFrom_181 (V_eqH eh48 ?_)
  refine V_aload_n C dX5_copyFrom_184 rfl 1 rfl ?_
  obtain ⟨q49, eq49, hf⟩ := o_b hf
  refine V_getR C fl_X5_61 rfl rfl (by decide) eq49 dX5_copyFrom_185 ?_
  refine V_iconst (v := (0 : Int32)) C dX5_copyFrom_188 (by decide) ?_
  refine V_aload_n C dX5_copyFrom_189 rfl 0 rfl ?_
  obtain ⟨q50, eq50, hf⟩ := o_b hf
  refine V_getR C fl_X5_61 rfl rfl (by decide) eq50 dX5_copyFrom_190 ?_
  refine V_iconst (v := (0 : Int32)) C dX5_copyFrom_193 (by decide) ?_
  refine V_bipush (v := (6 : Int32)) C dX5_copyFrom_194 (by decide) ?_
  obtain ⟨g51, hf⟩ := o_if hf
  obtain ⟨g52, hf⟩ := o_if hf
  obtain ⟨h53, eh53, hf⟩ := o_l hf
  refine V_copyK C ac_X5_86 ac_n ac_s ac_y (by decide) (by decide) (by decide) (by decide : Int32.toNatClampNeg (0 : Int32) = 0) (by decide : Int32.toNatClampNeg (0 : Int32) = 0) (by decide : Int32.toNatClampNeg (6 : Int32) = 6) g51 g52 (by decide) (by decide) dX5_copyFrom_196 (V_eqH eh53 ?_)
  refine V_aload_n C dX5_copyFrom_199 rfl 1 rfl ?_
  obtain ⟨q54, eq54, hf⟩ := o_b hf
  refine V_getR C fl_X5_64 rfl rfl (by decide) eq54 dX5_copyFrom_200 ?_
  refine V_iconst (v := (0 : Int32)) C dX5_copyFrom_203 (by decide) ?_
  refine V_aload_n C dX5_copyFrom_204 rfl 0 rfl ?_
  obtain ⟨q55, eq55, hf⟩ := o_b hf
  refine V_getR C fl_X5_64 rfl rfl (by decide) eq55 dX5_copyFrom_205 ?_
  refine V_iconst (v := (0 : Int32)) C dX5_copyFrom_208 (by decide) ?_
  refine V_bipush (v := (10 : Int32)) C dX5_copyFrom_209 (by decide) ?_
  obtain ⟨g56, hf⟩ := o_if hf
  obtain ⟨g57, hf⟩ := o_if hf
  obtain ⟨h58, eh58, hf⟩ := o_l hf
  refine V_copyK C ac_X5_86 ac_n ac_s ac_y (by decide) (by decide) (by decide) (by decide : Int32.toNatClampNeg (0 : Int32) = 0) (by decide : Int32.toNatClampNeg (0 : Int32) = 0) (by decide : Int32.toNatClampNeg (10 : Int32) = 10) g56 g57 (by decide) (by decide) dX5_copyFrom_211 (V_eqH eh58 ?_)
  have hf := Option.some.inj hf
  subst hf
  exact V_vret C hQ dX5_copyFrom_214
theorem ct_X5_copyFrom {h' : Hp} {h : Hp} {v0 : Nat} {v1 : Nat} (hf : f_X5_copyFrom h v0 v1 = some h') (l : Launch) (G : GT) : MC l G yX5_copyFrom cX5_copyFrom 2 none rmX5_copyFrom h [vR 5 (some v0), vR 5 (some v1)] none h' := MC_of (by decide) rfl (Nat.le_of_ble_eq_true rfl) rfl (fun X C hQ hin => p_X5_copyFrom C hQ hf)
abbrev rmX0_countRows : Room := { frames := 91, cells := 0, slots := 0, locals := 3827 }
def f_X0_countRows (N : Nat) (h : Hp) (v0 : Nat) (v1 : Nat) (v2 : Option Nat) (v3 : Int32) (v4 : Int32) : Option (Int32 × Hp) := Option.bind (hP h v0 0) (fun q1 => Option.bind (f_X5_copyFrom h q1 v1) (fun h2 => lt (sI h2 v0 4 (0 : Int32)) (fun h3 => lt (if (3 : Int32) < v3 then (3 : Int32) else v3) (fun y4 => Option.bind (f_X0_follow N h3 v0 v2 (0 : Int32) y4 v4) (fun h5 => some ((hI h5 v0 4, h5)))))))
set_option maxHeartbeats 4000000 in
set_option maxRecDepth 100000 in
theorem p_X0_countRows {X : XT} {r : Int32} {h' : Hp} (C : CX X cX0_countRows "WaterStair$Dusk" 5 (some .int) rmX0_countRows) {N : Nat} {h : Hp} {v0 : Nat} {v1 : Nat} {v2 : Option Nat} {v3 : Int32} {v4 : Int32} (hQ : QX X (some (vI r)) h' rmX0_countRows.cells rmX0_countRows.slots) (hf : f_X0_countRows N h v0 v1 v2 v3 v4 = some ((r, h'))) : V X 0 0 h 0 [(0, vR 0 (some v0)), (1, vR 5 (some v1)), (2, vR 1 v2), (3, vI v3), (4, vI v4)] [] := by
  unfold f_X0_countRows at hf
  refine V_aload_n C dX0_countRows_0 rfl 0 rfl ?_
  obtain ⟨q1, eq1, hf⟩ := o_b hf
  refine V_getR C fl_X0_36 rfl rfl (by decide) eq1 dX0_countRows_1 ?_
  refine V_aload_n C dX0_countRows_4 rfl 1 rfl ?_
  obtain ⟨h2, eh2, hf⟩ := o_b hf
  refine V_callV (as := [vR 5 (some v1)]) (st := []) C ml_X0_40 fx5 (ct_X5_copyFrom eh2) rfl ⟨by decide, by decide, by decide, by decide⟩ (Nat.le_of_ble_eq_true rfl) rfl dX0_countRows_5 (cs' := 0) (sl' := 0) rfl rfl ?_
  refine V_aload_n C dX0_countRows_8 rfl 0 rfl ?_
  refine V_iconst (v := (0 : Int32)) C dX0_countRows_9 (by decide) ?_
  obtain ⟨h3, eh3, hf⟩ := o_l hf
  refine V_putI C nf_X0_23 rfl (okI_int _) dX0_countRows_10 (V_eqH eh3 ?_)
  refine V_aload_n C dX0_countRows_13 rfl 0 rfl ?_
  refine V_aload_n C dX0_countRows_14 rfl 2 rfl ?_
  refine V_iconst (v := (0 : Int32)) C dX0_countRows_15 (by decide) ?_
  refine V_iload_n C dX0_countRows_16 rfl 3 rfl ?_
  refine V_iconst (v := (3 : Int32)) C dX0_countRows_17 (by decide) ?_
  refine V_mmin C mm_X0_46 mm_smin mm_i mm_cmin (by decide) (Nat.le_of_ble_eq_true rfl) (by decide) (by decide) dX0_countRows_18 ?_
  obtain ⟨y4, ey4, hf⟩ := o_l hf
  refine V_eqI ey4 ?_
  refine V_iload C dX0_countRows_21 4 rfl ?_
  obtain ⟨h5, eh5, hf⟩ := o_b hf
  refine V_callV (as := [vR 1 v2, vI (0 : Int32), vI y4, vI v4]) (st := []) C ml_X0_52 fx0 (ct_X0_follow eh5) rfl ⟨by decide, by decide, by decide, by decide⟩ (Nat.le_of_ble_eq_true rfl) rfl dX0_countRows_23 (cs' := 0) (sl' := 0) rfl rfl ?_
  refine V_aload_n C dX0_countRows_26 rfl 0 rfl ?_
  refine V_getI C fl_X0_23 rfl dX0_countRows_27 ?_
  obtain ⟨hf1, hf2⟩ := Prod.mk.inj (Option.some.inj hf)
  subst hf1
  subst hf2
  exact V_iret C hQ dX0_countRows_30
theorem ct_X0_countRows {r : Int32} {h' : Hp} {N : Nat} {h : Hp} {v0 : Nat} {v1 : Nat} {v2 : Option Nat} {v3 : Int32} {v4 : Int32} (hf : f_X0_countRows N h v0 v1 v2 v3 v4 = some ((r, h'))) (l : Launch) (G : GT) : MC l G yX0_countRows cX0_countRows 5 (some .int) rmX0_countRows h [vR 0 (some v0), vR 5 (some v1), vR 1 v2, vI v3, vI v4] (some (vI r)) h' := MC_of (by decide) rfl (Nat.le_of_ble_eq_true rfl) rfl (fun X C hQ hin => p_X0_countRows C hQ hf)
abbrev rmX0_isTold : Room := { frames := 4, cells := 0, slots := 0, locals := 90 }
def f_X0_isTold_67 (N : Nat) (h : Hp) (v0 : Nat) : Option (Int32 × Hp) := Option.bind (hP h v0 0) (fun q1 => Option.bind (f_X5_isAsSeen N h q1) (fun r2 => if r2 = 0 ∨ r2 = 1 then (some ((r2, h))) else none))
set_option maxHeartbeats 4000000 in
set_option maxRecDepth 100000 in
theorem p_X0_isTold_67 {X : XT} {r : Int32} {h' : Hp} (C : CX X cX0_isTold "WaterStair$Dusk" 5 (some .boolean) rmX0_isTold) (hQ : QX X (some (vI r)) h' rmX0_isTold.cells rmX0_isTold.slots) {N : Nat}  {h : Hp} {v0 : Nat} (hf : f_X0_isTold_67 N h v0 = some ((r, h'))) : V X 0 0 h 67 [(0, vR 0 (some v0))] [] := by
  unfold f_X0_isTold_67 at hf
  refine V_aload_n C dX0_isTold_67 rfl 0 rfl ?_
  obtain ⟨q1, eq1, hf⟩ := o_b hf
  refine V_getR C fl_X0_36 rfl rfl (by decide) eq1 dX0_isTold_68 ?_
  obtain ⟨r2, er2, hf⟩ := o_b hf
  refine V_callV (as := []) (st := []) C ml_X0_70 fx5 (ct_X5_isAsSeen er2) rfl ⟨by decide, by decide, by decide, by decide⟩ (Nat.le_of_ble_eq_true rfl) rfl dX0_isTold_71 (cs' := 0) (sl' := 0) rfl rfl ?_
  obtain ⟨g3, hf⟩ := o_if hf
  obtain ⟨hf1, hf2⟩ := Prod.mk.inj (Option.some.inj hf)
  subst hf1
  subst hf2
  exact V_zret C (okI_z g3).1 hQ dX0_isTold_74
def f_X0_isTold_24 (N : Nat) : Nat → Hp → Nat → Int32 → Option (Int32 × Hp)
  | 0, _, _, _ => none
  | n + 1, h, v0, v4 => Option.bind (hP h v0 0) (fun q4 => if (hI h q4 7) ≤ v4 then (f_X0_isTold_67 N h v0) else (if (10 : Int32) ≤ v4 then (f_X0_isTold_67 N h v0) else (Option.bind (hP h v0 0) (fun q7 => Option.bind (hP h v0 0) (fun q8 => Option.bind (hP h q8 17) (fun q9 => if 0 ≤ v4 ∧ v4.toNatClampNeg < hL h q9 then (Option.bind (f_X5_pour h q7 (hI h q9 (v4.toNatClampNeg)) (1 : Int32)) (fun h11 => f_X0_isTold_24 N n h11 v0 (v4 + (1 : Int32)))) else none))))))
set_option maxHeartbeats 4000000 in
set_option maxRecDepth 100000 in
theorem p_X0_isTold_24 {X : XT} {r : Int32} {h' : Hp} (C : CX X cX0_isTold "WaterStair$Dusk" 5 (some .boolean) rmX0_isTold) (hQ : QX X (some (vI r)) h' rmX0_isTold.cells rmX0_isTold.slots) {N : Nat}  : ∀ (n : Nat) (h : Hp) (v0 : Nat) (v4 : Int32), f_X0_isTold_24 N n h v0 v4 = some ((r, h')) → V X 0 0 h 24 [(0, vR 0 (some v0)), (4, vI v4)] [] := by
  intro n
  induction n with
  | zero =>
    intro h v0 v4 hf
    have hf : (none : Option (Int32 × Hp)) = some _ := hf
    cases hf
  | succ n ih =>
    intro h v0 v4 hf
    rw [f_X0_isTold_24] at hf
    refine V_iload C dX0_isTold_24 1 rfl ?_
    refine V_aload_n C dX0_isTold_26 rfl 0 rfl ?_
    obtain ⟨q4, eq4, hf⟩ := o_b hf
    refine V_getR C fl_X0_36 rfl rfl (by decide) eq4 dX0_isTold_27 ?_
    refine V_getI C fl_X0_94 rfl dX0_isTold_30 ?_
    refine V_icmp_ge C 67 dX0_isTold_33 (by decide) (fun c5 => ?_) (fun c5 => ?_)
    · have hf := i_t c5 hf
      refine V_sub (lv' := [(0, vR 0 (some v0))]) [0] rfl ?_
      exact p_X0_isTold_67 C hQ hf
    · have hf := i_f c5 hf
      refine V_iload C dX0_isTold_36 1 rfl ?_
      refine V_bipush (v := (10 : Int32)) C dX0_isTold_38 (by decide) ?_
      refine V_icmp_ge C 67 dX0_isTold_40 (by decide) (fun c6 => ?_) (fun c6 => ?_)
      · have hf := i_t c6 hf
        refine V_sub (lv' := [(0, vR 0 (some v0))]) [0] rfl ?_
        exact p_X0_isTold_67 C hQ hf
      · have hf := i_f c6 hf
        refine V_aload_n C dX0_isTold_43 rfl 0 rfl ?_
        obtain ⟨q7, eq7, hf⟩ := o_b hf
        refine V_getR C fl_X0_36 rfl rfl (by decide) eq7 dX0_isTold_44 ?_
        refine V_aload_n C dX0_isTold_47 rfl 0 rfl ?_
        obtain ⟨q8, eq8, hf⟩ := o_b hf
        refine V_getR C fl_X0_36 rfl rfl (by decide) eq8 dX0_isTold_48 ?_
        obtain ⟨q9, eq9, hf⟩ := o_b hf
        refine V_getR C fl_X0_97 rfl rfl (by decide) eq9 dX0_isTold_51 ?_
        refine V_iload C dX0_isTold_54 1 rfl ?_
        obtain ⟨g10, hf⟩ := o_if hf
        refine V_iald C (vp_g g10) rfl dX0_isTold_56 ?_
        refine V_iconst (v := (1 : Int32)) C dX0_isTold_57 (by decide) ?_
        obtain ⟨h11, eh11, hf⟩ := o_b hf
        refine V_callV (as := [vI (hI h q9 (v4.toNatClampNeg)), vI (1 : Int32)]) (st := []) C ml_X0_100 fx5 (ct_X5_pour eh11) rfl ⟨by decide, by decide, by decide, by decide⟩ (Nat.le_of_ble_eq_true rfl) rfl dX0_isTold_58 (cs' := 0) (sl' := 0) rfl rfl ?_
        refine V_iinc (lv' := [(4, vI (v4 + (1 : Int32))), (0, vR 0 (some v0))]) C dX0_isTold_61 1 rfl (congrArg (v4 + ·) (by decide : Int32.ofInt (1) = (1 : Int32))) (by decide) rfl ?_
        refine V_goto C 24 dX0_isTold_64 (by decide) ?_
        refine V_sub (lv' := [(0, vR 0 (some v0)), (4, vI (v4 + (1 : Int32)))]) [1, 0] rfl ?_
        exact ih _ _ _ hf
def f_X0_isTold (N : Nat) (h : Hp) (v0 : Nat) (v1 : Nat) (v2 : Int32) (v3 : Int32) : Option (Int32 × Hp) := Option.bind (hP h v0 0) (fun q12 => Option.bind (f_X5_copyFrom h q12 v1) (fun h13 => Option.bind (hP h13 v0 0) (fun q14 => Option.bind (hP h13 q14 13) (fun q15 => if 0 ≤ v2 ∧ v2.toNatClampNeg < hL h13 q15 then (lt ((hI h13 q15 (v2.toNatClampNeg)) + v3) (fun y17 => if 0 ≤ v2 ∧ v2.toNatClampNeg < hL h13 q15 then (lt (sI h13 q15 (v2.toNatClampNeg) y17) (fun h19 => f_X0_isTold_24 N N h19 v0 (0 : Int32))) else none)) else none))))
set_option maxHeartbeats 4000000 in
set_option maxRecDepth 100000 in
theorem p_X0_isTold {X : XT} {r : Int32} {h' : Hp} (C : CX X cX0_isTold "WaterStair$Dusk" 5 (some .boolean) rmX0_isTold) {N : Nat} {h : Hp} {v0 : Nat} {v1 : Nat} {v2 : Int32} {v3 : Int32} (hQ : QX X (some (vI r)) h' rmX0_isTold.cells rmX0_isTold.slots) (hf : f_X0_isTold N h v0 v1 v2 v3 = some ((r, h'))) : V X 0 0 h 0 [(0, vR 0 (some v0)), (1, vR 5 (some v1)), (2, vI v2), (3, vI v3)] [] := by
  unfold f_X0_isTold at hf
  refine V_aload_n C dX0_isTold_0 rfl 0 rfl ?_
  obtain ⟨q12, eq12, hf⟩ := o_b hf
  refine V_getR C fl_X0_36 rfl rfl (by decide) eq12 dX0_isTold_1 ?_
  refine V_aload_n C dX0_isTold_4 rfl 1 rfl ?_
  obtain ⟨h13, eh13, hf⟩ := o_b hf
  refine V_callV (as := [vR 5 (some v1)]) (st := []) C ml_X0_40 fx5 (ct_X5_copyFrom eh13) rfl ⟨by decide, by decide, by decide, by decide⟩ (Nat.le_of_ble_eq_true rfl) rfl dX0_isTold_5 (cs' := 0) (sl' := 0) rfl rfl ?_
  refine V_aload_n C dX0_isTold_8 rfl 0 rfl ?_
  obtain ⟨q14, eq14, hf⟩ := o_b hf
  refine V_getR C fl_X0_36 rfl rfl (by decide) eq14 dX0_isTold_9 ?_
  obtain ⟨q15, eq15, hf⟩ := o_b hf
  refine V_getR C fl_X0_91 rfl rfl (by decide) eq15 dX0_isTold_12 ?_
  refine V_iload_n C dX0_isTold_15 rfl 2 rfl ?_
  refine V_dup2 C dX0_isTold_16 rfl rfl ?_
  obtain ⟨g16, hf⟩ := o_if hf
  refine V_iald C (vp_g g16) rfl dX0_isTold_17 ?_
  refine V_iload_n C dX0_isTold_18 rfl 3 rfl ?_
  refine V_iadd C dX0_isTold_19 ?_
  obtain ⟨y17, ey17, hf⟩ := o_l hf
  refine V_eqI ey17 ?_
  obtain ⟨g18, hf⟩ := o_if hf
  obtain ⟨h19, eh19, hf⟩ := o_l hf
  refine V_iast C (vp_g g18) rfl dX0_isTold_20 (V_eqH eh19 ?_)
  refine V_iconst (v := (0 : Int32)) C dX0_isTold_21 (by decide) ?_
  refine V_istore (lv' := [(4, vI (0 : Int32)), (0, vR 0 (some v0)), (1, vR 5 (some v1)), (2, vI v2), (3, vI v3)]) C dX0_isTold_22 (by decide) rfl ?_
  refine V_sub (lv' := [(0, vR 0 (some v0)), (4, vI (0 : Int32))]) [1, 0] rfl ?_
  exact p_X0_isTold_24 C hQ N _ _ _ hf
theorem ct_X0_isTold {r : Int32} {h' : Hp} {N : Nat} {h : Hp} {v0 : Nat} {v1 : Nat} {v2 : Int32} {v3 : Int32} (hf : f_X0_isTold N h v0 v1 v2 v3 = some ((r, h'))) (l : Launch) (G : GT) : MC l G yX0_isTold cX0_isTold 5 (some .boolean) rmX0_isTold h [vR 0 (some v0), vR 5 (some v1), vI v2, vI v3] (some (vI r)) h' := MC_of (by decide) rfl (Nat.le_of_ble_eq_true rfl) rfl (fun X C hQ hin => p_X0_isTold C hQ hf)
abbrev rmX0_notePair : Room := { frames := 0, cells := 0, slots := 0, locals := 0 }
def f_X0_notePair_17 (h : Hp) (v0 : Nat) : Option (Hp) := lt (sI h v0 5 ((hI h v0 5) + (1 : Int32))) (fun h1 => some h1)
set_option maxHeartbeats 4000000 in
set_option maxRecDepth 100000 in
theorem p_X0_notePair_17 {X : XT} {h' : Hp} (C : CX X cX0_notePair "WaterStair$Dusk" 3 none rmX0_notePair) (hQ : QX X none h' rmX0_notePair.cells rmX0_notePair.slots)  {h : Hp} {v0 : Nat} (hf : f_X0_notePair_17 h v0 = some h') : V X 0 0 h 17 [(0, vR 0 (some v0))] [] := by
  unfold f_X0_notePair_17 at hf
  refine V_aload_n C dX0_notePair_17 rfl 0 rfl ?_
  refine V_dup C dX0_notePair_18 rfl ?_
  refine V_getI C fl_X0_27 rfl dX0_notePair_19 ?_
  refine V_iconst (v := (1 : Int32)) C dX0_notePair_22 (by decide) ?_
  refine V_iadd C dX0_notePair_23 ?_
  obtain ⟨h1, eh1, hf⟩ := o_l hf
  refine V_putI C nf_X0_27 rfl (okI_int _) dX0_notePair_24 (V_eqH eh1 ?_)
  have hf := Option.some.inj hf
  subst hf
  exact V_vret C hQ dX0_notePair_27
def f_X0_notePair (h : Hp) (v0 : Nat) (v1 : Int32) (v2 : Int32) : Option (Hp) := if hI h v0 5 = 0 then (lt (sI h v0 6 v1) (fun h3 => lt (sI h3 v0 7 v2) (fun h4 => f_X0_notePair_17 h4 v0))) else (f_X0_notePair_17 h v0)
set_option maxHeartbeats 4000000 in
set_option maxRecDepth 100000 in
theorem p_X0_notePair {X : XT} {h' : Hp} (C : CX X cX0_notePair "WaterStair$Dusk" 3 none rmX0_notePair) {h : Hp} {v0 : Nat} {v1 : Int32} {v2 : Int32} (hQ : QX X none h' rmX0_notePair.cells rmX0_notePair.slots) (hf : f_X0_notePair h v0 v1 v2 = some h') : V X 0 0 h 0 [(0, vR 0 (some v0)), (1, vI v1), (2, vI v2)] [] := by
  unfold f_X0_notePair at hf
  refine V_aload_n C dX0_notePair_0 rfl 0 rfl ?_
  refine V_getI C fl_X0_27 rfl dX0_notePair_1 ?_
  refine V_if_ne C 17 dX0_notePair_4 (by decide) (fun c2 => ?_) (fun c2 => ?_)
  · have hf := i_f c2 hf
    refine V_sub (lv' := [(0, vR 0 (some v0))]) [0] rfl ?_
    exact p_X0_notePair_17 C hQ hf
  · have hf := i_t c2 hf
    refine V_aload_n C dX0_notePair_7 rfl 0 rfl ?_
    refine V_iload_n C dX0_notePair_8 rfl 1 rfl ?_
    obtain ⟨h3, eh3, hf⟩ := o_l hf
    refine V_putI C nf_X0_30 rfl (okI_int _) dX0_notePair_9 (V_eqH eh3 ?_)
    refine V_aload_n C dX0_notePair_12 rfl 0 rfl ?_
    refine V_iload_n C dX0_notePair_13 rfl 2 rfl ?_
    obtain ⟨h4, eh4, hf⟩ := o_l hf
    refine V_putI C nf_X0_33 rfl (okI_int _) dX0_notePair_14 (V_eqH eh4 ?_)
    refine V_sub (lv' := [(0, vR 0 (some v0))]) [0] rfl ?_
    exact p_X0_notePair_17 C hQ hf
theorem ct_X0_notePair {h' : Hp} {h : Hp} {v0 : Nat} {v1 : Int32} {v2 : Int32} (hf : f_X0_notePair h v0 v1 v2 = some h') (l : Launch) (G : GT) : MC l G yX0_notePair cX0_notePair 3 none rmX0_notePair h [vR 0 (some v0), vI v1, vI v2] none h' := MC_of (by decide) rfl (Nat.le_of_ble_eq_true rfl) rfl (fun X C hQ hin => p_X0_notePair C hQ hf)
abbrev rmX0_searchSmuggled : Room := { frames := 5, cells := 0, slots := 0, locals := 114 }
def f_X0_searchSmuggled_45 (N : Nat) (s7 : Hp → Nat → Nat → Int32 → Option (Hp)) (s23 : Hp → Nat → Nat → Int32 → Int32 → Option (Hp)) (h : Hp) (v0 : Nat) (v1 : Nat) (v2 : Int32) (v3 : Int32) : Option (Hp) := s23 h v0 v1 v2 (v3 + (1 : Int32))
set_option maxHeartbeats 4000000 in
set_option maxRecDepth 100000 in
theorem p_X0_searchSmuggled_45 {X : XT} {h' : Hp} (C : CX X cX0_searchSmuggled "WaterStair$Dusk" 4 none rmX0_searchSmuggled) (hQ : QX X none h' rmX0_searchSmuggled.cells rmX0_searchSmuggled.slots) {N : Nat} {s7 : Hp → Nat → Nat → Int32 → Option (Hp)} {s23 : Hp → Nat → Nat → Int32 → Int32 → Option (Hp)} (S7 : ∀ (h : Hp) (v0 : Nat) (v1 : Nat) (v2 : Int32), s7 h v0 v1 v2 = some h' → V X 0 0 h 7 [(0, vR 0 (some v0)), (1, vR 5 (some v1)), (2, vI v2)] []) (S23 : ∀ (h : Hp) (v0 : Nat) (v1 : Nat) (v2 : Int32) (v3 : Int32), s23 h v0 v1 v2 v3 = some h' → V X 0 0 h 23 [(0, vR 0 (some v0)), (1, vR 5 (some v1)), (2, vI v2), (3, vI v3)] []) {h : Hp} {v0 : Nat} {v1 : Nat} {v2 : Int32} {v3 : Int32} (hf : f_X0_searchSmuggled_45 N s7 s23 h v0 v1 v2 v3 = some h') : V X 0 0 h 45 [(0, vR 0 (some v0)), (1, vR 5 (some v1)), (2, vI v2), (3, vI v3)] [] := by
  unfold f_X0_searchSmuggled_45 at hf
  refine V_iinc (lv' := [(3, vI (v3 + (1 : Int32))), (0, vR 0 (some v0)), (1, vR 5 (some v1)), (2, vI v2)]) C dX0_searchSmuggled_45 3 rfl (congrArg (v3 + ·) (by decide : Int32.ofInt (1) = (1 : Int32))) (by decide) rfl ?_
  refine V_goto C 23 dX0_searchSmuggled_48 (by decide) ?_
  refine V_sub (lv' := [(0, vR 0 (some v0)), (1, vR 5 (some v1)), (2, vI v2), (3, vI (v3 + (1 : Int32)))]) [1, 2, 3, 0] rfl ?_
  exact S23 _ _ _ _ _ hf
def f_X0_searchSmuggled_23 (N : Nat) (s7 : Hp → Nat → Nat → Int32 → Option (Hp)) : Nat → Hp → Nat → Nat → Int32 → Int32 → Option (Hp)
  | 0, _, _, _, _, _ => none
  | n + 1, h, v0, v1, v2, v3 => if (20 : Int32) < v3 then (s7 h v0 v1 (v2 + (1 : Int32))) else (b2 (f_X0_isTold N h v0 v1 v2 v3) (fun r2 h3 => if r2 = 0 then (f_X0_searchSmuggled_45 N s7 (f_X0_searchSmuggled_23 N s7 n) h3 v0 v1 v2 v3) else (Option.bind (f_X0_notePair h3 v0 v2 v3) (fun h5 => f_X0_searchSmuggled_45 N s7 (f_X0_searchSmuggled_23 N s7 n) h5 v0 v1 v2 v3))))
set_option maxHeartbeats 4000000 in
set_option maxRecDepth 100000 in
theorem p_X0_searchSmuggled_23 {X : XT} {h' : Hp} (C : CX X cX0_searchSmuggled "WaterStair$Dusk" 4 none rmX0_searchSmuggled) (hQ : QX X none h' rmX0_searchSmuggled.cells rmX0_searchSmuggled.slots) {N : Nat} {s7 : Hp → Nat → Nat → Int32 → Option (Hp)} (S7 : ∀ (h : Hp) (v0 : Nat) (v1 : Nat) (v2 : Int32), s7 h v0 v1 v2 = some h' → V X 0 0 h 7 [(0, vR 0 (some v0)), (1, vR 5 (some v1)), (2, vI v2)] []) : ∀ (n : Nat) (h : Hp) (v0 : Nat) (v1 : Nat) (v2 : Int32) (v3 : Int32), f_X0_searchSmuggled_23 N s7 n h v0 v1 v2 v3 = some h' → V X 0 0 h 23 [(0, vR 0 (some v0)), (1, vR 5 (some v1)), (2, vI v2), (3, vI v3)] [] := by
  intro n
  induction n with
  | zero =>
    intro h v0 v1 v2 v3 hf
    have hf : (none : Option (Hp)) = some _ := hf
    cases hf
  | succ n ih =>
    intro h v0 v1 v2 v3 hf
    rw [f_X0_searchSmuggled_23] at hf
    refine V_iload_n C dX0_searchSmuggled_23 rfl 3 rfl ?_
    refine V_bipush (v := (20 : Int32)) C dX0_searchSmuggled_24 (by decide) ?_
    refine V_icmp_gt C 51 dX0_searchSmuggled_26 (by decide) (fun c1 => ?_) (fun c1 => ?_)
    · have hf := i_t c1 hf
      refine V_iinc (lv' := [(2, vI (v2 + (1 : Int32))), (0, vR 0 (some v0)), (1, vR 5 (some v1)), (3, vI v3)]) C dX0_searchSmuggled_51 2 rfl (congrArg (v2 + ·) (by decide : Int32.ofInt (1) = (1 : Int32))) (by decide) rfl ?_
      refine V_goto C 7 dX0_searchSmuggled_54 (by decide) ?_
      refine V_sub (lv' := [(0, vR 0 (some v0)), (1, vR 5 (some v1)), (2, vI (v2 + (1 : Int32)))]) [1, 2, 0] rfl ?_
      exact S7 _ _ _ _ hf
    · have hf := i_f c1 hf
      refine V_aload_n C dX0_searchSmuggled_29 rfl 0 rfl ?_
      refine V_aload_n C dX0_searchSmuggled_30 rfl 1 rfl ?_
      refine V_iload_n C dX0_searchSmuggled_31 rfl 2 rfl ?_
      refine V_iload_n C dX0_searchSmuggled_32 rfl 3 rfl ?_
      obtain ⟨r2, h3, er2, hf⟩ := o_b2 hf
      refine V_callV (as := [vR 5 (some v1), vI v2, vI v3]) (st := []) C ml_X0_83 fx0 (ct_X0_isTold er2) rfl ⟨by decide, by decide, by decide, by decide⟩ (Nat.le_of_ble_eq_true rfl) rfl dX0_searchSmuggled_33 (cs' := 0) (sl' := 0) rfl rfl ?_
      refine V_if_eq C 45 dX0_searchSmuggled_36 (by decide) (fun c4 => ?_) (fun c4 => ?_)
      · have hf := i_t c4 hf
        refine V_sub (lv' := [(0, vR 0 (some v0)), (1, vR 5 (some v1)), (2, vI v2), (3, vI v3)]) [0, 1, 2, 3] rfl ?_
        exact p_X0_searchSmuggled_45 C hQ S7 ih hf
      · have hf := i_f c4 hf
        refine V_aload_n C dX0_searchSmuggled_39 rfl 0 rfl ?_
        refine V_iload_n C dX0_searchSmuggled_40 rfl 2 rfl ?_
        refine V_iload_n C dX0_searchSmuggled_41 rfl 3 rfl ?_
        obtain ⟨h5, eh5, hf⟩ := o_b hf
        refine V_callV (as := [vI v2, vI v3]) (st := []) C ml_X0_87 fx0 (ct_X0_notePair eh5) rfl ⟨by decide, by decide, by decide, by decide⟩ (Nat.le_of_ble_eq_true rfl) rfl dX0_searchSmuggled_42 (cs' := 0) (sl' := 0) rfl rfl ?_
        refine V_sub (lv' := [(0, vR 0 (some v0)), (1, vR 5 (some v1)), (2, vI v2), (3, vI v3)]) [0, 1, 2, 3] rfl ?_
        exact p_X0_searchSmuggled_45 C hQ S7 ih hf
def f_X0_searchSmuggled_7 (N : Nat) : Nat → Hp → Nat → Nat → Int32 → Option (Hp)
  | 0, _, _, _, _ => none
  | n + 1, h, v0, v1, v2 => if (hI h v1 1) ≤ v2 then (some h) else (if (6 : Int32) ≤ v2 then (some h) else (f_X0_searchSmuggled_23 N (f_X0_searchSmuggled_7 N n) N h v0 v1 v2 (1 : Int32)))
set_option maxHeartbeats 4000000 in
set_option maxRecDepth 100000 in
theorem p_X0_searchSmuggled_7 {X : XT} {h' : Hp} (C : CX X cX0_searchSmuggled "WaterStair$Dusk" 4 none rmX0_searchSmuggled) (hQ : QX X none h' rmX0_searchSmuggled.cells rmX0_searchSmuggled.slots) {N : Nat}  : ∀ (n : Nat) (h : Hp) (v0 : Nat) (v1 : Nat) (v2 : Int32), f_X0_searchSmuggled_7 N n h v0 v1 v2 = some h' → V X 0 0 h 7 [(0, vR 0 (some v0)), (1, vR 5 (some v1)), (2, vI v2)] [] := by
  intro n
  induction n with
  | zero =>
    intro h v0 v1 v2 hf
    have hf : (none : Option (Hp)) = some _ := hf
    cases hf
  | succ n ih =>
    intro h v0 v1 v2 hf
    rw [f_X0_searchSmuggled_7] at hf
    refine V_iload_n C dX0_searchSmuggled_7 rfl 2 rfl ?_
    refine V_aload_n C dX0_searchSmuggled_8 rfl 1 rfl ?_
    refine V_getI C fl_X0_80 rfl dX0_searchSmuggled_9 ?_
    refine V_icmp_ge C 57 dX0_searchSmuggled_12 (by decide) (fun c6 => ?_) (fun c6 => ?_)
    · have hf := i_t c6 hf
      have hf := Option.some.inj hf
      subst hf
      exact V_vret C hQ dX0_searchSmuggled_57
    · have hf := i_f c6 hf
      refine V_iload_n C dX0_searchSmuggled_15 rfl 2 rfl ?_
      refine V_bipush (v := (6 : Int32)) C dX0_searchSmuggled_16 (by decide) ?_
      refine V_icmp_ge C 57 dX0_searchSmuggled_18 (by decide) (fun c7 => ?_) (fun c7 => ?_)
      · have hf := i_t c7 hf
        have hf := Option.some.inj hf
        subst hf
        exact V_vret C hQ dX0_searchSmuggled_57
      · have hf := i_f c7 hf
        refine V_iconst (v := (1 : Int32)) C dX0_searchSmuggled_21 (by decide) ?_
        refine V_istore_n (lv' := [(3, vI (1 : Int32)), (0, vR 0 (some v0)), (1, vR 5 (some v1)), (2, vI v2)]) C dX0_searchSmuggled_22 rfl (by decide) rfl ?_
        refine V_sub (lv' := [(0, vR 0 (some v0)), (1, vR 5 (some v1)), (2, vI v2), (3, vI (1 : Int32))]) [1, 2, 3, 0] rfl ?_
        exact p_X0_searchSmuggled_23 C hQ ih N _ _ _ _ _ hf
def f_X0_searchSmuggled (N : Nat) (h : Hp) (v0 : Nat) (v1 : Nat) : Option (Hp) := lt (sI h v0 5 (0 : Int32)) (fun h8 => f_X0_searchSmuggled_7 N N h8 v0 v1 (0 : Int32))
set_option maxHeartbeats 4000000 in
set_option maxRecDepth 100000 in
theorem p_X0_searchSmuggled {X : XT} {h' : Hp} (C : CX X cX0_searchSmuggled "WaterStair$Dusk" 4 none rmX0_searchSmuggled) {N : Nat} {h : Hp} {v0 : Nat} {v1 : Nat} (hQ : QX X none h' rmX0_searchSmuggled.cells rmX0_searchSmuggled.slots) (hf : f_X0_searchSmuggled N h v0 v1 = some h') : V X 0 0 h 0 [(0, vR 0 (some v0)), (1, vR 5 (some v1))] [] := by
  unfold f_X0_searchSmuggled at hf
  refine V_aload_n C dX0_searchSmuggled_0 rfl 0 rfl ?_
  refine V_iconst (v := (0 : Int32)) C dX0_searchSmuggled_1 (by decide) ?_
  obtain ⟨h8, eh8, hf⟩ := o_l hf
  refine V_putI C nf_X0_27 rfl (okI_int _) dX0_searchSmuggled_2 (V_eqH eh8 ?_)
  refine V_iconst (v := (0 : Int32)) C dX0_searchSmuggled_5 (by decide) ?_
  refine V_istore_n (lv' := [(2, vI (0 : Int32)), (0, vR 0 (some v0)), (1, vR 5 (some v1))]) C dX0_searchSmuggled_6 rfl (by decide) rfl ?_
  refine V_sub (lv' := [(0, vR 0 (some v0)), (1, vR 5 (some v1)), (2, vI (0 : Int32))]) [1, 2, 0] rfl ?_
  exact p_X0_searchSmuggled_7 C hQ N _ _ _ _ hf
theorem ct_X0_searchSmuggled {h' : Hp} {N : Nat} {h : Hp} {v0 : Nat} {v1 : Nat} (hf : f_X0_searchSmuggled N h v0 v1 = some h') (l : Launch) (G : GT) : MC l G yX0_searchSmuggled cX0_searchSmuggled 4 none rmX0_searchSmuggled h [vR 0 (some v0), vR 5 (some v1)] none h' := MC_of (by decide) rfl (Nat.le_of_ble_eq_true rfl) rfl (fun X C hQ hin => p_X0_searchSmuggled C hQ hf)
abbrev rmX1_init : Room := { frames := 1, cells := 2, slots := 70, locals := 20 }
def f_X1_init (h : Hp) (v0 : Nat) (v1 : Nat) : Option (Hp) := lt (nO h 11 10) (fun h1 => lt (sP h1 v0 1 (some (hN h))) (fun h2 => lt (nO h2 11 60) (fun h3 => lt (sP h3 v0 2 (some (hN h2))) (fun h4 => lt (sP h4 v0 0 (some v1)) (fun h5 => some h5)))))
set_option maxHeartbeats 4000000 in
set_option maxRecDepth 100000 in
theorem p_X1_init {X : XT} {h' : Hp} (C : CX X cX1_init "WaterStair$Rule" 2 none rmX1_init) (hin : X.2.2.2.2.2.2.2.2.1.name = "<init>") {h : Hp} {v0 : Nat} {v1 : Nat} (hQ : QX X none h' rmX1_init.cells rmX1_init.slots) (hf : f_X1_init h v0 v1 = some h') : V X 0 0 h 0 [(0, vR 1 (some v0)), (1, vR 10 (some v1))] [] := by
  unfold f_X1_init at hf
  refine V_aload_n C dX1_init_0 rfl 0 rfl ?_
  refine V_obj C (by decide) ob_X1_1 ob_i ob_c (by decide) (by decide) dX1_init_1 ?_
  refine V_aload_n C dX1_init_4 rfl 0 rfl ?_
  refine V_bipush (v := (10 : Int32)) C dX1_init_5 (by decide) ?_
  obtain ⟨h1, eh1, hf⟩ := o_l hf
  refine V_newl C (by decide) (by decide : Int32.toNatClampNeg (10 : Int32) = 10) (by decide) kA11 (by decide) (by decide) dX1_init_7 (V_eqH eh1 ?_)
  obtain ⟨h2, eh2, hf⟩ := o_l hf
  refine V_putR C hin ff_X1_9 rfl (fun _ => ⟨rfl, rfl⟩) rfl (by decide) dX1_init_9 (V_eqH eh2 ?_)
  refine V_aload_n C dX1_init_12 rfl 0 rfl ?_
  refine V_bipush (v := (60 : Int32)) C dX1_init_13 (by decide) ?_
  obtain ⟨h3, eh3, hf⟩ := o_l hf
  refine V_newl C (by decide) (by decide : Int32.toNatClampNeg (60 : Int32) = 60) (by decide) kA11 (by decide) (by decide) dX1_init_15 (V_eqH eh3 ?_)
  obtain ⟨h4, eh4, hf⟩ := o_l hf
  refine V_putR C hin ff_X1_15 rfl (fun _ => ⟨rfl, rfl⟩) rfl (by decide) dX1_init_17 (V_eqH eh4 ?_)
  refine V_aload_n C dX1_init_20 rfl 0 rfl ?_
  refine V_aload_n C dX1_init_21 rfl 1 rfl ?_
  obtain ⟨h5, eh5, hf⟩ := o_l hf
  refine V_putR C hin ff_X1_18 rfl (fun _ => ⟨rfl, rfl⟩) rfl (by decide) dX1_init_22 (V_eqH eh5 ?_)
  have hf := Option.some.inj hf
  subst hf
  exact V_vret C hQ dX1_init_25
theorem ct_X1_init {h' : Hp} {h : Hp} {v0 : Nat} {v1 : Nat} (hf : f_X1_init h v0 v1 = some h') (l : Launch) (G : GT) : MC l G yX1_init cX1_init 2 none rmX1_init h [vR 1 (some v0), vR 10 (some v1)] none h' := MC_of (by decide) rfl (Nat.le_of_ble_eq_true rfl) rfl (fun X C hQ hin => p_X1_init C hin hQ hf)
abbrev rmX1_codeOfWord : Room := { frames := 0, cells := 0, slots := 0, locals := 0 }
def f_X1_codeOfWord (h : Hp) (v0 : Int32) : Option (Int32) := some ((-1 : Int32) - v0)
set_option maxHeartbeats 4000000 in
set_option maxRecDepth 100000 in
theorem p_X1_codeOfWord {X : XT} {r : Int32} (C : CX X cX1_codeOfWord "WaterStair$Rule" 1 (some .int) rmX1_codeOfWord) {h : Hp} {v0 : Int32} (hQ : QX X (some (vI r)) h rmX1_codeOfWord.cells rmX1_codeOfWord.slots) (hf : f_X1_codeOfWord h v0 = some r) : V X 0 0 h 0 [(0, vI v0)] [] := by
  unfold f_X1_codeOfWord at hf
  refine V_iconst (v := (-1 : Int32)) C dX1_codeOfWord_0 (by decide) ?_
  refine V_iload_n C dX1_codeOfWord_1 rfl 0 rfl ?_
  refine V_isub C dX1_codeOfWord_2 ?_
  have hf := Option.some.inj hf
  subst hf
  exact V_iret C hQ dX1_codeOfWord_3
theorem ct_X1_codeOfWord {r : Int32} {h : Hp} {v0 : Int32} (hf : f_X1_codeOfWord h v0 = some r) (l : Launch) (G : GT) : MC l G yX1_codeOfWord cX1_codeOfWord 1 (some .int) rmX1_codeOfWord h [vI v0] (some (vI r)) h := MC_of (by decide) rfl (Nat.le_of_ble_eq_true rfl) rfl (fun X C hQ hin => p_X1_codeOfWord C hQ hf)
abbrev rmX2_init : Room := { frames := 1, cells := 1, slots := 400, locals := 20 }
def f_X2_init (h : Hp) (v0 : Nat) (v1 : Nat) : Option (Hp) := lt (nO h 10 400) (fun h1 => lt (sP h1 v0 1 (some (hN h))) (fun h2 => lt (sI h2 v0 2 (0 : Int32)) (fun h3 => lt (sI h3 v0 3 (0 : Int32)) (fun h4 => lt (sP h4 v0 0 (some v1)) (fun h5 => some h5)))))
set_option maxHeartbeats 4000000 in
set_option maxRecDepth 100000 in
theorem p_X2_init {X : XT} {h' : Hp} (C : CX X cX2_init "WaterStair$RuleText" 2 none rmX2_init) (hin : X.2.2.2.2.2.2.2.2.1.name = "<init>") {h : Hp} {v0 : Nat} {v1 : Nat} (hQ : QX X none h' rmX2_init.cells rmX2_init.slots) (hf : f_X2_init h v0 v1 = some h') : V X 0 0 h 0 [(0, vR 2 (some v0)), (1, vR 6 (some v1))] [] := by
  unfold f_X2_init at hf
  refine V_aload_n C dX2_init_0 rfl 0 rfl ?_
  refine V_obj C (by decide) ob_X2_3 ob_i ob_c (by decide) (by decide) dX2_init_1 ?_
  refine V_aload_n C dX2_init_4 rfl 0 rfl ?_
  refine V_sipush (v := (400 : Int32)) C dX2_init_5 (by decide) ?_
  obtain ⟨h1, eh1, hf⟩ := o_l hf
  refine V_newi C (by decide) (by decide : Int32.toNatClampNeg (400 : Int32) = 400) (by decide) kA10 (by decide) (by decide) dX2_init_8 (V_eqH eh1 ?_)
  obtain ⟨h2, eh2, hf⟩ := o_l hf
  refine V_putR C hin ff_X2_9 rfl (fun _ => ⟨rfl, rfl⟩) rfl (by decide) dX2_init_10 (V_eqH eh2 ?_)
  refine V_aload_n C dX2_init_13 rfl 0 rfl ?_
  refine V_iconst (v := (0 : Int32)) C dX2_init_14 (by decide) ?_
  obtain ⟨h3, eh3, hf⟩ := o_l hf
  refine V_putI C nf_X2_15 rfl (okI_int _) dX2_init_15 (V_eqH eh3 ?_)
  refine V_aload_n C dX2_init_18 rfl 0 rfl ?_
  refine V_iconst (v := (0 : Int32)) C dX2_init_19 (by decide) ?_
  obtain ⟨h4, eh4, hf⟩ := o_l hf
  refine V_putI C nf_X2_19 rfl (okI_int _) dX2_init_20 (V_eqH eh4 ?_)
  refine V_aload_n C dX2_init_23 rfl 0 rfl ?_
  refine V_aload_n C dX2_init_24 rfl 1 rfl ?_
  obtain ⟨h5, eh5, hf⟩ := o_l hf
  refine V_putR C hin ff_X2_22 rfl (fun _ => ⟨rfl, rfl⟩) rfl (by decide) dX2_init_25 (V_eqH eh5 ?_)
  have hf := Option.some.inj hf
  subst hf
  exact V_vret C hQ dX2_init_28
theorem ct_X2_init {h' : Hp} {h : Hp} {v0 : Nat} {v1 : Nat} (hf : f_X2_init h v0 v1 = some h') (l : Launch) (G : GT) : MC l G yX2_init cX2_init 2 none rmX2_init h [vR 2 (some v0), vR 6 (some v1)] none h' := MC_of (by decide) rfl (Nat.le_of_ble_eq_true rfl) rfl (fun X C hQ hin => p_X2_init C hin hQ hf)
abbrev rmJ7_copyOf_59c91 : Room := { frames := 1, cells := 1, slots := 400, locals := 64 }
def f_J7_copyOf_59c91 (h : Hp) (v0 : Nat) (v1 : Int32) : Option (Nat × Hp) := if v1 = (nI (hL h v0)) then (if hL h v0 ≤ 400 then (lt (nC h v0) (fun h10 => some ((hN h, h10)))) else none) else (if 0 ≤ v1 ∧ v1.toNatClampNeg ≤ 400 then (lt (nO h 10 v1.toNatClampNeg) (fun h3 => lt (if v1 < nI (hL h3 v0) then v1 else nI (hL h3 v0)) (fun y4 => if 0 ≤ y4 then (if 0 + y4.toNatClampNeg ≤ hL h3 v0 then (if 0 + y4.toNatClampNeg ≤ hL h3 (hN h) then (lt (sC h3 v0 (hN h) (0) (0) (y4.toNatClampNeg)) (fun h8 => some ((hN h, h8)))) else none) else none) else none))) else none)
set_option maxHeartbeats 4000000 in
set_option maxRecDepth 100000 in
theorem p_J7_copyOf_59c91 {X : XT} {r : Nat} {h' : Hp} (C : CX X cJ7_copyOf_59c91 "java/util/Arrays" 3 (some (.array .int)) rmJ7_copyOf_59c91) {h : Hp} {v0 : Nat} {v1 : Int32} (hQ : QX X (some (vR 10 (some r))) h' rmJ7_copyOf_59c91.cells rmJ7_copyOf_59c91.slots) (hf : f_J7_copyOf_59c91 h v0 v1 = some ((r, h'))) : V X 0 0 h 0 [(0, vR 10 (some v0)), (1, vI v1)] [] := by
  unfold f_J7_copyOf_59c91 at hf
  refine V_iload_n C dJ7_copyOf_59c91_0 rfl 1 rfl ?_
  refine V_aload_n C dJ7_copyOf_59c91_1 rfl 0 rfl ?_
  refine V_alen C (by decide) (by decide) dJ7_copyOf_59c91_2 ?_
  refine V_icmp_ne C 14 dJ7_copyOf_59c91_3 (by decide) (fun c1 => ?_) (fun c1 => ?_)
  · have hf := i_f c1 hf
    refine V_iload_n C dJ7_copyOf_59c91_14 rfl 1 rfl ?_
    obtain ⟨g2, hf⟩ := o_if hf
    obtain ⟨h3, eh3, hf⟩ := o_l hf
    refine V_newi C (Int32.not_lt.mpr g2.1) rfl (by have := g2.2; simp only [componentBytes]; omega) kA10 (by decide) (by have := g2.2; simp only [rmJ7_copyOf_59c91]; omega) dJ7_copyOf_59c91_15 (V_eqH eh3 (V_wide (cs' := 1) (sl' := 400) (by decide) (by have := g2.2; omega) ?_))
    refine V_astore_n (lv' := [(2, vR 10 (some (hN h))), (0, vR 10 (some v0)), (1, vI v1)]) C dJ7_copyOf_59c91_17 rfl (by decide) rfl ?_
    refine V_aload_n C dJ7_copyOf_59c91_18 rfl 1 rfl ?_
    refine V_iconst (v := (0 : Int32)) C dJ7_copyOf_59c91_19 (by decide) ?_
    refine V_aload_n C dJ7_copyOf_59c91_20 rfl 0 rfl ?_
    refine V_iconst (v := (0 : Int32)) C dJ7_copyOf_59c91_21 (by decide) ?_
    refine V_aload_n C dJ7_copyOf_59c91_22 rfl 1 rfl ?_
    refine V_alen C (by decide) (by decide) dJ7_copyOf_59c91_23 ?_
    refine V_iload_n C dJ7_copyOf_59c91_24 rfl 2 rfl ?_
    refine V_mmin C mm_J7_304 mm_smin mm_i mm_cmin (by decide) (Nat.le_of_ble_eq_true rfl) (by decide) (by decide) dJ7_copyOf_59c91_25 ?_
    obtain ⟨y4, ey4, hf⟩ := o_l hf
    refine V_eqI ey4 ?_
    obtain ⟨g5, hf⟩ := o_if hf
    obtain ⟨g6, hf⟩ := o_if hf
    obtain ⟨g7, hf⟩ := o_if hf
    obtain ⟨h8, eh8, hf⟩ := o_l hf
    refine V_copyK C ac_J7_150 ac_n ac_s ac_y (by decide) (by decide) (Int32.not_lt.mpr g5) (by decide : Int32.toNatClampNeg (0 : Int32) = 0) (by decide : Int32.toNatClampNeg (0 : Int32) = 0) rfl g6 g7 (by decide) (by decide) dJ7_copyOf_59c91_28 (V_eqH eh8 ?_)
    refine V_aload_n C dJ7_copyOf_59c91_31 rfl 0 rfl ?_
    obtain ⟨hf1, hf2⟩ := Prod.mk.inj (Option.some.inj hf)
    subst hf1
    subst hf2
    exact V_aret C (Or.inr ⟨_, rfl⟩) (by decide) hQ dJ7_copyOf_59c91_32
  · have hf := i_t c1 hf
    refine V_aload_n C dJ7_copyOf_59c91_6 rfl 0 rfl ?_
    obtain ⟨g9, hf⟩ := o_if hf
    obtain ⟨h10, eh10, hf⟩ := o_l hf
    refine V_clone C cn_J7_316 cn_m cn_n cn_i cn_s (by decide) (Nat.le_of_ble_eq_true rfl) g9 (by decide) (by decide) dJ7_copyOf_59c91_7 (V_eqH eh10 ?_)
    refine V_castI C cl_J7_317 dJ7_copyOf_59c91_10 ?_
    obtain ⟨hf1, hf2⟩ := Prod.mk.inj (Option.some.inj hf)
    subst hf1
    subst hf2
    exact V_aret C (Or.inr ⟨_, rfl⟩) (by decide) hQ dJ7_copyOf_59c91_13
theorem ct_J7_copyOf_59c91 {r : Nat} {h' : Hp} {h : Hp} {v0 : Nat} {v1 : Int32} (hf : f_J7_copyOf_59c91 h v0 v1 = some ((r, h'))) (l : Launch) (G : GT) : MC l G yJ7_copyOf_59c91 cJ7_copyOf_59c91 3 (some (.array .int)) rmJ7_copyOf_59c91 h [vR 10 (some v0), vI v1] (some (vR 10 (some r))) h' := MC_of (by decide) rfl (Nat.le_of_ble_eq_true rfl) rfl (fun X C hQ hin => p_J7_copyOf_59c91 C hQ hf)
abbrev rmX2_emit : Room := { frames := 0, cells := 0, slots := 0, locals := 0 }
def f_X2_emit (h : Hp) (v0 : Nat) (v1 : Int32) : Option (Hp) := Option.bind (hP h v0 0) (fun q1 => if hI h q1 6 = 0 then (Option.bind (hP h v0 1) (fun q3 => if (nI (hL h q3)) ≤ (hI h v0 2) then (some h) else (Option.bind (hP h v0 1) (fun q5 => if 0 ≤ hI h v0 2 ∧ (hI h v0 2).toNatClampNeg < hL h q5 then (lt (sI h q5 ((hI h v0 2).toNatClampNeg) v1) (fun h7 => lt (sI h7 v0 2 ((hI h7 v0 2) + (1 : Int32))) (fun h8 => some h8))) else none)))) else (some h))
set_option maxHeartbeats 4000000 in
set_option maxRecDepth 100000 in
theorem p_X2_emit {X : XT} {h' : Hp} (C : CX X cX2_emit "WaterStair$RuleText" 2 none rmX2_emit) {h : Hp} {v0 : Nat} {v1 : Int32} (hQ : QX X none h' rmX2_emit.cells rmX2_emit.slots) (hf : f_X2_emit h v0 v1 = some h') : V X 0 0 h 0 [(0, vR 2 (some v0)), (1, vI v1)] [] := by
  unfold f_X2_emit at hf
  refine V_aload_n C dX2_emit_0 rfl 0 rfl ?_
  obtain ⟨q1, eq1, hf⟩ := o_b hf
  refine V_getR C fl_X2_22 rfl rfl (by decide) eq1 dX2_emit_1 ?_
  refine V_getI C fl_X2_31 rfl dX2_emit_4 ?_
  refine V_if_ne C 42 dX2_emit_7 (by decide) (fun c2 => ?_) (fun c2 => ?_)
  · have hf := i_f c2 hf
    have hf := Option.some.inj hf
    subst hf
    exact V_vret C hQ dX2_emit_42
  · have hf := i_t c2 hf
    refine V_aload_n C dX2_emit_10 rfl 0 rfl ?_
    refine V_getI C fl_X2_15 rfl dX2_emit_11 ?_
    refine V_aload_n C dX2_emit_14 rfl 0 rfl ?_
    obtain ⟨q3, eq3, hf⟩ := o_b hf
    refine V_getR C fl_X2_9 rfl rfl (by decide) eq3 dX2_emit_15 ?_
    refine V_alen C (by decide) (by decide) dX2_emit_18 ?_
    refine V_icmp_ge C 42 dX2_emit_19 (by decide) (fun c4 => ?_) (fun c4 => ?_)
    · have hf := i_t c4 hf
      have hf := Option.some.inj hf
      subst hf
      exact V_vret C hQ dX2_emit_42
    · have hf := i_f c4 hf
      refine V_aload_n C dX2_emit_22 rfl 0 rfl ?_
      obtain ⟨q5, eq5, hf⟩ := o_b hf
      refine V_getR C fl_X2_9 rfl rfl (by decide) eq5 dX2_emit_23 ?_
      refine V_aload_n C dX2_emit_26 rfl 0 rfl ?_
      refine V_getI C fl_X2_15 rfl dX2_emit_27 ?_
      refine V_iload_n C dX2_emit_30 rfl 1 rfl ?_
      obtain ⟨g6, hf⟩ := o_if hf
      obtain ⟨h7, eh7, hf⟩ := o_l hf
      refine V_iast C (vp_g g6) rfl dX2_emit_31 (V_eqH eh7 ?_)
      refine V_aload_n C dX2_emit_32 rfl 0 rfl ?_
      refine V_dup C dX2_emit_33 rfl ?_
      refine V_getI C fl_X2_15 rfl dX2_emit_34 ?_
      refine V_iconst (v := (1 : Int32)) C dX2_emit_37 (by decide) ?_
      refine V_iadd C dX2_emit_38 ?_
      obtain ⟨h8, eh8, hf⟩ := o_l hf
      refine V_putI C nf_X2_15 rfl (okI_int _) dX2_emit_39 (V_eqH eh8 ?_)
      have hf := Option.some.inj hf
      subst hf
      exact V_vret C hQ dX2_emit_42
theorem ct_X2_emit {h' : Hp} {h : Hp} {v0 : Nat} {v1 : Int32} (hf : f_X2_emit h v0 v1 = some h') (l : Launch) (G : GT) : MC l G yX2_emit cX2_emit 2 none rmX2_emit h [vR 2 (some v0), vI v1] none h' := MC_of (by decide) rfl (Nat.le_of_ble_eq_true rfl) rfl (fun X C hQ hin => p_X2_emit C hQ hf)
abbrev rmX2_operatorAhead : Room := { frames := 0, cells := 0, slots := 0, locals := 0 }
def f_X2_operatorAhead (h : Hp) (v0 : Nat) : Option (Int32) := Option.bind (hP h v0 0) (fun q1 => if hI h q1 2 = (42 : Int32) then (some (100002 : Int32)) else if hI h q1 2 = (43 : Int32) then (some (100000 : Int32)) else if hI h q1 2 = (44 : Int32) then (some (-1 : Int32)) else if hI h q1 2 = (45 : Int32) then (some (100001 : Int32)) else if hI h q1 2 = (46 : Int32) then (some (-1 : Int32)) else if hI h q1 2 = (47 : Int32) then (some (100003 : Int32)) else (some (-1 : Int32)))
set_option maxHeartbeats 4000000 in
set_option maxRecDepth 100000 in
theorem p_X2_operatorAhead {X : XT} {r : Int32} (C : CX X cX2_operatorAhead "WaterStair$RuleText" 1 (some .int) rmX2_operatorAhead) {h : Hp} {v0 : Nat} (hQ : QX X (some (vI r)) h rmX2_operatorAhead.cells rmX2_operatorAhead.slots) (hf : f_X2_operatorAhead h v0 = some r) : V X 0 0 h 0 [(0, vR 2 (some v0))] [] := by
  unfold f_X2_operatorAhead at hf
  refine V_aload_n C dX2_operatorAhead_0 rfl 0 rfl ?_
  obtain ⟨q1, eq1, hf⟩ := o_b hf
  refine V_getR C fl_X2_22 rfl rfl (by decide) eq1 dX2_operatorAhead_1 ?_
  refine V_getI C fl_X2_48 rfl dX2_operatorAhead_4 ?_
  by_cases c2 : hI h q1 2 = (42 : Int32)
  · have hf := i_t c2 hf
    refine V_tabIn (off := 43) C 50 dX2_operatorAhead_7 (by rw [c2]; decide) (by rw [c2]; decide) (by rw [c2]; decide) (by decide) ?_
    refine V_ldc C kc_X2_110 dX2_operatorAhead_50 ?_
    have hf := Option.some.inj hf
    subst hf
    exact V_iret C hQ dX2_operatorAhead_52
  have hf := i_f c2 hf
  by_cases c3 : hI h q1 2 = (43 : Int32)
  · have hf := i_t c3 hf
    refine V_tabIn (off := 37) C 44 dX2_operatorAhead_7 (by rw [c3]; decide) (by rw [c3]; decide) (by rw [c3]; decide) (by decide) ?_
    refine V_ldc C kc_X2_112 dX2_operatorAhead_44 ?_
    have hf := Option.some.inj hf
    subst hf
    exact V_iret C hQ dX2_operatorAhead_46
  have hf := i_f c3 hf
  by_cases c4 : hI h q1 2 = (44 : Int32)
  · have hf := i_t c4 hf
    refine V_tabIn (off := 49) C 56 dX2_operatorAhead_7 (by rw [c4]; decide) (by rw [c4]; decide) (by rw [c4]; decide) (by decide) ?_
    refine V_iconst (v := (-1 : Int32)) C dX2_operatorAhead_56 (by decide) ?_
    have hf := Option.some.inj hf
    subst hf
    exact V_iret C hQ dX2_operatorAhead_57
  have hf := i_f c4 hf
  by_cases c5 : hI h q1 2 = (45 : Int32)
  · have hf := i_t c5 hf
    refine V_tabIn (off := 40) C 47 dX2_operatorAhead_7 (by rw [c5]; decide) (by rw [c5]; decide) (by rw [c5]; decide) (by decide) ?_
    refine V_ldc C kc_X2_113 dX2_operatorAhead_47 ?_
    have hf := Option.some.inj hf
    subst hf
    exact V_iret C hQ dX2_operatorAhead_49
  have hf := i_f c5 hf
  by_cases c6 : hI h q1 2 = (46 : Int32)
  · have hf := i_t c6 hf
    refine V_tabIn (off := 49) C 56 dX2_operatorAhead_7 (by rw [c6]; decide) (by rw [c6]; decide) (by rw [c6]; decide) (by decide) ?_
    refine V_iconst (v := (-1 : Int32)) C dX2_operatorAhead_56 (by decide) ?_
    have hf := Option.some.inj hf
    subst hf
    exact V_iret C hQ dX2_operatorAhead_57
  have hf := i_f c6 hf
  by_cases c7 : hI h q1 2 = (47 : Int32)
  · have hf := i_t c7 hf
    refine V_tabIn (off := 46) C 53 dX2_operatorAhead_7 (by rw [c7]; decide) (by rw [c7]; decide) (by rw [c7]; decide) (by decide) ?_
    refine V_ldc C kc_X2_111 dX2_operatorAhead_53 ?_
    have hf := Option.some.inj hf
    subst hf
    exact V_iret C hQ dX2_operatorAhead_55
  have hf := i_f c7 hf
  refine V_tabOut C 56 dX2_operatorAhead_7 (tab_o (fun z z1 z2 => ?_)) (by decide) ?_
  · rcases (show z = 42 ∨ z = 43 ∨ z = 44 ∨ z = 45 ∨ z = 46 ∨ z = 47 by omega) with rfl | rfl | rfl | rfl | rfl | rfl
    · exact tab_n c2 (by decide)
    · exact tab_n c3 (by decide)
    · exact tab_n c4 (by decide)
    · exact tab_n c5 (by decide)
    · exact tab_n c6 (by decide)
    · exact tab_n c7 (by decide)
  refine V_iconst (v := (-1 : Int32)) C dX2_operatorAhead_56 (by decide) ?_
  have hf := Option.some.inj hf
  subst hf
  exact V_iret C hQ dX2_operatorAhead_57
theorem ct_X2_operatorAhead {r : Int32} {h : Hp} {v0 : Nat} (hf : f_X2_operatorAhead h v0 = some r) (l : Launch) (G : GT) : MC l G yX2_operatorAhead cX2_operatorAhead 1 (some .int) rmX2_operatorAhead h [vR 2 (some v0)] (some (vI r)) h := MC_of (by decide) rfl (Nat.le_of_ble_eq_true rfl) rfl (fun X C hQ hin => p_X2_operatorAhead C hQ hf)
abbrev rmX6_fail : Room := { frames := 0, cells := 0, slots := 0, locals := 0 }
def f_X6_fail (h : Hp) (v0 : Nat) (v1 : Int32) : Option (Hp) := if hI h v0 6 = 0 then (lt (sI h v0 6 (((1 : Int32) + ((8 : Int32) * (hI h v0 4))) + v1)) (fun h2 => lt (sI h2 v0 2 (261 : Int32)) (fun h3 => some h3))) else (some h)
set_option maxHeartbeats 4000000 in
set_option maxRecDepth 100000 in
theorem p_X6_fail {X : XT} {h' : Hp} (C : CX X cX6_fail "WaterStair$Tape" 2 none rmX6_fail) {h : Hp} {v0 : Nat} {v1 : Int32} (hQ : QX X none h' rmX6_fail.cells rmX6_fail.slots) (hf : f_X6_fail h v0 v1 = some h') : V X 0 0 h 0 [(0, vR 6 (some v0)), (1, vI v1)] [] := by
  unfold f_X6_fail at hf
  refine V_aload_n C dX6_fail_0 rfl 0 rfl ?_
  refine V_getI C fl_X6_31 rfl dX6_fail_1 ?_
  refine V_if_ne C 29 dX6_fail_4 (by decide) (fun c1 => ?_) (fun c1 => ?_)
  · have hf := i_f c1 hf
    have hf := Option.some.inj hf
    subst hf
    exact V_vret C hQ dX6_fail_29
  · have hf := i_t c1 hf
    refine V_aload_n C dX6_fail_7 rfl 0 rfl ?_
    refine V_iconst (v := (1 : Int32)) C dX6_fail_8 (by decide) ?_
    refine V_bipush (v := (8 : Int32)) C dX6_fail_9 (by decide) ?_
    refine V_aload_n C dX6_fail_11 rfl 0 rfl ?_
    refine V_getI C fl_X6_25 rfl dX6_fail_12 ?_
    refine V_imul C dX6_fail_15 ?_
    refine V_iadd C dX6_fail_16 ?_
    refine V_iload_n C dX6_fail_17 rfl 1 rfl ?_
    refine V_iadd C dX6_fail_18 ?_
    obtain ⟨h2, eh2, hf⟩ := o_l hf
    refine V_putI C nf_X6_31 rfl (okI_int _) dX6_fail_19 (V_eqH eh2 ?_)
    refine V_aload_n C dX6_fail_22 rfl 0 rfl ?_
    refine V_sipush (v := (261 : Int32)) C dX6_fail_23 (by decide) ?_
    obtain ⟨h3, eh3, hf⟩ := o_l hf
    refine V_putI C nf_X6_19 rfl (okI_int _) dX6_fail_26 (V_eqH eh3 ?_)
    have hf := Option.some.inj hf
    subst hf
    exact V_vret C hQ dX6_fail_29
theorem ct_X6_fail {h' : Hp} {h : Hp} {v0 : Nat} {v1 : Int32} (hf : f_X6_fail h v0 v1 = some h') (l : Launch) (G : GT) : MC l G yX6_fail cX6_fail 2 none rmX6_fail h [vR 6 (some v0), vI v1] none h' := MC_of (by decide) rfl (Nat.le_of_ble_eq_true rfl) rfl (fun X C hQ hin => p_X6_fail C hQ hf)
abbrev rmX2_countOne : Room := { frames := 1, cells := 0, slots := 0, locals := 21 }
def f_X2_countOne_17 (h : Hp) (v0 : Nat) : Option (Hp) := lt (sI h v0 3 ((hI h v0 3) + (1 : Int32))) (fun h1 => some h1)
set_option maxHeartbeats 4000000 in
set_option maxRecDepth 100000 in
theorem p_X2_countOne_17 {X : XT} {h' : Hp} (C : CX X cX2_countOne "WaterStair$RuleText" 1 none rmX2_countOne) (hQ : QX X none h' rmX2_countOne.cells rmX2_countOne.slots)  {h : Hp} {v0 : Nat} (hf : f_X2_countOne_17 h v0 = some h') : V X 0 0 h 17 [(0, vR 2 (some v0))] [] := by
  unfold f_X2_countOne_17 at hf
  refine V_aload_n C dX2_countOne_17 rfl 0 rfl ?_
  refine V_dup C dX2_countOne_18 rfl ?_
  refine V_getI C fl_X2_19 rfl dX2_countOne_19 ?_
  refine V_iconst (v := (1 : Int32)) C dX2_countOne_22 (by decide) ?_
  refine V_iadd C dX2_countOne_23 ?_
  obtain ⟨h1, eh1, hf⟩ := o_l hf
  refine V_putI C nf_X2_19 rfl (okI_int _) dX2_countOne_24 (V_eqH eh1 ?_)
  have hf := Option.some.inj hf
  subst hf
  exact V_vret C hQ dX2_countOne_27
def f_X2_countOne (h : Hp) (v0 : Nat) : Option (Hp) := if (hI h v0 3) < (60 : Int32) then (f_X2_countOne_17 h v0) else (Option.bind (hP h v0 0) (fun q3 => Option.bind (f_X6_fail h q3 (3 : Int32)) (fun h4 => f_X2_countOne_17 h4 v0)))
set_option maxHeartbeats 4000000 in
set_option maxRecDepth 100000 in
theorem p_X2_countOne {X : XT} {h' : Hp} (C : CX X cX2_countOne "WaterStair$RuleText" 1 none rmX2_countOne) {h : Hp} {v0 : Nat} (hQ : QX X none h' rmX2_countOne.cells rmX2_countOne.slots) (hf : f_X2_countOne h v0 = some h') : V X 0 0 h 0 [(0, vR 2 (some v0))] [] := by
  unfold f_X2_countOne at hf
  refine V_aload_n C dX2_countOne_0 rfl 0 rfl ?_
  refine V_getI C fl_X2_19 rfl dX2_countOne_1 ?_
  refine V_bipush (v := (60 : Int32)) C dX2_countOne_4 (by decide) ?_
  refine V_icmp_lt C 17 dX2_countOne_6 (by decide) (fun c2 => ?_) (fun c2 => ?_)
  · have hf := i_t c2 hf
    refine V_sub (lv' := [(0, vR 2 (some v0))]) [0] rfl ?_
    exact p_X2_countOne_17 C hQ hf
  · have hf := i_f c2 hf
    refine V_aload_n C dX2_countOne_9 rfl 0 rfl ?_
    obtain ⟨q3, eq3, hf⟩ := o_b hf
    refine V_getR C fl_X2_22 rfl rfl (by decide) eq3 dX2_countOne_10 ?_
    refine V_iconst (v := (3 : Int32)) C dX2_countOne_13 (by decide) ?_
    obtain ⟨h4, eh4, hf⟩ := o_b hf
    refine V_callV (as := [vI (3 : Int32)]) (st := []) C ml_X2_60 fx6 (ct_X6_fail eh4) rfl ⟨by decide, by decide, by decide, by decide⟩ (Nat.le_of_ble_eq_true rfl) rfl dX2_countOne_14 (cs' := 0) (sl' := 0) rfl rfl ?_
    refine V_sub (lv' := [(0, vR 2 (some v0))]) [0] rfl ?_
    exact p_X2_countOne_17 C hQ hf
theorem ct_X2_countOne {h' : Hp} {h : Hp} {v0 : Nat} (hf : f_X2_countOne h v0 = some h') (l : Launch) (G : GT) : MC l G yX2_countOne cX2_countOne 1 none rmX2_countOne h [vR 2 (some v0)] none h' := MC_of (by decide) rfl (Nat.le_of_ble_eq_true rfl) rfl (fun X C hQ hin => p_X2_countOne C hQ hf)
abbrev rmX6_hasTaken : Room := { frames := 0, cells := 0, slots := 0, locals := 0 }
def f_X6_hasTaken_60 (N : Nat) (h : Hp) (v0 : Nat) : Option (Int32 × Hp) := if (hI h v0 5) ≤ (hI h v0 4) then (some (((0 : Int32), h))) else (some (((1 : Int32), h)))
set_option maxHeartbeats 4000000 in
set_option maxRecDepth 100000 in
theorem p_X6_hasTaken_60 {X : XT} {r : Int32} {h' : Hp} (C : CX X cX6_hasTaken "WaterStair$Tape" 3 (some .boolean) rmX6_hasTaken) (hQ : QX X (some (vI r)) h' rmX6_hasTaken.cells rmX6_hasTaken.slots) {N : Nat}  {h : Hp} {v0 : Nat} (hf : f_X6_hasTaken_60 N h v0 = some ((r, h'))) : V X 0 0 h 60 [(0, vR 6 (some v0))] [] := by
  unfold f_X6_hasTaken_60 at hf
  refine V_aload_n C dX6_hasTaken_60 rfl 0 rfl ?_
  refine V_getI C fl_X6_28 rfl dX6_hasTaken_61 ?_
  refine V_aload_n C dX6_hasTaken_64 rfl 0 rfl ?_
  refine V_getI C fl_X6_25 rfl dX6_hasTaken_65 ?_
  refine V_icmp_le C 75 dX6_hasTaken_68 (by decide) (fun c1 => ?_) (fun c1 => ?_)
  · have hf := i_t c1 hf
    refine V_iconst (v := (0 : Int32)) C dX6_hasTaken_75 (by decide) ?_
    obtain ⟨hf1, hf2⟩ := Prod.mk.inj (Option.some.inj hf)
    subst hf1
    subst hf2
    exact V_zret C (by decide) hQ dX6_hasTaken_76
  · have hf := i_f c1 hf
    refine V_iconst (v := (1 : Int32)) C dX6_hasTaken_71 (by decide) ?_
    refine V_goto C 76 dX6_hasTaken_72 (by decide) ?_
    obtain ⟨hf1, hf2⟩ := Prod.mk.inj (Option.some.inj hf)
    subst hf1
    subst hf2
    exact V_zret C (by decide) hQ dX6_hasTaken_76
def f_X6_hasTaken_0 (N : Nat) : Nat → Hp → Nat → Int32 → Int32 → Option (Int32 × Hp)
  | 0, _, _, _, _ => none
  | n + 1, h, v0, v1, v2 => if (hI h v0 1) ≤ (hI h v0 5) then (f_X6_hasTaken_60 N h v0) else (if (400 : Int32) ≤ (hI h v0 5) then (f_X6_hasTaken_60 N h v0) else (Option.bind (hP h v0 0) (fun q4 => if 0 ≤ hI h v0 5 ∧ (hI h v0 5).toNatClampNeg < hL h q4 then (if (hI h q4 ((hI h v0 5).toNatClampNeg)) < v1 then (f_X6_hasTaken_60 N h v0) else (Option.bind (hP h v0 0) (fun q7 => if 0 ≤ hI h v0 5 ∧ (hI h v0 5).toNatClampNeg < hL h q7 then (if v2 < (hI h q7 ((hI h v0 5).toNatClampNeg)) then (f_X6_hasTaken_60 N h v0) else (lt (sI h v0 5 ((hI h v0 5) + (1 : Int32))) (fun h10 => f_X6_hasTaken_0 N n h10 v0 v1 v2))) else none))) else none)))
set_option maxHeartbeats 4000000 in
set_option maxRecDepth 100000 in
theorem p_X6_hasTaken_0 {X : XT} {r : Int32} {h' : Hp} (C : CX X cX6_hasTaken "WaterStair$Tape" 3 (some .boolean) rmX6_hasTaken) (hQ : QX X (some (vI r)) h' rmX6_hasTaken.cells rmX6_hasTaken.slots) {N : Nat}  : ∀ (n : Nat) (h : Hp) (v0 : Nat) (v1 : Int32) (v2 : Int32), f_X6_hasTaken_0 N n h v0 v1 v2 = some ((r, h')) → V X 0 0 h 0 [(0, vR 6 (some v0)), (1, vI v1), (2, vI v2)] [] := by
  intro n
  induction n with
  | zero =>
    intro h v0 v1 v2 hf
    have hf : (none : Option (Int32 × Hp)) = some _ := hf
    cases hf
  | succ n ih =>
    intro h v0 v1 v2 hf
    rw [f_X6_hasTaken_0] at hf
    refine V_aload_n C dX6_hasTaken_0 rfl 0 rfl ?_
    refine V_getI C fl_X6_28 rfl dX6_hasTaken_1 ?_
    refine V_aload_n C dX6_hasTaken_4 rfl 0 rfl ?_
    refine V_getI C fl_X6_15 rfl dX6_hasTaken_5 ?_
    refine V_icmp_ge C 60 dX6_hasTaken_8 (by decide) (fun c2 => ?_) (fun c2 => ?_)
    · have hf := i_t c2 hf
      refine V_sub (lv' := [(0, vR 6 (some v0))]) [0] rfl ?_
      exact p_X6_hasTaken_60 C hQ hf
    · have hf := i_f c2 hf
      refine V_aload_n C dX6_hasTaken_11 rfl 0 rfl ?_
      refine V_getI C fl_X6_28 rfl dX6_hasTaken_12 ?_
      refine V_sipush (v := (400 : Int32)) C dX6_hasTaken_15 (by decide) ?_
      refine V_icmp_ge C 60 dX6_hasTaken_18 (by decide) (fun c3 => ?_) (fun c3 => ?_)
      · have hf := i_t c3 hf
        refine V_sub (lv' := [(0, vR 6 (some v0))]) [0] rfl ?_
        exact p_X6_hasTaken_60 C hQ hf
      · have hf := i_f c3 hf
        refine V_aload_n C dX6_hasTaken_21 rfl 0 rfl ?_
        obtain ⟨q4, eq4, hf⟩ := o_b hf
        refine V_getR C fl_X6_9 rfl rfl (by decide) eq4 dX6_hasTaken_22 ?_
        refine V_aload_n C dX6_hasTaken_25 rfl 0 rfl ?_
        refine V_getI C fl_X6_28 rfl dX6_hasTaken_26 ?_
        obtain ⟨g5, hf⟩ := o_if hf
        refine V_bald C (vp_g g5) rfl dX6_hasTaken_29 ?_
        refine V_iload_n C dX6_hasTaken_30 rfl 1 rfl ?_
        refine V_icmp_lt C 60 dX6_hasTaken_31 (by decide) (fun c6 => ?_) (fun c6 => ?_)
        · have hf := i_t c6 hf
          refine V_sub (lv' := [(0, vR 6 (some v0))]) [0] rfl ?_
          exact p_X6_hasTaken_60 C hQ hf
        · have hf := i_f c6 hf
          refine V_aload_n C dX6_hasTaken_34 rfl 0 rfl ?_
          obtain ⟨q7, eq7, hf⟩ := o_b hf
          refine V_getR C fl_X6_9 rfl rfl (by decide) eq7 dX6_hasTaken_35 ?_
          refine V_aload_n C dX6_hasTaken_38 rfl 0 rfl ?_
          refine V_getI C fl_X6_28 rfl dX6_hasTaken_39 ?_
          obtain ⟨g8, hf⟩ := o_if hf
          refine V_bald C (vp_g g8) rfl dX6_hasTaken_42 ?_
          refine V_iload_n C dX6_hasTaken_43 rfl 2 rfl ?_
          refine V_icmp_gt C 60 dX6_hasTaken_44 (by decide) (fun c9 => ?_) (fun c9 => ?_)
          · have hf := i_t c9 hf
            refine V_sub (lv' := [(0, vR 6 (some v0))]) [0] rfl ?_
            exact p_X6_hasTaken_60 C hQ hf
          · have hf := i_f c9 hf
            refine V_aload_n C dX6_hasTaken_47 rfl 0 rfl ?_
            refine V_dup C dX6_hasTaken_48 rfl ?_
            refine V_getI C fl_X6_28 rfl dX6_hasTaken_49 ?_
            refine V_iconst (v := (1 : Int32)) C dX6_hasTaken_52 (by decide) ?_
            refine V_iadd C dX6_hasTaken_53 ?_
            obtain ⟨h10, eh10, hf⟩ := o_l hf
            refine V_putI C nf_X6_28 rfl (okI_int _) dX6_hasTaken_54 (V_eqH eh10 ?_)
            refine V_goto C 0 dX6_hasTaken_57 (by decide) ?_
            refine V_sub (lv' := [(0, vR 6 (some v0)), (1, vI v1), (2, vI v2)]) [0, 1, 2] rfl ?_
            exact ih _ _ _ _ hf
def f_X6_hasTaken (N : Nat) (h : Hp) (v0 : Nat) (v1 : Int32) (v2 : Int32) : Option (Int32 × Hp) := f_X6_hasTaken_0 N N h v0 v1 v2
set_option maxHeartbeats 4000000 in
set_option maxRecDepth 100000 in
theorem p_X6_hasTaken {X : XT} {r : Int32} {h' : Hp} (C : CX X cX6_hasTaken "WaterStair$Tape" 3 (some .boolean) rmX6_hasTaken) {N : Nat} {h : Hp} {v0 : Nat} {v1 : Int32} {v2 : Int32} (hQ : QX X (some (vI r)) h' rmX6_hasTaken.cells rmX6_hasTaken.slots) (hf : f_X6_hasTaken N h v0 v1 v2 = some ((r, h'))) : V X 0 0 h 0 [(0, vR 6 (some v0)), (1, vI v1), (2, vI v2)] [] := by
  unfold f_X6_hasTaken at hf
  refine V_sub (lv' := [(0, vR 6 (some v0)), (1, vI v1), (2, vI v2)]) [0, 1, 2] rfl ?_
  exact p_X6_hasTaken_0 C hQ N _ _ _ _ hf
theorem ct_X6_hasTaken {r : Int32} {h' : Hp} {N : Nat} {h : Hp} {v0 : Nat} {v1 : Int32} {v2 : Int32} (hf : f_X6_hasTaken N h v0 v1 v2 = some ((r, h'))) (l : Launch) (G : GT) : MC l G yX6_hasTaken cX6_hasTaken 3 (some .boolean) rmX6_hasTaken h [vR 6 (some v0), vI v1, vI v2] (some (vI r)) h' := MC_of (by decide) rfl (Nat.le_of_ble_eq_true rfl) rfl (fun X C hQ hin => p_X6_hasTaken C hQ hf)
abbrev rmX6_numberTaken : Room := { frames := 0, cells := 0, slots := 0, locals := 0 }
def f_X6_numberTaken_22 (N : Nat) : Nat → Hp → Nat → Int32 → Int32 → Option (Int32)
  | 0, _, _, _, _ => none
  | n + 1, h, v0, v1, v2 => if (hI h v0 5) ≤ v2 then (some v1) else (if (400 : Int32) ≤ v2 then (some v1) else (Option.bind (hP h v0 0) (fun q3 => if 0 ≤ v2 ∧ v2.toNatClampNeg < hL h q3 then (lt (((v1 * (10 : Int32)) + (hI h q3 (v2.toNatClampNeg))) - (48 : Int32)) (fun y5 => f_X6_numberTaken_22 N n h v0 y5 (v2 + (1 : Int32)))) else none)))
set_option maxHeartbeats 4000000 in
set_option maxRecDepth 100000 in
theorem p_X6_numberTaken_22 {X : XT} {r : Int32} {h : Hp} (C : CX X cX6_numberTaken "WaterStair$Tape" 3 (some .int) rmX6_numberTaken) (hQ : QX X (some (vI r)) h rmX6_numberTaken.cells rmX6_numberTaken.slots) {N : Nat}  : ∀ (n : Nat) (v0 : Nat) (v1 : Int32) (v2 : Int32), f_X6_numberTaken_22 N n h v0 v1 v2 = some r → V X 0 0 h 22 [(0, vR 6 (some v0)), (1, vI v1), (2, vI v2)] [] := by
  intro n
  induction n with
  | zero =>
    intro v0 v1 v2 hf
    have hf : (none : Option (Int32)) = some _ := hf
    cases hf
  | succ n ih =>
    intro v0 v1 v2 hf
    rw [f_X6_numberTaken_22] at hf
    refine V_iload_n C dX6_numberTaken_22 rfl 2 rfl ?_
    refine V_aload_n C dX6_numberTaken_23 rfl 0 rfl ?_
    refine V_getI C fl_X6_28 rfl dX6_numberTaken_24 ?_
    refine V_icmp_ge C 58 dX6_numberTaken_27 (by decide) (fun c1 => ?_) (fun c1 => ?_)
    · have hf := i_t c1 hf
      refine V_iload_n C dX6_numberTaken_58 rfl 1 rfl ?_
      have hf := Option.some.inj hf
      subst hf
      exact V_iret C hQ dX6_numberTaken_59
    · have hf := i_f c1 hf
      refine V_iload_n C dX6_numberTaken_30 rfl 2 rfl ?_
      refine V_sipush (v := (400 : Int32)) C dX6_numberTaken_31 (by decide) ?_
      refine V_icmp_ge C 58 dX6_numberTaken_34 (by decide) (fun c2 => ?_) (fun c2 => ?_)
      · have hf := i_t c2 hf
        refine V_iload_n C dX6_numberTaken_58 rfl 1 rfl ?_
        have hf := Option.some.inj hf
        subst hf
        exact V_iret C hQ dX6_numberTaken_59
      · have hf := i_f c2 hf
        refine V_iload_n C dX6_numberTaken_37 rfl 1 rfl ?_
        refine V_bipush (v := (10 : Int32)) C dX6_numberTaken_38 (by decide) ?_
        refine V_imul C dX6_numberTaken_40 ?_
        refine V_aload_n C dX6_numberTaken_41 rfl 0 rfl ?_
        obtain ⟨q3, eq3, hf⟩ := o_b hf
        refine V_getR C fl_X6_9 rfl rfl (by decide) eq3 dX6_numberTaken_42 ?_
        refine V_iload_n C dX6_numberTaken_45 rfl 2 rfl ?_
        obtain ⟨g4, hf⟩ := o_if hf
        refine V_bald C (vp_g g4) rfl dX6_numberTaken_46 ?_
        refine V_iadd C dX6_numberTaken_47 ?_
        refine V_bipush (v := (48 : Int32)) C dX6_numberTaken_48 (by decide) ?_
        refine V_isub C dX6_numberTaken_50 ?_
        obtain ⟨y5, ey5, hf⟩ := o_l hf
        refine V_eqI ey5 ?_
        refine V_istore_n (lv' := [(1, vI y5), (0, vR 6 (some v0)), (2, vI v2)]) C dX6_numberTaken_51 rfl (by decide) rfl ?_
        refine V_iinc (lv' := [(2, vI (v2 + (1 : Int32))), (1, vI y5), (0, vR 6 (some v0))]) C dX6_numberTaken_52 2 rfl (congrArg (v2 + ·) (by decide : Int32.ofInt (1) = (1 : Int32))) (by decide) rfl ?_
        refine V_goto C 22 dX6_numberTaken_55 (by decide) ?_
        refine V_sub (lv' := [(0, vR 6 (some v0)), (1, vI y5), (2, vI (v2 + (1 : Int32)))]) [2, 1, 0] rfl ?_
        exact ih _ _ _ hf
def f_X6_numberTaken (N : Nat) (h : Hp) (v0 : Nat) : Option (Int32) := if ((hI h v0 5) - (hI h v0 4)) ≤ (5 : Int32) then (f_X6_numberTaken_22 N N h v0 (0 : Int32) (hI h v0 4)) else (some (-1 : Int32))
set_option maxHeartbeats 4000000 in
set_option maxRecDepth 100000 in
theorem p_X6_numberTaken {X : XT} {r : Int32} (C : CX X cX6_numberTaken "WaterStair$Tape" 3 (some .int) rmX6_numberTaken) {N : Nat} {h : Hp} {v0 : Nat} (hQ : QX X (some (vI r)) h rmX6_numberTaken.cells rmX6_numberTaken.slots) (hf : f_X6_numberTaken N h v0 = some r) : V X 0 0 h 0 [(0, vR 6 (some v0))] [] := by
  unfold f_X6_numberTaken at hf
  refine V_aload_n C dX6_numberTaken_0 rfl 0 rfl ?_
  refine V_getI C fl_X6_28 rfl dX6_numberTaken_1 ?_
  refine V_aload_n C dX6_numberTaken_4 rfl 0 rfl ?_
  refine V_getI C fl_X6_25 rfl dX6_numberTaken_5 ?_
  refine V_isub C dX6_numberTaken_8 ?_
  refine V_iconst (v := (5 : Int32)) C dX6_numberTaken_9 (by decide) ?_
  refine V_icmp_le C 15 dX6_numberTaken_10 (by decide) (fun c6 => ?_) (fun c6 => ?_)
  · have hf := i_t c6 hf
    refine V_iconst (v := (0 : Int32)) C dX6_numberTaken_15 (by decide) ?_
    refine V_istore_n (lv' := [(1, vI (0 : Int32)), (0, vR 6 (some v0))]) C dX6_numberTaken_16 rfl (by decide) rfl ?_
    refine V_aload_n C dX6_numberTaken_17 rfl 1 rfl ?_
    refine V_getI C fl_X6_25 rfl dX6_numberTaken_18 ?_
    refine V_istore_n (lv' := [(2, vI (hI h v0 4)), (1, vI (0 : Int32)), (0, vR 6 (some v0))]) C dX6_numberTaken_21 rfl (by decide) rfl ?_
    refine V_sub (lv' := [(0, vR 6 (some v0)), (1, vI (0 : Int32)), (2, vI (hI h v0 4))]) [2, 1, 0] rfl ?_
    exact p_X6_numberTaken_22 C hQ N _ _ _ hf
  · have hf := i_f c6 hf
    refine V_iconst (v := (-1 : Int32)) C dX6_numberTaken_13 (by decide) ?_
    have hf := Option.some.inj hf
    subst hf
    exact V_iret C hQ dX6_numberTaken_14
theorem ct_X6_numberTaken {r : Int32} {N : Nat} {h : Hp} {v0 : Nat} (hf : f_X6_numberTaken N h v0 = some r) (l : Launch) (G : GT) : MC l G yX6_numberTaken cX6_numberTaken 3 (some .int) rmX6_numberTaken h [vR 6 (some v0)] (some (vI r)) h := MC_of (by decide) rfl (Nat.le_of_ble_eq_true rfl) rfl (fun X C hQ hin => p_X6_numberTaken C hQ hf)
abbrev rmX6_takeSign : Room := { frames := 0, cells := 0, slots := 0, locals := 0 }
def f_X6_takeSign_92 (h : Hp) (v0 : Nat) (s1_ : Int32) (s0_ : Nat) : Option (Hp) := lt (sI h s0_ 2 s1_) (fun h1 => lt (sI h1 v0 5 ((hI h1 v0 5) + (1 : Int32))) (fun h2 => some h2))
set_option maxHeartbeats 4000000 in
set_option maxRecDepth 100000 in
theorem p_X6_takeSign_92 {X : XT} {h' : Hp} (C : CX X cX6_takeSign "WaterStair$Tape" 3 none rmX6_takeSign) (hQ : QX X none h' rmX6_takeSign.cells rmX6_takeSign.slots)  {h : Hp} {v0 : Nat} {s1_ : Int32} {s0_ : Nat} (hf : f_X6_takeSign_92 h v0 s1_ s0_ = some h') : V X 0 0 h 92 [(0, vR 6 (some v0))] [vI s1_, vR 6 (some s0_)] := by
  unfold f_X6_takeSign_92 at hf
  obtain ⟨h1, eh1, hf⟩ := o_l hf
  refine V_putI C nf_X6_19 rfl (okI_int _) dX6_takeSign_92 (V_eqH eh1 ?_)
  refine V_aload_n C dX6_takeSign_95 rfl 0 rfl ?_
  refine V_dup C dX6_takeSign_96 rfl ?_
  refine V_getI C fl_X6_28 rfl dX6_takeSign_97 ?_
  refine V_iconst (v := (1 : Int32)) C dX6_takeSign_100 (by decide) ?_
  refine V_iadd C dX6_takeSign_101 ?_
  obtain ⟨h2, eh2, hf⟩ := o_l hf
  refine V_putI C nf_X6_28 rfl (okI_int _) dX6_takeSign_102 (V_eqH eh2 ?_)
  have hf := Option.some.inj hf
  subst hf
  exact V_vret C hQ dX6_takeSign_105
def f_X6_takeSign_76 (h : Hp) (v0 : Nat) (v1 : Int32) : Option (Hp) := if v1 = (60 : Int32) then (f_X6_takeSign_92 h v0 (259 : Int32) v0) else (f_X6_takeSign_92 h v0 (260 : Int32) v0)
set_option maxHeartbeats 4000000 in
set_option maxRecDepth 100000 in
theorem p_X6_takeSign_76 {X : XT} {h' : Hp} (C : CX X cX6_takeSign "WaterStair$Tape" 3 none rmX6_takeSign) (hQ : QX X none h' rmX6_takeSign.cells rmX6_takeSign.slots)  {h : Hp} {v0 : Nat} {v1 : Int32} (hf : f_X6_takeSign_76 h v0 v1 = some h') : V X 0 0 h 76 [(0, vR 6 (some v0)), (1, vI v1)] [] := by
  unfold f_X6_takeSign_76 at hf
  refine V_aload_n C dX6_takeSign_76 rfl 0 rfl ?_
  refine V_iload_n C dX6_takeSign_77 rfl 1 rfl ?_
  refine V_bipush (v := (60 : Int32)) C dX6_takeSign_78 (by decide) ?_
  refine V_icmp_ne C 89 dX6_takeSign_80 (by decide) (fun c3 => ?_) (fun c3 => ?_)
  · have hf := i_f c3 hf
    refine V_sipush (v := (260 : Int32)) C dX6_takeSign_89 (by decide) ?_
    refine V_sub (lv' := [(0, vR 6 (some v0))]) [0] rfl ?_
    exact p_X6_takeSign_92 C hQ hf
  · have hf := i_t c3 hf
    refine V_sipush (v := (259 : Int32)) C dX6_takeSign_83 (by decide) ?_
    refine V_goto C 92 dX6_takeSign_86 (by decide) ?_
    refine V_sub (lv' := [(0, vR 6 (some v0))]) [0] rfl ?_
    exact p_X6_takeSign_92 C hQ hf
def f_X6_takeSign_59 (h : Hp) (v0 : Nat) (v1 : Int32) (s0_ : Int32) : Option (Hp) := if s0_ = 0 then (some h) else (if v1 = (60 : Int32) then (f_X6_takeSign_76 h v0 v1) else (if v1 = (62 : Int32) then (f_X6_takeSign_76 h v0 v1) else (some h)))
set_option maxHeartbeats 4000000 in
set_option maxRecDepth 100000 in
theorem p_X6_takeSign_59 {X : XT} {h' : Hp} (C : CX X cX6_takeSign "WaterStair$Tape" 3 none rmX6_takeSign) (hQ : QX X none h' rmX6_takeSign.cells rmX6_takeSign.slots)  {h : Hp} {v0 : Nat} {v1 : Int32} {s0_ : Int32} (hf : f_X6_takeSign_59 h v0 v1 s0_ = some h') : V X 0 0 h 59 [(0, vR 6 (some v0)), (1, vI v1)] [vI s0_] := by
  unfold f_X6_takeSign_59 at hf
  refine V_istore_n (lv' := [(2, vI s0_), (0, vR 6 (some v0)), (1, vI v1)]) C dX6_takeSign_59 rfl (by decide) rfl ?_
  refine V_iload_n C dX6_takeSign_60 rfl 0 rfl ?_
  refine V_if_eq C 105 dX6_takeSign_61 (by decide) (fun c4 => ?_) (fun c4 => ?_)
  · have hf := i_t c4 hf
    have hf := Option.some.inj hf
    subst hf
    exact V_vret C hQ dX6_takeSign_105
  · have hf := i_f c4 hf
    refine V_iload_n C dX6_takeSign_64 rfl 2 rfl ?_
    refine V_bipush (v := (60 : Int32)) C dX6_takeSign_65 (by decide) ?_
    refine V_icmp_eq C 76 dX6_takeSign_67 (by decide) (fun c5 => ?_) (fun c5 => ?_)
    · have hf := i_t c5 hf
      refine V_sub (lv' := [(0, vR 6 (some v0)), (1, vI v1)]) [1, 2] rfl ?_
      exact p_X6_takeSign_76 C hQ hf
    · have hf := i_f c5 hf
      refine V_iload_n C dX6_takeSign_70 rfl 2 rfl ?_
      refine V_bipush (v := (62 : Int32)) C dX6_takeSign_71 (by decide) ?_
      refine V_icmp_ne C 105 dX6_takeSign_73 (by decide) (fun c6 => ?_) (fun c6 => ?_)
      · have hf := i_f c6 hf
        have hf := Option.some.inj hf
        subst hf
        exact V_vret C hQ dX6_takeSign_105
      · have hf := i_t c6 hf
        refine V_sub (lv' := [(0, vR 6 (some v0)), (1, vI v1)]) [1, 2] rfl ?_
        exact p_X6_takeSign_76 C hQ hf
def f_X6_takeSign_58 (h : Hp) (v0 : Nat) (v1 : Int32) : Option (Hp) := f_X6_takeSign_59 h v0 v1 (0 : Int32)
set_option maxHeartbeats 4000000 in
set_option maxRecDepth 100000 in
theorem p_X6_takeSign_58 {X : XT} {h' : Hp} (C : CX X cX6_takeSign "WaterStair$Tape" 3 none rmX6_takeSign) (hQ : QX X none h' rmX6_takeSign.cells rmX6_takeSign.slots)  {h : Hp} {v0 : Nat} {v1 : Int32} (hf : f_X6_takeSign_58 h v0 v1 = some h') : V X 0 0 h 58 [(0, vR 6 (some v0)), (1, vI v1)] [] := by
  unfold f_X6_takeSign_58 at hf
  refine V_iconst (v := (0 : Int32)) C dX6_takeSign_58 (by decide) ?_
  refine V_sub (lv' := [(0, vR 6 (some v0)), (1, vI v1)]) [0, 1] rfl ?_
  exact p_X6_takeSign_59 C hQ hf
def f_X6_takeSign (h : Hp) (v0 : Nat) (v1 : Int32) : Option (Hp) := lt (sI h v0 2 (v1 &&& (255 : Int32))) (fun h7 => lt (sI h7 v0 5 ((hI h7 v0 4) + (1 : Int32))) (fun h8 => if (hI h8 v0 1) ≤ (hI h8 v0 5) then (f_X6_takeSign_58 h8 v0 v1) else (if (400 : Int32) ≤ (hI h8 v0 5) then (f_X6_takeSign_58 h8 v0 v1) else (Option.bind (hP h8 v0 0) (fun q11 => if 0 ≤ hI h8 v0 5 ∧ (hI h8 v0 5).toNatClampNeg < hL h8 q11 then (if (hI h8 q11 ((hI h8 v0 5).toNatClampNeg)) = (61 : Int32) then (f_X6_takeSign_59 h8 v0 v1 (1 : Int32)) else (f_X6_takeSign_58 h8 v0 v1)) else none)))))
set_option maxHeartbeats 4000000 in
set_option maxRecDepth 100000 in
theorem p_X6_takeSign {X : XT} {h' : Hp} (C : CX X cX6_takeSign "WaterStair$Tape" 3 none rmX6_takeSign) {h : Hp} {v0 : Nat} {v1 : Int32} (hQ : QX X none h' rmX6_takeSign.cells rmX6_takeSign.slots) (hf : f_X6_takeSign h v0 v1 = some h') : V X 0 0 h 0 [(0, vR 6 (some v0)), (1, vI v1)] [] := by
  unfold f_X6_takeSign at hf
  refine V_aload_n C dX6_takeSign_0 rfl 0 rfl ?_
  refine V_iload_n C dX6_takeSign_1 rfl 1 rfl ?_
  refine V_sipush (v := (255 : Int32)) C dX6_takeSign_2 (by decide) ?_
  refine V_iand C dX6_takeSign_5 ?_
  obtain ⟨h7, eh7, hf⟩ := o_l hf
  refine V_putI C nf_X6_19 rfl (okI_int _) dX6_takeSign_6 (V_eqH eh7 ?_)
  refine V_aload_n C dX6_takeSign_9 rfl 0 rfl ?_
  refine V_aload_n C dX6_takeSign_10 rfl 0 rfl ?_
  refine V_getI C fl_X6_25 rfl dX6_takeSign_11 ?_
  refine V_iconst (v := (1 : Int32)) C dX6_takeSign_14 (by decide) ?_
  refine V_iadd C dX6_takeSign_15 ?_
  obtain ⟨h8, eh8, hf⟩ := o_l hf
  refine V_putI C nf_X6_28 rfl (okI_int _) dX6_takeSign_16 (V_eqH eh8 ?_)
  refine V_aload_n C dX6_takeSign_19 rfl 0 rfl ?_
  refine V_getI C fl_X6_28 rfl dX6_takeSign_20 ?_
  refine V_aload_n C dX6_takeSign_23 rfl 0 rfl ?_
  refine V_getI C fl_X6_15 rfl dX6_takeSign_24 ?_
  refine V_icmp_ge C 58 dX6_takeSign_27 (by decide) (fun c9 => ?_) (fun c9 => ?_)
  · have hf := i_t c9 hf
    refine V_sub (lv' := [(0, vR 6 (some v0)), (1, vI v1)]) [0, 1] rfl ?_
    exact p_X6_takeSign_58 C hQ hf
  · have hf := i_f c9 hf
    refine V_aload_n C dX6_takeSign_30 rfl 0 rfl ?_
    refine V_getI C fl_X6_28 rfl dX6_takeSign_31 ?_
    refine V_sipush (v := (400 : Int32)) C dX6_takeSign_34 (by decide) ?_
    refine V_icmp_ge C 58 dX6_takeSign_37 (by decide) (fun c10 => ?_) (fun c10 => ?_)
    · have hf := i_t c10 hf
      refine V_sub (lv' := [(0, vR 6 (some v0)), (1, vI v1)]) [0, 1] rfl ?_
      exact p_X6_takeSign_58 C hQ hf
    · have hf := i_f c10 hf
      refine V_aload_n C dX6_takeSign_40 rfl 0 rfl ?_
      obtain ⟨q11, eq11, hf⟩ := o_b hf
      refine V_getR C fl_X6_9 rfl rfl (by decide) eq11 dX6_takeSign_41 ?_
      refine V_aload_n C dX6_takeSign_44 rfl 0 rfl ?_
      refine V_getI C fl_X6_28 rfl dX6_takeSign_45 ?_
      obtain ⟨g12, hf⟩ := o_if hf
      refine V_bald C (vp_g g12) rfl dX6_takeSign_48 ?_
      refine V_bipush (v := (61 : Int32)) C dX6_takeSign_49 (by decide) ?_
      refine V_icmp_ne C 58 dX6_takeSign_51 (by decide) (fun c13 => ?_) (fun c13 => ?_)
      · have hf := i_f c13 hf
        refine V_sub (lv' := [(0, vR 6 (some v0)), (1, vI v1)]) [0, 1] rfl ?_
        exact p_X6_takeSign_58 C hQ hf
      · have hf := i_t c13 hf
        refine V_iconst (v := (1 : Int32)) C dX6_takeSign_54 (by decide) ?_
        refine V_goto C 59 dX6_takeSign_55 (by decide) ?_
        refine V_sub (lv' := [(0, vR 6 (some v0)), (1, vI v1)]) [0, 1] rfl ?_
        exact p_X6_takeSign_59 C hQ hf
theorem ct_X6_takeSign {h' : Hp} {h : Hp} {v0 : Nat} {v1 : Int32} (hf : f_X6_takeSign h v0 v1 = some h') (l : Launch) (G : GT) : MC l G yX6_takeSign cX6_takeSign 3 none rmX6_takeSign h [vR 6 (some v0), vI v1] none h' := MC_of (by decide) rfl (Nat.le_of_ble_eq_true rfl) rfl (fun X C hQ hin => p_X6_takeSign C hQ hf)
abbrev rmX6_advance : Room := { frames := 1, cells := 0, slots := 0, locals := 22 }
def f_X6_advance_93 (N : Nat) (h : Hp) (v0 : Nat) : Option (Hp) := lt (sI h v0 2 (256 : Int32)) (fun h1 => some h1)
set_option maxHeartbeats 4000000 in
set_option maxRecDepth 100000 in
theorem p_X6_advance_93 {X : XT} {h' : Hp} (C : CX X cX6_advance "WaterStair$Tape" 1 none rmX6_advance) (hQ : QX X none h' rmX6_advance.cells rmX6_advance.slots) {N : Nat}  {h : Hp} {v0 : Nat} (hf : f_X6_advance_93 N h v0 = some h') : V X 0 0 h 93 [(0, vR 6 (some v0))] [] := by
  unfold f_X6_advance_93 at hf
  refine V_aload_n C dX6_advance_93 rfl 0 rfl ?_
  refine V_sipush (v := (256 : Int32)) C dX6_advance_94 (by decide) ?_
  obtain ⟨h1, eh1, hf⟩ := o_l hf
  refine V_putI C nf_X6_19 rfl (okI_int _) dX6_advance_97 (V_eqH eh1 ?_)
  refine V_goto C 166 dX6_advance_100 (by decide) ?_
  have hf := Option.some.inj hf
  subst hf
  exact V_vret C hQ dX6_advance_166
def f_X6_advance_64 (N : Nat) (h : Hp) (v0 : Nat) : Option (Hp) := lt (sI h v0 5 (hI h v0 4)) (fun h2 => if (hI h2 v0 1) ≤ (hI h2 v0 4) then (f_X6_advance_93 N h2 v0) else (if (hI h2 v0 4) < (400 : Int32) then (b2 (f_X6_hasTaken N h2 v0 (48 : Int32) (57 : Int32)) (fun r5 h6 => if r5 = 0 then (b2 (f_X6_hasTaken N h6 v0 (97 : Int32) (122 : Int32)) (fun r8 h9 => if r8 = 0 then (Option.bind (hP h9 v0 0) (fun q11 => if 0 ≤ hI h9 v0 4 ∧ (hI h9 v0 4).toNatClampNeg < hL h9 q11 then (Option.bind (f_X6_takeSign h9 v0 (hI h9 q11 ((hI h9 v0 4).toNatClampNeg))) (fun h13 => some h13)) else none)) else (lt (sI h9 v0 2 (258 : Int32)) (fun h14 => some h14)))) else (lt (sI h6 v0 2 (257 : Int32)) (fun h15 => Option.bind (f_X6_numberTaken N h15 v0) (fun r16 => lt (sI h15 v0 3 r16) (fun h17 => some h17)))))) else (f_X6_advance_93 N h2 v0)))
set_option maxHeartbeats 4000000 in
set_option maxRecDepth 100000 in
theorem p_X6_advance_64 {X : XT} {h' : Hp} (C : CX X cX6_advance "WaterStair$Tape" 1 none rmX6_advance) (hQ : QX X none h' rmX6_advance.cells rmX6_advance.slots) {N : Nat}  {h : Hp} {v0 : Nat} (hf : f_X6_advance_64 N h v0 = some h') : V X 0 0 h 64 [(0, vR 6 (some v0))] [] := by
  unfold f_X6_advance_64 at hf
  refine V_aload_n C dX6_advance_64 rfl 0 rfl ?_
  refine V_aload_n C dX6_advance_65 rfl 0 rfl ?_
  refine V_getI C fl_X6_25 rfl dX6_advance_66 ?_
  obtain ⟨h2, eh2, hf⟩ := o_l hf
  refine V_putI C nf_X6_28 rfl (okI_int _) dX6_advance_69 (V_eqH eh2 ?_)
  refine V_aload_n C dX6_advance_72 rfl 0 rfl ?_
  refine V_getI C fl_X6_25 rfl dX6_advance_73 ?_
  refine V_aload_n C dX6_advance_76 rfl 0 rfl ?_
  refine V_getI C fl_X6_15 rfl dX6_advance_77 ?_
  refine V_icmp_ge C 93 dX6_advance_80 (by decide) (fun c3 => ?_) (fun c3 => ?_)
  · have hf := i_t c3 hf
    refine V_sub (lv' := [(0, vR 6 (some v0))]) [0] rfl ?_
    exact p_X6_advance_93 C hQ hf
  · have hf := i_f c3 hf
    refine V_aload_n C dX6_advance_83 rfl 0 rfl ?_
    refine V_getI C fl_X6_25 rfl dX6_advance_84 ?_
    refine V_sipush (v := (400 : Int32)) C dX6_advance_87 (by decide) ?_
    refine V_icmp_lt C 103 dX6_advance_90 (by decide) (fun c4 => ?_) (fun c4 => ?_)
    · have hf := i_t c4 hf
      refine V_aload_n C dX6_advance_103 rfl 0 rfl ?_
      refine V_bipush (v := (48 : Int32)) C dX6_advance_104 (by decide) ?_
      refine V_bipush (v := (57 : Int32)) C dX6_advance_106 (by decide) ?_
      obtain ⟨r5, h6, er5, hf⟩ := o_b2 hf
      refine V_callV (as := [vI (48 : Int32), vI (57 : Int32)]) (st := []) C ml_X6_37 fx6 (ct_X6_hasTaken er5) rfl ⟨by decide, by decide, by decide, by decide⟩ (Nat.le_of_ble_eq_true rfl) rfl dX6_advance_108 (cs' := 0) (sl' := 0) rfl rfl ?_
      refine V_if_eq C 132 dX6_advance_111 (by decide) (fun c7 => ?_) (fun c7 => ?_)
      · have hf := i_t c7 hf
        refine V_aload_n C dX6_advance_132 rfl 0 rfl ?_
        refine V_bipush (v := (97 : Int32)) C dX6_advance_133 (by decide) ?_
        refine V_bipush (v := (122 : Int32)) C dX6_advance_135 (by decide) ?_
        obtain ⟨r8, h9, er8, hf⟩ := o_b2 hf
        refine V_callV (as := [vI (97 : Int32), vI (122 : Int32)]) (st := []) C ml_X6_37 fx6 (ct_X6_hasTaken er8) rfl ⟨by decide, by decide, by decide, by decide⟩ (Nat.le_of_ble_eq_true rfl) rfl dX6_advance_137 (cs' := 0) (sl' := 0) rfl rfl ?_
        refine V_if_eq C 153 dX6_advance_140 (by decide) (fun c10 => ?_) (fun c10 => ?_)
        · have hf := i_t c10 hf
          refine V_aload_n C dX6_advance_153 rfl 0 rfl ?_
          refine V_aload_n C dX6_advance_154 rfl 0 rfl ?_
          obtain ⟨q11, eq11, hf⟩ := o_b hf
          refine V_getR C fl_X6_9 rfl rfl (by decide) eq11 dX6_advance_155 ?_
          refine V_aload_n C dX6_advance_158 rfl 0 rfl ?_
          refine V_getI C fl_X6_25 rfl dX6_advance_159 ?_
          obtain ⟨g12, hf⟩ := o_if hf
          refine V_bald C (vp_g g12) rfl dX6_advance_162 ?_
          obtain ⟨h13, eh13, hf⟩ := o_b hf
          refine V_callV (as := [vI (hI h9 q11 ((hI h9 v0 4).toNatClampNeg))]) (st := []) C ml_X6_45 fx6 (ct_X6_takeSign eh13) rfl ⟨by decide, by decide, by decide, by decide⟩ (Nat.le_of_ble_eq_true rfl) rfl dX6_advance_163 (cs' := 0) (sl' := 0) rfl rfl ?_
          have hf := Option.some.inj hf
          subst hf
          exact V_vret C hQ dX6_advance_166
        · have hf := i_f c10 hf
          refine V_aload_n C dX6_advance_143 rfl 0 rfl ?_
          refine V_sipush (v := (258 : Int32)) C dX6_advance_144 (by decide) ?_
          obtain ⟨h14, eh14, hf⟩ := o_l hf
          refine V_putI C nf_X6_19 rfl (okI_int _) dX6_advance_147 (V_eqH eh14 ?_)
          refine V_goto C 166 dX6_advance_150 (by decide) ?_
          have hf := Option.some.inj hf
          subst hf
          exact V_vret C hQ dX6_advance_166
      · have hf := i_f c7 hf
        refine V_aload_n C dX6_advance_114 rfl 0 rfl ?_
        refine V_sipush (v := (257 : Int32)) C dX6_advance_115 (by decide) ?_
        obtain ⟨h15, eh15, hf⟩ := o_l hf
        refine V_putI C nf_X6_19 rfl (okI_int _) dX6_advance_118 (V_eqH eh15 ?_)
        refine V_aload_n C dX6_advance_121 rfl 0 rfl ?_
        refine V_aload_n C dX6_advance_122 rfl 0 rfl ?_
        obtain ⟨r16, er16, hf⟩ := o_b hf
        refine V_callV (as := []) (st := [vR 6 (some v0)]) C ml_X6_41 fx6 (ct_X6_numberTaken er16) rfl ⟨by decide, by decide, by decide, by decide⟩ (Nat.le_of_ble_eq_true rfl) rfl dX6_advance_123 (cs' := 0) (sl' := 0) rfl rfl ?_
        obtain ⟨h17, eh17, hf⟩ := o_l hf
        refine V_putI C nf_X6_22 rfl (okI_int _) dX6_advance_126 (V_eqH eh17 ?_)
        refine V_goto C 166 dX6_advance_129 (by decide) ?_
        have hf := Option.some.inj hf
        subst hf
        exact V_vret C hQ dX6_advance_166
    · have hf := i_f c4 hf
      refine V_sub (lv' := [(0, vR 6 (some v0))]) [0] rfl ?_
      exact p_X6_advance_93 C hQ hf
def f_X6_advance_16 (N : Nat) : Nat → Hp → Nat → Option (Hp)
  | 0, _, _ => none
  | n + 1, h, v0 => if (hI h v0 1) ≤ (hI h v0 4) then (f_X6_advance_64 N h v0) else (if (400 : Int32) ≤ (hI h v0 4) then (f_X6_advance_64 N h v0) else (Option.bind (hP h v0 0) (fun q20 => if 0 ≤ hI h v0 4 ∧ (hI h v0 4).toNatClampNeg < hL h q20 then (if (hI h q20 ((hI h v0 4).toNatClampNeg)) = (32 : Int32) then (lt (sI h v0 4 ((hI h v0 4) + (1 : Int32))) (fun h23 => f_X6_advance_16 N n h23 v0)) else (f_X6_advance_64 N h v0)) else none)))
set_option maxHeartbeats 4000000 in
set_option maxRecDepth 100000 in
theorem p_X6_advance_16 {X : XT} {h' : Hp} (C : CX X cX6_advance "WaterStair$Tape" 1 none rmX6_advance) (hQ : QX X none h' rmX6_advance.cells rmX6_advance.slots) {N : Nat}  : ∀ (n : Nat) (h : Hp) (v0 : Nat), f_X6_advance_16 N n h v0 = some h' → V X 0 0 h 16 [(0, vR 6 (some v0))] [] := by
  intro n
  induction n with
  | zero =>
    intro h v0 hf
    have hf : (none : Option (Hp)) = some _ := hf
    cases hf
  | succ n ih =>
    intro h v0 hf
    rw [f_X6_advance_16] at hf
    refine V_aload_n C dX6_advance_16 rfl 0 rfl ?_
    refine V_getI C fl_X6_25 rfl dX6_advance_17 ?_
    refine V_aload_n C dX6_advance_20 rfl 0 rfl ?_
    refine V_getI C fl_X6_15 rfl dX6_advance_21 ?_
    refine V_icmp_ge C 64 dX6_advance_24 (by decide) (fun c18 => ?_) (fun c18 => ?_)
    · have hf := i_t c18 hf
      refine V_sub (lv' := [(0, vR 6 (some v0))]) [0] rfl ?_
      exact p_X6_advance_64 C hQ hf
    · have hf := i_f c18 hf
      refine V_aload_n C dX6_advance_27 rfl 0 rfl ?_
      refine V_getI C fl_X6_25 rfl dX6_advance_28 ?_
      refine V_sipush (v := (400 : Int32)) C dX6_advance_31 (by decide) ?_
      refine V_icmp_ge C 64 dX6_advance_34 (by decide) (fun c19 => ?_) (fun c19 => ?_)
      · have hf := i_t c19 hf
        refine V_sub (lv' := [(0, vR 6 (some v0))]) [0] rfl ?_
        exact p_X6_advance_64 C hQ hf
      · have hf := i_f c19 hf
        refine V_aload_n C dX6_advance_37 rfl 0 rfl ?_
        obtain ⟨q20, eq20, hf⟩ := o_b hf
        refine V_getR C fl_X6_9 rfl rfl (by decide) eq20 dX6_advance_38 ?_
        refine V_aload_n C dX6_advance_41 rfl 0 rfl ?_
        refine V_getI C fl_X6_25 rfl dX6_advance_42 ?_
        obtain ⟨g21, hf⟩ := o_if hf
        refine V_bald C (vp_g g21) rfl dX6_advance_45 ?_
        refine V_bipush (v := (32 : Int32)) C dX6_advance_46 (by decide) ?_
        refine V_icmp_ne C 64 dX6_advance_48 (by decide) (fun c22 => ?_) (fun c22 => ?_)
        · have hf := i_f c22 hf
          refine V_sub (lv' := [(0, vR 6 (some v0))]) [0] rfl ?_
          exact p_X6_advance_64 C hQ hf
        · have hf := i_t c22 hf
          refine V_aload_n C dX6_advance_51 rfl 0 rfl ?_
          refine V_dup C dX6_advance_52 rfl ?_
          refine V_getI C fl_X6_25 rfl dX6_advance_53 ?_
          refine V_iconst (v := (1 : Int32)) C dX6_advance_56 (by decide) ?_
          refine V_iadd C dX6_advance_57 ?_
          obtain ⟨h23, eh23, hf⟩ := o_l hf
          refine V_putI C nf_X6_25 rfl (okI_int _) dX6_advance_58 (V_eqH eh23 ?_)
          refine V_goto C 16 dX6_advance_61 (by decide) ?_
          refine V_sub (lv' := [(0, vR 6 (some v0))]) [0] rfl ?_
          exact ih _ _ hf
def f_X6_advance (N : Nat) (h : Hp) (v0 : Nat) : Option (Hp) := if hI h v0 6 = 0 then (lt (sI h v0 4 (hI h v0 5)) (fun h25 => f_X6_advance_16 N N h25 v0)) else (some h)
set_option maxHeartbeats 4000000 in
set_option maxRecDepth 100000 in
theorem p_X6_advance {X : XT} {h' : Hp} (C : CX X cX6_advance "WaterStair$Tape" 1 none rmX6_advance) {N : Nat} {h : Hp} {v0 : Nat} (hQ : QX X none h' rmX6_advance.cells rmX6_advance.slots) (hf : f_X6_advance N h v0 = some h') : V X 0 0 h 0 [(0, vR 6 (some v0))] [] := by
  unfold f_X6_advance at hf
  refine V_aload_n C dX6_advance_0 rfl 0 rfl ?_
  refine V_getI C fl_X6_31 rfl dX6_advance_1 ?_
  refine V_if_eq C 8 dX6_advance_4 (by decide) (fun c24 => ?_) (fun c24 => ?_)
  · have hf := i_t c24 hf
    refine V_aload_n C dX6_advance_8 rfl 0 rfl ?_
    refine V_aload_n C dX6_advance_9 rfl 0 rfl ?_
    refine V_getI C fl_X6_28 rfl dX6_advance_10 ?_
    obtain ⟨h25, eh25, hf⟩ := o_l hf
    refine V_putI C nf_X6_25 rfl (okI_int _) dX6_advance_13 (V_eqH eh25 ?_)
    refine V_sub (lv' := [(0, vR 6 (some v0))]) [0] rfl ?_
    exact p_X6_advance_16 C hQ N _ _ hf
  · have hf := i_f c24 hf
    have hf := Option.some.inj hf
    subst hf
    exact V_vret C hQ dX6_advance_7
theorem ct_X6_advance {h' : Hp} {N : Nat} {h : Hp} {v0 : Nat} (hf : f_X6_advance N h v0 = some h') (l : Launch) (G : GT) : MC l G yX6_advance cX6_advance 1 none rmX6_advance h [vR 6 (some v0)] none h' := MC_of (by decide) rfl (Nat.le_of_ble_eq_true rfl) rfl (fun X C hQ hin => p_X6_advance C hQ hf)
abbrev rmJ0_isLatin1_aae02 : Room := { frames := 0, cells := 0, slots := 0, locals := 0 }
def f_J0_isLatin1_aae02 (h : Hp) (v0 : Nat) : Option (Int32) := if (1 : Int32) = 0 then (some (0 : Int32)) else (if (0 : Int32) = 0 then (some (1 : Int32)) else (some (0 : Int32)))
set_option maxHeartbeats 4000000 in
set_option maxRecDepth 100000 in
theorem p_J0_isLatin1_aae02 {X : XT} {r : Int32} (C : CX X cJ0_isLatin1_aae02 "java/lang/String" 1 (some .boolean) rmJ0_isLatin1_aae02) {h : Hp} {v0 : Nat} (hQ : QX X (some (vI r)) h rmJ0_isLatin1_aae02.cells rmJ0_isLatin1_aae02.slots) (hf : f_J0_isLatin1_aae02 h v0 = some r) : V X 0 0 h 0 [(0, vR 16 (some v0))] [] := by
  unfold f_J0_isLatin1_aae02 at hf
  refine V_gets1 C fs_J0_38 dJ0_isLatin1_aae02_0 ?_
  refine V_if_eq C 17 dJ0_isLatin1_aae02_3 (by decide) (fun c1 => ?_) (fun c1 => ?_)
  · have hf := i_t c1 hf
    refine V_iconst (v := (0 : Int32)) C dJ0_isLatin1_aae02_17 (by decide) ?_
    have hf := Option.some.inj hf
    subst hf
    exact V_zret C (by decide) hQ dJ0_isLatin1_aae02_18
  · have hf := i_f c1 hf
    refine V_aload_n C dJ0_isLatin1_aae02_6 rfl 0 rfl ?_
    refine V_strcoder C fs_J0_15 dJ0_isLatin1_aae02_7 ?_
    refine V_if_ne C 17 dJ0_isLatin1_aae02_10 (by decide) (fun c2 => ?_) (fun c2 => ?_)
    · have hf := i_f c2 hf
      refine V_iconst (v := (0 : Int32)) C dJ0_isLatin1_aae02_17 (by decide) ?_
      have hf := Option.some.inj hf
      subst hf
      exact V_zret C (by decide) hQ dJ0_isLatin1_aae02_18
    · have hf := i_t c2 hf
      refine V_iconst (v := (1 : Int32)) C dJ0_isLatin1_aae02_13 (by decide) ?_
      refine V_goto C 18 dJ0_isLatin1_aae02_14 (by decide) ?_
      have hf := Option.some.inj hf
      subst hf
      exact V_zret C (by decide) hQ dJ0_isLatin1_aae02_18
theorem ct_J0_isLatin1_aae02 {r : Int32} {h : Hp} {v0 : Nat} (hf : f_J0_isLatin1_aae02 h v0 = some r) (l : Launch) (G : GT) : MC l G yJ0_isLatin1_aae02 cJ0_isLatin1_aae02 1 (some .boolean) rmJ0_isLatin1_aae02 h [vR 16 (some v0)] (some (vI r)) h := MC_of (by decide) rfl (Nat.le_of_ble_eq_true rfl) rfl (fun X C hQ hin => p_J0_isLatin1_aae02 C hQ hf)
abbrev rmJ3_checkIndex_8e157 : Room := { frames := 0, cells := 0, slots := 0, locals := 0 }
def f_J3_checkIndex_8e157_9 (h : Hp) (v0 : Int32) (v1 : Int32) (v2 : Nat) : Option (Int32) := none
set_option maxHeartbeats 4000000 in
set_option maxRecDepth 100000 in
theorem p_J3_checkIndex_8e157_9 {X : XT} {r : Int32} {h : Hp} (C : CX X cJ3_checkIndex_8e157 "jdk/internal/util/Preconditions" 3 (some .int) rmJ3_checkIndex_8e157) (hQ : QX X (some (vI r)) h rmJ3_checkIndex_8e157.cells rmJ3_checkIndex_8e157.slots)   {v0 : Int32} {v1 : Int32} {v2 : Nat} (hf : f_J3_checkIndex_8e157_9 h v0 v1 v2 = some r) : V X 0 0 h 9 [(0, vI v0), (1, vI v1), (2, vR 18 (some v2))] [] := by
  unfold f_J3_checkIndex_8e157_9 at hf
  cases hf
def f_J3_checkIndex_8e157 (h : Hp) (v0 : Int32) (v1 : Int32) (v2 : Nat) : Option (Int32) := if v0 < 0 then (f_J3_checkIndex_8e157_9 h v0 v1 v2) else (if v0 < v1 then (some v0) else (f_J3_checkIndex_8e157_9 h v0 v1 v2))
set_option maxHeartbeats 4000000 in
set_option maxRecDepth 100000 in
theorem p_J3_checkIndex_8e157 {X : XT} {r : Int32} (C : CX X cJ3_checkIndex_8e157 "jdk/internal/util/Preconditions" 3 (some .int) rmJ3_checkIndex_8e157) {h : Hp} {v0 : Int32} {v1 : Int32} {v2 : Nat} (hQ : QX X (some (vI r)) h rmJ3_checkIndex_8e157.cells rmJ3_checkIndex_8e157.slots) (hf : f_J3_checkIndex_8e157 h v0 v1 v2 = some r) : V X 0 0 h 0 [(0, vI v0), (1, vI v1), (2, vR 18 (some v2))] [] := by
  unfold f_J3_checkIndex_8e157 at hf
  refine V_iload_n C dJ3_checkIndex_8e157_0 rfl 0 rfl ?_
  refine V_if_lt C 9 dJ3_checkIndex_8e157_1 (by decide) (fun c1 => ?_) (fun c1 => ?_)
  · have hf := i_t c1 hf
    refine V_sub (lv' := [(0, vI v0), (1, vI v1), (2, vR 18 (some v2))]) [0, 1, 2] rfl ?_
    exact p_J3_checkIndex_8e157_9 C hQ hf
  · have hf := i_f c1 hf
    refine V_iload_n C dJ3_checkIndex_8e157_4 rfl 0 rfl ?_
    refine V_iload_n C dJ3_checkIndex_8e157_5 rfl 1 rfl ?_
    refine V_icmp_lt C 16 dJ3_checkIndex_8e157_6 (by decide) (fun c2 => ?_) (fun c2 => ?_)
    · have hf := i_t c2 hf
      refine V_iload_n C dJ3_checkIndex_8e157_16 rfl 0 rfl ?_
      have hf := Option.some.inj hf
      subst hf
      exact V_iret C hQ dJ3_checkIndex_8e157_17
    · have hf := i_f c2 hf
      refine V_sub (lv' := [(0, vI v0), (1, vI v1), (2, vR 18 (some v2))]) [0, 1, 2] rfl ?_
      exact p_J3_checkIndex_8e157_9 C hQ hf
theorem ct_J3_checkIndex_8e157 {r : Int32} {h : Hp} {v0 : Int32} {v1 : Int32} {v2 : Nat} (hf : f_J3_checkIndex_8e157 h v0 v1 v2 = some r) (l : Launch) (G : GT) : MC l G yJ3_checkIndex_8e157 cJ3_checkIndex_8e157 3 (some .int) rmJ3_checkIndex_8e157 h [vI v0, vI v1, vR 18 (some v2)] (some (vI r)) h := MC_of (by decide) rfl (Nat.le_of_ble_eq_true rfl) rfl (fun X C hQ hin => p_J3_checkIndex_8e157 C hQ hf)
abbrev rmJ0_checkIndex_df160 : Room := { frames := 1, cells := 0, slots := 0, locals := 22 }
def f_J0_checkIndex_df160 (h : Hp) (v0 : Int32) (v1 : Int32) : Option (Unit) := Option.bind (f_J3_checkIndex_8e157 h v0 v1 (0)) (fun r1 => some (()))
set_option maxHeartbeats 4000000 in
set_option maxRecDepth 100000 in
theorem p_J0_checkIndex_df160 {X : XT}  (C : CX X cJ0_checkIndex_df160 "java/lang/String" 2 none rmJ0_checkIndex_df160) {h : Hp} {v0 : Int32} {v1 : Int32} (hQ : QX X none h rmJ0_checkIndex_df160.cells rmJ0_checkIndex_df160.slots) (hf : f_J0_checkIndex_df160 h v0 v1 = some (())) : V X 0 0 h 0 [(0, vI v0), (1, vI v1)] [] := by
  unfold f_J0_checkIndex_df160 at hf
  refine V_iload_n C dJ0_checkIndex_df160_0 rfl 0 rfl ?_
  refine V_iload_n C dJ0_checkIndex_df160_1 rfl 1 rfl ?_
  refine V_getsF C fs_J0_1053 dJ0_checkIndex_df160_2 ?_
  obtain ⟨r1, er1, hf⟩ := o_b hf
  refine V_callS (as := [vI v0, vI v1, vR 18 (some (0))]) (st := []) C ml_J0_1059 (ct_J3_checkIndex_8e157 er1) rfl ⟨by decide, by decide, by decide, by decide⟩ (Nat.le_of_ble_eq_true rfl) rfl dJ0_checkIndex_df160_5 (cs' := 0) (sl' := 0) rfl rfl ?_
  refine V_pop C dJ0_checkIndex_df160_8 rfl ?_
  exact V_vret C hQ dJ0_checkIndex_df160_9
theorem ct_J0_checkIndex_df160  {h : Hp} {v0 : Int32} {v1 : Int32} (hf : f_J0_checkIndex_df160 h v0 v1 = some (())) (l : Launch) (G : GT) : MC l G yJ0_checkIndex_df160 cJ0_checkIndex_df160 2 none rmJ0_checkIndex_df160 h [vI v0, vI v1] none h := MC_of (by decide) rfl (Nat.le_of_ble_eq_true rfl) rfl (fun X C hQ hin => p_J0_checkIndex_df160 C hQ hf)
abbrev rmJ1_charAt_3b067 : Room := { frames := 2, cells := 0, slots := 0, locals := 43 }
def f_J1_charAt_3b067 (h : Hp) (v0 : Nat) (v1 : Int32) : Option (Int32) := Option.bind (f_J0_checkIndex_df160 h v1 (nI (strL.getD v0 0))) (fun r1 => if 0 ≤ v1 ∧ v1.toNatClampNeg < strL.getD v0 0 then (if 0 ≤ ((((strB.getD v0 []).getD v1.toNatClampNeg 0) &&& (255 : Int32)).toUInt32 % 65536).toInt32 ∧ (((((strB.getD v0 []).getD v1.toNatClampNeg 0) &&& (255 : Int32)).toUInt32 % 65536).toInt32) < 65536 then (some (((((strB.getD v0 []).getD v1.toNatClampNeg 0) &&& (255 : Int32)).toUInt32 % 65536).toInt32)) else none) else none)
set_option maxHeartbeats 4000000 in
set_option maxRecDepth 100000 in
theorem p_J1_charAt_3b067 {X : XT} {r : Int32} (C : CX X cJ1_charAt_3b067 "java/lang/StringLatin1" 2 (some .char) rmJ1_charAt_3b067) {h : Hp} {v0 : Nat} {v1 : Int32} (hQ : QX X (some (vI r)) h rmJ1_charAt_3b067.cells rmJ1_charAt_3b067.slots) (hf : f_J1_charAt_3b067 h v0 v1 = some r) : V X 0 0 h 0 [(0, vR 17 (some v0)), (1, vI v1)] [] := by
  unfold f_J1_charAt_3b067 at hf
  refine V_iload_n C dJ1_charAt_3b067_0 rfl 1 rfl ?_
  refine V_aload_n C dJ1_charAt_3b067_1 rfl 0 rfl ?_
  refine V_tlen C dJ1_charAt_3b067_2 ?_
  obtain ⟨r1, er1, hf⟩ := o_b hf
  refine V_callS (as := [vI v1, vI (nI (strL.getD v0 0))]) (st := []) C ml_J1_9 (ct_J0_checkIndex_df160 er1) rfl ⟨by decide, by decide, by decide, by decide⟩ (Nat.le_of_ble_eq_true rfl) rfl dJ1_charAt_3b067_3 (cs' := 0) (sl' := 0) rfl rfl ?_
  refine V_aload_n C dJ1_charAt_3b067_6 rfl 0 rfl ?_
  refine V_iload_n C dJ1_charAt_3b067_7 rfl 1 rfl ?_
  obtain ⟨g2, hf⟩ := o_if hf
  refine V_tbld C (vp_g g2) rfl dJ1_charAt_3b067_8 ?_
  refine V_sipush (v := (255 : Int32)) C dJ1_charAt_3b067_9 (by decide) ?_
  refine V_iand C dJ1_charAt_3b067_12 ?_
  refine V_i2c C dJ1_charAt_3b067_13 ?_
  obtain ⟨g3, hf⟩ := o_if hf
  have hf := Option.some.inj hf
  subst hf
  exact V_zret C (nar_c g3) hQ dJ1_charAt_3b067_14
theorem ct_J1_charAt_3b067 {r : Int32} {h : Hp} {v0 : Nat} {v1 : Int32} (hf : f_J1_charAt_3b067 h v0 v1 = some r) (l : Launch) (G : GT) : MC l G yJ1_charAt_3b067 cJ1_charAt_3b067 2 (some .char) rmJ1_charAt_3b067 h [vR 17 (some v0), vI v1] (some (vI r)) h := MC_of (by decide) rfl (Nat.le_of_ble_eq_true rfl) rfl (fun X C hQ hin => p_J1_charAt_3b067 C hQ hf)
abbrev rmJ0_charAt_5068e : Room := { frames := 3, cells := 0, slots := 0, locals := 64 }
def f_J0_charAt_5068e (h : Hp) (v0 : Nat) (v1 : Int32) : Option (Int32) := Option.bind (f_J0_isLatin1_aae02 h v0) (fun r1 => if r1 = 0 then (none) else (Option.bind (f_J1_charAt_3b067 h v0 v1) (fun r3 => if 0 ≤ r3 ∧ r3 < 65536 then (some r3) else none)))
set_option maxHeartbeats 4000000 in
set_option maxRecDepth 100000 in
theorem p_J0_charAt_5068e {X : XT} {r : Int32} (C : CX X cJ0_charAt_5068e "java/lang/String" 2 (some .char) rmJ0_charAt_5068e) {h : Hp} {v0 : Nat} {v1 : Int32} (hQ : QX X (some (vI r)) h rmJ0_charAt_5068e.cells rmJ0_charAt_5068e.slots) (hf : f_J0_charAt_5068e h v0 v1 = some r) : V X 0 0 h 0 [(0, vR 16 (some v0)), (1, vI v1)] [] := by
  unfold f_J0_charAt_5068e at hf
  refine V_aload_n C dJ0_charAt_5068e_0 rfl 0 rfl ?_
  obtain ⟨r1, er1, hf⟩ := o_b hf
  refine V_callT (as := []) (st := []) C ml_J0_492 rfl (ct_J0_isLatin1_aae02 er1) rfl ⟨by decide, by decide, by decide, by decide⟩ (Nat.le_of_ble_eq_true rfl) rfl dJ0_charAt_5068e_1 (cs' := 0) (sl' := 0) rfl rfl ?_
  refine V_if_eq C 16 dJ0_charAt_5068e_4 (by decide) (fun c2 => ?_) (fun c2 => ?_)
  · have hf := i_t c2 hf
    cases hf
  · have hf := i_f c2 hf
    refine V_aload_n C dJ0_charAt_5068e_7 rfl 0 rfl ?_
    refine V_strval C fs_J0_9 dJ0_charAt_5068e_8 ?_
    refine V_iload_n C dJ0_charAt_5068e_11 rfl 1 rfl ?_
    obtain ⟨r3, er3, hf⟩ := o_b hf
    refine V_callS (as := [vR 17 (some v0), vI v1]) (st := []) C ml_J0_495 (ct_J1_charAt_3b067 er3) rfl ⟨by decide, by decide, by decide, by decide⟩ (Nat.le_of_ble_eq_true rfl) rfl dJ0_charAt_5068e_12 (cs' := 0) (sl' := 0) rfl rfl ?_
    obtain ⟨g4, hf⟩ := o_if hf
    have hf := Option.some.inj hf
    subst hf
    exact V_zret C (nar_c g4) hQ dJ0_charAt_5068e_15
theorem ct_J0_charAt_5068e {r : Int32} {h : Hp} {v0 : Nat} {v1 : Int32} (hf : f_J0_charAt_5068e h v0 v1 = some r) (l : Launch) (G : GT) : MC l G yJ0_charAt_5068e cJ0_charAt_5068e 2 (some .char) rmJ0_charAt_5068e h [vR 16 (some v0), vI v1] (some (vI r)) h := MC_of (by decide) rfl (Nat.le_of_ble_eq_true rfl) rfl (fun X C hQ hin => p_J0_charAt_5068e C hQ hf)
abbrev rmJ0_coder_7d493 : Room := { frames := 0, cells := 0, slots := 0, locals := 0 }
def f_J0_coder_7d493 (h : Hp) (v0 : Nat) : Option (Int32) := if (1 : Int32) = 0 then (some (1 : Int32)) else (some (0 : Int32))
set_option maxHeartbeats 4000000 in
set_option maxRecDepth 100000 in
theorem p_J0_coder_7d493 {X : XT} {r : Int32} (C : CX X cJ0_coder_7d493 "java/lang/String" 1 (some .byte) rmJ0_coder_7d493) {h : Hp} {v0 : Nat} (hQ : QX X (some (vI r)) h rmJ0_coder_7d493.cells rmJ0_coder_7d493.slots) (hf : f_J0_coder_7d493 h v0 = some r) : V X 0 0 h 0 [(0, vR 16 (some v0))] [] := by
  unfold f_J0_coder_7d493 at hf
  refine V_gets1 C fs_J0_38 dJ0_coder_7d493_0 ?_
  refine V_if_eq C 13 dJ0_coder_7d493_3 (by decide) (fun c1 => ?_) (fun c1 => ?_)
  · have hf := i_t c1 hf
    refine V_iconst (v := (1 : Int32)) C dJ0_coder_7d493_13 (by decide) ?_
    have hf := Option.some.inj hf
    subst hf
    exact V_zret C (by decide) hQ dJ0_coder_7d493_14
  · have hf := i_f c1 hf
    refine V_aload_n C dJ0_coder_7d493_6 rfl 0 rfl ?_
    refine V_strcoder C fs_J0_15 dJ0_coder_7d493_7 ?_
    refine V_goto C 14 dJ0_coder_7d493_10 (by decide) ?_
    have hf := Option.some.inj hf
    subst hf
    exact V_zret C (by decide) hQ dJ0_coder_7d493_14
theorem ct_J0_coder_7d493 {r : Int32} {h : Hp} {v0 : Nat} (hf : f_J0_coder_7d493 h v0 = some r) (l : Launch) (G : GT) : MC l G yJ0_coder_7d493 cJ0_coder_7d493 1 (some .byte) rmJ0_coder_7d493 h [vR 16 (some v0)] (some (vI r)) h := MC_of (by decide) rfl (Nat.le_of_ble_eq_true rfl) rfl (fun X C hQ hin => p_J0_coder_7d493 C hQ hf)
abbrev rmJ0_length_8abf5 : Room := { frames := 1, cells := 0, slots := 0, locals := 20 }
def f_J0_length_8abf5 (h : Hp) (v0 : Nat) : Option (Int32) := Option.bind (f_J0_coder_7d493 h v0) (fun r1 => some ((nI (strL.getD v0 0)) >>> (r1 &&& 31)))
set_option maxHeartbeats 4000000 in
set_option maxRecDepth 100000 in
theorem p_J0_length_8abf5 {X : XT} {r : Int32} (C : CX X cJ0_length_8abf5 "java/lang/String" 1 (some .int) rmJ0_length_8abf5) {h : Hp} {v0 : Nat} (hQ : QX X (some (vI r)) h rmJ0_length_8abf5.cells rmJ0_length_8abf5.slots) (hf : f_J0_length_8abf5 h v0 = some r) : V X 0 0 h 0 [(0, vR 16 (some v0))] [] := by
  unfold f_J0_length_8abf5 at hf
  refine V_aload_n C dJ0_length_8abf5_0 rfl 0 rfl ?_
  refine V_strval C fs_J0_9 dJ0_length_8abf5_1 ?_
  refine V_tlen C dJ0_length_8abf5_4 ?_
  refine V_aload_n C dJ0_length_8abf5_5 rfl 0 rfl ?_
  obtain ⟨r1, er1, hf⟩ := o_b hf
  refine V_callT (as := []) (st := [vI (nI (strL.getD v0 0))]) C ml_J0_335 rfl (ct_J0_coder_7d493 er1) rfl ⟨by decide, by decide, by decide, by decide⟩ (Nat.le_of_ble_eq_true rfl) rfl dJ0_length_8abf5_6 (cs' := 0) (sl' := 0) rfl rfl ?_
  refine V_ishr C dJ0_length_8abf5_9 ?_
  have hf := Option.some.inj hf
  subst hf
  exact V_iret C hQ dJ0_length_8abf5_10
theorem ct_J0_length_8abf5 {r : Int32} {h : Hp} {v0 : Nat} (hf : f_J0_length_8abf5 h v0 = some r) (l : Launch) (G : GT) : MC l G yJ0_length_8abf5 cJ0_length_8abf5 1 (some .int) rmJ0_length_8abf5 h [vR 16 (some v0)] (some (vI r)) h := MC_of (by decide) rfl (Nat.le_of_ble_eq_true rfl) rfl (fun X C hQ hin => p_J0_length_8abf5 C hQ hf)
abbrev rmX6_wordAmong : Room := { frames := 4, cells := 0, slots := 0, locals := 85 }
def f_X6_wordAmong_129 (N : Nat) (s10 : Hp → Nat → Nat → Int32 → Int32 → Int32 → Option (Int32)) (h : Hp) (v0 : Nat) (v1 : Nat) (v2 : Int32) (v3 : Int32) (v4 : Int32) : Option (Int32) := s10 h v0 v1 v2 v3 (v4 + (1 : Int32))
set_option maxHeartbeats 4000000 in
set_option maxRecDepth 100000 in
theorem p_X6_wordAmong_129 {X : XT} {r : Int32} {h : Hp} (C : CX X cX6_wordAmong "WaterStair$Tape" 6 (some .int) rmX6_wordAmong) (hQ : QX X (some (vI r)) h rmX6_wordAmong.cells rmX6_wordAmong.slots) {N : Nat} {s10 : Hp → Nat → Nat → Int32 → Int32 → Int32 → Option (Int32)} (S10 : ∀ (v0 : Nat) (v1 : Nat) (v2 : Int32) (v3 : Int32) (v4 : Int32), s10 h v0 v1 v2 v3 v4 = some r → V X 0 0 h 10 [(0, vR 6 (some v0)), (1, vR 16 (some v1)), (2, vI v2), (3, vI v3), (4, vI v4)] [])  {v0 : Nat} {v1 : Nat} {v2 : Int32} {v3 : Int32} {v4 : Int32} (hf : f_X6_wordAmong_129 N s10 h v0 v1 v2 v3 v4 = some r) : V X 0 0 h 129 [(0, vR 6 (some v0)), (1, vR 16 (some v1)), (2, vI v2), (3, vI v3), (4, vI v4)] [] := by
  unfold f_X6_wordAmong_129 at hf
  refine V_iinc (lv' := [(4, vI (v4 + (1 : Int32))), (0, vR 6 (some v0)), (1, vR 16 (some v1)), (2, vI v2), (3, vI v3)]) C dX6_wordAmong_129 4 rfl (congrArg (v4 + ·) (by decide : Int32.ofInt (1) = (1 : Int32))) (by decide) rfl ?_
  refine V_goto C 10 dX6_wordAmong_132 (by decide) ?_
  refine V_sub (lv' := [(0, vR 6 (some v0)), (1, vR 16 (some v1)), (2, vI v2), (3, vI v3), (4, vI (v4 + (1 : Int32)))]) [1, 2, 3, 4, 0] rfl ?_
  exact S10 _ _ _ _ _ hf
def f_X6_wordAmong_127 (N : Nat) (s10 : Hp → Nat → Nat → Int32 → Int32 → Int32 → Option (Int32)) (h : Hp) (v0 : Nat) (v1 : Nat) (v2 : Int32) (v4 : Int32) : Option (Int32) := f_X6_wordAmong_129 N s10 h v0 v1 v2 (-1 : Int32) v4
set_option maxHeartbeats 4000000 in
set_option maxRecDepth 100000 in
theorem p_X6_wordAmong_127 {X : XT} {r : Int32} {h : Hp} (C : CX X cX6_wordAmong "WaterStair$Tape" 6 (some .int) rmX6_wordAmong) (hQ : QX X (some (vI r)) h rmX6_wordAmong.cells rmX6_wordAmong.slots) {N : Nat} {s10 : Hp → Nat → Nat → Int32 → Int32 → Int32 → Option (Int32)} (S10 : ∀ (v0 : Nat) (v1 : Nat) (v2 : Int32) (v3 : Int32) (v4 : Int32), s10 h v0 v1 v2 v3 v4 = some r → V X 0 0 h 10 [(0, vR 6 (some v0)), (1, vR 16 (some v1)), (2, vI v2), (3, vI v3), (4, vI v4)] [])  {v0 : Nat} {v1 : Nat} {v2 : Int32} {v4 : Int32} (hf : f_X6_wordAmong_127 N s10 h v0 v1 v2 v4 = some r) : V X 0 0 h 127 [(0, vR 6 (some v0)), (1, vR 16 (some v1)), (2, vI v2), (4, vI v4)] [] := by
  unfold f_X6_wordAmong_127 at hf
  refine V_iconst (v := (-1 : Int32)) C dX6_wordAmong_127 (by decide) ?_
  refine V_istore_n (lv' := [(3, vI (-1 : Int32)), (0, vR 6 (some v0)), (1, vR 16 (some v1)), (2, vI v2), (4, vI v4)]) C dX6_wordAmong_128 rfl (by decide) rfl ?_
  refine V_sub (lv' := [(0, vR 6 (some v0)), (1, vR 16 (some v1)), (2, vI v2), (3, vI (-1 : Int32)), (4, vI v4)]) [1, 2, 3, 0, 4] rfl ?_
  exact p_X6_wordAmong_129 C hQ S10 hf
def f_X6_wordAmong_71 (N : Nat) (s10 : Hp → Nat → Nat → Int32 → Int32 → Int32 → Option (Int32)) (h : Hp) (v0 : Nat) (v1 : Nat) (v2 : Int32) (v3 : Int32) (v4 : Int32) (v5 : Int32) : Option (Int32) := if v5 = 0 then (if v3 < 0 then (f_X6_wordAmong_127 N s10 h v0 v1 v2 v4) else (if (hI h v0 5) ≤ v3 then (f_X6_wordAmong_127 N s10 h v0 v1 v2 v4) else (if (400 : Int32) ≤ v3 then (f_X6_wordAmong_127 N s10 h v0 v1 v2 v4) else (Option.bind (hP h v0 0) (fun q5 => if 0 ≤ v3 ∧ v3.toNatClampNeg < hL h q5 then (Option.bind (f_J0_charAt_5068e h v1 v4) (fun r7 => if (hI h q5 (v3.toNatClampNeg)) = r7 then (f_X6_wordAmong_129 N s10 h v0 v1 v2 (v3 + (1 : Int32)) v4) else (f_X6_wordAmong_127 N s10 h v0 v1 v2 v4))) else none))))) else (f_X6_wordAmong_129 N s10 h v0 v1 (v2 + (1 : Int32)) (hI h v0 4) v4)
set_option maxHeartbeats 4000000 in
set_option maxRecDepth 100000 in
theorem p_X6_wordAmong_71 {X : XT} {r : Int32} {h : Hp} (C : CX X cX6_wordAmong "WaterStair$Tape" 6 (some .int) rmX6_wordAmong) (hQ : QX X (some (vI r)) h rmX6_wordAmong.cells rmX6_wordAmong.slots) {N : Nat} {s10 : Hp → Nat → Nat → Int32 → Int32 → Int32 → Option (Int32)} (S10 : ∀ (v0 : Nat) (v1 : Nat) (v2 : Int32) (v3 : Int32) (v4 : Int32), s10 h v0 v1 v2 v3 v4 = some r → V X 0 0 h 10 [(0, vR 6 (some v0)), (1, vR 16 (some v1)), (2, vI v2), (3, vI v3), (4, vI v4)] [])  {v0 : Nat} {v1 : Nat} {v2 : Int32} {v3 : Int32} {v4 : Int32} {v5 : Int32} (hf : f_X6_wordAmong_71 N s10 h v0 v1 v2 v3 v4 v5 = some r) : V X 0 0 h 71 [(0, vR 6 (some v0)), (1, vR 16 (some v1)), (2, vI v2), (3, vI v3), (4, vI v4), (5, vI v5)] [] := by
  unfold f_X6_wordAmong_71 at hf
  refine V_iload C dX6_wordAmong_71 5 rfl ?_
  refine V_if_eq C 87 dX6_wordAmong_73 (by decide) (fun c1 => ?_) (fun c1 => ?_)
  · have hf := i_t c1 hf
    refine V_iload_n C dX6_wordAmong_87 rfl 3 rfl ?_
    refine V_if_lt C 127 dX6_wordAmong_88 (by decide) (fun c2 => ?_) (fun c2 => ?_)
    · have hf := i_t c2 hf
      refine V_sub (lv' := [(0, vR 6 (some v0)), (1, vR 16 (some v1)), (2, vI v2), (4, vI v4)]) [0, 1, 2, 4] rfl ?_
      exact p_X6_wordAmong_127 C hQ S10 hf
    · have hf := i_f c2 hf
      refine V_iload_n C dX6_wordAmong_91 rfl 3 rfl ?_
      refine V_aload_n C dX6_wordAmong_92 rfl 0 rfl ?_
      refine V_getI C fl_X6_28 rfl dX6_wordAmong_93 ?_
      refine V_icmp_ge C 127 dX6_wordAmong_96 (by decide) (fun c3 => ?_) (fun c3 => ?_)
      · have hf := i_t c3 hf
        refine V_sub (lv' := [(0, vR 6 (some v0)), (1, vR 16 (some v1)), (2, vI v2), (4, vI v4)]) [0, 1, 2, 4] rfl ?_
        exact p_X6_wordAmong_127 C hQ S10 hf
      · have hf := i_f c3 hf
        refine V_iload_n C dX6_wordAmong_99 rfl 3 rfl ?_
        refine V_sipush (v := (400 : Int32)) C dX6_wordAmong_100 (by decide) ?_
        refine V_icmp_ge C 127 dX6_wordAmong_103 (by decide) (fun c4 => ?_) (fun c4 => ?_)
        · have hf := i_t c4 hf
          refine V_sub (lv' := [(0, vR 6 (some v0)), (1, vR 16 (some v1)), (2, vI v2), (4, vI v4)]) [0, 1, 2, 4] rfl ?_
          exact p_X6_wordAmong_127 C hQ S10 hf
        · have hf := i_f c4 hf
          refine V_aload_n C dX6_wordAmong_106 rfl 0 rfl ?_
          obtain ⟨q5, eq5, hf⟩ := o_b hf
          refine V_getR C fl_X6_9 rfl rfl (by decide) eq5 dX6_wordAmong_107 ?_
          refine V_iload_n C dX6_wordAmong_110 rfl 3 rfl ?_
          obtain ⟨g6, hf⟩ := o_if hf
          refine V_bald C (vp_g g6) rfl dX6_wordAmong_111 ?_
          refine V_aload_n C dX6_wordAmong_112 rfl 1 rfl ?_
          refine V_iload C dX6_wordAmong_113 4 rfl ?_
          obtain ⟨r7, er7, hf⟩ := o_b hf
          refine V_callT (as := [vI v4]) (st := [vI (hI h q5 (v3.toNatClampNeg))]) C ml_X6_57 rfl (ct_J0_charAt_5068e er7) rfl ⟨by decide, by decide, by decide, by decide⟩ (Nat.le_of_ble_eq_true rfl) rfl dX6_wordAmong_115 (cs' := 0) (sl' := 0) rfl rfl ?_
          refine V_icmp_ne C 127 dX6_wordAmong_118 (by decide) (fun c8 => ?_) (fun c8 => ?_)
          · have hf := i_f c8 hf
            refine V_sub (lv' := [(0, vR 6 (some v0)), (1, vR 16 (some v1)), (2, vI v2), (4, vI v4)]) [0, 1, 2, 4] rfl ?_
            exact p_X6_wordAmong_127 C hQ S10 hf
          · have hf := i_t c8 hf
            refine V_iinc (lv' := [(3, vI (v3 + (1 : Int32))), (0, vR 6 (some v0)), (1, vR 16 (some v1)), (2, vI v2), (4, vI v4), (5, vI v5)]) C dX6_wordAmong_121 3 rfl (congrArg (v3 + ·) (by decide : Int32.ofInt (1) = (1 : Int32))) (by decide) rfl ?_
            refine V_goto C 129 dX6_wordAmong_124 (by decide) ?_
            refine V_sub (lv' := [(0, vR 6 (some v0)), (1, vR 16 (some v1)), (2, vI v2), (3, vI (v3 + (1 : Int32))), (4, vI v4)]) [1, 2, 3, 0, 4] rfl ?_
            exact p_X6_wordAmong_129 C hQ S10 hf
  · have hf := i_f c1 hf
    refine V_iinc (lv' := [(2, vI (v2 + (1 : Int32))), (0, vR 6 (some v0)), (1, vR 16 (some v1)), (3, vI v3), (4, vI v4), (5, vI v5)]) C dX6_wordAmong_76 2 rfl (congrArg (v2 + ·) (by decide : Int32.ofInt (1) = (1 : Int32))) (by decide) rfl ?_
    refine V_aload_n C dX6_wordAmong_79 rfl 1 rfl ?_
    refine V_getI C fl_X6_25 rfl dX6_wordAmong_80 ?_
    refine V_istore_n (lv' := [(3, vI (hI h v0 4)), (2, vI (v2 + (1 : Int32))), (0, vR 6 (some v0)), (1, vR 16 (some v1)), (4, vI v4), (5, vI v5)]) C dX6_wordAmong_83 rfl (by decide) rfl ?_
    refine V_goto C 129 dX6_wordAmong_84 (by decide) ?_
    refine V_sub (lv' := [(0, vR 6 (some v0)), (1, vR 16 (some v1)), (2, vI (v2 + (1 : Int32))), (3, vI (hI h v0 4)), (4, vI v4)]) [2, 3, 1, 0, 4] rfl ?_
    exact p_X6_wordAmong_129 C hQ S10 hf
def f_X6_wordAmong_54 (N : Nat) (s10 : Hp → Nat → Nat → Int32 → Int32 → Int32 → Option (Int32)) (h : Hp) (v0 : Nat) (v1 : Nat) (v2 : Int32) (v3 : Int32) (v4 : Int32) (s0_ : Int32) : Option (Int32) := if s0_ = 0 then (f_X6_wordAmong_71 N s10 h v0 v1 v2 v3 v4 s0_) else (if v3 = (hI h v0 5) then (some v2) else (f_X6_wordAmong_71 N s10 h v0 v1 v2 v3 v4 s0_))
set_option maxHeartbeats 4000000 in
set_option maxRecDepth 100000 in
theorem p_X6_wordAmong_54 {X : XT} {r : Int32} {h : Hp} (C : CX X cX6_wordAmong "WaterStair$Tape" 6 (some .int) rmX6_wordAmong) (hQ : QX X (some (vI r)) h rmX6_wordAmong.cells rmX6_wordAmong.slots) {N : Nat} {s10 : Hp → Nat → Nat → Int32 → Int32 → Int32 → Option (Int32)} (S10 : ∀ (v0 : Nat) (v1 : Nat) (v2 : Int32) (v3 : Int32) (v4 : Int32), s10 h v0 v1 v2 v3 v4 = some r → V X 0 0 h 10 [(0, vR 6 (some v0)), (1, vR 16 (some v1)), (2, vI v2), (3, vI v3), (4, vI v4)] [])  {v0 : Nat} {v1 : Nat} {v2 : Int32} {v3 : Int32} {v4 : Int32} {s0_ : Int32} (hf : f_X6_wordAmong_54 N s10 h v0 v1 v2 v3 v4 s0_ = some r) : V X 0 0 h 54 [(0, vR 6 (some v0)), (1, vR 16 (some v1)), (2, vI v2), (3, vI v3), (4, vI v4)] [vI s0_] := by
  unfold f_X6_wordAmong_54 at hf
  refine V_istore (lv' := [(5, vI s0_), (0, vR 6 (some v0)), (1, vR 16 (some v1)), (2, vI v2), (3, vI v3), (4, vI v4)]) C dX6_wordAmong_54 (by decide) rfl ?_
  refine V_iload C dX6_wordAmong_56 0 rfl ?_
  refine V_if_eq C 71 dX6_wordAmong_58 (by decide) (fun c9 => ?_) (fun c9 => ?_)
  · have hf := i_t c9 hf
    refine V_sub (lv' := [(0, vR 6 (some v0)), (1, vR 16 (some v1)), (2, vI v2), (3, vI v3), (4, vI v4), (5, vI s0_)]) [1, 2, 3, 4, 5, 0] rfl ?_
    exact p_X6_wordAmong_71 C hQ S10 hf
  · have hf := i_f c9 hf
    refine V_iload_n C dX6_wordAmong_61 rfl 4 rfl ?_
    refine V_aload_n C dX6_wordAmong_62 rfl 1 rfl ?_
    refine V_getI C fl_X6_28 rfl dX6_wordAmong_63 ?_
    refine V_icmp_ne C 71 dX6_wordAmong_66 (by decide) (fun c10 => ?_) (fun c10 => ?_)
    · have hf := i_f c10 hf
      refine V_sub (lv' := [(0, vR 6 (some v0)), (1, vR 16 (some v1)), (2, vI v2), (3, vI v3), (4, vI v4), (5, vI s0_)]) [1, 2, 3, 4, 5, 0] rfl ?_
      exact p_X6_wordAmong_71 C hQ S10 hf
    · have hf := i_t c10 hf
      refine V_iload_n C dX6_wordAmong_69 rfl 3 rfl ?_
      have hf := Option.some.inj hf
      subst hf
      exact V_iret C hQ dX6_wordAmong_70
def f_X6_wordAmong_49 (N : Nat) (s10 : Hp → Nat → Nat → Int32 → Int32 → Int32 → Option (Int32)) (h : Hp) (v0 : Nat) (v1 : Nat) (v2 : Int32) (v3 : Int32) (v4 : Int32) : Option (Int32) := f_X6_wordAmong_54 N s10 h v0 v1 v2 v3 v4 (1 : Int32)
set_option maxHeartbeats 4000000 in
set_option maxRecDepth 100000 in
theorem p_X6_wordAmong_49 {X : XT} {r : Int32} {h : Hp} (C : CX X cX6_wordAmong "WaterStair$Tape" 6 (some .int) rmX6_wordAmong) (hQ : QX X (some (vI r)) h rmX6_wordAmong.cells rmX6_wordAmong.slots) {N : Nat} {s10 : Hp → Nat → Nat → Int32 → Int32 → Int32 → Option (Int32)} (S10 : ∀ (v0 : Nat) (v1 : Nat) (v2 : Int32) (v3 : Int32) (v4 : Int32), s10 h v0 v1 v2 v3 v4 = some r → V X 0 0 h 10 [(0, vR 6 (some v0)), (1, vR 16 (some v1)), (2, vI v2), (3, vI v3), (4, vI v4)] [])  {v0 : Nat} {v1 : Nat} {v2 : Int32} {v3 : Int32} {v4 : Int32} (hf : f_X6_wordAmong_49 N s10 h v0 v1 v2 v3 v4 = some r) : V X 0 0 h 49 [(0, vR 6 (some v0)), (1, vR 16 (some v1)), (2, vI v2), (3, vI v3), (4, vI v4)] [] := by
  unfold f_X6_wordAmong_49 at hf
  refine V_iconst (v := (1 : Int32)) C dX6_wordAmong_49 (by decide) ?_
  refine V_goto C 54 dX6_wordAmong_50 (by decide) ?_
  refine V_sub (lv' := [(0, vR 6 (some v0)), (1, vR 16 (some v1)), (2, vI v2), (3, vI v3), (4, vI v4)]) [0, 1, 2, 3, 4] rfl ?_
  exact p_X6_wordAmong_54 C hQ S10 hf
def f_X6_wordAmong_10 (N : Nat) : Nat → Hp → Nat → Nat → Int32 → Int32 → Int32 → Option (Int32)
  | 0, _, _, _, _, _, _ => none
  | n + 1, h, v0, v1, v2, v3, v4 => Option.bind (f_J0_length_8abf5 h v1) (fun r11 => if r11 < v4 then (some (-1 : Int32)) else (if (hI h v0 2) = (258 : Int32) then (Option.bind (f_J0_length_8abf5 h v1) (fun r14 => if v4 = r14 then (f_X6_wordAmong_49 N (f_X6_wordAmong_10 N n) h v0 v1 v2 v3 v4) else (Option.bind (f_J0_charAt_5068e h v1 v4) (fun r16 => if r16 = (32 : Int32) then (f_X6_wordAmong_49 N (f_X6_wordAmong_10 N n) h v0 v1 v2 v3 v4) else (f_X6_wordAmong_54 N (f_X6_wordAmong_10 N n) h v0 v1 v2 v3 v4 (0 : Int32)))))) else (some (-1 : Int32))))
set_option maxHeartbeats 4000000 in
set_option maxRecDepth 100000 in
theorem p_X6_wordAmong_10 {X : XT} {r : Int32} {h : Hp} (C : CX X cX6_wordAmong "WaterStair$Tape" 6 (some .int) rmX6_wordAmong) (hQ : QX X (some (vI r)) h rmX6_wordAmong.cells rmX6_wordAmong.slots) {N : Nat}  : ∀ (n : Nat) (v0 : Nat) (v1 : Nat) (v2 : Int32) (v3 : Int32) (v4 : Int32), f_X6_wordAmong_10 N n h v0 v1 v2 v3 v4 = some r → V X 0 0 h 10 [(0, vR 6 (some v0)), (1, vR 16 (some v1)), (2, vI v2), (3, vI v3), (4, vI v4)] [] := by
  intro n
  induction n with
  | zero =>
    intro v0 v1 v2 v3 v4 hf
    have hf : (none : Option (Int32)) = some _ := hf
    cases hf
  | succ n ih =>
    intro v0 v1 v2 v3 v4 hf
    rw [f_X6_wordAmong_10] at hf
    refine V_iload C dX6_wordAmong_10 4 rfl ?_
    refine V_aload_n C dX6_wordAmong_12 rfl 1 rfl ?_
    obtain ⟨r11, er11, hf⟩ := o_b hf
    refine V_callT (as := []) (st := [vI v4]) C ml_X6_53 rfl (ct_J0_length_8abf5 er11) rfl ⟨by decide, by decide, by decide, by decide⟩ (Nat.le_of_ble_eq_true rfl) rfl dX6_wordAmong_13 (cs' := 0) (sl' := 0) rfl rfl ?_
    refine V_icmp_gt C 135 dX6_wordAmong_16 (by decide) (fun c12 => ?_) (fun c12 => ?_)
    · have hf := i_t c12 hf
      refine V_iconst (v := (-1 : Int32)) C dX6_wordAmong_135 (by decide) ?_
      have hf := Option.some.inj hf
      subst hf
      exact V_iret C hQ dX6_wordAmong_136
    · have hf := i_f c12 hf
      refine V_aload_n C dX6_wordAmong_19 rfl 0 rfl ?_
      refine V_getI C fl_X6_19 rfl dX6_wordAmong_20 ?_
      refine V_sipush (v := (258 : Int32)) C dX6_wordAmong_23 (by decide) ?_
      refine V_icmp_ne C 135 dX6_wordAmong_26 (by decide) (fun c13 => ?_) (fun c13 => ?_)
      · have hf := i_f c13 hf
        refine V_iconst (v := (-1 : Int32)) C dX6_wordAmong_135 (by decide) ?_
        have hf := Option.some.inj hf
        subst hf
        exact V_iret C hQ dX6_wordAmong_136
      · have hf := i_t c13 hf
        refine V_iload C dX6_wordAmong_29 4 rfl ?_
        refine V_aload_n C dX6_wordAmong_31 rfl 1 rfl ?_
        obtain ⟨r14, er14, hf⟩ := o_b hf
        refine V_callT (as := []) (st := [vI v4]) C ml_X6_53 rfl (ct_J0_length_8abf5 er14) rfl ⟨by decide, by decide, by decide, by decide⟩ (Nat.le_of_ble_eq_true rfl) rfl dX6_wordAmong_32 (cs' := 0) (sl' := 0) rfl rfl ?_
        refine V_icmp_eq C 49 dX6_wordAmong_35 (by decide) (fun c15 => ?_) (fun c15 => ?_)
        · have hf := i_t c15 hf
          refine V_sub (lv' := [(0, vR 6 (some v0)), (1, vR 16 (some v1)), (2, vI v2), (3, vI v3), (4, vI v4)]) [0, 1, 2, 3, 4] rfl ?_
          exact p_X6_wordAmong_49 C hQ ih hf
        · have hf := i_f c15 hf
          refine V_aload_n C dX6_wordAmong_38 rfl 1 rfl ?_
          refine V_iload C dX6_wordAmong_39 4 rfl ?_
          obtain ⟨r16, er16, hf⟩ := o_b hf
          refine V_callT (as := [vI v4]) (st := []) C ml_X6_57 rfl (ct_J0_charAt_5068e er16) rfl ⟨by decide, by decide, by decide, by decide⟩ (Nat.le_of_ble_eq_true rfl) rfl dX6_wordAmong_41 (cs' := 0) (sl' := 0) rfl rfl ?_
          refine V_bipush (v := (32 : Int32)) C dX6_wordAmong_44 (by decide) ?_
          refine V_icmp_ne C 53 dX6_wordAmong_46 (by decide) (fun c17 => ?_) (fun c17 => ?_)
          · have hf := i_f c17 hf
            refine V_iconst (v := (0 : Int32)) C dX6_wordAmong_53 (by decide) ?_
            refine V_sub (lv' := [(0, vR 6 (some v0)), (1, vR 16 (some v1)), (2, vI v2), (3, vI v3), (4, vI v4)]) [0, 1, 2, 3, 4] rfl ?_
            exact p_X6_wordAmong_54 C hQ ih hf
          · have hf := i_t c17 hf
            refine V_sub (lv' := [(0, vR 6 (some v0)), (1, vR 16 (some v1)), (2, vI v2), (3, vI v3), (4, vI v4)]) [0, 1, 2, 3, 4] rfl ?_
            exact p_X6_wordAmong_49 C hQ ih hf
def f_X6_wordAmong (N : Nat) (h : Hp) (v0 : Nat) (v1 : Nat) : Option (Int32) := f_X6_wordAmong_10 N N h v0 v1 (0 : Int32) (hI h v0 4) (0 : Int32)
set_option maxHeartbeats 4000000 in
set_option maxRecDepth 100000 in
theorem p_X6_wordAmong {X : XT} {r : Int32} (C : CX X cX6_wordAmong "WaterStair$Tape" 6 (some .int) rmX6_wordAmong) {N : Nat} {h : Hp} {v0 : Nat} {v1 : Nat} (hQ : QX X (some (vI r)) h rmX6_wordAmong.cells rmX6_wordAmong.slots) (hf : f_X6_wordAmong N h v0 v1 = some r) : V X 0 0 h 0 [(0, vR 6 (some v0)), (1, vR 16 (some v1))] [] := by
  unfold f_X6_wordAmong at hf
  refine V_iconst (v := (0 : Int32)) C dX6_wordAmong_0 (by decide) ?_
  refine V_istore_n (lv' := [(2, vI (0 : Int32)), (0, vR 6 (some v0)), (1, vR 16 (some v1))]) C dX6_wordAmong_1 rfl (by decide) rfl ?_
  refine V_aload_n C dX6_wordAmong_2 rfl 1 rfl ?_
  refine V_getI C fl_X6_25 rfl dX6_wordAmong_3 ?_
  refine V_istore_n (lv' := [(3, vI (hI h v0 4)), (2, vI (0 : Int32)), (0, vR 6 (some v0)), (1, vR 16 (some v1))]) C dX6_wordAmong_6 rfl (by decide) rfl ?_
  refine V_iconst (v := (0 : Int32)) C dX6_wordAmong_7 (by decide) ?_
  refine V_istore (lv' := [(4, vI (0 : Int32)), (3, vI (hI h v0 4)), (2, vI (0 : Int32)), (0, vR 6 (some v0)), (1, vR 16 (some v1))]) C dX6_wordAmong_8 (by decide) rfl ?_
  refine V_sub (lv' := [(0, vR 6 (some v0)), (1, vR 16 (some v1)), (2, vI (0 : Int32)), (3, vI (hI h v0 4)), (4, vI (0 : Int32))]) [3, 4, 2, 1, 0] rfl ?_
  exact p_X6_wordAmong_10 C hQ N _ _ _ _ _ hf
theorem ct_X6_wordAmong {r : Int32} {N : Nat} {h : Hp} {v0 : Nat} {v1 : Nat} (hf : f_X6_wordAmong N h v0 v1 = some r) (l : Launch) (G : GT) : MC l G yX6_wordAmong cX6_wordAmong 6 (some .int) rmX6_wordAmong h [vR 6 (some v0), vR 16 (some v1)] (some (vI r)) h := MC_of (by decide) rfl (Nat.le_of_ble_eq_true rfl) rfl (fun X C hQ hin => p_X6_wordAmong C hQ hf)
abbrev rmX2_readValue : Room := { frames := 5, cells := 0, slots := 0, locals := 110 }
def f_X2_readValue_104 (N : Nat) (h : Hp) (v0 : Nat) : Option (Hp) := Option.bind (hP h v0 0) (fun q1 => Option.bind (f_X6_advance N h q1) (fun h2 => some h2))
set_option maxHeartbeats 4000000 in
set_option maxRecDepth 100000 in
theorem p_X2_readValue_104 {X : XT} {h' : Hp} (C : CX X cX2_readValue "WaterStair$RuleText" 2 none rmX2_readValue) (hQ : QX X none h' rmX2_readValue.cells rmX2_readValue.slots) {N : Nat}  {h : Hp} {v0 : Nat} (hf : f_X2_readValue_104 N h v0 = some h') : V X 0 0 h 104 [(0, vR 2 (some v0))] [] := by
  unfold f_X2_readValue_104 at hf
  refine V_aload_n C dX2_readValue_104 rfl 0 rfl ?_
  obtain ⟨q1, eq1, hf⟩ := o_b hf
  refine V_getR C fl_X2_22 rfl rfl (by decide) eq1 dX2_readValue_105 ?_
  obtain ⟨h2, eh2, hf⟩ := o_b hf
  refine V_callV (as := []) (st := []) C ml_X2_63 fx6 (ct_X6_advance eh2) rfl ⟨by decide, by decide, by decide, by decide⟩ (Nat.le_of_ble_eq_true rfl) rfl dX2_readValue_108 (cs' := 0) (sl' := 0) rfl rfl ?_
  have hf := Option.some.inj hf
  subst hf
  exact V_vret C hQ dX2_readValue_111
def f_X2_readValue_45 (N : Nat) (h : Hp) (v0 : Nat) (v1 : Int32) : Option (Hp) := Option.bind (hP h v0 0) (fun q3 => if (hI h q3 2) = (257 : Int32) then (Option.bind (f_X2_countOne h v0) (fun h11 => Option.bind (hP h11 v0 0) (fun q12 => Option.bind (f_X2_emit h11 v0 (hI h11 q12 3)) (fun h13 => f_X2_readValue_104 N h13 v0)))) else (if v1 = (-1 : Int32) then (Option.bind (hP h v0 0) (fun q6 => Option.bind (f_X6_fail h q6 (0 : Int32)) (fun h7 => f_X2_readValue_104 N h7 v0))) else (Option.bind (f_X2_countOne h v0) (fun h8 => Option.bind (f_X1_codeOfWord h8 v1) (fun r9 => Option.bind (f_X2_emit h8 v0 r9) (fun h10 => f_X2_readValue_104 N h10 v0))))))
set_option maxHeartbeats 4000000 in
set_option maxRecDepth 100000 in
theorem p_X2_readValue_45 {X : XT} {h' : Hp} (C : CX X cX2_readValue "WaterStair$RuleText" 2 none rmX2_readValue) (hQ : QX X none h' rmX2_readValue.cells rmX2_readValue.slots) {N : Nat}  {h : Hp} {v0 : Nat} {v1 : Int32} (hf : f_X2_readValue_45 N h v0 v1 = some h') : V X 0 0 h 45 [(0, vR 2 (some v0)), (1, vI v1)] [] := by
  unfold f_X2_readValue_45 at hf
  refine V_aload_n C dX2_readValue_45 rfl 0 rfl ?_
  obtain ⟨q3, eq3, hf⟩ := o_b hf
  refine V_getR C fl_X2_22 rfl rfl (by decide) eq3 dX2_readValue_46 ?_
  refine V_getI C fl_X2_48 rfl dX2_readValue_49 ?_
  refine V_sipush (v := (257 : Int32)) C dX2_readValue_52 (by decide) ?_
  refine V_icmp_ne C 76 dX2_readValue_55 (by decide) (fun c4 => ?_) (fun c4 => ?_)
  · have hf := i_f c4 hf
    refine V_iload_n C dX2_readValue_76 rfl 1 rfl ?_
    refine V_iconst (v := (-1 : Int32)) C dX2_readValue_77 (by decide) ?_
    refine V_icmp_eq C 96 dX2_readValue_78 (by decide) (fun c5 => ?_) (fun c5 => ?_)
    · have hf := i_t c5 hf
      refine V_aload_n C dX2_readValue_96 rfl 0 rfl ?_
      obtain ⟨q6, eq6, hf⟩ := o_b hf
      refine V_getR C fl_X2_22 rfl rfl (by decide) eq6 dX2_readValue_97 ?_
      refine V_iconst (v := (0 : Int32)) C dX2_readValue_100 (by decide) ?_
      obtain ⟨h7, eh7, hf⟩ := o_b hf
      refine V_callV (as := [vI (0 : Int32)]) (st := []) C ml_X2_60 fx6 (ct_X6_fail eh7) rfl ⟨by decide, by decide, by decide, by decide⟩ (Nat.le_of_ble_eq_true rfl) rfl dX2_readValue_101 (cs' := 0) (sl' := 0) rfl rfl ?_
      refine V_sub (lv' := [(0, vR 2 (some v0))]) [0] rfl ?_
      exact p_X2_readValue_104 C hQ hf
    · have hf := i_f c5 hf
      refine V_aload_n C dX2_readValue_81 rfl 0 rfl ?_
      obtain ⟨h8, eh8, hf⟩ := o_b hf
      refine V_callV (as := []) (st := []) C ml_X2_96 fx2 (ct_X2_countOne eh8) rfl ⟨by decide, by decide, by decide, by decide⟩ (Nat.le_of_ble_eq_true rfl) rfl dX2_readValue_82 (cs' := 0) (sl' := 0) rfl rfl ?_
      refine V_aload_n C dX2_readValue_85 rfl 0 rfl ?_
      refine V_iload_n C dX2_readValue_86 rfl 1 rfl ?_
      obtain ⟨r9, er9, hf⟩ := o_b hf
      refine V_callS (as := [vI v1]) (st := [vR 2 (some v0)]) C ml_X2_123 (ct_X1_codeOfWord er9) rfl ⟨by decide, by decide, by decide, by decide⟩ (Nat.le_of_ble_eq_true rfl) rfl dX2_readValue_87 (cs' := 0) (sl' := 0) rfl rfl ?_
      obtain ⟨h10, eh10, hf⟩ := o_b hf
      refine V_callV (as := [vI r9]) (st := []) C ml_X2_45 fx2 (ct_X2_emit eh10) rfl ⟨by decide, by decide, by decide, by decide⟩ (Nat.le_of_ble_eq_true rfl) rfl dX2_readValue_90 (cs' := 0) (sl' := 0) rfl rfl ?_
      refine V_goto C 104 dX2_readValue_93 (by decide) ?_
      refine V_sub (lv' := [(0, vR 2 (some v0))]) [0] rfl ?_
      exact p_X2_readValue_104 C hQ hf
  · have hf := i_t c4 hf
    refine V_aload_n C dX2_readValue_58 rfl 0 rfl ?_
    obtain ⟨h11, eh11, hf⟩ := o_b hf
    refine V_callV (as := []) (st := []) C ml_X2_96 fx2 (ct_X2_countOne eh11) rfl ⟨by decide, by decide, by decide, by decide⟩ (Nat.le_of_ble_eq_true rfl) rfl dX2_readValue_59 (cs' := 0) (sl' := 0) rfl rfl ?_
    refine V_aload_n C dX2_readValue_62 rfl 0 rfl ?_
    refine V_aload_n C dX2_readValue_63 rfl 0 rfl ?_
    obtain ⟨q12, eq12, hf⟩ := o_b hf
    refine V_getR C fl_X2_22 rfl rfl (by decide) eq12 dX2_readValue_64 ?_
    refine V_getI C fl_X2_120 rfl dX2_readValue_67 ?_
    obtain ⟨h13, eh13, hf⟩ := o_b hf
    refine V_callV (as := [vI (hI h11 q12 3)]) (st := []) C ml_X2_45 fx2 (ct_X2_emit eh13) rfl ⟨by decide, by decide, by decide, by decide⟩ (Nat.le_of_ble_eq_true rfl) rfl dX2_readValue_70 (cs' := 0) (sl' := 0) rfl rfl ?_
    refine V_goto C 104 dX2_readValue_73 (by decide) ?_
    refine V_sub (lv' := [(0, vR 2 (some v0))]) [0] rfl ?_
    exact p_X2_readValue_104 C hQ hf
def f_X2_readValue (N : Nat) (h : Hp) (v0 : Nat) : Option (Hp) := Option.bind (hP h v0 0) (fun q14 => Option.bind (f_X6_wordAmong N h q14 (6)) (fun r15 => Option.bind (hP h v0 0) (fun q16 => if (hI h q16 2) = (257 : Int32) then (Option.bind (hP h v0 0) (fun q18 => if (hI h q18 3) = (-1 : Int32) then (Option.bind (hP h v0 0) (fun q20 => Option.bind (f_X6_fail h q20 (1 : Int32)) (fun h21 => f_X2_readValue_104 N h21 v0))) else (f_X2_readValue_45 N h v0 r15))) else (f_X2_readValue_45 N h v0 r15))))
set_option maxHeartbeats 4000000 in
set_option maxRecDepth 100000 in
theorem p_X2_readValue {X : XT} {h' : Hp} (C : CX X cX2_readValue "WaterStair$RuleText" 2 none rmX2_readValue) {N : Nat} {h : Hp} {v0 : Nat} (hQ : QX X none h' rmX2_readValue.cells rmX2_readValue.slots) (hf : f_X2_readValue N h v0 = some h') : V X 0 0 h 0 [(0, vR 2 (some v0))] [] := by
  unfold f_X2_readValue at hf
  refine V_aload_n C dX2_readValue_0 rfl 0 rfl ?_
  obtain ⟨q14, eq14, hf⟩ := o_b hf
  refine V_getR C fl_X2_22 rfl rfl (by decide) eq14 dX2_readValue_1 ?_
  refine V_ldcS C 6 rfl dX2_readValue_4 ?_
  obtain ⟨r15, er15, hf⟩ := o_b hf
  refine V_callV (as := [vR 16 (some (6))]) (st := []) C ml_X2_116 fx6 (ct_X6_wordAmong er15) rfl ⟨by decide, by decide, by decide, by decide⟩ (Nat.le_of_ble_eq_true rfl) rfl dX2_readValue_6 (cs' := 0) (sl' := 0) rfl rfl ?_
  refine V_istore_n (lv' := [(1, vI r15), (0, vR 2 (some v0))]) C dX2_readValue_9 rfl (by decide) rfl ?_
  refine V_aload_n C dX2_readValue_10 rfl 1 rfl ?_
  obtain ⟨q16, eq16, hf⟩ := o_b hf
  refine V_getR C fl_X2_22 rfl rfl (by decide) eq16 dX2_readValue_11 ?_
  refine V_getI C fl_X2_48 rfl dX2_readValue_14 ?_
  refine V_sipush (v := (257 : Int32)) C dX2_readValue_17 (by decide) ?_
  refine V_icmp_ne C 45 dX2_readValue_20 (by decide) (fun c17 => ?_) (fun c17 => ?_)
  · have hf := i_f c17 hf
    refine V_sub (lv' := [(0, vR 2 (some v0)), (1, vI r15)]) [1, 0] rfl ?_
    exact p_X2_readValue_45 C hQ hf
  · have hf := i_t c17 hf
    refine V_aload_n C dX2_readValue_23 rfl 1 rfl ?_
    obtain ⟨q18, eq18, hf⟩ := o_b hf
    refine V_getR C fl_X2_22 rfl rfl (by decide) eq18 dX2_readValue_24 ?_
    refine V_getI C fl_X2_120 rfl dX2_readValue_27 ?_
    refine V_iconst (v := (-1 : Int32)) C dX2_readValue_30 (by decide) ?_
    refine V_icmp_ne C 45 dX2_readValue_31 (by decide) (fun c19 => ?_) (fun c19 => ?_)
    · have hf := i_f c19 hf
      refine V_sub (lv' := [(0, vR 2 (some v0)), (1, vI r15)]) [1, 0] rfl ?_
      exact p_X2_readValue_45 C hQ hf
    · have hf := i_t c19 hf
      refine V_aload_n C dX2_readValue_34 rfl 1 rfl ?_
      obtain ⟨q20, eq20, hf⟩ := o_b hf
      refine V_getR C fl_X2_22 rfl rfl (by decide) eq20 dX2_readValue_35 ?_
      refine V_iconst (v := (1 : Int32)) C dX2_readValue_38 (by decide) ?_
      obtain ⟨h21, eh21, hf⟩ := o_b hf
      refine V_callV (as := [vI (1 : Int32)]) (st := []) C ml_X2_60 fx6 (ct_X6_fail eh21) rfl ⟨by decide, by decide, by decide, by decide⟩ (Nat.le_of_ble_eq_true rfl) rfl dX2_readValue_39 (cs' := 0) (sl' := 0) rfl rfl ?_
      refine V_goto C 104 dX2_readValue_42 (by decide) ?_
      refine V_sub (lv' := [(0, vR 2 (some v0))]) [1] rfl ?_
      exact p_X2_readValue_104 C hQ hf
theorem ct_X2_readValue {h' : Hp} {N : Nat} {h : Hp} {v0 : Nat} (hf : f_X2_readValue N h v0 = some h') (l : Launch) (G : GT) : MC l G yX2_readValue cX2_readValue 2 none rmX2_readValue h [vR 2 (some v0)] none h' := MC_of (by decide) rfl (Nat.le_of_ble_eq_true rfl) rfl (fun X C hQ hin => p_X2_readValue C hQ hf)
abbrev rmX2_readSum : Room := { frames := 6, cells := 0, slots := 0, locals := 131 }
def f_X2_readSum_88 (N : Nat) (s8 : Hp → Nat → Int32 → Int32 → Option (Hp)) (h : Hp) (v0 : Nat) (v1 : Int32) (v2 : Int32) : Option (Hp) := s8 h v0 v1 (v2 + (1 : Int32))
set_option maxHeartbeats 4000000 in
set_option maxRecDepth 100000 in
theorem p_X2_readSum_88 {X : XT} {h' : Hp} (C : CX X cX2_readSum "WaterStair$RuleText" 5 none rmX2_readSum) (hQ : QX X none h' rmX2_readSum.cells rmX2_readSum.slots) {N : Nat} {s8 : Hp → Nat → Int32 → Int32 → Option (Hp)} (S8 : ∀ (h : Hp) (v0 : Nat) (v1 : Int32) (v2 : Int32), s8 h v0 v1 v2 = some h' → V X 0 0 h 8 [(0, vR 2 (some v0)), (1, vI v1), (2, vI v2)] []) {h : Hp} {v0 : Nat} {v1 : Int32} {v2 : Int32} (hf : f_X2_readSum_88 N s8 h v0 v1 v2 = some h') : V X 0 0 h 88 [(0, vR 2 (some v0)), (1, vI v1), (2, vI v2)] [] := by
  unfold f_X2_readSum_88 at hf
  refine V_iinc (lv' := [(2, vI (v2 + (1 : Int32))), (0, vR 2 (some v0)), (1, vI v1)]) C dX2_readSum_88 2 rfl (congrArg (v2 + ·) (by decide : Int32.ofInt (1) = (1 : Int32))) (by decide) rfl ?_
  refine V_goto C 8 dX2_readSum_91 (by decide) ?_
  refine V_sub (lv' := [(0, vR 2 (some v0)), (1, vI v1), (2, vI (v2 + (1 : Int32)))]) [1, 2, 0] rfl ?_
  exact S8 _ _ _ _ hf
def f_X2_readSum_62 (N : Nat) (s8 : Hp → Nat → Int32 → Int32 → Option (Hp)) (h : Hp) (v0 : Nat) (v1 : Int32) (v2 : Int32) (v3 : Int32) (v4 : Int32) : Option (Hp) := Option.bind (hP h v0 0) (fun q1 => Option.bind (f_X6_advance N h q1) (fun h2 => Option.bind (f_X2_readValue N h2 v0) (fun h3 => if v4 = 0 then (f_X2_readSum_88 N s8 h3 v0 v3 v2) else (Option.bind (f_X2_emit h3 v0 v3) (fun h5 => f_X2_readSum_88 N s8 h5 v0 v1 v2)))))
set_option maxHeartbeats 4000000 in
set_option maxRecDepth 100000 in
theorem p_X2_readSum_62 {X : XT} {h' : Hp} (C : CX X cX2_readSum "WaterStair$RuleText" 5 none rmX2_readSum) (hQ : QX X none h' rmX2_readSum.cells rmX2_readSum.slots) {N : Nat} {s8 : Hp → Nat → Int32 → Int32 → Option (Hp)} (S8 : ∀ (h : Hp) (v0 : Nat) (v1 : Int32) (v2 : Int32), s8 h v0 v1 v2 = some h' → V X 0 0 h 8 [(0, vR 2 (some v0)), (1, vI v1), (2, vI v2)] []) {h : Hp} {v0 : Nat} {v1 : Int32} {v2 : Int32} {v3 : Int32} {v4 : Int32} (hf : f_X2_readSum_62 N s8 h v0 v1 v2 v3 v4 = some h') : V X 0 0 h 62 [(0, vR 2 (some v0)), (1, vI v1), (2, vI v2), (3, vI v3), (4, vI v4)] [] := by
  unfold f_X2_readSum_62 at hf
  refine V_aload_n C dX2_readSum_62 rfl 0 rfl ?_
  obtain ⟨q1, eq1, hf⟩ := o_b hf
  refine V_getR C fl_X2_22 rfl rfl (by decide) eq1 dX2_readSum_63 ?_
  obtain ⟨h2, eh2, hf⟩ := o_b hf
  refine V_callV (as := []) (st := []) C ml_X2_63 fx6 (ct_X6_advance eh2) rfl ⟨by decide, by decide, by decide, by decide⟩ (Nat.le_of_ble_eq_true rfl) rfl dX2_readSum_66 (cs' := 0) (sl' := 0) rfl rfl ?_
  refine V_aload_n C dX2_readSum_69 rfl 0 rfl ?_
  obtain ⟨h3, eh3, hf⟩ := o_b hf
  refine V_callV (as := []) (st := []) C ml_X2_104 fx2 (ct_X2_readValue eh3) rfl ⟨by decide, by decide, by decide, by decide⟩ (Nat.le_of_ble_eq_true rfl) rfl dX2_readSum_70 (cs' := 0) (sl' := 0) rfl rfl ?_
  refine V_iload C dX2_readSum_73 4 rfl ?_
  refine V_if_eq C 86 dX2_readSum_75 (by decide) (fun c4 => ?_) (fun c4 => ?_)
  · have hf := i_t c4 hf
    refine V_iload_n C dX2_readSum_86 rfl 3 rfl ?_
    refine V_istore_n (lv' := [(1, vI v3), (0, vR 2 (some v0)), (2, vI v2), (3, vI v3), (4, vI v4)]) C dX2_readSum_87 rfl (by decide) rfl ?_
    refine V_sub (lv' := [(0, vR 2 (some v0)), (1, vI v3), (2, vI v2)]) [1, 0, 2] rfl ?_
    exact p_X2_readSum_88 C hQ S8 hf
  · have hf := i_f c4 hf
    refine V_aload_n C dX2_readSum_78 rfl 0 rfl ?_
    refine V_iload_n C dX2_readSum_79 rfl 3 rfl ?_
    obtain ⟨h5, eh5, hf⟩ := o_b hf
    refine V_callV (as := [vI v3]) (st := []) C ml_X2_45 fx2 (ct_X2_emit eh5) rfl ⟨by decide, by decide, by decide, by decide⟩ (Nat.le_of_ble_eq_true rfl) rfl dX2_readSum_80 (cs' := 0) (sl' := 0) rfl rfl ?_
    refine V_goto C 88 dX2_readSum_83 (by decide) ?_
    refine V_sub (lv' := [(0, vR 2 (some v0)), (1, vI v1), (2, vI v2)]) [0, 1, 2] rfl ?_
    exact p_X2_readSum_88 C hQ S8 hf
def f_X2_readSum_45 (N : Nat) (s8 : Hp → Nat → Int32 → Int32 → Option (Hp)) (h : Hp) (v0 : Nat) (v1 : Int32) (v2 : Int32) (v3 : Int32) (s0_ : Int32) : Option (Hp) := if s0_ = 0 then (if v1 = (-1 : Int32) then (f_X2_readSum_62 N s8 h v0 v1 v2 v3 s0_) else (Option.bind (f_X2_emit h v0 v1) (fun h8 => f_X2_readSum_62 N s8 h8 v0 v1 v2 v3 s0_))) else (f_X2_readSum_62 N s8 h v0 v1 v2 v3 s0_)
set_option maxHeartbeats 4000000 in
set_option maxRecDepth 100000 in
theorem p_X2_readSum_45 {X : XT} {h' : Hp} (C : CX X cX2_readSum "WaterStair$RuleText" 5 none rmX2_readSum) (hQ : QX X none h' rmX2_readSum.cells rmX2_readSum.slots) {N : Nat} {s8 : Hp → Nat → Int32 → Int32 → Option (Hp)} (S8 : ∀ (h : Hp) (v0 : Nat) (v1 : Int32) (v2 : Int32), s8 h v0 v1 v2 = some h' → V X 0 0 h 8 [(0, vR 2 (some v0)), (1, vI v1), (2, vI v2)] []) {h : Hp} {v0 : Nat} {v1 : Int32} {v2 : Int32} {v3 : Int32} {s0_ : Int32} (hf : f_X2_readSum_45 N s8 h v0 v1 v2 v3 s0_ = some h') : V X 0 0 h 45 [(0, vR 2 (some v0)), (1, vI v1), (2, vI v2), (3, vI v3)] [vI s0_] := by
  unfold f_X2_readSum_45 at hf
  refine V_istore (lv' := [(4, vI s0_), (0, vR 2 (some v0)), (1, vI v1), (2, vI v2), (3, vI v3)]) C dX2_readSum_45 (by decide) rfl ?_
  refine V_iload C dX2_readSum_47 0 rfl ?_
  refine V_if_ne C 62 dX2_readSum_49 (by decide) (fun c6 => ?_) (fun c6 => ?_)
  · have hf := i_f c6 hf
    refine V_sub (lv' := [(0, vR 2 (some v0)), (1, vI v1), (2, vI v2), (3, vI v3), (4, vI s0_)]) [1, 2, 3, 4, 0] rfl ?_
    exact p_X2_readSum_62 C hQ S8 hf
  · have hf := i_t c6 hf
    refine V_iload_n C dX2_readSum_52 rfl 2 rfl ?_
    refine V_iconst (v := (-1 : Int32)) C dX2_readSum_53 (by decide) ?_
    refine V_icmp_eq C 62 dX2_readSum_54 (by decide) (fun c7 => ?_) (fun c7 => ?_)
    · have hf := i_t c7 hf
      refine V_sub (lv' := [(0, vR 2 (some v0)), (1, vI v1), (2, vI v2), (3, vI v3), (4, vI s0_)]) [1, 2, 3, 4, 0] rfl ?_
      exact p_X2_readSum_62 C hQ S8 hf
    · have hf := i_f c7 hf
      refine V_aload_n C dX2_readSum_57 rfl 1 rfl ?_
      refine V_iload_n C dX2_readSum_58 rfl 2 rfl ?_
      obtain ⟨h8, eh8, hf⟩ := o_b hf
      refine V_callV (as := [vI v1]) (st := []) C ml_X2_45 fx2 (ct_X2_emit eh8) rfl ⟨by decide, by decide, by decide, by decide⟩ (Nat.le_of_ble_eq_true rfl) rfl dX2_readSum_59 (cs' := 0) (sl' := 0) rfl rfl ?_
      refine V_sub (lv' := [(0, vR 2 (some v0)), (1, vI v1), (2, vI v2), (3, vI v3), (4, vI s0_)]) [1, 2, 3, 4, 0] rfl ?_
      exact p_X2_readSum_62 C hQ S8 hf
def f_X2_readSum_40 (N : Nat) (s8 : Hp → Nat → Int32 → Int32 → Option (Hp)) (h : Hp) (v0 : Nat) (v1 : Int32) (v2 : Int32) (v3 : Int32) : Option (Hp) := f_X2_readSum_45 N s8 h v0 v1 v2 v3 (1 : Int32)
set_option maxHeartbeats 4000000 in
set_option maxRecDepth 100000 in
theorem p_X2_readSum_40 {X : XT} {h' : Hp} (C : CX X cX2_readSum "WaterStair$RuleText" 5 none rmX2_readSum) (hQ : QX X none h' rmX2_readSum.cells rmX2_readSum.slots) {N : Nat} {s8 : Hp → Nat → Int32 → Int32 → Option (Hp)} (S8 : ∀ (h : Hp) (v0 : Nat) (v1 : Int32) (v2 : Int32), s8 h v0 v1 v2 = some h' → V X 0 0 h 8 [(0, vR 2 (some v0)), (1, vI v1), (2, vI v2)] []) {h : Hp} {v0 : Nat} {v1 : Int32} {v2 : Int32} {v3 : Int32} (hf : f_X2_readSum_40 N s8 h v0 v1 v2 v3 = some h') : V X 0 0 h 40 [(0, vR 2 (some v0)), (1, vI v1), (2, vI v2), (3, vI v3)] [] := by
  unfold f_X2_readSum_40 at hf
  refine V_iconst (v := (1 : Int32)) C dX2_readSum_40 (by decide) ?_
  refine V_goto C 45 dX2_readSum_41 (by decide) ?_
  refine V_sub (lv' := [(0, vR 2 (some v0)), (1, vI v1), (2, vI v2), (3, vI v3)]) [0, 1, 2, 3] rfl ?_
  exact p_X2_readSum_45 C hQ S8 hf
def f_X2_readSum_94 (N : Nat) (h : Hp) (v0 : Nat) (v1 : Int32) : Option (Hp) := if v1 = (-1 : Int32) then (some h) else (Option.bind (f_X2_emit h v0 v1) (fun h10 => some h10))
set_option maxHeartbeats 4000000 in
set_option maxRecDepth 100000 in
theorem p_X2_readSum_94 {X : XT} {h' : Hp} (C : CX X cX2_readSum "WaterStair$RuleText" 5 none rmX2_readSum) (hQ : QX X none h' rmX2_readSum.cells rmX2_readSum.slots) {N : Nat}  {h : Hp} {v0 : Nat} {v1 : Int32} (hf : f_X2_readSum_94 N h v0 v1 = some h') : V X 0 0 h 94 [(0, vR 2 (some v0)), (1, vI v1)] [] := by
  unfold f_X2_readSum_94 at hf
  refine V_iload_n C dX2_readSum_94 rfl 1 rfl ?_
  refine V_iconst (v := (-1 : Int32)) C dX2_readSum_95 (by decide) ?_
  refine V_icmp_eq C 104 dX2_readSum_96 (by decide) (fun c9 => ?_) (fun c9 => ?_)
  · have hf := i_t c9 hf
    have hf := Option.some.inj hf
    subst hf
    exact V_vret C hQ dX2_readSum_104
  · have hf := i_f c9 hf
    refine V_aload_n C dX2_readSum_99 rfl 0 rfl ?_
    refine V_iload_n C dX2_readSum_100 rfl 1 rfl ?_
    obtain ⟨h10, eh10, hf⟩ := o_b hf
    refine V_callV (as := [vI v1]) (st := []) C ml_X2_45 fx2 (ct_X2_emit eh10) rfl ⟨by decide, by decide, by decide, by decide⟩ (Nat.le_of_ble_eq_true rfl) rfl dX2_readSum_101 (cs' := 0) (sl' := 0) rfl rfl ?_
    have hf := Option.some.inj hf
    subst hf
    exact V_vret C hQ dX2_readSum_104
def f_X2_readSum_8 (N : Nat) : Nat → Hp → Nat → Int32 → Int32 → Option (Hp)
  | 0, _, _, _, _ => none
  | n + 1, h, v0, v1, v2 => if (400 : Int32) ≤ v2 then (f_X2_readSum_94 N h v0 v1) else (Option.bind (f_X2_operatorAhead h v0) (fun r12 => if r12 = (-1 : Int32) then (f_X2_readSum_94 N h v0 v1) else (Option.bind (f_X2_operatorAhead h v0) (fun r14 => if r14 = (100002 : Int32) then (f_X2_readSum_40 N (f_X2_readSum_8 N n) h v0 v1 v2 r14) else (if r14 = (100003 : Int32) then (f_X2_readSum_40 N (f_X2_readSum_8 N n) h v0 v1 v2 r14) else (f_X2_readSum_45 N (f_X2_readSum_8 N n) h v0 v1 v2 r14 (0 : Int32)))))))
set_option maxHeartbeats 4000000 in
set_option maxRecDepth 100000 in
theorem p_X2_readSum_8 {X : XT} {h' : Hp} (C : CX X cX2_readSum "WaterStair$RuleText" 5 none rmX2_readSum) (hQ : QX X none h' rmX2_readSum.cells rmX2_readSum.slots) {N : Nat}  : ∀ (n : Nat) (h : Hp) (v0 : Nat) (v1 : Int32) (v2 : Int32), f_X2_readSum_8 N n h v0 v1 v2 = some h' → V X 0 0 h 8 [(0, vR 2 (some v0)), (1, vI v1), (2, vI v2)] [] := by
  intro n
  induction n with
  | zero =>
    intro h v0 v1 v2 hf
    have hf : (none : Option (Hp)) = some _ := hf
    cases hf
  | succ n ih =>
    intro h v0 v1 v2 hf
    rw [f_X2_readSum_8] at hf
    refine V_iload_n C dX2_readSum_8 rfl 2 rfl ?_
    refine V_sipush (v := (400 : Int32)) C dX2_readSum_9 (by decide) ?_
    refine V_icmp_ge C 94 dX2_readSum_12 (by decide) (fun c11 => ?_) (fun c11 => ?_)
    · have hf := i_t c11 hf
      refine V_sub (lv' := [(0, vR 2 (some v0)), (1, vI v1)]) [0, 1] rfl ?_
      exact p_X2_readSum_94 C hQ hf
    · have hf := i_f c11 hf
      refine V_aload_n C dX2_readSum_15 rfl 0 rfl ?_
      obtain ⟨r12, er12, hf⟩ := o_b hf
      refine V_callV (as := []) (st := []) C ml_X2_107 fx2 (ct_X2_operatorAhead er12) rfl ⟨by decide, by decide, by decide, by decide⟩ (Nat.le_of_ble_eq_true rfl) rfl dX2_readSum_16 (cs' := 0) (sl' := 0) rfl rfl ?_
      refine V_iconst (v := (-1 : Int32)) C dX2_readSum_19 (by decide) ?_
      refine V_icmp_eq C 94 dX2_readSum_20 (by decide) (fun c13 => ?_) (fun c13 => ?_)
      · have hf := i_t c13 hf
        refine V_sub (lv' := [(0, vR 2 (some v0)), (1, vI v1)]) [0, 1] rfl ?_
        exact p_X2_readSum_94 C hQ hf
      · have hf := i_f c13 hf
        refine V_aload_n C dX2_readSum_23 rfl 0 rfl ?_
        obtain ⟨r14, er14, hf⟩ := o_b hf
        refine V_callV (as := []) (st := []) C ml_X2_107 fx2 (ct_X2_operatorAhead er14) rfl ⟨by decide, by decide, by decide, by decide⟩ (Nat.le_of_ble_eq_true rfl) rfl dX2_readSum_24 (cs' := 0) (sl' := 0) rfl rfl ?_
        refine V_istore_n (lv' := [(3, vI r14), (0, vR 2 (some v0)), (1, vI v1), (2, vI v2)]) C dX2_readSum_27 rfl (by decide) rfl ?_
        refine V_iload_n C dX2_readSum_28 rfl 0 rfl ?_
        refine V_ldc C kc_X2_110 dX2_readSum_29 ?_
        refine V_icmp_eq C 40 dX2_readSum_31 (by decide) (fun c15 => ?_) (fun c15 => ?_)
        · have hf := i_t c15 hf
          refine V_sub (lv' := [(0, vR 2 (some v0)), (1, vI v1), (2, vI v2), (3, vI r14)]) [1, 2, 3, 0] rfl ?_
          exact p_X2_readSum_40 C hQ ih hf
        · have hf := i_f c15 hf
          refine V_iload_n C dX2_readSum_34 rfl 0 rfl ?_
          refine V_ldc C kc_X2_111 dX2_readSum_35 ?_
          refine V_icmp_ne C 44 dX2_readSum_37 (by decide) (fun c16 => ?_) (fun c16 => ?_)
          · have hf := i_f c16 hf
            refine V_iconst (v := (0 : Int32)) C dX2_readSum_44 (by decide) ?_
            refine V_sub (lv' := [(0, vR 2 (some v0)), (1, vI v1), (2, vI v2), (3, vI r14)]) [1, 2, 3, 0] rfl ?_
            exact p_X2_readSum_45 C hQ ih hf
          · have hf := i_t c16 hf
            refine V_sub (lv' := [(0, vR 2 (some v0)), (1, vI v1), (2, vI v2), (3, vI r14)]) [1, 2, 3, 0] rfl ?_
            exact p_X2_readSum_40 C hQ ih hf
def f_X2_readSum (N : Nat) (h : Hp) (v0 : Nat) : Option (Hp) := Option.bind (f_X2_readValue N h v0) (fun h17 => f_X2_readSum_8 N N h17 v0 (-1 : Int32) (0 : Int32))
set_option maxHeartbeats 4000000 in
set_option maxRecDepth 100000 in
theorem p_X2_readSum {X : XT} {h' : Hp} (C : CX X cX2_readSum "WaterStair$RuleText" 5 none rmX2_readSum) {N : Nat} {h : Hp} {v0 : Nat} (hQ : QX X none h' rmX2_readSum.cells rmX2_readSum.slots) (hf : f_X2_readSum N h v0 = some h') : V X 0 0 h 0 [(0, vR 2 (some v0))] [] := by
  unfold f_X2_readSum at hf
  refine V_aload_n C dX2_readSum_0 rfl 0 rfl ?_
  obtain ⟨h17, eh17, hf⟩ := o_b hf
  refine V_callV (as := []) (st := []) C ml_X2_104 fx2 (ct_X2_readValue eh17) rfl ⟨by decide, by decide, by decide, by decide⟩ (Nat.le_of_ble_eq_true rfl) rfl dX2_readSum_1 (cs' := 0) (sl' := 0) rfl rfl ?_
  refine V_iconst (v := (-1 : Int32)) C dX2_readSum_4 (by decide) ?_
  refine V_istore_n (lv' := [(1, vI (-1 : Int32)), (0, vR 2 (some v0))]) C dX2_readSum_5 rfl (by decide) rfl ?_
  refine V_iconst (v := (0 : Int32)) C dX2_readSum_6 (by decide) ?_
  refine V_istore_n (lv' := [(2, vI (0 : Int32)), (1, vI (-1 : Int32)), (0, vR 2 (some v0))]) C dX2_readSum_7 rfl (by decide) rfl ?_
  refine V_sub (lv' := [(0, vR 2 (some v0)), (1, vI (-1 : Int32)), (2, vI (0 : Int32))]) [2, 1, 0] rfl ?_
  exact p_X2_readSum_8 C hQ N _ _ _ _ hf
theorem ct_X2_readSum {h' : Hp} {N : Nat} {h : Hp} {v0 : Nat} (hf : f_X2_readSum N h v0 = some h') (l : Launch) (G : GT) : MC l G yX2_readSum cX2_readSum 5 none rmX2_readSum h [vR 2 (some v0)] none h' := MC_of (by decide) rfl (Nat.le_of_ble_eq_true rfl) rfl (fun X C hQ hin => p_X2_readSum C hQ hf)
abbrev rmX2_takeClosing : Room := { frames := 2, cells := 0, slots := 0, locals := 42 }
def f_X2_takeClosing_20 (N : Nat) (h : Hp) (v0 : Nat) : Option (Hp) := Option.bind (hP h v0 0) (fun q1 => Option.bind (f_X6_advance N h q1) (fun h2 => some h2))
set_option maxHeartbeats 4000000 in
set_option maxRecDepth 100000 in
theorem p_X2_takeClosing_20 {X : XT} {h' : Hp} (C : CX X cX2_takeClosing "WaterStair$RuleText" 1 none rmX2_takeClosing) (hQ : QX X none h' rmX2_takeClosing.cells rmX2_takeClosing.slots) {N : Nat}  {h : Hp} {v0 : Nat} (hf : f_X2_takeClosing_20 N h v0 = some h') : V X 0 0 h 20 [(0, vR 2 (some v0))] [] := by
  unfold f_X2_takeClosing_20 at hf
  refine V_aload_n C dX2_takeClosing_20 rfl 0 rfl ?_
  obtain ⟨q1, eq1, hf⟩ := o_b hf
  refine V_getR C fl_X2_22 rfl rfl (by decide) eq1 dX2_takeClosing_21 ?_
  obtain ⟨h2, eh2, hf⟩ := o_b hf
  refine V_callV (as := []) (st := []) C ml_X2_63 fx6 (ct_X6_advance eh2) rfl ⟨by decide, by decide, by decide, by decide⟩ (Nat.le_of_ble_eq_true rfl) rfl dX2_takeClosing_24 (cs' := 0) (sl' := 0) rfl rfl ?_
  have hf := Option.some.inj hf
  subst hf
  exact V_vret C hQ dX2_takeClosing_27
def f_X2_takeClosing (N : Nat) (h : Hp) (v0 : Nat) : Option (Hp) := Option.bind (hP h v0 0) (fun q3 => if (hI h q3 2) = (93 : Int32) then (f_X2_takeClosing_20 N h v0) else (Option.bind (hP h v0 0) (fun q5 => Option.bind (f_X6_fail h q5 (0 : Int32)) (fun h6 => f_X2_takeClosing_20 N h6 v0))))
set_option maxHeartbeats 4000000 in
set_option maxRecDepth 100000 in
theorem p_X2_takeClosing {X : XT} {h' : Hp} (C : CX X cX2_takeClosing "WaterStair$RuleText" 1 none rmX2_takeClosing) {N : Nat} {h : Hp} {v0 : Nat} (hQ : QX X none h' rmX2_takeClosing.cells rmX2_takeClosing.slots) (hf : f_X2_takeClosing N h v0 = some h') : V X 0 0 h 0 [(0, vR 2 (some v0))] [] := by
  unfold f_X2_takeClosing at hf
  refine V_aload_n C dX2_takeClosing_0 rfl 0 rfl ?_
  obtain ⟨q3, eq3, hf⟩ := o_b hf
  refine V_getR C fl_X2_22 rfl rfl (by decide) eq3 dX2_takeClosing_1 ?_
  refine V_getI C fl_X2_48 rfl dX2_takeClosing_4 ?_
  refine V_bipush (v := (93 : Int32)) C dX2_takeClosing_7 (by decide) ?_
  refine V_icmp_eq C 20 dX2_takeClosing_9 (by decide) (fun c4 => ?_) (fun c4 => ?_)
  · have hf := i_t c4 hf
    refine V_sub (lv' := [(0, vR 2 (some v0))]) [0] rfl ?_
    exact p_X2_takeClosing_20 C hQ hf
  · have hf := i_f c4 hf
    refine V_aload_n C dX2_takeClosing_12 rfl 0 rfl ?_
    obtain ⟨q5, eq5, hf⟩ := o_b hf
    refine V_getR C fl_X2_22 rfl rfl (by decide) eq5 dX2_takeClosing_13 ?_
    refine V_iconst (v := (0 : Int32)) C dX2_takeClosing_16 (by decide) ?_
    obtain ⟨h6, eh6, hf⟩ := o_b hf
    refine V_callV (as := [vI (0 : Int32)]) (st := []) C ml_X2_60 fx6 (ct_X6_fail eh6) rfl ⟨by decide, by decide, by decide, by decide⟩ (Nat.le_of_ble_eq_true rfl) rfl dX2_takeClosing_17 (cs' := 0) (sl' := 0) rfl rfl ?_
    refine V_sub (lv' := [(0, vR 2 (some v0))]) [0] rfl ?_
    exact p_X2_takeClosing_20 C hQ hf
theorem ct_X2_takeClosing {h' : Hp} {N : Nat} {h : Hp} {v0 : Nat} (hf : f_X2_takeClosing N h v0 = some h') (l : Launch) (G : GT) : MC l G yX2_takeClosing cX2_takeClosing 1 none rmX2_takeClosing h [vR 2 (some v0)] none h' := MC_of (by decide) rfl (Nat.le_of_ble_eq_true rfl) rfl (fun X C hQ hin => p_X2_takeClosing C hQ hf)
abbrev rmX2_comparisonAhead : Room := { frames := 0, cells := 0, slots := 0, locals := 0 }
def f_X2_comparisonAhead (h : Hp) (v0 : Nat) : Option (Int32) := Option.bind (hP h v0 0) (fun q1 => if hI h q1 2 = (60 : Int32) then (some (100004 : Int32)) else if hI h q1 2 = (61 : Int32) then (some (100006 : Int32)) else if hI h q1 2 = (62 : Int32) then (some (100008 : Int32)) else if hI h q1 2 = (259 : Int32) then (some (100005 : Int32)) else if hI h q1 2 = (260 : Int32) then (some (100007 : Int32)) else (some (-1 : Int32)))
set_option maxHeartbeats 4000000 in
set_option maxRecDepth 100000 in
theorem p_X2_comparisonAhead {X : XT} {r : Int32} (C : CX X cX2_comparisonAhead "WaterStair$RuleText" 1 (some .int) rmX2_comparisonAhead) {h : Hp} {v0 : Nat} (hQ : QX X (some (vI r)) h rmX2_comparisonAhead.cells rmX2_comparisonAhead.slots) (hf : f_X2_comparisonAhead h v0 = some r) : V X 0 0 h 0 [(0, vR 2 (some v0))] [] := by
  unfold f_X2_comparisonAhead at hf
  refine V_aload_n C dX2_comparisonAhead_0 rfl 0 rfl ?_
  obtain ⟨q1, eq1, hf⟩ := o_b hf
  refine V_getR C fl_X2_22 rfl rfl (by decide) eq1 dX2_comparisonAhead_1 ?_
  refine V_getI C fl_X2_48 rfl dX2_comparisonAhead_4 ?_
  by_cases c2 : hI h q1 2 = (60 : Int32)
  · have hf := i_t c2 hf
    refine V_look (off := 49) C 56 dX2_comparisonAhead_7 (by decide) (by rw [c2]; decide) (by decide) ?_
    refine V_ldc C kc_X2_99 dX2_comparisonAhead_56 ?_
    have hf := Option.some.inj hf
    subst hf
    exact V_iret C hQ dX2_comparisonAhead_58
  have hf := i_f c2 hf
  by_cases c3 : hI h q1 2 = (61 : Int32)
  · have hf := i_t c3 hf
    refine V_look (off := 55) C 62 dX2_comparisonAhead_7 (by decide) (by rw [c3]; decide) (by decide) ?_
    refine V_ldc C kc_X2_101 dX2_comparisonAhead_62 ?_
    have hf := Option.some.inj hf
    subst hf
    exact V_iret C hQ dX2_comparisonAhead_64
  have hf := i_f c3 hf
  by_cases c4 : hI h q1 2 = (62 : Int32)
  · have hf := i_t c4 hf
    refine V_look (off := 61) C 68 dX2_comparisonAhead_7 (by decide) (by rw [c4]; decide) (by decide) ?_
    refine V_ldc C kc_X2_103 dX2_comparisonAhead_68 ?_
    have hf := Option.some.inj hf
    subst hf
    exact V_iret C hQ dX2_comparisonAhead_70
  have hf := i_f c4 hf
  by_cases c5 : hI h q1 2 = (259 : Int32)
  · have hf := i_t c5 hf
    refine V_look (off := 52) C 59 dX2_comparisonAhead_7 (by decide) (by rw [c5]; decide) (by decide) ?_
    refine V_ldc C kc_X2_100 dX2_comparisonAhead_59 ?_
    have hf := Option.some.inj hf
    subst hf
    exact V_iret C hQ dX2_comparisonAhead_61
  have hf := i_f c5 hf
  by_cases c6 : hI h q1 2 = (260 : Int32)
  · have hf := i_t c6 hf
    refine V_look (off := 58) C 65 dX2_comparisonAhead_7 (by decide) (by rw [c6]; decide) (by decide) ?_
    refine V_ldc C kc_X2_102 dX2_comparisonAhead_65 ?_
    have hf := Option.some.inj hf
    subst hf
    exact V_iret C hQ dX2_comparisonAhead_67
  have hf := i_f c6 hf
  refine V_look (off := 64) C 71 dX2_comparisonAhead_7 (by decide) (by have nc2 : ¬ (60 : Int) = Int32.toInt (hI h q1 2) := fun e => tab_n (z := 60) c2 (by decide) e.symm; have nc3 : ¬ (61 : Int) = Int32.toInt (hI h q1 2) := fun e => tab_n (z := 61) c3 (by decide) e.symm; have nc4 : ¬ (62 : Int) = Int32.toInt (hI h q1 2) := fun e => tab_n (z := 62) c4 (by decide) e.symm; have nc5 : ¬ (259 : Int) = Int32.toInt (hI h q1 2) := fun e => tab_n (z := 259) c5 (by decide) e.symm; have nc6 : ¬ (260 : Int) = Int32.toInt (hI h q1 2) := fun e => tab_n (z := 260) c6 (by decide) e.symm; simp [Op.lookupswitch.offset, nc2, nc3, nc4, nc5, nc6]) (by decide) ?_
  refine V_iconst (v := (-1 : Int32)) C dX2_comparisonAhead_71 (by decide) ?_
  have hf := Option.some.inj hf
  subst hf
  exact V_iret C hQ dX2_comparisonAhead_72
theorem ct_X2_comparisonAhead {r : Int32} {h : Hp} {v0 : Nat} (hf : f_X2_comparisonAhead h v0 = some r) (l : Launch) (G : GT) : MC l G yX2_comparisonAhead cX2_comparisonAhead 1 (some .int) rmX2_comparisonAhead h [vR 2 (some v0)] (some (vI r)) h := MC_of (by decide) rfl (Nat.le_of_ble_eq_true rfl) rfl (fun X C hQ hin => p_X2_comparisonAhead C hQ hf)
abbrev rmX2_takeComparison : Room := { frames := 2, cells := 0, slots := 0, locals := 42 }
def f_X2_takeComparison_25 (N : Nat) (h : Hp) (v0 : Nat) (v1 : Int32) : Option (Int32 × Hp) := Option.bind (hP h v0 0) (fun q1 => Option.bind (f_X6_advance N h q1) (fun h2 => some ((v1, h2))))
set_option maxHeartbeats 4000000 in
set_option maxRecDepth 100000 in
theorem p_X2_takeComparison_25 {X : XT} {r : Int32} {h' : Hp} (C : CX X cX2_takeComparison "WaterStair$RuleText" 2 (some .int) rmX2_takeComparison) (hQ : QX X (some (vI r)) h' rmX2_takeComparison.cells rmX2_takeComparison.slots) {N : Nat}  {h : Hp} {v0 : Nat} {v1 : Int32} (hf : f_X2_takeComparison_25 N h v0 v1 = some ((r, h'))) : V X 0 0 h 25 [(0, vR 2 (some v0)), (1, vI v1)] [] := by
  unfold f_X2_takeComparison_25 at hf
  refine V_aload_n C dX2_takeComparison_25 rfl 0 rfl ?_
  obtain ⟨q1, eq1, hf⟩ := o_b hf
  refine V_getR C fl_X2_22 rfl rfl (by decide) eq1 dX2_takeComparison_26 ?_
  obtain ⟨h2, eh2, hf⟩ := o_b hf
  refine V_callV (as := []) (st := []) C ml_X2_63 fx6 (ct_X6_advance eh2) rfl ⟨by decide, by decide, by decide, by decide⟩ (Nat.le_of_ble_eq_true rfl) rfl dX2_takeComparison_29 (cs' := 0) (sl' := 0) rfl rfl ?_
  refine V_iload_n C dX2_takeComparison_32 rfl 1 rfl ?_
  obtain ⟨hf1, hf2⟩ := Prod.mk.inj (Option.some.inj hf)
  subst hf1
  subst hf2
  exact V_iret C hQ dX2_takeComparison_33
def f_X2_takeComparison (N : Nat) (h : Hp) (v0 : Nat) : Option (Int32 × Hp) := Option.bind (f_X2_comparisonAhead h v0) (fun r3 => if r3 = (-1 : Int32) then (Option.bind (hP h v0 0) (fun q6 => Option.bind (f_X6_fail h q6 (0 : Int32)) (fun h7 => f_X2_takeComparison_25 N h7 v0 r3))) else (Option.bind (f_X2_countOne h v0) (fun h5 => f_X2_takeComparison_25 N h5 v0 r3)))
set_option maxHeartbeats 4000000 in
set_option maxRecDepth 100000 in
theorem p_X2_takeComparison {X : XT} {r : Int32} {h' : Hp} (C : CX X cX2_takeComparison "WaterStair$RuleText" 2 (some .int) rmX2_takeComparison) {N : Nat} {h : Hp} {v0 : Nat} (hQ : QX X (some (vI r)) h' rmX2_takeComparison.cells rmX2_takeComparison.slots) (hf : f_X2_takeComparison N h v0 = some ((r, h'))) : V X 0 0 h 0 [(0, vR 2 (some v0))] [] := by
  unfold f_X2_takeComparison at hf
  refine V_aload_n C dX2_takeComparison_0 rfl 0 rfl ?_
  obtain ⟨r3, er3, hf⟩ := o_b hf
  refine V_callV (as := []) (st := []) C ml_X2_93 fx2 (ct_X2_comparisonAhead er3) rfl ⟨by decide, by decide, by decide, by decide⟩ (Nat.le_of_ble_eq_true rfl) rfl dX2_takeComparison_1 (cs' := 0) (sl' := 0) rfl rfl ?_
  refine V_istore_n (lv' := [(1, vI r3), (0, vR 2 (some v0))]) C dX2_takeComparison_4 rfl (by decide) rfl ?_
  refine V_iload_n C dX2_takeComparison_5 rfl 0 rfl ?_
  refine V_iconst (v := (-1 : Int32)) C dX2_takeComparison_6 (by decide) ?_
  refine V_icmp_ne C 21 dX2_takeComparison_7 (by decide) (fun c4 => ?_) (fun c4 => ?_)
  · have hf := i_f c4 hf
    refine V_aload_n C dX2_takeComparison_21 rfl 1 rfl ?_
    obtain ⟨h5, eh5, hf⟩ := o_b hf
    refine V_callV (as := []) (st := []) C ml_X2_96 fx2 (ct_X2_countOne eh5) rfl ⟨by decide, by decide, by decide, by decide⟩ (Nat.le_of_ble_eq_true rfl) rfl dX2_takeComparison_22 (cs' := 0) (sl' := 0) rfl rfl ?_
    refine V_sub (lv' := [(0, vR 2 (some v0)), (1, vI r3)]) [1, 0] rfl ?_
    exact p_X2_takeComparison_25 C hQ hf
  · have hf := i_t c4 hf
    refine V_aload_n C dX2_takeComparison_10 rfl 1 rfl ?_
    obtain ⟨q6, eq6, hf⟩ := o_b hf
    refine V_getR C fl_X2_22 rfl rfl (by decide) eq6 dX2_takeComparison_11 ?_
    refine V_iconst (v := (0 : Int32)) C dX2_takeComparison_14 (by decide) ?_
    obtain ⟨h7, eh7, hf⟩ := o_b hf
    refine V_callV (as := [vI (0 : Int32)]) (st := []) C ml_X2_60 fx6 (ct_X6_fail eh7) rfl ⟨by decide, by decide, by decide, by decide⟩ (Nat.le_of_ble_eq_true rfl) rfl dX2_takeComparison_15 (cs' := 0) (sl' := 0) rfl rfl ?_
    refine V_goto C 25 dX2_takeComparison_18 (by decide) ?_
    refine V_sub (lv' := [(0, vR 2 (some v0)), (1, vI r3)]) [1, 0] rfl ?_
    exact p_X2_takeComparison_25 C hQ hf
theorem ct_X2_takeComparison {r : Int32} {h' : Hp} {N : Nat} {h : Hp} {v0 : Nat} (hf : f_X2_takeComparison N h v0 = some ((r, h'))) (l : Launch) (G : GT) : MC l G yX2_takeComparison cX2_takeComparison 2 (some .int) rmX2_takeComparison h [vR 2 (some v0)] (some (vI r)) h' := MC_of (by decide) rfl (Nat.le_of_ble_eq_true rfl) rfl (fun X C hQ hin => p_X2_takeComparison C hQ hf)
abbrev rmX6_isWord : Room := { frames := 5, cells := 0, slots := 0, locals := 110 }
def f_X6_isWord (N : Nat) (h : Hp) (v0 : Nat) (v1 : Nat) : Option (Int32) := Option.bind (f_X6_wordAmong N h v0 v1) (fun r1 => if r1 = 0 then (some (1 : Int32)) else (some (0 : Int32)))
set_option maxHeartbeats 4000000 in
set_option maxRecDepth 100000 in
theorem p_X6_isWord {X : XT} {r : Int32} (C : CX X cX6_isWord "WaterStair$Tape" 2 (some .boolean) rmX6_isWord) {N : Nat} {h : Hp} {v0 : Nat} {v1 : Nat} (hQ : QX X (some (vI r)) h rmX6_isWord.cells rmX6_isWord.slots) (hf : f_X6_isWord N h v0 v1 = some r) : V X 0 0 h 0 [(0, vR 6 (some v0)), (1, vR 16 (some v1))] [] := by
  unfold f_X6_isWord at hf
  refine V_aload_n C dX6_isWord_0 rfl 0 rfl ?_
  refine V_aload_n C dX6_isWord_1 rfl 1 rfl ?_
  obtain ⟨r1, er1, hf⟩ := o_b hf
  refine V_callV (as := [vR 16 (some v1)]) (st := []) C ml_X6_49 fx6 (ct_X6_wordAmong er1) rfl ⟨by decide, by decide, by decide, by decide⟩ (Nat.le_of_ble_eq_true rfl) rfl dX6_isWord_2 (cs' := 0) (sl' := 0) rfl rfl ?_
  refine V_if_ne C 12 dX6_isWord_5 (by decide) (fun c2 => ?_) (fun c2 => ?_)
  · have hf := i_f c2 hf
    refine V_iconst (v := (0 : Int32)) C dX6_isWord_12 (by decide) ?_
    have hf := Option.some.inj hf
    subst hf
    exact V_zret C (by decide) hQ dX6_isWord_13
  · have hf := i_t c2 hf
    refine V_iconst (v := (1 : Int32)) C dX6_isWord_8 (by decide) ?_
    refine V_goto C 13 dX6_isWord_9 (by decide) ?_
    have hf := Option.some.inj hf
    subst hf
    exact V_zret C (by decide) hQ dX6_isWord_13
theorem ct_X6_isWord {r : Int32} {N : Nat} {h : Hp} {v0 : Nat} {v1 : Nat} (hf : f_X6_isWord N h v0 v1 = some r) (l : Launch) (G : GT) : MC l G yX6_isWord cX6_isWord 2 (some .boolean) rmX6_isWord h [vR 6 (some v0), vR 16 (some v1)] (some (vI r)) h := MC_of (by decide) rfl (Nat.le_of_ble_eq_true rfl) rfl (fun X C hQ hin => p_X6_isWord C hQ hf)
def f_X2_readFact_53 (N : Nat) (r_X2_readTest : Hp → Nat → Int32 → Option Hp) (r_X2_readFact : Hp → Nat → Int32 → Option Hp) (h : Hp) (v0 : Nat) (v1 : Int32) (v2 : Int32) (v3 : Int32) : Option (Hp) := if v2 = 0 then (if v3 = 0 then (Option.bind (f_X2_readSum N h v0) (fun h3 => b2 (f_X2_takeComparison N h3 v0) (fun r4 h5 => Option.bind (f_X2_readSum N h5 v0) (fun h6 => Option.bind (f_X2_emit h6 v0 r4) (fun h7 => some h7))))) else (Option.bind (hP h v0 0) (fun q8 => Option.bind (f_X6_advance N h q8) (fun h9 => Option.bind (r_X2_readTest h9 v0 (v1 + (1 : Int32))) (fun h10 => Option.bind (f_X2_takeClosing N h10 v0) (fun h11 => some h11)))))) else (Option.bind (hP h v0 0) (fun q12 => Option.bind (f_X6_advance N h q12) (fun h13 => Option.bind (r_X2_readFact h13 v0 (v1 + (1 : Int32))) (fun h14 => Option.bind (f_X2_emit h14 v0 (100011 : Int32)) (fun h15 => some h15)))))
set_option maxHeartbeats 4000000 in
set_option maxRecDepth 100000 in
theorem p_X2_readFact_53 {rm rmr : Room} (hR : 60 ≤ rm.frames ∧ 2000 ≤ rm.locals ∧ rm.cells = 0 ∧ rm.slots = 0) (hRr : rmr.frames + 1 ≤ rm.frames ∧ 60 + rmr.locals ≤ rm.locals ∧ rmr.cells = 0 ∧ rmr.slots = 0) {r_X2_readTest : Hp → Nat → Int32 → Option Hp} (H_X2_readTest : ∀ (h : Hp) (a0 : Nat) (a1 : Int32) (h' : Hp), r_X2_readTest h a0 a1 = some h' → ∀ (l : Launch) (G : GT), MC l G yX2_readTest cX2_readTest 5 none rmr h [vR 2 (some a0), vI a1] none h') {r_X2_readFact : Hp → Nat → Int32 → Option Hp} (H_X2_readFact : ∀ (h : Hp) (a0 : Nat) (a1 : Int32) (h' : Hp), r_X2_readFact h a0 a1 = some h' → ∀ (l : Launch) (G : GT), MC l G yX2_readFact cX2_readFact 5 none rmr h [vR 2 (some a0), vI a1] none h') {X : XT} {h' : Hp} (C : CX X cX2_readFact "WaterStair$RuleText" 5 none rm) (hQ : QX X none h' 0 0) {N : Nat}  {h : Hp} {v0 : Nat} {v1 : Int32} {v2 : Int32} {v3 : Int32} (hf : f_X2_readFact_53 N r_X2_readTest r_X2_readFact h v0 v1 v2 v3 = some h') : V X 0 0 h 53 [(0, vR 2 (some v0)), (1, vI v1), (2, vI v2), (3, vI v3)] [] := by
  unfold f_X2_readFact_53 at hf
  refine V_iload_n C dX2_readFact_53 rfl 2 rfl ?_
  refine V_if_eq C 80 dX2_readFact_54 (by decide) (fun c1 => ?_) (fun c1 => ?_)
  · have hf := i_t c1 hf
    refine V_iload_n C dX2_readFact_80 rfl 3 rfl ?_
    refine V_if_eq C 105 dX2_readFact_81 (by decide) (fun c2 => ?_) (fun c2 => ?_)
    · have hf := i_t c2 hf
      refine V_aload_n C dX2_readFact_105 rfl 0 rfl ?_
      obtain ⟨h3, eh3, hf⟩ := o_b hf
      refine V_callV (as := []) (st := []) C ml_X2_86 fx2 (ct_X2_readSum eh3) rfl ⟨Nat.le_trans (by decide : rmX2_readSum.frames + 1 ≤ 60) hR.1, Nat.le_trans (by decide : 8 + (5 + 11) + rmX2_readSum.locals ≤ 2000) hR.2.1, Nat.le_trans (by decide : 0 + rmX2_readSum.cells ≤ 0) (Nat.zero_le _), Nat.le_trans (by decide : 0 + rmX2_readSum.slots ≤ 0) (Nat.zero_le _)⟩ (Nat.le_of_ble_eq_true rfl) rfl dX2_readFact_106 (cs' := 0) (sl' := 0) rfl rfl ?_
      refine V_aload_n C dX2_readFact_109 rfl 0 rfl ?_
      obtain ⟨r4, h5, er4, hf⟩ := o_b2 hf
      refine V_callV (as := []) (st := []) C ml_X2_89 fx2 (ct_X2_takeComparison er4) rfl ⟨Nat.le_trans (by decide : rmX2_takeComparison.frames + 1 ≤ 60) hR.1, Nat.le_trans (by decide : 8 + (2 + 11) + rmX2_takeComparison.locals ≤ 2000) hR.2.1, Nat.le_trans (by decide : 0 + rmX2_takeComparison.cells ≤ 0) (Nat.zero_le _), Nat.le_trans (by decide : 0 + rmX2_takeComparison.slots ≤ 0) (Nat.zero_le _)⟩ (Nat.le_of_ble_eq_true rfl) rfl dX2_readFact_110 (cs' := 0) (sl' := 0) rfl rfl ?_
      refine V_istore (lv' := [(4, vI r4), (0, vR 2 (some v0)), (1, vI v1), (2, vI v2), (3, vI v3)]) C dX2_readFact_113 (by decide) rfl ?_
      refine V_aload_n C dX2_readFact_115 rfl 1 rfl ?_
      obtain ⟨h6, eh6, hf⟩ := o_b hf
      refine V_callV (as := []) (st := []) C ml_X2_86 fx2 (ct_X2_readSum eh6) rfl ⟨Nat.le_trans (by decide : rmX2_readSum.frames + 1 ≤ 60) hR.1, Nat.le_trans (by decide : 8 + (5 + 11) + rmX2_readSum.locals ≤ 2000) hR.2.1, Nat.le_trans (by decide : 0 + rmX2_readSum.cells ≤ 0) (Nat.zero_le _), Nat.le_trans (by decide : 0 + rmX2_readSum.slots ≤ 0) (Nat.zero_le _)⟩ (Nat.le_of_ble_eq_true rfl) rfl dX2_readFact_116 (cs' := 0) (sl' := 0) rfl rfl ?_
      refine V_aload_n C dX2_readFact_119 rfl 1 rfl ?_
      refine V_iload C dX2_readFact_120 0 rfl ?_
      obtain ⟨h7, eh7, hf⟩ := o_b hf
      refine V_callV (as := [vI r4]) (st := []) C ml_X2_45 fx2 (ct_X2_emit eh7) rfl ⟨Nat.le_trans (by decide : rmX2_emit.frames + 1 ≤ 60) hR.1, Nat.le_trans (by decide : 8 + (2 + 11) + rmX2_emit.locals ≤ 2000) hR.2.1, Nat.le_trans (by decide : 0 + rmX2_emit.cells ≤ 0) (Nat.zero_le _), Nat.le_trans (by decide : 0 + rmX2_emit.slots ≤ 0) (Nat.zero_le _)⟩ (Nat.le_of_ble_eq_true rfl) rfl dX2_readFact_122 (cs' := 0) (sl' := 0) rfl rfl ?_
      have hf := Option.some.inj hf
      subst hf
      exact V_vret C hQ dX2_readFact_125
    · have hf := i_f c2 hf
      refine V_aload_n C dX2_readFact_84 rfl 0 rfl ?_
      obtain ⟨q8, eq8, hf⟩ := o_b hf
      refine V_getR C fl_X2_22 rfl rfl (by decide) eq8 dX2_readFact_85 ?_
      obtain ⟨h9, eh9, hf⟩ := o_b hf
      refine V_callV (as := []) (st := []) C ml_X2_63 fx6 (ct_X6_advance eh9) rfl ⟨Nat.le_trans (by decide : rmX6_advance.frames + 1 ≤ 60) hR.1, Nat.le_trans (by decide : 8 + (1 + 11) + rmX6_advance.locals ≤ 2000) hR.2.1, Nat.le_trans (by decide : 0 + rmX6_advance.cells ≤ 0) (Nat.zero_le _), Nat.le_trans (by decide : 0 + rmX6_advance.slots ≤ 0) (Nat.zero_le _)⟩ (Nat.le_of_ble_eq_true rfl) rfl dX2_readFact_88 (cs' := 0) (sl' := 0) rfl rfl ?_
      refine V_aload_n C dX2_readFact_91 rfl 0 rfl ?_
      refine V_iload_n C dX2_readFact_92 rfl 1 rfl ?_
      refine V_iconst (v := (1 : Int32)) C dX2_readFact_93 (by decide) ?_
      refine V_iadd C dX2_readFact_94 ?_
      obtain ⟨h10, eh10, hf⟩ := o_b hf
      refine V_callV (as := [vI (v1 + (1 : Int32))]) (st := []) C ml_X2_38 fx2 (H_X2_readTest _ _ _ _ eh10) rfl ⟨hRr.1, by have := hRr.2.1; omega, by have := hRr.2.2.1; omega, by have := hRr.2.2.2; omega⟩ (Nat.le_of_ble_eq_true rfl) rfl dX2_readFact_95 (cs' := 0) (sl' := 0) (by have := hRr.2.2.1; omega) (by have := hRr.2.2.2; omega) ?_
      refine V_aload_n C dX2_readFact_98 rfl 0 rfl ?_
      obtain ⟨h11, eh11, hf⟩ := o_b hf
      refine V_callV (as := []) (st := []) C ml_X2_83 fx2 (ct_X2_takeClosing eh11) rfl ⟨Nat.le_trans (by decide : rmX2_takeClosing.frames + 1 ≤ 60) hR.1, Nat.le_trans (by decide : 8 + (1 + 11) + rmX2_takeClosing.locals ≤ 2000) hR.2.1, Nat.le_trans (by decide : 0 + rmX2_takeClosing.cells ≤ 0) (Nat.zero_le _), Nat.le_trans (by decide : 0 + rmX2_takeClosing.slots ≤ 0) (Nat.zero_le _)⟩ (Nat.le_of_ble_eq_true rfl) rfl dX2_readFact_99 (cs' := 0) (sl' := 0) rfl rfl ?_
      refine V_goto C 125 dX2_readFact_102 (by decide) ?_
      have hf := Option.some.inj hf
      subst hf
      exact V_vret C hQ dX2_readFact_125
  · have hf := i_f c1 hf
    refine V_aload_n C dX2_readFact_57 rfl 0 rfl ?_
    obtain ⟨q12, eq12, hf⟩ := o_b hf
    refine V_getR C fl_X2_22 rfl rfl (by decide) eq12 dX2_readFact_58 ?_
    obtain ⟨h13, eh13, hf⟩ := o_b hf
    refine V_callV (as := []) (st := []) C ml_X2_63 fx6 (ct_X6_advance eh13) rfl ⟨Nat.le_trans (by decide : rmX6_advance.frames + 1 ≤ 60) hR.1, Nat.le_trans (by decide : 8 + (1 + 11) + rmX6_advance.locals ≤ 2000) hR.2.1, Nat.le_trans (by decide : 0 + rmX6_advance.cells ≤ 0) (Nat.zero_le _), Nat.le_trans (by decide : 0 + rmX6_advance.slots ≤ 0) (Nat.zero_le _)⟩ (Nat.le_of_ble_eq_true rfl) rfl dX2_readFact_61 (cs' := 0) (sl' := 0) rfl rfl ?_
    refine V_aload_n C dX2_readFact_64 rfl 0 rfl ?_
    refine V_iload_n C dX2_readFact_65 rfl 1 rfl ?_
    refine V_iconst (v := (1 : Int32)) C dX2_readFact_66 (by decide) ?_
    refine V_iadd C dX2_readFact_67 ?_
    obtain ⟨h14, eh14, hf⟩ := o_b hf
    refine V_callV (as := [vI (v1 + (1 : Int32))]) (st := []) C ml_X2_72 fx2 (H_X2_readFact _ _ _ _ eh14) rfl ⟨hRr.1, by have := hRr.2.1; omega, by have := hRr.2.2.1; omega, by have := hRr.2.2.2; omega⟩ (Nat.le_of_ble_eq_true rfl) rfl dX2_readFact_68 (cs' := 0) (sl' := 0) (by have := hRr.2.2.1; omega) (by have := hRr.2.2.2; omega) ?_
    refine V_aload_n C dX2_readFact_71 rfl 0 rfl ?_
    refine V_ldc C kc_X2_82 dX2_readFact_72 ?_
    obtain ⟨h15, eh15, hf⟩ := o_b hf
    refine V_callV (as := [vI (100011 : Int32)]) (st := []) C ml_X2_45 fx2 (ct_X2_emit eh15) rfl ⟨Nat.le_trans (by decide : rmX2_emit.frames + 1 ≤ 60) hR.1, Nat.le_trans (by decide : 8 + (2 + 11) + rmX2_emit.locals ≤ 2000) hR.2.1, Nat.le_trans (by decide : 0 + rmX2_emit.cells ≤ 0) (Nat.zero_le _), Nat.le_trans (by decide : 0 + rmX2_emit.slots ≤ 0) (Nat.zero_le _)⟩ (Nat.le_of_ble_eq_true rfl) rfl dX2_readFact_74 (cs' := 0) (sl' := 0) rfl rfl ?_
    refine V_goto C 125 dX2_readFact_77 (by decide) ?_
    have hf := Option.some.inj hf
    subst hf
    exact V_vret C hQ dX2_readFact_125
def f_X2_readFact_36 (N : Nat) (r_X2_readTest : Hp → Nat → Int32 → Option Hp) (r_X2_readFact : Hp → Nat → Int32 → Option Hp) (h : Hp) (v0 : Nat) (v1 : Int32) (v2 : Int32) (v3 : Int32) : Option (Hp) := if v1 < (10 : Int32) then (f_X2_readFact_53 N r_X2_readTest r_X2_readFact h v0 v1 v2 v3) else (Option.bind (hP h v0 0) (fun q17 => Option.bind (f_X6_fail h q17 (2 : Int32)) (fun h18 => some h18)))
set_option maxHeartbeats 4000000 in
set_option maxRecDepth 100000 in
theorem p_X2_readFact_36 {rm rmr : Room} (hR : 60 ≤ rm.frames ∧ 2000 ≤ rm.locals ∧ rm.cells = 0 ∧ rm.slots = 0) (hRr : rmr.frames + 1 ≤ rm.frames ∧ 60 + rmr.locals ≤ rm.locals ∧ rmr.cells = 0 ∧ rmr.slots = 0) {r_X2_readTest : Hp → Nat → Int32 → Option Hp} (H_X2_readTest : ∀ (h : Hp) (a0 : Nat) (a1 : Int32) (h' : Hp), r_X2_readTest h a0 a1 = some h' → ∀ (l : Launch) (G : GT), MC l G yX2_readTest cX2_readTest 5 none rmr h [vR 2 (some a0), vI a1] none h') {r_X2_readFact : Hp → Nat → Int32 → Option Hp} (H_X2_readFact : ∀ (h : Hp) (a0 : Nat) (a1 : Int32) (h' : Hp), r_X2_readFact h a0 a1 = some h' → ∀ (l : Launch) (G : GT), MC l G yX2_readFact cX2_readFact 5 none rmr h [vR 2 (some a0), vI a1] none h') {X : XT} {h' : Hp} (C : CX X cX2_readFact "WaterStair$RuleText" 5 none rm) (hQ : QX X none h' 0 0) {N : Nat}  {h : Hp} {v0 : Nat} {v1 : Int32} {v2 : Int32} {v3 : Int32} (hf : f_X2_readFact_36 N r_X2_readTest r_X2_readFact h v0 v1 v2 v3 = some h') : V X 0 0 h 36 [(0, vR 2 (some v0)), (1, vI v1), (2, vI v2), (3, vI v3)] [] := by
  unfold f_X2_readFact_36 at hf
  refine V_iload_n C dX2_readFact_36 rfl 1 rfl ?_
  refine V_bipush (v := (10 : Int32)) C dX2_readFact_37 (by decide) ?_
  refine V_icmp_lt C 53 dX2_readFact_39 (by decide) (fun c16 => ?_) (fun c16 => ?_)
  · have hf := i_t c16 hf
    refine V_sub (lv' := [(0, vR 2 (some v0)), (1, vI v1), (2, vI v2), (3, vI v3)]) [0, 1, 2, 3] rfl ?_
    exact p_X2_readFact_53 hR hRr H_X2_readTest H_X2_readFact C hQ hf
  · have hf := i_f c16 hf
    refine V_aload_n C dX2_readFact_42 rfl 0 rfl ?_
    obtain ⟨q17, eq17, hf⟩ := o_b hf
    refine V_getR C fl_X2_22 rfl rfl (by decide) eq17 dX2_readFact_43 ?_
    refine V_iconst (v := (2 : Int32)) C dX2_readFact_46 (by decide) ?_
    obtain ⟨h18, eh18, hf⟩ := o_b hf
    refine V_callV (as := [vI (2 : Int32)]) (st := []) C ml_X2_60 fx6 (ct_X6_fail eh18) rfl ⟨Nat.le_trans (by decide : rmX6_fail.frames + 1 ≤ 60) hR.1, Nat.le_trans (by decide : 8 + (2 + 11) + rmX6_fail.locals ≤ 2000) hR.2.1, Nat.le_trans (by decide : 0 + rmX6_fail.cells ≤ 0) (Nat.zero_le _), Nat.le_trans (by decide : 0 + rmX6_fail.slots ≤ 0) (Nat.zero_le _)⟩ (Nat.le_of_ble_eq_true rfl) rfl dX2_readFact_47 (cs' := 0) (sl' := 0) rfl rfl ?_
    refine V_goto C 125 dX2_readFact_50 (by decide) ?_
    have hf := Option.some.inj hf
    subst hf
    exact V_vret C hQ dX2_readFact_125
def f_X2_readFact_27 (N : Nat) (r_X2_readTest : Hp → Nat → Int32 → Option Hp) (r_X2_readFact : Hp → Nat → Int32 → Option Hp) (h : Hp) (v0 : Nat) (v1 : Int32) (v2 : Int32) (s0_ : Int32) : Option (Hp) := if v2 = 0 then (if s0_ = 0 then (f_X2_readFact_53 N r_X2_readTest r_X2_readFact h v0 v1 v2 s0_) else (f_X2_readFact_36 N r_X2_readTest r_X2_readFact h v0 v1 v2 s0_)) else (f_X2_readFact_36 N r_X2_readTest r_X2_readFact h v0 v1 v2 s0_)
set_option maxHeartbeats 4000000 in
set_option maxRecDepth 100000 in
theorem p_X2_readFact_27 {rm rmr : Room} (hR : 60 ≤ rm.frames ∧ 2000 ≤ rm.locals ∧ rm.cells = 0 ∧ rm.slots = 0) (hRr : rmr.frames + 1 ≤ rm.frames ∧ 60 + rmr.locals ≤ rm.locals ∧ rmr.cells = 0 ∧ rmr.slots = 0) {r_X2_readTest : Hp → Nat → Int32 → Option Hp} (H_X2_readTest : ∀ (h : Hp) (a0 : Nat) (a1 : Int32) (h' : Hp), r_X2_readTest h a0 a1 = some h' → ∀ (l : Launch) (G : GT), MC l G yX2_readTest cX2_readTest 5 none rmr h [vR 2 (some a0), vI a1] none h') {r_X2_readFact : Hp → Nat → Int32 → Option Hp} (H_X2_readFact : ∀ (h : Hp) (a0 : Nat) (a1 : Int32) (h' : Hp), r_X2_readFact h a0 a1 = some h' → ∀ (l : Launch) (G : GT), MC l G yX2_readFact cX2_readFact 5 none rmr h [vR 2 (some a0), vI a1] none h') {X : XT} {h' : Hp} (C : CX X cX2_readFact "WaterStair$RuleText" 5 none rm) (hQ : QX X none h' 0 0) {N : Nat}  {h : Hp} {v0 : Nat} {v1 : Int32} {v2 : Int32} {s0_ : Int32} (hf : f_X2_readFact_27 N r_X2_readTest r_X2_readFact h v0 v1 v2 s0_ = some h') : V X 0 0 h 27 [(0, vR 2 (some v0)), (1, vI v1), (2, vI v2)] [vI s0_] := by
  unfold f_X2_readFact_27 at hf
  refine V_istore_n (lv' := [(3, vI s0_), (0, vR 2 (some v0)), (1, vI v1), (2, vI v2)]) C dX2_readFact_27 rfl (by decide) rfl ?_
  refine V_iload_n C dX2_readFact_28 rfl 3 rfl ?_
  refine V_if_ne C 36 dX2_readFact_29 (by decide) (fun c19 => ?_) (fun c19 => ?_)
  · have hf := i_f c19 hf
    refine V_sub (lv' := [(0, vR 2 (some v0)), (1, vI v1), (2, vI v2), (3, vI s0_)]) [1, 2, 3, 0] rfl ?_
    exact p_X2_readFact_36 hR hRr H_X2_readTest H_X2_readFact C hQ hf
  · have hf := i_t c19 hf
    refine V_iload_n C dX2_readFact_32 rfl 0 rfl ?_
    refine V_if_eq C 53 dX2_readFact_33 (by decide) (fun c20 => ?_) (fun c20 => ?_)
    · have hf := i_t c20 hf
      refine V_sub (lv' := [(0, vR 2 (some v0)), (1, vI v1), (2, vI v2), (3, vI s0_)]) [1, 2, 3, 0] rfl ?_
      exact p_X2_readFact_53 hR hRr H_X2_readTest H_X2_readFact C hQ hf
    · have hf := i_f c20 hf
      refine V_sub (lv' := [(0, vR 2 (some v0)), (1, vI v1), (2, vI v2), (3, vI s0_)]) [1, 2, 3, 0] rfl ?_
      exact p_X2_readFact_36 hR hRr H_X2_readTest H_X2_readFact C hQ hf
def f_X2_readFact_o (N : Nat) (r_X2_readTest : Hp → Nat → Int32 → Option Hp) (r_X2_readFact : Hp → Nat → Int32 → Option Hp) (h : Hp) (v0 : Nat) (v1 : Int32) : Option (Hp) := Option.bind (hP h v0 0) (fun q21 => Option.bind (f_X6_isWord N h q21 (5)) (fun r22 => Option.bind (hP h v0 0) (fun q23 => if (hI h q23 2) = (91 : Int32) then (f_X2_readFact_27 N r_X2_readTest r_X2_readFact h v0 v1 r22 (1 : Int32)) else (f_X2_readFact_27 N r_X2_readTest r_X2_readFact h v0 v1 r22 (0 : Int32)))))
set_option maxHeartbeats 4000000 in
set_option maxRecDepth 100000 in
theorem p_X2_readFact {rm rmr : Room} (hR : 60 ≤ rm.frames ∧ 2000 ≤ rm.locals ∧ rm.cells = 0 ∧ rm.slots = 0) (hRr : rmr.frames + 1 ≤ rm.frames ∧ 60 + rmr.locals ≤ rm.locals ∧ rmr.cells = 0 ∧ rmr.slots = 0) {r_X2_readTest : Hp → Nat → Int32 → Option Hp} (H_X2_readTest : ∀ (h : Hp) (a0 : Nat) (a1 : Int32) (h' : Hp), r_X2_readTest h a0 a1 = some h' → ∀ (l : Launch) (G : GT), MC l G yX2_readTest cX2_readTest 5 none rmr h [vR 2 (some a0), vI a1] none h') {r_X2_readFact : Hp → Nat → Int32 → Option Hp} (H_X2_readFact : ∀ (h : Hp) (a0 : Nat) (a1 : Int32) (h' : Hp), r_X2_readFact h a0 a1 = some h' → ∀ (l : Launch) (G : GT), MC l G yX2_readFact cX2_readFact 5 none rmr h [vR 2 (some a0), vI a1] none h') {X : XT} {h' : Hp} (C : CX X cX2_readFact "WaterStair$RuleText" 5 none rm) {N : Nat} {h : Hp} {v0 : Nat} {v1 : Int32} (hQ : QX X none h' rm.cells rm.slots) (hf : f_X2_readFact_o N r_X2_readTest r_X2_readFact h v0 v1 = some h') : V X 0 0 h 0 [(0, vR 2 (some v0)), (1, vI v1)] [] := by
  rw [hR.2.2.1, hR.2.2.2] at hQ
  unfold f_X2_readFact_o at hf
  refine V_aload_n C dX2_readFact_0 rfl 0 rfl ?_
  obtain ⟨q21, eq21, hf⟩ := o_b hf
  refine V_getR C fl_X2_22 rfl rfl (by decide) eq21 dX2_readFact_1 ?_
  refine V_ldcS C 5 rfl dX2_readFact_4 ?_
  obtain ⟨r22, er22, hf⟩ := o_b hf
  refine V_callV (as := [vR 16 (some (5))]) (st := []) C ml_X2_68 fx6 (ct_X6_isWord er22) rfl ⟨Nat.le_trans (by decide : rmX6_isWord.frames + 1 ≤ 60) hR.1, Nat.le_trans (by decide : 8 + (2 + 11) + rmX6_isWord.locals ≤ 2000) hR.2.1, Nat.le_trans (by decide : 0 + rmX6_isWord.cells ≤ 0) (Nat.zero_le _), Nat.le_trans (by decide : 0 + rmX6_isWord.slots ≤ 0) (Nat.zero_le _)⟩ (Nat.le_of_ble_eq_true rfl) rfl dX2_readFact_6 (cs' := 0) (sl' := 0) rfl rfl ?_
  refine V_istore_n (lv' := [(2, vI r22), (0, vR 2 (some v0)), (1, vI v1)]) C dX2_readFact_9 rfl (by decide) rfl ?_
  refine V_aload_n C dX2_readFact_10 rfl 1 rfl ?_
  obtain ⟨q23, eq23, hf⟩ := o_b hf
  refine V_getR C fl_X2_22 rfl rfl (by decide) eq23 dX2_readFact_11 ?_
  refine V_getI C fl_X2_48 rfl dX2_readFact_14 ?_
  refine V_bipush (v := (91 : Int32)) C dX2_readFact_17 (by decide) ?_
  refine V_icmp_ne C 26 dX2_readFact_19 (by decide) (fun c24 => ?_) (fun c24 => ?_)
  · have hf := i_f c24 hf
    refine V_iconst (v := (0 : Int32)) C dX2_readFact_26 (by decide) ?_
    refine V_sub (lv' := [(0, vR 2 (some v0)), (1, vI v1), (2, vI r22)]) [1, 2, 0] rfl ?_
    exact p_X2_readFact_27 hR hRr H_X2_readTest H_X2_readFact C hQ hf
  · have hf := i_t c24 hf
    refine V_iconst (v := (1 : Int32)) C dX2_readFact_22 (by decide) ?_
    refine V_goto C 27 dX2_readFact_23 (by decide) ?_
    refine V_sub (lv' := [(0, vR 2 (some v0)), (1, vI v1), (2, vI r22)]) [1, 2, 0] rfl ?_
    exact p_X2_readFact_27 hR hRr H_X2_readTest H_X2_readFact C hQ hf
def f_X2_readTest_89 (N : Nat) (r_X2_readTest : Hp → Nat → Int32 → Option Hp) (r_X2_readFact : Hp → Nat → Int32 → Option Hp) (s9 : Hp → Nat → Int32 → Int32 → Int32 → Option (Hp)) (h : Hp) (v0 : Nat) (v1 : Int32) (v2 : Int32) (v3 : Int32) (v4 : Int32) : Option (Hp) := s9 h v0 v1 (v2 ||| v4) (v3 + (1 : Int32))
set_option maxHeartbeats 4000000 in
set_option maxRecDepth 100000 in
theorem p_X2_readTest_89 {rm rmr : Room} (hR : 60 ≤ rm.frames ∧ 2000 ≤ rm.locals ∧ rm.cells = 0 ∧ rm.slots = 0) (hRr : rmr.frames + 1 ≤ rm.frames ∧ 60 + rmr.locals ≤ rm.locals ∧ rmr.cells = 0 ∧ rmr.slots = 0) {r_X2_readTest : Hp → Nat → Int32 → Option Hp} (H_X2_readTest : ∀ (h : Hp) (a0 : Nat) (a1 : Int32) (h' : Hp), r_X2_readTest h a0 a1 = some h' → ∀ (l : Launch) (G : GT), MC l G yX2_readTest cX2_readTest 5 none rmr h [vR 2 (some a0), vI a1] none h') {r_X2_readFact : Hp → Nat → Int32 → Option Hp} (H_X2_readFact : ∀ (h : Hp) (a0 : Nat) (a1 : Int32) (h' : Hp), r_X2_readFact h a0 a1 = some h' → ∀ (l : Launch) (G : GT), MC l G yX2_readFact cX2_readFact 5 none rmr h [vR 2 (some a0), vI a1] none h') {X : XT} {h' : Hp} (C : CX X cX2_readTest "WaterStair$RuleText" 5 none rm) (hQ : QX X none h' 0 0) {N : Nat} {s9 : Hp → Nat → Int32 → Int32 → Int32 → Option (Hp)} (S9 : ∀ (h : Hp) (v0 : Nat) (v1 : Int32) (v2 : Int32) (v3 : Int32), s9 h v0 v1 v2 v3 = some h' → V X 0 0 h 9 [(0, vR 2 (some v0)), (1, vI v1), (2, vI v2), (3, vI v3)] []) {h : Hp} {v0 : Nat} {v1 : Int32} {v2 : Int32} {v3 : Int32} {v4 : Int32} (hf : f_X2_readTest_89 N r_X2_readTest r_X2_readFact s9 h v0 v1 v2 v3 v4 = some h') : V X 0 0 h 89 [(0, vR 2 (some v0)), (1, vI v1), (2, vI v2), (3, vI v3), (4, vI v4)] [] := by
  unfold f_X2_readTest_89 at hf
  refine V_iload_n C dX2_readTest_89 rfl 2 rfl ?_
  refine V_iload C dX2_readTest_90 4 rfl ?_
  refine V_ior C dX2_readTest_92 ?_
  refine V_istore_n (lv' := [(2, vI (v2 ||| v4)), (0, vR 2 (some v0)), (1, vI v1), (3, vI v3), (4, vI v4)]) C dX2_readTest_93 rfl (by decide) rfl ?_
  refine V_iinc (lv' := [(3, vI (v3 + (1 : Int32))), (2, vI (v2 ||| v4)), (0, vR 2 (some v0)), (1, vI v1), (4, vI v4)]) C dX2_readTest_94 3 rfl (congrArg (v3 + ·) (by decide : Int32.ofInt (1) = (1 : Int32))) (by decide) rfl ?_
  refine V_goto C 9 dX2_readTest_97 (by decide) ?_
  refine V_sub (lv' := [(0, vR 2 (some v0)), (1, vI v1), (2, vI (v2 ||| v4)), (3, vI (v3 + (1 : Int32)))]) [2, 3, 1, 0] rfl ?_
  exact S9 _ _ _ _ _ hf
def f_X2_readTest_66 (N : Nat) (r_X2_readTest : Hp → Nat → Int32 → Option Hp) (r_X2_readFact : Hp → Nat → Int32 → Option Hp) (s9 : Hp → Nat → Int32 → Int32 → Int32 → Option (Hp)) (h : Hp) (v0 : Nat) (v1 : Int32) (v2 : Int32) (v3 : Int32) (v4 : Int32) : Option (Hp) := Option.bind (hP h v0 0) (fun q1 => Option.bind (f_X6_advance N h q1) (fun h2 => Option.bind (r_X2_readFact h2 v0 v1) (fun h3 => if v4 = 0 then (Option.bind (f_X2_emit h3 v0 (100009 : Int32)) (fun h5 => f_X2_readTest_89 N r_X2_readTest r_X2_readFact s9 h5 v0 v1 v2 v3 v4)) else (f_X2_readTest_89 N r_X2_readTest r_X2_readFact s9 h3 v0 v1 v2 v3 v4))))
set_option maxHeartbeats 4000000 in
set_option maxRecDepth 100000 in
theorem p_X2_readTest_66 {rm rmr : Room} (hR : 60 ≤ rm.frames ∧ 2000 ≤ rm.locals ∧ rm.cells = 0 ∧ rm.slots = 0) (hRr : rmr.frames + 1 ≤ rm.frames ∧ 60 + rmr.locals ≤ rm.locals ∧ rmr.cells = 0 ∧ rmr.slots = 0) {r_X2_readTest : Hp → Nat → Int32 → Option Hp} (H_X2_readTest : ∀ (h : Hp) (a0 : Nat) (a1 : Int32) (h' : Hp), r_X2_readTest h a0 a1 = some h' → ∀ (l : Launch) (G : GT), MC l G yX2_readTest cX2_readTest 5 none rmr h [vR 2 (some a0), vI a1] none h') {r_X2_readFact : Hp → Nat → Int32 → Option Hp} (H_X2_readFact : ∀ (h : Hp) (a0 : Nat) (a1 : Int32) (h' : Hp), r_X2_readFact h a0 a1 = some h' → ∀ (l : Launch) (G : GT), MC l G yX2_readFact cX2_readFact 5 none rmr h [vR 2 (some a0), vI a1] none h') {X : XT} {h' : Hp} (C : CX X cX2_readTest "WaterStair$RuleText" 5 none rm) (hQ : QX X none h' 0 0) {N : Nat} {s9 : Hp → Nat → Int32 → Int32 → Int32 → Option (Hp)} (S9 : ∀ (h : Hp) (v0 : Nat) (v1 : Int32) (v2 : Int32) (v3 : Int32), s9 h v0 v1 v2 v3 = some h' → V X 0 0 h 9 [(0, vR 2 (some v0)), (1, vI v1), (2, vI v2), (3, vI v3)] []) {h : Hp} {v0 : Nat} {v1 : Int32} {v2 : Int32} {v3 : Int32} {v4 : Int32} (hf : f_X2_readTest_66 N r_X2_readTest r_X2_readFact s9 h v0 v1 v2 v3 v4 = some h') : V X 0 0 h 66 [(0, vR 2 (some v0)), (1, vI v1), (2, vI v2), (3, vI v3), (4, vI v4)] [] := by
  unfold f_X2_readTest_66 at hf
  refine V_aload_n C dX2_readTest_66 rfl 0 rfl ?_
  obtain ⟨q1, eq1, hf⟩ := o_b hf
  refine V_getR C fl_X2_22 rfl rfl (by decide) eq1 dX2_readTest_67 ?_
  obtain ⟨h2, eh2, hf⟩ := o_b hf
  refine V_callV (as := []) (st := []) C ml_X2_63 fx6 (ct_X6_advance eh2) rfl ⟨Nat.le_trans (by decide : rmX6_advance.frames + 1 ≤ 60) hR.1, Nat.le_trans (by decide : 8 + (1 + 11) + rmX6_advance.locals ≤ 2000) hR.2.1, Nat.le_trans (by decide : 0 + rmX6_advance.cells ≤ 0) (Nat.zero_le _), Nat.le_trans (by decide : 0 + rmX6_advance.slots ≤ 0) (Nat.zero_le _)⟩ (Nat.le_of_ble_eq_true rfl) rfl dX2_readTest_70 (cs' := 0) (sl' := 0) rfl rfl ?_
  refine V_aload_n C dX2_readTest_73 rfl 0 rfl ?_
  refine V_iload_n C dX2_readTest_74 rfl 1 rfl ?_
  obtain ⟨h3, eh3, hf⟩ := o_b hf
  refine V_callV (as := [vI v1]) (st := []) C ml_X2_72 fx2 (H_X2_readFact _ _ _ _ eh3) rfl ⟨hRr.1, by have := hRr.2.1; omega, by have := hRr.2.2.1; omega, by have := hRr.2.2.2; omega⟩ (Nat.le_of_ble_eq_true rfl) rfl dX2_readTest_75 (cs' := 0) (sl' := 0) (by have := hRr.2.2.1; omega) (by have := hRr.2.2.2; omega) ?_
  refine V_iload C dX2_readTest_78 4 rfl ?_
  refine V_if_ne C 89 dX2_readTest_80 (by decide) (fun c4 => ?_) (fun c4 => ?_)
  · have hf := i_f c4 hf
    refine V_sub (lv' := [(0, vR 2 (some v0)), (1, vI v1), (2, vI v2), (3, vI v3), (4, vI v4)]) [0, 1, 2, 3, 4] rfl ?_
    exact p_X2_readTest_89 hR hRr H_X2_readTest H_X2_readFact C hQ S9 hf
  · have hf := i_t c4 hf
    refine V_aload_n C dX2_readTest_83 rfl 0 rfl ?_
    refine V_ldc C kc_X2_79 dX2_readTest_84 ?_
    obtain ⟨h5, eh5, hf⟩ := o_b hf
    refine V_callV (as := [vI (100009 : Int32)]) (st := []) C ml_X2_45 fx2 (ct_X2_emit eh5) rfl ⟨Nat.le_trans (by decide : rmX2_emit.frames + 1 ≤ 60) hR.1, Nat.le_trans (by decide : 8 + (2 + 11) + rmX2_emit.locals ≤ 2000) hR.2.1, Nat.le_trans (by decide : 0 + rmX2_emit.cells ≤ 0) (Nat.zero_le _), Nat.le_trans (by decide : 0 + rmX2_emit.slots ≤ 0) (Nat.zero_le _)⟩ (Nat.le_of_ble_eq_true rfl) rfl dX2_readTest_86 (cs' := 0) (sl' := 0) rfl rfl ?_
    refine V_sub (lv' := [(0, vR 2 (some v0)), (1, vI v1), (2, vI v2), (3, vI v3), (4, vI v4)]) [0, 1, 2, 3, 4] rfl ?_
    exact p_X2_readTest_89 hR hRr H_X2_readTest H_X2_readFact C hQ S9 hf
def f_X2_readTest_40 (N : Nat) (r_X2_readTest : Hp → Nat → Int32 → Option Hp) (r_X2_readFact : Hp → Nat → Int32 → Option Hp) (s9 : Hp → Nat → Int32 → Int32 → Int32 → Option (Hp)) (h : Hp) (v0 : Nat) (v1 : Int32) (v2 : Int32) (v3 : Int32) : Option (Hp) := Option.bind (hP h v0 0) (fun q6 => Option.bind (f_X6_isWord N h q6 (7)) (fun r7 => if r7 = 0 then (f_X2_readTest_66 N r_X2_readTest r_X2_readFact s9 h v0 v1 v2 v3 r7) else (if v2 = 0 then (f_X2_readTest_66 N r_X2_readTest r_X2_readFact s9 h v0 v1 v2 v3 r7) else (Option.bind (f_X2_emit h v0 (100010 : Int32)) (fun h10 => f_X2_readTest_66 N r_X2_readTest r_X2_readFact s9 h10 v0 v1 v2 v3 r7)))))
set_option maxHeartbeats 4000000 in
set_option maxRecDepth 100000 in
theorem p_X2_readTest_40 {rm rmr : Room} (hR : 60 ≤ rm.frames ∧ 2000 ≤ rm.locals ∧ rm.cells = 0 ∧ rm.slots = 0) (hRr : rmr.frames + 1 ≤ rm.frames ∧ 60 + rmr.locals ≤ rm.locals ∧ rmr.cells = 0 ∧ rmr.slots = 0) {r_X2_readTest : Hp → Nat → Int32 → Option Hp} (H_X2_readTest : ∀ (h : Hp) (a0 : Nat) (a1 : Int32) (h' : Hp), r_X2_readTest h a0 a1 = some h' → ∀ (l : Launch) (G : GT), MC l G yX2_readTest cX2_readTest 5 none rmr h [vR 2 (some a0), vI a1] none h') {r_X2_readFact : Hp → Nat → Int32 → Option Hp} (H_X2_readFact : ∀ (h : Hp) (a0 : Nat) (a1 : Int32) (h' : Hp), r_X2_readFact h a0 a1 = some h' → ∀ (l : Launch) (G : GT), MC l G yX2_readFact cX2_readFact 5 none rmr h [vR 2 (some a0), vI a1] none h') {X : XT} {h' : Hp} (C : CX X cX2_readTest "WaterStair$RuleText" 5 none rm) (hQ : QX X none h' 0 0) {N : Nat} {s9 : Hp → Nat → Int32 → Int32 → Int32 → Option (Hp)} (S9 : ∀ (h : Hp) (v0 : Nat) (v1 : Int32) (v2 : Int32) (v3 : Int32), s9 h v0 v1 v2 v3 = some h' → V X 0 0 h 9 [(0, vR 2 (some v0)), (1, vI v1), (2, vI v2), (3, vI v3)] []) {h : Hp} {v0 : Nat} {v1 : Int32} {v2 : Int32} {v3 : Int32} (hf : f_X2_readTest_40 N r_X2_readTest r_X2_readFact s9 h v0 v1 v2 v3 = some h') : V X 0 0 h 40 [(0, vR 2 (some v0)), (1, vI v1), (2, vI v2), (3, vI v3)] [] := by
  unfold f_X2_readTest_40 at hf
  refine V_aload_n C dX2_readTest_40 rfl 0 rfl ?_
  obtain ⟨q6, eq6, hf⟩ := o_b hf
  refine V_getR C fl_X2_22 rfl rfl (by decide) eq6 dX2_readTest_41 ?_
  refine V_ldcS C 7 rfl dX2_readTest_44 ?_
  obtain ⟨r7, er7, hf⟩ := o_b hf
  refine V_callV (as := [vR 16 (some (7))]) (st := []) C ml_X2_68 fx6 (ct_X6_isWord er7) rfl ⟨Nat.le_trans (by decide : rmX6_isWord.frames + 1 ≤ 60) hR.1, Nat.le_trans (by decide : 8 + (2 + 11) + rmX6_isWord.locals ≤ 2000) hR.2.1, Nat.le_trans (by decide : 0 + rmX6_isWord.cells ≤ 0) (Nat.zero_le _), Nat.le_trans (by decide : 0 + rmX6_isWord.slots ≤ 0) (Nat.zero_le _)⟩ (Nat.le_of_ble_eq_true rfl) rfl dX2_readTest_46 (cs' := 0) (sl' := 0) rfl rfl ?_
  refine V_istore (lv' := [(4, vI r7), (0, vR 2 (some v0)), (1, vI v1), (2, vI v2), (3, vI v3)]) C dX2_readTest_49 (by decide) rfl ?_
  refine V_iload C dX2_readTest_51 0 rfl ?_
  refine V_if_eq C 66 dX2_readTest_53 (by decide) (fun c8 => ?_) (fun c8 => ?_)
  · have hf := i_t c8 hf
    refine V_sub (lv' := [(0, vR 2 (some v0)), (1, vI v1), (2, vI v2), (3, vI v3), (4, vI r7)]) [1, 2, 3, 4, 0] rfl ?_
    exact p_X2_readTest_66 hR hRr H_X2_readTest H_X2_readFact C hQ S9 hf
  · have hf := i_f c8 hf
    refine V_iload_n C dX2_readTest_56 rfl 3 rfl ?_
    refine V_if_eq C 66 dX2_readTest_57 (by decide) (fun c9 => ?_) (fun c9 => ?_)
    · have hf := i_t c9 hf
      refine V_sub (lv' := [(0, vR 2 (some v0)), (1, vI v1), (2, vI v2), (3, vI v3), (4, vI r7)]) [1, 2, 3, 4, 0] rfl ?_
      exact p_X2_readTest_66 hR hRr H_X2_readTest H_X2_readFact C hQ S9 hf
    · have hf := i_f c9 hf
      refine V_aload_n C dX2_readTest_60 rfl 1 rfl ?_
      refine V_ldc C kc_X2_44 dX2_readTest_61 ?_
      obtain ⟨h10, eh10, hf⟩ := o_b hf
      refine V_callV (as := [vI (100010 : Int32)]) (st := []) C ml_X2_45 fx2 (ct_X2_emit eh10) rfl ⟨Nat.le_trans (by decide : rmX2_emit.frames + 1 ≤ 60) hR.1, Nat.le_trans (by decide : 8 + (2 + 11) + rmX2_emit.locals ≤ 2000) hR.2.1, Nat.le_trans (by decide : 0 + rmX2_emit.cells ≤ 0) (Nat.zero_le _), Nat.le_trans (by decide : 0 + rmX2_emit.slots ≤ 0) (Nat.zero_le _)⟩ (Nat.le_of_ble_eq_true rfl) rfl dX2_readTest_63 (cs' := 0) (sl' := 0) rfl rfl ?_
      refine V_sub (lv' := [(0, vR 2 (some v0)), (1, vI v1), (2, vI v2), (3, vI v3), (4, vI r7)]) [1, 2, 3, 4, 0] rfl ?_
      exact p_X2_readTest_66 hR hRr H_X2_readTest H_X2_readFact C hQ S9 hf
def f_X2_readTest_100 (N : Nat) (r_X2_readTest : Hp → Nat → Int32 → Option Hp) (r_X2_readFact : Hp → Nat → Int32 → Option Hp) (h : Hp) (v0 : Nat) (v2 : Int32) : Option (Hp) := if v2 = 0 then (some h) else (Option.bind (f_X2_emit h v0 (100010 : Int32)) (fun h12 => some h12))
set_option maxHeartbeats 4000000 in
set_option maxRecDepth 100000 in
theorem p_X2_readTest_100 {rm rmr : Room} (hR : 60 ≤ rm.frames ∧ 2000 ≤ rm.locals ∧ rm.cells = 0 ∧ rm.slots = 0) (hRr : rmr.frames + 1 ≤ rm.frames ∧ 60 + rmr.locals ≤ rm.locals ∧ rmr.cells = 0 ∧ rmr.slots = 0) {r_X2_readTest : Hp → Nat → Int32 → Option Hp} (H_X2_readTest : ∀ (h : Hp) (a0 : Nat) (a1 : Int32) (h' : Hp), r_X2_readTest h a0 a1 = some h' → ∀ (l : Launch) (G : GT), MC l G yX2_readTest cX2_readTest 5 none rmr h [vR 2 (some a0), vI a1] none h') {r_X2_readFact : Hp → Nat → Int32 → Option Hp} (H_X2_readFact : ∀ (h : Hp) (a0 : Nat) (a1 : Int32) (h' : Hp), r_X2_readFact h a0 a1 = some h' → ∀ (l : Launch) (G : GT), MC l G yX2_readFact cX2_readFact 5 none rmr h [vR 2 (some a0), vI a1] none h') {X : XT} {h' : Hp} (C : CX X cX2_readTest "WaterStair$RuleText" 5 none rm) (hQ : QX X none h' 0 0) {N : Nat}  {h : Hp} {v0 : Nat} {v2 : Int32} (hf : f_X2_readTest_100 N r_X2_readTest r_X2_readFact h v0 v2 = some h') : V X 0 0 h 100 [(0, vR 2 (some v0)), (2, vI v2)] [] := by
  unfold f_X2_readTest_100 at hf
  refine V_iload_n C dX2_readTest_100 rfl 1 rfl ?_
  refine V_if_eq C 110 dX2_readTest_101 (by decide) (fun c11 => ?_) (fun c11 => ?_)
  · have hf := i_t c11 hf
    have hf := Option.some.inj hf
    subst hf
    exact V_vret C hQ dX2_readTest_110
  · have hf := i_f c11 hf
    refine V_aload_n C dX2_readTest_104 rfl 0 rfl ?_
    refine V_ldc C kc_X2_44 dX2_readTest_105 ?_
    obtain ⟨h12, eh12, hf⟩ := o_b hf
    refine V_callV (as := [vI (100010 : Int32)]) (st := []) C ml_X2_45 fx2 (ct_X2_emit eh12) rfl ⟨Nat.le_trans (by decide : rmX2_emit.frames + 1 ≤ 60) hR.1, Nat.le_trans (by decide : 8 + (2 + 11) + rmX2_emit.locals ≤ 2000) hR.2.1, Nat.le_trans (by decide : 0 + rmX2_emit.cells ≤ 0) (Nat.zero_le _), Nat.le_trans (by decide : 0 + rmX2_emit.slots ≤ 0) (Nat.zero_le _)⟩ (Nat.le_of_ble_eq_true rfl) rfl dX2_readTest_107 (cs' := 0) (sl' := 0) rfl rfl ?_
    have hf := Option.some.inj hf
    subst hf
    exact V_vret C hQ dX2_readTest_110
def f_X2_readTest_9 (N : Nat) (r_X2_readTest : Hp → Nat → Int32 → Option Hp) (r_X2_readFact : Hp → Nat → Int32 → Option Hp) : Nat → Hp → Nat → Int32 → Int32 → Int32 → Option (Hp)
  | 0, _, _, _, _, _ => none
  | n + 1, h, v0, v1, v2, v3 => if (400 : Int32) ≤ v3 then (f_X2_readTest_100 N r_X2_readTest r_X2_readFact h v0 v2) else (Option.bind (hP h v0 0) (fun q14 => Option.bind (f_X6_isWord N h q14 (7)) (fun r15 => if r15 = 0 then (Option.bind (hP h v0 0) (fun q17 => Option.bind (f_X6_isWord N h q17 (8)) (fun r18 => if r18 = 0 then (f_X2_readTest_100 N r_X2_readTest r_X2_readFact h v0 v2) else (f_X2_readTest_40 N r_X2_readTest r_X2_readFact (f_X2_readTest_9 N r_X2_readTest r_X2_readFact n) h v0 v1 v2 v3)))) else (f_X2_readTest_40 N r_X2_readTest r_X2_readFact (f_X2_readTest_9 N r_X2_readTest r_X2_readFact n) h v0 v1 v2 v3))))
set_option maxHeartbeats 4000000 in
set_option maxRecDepth 100000 in
theorem p_X2_readTest_9 {rm rmr : Room} (hR : 60 ≤ rm.frames ∧ 2000 ≤ rm.locals ∧ rm.cells = 0 ∧ rm.slots = 0) (hRr : rmr.frames + 1 ≤ rm.frames ∧ 60 + rmr.locals ≤ rm.locals ∧ rmr.cells = 0 ∧ rmr.slots = 0) {r_X2_readTest : Hp → Nat → Int32 → Option Hp} (H_X2_readTest : ∀ (h : Hp) (a0 : Nat) (a1 : Int32) (h' : Hp), r_X2_readTest h a0 a1 = some h' → ∀ (l : Launch) (G : GT), MC l G yX2_readTest cX2_readTest 5 none rmr h [vR 2 (some a0), vI a1] none h') {r_X2_readFact : Hp → Nat → Int32 → Option Hp} (H_X2_readFact : ∀ (h : Hp) (a0 : Nat) (a1 : Int32) (h' : Hp), r_X2_readFact h a0 a1 = some h' → ∀ (l : Launch) (G : GT), MC l G yX2_readFact cX2_readFact 5 none rmr h [vR 2 (some a0), vI a1] none h') {X : XT} {h' : Hp} (C : CX X cX2_readTest "WaterStair$RuleText" 5 none rm) (hQ : QX X none h' 0 0) {N : Nat}  : ∀ (n : Nat) (h : Hp) (v0 : Nat) (v1 : Int32) (v2 : Int32) (v3 : Int32), f_X2_readTest_9 N r_X2_readTest r_X2_readFact n h v0 v1 v2 v3 = some h' → V X 0 0 h 9 [(0, vR 2 (some v0)), (1, vI v1), (2, vI v2), (3, vI v3)] [] := by
  intro n
  induction n with
  | zero =>
    intro h v0 v1 v2 v3 hf
    have hf : (none : Option (Hp)) = some _ := hf
    cases hf
  | succ n ih =>
    intro h v0 v1 v2 v3 hf
    rw [f_X2_readTest_9] at hf
    refine V_iload_n C dX2_readTest_9 rfl 3 rfl ?_
    refine V_sipush (v := (400 : Int32)) C dX2_readTest_10 (by decide) ?_
    refine V_icmp_ge C 100 dX2_readTest_13 (by decide) (fun c13 => ?_) (fun c13 => ?_)
    · have hf := i_t c13 hf
      refine V_sub (lv' := [(0, vR 2 (some v0)), (2, vI v2)]) [0, 2] rfl ?_
      exact p_X2_readTest_100 hR hRr H_X2_readTest H_X2_readFact C hQ hf
    · have hf := i_f c13 hf
      refine V_aload_n C dX2_readTest_16 rfl 0 rfl ?_
      obtain ⟨q14, eq14, hf⟩ := o_b hf
      refine V_getR C fl_X2_22 rfl rfl (by decide) eq14 dX2_readTest_17 ?_
      refine V_ldcS C 7 rfl dX2_readTest_20 ?_
      obtain ⟨r15, er15, hf⟩ := o_b hf
      refine V_callV (as := [vR 16 (some (7))]) (st := []) C ml_X2_68 fx6 (ct_X6_isWord er15) rfl ⟨Nat.le_trans (by decide : rmX6_isWord.frames + 1 ≤ 60) hR.1, Nat.le_trans (by decide : 8 + (2 + 11) + rmX6_isWord.locals ≤ 2000) hR.2.1, Nat.le_trans (by decide : 0 + rmX6_isWord.cells ≤ 0) (Nat.zero_le _), Nat.le_trans (by decide : 0 + rmX6_isWord.slots ≤ 0) (Nat.zero_le _)⟩ (Nat.le_of_ble_eq_true rfl) rfl dX2_readTest_22 (cs' := 0) (sl' := 0) rfl rfl ?_
      refine V_if_ne C 40 dX2_readTest_25 (by decide) (fun c16 => ?_) (fun c16 => ?_)
      · have hf := i_f c16 hf
        refine V_sub (lv' := [(0, vR 2 (some v0)), (1, vI v1), (2, vI v2), (3, vI v3)]) [0, 1, 2, 3] rfl ?_
        exact p_X2_readTest_40 hR hRr H_X2_readTest H_X2_readFact C hQ ih hf
      · have hf := i_t c16 hf
        refine V_aload_n C dX2_readTest_28 rfl 0 rfl ?_
        obtain ⟨q17, eq17, hf⟩ := o_b hf
        refine V_getR C fl_X2_22 rfl rfl (by decide) eq17 dX2_readTest_29 ?_
        refine V_ldcS C 8 rfl dX2_readTest_32 ?_
        obtain ⟨r18, er18, hf⟩ := o_b hf
        refine V_callV (as := [vR 16 (some (8))]) (st := []) C ml_X2_68 fx6 (ct_X6_isWord er18) rfl ⟨Nat.le_trans (by decide : rmX6_isWord.frames + 1 ≤ 60) hR.1, Nat.le_trans (by decide : 8 + (2 + 11) + rmX6_isWord.locals ≤ 2000) hR.2.1, Nat.le_trans (by decide : 0 + rmX6_isWord.cells ≤ 0) (Nat.zero_le _), Nat.le_trans (by decide : 0 + rmX6_isWord.slots ≤ 0) (Nat.zero_le _)⟩ (Nat.le_of_ble_eq_true rfl) rfl dX2_readTest_34 (cs' := 0) (sl' := 0) rfl rfl ?_
        refine V_if_eq C 100 dX2_readTest_37 (by decide) (fun c19 => ?_) (fun c19 => ?_)
        · have hf := i_t c19 hf
          refine V_sub (lv' := [(0, vR 2 (some v0)), (2, vI v2)]) [0, 2] rfl ?_
          exact p_X2_readTest_100 hR hRr H_X2_readTest H_X2_readFact C hQ hf
        · have hf := i_f c19 hf
          refine V_sub (lv' := [(0, vR 2 (some v0)), (1, vI v1), (2, vI v2), (3, vI v3)]) [0, 1, 2, 3] rfl ?_
          exact p_X2_readTest_40 hR hRr H_X2_readTest H_X2_readFact C hQ ih hf
def f_X2_readTest_o (N : Nat) (r_X2_readTest : Hp → Nat → Int32 → Option Hp) (r_X2_readFact : Hp → Nat → Int32 → Option Hp) (h : Hp) (v0 : Nat) (v1 : Int32) : Option (Hp) := Option.bind (r_X2_readFact h v0 v1) (fun h20 => f_X2_readTest_9 N r_X2_readTest r_X2_readFact N h20 v0 v1 (0 : Int32) (0 : Int32))
set_option maxHeartbeats 4000000 in
set_option maxRecDepth 100000 in
theorem p_X2_readTest {rm rmr : Room} (hR : 60 ≤ rm.frames ∧ 2000 ≤ rm.locals ∧ rm.cells = 0 ∧ rm.slots = 0) (hRr : rmr.frames + 1 ≤ rm.frames ∧ 60 + rmr.locals ≤ rm.locals ∧ rmr.cells = 0 ∧ rmr.slots = 0) {r_X2_readTest : Hp → Nat → Int32 → Option Hp} (H_X2_readTest : ∀ (h : Hp) (a0 : Nat) (a1 : Int32) (h' : Hp), r_X2_readTest h a0 a1 = some h' → ∀ (l : Launch) (G : GT), MC l G yX2_readTest cX2_readTest 5 none rmr h [vR 2 (some a0), vI a1] none h') {r_X2_readFact : Hp → Nat → Int32 → Option Hp} (H_X2_readFact : ∀ (h : Hp) (a0 : Nat) (a1 : Int32) (h' : Hp), r_X2_readFact h a0 a1 = some h' → ∀ (l : Launch) (G : GT), MC l G yX2_readFact cX2_readFact 5 none rmr h [vR 2 (some a0), vI a1] none h') {X : XT} {h' : Hp} (C : CX X cX2_readTest "WaterStair$RuleText" 5 none rm) {N : Nat} {h : Hp} {v0 : Nat} {v1 : Int32} (hQ : QX X none h' rm.cells rm.slots) (hf : f_X2_readTest_o N r_X2_readTest r_X2_readFact h v0 v1 = some h') : V X 0 0 h 0 [(0, vR 2 (some v0)), (1, vI v1)] [] := by
  rw [hR.2.2.1, hR.2.2.2] at hQ
  unfold f_X2_readTest_o at hf
  refine V_aload_n C dX2_readTest_0 rfl 0 rfl ?_
  refine V_iload_n C dX2_readTest_1 rfl 1 rfl ?_
  obtain ⟨h20, eh20, hf⟩ := o_b hf
  refine V_callV (as := [vI v1]) (st := []) C ml_X2_72 fx2 (H_X2_readFact _ _ _ _ eh20) rfl ⟨hRr.1, by have := hRr.2.1; omega, by have := hRr.2.2.1; omega, by have := hRr.2.2.2; omega⟩ (Nat.le_of_ble_eq_true rfl) rfl dX2_readTest_2 (cs' := 0) (sl' := 0) (by have := hRr.2.2.1; omega) (by have := hRr.2.2.2; omega) ?_
  refine V_iconst (v := (0 : Int32)) C dX2_readTest_5 (by decide) ?_
  refine V_istore_n (lv' := [(2, vI (0 : Int32)), (0, vR 2 (some v0)), (1, vI v1)]) C dX2_readTest_6 rfl (by decide) rfl ?_
  refine V_iconst (v := (0 : Int32)) C dX2_readTest_7 (by decide) ?_
  refine V_istore_n (lv' := [(3, vI (0 : Int32)), (2, vI (0 : Int32)), (0, vR 2 (some v0)), (1, vI v1)]) C dX2_readTest_8 rfl (by decide) rfl ?_
  refine V_sub (lv' := [(0, vR 2 (some v0)), (1, vI v1), (2, vI (0 : Int32)), (3, vI (0 : Int32))]) [2, 3, 1, 0] rfl ?_
  exact p_X2_readTest_9 hR hRr H_X2_readTest H_X2_readFact C hQ N _ _ _ _ _ hf
def f_X2_readTest_grp (N : Nat) : Nat → Bool → Hp → Nat → Int32 → Option Hp
  | 0, _, _, _, _ => none
  | D + 1, true, h, v0, v1 => f_X2_readTest_o N (f_X2_readTest_grp N D true) (f_X2_readTest_grp N D false) h v0 v1
  | D + 1, false, h, v0, v1 => f_X2_readFact_o N (f_X2_readTest_grp N D true) (f_X2_readTest_grp N D false) h v0 v1
theorem ct_X2_readTest_grp {N : Nat} : ∀ D : Nat, (∀ (h : Hp) (v0 : Nat) (v1 : Int32) (h' : Hp), f_X2_readTest_grp N D true h v0 v1 = some h' → ∀ (l : Launch) (G : GT), MC l G yX2_readTest cX2_readTest 5 none (rmD D) h [vR 2 (some v0), vI v1] none h') ∧ (∀ (h : Hp) (v0 : Nat) (v1 : Int32) (h' : Hp), f_X2_readTest_grp N D false h v0 v1 = some h' → ∀ (l : Launch) (G : GT), MC l G yX2_readFact cX2_readFact 5 none (rmD D) h [vR 2 (some v0), vI v1] none h')
  | 0 => ⟨fun h v0 v1 h' hf => absurd (show (none : Option Hp) = some h' from hf) (fun z => by cases z), fun h v0 v1 h' hf => absurd (show (none : Option Hp) = some h' from hf) (fun z => by cases z)⟩
  | D + 1 => by
    have ih := ct_X2_readTest_grp (N := N) D
    exact ⟨fun h v0 v1 h' hf l G => MC_of (by decide) rfl (Nat.le_of_ble_eq_true rfl) rfl (fun X C hQ hin => p_X2_readTest (rm := rmD (D + 1)) (rmr := rmD D) ⟨by show 60 ≤ 60 + (D + 1); omega, by show 2000 ≤ 2000 + 60 * (D + 1); omega, rfl, rfl⟩ ⟨Nat.le_refl _, by show 60 + (2000 + 60 * D) ≤ 2000 + 60 * (D + 1); omega, rfl, rfl⟩ ih.1 ih.2 C hQ hf), fun h v0 v1 h' hf l G => MC_of (by decide) rfl (Nat.le_of_ble_eq_true rfl) rfl (fun X C hQ hin => p_X2_readFact (rm := rmD (D + 1)) (rmr := rmD D) ⟨by show 60 ≤ 60 + (D + 1); omega, by show 2000 ≤ 2000 + 60 * (D + 1); omega, rfl, rfl⟩ ⟨Nat.le_refl _, by show 60 + (2000 + 60 * D) ≤ 2000 + 60 * (D + 1); omega, rfl, rfl⟩ ih.1 ih.2 C hQ hf)⟩
abbrev rmX2_readTest : Room := rmD 30
def f_X2_readTest (N : Nat) (h : Hp) (v0 : Nat) (v1 : Int32) : Option Hp := f_X2_readTest_grp N 30 true h v0 v1
theorem ct_X2_readTest {h' : Hp} {N : Nat} {h : Hp} {v0 : Nat} {v1 : Int32} (hf : f_X2_readTest N h v0 v1 = some h') (l : Launch) (G : GT) : MC l G yX2_readTest cX2_readTest 5 none rmX2_readTest h [vR 2 (some v0), vI v1] none h' := (ct_X2_readTest_grp (N := N) 30).1 _ _ _ _ hf l G
abbrev rmX2_readFact : Room := rmD 30
def f_X2_readFact (N : Nat) (h : Hp) (v0 : Nat) (v1 : Int32) : Option Hp := f_X2_readTest_grp N 30 false h v0 v1
theorem ct_X2_readFact {h' : Hp} {N : Nat} {h : Hp} {v0 : Nat} {v1 : Int32} (hf : f_X2_readFact N h v0 v1 = some h') (l : Launch) (G : GT) : MC l G yX2_readFact cX2_readFact 5 none rmX2_readFact h [vR 2 (some v0), vI v1] none h' := (ct_X2_readTest_grp (N := N) 30).2 _ _ _ _ hf l G
abbrev rmX2_takeBar : Room := { frames := 6, cells := 0, slots := 0, locals := 131 }
def f_X2_takeBar_35 (N : Nat) (h : Hp) (v0 : Nat) : Option (Hp) := Option.bind (hP h v0 0) (fun q1 => Option.bind (f_X6_advance N h q1) (fun h2 => some h2))
set_option maxHeartbeats 4000000 in
set_option maxRecDepth 100000 in
theorem p_X2_takeBar_35 {X : XT} {h' : Hp} (C : CX X cX2_takeBar "WaterStair$RuleText" 2 none rmX2_takeBar) (hQ : QX X none h' rmX2_takeBar.cells rmX2_takeBar.slots) {N : Nat}  {h : Hp} {v0 : Nat} (hf : f_X2_takeBar_35 N h v0 = some h') : V X 0 0 h 35 [(0, vR 2 (some v0))] [] := by
  unfold f_X2_takeBar_35 at hf
  refine V_aload_n C dX2_takeBar_35 rfl 0 rfl ?_
  obtain ⟨q1, eq1, hf⟩ := o_b hf
  refine V_getR C fl_X2_22 rfl rfl (by decide) eq1 dX2_takeBar_36 ?_
  obtain ⟨h2, eh2, hf⟩ := o_b hf
  refine V_callV (as := []) (st := []) C ml_X2_63 fx6 (ct_X6_advance eh2) rfl ⟨by decide, by decide, by decide, by decide⟩ (Nat.le_of_ble_eq_true rfl) rfl dX2_takeBar_39 (cs' := 0) (sl' := 0) rfl rfl ?_
  have hf := Option.some.inj hf
  subst hf
  exact V_vret C hQ dX2_takeBar_42
def f_X2_takeBar (N : Nat) (h : Hp) (v0 : Nat) (v1 : Int32) : Option (Hp) := Option.bind (hP h v0 0) (fun q3 => Option.bind (f_X6_isWord N h q3 (4)) (fun r4 => if r4 = 0 then (Option.bind (hP h v0 0) (fun q9 => Option.bind (f_X6_fail h q9 (0 : Int32)) (fun h10 => f_X2_takeBar_35 N h10 v0))) else (if v1 = 0 then (Option.bind (hP h v0 0) (fun q7 => Option.bind (f_X6_fail h q7 (4 : Int32)) (fun h8 => f_X2_takeBar_35 N h8 v0))) else (f_X2_takeBar_35 N h v0))))
set_option maxHeartbeats 4000000 in
set_option maxRecDepth 100000 in
theorem p_X2_takeBar {X : XT} {h' : Hp} (C : CX X cX2_takeBar "WaterStair$RuleText" 2 none rmX2_takeBar) {N : Nat} {h : Hp} {v0 : Nat} {v1 : Int32} (hQ : QX X none h' rmX2_takeBar.cells rmX2_takeBar.slots) (hf : f_X2_takeBar N h v0 v1 = some h') : V X 0 0 h 0 [(0, vR 2 (some v0)), (1, vI v1)] [] := by
  unfold f_X2_takeBar at hf
  refine V_aload_n C dX2_takeBar_0 rfl 0 rfl ?_
  obtain ⟨q3, eq3, hf⟩ := o_b hf
  refine V_getR C fl_X2_22 rfl rfl (by decide) eq3 dX2_takeBar_1 ?_
  refine V_ldcS C 4 rfl dX2_takeBar_4 ?_
  obtain ⟨r4, er4, hf⟩ := o_b hf
  refine V_callV (as := [vR 16 (some (4))]) (st := []) C ml_X2_68 fx6 (ct_X6_isWord er4) rfl ⟨by decide, by decide, by decide, by decide⟩ (Nat.le_of_ble_eq_true rfl) rfl dX2_takeBar_6 (cs' := 0) (sl' := 0) rfl rfl ?_
  refine V_if_ne C 23 dX2_takeBar_9 (by decide) (fun c5 => ?_) (fun c5 => ?_)
  · have hf := i_f c5 hf
    refine V_iload_n C dX2_takeBar_23 rfl 1 rfl ?_
    refine V_if_ne C 35 dX2_takeBar_24 (by decide) (fun c6 => ?_) (fun c6 => ?_)
    · have hf := i_f c6 hf
      refine V_sub (lv' := [(0, vR 2 (some v0))]) [0] rfl ?_
      exact p_X2_takeBar_35 C hQ hf
    · have hf := i_t c6 hf
      refine V_aload_n C dX2_takeBar_27 rfl 0 rfl ?_
      obtain ⟨q7, eq7, hf⟩ := o_b hf
      refine V_getR C fl_X2_22 rfl rfl (by decide) eq7 dX2_takeBar_28 ?_
      refine V_iconst (v := (4 : Int32)) C dX2_takeBar_31 (by decide) ?_
      obtain ⟨h8, eh8, hf⟩ := o_b hf
      refine V_callV (as := [vI (4 : Int32)]) (st := []) C ml_X2_60 fx6 (ct_X6_fail eh8) rfl ⟨by decide, by decide, by decide, by decide⟩ (Nat.le_of_ble_eq_true rfl) rfl dX2_takeBar_32 (cs' := 0) (sl' := 0) rfl rfl ?_
      refine V_sub (lv' := [(0, vR 2 (some v0))]) [0] rfl ?_
      exact p_X2_takeBar_35 C hQ hf
  · have hf := i_t c5 hf
    refine V_aload_n C dX2_takeBar_12 rfl 0 rfl ?_
    obtain ⟨q9, eq9, hf⟩ := o_b hf
    refine V_getR C fl_X2_22 rfl rfl (by decide) eq9 dX2_takeBar_13 ?_
    refine V_iconst (v := (0 : Int32)) C dX2_takeBar_16 (by decide) ?_
    obtain ⟨h10, eh10, hf⟩ := o_b hf
    refine V_callV (as := [vI (0 : Int32)]) (st := []) C ml_X2_60 fx6 (ct_X6_fail eh10) rfl ⟨by decide, by decide, by decide, by decide⟩ (Nat.le_of_ble_eq_true rfl) rfl dX2_takeBar_17 (cs' := 0) (sl' := 0) rfl rfl ?_
    refine V_goto C 35 dX2_takeBar_20 (by decide) ?_
    refine V_sub (lv' := [(0, vR 2 (some v0))]) [0] rfl ?_
    exact p_X2_takeBar_35 C hQ hf
theorem ct_X2_takeBar {h' : Hp} {N : Nat} {h : Hp} {v0 : Nat} {v1 : Int32} (hf : f_X2_takeBar N h v0 v1 = some h') (l : Launch) (G : GT) : MC l G yX2_takeBar cX2_takeBar 2 none rmX2_takeBar h [vR 2 (some v0), vI v1] none h' := MC_of (by decide) rfl (Nat.le_of_ble_eq_true rfl) rfl (fun X C hQ hin => p_X2_takeBar C hQ hf)
abbrev rmX6_begin : Room := { frames := 2, cells := 0, slots := 0, locals := 42 }
def f_X6_begin (N : Nat) (h : Hp) (v0 : Nat) : Option (Hp) := lt (sI h v0 6 (0 : Int32)) (fun h1 => lt (sI h1 v0 5 (0 : Int32)) (fun h2 => Option.bind (f_X6_advance N h2 v0) (fun h3 => some h3)))
set_option maxHeartbeats 4000000 in
set_option maxRecDepth 100000 in
theorem p_X6_begin {X : XT} {h' : Hp} (C : CX X cX6_begin "WaterStair$Tape" 1 none rmX6_begin) {N : Nat} {h : Hp} {v0 : Nat} (hQ : QX X none h' rmX6_begin.cells rmX6_begin.slots) (hf : f_X6_begin N h v0 = some h') : V X 0 0 h 0 [(0, vR 6 (some v0))] [] := by
  unfold f_X6_begin at hf
  refine V_aload_n C dX6_begin_0 rfl 0 rfl ?_
  refine V_iconst (v := (0 : Int32)) C dX6_begin_1 (by decide) ?_
  obtain ⟨h1, eh1, hf⟩ := o_l hf
  refine V_putI C nf_X6_31 rfl (okI_int _) dX6_begin_2 (V_eqH eh1 ?_)
  refine V_aload_n C dX6_begin_5 rfl 0 rfl ?_
  refine V_iconst (v := (0 : Int32)) C dX6_begin_6 (by decide) ?_
  obtain ⟨h2, eh2, hf⟩ := o_l hf
  refine V_putI C nf_X6_28 rfl (okI_int _) dX6_begin_7 (V_eqH eh2 ?_)
  refine V_aload_n C dX6_begin_10 rfl 0 rfl ?_
  obtain ⟨h3, eh3, hf⟩ := o_b hf
  refine V_callV (as := []) (st := []) C ml_X6_34 fx6 (ct_X6_advance eh3) rfl ⟨by decide, by decide, by decide, by decide⟩ (Nat.le_of_ble_eq_true rfl) rfl dX6_begin_11 (cs' := 0) (sl' := 0) rfl rfl ?_
  have hf := Option.some.inj hf
  subst hf
  exact V_vret C hQ dX6_begin_14
theorem ct_X6_begin {h' : Hp} {N : Nat} {h : Hp} {v0 : Nat} (hf : f_X6_begin N h v0 = some h') (l : Launch) (G : GT) : MC l G yX6_begin cX6_begin 1 none rmX6_begin h [vR 6 (some v0)] none h' := MC_of (by decide) rfl (Nat.le_of_ble_eq_true rfl) rfl (fun X C hQ hin => p_X6_begin C hQ hf)
abbrev rmX2_readRule : Room := { frames := 91, cells := 4, slots := 473, locals := 3824 }
def f_X2_readRule_117 (N : Nat) (s19 : Hp → Nat → Int32 → Option (Option Nat × Hp)) (h : Hp) (v0 : Nat) (v1 : Int32) : Option (Option Nat × Hp) := Option.bind (hP h v0 0) (fun q1 => Option.bind (f_X6_advance N h q1) (fun h2 => s19 h2 v0 (v1 + (1 : Int32))))
set_option maxHeartbeats 4000000 in
set_option maxRecDepth 100000 in
theorem p_X2_readRule_117 {X : XT} {r : Option Nat} {h' : Hp} (C : CX X cX2_readRule "WaterStair$RuleText" 2 (some (.object "WaterStair$Rule")) rmX2_readRule) (hQ : QX X (some (vR 1 r)) h' rmX2_readRule.cells rmX2_readRule.slots) {N : Nat} {s19 : Hp → Nat → Int32 → Option (Option Nat × Hp)} (S19 : ∀ (h : Hp) (v0 : Nat) (v1 : Int32), s19 h v0 v1 = some ((r, h')) → V X 0 0 h 19 [(0, vR 2 (some v0)), (1, vI v1)] []) {h : Hp} {v0 : Nat} {v1 : Int32} (hf : f_X2_readRule_117 N s19 h v0 v1 = some ((r, h'))) : V X 0 0 h 117 [(0, vR 2 (some v0)), (1, vI v1)] [] := by
  unfold f_X2_readRule_117 at hf
  refine V_aload_n C dX2_readRule_117 rfl 0 rfl ?_
  obtain ⟨q1, eq1, hf⟩ := o_b hf
  refine V_getR C fl_X2_22 rfl rfl (by decide) eq1 dX2_readRule_118 ?_
  obtain ⟨h2, eh2, hf⟩ := o_b hf
  refine V_callV (as := []) (st := []) C ml_X2_63 fx6 (ct_X6_advance eh2) rfl ⟨by decide, by decide, by decide, by decide⟩ (Nat.le_of_ble_eq_true rfl) rfl dX2_readRule_121 (cs' := 0) (sl' := 0) rfl rfl ?_
  refine V_iinc (lv' := [(1, vI (v1 + (1 : Int32))), (0, vR 2 (some v0))]) C dX2_readRule_124 1 rfl (congrArg (v1 + ·) (by decide : Int32.ofInt (1) = (1 : Int32))) (by decide) rfl ?_
  refine V_goto C 19 dX2_readRule_127 (by decide) ?_
  refine V_sub (lv' := [(0, vR 2 (some v0)), (1, vI (v1 + (1 : Int32)))]) [1, 0] rfl ?_
  exact S19 _ _ _ hf
def f_X2_readRule_65 (N : Nat) (s19 : Hp → Nat → Int32 → Option (Option Nat × Hp)) (h : Hp) (v0 : Nat) (v1 : Int32) : Option (Option Nat × Hp) := Option.bind (hP h v0 0) (fun q3 => if (hI h q3 2) = (256 : Int32) then (lt (nO h 1 0) (fun h9 => Option.bind (hP h9 v0 1) (fun q10 => b2 (f_J7_copyOf_59c91 h9 q10 (hI h9 v0 2)) (fun r11 h12 => Option.bind (f_X1_init h12 (hN h) r11) (fun h13 => some ((hN h, h13))))))) else (Option.bind (hP h v0 0) (fun q5 => if (hI h q5 2) = (59 : Int32) then (f_X2_readRule_117 N s19 h v0 v1) else (Option.bind (hP h v0 0) (fun q7 => Option.bind (f_X6_fail h q7 (0 : Int32)) (fun h8 => f_X2_readRule_117 N s19 h8 v0 v1))))))
set_option maxHeartbeats 4000000 in
set_option maxRecDepth 100000 in
theorem p_X2_readRule_65 {X : XT} {r : Option Nat} {h' : Hp} (C : CX X cX2_readRule "WaterStair$RuleText" 2 (some (.object "WaterStair$Rule")) rmX2_readRule) (hQ : QX X (some (vR 1 r)) h' rmX2_readRule.cells rmX2_readRule.slots) {N : Nat} {s19 : Hp → Nat → Int32 → Option (Option Nat × Hp)} (S19 : ∀ (h : Hp) (v0 : Nat) (v1 : Int32), s19 h v0 v1 = some ((r, h')) → V X 0 0 h 19 [(0, vR 2 (some v0)), (1, vI v1)] []) {h : Hp} {v0 : Nat} {v1 : Int32} (hf : f_X2_readRule_65 N s19 h v0 v1 = some ((r, h'))) : V X 0 0 h 65 [(0, vR 2 (some v0)), (1, vI v1)] [] := by
  unfold f_X2_readRule_65 at hf
  refine V_aload_n C dX2_readRule_65 rfl 0 rfl ?_
  obtain ⟨q3, eq3, hf⟩ := o_b hf
  refine V_getR C fl_X2_22 rfl rfl (by decide) eq3 dX2_readRule_66 ?_
  refine V_getI C fl_X2_48 rfl dX2_readRule_69 ?_
  refine V_sipush (v := (256 : Int32)) C dX2_readRule_72 (by decide) ?_
  refine V_icmp_ne C 97 dX2_readRule_75 (by decide) (fun c4 => ?_) (fun c4 => ?_)
  · have hf := i_f c4 hf
    refine V_aload_n C dX2_readRule_97 rfl 0 rfl ?_
    obtain ⟨q5, eq5, hf⟩ := o_b hf
    refine V_getR C fl_X2_22 rfl rfl (by decide) eq5 dX2_readRule_98 ?_
    refine V_getI C fl_X2_48 rfl dX2_readRule_101 ?_
    refine V_bipush (v := (59 : Int32)) C dX2_readRule_104 (by decide) ?_
    refine V_icmp_eq C 117 dX2_readRule_106 (by decide) (fun c6 => ?_) (fun c6 => ?_)
    · have hf := i_t c6 hf
      refine V_sub (lv' := [(0, vR 2 (some v0)), (1, vI v1)]) [0, 1] rfl ?_
      exact p_X2_readRule_117 C hQ S19 hf
    · have hf := i_f c6 hf
      refine V_aload_n C dX2_readRule_109 rfl 0 rfl ?_
      obtain ⟨q7, eq7, hf⟩ := o_b hf
      refine V_getR C fl_X2_22 rfl rfl (by decide) eq7 dX2_readRule_110 ?_
      refine V_iconst (v := (0 : Int32)) C dX2_readRule_113 (by decide) ?_
      obtain ⟨h8, eh8, hf⟩ := o_b hf
      refine V_callV (as := [vI (0 : Int32)]) (st := []) C ml_X2_60 fx6 (ct_X6_fail eh8) rfl ⟨by decide, by decide, by decide, by decide⟩ (Nat.le_of_ble_eq_true rfl) rfl dX2_readRule_114 (cs' := 0) (sl' := 0) rfl rfl ?_
      refine V_sub (lv' := [(0, vR 2 (some v0)), (1, vI v1)]) [0, 1] rfl ?_
      exact p_X2_readRule_117 C hQ S19 hf
  · have hf := i_t c4 hf
    obtain ⟨h9, eh9, hf⟩ := o_l hf
    refine V_new C nl_X2_42 (by decide) (by decide) dX2_readRule_78 (V_eqH eh9 ?_)
    refine V_dup C dX2_readRule_81 rfl ?_
    refine V_aload_n C dX2_readRule_82 rfl 0 rfl ?_
    obtain ⟨q10, eq10, hf⟩ := o_b hf
    refine V_getR C fl_X2_9 rfl rfl (by decide) eq10 dX2_readRule_83 ?_
    refine V_aload_n C dX2_readRule_86 rfl 0 rfl ?_
    refine V_getI C fl_X2_15 rfl dX2_readRule_87 ?_
    obtain ⟨r11, h12, er11, hf⟩ := o_b2 hf
    refine V_callS (as := [vR 10 (some q10), vI (hI h9 v0 2)]) (st := [vR 1 (some (hN h)), vR 1 (some (hN h))]) C ml_X2_51 (ct_J7_copyOf_59c91 er11) rfl ⟨by decide, by decide, by decide, by decide⟩ (Nat.le_of_ble_eq_true rfl) rfl dX2_readRule_90 (cs' := 2) (sl' := 403) rfl rfl ?_
    obtain ⟨h13, eh13, hf⟩ := o_b hf
    refine V_callI (as := [vR 10 (some r11)]) (st := [vR 1 (some (hN h))]) C ml_X2_57 (by decide) (ct_X1_init eh13) rfl ⟨by decide, by decide, by decide, by decide⟩ (Nat.le_of_ble_eq_true rfl) rfl dX2_readRule_93 (cs' := 4) (sl' := 473) rfl rfl ?_
    obtain ⟨hf1, hf2⟩ := Prod.mk.inj (Option.some.inj hf)
    subst hf1
    subst hf2
    exact V_aret C (Or.inl ⟨_, rfl⟩) (by decide) hQ dX2_readRule_96
def f_X2_readRule_47 (N : Nat) (s19 : Hp → Nat → Int32 → Option (Option Nat × Hp)) (h : Hp) (v0 : Nat) (v1 : Int32) (s1_ : Int32) (s0_ : Nat) : Option (Option Nat × Hp) := Option.bind (f_X2_takeBar N h s0_ s1_) (fun h14 => Option.bind (f_X2_readTest N h14 v0 (0 : Int32)) (fun h15 => if v1 ≤ 0 then (f_X2_readRule_65 N s19 h15 v0 v1) else (Option.bind (f_X2_emit h15 v0 (100010 : Int32)) (fun h17 => f_X2_readRule_65 N s19 h17 v0 v1))))
set_option maxHeartbeats 4000000 in
set_option maxRecDepth 100000 in
theorem p_X2_readRule_47 {X : XT} {r : Option Nat} {h' : Hp} (C : CX X cX2_readRule "WaterStair$RuleText" 2 (some (.object "WaterStair$Rule")) rmX2_readRule) (hQ : QX X (some (vR 1 r)) h' rmX2_readRule.cells rmX2_readRule.slots) {N : Nat} {s19 : Hp → Nat → Int32 → Option (Option Nat × Hp)} (S19 : ∀ (h : Hp) (v0 : Nat) (v1 : Int32), s19 h v0 v1 = some ((r, h')) → V X 0 0 h 19 [(0, vR 2 (some v0)), (1, vI v1)] []) {h : Hp} {v0 : Nat} {v1 : Int32} {s1_ : Int32} {s0_ : Nat} (hf : f_X2_readRule_47 N s19 h v0 v1 s1_ s0_ = some ((r, h'))) : V X 0 0 h 47 [(0, vR 2 (some v0)), (1, vI v1)] [vI s1_, vR 2 (some s0_)] := by
  unfold f_X2_readRule_47 at hf
  obtain ⟨h14, eh14, hf⟩ := o_b hf
  refine V_callV (as := [vI s1_]) (st := []) C ml_X2_34 fx2 (ct_X2_takeBar eh14) rfl ⟨by decide, by decide, by decide, by decide⟩ (Nat.le_of_ble_eq_true rfl) rfl dX2_readRule_47 (cs' := 0) (sl' := 0) rfl rfl ?_
  refine V_aload_n C dX2_readRule_50 rfl 0 rfl ?_
  refine V_iconst (v := (0 : Int32)) C dX2_readRule_51 (by decide) ?_
  obtain ⟨h15, eh15, hf⟩ := o_b hf
  refine V_callV (as := [vI (0 : Int32)]) (st := []) C ml_X2_38 fx2 (ct_X2_readTest eh15) rfl ⟨by decide, by decide, by decide, by decide⟩ (Nat.le_of_ble_eq_true rfl) rfl dX2_readRule_52 (cs' := 0) (sl' := 0) rfl rfl ?_
  refine V_iload_n C dX2_readRule_55 rfl 1 rfl ?_
  refine V_if_le C 65 dX2_readRule_56 (by decide) (fun c16 => ?_) (fun c16 => ?_)
  · have hf := i_t c16 hf
    refine V_sub (lv' := [(0, vR 2 (some v0)), (1, vI v1)]) [0, 1] rfl ?_
    exact p_X2_readRule_65 C hQ S19 hf
  · have hf := i_f c16 hf
    refine V_aload_n C dX2_readRule_59 rfl 0 rfl ?_
    refine V_ldc C kc_X2_44 dX2_readRule_60 ?_
    obtain ⟨h17, eh17, hf⟩ := o_b hf
    refine V_callV (as := [vI (100010 : Int32)]) (st := []) C ml_X2_45 fx2 (ct_X2_emit eh17) rfl ⟨by decide, by decide, by decide, by decide⟩ (Nat.le_of_ble_eq_true rfl) rfl dX2_readRule_62 (cs' := 0) (sl' := 0) rfl rfl ?_
    refine V_sub (lv' := [(0, vR 2 (some v0)), (1, vI v1)]) [0, 1] rfl ?_
    exact p_X2_readRule_65 C hQ S19 hf
def f_X2_readRule_19 (N : Nat) : Nat → Hp → Nat → Int32 → Option (Option Nat × Hp)
  | 0, _, _, _ => none
  | n + 1, h, v0, v1 => if (12 : Int32) < v1 then (some ((none, h))) else (Option.bind (hP h v0 0) (fun q19 => if hI h q19 6 = 0 then (if (12 : Int32) ≤ v1 then (f_X2_readRule_47 N (f_X2_readRule_19 N n) h v0 v1 (0 : Int32) v0) else (f_X2_readRule_47 N (f_X2_readRule_19 N n) h v0 v1 (1 : Int32) v0)) else (some ((none, h)))))
set_option maxHeartbeats 4000000 in
set_option maxRecDepth 100000 in
theorem p_X2_readRule_19 {X : XT} {r : Option Nat} {h' : Hp} (C : CX X cX2_readRule "WaterStair$RuleText" 2 (some (.object "WaterStair$Rule")) rmX2_readRule) (hQ : QX X (some (vR 1 r)) h' rmX2_readRule.cells rmX2_readRule.slots) {N : Nat}  : ∀ (n : Nat) (h : Hp) (v0 : Nat) (v1 : Int32), f_X2_readRule_19 N n h v0 v1 = some ((r, h')) → V X 0 0 h 19 [(0, vR 2 (some v0)), (1, vI v1)] [] := by
  intro n
  induction n with
  | zero =>
    intro h v0 v1 hf
    have hf : (none : Option (Option Nat × Hp)) = some _ := hf
    cases hf
  | succ n ih =>
    intro h v0 v1 hf
    rw [f_X2_readRule_19] at hf
    refine V_iload_n C dX2_readRule_19 rfl 1 rfl ?_
    refine V_bipush (v := (12 : Int32)) C dX2_readRule_20 (by decide) ?_
    refine V_icmp_gt C 130 dX2_readRule_22 (by decide) (fun c18 => ?_) (fun c18 => ?_)
    · have hf := i_t c18 hf
      refine V_null (by decide : 1 < 16) C dX2_readRule_130 ?_
      refine V_wide (cs' := rmX2_readRule.cells) (sl' := rmX2_readRule.slots) (by decide) (by decide) ?_
      obtain ⟨hf1, hf2⟩ := Prod.mk.inj (Option.some.inj hf)
      subst hf1
      subst hf2
      exact V_aret C (Or.inl ⟨_, rfl⟩) (by decide) hQ dX2_readRule_131
    · have hf := i_f c18 hf
      refine V_aload_n C dX2_readRule_25 rfl 0 rfl ?_
      obtain ⟨q19, eq19, hf⟩ := o_b hf
      refine V_getR C fl_X2_22 rfl rfl (by decide) eq19 dX2_readRule_26 ?_
      refine V_getI C fl_X2_31 rfl dX2_readRule_29 ?_
      refine V_if_ne C 130 dX2_readRule_32 (by decide) (fun c20 => ?_) (fun c20 => ?_)
      · have hf := i_f c20 hf
        refine V_null (by decide : 1 < 16) C dX2_readRule_130 ?_
        refine V_wide (cs' := rmX2_readRule.cells) (sl' := rmX2_readRule.slots) (by decide) (by decide) ?_
        obtain ⟨hf1, hf2⟩ := Prod.mk.inj (Option.some.inj hf)
        subst hf1
        subst hf2
        exact V_aret C (Or.inl ⟨_, rfl⟩) (by decide) hQ dX2_readRule_131
      · have hf := i_t c20 hf
        refine V_aload_n C dX2_readRule_35 rfl 0 rfl ?_
        refine V_iload_n C dX2_readRule_36 rfl 1 rfl ?_
        refine V_bipush (v := (12 : Int32)) C dX2_readRule_37 (by decide) ?_
        refine V_icmp_ge C 46 dX2_readRule_39 (by decide) (fun c21 => ?_) (fun c21 => ?_)
        · have hf := i_t c21 hf
          refine V_iconst (v := (0 : Int32)) C dX2_readRule_46 (by decide) ?_
          refine V_sub (lv' := [(0, vR 2 (some v0)), (1, vI v1)]) [0, 1] rfl ?_
          exact p_X2_readRule_47 C hQ ih hf
        · have hf := i_f c21 hf
          refine V_iconst (v := (1 : Int32)) C dX2_readRule_42 (by decide) ?_
          refine V_goto C 47 dX2_readRule_43 (by decide) ?_
          refine V_sub (lv' := [(0, vR 2 (some v0)), (1, vI v1)]) [0, 1] rfl ?_
          exact p_X2_readRule_47 C hQ ih hf
def f_X2_readRule (N : Nat) (h : Hp) (v0 : Nat) : Option (Option Nat × Hp) := lt (sI h v0 2 (0 : Int32)) (fun h22 => lt (sI h22 v0 3 (0 : Int32)) (fun h23 => Option.bind (hP h23 v0 0) (fun q24 => Option.bind (f_X6_begin N h23 q24) (fun h25 => f_X2_readRule_19 N N h25 v0 (0 : Int32)))))
set_option maxHeartbeats 4000000 in
set_option maxRecDepth 100000 in
theorem p_X2_readRule {X : XT} {r : Option Nat} {h' : Hp} (C : CX X cX2_readRule "WaterStair$RuleText" 2 (some (.object "WaterStair$Rule")) rmX2_readRule) {N : Nat} {h : Hp} {v0 : Nat} (hQ : QX X (some (vR 1 r)) h' rmX2_readRule.cells rmX2_readRule.slots) (hf : f_X2_readRule N h v0 = some ((r, h'))) : V X 0 0 h 0 [(0, vR 2 (some v0))] [] := by
  unfold f_X2_readRule at hf
  refine V_aload_n C dX2_readRule_0 rfl 0 rfl ?_
  refine V_iconst (v := (0 : Int32)) C dX2_readRule_1 (by decide) ?_
  obtain ⟨h22, eh22, hf⟩ := o_l hf
  refine V_putI C nf_X2_15 rfl (okI_int _) dX2_readRule_2 (V_eqH eh22 ?_)
  refine V_aload_n C dX2_readRule_5 rfl 0 rfl ?_
  refine V_iconst (v := (0 : Int32)) C dX2_readRule_6 (by decide) ?_
  obtain ⟨h23, eh23, hf⟩ := o_l hf
  refine V_putI C nf_X2_19 rfl (okI_int _) dX2_readRule_7 (V_eqH eh23 ?_)
  refine V_aload_n C dX2_readRule_10 rfl 0 rfl ?_
  obtain ⟨q24, eq24, hf⟩ := o_b hf
  refine V_getR C fl_X2_22 rfl rfl (by decide) eq24 dX2_readRule_11 ?_
  obtain ⟨h25, eh25, hf⟩ := o_b hf
  refine V_callV (as := []) (st := []) C ml_X2_26 fx6 (ct_X6_begin eh25) rfl ⟨by decide, by decide, by decide, by decide⟩ (Nat.le_of_ble_eq_true rfl) rfl dX2_readRule_14 (cs' := 0) (sl' := 0) rfl rfl ?_
  refine V_iconst (v := (0 : Int32)) C dX2_readRule_17 (by decide) ?_
  refine V_istore_n (lv' := [(1, vI (0 : Int32)), (0, vR 2 (some v0))]) C dX2_readRule_18 rfl (by decide) rfl ?_
  refine V_sub (lv' := [(0, vR 2 (some v0)), (1, vI (0 : Int32))]) [1, 0] rfl ?_
  exact p_X2_readRule_19 C hQ N _ _ _ hf
theorem ct_X2_readRule {r : Option Nat} {h' : Hp} {N : Nat} {h : Hp} {v0 : Nat} (hf : f_X2_readRule N h v0 = some ((r, h'))) (l : Launch) (G : GT) : MC l G yX2_readRule cX2_readRule 2 (some (.object "WaterStair$Rule")) rmX2_readRule h [vR 2 (some v0)] (some (vR 1 r)) h' := MC_of (by decide) rfl (Nat.le_of_ble_eq_true rfl) rfl (fun X C hQ hin => p_X2_readRule C hQ hf)
abbrev rmX3_init : Room := { frames := 1, cells := 11, slots := 16176, locals := 20 }
def f_X3_init (h : Hp) (v0 : Nat) (v1 : Nat) : Option (Hp) := lt (nO h 10 16) (fun h1 => lt (sP h1 v0 1 (some (hN h))) (fun h2 => lt (nO h2 10 1500) (fun h3 => lt (sP h3 v0 2 (some (hN h2))) (fun h4 => lt (nO h4 11 1500) (fun h5 => lt (sP h5 v0 3 (some (hN h4))) (fun h6 => lt (nO h6 11 1500) (fun h7 => lt (sP h7 v0 4 (some (hN h6))) (fun h8 => lt (nO h8 10 1500) (fun h9 => lt (sP h9 v0 5 (some (hN h8))) (fun h10 => lt (nO h10 10 1500) (fun h11 => lt (sP h11 v0 6 (some (hN h10))) (fun h12 => lt (nO h12 10 1500) (fun h13 => lt (sP h13 v0 7 (some (hN h12))) (fun h14 => lt (nO h14 10 1500) (fun h15 => lt (sP h15 v0 8 (some (hN h14))) (fun h16 => lt (nO h16 10 1500) (fun h17 => lt (sP h17 v0 9 (some (hN h16))) (fun h18 => lt (nO h18 10 4096) (fun h19 => lt (sP h19 v0 10 (some (hN h18))) (fun h20 => lt (nO h20 10 64) (fun h21 => lt (sP h21 v0 11 (some (hN h20))) (fun h22 => lt (sI h22 v0 12 (0 : Int32)) (fun h23 => lt (sI h23 v0 13 (0 : Int32)) (fun h24 => lt (sI h24 v0 14 (0 : Int32)) (fun h25 => lt (sI h25 v0 15 (-2 : Int32)) (fun h26 => lt (sP h26 v0 0 (some v1)) (fun h27 => some h27)))))))))))))))))))))))))))
set_option maxHeartbeats 4000000 in
set_option maxRecDepth 100000 in
theorem p_X3_init {X : XT} {h' : Hp} (C : CX X cX3_init "WaterStair$Search" 2 none rmX3_init) (hin : X.2.2.2.2.2.2.2.2.1.name = "<init>") {h : Hp} {v0 : Nat} {v1 : Nat} (hQ : QX X none h' rmX3_init.cells rmX3_init.slots) (hf : f_X3_init h v0 v1 = some h') : V X 0 0 h 0 [(0, vR 3 (some v0)), (1, vR 5 (some v1))] [] := by
  unfold f_X3_init at hf
  refine V_aload_n C dX3_init_0 rfl 0 rfl ?_
  refine V_obj C (by decide) ob_X3_3 ob_i ob_c (by decide) (by decide) dX3_init_1 ?_
  refine V_aload_n C dX3_init_4 rfl 0 rfl ?_
  refine V_bipush (v := (16 : Int32)) C dX3_init_5 (by decide) ?_
  obtain ⟨h1, eh1, hf⟩ := o_l hf
  refine V_newi C (by decide) (by decide : Int32.toNatClampNeg (16 : Int32) = 16) (by decide) kA10 (by decide) (by decide) dX3_init_7 (V_eqH eh1 ?_)
  obtain ⟨h2, eh2, hf⟩ := o_l hf
  refine V_putR C hin ff_X3_9 rfl (fun _ => ⟨rfl, rfl⟩) rfl (by decide) dX3_init_9 (V_eqH eh2 ?_)
  refine V_aload_n C dX3_init_12 rfl 0 rfl ?_
  refine V_sipush (v := (1500 : Int32)) C dX3_init_13 (by decide) ?_
  obtain ⟨h3, eh3, hf⟩ := o_l hf
  refine V_newi C (by decide) (by decide : Int32.toNatClampNeg (1500 : Int32) = 1500) (by decide) kA10 (by decide) (by decide) dX3_init_16 (V_eqH eh3 ?_)
  obtain ⟨h4, eh4, hf⟩ := o_l hf
  refine V_putR C hin ff_X3_15 rfl (fun _ => ⟨rfl, rfl⟩) rfl (by decide) dX3_init_18 (V_eqH eh4 ?_)
  refine V_aload_n C dX3_init_21 rfl 0 rfl ?_
  refine V_sipush (v := (1500 : Int32)) C dX3_init_22 (by decide) ?_
  obtain ⟨h5, eh5, hf⟩ := o_l hf
  refine V_newl C (by decide) (by decide : Int32.toNatClampNeg (1500 : Int32) = 1500) (by decide) kA11 (by decide) (by decide) dX3_init_25 (V_eqH eh5 ?_)
  obtain ⟨h6, eh6, hf⟩ := o_l hf
  refine V_putR C hin ff_X3_18 rfl (fun _ => ⟨rfl, rfl⟩) rfl (by decide) dX3_init_27 (V_eqH eh6 ?_)
  refine V_aload_n C dX3_init_30 rfl 0 rfl ?_
  refine V_sipush (v := (1500 : Int32)) C dX3_init_31 (by decide) ?_
  obtain ⟨h7, eh7, hf⟩ := o_l hf
  refine V_newl C (by decide) (by decide : Int32.toNatClampNeg (1500 : Int32) = 1500) (by decide) kA11 (by decide) (by decide) dX3_init_34 (V_eqH eh7 ?_)
  obtain ⟨h8, eh8, hf⟩ := o_l hf
  refine V_putR C hin ff_X3_22 rfl (fun _ => ⟨rfl, rfl⟩) rfl (by decide) dX3_init_36 (V_eqH eh8 ?_)
  refine V_aload_n C dX3_init_39 rfl 0 rfl ?_
  refine V_sipush (v := (1500 : Int32)) C dX3_init_40 (by decide) ?_
  obtain ⟨h9, eh9, hf⟩ := o_l hf
  refine V_newi C (by decide) (by decide : Int32.toNatClampNeg (1500 : Int32) = 1500) (by decide) kA10 (by decide) (by decide) dX3_init_43 (V_eqH eh9 ?_)
  obtain ⟨h10, eh10, hf⟩ := o_l hf
  refine V_putR C hin ff_X3_25 rfl (fun _ => ⟨rfl, rfl⟩) rfl (by decide) dX3_init_45 (V_eqH eh10 ?_)
  refine V_aload_n C dX3_init_48 rfl 0 rfl ?_
  refine V_sipush (v := (1500 : Int32)) C dX3_init_49 (by decide) ?_
  obtain ⟨h11, eh11, hf⟩ := o_l hf
  refine V_newi C (by decide) (by decide : Int32.toNatClampNeg (1500 : Int32) = 1500) (by decide) kA10 (by decide) (by decide) dX3_init_52 (V_eqH eh11 ?_)
  obtain ⟨h12, eh12, hf⟩ := o_l hf
  refine V_putR C hin ff_X3_28 rfl (fun _ => ⟨rfl, rfl⟩) rfl (by decide) dX3_init_54 (V_eqH eh12 ?_)
  refine V_aload_n C dX3_init_57 rfl 0 rfl ?_
  refine V_sipush (v := (1500 : Int32)) C dX3_init_58 (by decide) ?_
  obtain ⟨h13, eh13, hf⟩ := o_l hf
  refine V_newi C (by decide) (by decide : Int32.toNatClampNeg (1500 : Int32) = 1500) (by decide) kA10 (by decide) (by decide) dX3_init_61 (V_eqH eh13 ?_)
  obtain ⟨h14, eh14, hf⟩ := o_l hf
  refine V_putR C hin ff_X3_31 rfl (fun _ => ⟨rfl, rfl⟩) rfl (by decide) dX3_init_63 (V_eqH eh14 ?_)
  refine V_aload_n C dX3_init_66 rfl 0 rfl ?_
  refine V_sipush (v := (1500 : Int32)) C dX3_init_67 (by decide) ?_
  obtain ⟨h15, eh15, hf⟩ := o_l hf
  refine V_newi C (by decide) (by decide : Int32.toNatClampNeg (1500 : Int32) = 1500) (by decide) kA10 (by decide) (by decide) dX3_init_70 (V_eqH eh15 ?_)
  obtain ⟨h16, eh16, hf⟩ := o_l hf
  refine V_putR C hin ff_X3_34 rfl (fun _ => ⟨rfl, rfl⟩) rfl (by decide) dX3_init_72 (V_eqH eh16 ?_)
  refine V_aload_n C dX3_init_75 rfl 0 rfl ?_
  refine V_sipush (v := (1500 : Int32)) C dX3_init_76 (by decide) ?_
  obtain ⟨h17, eh17, hf⟩ := o_l hf
  refine V_newi C (by decide) (by decide : Int32.toNatClampNeg (1500 : Int32) = 1500) (by decide) kA10 (by decide) (by decide) dX3_init_79 (V_eqH eh17 ?_)
  obtain ⟨h18, eh18, hf⟩ := o_l hf
  refine V_putR C hin ff_X3_37 rfl (fun _ => ⟨rfl, rfl⟩) rfl (by decide) dX3_init_81 (V_eqH eh18 ?_)
  refine V_aload_n C dX3_init_84 rfl 0 rfl ?_
  refine V_sipush (v := (4096 : Int32)) C dX3_init_85 (by decide) ?_
  obtain ⟨h19, eh19, hf⟩ := o_l hf
  refine V_newi C (by decide) (by decide : Int32.toNatClampNeg (4096 : Int32) = 4096) (by decide) kA10 (by decide) (by decide) dX3_init_88 (V_eqH eh19 ?_)
  obtain ⟨h20, eh20, hf⟩ := o_l hf
  refine V_putR C hin ff_X3_40 rfl (fun _ => ⟨rfl, rfl⟩) rfl (by decide) dX3_init_90 (V_eqH eh20 ?_)
  refine V_aload_n C dX3_init_93 rfl 0 rfl ?_
  refine V_bipush (v := (64 : Int32)) C dX3_init_94 (by decide) ?_
  obtain ⟨h21, eh21, hf⟩ := o_l hf
  refine V_newi C (by decide) (by decide : Int32.toNatClampNeg (64 : Int32) = 64) (by decide) kA10 (by decide) (by decide) dX3_init_96 (V_eqH eh21 ?_)
  obtain ⟨h22, eh22, hf⟩ := o_l hf
  refine V_putR C hin ff_X3_43 rfl (fun _ => ⟨rfl, rfl⟩) rfl (by decide) dX3_init_98 (V_eqH eh22 ?_)
  refine V_aload_n C dX3_init_101 rfl 0 rfl ?_
  refine V_iconst (v := (0 : Int32)) C dX3_init_102 (by decide) ?_
  obtain ⟨h23, eh23, hf⟩ := o_l hf
  refine V_putI C nf_X3_46 rfl (okI_int _) dX3_init_103 (V_eqH eh23 ?_)
  refine V_aload_n C dX3_init_106 rfl 0 rfl ?_
  refine V_iconst (v := (0 : Int32)) C dX3_init_107 (by decide) ?_
  obtain ⟨h24, eh24, hf⟩ := o_l hf
  refine V_putI C nf_X3_50 rfl (okI_int _) dX3_init_108 (V_eqH eh24 ?_)
  refine V_aload_n C dX3_init_111 rfl 0 rfl ?_
  refine V_iconst (v := (0 : Int32)) C dX3_init_112 (by decide) ?_
  obtain ⟨h25, eh25, hf⟩ := o_l hf
  refine V_putI C nf_X3_53 rfl (okI_z (Or.inl rfl)) dX3_init_113 (V_eqH eh25 ?_)
  refine V_aload_n C dX3_init_116 rfl 0 rfl ?_
  refine V_bipush (v := (-2 : Int32)) C dX3_init_117 (by decide) ?_
  obtain ⟨h26, eh26, hf⟩ := o_l hf
  refine V_putI C nf_X3_57 rfl (okI_int _) dX3_init_119 (V_eqH eh26 ?_)
  refine V_aload_n C dX3_init_122 rfl 0 rfl ?_
  refine V_aload_n C dX3_init_123 rfl 1 rfl ?_
  obtain ⟨h27, eh27, hf⟩ := o_l hf
  refine V_putR C hin ff_X3_60 rfl (fun _ => ⟨rfl, rfl⟩) rfl (by decide) dX3_init_124 (V_eqH eh27 ?_)
  have hf := Option.some.inj hf
  subst hf
  exact V_vret C hQ dX3_init_127
theorem ct_X3_init {h' : Hp} {h : Hp} {v0 : Nat} {v1 : Nat} (hf : f_X3_init h v0 v1 = some h') (l : Launch) (G : GT) : MC l G yX3_init cX3_init 2 none rmX3_init h [vR 3 (some v0), vR 5 (some v1)] none h' := MC_of (by decide) rfl (Nat.le_of_ble_eq_true rfl) rfl (fun X C hQ hin => p_X3_init C hin hQ hf)
abbrev rmX3_forget : Room := { frames := 0, cells := 0, slots := 0, locals := 0 }
def f_X3_forget (h : Hp) (v0 : Nat) : Option (Hp) := lt (sI h v0 15 (-2 : Int32)) (fun h1 => some h1)
set_option maxHeartbeats 4000000 in
set_option maxRecDepth 100000 in
theorem p_X3_forget {X : XT} {h' : Hp} (C : CX X cX3_forget "WaterStair$Search" 1 none rmX3_forget) {h : Hp} {v0 : Nat} (hQ : QX X none h' rmX3_forget.cells rmX3_forget.slots) (hf : f_X3_forget h v0 = some h') : V X 0 0 h 0 [(0, vR 3 (some v0))] [] := by
  unfold f_X3_forget at hf
  refine V_aload_n C dX3_forget_0 rfl 0 rfl ?_
  refine V_bipush (v := (-2 : Int32)) C dX3_forget_1 (by decide) ?_
  obtain ⟨h1, eh1, hf⟩ := o_l hf
  refine V_putI C nf_X3_57 rfl (okI_int _) dX3_forget_3 (V_eqH eh1 ?_)
  have hf := Option.some.inj hf
  subst hf
  exact V_vret C hQ dX3_forget_6
theorem ct_X3_forget {h' : Hp} {h : Hp} {v0 : Nat} (hf : f_X3_forget h v0 = some h') (l : Launch) (G : GT) : MC l G yX3_forget cX3_forget 1 none rmX3_forget h [vR 3 (some v0)] none h' := MC_of (by decide) rfl (Nat.le_of_ble_eq_true rfl) rfl (fun X C hQ hin => p_X3_forget C hQ hf)
abbrev rmJ7_fill_53178 : Room := { frames := 0, cells := 0, slots := 0, locals := 0 }
def f_J7_fill_53178_5 (N : Nat) : Nat → Hp → Nat → Int32 → Int32 → Int32 → Option (Hp)
  | 0, _, _, _, _, _ => none
  | n + 1, h, v0, v1, v2, v3 => if v3 ≤ v2 then (some h) else (if 0 ≤ v2 ∧ v2.toNatClampNeg < hL h v0 then (lt (sI h v0 (v2.toNatClampNeg) v1) (fun h3 => f_J7_fill_53178_5 N n h3 v0 v1 (v2 + (1 : Int32)) v3)) else none)
set_option maxHeartbeats 4000000 in
set_option maxRecDepth 100000 in
theorem p_J7_fill_53178_5 {X : XT} {h' : Hp} (C : CX X cJ7_fill_53178 "java/util/Arrays" 4 none rmJ7_fill_53178) (hQ : QX X none h' rmJ7_fill_53178.cells rmJ7_fill_53178.slots) {N : Nat}  : ∀ (n : Nat) (h : Hp) (v0 : Nat) (v1 : Int32) (v2 : Int32) (v3 : Int32), f_J7_fill_53178_5 N n h v0 v1 v2 v3 = some h' → V X 0 0 h 5 [(0, vR 10 (some v0)), (1, vI v1), (2, vI v2), (3, vI v3)] [] := by
  intro n
  induction n with
  | zero =>
    intro h v0 v1 v2 v3 hf
    have hf : (none : Option (Hp)) = some _ := hf
    cases hf
  | succ n ih =>
    intro h v0 v1 v2 v3 hf
    rw [f_J7_fill_53178_5] at hf
    refine V_iload_n C dJ7_fill_53178_5 rfl 2 rfl ?_
    refine V_iload_n C dJ7_fill_53178_6 rfl 3 rfl ?_
    refine V_icmp_ge C 20 dJ7_fill_53178_7 (by decide) (fun c1 => ?_) (fun c1 => ?_)
    · have hf := i_t c1 hf
      have hf := Option.some.inj hf
      subst hf
      exact V_vret C hQ dJ7_fill_53178_20
    · have hf := i_f c1 hf
      refine V_aload_n C dJ7_fill_53178_10 rfl 0 rfl ?_
      refine V_iload_n C dJ7_fill_53178_11 rfl 2 rfl ?_
      refine V_iload_n C dJ7_fill_53178_12 rfl 1 rfl ?_
      obtain ⟨g2, hf⟩ := o_if hf
      obtain ⟨h3, eh3, hf⟩ := o_l hf
      refine V_iast C (vp_g g2) rfl dJ7_fill_53178_13 (V_eqH eh3 ?_)
      refine V_iinc (lv' := [(2, vI (v2 + (1 : Int32))), (0, vR 10 (some v0)), (1, vI v1), (3, vI v3)]) C dJ7_fill_53178_14 2 rfl (congrArg (v2 + ·) (by decide : Int32.ofInt (1) = (1 : Int32))) (by decide) rfl ?_
      refine V_goto C 5 dJ7_fill_53178_17 (by decide) ?_
      refine V_sub (lv' := [(0, vR 10 (some v0)), (1, vI v1), (2, vI (v2 + (1 : Int32))), (3, vI v3)]) [1, 2, 0, 3] rfl ?_
      exact ih _ _ _ _ _ hf
def f_J7_fill_53178 (N : Nat) (h : Hp) (v0 : Nat) (v1 : Int32) : Option (Hp) := f_J7_fill_53178_5 N N h v0 v1 (0 : Int32) (nI (hL h v0))
set_option maxHeartbeats 4000000 in
set_option maxRecDepth 100000 in
theorem p_J7_fill_53178 {X : XT} {h' : Hp} (C : CX X cJ7_fill_53178 "java/util/Arrays" 4 none rmJ7_fill_53178) {N : Nat} {h : Hp} {v0 : Nat} {v1 : Int32} (hQ : QX X none h' rmJ7_fill_53178.cells rmJ7_fill_53178.slots) (hf : f_J7_fill_53178 N h v0 v1 = some h') : V X 0 0 h 0 [(0, vR 10 (some v0)), (1, vI v1)] [] := by
  unfold f_J7_fill_53178 at hf
  refine V_iconst (v := (0 : Int32)) C dJ7_fill_53178_0 (by decide) ?_
  refine V_istore_n (lv' := [(2, vI (0 : Int32)), (0, vR 10 (some v0)), (1, vI v1)]) C dJ7_fill_53178_1 rfl (by decide) rfl ?_
  refine V_aload_n C dJ7_fill_53178_2 rfl 1 rfl ?_
  refine V_alen C (by decide) (by decide) dJ7_fill_53178_3 ?_
  refine V_istore_n (lv' := [(3, vI (nI (hL h v0))), (2, vI (0 : Int32)), (0, vR 10 (some v0)), (1, vI v1)]) C dJ7_fill_53178_4 rfl (by decide) rfl ?_
  refine V_sub (lv' := [(0, vR 10 (some v0)), (1, vI v1), (2, vI (0 : Int32)), (3, vI (nI (hL h v0)))]) [2, 3, 1, 0] rfl ?_
  exact p_J7_fill_53178_5 C hQ N _ _ _ _ _ hf
theorem ct_J7_fill_53178 {h' : Hp} {N : Nat} {h : Hp} {v0 : Nat} {v1 : Int32} (hf : f_J7_fill_53178 N h v0 v1 = some h') (l : Launch) (G : GT) : MC l G yJ7_fill_53178 cJ7_fill_53178 4 none rmJ7_fill_53178 h [vR 10 (some v0), vI v1] none h' := MC_of (by decide) rfl (Nat.le_of_ble_eq_true rfl) rfl (fun X C hQ hin => p_J7_fill_53178 C hQ hf)
abbrev rmX3_putInHeap : Room := { frames := 0, cells := 0, slots := 0, locals := 0 }
def f_X3_putInHeap (h : Hp) (v0 : Nat) (v1 : Int32) (v2 : Int32) : Option (Hp) := Option.bind (hP h v0 8) (fun q1 => if 0 ≤ v1 ∧ v1.toNatClampNeg < hL h q1 then (lt (sI h q1 (v1.toNatClampNeg) v2) (fun h3 => Option.bind (hP h3 v0 9) (fun q4 => if 0 ≤ v2 ∧ v2.toNatClampNeg < hL h3 q4 then (lt (sI h3 q4 (v2.toNatClampNeg) v1) (fun h6 => some h6)) else none))) else none)
set_option maxHeartbeats 4000000 in
set_option maxRecDepth 100000 in
theorem p_X3_putInHeap {X : XT} {h' : Hp} (C : CX X cX3_putInHeap "WaterStair$Search" 3 none rmX3_putInHeap) {h : Hp} {v0 : Nat} {v1 : Int32} {v2 : Int32} (hQ : QX X none h' rmX3_putInHeap.cells rmX3_putInHeap.slots) (hf : f_X3_putInHeap h v0 v1 v2 = some h') : V X 0 0 h 0 [(0, vR 3 (some v0)), (1, vI v1), (2, vI v2)] [] := by
  unfold f_X3_putInHeap at hf
  refine V_aload_n C dX3_putInHeap_0 rfl 0 rfl ?_
  obtain ⟨q1, eq1, hf⟩ := o_b hf
  refine V_getR C fl_X3_34 rfl rfl (by decide) eq1 dX3_putInHeap_1 ?_
  refine V_iload_n C dX3_putInHeap_4 rfl 1 rfl ?_
  refine V_iload_n C dX3_putInHeap_5 rfl 2 rfl ?_
  obtain ⟨g2, hf⟩ := o_if hf
  obtain ⟨h3, eh3, hf⟩ := o_l hf
  refine V_iast C (vp_g g2) rfl dX3_putInHeap_6 (V_eqH eh3 ?_)
  refine V_aload_n C dX3_putInHeap_7 rfl 0 rfl ?_
  obtain ⟨q4, eq4, hf⟩ := o_b hf
  refine V_getR C fl_X3_37 rfl rfl (by decide) eq4 dX3_putInHeap_8 ?_
  refine V_iload_n C dX3_putInHeap_11 rfl 2 rfl ?_
  refine V_iload_n C dX3_putInHeap_12 rfl 1 rfl ?_
  obtain ⟨g5, hf⟩ := o_if hf
  obtain ⟨h6, eh6, hf⟩ := o_l hf
  refine V_iast C (vp_g g5) rfl dX3_putInHeap_13 (V_eqH eh6 ?_)
  have hf := Option.some.inj hf
  subst hf
  exact V_vret C hQ dX3_putInHeap_14
theorem ct_X3_putInHeap {h' : Hp} {h : Hp} {v0 : Nat} {v1 : Int32} {v2 : Int32} (hf : f_X3_putInHeap h v0 v1 v2 = some h') (l : Launch) (G : GT) : MC l G yX3_putInHeap cX3_putInHeap 3 none rmX3_putInHeap h [vR 3 (some v0), vI v1, vI v2] none h' := MC_of (by decide) rfl (Nat.le_of_ble_eq_true rfl) rfl (fun X C hQ hin => p_X3_putInHeap C hQ hf)
abbrev rmX5_packedPlaces : Room := { frames := 0, cells := 0, slots := 0, locals := 0 }
def f_X5_packedPlaces_4 (N : Nat) : Nat → Hp → Nat → Int32 → Int32 → Option (Int32)
  | 0, _, _, _, _ => none
  | n + 1, h, v0, v1, v2 => if (hI h v0 1) ≤ v2 then (some v1) else (Option.bind (hP h v0 12) (fun q2 => if 0 ≤ v2 ∧ v2.toNatClampNeg < hL h q2 then (lt (v1 ||| ((hI h q2 (v2.toNatClampNeg)) <<< (((3 : Int32) * v2) &&& 31))) (fun y4 => f_X5_packedPlaces_4 N n h v0 y4 (v2 + (1 : Int32)))) else none))
set_option maxHeartbeats 4000000 in
set_option maxRecDepth 100000 in
theorem p_X5_packedPlaces_4 {X : XT} {r : Int32} {h : Hp} (C : CX X cX5_packedPlaces "WaterStair$State" 3 (some .int) rmX5_packedPlaces) (hQ : QX X (some (vI r)) h rmX5_packedPlaces.cells rmX5_packedPlaces.slots) {N : Nat}  : ∀ (n : Nat) (v0 : Nat) (v1 : Int32) (v2 : Int32), f_X5_packedPlaces_4 N n h v0 v1 v2 = some r → V X 0 0 h 4 [(0, vR 5 (some v0)), (1, vI v1), (2, vI v2)] [] := by
  intro n
  induction n with
  | zero =>
    intro v0 v1 v2 hf
    have hf : (none : Option (Int32)) = some _ := hf
    cases hf
  | succ n ih =>
    intro v0 v1 v2 hf
    rw [f_X5_packedPlaces_4] at hf
    refine V_iload_n C dX5_packedPlaces_4 rfl 2 rfl ?_
    refine V_aload_n C dX5_packedPlaces_5 rfl 0 rfl ?_
    refine V_getI C fl_X5_15 rfl dX5_packedPlaces_6 ?_
    refine V_icmp_ge C 31 dX5_packedPlaces_9 (by decide) (fun c1 => ?_) (fun c1 => ?_)
    · have hf := i_t c1 hf
      refine V_iload_n C dX5_packedPlaces_31 rfl 1 rfl ?_
      have hf := Option.some.inj hf
      subst hf
      exact V_iret C hQ dX5_packedPlaces_32
    · have hf := i_f c1 hf
      refine V_iload_n C dX5_packedPlaces_12 rfl 1 rfl ?_
      refine V_aload_n C dX5_packedPlaces_13 rfl 0 rfl ?_
      obtain ⟨q2, eq2, hf⟩ := o_b hf
      refine V_getR C fl_X5_49 rfl rfl (by decide) eq2 dX5_packedPlaces_14 ?_
      refine V_iload_n C dX5_packedPlaces_17 rfl 2 rfl ?_
      obtain ⟨g3, hf⟩ := o_if hf
      refine V_iald C (vp_g g3) rfl dX5_packedPlaces_18 ?_
      refine V_iconst (v := (3 : Int32)) C dX5_packedPlaces_19 (by decide) ?_
      refine V_iload_n C dX5_packedPlaces_20 rfl 2 rfl ?_
      refine V_imul C dX5_packedPlaces_21 ?_
      refine V_ishl C dX5_packedPlaces_22 ?_
      refine V_ior C dX5_packedPlaces_23 ?_
      obtain ⟨y4, ey4, hf⟩ := o_l hf
      refine V_eqI ey4 ?_
      refine V_istore_n (lv' := [(1, vI y4), (0, vR 5 (some v0)), (2, vI v2)]) C dX5_packedPlaces_24 rfl (by decide) rfl ?_
      refine V_iinc (lv' := [(2, vI (v2 + (1 : Int32))), (1, vI y4), (0, vR 5 (some v0))]) C dX5_packedPlaces_25 2 rfl (congrArg (v2 + ·) (by decide : Int32.ofInt (1) = (1 : Int32))) (by decide) rfl ?_
      refine V_goto C 4 dX5_packedPlaces_28 (by decide) ?_
      refine V_sub (lv' := [(0, vR 5 (some v0)), (1, vI y4), (2, vI (v2 + (1 : Int32)))]) [2, 1, 0] rfl ?_
      exact ih _ _ _ hf
def f_X5_packedPlaces (N : Nat) (h : Hp) (v0 : Nat) : Option (Int32) := f_X5_packedPlaces_4 N N h v0 (0 : Int32) (0 : Int32)
set_option maxHeartbeats 4000000 in
set_option maxRecDepth 100000 in
theorem p_X5_packedPlaces {X : XT} {r : Int32} (C : CX X cX5_packedPlaces "WaterStair$State" 3 (some .int) rmX5_packedPlaces) {N : Nat} {h : Hp} {v0 : Nat} (hQ : QX X (some (vI r)) h rmX5_packedPlaces.cells rmX5_packedPlaces.slots) (hf : f_X5_packedPlaces N h v0 = some r) : V X 0 0 h 0 [(0, vR 5 (some v0))] [] := by
  unfold f_X5_packedPlaces at hf
  refine V_iconst (v := (0 : Int32)) C dX5_packedPlaces_0 (by decide) ?_
  refine V_istore_n (lv' := [(1, vI (0 : Int32)), (0, vR 5 (some v0))]) C dX5_packedPlaces_1 rfl (by decide) rfl ?_
  refine V_iconst (v := (0 : Int32)) C dX5_packedPlaces_2 (by decide) ?_
  refine V_istore_n (lv' := [(2, vI (0 : Int32)), (1, vI (0 : Int32)), (0, vR 5 (some v0))]) C dX5_packedPlaces_3 rfl (by decide) rfl ?_
  refine V_sub (lv' := [(0, vR 5 (some v0)), (1, vI (0 : Int32)), (2, vI (0 : Int32))]) [2, 1, 0] rfl ?_
  exact p_X5_packedPlaces_4 C hQ N _ _ _ hf
theorem ct_X5_packedPlaces {r : Int32} {N : Nat} {h : Hp} {v0 : Nat} (hf : f_X5_packedPlaces N h v0 = some r) (l : Launch) (G : GT) : MC l G yX5_packedPlaces cX5_packedPlaces 3 (some .int) rmX5_packedPlaces h [vR 5 (some v0)] (some (vI r)) h := MC_of (by decide) rfl (Nat.le_of_ble_eq_true rfl) rfl (fun X C hQ hin => p_X5_packedPlaces C hQ hf)
abbrev rmX5_packedWater : Room := { frames := 0, cells := 0, slots := 0, locals := 0 }
def f_X5_packedWater_5 (N : Nat) : Nat → Hp → Nat → Int32 → Int64 → Int32 → Option (Int64)
  | 0, _, _, _, _, _ => none
  | n + 1, h, v0, v1, v2, v4 => if (4 : Int32) ≤ v4 then (some v2) else (if (hI h v0 0) ≤ (v1 + v4) then (some v2) else (Option.bind (hP h v0 8) (fun q3 => if 0 ≤ v1 + v4 ∧ (v1 + v4).toNatClampNeg < hL h q3 then (lt (v2 ||| (((hI h q3 ((v1 + v4).toNatClampNeg)).toInt64) <<< (((16 : Int32) * v4).toInt64 &&& 63))) (fun y5 => f_X5_packedWater_5 N n h v0 v1 y5 (v4 + (1 : Int32)))) else none)))
set_option maxHeartbeats 4000000 in
set_option maxRecDepth 100000 in
theorem p_X5_packedWater_5 {X : XT} {r : Int64} {h : Hp} (C : CX X cX5_packedWater "WaterStair$State" 5 (some .long) rmX5_packedWater) (hQ : QX X (some (vL r)) h rmX5_packedWater.cells rmX5_packedWater.slots) {N : Nat}  : ∀ (n : Nat) (v0 : Nat) (v1 : Int32) (v2 : Int64) (v4 : Int32), f_X5_packedWater_5 N n h v0 v1 v2 v4 = some r → V X 0 0 h 5 [(0, vR 5 (some v0)), (1, vI v1), (2, vL v2), (4, vI v4)] [] := by
  intro n
  induction n with
  | zero =>
    intro v0 v1 v2 v4 hf
    have hf : (none : Option (Int64)) = some _ := hf
    cases hf
  | succ n ih =>
    intro v0 v1 v2 v4 hf
    rw [f_X5_packedWater_5] at hf
    refine V_iload C dX5_packedWater_5 3 rfl ?_
    refine V_iconst (v := (4 : Int32)) C dX5_packedWater_7 (by decide) ?_
    refine V_icmp_ge C 47 dX5_packedWater_8 (by decide) (fun c1 => ?_) (fun c1 => ?_)
    · have hf := i_t c1 hf
      refine V_lload_n C dX5_packedWater_47 rfl 2 rfl ?_
      have hf := Option.some.inj hf
      subst hf
      exact V_lret C hQ dX5_packedWater_48
    · have hf := i_f c1 hf
      refine V_iload_n C dX5_packedWater_11 rfl 1 rfl ?_
      refine V_iload C dX5_packedWater_12 3 rfl ?_
      refine V_iadd C dX5_packedWater_14 ?_
      refine V_aload_n C dX5_packedWater_15 rfl 0 rfl ?_
      refine V_getI C fl_X5_9 rfl dX5_packedWater_16 ?_
      refine V_icmp_ge C 47 dX5_packedWater_19 (by decide) (fun c2 => ?_) (fun c2 => ?_)
      · have hf := i_t c2 hf
        refine V_lload_n C dX5_packedWater_47 rfl 2 rfl ?_
        have hf := Option.some.inj hf
        subst hf
        exact V_lret C hQ dX5_packedWater_48
      · have hf := i_f c2 hf
        refine V_lload_n C dX5_packedWater_22 rfl 2 rfl ?_
        refine V_aload_n C dX5_packedWater_23 rfl 0 rfl ?_
        obtain ⟨q3, eq3, hf⟩ := o_b hf
        refine V_getR C fl_X5_36 rfl rfl (by decide) eq3 dX5_packedWater_24 ?_
        refine V_iload_n C dX5_packedWater_27 rfl 1 rfl ?_
        refine V_iload C dX5_packedWater_28 3 rfl ?_
        refine V_iadd C dX5_packedWater_30 ?_
        obtain ⟨g4, hf⟩ := o_if hf
        refine V_iald C (vp_g g4) rfl dX5_packedWater_31 ?_
        refine V_i2l C dX5_packedWater_32 ?_
        refine V_bipush (v := (16 : Int32)) C dX5_packedWater_33 (by decide) ?_
        refine V_iload C dX5_packedWater_35 3 rfl ?_
        refine V_imul C dX5_packedWater_37 ?_
        refine V_lshl C dX5_packedWater_38 ?_
        refine V_lor C dX5_packedWater_39 ?_
        obtain ⟨y5, ey5, hf⟩ := o_l hf
        refine V_eqL ey5 ?_
        refine V_lstore_n (lv' := [(2, vL y5), (0, vR 5 (some v0)), (1, vI v1), (4, vI v4)]) C dX5_packedWater_40 rfl (by decide) rfl ?_
        refine V_iinc (lv' := [(4, vI (v4 + (1 : Int32))), (2, vL y5), (0, vR 5 (some v0)), (1, vI v1)]) C dX5_packedWater_41 3 rfl (congrArg (v4 + ·) (by decide : Int32.ofInt (1) = (1 : Int32))) (by decide) rfl ?_
        refine V_goto C 5 dX5_packedWater_44 (by decide) ?_
        refine V_sub (lv' := [(0, vR 5 (some v0)), (1, vI v1), (2, vL y5), (4, vI (v4 + (1 : Int32)))]) [2, 3, 1, 0] rfl ?_
        exact ih _ _ _ _ hf
def f_X5_packedWater (N : Nat) (h : Hp) (v0 : Nat) (v1 : Int32) : Option (Int64) := f_X5_packedWater_5 N N h v0 v1 (0 : Int64) (0 : Int32)
set_option maxHeartbeats 4000000 in
set_option maxRecDepth 100000 in
theorem p_X5_packedWater {X : XT} {r : Int64} (C : CX X cX5_packedWater "WaterStair$State" 5 (some .long) rmX5_packedWater) {N : Nat} {h : Hp} {v0 : Nat} {v1 : Int32} (hQ : QX X (some (vL r)) h rmX5_packedWater.cells rmX5_packedWater.slots) (hf : f_X5_packedWater N h v0 v1 = some r) : V X 0 0 h 0 [(0, vR 5 (some v0)), (1, vI v1)] [] := by
  unfold f_X5_packedWater at hf
  refine V_lconst (v := (0 : Int64)) C dX5_packedWater_0 (by decide) ?_
  refine V_lstore_n (lv' := [(2, vL (0 : Int64)), (0, vR 5 (some v0)), (1, vI v1)]) C dX5_packedWater_1 rfl (by decide) rfl ?_
  refine V_iconst (v := (0 : Int32)) C dX5_packedWater_2 (by decide) ?_
  refine V_istore (lv' := [(4, vI (0 : Int32)), (2, vL (0 : Int64)), (0, vR 5 (some v0)), (1, vI v1)]) C dX5_packedWater_3 (by decide) rfl ?_
  refine V_sub (lv' := [(0, vR 5 (some v0)), (1, vI v1), (2, vL (0 : Int64)), (4, vI (0 : Int32))]) [2, 3, 1, 0] rfl ?_
  exact p_X5_packedWater_5 C hQ N _ _ _ _ hf
theorem ct_X5_packedWater {r : Int64} {N : Nat} {h : Hp} {v0 : Nat} {v1 : Int32} (hf : f_X5_packedWater N h v0 v1 = some r) (l : Launch) (G : GT) : MC l G yX5_packedWater cX5_packedWater 5 (some .long) rmX5_packedWater h [vR 5 (some v0), vI v1] (some (vL r)) h := MC_of (by decide) rfl (Nat.le_of_ble_eq_true rfl) rfl (fun X C hQ hin => p_X5_packedWater C hQ hf)
abbrev rmX3_addTrial : Room := { frames := 1, cells := 0, slots := 0, locals := 24 }
def f_X3_addTrial (N : Nat) (h : Hp) (v0 : Nat) (v1 : Int32) : Option (Int32 × Hp) := lt (sI h v0 12 ((hI h v0 12) + (1 : Int32))) (fun h1 => Option.bind (hP h1 v0 10) (fun q2 => if 0 ≤ v1 ∧ v1.toNatClampNeg < hL h1 q2 then (lt (sI h1 q2 (v1.toNatClampNeg) (hI h1 v0 12)) (fun h4 => Option.bind (hP h4 v0 2) (fun q5 => Option.bind (hP h4 v0 0) (fun q6 => Option.bind (f_X5_packedPlaces N h4 q6) (fun r7 => if 0 ≤ hI h v0 12 ∧ (hI h v0 12).toNatClampNeg < hL h4 q5 then (lt (sI h4 q5 ((hI h v0 12).toNatClampNeg) r7) (fun h9 => Option.bind (hP h9 v0 3) (fun q10 => Option.bind (hP h9 v0 0) (fun q11 => Option.bind (f_X5_packedWater N h9 q11 (0 : Int32)) (fun r12 => if 0 ≤ hI h v0 12 ∧ (hI h v0 12).toNatClampNeg < hL h9 q10 then (lt (sJ h9 q10 ((hI h v0 12).toNatClampNeg) r12) (fun h14 => Option.bind (hP h14 v0 4) (fun q15 => Option.bind (hP h14 v0 0) (fun q16 => Option.bind (f_X5_packedWater N h14 q16 (4 : Int32)) (fun r17 => if 0 ≤ hI h v0 12 ∧ (hI h v0 12).toNatClampNeg < hL h14 q15 then (lt (sJ h14 q15 ((hI h v0 12).toNatClampNeg) r17) (fun h19 => Option.bind (f_X3_putInHeap h19 v0 (hI h19 v0 13) (hI h v0 12)) (fun h20 => lt (sI h20 v0 13 ((hI h20 v0 13) + (1 : Int32))) (fun h21 => some ((hI h v0 12, h21)))))) else none))))) else none))))) else none))))) else none))
set_option maxHeartbeats 4000000 in
set_option maxRecDepth 100000 in
theorem p_X3_addTrial {X : XT} {r : Int32} {h' : Hp} (C : CX X cX3_addTrial "WaterStair$Search" 3 (some .int) rmX3_addTrial) {N : Nat} {h : Hp} {v0 : Nat} {v1 : Int32} (hQ : QX X (some (vI r)) h' rmX3_addTrial.cells rmX3_addTrial.slots) (hf : f_X3_addTrial N h v0 v1 = some ((r, h'))) : V X 0 0 h 0 [(0, vR 3 (some v0)), (1, vI v1)] [] := by
  unfold f_X3_addTrial at hf
  refine V_aload_n C dX3_addTrial_0 rfl 0 rfl ?_
  refine V_getI C fl_X3_46 rfl dX3_addTrial_1 ?_
  refine V_istore_n (lv' := [(2, vI (hI h v0 12)), (0, vR 3 (some v0)), (1, vI v1)]) C dX3_addTrial_4 rfl (by decide) rfl ?_
  refine V_aload_n C dX3_addTrial_5 rfl 1 rfl ?_
  refine V_dup C dX3_addTrial_6 rfl ?_
  refine V_getI C fl_X3_46 rfl dX3_addTrial_7 ?_
  refine V_iconst (v := (1 : Int32)) C dX3_addTrial_10 (by decide) ?_
  refine V_iadd C dX3_addTrial_11 ?_
  obtain ⟨h1, eh1, hf⟩ := o_l hf
  refine V_putI C nf_X3_46 rfl (okI_int _) dX3_addTrial_12 (V_eqH eh1 ?_)
  refine V_aload_n C dX3_addTrial_15 rfl 1 rfl ?_
  obtain ⟨q2, eq2, hf⟩ := o_b hf
  refine V_getR C fl_X3_40 rfl rfl (by decide) eq2 dX3_addTrial_16 ?_
  refine V_iload_n C dX3_addTrial_19 rfl 2 rfl ?_
  refine V_aload_n C dX3_addTrial_20 rfl 1 rfl ?_
  refine V_getI C fl_X3_46 rfl dX3_addTrial_21 ?_
  obtain ⟨g3, hf⟩ := o_if hf
  obtain ⟨h4, eh4, hf⟩ := o_l hf
  refine V_iast C (vp_g g3) rfl dX3_addTrial_24 (V_eqH eh4 ?_)
  refine V_aload_n C dX3_addTrial_25 rfl 1 rfl ?_
  obtain ⟨q5, eq5, hf⟩ := o_b hf
  refine V_getR C fl_X3_15 rfl rfl (by decide) eq5 dX3_addTrial_26 ?_
  refine V_iload_n C dX3_addTrial_29 rfl 0 rfl ?_
  refine V_aload_n C dX3_addTrial_30 rfl 1 rfl ?_
  obtain ⟨q6, eq6, hf⟩ := o_b hf
  refine V_getR C fl_X3_60 rfl rfl (by decide) eq6 dX3_addTrial_31 ?_
  obtain ⟨r7, er7, hf⟩ := o_b hf
  refine V_callV (as := []) (st := [vI (hI h v0 12), vR 10 (some q5)]) C ml_X3_152 fx5 (ct_X5_packedPlaces er7) rfl ⟨by decide, by decide, by decide, by decide⟩ (Nat.le_of_ble_eq_true rfl) rfl dX3_addTrial_34 (cs' := 0) (sl' := 0) rfl rfl ?_
  obtain ⟨g8, hf⟩ := o_if hf
  obtain ⟨h9, eh9, hf⟩ := o_l hf
  refine V_iast C (vp_g g8) rfl dX3_addTrial_37 (V_eqH eh9 ?_)
  refine V_aload_n C dX3_addTrial_38 rfl 1 rfl ?_
  obtain ⟨q10, eq10, hf⟩ := o_b hf
  refine V_getR C fl_X3_18 rfl rfl (by decide) eq10 dX3_addTrial_39 ?_
  refine V_iload_n C dX3_addTrial_42 rfl 0 rfl ?_
  refine V_aload_n C dX3_addTrial_43 rfl 1 rfl ?_
  obtain ⟨q11, eq11, hf⟩ := o_b hf
  refine V_getR C fl_X3_60 rfl rfl (by decide) eq11 dX3_addTrial_44 ?_
  refine V_iconst (v := (0 : Int32)) C dX3_addTrial_47 (by decide) ?_
  obtain ⟨r12, er12, hf⟩ := o_b hf
  refine V_callV (as := [vI (0 : Int32)]) (st := [vI (hI h v0 12), vR 11 (some q10)]) C ml_X3_155 fx5 (ct_X5_packedWater er12) rfl ⟨by decide, by decide, by decide, by decide⟩ (Nat.le_of_ble_eq_true rfl) rfl dX3_addTrial_48 (cs' := 0) (sl' := 0) rfl rfl ?_
  obtain ⟨g13, hf⟩ := o_if hf
  obtain ⟨h14, eh14, hf⟩ := o_l hf
  refine V_last C (vp_g g13) rfl dX3_addTrial_51 (V_eqH eh14 ?_)
  refine V_aload_n C dX3_addTrial_52 rfl 1 rfl ?_
  obtain ⟨q15, eq15, hf⟩ := o_b hf
  refine V_getR C fl_X3_22 rfl rfl (by decide) eq15 dX3_addTrial_53 ?_
  refine V_iload_n C dX3_addTrial_56 rfl 0 rfl ?_
  refine V_aload_n C dX3_addTrial_57 rfl 1 rfl ?_
  obtain ⟨q16, eq16, hf⟩ := o_b hf
  refine V_getR C fl_X3_60 rfl rfl (by decide) eq16 dX3_addTrial_58 ?_
  refine V_iconst (v := (4 : Int32)) C dX3_addTrial_61 (by decide) ?_
  obtain ⟨r17, er17, hf⟩ := o_b hf
  refine V_callV (as := [vI (4 : Int32)]) (st := [vI (hI h v0 12), vR 11 (some q15)]) C ml_X3_155 fx5 (ct_X5_packedWater er17) rfl ⟨by decide, by decide, by decide, by decide⟩ (Nat.le_of_ble_eq_true rfl) rfl dX3_addTrial_62 (cs' := 0) (sl' := 0) rfl rfl ?_
  obtain ⟨g18, hf⟩ := o_if hf
  obtain ⟨h19, eh19, hf⟩ := o_l hf
  refine V_last C (vp_g g18) rfl dX3_addTrial_65 (V_eqH eh19 ?_)
  refine V_aload_n C dX3_addTrial_66 rfl 1 rfl ?_
  refine V_aload_n C dX3_addTrial_67 rfl 1 rfl ?_
  refine V_getI C fl_X3_50 rfl dX3_addTrial_68 ?_
  refine V_iload_n C dX3_addTrial_71 rfl 0 rfl ?_
  obtain ⟨h20, eh20, hf⟩ := o_b hf
  refine V_callV (as := [vI (hI h19 v0 13), vI (hI h v0 12)]) (st := []) C ml_X3_159 fx3 (ct_X3_putInHeap eh20) rfl ⟨by decide, by decide, by decide, by decide⟩ (Nat.le_of_ble_eq_true rfl) rfl dX3_addTrial_72 (cs' := 0) (sl' := 0) rfl rfl ?_
  refine V_aload_n C dX3_addTrial_75 rfl 1 rfl ?_
  refine V_dup C dX3_addTrial_76 rfl ?_
  refine V_getI C fl_X3_50 rfl dX3_addTrial_77 ?_
  refine V_iconst (v := (1 : Int32)) C dX3_addTrial_80 (by decide) ?_
  refine V_iadd C dX3_addTrial_81 ?_
  obtain ⟨h21, eh21, hf⟩ := o_l hf
  refine V_putI C nf_X3_50 rfl (okI_int _) dX3_addTrial_82 (V_eqH eh21 ?_)
  refine V_iload_n C dX3_addTrial_85 rfl 0 rfl ?_
  obtain ⟨hf1, hf2⟩ := Prod.mk.inj (Option.some.inj hf)
  subst hf1
  subst hf2
  exact V_iret C hQ dX3_addTrial_86
theorem ct_X3_addTrial {r : Int32} {h' : Hp} {N : Nat} {h : Hp} {v0 : Nat} {v1 : Int32} (hf : f_X3_addTrial N h v0 v1 = some ((r, h'))) (l : Launch) (G : GT) : MC l G yX3_addTrial cX3_addTrial 3 (some .int) rmX3_addTrial h [vR 3 (some v0), vI v1] (some (vI r)) h' := MC_of (by decide) rfl (Nat.le_of_ble_eq_true rfl) rfl (fun X C hQ hin => p_X3_addTrial C hQ hf)
abbrev rmX3_isAhead : Room := { frames := 0, cells := 0, slots := 0, locals := 0 }
def f_X3_isAhead (h : Hp) (v0 : Nat) (v1 : Int32) (v2 : Int32) : Option (Int32) := Option.bind (hP h v0 5) (fun q1 => if 0 ≤ v1 ∧ v1.toNatClampNeg < hL h q1 then (Option.bind (hP h v0 5) (fun q3 => if 0 ≤ v2 ∧ v2.toNatClampNeg < hL h q3 then (if (hI h q1 (v1.toNatClampNeg)) < (hI h q3 (v2.toNatClampNeg)) then (some (1 : Int32)) else (Option.bind (hP h v0 5) (fun q6 => if 0 ≤ v1 ∧ v1.toNatClampNeg < hL h q6 then (Option.bind (hP h v0 5) (fun q8 => if 0 ≤ v2 ∧ v2.toNatClampNeg < hL h q8 then (if (hI h q6 (v1.toNatClampNeg)) = (hI h q8 (v2.toNatClampNeg)) then (if v2 ≤ v1 then (some (0 : Int32)) else (some (1 : Int32))) else (some (0 : Int32))) else none)) else none))) else none)) else none)
set_option maxHeartbeats 4000000 in
set_option maxRecDepth 100000 in
theorem p_X3_isAhead {X : XT} {r : Int32} (C : CX X cX3_isAhead "WaterStair$Search" 3 (some .boolean) rmX3_isAhead) {h : Hp} {v0 : Nat} {v1 : Int32} {v2 : Int32} (hQ : QX X (some (vI r)) h rmX3_isAhead.cells rmX3_isAhead.slots) (hf : f_X3_isAhead h v0 v1 v2 = some r) : V X 0 0 h 0 [(0, vR 3 (some v0)), (1, vI v1), (2, vI v2)] [] := by
  unfold f_X3_isAhead at hf
  refine V_aload_n C dX3_isAhead_0 rfl 0 rfl ?_
  obtain ⟨q1, eq1, hf⟩ := o_b hf
  refine V_getR C fl_X3_25 rfl rfl (by decide) eq1 dX3_isAhead_1 ?_
  refine V_iload_n C dX3_isAhead_4 rfl 1 rfl ?_
  obtain ⟨g2, hf⟩ := o_if hf
  refine V_iald C (vp_g g2) rfl dX3_isAhead_5 ?_
  refine V_aload_n C dX3_isAhead_6 rfl 0 rfl ?_
  obtain ⟨q3, eq3, hf⟩ := o_b hf
  refine V_getR C fl_X3_25 rfl rfl (by decide) eq3 dX3_isAhead_7 ?_
  refine V_iload_n C dX3_isAhead_10 rfl 2 rfl ?_
  obtain ⟨g4, hf⟩ := o_if hf
  refine V_iald C (vp_g g4) rfl dX3_isAhead_11 ?_
  refine V_icmp_lt C 35 dX3_isAhead_12 (by decide) (fun c5 => ?_) (fun c5 => ?_)
  · have hf := i_t c5 hf
    refine V_iconst (v := (1 : Int32)) C dX3_isAhead_35 (by decide) ?_
    refine V_goto C 40 dX3_isAhead_36 (by decide) ?_
    have hf := Option.some.inj hf
    subst hf
    exact V_zret C (by decide) hQ dX3_isAhead_40
  · have hf := i_f c5 hf
    refine V_aload_n C dX3_isAhead_15 rfl 0 rfl ?_
    obtain ⟨q6, eq6, hf⟩ := o_b hf
    refine V_getR C fl_X3_25 rfl rfl (by decide) eq6 dX3_isAhead_16 ?_
    refine V_iload_n C dX3_isAhead_19 rfl 1 rfl ?_
    obtain ⟨g7, hf⟩ := o_if hf
    refine V_iald C (vp_g g7) rfl dX3_isAhead_20 ?_
    refine V_aload_n C dX3_isAhead_21 rfl 0 rfl ?_
    obtain ⟨q8, eq8, hf⟩ := o_b hf
    refine V_getR C fl_X3_25 rfl rfl (by decide) eq8 dX3_isAhead_22 ?_
    refine V_iload_n C dX3_isAhead_25 rfl 2 rfl ?_
    obtain ⟨g9, hf⟩ := o_if hf
    refine V_iald C (vp_g g9) rfl dX3_isAhead_26 ?_
    refine V_icmp_ne C 39 dX3_isAhead_27 (by decide) (fun c10 => ?_) (fun c10 => ?_)
    · have hf := i_f c10 hf
      refine V_iconst (v := (0 : Int32)) C dX3_isAhead_39 (by decide) ?_
      have hf := Option.some.inj hf
      subst hf
      exact V_zret C (by decide) hQ dX3_isAhead_40
    · have hf := i_t c10 hf
      refine V_iload_n C dX3_isAhead_30 rfl 1 rfl ?_
      refine V_iload_n C dX3_isAhead_31 rfl 2 rfl ?_
      refine V_icmp_ge C 39 dX3_isAhead_32 (by decide) (fun c11 => ?_) (fun c11 => ?_)
      · have hf := i_t c11 hf
        refine V_iconst (v := (0 : Int32)) C dX3_isAhead_39 (by decide) ?_
        have hf := Option.some.inj hf
        subst hf
        exact V_zret C (by decide) hQ dX3_isAhead_40
      · have hf := i_f c11 hf
        refine V_iconst (v := (1 : Int32)) C dX3_isAhead_35 (by decide) ?_
        refine V_goto C 40 dX3_isAhead_36 (by decide) ?_
        have hf := Option.some.inj hf
        subst hf
        exact V_zret C (by decide) hQ dX3_isAhead_40
theorem ct_X3_isAhead {r : Int32} {h : Hp} {v0 : Nat} {v1 : Int32} {v2 : Int32} (hf : f_X3_isAhead h v0 v1 v2 = some r) (l : Launch) (G : GT) : MC l G yX3_isAhead cX3_isAhead 3 (some .boolean) rmX3_isAhead h [vR 3 (some v0), vI v1, vI v2] (some (vI r)) h := MC_of (by decide) rfl (Nat.le_of_ble_eq_true rfl) rfl (fun X C hQ hin => p_X3_isAhead C hQ hf)
abbrev rmX3_rise : Room := { frames := 1, cells := 0, slots := 0, locals := 22 }
def f_X3_rise_55 (N : Nat) (h : Hp) (v0 : Nat) (v2 : Int32) (v3 : Int32) : Option (Hp) := Option.bind (f_X3_putInHeap h v0 v3 v2) (fun h1 => some h1)
set_option maxHeartbeats 4000000 in
set_option maxRecDepth 100000 in
theorem p_X3_rise_55 {X : XT} {h' : Hp} (C : CX X cX3_rise "WaterStair$Search" 4 none rmX3_rise) (hQ : QX X none h' rmX3_rise.cells rmX3_rise.slots) {N : Nat}  {h : Hp} {v0 : Nat} {v2 : Int32} {v3 : Int32} (hf : f_X3_rise_55 N h v0 v2 v3 = some h') : V X 0 0 h 55 [(0, vR 3 (some v0)), (2, vI v2), (3, vI v3)] [] := by
  unfold f_X3_rise_55 at hf
  refine V_aload_n C dX3_rise_55 rfl 0 rfl ?_
  refine V_iload_n C dX3_rise_56 rfl 2 rfl ?_
  refine V_iload_n C dX3_rise_57 rfl 1 rfl ?_
  obtain ⟨h1, eh1, hf⟩ := o_b hf
  refine V_callV (as := [vI v3, vI v2]) (st := []) C ml_X3_159 fx3 (ct_X3_putInHeap eh1) rfl ⟨by decide, by decide, by decide, by decide⟩ (Nat.le_of_ble_eq_true rfl) rfl dX3_rise_58 (cs' := 0) (sl' := 0) rfl rfl ?_
  have hf := Option.some.inj hf
  subst hf
  exact V_vret C hQ dX3_rise_61
def f_X3_rise_9 (N : Nat) : Nat → Hp → Nat → Int32 → Int32 → Option (Hp)
  | 0, _, _, _, _ => none
  | n + 1, h, v0, v2, v3 => if v3 ≤ 0 then (f_X3_rise_55 N h v0 v2 v3) else (Option.bind (hP h v0 8) (fun q3 => if 0 ≤ (v3 - (1 : Int32)) / (2 : Int32) ∧ ((v3 - (1 : Int32)) / (2 : Int32)).toNatClampNeg < hL h q3 then (Option.bind (f_X3_isAhead h v0 v2 (hI h q3 (((v3 - (1 : Int32)) / (2 : Int32)).toNatClampNeg))) (fun r5 => if r5 = 0 then (f_X3_rise_55 N h v0 v2 v3) else (Option.bind (hP h v0 8) (fun q7 => if 0 ≤ (v3 - (1 : Int32)) / (2 : Int32) ∧ ((v3 - (1 : Int32)) / (2 : Int32)).toNatClampNeg < hL h q7 then (Option.bind (f_X3_putInHeap h v0 v3 (hI h q7 (((v3 - (1 : Int32)) / (2 : Int32)).toNatClampNeg))) (fun h9 => lt ((v3 - (1 : Int32)) / (2 : Int32)) (fun y10 => f_X3_rise_9 N n h9 v0 v2 y10))) else none)))) else none))
set_option maxHeartbeats 4000000 in
set_option maxRecDepth 100000 in
theorem p_X3_rise_9 {X : XT} {h' : Hp} (C : CX X cX3_rise "WaterStair$Search" 4 none rmX3_rise) (hQ : QX X none h' rmX3_rise.cells rmX3_rise.slots) {N : Nat}  : ∀ (n : Nat) (h : Hp) (v0 : Nat) (v2 : Int32) (v3 : Int32), f_X3_rise_9 N n h v0 v2 v3 = some h' → V X 0 0 h 9 [(0, vR 3 (some v0)), (2, vI v2), (3, vI v3)] [] := by
  intro n
  induction n with
  | zero =>
    intro h v0 v2 v3 hf
    have hf : (none : Option (Hp)) = some _ := hf
    cases hf
  | succ n ih =>
    intro h v0 v2 v3 hf
    rw [f_X3_rise_9] at hf
    refine V_iload_n C dX3_rise_9 rfl 2 rfl ?_
    refine V_if_le C 55 dX3_rise_10 (by decide) (fun c2 => ?_) (fun c2 => ?_)
    · have hf := i_t c2 hf
      refine V_sub (lv' := [(0, vR 3 (some v0)), (2, vI v2), (3, vI v3)]) [0, 1, 2] rfl ?_
      exact p_X3_rise_55 C hQ hf
    · have hf := i_f c2 hf
      refine V_aload_n C dX3_rise_13 rfl 0 rfl ?_
      refine V_iload_n C dX3_rise_14 rfl 1 rfl ?_
      refine V_aload_n C dX3_rise_15 rfl 0 rfl ?_
      obtain ⟨q3, eq3, hf⟩ := o_b hf
      refine V_getR C fl_X3_34 rfl rfl (by decide) eq3 dX3_rise_16 ?_
      refine V_iload_n C dX3_rise_19 rfl 2 rfl ?_
      refine V_iconst (v := (1 : Int32)) C dX3_rise_20 (by decide) ?_
      refine V_isub C dX3_rise_21 ?_
      refine V_iconst (v := (2 : Int32)) C dX3_rise_22 (by decide) ?_
      refine V_idiv C dX3_rise_23 (by decide) ?_
      obtain ⟨g4, hf⟩ := o_if hf
      refine V_iald C (vp_g g4) rfl dX3_rise_24 ?_
      obtain ⟨r5, er5, hf⟩ := o_b hf
      refine V_callV (as := [vI v2, vI (hI h q3 (((v3 - (1 : Int32)) / (2 : Int32)).toNatClampNeg))]) (st := []) C ml_X3_169 fx3 (ct_X3_isAhead er5) rfl ⟨by decide, by decide, by decide, by decide⟩ (Nat.le_of_ble_eq_true rfl) rfl dX3_rise_25 (cs' := 0) (sl' := 0) rfl rfl ?_
      refine V_if_eq C 55 dX3_rise_28 (by decide) (fun c6 => ?_) (fun c6 => ?_)
      · have hf := i_t c6 hf
        refine V_sub (lv' := [(0, vR 3 (some v0)), (2, vI v2), (3, vI v3)]) [0, 1, 2] rfl ?_
        exact p_X3_rise_55 C hQ hf
      · have hf := i_f c6 hf
        refine V_aload_n C dX3_rise_31 rfl 0 rfl ?_
        refine V_iload_n C dX3_rise_32 rfl 2 rfl ?_
        refine V_aload_n C dX3_rise_33 rfl 0 rfl ?_
        obtain ⟨q7, eq7, hf⟩ := o_b hf
        refine V_getR C fl_X3_34 rfl rfl (by decide) eq7 dX3_rise_34 ?_
        refine V_iload_n C dX3_rise_37 rfl 2 rfl ?_
        refine V_iconst (v := (1 : Int32)) C dX3_rise_38 (by decide) ?_
        refine V_isub C dX3_rise_39 ?_
        refine V_iconst (v := (2 : Int32)) C dX3_rise_40 (by decide) ?_
        refine V_idiv C dX3_rise_41 (by decide) ?_
        obtain ⟨g8, hf⟩ := o_if hf
        refine V_iald C (vp_g g8) rfl dX3_rise_42 ?_
        obtain ⟨h9, eh9, hf⟩ := o_b hf
        refine V_callV (as := [vI v3, vI (hI h q7 (((v3 - (1 : Int32)) / (2 : Int32)).toNatClampNeg))]) (st := []) C ml_X3_159 fx3 (ct_X3_putInHeap eh9) rfl ⟨by decide, by decide, by decide, by decide⟩ (Nat.le_of_ble_eq_true rfl) rfl dX3_rise_43 (cs' := 0) (sl' := 0) rfl rfl ?_
        refine V_iload_n C dX3_rise_46 rfl 2 rfl ?_
        refine V_iconst (v := (1 : Int32)) C dX3_rise_47 (by decide) ?_
        refine V_isub C dX3_rise_48 ?_
        refine V_iconst (v := (2 : Int32)) C dX3_rise_49 (by decide) ?_
        refine V_idiv C dX3_rise_50 (by decide) ?_
        obtain ⟨y10, ey10, hf⟩ := o_l hf
        refine V_eqI ey10 ?_
        refine V_istore_n (lv' := [(3, vI y10), (0, vR 3 (some v0)), (2, vI v2)]) C dX3_rise_51 rfl (by decide) rfl ?_
        refine V_goto C 9 dX3_rise_52 (by decide) ?_
        refine V_sub (lv' := [(0, vR 3 (some v0)), (2, vI v2), (3, vI y10)]) [1, 2, 0] rfl ?_
        exact ih _ _ _ _ hf
def f_X3_rise (N : Nat) (h : Hp) (v0 : Nat) (v1 : Int32) : Option (Hp) := Option.bind (hP h v0 8) (fun q11 => if 0 ≤ v1 ∧ v1.toNatClampNeg < hL h q11 then (lt (hI h q11 (v1.toNatClampNeg)) (fun y13 => f_X3_rise_9 N N h v0 y13 v1)) else none)
set_option maxHeartbeats 4000000 in
set_option maxRecDepth 100000 in
theorem p_X3_rise {X : XT} {h' : Hp} (C : CX X cX3_rise "WaterStair$Search" 4 none rmX3_rise) {N : Nat} {h : Hp} {v0 : Nat} {v1 : Int32} (hQ : QX X none h' rmX3_rise.cells rmX3_rise.slots) (hf : f_X3_rise N h v0 v1 = some h') : V X 0 0 h 0 [(0, vR 3 (some v0)), (1, vI v1)] [] := by
  unfold f_X3_rise at hf
  refine V_aload_n C dX3_rise_0 rfl 0 rfl ?_
  obtain ⟨q11, eq11, hf⟩ := o_b hf
  refine V_getR C fl_X3_34 rfl rfl (by decide) eq11 dX3_rise_1 ?_
  refine V_iload_n C dX3_rise_4 rfl 1 rfl ?_
  obtain ⟨g12, hf⟩ := o_if hf
  refine V_iald C (vp_g g12) rfl dX3_rise_5 ?_
  obtain ⟨y13, ey13, hf⟩ := o_l hf
  refine V_eqI ey13 ?_
  refine V_istore_n (lv' := [(2, vI y13), (0, vR 3 (some v0)), (1, vI v1)]) C dX3_rise_6 rfl (by decide) rfl ?_
  refine V_iload_n C dX3_rise_7 rfl 2 rfl ?_
  refine V_istore_n (lv' := [(3, vI v1), (2, vI y13), (0, vR 3 (some v0)), (1, vI v1)]) C dX3_rise_8 rfl (by decide) rfl ?_
  refine V_sub (lv' := [(0, vR 3 (some v0)), (2, vI y13), (3, vI v1)]) [2, 1, 0] rfl ?_
  exact p_X3_rise_9 C hQ N _ _ _ _ hf
theorem ct_X3_rise {h' : Hp} {N : Nat} {h : Hp} {v0 : Nat} {v1 : Int32} (hf : f_X3_rise N h v0 v1 = some h') (l : Launch) (G : GT) : MC l G yX3_rise cX3_rise 4 none rmX3_rise h [vR 3 (some v0), vI v1] none h' := MC_of (by decide) rfl (Nat.le_of_ble_eq_true rfl) rfl (fun X C hQ hin => p_X3_rise C hQ hf)
abbrev rmX3_slotOfTrial : Room := { frames := 1, cells := 0, slots := 0, locals := 24 }
def f_X3_slotOfTrial_127 (N : Nat) (s59 : Hp → Nat → Int32 → Int64 → Int64 → Int32 → Int32 → Option (Int32)) (h : Hp) (v0 : Nat) (v1 : Int32) (v2 : Int64) (v4 : Int64) (v8 : Int32) (v9 : Int32) : Option (Int32) := lt ((v8 + (1 : Int32)) - (v8 + (1 : Int32)) / (4096 : Int32) * (4096 : Int32)) (fun y1 => s59 h v0 v1 v2 v4 y1 (v9 + (1 : Int32)))
set_option maxHeartbeats 4000000 in
set_option maxRecDepth 100000 in
theorem p_X3_slotOfTrial_127 {X : XT} {r : Int32} {h : Hp} (C : CX X cX3_slotOfTrial "WaterStair$Search" 11 (some .int) rmX3_slotOfTrial) (hQ : QX X (some (vI r)) h rmX3_slotOfTrial.cells rmX3_slotOfTrial.slots) {N : Nat} {s59 : Hp → Nat → Int32 → Int64 → Int64 → Int32 → Int32 → Option (Int32)} (S59 : ∀ (v0 : Nat) (v1 : Int32) (v2 : Int64) (v4 : Int64) (v8 : Int32) (v9 : Int32), s59 h v0 v1 v2 v4 v8 v9 = some r → V X 0 0 h 59 [(0, vR 3 (some v0)), (1, vI v1), (2, vL v2), (4, vL v4), (8, vI v8), (9, vI v9)] [])  {v0 : Nat} {v1 : Int32} {v2 : Int64} {v4 : Int64} {v8 : Int32} {v9 : Int32} (hf : f_X3_slotOfTrial_127 N s59 h v0 v1 v2 v4 v8 v9 = some r) : V X 0 0 h 127 [(0, vR 3 (some v0)), (1, vI v1), (2, vL v2), (4, vL v4), (8, vI v8), (9, vI v9)] [] := by
  unfold f_X3_slotOfTrial_127 at hf
  refine V_iload C dX3_slotOfTrial_127 4 rfl ?_
  refine V_iconst (v := (1 : Int32)) C dX3_slotOfTrial_129 (by decide) ?_
  refine V_iadd C dX3_slotOfTrial_130 ?_
  refine V_sipush (v := (4096 : Int32)) C dX3_slotOfTrial_131 (by decide) ?_
  refine V_irem C dX3_slotOfTrial_134 (by decide) ?_
  obtain ⟨y1, ey1, hf⟩ := o_l hf
  refine V_eqI ey1 ?_
  refine V_istore (lv' := [(8, vI y1), (0, vR 3 (some v0)), (1, vI v1), (2, vL v2), (4, vL v4), (9, vI v9)]) C dX3_slotOfTrial_135 (by decide) rfl ?_
  refine V_iinc (lv' := [(9, vI (v9 + (1 : Int32))), (8, vI y1), (0, vR 3 (some v0)), (1, vI v1), (2, vL v2), (4, vL v4)]) C dX3_slotOfTrial_137 5 rfl (congrArg (v9 + ·) (by decide : Int32.ofInt (1) = (1 : Int32))) (by decide) rfl ?_
  refine V_goto C 59 dX3_slotOfTrial_140 (by decide) ?_
  refine V_sub (lv' := [(0, vR 3 (some v0)), (1, vI v1), (2, vL v2), (4, vL v4), (8, vI y1), (9, vI (v9 + (1 : Int32)))]) [2, 3, 4, 5, 1, 0] rfl ?_
  exact S59 _ _ _ _ _ _ hf
def f_X3_slotOfTrial_59 (N : Nat) : Nat → Hp → Nat → Int32 → Int64 → Int64 → Int32 → Int32 → Option (Int32)
  | 0, _, _, _, _, _, _, _ => none
  | n + 1, h, v0, v1, v2, v4, v8, v9 => if (4096 : Int32) ≤ v9 then (some v8) else (Option.bind (hP h v0 10) (fun q3 => if 0 ≤ v8 ∧ v8.toNatClampNeg < hL h q3 then (if hI h q3 (v8.toNatClampNeg) = 0 then (some v8) else (Option.bind (hP h v0 10) (fun q6 => if 0 ≤ v8 ∧ v8.toNatClampNeg < hL h q6 then (lt ((hI h q6 (v8.toNatClampNeg)) - (1 : Int32)) (fun y8 => Option.bind (hP h v0 2) (fun q9 => if 0 ≤ y8 ∧ y8.toNatClampNeg < hL h q9 then (if (hI h q9 (y8.toNatClampNeg)) = v1 then (Option.bind (hP h v0 3) (fun q12 => if 0 ≤ y8 ∧ y8.toNatClampNeg < hL h q12 then (if lg_cmp (hJ h q12 (y8.toNatClampNeg)) v2 = 0 then (Option.bind (hP h v0 4) (fun q15 => if 0 ≤ y8 ∧ y8.toNatClampNeg < hL h q15 then (if lg_cmp (hJ h q15 (y8.toNatClampNeg)) v4 = 0 then (some v8) else (f_X3_slotOfTrial_127 N (f_X3_slotOfTrial_59 N n) h v0 v1 v2 v4 v8 v9)) else none)) else (f_X3_slotOfTrial_127 N (f_X3_slotOfTrial_59 N n) h v0 v1 v2 v4 v8 v9)) else none)) else (f_X3_slotOfTrial_127 N (f_X3_slotOfTrial_59 N n) h v0 v1 v2 v4 v8 v9)) else none))) else none))) else none))
set_option maxHeartbeats 4000000 in
set_option maxRecDepth 100000 in
theorem p_X3_slotOfTrial_59 {X : XT} {r : Int32} {h : Hp} (C : CX X cX3_slotOfTrial "WaterStair$Search" 11 (some .int) rmX3_slotOfTrial) (hQ : QX X (some (vI r)) h rmX3_slotOfTrial.cells rmX3_slotOfTrial.slots) {N : Nat}  : ∀ (n : Nat) (v0 : Nat) (v1 : Int32) (v2 : Int64) (v4 : Int64) (v8 : Int32) (v9 : Int32), f_X3_slotOfTrial_59 N n h v0 v1 v2 v4 v8 v9 = some r → V X 0 0 h 59 [(0, vR 3 (some v0)), (1, vI v1), (2, vL v2), (4, vL v4), (8, vI v8), (9, vI v9)] [] := by
  intro n
  induction n with
  | zero =>
    intro v0 v1 v2 v4 v8 v9 hf
    have hf : (none : Option (Int32)) = some _ := hf
    cases hf
  | succ n ih =>
    intro v0 v1 v2 v4 v8 v9 hf
    rw [f_X3_slotOfTrial_59] at hf
    refine V_iload C dX3_slotOfTrial_59 5 rfl ?_
    refine V_sipush (v := (4096 : Int32)) C dX3_slotOfTrial_61 (by decide) ?_
    refine V_icmp_ge C 143 dX3_slotOfTrial_64 (by decide) (fun c2 => ?_) (fun c2 => ?_)
    · have hf := i_t c2 hf
      refine V_iload C dX3_slotOfTrial_143 4 rfl ?_
      have hf := Option.some.inj hf
      subst hf
      exact V_iret C hQ dX3_slotOfTrial_145
    · have hf := i_f c2 hf
      refine V_aload_n C dX3_slotOfTrial_67 rfl 0 rfl ?_
      obtain ⟨q3, eq3, hf⟩ := o_b hf
      refine V_getR C fl_X3_40 rfl rfl (by decide) eq3 dX3_slotOfTrial_68 ?_
      refine V_iload C dX3_slotOfTrial_71 4 rfl ?_
      obtain ⟨g4, hf⟩ := o_if hf
      refine V_iald C (vp_g g4) rfl dX3_slotOfTrial_73 ?_
      refine V_if_eq C 143 dX3_slotOfTrial_74 (by decide) (fun c5 => ?_) (fun c5 => ?_)
      · have hf := i_t c5 hf
        refine V_iload C dX3_slotOfTrial_143 4 rfl ?_
        have hf := Option.some.inj hf
        subst hf
        exact V_iret C hQ dX3_slotOfTrial_145
      · have hf := i_f c5 hf
        refine V_aload_n C dX3_slotOfTrial_77 rfl 0 rfl ?_
        obtain ⟨q6, eq6, hf⟩ := o_b hf
        refine V_getR C fl_X3_40 rfl rfl (by decide) eq6 dX3_slotOfTrial_78 ?_
        refine V_iload C dX3_slotOfTrial_81 4 rfl ?_
        obtain ⟨g7, hf⟩ := o_if hf
        refine V_iald C (vp_g g7) rfl dX3_slotOfTrial_83 ?_
        refine V_iconst (v := (1 : Int32)) C dX3_slotOfTrial_84 (by decide) ?_
        refine V_isub C dX3_slotOfTrial_85 ?_
        obtain ⟨y8, ey8, hf⟩ := o_l hf
        refine V_eqI ey8 ?_
        refine V_istore (lv' := [(10, vI y8), (0, vR 3 (some v0)), (1, vI v1), (2, vL v2), (4, vL v4), (8, vI v8), (9, vI v9)]) C dX3_slotOfTrial_86 (by decide) rfl ?_
        refine V_aload_n C dX3_slotOfTrial_88 rfl 1 rfl ?_
        obtain ⟨q9, eq9, hf⟩ := o_b hf
        refine V_getR C fl_X3_15 rfl rfl (by decide) eq9 dX3_slotOfTrial_89 ?_
        refine V_iload C dX3_slotOfTrial_92 0 rfl ?_
        obtain ⟨g10, hf⟩ := o_if hf
        refine V_iald C (vp_g g10) rfl dX3_slotOfTrial_94 ?_
        refine V_iload_n C dX3_slotOfTrial_95 rfl 2 rfl ?_
        refine V_icmp_ne C 127 dX3_slotOfTrial_96 (by decide) (fun c11 => ?_) (fun c11 => ?_)
        · have hf := i_f c11 hf
          refine V_sub (lv' := [(0, vR 3 (some v0)), (1, vI v1), (2, vL v2), (4, vL v4), (8, vI v8), (9, vI v9)]) [1, 2, 3, 4, 5, 6] rfl ?_
          exact p_X3_slotOfTrial_127 C hQ ih hf
        · have hf := i_t c11 hf
          refine V_aload_n C dX3_slotOfTrial_99 rfl 1 rfl ?_
          obtain ⟨q12, eq12, hf⟩ := o_b hf
          refine V_getR C fl_X3_18 rfl rfl (by decide) eq12 dX3_slotOfTrial_100 ?_
          refine V_iload C dX3_slotOfTrial_103 0 rfl ?_
          obtain ⟨g13, hf⟩ := o_if hf
          refine V_lald C (vp_g g13) rfl dX3_slotOfTrial_105 ?_
          refine V_lload_n C dX3_slotOfTrial_106 rfl 3 rfl ?_
          refine V_lcmp C dX3_slotOfTrial_107 ?_
          refine V_if_ne C 127 dX3_slotOfTrial_108 (by decide) (fun c14 => ?_) (fun c14 => ?_)
          · have hf := i_f c14 hf
            refine V_sub (lv' := [(0, vR 3 (some v0)), (1, vI v1), (2, vL v2), (4, vL v4), (8, vI v8), (9, vI v9)]) [1, 2, 3, 4, 5, 6] rfl ?_
            exact p_X3_slotOfTrial_127 C hQ ih hf
          · have hf := i_t c14 hf
            refine V_aload_n C dX3_slotOfTrial_111 rfl 1 rfl ?_
            obtain ⟨q15, eq15, hf⟩ := o_b hf
            refine V_getR C fl_X3_22 rfl rfl (by decide) eq15 dX3_slotOfTrial_112 ?_
            refine V_iload C dX3_slotOfTrial_115 0 rfl ?_
            obtain ⟨g16, hf⟩ := o_if hf
            refine V_lald C (vp_g g16) rfl dX3_slotOfTrial_117 ?_
            refine V_lload C dX3_slotOfTrial_118 4 rfl ?_
            refine V_lcmp C dX3_slotOfTrial_120 ?_
            refine V_if_ne C 127 dX3_slotOfTrial_121 (by decide) (fun c17 => ?_) (fun c17 => ?_)
            · have hf := i_f c17 hf
              refine V_sub (lv' := [(0, vR 3 (some v0)), (1, vI v1), (2, vL v2), (4, vL v4), (8, vI v8), (9, vI v9)]) [1, 2, 3, 4, 5, 6] rfl ?_
              exact p_X3_slotOfTrial_127 C hQ ih hf
            · have hf := i_t c17 hf
              refine V_iload C dX3_slotOfTrial_124 5 rfl ?_
              have hf := Option.some.inj hf
              subst hf
              exact V_iret C hQ dX3_slotOfTrial_126
def f_X3_slotOfTrial (N : Nat) (h : Hp) (v0 : Nat) : Option (Int32) := Option.bind (hP h v0 0) (fun q18 => Option.bind (f_X5_packedPlaces N h q18) (fun r19 => Option.bind (hP h v0 0) (fun q20 => Option.bind (f_X5_packedWater N h q20 (0 : Int32)) (fun r21 => Option.bind (hP h v0 0) (fun q22 => Option.bind (f_X5_packedWater N h q22 (4 : Int32)) (fun r23 => lt (((((r21 * (31 : Int64)) + r23) * (31 : Int64)) + (r19.toInt64)) * (-7046029254386353131 : Int64)) (fun y24 => lt (((y24.toUInt64 >>> ((52 : Int32).toInt64.toUInt64 &&& Int64.toUInt64 63)).toInt64).toInt32) (fun y25 => f_X3_slotOfTrial_59 N N h v0 r19 r21 r23 y25 (0 : Int32)))))))))
set_option maxHeartbeats 4000000 in
set_option maxRecDepth 100000 in
theorem p_X3_slotOfTrial {X : XT} {r : Int32} (C : CX X cX3_slotOfTrial "WaterStair$Search" 11 (some .int) rmX3_slotOfTrial) {N : Nat} {h : Hp} {v0 : Nat} (hQ : QX X (some (vI r)) h rmX3_slotOfTrial.cells rmX3_slotOfTrial.slots) (hf : f_X3_slotOfTrial N h v0 = some r) : V X 0 0 h 0 [(0, vR 3 (some v0))] [] := by
  unfold f_X3_slotOfTrial at hf
  refine V_aload_n C dX3_slotOfTrial_0 rfl 0 rfl ?_
  obtain ⟨q18, eq18, hf⟩ := o_b hf
  refine V_getR C fl_X3_60 rfl rfl (by decide) eq18 dX3_slotOfTrial_1 ?_
  obtain ⟨r19, er19, hf⟩ := o_b hf
  refine V_callV (as := []) (st := []) C ml_X3_152 fx5 (ct_X5_packedPlaces er19) rfl ⟨by decide, by decide, by decide, by decide⟩ (Nat.le_of_ble_eq_true rfl) rfl dX3_slotOfTrial_4 (cs' := 0) (sl' := 0) rfl rfl ?_
  refine V_istore_n (lv' := [(1, vI r19), (0, vR 3 (some v0))]) C dX3_slotOfTrial_7 rfl (by decide) rfl ?_
  refine V_aload_n C dX3_slotOfTrial_8 rfl 1 rfl ?_
  obtain ⟨q20, eq20, hf⟩ := o_b hf
  refine V_getR C fl_X3_60 rfl rfl (by decide) eq20 dX3_slotOfTrial_9 ?_
  refine V_iconst (v := (0 : Int32)) C dX3_slotOfTrial_12 (by decide) ?_
  obtain ⟨r21, er21, hf⟩ := o_b hf
  refine V_callV (as := [vI (0 : Int32)]) (st := []) C ml_X3_155 fx5 (ct_X5_packedWater er21) rfl ⟨by decide, by decide, by decide, by decide⟩ (Nat.le_of_ble_eq_true rfl) rfl dX3_slotOfTrial_13 (cs' := 0) (sl' := 0) rfl rfl ?_
  refine V_lstore_n (lv' := [(2, vL r21), (1, vI r19), (0, vR 3 (some v0))]) C dX3_slotOfTrial_16 rfl (by decide) rfl ?_
  refine V_aload_n C dX3_slotOfTrial_17 rfl 2 rfl ?_
  obtain ⟨q22, eq22, hf⟩ := o_b hf
  refine V_getR C fl_X3_60 rfl rfl (by decide) eq22 dX3_slotOfTrial_18 ?_
  refine V_iconst (v := (4 : Int32)) C dX3_slotOfTrial_21 (by decide) ?_
  obtain ⟨r23, er23, hf⟩ := o_b hf
  refine V_callV (as := [vI (4 : Int32)]) (st := []) C ml_X3_155 fx5 (ct_X5_packedWater er23) rfl ⟨by decide, by decide, by decide, by decide⟩ (Nat.le_of_ble_eq_true rfl) rfl dX3_slotOfTrial_22 (cs' := 0) (sl' := 0) rfl rfl ?_
  refine V_lstore (lv' := [(4, vL r23), (2, vL r21), (1, vI r19), (0, vR 3 (some v0))]) C dX3_slotOfTrial_25 (by decide) rfl ?_
  refine V_lload_n C dX3_slotOfTrial_27 rfl 1 rfl ?_
  refine V_ldc2 C kl_X3_162 dX3_slotOfTrial_28 ?_
  refine V_lmul C dX3_slotOfTrial_31 ?_
  refine V_lload C dX3_slotOfTrial_32 0 rfl ?_
  refine V_ladd C dX3_slotOfTrial_34 ?_
  refine V_ldc2 C kl_X3_162 dX3_slotOfTrial_35 ?_
  refine V_lmul C dX3_slotOfTrial_38 ?_
  refine V_iload_n C dX3_slotOfTrial_39 rfl 2 rfl ?_
  refine V_i2l C dX3_slotOfTrial_40 ?_
  refine V_ladd C dX3_slotOfTrial_41 ?_
  refine V_ldc2 C kl_X3_164 dX3_slotOfTrial_42 ?_
  refine V_lmul C dX3_slotOfTrial_45 ?_
  obtain ⟨y24, ey24, hf⟩ := o_l hf
  refine V_eqL ey24 ?_
  refine V_lstore (lv' := [(6, vL y24), (4, vL r23), (2, vL r21), (1, vI r19), (0, vR 3 (some v0))]) C dX3_slotOfTrial_46 (by decide) rfl ?_
  refine V_lload C dX3_slotOfTrial_48 0 rfl ?_
  refine V_bipush (v := (52 : Int32)) C dX3_slotOfTrial_50 (by decide) ?_
  refine V_lushr C dX3_slotOfTrial_52 ?_
  refine V_l2i C dX3_slotOfTrial_53 ?_
  obtain ⟨y25, ey25, hf⟩ := o_l hf
  refine V_eqI ey25 ?_
  refine V_istore (lv' := [(8, vI y25), (6, vL y24), (4, vL r23), (2, vL r21), (1, vI r19), (0, vR 3 (some v0))]) C dX3_slotOfTrial_54 (by decide) rfl ?_
  refine V_iconst (v := (0 : Int32)) C dX3_slotOfTrial_56 (by decide) ?_
  refine V_istore (lv' := [(9, vI (0 : Int32)), (8, vI y25), (6, vL y24), (4, vL r23), (2, vL r21), (1, vI r19), (0, vR 3 (some v0))]) C dX3_slotOfTrial_57 (by decide) rfl ?_
  refine V_sub (lv' := [(0, vR 3 (some v0)), (1, vI r19), (2, vL r21), (4, vL r23), (8, vI y25), (9, vI (0 : Int32))]) [6, 5, 4, 3, 1, 0] rfl ?_
  exact p_X3_slotOfTrial_59 C hQ N _ _ _ _ _ _ hf
theorem ct_X3_slotOfTrial {r : Int32} {N : Nat} {h : Hp} {v0 : Nat} (hf : f_X3_slotOfTrial N h v0 = some r) (l : Launch) (G : GT) : MC l G yX3_slotOfTrial cX3_slotOfTrial 11 (some .int) rmX3_slotOfTrial h [vR 3 (some v0)] (some (vI r)) h := MC_of (by decide) rfl (Nat.le_of_ble_eq_true rfl) rfl (fun X C hQ hin => p_X3_slotOfTrial C hQ hf)
abbrev rmX3_reach : Room := { frames := 2, cells := 0, slots := 0, locals := 54 }
def f_X3_reach_77 (N : Nat) (h : Hp) (v0 : Nat) (v1 : Int32) (v2 : Int32) (v3 : Int32) (v5 : Int32) : Option (Hp) := Option.bind (hP h v0 5) (fun q1 => if 0 ≤ v5 ∧ v5.toNatClampNeg < hL h q1 then (lt (sI h q1 (v5.toNatClampNeg) v3) (fun h3 => Option.bind (hP h3 v0 6) (fun q4 => if 0 ≤ v5 ∧ v5.toNatClampNeg < hL h3 q4 then (lt (sI h3 q4 (v5.toNatClampNeg) v1) (fun h6 => Option.bind (hP h6 v0 7) (fun q7 => if 0 ≤ v5 ∧ v5.toNatClampNeg < hL h6 q7 then (lt (sI h6 q7 (v5.toNatClampNeg) v2) (fun h9 => Option.bind (hP h9 v0 9) (fun q10 => if 0 ≤ v5 ∧ v5.toNatClampNeg < hL h9 q10 then (Option.bind (f_X3_rise N h9 v0 (hI h9 q10 (v5.toNatClampNeg))) (fun h12 => some h12)) else none))) else none))) else none))) else none)
set_option maxHeartbeats 4000000 in
set_option maxRecDepth 100000 in
theorem p_X3_reach_77 {X : XT} {h' : Hp} (C : CX X cX3_reach "WaterStair$Search" 6 none rmX3_reach) (hQ : QX X none h' rmX3_reach.cells rmX3_reach.slots) {N : Nat}  {h : Hp} {v0 : Nat} {v1 : Int32} {v2 : Int32} {v3 : Int32} {v5 : Int32} (hf : f_X3_reach_77 N h v0 v1 v2 v3 v5 = some h') : V X 0 0 h 77 [(0, vR 3 (some v0)), (1, vI v1), (2, vI v2), (3, vI v3), (5, vI v5)] [] := by
  unfold f_X3_reach_77 at hf
  refine V_aload_n C dX3_reach_77 rfl 0 rfl ?_
  obtain ⟨q1, eq1, hf⟩ := o_b hf
  refine V_getR C fl_X3_25 rfl rfl (by decide) eq1 dX3_reach_78 ?_
  refine V_iload C dX3_reach_81 4 rfl ?_
  refine V_iload_n C dX3_reach_83 rfl 3 rfl ?_
  obtain ⟨g2, hf⟩ := o_if hf
  obtain ⟨h3, eh3, hf⟩ := o_l hf
  refine V_iast C (vp_g g2) rfl dX3_reach_84 (V_eqH eh3 ?_)
  refine V_aload_n C dX3_reach_85 rfl 0 rfl ?_
  obtain ⟨q4, eq4, hf⟩ := o_b hf
  refine V_getR C fl_X3_28 rfl rfl (by decide) eq4 dX3_reach_86 ?_
  refine V_iload C dX3_reach_89 4 rfl ?_
  refine V_iload_n C dX3_reach_91 rfl 1 rfl ?_
  obtain ⟨g5, hf⟩ := o_if hf
  obtain ⟨h6, eh6, hf⟩ := o_l hf
  refine V_iast C (vp_g g5) rfl dX3_reach_92 (V_eqH eh6 ?_)
  refine V_aload_n C dX3_reach_93 rfl 0 rfl ?_
  obtain ⟨q7, eq7, hf⟩ := o_b hf
  refine V_getR C fl_X3_31 rfl rfl (by decide) eq7 dX3_reach_94 ?_
  refine V_iload C dX3_reach_97 4 rfl ?_
  refine V_iload_n C dX3_reach_99 rfl 2 rfl ?_
  obtain ⟨g8, hf⟩ := o_if hf
  obtain ⟨h9, eh9, hf⟩ := o_l hf
  refine V_iast C (vp_g g8) rfl dX3_reach_100 (V_eqH eh9 ?_)
  refine V_aload_n C dX3_reach_101 rfl 0 rfl ?_
  refine V_aload_n C dX3_reach_102 rfl 0 rfl ?_
  obtain ⟨q10, eq10, hf⟩ := o_b hf
  refine V_getR C fl_X3_37 rfl rfl (by decide) eq10 dX3_reach_103 ?_
  refine V_iload C dX3_reach_106 4 rfl ?_
  obtain ⟨g11, hf⟩ := o_if hf
  refine V_iald C (vp_g g11) rfl dX3_reach_108 ?_
  obtain ⟨h12, eh12, hf⟩ := o_b hf
  refine V_callV (as := [vI (hI h9 q10 (v5.toNatClampNeg))]) (st := []) C ml_X3_149 fx3 (ct_X3_rise eh12) rfl ⟨by decide, by decide, by decide, by decide⟩ (Nat.le_of_ble_eq_true rfl) rfl dX3_reach_109 (cs' := 0) (sl' := 0) rfl rfl ?_
  have hf := Option.some.inj hf
  subst hf
  exact V_vret C hQ dX3_reach_112
def f_X3_reach_38 (N : Nat) (h : Hp) (v0 : Nat) (v1 : Int32) (v2 : Int32) (v3 : Int32) (v4 : Int32) (v5 : Int32) : Option (Hp) := if 0 ≤ v5 then (Option.bind (hP h v0 9) (fun q14 => if 0 ≤ v5 ∧ v5.toNatClampNeg < hL h q14 then (if (hI h q14 (v5.toNatClampNeg)) = (-1 : Int32) then (some h) else (Option.bind (hP h v0 5) (fun q17 => if 0 ≤ v5 ∧ v5.toNatClampNeg < hL h q17 then (if v3 < (hI h q17 (v5.toNatClampNeg)) then (f_X3_reach_77 N h v0 v1 v2 v3 v5) else (some h)) else none))) else none)) else (b2 (f_X3_addTrial N h v0 v4) (fun r20 h21 => f_X3_reach_77 N h21 v0 v1 v2 v3 r20))
set_option maxHeartbeats 4000000 in
set_option maxRecDepth 100000 in
theorem p_X3_reach_38 {X : XT} {h' : Hp} (C : CX X cX3_reach "WaterStair$Search" 6 none rmX3_reach) (hQ : QX X none h' rmX3_reach.cells rmX3_reach.slots) {N : Nat}  {h : Hp} {v0 : Nat} {v1 : Int32} {v2 : Int32} {v3 : Int32} {v4 : Int32} {v5 : Int32} (hf : f_X3_reach_38 N h v0 v1 v2 v3 v4 v5 = some h') : V X 0 0 h 38 [(0, vR 3 (some v0)), (1, vI v1), (2, vI v2), (3, vI v3), (4, vI v4), (5, vI v5)] [] := by
  unfold f_X3_reach_38 at hf
  refine V_iload C dX3_reach_38 5 rfl ?_
  refine V_if_ge C 54 dX3_reach_40 (by decide) (fun c13 => ?_) (fun c13 => ?_)
  · have hf := i_t c13 hf
    refine V_aload_n C dX3_reach_54 rfl 0 rfl ?_
    obtain ⟨q14, eq14, hf⟩ := o_b hf
    refine V_getR C fl_X3_37 rfl rfl (by decide) eq14 dX3_reach_55 ?_
    refine V_iload C dX3_reach_58 5 rfl ?_
    obtain ⟨g15, hf⟩ := o_if hf
    refine V_iald C (vp_g g15) rfl dX3_reach_60 ?_
    refine V_iconst (v := (-1 : Int32)) C dX3_reach_61 (by decide) ?_
    refine V_icmp_eq C 76 dX3_reach_62 (by decide) (fun c16 => ?_) (fun c16 => ?_)
    · have hf := i_t c16 hf
      have hf := Option.some.inj hf
      subst hf
      exact V_vret C hQ dX3_reach_76
    · have hf := i_f c16 hf
      refine V_iload_n C dX3_reach_65 rfl 3 rfl ?_
      refine V_aload_n C dX3_reach_66 rfl 0 rfl ?_
      obtain ⟨q17, eq17, hf⟩ := o_b hf
      refine V_getR C fl_X3_25 rfl rfl (by decide) eq17 dX3_reach_67 ?_
      refine V_iload C dX3_reach_70 5 rfl ?_
      obtain ⟨g18, hf⟩ := o_if hf
      refine V_iald C (vp_g g18) rfl dX3_reach_72 ?_
      refine V_icmp_lt C 77 dX3_reach_73 (by decide) (fun c19 => ?_) (fun c19 => ?_)
      · have hf := i_t c19 hf
        refine V_sub (lv' := [(0, vR 3 (some v0)), (1, vI v1), (2, vI v2), (3, vI v3), (5, vI v5)]) [0, 1, 2, 3, 5] rfl ?_
        exact p_X3_reach_77 C hQ hf
      · have hf := i_f c19 hf
        have hf := Option.some.inj hf
        subst hf
        exact V_vret C hQ dX3_reach_76
  · have hf := i_f c13 hf
    refine V_aload_n C dX3_reach_43 rfl 0 rfl ?_
    refine V_iload C dX3_reach_44 4 rfl ?_
    obtain ⟨r20, h21, er20, hf⟩ := o_b2 hf
    refine V_callV (as := [vI v4]) (st := []) C ml_X3_146 fx3 (ct_X3_addTrial er20) rfl ⟨by decide, by decide, by decide, by decide⟩ (Nat.le_of_ble_eq_true rfl) rfl dX3_reach_46 (cs' := 0) (sl' := 0) rfl rfl ?_
    refine V_istore (lv' := [(5, vI r20), (0, vR 3 (some v0)), (1, vI v1), (2, vI v2), (3, vI v3), (4, vI v4)]) C dX3_reach_49 (by decide) rfl ?_
    refine V_goto C 77 dX3_reach_51 (by decide) ?_
    refine V_sub (lv' := [(0, vR 3 (some v0)), (1, vI v1), (2, vI v2), (3, vI v3), (5, vI r20)]) [1, 2, 3, 4, 0] rfl ?_
    exact p_X3_reach_77 C hQ hf
def f_X3_reach (N : Nat) (h : Hp) (v0 : Nat) (v1 : Int32) (v2 : Int32) (v3 : Int32) : Option (Hp) := Option.bind (f_X3_slotOfTrial N h v0) (fun r22 => Option.bind (hP h v0 10) (fun q23 => if 0 ≤ r22 ∧ r22.toNatClampNeg < hL h q23 then (lt ((hI h q23 (r22.toNatClampNeg)) - (1 : Int32)) (fun y25 => if 0 ≤ y25 then (f_X3_reach_38 N h v0 v1 v2 v3 r22 y25) else (if (hI h v0 12) < (1500 : Int32) then (f_X3_reach_38 N h v0 v1 v2 v3 r22 y25) else (lt (sI h v0 14 (1 : Int32)) (fun h28 => some h28))))) else none))
set_option maxHeartbeats 4000000 in
set_option maxRecDepth 100000 in
theorem p_X3_reach {X : XT} {h' : Hp} (C : CX X cX3_reach "WaterStair$Search" 6 none rmX3_reach) {N : Nat} {h : Hp} {v0 : Nat} {v1 : Int32} {v2 : Int32} {v3 : Int32} (hQ : QX X none h' rmX3_reach.cells rmX3_reach.slots) (hf : f_X3_reach N h v0 v1 v2 v3 = some h') : V X 0 0 h 0 [(0, vR 3 (some v0)), (1, vI v1), (2, vI v2), (3, vI v3)] [] := by
  unfold f_X3_reach at hf
  refine V_aload_n C dX3_reach_0 rfl 0 rfl ?_
  obtain ⟨r22, er22, hf⟩ := o_b hf
  refine V_callV (as := []) (st := []) C ml_X3_143 fx3 (ct_X3_slotOfTrial er22) rfl ⟨by decide, by decide, by decide, by decide⟩ (Nat.le_of_ble_eq_true rfl) rfl dX3_reach_1 (cs' := 0) (sl' := 0) rfl rfl ?_
  refine V_istore (lv' := [(4, vI r22), (0, vR 3 (some v0)), (1, vI v1), (2, vI v2), (3, vI v3)]) C dX3_reach_4 (by decide) rfl ?_
  refine V_aload_n C dX3_reach_6 rfl 1 rfl ?_
  obtain ⟨q23, eq23, hf⟩ := o_b hf
  refine V_getR C fl_X3_40 rfl rfl (by decide) eq23 dX3_reach_7 ?_
  refine V_iload C dX3_reach_10 0 rfl ?_
  obtain ⟨g24, hf⟩ := o_if hf
  refine V_iald C (vp_g g24) rfl dX3_reach_12 ?_
  refine V_iconst (v := (1 : Int32)) C dX3_reach_13 (by decide) ?_
  refine V_isub C dX3_reach_14 ?_
  obtain ⟨y25, ey25, hf⟩ := o_l hf
  refine V_eqI ey25 ?_
  refine V_istore (lv' := [(5, vI y25), (4, vI r22), (0, vR 3 (some v0)), (1, vI v1), (2, vI v2), (3, vI v3)]) C dX3_reach_15 (by decide) rfl ?_
  refine V_iload C dX3_reach_17 0 rfl ?_
  refine V_if_ge C 38 dX3_reach_19 (by decide) (fun c26 => ?_) (fun c26 => ?_)
  · have hf := i_t c26 hf
    refine V_sub (lv' := [(0, vR 3 (some v0)), (1, vI v1), (2, vI v2), (3, vI v3), (4, vI r22), (5, vI y25)]) [2, 3, 4, 5, 1, 0] rfl ?_
    exact p_X3_reach_38 C hQ hf
  · have hf := i_f c26 hf
    refine V_aload_n C dX3_reach_22 rfl 2 rfl ?_
    refine V_getI C fl_X3_46 rfl dX3_reach_23 ?_
    refine V_sipush (v := (1500 : Int32)) C dX3_reach_26 (by decide) ?_
    refine V_icmp_lt C 38 dX3_reach_29 (by decide) (fun c27 => ?_) (fun c27 => ?_)
    · have hf := i_t c27 hf
      refine V_sub (lv' := [(0, vR 3 (some v0)), (1, vI v1), (2, vI v2), (3, vI v3), (4, vI r22), (5, vI y25)]) [2, 3, 4, 5, 1, 0] rfl ?_
      exact p_X3_reach_38 C hQ hf
    · have hf := i_f c27 hf
      refine V_aload_n C dX3_reach_32 rfl 2 rfl ?_
      refine V_iconst (v := (1 : Int32)) C dX3_reach_33 (by decide) ?_
      obtain ⟨h28, eh28, hf⟩ := o_l hf
      refine V_putI C nf_X3_53 rfl (okI_z (Or.inr rfl)) dX3_reach_34 (V_eqH eh28 ?_)
      have hf := Option.some.inj hf
      subst hf
      exact V_vret C hQ dX3_reach_37
theorem ct_X3_reach {h' : Hp} {N : Nat} {h : Hp} {v0 : Nat} {v1 : Int32} {v2 : Int32} {v3 : Int32} (hf : f_X3_reach N h v0 v1 v2 v3 = some h') (l : Launch) (G : GT) : MC l G yX3_reach cX3_reach 6 none rmX3_reach h [vR 3 (some v0), vI v1, vI v2, vI v3] none h' := MC_of (by decide) rfl (Nat.le_of_ble_eq_true rfl) rfl (fun X C hQ hin => p_X3_reach C hQ hf)
abbrev rmX3_begin : Room := { frames := 3, cells := 0, slots := 0, locals := 85 }
def f_X3_begin (N : Nat) (h : Hp) (v0 : Nat) (v1 : Nat) (v2 : Int32) : Option (Hp) := Option.bind (hP h v0 0) (fun q1 => Option.bind (f_X5_copyFrom h q1 v1) (fun h2 => Option.bind (hP h2 v0 0) (fun q3 => Option.bind (hP h2 q3 8) (fun q4 => if 0 < hL h2 q4 then (lt (sI h2 q4 (0) v2) (fun h6 => Option.bind (hP h6 v0 10) (fun q7 => Option.bind (f_J7_fill_53178 N h6 q7 (0 : Int32)) (fun h8 => Option.bind (hP h8 v0 11) (fun q9 => Option.bind (f_J7_fill_53178 N h8 q9 (-1 : Int32)) (fun h10 => lt (sI h10 v0 12 (0 : Int32)) (fun h11 => lt (sI h11 v0 13 (0 : Int32)) (fun h12 => lt (sI h12 v0 14 (0 : Int32)) (fun h13 => Option.bind (f_X3_reach N h13 v0 (0 : Int32) (0 : Int32) (0 : Int32)) (fun h14 => some h14)))))))))) else none))))
set_option maxHeartbeats 4000000 in
set_option maxRecDepth 100000 in
theorem p_X3_begin {X : XT} {h' : Hp} (C : CX X cX3_begin "WaterStair$Search" 3 none rmX3_begin) {N : Nat} {h : Hp} {v0 : Nat} {v1 : Nat} {v2 : Int32} (hQ : QX X none h' rmX3_begin.cells rmX3_begin.slots) (hf : f_X3_begin N h v0 v1 v2 = some h') : V X 0 0 h 0 [(0, vR 3 (some v0)), (1, vR 5 (some v1)), (2, vI v2)] [] := by
  unfold f_X3_begin at hf
  refine V_aload_n C dX3_begin_0 rfl 0 rfl ?_
  obtain ⟨q1, eq1, hf⟩ := o_b hf
  refine V_getR C fl_X3_60 rfl rfl (by decide) eq1 dX3_begin_1 ?_
  refine V_aload_n C dX3_begin_4 rfl 1 rfl ?_
  obtain ⟨h2, eh2, hf⟩ := o_b hf
  refine V_callV (as := [vR 5 (some v1)]) (st := []) C ml_X3_96 fx5 (ct_X5_copyFrom eh2) rfl ⟨by decide, by decide, by decide, by decide⟩ (Nat.le_of_ble_eq_true rfl) rfl dX3_begin_5 (cs' := 0) (sl' := 0) rfl rfl ?_
  refine V_aload_n C dX3_begin_8 rfl 0 rfl ?_
  obtain ⟨q3, eq3, hf⟩ := o_b hf
  refine V_getR C fl_X3_60 rfl rfl (by decide) eq3 dX3_begin_9 ?_
  obtain ⟨q4, eq4, hf⟩ := o_b hf
  refine V_getR C fl_X3_100 rfl rfl (by decide) eq4 dX3_begin_12 ?_
  refine V_iconst (v := (0 : Int32)) C dX3_begin_15 (by decide) ?_
  refine V_iload_n C dX3_begin_16 rfl 2 rfl ?_
  obtain ⟨g5, hf⟩ := o_if hf
  obtain ⟨h6, eh6, hf⟩ := o_l hf
  refine V_iast C (vp_k (by decide) (by decide) g5) (by decide : Int32.toNatClampNeg (0 : Int32) = 0) dX3_begin_17 (V_eqH eh6 ?_)
  refine V_aload_n C dX3_begin_18 rfl 0 rfl ?_
  obtain ⟨q7, eq7, hf⟩ := o_b hf
  refine V_getR C fl_X3_40 rfl rfl (by decide) eq7 dX3_begin_19 ?_
  refine V_iconst (v := (0 : Int32)) C dX3_begin_22 (by decide) ?_
  obtain ⟨h8, eh8, hf⟩ := o_b hf
  refine V_callS (as := [vR 10 (some q7), vI (0 : Int32)]) (st := []) C ml_X3_103 (ct_J7_fill_53178 eh8) rfl ⟨by decide, by decide, by decide, by decide⟩ (Nat.le_of_ble_eq_true rfl) rfl dX3_begin_23 (cs' := 0) (sl' := 0) rfl rfl ?_
  refine V_aload_n C dX3_begin_26 rfl 0 rfl ?_
  obtain ⟨q9, eq9, hf⟩ := o_b hf
  refine V_getR C fl_X3_43 rfl rfl (by decide) eq9 dX3_begin_27 ?_
  refine V_iconst (v := (-1 : Int32)) C dX3_begin_30 (by decide) ?_
  obtain ⟨h10, eh10, hf⟩ := o_b hf
  refine V_callS (as := [vR 10 (some q9), vI (-1 : Int32)]) (st := []) C ml_X3_103 (ct_J7_fill_53178 eh10) rfl ⟨by decide, by decide, by decide, by decide⟩ (Nat.le_of_ble_eq_true rfl) rfl dX3_begin_31 (cs' := 0) (sl' := 0) rfl rfl ?_
  refine V_aload_n C dX3_begin_34 rfl 0 rfl ?_
  refine V_iconst (v := (0 : Int32)) C dX3_begin_35 (by decide) ?_
  obtain ⟨h11, eh11, hf⟩ := o_l hf
  refine V_putI C nf_X3_46 rfl (okI_int _) dX3_begin_36 (V_eqH eh11 ?_)
  refine V_aload_n C dX3_begin_39 rfl 0 rfl ?_
  refine V_iconst (v := (0 : Int32)) C dX3_begin_40 (by decide) ?_
  obtain ⟨h12, eh12, hf⟩ := o_l hf
  refine V_putI C nf_X3_50 rfl (okI_int _) dX3_begin_41 (V_eqH eh12 ?_)
  refine V_aload_n C dX3_begin_44 rfl 0 rfl ?_
  refine V_iconst (v := (0 : Int32)) C dX3_begin_45 (by decide) ?_
  obtain ⟨h13, eh13, hf⟩ := o_l hf
  refine V_putI C nf_X3_53 rfl (okI_z (Or.inl rfl)) dX3_begin_46 (V_eqH eh13 ?_)
  refine V_aload_n C dX3_begin_49 rfl 0 rfl ?_
  refine V_iconst (v := (0 : Int32)) C dX3_begin_50 (by decide) ?_
  refine V_iconst (v := (0 : Int32)) C dX3_begin_51 (by decide) ?_
  refine V_iconst (v := (0 : Int32)) C dX3_begin_52 (by decide) ?_
  obtain ⟨h14, eh14, hf⟩ := o_b hf
  refine V_callV (as := [vI (0 : Int32), vI (0 : Int32), vI (0 : Int32)]) (st := []) C ml_X3_109 fx3 (ct_X3_reach eh14) rfl ⟨by decide, by decide, by decide, by decide⟩ (Nat.le_of_ble_eq_true rfl) rfl dX3_begin_53 (cs' := 0) (sl' := 0) rfl rfl ?_
  have hf := Option.some.inj hf
  subst hf
  exact V_vret C hQ dX3_begin_56
theorem ct_X3_begin {h' : Hp} {N : Nat} {h : Hp} {v0 : Nat} {v1 : Nat} {v2 : Int32} (hf : f_X3_begin N h v0 v1 v2 = some h') (l : Launch) (G : GT) : MC l G yX3_begin cX3_begin 3 none rmX3_begin h [vR 3 (some v0), vR 5 (some v1), vI v2] none h' := MC_of (by decide) rfl (Nat.le_of_ble_eq_true rfl) rfl (fun X C hQ hin => p_X3_begin C hQ hf)
abbrev rmX5_unpackPlaces : Room := { frames := 0, cells := 0, slots := 0, locals := 0 }
def f_X5_unpackPlaces_2 (N : Nat) : Nat → Hp → Nat → Int32 → Int32 → Option (Hp)
  | 0, _, _, _, _ => none
  | n + 1, h, v0, v1, v2 => if (hI h v0 1) ≤ v2 then (some h) else (Option.bind (hP h v0 12) (fun q2 => lt ((v1 >>> (((3 : Int32) * v2) &&& 31)) &&& (7 : Int32)) (fun y3 => if 0 ≤ v2 ∧ v2.toNatClampNeg < hL h q2 then (lt (sI h q2 (v2.toNatClampNeg) y3) (fun h5 => f_X5_unpackPlaces_2 N n h5 v0 v1 (v2 + (1 : Int32)))) else none)))
set_option maxHeartbeats 4000000 in
set_option maxRecDepth 100000 in
theorem p_X5_unpackPlaces_2 {X : XT} {h' : Hp} (C : CX X cX5_unpackPlaces "WaterStair$State" 3 none rmX5_unpackPlaces) (hQ : QX X none h' rmX5_unpackPlaces.cells rmX5_unpackPlaces.slots) {N : Nat}  : ∀ (n : Nat) (h : Hp) (v0 : Nat) (v1 : Int32) (v2 : Int32), f_X5_unpackPlaces_2 N n h v0 v1 v2 = some h' → V X 0 0 h 2 [(0, vR 5 (some v0)), (1, vI v1), (2, vI v2)] [] := by
  intro n
  induction n with
  | zero =>
    intro h v0 v1 v2 hf
    have hf : (none : Option (Hp)) = some _ := hf
    cases hf
  | succ n ih =>
    intro h v0 v1 v2 hf
    rw [f_X5_unpackPlaces_2] at hf
    refine V_iload_n C dX5_unpackPlaces_2 rfl 2 rfl ?_
    refine V_aload_n C dX5_unpackPlaces_3 rfl 0 rfl ?_
    refine V_getI C fl_X5_15 rfl dX5_unpackPlaces_4 ?_
    refine V_icmp_ge C 30 dX5_unpackPlaces_7 (by decide) (fun c1 => ?_) (fun c1 => ?_)
    · have hf := i_t c1 hf
      have hf := Option.some.inj hf
      subst hf
      exact V_vret C hQ dX5_unpackPlaces_30
    · have hf := i_f c1 hf
      refine V_aload_n C dX5_unpackPlaces_10 rfl 0 rfl ?_
      obtain ⟨q2, eq2, hf⟩ := o_b hf
      refine V_getR C fl_X5_49 rfl rfl (by decide) eq2 dX5_unpackPlaces_11 ?_
      refine V_iload_n C dX5_unpackPlaces_14 rfl 2 rfl ?_
      refine V_iload_n C dX5_unpackPlaces_15 rfl 1 rfl ?_
      refine V_iconst (v := (3 : Int32)) C dX5_unpackPlaces_16 (by decide) ?_
      refine V_iload_n C dX5_unpackPlaces_17 rfl 2 rfl ?_
      refine V_imul C dX5_unpackPlaces_18 ?_
      refine V_ishr C dX5_unpackPlaces_19 ?_
      refine V_bipush (v := (7 : Int32)) C dX5_unpackPlaces_20 (by decide) ?_
      refine V_iand C dX5_unpackPlaces_22 ?_
      obtain ⟨y3, ey3, hf⟩ := o_l hf
      refine V_eqI ey3 ?_
      obtain ⟨g4, hf⟩ := o_if hf
      obtain ⟨h5, eh5, hf⟩ := o_l hf
      refine V_iast C (vp_g g4) rfl dX5_unpackPlaces_23 (V_eqH eh5 ?_)
      refine V_iinc (lv' := [(2, vI (v2 + (1 : Int32))), (0, vR 5 (some v0)), (1, vI v1)]) C dX5_unpackPlaces_24 2 rfl (congrArg (v2 + ·) (by decide : Int32.ofInt (1) = (1 : Int32))) (by decide) rfl ?_
      refine V_goto C 2 dX5_unpackPlaces_27 (by decide) ?_
      refine V_sub (lv' := [(0, vR 5 (some v0)), (1, vI v1), (2, vI (v2 + (1 : Int32)))]) [1, 2, 0] rfl ?_
      exact ih _ _ _ _ hf
def f_X5_unpackPlaces (N : Nat) (h : Hp) (v0 : Nat) (v1 : Int32) : Option (Hp) := f_X5_unpackPlaces_2 N N h v0 v1 (0 : Int32)
set_option maxHeartbeats 4000000 in
set_option maxRecDepth 100000 in
theorem p_X5_unpackPlaces {X : XT} {h' : Hp} (C : CX X cX5_unpackPlaces "WaterStair$State" 3 none rmX5_unpackPlaces) {N : Nat} {h : Hp} {v0 : Nat} {v1 : Int32} (hQ : QX X none h' rmX5_unpackPlaces.cells rmX5_unpackPlaces.slots) (hf : f_X5_unpackPlaces N h v0 v1 = some h') : V X 0 0 h 0 [(0, vR 5 (some v0)), (1, vI v1)] [] := by
  unfold f_X5_unpackPlaces at hf
  refine V_iconst (v := (0 : Int32)) C dX5_unpackPlaces_0 (by decide) ?_
  refine V_istore_n (lv' := [(2, vI (0 : Int32)), (0, vR 5 (some v0)), (1, vI v1)]) C dX5_unpackPlaces_1 rfl (by decide) rfl ?_
  refine V_sub (lv' := [(0, vR 5 (some v0)), (1, vI v1), (2, vI (0 : Int32))]) [1, 2, 0] rfl ?_
  exact p_X5_unpackPlaces_2 C hQ N _ _ _ _ hf
theorem ct_X5_unpackPlaces {h' : Hp} {N : Nat} {h : Hp} {v0 : Nat} {v1 : Int32} (hf : f_X5_unpackPlaces N h v0 v1 = some h') (l : Launch) (G : GT) : MC l G yX5_unpackPlaces cX5_unpackPlaces 3 none rmX5_unpackPlaces h [vR 5 (some v0), vI v1] none h' := MC_of (by decide) rfl (Nat.le_of_ble_eq_true rfl) rfl (fun X C hQ hin => p_X5_unpackPlaces C hQ hf)
abbrev rmX5_unpackWater : Room := { frames := 0, cells := 0, slots := 0, locals := 0 }
def f_X5_unpackWater_3 (N : Nat) : Nat → Hp → Nat → Int32 → Int64 → Int32 → Option (Hp)
  | 0, _, _, _, _, _ => none
  | n + 1, h, v0, v1, v2, v4 => if (4 : Int32) ≤ v4 then (some h) else (if (hI h v0 0) ≤ (v1 + v4) then (some h) else (Option.bind (hP h v0 8) (fun q3 => lt (((v2 >>> (((16 : Int32) * v4).toInt64 &&& 63)) &&& (65535 : Int64)).toInt32) (fun y4 => if 0 ≤ v1 + v4 ∧ (v1 + v4).toNatClampNeg < hL h q3 then (lt (sI h q3 ((v1 + v4).toNatClampNeg) y4) (fun h6 => f_X5_unpackWater_3 N n h6 v0 v1 v2 (v4 + (1 : Int32)))) else none))))
set_option maxHeartbeats 4000000 in
set_option maxRecDepth 100000 in
theorem p_X5_unpackWater_3 {X : XT} {h' : Hp} (C : CX X cX5_unpackWater "WaterStair$State" 5 none rmX5_unpackWater) (hQ : QX X none h' rmX5_unpackWater.cells rmX5_unpackWater.slots) {N : Nat}  : ∀ (n : Nat) (h : Hp) (v0 : Nat) (v1 : Int32) (v2 : Int64) (v4 : Int32), f_X5_unpackWater_3 N n h v0 v1 v2 v4 = some h' → V X 0 0 h 3 [(0, vR 5 (some v0)), (1, vI v1), (2, vL v2), (4, vI v4)] [] := by
  intro n
  induction n with
  | zero =>
    intro h v0 v1 v2 v4 hf
    have hf : (none : Option (Hp)) = some _ := hf
    cases hf
  | succ n ih =>
    intro h v0 v1 v2 v4 hf
    rw [f_X5_unpackWater_3] at hf
    refine V_iload C dX5_unpackWater_3 3 rfl ?_
    refine V_iconst (v := (4 : Int32)) C dX5_unpackWater_5 (by decide) ?_
    refine V_icmp_ge C 47 dX5_unpackWater_6 (by decide) (fun c1 => ?_) (fun c1 => ?_)
    · have hf := i_t c1 hf
      have hf := Option.some.inj hf
      subst hf
      exact V_vret C hQ dX5_unpackWater_47
    · have hf := i_f c1 hf
      refine V_iload_n C dX5_unpackWater_9 rfl 1 rfl ?_
      refine V_iload C dX5_unpackWater_10 3 rfl ?_
      refine V_iadd C dX5_unpackWater_12 ?_
      refine V_aload_n C dX5_unpackWater_13 rfl 0 rfl ?_
      refine V_getI C fl_X5_9 rfl dX5_unpackWater_14 ?_
      refine V_icmp_ge C 47 dX5_unpackWater_17 (by decide) (fun c2 => ?_) (fun c2 => ?_)
      · have hf := i_t c2 hf
        have hf := Option.some.inj hf
        subst hf
        exact V_vret C hQ dX5_unpackWater_47
      · have hf := i_f c2 hf
        refine V_aload_n C dX5_unpackWater_20 rfl 0 rfl ?_
        obtain ⟨q3, eq3, hf⟩ := o_b hf
        refine V_getR C fl_X5_36 rfl rfl (by decide) eq3 dX5_unpackWater_21 ?_
        refine V_iload_n C dX5_unpackWater_24 rfl 1 rfl ?_
        refine V_iload C dX5_unpackWater_25 3 rfl ?_
        refine V_iadd C dX5_unpackWater_27 ?_
        refine V_lload_n C dX5_unpackWater_28 rfl 2 rfl ?_
        refine V_bipush (v := (16 : Int32)) C dX5_unpackWater_29 (by decide) ?_
        refine V_iload C dX5_unpackWater_31 3 rfl ?_
        refine V_imul C dX5_unpackWater_33 ?_
        refine V_lshr C dX5_unpackWater_34 ?_
        refine V_ldc2 C kl_X5_199 dX5_unpackWater_35 ?_
        refine V_land C dX5_unpackWater_38 ?_
        refine V_l2i C dX5_unpackWater_39 ?_
        obtain ⟨y4, ey4, hf⟩ := o_l hf
        refine V_eqI ey4 ?_
        obtain ⟨g5, hf⟩ := o_if hf
        obtain ⟨h6, eh6, hf⟩ := o_l hf
        refine V_iast C (vp_g g5) rfl dX5_unpackWater_40 (V_eqH eh6 ?_)
        refine V_iinc (lv' := [(4, vI (v4 + (1 : Int32))), (0, vR 5 (some v0)), (1, vI v1), (2, vL v2)]) C dX5_unpackWater_41 3 rfl (congrArg (v4 + ·) (by decide : Int32.ofInt (1) = (1 : Int32))) (by decide) rfl ?_
        refine V_goto C 3 dX5_unpackWater_44 (by decide) ?_
        refine V_sub (lv' := [(0, vR 5 (some v0)), (1, vI v1), (2, vL v2), (4, vI (v4 + (1 : Int32)))]) [1, 2, 3, 0] rfl ?_
        exact ih _ _ _ _ _ hf
def f_X5_unpackWater (N : Nat) (h : Hp) (v0 : Nat) (v1 : Int32) (v2 : Int64) : Option (Hp) := f_X5_unpackWater_3 N N h v0 v1 v2 (0 : Int32)
set_option maxHeartbeats 4000000 in
set_option maxRecDepth 100000 in
theorem p_X5_unpackWater {X : XT} {h' : Hp} (C : CX X cX5_unpackWater "WaterStair$State" 5 none rmX5_unpackWater) {N : Nat} {h : Hp} {v0 : Nat} {v1 : Int32} {v2 : Int64} (hQ : QX X none h' rmX5_unpackWater.cells rmX5_unpackWater.slots) (hf : f_X5_unpackWater N h v0 v1 v2 = some h') : V X 0 0 h 0 [(0, vR 5 (some v0)), (1, vI v1), (2, vL v2)] [] := by
  unfold f_X5_unpackWater at hf
  refine V_iconst (v := (0 : Int32)) C dX5_unpackWater_0 (by decide) ?_
  refine V_istore (lv' := [(4, vI (0 : Int32)), (0, vR 5 (some v0)), (1, vI v1), (2, vL v2)]) C dX5_unpackWater_1 (by decide) rfl ?_
  refine V_sub (lv' := [(0, vR 5 (some v0)), (1, vI v1), (2, vL v2), (4, vI (0 : Int32))]) [1, 2, 3, 0] rfl ?_
  exact p_X5_unpackWater_3 C hQ N _ _ _ _ _ hf
theorem ct_X5_unpackWater {h' : Hp} {N : Nat} {h : Hp} {v0 : Nat} {v1 : Int32} {v2 : Int64} (hf : f_X5_unpackWater N h v0 v1 v2 = some h') (l : Launch) (G : GT) : MC l G yX5_unpackWater cX5_unpackWater 5 none rmX5_unpackWater h [vR 5 (some v0), vI v1, vL v2] none h' := MC_of (by decide) rfl (Nat.le_of_ble_eq_true rfl) rfl (fun X C hQ hin => p_X5_unpackWater C hQ hf)
abbrev rmX3_load : Room := { frames := 1, cells := 0, slots := 0, locals := 24 }
def f_X3_load (N : Nat) (h : Hp) (v0 : Nat) (v1 : Int32) : Option (Hp) := Option.bind (hP h v0 0) (fun q1 => Option.bind (hP h v0 2) (fun q2 => if 0 ≤ v1 ∧ v1.toNatClampNeg < hL h q2 then (Option.bind (f_X5_unpackPlaces N h q1 (hI h q2 (v1.toNatClampNeg))) (fun h4 => Option.bind (hP h4 v0 0) (fun q5 => Option.bind (hP h4 v0 3) (fun q6 => if 0 ≤ v1 ∧ v1.toNatClampNeg < hL h4 q6 then (Option.bind (f_X5_unpackWater N h4 q5 (0 : Int32) (hJ h4 q6 (v1.toNatClampNeg))) (fun h8 => Option.bind (hP h8 v0 0) (fun q9 => Option.bind (hP h8 v0 4) (fun q10 => if 0 ≤ v1 ∧ v1.toNatClampNeg < hL h8 q10 then (Option.bind (f_X5_unpackWater N h8 q9 (4 : Int32) (hJ h8 q10 (v1.toNatClampNeg))) (fun h12 => some h12)) else none)))) else none)))) else none))
set_option maxHeartbeats 4000000 in
set_option maxRecDepth 100000 in
theorem p_X3_load {X : XT} {h' : Hp} (C : CX X cX3_load "WaterStair$Search" 2 none rmX3_load) {N : Nat} {h : Hp} {v0 : Nat} {v1 : Int32} (hQ : QX X none h' rmX3_load.cells rmX3_load.slots) (hf : f_X3_load N h v0 v1 = some h') : V X 0 0 h 0 [(0, vR 3 (some v0)), (1, vI v1)] [] := by
  unfold f_X3_load at hf
  refine V_aload_n C dX3_load_0 rfl 0 rfl ?_
  obtain ⟨q1, eq1, hf⟩ := o_b hf
  refine V_getR C fl_X3_60 rfl rfl (by decide) eq1 dX3_load_1 ?_
  refine V_aload_n C dX3_load_4 rfl 0 rfl ?_
  obtain ⟨q2, eq2, hf⟩ := o_b hf
  refine V_getR C fl_X3_15 rfl rfl (by decide) eq2 dX3_load_5 ?_
  refine V_iload_n C dX3_load_8 rfl 1 rfl ?_
  obtain ⟨g3, hf⟩ := o_if hf
  refine V_iald C (vp_g g3) rfl dX3_load_9 ?_
  obtain ⟨h4, eh4, hf⟩ := o_b hf
  refine V_callV (as := [vI (hI h q2 (v1.toNatClampNeg))]) (st := []) C ml_X3_113 fx5 (ct_X5_unpackPlaces eh4) rfl ⟨by decide, by decide, by decide, by decide⟩ (Nat.le_of_ble_eq_true rfl) rfl dX3_load_10 (cs' := 0) (sl' := 0) rfl rfl ?_
  refine V_aload_n C dX3_load_13 rfl 0 rfl ?_
  obtain ⟨q5, eq5, hf⟩ := o_b hf
  refine V_getR C fl_X3_60 rfl rfl (by decide) eq5 dX3_load_14 ?_
  refine V_iconst (v := (0 : Int32)) C dX3_load_17 (by decide) ?_
  refine V_aload_n C dX3_load_18 rfl 0 rfl ?_
  obtain ⟨q6, eq6, hf⟩ := o_b hf
  refine V_getR C fl_X3_18 rfl rfl (by decide) eq6 dX3_load_19 ?_
  refine V_iload_n C dX3_load_22 rfl 1 rfl ?_
  obtain ⟨g7, hf⟩ := o_if hf
  refine V_lald C (vp_g g7) rfl dX3_load_23 ?_
  obtain ⟨h8, eh8, hf⟩ := o_b hf
  refine V_callV (as := [vI (0 : Int32), vL (hJ h4 q6 (v1.toNatClampNeg))]) (st := []) C ml_X3_116 fx5 (ct_X5_unpackWater eh8) rfl ⟨by decide, by decide, by decide, by decide⟩ (Nat.le_of_ble_eq_true rfl) rfl dX3_load_24 (cs' := 0) (sl' := 0) rfl rfl ?_
  refine V_aload_n C dX3_load_27 rfl 0 rfl ?_
  obtain ⟨q9, eq9, hf⟩ := o_b hf
  refine V_getR C fl_X3_60 rfl rfl (by decide) eq9 dX3_load_28 ?_
  refine V_iconst (v := (4 : Int32)) C dX3_load_31 (by decide) ?_
  refine V_aload_n C dX3_load_32 rfl 0 rfl ?_
  obtain ⟨q10, eq10, hf⟩ := o_b hf
  refine V_getR C fl_X3_22 rfl rfl (by decide) eq10 dX3_load_33 ?_
  refine V_iload_n C dX3_load_36 rfl 1 rfl ?_
  obtain ⟨g11, hf⟩ := o_if hf
  refine V_lald C (vp_g g11) rfl dX3_load_37 ?_
  obtain ⟨h12, eh12, hf⟩ := o_b hf
  refine V_callV (as := [vI (4 : Int32), vL (hJ h8 q10 (v1.toNatClampNeg))]) (st := []) C ml_X3_116 fx5 (ct_X5_unpackWater eh12) rfl ⟨by decide, by decide, by decide, by decide⟩ (Nat.le_of_ble_eq_true rfl) rfl dX3_load_38 (cs' := 0) (sl' := 0) rfl rfl ?_
  have hf := Option.some.inj hf
  subst hf
  exact V_vret C hQ dX3_load_41
theorem ct_X3_load {h' : Hp} {N : Nat} {h : Hp} {v0 : Nat} {v1 : Int32} (hf : f_X3_load N h v0 v1 = some h') (l : Launch) (G : GT) : MC l G yX3_load cX3_load 2 none rmX3_load h [vR 3 (some v0), vI v1] none h' := MC_of (by decide) rfl (Nat.le_of_ble_eq_true rfl) rfl (fun X C hQ hin => p_X3_load C hQ hf)
abbrev rmX3_noteEnds : Room := { frames := 0, cells := 0, slots := 0, locals := 0 }
def f_X3_noteEnds_43 (N : Nat) (s13 : Hp → Nat → Int32 → Int32 → Int32 → Option (Hp)) (h : Hp) (v0 : Nat) (v1 : Int32) (v2 : Int32) (v3 : Int32) : Option (Hp) := s13 h v0 v1 v2 (v3 + (1 : Int32))
set_option maxHeartbeats 4000000 in
set_option maxRecDepth 100000 in
theorem p_X3_noteEnds_43 {X : XT} {h' : Hp} (C : CX X cX3_noteEnds "WaterStair$Search" 4 none rmX3_noteEnds) (hQ : QX X none h' rmX3_noteEnds.cells rmX3_noteEnds.slots) {N : Nat} {s13 : Hp → Nat → Int32 → Int32 → Int32 → Option (Hp)} (S13 : ∀ (h : Hp) (v0 : Nat) (v1 : Int32) (v2 : Int32) (v3 : Int32), s13 h v0 v1 v2 v3 = some h' → V X 0 0 h 13 [(0, vR 3 (some v0)), (1, vI v1), (2, vI v2), (3, vI v3)] []) {h : Hp} {v0 : Nat} {v1 : Int32} {v2 : Int32} {v3 : Int32} (hf : f_X3_noteEnds_43 N s13 h v0 v1 v2 v3 = some h') : V X 0 0 h 43 [(0, vR 3 (some v0)), (1, vI v1), (2, vI v2), (3, vI v3)] [] := by
  unfold f_X3_noteEnds_43 at hf
  refine V_iinc (lv' := [(3, vI (v3 + (1 : Int32))), (0, vR 3 (some v0)), (1, vI v1), (2, vI v2)]) C dX3_noteEnds_43 3 rfl (congrArg (v3 + ·) (by decide : Int32.ofInt (1) = (1 : Int32))) (by decide) rfl ?_
  refine V_goto C 13 dX3_noteEnds_46 (by decide) ?_
  refine V_sub (lv' := [(0, vR 3 (some v0)), (1, vI v1), (2, vI v2), (3, vI (v3 + (1 : Int32)))]) [1, 2, 3, 0] rfl ?_
  exact S13 _ _ _ _ _ hf
def f_X3_noteEnds_13 (N : Nat) : Nat → Hp → Nat → Int32 → Int32 → Int32 → Option (Hp)
  | 0, _, _, _, _, _ => none
  | n + 1, h, v0, v1, v2, v3 => if (64 : Int32) ≤ v3 then (some h) else (if (v3 &&& v2) = v3 then (Option.bind (hP h v0 11) (fun q3 => if 0 ≤ v3 ∧ v3.toNatClampNeg < hL h q3 then (if (hI h q3 (v3.toNatClampNeg)) = (-1 : Int32) then (Option.bind (hP h v0 11) (fun q6 => if 0 ≤ v3 ∧ v3.toNatClampNeg < hL h q6 then (lt (sI h q6 (v3.toNatClampNeg) v1) (fun h8 => f_X3_noteEnds_43 N (f_X3_noteEnds_13 N n) h8 v0 v1 v2 v3)) else none)) else (f_X3_noteEnds_43 N (f_X3_noteEnds_13 N n) h v0 v1 v2 v3)) else none)) else (f_X3_noteEnds_43 N (f_X3_noteEnds_13 N n) h v0 v1 v2 v3))
set_option maxHeartbeats 4000000 in
set_option maxRecDepth 100000 in
theorem p_X3_noteEnds_13 {X : XT} {h' : Hp} (C : CX X cX3_noteEnds "WaterStair$Search" 4 none rmX3_noteEnds) (hQ : QX X none h' rmX3_noteEnds.cells rmX3_noteEnds.slots) {N : Nat}  : ∀ (n : Nat) (h : Hp) (v0 : Nat) (v1 : Int32) (v2 : Int32) (v3 : Int32), f_X3_noteEnds_13 N n h v0 v1 v2 v3 = some h' → V X 0 0 h 13 [(0, vR 3 (some v0)), (1, vI v1), (2, vI v2), (3, vI v3)] [] := by
  intro n
  induction n with
  | zero =>
    intro h v0 v1 v2 v3 hf
    have hf : (none : Option (Hp)) = some _ := hf
    cases hf
  | succ n ih =>
    intro h v0 v1 v2 v3 hf
    rw [f_X3_noteEnds_13] at hf
    refine V_iload_n C dX3_noteEnds_13 rfl 3 rfl ?_
    refine V_bipush (v := (64 : Int32)) C dX3_noteEnds_14 (by decide) ?_
    refine V_icmp_ge C 49 dX3_noteEnds_16 (by decide) (fun c1 => ?_) (fun c1 => ?_)
    · have hf := i_t c1 hf
      have hf := Option.some.inj hf
      subst hf
      exact V_vret C hQ dX3_noteEnds_49
    · have hf := i_f c1 hf
      refine V_iload_n C dX3_noteEnds_19 rfl 3 rfl ?_
      refine V_iload_n C dX3_noteEnds_20 rfl 2 rfl ?_
      refine V_iand C dX3_noteEnds_21 ?_
      refine V_iload_n C dX3_noteEnds_22 rfl 3 rfl ?_
      refine V_icmp_ne C 43 dX3_noteEnds_23 (by decide) (fun c2 => ?_) (fun c2 => ?_)
      · have hf := i_f c2 hf
        refine V_sub (lv' := [(0, vR 3 (some v0)), (1, vI v1), (2, vI v2), (3, vI v3)]) [0, 1, 2, 3] rfl ?_
        exact p_X3_noteEnds_43 C hQ ih hf
      · have hf := i_t c2 hf
        refine V_aload_n C dX3_noteEnds_26 rfl 0 rfl ?_
        obtain ⟨q3, eq3, hf⟩ := o_b hf
        refine V_getR C fl_X3_43 rfl rfl (by decide) eq3 dX3_noteEnds_27 ?_
        refine V_iload_n C dX3_noteEnds_30 rfl 3 rfl ?_
        obtain ⟨g4, hf⟩ := o_if hf
        refine V_iald C (vp_g g4) rfl dX3_noteEnds_31 ?_
        refine V_iconst (v := (-1 : Int32)) C dX3_noteEnds_32 (by decide) ?_
        refine V_icmp_ne C 43 dX3_noteEnds_33 (by decide) (fun c5 => ?_) (fun c5 => ?_)
        · have hf := i_f c5 hf
          refine V_sub (lv' := [(0, vR 3 (some v0)), (1, vI v1), (2, vI v2), (3, vI v3)]) [0, 1, 2, 3] rfl ?_
          exact p_X3_noteEnds_43 C hQ ih hf
        · have hf := i_t c5 hf
          refine V_aload_n C dX3_noteEnds_36 rfl 0 rfl ?_
          obtain ⟨q6, eq6, hf⟩ := o_b hf
          refine V_getR C fl_X3_43 rfl rfl (by decide) eq6 dX3_noteEnds_37 ?_
          refine V_iload_n C dX3_noteEnds_40 rfl 3 rfl ?_
          refine V_iload_n C dX3_noteEnds_41 rfl 1 rfl ?_
          obtain ⟨g7, hf⟩ := o_if hf
          obtain ⟨h8, eh8, hf⟩ := o_l hf
          refine V_iast C (vp_g g7) rfl dX3_noteEnds_42 (V_eqH eh8 ?_)
          refine V_sub (lv' := [(0, vR 3 (some v0)), (1, vI v1), (2, vI v2), (3, vI v3)]) [0, 1, 2, 3] rfl ?_
          exact p_X3_noteEnds_43 C hQ ih hf
def f_X3_noteEnds (N : Nat) (h : Hp) (v0 : Nat) (v1 : Int32) (v2 : Int32) : Option (Hp) := Option.bind (hP h v0 11) (fun q9 => if 0 ≤ v2 ∧ v2.toNatClampNeg < hL h q9 then (if (hI h q9 (v2.toNatClampNeg)) = (-1 : Int32) then (f_X3_noteEnds_13 N N h v0 v1 v2 (0 : Int32)) else (some h)) else none)
set_option maxHeartbeats 4000000 in
set_option maxRecDepth 100000 in
theorem p_X3_noteEnds {X : XT} {h' : Hp} (C : CX X cX3_noteEnds "WaterStair$Search" 4 none rmX3_noteEnds) {N : Nat} {h : Hp} {v0 : Nat} {v1 : Int32} {v2 : Int32} (hQ : QX X none h' rmX3_noteEnds.cells rmX3_noteEnds.slots) (hf : f_X3_noteEnds N h v0 v1 v2 = some h') : V X 0 0 h 0 [(0, vR 3 (some v0)), (1, vI v1), (2, vI v2)] [] := by
  unfold f_X3_noteEnds at hf
  refine V_aload_n C dX3_noteEnds_0 rfl 0 rfl ?_
  obtain ⟨q9, eq9, hf⟩ := o_b hf
  refine V_getR C fl_X3_43 rfl rfl (by decide) eq9 dX3_noteEnds_1 ?_
  refine V_iload_n C dX3_noteEnds_4 rfl 2 rfl ?_
  obtain ⟨g10, hf⟩ := o_if hf
  refine V_iald C (vp_g g10) rfl dX3_noteEnds_5 ?_
  refine V_iconst (v := (-1 : Int32)) C dX3_noteEnds_6 (by decide) ?_
  refine V_icmp_eq C 11 dX3_noteEnds_7 (by decide) (fun c11 => ?_) (fun c11 => ?_)
  · have hf := i_t c11 hf
    refine V_iconst (v := (0 : Int32)) C dX3_noteEnds_11 (by decide) ?_
    refine V_istore_n (lv' := [(3, vI (0 : Int32)), (0, vR 3 (some v0)), (1, vI v1), (2, vI v2)]) C dX3_noteEnds_12 rfl (by decide) rfl ?_
    refine V_sub (lv' := [(0, vR 3 (some v0)), (1, vI v1), (2, vI v2), (3, vI (0 : Int32))]) [1, 2, 3, 0] rfl ?_
    exact p_X3_noteEnds_13 C hQ N _ _ _ _ _ hf
  · have hf := i_f c11 hf
    have hf := Option.some.inj hf
    subst hf
    exact V_vret C hQ dX3_noteEnds_10
theorem ct_X3_noteEnds {h' : Hp} {N : Nat} {h : Hp} {v0 : Nat} {v1 : Int32} {v2 : Int32} (hf : f_X3_noteEnds N h v0 v1 v2 = some h') (l : Launch) (G : GT) : MC l G yX3_noteEnds cX3_noteEnds 4 none rmX3_noteEnds h [vR 3 (some v0), vI v1, vI v2] none h' := MC_of (by decide) rfl (Nat.le_of_ble_eq_true rfl) rfl (fun X C hQ hin => p_X3_noteEnds C hQ hf)
abbrev rmX3_spread : Room := { frames := 5, cells := 0, slots := 0, locals := 122 }
def f_X3_spread_88 (N : Nat) (s22 : Hp → Nat → Int32 → Int32 → Int32 → Int32 → Option (Hp)) (h : Hp) (v0 : Nat) (v1 : Int32) (v3 : Int32) (v4 : Int32) (v5 : Int32) (v6 : Int32) (s0_ : Int32) : Option (Hp) := Option.bind (hP h v0 0) (fun q1 => Option.bind (f_X5_doTip h q1 v6) (fun h2 => Option.bind (hP h2 v0 5) (fun q3 => if 0 ≤ v1 ∧ v1.toNatClampNeg < hL h2 q3 then (Option.bind (f_X3_reach N h2 v0 v1 v6 ((hI h2 q3 (v1.toNatClampNeg)) + s0_)) (fun h5 => Option.bind (hP h5 v0 0) (fun q6 => Option.bind (f_X5_undoTip h5 q6 v6) (fun h7 => s22 h7 v0 v1 v3 v4 (v5 + (1 : Int32)))))) else none)))
set_option maxHeartbeats 4000000 in
set_option maxRecDepth 100000 in
theorem p_X3_spread_88 {X : XT} {h' : Hp} (C : CX X cX3_spread "WaterStair$Search" 10 none rmX3_spread) (hQ : QX X none h' rmX3_spread.cells rmX3_spread.slots) {N : Nat} {s22 : Hp → Nat → Int32 → Int32 → Int32 → Int32 → Option (Hp)} (S22 : ∀ (h : Hp) (v0 : Nat) (v1 : Int32) (v3 : Int32) (v4 : Int32) (v5 : Int32), s22 h v0 v1 v3 v4 v5 = some h' → V X 0 0 h 22 [(0, vR 3 (some v0)), (1, vI v1), (3, vI v3), (4, vI v4), (5, vI v5)] []) {h : Hp} {v0 : Nat} {v1 : Int32} {v3 : Int32} {v4 : Int32} {v5 : Int32} {v6 : Int32} {s0_ : Int32} (hf : f_X3_spread_88 N s22 h v0 v1 v3 v4 v5 v6 s0_ = some h') : V X 0 0 h 88 [(0, vR 3 (some v0)), (1, vI v1), (3, vI v3), (4, vI v4), (5, vI v5), (6, vI v6)] [vI s0_] := by
  unfold f_X3_spread_88 at hf
  refine V_istore (lv' := [(9, vI s0_), (0, vR 3 (some v0)), (1, vI v1), (3, vI v3), (4, vI v4), (5, vI v5), (6, vI v6)]) C dX3_spread_88 (by decide) rfl ?_
  refine V_aload_n C dX3_spread_90 rfl 1 rfl ?_
  obtain ⟨q1, eq1, hf⟩ := o_b hf
  refine V_getR C fl_X3_60 rfl rfl (by decide) eq1 dX3_spread_91 ?_
  refine V_iload C dX3_spread_94 6 rfl ?_
  obtain ⟨h2, eh2, hf⟩ := o_b hf
  refine V_callV (as := [vI v6]) (st := []) C ml_X3_137 fx5 (ct_X5_doTip eh2) rfl ⟨by decide, by decide, by decide, by decide⟩ (Nat.le_of_ble_eq_true rfl) rfl dX3_spread_96 (cs' := 0) (sl' := 0) rfl rfl ?_
  refine V_aload_n C dX3_spread_99 rfl 1 rfl ?_
  refine V_iload_n C dX3_spread_100 rfl 2 rfl ?_
  refine V_iload C dX3_spread_101 6 rfl ?_
  refine V_aload_n C dX3_spread_103 rfl 1 rfl ?_
  obtain ⟨q3, eq3, hf⟩ := o_b hf
  refine V_getR C fl_X3_25 rfl rfl (by decide) eq3 dX3_spread_104 ?_
  refine V_iload_n C dX3_spread_107 rfl 2 rfl ?_
  obtain ⟨g4, hf⟩ := o_if hf
  refine V_iald C (vp_g g4) rfl dX3_spread_108 ?_
  refine V_iload C dX3_spread_109 0 rfl ?_
  refine V_iadd C dX3_spread_111 ?_
  obtain ⟨h5, eh5, hf⟩ := o_b hf
  refine V_callV (as := [vI v1, vI v6, vI ((hI h2 q3 (v1.toNatClampNeg)) + s0_)]) (st := []) C ml_X3_109 fx3 (ct_X3_reach eh5) rfl ⟨by decide, by decide, by decide, by decide⟩ (Nat.le_of_ble_eq_true rfl) rfl dX3_spread_112 (cs' := 0) (sl' := 0) rfl rfl ?_
  refine V_aload_n C dX3_spread_115 rfl 1 rfl ?_
  obtain ⟨q6, eq6, hf⟩ := o_b hf
  refine V_getR C fl_X3_60 rfl rfl (by decide) eq6 dX3_spread_116 ?_
  refine V_iload C dX3_spread_119 6 rfl ?_
  obtain ⟨h7, eh7, hf⟩ := o_b hf
  refine V_callV (as := [vI v6]) (st := []) C ml_X3_140 fx5 (ct_X5_undoTip eh7) rfl ⟨by decide, by decide, by decide, by decide⟩ (Nat.le_of_ble_eq_true rfl) rfl dX3_spread_121 (cs' := 0) (sl' := 0) rfl rfl ?_
  refine V_iinc (lv' := [(5, vI (v5 + (1 : Int32))), (9, vI s0_), (0, vR 3 (some v0)), (1, vI v1), (3, vI v3), (4, vI v4), (6, vI v6)]) C dX3_spread_124 5 rfl (congrArg (v5 + ·) (by decide : Int32.ofInt (1) = (1 : Int32))) (by decide) rfl ?_
  refine V_goto C 22 dX3_spread_127 (by decide) ?_
  refine V_sub (lv' := [(0, vR 3 (some v0)), (1, vI v1), (3, vI v3), (4, vI v4), (5, vI (v5 + (1 : Int32)))]) [2, 3, 4, 5, 0] rfl ?_
  exact S22 _ _ _ _ _ _ hf
def f_X3_spread_22 (N : Nat) : Nat → Hp → Nat → Int32 → Int32 → Int32 → Int32 → Option (Hp)
  | 0, _, _, _, _, _, _ => none
  | n + 1, h, v0, v1, v3, v4, v5 => if v4 ≤ v5 then (some h) else (if hI h v0 14 = 0 then (Option.bind (hP h v0 1) (fun q10 => if 0 ≤ v5 ∧ v5.toNatClampNeg < hL h q10 then (lt (hI h q10 (v5.toNatClampNeg)) (fun y12 => Option.bind (f_X5_downOf h y12) (fun r13 => Option.bind (f_X5_upOf h y12) (fun r14 => if v3 = 0 then (Option.bind (hP h v0 0) (fun q16 => Option.bind (f_X5_worth h q16 r13 r14) (fun r17 => f_X3_spread_88 N (f_X3_spread_22 N n) h v0 v1 v3 v4 v5 y12 r17))) else (Option.bind (hP h v0 0) (fun q18 => Option.bind (f_X5_need h q18 r13 r14) (fun r19 => f_X3_spread_88 N (f_X3_spread_22 N n) h v0 v1 v3 v4 v5 y12 r19))))))) else none)) else (some h))
set_option maxHeartbeats 4000000 in
set_option maxRecDepth 100000 in
theorem p_X3_spread_22 {X : XT} {h' : Hp} (C : CX X cX3_spread "WaterStair$Search" 10 none rmX3_spread) (hQ : QX X none h' rmX3_spread.cells rmX3_spread.slots) {N : Nat}  : ∀ (n : Nat) (h : Hp) (v0 : Nat) (v1 : Int32) (v3 : Int32) (v4 : Int32) (v5 : Int32), f_X3_spread_22 N n h v0 v1 v3 v4 v5 = some h' → V X 0 0 h 22 [(0, vR 3 (some v0)), (1, vI v1), (3, vI v3), (4, vI v4), (5, vI v5)] [] := by
  intro n
  induction n with
  | zero =>
    intro h v0 v1 v3 v4 v5 hf
    have hf : (none : Option (Hp)) = some _ := hf
    cases hf
  | succ n ih =>
    intro h v0 v1 v3 v4 v5 hf
    rw [f_X3_spread_22] at hf
    refine V_iload C dX3_spread_22 4 rfl ?_
    refine V_iload C dX3_spread_24 3 rfl ?_
    refine V_icmp_ge C 130 dX3_spread_26 (by decide) (fun c8 => ?_) (fun c8 => ?_)
    · have hf := i_t c8 hf
      have hf := Option.some.inj hf
      subst hf
      exact V_vret C hQ dX3_spread_130
    · have hf := i_f c8 hf
      refine V_aload_n C dX3_spread_29 rfl 0 rfl ?_
      refine V_getI C fl_X3_53 rfl dX3_spread_30 ?_
      refine V_if_ne C 130 dX3_spread_33 (by decide) (fun c9 => ?_) (fun c9 => ?_)
      · have hf := i_f c9 hf
        have hf := Option.some.inj hf
        subst hf
        exact V_vret C hQ dX3_spread_130
      · have hf := i_t c9 hf
        refine V_aload_n C dX3_spread_36 rfl 0 rfl ?_
        obtain ⟨q10, eq10, hf⟩ := o_b hf
        refine V_getR C fl_X3_9 rfl rfl (by decide) eq10 dX3_spread_37 ?_
        refine V_iload C dX3_spread_40 4 rfl ?_
        obtain ⟨g11, hf⟩ := o_if hf
        refine V_iald C (vp_g g11) rfl dX3_spread_42 ?_
        obtain ⟨y12, ey12, hf⟩ := o_l hf
        refine V_eqI ey12 ?_
        refine V_istore (lv' := [(6, vI y12), (0, vR 3 (some v0)), (1, vI v1), (3, vI v3), (4, vI v4), (5, vI v5)]) C dX3_spread_43 (by decide) rfl ?_
        refine V_iload C dX3_spread_45 0 rfl ?_
        obtain ⟨r13, er13, hf⟩ := o_b hf
        refine V_callS (as := [vI y12]) (st := []) C ml_X3_124 (ct_X5_downOf er13) rfl ⟨by decide, by decide, by decide, by decide⟩ (Nat.le_of_ble_eq_true rfl) rfl dX3_spread_47 (cs' := 0) (sl' := 0) rfl rfl ?_
        refine V_istore (lv' := [(7, vI r13), (6, vI y12), (0, vR 3 (some v0)), (1, vI v1), (3, vI v3), (4, vI v4), (5, vI v5)]) C dX3_spread_50 (by decide) rfl ?_
        refine V_iload C dX3_spread_52 1 rfl ?_
        obtain ⟨r14, er14, hf⟩ := o_b hf
        refine V_callS (as := [vI y12]) (st := []) C ml_X3_127 (ct_X5_upOf er14) rfl ⟨by decide, by decide, by decide, by decide⟩ (Nat.le_of_ble_eq_true rfl) rfl dX3_spread_54 (cs' := 0) (sl' := 0) rfl rfl ?_
        refine V_istore (lv' := [(8, vI r14), (7, vI r13), (6, vI y12), (0, vR 3 (some v0)), (1, vI v1), (3, vI v3), (4, vI v4), (5, vI v5)]) C dX3_spread_57 (by decide) rfl ?_
        refine V_iload_n C dX3_spread_59 rfl 5 rfl ?_
        refine V_if_eq C 77 dX3_spread_60 (by decide) (fun c15 => ?_) (fun c15 => ?_)
        · have hf := i_t c15 hf
          refine V_aload_n C dX3_spread_77 rfl 3 rfl ?_
          obtain ⟨q16, eq16, hf⟩ := o_b hf
          refine V_getR C fl_X3_60 rfl rfl (by decide) eq16 dX3_spread_78 ?_
          refine V_iload C dX3_spread_81 1 rfl ?_
          refine V_iload C dX3_spread_83 0 rfl ?_
          obtain ⟨r17, er17, hf⟩ := o_b hf
          refine V_callV (as := [vI r13, vI r14]) (st := []) C ml_X3_134 fx5 (ct_X5_worth er17) rfl ⟨by decide, by decide, by decide, by decide⟩ (Nat.le_of_ble_eq_true rfl) rfl dX3_spread_85 (cs' := 0) (sl' := 0) rfl rfl ?_
          refine V_sub (lv' := [(0, vR 3 (some v0)), (1, vI v1), (3, vI v3), (4, vI v4), (5, vI v5), (6, vI y12)]) [3, 4, 5, 6, 7, 2] rfl ?_
          exact p_X3_spread_88 C hQ ih hf
        · have hf := i_f c15 hf
          refine V_aload_n C dX3_spread_63 rfl 3 rfl ?_
          obtain ⟨q18, eq18, hf⟩ := o_b hf
          refine V_getR C fl_X3_60 rfl rfl (by decide) eq18 dX3_spread_64 ?_
          refine V_iload C dX3_spread_67 1 rfl ?_
          refine V_iload C dX3_spread_69 0 rfl ?_
          obtain ⟨r19, er19, hf⟩ := o_b hf
          refine V_callV (as := [vI r13, vI r14]) (st := []) C ml_X3_130 fx5 (ct_X5_need er19) rfl ⟨by decide, by decide, by decide, by decide⟩ (Nat.le_of_ble_eq_true rfl) rfl dX3_spread_71 (cs' := 0) (sl' := 0) rfl rfl ?_
          refine V_goto C 88 dX3_spread_74 (by decide) ?_
          refine V_sub (lv' := [(0, vR 3 (some v0)), (1, vI v1), (3, vI v3), (4, vI v4), (5, vI v5), (6, vI y12)]) [3, 4, 5, 6, 7, 2] rfl ?_
          exact p_X3_spread_88 C hQ ih hf
def f_X3_spread (N : Nat) (h : Hp) (v0 : Nat) (v1 : Int32) (v2 : Option Nat) (v3 : Int32) : Option (Hp) := Option.bind (hP h v0 0) (fun q20 => Option.bind (hP h v0 1) (fun q21 => Option.bind (hP h v0 1) (fun q22 => b2 (f_X5_gatherTips N h q20 v2 q21 (nI (hL h q22))) (fun r23 h24 => f_X3_spread_22 N N h24 v0 v1 v3 r23 (0 : Int32)))))
set_option maxHeartbeats 4000000 in
set_option maxRecDepth 100000 in
theorem p_X3_spread {X : XT} {h' : Hp} (C : CX X cX3_spread "WaterStair$Search" 10 none rmX3_spread) {N : Nat} {h : Hp} {v0 : Nat} {v1 : Int32} {v2 : Option Nat} {v3 : Int32} (hQ : QX X none h' rmX3_spread.cells rmX3_spread.slots) (hf : f_X3_spread N h v0 v1 v2 v3 = some h') : V X 0 0 h 0 [(0, vR 3 (some v0)), (1, vI v1), (2, vR 1 v2), (3, vI v3)] [] := by
  unfold f_X3_spread at hf
  refine V_aload_n C dX3_spread_0 rfl 0 rfl ?_
  obtain ⟨q20, eq20, hf⟩ := o_b hf
  refine V_getR C fl_X3_60 rfl rfl (by decide) eq20 dX3_spread_1 ?_
  refine V_aload_n C dX3_spread_4 rfl 2 rfl ?_
  refine V_aload_n C dX3_spread_5 rfl 0 rfl ?_
  obtain ⟨q21, eq21, hf⟩ := o_b hf
  refine V_getR C fl_X3_9 rfl rfl (by decide) eq21 dX3_spread_6 ?_
  refine V_aload_n C dX3_spread_9 rfl 0 rfl ?_
  obtain ⟨q22, eq22, hf⟩ := o_b hf
  refine V_getR C fl_X3_9 rfl rfl (by decide) eq22 dX3_spread_10 ?_
  refine V_alen C (by decide) (by decide) dX3_spread_13 ?_
  obtain ⟨r23, h24, er23, hf⟩ := o_b2 hf
  refine V_callV (as := [vR 1 v2, vR 10 (some q21), vI (nI (hL h q22))]) (st := []) C ml_X3_120 fx5 (ct_X5_gatherTips er23) rfl ⟨by decide, by decide, by decide, by decide⟩ (Nat.le_of_ble_eq_true rfl) rfl dX3_spread_14 (cs' := 0) (sl' := 0) rfl rfl ?_
  refine V_istore (lv' := [(4, vI r23), (0, vR 3 (some v0)), (1, vI v1), (2, vR 1 v2), (3, vI v3)]) C dX3_spread_17 (by decide) rfl ?_
  refine V_iconst (v := (0 : Int32)) C dX3_spread_19 (by decide) ?_
  refine V_istore (lv' := [(5, vI (0 : Int32)), (4, vI r23), (0, vR 3 (some v0)), (1, vI v1), (2, vR 1 v2), (3, vI v3)]) C dX3_spread_20 (by decide) rfl ?_
  refine V_sub (lv' := [(0, vR 3 (some v0)), (1, vI v1), (3, vI v3), (4, vI r23), (5, vI (0 : Int32))]) [2, 3, 5, 1, 0] rfl ?_
  exact p_X3_spread_22 C hQ N _ _ _ _ _ _ hf
theorem ct_X3_spread {h' : Hp} {N : Nat} {h : Hp} {v0 : Nat} {v1 : Int32} {v2 : Option Nat} {v3 : Int32} (hf : f_X3_spread N h v0 v1 v2 v3 = some h') (l : Launch) (G : GT) : MC l G yX3_spread cX3_spread 10 none rmX3_spread h [vR 3 (some v0), vI v1, vR 1 v2, vI v3] none h' := MC_of (by decide) rfl (Nat.le_of_ble_eq_true rfl) rfl (fun X C hQ hin => p_X3_spread C hQ hf)
abbrev rmX3_sink : Room := { frames := 1, cells := 0, slots := 0, locals := 22 }
def f_X3_sink_93 (N : Nat) (h : Hp) (v0 : Nat) (v1 : Int32) (v2 : Int32) : Option (Hp) := Option.bind (f_X3_putInHeap h v0 v2 v1) (fun h1 => some h1)
set_option maxHeartbeats 4000000 in
set_option maxRecDepth 100000 in
theorem p_X3_sink_93 {X : XT} {h' : Hp} (C : CX X cX3_sink "WaterStair$Search" 5 none rmX3_sink) (hQ : QX X none h' rmX3_sink.cells rmX3_sink.slots) {N : Nat}  {h : Hp} {v0 : Nat} {v1 : Int32} {v2 : Int32} (hf : f_X3_sink_93 N h v0 v1 v2 = some h') : V X 0 0 h 93 [(0, vR 3 (some v0)), (1, vI v1), (2, vI v2)] [] := by
  unfold f_X3_sink_93 at hf
  refine V_aload_n C dX3_sink_93 rfl 0 rfl ?_
  refine V_iload_n C dX3_sink_94 rfl 2 rfl ?_
  refine V_iload_n C dX3_sink_95 rfl 1 rfl ?_
  obtain ⟨h1, eh1, hf⟩ := o_b hf
  refine V_callV (as := [vI v2, vI v1]) (st := []) C ml_X3_159 fx3 (ct_X3_putInHeap eh1) rfl ⟨by decide, by decide, by decide, by decide⟩ (Nat.le_of_ble_eq_true rfl) rfl dX3_sink_96 (cs' := 0) (sl' := 0) rfl rfl ?_
  have hf := Option.some.inj hf
  subst hf
  exact V_vret C hQ dX3_sink_99
def f_X3_sink_51 (N : Nat) (s4 : Hp → Nat → Int32 → Int32 → Int32 → Option (Hp)) (h : Hp) (v0 : Nat) (v1 : Int32) (v2 : Int32) (v4 : Int32) : Option (Hp) := Option.bind (hP h v0 8) (fun q2 => if 0 ≤ v4 ∧ v4.toNatClampNeg < hL h q2 then (Option.bind (f_X3_isAhead h v0 (hI h q2 (v4.toNatClampNeg)) v1) (fun r4 => if r4 = 0 then (f_X3_sink_93 N h v0 v1 v2) else (Option.bind (hP h v0 8) (fun q6 => if 0 ≤ v4 ∧ v4.toNatClampNeg < hL h q6 then (Option.bind (f_X3_putInHeap h v0 v2 (hI h q6 (v4.toNatClampNeg))) (fun h8 => lt (((2 : Int32) * v4) + (1 : Int32)) (fun y9 => s4 h8 v0 v1 v4 y9))) else none)))) else none)
set_option maxHeartbeats 4000000 in
set_option maxRecDepth 100000 in
theorem p_X3_sink_51 {X : XT} {h' : Hp} (C : CX X cX3_sink "WaterStair$Search" 5 none rmX3_sink) (hQ : QX X none h' rmX3_sink.cells rmX3_sink.slots) {N : Nat} {s4 : Hp → Nat → Int32 → Int32 → Int32 → Option (Hp)} (S4 : ∀ (h : Hp) (v0 : Nat) (v1 : Int32) (v2 : Int32) (v3 : Int32), s4 h v0 v1 v2 v3 = some h' → V X 0 0 h 4 [(0, vR 3 (some v0)), (1, vI v1), (2, vI v2), (3, vI v3)] []) {h : Hp} {v0 : Nat} {v1 : Int32} {v2 : Int32} {v4 : Int32} (hf : f_X3_sink_51 N s4 h v0 v1 v2 v4 = some h') : V X 0 0 h 51 [(0, vR 3 (some v0)), (1, vI v1), (2, vI v2), (4, vI v4)] [] := by
  unfold f_X3_sink_51 at hf
  refine V_aload_n C dX3_sink_51 rfl 0 rfl ?_
  refine V_aload_n C dX3_sink_52 rfl 0 rfl ?_
  obtain ⟨q2, eq2, hf⟩ := o_b hf
  refine V_getR C fl_X3_34 rfl rfl (by decide) eq2 dX3_sink_53 ?_
  refine V_iload C dX3_sink_56 3 rfl ?_
  obtain ⟨g3, hf⟩ := o_if hf
  refine V_iald C (vp_g g3) rfl dX3_sink_58 ?_
  refine V_iload_n C dX3_sink_59 rfl 1 rfl ?_
  obtain ⟨r4, er4, hf⟩ := o_b hf
  refine V_callV (as := [vI (hI h q2 (v4.toNatClampNeg)), vI v1]) (st := []) C ml_X3_169 fx3 (ct_X3_isAhead er4) rfl ⟨by decide, by decide, by decide, by decide⟩ (Nat.le_of_ble_eq_true rfl) rfl dX3_sink_60 (cs' := 0) (sl' := 0) rfl rfl ?_
  refine V_if_ne C 69 dX3_sink_63 (by decide) (fun c5 => ?_) (fun c5 => ?_)
  · have hf := i_f c5 hf
    refine V_aload_n C dX3_sink_69 rfl 0 rfl ?_
    refine V_iload_n C dX3_sink_70 rfl 2 rfl ?_
    refine V_aload_n C dX3_sink_71 rfl 0 rfl ?_
    obtain ⟨q6, eq6, hf⟩ := o_b hf
    refine V_getR C fl_X3_34 rfl rfl (by decide) eq6 dX3_sink_72 ?_
    refine V_iload C dX3_sink_75 3 rfl ?_
    obtain ⟨g7, hf⟩ := o_if hf
    refine V_iald C (vp_g g7) rfl dX3_sink_77 ?_
    obtain ⟨h8, eh8, hf⟩ := o_b hf
    refine V_callV (as := [vI v2, vI (hI h q6 (v4.toNatClampNeg))]) (st := []) C ml_X3_159 fx3 (ct_X3_putInHeap eh8) rfl ⟨by decide, by decide, by decide, by decide⟩ (Nat.le_of_ble_eq_true rfl) rfl dX3_sink_78 (cs' := 0) (sl' := 0) rfl rfl ?_
    refine V_iload C dX3_sink_81 3 rfl ?_
    refine V_istore_n (lv' := [(2, vI v4), (0, vR 3 (some v0)), (1, vI v1), (4, vI v4)]) C dX3_sink_83 rfl (by decide) rfl ?_
    refine V_iconst (v := (2 : Int32)) C dX3_sink_84 (by decide) ?_
    refine V_iload_n C dX3_sink_85 rfl 0 rfl ?_
    refine V_imul C dX3_sink_86 ?_
    refine V_iconst (v := (1 : Int32)) C dX3_sink_87 (by decide) ?_
    refine V_iadd C dX3_sink_88 ?_
    obtain ⟨y9, ey9, hf⟩ := o_l hf
    refine V_eqI ey9 ?_
    refine V_istore_n (lv' := [(3, vI y9), (2, vI v4), (0, vR 3 (some v0)), (1, vI v1), (4, vI v4)]) C dX3_sink_89 rfl (by decide) rfl ?_
    refine V_goto C 4 dX3_sink_90 (by decide) ?_
    refine V_sub (lv' := [(0, vR 3 (some v0)), (1, vI v1), (2, vI v4), (3, vI y9)]) [2, 3, 1, 0] rfl ?_
    exact S4 _ _ _ _ _ hf
  · have hf := i_t c5 hf
    refine V_goto C 93 dX3_sink_66 (by decide) ?_
    refine V_sub (lv' := [(0, vR 3 (some v0)), (1, vI v1), (2, vI v2)]) [0, 1, 2] rfl ?_
    exact p_X3_sink_93 C hQ hf
def f_X3_sink_4 (N : Nat) : Nat → Hp → Nat → Int32 → Int32 → Int32 → Option (Hp)
  | 0, _, _, _, _, _ => none
  | n + 1, h, v0, v1, v2, v3 => if (hI h v0 13) ≤ v3 then (f_X3_sink_93 N h v0 v1 v2) else (if (hI h v0 13) ≤ (v3 + (1 : Int32)) then (f_X3_sink_51 N (f_X3_sink_4 N n) h v0 v1 v2 v3) else (Option.bind (hP h v0 8) (fun q12 => if 0 ≤ v3 + (1 : Int32) ∧ (v3 + (1 : Int32)).toNatClampNeg < hL h q12 then (Option.bind (hP h v0 8) (fun q14 => if 0 ≤ v3 ∧ v3.toNatClampNeg < hL h q14 then (Option.bind (f_X3_isAhead h v0 (hI h q12 ((v3 + (1 : Int32)).toNatClampNeg)) (hI h q14 (v3.toNatClampNeg))) (fun r16 => if r16 = 0 then (f_X3_sink_51 N (f_X3_sink_4 N n) h v0 v1 v2 v3) else (f_X3_sink_51 N (f_X3_sink_4 N n) h v0 v1 v2 (v3 + (1 : Int32))))) else none)) else none)))
set_option maxHeartbeats 4000000 in
set_option maxRecDepth 100000 in
theorem p_X3_sink_4 {X : XT} {h' : Hp} (C : CX X cX3_sink "WaterStair$Search" 5 none rmX3_sink) (hQ : QX X none h' rmX3_sink.cells rmX3_sink.slots) {N : Nat}  : ∀ (n : Nat) (h : Hp) (v0 : Nat) (v1 : Int32) (v2 : Int32) (v3 : Int32), f_X3_sink_4 N n h v0 v1 v2 v3 = some h' → V X 0 0 h 4 [(0, vR 3 (some v0)), (1, vI v1), (2, vI v2), (3, vI v3)] [] := by
  intro n
  induction n with
  | zero =>
    intro h v0 v1 v2 v3 hf
    have hf : (none : Option (Hp)) = some _ := hf
    cases hf
  | succ n ih =>
    intro h v0 v1 v2 v3 hf
    rw [f_X3_sink_4] at hf
    refine V_iload_n C dX3_sink_4 rfl 3 rfl ?_
    refine V_aload_n C dX3_sink_5 rfl 0 rfl ?_
    refine V_getI C fl_X3_50 rfl dX3_sink_6 ?_
    refine V_icmp_ge C 93 dX3_sink_9 (by decide) (fun c10 => ?_) (fun c10 => ?_)
    · have hf := i_t c10 hf
      refine V_sub (lv' := [(0, vR 3 (some v0)), (1, vI v1), (2, vI v2)]) [0, 1, 2] rfl ?_
      exact p_X3_sink_93 C hQ hf
    · have hf := i_f c10 hf
      refine V_iload_n C dX3_sink_12 rfl 3 rfl ?_
      refine V_istore (lv' := [(4, vI v3), (0, vR 3 (some v0)), (1, vI v1), (2, vI v2), (3, vI v3)]) C dX3_sink_13 (by decide) rfl ?_
      refine V_iload_n C dX3_sink_15 rfl 4 rfl ?_
      refine V_iconst (v := (1 : Int32)) C dX3_sink_16 (by decide) ?_
      refine V_iadd C dX3_sink_17 ?_
      refine V_aload_n C dX3_sink_18 rfl 1 rfl ?_
      refine V_getI C fl_X3_50 rfl dX3_sink_19 ?_
      refine V_icmp_ge C 51 dX3_sink_22 (by decide) (fun c11 => ?_) (fun c11 => ?_)
      · have hf := i_t c11 hf
        refine V_sub (lv' := [(0, vR 3 (some v0)), (1, vI v1), (2, vI v2), (4, vI v3)]) [1, 2, 3, 0] rfl ?_
        exact p_X3_sink_51 C hQ ih hf
      · have hf := i_f c11 hf
        refine V_aload_n C dX3_sink_25 rfl 1 rfl ?_
        refine V_aload_n C dX3_sink_26 rfl 1 rfl ?_
        obtain ⟨q12, eq12, hf⟩ := o_b hf
        refine V_getR C fl_X3_34 rfl rfl (by decide) eq12 dX3_sink_27 ?_
        refine V_iload_n C dX3_sink_30 rfl 4 rfl ?_
        refine V_iconst (v := (1 : Int32)) C dX3_sink_31 (by decide) ?_
        refine V_iadd C dX3_sink_32 ?_
        obtain ⟨g13, hf⟩ := o_if hf
        refine V_iald C (vp_g g13) rfl dX3_sink_33 ?_
        refine V_aload_n C dX3_sink_34 rfl 1 rfl ?_
        obtain ⟨q14, eq14, hf⟩ := o_b hf
        refine V_getR C fl_X3_34 rfl rfl (by decide) eq14 dX3_sink_35 ?_
        refine V_iload_n C dX3_sink_38 rfl 4 rfl ?_
        obtain ⟨g15, hf⟩ := o_if hf
        refine V_iald C (vp_g g15) rfl dX3_sink_39 ?_
        obtain ⟨r16, er16, hf⟩ := o_b hf
        refine V_callV (as := [vI (hI h q12 ((v3 + (1 : Int32)).toNatClampNeg)), vI (hI h q14 (v3.toNatClampNeg))]) (st := []) C ml_X3_169 fx3 (ct_X3_isAhead er16) rfl ⟨by decide, by decide, by decide, by decide⟩ (Nat.le_of_ble_eq_true rfl) rfl dX3_sink_40 (cs' := 0) (sl' := 0) rfl rfl ?_
        refine V_if_eq C 51 dX3_sink_43 (by decide) (fun c17 => ?_) (fun c17 => ?_)
        · have hf := i_t c17 hf
          refine V_sub (lv' := [(0, vR 3 (some v0)), (1, vI v1), (2, vI v2), (4, vI v3)]) [1, 2, 3, 0] rfl ?_
          exact p_X3_sink_51 C hQ ih hf
        · have hf := i_f c17 hf
          refine V_iload_n C dX3_sink_46 rfl 4 rfl ?_
          refine V_iconst (v := (1 : Int32)) C dX3_sink_47 (by decide) ?_
          refine V_iadd C dX3_sink_48 ?_
          refine V_istore (lv' := [(4, vI (v3 + (1 : Int32))), (0, vR 3 (some v0)), (1, vI v1), (2, vI v2), (3, vI v3)]) C dX3_sink_49 (by decide) rfl ?_
          refine V_sub (lv' := [(0, vR 3 (some v0)), (1, vI v1), (2, vI v2), (4, vI (v3 + (1 : Int32)))]) [1, 2, 3, 0] rfl ?_
          exact p_X3_sink_51 C hQ ih hf
def f_X3_sink (N : Nat) (h : Hp) (v0 : Nat) (v1 : Int32) : Option (Hp) := f_X3_sink_4 N N h v0 v1 (0 : Int32) (1 : Int32)
set_option maxHeartbeats 4000000 in
set_option maxRecDepth 100000 in
theorem p_X3_sink {X : XT} {h' : Hp} (C : CX X cX3_sink "WaterStair$Search" 5 none rmX3_sink) {N : Nat} {h : Hp} {v0 : Nat} {v1 : Int32} (hQ : QX X none h' rmX3_sink.cells rmX3_sink.slots) (hf : f_X3_sink N h v0 v1 = some h') : V X 0 0 h 0 [(0, vR 3 (some v0)), (1, vI v1)] [] := by
  unfold f_X3_sink at hf
  refine V_iconst (v := (0 : Int32)) C dX3_sink_0 (by decide) ?_
  refine V_istore_n (lv' := [(2, vI (0 : Int32)), (0, vR 3 (some v0)), (1, vI v1)]) C dX3_sink_1 rfl (by decide) rfl ?_
  refine V_iconst (v := (1 : Int32)) C dX3_sink_2 (by decide) ?_
  refine V_istore_n (lv' := [(3, vI (1 : Int32)), (2, vI (0 : Int32)), (0, vR 3 (some v0)), (1, vI v1)]) C dX3_sink_3 rfl (by decide) rfl ?_
  refine V_sub (lv' := [(0, vR 3 (some v0)), (1, vI v1), (2, vI (0 : Int32)), (3, vI (1 : Int32))]) [2, 3, 1, 0] rfl ?_
  exact p_X3_sink_4 C hQ N _ _ _ _ _ hf
theorem ct_X3_sink {h' : Hp} {N : Nat} {h : Hp} {v0 : Nat} {v1 : Int32} (hf : f_X3_sink N h v0 v1 = some h') (l : Launch) (G : GT) : MC l G yX3_sink cX3_sink 5 none rmX3_sink h [vR 3 (some v0), vI v1] none h' := MC_of (by decide) rfl (Nat.le_of_ble_eq_true rfl) rfl (fun X C hQ hin => p_X3_sink C hQ hf)
abbrev rmX3_takeLeast : Room := { frames := 2, cells := 0, slots := 0, locals := 46 }
def f_X3_takeLeast (N : Nat) (h : Hp) (v0 : Nat) : Option (Int32 × Hp) := Option.bind (hP h v0 8) (fun q1 => if 0 < hL h q1 then (Option.bind (hP h v0 9) (fun q3 => if 0 ≤ hI h q1 (0) ∧ (hI h q1 (0)).toNatClampNeg < hL h q3 then (lt (sI h q3 ((hI h q1 (0)).toNatClampNeg) (-1 : Int32)) (fun h5 => lt (sI h5 v0 13 ((hI h5 v0 13) - (1 : Int32))) (fun h6 => if (hI h6 v0 13) ≤ 0 then (some ((hI h q1 (0), h6))) else (Option.bind (hP h6 v0 8) (fun q8 => if 0 ≤ hI h6 v0 13 ∧ (hI h6 v0 13).toNatClampNeg < hL h6 q8 then (Option.bind (f_X3_sink N h6 v0 (hI h6 q8 ((hI h6 v0 13).toNatClampNeg))) (fun h10 => some ((hI h q1 (0), h10)))) else none))))) else none)) else none)
set_option maxHeartbeats 4000000 in
set_option maxRecDepth 100000 in
theorem p_X3_takeLeast {X : XT} {r : Int32} {h' : Hp} (C : CX X cX3_takeLeast "WaterStair$Search" 2 (some .int) rmX3_takeLeast) {N : Nat} {h : Hp} {v0 : Nat} (hQ : QX X (some (vI r)) h' rmX3_takeLeast.cells rmX3_takeLeast.slots) (hf : f_X3_takeLeast N h v0 = some ((r, h'))) : V X 0 0 h 0 [(0, vR 3 (some v0))] [] := by
  unfold f_X3_takeLeast at hf
  refine V_aload_n C dX3_takeLeast_0 rfl 0 rfl ?_
  obtain ⟨q1, eq1, hf⟩ := o_b hf
  refine V_getR C fl_X3_34 rfl rfl (by decide) eq1 dX3_takeLeast_1 ?_
  refine V_iconst (v := (0 : Int32)) C dX3_takeLeast_4 (by decide) ?_
  obtain ⟨g2, hf⟩ := o_if hf
  refine V_iald C (vp_k (by decide) (by decide) g2) (by decide : Int32.toNatClampNeg (0 : Int32) = 0) dX3_takeLeast_5 ?_
  refine V_istore_n (lv' := [(1, vI (hI h q1 (0))), (0, vR 3 (some v0))]) C dX3_takeLeast_6 rfl (by decide) rfl ?_
  refine V_aload_n C dX3_takeLeast_7 rfl 1 rfl ?_
  obtain ⟨q3, eq3, hf⟩ := o_b hf
  refine V_getR C fl_X3_37 rfl rfl (by decide) eq3 dX3_takeLeast_8 ?_
  refine V_iload_n C dX3_takeLeast_11 rfl 0 rfl ?_
  refine V_iconst (v := (-1 : Int32)) C dX3_takeLeast_12 (by decide) ?_
  obtain ⟨g4, hf⟩ := o_if hf
  obtain ⟨h5, eh5, hf⟩ := o_l hf
  refine V_iast C (vp_g g4) rfl dX3_takeLeast_13 (V_eqH eh5 ?_)
  refine V_aload_n C dX3_takeLeast_14 rfl 1 rfl ?_
  refine V_dup C dX3_takeLeast_15 rfl ?_
  refine V_getI C fl_X3_50 rfl dX3_takeLeast_16 ?_
  refine V_iconst (v := (1 : Int32)) C dX3_takeLeast_19 (by decide) ?_
  refine V_isub C dX3_takeLeast_20 ?_
  obtain ⟨h6, eh6, hf⟩ := o_l hf
  refine V_putI C nf_X3_50 rfl (okI_int _) dX3_takeLeast_21 (V_eqH eh6 ?_)
  refine V_aload_n C dX3_takeLeast_24 rfl 1 rfl ?_
  refine V_getI C fl_X3_50 rfl dX3_takeLeast_25 ?_
  refine V_if_le C 44 dX3_takeLeast_28 (by decide) (fun c7 => ?_) (fun c7 => ?_)
  · have hf := i_t c7 hf
    refine V_iload_n C dX3_takeLeast_44 rfl 0 rfl ?_
    obtain ⟨hf1, hf2⟩ := Prod.mk.inj (Option.some.inj hf)
    subst hf1
    subst hf2
    exact V_iret C hQ dX3_takeLeast_45
  · have hf := i_f c7 hf
    refine V_aload_n C dX3_takeLeast_31 rfl 1 rfl ?_
    refine V_aload_n C dX3_takeLeast_32 rfl 1 rfl ?_
    obtain ⟨q8, eq8, hf⟩ := o_b hf
    refine V_getR C fl_X3_34 rfl rfl (by decide) eq8 dX3_takeLeast_33 ?_
    refine V_aload_n C dX3_takeLeast_36 rfl 1 rfl ?_
    refine V_getI C fl_X3_50 rfl dX3_takeLeast_37 ?_
    obtain ⟨g9, hf⟩ := o_if hf
    refine V_iald C (vp_g g9) rfl dX3_takeLeast_40 ?_
    obtain ⟨h10, eh10, hf⟩ := o_b hf
    refine V_callV (as := [vI (hI h6 q8 ((hI h6 v0 13).toNatClampNeg))]) (st := []) C ml_X3_166 fx3 (ct_X3_sink eh10) rfl ⟨by decide, by decide, by decide, by decide⟩ (Nat.le_of_ble_eq_true rfl) rfl dX3_takeLeast_41 (cs' := 0) (sl' := 0) rfl rfl ?_
    refine V_iload_n C dX3_takeLeast_44 rfl 0 rfl ?_
    obtain ⟨hf1, hf2⟩ := Prod.mk.inj (Option.some.inj hf)
    subst hf1
    subst hf2
    exact V_iret C hQ dX3_takeLeast_45
theorem ct_X3_takeLeast {r : Int32} {h' : Hp} {N : Nat} {h : Hp} {v0 : Nat} (hf : f_X3_takeLeast N h v0 = some ((r, h'))) (l : Launch) (G : GT) : MC l G yX3_takeLeast cX3_takeLeast 2 (some .int) rmX3_takeLeast h [vR 3 (some v0)] (some (vI r)) h' := MC_of (by decide) rfl (Nat.le_of_ble_eq_true rfl) rfl (fun X C hQ hin => p_X3_takeLeast C hQ hf)
abbrev rmX5_isHome : Room := { frames := 1, cells := 0, slots := 0, locals := 21 }
def f_X5_isHome_33 (h : Hp) (s1_ : Int32) (s0_ : Int32) : Option (Int32) := if s0_ = s1_ then (some (1 : Int32)) else (some (0 : Int32))
set_option maxHeartbeats 4000000 in
set_option maxRecDepth 100000 in
theorem p_X5_isHome_33 {X : XT} {r : Int32} {h : Hp} (C : CX X cX5_isHome "WaterStair$State" 2 (some .boolean) rmX5_isHome) (hQ : QX X (some (vI r)) h rmX5_isHome.cells rmX5_isHome.slots)   {s1_ : Int32} {s0_ : Int32} (hf : f_X5_isHome_33 h s1_ s0_ = some r) : V X 0 0 h 33 [] [vI s1_, vI s0_] := by
  unfold f_X5_isHome_33 at hf
  refine V_icmp_ne C 40 dX5_isHome_33 (by decide) (fun c1 => ?_) (fun c1 => ?_)
  · have hf := i_f c1 hf
    refine V_iconst (v := (0 : Int32)) C dX5_isHome_40 (by decide) ?_
    have hf := Option.some.inj hf
    subst hf
    exact V_zret C (by decide) hQ dX5_isHome_41
  · have hf := i_t c1 hf
    refine V_iconst (v := (1 : Int32)) C dX5_isHome_36 (by decide) ?_
    refine V_goto C 41 dX5_isHome_37 (by decide) ?_
    have hf := Option.some.inj hf
    subst hf
    exact V_zret C (by decide) hQ dX5_isHome_41
def f_X5_isHome (h : Hp) (v0 : Nat) (v1 : Int32) : Option (Int32) := Option.bind (f_X5_hasBarge h v0 v1) (fun r2 => if r2 = 0 then (some (0 : Int32)) else (Option.bind (hP h v0 12) (fun q4 => if 0 ≤ v1 ∧ v1.toNatClampNeg < hL h q4 then (Option.bind (hP h v0 15) (fun q6 => if 0 ≤ v1 ∧ v1.toNatClampNeg < hL h q6 then (if hI h q6 (v1.toNatClampNeg) = 0 then (f_X5_isHome_33 h ((hI h v0 0) - (1 : Int32)) (hI h q4 (v1.toNatClampNeg))) else (f_X5_isHome_33 h (0 : Int32) (hI h q4 (v1.toNatClampNeg)))) else none)) else none)))
set_option maxHeartbeats 4000000 in
set_option maxRecDepth 100000 in
theorem p_X5_isHome {X : XT} {r : Int32} (C : CX X cX5_isHome "WaterStair$State" 2 (some .boolean) rmX5_isHome) {h : Hp} {v0 : Nat} {v1 : Int32} (hQ : QX X (some (vI r)) h rmX5_isHome.cells rmX5_isHome.slots) (hf : f_X5_isHome h v0 v1 = some r) : V X 0 0 h 0 [(0, vR 5 (some v0)), (1, vI v1)] [] := by
  unfold f_X5_isHome at hf
  refine V_aload_n C dX5_isHome_0 rfl 0 rfl ?_
  refine V_iload_n C dX5_isHome_1 rfl 1 rfl ?_
  obtain ⟨r2, er2, hf⟩ := o_b hf
  refine V_callV (as := [vI v1]) (st := []) C ml_X5_92 fx5 (ct_X5_hasBarge er2) rfl ⟨by decide, by decide, by decide, by decide⟩ (Nat.le_of_ble_eq_true rfl) rfl dX5_isHome_2 (cs' := 0) (sl' := 0) rfl rfl ?_
  refine V_if_eq C 40 dX5_isHome_5 (by decide) (fun c3 => ?_) (fun c3 => ?_)
  · have hf := i_t c3 hf
    refine V_iconst (v := (0 : Int32)) C dX5_isHome_40 (by decide) ?_
    have hf := Option.some.inj hf
    subst hf
    exact V_zret C (by decide) hQ dX5_isHome_41
  · have hf := i_f c3 hf
    refine V_aload_n C dX5_isHome_8 rfl 0 rfl ?_
    obtain ⟨q4, eq4, hf⟩ := o_b hf
    refine V_getR C fl_X5_49 rfl rfl (by decide) eq4 dX5_isHome_9 ?_
    refine V_iload_n C dX5_isHome_12 rfl 1 rfl ?_
    obtain ⟨g5, hf⟩ := o_if hf
    refine V_iald C (vp_g g5) rfl dX5_isHome_13 ?_
    refine V_aload_n C dX5_isHome_14 rfl 0 rfl ?_
    obtain ⟨q6, eq6, hf⟩ := o_b hf
    refine V_getR C fl_X5_58 rfl rfl (by decide) eq6 dX5_isHome_15 ?_
    refine V_iload_n C dX5_isHome_18 rfl 1 rfl ?_
    obtain ⟨g7, hf⟩ := o_if hf
    refine V_iald C (vp_g g7) rfl dX5_isHome_19 ?_
    refine V_if_ne C 32 dX5_isHome_20 (by decide) (fun c8 => ?_) (fun c8 => ?_)
    · have hf := i_f c8 hf
      refine V_iconst (v := (0 : Int32)) C dX5_isHome_32 (by decide) ?_
      refine V_sub (lv' := []) [] rfl ?_
      exact p_X5_isHome_33 C hQ hf
    · have hf := i_t c8 hf
      refine V_aload_n C dX5_isHome_23 rfl 0 rfl ?_
      refine V_getI C fl_X5_9 rfl dX5_isHome_24 ?_
      refine V_iconst (v := (1 : Int32)) C dX5_isHome_27 (by decide) ?_
      refine V_isub C dX5_isHome_28 ?_
      refine V_goto C 33 dX5_isHome_29 (by decide) ?_
      refine V_sub (lv' := []) [] rfl ?_
      exact p_X5_isHome_33 C hQ hf
theorem ct_X5_isHome {r : Int32} {h : Hp} {v0 : Nat} {v1 : Int32} (hf : f_X5_isHome h v0 v1 = some r) (l : Launch) (G : GT) : MC l G yX5_isHome cX5_isHome 2 (some .boolean) rmX5_isHome h [vR 5 (some v0), vI v1] (some (vI r)) h := MC_of (by decide) rfl (Nat.le_of_ble_eq_true rfl) rfl (fun X C hQ hin => p_X5_isHome C hQ hf)
abbrev rmX5_homeBits : Room := { frames := 2, cells := 0, slots := 0, locals := 42 }
def f_X5_homeBits_26 (N : Nat) (s4 : Hp → Nat → Int32 → Int32 → Option (Int32)) (h : Hp) (v0 : Nat) (v1 : Int32) (v2 : Int32) : Option (Int32) := s4 h v0 v1 (v2 + (1 : Int32))
set_option maxHeartbeats 4000000 in
set_option maxRecDepth 100000 in
theorem p_X5_homeBits_26 {X : XT} {r : Int32} {h : Hp} (C : CX X cX5_homeBits "WaterStair$State" 3 (some .int) rmX5_homeBits) (hQ : QX X (some (vI r)) h rmX5_homeBits.cells rmX5_homeBits.slots) {N : Nat} {s4 : Hp → Nat → Int32 → Int32 → Option (Int32)} (S4 : ∀ (v0 : Nat) (v1 : Int32) (v2 : Int32), s4 h v0 v1 v2 = some r → V X 0 0 h 4 [(0, vR 5 (some v0)), (1, vI v1), (2, vI v2)] [])  {v0 : Nat} {v1 : Int32} {v2 : Int32} (hf : f_X5_homeBits_26 N s4 h v0 v1 v2 = some r) : V X 0 0 h 26 [(0, vR 5 (some v0)), (1, vI v1), (2, vI v2)] [] := by
  unfold f_X5_homeBits_26 at hf
  refine V_iinc (lv' := [(2, vI (v2 + (1 : Int32))), (0, vR 5 (some v0)), (1, vI v1)]) C dX5_homeBits_26 2 rfl (congrArg (v2 + ·) (by decide : Int32.ofInt (1) = (1 : Int32))) (by decide) rfl ?_
  refine V_goto C 4 dX5_homeBits_29 (by decide) ?_
  refine V_sub (lv' := [(0, vR 5 (some v0)), (1, vI v1), (2, vI (v2 + (1 : Int32)))]) [1, 2, 0] rfl ?_
  exact S4 _ _ _ hf
def f_X5_homeBits_4 (N : Nat) : Nat → Hp → Nat → Int32 → Int32 → Option (Int32)
  | 0, _, _, _, _ => none
  | n + 1, h, v0, v1, v2 => if (hI h v0 1) ≤ v2 then (some v1) else (Option.bind (f_X5_isHome h v0 v2) (fun r2 => if r2 = 0 then (f_X5_homeBits_26 N (f_X5_homeBits_4 N n) h v0 v1 v2) else (lt (v1 ||| ((1 : Int32) <<< (v2 &&& 31))) (fun y4 => f_X5_homeBits_26 N (f_X5_homeBits_4 N n) h v0 y4 v2))))
set_option maxHeartbeats 4000000 in
set_option maxRecDepth 100000 in
theorem p_X5_homeBits_4 {X : XT} {r : Int32} {h : Hp} (C : CX X cX5_homeBits "WaterStair$State" 3 (some .int) rmX5_homeBits) (hQ : QX X (some (vI r)) h rmX5_homeBits.cells rmX5_homeBits.slots) {N : Nat}  : ∀ (n : Nat) (v0 : Nat) (v1 : Int32) (v2 : Int32), f_X5_homeBits_4 N n h v0 v1 v2 = some r → V X 0 0 h 4 [(0, vR 5 (some v0)), (1, vI v1), (2, vI v2)] [] := by
  intro n
  induction n with
  | zero =>
    intro v0 v1 v2 hf
    have hf : (none : Option (Int32)) = some _ := hf
    cases hf
  | succ n ih =>
    intro v0 v1 v2 hf
    rw [f_X5_homeBits_4] at hf
    refine V_iload_n C dX5_homeBits_4 rfl 2 rfl ?_
    refine V_aload_n C dX5_homeBits_5 rfl 0 rfl ?_
    refine V_getI C fl_X5_15 rfl dX5_homeBits_6 ?_
    refine V_icmp_ge C 32 dX5_homeBits_9 (by decide) (fun c1 => ?_) (fun c1 => ?_)
    · have hf := i_t c1 hf
      refine V_iload_n C dX5_homeBits_32 rfl 1 rfl ?_
      have hf := Option.some.inj hf
      subst hf
      exact V_iret C hQ dX5_homeBits_33
    · have hf := i_f c1 hf
      refine V_aload_n C dX5_homeBits_12 rfl 0 rfl ?_
      refine V_iload_n C dX5_homeBits_13 rfl 2 rfl ?_
      obtain ⟨r2, er2, hf⟩ := o_b hf
      refine V_callV (as := [vI v2]) (st := []) C ml_X5_99 fx5 (ct_X5_isHome er2) rfl ⟨by decide, by decide, by decide, by decide⟩ (Nat.le_of_ble_eq_true rfl) rfl dX5_homeBits_14 (cs' := 0) (sl' := 0) rfl rfl ?_
      refine V_if_eq C 26 dX5_homeBits_17 (by decide) (fun c3 => ?_) (fun c3 => ?_)
      · have hf := i_t c3 hf
        refine V_sub (lv' := [(0, vR 5 (some v0)), (1, vI v1), (2, vI v2)]) [0, 1, 2] rfl ?_
        exact p_X5_homeBits_26 C hQ ih hf
      · have hf := i_f c3 hf
        refine V_iload_n C dX5_homeBits_20 rfl 1 rfl ?_
        refine V_iconst (v := (1 : Int32)) C dX5_homeBits_21 (by decide) ?_
        refine V_iload_n C dX5_homeBits_22 rfl 2 rfl ?_
        refine V_ishl C dX5_homeBits_23 ?_
        refine V_ior C dX5_homeBits_24 ?_
        obtain ⟨y4, ey4, hf⟩ := o_l hf
        refine V_eqI ey4 ?_
        refine V_istore_n (lv' := [(1, vI y4), (0, vR 5 (some v0)), (2, vI v2)]) C dX5_homeBits_25 rfl (by decide) rfl ?_
        refine V_sub (lv' := [(0, vR 5 (some v0)), (1, vI y4), (2, vI v2)]) [1, 0, 2] rfl ?_
        exact p_X5_homeBits_26 C hQ ih hf
def f_X5_homeBits (N : Nat) (h : Hp) (v0 : Nat) : Option (Int32) := f_X5_homeBits_4 N N h v0 (0 : Int32) (0 : Int32)
set_option maxHeartbeats 4000000 in
set_option maxRecDepth 100000 in
theorem p_X5_homeBits {X : XT} {r : Int32} (C : CX X cX5_homeBits "WaterStair$State" 3 (some .int) rmX5_homeBits) {N : Nat} {h : Hp} {v0 : Nat} (hQ : QX X (some (vI r)) h rmX5_homeBits.cells rmX5_homeBits.slots) (hf : f_X5_homeBits N h v0 = some r) : V X 0 0 h 0 [(0, vR 5 (some v0))] [] := by
  unfold f_X5_homeBits at hf
  refine V_iconst (v := (0 : Int32)) C dX5_homeBits_0 (by decide) ?_
  refine V_istore_n (lv' := [(1, vI (0 : Int32)), (0, vR 5 (some v0))]) C dX5_homeBits_1 rfl (by decide) rfl ?_
  refine V_iconst (v := (0 : Int32)) C dX5_homeBits_2 (by decide) ?_
  refine V_istore_n (lv' := [(2, vI (0 : Int32)), (1, vI (0 : Int32)), (0, vR 5 (some v0))]) C dX5_homeBits_3 rfl (by decide) rfl ?_
  refine V_sub (lv' := [(0, vR 5 (some v0)), (1, vI (0 : Int32)), (2, vI (0 : Int32))]) [2, 1, 0] rfl ?_
  exact p_X5_homeBits_4 C hQ N _ _ _ hf
theorem ct_X5_homeBits {r : Int32} {N : Nat} {h : Hp} {v0 : Nat} (hf : f_X5_homeBits N h v0 = some r) (l : Launch) (G : GT) : MC l G yX5_homeBits cX5_homeBits 3 (some .int) rmX5_homeBits h [vR 5 (some v0)] (some (vI r)) h := MC_of (by decide) rfl (Nat.le_of_ble_eq_true rfl) rfl (fun X C hQ hin => p_X5_homeBits C hQ hf)
abbrev rmX3_explore : Room := { frames := 6, cells := 0, slots := 0, locals := 151 }
def f_X3_explore_48 (N : Nat) : Nat → Hp → Nat → Option Nat → Int32 → Int32 → Int32 → Option (Hp)
  | 0, _, _, _, _, _, _ => none
  | n + 1, h, v0, v2, v3, v6, v7 => if (1500 : Int32) ≤ v7 then (some h) else (if (hI h v0 13) ≤ 0 then (some h) else (if hI h v0 14 = 0 then (b2 (f_X3_takeLeast N h v0) (fun r4 h5 => Option.bind (f_X3_load N h5 v0 r4) (fun h6 => Option.bind (hP h6 v0 0) (fun q7 => Option.bind (f_X5_homeBits N h6 q7) (fun r8 => Option.bind (f_X3_noteEnds N h6 v0 r4 r8) (fun h9 => Option.bind (hP h9 v0 11) (fun q10 => if 0 ≤ v6 ∧ v6.toNatClampNeg < hL h9 q10 then (if (hI h9 q10 (v6.toNatClampNeg)) = (-1 : Int32) then (Option.bind (f_X3_spread N h9 v0 r4 v2 v3) (fun h13 => f_X3_explore_48 N n h13 v0 v2 v3 v6 (v7 + (1 : Int32)))) else (some h9)) else none))))))) else (some h)))
set_option maxHeartbeats 4000000 in
set_option maxRecDepth 100000 in
theorem p_X3_explore_48 {X : XT} {h' : Hp} (C : CX X cX3_explore "WaterStair$Search" 9 none rmX3_explore) (hQ : QX X none h' rmX3_explore.cells rmX3_explore.slots) {N : Nat}  : ∀ (n : Nat) (h : Hp) (v0 : Nat) (v2 : Option Nat) (v3 : Int32) (v6 : Int32) (v7 : Int32), f_X3_explore_48 N n h v0 v2 v3 v6 v7 = some h' → V X 0 0 h 48 [(0, vR 3 (some v0)), (2, vR 1 v2), (3, vI v3), (6, vI v6), (7, vI v7)] [] := by
  intro n
  induction n with
  | zero =>
    intro h v0 v2 v3 v6 v7 hf
    have hf : (none : Option (Hp)) = some _ := hf
    cases hf
  | succ n ih =>
    intro h v0 v2 v3 v6 v7 hf
    rw [f_X3_explore_48] at hf
    refine V_iload C dX3_explore_48 4 rfl ?_
    refine V_sipush (v := (1500 : Int32)) C dX3_explore_50 (by decide) ?_
    refine V_icmp_ge C 123 dX3_explore_53 (by decide) (fun c1 => ?_) (fun c1 => ?_)
    · have hf := i_t c1 hf
      have hf := Option.some.inj hf
      subst hf
      exact V_vret C hQ dX3_explore_123
    · have hf := i_f c1 hf
      refine V_aload_n C dX3_explore_56 rfl 0 rfl ?_
      refine V_getI C fl_X3_50 rfl dX3_explore_57 ?_
      refine V_if_le C 123 dX3_explore_60 (by decide) (fun c2 => ?_) (fun c2 => ?_)
      · have hf := i_t c2 hf
        have hf := Option.some.inj hf
        subst hf
        exact V_vret C hQ dX3_explore_123
      · have hf := i_f c2 hf
        refine V_aload_n C dX3_explore_63 rfl 0 rfl ?_
        refine V_getI C fl_X3_53 rfl dX3_explore_64 ?_
        refine V_if_ne C 123 dX3_explore_67 (by decide) (fun c3 => ?_) (fun c3 => ?_)
        · have hf := i_f c3 hf
          have hf := Option.some.inj hf
          subst hf
          exact V_vret C hQ dX3_explore_123
        · have hf := i_t c3 hf
          refine V_aload_n C dX3_explore_70 rfl 0 rfl ?_
          obtain ⟨r4, h5, er4, hf⟩ := o_b2 hf
          refine V_callV (as := []) (st := []) C ml_X3_73 fx3 (ct_X3_takeLeast er4) rfl ⟨by decide, by decide, by decide, by decide⟩ (Nat.le_of_ble_eq_true rfl) rfl dX3_explore_71 (cs' := 0) (sl' := 0) rfl rfl ?_
          refine V_istore (lv' := [(8, vI r4), (0, vR 3 (some v0)), (2, vR 1 v2), (3, vI v3), (6, vI v6), (7, vI v7)]) C dX3_explore_74 (by decide) rfl ?_
          refine V_aload_n C dX3_explore_76 rfl 1 rfl ?_
          refine V_iload C dX3_explore_77 0 rfl ?_
          obtain ⟨h6, eh6, hf⟩ := o_b hf
          refine V_callV (as := [vI r4]) (st := []) C ml_X3_77 fx3 (ct_X3_load eh6) rfl ⟨by decide, by decide, by decide, by decide⟩ (Nat.le_of_ble_eq_true rfl) rfl dX3_explore_79 (cs' := 0) (sl' := 0) rfl rfl ?_
          refine V_aload_n C dX3_explore_82 rfl 1 rfl ?_
          refine V_iload C dX3_explore_83 0 rfl ?_
          refine V_aload_n C dX3_explore_85 rfl 1 rfl ?_
          obtain ⟨q7, eq7, hf⟩ := o_b hf
          refine V_getR C fl_X3_60 rfl rfl (by decide) eq7 dX3_explore_86 ?_
          obtain ⟨r8, er8, hf⟩ := o_b hf
          refine V_callV (as := []) (st := [vI r4, vR 3 (some v0)]) C ml_X3_81 fx5 (ct_X5_homeBits er8) rfl ⟨by decide, by decide, by decide, by decide⟩ (Nat.le_of_ble_eq_true rfl) rfl dX3_explore_89 (cs' := 0) (sl' := 0) rfl rfl ?_
          obtain ⟨h9, eh9, hf⟩ := o_b hf
          refine V_callV (as := [vI r4, vI r8]) (st := []) C ml_X3_84 fx3 (ct_X3_noteEnds eh9) rfl ⟨by decide, by decide, by decide, by decide⟩ (Nat.le_of_ble_eq_true rfl) rfl dX3_explore_92 (cs' := 0) (sl' := 0) rfl rfl ?_
          refine V_aload_n C dX3_explore_95 rfl 1 rfl ?_
          obtain ⟨q10, eq10, hf⟩ := o_b hf
          refine V_getR C fl_X3_43 rfl rfl (by decide) eq10 dX3_explore_96 ?_
          refine V_iload C dX3_explore_99 4 rfl ?_
          obtain ⟨g11, hf⟩ := o_if hf
          refine V_iald C (vp_g g11) rfl dX3_explore_101 ?_
          refine V_iconst (v := (-1 : Int32)) C dX3_explore_102 (by decide) ?_
          refine V_icmp_eq C 109 dX3_explore_103 (by decide) (fun c12 => ?_) (fun c12 => ?_)
          · have hf := i_t c12 hf
            refine V_aload_n C dX3_explore_109 rfl 1 rfl ?_
            refine V_iload C dX3_explore_110 0 rfl ?_
            refine V_aload_n C dX3_explore_112 rfl 2 rfl ?_
            refine V_iload_n C dX3_explore_113 rfl 3 rfl ?_
            obtain ⟨h13, eh13, hf⟩ := o_b hf
            refine V_callV (as := [vI r4, vR 1 v2, vI v3]) (st := []) C ml_X3_88 fx3 (ct_X3_spread eh13) rfl ⟨by decide, by decide, by decide, by decide⟩ (Nat.le_of_ble_eq_true rfl) rfl dX3_explore_114 (cs' := 0) (sl' := 0) rfl rfl ?_
            refine V_iinc (lv' := [(7, vI (v7 + (1 : Int32))), (8, vI r4), (0, vR 3 (some v0)), (2, vR 1 v2), (3, vI v3), (6, vI v6)]) C dX3_explore_117 5 rfl (congrArg (v7 + ·) (by decide : Int32.ofInt (1) = (1 : Int32))) (by decide) rfl ?_
            refine V_goto C 48 dX3_explore_120 (by decide) ?_
            refine V_sub (lv' := [(0, vR 3 (some v0)), (2, vR 1 v2), (3, vI v3), (6, vI v6), (7, vI (v7 + (1 : Int32)))]) [2, 3, 4, 5, 0] rfl ?_
            exact ih _ _ _ _ _ _ hf
          · have hf := i_f c12 hf
            refine V_goto C 123 dX3_explore_106 (by decide) ?_
            have hf := Option.some.inj hf
            subst hf
            exact V_vret C hQ dX3_explore_123
def f_X3_explore_10 (N : Nat) (h : Hp) (v0 : Nat) (v1 : Nat) (v2 : Option Nat) (v3 : Int32) (v4 : Int32) (s0_ : Int32) : Option (Hp) := if s0_ = (hI h v0 15) then (some h) else (lt (sI h v0 15 s0_) (fun h15 => Option.bind (f_X3_begin N h15 v0 v1 v4) (fun h16 => lt (((1 : Int32) <<< ((hI h16 v1 1) &&& 31)) - (1 : Int32)) (fun y17 => f_X3_explore_48 N N h16 v0 v2 v3 y17 (0 : Int32)))))
set_option maxHeartbeats 4000000 in
set_option maxRecDepth 100000 in
theorem p_X3_explore_10 {X : XT} {h' : Hp} (C : CX X cX3_explore "WaterStair$Search" 9 none rmX3_explore) (hQ : QX X none h' rmX3_explore.cells rmX3_explore.slots) {N : Nat}  {h : Hp} {v0 : Nat} {v1 : Nat} {v2 : Option Nat} {v3 : Int32} {v4 : Int32} {s0_ : Int32} (hf : f_X3_explore_10 N h v0 v1 v2 v3 v4 s0_ = some h') : V X 0 0 h 10 [(0, vR 3 (some v0)), (1, vR 5 (some v1)), (2, vR 1 v2), (3, vI v3), (4, vI v4)] [vI s0_] := by
  unfold f_X3_explore_10 at hf
  refine V_istore (lv' := [(5, vI s0_), (0, vR 3 (some v0)), (1, vR 5 (some v1)), (2, vR 1 v2), (3, vI v3), (4, vI v4)]) C dX3_explore_10 (by decide) rfl ?_
  refine V_iload C dX3_explore_12 0 rfl ?_
  refine V_aload_n C dX3_explore_14 rfl 1 rfl ?_
  refine V_getI C fl_X3_57 rfl dX3_explore_15 ?_
  refine V_icmp_ne C 22 dX3_explore_18 (by decide) (fun c14 => ?_) (fun c14 => ?_)
  · have hf := i_f c14 hf
    refine V_aload_n C dX3_explore_22 rfl 1 rfl ?_
    refine V_iload C dX3_explore_23 0 rfl ?_
    obtain ⟨h15, eh15, hf⟩ := o_l hf
    refine V_putI C nf_X3_57 rfl (okI_int _) dX3_explore_25 (V_eqH eh15 ?_)
    refine V_aload_n C dX3_explore_28 rfl 1 rfl ?_
    refine V_aload_n C dX3_explore_29 rfl 2 rfl ?_
    refine V_iload C dX3_explore_30 5 rfl ?_
    obtain ⟨h16, eh16, hf⟩ := o_b hf
    refine V_callV (as := [vR 5 (some v1), vI v4]) (st := []) C ml_X3_64 fx3 (ct_X3_begin eh16) rfl ⟨by decide, by decide, by decide, by decide⟩ (Nat.le_of_ble_eq_true rfl) rfl dX3_explore_32 (cs' := 0) (sl' := 0) rfl rfl ?_
    refine V_iconst (v := (1 : Int32)) C dX3_explore_35 (by decide) ?_
    refine V_aload_n C dX3_explore_36 rfl 2 rfl ?_
    refine V_getI C fl_X3_68 rfl dX3_explore_37 ?_
    refine V_ishl C dX3_explore_40 ?_
    refine V_iconst (v := (1 : Int32)) C dX3_explore_41 (by decide) ?_
    refine V_isub C dX3_explore_42 ?_
    obtain ⟨y17, ey17, hf⟩ := o_l hf
    refine V_eqI ey17 ?_
    refine V_istore (lv' := [(6, vI y17), (5, vI s0_), (0, vR 3 (some v0)), (1, vR 5 (some v1)), (2, vR 1 v2), (3, vI v3), (4, vI v4)]) C dX3_explore_43 (by decide) rfl ?_
    refine V_iconst (v := (0 : Int32)) C dX3_explore_45 (by decide) ?_
    refine V_istore (lv' := [(7, vI (0 : Int32)), (6, vI y17), (5, vI s0_), (0, vR 3 (some v0)), (1, vR 5 (some v1)), (2, vR 1 v2), (3, vI v3), (4, vI v4)]) C dX3_explore_46 (by decide) rfl ?_
    refine V_sub (lv' := [(0, vR 3 (some v0)), (2, vR 1 v2), (3, vI v3), (6, vI y17), (7, vI (0 : Int32))]) [3, 5, 6, 1, 0] rfl ?_
    exact p_X3_explore_48 C hQ N _ _ _ _ _ _ hf
  · have hf := i_t c14 hf
    have hf := Option.some.inj hf
    subst hf
    exact V_vret C hQ dX3_explore_21
def f_X3_explore (N : Nat) (h : Hp) (v0 : Nat) (v1 : Nat) (v2 : Option Nat) (v3 : Int32) (v4 : Int32) : Option (Hp) := if v3 = 0 then (f_X3_explore_10 N h v0 v1 v2 v3 v4 v4) else (f_X3_explore_10 N h v0 v1 v2 v3 v4 (-1 : Int32))
set_option maxHeartbeats 4000000 in
set_option maxRecDepth 100000 in
theorem p_X3_explore {X : XT} {h' : Hp} (C : CX X cX3_explore "WaterStair$Search" 9 none rmX3_explore) {N : Nat} {h : Hp} {v0 : Nat} {v1 : Nat} {v2 : Option Nat} {v3 : Int32} {v4 : Int32} (hQ : QX X none h' rmX3_explore.cells rmX3_explore.slots) (hf : f_X3_explore N h v0 v1 v2 v3 v4 = some h') : V X 0 0 h 0 [(0, vR 3 (some v0)), (1, vR 5 (some v1)), (2, vR 1 v2), (3, vI v3), (4, vI v4)] [] := by
  unfold f_X3_explore at hf
  refine V_iload_n C dX3_explore_0 rfl 3 rfl ?_
  refine V_if_eq C 8 dX3_explore_1 (by decide) (fun c18 => ?_) (fun c18 => ?_)
  · have hf := i_t c18 hf
    refine V_iload C dX3_explore_8 4 rfl ?_
    refine V_sub (lv' := [(0, vR 3 (some v0)), (1, vR 5 (some v1)), (2, vR 1 v2), (3, vI v3), (4, vI v4)]) [0, 1, 2, 3, 4] rfl ?_
    exact p_X3_explore_10 C hQ hf
  · have hf := i_f c18 hf
    refine V_iconst (v := (-1 : Int32)) C dX3_explore_4 (by decide) ?_
    refine V_goto C 10 dX3_explore_5 (by decide) ?_
    refine V_sub (lv' := [(0, vR 3 (some v0)), (1, vR 5 (some v1)), (2, vR 1 v2), (3, vI v3), (4, vI v4)]) [0, 1, 2, 3, 4] rfl ?_
    exact p_X3_explore_10 C hQ hf
theorem ct_X3_explore {h' : Hp} {N : Nat} {h : Hp} {v0 : Nat} {v1 : Nat} {v2 : Option Nat} {v3 : Int32} {v4 : Int32} (hf : f_X3_explore N h v0 v1 v2 v3 v4 = some h') (l : Launch) (G : GT) : MC l G yX3_explore cX3_explore 9 none rmX3_explore h [vR 3 (some v0), vR 5 (some v1), vR 1 v2, vI v3, vI v4] none h' := MC_of (by decide) rfl (Nat.le_of_ble_eq_true rfl) rfl (fun X C hQ hin => p_X3_explore C hQ hf)
abbrev rmX3_endOf : Room := { frames := 0, cells := 0, slots := 0, locals := 0 }
def f_X3_endOf_20 (h : Hp) (v0 : Nat) (s0_ : Int32) : Option (Int32) := if s0_ = (-1 : Int32) then (if hI h v0 14 = 0 then (some (-2 : Int32)) else (some (-3 : Int32))) else (some s0_)
set_option maxHeartbeats 4000000 in
set_option maxRecDepth 100000 in
theorem p_X3_endOf_20 {X : XT} {r : Int32} {h : Hp} (C : CX X cX3_endOf "WaterStair$Search" 3 (some .int) rmX3_endOf) (hQ : QX X (some (vI r)) h rmX3_endOf.cells rmX3_endOf.slots)   {v0 : Nat} {s0_ : Int32} (hf : f_X3_endOf_20 h v0 s0_ = some r) : V X 0 0 h 20 [(0, vR 3 (some v0))] [vI s0_] := by
  unfold f_X3_endOf_20 at hf
  refine V_istore_n (lv' := [(2, vI s0_), (0, vR 3 (some v0))]) C dX3_endOf_20 rfl (by decide) rfl ?_
  refine V_iload_n C dX3_endOf_21 rfl 0 rfl ?_
  refine V_iconst (v := (-1 : Int32)) C dX3_endOf_22 (by decide) ?_
  refine V_icmp_ne C 41 dX3_endOf_23 (by decide) (fun c1 => ?_) (fun c1 => ?_)
  · have hf := i_f c1 hf
    refine V_iload_n C dX3_endOf_41 rfl 0 rfl ?_
    have hf := Option.some.inj hf
    subst hf
    exact V_iret C hQ dX3_endOf_42
  · have hf := i_t c1 hf
    refine V_aload_n C dX3_endOf_26 rfl 1 rfl ?_
    refine V_getI C fl_X3_53 rfl dX3_endOf_27 ?_
    refine V_if_eq C 38 dX3_endOf_30 (by decide) (fun c2 => ?_) (fun c2 => ?_)
    · have hf := i_t c2 hf
      refine V_bipush (v := (-2 : Int32)) C dX3_endOf_38 (by decide) ?_
      have hf := Option.some.inj hf
      subst hf
      exact V_iret C hQ dX3_endOf_40
    · have hf := i_f c2 hf
      refine V_bipush (v := (-3 : Int32)) C dX3_endOf_33 (by decide) ?_
      refine V_goto C 40 dX3_endOf_35 (by decide) ?_
      have hf := Option.some.inj hf
      subst hf
      exact V_iret C hQ dX3_endOf_40
def f_X3_endOf_10 (h : Hp) (v0 : Nat) : Option (Int32) := f_X3_endOf_20 h v0 (-1 : Int32)
set_option maxHeartbeats 4000000 in
set_option maxRecDepth 100000 in
theorem p_X3_endOf_10 {X : XT} {r : Int32} {h : Hp} (C : CX X cX3_endOf "WaterStair$Search" 3 (some .int) rmX3_endOf) (hQ : QX X (some (vI r)) h rmX3_endOf.cells rmX3_endOf.slots)   {v0 : Nat} (hf : f_X3_endOf_10 h v0 = some r) : V X 0 0 h 10 [(0, vR 3 (some v0))] [] := by
  unfold f_X3_endOf_10 at hf
  refine V_iconst (v := (-1 : Int32)) C dX3_endOf_10 (by decide) ?_
  refine V_goto C 20 dX3_endOf_11 (by decide) ?_
  refine V_sub (lv' := [(0, vR 3 (some v0))]) [0] rfl ?_
  exact p_X3_endOf_20 C hQ hf
def f_X3_endOf (h : Hp) (v0 : Nat) (v1 : Int32) : Option (Int32) := if v1 < 0 then (f_X3_endOf_10 h v0) else (if v1 < (64 : Int32) then (Option.bind (hP h v0 11) (fun q5 => if 0 ≤ v1 ∧ v1.toNatClampNeg < hL h q5 then (f_X3_endOf_20 h v0 (hI h q5 (v1.toNatClampNeg))) else none)) else (f_X3_endOf_10 h v0))
set_option maxHeartbeats 4000000 in
set_option maxRecDepth 100000 in
theorem p_X3_endOf {X : XT} {r : Int32} (C : CX X cX3_endOf "WaterStair$Search" 3 (some .int) rmX3_endOf) {h : Hp} {v0 : Nat} {v1 : Int32} (hQ : QX X (some (vI r)) h rmX3_endOf.cells rmX3_endOf.slots) (hf : f_X3_endOf h v0 v1 = some r) : V X 0 0 h 0 [(0, vR 3 (some v0)), (1, vI v1)] [] := by
  unfold f_X3_endOf at hf
  refine V_iload_n C dX3_endOf_0 rfl 1 rfl ?_
  refine V_if_lt C 10 dX3_endOf_1 (by decide) (fun c3 => ?_) (fun c3 => ?_)
  · have hf := i_t c3 hf
    refine V_sub (lv' := [(0, vR 3 (some v0))]) [0] rfl ?_
    exact p_X3_endOf_10 C hQ hf
  · have hf := i_f c3 hf
    refine V_iload_n C dX3_endOf_4 rfl 1 rfl ?_
    refine V_bipush (v := (64 : Int32)) C dX3_endOf_5 (by decide) ?_
    refine V_icmp_lt C 14 dX3_endOf_7 (by decide) (fun c4 => ?_) (fun c4 => ?_)
    · have hf := i_t c4 hf
      refine V_aload_n C dX3_endOf_14 rfl 0 rfl ?_
      obtain ⟨q5, eq5, hf⟩ := o_b hf
      refine V_getR C fl_X3_43 rfl rfl (by decide) eq5 dX3_endOf_15 ?_
      refine V_iload_n C dX3_endOf_18 rfl 1 rfl ?_
      obtain ⟨g6, hf⟩ := o_if hf
      refine V_iald C (vp_g g6) rfl dX3_endOf_19 ?_
      refine V_sub (lv' := [(0, vR 3 (some v0))]) [0] rfl ?_
      exact p_X3_endOf_20 C hQ hf
    · have hf := i_f c4 hf
      refine V_sub (lv' := [(0, vR 3 (some v0))]) [0] rfl ?_
      exact p_X3_endOf_10 C hQ hf
theorem ct_X3_endOf {r : Int32} {h : Hp} {v0 : Nat} {v1 : Int32} (hf : f_X3_endOf h v0 v1 = some r) (l : Launch) (G : GT) : MC l G yX3_endOf cX3_endOf 3 (some .int) rmX3_endOf h [vR 3 (some v0), vI v1] (some (vI r)) h := MC_of (by decide) rfl (Nat.le_of_ble_eq_true rfl) rfl (fun X C hQ hin => p_X3_endOf C hQ hf)
abbrev rmX3_costOf : Room := { frames := 1, cells := 0, slots := 0, locals := 22 }
def f_X3_costOf (h : Hp) (v0 : Nat) (v1 : Int32) : Option (Int32) := Option.bind (f_X3_endOf h v0 v1) (fun r1 => if 0 ≤ r1 then (Option.bind (hP h v0 5) (fun q3 => if 0 ≤ r1 ∧ r1.toNatClampNeg < hL h q3 then (some (hI h q3 (r1.toNatClampNeg))) else none)) else (some r1))
set_option maxHeartbeats 4000000 in
set_option maxRecDepth 100000 in
theorem p_X3_costOf {X : XT} {r : Int32} (C : CX X cX3_costOf "WaterStair$Search" 3 (some .int) rmX3_costOf) {h : Hp} {v0 : Nat} {v1 : Int32} (hQ : QX X (some (vI r)) h rmX3_costOf.cells rmX3_costOf.slots) (hf : f_X3_costOf h v0 v1 = some r) : V X 0 0 h 0 [(0, vR 3 (some v0)), (1, vI v1)] [] := by
  unfold f_X3_costOf at hf
  refine V_aload_n C dX3_costOf_0 rfl 0 rfl ?_
  refine V_iload_n C dX3_costOf_1 rfl 1 rfl ?_
  obtain ⟨r1, er1, hf⟩ := o_b hf
  refine V_callV (as := [vI v1]) (st := []) C ml_X3_92 fx3 (ct_X3_endOf er1) rfl ⟨by decide, by decide, by decide, by decide⟩ (Nat.le_of_ble_eq_true rfl) rfl dX3_costOf_2 (cs' := 0) (sl' := 0) rfl rfl ?_
  refine V_istore_n (lv' := [(2, vI r1), (0, vR 3 (some v0)), (1, vI v1)]) C dX3_costOf_5 rfl (by decide) rfl ?_
  refine V_iload_n C dX3_costOf_6 rfl 0 rfl ?_
  refine V_if_ge C 14 dX3_costOf_7 (by decide) (fun c2 => ?_) (fun c2 => ?_)
  · have hf := i_t c2 hf
    refine V_aload_n C dX3_costOf_14 rfl 1 rfl ?_
    obtain ⟨q3, eq3, hf⟩ := o_b hf
    refine V_getR C fl_X3_25 rfl rfl (by decide) eq3 dX3_costOf_15 ?_
    refine V_iload_n C dX3_costOf_18 rfl 0 rfl ?_
    obtain ⟨g4, hf⟩ := o_if hf
    refine V_iald C (vp_g g4) rfl dX3_costOf_19 ?_
    have hf := Option.some.inj hf
    subst hf
    exact V_iret C hQ dX3_costOf_20
  · have hf := i_f c2 hf
    refine V_iload_n C dX3_costOf_10 rfl 0 rfl ?_
    refine V_goto C 20 dX3_costOf_11 (by decide) ?_
    have hf := Option.some.inj hf
    subst hf
    exact V_iret C hQ dX3_costOf_20
theorem ct_X3_costOf {r : Int32} {h : Hp} {v0 : Nat} {v1 : Int32} (hf : f_X3_costOf h v0 v1 = some r) (l : Launch) (G : GT) : MC l G yX3_costOf cX3_costOf 3 (some .int) rmX3_costOf h [vR 3 (some v0), vI v1] (some (vI r)) h := MC_of (by decide) rfl (Nat.le_of_ble_eq_true rfl) rfl (fun X C hQ hin => p_X3_costOf C hQ hf)
abbrev rmX3_tipOfRow : Room := { frames := 1, cells := 0, slots := 0, locals := 22 }
def f_X3_tipOfRow_64 (N : Nat) : Nat → Hp → Nat → Int32 → Int32 → Int32 → Option (Int32)
  | 0, _, _, _, _, _ => none
  | n + 1, h, v0, v2, v5, v6 => if v6 ≤ v2 then (Option.bind (hP h v0 7) (fun q2 => if 0 ≤ v5 ∧ v5.toNatClampNeg < hL h q2 then (some (hI h q2 (v5.toNatClampNeg))) else none)) else (if v5 ≤ 0 then (Option.bind (hP h v0 7) (fun q5 => if 0 ≤ v5 ∧ v5.toNatClampNeg < hL h q5 then (some (hI h q5 (v5.toNatClampNeg))) else none)) else (Option.bind (hP h v0 6) (fun q7 => if 0 ≤ v5 ∧ v5.toNatClampNeg < hL h q7 then (lt (hI h q7 (v5.toNatClampNeg)) (fun y9 => f_X3_tipOfRow_64 N n h v0 v2 y9 (v6 + (-1 : Int32)))) else none)))
set_option maxHeartbeats 4000000 in
set_option maxRecDepth 100000 in
theorem p_X3_tipOfRow_64 {X : XT} {r : Int32} {h : Hp} (C : CX X cX3_tipOfRow "WaterStair$Search" 7 (some .int) rmX3_tipOfRow) (hQ : QX X (some (vI r)) h rmX3_tipOfRow.cells rmX3_tipOfRow.slots) {N : Nat}  : ∀ (n : Nat) (v0 : Nat) (v2 : Int32) (v5 : Int32) (v6 : Int32), f_X3_tipOfRow_64 N n h v0 v2 v5 v6 = some r → V X 0 0 h 64 [(0, vR 3 (some v0)), (2, vI v2), (5, vI v5), (6, vI v6)] [] := by
  intro n
  induction n with
  | zero =>
    intro v0 v2 v5 v6 hf
    have hf : (none : Option (Int32)) = some _ := hf
    cases hf
  | succ n ih =>
    intro v0 v2 v5 v6 hf
    rw [f_X3_tipOfRow_64] at hf
    refine V_iload C dX3_tipOfRow_64 3 rfl ?_
    refine V_iload_n C dX3_tipOfRow_66 rfl 1 rfl ?_
    refine V_icmp_le C 90 dX3_tipOfRow_67 (by decide) (fun c1 => ?_) (fun c1 => ?_)
    · have hf := i_t c1 hf
      refine V_aload_n C dX3_tipOfRow_90 rfl 0 rfl ?_
      obtain ⟨q2, eq2, hf⟩ := o_b hf
      refine V_getR C fl_X3_31 rfl rfl (by decide) eq2 dX3_tipOfRow_91 ?_
      refine V_iload C dX3_tipOfRow_94 2 rfl ?_
      obtain ⟨g3, hf⟩ := o_if hf
      refine V_iald C (vp_g g3) rfl dX3_tipOfRow_96 ?_
      have hf := Option.some.inj hf
      subst hf
      exact V_iret C hQ dX3_tipOfRow_97
    · have hf := i_f c1 hf
      refine V_iload C dX3_tipOfRow_70 2 rfl ?_
      refine V_if_le C 90 dX3_tipOfRow_72 (by decide) (fun c4 => ?_) (fun c4 => ?_)
      · have hf := i_t c4 hf
        refine V_aload_n C dX3_tipOfRow_90 rfl 0 rfl ?_
        obtain ⟨q5, eq5, hf⟩ := o_b hf
        refine V_getR C fl_X3_31 rfl rfl (by decide) eq5 dX3_tipOfRow_91 ?_
        refine V_iload C dX3_tipOfRow_94 2 rfl ?_
        obtain ⟨g6, hf⟩ := o_if hf
        refine V_iald C (vp_g g6) rfl dX3_tipOfRow_96 ?_
        have hf := Option.some.inj hf
        subst hf
        exact V_iret C hQ dX3_tipOfRow_97
      · have hf := i_f c4 hf
        refine V_aload_n C dX3_tipOfRow_75 rfl 0 rfl ?_
        obtain ⟨q7, eq7, hf⟩ := o_b hf
        refine V_getR C fl_X3_28 rfl rfl (by decide) eq7 dX3_tipOfRow_76 ?_
        refine V_iload C dX3_tipOfRow_79 2 rfl ?_
        obtain ⟨g8, hf⟩ := o_if hf
        refine V_iald C (vp_g g8) rfl dX3_tipOfRow_81 ?_
        obtain ⟨y9, ey9, hf⟩ := o_l hf
        refine V_eqI ey9 ?_
        refine V_istore (lv' := [(5, vI y9), (0, vR 3 (some v0)), (2, vI v2), (6, vI v6)]) C dX3_tipOfRow_82 (by decide) rfl ?_
        refine V_iinc (lv' := [(6, vI (v6 + (-1 : Int32))), (5, vI y9), (0, vR 3 (some v0)), (2, vI v2)]) C dX3_tipOfRow_84 3 rfl (congrArg (v6 + ·) (by decide : Int32.ofInt (-1) = (-1 : Int32))) (by decide) rfl ?_
        refine V_goto C 64 dX3_tipOfRow_87 (by decide) ?_
        refine V_sub (lv' := [(0, vR 3 (some v0)), (2, vI v2), (5, vI y9), (6, vI (v6 + (-1 : Int32)))]) [2, 3, 1, 0] rfl ?_
        exact ih _ _ _ _ hf
def f_X3_tipOfRow_46 (N : Nat) (h : Hp) (v0 : Nat) (v2 : Int32) (v3 : Int32) (v4 : Int32) : Option (Int32) := if v2 < v4 then (f_X3_tipOfRow_64 N N h v0 v2 v3 (v4 - (1 : Int32))) else (some (-2 : Int32))
set_option maxHeartbeats 4000000 in
set_option maxRecDepth 100000 in
theorem p_X3_tipOfRow_46 {X : XT} {r : Int32} {h : Hp} (C : CX X cX3_tipOfRow "WaterStair$Search" 7 (some .int) rmX3_tipOfRow) (hQ : QX X (some (vI r)) h rmX3_tipOfRow.cells rmX3_tipOfRow.slots) {N : Nat}   {v0 : Nat} {v2 : Int32} {v3 : Int32} {v4 : Int32} (hf : f_X3_tipOfRow_46 N h v0 v2 v3 v4 = some r) : V X 0 0 h 46 [(0, vR 3 (some v0)), (2, vI v2), (3, vI v3), (4, vI v4)] [] := by
  unfold f_X3_tipOfRow_46 at hf
  refine V_iload_n C dX3_tipOfRow_46 rfl 1 rfl ?_
  refine V_iload C dX3_tipOfRow_47 3 rfl ?_
  refine V_icmp_lt C 55 dX3_tipOfRow_49 (by decide) (fun c10 => ?_) (fun c10 => ?_)
  · have hf := i_t c10 hf
    refine V_iload_n C dX3_tipOfRow_55 rfl 2 rfl ?_
    refine V_istore (lv' := [(5, vI v3), (0, vR 3 (some v0)), (2, vI v2), (3, vI v3), (4, vI v4)]) C dX3_tipOfRow_56 (by decide) rfl ?_
    refine V_iload C dX3_tipOfRow_58 4 rfl ?_
    refine V_iconst (v := (1 : Int32)) C dX3_tipOfRow_60 (by decide) ?_
    refine V_isub C dX3_tipOfRow_61 ?_
    refine V_istore (lv' := [(6, vI (v4 - (1 : Int32))), (5, vI v3), (0, vR 3 (some v0)), (2, vI v2), (3, vI v3), (4, vI v4)]) C dX3_tipOfRow_62 (by decide) rfl ?_
    refine V_sub (lv' := [(0, vR 3 (some v0)), (2, vI v2), (5, vI v3), (6, vI (v4 - (1 : Int32)))]) [2, 3, 1, 0] rfl ?_
    exact p_X3_tipOfRow_64 C hQ N _ _ _ _ hf
  · have hf := i_f c10 hf
    refine V_bipush (v := (-2 : Int32)) C dX3_tipOfRow_52 (by decide) ?_
    have hf := Option.some.inj hf
    subst hf
    exact V_iret C hQ dX3_tipOfRow_54
def f_X3_tipOfRow_18 (N : Nat) : Nat → Hp → Nat → Int32 → Int32 → Int32 → Int32 → Option (Int32)
  | 0, _, _, _, _, _, _ => none
  | n + 1, h, v0, v2, v3, v4, v5 => if v5 ≤ 0 then (f_X3_tipOfRow_46 N h v0 v2 v3 v4) else (if (1500 : Int32) ≤ v4 then (f_X3_tipOfRow_46 N h v0 v2 v3 v4) else (Option.bind (hP h v0 6) (fun q13 => if 0 ≤ v5 ∧ v5.toNatClampNeg < hL h q13 then (lt (hI h q13 (v5.toNatClampNeg)) (fun y15 => f_X3_tipOfRow_18 N n h v0 v2 v3 (v4 + (1 : Int32)) y15)) else none)))
set_option maxHeartbeats 4000000 in
set_option maxRecDepth 100000 in
theorem p_X3_tipOfRow_18 {X : XT} {r : Int32} {h : Hp} (C : CX X cX3_tipOfRow "WaterStair$Search" 7 (some .int) rmX3_tipOfRow) (hQ : QX X (some (vI r)) h rmX3_tipOfRow.cells rmX3_tipOfRow.slots) {N : Nat}  : ∀ (n : Nat) (v0 : Nat) (v2 : Int32) (v3 : Int32) (v4 : Int32) (v5 : Int32), f_X3_tipOfRow_18 N n h v0 v2 v3 v4 v5 = some r → V X 0 0 h 18 [(0, vR 3 (some v0)), (2, vI v2), (3, vI v3), (4, vI v4), (5, vI v5)] [] := by
  intro n
  induction n with
  | zero =>
    intro v0 v2 v3 v4 v5 hf
    have hf : (none : Option (Int32)) = some _ := hf
    cases hf
  | succ n ih =>
    intro v0 v2 v3 v4 v5 hf
    rw [f_X3_tipOfRow_18] at hf
    refine V_iload C dX3_tipOfRow_18 4 rfl ?_
    refine V_if_le C 46 dX3_tipOfRow_20 (by decide) (fun c11 => ?_) (fun c11 => ?_)
    · have hf := i_t c11 hf
      refine V_sub (lv' := [(0, vR 3 (some v0)), (2, vI v2), (3, vI v3), (4, vI v4)]) [0, 1, 2, 3] rfl ?_
      exact p_X3_tipOfRow_46 C hQ hf
    · have hf := i_f c11 hf
      refine V_iload C dX3_tipOfRow_23 3 rfl ?_
      refine V_sipush (v := (1500 : Int32)) C dX3_tipOfRow_25 (by decide) ?_
      refine V_icmp_ge C 46 dX3_tipOfRow_28 (by decide) (fun c12 => ?_) (fun c12 => ?_)
      · have hf := i_t c12 hf
        refine V_sub (lv' := [(0, vR 3 (some v0)), (2, vI v2), (3, vI v3), (4, vI v4)]) [0, 1, 2, 3] rfl ?_
        exact p_X3_tipOfRow_46 C hQ hf
      · have hf := i_f c12 hf
        refine V_iinc (lv' := [(4, vI (v4 + (1 : Int32))), (0, vR 3 (some v0)), (2, vI v2), (3, vI v3), (5, vI v5)]) C dX3_tipOfRow_31 3 rfl (congrArg (v4 + ·) (by decide : Int32.ofInt (1) = (1 : Int32))) (by decide) rfl ?_
        refine V_aload_n C dX3_tipOfRow_34 rfl 1 rfl ?_
        obtain ⟨q13, eq13, hf⟩ := o_b hf
        refine V_getR C fl_X3_28 rfl rfl (by decide) eq13 dX3_tipOfRow_35 ?_
        refine V_iload C dX3_tipOfRow_38 4 rfl ?_
        obtain ⟨g14, hf⟩ := o_if hf
        refine V_iald C (vp_g g14) rfl dX3_tipOfRow_40 ?_
        obtain ⟨y15, ey15, hf⟩ := o_l hf
        refine V_eqI ey15 ?_
        refine V_istore (lv' := [(5, vI y15), (4, vI (v4 + (1 : Int32))), (0, vR 3 (some v0)), (2, vI v2), (3, vI v3)]) C dX3_tipOfRow_41 (by decide) rfl ?_
        refine V_goto C 18 dX3_tipOfRow_43 (by decide) ?_
        refine V_sub (lv' := [(0, vR 3 (some v0)), (2, vI v2), (3, vI v3), (4, vI (v4 + (1 : Int32))), (5, vI y15)]) [2, 3, 4, 1, 0] rfl ?_
        exact ih _ _ _ _ _ hf
def f_X3_tipOfRow (N : Nat) (h : Hp) (v0 : Nat) (v1 : Int32) (v2 : Int32) : Option (Int32) := Option.bind (f_X3_endOf h v0 v1) (fun r16 => if 0 ≤ r16 then (f_X3_tipOfRow_18 N N h v0 v2 r16 (0 : Int32) r16) else (some r16))
set_option maxHeartbeats 4000000 in
set_option maxRecDepth 100000 in
theorem p_X3_tipOfRow {X : XT} {r : Int32} (C : CX X cX3_tipOfRow "WaterStair$Search" 7 (some .int) rmX3_tipOfRow) {N : Nat} {h : Hp} {v0 : Nat} {v1 : Int32} {v2 : Int32} (hQ : QX X (some (vI r)) h rmX3_tipOfRow.cells rmX3_tipOfRow.slots) (hf : f_X3_tipOfRow N h v0 v1 v2 = some r) : V X 0 0 h 0 [(0, vR 3 (some v0)), (1, vI v1), (2, vI v2)] [] := by
  unfold f_X3_tipOfRow at hf
  refine V_aload_n C dX3_tipOfRow_0 rfl 0 rfl ?_
  refine V_iload_n C dX3_tipOfRow_1 rfl 1 rfl ?_
  obtain ⟨r16, er16, hf⟩ := o_b hf
  refine V_callV (as := [vI v1]) (st := []) C ml_X3_92 fx3 (ct_X3_endOf er16) rfl ⟨by decide, by decide, by decide, by decide⟩ (Nat.le_of_ble_eq_true rfl) rfl dX3_tipOfRow_2 (cs' := 0) (sl' := 0) rfl rfl ?_
  refine V_istore_n (lv' := [(3, vI r16), (0, vR 3 (some v0)), (1, vI v1), (2, vI v2)]) C dX3_tipOfRow_5 rfl (by decide) rfl ?_
  refine V_iload_n C dX3_tipOfRow_6 rfl 0 rfl ?_
  refine V_if_ge C 12 dX3_tipOfRow_7 (by decide) (fun c17 => ?_) (fun c17 => ?_)
  · have hf := i_t c17 hf
    refine V_iconst (v := (0 : Int32)) C dX3_tipOfRow_12 (by decide) ?_
    refine V_istore (lv' := [(4, vI (0 : Int32)), (3, vI r16), (0, vR 3 (some v0)), (1, vI v1), (2, vI v2)]) C dX3_tipOfRow_13 (by decide) rfl ?_
    refine V_iload_n C dX3_tipOfRow_15 rfl 1 rfl ?_
    refine V_istore (lv' := [(5, vI r16), (4, vI (0 : Int32)), (3, vI r16), (0, vR 3 (some v0)), (1, vI v1), (2, vI v2)]) C dX3_tipOfRow_16 (by decide) rfl ?_
    refine V_sub (lv' := [(0, vR 3 (some v0)), (2, vI v2), (3, vI r16), (4, vI (0 : Int32)), (5, vI r16)]) [3, 5, 2, 1, 0] rfl ?_
    exact p_X3_tipOfRow_18 C hQ N _ _ _ _ _ hf
  · have hf := i_f c17 hf
    refine V_iload_n C dX3_tipOfRow_10 rfl 0 rfl ?_
    have hf := Option.some.inj hf
    subst hf
    exact V_iret C hQ dX3_tipOfRow_11
theorem ct_X3_tipOfRow {r : Int32} {N : Nat} {h : Hp} {v0 : Nat} {v1 : Int32} {v2 : Int32} (hf : f_X3_tipOfRow N h v0 v1 v2 = some r) (l : Launch) (G : GT) : MC l G yX3_tipOfRow cX3_tipOfRow 7 (some .int) rmX3_tipOfRow h [vR 3 (some v0), vI v1, vI v2] (some (vI r)) h := MC_of (by decide) rfl (Nat.le_of_ble_eq_true rfl) rfl (fun X C hQ hin => p_X3_tipOfRow C hQ hf)
abbrev rmX4_init : Room := { frames := 1, cells := 0, slots := 0, locals := 20 }
def f_X4_init (h : Hp) (v0 : Nat) (v1 : Nat) (v2 : Nat) : Option (Hp) := lt (sI h v0 2 (0 : Int32)) (fun h1 => lt (sI h1 v0 3 (0 : Int32)) (fun h2 => lt (sP h2 v0 0 (some v1)) (fun h3 => lt (sP h3 v0 1 (some v2)) (fun h4 => some h4))))
set_option maxHeartbeats 4000000 in
set_option maxRecDepth 100000 in
theorem p_X4_init {X : XT} {h' : Hp} (C : CX X cX4_init "WaterStair$StairText" 3 none rmX4_init) (hin : X.2.2.2.2.2.2.2.2.1.name = "<init>") {h : Hp} {v0 : Nat} {v1 : Nat} {v2 : Nat} (hQ : QX X none h' rmX4_init.cells rmX4_init.slots) (hf : f_X4_init h v0 v1 v2 = some h') : V X 0 0 h 0 [(0, vR 4 (some v0)), (1, vR 6 (some v1)), (2, vR 5 (some v2))] [] := by
  unfold f_X4_init at hf
  refine V_aload_n C dX4_init_0 rfl 0 rfl ?_
  refine V_obj C (by decide) ob_X4_3 ob_i ob_c (by decide) (by decide) dX4_init_1 ?_
  refine V_aload_n C dX4_init_4 rfl 0 rfl ?_
  refine V_iconst (v := (0 : Int32)) C dX4_init_5 (by decide) ?_
  obtain ⟨h1, eh1, hf⟩ := o_l hf
  refine V_putI C nf_X4_9 rfl (okI_z (Or.inl rfl)) dX4_init_6 (V_eqH eh1 ?_)
  refine V_aload_n C dX4_init_9 rfl 0 rfl ?_
  refine V_iconst (v := (0 : Int32)) C dX4_init_10 (by decide) ?_
  obtain ⟨h2, eh2, hf⟩ := o_l hf
  refine V_putI C nf_X4_15 rfl (okI_z (Or.inl rfl)) dX4_init_11 (V_eqH eh2 ?_)
  refine V_aload_n C dX4_init_14 rfl 0 rfl ?_
  refine V_aload_n C dX4_init_15 rfl 1 rfl ?_
  obtain ⟨h3, eh3, hf⟩ := o_l hf
  refine V_putR C hin ff_X4_18 rfl (fun _ => ⟨rfl, rfl⟩) rfl (by decide) dX4_init_16 (V_eqH eh3 ?_)
  refine V_aload_n C dX4_init_19 rfl 0 rfl ?_
  refine V_aload_n C dX4_init_20 rfl 2 rfl ?_
  obtain ⟨h4, eh4, hf⟩ := o_l hf
  refine V_putR C hin ff_X4_22 rfl (fun _ => ⟨rfl, rfl⟩) rfl (by decide) dX4_init_21 (V_eqH eh4 ?_)
  have hf := Option.some.inj hf
  subst hf
  exact V_vret C hQ dX4_init_24
theorem ct_X4_init {h' : Hp} {h : Hp} {v0 : Nat} {v1 : Nat} {v2 : Nat} (hf : f_X4_init h v0 v1 v2 = some h') (l : Launch) (G : GT) : MC l G yX4_init cX4_init 3 none rmX4_init h [vR 4 (some v0), vR 6 (some v1), vR 5 (some v2)] none h' := MC_of (by decide) rfl (Nat.le_of_ble_eq_true rfl) rfl (fun X C hQ hin => p_X4_init C hin hQ hf)
abbrev rmX4_readNumber : Room := { frames := 2, cells := 0, slots := 0, locals := 42 }
def f_X4_readNumber_41 (N : Nat) (h : Hp) (v0 : Nat) (v1 : Int32) : Option (Int32 × Hp) := Option.bind (hP h v0 0) (fun q1 => Option.bind (f_X6_fail h q1 (1 : Int32)) (fun h2 => some ((v1, h2))))
set_option maxHeartbeats 4000000 in
set_option maxRecDepth 100000 in
theorem p_X4_readNumber_41 {X : XT} {r : Int32} {h' : Hp} (C : CX X cX4_readNumber "WaterStair$StairText" 4 (some .int) rmX4_readNumber) (hQ : QX X (some (vI r)) h' rmX4_readNumber.cells rmX4_readNumber.slots) {N : Nat}  {h : Hp} {v0 : Nat} {v1 : Int32} (hf : f_X4_readNumber_41 N h v0 v1 = some ((r, h'))) : V X 0 0 h 41 [(0, vR 4 (some v0)), (1, vI v1)] [] := by
  unfold f_X4_readNumber_41 at hf
  refine V_aload_n C dX4_readNumber_41 rfl 0 rfl ?_
  obtain ⟨q1, eq1, hf⟩ := o_b hf
  refine V_getR C fl_X4_18 rfl rfl (by decide) eq1 dX4_readNumber_42 ?_
  refine V_iconst (v := (1 : Int32)) C dX4_readNumber_45 (by decide) ?_
  obtain ⟨h2, eh2, hf⟩ := o_b hf
  refine V_callV (as := [vI (1 : Int32)]) (st := []) C ml_X4_47 fx6 (ct_X6_fail eh2) rfl ⟨by decide, by decide, by decide, by decide⟩ (Nat.le_of_ble_eq_true rfl) rfl dX4_readNumber_46 (cs' := 0) (sl' := 0) rfl rfl ?_
  refine V_iload_n C dX4_readNumber_49 rfl 1 rfl ?_
  obtain ⟨hf1, hf2⟩ := Prod.mk.inj (Option.some.inj hf)
  subst hf1
  subst hf2
  exact V_iret C hQ dX4_readNumber_50
def f_X4_readNumber (N : Nat) (h : Hp) (v0 : Nat) (v1 : Int32) (v2 : Int32) : Option (Int32 × Hp) := Option.bind (hP h v0 0) (fun q3 => if (hI h q3 2) = (257 : Int32) then (Option.bind (hP h v0 0) (fun q5 => if (hI h q5 3) < v1 then (f_X4_readNumber_41 N h v0 v1) else (if (hI h q5 3) ≤ v2 then (Option.bind (hP h v0 0) (fun q8 => Option.bind (f_X6_advance N h q8) (fun h9 => some ((hI h q5 3, h9))))) else (f_X4_readNumber_41 N h v0 v1)))) else (Option.bind (hP h v0 0) (fun q10 => Option.bind (f_X6_fail h q10 (0 : Int32)) (fun h11 => some ((v1, h11))))))
set_option maxHeartbeats 4000000 in
set_option maxRecDepth 100000 in
theorem p_X4_readNumber {X : XT} {r : Int32} {h' : Hp} (C : CX X cX4_readNumber "WaterStair$StairText" 4 (some .int) rmX4_readNumber) {N : Nat} {h : Hp} {v0 : Nat} {v1 : Int32} {v2 : Int32} (hQ : QX X (some (vI r)) h' rmX4_readNumber.cells rmX4_readNumber.slots) (hf : f_X4_readNumber N h v0 v1 v2 = some ((r, h'))) : V X 0 0 h 0 [(0, vR 4 (some v0)), (1, vI v1), (2, vI v2)] [] := by
  unfold f_X4_readNumber at hf
  refine V_aload_n C dX4_readNumber_0 rfl 0 rfl ?_
  obtain ⟨q3, eq3, hf⟩ := o_b hf
  refine V_getR C fl_X4_18 rfl rfl (by decide) eq3 dX4_readNumber_1 ?_
  refine V_getI C fl_X4_44 rfl dX4_readNumber_4 ?_
  refine V_sipush (v := (257 : Int32)) C dX4_readNumber_7 (by decide) ?_
  refine V_icmp_eq C 23 dX4_readNumber_10 (by decide) (fun c4 => ?_) (fun c4 => ?_)
  · have hf := i_t c4 hf
    refine V_aload_n C dX4_readNumber_23 rfl 0 rfl ?_
    obtain ⟨q5, eq5, hf⟩ := o_b hf
    refine V_getR C fl_X4_18 rfl rfl (by decide) eq5 dX4_readNumber_24 ?_
    refine V_getI C fl_X4_115 rfl dX4_readNumber_27 ?_
    refine V_istore_n (lv' := [(3, vI (hI h q5 3)), (0, vR 4 (some v0)), (1, vI v1), (2, vI v2)]) C dX4_readNumber_30 rfl (by decide) rfl ?_
    refine V_iload_n C dX4_readNumber_31 rfl 0 rfl ?_
    refine V_iload_n C dX4_readNumber_32 rfl 2 rfl ?_
    refine V_icmp_lt C 41 dX4_readNumber_33 (by decide) (fun c6 => ?_) (fun c6 => ?_)
    · have hf := i_t c6 hf
      refine V_sub (lv' := [(0, vR 4 (some v0)), (1, vI v1)]) [1, 2] rfl ?_
      exact p_X4_readNumber_41 C hQ hf
    · have hf := i_f c6 hf
      refine V_iload_n C dX4_readNumber_36 rfl 0 rfl ?_
      refine V_iload_n C dX4_readNumber_37 rfl 3 rfl ?_
      refine V_icmp_le C 51 dX4_readNumber_38 (by decide) (fun c7 => ?_) (fun c7 => ?_)
      · have hf := i_t c7 hf
        refine V_aload_n C dX4_readNumber_51 rfl 1 rfl ?_
        obtain ⟨q8, eq8, hf⟩ := o_b hf
        refine V_getR C fl_X4_18 rfl rfl (by decide) eq8 dX4_readNumber_52 ?_
        obtain ⟨h9, eh9, hf⟩ := o_b hf
        refine V_callV (as := []) (st := []) C ml_X4_51 fx6 (ct_X6_advance eh9) rfl ⟨by decide, by decide, by decide, by decide⟩ (Nat.le_of_ble_eq_true rfl) rfl dX4_readNumber_55 (cs' := 0) (sl' := 0) rfl rfl ?_
        refine V_iload_n C dX4_readNumber_58 rfl 0 rfl ?_
        obtain ⟨hf1, hf2⟩ := Prod.mk.inj (Option.some.inj hf)
        subst hf1
        subst hf2
        exact V_iret C hQ dX4_readNumber_59
      · have hf := i_f c7 hf
        refine V_sub (lv' := [(0, vR 4 (some v0)), (1, vI v1)]) [1, 2] rfl ?_
        exact p_X4_readNumber_41 C hQ hf
  · have hf := i_f c4 hf
    refine V_aload_n C dX4_readNumber_13 rfl 0 rfl ?_
    obtain ⟨q10, eq10, hf⟩ := o_b hf
    refine V_getR C fl_X4_18 rfl rfl (by decide) eq10 dX4_readNumber_14 ?_
    refine V_iconst (v := (0 : Int32)) C dX4_readNumber_17 (by decide) ?_
    obtain ⟨h11, eh11, hf⟩ := o_b hf
    refine V_callV (as := [vI (0 : Int32)]) (st := []) C ml_X4_47 fx6 (ct_X6_fail eh11) rfl ⟨by decide, by decide, by decide, by decide⟩ (Nat.le_of_ble_eq_true rfl) rfl dX4_readNumber_18 (cs' := 0) (sl' := 0) rfl rfl ?_
    refine V_iload_n C dX4_readNumber_21 rfl 1 rfl ?_
    obtain ⟨hf1, hf2⟩ := Prod.mk.inj (Option.some.inj hf)
    subst hf1
    subst hf2
    exact V_iret C hQ dX4_readNumber_22
theorem ct_X4_readNumber {r : Int32} {h' : Hp} {N : Nat} {h : Hp} {v0 : Nat} {v1 : Int32} {v2 : Int32} (hf : f_X4_readNumber N h v0 v1 v2 = some ((r, h'))) (l : Launch) (G : GT) : MC l G yX4_readNumber cX4_readNumber 4 (some .int) rmX4_readNumber h [vR 4 (some v0), vI v1, vI v2] (some (vI r)) h' := MC_of (by decide) rfl (Nat.le_of_ble_eq_true rfl) rfl (fun X C hQ hin => p_X4_readNumber C hQ hf)
abbrev rmX5_putAtBegin : Room := { frames := 1, cells := 0, slots := 0, locals := 21 }
def f_X5_putAtBegin_32 (h : Hp) (s2_ : Int32) (s1_ : Int32) (s0_ : Nat) : Option (Hp) := if 0 ≤ s1_ ∧ s1_.toNatClampNeg < hL h s0_ then (lt (sI h s0_ (s1_.toNatClampNeg) s2_) (fun h2 => some h2)) else none
set_option maxHeartbeats 4000000 in
set_option maxRecDepth 100000 in
theorem p_X5_putAtBegin_32 {X : XT} {h' : Hp} (C : CX X cX5_putAtBegin "WaterStair$State" 2 none rmX5_putAtBegin) (hQ : QX X none h' rmX5_putAtBegin.cells rmX5_putAtBegin.slots)  {h : Hp} {s2_ : Int32} {s1_ : Int32} {s0_ : Nat} (hf : f_X5_putAtBegin_32 h s2_ s1_ s0_ = some h') : V X 0 0 h 32 [] [vI s2_, vI s1_, vR 10 (some s0_)] := by
  unfold f_X5_putAtBegin_32 at hf
  obtain ⟨g1, hf⟩ := o_if hf
  obtain ⟨h2, eh2, hf⟩ := o_l hf
  refine V_iast C (vp_g g1) rfl dX5_putAtBegin_32 (V_eqH eh2 ?_)
  have hf := Option.some.inj hf
  subst hf
  exact V_vret C hQ dX5_putAtBegin_33
def f_X5_putAtBegin (h : Hp) (v0 : Nat) (v1 : Int32) : Option (Hp) := Option.bind (f_X5_hasBarge h v0 v1) (fun r3 => if r3 = 0 then (some h) else (Option.bind (hP h v0 12) (fun q5 => Option.bind (hP h v0 15) (fun q6 => if 0 ≤ v1 ∧ v1.toNatClampNeg < hL h q6 then (if hI h q6 (v1.toNatClampNeg) = 0 then (f_X5_putAtBegin_32 h (0 : Int32) v1 q5) else (f_X5_putAtBegin_32 h ((hI h v0 0) - (1 : Int32)) v1 q5)) else none))))
set_option maxHeartbeats 4000000 in
set_option maxRecDepth 100000 in
theorem p_X5_putAtBegin {X : XT} {h' : Hp} (C : CX X cX5_putAtBegin "WaterStair$State" 2 none rmX5_putAtBegin) {h : Hp} {v0 : Nat} {v1 : Int32} (hQ : QX X none h' rmX5_putAtBegin.cells rmX5_putAtBegin.slots) (hf : f_X5_putAtBegin h v0 v1 = some h') : V X 0 0 h 0 [(0, vR 5 (some v0)), (1, vI v1)] [] := by
  unfold f_X5_putAtBegin at hf
  refine V_aload_n C dX5_putAtBegin_0 rfl 0 rfl ?_
  refine V_iload_n C dX5_putAtBegin_1 rfl 1 rfl ?_
  obtain ⟨r3, er3, hf⟩ := o_b hf
  refine V_callV (as := [vI v1]) (st := []) C ml_X5_92 fx5 (ct_X5_hasBarge er3) rfl ⟨by decide, by decide, by decide, by decide⟩ (Nat.le_of_ble_eq_true rfl) rfl dX5_putAtBegin_2 (cs' := 0) (sl' := 0) rfl rfl ?_
  refine V_if_eq C 33 dX5_putAtBegin_5 (by decide) (fun c4 => ?_) (fun c4 => ?_)
  · have hf := i_t c4 hf
    have hf := Option.some.inj hf
    subst hf
    exact V_vret C hQ dX5_putAtBegin_33
  · have hf := i_f c4 hf
    refine V_aload_n C dX5_putAtBegin_8 rfl 0 rfl ?_
    obtain ⟨q5, eq5, hf⟩ := o_b hf
    refine V_getR C fl_X5_49 rfl rfl (by decide) eq5 dX5_putAtBegin_9 ?_
    refine V_iload_n C dX5_putAtBegin_12 rfl 1 rfl ?_
    refine V_aload_n C dX5_putAtBegin_13 rfl 0 rfl ?_
    obtain ⟨q6, eq6, hf⟩ := o_b hf
    refine V_getR C fl_X5_58 rfl rfl (by decide) eq6 dX5_putAtBegin_14 ?_
    refine V_iload_n C dX5_putAtBegin_17 rfl 1 rfl ?_
    obtain ⟨g7, hf⟩ := o_if hf
    refine V_iald C (vp_g g7) rfl dX5_putAtBegin_18 ?_
    refine V_if_ne C 26 dX5_putAtBegin_19 (by decide) (fun c8 => ?_) (fun c8 => ?_)
    · have hf := i_f c8 hf
      refine V_aload_n C dX5_putAtBegin_26 rfl 0 rfl ?_
      refine V_getI C fl_X5_9 rfl dX5_putAtBegin_27 ?_
      refine V_iconst (v := (1 : Int32)) C dX5_putAtBegin_30 (by decide) ?_
      refine V_isub C dX5_putAtBegin_31 ?_
      refine V_sub (lv' := []) [] rfl ?_
      exact p_X5_putAtBegin_32 C hQ hf
    · have hf := i_t c8 hf
      refine V_iconst (v := (0 : Int32)) C dX5_putAtBegin_22 (by decide) ?_
      refine V_goto C 32 dX5_putAtBegin_23 (by decide) ?_
      refine V_sub (lv' := []) [] rfl ?_
      exact p_X5_putAtBegin_32 C hQ hf
theorem ct_X5_putAtBegin {h' : Hp} {h : Hp} {v0 : Nat} {v1 : Int32} (hf : f_X5_putAtBegin h v0 v1 = some h') (l : Launch) (G : GT) : MC l G yX5_putAtBegin cX5_putAtBegin 2 none rmX5_putAtBegin h [vR 5 (some v0), vI v1] none h' := MC_of (by decide) rfl (Nat.le_of_ble_eq_true rfl) rfl (fun X C hQ hin => p_X5_putAtBegin C hQ hf)
abbrev rmX4_readBarge : Room := { frames := 3, cells := 0, slots := 0, locals := 65 }
def f_X4_readBarge (N : Nat) (h : Hp) (v0 : Nat) (v1 : Int32) : Option (Hp) := if v1 = 0 then (Option.bind (hP h v0 0) (fun q33 => Option.bind (f_X6_fail h q33 (4 : Int32)) (fun h34 => some h34))) else (Option.bind (hP h v0 0) (fun q2 => Option.bind (f_X6_advance N h q2) (fun h3 => Option.bind (hP h3 v0 1) (fun q4 => Option.bind (hP h3 v0 1) (fun q5 => Option.bind (hP h3 q5 13) (fun q6 => b2 (f_X4_readNumber N h3 v0 (1 : Int32) (99 : Int32)) (fun r7 h8 => if 0 ≤ hI h3 q4 1 ∧ (hI h3 q4 1).toNatClampNeg < hL h8 q6 then (lt (sI h8 q6 ((hI h3 q4 1).toNatClampNeg) r7) (fun h10 => Option.bind (hP h10 v0 1) (fun q11 => Option.bind (hP h10 q11 14) (fun q12 => b2 (f_X4_readNumber N h10 v0 (0 : Int32) (1 : Int32)) (fun r13 h14 => if 0 ≤ hI h3 q4 1 ∧ (hI h3 q4 1).toNatClampNeg < hL h14 q12 then (lt (sI h14 q12 ((hI h3 q4 1).toNatClampNeg) r13) (fun h16 => Option.bind (hP h16 v0 1) (fun q17 => Option.bind (hP h16 q17 15) (fun q18 => b2 (f_X4_readNumber N h16 v0 (0 : Int32) (1 : Int32)) (fun r19 h20 => if 0 ≤ hI h3 q4 1 ∧ (hI h3 q4 1).toNatClampNeg < hL h20 q18 then (lt (sI h20 q18 ((hI h3 q4 1).toNatClampNeg) r19) (fun h22 => Option.bind (hP h22 v0 1) (fun q23 => Option.bind (hP h22 q23 16) (fun q24 => b2 (f_X4_readNumber N h22 v0 (0 : Int32) (999 : Int32)) (fun r25 h26 => if 0 ≤ hI h3 q4 1 ∧ (hI h3 q4 1).toNatClampNeg < hL h26 q24 then (lt (sI h26 q24 ((hI h3 q4 1).toNatClampNeg) r25) (fun h28 => Option.bind (hP h28 v0 1) (fun q29 => lt (sI h28 q29 1 ((hI h28 q29 1) + (1 : Int32))) (fun h30 => Option.bind (hP h30 v0 1) (fun q31 => Option.bind (f_X5_putAtBegin h30 q31 (hI h3 q4 1)) (fun h32 => some h32)))))) else none))))) else none))))) else none))))) else none)))))))
set_option maxHeartbeats 4000000 in
set_option maxRecDepth 100000 in
theorem p_X4_readBarge {X : XT} {h' : Hp} (C : CX X cX4_readBarge "WaterStair$StairText" 3 none rmX4_readBarge) {N : Nat} {h : Hp} {v0 : Nat} {v1 : Int32} (hQ : QX X none h' rmX4_readBarge.cells rmX4_readBarge.slots) (hf : f_X4_readBarge N h v0 v1 = some h') : V X 0 0 h 0 [(0, vR 4 (some v0)), (1, vI v1)] [] := by
  unfold f_X4_readBarge at hf
  refine V_iload_n C dX4_readBarge_0 rfl 1 rfl ?_
  refine V_if_ne C 13 dX4_readBarge_1 (by decide) (fun c1 => ?_) (fun c1 => ?_)
  · have hf := i_f c1 hf
    refine V_aload_n C dX4_readBarge_13 rfl 0 rfl ?_
    obtain ⟨q2, eq2, hf⟩ := o_b hf
    refine V_getR C fl_X4_18 rfl rfl (by decide) eq2 dX4_readBarge_14 ?_
    obtain ⟨h3, eh3, hf⟩ := o_b hf
    refine V_callV (as := []) (st := []) C ml_X4_51 fx6 (ct_X6_advance eh3) rfl ⟨by decide, by decide, by decide, by decide⟩ (Nat.le_of_ble_eq_true rfl) rfl dX4_readBarge_17 (cs' := 0) (sl' := 0) rfl rfl ?_
    refine V_aload_n C dX4_readBarge_20 rfl 0 rfl ?_
    obtain ⟨q4, eq4, hf⟩ := o_b hf
    refine V_getR C fl_X4_22 rfl rfl (by decide) eq4 dX4_readBarge_21 ?_
    refine V_getI C fl_X4_63 rfl dX4_readBarge_24 ?_
    refine V_istore_n (lv' := [(2, vI (hI h3 q4 1)), (0, vR 4 (some v0)), (1, vI v1)]) C dX4_readBarge_27 rfl (by decide) rfl ?_
    refine V_aload_n C dX4_readBarge_28 rfl 1 rfl ?_
    obtain ⟨q5, eq5, hf⟩ := o_b hf
    refine V_getR C fl_X4_22 rfl rfl (by decide) eq5 dX4_readBarge_29 ?_
    obtain ⟨q6, eq6, hf⟩ := o_b hf
    refine V_getR C fl_X4_97 rfl rfl (by decide) eq6 dX4_readBarge_32 ?_
    refine V_iload_n C dX4_readBarge_35 rfl 0 rfl ?_
    refine V_aload_n C dX4_readBarge_36 rfl 1 rfl ?_
    refine V_iconst (v := (1 : Int32)) C dX4_readBarge_37 (by decide) ?_
    refine V_bipush (v := (99 : Int32)) C dX4_readBarge_38 (by decide) ?_
    obtain ⟨r7, h8, er7, hf⟩ := o_b2 hf
    refine V_callV (as := [vI (1 : Int32), vI (99 : Int32)]) (st := [vI (hI h3 q4 1), vR 10 (some q6)]) C ml_X4_88 fx4 (ct_X4_readNumber er7) rfl ⟨by decide, by decide, by decide, by decide⟩ (Nat.le_of_ble_eq_true rfl) rfl dX4_readBarge_40 (cs' := 0) (sl' := 0) rfl rfl ?_
    obtain ⟨g9, hf⟩ := o_if hf
    obtain ⟨h10, eh10, hf⟩ := o_l hf
    refine V_iast C (vp_g g9) rfl dX4_readBarge_43 (V_eqH eh10 ?_)
    refine V_aload_n C dX4_readBarge_44 rfl 1 rfl ?_
    obtain ⟨q11, eq11, hf⟩ := o_b hf
    refine V_getR C fl_X4_22 rfl rfl (by decide) eq11 dX4_readBarge_45 ?_
    obtain ⟨q12, eq12, hf⟩ := o_b hf
    refine V_getR C fl_X4_100 rfl rfl (by decide) eq12 dX4_readBarge_48 ?_
    refine V_iload_n C dX4_readBarge_51 rfl 0 rfl ?_
    refine V_aload_n C dX4_readBarge_52 rfl 1 rfl ?_
    refine V_iconst (v := (0 : Int32)) C dX4_readBarge_53 (by decide) ?_
    refine V_iconst (v := (1 : Int32)) C dX4_readBarge_54 (by decide) ?_
    obtain ⟨r13, h14, er13, hf⟩ := o_b2 hf
    refine V_callV (as := [vI (0 : Int32), vI (1 : Int32)]) (st := [vI (hI h3 q4 1), vR 10 (some q12)]) C ml_X4_88 fx4 (ct_X4_readNumber er13) rfl ⟨by decide, by decide, by decide, by decide⟩ (Nat.le_of_ble_eq_true rfl) rfl dX4_readBarge_55 (cs' := 0) (sl' := 0) rfl rfl ?_
    obtain ⟨g15, hf⟩ := o_if hf
    obtain ⟨h16, eh16, hf⟩ := o_l hf
    refine V_iast C (vp_g g15) rfl dX4_readBarge_58 (V_eqH eh16 ?_)
    refine V_aload_n C dX4_readBarge_59 rfl 1 rfl ?_
    obtain ⟨q17, eq17, hf⟩ := o_b hf
    refine V_getR C fl_X4_22 rfl rfl (by decide) eq17 dX4_readBarge_60 ?_
    obtain ⟨q18, eq18, hf⟩ := o_b hf
    refine V_getR C fl_X4_103 rfl rfl (by decide) eq18 dX4_readBarge_63 ?_
    refine V_iload_n C dX4_readBarge_66 rfl 0 rfl ?_
    refine V_aload_n C dX4_readBarge_67 rfl 1 rfl ?_
    refine V_iconst (v := (0 : Int32)) C dX4_readBarge_68 (by decide) ?_
    refine V_iconst (v := (1 : Int32)) C dX4_readBarge_69 (by decide) ?_
    obtain ⟨r19, h20, er19, hf⟩ := o_b2 hf
    refine V_callV (as := [vI (0 : Int32), vI (1 : Int32)]) (st := [vI (hI h3 q4 1), vR 10 (some q18)]) C ml_X4_88 fx4 (ct_X4_readNumber er19) rfl ⟨by decide, by decide, by decide, by decide⟩ (Nat.le_of_ble_eq_true rfl) rfl dX4_readBarge_70 (cs' := 0) (sl' := 0) rfl rfl ?_
    obtain ⟨g21, hf⟩ := o_if hf
    obtain ⟨h22, eh22, hf⟩ := o_l hf
    refine V_iast C (vp_g g21) rfl dX4_readBarge_73 (V_eqH eh22 ?_)
    refine V_aload_n C dX4_readBarge_74 rfl 1 rfl ?_
    obtain ⟨q23, eq23, hf⟩ := o_b hf
    refine V_getR C fl_X4_22 rfl rfl (by decide) eq23 dX4_readBarge_75 ?_
    obtain ⟨q24, eq24, hf⟩ := o_b hf
    refine V_getR C fl_X4_106 rfl rfl (by decide) eq24 dX4_readBarge_78 ?_
    refine V_iload_n C dX4_readBarge_81 rfl 0 rfl ?_
    refine V_aload_n C dX4_readBarge_82 rfl 1 rfl ?_
    refine V_iconst (v := (0 : Int32)) C dX4_readBarge_83 (by decide) ?_
    refine V_sipush (v := (999 : Int32)) C dX4_readBarge_84 (by decide) ?_
    obtain ⟨r25, h26, er25, hf⟩ := o_b2 hf
    refine V_callV (as := [vI (0 : Int32), vI (999 : Int32)]) (st := [vI (hI h3 q4 1), vR 10 (some q24)]) C ml_X4_88 fx4 (ct_X4_readNumber er25) rfl ⟨by decide, by decide, by decide, by decide⟩ (Nat.le_of_ble_eq_true rfl) rfl dX4_readBarge_87 (cs' := 0) (sl' := 0) rfl rfl ?_
    obtain ⟨g27, hf⟩ := o_if hf
    obtain ⟨h28, eh28, hf⟩ := o_l hf
    refine V_iast C (vp_g g27) rfl dX4_readBarge_90 (V_eqH eh28 ?_)
    refine V_aload_n C dX4_readBarge_91 rfl 1 rfl ?_
    obtain ⟨q29, eq29, hf⟩ := o_b hf
    refine V_getR C fl_X4_22 rfl rfl (by decide) eq29 dX4_readBarge_92 ?_
    refine V_dup C dX4_readBarge_95 rfl ?_
    refine V_getI C fl_X4_63 rfl dX4_readBarge_96 ?_
    refine V_iconst (v := (1 : Int32)) C dX4_readBarge_99 (by decide) ?_
    refine V_iadd C dX4_readBarge_100 ?_
    obtain ⟨h30, eh30, hf⟩ := o_l hf
    refine V_putI C nf_X4_63 rfl (okI_int _) dX4_readBarge_101 (V_eqH eh30 ?_)
    refine V_aload_n C dX4_readBarge_104 rfl 1 rfl ?_
    obtain ⟨q31, eq31, hf⟩ := o_b hf
    refine V_getR C fl_X4_22 rfl rfl (by decide) eq31 dX4_readBarge_105 ?_
    refine V_iload_n C dX4_readBarge_108 rfl 0 rfl ?_
    obtain ⟨h32, eh32, hf⟩ := o_b hf
    refine V_callV (as := [vI (hI h3 q4 1)]) (st := []) C ml_X4_109 fx5 (ct_X5_putAtBegin eh32) rfl ⟨by decide, by decide, by decide, by decide⟩ (Nat.le_of_ble_eq_true rfl) rfl dX4_readBarge_109 (cs' := 0) (sl' := 0) rfl rfl ?_
    have hf := Option.some.inj hf
    subst hf
    exact V_vret C hQ dX4_readBarge_112
  · have hf := i_t c1 hf
    refine V_aload_n C dX4_readBarge_4 rfl 0 rfl ?_
    obtain ⟨q33, eq33, hf⟩ := o_b hf
    refine V_getR C fl_X4_18 rfl rfl (by decide) eq33 dX4_readBarge_5 ?_
    refine V_iconst (v := (4 : Int32)) C dX4_readBarge_8 (by decide) ?_
    obtain ⟨h34, eh34, hf⟩ := o_b hf
    refine V_callV (as := [vI (4 : Int32)]) (st := []) C ml_X4_47 fx6 (ct_X6_fail eh34) rfl ⟨by decide, by decide, by decide, by decide⟩ (Nat.le_of_ble_eq_true rfl) rfl dX4_readBarge_9 (cs' := 0) (sl' := 0) rfl rfl ?_
    have hf := Option.some.inj hf
    subst hf
    exact V_vret C hQ dX4_readBarge_12
theorem ct_X4_readBarge {h' : Hp} {N : Nat} {h : Hp} {v0 : Nat} {v1 : Int32} (hf : f_X4_readBarge N h v0 v1 = some h') (l : Launch) (G : GT) : MC l G yX4_readBarge cX4_readBarge 3 none rmX4_readBarge h [vR 4 (some v0), vI v1] none h' := MC_of (by decide) rfl (Nat.le_of_ble_eq_true rfl) rfl (fun X C hQ hin => p_X4_readBarge C hQ hf)
abbrev rmX4_readBroken : Room := { frames := 3, cells := 0, slots := 0, locals := 65 }
def f_X4_readBroken (N : Nat) (h : Hp) (v0 : Nat) (v1 : Int32) : Option (Hp) := if v1 = 0 then (Option.bind (hP h v0 0) (fun q12 => Option.bind (f_X6_fail h q12 (4 : Int32)) (fun h13 => some h13))) else (Option.bind (hP h v0 0) (fun q2 => Option.bind (f_X6_advance N h q2) (fun h3 => lt (sI h3 v0 3 (1 : Int32)) (fun h4 => Option.bind (hP h4 v0 1) (fun q5 => b2 (f_X4_readNumber N h4 v0 (0 : Int32) ((hI h4 q5 0) - (2 : Int32))) (fun r6 h7 => Option.bind (hP h7 v0 1) (fun q8 => Option.bind (hP h7 q8 10) (fun q9 => if 0 ≤ r6 ∧ r6.toNatClampNeg < hL h7 q9 then (lt (sI h7 q9 (r6.toNatClampNeg) (0 : Int32)) (fun h11 => some h11)) else none))))))))
set_option maxHeartbeats 4000000 in
set_option maxRecDepth 100000 in
theorem p_X4_readBroken {X : XT} {h' : Hp} (C : CX X cX4_readBroken "WaterStair$StairText" 3 none rmX4_readBroken) {N : Nat} {h : Hp} {v0 : Nat} {v1 : Int32} (hQ : QX X none h' rmX4_readBroken.cells rmX4_readBroken.slots) (hf : f_X4_readBroken N h v0 v1 = some h') : V X 0 0 h 0 [(0, vR 4 (some v0)), (1, vI v1)] [] := by
  unfold f_X4_readBroken at hf
  refine V_iload_n C dX4_readBroken_0 rfl 1 rfl ?_
  refine V_if_ne C 13 dX4_readBroken_1 (by decide) (fun c1 => ?_) (fun c1 => ?_)
  · have hf := i_f c1 hf
    refine V_aload_n C dX4_readBroken_13 rfl 0 rfl ?_
    obtain ⟨q2, eq2, hf⟩ := o_b hf
    refine V_getR C fl_X4_18 rfl rfl (by decide) eq2 dX4_readBroken_14 ?_
    obtain ⟨h3, eh3, hf⟩ := o_b hf
    refine V_callV (as := []) (st := []) C ml_X4_51 fx6 (ct_X6_advance eh3) rfl ⟨by decide, by decide, by decide, by decide⟩ (Nat.le_of_ble_eq_true rfl) rfl dX4_readBroken_17 (cs' := 0) (sl' := 0) rfl rfl ?_
    refine V_aload_n C dX4_readBroken_20 rfl 0 rfl ?_
    refine V_iconst (v := (1 : Int32)) C dX4_readBroken_21 (by decide) ?_
    obtain ⟨h4, eh4, hf⟩ := o_l hf
    refine V_putI C nf_X4_15 rfl (okI_z (Or.inr rfl)) dX4_readBroken_22 (V_eqH eh4 ?_)
    refine V_aload_n C dX4_readBroken_25 rfl 0 rfl ?_
    refine V_iconst (v := (0 : Int32)) C dX4_readBroken_26 (by decide) ?_
    refine V_aload_n C dX4_readBroken_27 rfl 0 rfl ?_
    obtain ⟨q5, eq5, hf⟩ := o_b hf
    refine V_getR C fl_X4_22 rfl rfl (by decide) eq5 dX4_readBroken_28 ?_
    refine V_getI C fl_X4_54 rfl dX4_readBroken_31 ?_
    refine V_iconst (v := (2 : Int32)) C dX4_readBroken_34 (by decide) ?_
    refine V_isub C dX4_readBroken_35 ?_
    obtain ⟨r6, h7, er6, hf⟩ := o_b2 hf
    refine V_callV (as := [vI (0 : Int32), vI ((hI h4 q5 0) - (2 : Int32))]) (st := []) C ml_X4_88 fx4 (ct_X4_readNumber er6) rfl ⟨by decide, by decide, by decide, by decide⟩ (Nat.le_of_ble_eq_true rfl) rfl dX4_readBroken_36 (cs' := 0) (sl' := 0) rfl rfl ?_
    refine V_istore_n (lv' := [(2, vI r6), (0, vR 4 (some v0)), (1, vI v1)]) C dX4_readBroken_39 rfl (by decide) rfl ?_
    refine V_aload_n C dX4_readBroken_40 rfl 1 rfl ?_
    obtain ⟨q8, eq8, hf⟩ := o_b hf
    refine V_getR C fl_X4_22 rfl rfl (by decide) eq8 dX4_readBroken_41 ?_
    obtain ⟨q9, eq9, hf⟩ := o_b hf
    refine V_getR C fl_X4_112 rfl rfl (by decide) eq9 dX4_readBroken_44 ?_
    refine V_iload_n C dX4_readBroken_47 rfl 0 rfl ?_
    refine V_iconst (v := (0 : Int32)) C dX4_readBroken_48 (by decide) ?_
    obtain ⟨g10, hf⟩ := o_if hf
    obtain ⟨h11, eh11, hf⟩ := o_l hf
    refine V_iast C (vp_g g10) rfl dX4_readBroken_49 (V_eqH eh11 ?_)
    have hf := Option.some.inj hf
    subst hf
    exact V_vret C hQ dX4_readBroken_50
  · have hf := i_t c1 hf
    refine V_aload_n C dX4_readBroken_4 rfl 0 rfl ?_
    obtain ⟨q12, eq12, hf⟩ := o_b hf
    refine V_getR C fl_X4_18 rfl rfl (by decide) eq12 dX4_readBroken_5 ?_
    refine V_iconst (v := (4 : Int32)) C dX4_readBroken_8 (by decide) ?_
    obtain ⟨h13, eh13, hf⟩ := o_b hf
    refine V_callV (as := [vI (4 : Int32)]) (st := []) C ml_X4_47 fx6 (ct_X6_fail eh13) rfl ⟨by decide, by decide, by decide, by decide⟩ (Nat.le_of_ble_eq_true rfl) rfl dX4_readBroken_9 (cs' := 0) (sl' := 0) rfl rfl ?_
    have hf := Option.some.inj hf
    subst hf
    exact V_vret C hQ dX4_readBroken_12
theorem ct_X4_readBroken {h' : Hp} {N : Nat} {h : Hp} {v0 : Nat} {v1 : Int32} (hf : f_X4_readBroken N h v0 v1 = some h') (l : Launch) (G : GT) : MC l G yX4_readBroken cX4_readBroken 3 none rmX4_readBroken h [vR 4 (some v0), vI v1] none h' := MC_of (by decide) rfl (Nat.le_of_ble_eq_true rfl) rfl (fun X C hQ hin => p_X4_readBroken C hQ hf)
abbrev rmX4_readLag : Room := { frames := 3, cells := 0, slots := 0, locals := 65 }
def f_X4_readLag (N : Nat) (h : Hp) (v0 : Nat) (v1 : Int32) : Option (Hp) := if v1 = 0 then (Option.bind (hP h v0 0) (fun q9 => Option.bind (f_X6_fail h q9 (4 : Int32)) (fun h10 => some h10))) else (Option.bind (hP h v0 0) (fun q2 => Option.bind (f_X6_advance N h q2) (fun h3 => lt (sI h3 v0 2 (1 : Int32)) (fun h4 => Option.bind (hP h4 v0 1) (fun q5 => b2 (f_X4_readNumber N h4 v0 (0 : Int32) (20 : Int32)) (fun r6 h7 => lt (sI h7 q5 2 r6) (fun h8 => some h8)))))))
set_option maxHeartbeats 4000000 in
set_option maxRecDepth 100000 in
theorem p_X4_readLag {X : XT} {h' : Hp} (C : CX X cX4_readLag "WaterStair$StairText" 2 none rmX4_readLag) {N : Nat} {h : Hp} {v0 : Nat} {v1 : Int32} (hQ : QX X none h' rmX4_readLag.cells rmX4_readLag.slots) (hf : f_X4_readLag N h v0 v1 = some h') : V X 0 0 h 0 [(0, vR 4 (some v0)), (1, vI v1)] [] := by
  unfold f_X4_readLag at hf
  refine V_iload_n C dX4_readLag_0 rfl 1 rfl ?_
  refine V_if_ne C 13 dX4_readLag_1 (by decide) (fun c1 => ?_) (fun c1 => ?_)
  · have hf := i_f c1 hf
    refine V_aload_n C dX4_readLag_13 rfl 0 rfl ?_
    obtain ⟨q2, eq2, hf⟩ := o_b hf
    refine V_getR C fl_X4_18 rfl rfl (by decide) eq2 dX4_readLag_14 ?_
    obtain ⟨h3, eh3, hf⟩ := o_b hf
    refine V_callV (as := []) (st := []) C ml_X4_51 fx6 (ct_X6_advance eh3) rfl ⟨by decide, by decide, by decide, by decide⟩ (Nat.le_of_ble_eq_true rfl) rfl dX4_readLag_17 (cs' := 0) (sl' := 0) rfl rfl ?_
    refine V_aload_n C dX4_readLag_20 rfl 0 rfl ?_
    refine V_iconst (v := (1 : Int32)) C dX4_readLag_21 (by decide) ?_
    obtain ⟨h4, eh4, hf⟩ := o_l hf
    refine V_putI C nf_X4_9 rfl (okI_z (Or.inr rfl)) dX4_readLag_22 (V_eqH eh4 ?_)
    refine V_aload_n C dX4_readLag_25 rfl 0 rfl ?_
    obtain ⟨q5, eq5, hf⟩ := o_b hf
    refine V_getR C fl_X4_22 rfl rfl (by decide) eq5 dX4_readLag_26 ?_
    refine V_aload_n C dX4_readLag_29 rfl 0 rfl ?_
    refine V_iconst (v := (0 : Int32)) C dX4_readLag_30 (by decide) ?_
    refine V_bipush (v := (20 : Int32)) C dX4_readLag_31 (by decide) ?_
    obtain ⟨r6, h7, er6, hf⟩ := o_b2 hf
    refine V_callV (as := [vI (0 : Int32), vI (20 : Int32)]) (st := [vR 5 (some q5)]) C ml_X4_88 fx4 (ct_X4_readNumber er6) rfl ⟨by decide, by decide, by decide, by decide⟩ (Nat.le_of_ble_eq_true rfl) rfl dX4_readLag_33 (cs' := 0) (sl' := 0) rfl rfl ?_
    obtain ⟨h8, eh8, hf⟩ := o_l hf
    refine V_putI C nf_X4_95 rfl (okI_int _) dX4_readLag_36 (V_eqH eh8 ?_)
    have hf := Option.some.inj hf
    subst hf
    exact V_vret C hQ dX4_readLag_39
  · have hf := i_t c1 hf
    refine V_aload_n C dX4_readLag_4 rfl 0 rfl ?_
    obtain ⟨q9, eq9, hf⟩ := o_b hf
    refine V_getR C fl_X4_18 rfl rfl (by decide) eq9 dX4_readLag_5 ?_
    refine V_iconst (v := (4 : Int32)) C dX4_readLag_8 (by decide) ?_
    obtain ⟨h10, eh10, hf⟩ := o_b hf
    refine V_callV (as := [vI (4 : Int32)]) (st := []) C ml_X4_47 fx6 (ct_X6_fail eh10) rfl ⟨by decide, by decide, by decide, by decide⟩ (Nat.le_of_ble_eq_true rfl) rfl dX4_readLag_9 (cs' := 0) (sl' := 0) rfl rfl ?_
    have hf := Option.some.inj hf
    subst hf
    exact V_vret C hQ dX4_readLag_12
theorem ct_X4_readLag {h' : Hp} {N : Nat} {h : Hp} {v0 : Nat} {v1 : Int32} (hf : f_X4_readLag N h v0 v1 = some h') (l : Launch) (G : GT) : MC l G yX4_readLag cX4_readLag 2 none rmX4_readLag h [vR 4 (some v0), vI v1] none h' := MC_of (by decide) rfl (Nat.le_of_ble_eq_true rfl) rfl (fun X C hQ hin => p_X4_readLag C hQ hf)
abbrev rmX4_readLevel : Room := { frames := 3, cells := 0, slots := 0, locals := 65 }
def f_X4_readLevel (N : Nat) (h : Hp) (v0 : Nat) (v1 : Int32) : Option (Hp) := if v1 = 0 then (Option.bind (hP h v0 0) (fun q20 => Option.bind (f_X6_fail h q20 (4 : Int32)) (fun h21 => some h21))) else (Option.bind (hP h v0 0) (fun q2 => Option.bind (f_X6_advance N h q2) (fun h3 => Option.bind (hP h3 v0 1) (fun q4 => Option.bind (hP h3 q4 8) (fun q5 => Option.bind (hP h3 v0 1) (fun q6 => b2 (f_X4_readNumber N h3 v0 (0 : Int32) (999 : Int32)) (fun r7 h8 => if 0 ≤ hI h3 q6 0 ∧ (hI h3 q6 0).toNatClampNeg < hL h8 q5 then (lt (sI h8 q5 ((hI h3 q6 0).toNatClampNeg) r7) (fun h10 => Option.bind (hP h10 v0 1) (fun q11 => Option.bind (hP h10 q11 9) (fun q12 => Option.bind (hP h10 v0 1) (fun q13 => b2 (f_X4_readNumber N h10 v0 (1 : Int32) (8 : Int32)) (fun r14 h15 => if 0 ≤ hI h10 q13 0 ∧ (hI h10 q13 0).toNatClampNeg < hL h15 q12 then (lt (sI h15 q12 ((hI h10 q13 0).toNatClampNeg) r14) (fun h17 => Option.bind (hP h17 v0 1) (fun q18 => lt (sI h17 q18 0 ((hI h17 q18 0) + (1 : Int32))) (fun h19 => some h19)))) else none)))))) else none)))))))
set_option maxHeartbeats 4000000 in
set_option maxRecDepth 100000 in
theorem p_X4_readLevel {X : XT} {h' : Hp} (C : CX X cX4_readLevel "WaterStair$StairText" 2 none rmX4_readLevel) {N : Nat} {h : Hp} {v0 : Nat} {v1 : Int32} (hQ : QX X none h' rmX4_readLevel.cells rmX4_readLevel.slots) (hf : f_X4_readLevel N h v0 v1 = some h') : V X 0 0 h 0 [(0, vR 4 (some v0)), (1, vI v1)] [] := by
  unfold f_X4_readLevel at hf
  refine V_iload_n C dX4_readLevel_0 rfl 1 rfl ?_
  refine V_if_ne C 13 dX4_readLevel_1 (by decide) (fun c1 => ?_) (fun c1 => ?_)
  · have hf := i_f c1 hf
    refine V_aload_n C dX4_readLevel_13 rfl 0 rfl ?_
    obtain ⟨q2, eq2, hf⟩ := o_b hf
    refine V_getR C fl_X4_18 rfl rfl (by decide) eq2 dX4_readLevel_14 ?_
    obtain ⟨h3, eh3, hf⟩ := o_b hf
    refine V_callV (as := []) (st := []) C ml_X4_51 fx6 (ct_X6_advance eh3) rfl ⟨by decide, by decide, by decide, by decide⟩ (Nat.le_of_ble_eq_true rfl) rfl dX4_readLevel_17 (cs' := 0) (sl' := 0) rfl rfl ?_
    refine V_aload_n C dX4_readLevel_20 rfl 0 rfl ?_
    obtain ⟨q4, eq4, hf⟩ := o_b hf
    refine V_getR C fl_X4_22 rfl rfl (by decide) eq4 dX4_readLevel_21 ?_
    obtain ⟨q5, eq5, hf⟩ := o_b hf
    refine V_getR C fl_X4_84 rfl rfl (by decide) eq5 dX4_readLevel_24 ?_
    refine V_aload_n C dX4_readLevel_27 rfl 0 rfl ?_
    obtain ⟨q6, eq6, hf⟩ := o_b hf
    refine V_getR C fl_X4_22 rfl rfl (by decide) eq6 dX4_readLevel_28 ?_
    refine V_getI C fl_X4_54 rfl dX4_readLevel_31 ?_
    refine V_aload_n C dX4_readLevel_34 rfl 0 rfl ?_
    refine V_iconst (v := (0 : Int32)) C dX4_readLevel_35 (by decide) ?_
    refine V_sipush (v := (999 : Int32)) C dX4_readLevel_36 (by decide) ?_
    obtain ⟨r7, h8, er7, hf⟩ := o_b2 hf
    refine V_callV (as := [vI (0 : Int32), vI (999 : Int32)]) (st := [vI (hI h3 q6 0), vR 10 (some q5)]) C ml_X4_88 fx4 (ct_X4_readNumber er7) rfl ⟨by decide, by decide, by decide, by decide⟩ (Nat.le_of_ble_eq_true rfl) rfl dX4_readLevel_39 (cs' := 0) (sl' := 0) rfl rfl ?_
    obtain ⟨g9, hf⟩ := o_if hf
    obtain ⟨h10, eh10, hf⟩ := o_l hf
    refine V_iast C (vp_g g9) rfl dX4_readLevel_42 (V_eqH eh10 ?_)
    refine V_aload_n C dX4_readLevel_43 rfl 0 rfl ?_
    obtain ⟨q11, eq11, hf⟩ := o_b hf
    refine V_getR C fl_X4_22 rfl rfl (by decide) eq11 dX4_readLevel_44 ?_
    obtain ⟨q12, eq12, hf⟩ := o_b hf
    refine V_getR C fl_X4_92 rfl rfl (by decide) eq12 dX4_readLevel_47 ?_
    refine V_aload_n C dX4_readLevel_50 rfl 0 rfl ?_
    obtain ⟨q13, eq13, hf⟩ := o_b hf
    refine V_getR C fl_X4_22 rfl rfl (by decide) eq13 dX4_readLevel_51 ?_
    refine V_getI C fl_X4_54 rfl dX4_readLevel_54 ?_
    refine V_aload_n C dX4_readLevel_57 rfl 0 rfl ?_
    refine V_iconst (v := (1 : Int32)) C dX4_readLevel_58 (by decide) ?_
    refine V_bipush (v := (8 : Int32)) C dX4_readLevel_59 (by decide) ?_
    obtain ⟨r14, h15, er14, hf⟩ := o_b2 hf
    refine V_callV (as := [vI (1 : Int32), vI (8 : Int32)]) (st := [vI (hI h10 q13 0), vR 10 (some q12)]) C ml_X4_88 fx4 (ct_X4_readNumber er14) rfl ⟨by decide, by decide, by decide, by decide⟩ (Nat.le_of_ble_eq_true rfl) rfl dX4_readLevel_61 (cs' := 0) (sl' := 0) rfl rfl ?_
    obtain ⟨g16, hf⟩ := o_if hf
    obtain ⟨h17, eh17, hf⟩ := o_l hf
    refine V_iast C (vp_g g16) rfl dX4_readLevel_64 (V_eqH eh17 ?_)
    refine V_aload_n C dX4_readLevel_65 rfl 0 rfl ?_
    obtain ⟨q18, eq18, hf⟩ := o_b hf
    refine V_getR C fl_X4_22 rfl rfl (by decide) eq18 dX4_readLevel_66 ?_
    refine V_dup C dX4_readLevel_69 rfl ?_
    refine V_getI C fl_X4_54 rfl dX4_readLevel_70 ?_
    refine V_iconst (v := (1 : Int32)) C dX4_readLevel_73 (by decide) ?_
    refine V_iadd C dX4_readLevel_74 ?_
    obtain ⟨h19, eh19, hf⟩ := o_l hf
    refine V_putI C nf_X4_54 rfl (okI_int _) dX4_readLevel_75 (V_eqH eh19 ?_)
    have hf := Option.some.inj hf
    subst hf
    exact V_vret C hQ dX4_readLevel_78
  · have hf := i_t c1 hf
    refine V_aload_n C dX4_readLevel_4 rfl 0 rfl ?_
    obtain ⟨q20, eq20, hf⟩ := o_b hf
    refine V_getR C fl_X4_18 rfl rfl (by decide) eq20 dX4_readLevel_5 ?_
    refine V_iconst (v := (4 : Int32)) C dX4_readLevel_8 (by decide) ?_
    obtain ⟨h21, eh21, hf⟩ := o_b hf
    refine V_callV (as := [vI (4 : Int32)]) (st := []) C ml_X4_47 fx6 (ct_X6_fail eh21) rfl ⟨by decide, by decide, by decide, by decide⟩ (Nat.le_of_ble_eq_true rfl) rfl dX4_readLevel_9 (cs' := 0) (sl' := 0) rfl rfl ?_
    have hf := Option.some.inj hf
    subst hf
    exact V_vret C hQ dX4_readLevel_12
theorem ct_X4_readLevel {h' : Hp} {N : Nat} {h : Hp} {v0 : Nat} {v1 : Int32} (hf : f_X4_readLevel N h v0 v1 = some h') (l : Launch) (G : GT) : MC l G yX4_readLevel cX4_readLevel 2 none rmX4_readLevel h [vR 4 (some v0), vI v1] none h' := MC_of (by decide) rfl (Nat.le_of_ble_eq_true rfl) rfl (fun X C hQ hin => p_X4_readLevel C hQ hf)
abbrev rmX4_readClause : Room := { frames := 6, cells := 0, slots := 0, locals := 131 }
def f_X4_readClause_78 (N : Nat) (h : Hp) (s1_ : Int32) (s0_ : Nat) : Option (Hp) := Option.bind (f_X4_readLevel N h s0_ s1_) (fun h1 => some h1)
set_option maxHeartbeats 4000000 in
set_option maxRecDepth 100000 in
theorem p_X4_readClause_78 {X : XT} {h' : Hp} (C : CX X cX4_readClause "WaterStair$StairText" 4 none rmX4_readClause) (hQ : QX X none h' rmX4_readClause.cells rmX4_readClause.slots) {N : Nat}  {h : Hp} {s1_ : Int32} {s0_ : Nat} (hf : f_X4_readClause_78 N h s1_ s0_ = some h') : V X 0 0 h 78 [] [vI s1_, vR 4 (some s0_)] := by
  unfold f_X4_readClause_78 at hf
  obtain ⟨h1, eh1, hf⟩ := o_b hf
  refine V_callV (as := [vI s1_]) (st := []) C ml_X4_66 fx4 (ct_X4_readLevel eh1) rfl ⟨by decide, by decide, by decide, by decide⟩ (Nat.le_of_ble_eq_true rfl) rfl dX4_readClause_78 (cs' := 0) (sl' := 0) rfl rfl ?_
  refine V_goto C 203 dX4_readClause_81 (by decide) ?_
  have hf := Option.some.inj hf
  subst hf
  exact V_vret C hQ dX4_readClause_203
def f_X4_readClause_77 (N : Nat) (h : Hp) (s0_ : Nat) : Option (Hp) := f_X4_readClause_78 N h (0 : Int32) s0_
set_option maxHeartbeats 4000000 in
set_option maxRecDepth 100000 in
theorem p_X4_readClause_77 {X : XT} {h' : Hp} (C : CX X cX4_readClause "WaterStair$StairText" 4 none rmX4_readClause) (hQ : QX X none h' rmX4_readClause.cells rmX4_readClause.slots) {N : Nat}  {h : Hp} {s0_ : Nat} (hf : f_X4_readClause_77 N h s0_ = some h') : V X 0 0 h 77 [] [vR 4 (some s0_)] := by
  unfold f_X4_readClause_77 at hf
  refine V_iconst (v := (0 : Int32)) C dX4_readClause_77 (by decide) ?_
  refine V_sub (lv' := []) [] rfl ?_
  exact p_X4_readClause_78 C hQ hf
def f_X4_readClause_51 (N : Nat) (h : Hp) (v0 : Nat) (v1 : Int32) (s0_ : Int32) : Option (Hp) := if v1 = 0 then (f_X4_readClause_77 N h v0) else (if s0_ = 0 then (f_X4_readClause_77 N h v0) else (Option.bind (hP h v0 1) (fun q4 => if (8 : Int32) ≤ (hI h q4 0) then (f_X4_readClause_77 N h v0) else (f_X4_readClause_78 N h (1 : Int32) v0))))
set_option maxHeartbeats 4000000 in
set_option maxRecDepth 100000 in
theorem p_X4_readClause_51 {X : XT} {h' : Hp} (C : CX X cX4_readClause "WaterStair$StairText" 4 none rmX4_readClause) (hQ : QX X none h' rmX4_readClause.cells rmX4_readClause.slots) {N : Nat}  {h : Hp} {v0 : Nat} {v1 : Int32} {s0_ : Int32} (hf : f_X4_readClause_51 N h v0 v1 s0_ = some h') : V X 0 0 h 51 [(0, vR 4 (some v0)), (1, vI v1)] [vI s0_] := by
  unfold f_X4_readClause_51 at hf
  refine V_istore_n (lv' := [(3, vI s0_), (0, vR 4 (some v0)), (1, vI v1)]) C dX4_readClause_51 rfl (by decide) rfl ?_
  refine V_aload_n C dX4_readClause_52 rfl 1 rfl ?_
  refine V_iload_n C dX4_readClause_53 rfl 2 rfl ?_
  refine V_if_eq C 77 dX4_readClause_54 (by decide) (fun c2 => ?_) (fun c2 => ?_)
  · have hf := i_t c2 hf
    refine V_sub (lv' := []) [] rfl ?_
    exact p_X4_readClause_77 C hQ hf
  · have hf := i_f c2 hf
    refine V_iload_n C dX4_readClause_57 rfl 0 rfl ?_
    refine V_if_eq C 77 dX4_readClause_58 (by decide) (fun c3 => ?_) (fun c3 => ?_)
    · have hf := i_t c3 hf
      refine V_sub (lv' := []) [] rfl ?_
      exact p_X4_readClause_77 C hQ hf
    · have hf := i_f c3 hf
      refine V_aload_n C dX4_readClause_61 rfl 1 rfl ?_
      obtain ⟨q4, eq4, hf⟩ := o_b hf
      refine V_getR C fl_X4_22 rfl rfl (by decide) eq4 dX4_readClause_62 ?_
      refine V_getI C fl_X4_54 rfl dX4_readClause_65 ?_
      refine V_bipush (v := (8 : Int32)) C dX4_readClause_68 (by decide) ?_
      refine V_icmp_ge C 77 dX4_readClause_70 (by decide) (fun c5 => ?_) (fun c5 => ?_)
      · have hf := i_t c5 hf
        refine V_sub (lv' := []) [] rfl ?_
        exact p_X4_readClause_77 C hQ hf
      · have hf := i_f c5 hf
        refine V_iconst (v := (1 : Int32)) C dX4_readClause_73 (by decide) ?_
        refine V_goto C 78 dX4_readClause_74 (by decide) ?_
        refine V_sub (lv' := []) [] rfl ?_
        exact p_X4_readClause_78 C hQ hf
def f_X4_readClause_50 (N : Nat) (h : Hp) (v0 : Nat) (v1 : Int32) : Option (Hp) := f_X4_readClause_51 N h v0 v1 (0 : Int32)
set_option maxHeartbeats 4000000 in
set_option maxRecDepth 100000 in
theorem p_X4_readClause_50 {X : XT} {h' : Hp} (C : CX X cX4_readClause "WaterStair$StairText" 4 none rmX4_readClause) (hQ : QX X none h' rmX4_readClause.cells rmX4_readClause.slots) {N : Nat}  {h : Hp} {v0 : Nat} {v1 : Int32} (hf : f_X4_readClause_50 N h v0 v1 = some h') : V X 0 0 h 50 [(0, vR 4 (some v0)), (1, vI v1)] [] := by
  unfold f_X4_readClause_50 at hf
  refine V_iconst (v := (0 : Int32)) C dX4_readClause_50 (by decide) ?_
  refine V_sub (lv' := [(0, vR 4 (some v0)), (1, vI v1)]) [0, 1] rfl ?_
  exact p_X4_readClause_51 C hQ hf
def f_X4_readClause_113 (N : Nat) (h : Hp) (s1_ : Int32) (s0_ : Nat) : Option (Hp) := Option.bind (f_X4_readLag N h s0_ s1_) (fun h6 => some h6)
set_option maxHeartbeats 4000000 in
set_option maxRecDepth 100000 in
theorem p_X4_readClause_113 {X : XT} {h' : Hp} (C : CX X cX4_readClause "WaterStair$StairText" 4 none rmX4_readClause) (hQ : QX X none h' rmX4_readClause.cells rmX4_readClause.slots) {N : Nat}  {h : Hp} {s1_ : Int32} {s0_ : Nat} (hf : f_X4_readClause_113 N h s1_ s0_ = some h') : V X 0 0 h 113 [] [vI s1_, vR 4 (some s0_)] := by
  unfold f_X4_readClause_113 at hf
  obtain ⟨h6, eh6, hf⟩ := o_b hf
  refine V_callV (as := [vI s1_]) (st := []) C ml_X4_71 fx4 (ct_X4_readLag eh6) rfl ⟨by decide, by decide, by decide, by decide⟩ (Nat.le_of_ble_eq_true rfl) rfl dX4_readClause_113 (cs' := 0) (sl' := 0) rfl rfl ?_
  refine V_goto C 203 dX4_readClause_116 (by decide) ?_
  have hf := Option.some.inj hf
  subst hf
  exact V_vret C hQ dX4_readClause_203
def f_X4_readClause_112 (N : Nat) (h : Hp) (s0_ : Nat) : Option (Hp) := f_X4_readClause_113 N h (0 : Int32) s0_
set_option maxHeartbeats 4000000 in
set_option maxRecDepth 100000 in
theorem p_X4_readClause_112 {X : XT} {h' : Hp} (C : CX X cX4_readClause "WaterStair$StairText" 4 none rmX4_readClause) (hQ : QX X none h' rmX4_readClause.cells rmX4_readClause.slots) {N : Nat}  {h : Hp} {s0_ : Nat} (hf : f_X4_readClause_112 N h s0_ = some h') : V X 0 0 h 112 [] [vR 4 (some s0_)] := by
  unfold f_X4_readClause_112 at hf
  refine V_iconst (v := (0 : Int32)) C dX4_readClause_112 (by decide) ?_
  refine V_sub (lv' := []) [] rfl ?_
  exact p_X4_readClause_113 C hQ hf
def f_X4_readClause_157 (N : Nat) (h : Hp) (s1_ : Int32) (s0_ : Nat) : Option (Hp) := Option.bind (f_X4_readBarge N h s0_ s1_) (fun h7 => some h7)
set_option maxHeartbeats 4000000 in
set_option maxRecDepth 100000 in
theorem p_X4_readClause_157 {X : XT} {h' : Hp} (C : CX X cX4_readClause "WaterStair$StairText" 4 none rmX4_readClause) (hQ : QX X none h' rmX4_readClause.cells rmX4_readClause.slots) {N : Nat}  {h : Hp} {s1_ : Int32} {s0_ : Nat} (hf : f_X4_readClause_157 N h s1_ s0_ = some h') : V X 0 0 h 157 [] [vI s1_, vR 4 (some s0_)] := by
  unfold f_X4_readClause_157 at hf
  obtain ⟨h7, eh7, hf⟩ := o_b hf
  refine V_callV (as := [vI s1_]) (st := []) C ml_X4_76 fx4 (ct_X4_readBarge eh7) rfl ⟨by decide, by decide, by decide, by decide⟩ (Nat.le_of_ble_eq_true rfl) rfl dX4_readClause_157 (cs' := 0) (sl' := 0) rfl rfl ?_
  refine V_goto C 203 dX4_readClause_160 (by decide) ?_
  have hf := Option.some.inj hf
  subst hf
  exact V_vret C hQ dX4_readClause_203
def f_X4_readClause_156 (N : Nat) (h : Hp) (s0_ : Nat) : Option (Hp) := f_X4_readClause_157 N h (0 : Int32) s0_
set_option maxHeartbeats 4000000 in
set_option maxRecDepth 100000 in
theorem p_X4_readClause_156 {X : XT} {h' : Hp} (C : CX X cX4_readClause "WaterStair$StairText" 4 none rmX4_readClause) (hQ : QX X none h' rmX4_readClause.cells rmX4_readClause.slots) {N : Nat}  {h : Hp} {s0_ : Nat} (hf : f_X4_readClause_156 N h s0_ = some h') : V X 0 0 h 156 [] [vR 4 (some s0_)] := by
  unfold f_X4_readClause_156 at hf
  refine V_iconst (v := (0 : Int32)) C dX4_readClause_156 (by decide) ?_
  refine V_sub (lv' := []) [] rfl ?_
  exact p_X4_readClause_157 C hQ hf
def f_X4_readClause_189 (N : Nat) (h : Hp) (s1_ : Int32) (s0_ : Nat) : Option (Hp) := Option.bind (f_X4_readBroken N h s0_ s1_) (fun h8 => some h8)
set_option maxHeartbeats 4000000 in
set_option maxRecDepth 100000 in
theorem p_X4_readClause_189 {X : XT} {h' : Hp} (C : CX X cX4_readClause "WaterStair$StairText" 4 none rmX4_readClause) (hQ : QX X none h' rmX4_readClause.cells rmX4_readClause.slots) {N : Nat}  {h : Hp} {s1_ : Int32} {s0_ : Nat} (hf : f_X4_readClause_189 N h s1_ s0_ = some h') : V X 0 0 h 189 [] [vI s1_, vR 4 (some s0_)] := by
  unfold f_X4_readClause_189 at hf
  obtain ⟨h8, eh8, hf⟩ := o_b hf
  refine V_callV (as := [vI s1_]) (st := []) C ml_X4_81 fx4 (ct_X4_readBroken eh8) rfl ⟨by decide, by decide, by decide, by decide⟩ (Nat.le_of_ble_eq_true rfl) rfl dX4_readClause_189 (cs' := 0) (sl' := 0) rfl rfl ?_
  refine V_goto C 203 dX4_readClause_192 (by decide) ?_
  have hf := Option.some.inj hf
  subst hf
  exact V_vret C hQ dX4_readClause_203
def f_X4_readClause_188 (N : Nat) (h : Hp) (s0_ : Nat) : Option (Hp) := f_X4_readClause_189 N h (0 : Int32) s0_
set_option maxHeartbeats 4000000 in
set_option maxRecDepth 100000 in
theorem p_X4_readClause_188 {X : XT} {h' : Hp} (C : CX X cX4_readClause "WaterStair$StairText" 4 none rmX4_readClause) (hQ : QX X none h' rmX4_readClause.cells rmX4_readClause.slots) {N : Nat}  {h : Hp} {s0_ : Nat} (hf : f_X4_readClause_188 N h s0_ = some h') : V X 0 0 h 188 [] [vR 4 (some s0_)] := by
  unfold f_X4_readClause_188 at hf
  refine V_iconst (v := (0 : Int32)) C dX4_readClause_188 (by decide) ?_
  refine V_sub (lv' := []) [] rfl ?_
  exact p_X4_readClause_189 C hQ hf
def f_X4_readClause_16 (N : Nat) (h : Hp) (v0 : Nat) (v1 : Int32) (s0_ : Int32) : Option (Hp) := Option.bind (hP h v0 0) (fun q9 => Option.bind (f_X6_isWord N h q9 (0)) (fun r10 => if r10 = 0 then (Option.bind (hP h v0 0) (fun q12 => Option.bind (f_X6_isWord N h q12 (1)) (fun r13 => if r13 = 0 then (Option.bind (hP h v0 0) (fun q15 => Option.bind (f_X6_isWord N h q15 (2)) (fun r16 => if r16 = 0 then (Option.bind (hP h v0 0) (fun q18 => Option.bind (f_X6_isWord N h q18 (3)) (fun r19 => if r19 = 0 then (Option.bind (hP h v0 0) (fun q21 => Option.bind (f_X6_fail h q21 (0 : Int32)) (fun h22 => some h22))) else (if v1 = 0 then (f_X4_readClause_188 N h v0) else (if s0_ = 0 then (f_X4_readClause_188 N h v0) else (f_X4_readClause_189 N h (1 : Int32) v0)))))) else (if v1 = 0 then (f_X4_readClause_156 N h v0) else (if s0_ = 0 then (f_X4_readClause_156 N h v0) else (Option.bind (hP h v0 1) (fun q27 => if (6 : Int32) ≤ (hI h q27 1) then (f_X4_readClause_156 N h v0) else (f_X4_readClause_157 N h (1 : Int32) v0)))))))) else (if v1 = 0 then (f_X4_readClause_112 N h v0) else (if hI h v0 2 = 0 then (f_X4_readClause_113 N h (1 : Int32) v0) else (f_X4_readClause_112 N h v0)))))) else (Option.bind (hP h v0 1) (fun q31 => if hI h q31 1 = 0 then (if hI h v0 3 = 0 then (f_X4_readClause_51 N h v0 v1 (1 : Int32)) else (f_X4_readClause_50 N h v0 v1)) else (f_X4_readClause_50 N h v0 v1)))))
set_option maxHeartbeats 4000000 in
set_option maxRecDepth 100000 in
theorem p_X4_readClause_16 {X : XT} {h' : Hp} (C : CX X cX4_readClause "WaterStair$StairText" 4 none rmX4_readClause) (hQ : QX X none h' rmX4_readClause.cells rmX4_readClause.slots) {N : Nat}  {h : Hp} {v0 : Nat} {v1 : Int32} {s0_ : Int32} (hf : f_X4_readClause_16 N h v0 v1 s0_ = some h') : V X 0 0 h 16 [(0, vR 4 (some v0)), (1, vI v1)] [vI s0_] := by
  unfold f_X4_readClause_16 at hf
  refine V_istore_n (lv' := [(2, vI s0_), (0, vR 4 (some v0)), (1, vI v1)]) C dX4_readClause_16 rfl (by decide) rfl ?_
  refine V_aload_n C dX4_readClause_17 rfl 1 rfl ?_
  obtain ⟨q9, eq9, hf⟩ := o_b hf
  refine V_getR C fl_X4_18 rfl rfl (by decide) eq9 dX4_readClause_18 ?_
  refine V_ldcS C 0 rfl dX4_readClause_21 ?_
  obtain ⟨r10, er10, hf⟩ := o_b hf
  refine V_callV (as := [vR 16 (some (0))]) (st := []) C ml_X4_59 fx6 (ct_X6_isWord er10) rfl ⟨by decide, by decide, by decide, by decide⟩ (Nat.le_of_ble_eq_true rfl) rfl dX4_readClause_23 (cs' := 0) (sl' := 0) rfl rfl ?_
  refine V_if_eq C 84 dX4_readClause_26 (by decide) (fun c11 => ?_) (fun c11 => ?_)
  · have hf := i_t c11 hf
    refine V_aload_n C dX4_readClause_84 rfl 1 rfl ?_
    obtain ⟨q12, eq12, hf⟩ := o_b hf
    refine V_getR C fl_X4_18 rfl rfl (by decide) eq12 dX4_readClause_85 ?_
    refine V_ldcS C 1 rfl dX4_readClause_88 ?_
    obtain ⟨r13, er13, hf⟩ := o_b hf
    refine V_callV (as := [vR 16 (some (1))]) (st := []) C ml_X4_59 fx6 (ct_X6_isWord er13) rfl ⟨by decide, by decide, by decide, by decide⟩ (Nat.le_of_ble_eq_true rfl) rfl dX4_readClause_90 (cs' := 0) (sl' := 0) rfl rfl ?_
    refine V_if_eq C 119 dX4_readClause_93 (by decide) (fun c14 => ?_) (fun c14 => ?_)
    · have hf := i_t c14 hf
      refine V_aload_n C dX4_readClause_119 rfl 1 rfl ?_
      obtain ⟨q15, eq15, hf⟩ := o_b hf
      refine V_getR C fl_X4_18 rfl rfl (by decide) eq15 dX4_readClause_120 ?_
      refine V_ldcS C 2 rfl dX4_readClause_123 ?_
      obtain ⟨r16, er16, hf⟩ := o_b hf
      refine V_callV (as := [vR 16 (some (2))]) (st := []) C ml_X4_59 fx6 (ct_X6_isWord er16) rfl ⟨by decide, by decide, by decide, by decide⟩ (Nat.le_of_ble_eq_true rfl) rfl dX4_readClause_125 (cs' := 0) (sl' := 0) rfl rfl ?_
      refine V_if_eq C 163 dX4_readClause_128 (by decide) (fun c17 => ?_) (fun c17 => ?_)
      · have hf := i_t c17 hf
        refine V_aload_n C dX4_readClause_163 rfl 1 rfl ?_
        obtain ⟨q18, eq18, hf⟩ := o_b hf
        refine V_getR C fl_X4_18 rfl rfl (by decide) eq18 dX4_readClause_164 ?_
        refine V_ldcS C 3 rfl dX4_readClause_167 ?_
        obtain ⟨r19, er19, hf⟩ := o_b hf
        refine V_callV (as := [vR 16 (some (3))]) (st := []) C ml_X4_59 fx6 (ct_X6_isWord er19) rfl ⟨by decide, by decide, by decide, by decide⟩ (Nat.le_of_ble_eq_true rfl) rfl dX4_readClause_169 (cs' := 0) (sl' := 0) rfl rfl ?_
        refine V_if_eq C 195 dX4_readClause_172 (by decide) (fun c20 => ?_) (fun c20 => ?_)
        · have hf := i_t c20 hf
          refine V_aload_n C dX4_readClause_195 rfl 1 rfl ?_
          obtain ⟨q21, eq21, hf⟩ := o_b hf
          refine V_getR C fl_X4_18 rfl rfl (by decide) eq21 dX4_readClause_196 ?_
          refine V_iconst (v := (0 : Int32)) C dX4_readClause_199 (by decide) ?_
          obtain ⟨h22, eh22, hf⟩ := o_b hf
          refine V_callV (as := [vI (0 : Int32)]) (st := []) C ml_X4_47 fx6 (ct_X6_fail eh22) rfl ⟨by decide, by decide, by decide, by decide⟩ (Nat.le_of_ble_eq_true rfl) rfl dX4_readClause_200 (cs' := 0) (sl' := 0) rfl rfl ?_
          have hf := Option.some.inj hf
          subst hf
          exact V_vret C hQ dX4_readClause_203
        · have hf := i_f c20 hf
          refine V_aload_n C dX4_readClause_175 rfl 1 rfl ?_
          refine V_iload_n C dX4_readClause_176 rfl 2 rfl ?_
          refine V_if_eq C 188 dX4_readClause_177 (by decide) (fun c23 => ?_) (fun c23 => ?_)
          · have hf := i_t c23 hf
            refine V_sub (lv' := []) [] rfl ?_
            exact p_X4_readClause_188 C hQ hf
          · have hf := i_f c23 hf
            refine V_iload_n C dX4_readClause_180 rfl 0 rfl ?_
            refine V_if_eq C 188 dX4_readClause_181 (by decide) (fun c24 => ?_) (fun c24 => ?_)
            · have hf := i_t c24 hf
              refine V_sub (lv' := []) [] rfl ?_
              exact p_X4_readClause_188 C hQ hf
            · have hf := i_f c24 hf
              refine V_iconst (v := (1 : Int32)) C dX4_readClause_184 (by decide) ?_
              refine V_goto C 189 dX4_readClause_185 (by decide) ?_
              refine V_sub (lv' := []) [] rfl ?_
              exact p_X4_readClause_189 C hQ hf
      · have hf := i_f c17 hf
        refine V_aload_n C dX4_readClause_131 rfl 1 rfl ?_
        refine V_iload_n C dX4_readClause_132 rfl 2 rfl ?_
        refine V_if_eq C 156 dX4_readClause_133 (by decide) (fun c25 => ?_) (fun c25 => ?_)
        · have hf := i_t c25 hf
          refine V_sub (lv' := []) [] rfl ?_
          exact p_X4_readClause_156 C hQ hf
        · have hf := i_f c25 hf
          refine V_iload_n C dX4_readClause_136 rfl 0 rfl ?_
          refine V_if_eq C 156 dX4_readClause_137 (by decide) (fun c26 => ?_) (fun c26 => ?_)
          · have hf := i_t c26 hf
            refine V_sub (lv' := []) [] rfl ?_
            exact p_X4_readClause_156 C hQ hf
          · have hf := i_f c26 hf
            refine V_aload_n C dX4_readClause_140 rfl 1 rfl ?_
            obtain ⟨q27, eq27, hf⟩ := o_b hf
            refine V_getR C fl_X4_22 rfl rfl (by decide) eq27 dX4_readClause_141 ?_
            refine V_getI C fl_X4_63 rfl dX4_readClause_144 ?_
            refine V_bipush (v := (6 : Int32)) C dX4_readClause_147 (by decide) ?_
            refine V_icmp_ge C 156 dX4_readClause_149 (by decide) (fun c28 => ?_) (fun c28 => ?_)
            · have hf := i_t c28 hf
              refine V_sub (lv' := []) [] rfl ?_
              exact p_X4_readClause_156 C hQ hf
            · have hf := i_f c28 hf
              refine V_iconst (v := (1 : Int32)) C dX4_readClause_152 (by decide) ?_
              refine V_goto C 157 dX4_readClause_153 (by decide) ?_
              refine V_sub (lv' := []) [] rfl ?_
              exact p_X4_readClause_157 C hQ hf
    · have hf := i_f c14 hf
      refine V_aload_n C dX4_readClause_96 rfl 1 rfl ?_
      refine V_iload_n C dX4_readClause_97 rfl 2 rfl ?_
      refine V_if_eq C 112 dX4_readClause_98 (by decide) (fun c29 => ?_) (fun c29 => ?_)
      · have hf := i_t c29 hf
        refine V_sub (lv' := []) [] rfl ?_
        exact p_X4_readClause_112 C hQ hf
      · have hf := i_f c29 hf
        refine V_aload_n C dX4_readClause_101 rfl 1 rfl ?_
        refine V_getI C fl_X4_9 rfl dX4_readClause_102 ?_
        refine V_if_ne C 112 dX4_readClause_105 (by decide) (fun c30 => ?_) (fun c30 => ?_)
        · have hf := i_f c30 hf
          refine V_sub (lv' := []) [] rfl ?_
          exact p_X4_readClause_112 C hQ hf
        · have hf := i_t c30 hf
          refine V_iconst (v := (1 : Int32)) C dX4_readClause_108 (by decide) ?_
          refine V_goto C 113 dX4_readClause_109 (by decide) ?_
          refine V_sub (lv' := []) [] rfl ?_
          exact p_X4_readClause_113 C hQ hf
  · have hf := i_f c11 hf
    refine V_aload_n C dX4_readClause_29 rfl 1 rfl ?_
    obtain ⟨q31, eq31, hf⟩ := o_b hf
    refine V_getR C fl_X4_22 rfl rfl (by decide) eq31 dX4_readClause_30 ?_
    refine V_getI C fl_X4_63 rfl dX4_readClause_33 ?_
    refine V_if_ne C 50 dX4_readClause_36 (by decide) (fun c32 => ?_) (fun c32 => ?_)
    · have hf := i_f c32 hf
      refine V_sub (lv' := [(0, vR 4 (some v0)), (1, vI v1)]) [1, 2] rfl ?_
      exact p_X4_readClause_50 C hQ hf
    · have hf := i_t c32 hf
      refine V_aload_n C dX4_readClause_39 rfl 1 rfl ?_
      refine V_getI C fl_X4_15 rfl dX4_readClause_40 ?_
      refine V_if_ne C 50 dX4_readClause_43 (by decide) (fun c33 => ?_) (fun c33 => ?_)
      · have hf := i_f c33 hf
        refine V_sub (lv' := [(0, vR 4 (some v0)), (1, vI v1)]) [1, 2] rfl ?_
        exact p_X4_readClause_50 C hQ hf
      · have hf := i_t c33 hf
        refine V_iconst (v := (1 : Int32)) C dX4_readClause_46 (by decide) ?_
        refine V_goto C 51 dX4_readClause_47 (by decide) ?_
        refine V_sub (lv' := [(0, vR 4 (some v0)), (1, vI v1)]) [1, 2] rfl ?_
        exact p_X4_readClause_51 C hQ hf
def f_X4_readClause (N : Nat) (h : Hp) (v0 : Nat) (v1 : Int32) : Option (Hp) := Option.bind (hP h v0 1) (fun q34 => if (hI h q34 0) < (2 : Int32) then (f_X4_readClause_16 N h v0 v1 (0 : Int32)) else (f_X4_readClause_16 N h v0 v1 (1 : Int32)))
set_option maxHeartbeats 4000000 in
set_option maxRecDepth 100000 in
theorem p_X4_readClause {X : XT} {h' : Hp} (C : CX X cX4_readClause "WaterStair$StairText" 4 none rmX4_readClause) {N : Nat} {h : Hp} {v0 : Nat} {v1 : Int32} (hQ : QX X none h' rmX4_readClause.cells rmX4_readClause.slots) (hf : f_X4_readClause N h v0 v1 = some h') : V X 0 0 h 0 [(0, vR 4 (some v0)), (1, vI v1)] [] := by
  unfold f_X4_readClause at hf
  refine V_aload_n C dX4_readClause_0 rfl 0 rfl ?_
  obtain ⟨q34, eq34, hf⟩ := o_b hf
  refine V_getR C fl_X4_22 rfl rfl (by decide) eq34 dX4_readClause_1 ?_
  refine V_getI C fl_X4_54 rfl dX4_readClause_4 ?_
  refine V_iconst (v := (2 : Int32)) C dX4_readClause_7 (by decide) ?_
  refine V_icmp_lt C 15 dX4_readClause_8 (by decide) (fun c35 => ?_) (fun c35 => ?_)
  · have hf := i_t c35 hf
    refine V_iconst (v := (0 : Int32)) C dX4_readClause_15 (by decide) ?_
    refine V_sub (lv' := [(0, vR 4 (some v0)), (1, vI v1)]) [0, 1] rfl ?_
    exact p_X4_readClause_16 C hQ hf
  · have hf := i_f c35 hf
    refine V_iconst (v := (1 : Int32)) C dX4_readClause_11 (by decide) ?_
    refine V_goto C 16 dX4_readClause_12 (by decide) ?_
    refine V_sub (lv' := [(0, vR 4 (some v0)), (1, vI v1)]) [0, 1] rfl ?_
    exact p_X4_readClause_16 C hQ hf
theorem ct_X4_readClause {h' : Hp} {N : Nat} {h : Hp} {v0 : Nat} {v1 : Int32} (hf : f_X4_readClause N h v0 v1 = some h') (l : Launch) (G : GT) : MC l G yX4_readClause cX4_readClause 4 none rmX4_readClause h [vR 4 (some v0), vI v1] none h' := MC_of (by decide) rfl (Nat.le_of_ble_eq_true rfl) rfl (fun X C hQ hin => p_X4_readClause C hQ hf)
abbrev rmX5_clear : Room := { frames := 1, cells := 0, slots := 0, locals := 23 }
def f_X5_clear (N : Nat) (h : Hp) (v0 : Nat) : Option (Hp) := lt (sI h v0 0 (0 : Int32)) (fun h1 => lt (sI h1 v0 1 (0 : Int32)) (fun h2 => lt (sI h2 v0 2 (0 : Int32)) (fun h3 => lt (sI h3 v0 3 (0 : Int32)) (fun h4 => lt (sI h4 v0 4 (0 : Int32)) (fun h5 => lt (sI h5 v0 7 (0 : Int32)) (fun h6 => Option.bind (hP h6 v0 10) (fun q7 => Option.bind (f_J7_fill_53178 N h6 q7 (1 : Int32)) (fun h8 => Option.bind (hP h8 v0 11) (fun q9 => Option.bind (f_J7_fill_53178 N h8 q9 (-1 : Int32)) (fun h10 => some h10))))))))))
set_option maxHeartbeats 4000000 in
set_option maxRecDepth 100000 in
theorem p_X5_clear {X : XT} {h' : Hp} (C : CX X cX5_clear "WaterStair$State" 1 none rmX5_clear) {N : Nat} {h : Hp} {v0 : Nat} (hQ : QX X none h' rmX5_clear.cells rmX5_clear.slots) (hf : f_X5_clear N h v0 = some h') : V X 0 0 h 0 [(0, vR 5 (some v0))] [] := by
  unfold f_X5_clear at hf
  refine V_aload_n C dX5_clear_0 rfl 0 rfl ?_
  refine V_iconst (v := (0 : Int32)) C dX5_clear_1 (by decide) ?_
  obtain ⟨h1, eh1, hf⟩ := o_l hf
  refine V_putI C nf_X5_9 rfl (okI_int _) dX5_clear_2 (V_eqH eh1 ?_)
  refine V_aload_n C dX5_clear_5 rfl 0 rfl ?_
  refine V_iconst (v := (0 : Int32)) C dX5_clear_6 (by decide) ?_
  obtain ⟨h2, eh2, hf⟩ := o_l hf
  refine V_putI C nf_X5_15 rfl (okI_int _) dX5_clear_7 (V_eqH eh2 ?_)
  refine V_aload_n C dX5_clear_10 rfl 0 rfl ?_
  refine V_iconst (v := (0 : Int32)) C dX5_clear_11 (by decide) ?_
  obtain ⟨h3, eh3, hf⟩ := o_l hf
  refine V_putI C nf_X5_18 rfl (okI_int _) dX5_clear_12 (V_eqH eh3 ?_)
  refine V_aload_n C dX5_clear_15 rfl 0 rfl ?_
  refine V_iconst (v := (0 : Int32)) C dX5_clear_16 (by decide) ?_
  obtain ⟨h4, eh4, hf⟩ := o_l hf
  refine V_putI C nf_X5_21 rfl (okI_int _) dX5_clear_17 (V_eqH eh4 ?_)
  refine V_aload_n C dX5_clear_20 rfl 0 rfl ?_
  refine V_iconst (v := (0 : Int32)) C dX5_clear_21 (by decide) ?_
  obtain ⟨h5, eh5, hf⟩ := o_l hf
  refine V_putI C nf_X5_24 rfl (okI_int _) dX5_clear_22 (V_eqH eh5 ?_)
  refine V_aload_n C dX5_clear_25 rfl 0 rfl ?_
  refine V_iconst (v := (0 : Int32)) C dX5_clear_26 (by decide) ?_
  obtain ⟨h6, eh6, hf⟩ := o_l hf
  refine V_putI C nf_X5_33 rfl (okI_int _) dX5_clear_27 (V_eqH eh6 ?_)
  refine V_aload_n C dX5_clear_30 rfl 0 rfl ?_
  obtain ⟨q7, eq7, hf⟩ := o_b hf
  refine V_getR C fl_X5_43 rfl rfl (by decide) eq7 dX5_clear_31 ?_
  refine V_iconst (v := (1 : Int32)) C dX5_clear_34 (by decide) ?_
  obtain ⟨h8, eh8, hf⟩ := o_b hf
  refine V_callS (as := [vR 10 (some q7), vI (1 : Int32)]) (st := []) C ml_X5_80 (ct_J7_fill_53178 eh8) rfl ⟨by decide, by decide, by decide, by decide⟩ (Nat.le_of_ble_eq_true rfl) rfl dX5_clear_35 (cs' := 0) (sl' := 0) rfl rfl ?_
  refine V_aload_n C dX5_clear_38 rfl 0 rfl ?_
  obtain ⟨q9, eq9, hf⟩ := o_b hf
  refine V_getR C fl_X5_46 rfl rfl (by decide) eq9 dX5_clear_39 ?_
  refine V_iconst (v := (-1 : Int32)) C dX5_clear_42 (by decide) ?_
  obtain ⟨h10, eh10, hf⟩ := o_b hf
  refine V_callS (as := [vR 10 (some q9), vI (-1 : Int32)]) (st := []) C ml_X5_80 (ct_J7_fill_53178 eh10) rfl ⟨by decide, by decide, by decide, by decide⟩ (Nat.le_of_ble_eq_true rfl) rfl dX5_clear_43 (cs' := 0) (sl' := 0) rfl rfl ?_
  have hf := Option.some.inj hf
  subst hf
  exact V_vret C hQ dX5_clear_46
theorem ct_X5_clear {h' : Hp} {N : Nat} {h : Hp} {v0 : Nat} (hf : f_X5_clear N h v0 = some h') (l : Launch) (G : GT) : MC l G yX5_clear cX5_clear 1 none rmX5_clear h [vR 5 (some v0)] none h' := MC_of (by decide) rfl (Nat.le_of_ble_eq_true rfl) rfl (fun X C hQ hin => p_X5_clear C hQ hf)
abbrev rmX4_readStair : Room := { frames := 7, cells := 0, slots := 0, locals := 154 }
def f_X4_readStair_93 (N : Nat) (s26 : Hp → Nat → Int32 → Option (Int32 × Hp)) (h : Hp) (v0 : Nat) (v1 : Int32) : Option (Int32 × Hp) := Option.bind (hP h v0 0) (fun q1 => Option.bind (f_X6_advance N h q1) (fun h2 => s26 h2 v0 (v1 + (1 : Int32))))
set_option maxHeartbeats 4000000 in
set_option maxRecDepth 100000 in
theorem p_X4_readStair_93 {X : XT} {r : Int32} {h' : Hp} (C : CX X cX4_readStair "WaterStair$StairText" 2 (some .int) rmX4_readStair) (hQ : QX X (some (vI r)) h' rmX4_readStair.cells rmX4_readStair.slots) {N : Nat} {s26 : Hp → Nat → Int32 → Option (Int32 × Hp)} (S26 : ∀ (h : Hp) (v0 : Nat) (v1 : Int32), s26 h v0 v1 = some ((r, h')) → V X 0 0 h 26 [(0, vR 4 (some v0)), (1, vI v1)] []) {h : Hp} {v0 : Nat} {v1 : Int32} (hf : f_X4_readStair_93 N s26 h v0 v1 = some ((r, h'))) : V X 0 0 h 93 [(0, vR 4 (some v0)), (1, vI v1)] [] := by
  unfold f_X4_readStair_93 at hf
  refine V_aload_n C dX4_readStair_93 rfl 0 rfl ?_
  obtain ⟨q1, eq1, hf⟩ := o_b hf
  refine V_getR C fl_X4_18 rfl rfl (by decide) eq1 dX4_readStair_94 ?_
  obtain ⟨h2, eh2, hf⟩ := o_b hf
  refine V_callV (as := []) (st := []) C ml_X4_51 fx6 (ct_X6_advance eh2) rfl ⟨by decide, by decide, by decide, by decide⟩ (Nat.le_of_ble_eq_true rfl) rfl dX4_readStair_97 (cs' := 0) (sl' := 0) rfl rfl ?_
  refine V_iinc (lv' := [(1, vI (v1 + (1 : Int32))), (0, vR 4 (some v0))]) C dX4_readStair_100 1 rfl (congrArg (v1 + ·) (by decide : Int32.ofInt (1) = (1 : Int32))) (by decide) rfl ?_
  refine V_goto C 26 dX4_readStair_103 (by decide) ?_
  refine V_sub (lv' := [(0, vR 4 (some v0)), (1, vI (v1 + (1 : Int32)))]) [1, 0] rfl ?_
  exact S26 _ _ _ hf
def f_X4_readStair_106 (N : Nat) (h : Hp) (v0 : Nat) : Option (Int32 × Hp) := Option.bind (hP h v0 1) (fun q3 => if (2 : Int32) ≤ (hI h q3 0) then (Option.bind (hP h v0 0) (fun q5 => some ((hI h q5 6, h)))) else (Option.bind (hP h v0 0) (fun q6 => Option.bind (f_X6_fail h q6 (0 : Int32)) (fun h7 => Option.bind (hP h7 v0 0) (fun q8 => some ((hI h7 q8 6, h7)))))))
set_option maxHeartbeats 4000000 in
set_option maxRecDepth 100000 in
theorem p_X4_readStair_106 {X : XT} {r : Int32} {h' : Hp} (C : CX X cX4_readStair "WaterStair$StairText" 2 (some .int) rmX4_readStair) (hQ : QX X (some (vI r)) h' rmX4_readStair.cells rmX4_readStair.slots) {N : Nat}  {h : Hp} {v0 : Nat} (hf : f_X4_readStair_106 N h v0 = some ((r, h'))) : V X 0 0 h 106 [(0, vR 4 (some v0))] [] := by
  unfold f_X4_readStair_106 at hf
  refine V_aload_n C dX4_readStair_106 rfl 0 rfl ?_
  obtain ⟨q3, eq3, hf⟩ := o_b hf
  refine V_getR C fl_X4_22 rfl rfl (by decide) eq3 dX4_readStair_107 ?_
  refine V_getI C fl_X4_54 rfl dX4_readStair_110 ?_
  refine V_iconst (v := (2 : Int32)) C dX4_readStair_113 (by decide) ?_
  refine V_icmp_ge C 125 dX4_readStair_114 (by decide) (fun c4 => ?_) (fun c4 => ?_)
  · have hf := i_t c4 hf
    refine V_aload_n C dX4_readStair_125 rfl 0 rfl ?_
    obtain ⟨q5, eq5, hf⟩ := o_b hf
    refine V_getR C fl_X4_18 rfl rfl (by decide) eq5 dX4_readStair_126 ?_
    refine V_getI C fl_X4_36 rfl dX4_readStair_129 ?_
    obtain ⟨hf1, hf2⟩ := Prod.mk.inj (Option.some.inj hf)
    subst hf1
    subst hf2
    exact V_iret C hQ dX4_readStair_132
  · have hf := i_f c4 hf
    refine V_aload_n C dX4_readStair_117 rfl 0 rfl ?_
    obtain ⟨q6, eq6, hf⟩ := o_b hf
    refine V_getR C fl_X4_18 rfl rfl (by decide) eq6 dX4_readStair_118 ?_
    refine V_iconst (v := (0 : Int32)) C dX4_readStair_121 (by decide) ?_
    obtain ⟨h7, eh7, hf⟩ := o_b hf
    refine V_callV (as := [vI (0 : Int32)]) (st := []) C ml_X4_47 fx6 (ct_X6_fail eh7) rfl ⟨by decide, by decide, by decide, by decide⟩ (Nat.le_of_ble_eq_true rfl) rfl dX4_readStair_122 (cs' := 0) (sl' := 0) rfl rfl ?_
    refine V_aload_n C dX4_readStair_125 rfl 0 rfl ?_
    obtain ⟨q8, eq8, hf⟩ := o_b hf
    refine V_getR C fl_X4_18 rfl rfl (by decide) eq8 dX4_readStair_126 ?_
    refine V_getI C fl_X4_36 rfl dX4_readStair_129 ?_
    obtain ⟨hf1, hf2⟩ := Prod.mk.inj (Option.some.inj hf)
    subst hf1
    subst hf2
    exact V_iret C hQ dX4_readStair_132
def f_X4_readStair_54 (N : Nat) (s26 : Hp → Nat → Int32 → Option (Int32 × Hp)) (h : Hp) (v0 : Nat) (v1 : Int32) (s1_ : Int32) (s0_ : Nat) : Option (Int32 × Hp) := Option.bind (f_X4_readClause N h s0_ s1_) (fun h9 => Option.bind (hP h9 v0 0) (fun q10 => if (hI h9 q10 2) = (256 : Int32) then (f_X4_readStair_106 N h9 v0) else (Option.bind (hP h9 v0 0) (fun q12 => if (hI h9 q12 2) = (59 : Int32) then (f_X4_readStair_93 N s26 h9 v0 v1) else (Option.bind (hP h9 v0 0) (fun q14 => Option.bind (f_X6_fail h9 q14 (0 : Int32)) (fun h15 => f_X4_readStair_93 N s26 h15 v0 v1)))))))
set_option maxHeartbeats 4000000 in
set_option maxRecDepth 100000 in
theorem p_X4_readStair_54 {X : XT} {r : Int32} {h' : Hp} (C : CX X cX4_readStair "WaterStair$StairText" 2 (some .int) rmX4_readStair) (hQ : QX X (some (vI r)) h' rmX4_readStair.cells rmX4_readStair.slots) {N : Nat} {s26 : Hp → Nat → Int32 → Option (Int32 × Hp)} (S26 : ∀ (h : Hp) (v0 : Nat) (v1 : Int32), s26 h v0 v1 = some ((r, h')) → V X 0 0 h 26 [(0, vR 4 (some v0)), (1, vI v1)] []) {h : Hp} {v0 : Nat} {v1 : Int32} {s1_ : Int32} {s0_ : Nat} (hf : f_X4_readStair_54 N s26 h v0 v1 s1_ s0_ = some ((r, h'))) : V X 0 0 h 54 [(0, vR 4 (some v0)), (1, vI v1)] [vI s1_, vR 4 (some s0_)] := by
  unfold f_X4_readStair_54 at hf
  obtain ⟨h9, eh9, hf⟩ := o_b hf
  refine V_callV (as := [vI s1_]) (st := []) C ml_X4_40 fx4 (ct_X4_readClause eh9) rfl ⟨by decide, by decide, by decide, by decide⟩ (Nat.le_of_ble_eq_true rfl) rfl dX4_readStair_54 (cs' := 0) (sl' := 0) rfl rfl ?_
  refine V_aload_n C dX4_readStair_57 rfl 0 rfl ?_
  obtain ⟨q10, eq10, hf⟩ := o_b hf
  refine V_getR C fl_X4_18 rfl rfl (by decide) eq10 dX4_readStair_58 ?_
  refine V_getI C fl_X4_44 rfl dX4_readStair_61 ?_
  refine V_sipush (v := (256 : Int32)) C dX4_readStair_64 (by decide) ?_
  refine V_icmp_ne C 73 dX4_readStair_67 (by decide) (fun c11 => ?_) (fun c11 => ?_)
  · have hf := i_f c11 hf
    refine V_aload_n C dX4_readStair_73 rfl 0 rfl ?_
    obtain ⟨q12, eq12, hf⟩ := o_b hf
    refine V_getR C fl_X4_18 rfl rfl (by decide) eq12 dX4_readStair_74 ?_
    refine V_getI C fl_X4_44 rfl dX4_readStair_77 ?_
    refine V_bipush (v := (59 : Int32)) C dX4_readStair_80 (by decide) ?_
    refine V_icmp_eq C 93 dX4_readStair_82 (by decide) (fun c13 => ?_) (fun c13 => ?_)
    · have hf := i_t c13 hf
      refine V_sub (lv' := [(0, vR 4 (some v0)), (1, vI v1)]) [0, 1] rfl ?_
      exact p_X4_readStair_93 C hQ S26 hf
    · have hf := i_f c13 hf
      refine V_aload_n C dX4_readStair_85 rfl 0 rfl ?_
      obtain ⟨q14, eq14, hf⟩ := o_b hf
      refine V_getR C fl_X4_18 rfl rfl (by decide) eq14 dX4_readStair_86 ?_
      refine V_iconst (v := (0 : Int32)) C dX4_readStair_89 (by decide) ?_
      obtain ⟨h15, eh15, hf⟩ := o_b hf
      refine V_callV (as := [vI (0 : Int32)]) (st := []) C ml_X4_47 fx6 (ct_X6_fail eh15) rfl ⟨by decide, by decide, by decide, by decide⟩ (Nat.le_of_ble_eq_true rfl) rfl dX4_readStair_90 (cs' := 0) (sl' := 0) rfl rfl ?_
      refine V_sub (lv' := [(0, vR 4 (some v0)), (1, vI v1)]) [0, 1] rfl ?_
      exact p_X4_readStair_93 C hQ S26 hf
  · have hf := i_t c11 hf
    refine V_goto C 106 dX4_readStair_70 (by decide) ?_
    refine V_sub (lv' := [(0, vR 4 (some v0))]) [0] rfl ?_
    exact p_X4_readStair_106 C hQ hf
def f_X4_readStair_26 (N : Nat) : Nat → Hp → Nat → Int32 → Option (Int32 × Hp)
  | 0, _, _, _ => none
  | n + 1, h, v0, v1 => if (32 : Int32) < v1 then (f_X4_readStair_106 N h v0) else (Option.bind (hP h v0 0) (fun q17 => if hI h q17 6 = 0 then (if (32 : Int32) ≤ v1 then (f_X4_readStair_54 N (f_X4_readStair_26 N n) h v0 v1 (0 : Int32) v0) else (f_X4_readStair_54 N (f_X4_readStair_26 N n) h v0 v1 (1 : Int32) v0)) else (f_X4_readStair_106 N h v0)))
set_option maxHeartbeats 4000000 in
set_option maxRecDepth 100000 in
theorem p_X4_readStair_26 {X : XT} {r : Int32} {h' : Hp} (C : CX X cX4_readStair "WaterStair$StairText" 2 (some .int) rmX4_readStair) (hQ : QX X (some (vI r)) h' rmX4_readStair.cells rmX4_readStair.slots) {N : Nat}  : ∀ (n : Nat) (h : Hp) (v0 : Nat) (v1 : Int32), f_X4_readStair_26 N n h v0 v1 = some ((r, h')) → V X 0 0 h 26 [(0, vR 4 (some v0)), (1, vI v1)] [] := by
  intro n
  induction n with
  | zero =>
    intro h v0 v1 hf
    have hf : (none : Option (Int32 × Hp)) = some _ := hf
    cases hf
  | succ n ih =>
    intro h v0 v1 hf
    rw [f_X4_readStair_26] at hf
    refine V_iload_n C dX4_readStair_26 rfl 1 rfl ?_
    refine V_bipush (v := (32 : Int32)) C dX4_readStair_27 (by decide) ?_
    refine V_icmp_gt C 106 dX4_readStair_29 (by decide) (fun c16 => ?_) (fun c16 => ?_)
    · have hf := i_t c16 hf
      refine V_sub (lv' := [(0, vR 4 (some v0))]) [0] rfl ?_
      exact p_X4_readStair_106 C hQ hf
    · have hf := i_f c16 hf
      refine V_aload_n C dX4_readStair_32 rfl 0 rfl ?_
      obtain ⟨q17, eq17, hf⟩ := o_b hf
      refine V_getR C fl_X4_18 rfl rfl (by decide) eq17 dX4_readStair_33 ?_
      refine V_getI C fl_X4_36 rfl dX4_readStair_36 ?_
      refine V_if_ne C 106 dX4_readStair_39 (by decide) (fun c18 => ?_) (fun c18 => ?_)
      · have hf := i_f c18 hf
        refine V_sub (lv' := [(0, vR 4 (some v0))]) [0] rfl ?_
        exact p_X4_readStair_106 C hQ hf
      · have hf := i_t c18 hf
        refine V_aload_n C dX4_readStair_42 rfl 0 rfl ?_
        refine V_iload_n C dX4_readStair_43 rfl 1 rfl ?_
        refine V_bipush (v := (32 : Int32)) C dX4_readStair_44 (by decide) ?_
        refine V_icmp_ge C 53 dX4_readStair_46 (by decide) (fun c19 => ?_) (fun c19 => ?_)
        · have hf := i_t c19 hf
          refine V_iconst (v := (0 : Int32)) C dX4_readStair_53 (by decide) ?_
          refine V_sub (lv' := [(0, vR 4 (some v0)), (1, vI v1)]) [0, 1] rfl ?_
          exact p_X4_readStair_54 C hQ ih hf
        · have hf := i_f c19 hf
          refine V_iconst (v := (1 : Int32)) C dX4_readStair_49 (by decide) ?_
          refine V_goto C 54 dX4_readStair_50 (by decide) ?_
          refine V_sub (lv' := [(0, vR 4 (some v0)), (1, vI v1)]) [0, 1] rfl ?_
          exact p_X4_readStair_54 C hQ ih hf
def f_X4_readStair (N : Nat) (h : Hp) (v0 : Nat) : Option (Int32 × Hp) := Option.bind (hP h v0 1) (fun q20 => Option.bind (f_X5_clear N h q20) (fun h21 => lt (sI h21 v0 2 (0 : Int32)) (fun h22 => lt (sI h22 v0 3 (0 : Int32)) (fun h23 => Option.bind (hP h23 v0 0) (fun q24 => Option.bind (f_X6_begin N h23 q24) (fun h25 => f_X4_readStair_26 N N h25 v0 (0 : Int32)))))))
set_option maxHeartbeats 4000000 in
set_option maxRecDepth 100000 in
theorem p_X4_readStair {X : XT} {r : Int32} {h' : Hp} (C : CX X cX4_readStair "WaterStair$StairText" 2 (some .int) rmX4_readStair) {N : Nat} {h : Hp} {v0 : Nat} (hQ : QX X (some (vI r)) h' rmX4_readStair.cells rmX4_readStair.slots) (hf : f_X4_readStair N h v0 = some ((r, h'))) : V X 0 0 h 0 [(0, vR 4 (some v0))] [] := by
  unfold f_X4_readStair at hf
  refine V_aload_n C dX4_readStair_0 rfl 0 rfl ?_
  obtain ⟨q20, eq20, hf⟩ := o_b hf
  refine V_getR C fl_X4_22 rfl rfl (by decide) eq20 dX4_readStair_1 ?_
  obtain ⟨h21, eh21, hf⟩ := o_b hf
  refine V_callV (as := []) (st := []) C ml_X4_26 fx5 (ct_X5_clear eh21) rfl ⟨by decide, by decide, by decide, by decide⟩ (Nat.le_of_ble_eq_true rfl) rfl dX4_readStair_4 (cs' := 0) (sl' := 0) rfl rfl ?_
  refine V_aload_n C dX4_readStair_7 rfl 0 rfl ?_
  refine V_iconst (v := (0 : Int32)) C dX4_readStair_8 (by decide) ?_
  obtain ⟨h22, eh22, hf⟩ := o_l hf
  refine V_putI C nf_X4_9 rfl (okI_z (Or.inl rfl)) dX4_readStair_9 (V_eqH eh22 ?_)
  refine V_aload_n C dX4_readStair_12 rfl 0 rfl ?_
  refine V_iconst (v := (0 : Int32)) C dX4_readStair_13 (by decide) ?_
  obtain ⟨h23, eh23, hf⟩ := o_l hf
  refine V_putI C nf_X4_15 rfl (okI_z (Or.inl rfl)) dX4_readStair_14 (V_eqH eh23 ?_)
  refine V_aload_n C dX4_readStair_17 rfl 0 rfl ?_
  obtain ⟨q24, eq24, hf⟩ := o_b hf
  refine V_getR C fl_X4_18 rfl rfl (by decide) eq24 dX4_readStair_18 ?_
  obtain ⟨h25, eh25, hf⟩ := o_b hf
  refine V_callV (as := []) (st := []) C ml_X4_31 fx6 (ct_X6_begin eh25) rfl ⟨by decide, by decide, by decide, by decide⟩ (Nat.le_of_ble_eq_true rfl) rfl dX4_readStair_21 (cs' := 0) (sl' := 0) rfl rfl ?_
  refine V_iconst (v := (0 : Int32)) C dX4_readStair_24 (by decide) ?_
  refine V_istore_n (lv' := [(1, vI (0 : Int32)), (0, vR 4 (some v0))]) C dX4_readStair_25 rfl (by decide) rfl ?_
  refine V_sub (lv' := [(0, vR 4 (some v0)), (1, vI (0 : Int32))]) [1, 0] rfl ?_
  exact p_X4_readStair_26 C hQ N _ _ _ hf
theorem ct_X4_readStair {r : Int32} {h' : Hp} {N : Nat} {h : Hp} {v0 : Nat} (hf : f_X4_readStair N h v0 = some ((r, h'))) (l : Launch) (G : GT) : MC l G yX4_readStair cX4_readStair 2 (some .int) rmX4_readStair h [vR 4 (some v0)] (some (vI r)) h' := MC_of (by decide) rfl (Nat.le_of_ble_eq_true rfl) rfl (fun X C hQ hin => p_X4_readStair C hQ hf)
abbrev rmX5_init : Room := { frames := 1, cells := 11, slots := 88, locals := 20 }
def f_X5_init (h : Hp) (v0 : Nat) : Option (Hp) := lt (sI h v0 0 (0 : Int32)) (fun h1 => lt (sI h1 v0 1 (0 : Int32)) (fun h2 => lt (sI h2 v0 2 (0 : Int32)) (fun h3 => lt (sI h3 v0 3 (0 : Int32)) (fun h4 => lt (sI h4 v0 4 (0 : Int32)) (fun h5 => lt (sI h5 v0 5 (-1 : Int32)) (fun h6 => lt (sI h6 v0 6 (0 : Int32)) (fun h7 => lt (sI h7 v0 7 (0 : Int32)) (fun h8 => lt (nO h8 10 8) (fun h9 => lt (sP h9 v0 8 (some (hN h8))) (fun h10 => lt (nO h10 10 8) (fun h11 => lt (sP h11 v0 9 (some (hN h10))) (fun h12 => lt (nO h12 10 8) (fun h13 => lt (sP h13 v0 10 (some (hN h12))) (fun h14 => lt (nO h14 10 8) (fun h15 => lt (sP h15 v0 11 (some (hN h14))) (fun h16 => lt (nO h16 10 6) (fun h17 => lt (sP h17 v0 12 (some (hN h16))) (fun h18 => lt (nO h18 10 6) (fun h19 => lt (sP h19 v0 13 (some (hN h18))) (fun h20 => lt (nO h20 10 6) (fun h21 => lt (sP h21 v0 14 (some (hN h20))) (fun h22 => lt (nO h22 10 6) (fun h23 => lt (sP h23 v0 15 (some (hN h22))) (fun h24 => lt (nO h24 10 6) (fun h25 => lt (sP h25 v0 16 (some (hN h24))) (fun h26 => lt (nO h26 10 10) (fun h27 => lt (sP h27 v0 17 (some (hN h26))) (fun h28 => lt (nO h28 10 16) (fun h29 => lt (sP h29 v0 18 (some (hN h28))) (fun h30 => some h30))))))))))))))))))))))))))))))
set_option maxHeartbeats 4000000 in
set_option maxRecDepth 100000 in
theorem p_X5_init {X : XT} {h' : Hp} (C : CX X cX5_init "WaterStair$State" 1 none rmX5_init) (hin : X.2.2.2.2.2.2.2.2.1.name = "<init>") {h : Hp} {v0 : Nat} (hQ : QX X none h' rmX5_init.cells rmX5_init.slots) (hf : f_X5_init h v0 = some h') : V X 0 0 h 0 [(0, vR 5 (some v0))] [] := by
  unfold f_X5_init at hf
  refine V_aload_n C dX5_init_0 rfl 0 rfl ?_
  refine V_obj C (by decide) ob_X5_3 ob_i ob_c (by decide) (by decide) dX5_init_1 ?_
  refine V_aload_n C dX5_init_4 rfl 0 rfl ?_
  refine V_iconst (v := (0 : Int32)) C dX5_init_5 (by decide) ?_
  obtain ⟨h1, eh1, hf⟩ := o_l hf
  refine V_putI C nf_X5_9 rfl (okI_int _) dX5_init_6 (V_eqH eh1 ?_)
  refine V_aload_n C dX5_init_9 rfl 0 rfl ?_
  refine V_iconst (v := (0 : Int32)) C dX5_init_10 (by decide) ?_
  obtain ⟨h2, eh2, hf⟩ := o_l hf
  refine V_putI C nf_X5_15 rfl (okI_int _) dX5_init_11 (V_eqH eh2 ?_)
  refine V_aload_n C dX5_init_14 rfl 0 rfl ?_
  refine V_iconst (v := (0 : Int32)) C dX5_init_15 (by decide) ?_
  obtain ⟨h3, eh3, hf⟩ := o_l hf
  refine V_putI C nf_X5_18 rfl (okI_int _) dX5_init_16 (V_eqH eh3 ?_)
  refine V_aload_n C dX5_init_19 rfl 0 rfl ?_
  refine V_iconst (v := (0 : Int32)) C dX5_init_20 (by decide) ?_
  obtain ⟨h4, eh4, hf⟩ := o_l hf
  refine V_putI C nf_X5_21 rfl (okI_int _) dX5_init_21 (V_eqH eh4 ?_)
  refine V_aload_n C dX5_init_24 rfl 0 rfl ?_
  refine V_iconst (v := (0 : Int32)) C dX5_init_25 (by decide) ?_
  obtain ⟨h5, eh5, hf⟩ := o_l hf
  refine V_putI C nf_X5_24 rfl (okI_int _) dX5_init_26 (V_eqH eh5 ?_)
  refine V_aload_n C dX5_init_29 rfl 0 rfl ?_
  refine V_iconst (v := (-1 : Int32)) C dX5_init_30 (by decide) ?_
  obtain ⟨h6, eh6, hf⟩ := o_l hf
  refine V_putI C nf_X5_27 rfl (okI_int _) dX5_init_31 (V_eqH eh6 ?_)
  refine V_aload_n C dX5_init_34 rfl 0 rfl ?_
  refine V_iconst (v := (0 : Int32)) C dX5_init_35 (by decide) ?_
  obtain ⟨h7, eh7, hf⟩ := o_l hf
  refine V_putI C nf_X5_30 rfl (okI_int _) dX5_init_36 (V_eqH eh7 ?_)
  refine V_aload_n C dX5_init_39 rfl 0 rfl ?_
  refine V_iconst (v := (0 : Int32)) C dX5_init_40 (by decide) ?_
  obtain ⟨h8, eh8, hf⟩ := o_l hf
  refine V_putI C nf_X5_33 rfl (okI_int _) dX5_init_41 (V_eqH eh8 ?_)
  refine V_aload_n C dX5_init_44 rfl 0 rfl ?_
  refine V_bipush (v := (8 : Int32)) C dX5_init_45 (by decide) ?_
  obtain ⟨h9, eh9, hf⟩ := o_l hf
  refine V_newi C (by decide) (by decide : Int32.toNatClampNeg (8 : Int32) = 8) (by decide) kA10 (by decide) (by decide) dX5_init_47 (V_eqH eh9 ?_)
  obtain ⟨h10, eh10, hf⟩ := o_l hf
  refine V_putR C hin ff_X5_36 rfl (fun _ => ⟨rfl, rfl⟩) rfl (by decide) dX5_init_49 (V_eqH eh10 ?_)
  refine V_aload_n C dX5_init_52 rfl 0 rfl ?_
  refine V_bipush (v := (8 : Int32)) C dX5_init_53 (by decide) ?_
  obtain ⟨h11, eh11, hf⟩ := o_l hf
  refine V_newi C (by decide) (by decide : Int32.toNatClampNeg (8 : Int32) = 8) (by decide) kA10 (by decide) (by decide) dX5_init_55 (V_eqH eh11 ?_)
  obtain ⟨h12, eh12, hf⟩ := o_l hf
  refine V_putR C hin ff_X5_40 rfl (fun _ => ⟨rfl, rfl⟩) rfl (by decide) dX5_init_57 (V_eqH eh12 ?_)
  refine V_aload_n C dX5_init_60 rfl 0 rfl ?_
  refine V_bipush (v := (8 : Int32)) C dX5_init_61 (by decide) ?_
  obtain ⟨h13, eh13, hf⟩ := o_l hf
  refine V_newi C (by decide) (by decide : Int32.toNatClampNeg (8 : Int32) = 8) (by decide) kA10 (by decide) (by decide) dX5_init_63 (V_eqH eh13 ?_)
  obtain ⟨h14, eh14, hf⟩ := o_l hf
  refine V_putR C hin ff_X5_43 rfl (fun _ => ⟨rfl, rfl⟩) rfl (by decide) dX5_init_65 (V_eqH eh14 ?_)
  refine V_aload_n C dX5_init_68 rfl 0 rfl ?_
  refine V_bipush (v := (8 : Int32)) C dX5_init_69 (by decide) ?_
  obtain ⟨h15, eh15, hf⟩ := o_l hf
  refine V_newi C (by decide) (by decide : Int32.toNatClampNeg (8 : Int32) = 8) (by decide) kA10 (by decide) (by decide) dX5_init_71 (V_eqH eh15 ?_)
  obtain ⟨h16, eh16, hf⟩ := o_l hf
  refine V_putR C hin ff_X5_46 rfl (fun _ => ⟨rfl, rfl⟩) rfl (by decide) dX5_init_73 (V_eqH eh16 ?_)
  refine V_aload_n C dX5_init_76 rfl 0 rfl ?_
  refine V_bipush (v := (6 : Int32)) C dX5_init_77 (by decide) ?_
  obtain ⟨h17, eh17, hf⟩ := o_l hf
  refine V_newi C (by decide) (by decide : Int32.toNatClampNeg (6 : Int32) = 6) (by decide) kA10 (by decide) (by decide) dX5_init_79 (V_eqH eh17 ?_)
  obtain ⟨h18, eh18, hf⟩ := o_l hf
  refine V_putR C hin ff_X5_49 rfl (fun _ => ⟨rfl, rfl⟩) rfl (by decide) dX5_init_81 (V_eqH eh18 ?_)
  refine V_aload_n C dX5_init_84 rfl 0 rfl ?_
  refine V_bipush (v := (6 : Int32)) C dX5_init_85 (by decide) ?_
  obtain ⟨h19, eh19, hf⟩ := o_l hf
  refine V_newi C (by decide) (by decide : Int32.toNatClampNeg (6 : Int32) = 6) (by decide) kA10 (by decide) (by decide) dX5_init_87 (V_eqH eh19 ?_)
  obtain ⟨h20, eh20, hf⟩ := o_l hf
  refine V_putR C hin ff_X5_52 rfl (fun _ => ⟨rfl, rfl⟩) rfl (by decide) dX5_init_89 (V_eqH eh20 ?_)
  refine V_aload_n C dX5_init_92 rfl 0 rfl ?_
  refine V_bipush (v := (6 : Int32)) C dX5_init_93 (by decide) ?_
  obtain ⟨h21, eh21, hf⟩ := o_l hf
  refine V_newi C (by decide) (by decide : Int32.toNatClampNeg (6 : Int32) = 6) (by decide) kA10 (by decide) (by decide) dX5_init_95 (V_eqH eh21 ?_)
  obtain ⟨h22, eh22, hf⟩ := o_l hf
  refine V_putR C hin ff_X5_55 rfl (fun _ => ⟨rfl, rfl⟩) rfl (by decide) dX5_init_97 (V_eqH eh22 ?_)
  refine V_aload_n C dX5_init_100 rfl 0 rfl ?_
  refine V_bipush (v := (6 : Int32)) C dX5_init_101 (by decide) ?_
  obtain ⟨h23, eh23, hf⟩ := o_l hf
  refine V_newi C (by decide) (by decide : Int32.toNatClampNeg (6 : Int32) = 6) (by decide) kA10 (by decide) (by decide) dX5_init_103 (V_eqH eh23 ?_)
  obtain ⟨h24, eh24, hf⟩ := o_l hf
  refine V_putR C hin ff_X5_58 rfl (fun _ => ⟨rfl, rfl⟩) rfl (by decide) dX5_init_105 (V_eqH eh24 ?_)
  refine V_aload_n C dX5_init_108 rfl 0 rfl ?_
  refine V_bipush (v := (6 : Int32)) C dX5_init_109 (by decide) ?_
  obtain ⟨h25, eh25, hf⟩ := o_l hf
  refine V_newi C (by decide) (by decide : Int32.toNatClampNeg (6 : Int32) = 6) (by decide) kA10 (by decide) (by decide) dX5_init_111 (V_eqH eh25 ?_)
  obtain ⟨h26, eh26, hf⟩ := o_l hf
  refine V_putR C hin ff_X5_61 rfl (fun _ => ⟨rfl, rfl⟩) rfl (by decide) dX5_init_113 (V_eqH eh26 ?_)
  refine V_aload_n C dX5_init_116 rfl 0 rfl ?_
  refine V_bipush (v := (10 : Int32)) C dX5_init_117 (by decide) ?_
  obtain ⟨h27, eh27, hf⟩ := o_l hf
  refine V_newi C (by decide) (by decide : Int32.toNatClampNeg (10 : Int32) = 10) (by decide) kA10 (by decide) (by decide) dX5_init_119 (V_eqH eh27 ?_)
  obtain ⟨h28, eh28, hf⟩ := o_l hf
  refine V_putR C hin ff_X5_64 rfl (fun _ => ⟨rfl, rfl⟩) rfl (by decide) dX5_init_121 (V_eqH eh28 ?_)
  refine V_aload_n C dX5_init_124 rfl 0 rfl ?_
  refine V_bipush (v := (16 : Int32)) C dX5_init_125 (by decide) ?_
  obtain ⟨h29, eh29, hf⟩ := o_l hf
  refine V_newi C (by decide) (by decide : Int32.toNatClampNeg (16 : Int32) = 16) (by decide) kA10 (by decide) (by decide) dX5_init_127 (V_eqH eh29 ?_)
  obtain ⟨h30, eh30, hf⟩ := o_l hf
  refine V_putR C hin ff_X5_67 rfl (fun _ => ⟨rfl, rfl⟩) rfl (by decide) dX5_init_129 (V_eqH eh30 ?_)
  have hf := Option.some.inj hf
  subst hf
  exact V_vret C hQ dX5_init_132
theorem ct_X5_init {h' : Hp} {h : Hp} {v0 : Nat} (hf : f_X5_init h v0 = some h') (l : Launch) (G : GT) : MC l G yX5_init cX5_init 1 none rmX5_init h [vR 5 (some v0)] none h' := MC_of (by decide) rfl (Nat.le_of_ble_eq_true rfl) rfl (fun X C hQ hin => p_X5_init C hin hQ hf)
abbrev rmX5_partOf : Room := { frames := 1, cells := 0, slots := 0, locals := 20 }
def f_X5_partOf (h : Hp) (v0 : Int32) (v1 : Int32) : Option (Int32) := if v1 = 0 then (Option.bind (f_X5_stepOf h v0) (fun r5 => some r5)) else (if v1 = (1 : Int32) then (Option.bind (f_X5_downOf h v0) (fun r4 => some r4)) else (Option.bind (f_X5_upOf h v0) (fun r3 => some r3)))
set_option maxHeartbeats 4000000 in
set_option maxRecDepth 100000 in
theorem p_X5_partOf {X : XT} {r : Int32} (C : CX X cX5_partOf "WaterStair$State" 2 (some .int) rmX5_partOf) {h : Hp} {v0 : Int32} {v1 : Int32} (hQ : QX X (some (vI r)) h rmX5_partOf.cells rmX5_partOf.slots) (hf : f_X5_partOf h v0 v1 = some r) : V X 0 0 h 0 [(0, vI v0), (1, vI v1)] [] := by
  unfold f_X5_partOf at hf
  refine V_iload_n C dX5_partOf_0 rfl 1 rfl ?_
  refine V_if_ne C 9 dX5_partOf_1 (by decide) (fun c1 => ?_) (fun c1 => ?_)
  · have hf := i_f c1 hf
    refine V_iload_n C dX5_partOf_9 rfl 1 rfl ?_
    refine V_iconst (v := (1 : Int32)) C dX5_partOf_10 (by decide) ?_
    refine V_icmp_ne C 21 dX5_partOf_11 (by decide) (fun c2 => ?_) (fun c2 => ?_)
    · have hf := i_f c2 hf
      refine V_iload_n C dX5_partOf_21 rfl 0 rfl ?_
      obtain ⟨r3, er3, hf⟩ := o_b hf
      refine V_callS (as := [vI v0]) (st := []) C ml_X5_77 (ct_X5_upOf er3) rfl ⟨by decide, by decide, by decide, by decide⟩ (Nat.le_of_ble_eq_true rfl) rfl dX5_partOf_22 (cs' := 0) (sl' := 0) rfl rfl ?_
      have hf := Option.some.inj hf
      subst hf
      exact V_iret C hQ dX5_partOf_25
    · have hf := i_t c2 hf
      refine V_iload_n C dX5_partOf_14 rfl 0 rfl ?_
      obtain ⟨r4, er4, hf⟩ := o_b hf
      refine V_callS (as := [vI v0]) (st := []) C ml_X5_74 (ct_X5_downOf er4) rfl ⟨by decide, by decide, by decide, by decide⟩ (Nat.le_of_ble_eq_true rfl) rfl dX5_partOf_15 (cs' := 0) (sl' := 0) rfl rfl ?_
      refine V_goto C 25 dX5_partOf_18 (by decide) ?_
      have hf := Option.some.inj hf
      subst hf
      exact V_iret C hQ dX5_partOf_25
  · have hf := i_t c1 hf
    refine V_iload_n C dX5_partOf_4 rfl 0 rfl ?_
    obtain ⟨r5, er5, hf⟩ := o_b hf
    refine V_callS (as := [vI v0]) (st := []) C ml_X5_70 (ct_X5_stepOf er5) rfl ⟨by decide, by decide, by decide, by decide⟩ (Nat.le_of_ble_eq_true rfl) rfl dX5_partOf_5 (cs' := 0) (sl' := 0) rfl rfl ?_
    have hf := Option.some.inj hf
    subst hf
    exact V_iret C hQ dX5_partOf_8
theorem ct_X5_partOf {r : Int32} {h : Hp} {v0 : Int32} {v1 : Int32} (hf : f_X5_partOf h v0 v1 = some r) (l : Launch) (G : GT) : MC l G yX5_partOf cX5_partOf 2 (some .int) rmX5_partOf h [vI v0, vI v1] (some (vI r)) h := MC_of (by decide) rfl (Nat.le_of_ble_eq_true rfl) rfl (fun X C hQ hin => p_X5_partOf C hQ hf)
abbrev rmX5_hasLevel : Room := { frames := 0, cells := 0, slots := 0, locals := 0 }
def f_X5_hasLevel (h : Hp) (v0 : Nat) (v1 : Int32) : Option (Int32) := if v1 < 0 then (some (0 : Int32)) else (if (hI h v0 0) ≤ v1 then (some (0 : Int32)) else (some (1 : Int32)))
set_option maxHeartbeats 4000000 in
set_option maxRecDepth 100000 in
theorem p_X5_hasLevel {X : XT} {r : Int32} (C : CX X cX5_hasLevel "WaterStair$State" 2 (some .boolean) rmX5_hasLevel) {h : Hp} {v0 : Nat} {v1 : Int32} (hQ : QX X (some (vI r)) h rmX5_hasLevel.cells rmX5_hasLevel.slots) (hf : f_X5_hasLevel h v0 v1 = some r) : V X 0 0 h 0 [(0, vR 5 (some v0)), (1, vI v1)] [] := by
  unfold f_X5_hasLevel at hf
  refine V_iload_n C dX5_hasLevel_0 rfl 1 rfl ?_
  refine V_if_lt C 16 dX5_hasLevel_1 (by decide) (fun c1 => ?_) (fun c1 => ?_)
  · have hf := i_t c1 hf
    refine V_iconst (v := (0 : Int32)) C dX5_hasLevel_16 (by decide) ?_
    have hf := Option.some.inj hf
    subst hf
    exact V_zret C (by decide) hQ dX5_hasLevel_17
  · have hf := i_f c1 hf
    refine V_iload_n C dX5_hasLevel_4 rfl 1 rfl ?_
    refine V_aload_n C dX5_hasLevel_5 rfl 0 rfl ?_
    refine V_getI C fl_X5_9 rfl dX5_hasLevel_6 ?_
    refine V_icmp_ge C 16 dX5_hasLevel_9 (by decide) (fun c2 => ?_) (fun c2 => ?_)
    · have hf := i_t c2 hf
      refine V_iconst (v := (0 : Int32)) C dX5_hasLevel_16 (by decide) ?_
      have hf := Option.some.inj hf
      subst hf
      exact V_zret C (by decide) hQ dX5_hasLevel_17
    · have hf := i_f c2 hf
      refine V_iconst (v := (1 : Int32)) C dX5_hasLevel_12 (by decide) ?_
      refine V_goto C 17 dX5_hasLevel_13 (by decide) ?_
      have hf := Option.some.inj hf
      subst hf
      exact V_zret C (by decide) hQ dX5_hasLevel_17
theorem ct_X5_hasLevel {r : Int32} {h : Hp} {v0 : Nat} {v1 : Int32} (hf : f_X5_hasLevel h v0 v1 = some r) (l : Launch) (G : GT) : MC l G yX5_hasLevel cX5_hasLevel 2 (some .boolean) rmX5_hasLevel h [vR 5 (some v0), vI v1] (some (vI r)) h := MC_of (by decide) rfl (Nat.le_of_ble_eq_true rfl) rfl (fun X C hQ hin => p_X5_hasLevel C hQ hf)
abbrev rmX5_isSet : Room := { frames := 0, cells := 0, slots := 0, locals := 0 }
def f_X5_isSet (h : Hp) (v0 : Nat) (v1 : Int32) : Option (Int32) := if (hI h v0 0) ≤ 0 then (some (0 : Int32)) else (if v1 < 0 then (some (0 : Int32)) else (if ((1 : Int32) <<< ((hI h v0 1) &&& 31)) ≤ v1 then (some (0 : Int32)) else (some (1 : Int32))))
set_option maxHeartbeats 4000000 in
set_option maxRecDepth 100000 in
theorem p_X5_isSet {X : XT} {r : Int32} (C : CX X cX5_isSet "WaterStair$State" 2 (some .boolean) rmX5_isSet) {h : Hp} {v0 : Nat} {v1 : Int32} (hQ : QX X (some (vI r)) h rmX5_isSet.cells rmX5_isSet.slots) (hf : f_X5_isSet h v0 v1 = some r) : V X 0 0 h 0 [(0, vR 5 (some v0)), (1, vI v1)] [] := by
  unfold f_X5_isSet at hf
  refine V_aload_n C dX5_isSet_0 rfl 0 rfl ?_
  refine V_getI C fl_X5_9 rfl dX5_isSet_1 ?_
  refine V_if_le C 25 dX5_isSet_4 (by decide) (fun c1 => ?_) (fun c1 => ?_)
  · have hf := i_t c1 hf
    refine V_iconst (v := (0 : Int32)) C dX5_isSet_25 (by decide) ?_
    have hf := Option.some.inj hf
    subst hf
    exact V_zret C (by decide) hQ dX5_isSet_26
  · have hf := i_f c1 hf
    refine V_iload_n C dX5_isSet_7 rfl 1 rfl ?_
    refine V_if_lt C 25 dX5_isSet_8 (by decide) (fun c2 => ?_) (fun c2 => ?_)
    · have hf := i_t c2 hf
      refine V_iconst (v := (0 : Int32)) C dX5_isSet_25 (by decide) ?_
      have hf := Option.some.inj hf
      subst hf
      exact V_zret C (by decide) hQ dX5_isSet_26
    · have hf := i_f c2 hf
      refine V_iload_n C dX5_isSet_11 rfl 1 rfl ?_
      refine V_iconst (v := (1 : Int32)) C dX5_isSet_12 (by decide) ?_
      refine V_aload_n C dX5_isSet_13 rfl 0 rfl ?_
      refine V_getI C fl_X5_15 rfl dX5_isSet_14 ?_
      refine V_ishl C dX5_isSet_17 ?_
      refine V_icmp_ge C 25 dX5_isSet_18 (by decide) (fun c3 => ?_) (fun c3 => ?_)
      · have hf := i_t c3 hf
        refine V_iconst (v := (0 : Int32)) C dX5_isSet_25 (by decide) ?_
        have hf := Option.some.inj hf
        subst hf
        exact V_zret C (by decide) hQ dX5_isSet_26
      · have hf := i_f c3 hf
        refine V_iconst (v := (1 : Int32)) C dX5_isSet_21 (by decide) ?_
        refine V_goto C 26 dX5_isSet_22 (by decide) ?_
        have hf := Option.some.inj hf
        subst hf
        exact V_zret C (by decide) hQ dX5_isSet_26
theorem ct_X5_isSet {r : Int32} {h : Hp} {v0 : Nat} {v1 : Int32} (hf : f_X5_isSet h v0 v1 = some r) (l : Launch) (G : GT) : MC l G yX5_isSet cX5_isSet 2 (some .boolean) rmX5_isSet h [vR 5 (some v0), vI v1] (some (vI r)) h := MC_of (by decide) rfl (Nat.le_of_ble_eq_true rfl) rfl (fun X C hQ hin => p_X5_isSet C hQ hf)
abbrev rmX5_tollOf : Room := { frames := 0, cells := 0, slots := 0, locals := 0 }
def f_X5_tollOf_4 (N : Nat) : Nat → Hp → Nat → Int32 → Int32 → Int32 → Option (Int32)
  | 0, _, _, _, _, _ => none
  | n + 1, h, v0, v1, v2, v3 => if (hI h v0 1) ≤ v3 then (some v2) else (Option.bind (hP h v0 16) (fun q2 => if 0 ≤ v3 ∧ v3.toNatClampNeg < hL h q2 then (lt (v2 + (((v1 >>> (v3 &&& 31)) &&& (1 : Int32)) * (hI h q2 (v3.toNatClampNeg)))) (fun y4 => f_X5_tollOf_4 N n h v0 v1 y4 (v3 + (1 : Int32)))) else none))
set_option maxHeartbeats 4000000 in
set_option maxRecDepth 100000 in
theorem p_X5_tollOf_4 {X : XT} {r : Int32} {h : Hp} (C : CX X cX5_tollOf "WaterStair$State" 4 (some .int) rmX5_tollOf) (hQ : QX X (some (vI r)) h rmX5_tollOf.cells rmX5_tollOf.slots) {N : Nat}  : ∀ (n : Nat) (v0 : Nat) (v1 : Int32) (v2 : Int32) (v3 : Int32), f_X5_tollOf_4 N n h v0 v1 v2 v3 = some r → V X 0 0 h 4 [(0, vR 5 (some v0)), (1, vI v1), (2, vI v2), (3, vI v3)] [] := by
  intro n
  induction n with
  | zero =>
    intro v0 v1 v2 v3 hf
    have hf : (none : Option (Int32)) = some _ := hf
    cases hf
  | succ n ih =>
    intro v0 v1 v2 v3 hf
    rw [f_X5_tollOf_4] at hf
    refine V_iload_n C dX5_tollOf_4 rfl 3 rfl ?_
    refine V_aload_n C dX5_tollOf_5 rfl 0 rfl ?_
    refine V_getI C fl_X5_15 rfl dX5_tollOf_6 ?_
    refine V_icmp_ge C 33 dX5_tollOf_9 (by decide) (fun c1 => ?_) (fun c1 => ?_)
    · have hf := i_t c1 hf
      refine V_iload_n C dX5_tollOf_33 rfl 2 rfl ?_
      have hf := Option.some.inj hf
      subst hf
      exact V_iret C hQ dX5_tollOf_34
    · have hf := i_f c1 hf
      refine V_iload_n C dX5_tollOf_12 rfl 2 rfl ?_
      refine V_iload_n C dX5_tollOf_13 rfl 1 rfl ?_
      refine V_iload_n C dX5_tollOf_14 rfl 3 rfl ?_
      refine V_ishr C dX5_tollOf_15 ?_
      refine V_iconst (v := (1 : Int32)) C dX5_tollOf_16 (by decide) ?_
      refine V_iand C dX5_tollOf_17 ?_
      refine V_aload_n C dX5_tollOf_18 rfl 0 rfl ?_
      obtain ⟨q2, eq2, hf⟩ := o_b hf
      refine V_getR C fl_X5_61 rfl rfl (by decide) eq2 dX5_tollOf_19 ?_
      refine V_iload_n C dX5_tollOf_22 rfl 3 rfl ?_
      obtain ⟨g3, hf⟩ := o_if hf
      refine V_iald C (vp_g g3) rfl dX5_tollOf_23 ?_
      refine V_imul C dX5_tollOf_24 ?_
      refine V_iadd C dX5_tollOf_25 ?_
      obtain ⟨y4, ey4, hf⟩ := o_l hf
      refine V_eqI ey4 ?_
      refine V_istore_n (lv' := [(2, vI y4), (0, vR 5 (some v0)), (1, vI v1), (3, vI v3)]) C dX5_tollOf_26 rfl (by decide) rfl ?_
      refine V_iinc (lv' := [(3, vI (v3 + (1 : Int32))), (2, vI y4), (0, vR 5 (some v0)), (1, vI v1)]) C dX5_tollOf_27 3 rfl (congrArg (v3 + ·) (by decide : Int32.ofInt (1) = (1 : Int32))) (by decide) rfl ?_
      refine V_goto C 4 dX5_tollOf_30 (by decide) ?_
      refine V_sub (lv' := [(0, vR 5 (some v0)), (1, vI v1), (2, vI y4), (3, vI (v3 + (1 : Int32)))]) [2, 3, 1, 0] rfl ?_
      exact ih _ _ _ _ hf
def f_X5_tollOf (N : Nat) (h : Hp) (v0 : Nat) (v1 : Int32) : Option (Int32) := f_X5_tollOf_4 N N h v0 v1 (0 : Int32) (0 : Int32)
set_option maxHeartbeats 4000000 in
set_option maxRecDepth 100000 in
theorem p_X5_tollOf {X : XT} {r : Int32} (C : CX X cX5_tollOf "WaterStair$State" 4 (some .int) rmX5_tollOf) {N : Nat} {h : Hp} {v0 : Nat} {v1 : Int32} (hQ : QX X (some (vI r)) h rmX5_tollOf.cells rmX5_tollOf.slots) (hf : f_X5_tollOf N h v0 v1 = some r) : V X 0 0 h 0 [(0, vR 5 (some v0)), (1, vI v1)] [] := by
  unfold f_X5_tollOf at hf
  refine V_iconst (v := (0 : Int32)) C dX5_tollOf_0 (by decide) ?_
  refine V_istore_n (lv' := [(2, vI (0 : Int32)), (0, vR 5 (some v0)), (1, vI v1)]) C dX5_tollOf_1 rfl (by decide) rfl ?_
  refine V_iconst (v := (0 : Int32)) C dX5_tollOf_2 (by decide) ?_
  refine V_istore_n (lv' := [(3, vI (0 : Int32)), (2, vI (0 : Int32)), (0, vR 5 (some v0)), (1, vI v1)]) C dX5_tollOf_3 rfl (by decide) rfl ?_
  refine V_sub (lv' := [(0, vR 5 (some v0)), (1, vI v1), (2, vI (0 : Int32)), (3, vI (0 : Int32))]) [2, 3, 1, 0] rfl ?_
  exact p_X5_tollOf_4 C hQ N _ _ _ _ hf
theorem ct_X5_tollOf {r : Int32} {N : Nat} {h : Hp} {v0 : Nat} {v1 : Int32} (hf : f_X5_tollOf N h v0 v1 = some r) (l : Launch) (G : GT) : MC l G yX5_tollOf cX5_tollOf 4 (some .int) rmX5_tollOf h [vR 5 (some v0), vI v1] (some (vI r)) h := MC_of (by decide) rfl (Nat.le_of_ble_eq_true rfl) rfl (fun X C hQ hin => p_X5_tollOf C hQ hf)
abbrev rmX5_isDearer : Room := { frames := 1, cells := 0, slots := 0, locals := 23 }
def f_X5_isDearer (N : Nat) (h : Hp) (v0 : Nat) (v1 : Int32) (v2 : Int32) : Option (Int32) := Option.bind (f_X5_tollOf N h v0 v1) (fun r1 => Option.bind (f_X5_tollOf N h v0 v2) (fun r2 => if 0 < (r1 - r2) then (some (1 : Int32)) else (if r1 - r2 = 0 then (Option.bind (f_J6_bitCount_0f7a4 h v1) (fun r5 => Option.bind (f_J6_bitCount_0f7a4 h v2) (fun r6 => if r6 ≤ r5 then (some (0 : Int32)) else (some (1 : Int32))))) else (some (0 : Int32)))))
set_option maxHeartbeats 4000000 in
set_option maxRecDepth 100000 in
theorem p_X5_isDearer {X : XT} {r : Int32} (C : CX X cX5_isDearer "WaterStair$State" 4 (some .boolean) rmX5_isDearer) {N : Nat} {h : Hp} {v0 : Nat} {v1 : Int32} {v2 : Int32} (hQ : QX X (some (vI r)) h rmX5_isDearer.cells rmX5_isDearer.slots) (hf : f_X5_isDearer N h v0 v1 v2 = some r) : V X 0 0 h 0 [(0, vR 5 (some v0)), (1, vI v1), (2, vI v2)] [] := by
  unfold f_X5_isDearer at hf
  refine V_aload_n C dX5_isDearer_0 rfl 0 rfl ?_
  refine V_iload_n C dX5_isDearer_1 rfl 1 rfl ?_
  obtain ⟨r1, er1, hf⟩ := o_b hf
  refine V_callV (as := [vI v1]) (st := []) C ml_X5_102 fx5 (ct_X5_tollOf er1) rfl ⟨by decide, by decide, by decide, by decide⟩ (Nat.le_of_ble_eq_true rfl) rfl dX5_isDearer_2 (cs' := 0) (sl' := 0) rfl rfl ?_
  refine V_aload_n C dX5_isDearer_5 rfl 0 rfl ?_
  refine V_iload_n C dX5_isDearer_6 rfl 2 rfl ?_
  obtain ⟨r2, er2, hf⟩ := o_b hf
  refine V_callV (as := [vI v2]) (st := [vI r1]) C ml_X5_102 fx5 (ct_X5_tollOf er2) rfl ⟨by decide, by decide, by decide, by decide⟩ (Nat.le_of_ble_eq_true rfl) rfl dX5_isDearer_7 (cs' := 0) (sl' := 0) rfl rfl ?_
  refine V_isub C dX5_isDearer_10 ?_
  refine V_istore_n (lv' := [(3, vI (r1 - r2)), (0, vR 5 (some v0)), (1, vI v1), (2, vI v2)]) C dX5_isDearer_11 rfl (by decide) rfl ?_
  refine V_iload_n C dX5_isDearer_12 rfl 0 rfl ?_
  refine V_if_gt C 31 dX5_isDearer_13 (by decide) (fun c3 => ?_) (fun c3 => ?_)
  · have hf := i_t c3 hf
    refine V_iconst (v := (1 : Int32)) C dX5_isDearer_31 (by decide) ?_
    refine V_goto C 36 dX5_isDearer_32 (by decide) ?_
    have hf := Option.some.inj hf
    subst hf
    exact V_zret C (by decide) hQ dX5_isDearer_36
  · have hf := i_f c3 hf
    refine V_iload_n C dX5_isDearer_16 rfl 0 rfl ?_
    refine V_if_ne C 35 dX5_isDearer_17 (by decide) (fun c4 => ?_) (fun c4 => ?_)
    · have hf := i_f c4 hf
      refine V_iconst (v := (0 : Int32)) C dX5_isDearer_35 (by decide) ?_
      have hf := Option.some.inj hf
      subst hf
      exact V_zret C (by decide) hQ dX5_isDearer_36
    · have hf := i_t c4 hf
      refine V_iload_n C dX5_isDearer_20 rfl 2 rfl ?_
      obtain ⟨r5, er5, hf⟩ := o_b hf
      refine V_callS (as := [vI v1]) (st := []) C ml_X5_105 (ct_J6_bitCount_0f7a4 er5) rfl ⟨by decide, by decide, by decide, by decide⟩ (Nat.le_of_ble_eq_true rfl) rfl dX5_isDearer_21 (cs' := 0) (sl' := 0) rfl rfl ?_
      refine V_iload_n C dX5_isDearer_24 rfl 3 rfl ?_
      obtain ⟨r6, er6, hf⟩ := o_b hf
      refine V_callS (as := [vI v2]) (st := [vI r5]) C ml_X5_105 (ct_J6_bitCount_0f7a4 er6) rfl ⟨by decide, by decide, by decide, by decide⟩ (Nat.le_of_ble_eq_true rfl) rfl dX5_isDearer_25 (cs' := 0) (sl' := 0) rfl rfl ?_
      refine V_icmp_ge C 35 dX5_isDearer_28 (by decide) (fun c7 => ?_) (fun c7 => ?_)
      · have hf := i_t c7 hf
        refine V_iconst (v := (0 : Int32)) C dX5_isDearer_35 (by decide) ?_
        have hf := Option.some.inj hf
        subst hf
        exact V_zret C (by decide) hQ dX5_isDearer_36
      · have hf := i_f c7 hf
        refine V_iconst (v := (1 : Int32)) C dX5_isDearer_31 (by decide) ?_
        refine V_goto C 36 dX5_isDearer_32 (by decide) ?_
        have hf := Option.some.inj hf
        subst hf
        exact V_zret C (by decide) hQ dX5_isDearer_36
theorem ct_X5_isDearer {r : Int32} {N : Nat} {h : Hp} {v0 : Nat} {v1 : Int32} {v2 : Int32} (hf : f_X5_isDearer N h v0 v1 v2 = some r) (l : Launch) (G : GT) : MC l G yX5_isDearer cX5_isDearer 4 (some .boolean) rmX5_isDearer h [vR 5 (some v0), vI v1, vI v2] (some (vI r)) h := MC_of (by decide) rfl (Nat.le_of_ble_eq_true rfl) rfl (fun X C hQ hin => p_X5_isDearer C hQ hf)
abbrev rmX5_passersOf : Room := { frames := 0, cells := 0, slots := 0, locals := 0 }
def f_X5_passersOf_51 (N : Nat) (s4 : Hp → Nat → Int32 → Int32 → Int32 → Option (Int32)) (h : Hp) (v0 : Nat) (v1 : Int32) (v2 : Int32) (v3 : Int32) : Option (Int32) := s4 h v0 v1 v2 (v3 + (1 : Int32))
set_option maxHeartbeats 4000000 in
set_option maxRecDepth 100000 in
theorem p_X5_passersOf_51 {X : XT} {r : Int32} {h : Hp} (C : CX X cX5_passersOf "WaterStair$State" 5 (some .int) rmX5_passersOf) (hQ : QX X (some (vI r)) h rmX5_passersOf.cells rmX5_passersOf.slots) {N : Nat} {s4 : Hp → Nat → Int32 → Int32 → Int32 → Option (Int32)} (S4 : ∀ (v0 : Nat) (v1 : Int32) (v2 : Int32) (v3 : Int32), s4 h v0 v1 v2 v3 = some r → V X 0 0 h 4 [(0, vR 5 (some v0)), (1, vI v1), (2, vI v2), (3, vI v3)] [])  {v0 : Nat} {v1 : Int32} {v2 : Int32} {v3 : Int32} (hf : f_X5_passersOf_51 N s4 h v0 v1 v2 v3 = some r) : V X 0 0 h 51 [(0, vR 5 (some v0)), (1, vI v1), (2, vI v2), (3, vI v3)] [] := by
  unfold f_X5_passersOf_51 at hf
  refine V_iinc (lv' := [(3, vI (v3 + (1 : Int32))), (0, vR 5 (some v0)), (1, vI v1), (2, vI v2)]) C dX5_passersOf_51 3 rfl (congrArg (v3 + ·) (by decide : Int32.ofInt (1) = (1 : Int32))) (by decide) rfl ?_
  refine V_goto C 4 dX5_passersOf_54 (by decide) ?_
  refine V_sub (lv' := [(0, vR 5 (some v0)), (1, vI v1), (2, vI v2), (3, vI (v3 + (1 : Int32)))]) [1, 2, 3, 0] rfl ?_
  exact S4 _ _ _ _ hf
def f_X5_passersOf_45 (N : Nat) (s4 : Hp → Nat → Int32 → Int32 → Int32 → Option (Int32)) (h : Hp) (v0 : Nat) (v1 : Int32) (v2 : Int32) (v3 : Int32) (s1_ : Int32) (s0_ : Int32) : Option (Int32) := if s0_ = s1_ then (f_X5_passersOf_51 N s4 h v0 v1 (v2 + (1 : Int32)) v3) else (f_X5_passersOf_51 N s4 h v0 v1 v2 v3)
set_option maxHeartbeats 4000000 in
set_option maxRecDepth 100000 in
theorem p_X5_passersOf_45 {X : XT} {r : Int32} {h : Hp} (C : CX X cX5_passersOf "WaterStair$State" 5 (some .int) rmX5_passersOf) (hQ : QX X (some (vI r)) h rmX5_passersOf.cells rmX5_passersOf.slots) {N : Nat} {s4 : Hp → Nat → Int32 → Int32 → Int32 → Option (Int32)} (S4 : ∀ (v0 : Nat) (v1 : Int32) (v2 : Int32) (v3 : Int32), s4 h v0 v1 v2 v3 = some r → V X 0 0 h 4 [(0, vR 5 (some v0)), (1, vI v1), (2, vI v2), (3, vI v3)] [])  {v0 : Nat} {v1 : Int32} {v2 : Int32} {v3 : Int32} {s1_ : Int32} {s0_ : Int32} (hf : f_X5_passersOf_45 N s4 h v0 v1 v2 v3 s1_ s0_ = some r) : V X 0 0 h 45 [(0, vR 5 (some v0)), (1, vI v1), (2, vI v2), (3, vI v3)] [vI s1_, vI s0_] := by
  unfold f_X5_passersOf_45 at hf
  refine V_icmp_ne C 51 dX5_passersOf_45 (by decide) (fun c1 => ?_) (fun c1 => ?_)
  · have hf := i_f c1 hf
    refine V_sub (lv' := [(0, vR 5 (some v0)), (1, vI v1), (2, vI v2), (3, vI v3)]) [0, 1, 2, 3] rfl ?_
    exact p_X5_passersOf_51 C hQ S4 hf
  · have hf := i_t c1 hf
    refine V_iinc (lv' := [(2, vI (v2 + (1 : Int32))), (0, vR 5 (some v0)), (1, vI v1), (3, vI v3)]) C dX5_passersOf_48 2 rfl (congrArg (v2 + ·) (by decide : Int32.ofInt (1) = (1 : Int32))) (by decide) rfl ?_
    refine V_sub (lv' := [(0, vR 5 (some v0)), (1, vI v1), (2, vI (v2 + (1 : Int32))), (3, vI v3)]) [1, 2, 0, 3] rfl ?_
    exact p_X5_passersOf_51 C hQ S4 hf
def f_X5_passersOf_27 (N : Nat) (s4 : Hp → Nat → Int32 → Int32 → Int32 → Option (Int32)) (h : Hp) (v0 : Nat) (v1 : Int32) (v2 : Int32) (v3 : Int32) (s0_ : Int32) : Option (Int32) := Option.bind (hP h v0 15) (fun q2 => if 0 ≤ v3 ∧ v3.toNatClampNeg < hL h q2 then (if hI h q2 (v3.toNatClampNeg) = 0 then (f_X5_passersOf_45 N s4 h v0 v1 v2 v3 (1 : Int32) s0_) else (f_X5_passersOf_45 N s4 h v0 v1 v2 v3 (0 : Int32) s0_)) else none)
set_option maxHeartbeats 4000000 in
set_option maxRecDepth 100000 in
theorem p_X5_passersOf_27 {X : XT} {r : Int32} {h : Hp} (C : CX X cX5_passersOf "WaterStair$State" 5 (some .int) rmX5_passersOf) (hQ : QX X (some (vI r)) h rmX5_passersOf.cells rmX5_passersOf.slots) {N : Nat} {s4 : Hp → Nat → Int32 → Int32 → Int32 → Option (Int32)} (S4 : ∀ (v0 : Nat) (v1 : Int32) (v2 : Int32) (v3 : Int32), s4 h v0 v1 v2 v3 = some r → V X 0 0 h 4 [(0, vR 5 (some v0)), (1, vI v1), (2, vI v2), (3, vI v3)] [])  {v0 : Nat} {v1 : Int32} {v2 : Int32} {v3 : Int32} {s0_ : Int32} (hf : f_X5_passersOf_27 N s4 h v0 v1 v2 v3 s0_ = some r) : V X 0 0 h 27 [(0, vR 5 (some v0)), (1, vI v1), (2, vI v2), (3, vI v3)] [vI s0_] := by
  unfold f_X5_passersOf_27 at hf
  refine V_istore (lv' := [(4, vI s0_), (0, vR 5 (some v0)), (1, vI v1), (2, vI v2), (3, vI v3)]) C dX5_passersOf_27 (by decide) rfl ?_
  refine V_iload C dX5_passersOf_29 0 rfl ?_
  refine V_aload_n C dX5_passersOf_31 rfl 1 rfl ?_
  obtain ⟨q2, eq2, hf⟩ := o_b hf
  refine V_getR C fl_X5_58 rfl rfl (by decide) eq2 dX5_passersOf_32 ?_
  refine V_iload_n C dX5_passersOf_35 rfl 4 rfl ?_
  obtain ⟨g3, hf⟩ := o_if hf
  refine V_iald C (vp_g g3) rfl dX5_passersOf_36 ?_
  refine V_if_ne C 44 dX5_passersOf_37 (by decide) (fun c4 => ?_) (fun c4 => ?_)
  · have hf := i_f c4 hf
    refine V_iconst (v := (0 : Int32)) C dX5_passersOf_44 (by decide) ?_
    refine V_sub (lv' := [(0, vR 5 (some v0)), (1, vI v1), (2, vI v2), (3, vI v3)]) [1, 2, 3, 4] rfl ?_
    exact p_X5_passersOf_45 C hQ S4 hf
  · have hf := i_t c4 hf
    refine V_iconst (v := (1 : Int32)) C dX5_passersOf_40 (by decide) ?_
    refine V_goto C 45 dX5_passersOf_41 (by decide) ?_
    refine V_sub (lv' := [(0, vR 5 (some v0)), (1, vI v1), (2, vI v2), (3, vI v3)]) [1, 2, 3, 4] rfl ?_
    exact p_X5_passersOf_45 C hQ S4 hf
def f_X5_passersOf_4 (N : Nat) : Nat → Hp → Nat → Int32 → Int32 → Int32 → Option (Int32)
  | 0, _, _, _, _, _ => none
  | n + 1, h, v0, v1, v2, v3 => if (hI h v0 1) ≤ v3 then (some v2) else (Option.bind (hP h v0 12) (fun q6 => if 0 ≤ v3 ∧ v3.toNatClampNeg < hL h q6 then (if v1 < (hI h q6 (v3.toNatClampNeg)) then (f_X5_passersOf_27 N (f_X5_passersOf_4 N n) h v0 v1 v2 v3 (0 : Int32)) else (f_X5_passersOf_27 N (f_X5_passersOf_4 N n) h v0 v1 v2 v3 (1 : Int32))) else none))
set_option maxHeartbeats 4000000 in
set_option maxRecDepth 100000 in
theorem p_X5_passersOf_4 {X : XT} {r : Int32} {h : Hp} (C : CX X cX5_passersOf "WaterStair$State" 5 (some .int) rmX5_passersOf) (hQ : QX X (some (vI r)) h rmX5_passersOf.cells rmX5_passersOf.slots) {N : Nat}  : ∀ (n : Nat) (v0 : Nat) (v1 : Int32) (v2 : Int32) (v3 : Int32), f_X5_passersOf_4 N n h v0 v1 v2 v3 = some r → V X 0 0 h 4 [(0, vR 5 (some v0)), (1, vI v1), (2, vI v2), (3, vI v3)] [] := by
  intro n
  induction n with
  | zero =>
    intro v0 v1 v2 v3 hf
    have hf : (none : Option (Int32)) = some _ := hf
    cases hf
  | succ n ih =>
    intro v0 v1 v2 v3 hf
    rw [f_X5_passersOf_4] at hf
    refine V_iload_n C dX5_passersOf_4 rfl 3 rfl ?_
    refine V_aload_n C dX5_passersOf_5 rfl 0 rfl ?_
    refine V_getI C fl_X5_15 rfl dX5_passersOf_6 ?_
    refine V_icmp_ge C 57 dX5_passersOf_9 (by decide) (fun c5 => ?_) (fun c5 => ?_)
    · have hf := i_t c5 hf
      refine V_iload_n C dX5_passersOf_57 rfl 2 rfl ?_
      have hf := Option.some.inj hf
      subst hf
      exact V_iret C hQ dX5_passersOf_58
    · have hf := i_f c5 hf
      refine V_aload_n C dX5_passersOf_12 rfl 0 rfl ?_
      obtain ⟨q6, eq6, hf⟩ := o_b hf
      refine V_getR C fl_X5_49 rfl rfl (by decide) eq6 dX5_passersOf_13 ?_
      refine V_iload_n C dX5_passersOf_16 rfl 3 rfl ?_
      obtain ⟨g7, hf⟩ := o_if hf
      refine V_iald C (vp_g g7) rfl dX5_passersOf_17 ?_
      refine V_iload_n C dX5_passersOf_18 rfl 1 rfl ?_
      refine V_icmp_gt C 26 dX5_passersOf_19 (by decide) (fun c8 => ?_) (fun c8 => ?_)
      · have hf := i_t c8 hf
        refine V_iconst (v := (0 : Int32)) C dX5_passersOf_26 (by decide) ?_
        refine V_sub (lv' := [(0, vR 5 (some v0)), (1, vI v1), (2, vI v2), (3, vI v3)]) [0, 1, 2, 3] rfl ?_
        exact p_X5_passersOf_27 C hQ ih hf
      · have hf := i_f c8 hf
        refine V_iconst (v := (1 : Int32)) C dX5_passersOf_22 (by decide) ?_
        refine V_goto C 27 dX5_passersOf_23 (by decide) ?_
        refine V_sub (lv' := [(0, vR 5 (some v0)), (1, vI v1), (2, vI v2), (3, vI v3)]) [0, 1, 2, 3] rfl ?_
        exact p_X5_passersOf_27 C hQ ih hf
def f_X5_passersOf (N : Nat) (h : Hp) (v0 : Nat) (v1 : Int32) : Option (Int32) := f_X5_passersOf_4 N N h v0 v1 (0 : Int32) (0 : Int32)
set_option maxHeartbeats 4000000 in
set_option maxRecDepth 100000 in
theorem p_X5_passersOf {X : XT} {r : Int32} (C : CX X cX5_passersOf "WaterStair$State" 5 (some .int) rmX5_passersOf) {N : Nat} {h : Hp} {v0 : Nat} {v1 : Int32} (hQ : QX X (some (vI r)) h rmX5_passersOf.cells rmX5_passersOf.slots) (hf : f_X5_passersOf N h v0 v1 = some r) : V X 0 0 h 0 [(0, vR 5 (some v0)), (1, vI v1)] [] := by
  unfold f_X5_passersOf at hf
  refine V_iconst (v := (0 : Int32)) C dX5_passersOf_0 (by decide) ?_
  refine V_istore_n (lv' := [(2, vI (0 : Int32)), (0, vR 5 (some v0)), (1, vI v1)]) C dX5_passersOf_1 rfl (by decide) rfl ?_
  refine V_iconst (v := (0 : Int32)) C dX5_passersOf_2 (by decide) ?_
  refine V_istore_n (lv' := [(3, vI (0 : Int32)), (2, vI (0 : Int32)), (0, vR 5 (some v0)), (1, vI v1)]) C dX5_passersOf_3 rfl (by decide) rfl ?_
  refine V_sub (lv' := [(0, vR 5 (some v0)), (1, vI v1), (2, vI (0 : Int32)), (3, vI (0 : Int32))]) [2, 3, 1, 0] rfl ?_
  exact p_X5_passersOf_4 C hQ N _ _ _ _ hf
theorem ct_X5_passersOf {r : Int32} {N : Nat} {h : Hp} {v0 : Nat} {v1 : Int32} (hf : f_X5_passersOf N h v0 v1 = some r) (l : Launch) (G : GT) : MC l G yX5_passersOf cX5_passersOf 5 (some .int) rmX5_passersOf h [vR 5 (some v0), vI v1] (some (vI r)) h := MC_of (by decide) rfl (Nat.le_of_ble_eq_true rfl) rfl (fun X C hQ hin => p_X5_passersOf C hQ hf)
abbrev rmX5_allWater : Room := { frames := 0, cells := 0, slots := 0, locals := 0 }
def f_X5_allWater_4 (N : Nat) : Nat → Hp → Nat → Int32 → Int32 → Option (Int32)
  | 0, _, _, _, _ => none
  | n + 1, h, v0, v1, v2 => if (hI h v0 0) ≤ v2 then (some v1) else (Option.bind (hP h v0 8) (fun q2 => if 0 ≤ v2 ∧ v2.toNatClampNeg < hL h q2 then (lt (v1 + (hI h q2 (v2.toNatClampNeg))) (fun y4 => f_X5_allWater_4 N n h v0 y4 (v2 + (1 : Int32)))) else none))
set_option maxHeartbeats 4000000 in
set_option maxRecDepth 100000 in
theorem p_X5_allWater_4 {X : XT} {r : Int32} {h : Hp} (C : CX X cX5_allWater "WaterStair$State" 3 (some .int) rmX5_allWater) (hQ : QX X (some (vI r)) h rmX5_allWater.cells rmX5_allWater.slots) {N : Nat}  : ∀ (n : Nat) (v0 : Nat) (v1 : Int32) (v2 : Int32), f_X5_allWater_4 N n h v0 v1 v2 = some r → V X 0 0 h 4 [(0, vR 5 (some v0)), (1, vI v1), (2, vI v2)] [] := by
  intro n
  induction n with
  | zero =>
    intro v0 v1 v2 hf
    have hf : (none : Option (Int32)) = some _ := hf
    cases hf
  | succ n ih =>
    intro v0 v1 v2 hf
    rw [f_X5_allWater_4] at hf
    refine V_iload_n C dX5_allWater_4 rfl 2 rfl ?_
    refine V_aload_n C dX5_allWater_5 rfl 0 rfl ?_
    refine V_getI C fl_X5_9 rfl dX5_allWater_6 ?_
    refine V_icmp_ge C 27 dX5_allWater_9 (by decide) (fun c1 => ?_) (fun c1 => ?_)
    · have hf := i_t c1 hf
      refine V_iload_n C dX5_allWater_27 rfl 1 rfl ?_
      have hf := Option.some.inj hf
      subst hf
      exact V_iret C hQ dX5_allWater_28
    · have hf := i_f c1 hf
      refine V_iload_n C dX5_allWater_12 rfl 1 rfl ?_
      refine V_aload_n C dX5_allWater_13 rfl 0 rfl ?_
      obtain ⟨q2, eq2, hf⟩ := o_b hf
      refine V_getR C fl_X5_36 rfl rfl (by decide) eq2 dX5_allWater_14 ?_
      refine V_iload_n C dX5_allWater_17 rfl 2 rfl ?_
      obtain ⟨g3, hf⟩ := o_if hf
      refine V_iald C (vp_g g3) rfl dX5_allWater_18 ?_
      refine V_iadd C dX5_allWater_19 ?_
      obtain ⟨y4, ey4, hf⟩ := o_l hf
      refine V_eqI ey4 ?_
      refine V_istore_n (lv' := [(1, vI y4), (0, vR 5 (some v0)), (2, vI v2)]) C dX5_allWater_20 rfl (by decide) rfl ?_
      refine V_iinc (lv' := [(2, vI (v2 + (1 : Int32))), (1, vI y4), (0, vR 5 (some v0))]) C dX5_allWater_21 2 rfl (congrArg (v2 + ·) (by decide : Int32.ofInt (1) = (1 : Int32))) (by decide) rfl ?_
      refine V_goto C 4 dX5_allWater_24 (by decide) ?_
      refine V_sub (lv' := [(0, vR 5 (some v0)), (1, vI y4), (2, vI (v2 + (1 : Int32)))]) [2, 1, 0] rfl ?_
      exact ih _ _ _ hf
def f_X5_allWater (N : Nat) (h : Hp) (v0 : Nat) : Option (Int32) := f_X5_allWater_4 N N h v0 (0 : Int32) (0 : Int32)
set_option maxHeartbeats 4000000 in
set_option maxRecDepth 100000 in
theorem p_X5_allWater {X : XT} {r : Int32} (C : CX X cX5_allWater "WaterStair$State" 3 (some .int) rmX5_allWater) {N : Nat} {h : Hp} {v0 : Nat} (hQ : QX X (some (vI r)) h rmX5_allWater.cells rmX5_allWater.slots) (hf : f_X5_allWater N h v0 = some r) : V X 0 0 h 0 [(0, vR 5 (some v0))] [] := by
  unfold f_X5_allWater at hf
  refine V_iconst (v := (0 : Int32)) C dX5_allWater_0 (by decide) ?_
  refine V_istore_n (lv' := [(1, vI (0 : Int32)), (0, vR 5 (some v0))]) C dX5_allWater_1 rfl (by decide) rfl ?_
  refine V_iconst (v := (0 : Int32)) C dX5_allWater_2 (by decide) ?_
  refine V_istore_n (lv' := [(2, vI (0 : Int32)), (1, vI (0 : Int32)), (0, vR 5 (some v0))]) C dX5_allWater_3 rfl (by decide) rfl ?_
  refine V_sub (lv' := [(0, vR 5 (some v0)), (1, vI (0 : Int32)), (2, vI (0 : Int32))]) [2, 1, 0] rfl ?_
  exact p_X5_allWater_4 C hQ N _ _ _ hf
theorem ct_X5_allWater {r : Int32} {N : Nat} {h : Hp} {v0 : Nat} (hf : f_X5_allWater N h v0 = some r) (l : Launch) (G : GT) : MC l G yX5_allWater cX5_allWater 3 (some .int) rmX5_allWater h [vR 5 (some v0)] (some (vI r)) h := MC_of (by decide) rfl (Nat.le_of_ble_eq_true rfl) rfl (fun X C hQ hin => p_X5_allWater C hQ hf)
abbrev rmX5_levelsSeen : Room := { frames := 0, cells := 0, slots := 0, locals := 0 }
def f_X5_levelsSeen_28 (N : Nat) (s4 : Hp → Nat → Int32 → Int32 → Option (Int32)) (h : Hp) (v0 : Nat) (v2 : Int32) (s1_ : Int32) (s0_ : Int32) : Option (Int32) := s4 h v0 (s0_ + s1_) (v2 + (1 : Int32))
set_option maxHeartbeats 4000000 in
set_option maxRecDepth 100000 in
theorem p_X5_levelsSeen_28 {X : XT} {r : Int32} {h : Hp} (C : CX X cX5_levelsSeen "WaterStair$State" 3 (some .int) rmX5_levelsSeen) (hQ : QX X (some (vI r)) h rmX5_levelsSeen.cells rmX5_levelsSeen.slots) {N : Nat} {s4 : Hp → Nat → Int32 → Int32 → Option (Int32)} (S4 : ∀ (v0 : Nat) (v1 : Int32) (v2 : Int32), s4 h v0 v1 v2 = some r → V X 0 0 h 4 [(0, vR 5 (some v0)), (1, vI v1), (2, vI v2)] [])  {v0 : Nat} {v2 : Int32} {s1_ : Int32} {s0_ : Int32} (hf : f_X5_levelsSeen_28 N s4 h v0 v2 s1_ s0_ = some r) : V X 0 0 h 28 [(0, vR 5 (some v0)), (2, vI v2)] [vI s1_, vI s0_] := by
  unfold f_X5_levelsSeen_28 at hf
  refine V_iadd C dX5_levelsSeen_28 ?_
  refine V_istore_n (lv' := [(1, vI (s0_ + s1_)), (0, vR 5 (some v0)), (2, vI v2)]) C dX5_levelsSeen_29 rfl (by decide) rfl ?_
  refine V_iinc (lv' := [(2, vI (v2 + (1 : Int32))), (1, vI (s0_ + s1_)), (0, vR 5 (some v0))]) C dX5_levelsSeen_30 2 rfl (congrArg (v2 + ·) (by decide : Int32.ofInt (1) = (1 : Int32))) (by decide) rfl ?_
  refine V_goto C 4 dX5_levelsSeen_33 (by decide) ?_
  refine V_sub (lv' := [(0, vR 5 (some v0)), (1, vI (s0_ + s1_)), (2, vI (v2 + (1 : Int32)))]) [2, 1, 0] rfl ?_
  exact S4 _ _ _ hf
def f_X5_levelsSeen_4 (N : Nat) : Nat → Hp → Nat → Int32 → Int32 → Option (Int32)
  | 0, _, _, _, _ => none
  | n + 1, h, v0, v1, v2 => if (hI h v0 0) ≤ v2 then (some v1) else (Option.bind (hP h v0 11) (fun q2 => if 0 ≤ v2 ∧ v2.toNatClampNeg < hL h q2 then (if (hI h q2 (v2.toNatClampNeg)) = (-1 : Int32) then (f_X5_levelsSeen_28 N (f_X5_levelsSeen_4 N n) h v0 v2 (0 : Int32) v1) else (f_X5_levelsSeen_28 N (f_X5_levelsSeen_4 N n) h v0 v2 (1 : Int32) v1)) else none))
set_option maxHeartbeats 4000000 in
set_option maxRecDepth 100000 in
theorem p_X5_levelsSeen_4 {X : XT} {r : Int32} {h : Hp} (C : CX X cX5_levelsSeen "WaterStair$State" 3 (some .int) rmX5_levelsSeen) (hQ : QX X (some (vI r)) h rmX5_levelsSeen.cells rmX5_levelsSeen.slots) {N : Nat}  : ∀ (n : Nat) (v0 : Nat) (v1 : Int32) (v2 : Int32), f_X5_levelsSeen_4 N n h v0 v1 v2 = some r → V X 0 0 h 4 [(0, vR 5 (some v0)), (1, vI v1), (2, vI v2)] [] := by
  intro n
  induction n with
  | zero =>
    intro v0 v1 v2 hf
    have hf : (none : Option (Int32)) = some _ := hf
    cases hf
  | succ n ih =>
    intro v0 v1 v2 hf
    rw [f_X5_levelsSeen_4] at hf
    refine V_iload_n C dX5_levelsSeen_4 rfl 2 rfl ?_
    refine V_aload_n C dX5_levelsSeen_5 rfl 0 rfl ?_
    refine V_getI C fl_X5_9 rfl dX5_levelsSeen_6 ?_
    refine V_icmp_ge C 36 dX5_levelsSeen_9 (by decide) (fun c1 => ?_) (fun c1 => ?_)
    · have hf := i_t c1 hf
      refine V_iload_n C dX5_levelsSeen_36 rfl 1 rfl ?_
      have hf := Option.some.inj hf
      subst hf
      exact V_iret C hQ dX5_levelsSeen_37
    · have hf := i_f c1 hf
      refine V_iload_n C dX5_levelsSeen_12 rfl 1 rfl ?_
      refine V_aload_n C dX5_levelsSeen_13 rfl 0 rfl ?_
      obtain ⟨q2, eq2, hf⟩ := o_b hf
      refine V_getR C fl_X5_46 rfl rfl (by decide) eq2 dX5_levelsSeen_14 ?_
      refine V_iload_n C dX5_levelsSeen_17 rfl 2 rfl ?_
      obtain ⟨g3, hf⟩ := o_if hf
      refine V_iald C (vp_g g3) rfl dX5_levelsSeen_18 ?_
      refine V_iconst (v := (-1 : Int32)) C dX5_levelsSeen_19 (by decide) ?_
      refine V_icmp_ne C 27 dX5_levelsSeen_20 (by decide) (fun c4 => ?_) (fun c4 => ?_)
      · have hf := i_f c4 hf
        refine V_iconst (v := (1 : Int32)) C dX5_levelsSeen_27 (by decide) ?_
        refine V_sub (lv' := [(0, vR 5 (some v0)), (2, vI v2)]) [0, 2] rfl ?_
        exact p_X5_levelsSeen_28 C hQ ih hf
      · have hf := i_t c4 hf
        refine V_iconst (v := (0 : Int32)) C dX5_levelsSeen_23 (by decide) ?_
        refine V_goto C 28 dX5_levelsSeen_24 (by decide) ?_
        refine V_sub (lv' := [(0, vR 5 (some v0)), (2, vI v2)]) [0, 2] rfl ?_
        exact p_X5_levelsSeen_28 C hQ ih hf
def f_X5_levelsSeen (N : Nat) (h : Hp) (v0 : Nat) : Option (Int32) := f_X5_levelsSeen_4 N N h v0 (0 : Int32) (0 : Int32)
set_option maxHeartbeats 4000000 in
set_option maxRecDepth 100000 in
theorem p_X5_levelsSeen {X : XT} {r : Int32} (C : CX X cX5_levelsSeen "WaterStair$State" 3 (some .int) rmX5_levelsSeen) {N : Nat} {h : Hp} {v0 : Nat} (hQ : QX X (some (vI r)) h rmX5_levelsSeen.cells rmX5_levelsSeen.slots) (hf : f_X5_levelsSeen N h v0 = some r) : V X 0 0 h 0 [(0, vR 5 (some v0))] [] := by
  unfold f_X5_levelsSeen at hf
  refine V_iconst (v := (0 : Int32)) C dX5_levelsSeen_0 (by decide) ?_
  refine V_istore_n (lv' := [(1, vI (0 : Int32)), (0, vR 5 (some v0))]) C dX5_levelsSeen_1 rfl (by decide) rfl ?_
  refine V_iconst (v := (0 : Int32)) C dX5_levelsSeen_2 (by decide) ?_
  refine V_istore_n (lv' := [(2, vI (0 : Int32)), (1, vI (0 : Int32)), (0, vR 5 (some v0))]) C dX5_levelsSeen_3 rfl (by decide) rfl ?_
  refine V_sub (lv' := [(0, vR 5 (some v0)), (1, vI (0 : Int32)), (2, vI (0 : Int32))]) [2, 1, 0] rfl ?_
  exact p_X5_levelsSeen_4 C hQ N _ _ _ hf
theorem ct_X5_levelsSeen {r : Int32} {N : Nat} {h : Hp} {v0 : Nat} (hf : f_X5_levelsSeen N h v0 = some r) (l : Launch) (G : GT) : MC l G yX5_levelsSeen cX5_levelsSeen 3 (some .int) rmX5_levelsSeen h [vR 5 (some v0)] (some (vI r)) h := MC_of (by decide) rfl (Nat.le_of_ble_eq_true rfl) rfl (fun X C hQ hin => p_X5_levelsSeen C hQ hf)
abbrev rmX5_runTips : Room := { frames := 5, cells := 0, slots := 0, locals := 122 }
def f_X5_runTips_2 (N : Nat) : Nat → Hp → Nat → Option Nat → Int32 → Int32 → Option (Int32 × Hp)
  | 0, _, _, _, _, _ => none
  | n + 1, h, v0, v1, v2, v3 => if v2 ≤ v3 then (some ((v3, h))) else (Option.bind (hP h v0 18) (fun q2 => b2 (f_X5_gatherTips N h v0 v1 q2 (1 : Int32)) (fun r3 h4 => if r3 ≤ 0 then (some ((v3, h4))) else (Option.bind (hP h4 v0 18) (fun q6 => if 0 < hL h4 q6 then (Option.bind (f_X5_doTip h4 v0 (hI h4 q6 (0))) (fun h8 => f_X5_runTips_2 N n h8 v0 v1 v2 (v3 + (1 : Int32)))) else none)))))
set_option maxHeartbeats 4000000 in
set_option maxRecDepth 100000 in
theorem p_X5_runTips_2 {X : XT} {r : Int32} {h' : Hp} (C : CX X cX5_runTips "WaterStair$State" 4 (some .int) rmX5_runTips) (hQ : QX X (some (vI r)) h' rmX5_runTips.cells rmX5_runTips.slots) {N : Nat}  : ∀ (n : Nat) (h : Hp) (v0 : Nat) (v1 : Option Nat) (v2 : Int32) (v3 : Int32), f_X5_runTips_2 N n h v0 v1 v2 v3 = some ((r, h')) → V X 0 0 h 2 [(0, vR 5 (some v0)), (1, vR 1 v1), (2, vI v2), (3, vI v3)] [] := by
  intro n
  induction n with
  | zero =>
    intro h v0 v1 v2 v3 hf
    have hf : (none : Option (Int32 × Hp)) = some _ := hf
    cases hf
  | succ n ih =>
    intro h v0 v1 v2 v3 hf
    rw [f_X5_runTips_2] at hf
    refine V_iload_n C dX5_runTips_2 rfl 3 rfl ?_
    refine V_iload_n C dX5_runTips_3 rfl 2 rfl ?_
    refine V_icmp_ge C 36 dX5_runTips_4 (by decide) (fun c1 => ?_) (fun c1 => ?_)
    · have hf := i_t c1 hf
      refine V_iload_n C dX5_runTips_36 rfl 3 rfl ?_
      obtain ⟨hf1, hf2⟩ := Prod.mk.inj (Option.some.inj hf)
      subst hf1
      subst hf2
      exact V_iret C hQ dX5_runTips_37
    · have hf := i_f c1 hf
      refine V_aload_n C dX5_runTips_7 rfl 0 rfl ?_
      refine V_aload_n C dX5_runTips_8 rfl 1 rfl ?_
      refine V_aload_n C dX5_runTips_9 rfl 0 rfl ?_
      obtain ⟨q2, eq2, hf⟩ := o_b hf
      refine V_getR C fl_X5_67 rfl rfl (by decide) eq2 dX5_runTips_10 ?_
      refine V_iconst (v := (1 : Int32)) C dX5_runTips_13 (by decide) ?_
      obtain ⟨r3, h4, er3, hf⟩ := o_b2 hf
      refine V_callV (as := [vR 1 v1, vR 10 (some q2), vI (1 : Int32)]) (st := []) C ml_X5_174 fx5 (ct_X5_gatherTips er3) rfl ⟨by decide, by decide, by decide, by decide⟩ (Nat.le_of_ble_eq_true rfl) rfl dX5_runTips_14 (cs' := 0) (sl' := 0) rfl rfl ?_
      refine V_if_le C 36 dX5_runTips_17 (by decide) (fun c5 => ?_) (fun c5 => ?_)
      · have hf := i_t c5 hf
        refine V_iload_n C dX5_runTips_36 rfl 3 rfl ?_
        obtain ⟨hf1, hf2⟩ := Prod.mk.inj (Option.some.inj hf)
        subst hf1
        subst hf2
        exact V_iret C hQ dX5_runTips_37
      · have hf := i_f c5 hf
        refine V_aload_n C dX5_runTips_20 rfl 0 rfl ?_
        refine V_aload_n C dX5_runTips_21 rfl 0 rfl ?_
        obtain ⟨q6, eq6, hf⟩ := o_b hf
        refine V_getR C fl_X5_67 rfl rfl (by decide) eq6 dX5_runTips_22 ?_
        refine V_iconst (v := (0 : Int32)) C dX5_runTips_25 (by decide) ?_
        obtain ⟨g7, hf⟩ := o_if hf
        refine V_iald C (vp_k (by decide) (by decide) g7) (by decide : Int32.toNatClampNeg (0 : Int32) = 0) dX5_runTips_26 ?_
        obtain ⟨h8, eh8, hf⟩ := o_b hf
        refine V_callV (as := [vI (hI h4 q6 (0))]) (st := []) C ml_X5_178 fx5 (ct_X5_doTip eh8) rfl ⟨by decide, by decide, by decide, by decide⟩ (Nat.le_of_ble_eq_true rfl) rfl dX5_runTips_27 (cs' := 0) (sl' := 0) rfl rfl ?_
        refine V_iinc (lv' := [(3, vI (v3 + (1 : Int32))), (0, vR 5 (some v0)), (1, vR 1 v1), (2, vI v2)]) C dX5_runTips_30 3 rfl (congrArg (v3 + ·) (by decide : Int32.ofInt (1) = (1 : Int32))) (by decide) rfl ?_
        refine V_goto C 2 dX5_runTips_33 (by decide) ?_
        refine V_sub (lv' := [(0, vR 5 (some v0)), (1, vR 1 v1), (2, vI v2), (3, vI (v3 + (1 : Int32)))]) [1, 2, 3, 0] rfl ?_
        exact ih _ _ _ _ _ hf
def f_X5_runTips (N : Nat) (h : Hp) (v0 : Nat) (v1 : Option Nat) (v2 : Int32) : Option (Int32 × Hp) := f_X5_runTips_2 N N h v0 v1 v2 (0 : Int32)
set_option maxHeartbeats 4000000 in
set_option maxRecDepth 100000 in
theorem p_X5_runTips {X : XT} {r : Int32} {h' : Hp} (C : CX X cX5_runTips "WaterStair$State" 4 (some .int) rmX5_runTips) {N : Nat} {h : Hp} {v0 : Nat} {v1 : Option Nat} {v2 : Int32} (hQ : QX X (some (vI r)) h' rmX5_runTips.cells rmX5_runTips.slots) (hf : f_X5_runTips N h v0 v1 v2 = some ((r, h'))) : V X 0 0 h 0 [(0, vR 5 (some v0)), (1, vR 1 v1), (2, vI v2)] [] := by
  unfold f_X5_runTips at hf
  refine V_iconst (v := (0 : Int32)) C dX5_runTips_0 (by decide) ?_
  refine V_istore_n (lv' := [(3, vI (0 : Int32)), (0, vR 5 (some v0)), (1, vR 1 v1), (2, vI v2)]) C dX5_runTips_1 rfl (by decide) rfl ?_
  refine V_sub (lv' := [(0, vR 5 (some v0)), (1, vR 1 v1), (2, vI v2), (3, vI (0 : Int32))]) [1, 2, 3, 0] rfl ?_
  exact p_X5_runTips_2 C hQ N _ _ _ _ _ hf
theorem ct_X5_runTips {r : Int32} {h' : Hp} {N : Nat} {h : Hp} {v0 : Nat} {v1 : Option Nat} {v2 : Int32} (hf : f_X5_runTips N h v0 v1 v2 = some ((r, h'))) (l : Launch) (G : GT) : MC l G yX5_runTips cX5_runTips 4 (some .int) rmX5_runTips h [vR 5 (some v0), vR 1 v1, vI v2] (some (vI r)) h' := MC_of (by decide) rfl (Nat.le_of_ble_eq_true rfl) rfl (fun X C hQ hin => p_X5_runTips C hQ hf)
abbrev rmX5_isStuck : Room := { frames := 5, cells := 0, slots := 0, locals := 122 }
def f_X5_isStuck (N : Nat) (h : Hp) (v0 : Nat) (v1 : Option Nat) : Option (Int32 × Hp) := Option.bind (f_X5_homeBits N h v0) (fun r1 => if r1 = (((1 : Int32) <<< ((hI h v0 1) &&& 31)) - (1 : Int32)) then (some (((0 : Int32), h))) else (Option.bind (hP h v0 18) (fun q3 => b2 (f_X5_gatherTips N h v0 v1 q3 (1 : Int32)) (fun r4 h5 => if r4 = 0 then (some (((1 : Int32), h5))) else (some (((0 : Int32), h5)))))))
set_option maxHeartbeats 4000000 in
set_option maxRecDepth 100000 in
theorem p_X5_isStuck {X : XT} {r : Int32} {h' : Hp} (C : CX X cX5_isStuck "WaterStair$State" 2 (some .boolean) rmX5_isStuck) {N : Nat} {h : Hp} {v0 : Nat} {v1 : Option Nat} (hQ : QX X (some (vI r)) h' rmX5_isStuck.cells rmX5_isStuck.slots) (hf : f_X5_isStuck N h v0 v1 = some ((r, h'))) : V X 0 0 h 0 [(0, vR 5 (some v0)), (1, vR 1 v1)] [] := by
  unfold f_X5_isStuck at hf
  refine V_aload_n C dX5_isStuck_0 rfl 0 rfl ?_
  obtain ⟨r1, er1, hf⟩ := o_b hf
  refine V_callV (as := []) (st := []) C ml_X5_182 fx5 (ct_X5_homeBits er1) rfl ⟨by decide, by decide, by decide, by decide⟩ (Nat.le_of_ble_eq_true rfl) rfl dX5_isStuck_1 (cs' := 0) (sl' := 0) rfl rfl ?_
  refine V_iconst (v := (1 : Int32)) C dX5_isStuck_4 (by decide) ?_
  refine V_aload_n C dX5_isStuck_5 rfl 0 rfl ?_
  refine V_getI C fl_X5_15 rfl dX5_isStuck_6 ?_
  refine V_ishl C dX5_isStuck_9 ?_
  refine V_iconst (v := (1 : Int32)) C dX5_isStuck_10 (by decide) ?_
  refine V_isub C dX5_isStuck_11 ?_
  refine V_icmp_eq C 32 dX5_isStuck_12 (by decide) (fun c2 => ?_) (fun c2 => ?_)
  · have hf := i_t c2 hf
    refine V_iconst (v := (0 : Int32)) C dX5_isStuck_32 (by decide) ?_
    obtain ⟨hf1, hf2⟩ := Prod.mk.inj (Option.some.inj hf)
    subst hf1
    subst hf2
    exact V_zret C (by decide) hQ dX5_isStuck_33
  · have hf := i_f c2 hf
    refine V_aload_n C dX5_isStuck_15 rfl 0 rfl ?_
    refine V_aload_n C dX5_isStuck_16 rfl 1 rfl ?_
    refine V_aload_n C dX5_isStuck_17 rfl 0 rfl ?_
    obtain ⟨q3, eq3, hf⟩ := o_b hf
    refine V_getR C fl_X5_67 rfl rfl (by decide) eq3 dX5_isStuck_18 ?_
    refine V_iconst (v := (1 : Int32)) C dX5_isStuck_21 (by decide) ?_
    obtain ⟨r4, h5, er4, hf⟩ := o_b2 hf
    refine V_callV (as := [vR 1 v1, vR 10 (some q3), vI (1 : Int32)]) (st := []) C ml_X5_174 fx5 (ct_X5_gatherTips er4) rfl ⟨by decide, by decide, by decide, by decide⟩ (Nat.le_of_ble_eq_true rfl) rfl dX5_isStuck_22 (cs' := 0) (sl' := 0) rfl rfl ?_
    refine V_if_ne C 32 dX5_isStuck_25 (by decide) (fun c6 => ?_) (fun c6 => ?_)
    · have hf := i_f c6 hf
      refine V_iconst (v := (0 : Int32)) C dX5_isStuck_32 (by decide) ?_
      obtain ⟨hf1, hf2⟩ := Prod.mk.inj (Option.some.inj hf)
      subst hf1
      subst hf2
      exact V_zret C (by decide) hQ dX5_isStuck_33
    · have hf := i_t c6 hf
      refine V_iconst (v := (1 : Int32)) C dX5_isStuck_28 (by decide) ?_
      refine V_goto C 33 dX5_isStuck_29 (by decide) ?_
      obtain ⟨hf1, hf2⟩ := Prod.mk.inj (Option.some.inj hf)
      subst hf1
      subst hf2
      exact V_zret C (by decide) hQ dX5_isStuck_33
theorem ct_X5_isStuck {r : Int32} {h' : Hp} {N : Nat} {h : Hp} {v0 : Nat} {v1 : Option Nat} (hf : f_X5_isStuck N h v0 v1 = some ((r, h'))) (l : Launch) (G : GT) : MC l G yX5_isStuck cX5_isStuck 2 (some .boolean) rmX5_isStuck h [vR 5 (some v0), vR 1 v1] (some (vI r)) h' := MC_of (by decide) rfl (Nat.le_of_ble_eq_true rfl) rfl (fun X C hQ hin => p_X5_isStuck C hQ hf)
abbrev rmX5_nextDraw : Room := { frames := 0, cells := 0, slots := 0, locals := 0 }
def f_X5_nextDraw (h : Hp) (v0 : Nat) : Option (Int32 × Hp) := lt (sI h v0 6 ((((((hI h v0 6).toInt64) * (1103515245 : Int64)) + (12345 : Int64)) - ((((hI h v0 6).toInt64) * (1103515245 : Int64)) + (12345 : Int64)) / (2147483648 : Int64) * (2147483648 : Int64)).toInt32)) (fun h1 => some (((hI h1 v0 6) / (65536 : Int32), h1)))
set_option maxHeartbeats 4000000 in
set_option maxRecDepth 100000 in
theorem p_X5_nextDraw {X : XT} {r : Int32} {h' : Hp} (C : CX X cX5_nextDraw "WaterStair$State" 1 (some .int) rmX5_nextDraw) {h : Hp} {v0 : Nat} (hQ : QX X (some (vI r)) h' rmX5_nextDraw.cells rmX5_nextDraw.slots) (hf : f_X5_nextDraw h v0 = some ((r, h'))) : V X 0 0 h 0 [(0, vR 5 (some v0))] [] := by
  unfold f_X5_nextDraw at hf
  refine V_aload_n C dX5_nextDraw_0 rfl 0 rfl ?_
  refine V_aload_n C dX5_nextDraw_1 rfl 0 rfl ?_
  refine V_getI C fl_X5_30 rfl dX5_nextDraw_2 ?_
  refine V_i2l C dX5_nextDraw_5 ?_
  refine V_ldc2 C kl_X5_192 dX5_nextDraw_6 ?_
  refine V_lmul C dX5_nextDraw_9 ?_
  refine V_ldc2 C kl_X5_194 dX5_nextDraw_10 ?_
  refine V_ladd C dX5_nextDraw_13 ?_
  refine V_ldc2 C kl_X5_196 dX5_nextDraw_14 ?_
  refine V_lrem C dX5_nextDraw_17 (by decide) ?_
  refine V_l2i C dX5_nextDraw_18 ?_
  obtain ⟨h1, eh1, hf⟩ := o_l hf
  refine V_putI C nf_X5_30 rfl (okI_int _) dX5_nextDraw_19 (V_eqH eh1 ?_)
  refine V_aload_n C dX5_nextDraw_22 rfl 0 rfl ?_
  refine V_getI C fl_X5_30 rfl dX5_nextDraw_23 ?_
  refine V_ldc C kc_X5_198 dX5_nextDraw_26 ?_
  refine V_idiv C dX5_nextDraw_28 (by decide) ?_
  obtain ⟨hf1, hf2⟩ := Prod.mk.inj (Option.some.inj hf)
  subst hf1
  subst hf2
  exact V_iret C hQ dX5_nextDraw_29
theorem ct_X5_nextDraw {r : Int32} {h' : Hp} {h : Hp} {v0 : Nat} (hf : f_X5_nextDraw h v0 = some ((r, h'))) (l : Launch) (G : GT) : MC l G yX5_nextDraw cX5_nextDraw 1 (some .int) rmX5_nextDraw h [vR 5 (some v0)] (some (vI r)) h' := MC_of (by decide) rfl (Nat.le_of_ble_eq_true rfl) rfl (fun X C hQ hin => p_X5_nextDraw C hQ hf)
abbrev rmX5_drawBarges : Room := { frames := 2, cells := 0, slots := 0, locals := 42 }
def f_X5_drawBarges_31 (N : Nat) (s2 : Hp → Nat → Int32 → Int32 → Option (Hp)) (h : Hp) (v0 : Nat) (v1 : Int32) (v2 : Int32) (s3_ : Int32) (s2_ : Int32) (s1_ : Int32) (s0_ : Nat) : Option (Hp) := if 0 ≤ s1_ ∧ s1_.toNatClampNeg < hL h s0_ then (lt (sI h s0_ (s1_.toNatClampNeg) (s2_ + s3_)) (fun h2 => Option.bind (hP h2 v0 15) (fun q3 => b2 (f_X5_nextDraw h2 v0) (fun r4 h5 => lt (r4 - r4 / (2 : Int32) * (2 : Int32)) (fun y6 => if 0 ≤ v2 ∧ v2.toNatClampNeg < hL h5 q3 then (lt (sI h5 q3 (v2.toNatClampNeg) y6) (fun h8 => Option.bind (f_X5_putAtBegin h8 v0 v2) (fun h9 => s2 h9 v0 v1 (v2 + (1 : Int32))))) else none))))) else none
set_option maxHeartbeats 4000000 in
set_option maxRecDepth 100000 in
theorem p_X5_drawBarges_31 {X : XT} {h' : Hp} (C : CX X cX5_drawBarges "WaterStair$State" 3 none rmX5_drawBarges) (hQ : QX X none h' rmX5_drawBarges.cells rmX5_drawBarges.slots) {N : Nat} {s2 : Hp → Nat → Int32 → Int32 → Option (Hp)} (S2 : ∀ (h : Hp) (v0 : Nat) (v1 : Int32) (v2 : Int32), s2 h v0 v1 v2 = some h' → V X 0 0 h 2 [(0, vR 5 (some v0)), (1, vI v1), (2, vI v2)] []) {h : Hp} {v0 : Nat} {v1 : Int32} {v2 : Int32} {s3_ : Int32} {s2_ : Int32} {s1_ : Int32} {s0_ : Nat} (hf : f_X5_drawBarges_31 N s2 h v0 v1 v2 s3_ s2_ s1_ s0_ = some h') : V X 0 0 h 31 [(0, vR 5 (some v0)), (1, vI v1), (2, vI v2)] [vI s3_, vI s2_, vI s1_, vR 10 (some s0_)] := by
  unfold f_X5_drawBarges_31 at hf
  refine V_iadd C dX5_drawBarges_31 ?_
  obtain ⟨g1, hf⟩ := o_if hf
  obtain ⟨h2, eh2, hf⟩ := o_l hf
  refine V_iast C (vp_g g1) rfl dX5_drawBarges_32 (V_eqH eh2 ?_)
  refine V_aload_n C dX5_drawBarges_33 rfl 0 rfl ?_
  obtain ⟨q3, eq3, hf⟩ := o_b hf
  refine V_getR C fl_X5_58 rfl rfl (by decide) eq3 dX5_drawBarges_34 ?_
  refine V_iload_n C dX5_drawBarges_37 rfl 2 rfl ?_
  refine V_aload_n C dX5_drawBarges_38 rfl 0 rfl ?_
  obtain ⟨r4, h5, er4, hf⟩ := o_b2 hf
  refine V_callV (as := []) (st := [vI v2, vR 10 (some q3)]) C ml_X5_186 fx5 (ct_X5_nextDraw er4) rfl ⟨by decide, by decide, by decide, by decide⟩ (Nat.le_of_ble_eq_true rfl) rfl dX5_drawBarges_39 (cs' := 0) (sl' := 0) rfl rfl ?_
  refine V_iconst (v := (2 : Int32)) C dX5_drawBarges_42 (by decide) ?_
  refine V_irem C dX5_drawBarges_43 (by decide) ?_
  obtain ⟨y6, ey6, hf⟩ := o_l hf
  refine V_eqI ey6 ?_
  obtain ⟨g7, hf⟩ := o_if hf
  obtain ⟨h8, eh8, hf⟩ := o_l hf
  refine V_iast C (vp_g g7) rfl dX5_drawBarges_44 (V_eqH eh8 ?_)
  refine V_aload_n C dX5_drawBarges_45 rfl 0 rfl ?_
  refine V_iload_n C dX5_drawBarges_46 rfl 2 rfl ?_
  obtain ⟨h9, eh9, hf⟩ := o_b hf
  refine V_callV (as := [vI v2]) (st := []) C ml_X5_189 fx5 (ct_X5_putAtBegin eh9) rfl ⟨by decide, by decide, by decide, by decide⟩ (Nat.le_of_ble_eq_true rfl) rfl dX5_drawBarges_47 (cs' := 0) (sl' := 0) rfl rfl ?_
  refine V_iinc (lv' := [(2, vI (v2 + (1 : Int32))), (0, vR 5 (some v0)), (1, vI v1)]) C dX5_drawBarges_50 2 rfl (congrArg (v2 + ·) (by decide : Int32.ofInt (1) = (1 : Int32))) (by decide) rfl ?_
  refine V_goto C 2 dX5_drawBarges_53 (by decide) ?_
  refine V_sub (lv' := [(0, vR 5 (some v0)), (1, vI v1), (2, vI (v2 + (1 : Int32)))]) [1, 2, 0] rfl ?_
  exact S2 _ _ _ _ hf
def f_X5_drawBarges_2 (N : Nat) : Nat → Hp → Nat → Int32 → Int32 → Option (Hp)
  | 0, _, _, _, _ => none
  | n + 1, h, v0, v1, v2 => if (hI h v0 1) ≤ v2 then (some h) else (Option.bind (hP h v0 13) (fun q11 => if (1 : Int32) ≤ v1 then (b2 (f_X5_nextDraw h v0) (fun r13 h14 => if ¬ v1 = 0 then (f_X5_drawBarges_31 N (f_X5_drawBarges_2 N n) h14 v0 v1 v2 (r13 - r13 / v1 * v1) (1 : Int32) v2 q11) else none)) else (f_X5_drawBarges_31 N (f_X5_drawBarges_2 N n) h v0 v1 v2 (0 : Int32) (1 : Int32) v2 q11)))
set_option maxHeartbeats 4000000 in
set_option maxRecDepth 100000 in
theorem p_X5_drawBarges_2 {X : XT} {h' : Hp} (C : CX X cX5_drawBarges "WaterStair$State" 3 none rmX5_drawBarges) (hQ : QX X none h' rmX5_drawBarges.cells rmX5_drawBarges.slots) {N : Nat}  : ∀ (n : Nat) (h : Hp) (v0 : Nat) (v1 : Int32) (v2 : Int32), f_X5_drawBarges_2 N n h v0 v1 v2 = some h' → V X 0 0 h 2 [(0, vR 5 (some v0)), (1, vI v1), (2, vI v2)] [] := by
  intro n
  induction n with
  | zero =>
    intro h v0 v1 v2 hf
    have hf : (none : Option (Hp)) = some _ := hf
    cases hf
  | succ n ih =>
    intro h v0 v1 v2 hf
    rw [f_X5_drawBarges_2] at hf
    refine V_iload_n C dX5_drawBarges_2 rfl 2 rfl ?_
    refine V_aload_n C dX5_drawBarges_3 rfl 0 rfl ?_
    refine V_getI C fl_X5_15 rfl dX5_drawBarges_4 ?_
    refine V_icmp_ge C 56 dX5_drawBarges_7 (by decide) (fun c10 => ?_) (fun c10 => ?_)
    · have hf := i_t c10 hf
      have hf := Option.some.inj hf
      subst hf
      exact V_vret C hQ dX5_drawBarges_56
    · have hf := i_f c10 hf
      refine V_aload_n C dX5_drawBarges_10 rfl 0 rfl ?_
      obtain ⟨q11, eq11, hf⟩ := o_b hf
      refine V_getR C fl_X5_52 rfl rfl (by decide) eq11 dX5_drawBarges_11 ?_
      refine V_iload_n C dX5_drawBarges_14 rfl 2 rfl ?_
      refine V_iconst (v := (1 : Int32)) C dX5_drawBarges_15 (by decide) ?_
      refine V_iload_n C dX5_drawBarges_16 rfl 1 rfl ?_
      refine V_iconst (v := (1 : Int32)) C dX5_drawBarges_17 (by decide) ?_
      refine V_icmp_ge C 25 dX5_drawBarges_18 (by decide) (fun c12 => ?_) (fun c12 => ?_)
      · have hf := i_t c12 hf
        refine V_aload_n C dX5_drawBarges_25 rfl 0 rfl ?_
        obtain ⟨r13, h14, er13, hf⟩ := o_b2 hf
        refine V_callV (as := []) (st := [vI (1 : Int32), vI v2, vR 10 (some q11)]) C ml_X5_186 fx5 (ct_X5_nextDraw er13) rfl ⟨by decide, by decide, by decide, by decide⟩ (Nat.le_of_ble_eq_true rfl) rfl dX5_drawBarges_26 (cs' := 0) (sl' := 0) rfl rfl ?_
        refine V_iload_n C dX5_drawBarges_29 rfl 1 rfl ?_
        obtain ⟨g15, hf⟩ := o_if hf
        refine V_irem C dX5_drawBarges_30 g15 ?_
        refine V_sub (lv' := [(0, vR 5 (some v0)), (1, vI v1), (2, vI v2)]) [0, 1, 2] rfl ?_
        exact p_X5_drawBarges_31 C hQ ih hf
      · have hf := i_f c12 hf
        refine V_iconst (v := (0 : Int32)) C dX5_drawBarges_21 (by decide) ?_
        refine V_goto C 31 dX5_drawBarges_22 (by decide) ?_
        refine V_sub (lv' := [(0, vR 5 (some v0)), (1, vI v1), (2, vI v2)]) [0, 1, 2] rfl ?_
        exact p_X5_drawBarges_31 C hQ ih hf
def f_X5_drawBarges (N : Nat) (h : Hp) (v0 : Nat) (v1 : Int32) : Option (Hp) := f_X5_drawBarges_2 N N h v0 v1 (0 : Int32)
set_option maxHeartbeats 4000000 in
set_option maxRecDepth 100000 in
theorem p_X5_drawBarges {X : XT} {h' : Hp} (C : CX X cX5_drawBarges "WaterStair$State" 3 none rmX5_drawBarges) {N : Nat} {h : Hp} {v0 : Nat} {v1 : Int32} (hQ : QX X none h' rmX5_drawBarges.cells rmX5_drawBarges.slots) (hf : f_X5_drawBarges N h v0 v1 = some h') : V X 0 0 h 0 [(0, vR 5 (some v0)), (1, vI v1)] [] := by
  unfold f_X5_drawBarges at hf
  refine V_iconst (v := (0 : Int32)) C dX5_drawBarges_0 (by decide) ?_
  refine V_istore_n (lv' := [(2, vI (0 : Int32)), (0, vR 5 (some v0)), (1, vI v1)]) C dX5_drawBarges_1 rfl (by decide) rfl ?_
  refine V_sub (lv' := [(0, vR 5 (some v0)), (1, vI v1), (2, vI (0 : Int32))]) [1, 2, 0] rfl ?_
  exact p_X5_drawBarges_2 C hQ N _ _ _ _ hf
theorem ct_X5_drawBarges {h' : Hp} {N : Nat} {h : Hp} {v0 : Nat} {v1 : Int32} (hf : f_X5_drawBarges N h v0 v1 = some h') (l : Launch) (G : GT) : MC l G yX5_drawBarges cX5_drawBarges 3 none rmX5_drawBarges h [vR 5 (some v0), vI v1] none h' := MC_of (by decide) rfl (Nat.le_of_ble_eq_true rfl) rfl (fun X C hQ hin => p_X5_drawBarges C hQ hf)
abbrev rmX6_init : Room := { frames := 1, cells := 1, slots := 400, locals := 20 }
def f_X6_init (h : Hp) (v0 : Nat) : Option (Hp) := lt (nO h 9 400) (fun h1 => lt (sP h1 v0 0 (some (hN h))) (fun h2 => lt (sI h2 v0 1 (0 : Int32)) (fun h3 => lt (sI h3 v0 2 (256 : Int32)) (fun h4 => lt (sI h4 v0 3 (0 : Int32)) (fun h5 => lt (sI h5 v0 4 (0 : Int32)) (fun h6 => lt (sI h6 v0 5 (0 : Int32)) (fun h7 => lt (sI h7 v0 6 (0 : Int32)) (fun h8 => some h8))))))))
set_option maxHeartbeats 4000000 in
set_option maxRecDepth 100000 in
theorem p_X6_init {X : XT} {h' : Hp} (C : CX X cX6_init "WaterStair$Tape" 1 none rmX6_init) (hin : X.2.2.2.2.2.2.2.2.1.name = "<init>") {h : Hp} {v0 : Nat} (hQ : QX X none h' rmX6_init.cells rmX6_init.slots) (hf : f_X6_init h v0 = some h') : V X 0 0 h 0 [(0, vR 6 (some v0))] [] := by
  unfold f_X6_init at hf
  refine V_aload_n C dX6_init_0 rfl 0 rfl ?_
  refine V_obj C (by decide) ob_X6_3 ob_i ob_c (by decide) (by decide) dX6_init_1 ?_
  refine V_aload_n C dX6_init_4 rfl 0 rfl ?_
  refine V_sipush (v := (400 : Int32)) C dX6_init_5 (by decide) ?_
  obtain ⟨h1, eh1, hf⟩ := o_l hf
  refine V_newb C (by decide) (by decide : Int32.toNatClampNeg (400 : Int32) = 400) (by decide) kA9 (by decide) (by decide) dX6_init_8 (V_eqH eh1 ?_)
  obtain ⟨h2, eh2, hf⟩ := o_l hf
  refine V_putR C hin ff_X6_9 rfl (fun _ => ⟨rfl, rfl⟩) rfl (by decide) dX6_init_10 (V_eqH eh2 ?_)
  refine V_aload_n C dX6_init_13 rfl 0 rfl ?_
  refine V_iconst (v := (0 : Int32)) C dX6_init_14 (by decide) ?_
  obtain ⟨h3, eh3, hf⟩ := o_l hf
  refine V_putI C nf_X6_15 rfl (okI_int _) dX6_init_15 (V_eqH eh3 ?_)
  refine V_aload_n C dX6_init_18 rfl 0 rfl ?_
  refine V_sipush (v := (256 : Int32)) C dX6_init_19 (by decide) ?_
  obtain ⟨h4, eh4, hf⟩ := o_l hf
  refine V_putI C nf_X6_19 rfl (okI_int _) dX6_init_22 (V_eqH eh4 ?_)
  refine V_aload_n C dX6_init_25 rfl 0 rfl ?_
  refine V_iconst (v := (0 : Int32)) C dX6_init_26 (by decide) ?_
  obtain ⟨h5, eh5, hf⟩ := o_l hf
  refine V_putI C nf_X6_22 rfl (okI_int _) dX6_init_27 (V_eqH eh5 ?_)
  refine V_aload_n C dX6_init_30 rfl 0 rfl ?_
  refine V_iconst (v := (0 : Int32)) C dX6_init_31 (by decide) ?_
  obtain ⟨h6, eh6, hf⟩ := o_l hf
  refine V_putI C nf_X6_25 rfl (okI_int _) dX6_init_32 (V_eqH eh6 ?_)
  refine V_aload_n C dX6_init_35 rfl 0 rfl ?_
  refine V_iconst (v := (0 : Int32)) C dX6_init_36 (by decide) ?_
  obtain ⟨h7, eh7, hf⟩ := o_l hf
  refine V_putI C nf_X6_28 rfl (okI_int _) dX6_init_37 (V_eqH eh7 ?_)
  refine V_aload_n C dX6_init_40 rfl 0 rfl ?_
  refine V_iconst (v := (0 : Int32)) C dX6_init_41 (by decide) ?_
  obtain ⟨h8, eh8, hf⟩ := o_l hf
  refine V_putI C nf_X6_31 rfl (okI_int _) dX6_init_42 (V_eqH eh8 ?_)
  have hf := Option.some.inj hf
  subst hf
  exact V_vret C hQ dX6_init_45
theorem ct_X6_init {h' : Hp} {h : Hp} {v0 : Nat} (hf : f_X6_init h v0 = some h') (l : Launch) (G : GT) : MC l G yX6_init cX6_init 1 none rmX6_init h [vR 6 (some v0)] none h' := MC_of (by decide) rfl (Nat.le_of_ble_eq_true rfl) rfl (fun X C hQ hin => p_X6_init C hin hQ hf)
abbrev rmX6_append : Room := { frames := 0, cells := 0, slots := 0, locals := 0 }
def f_X6_append_3 (N : Nat) : Nat → Hp → Nat → Int32 → Int32 → Option (Hp)
  | 0, _, _, _, _ => none
  | n + 1, h, v0, v1, v2 => if v2 < 0 then (some h) else (if (400 : Int32) ≤ (hI h v0 1) then (some h) else (Option.bind (hP h v0 0) (fun q3 => lt ((v1 >>> (v2 &&& 31)).toInt8.toInt32) (fun y4 => if 0 ≤ hI h v0 1 ∧ (hI h v0 1).toNatClampNeg < hL h q3 then (lt (sI h q3 ((hI h v0 1).toNatClampNeg) (y4.toInt8.toInt32)) (fun h6 => lt (sI h6 v0 1 ((hI h6 v0 1) + (1 : Int32))) (fun h7 => f_X6_append_3 N n h7 v0 v1 (v2 + (-8 : Int32))))) else none))))
set_option maxHeartbeats 4000000 in
set_option maxRecDepth 100000 in
theorem p_X6_append_3 {X : XT} {h' : Hp} (C : CX X cX6_append "WaterStair$Tape" 3 none rmX6_append) (hQ : QX X none h' rmX6_append.cells rmX6_append.slots) {N : Nat}  : ∀ (n : Nat) (h : Hp) (v0 : Nat) (v1 : Int32) (v2 : Int32), f_X6_append_3 N n h v0 v1 v2 = some h' → V X 0 0 h 3 [(0, vR 6 (some v0)), (1, vI v1), (2, vI v2)] [] := by
  intro n
  induction n with
  | zero =>
    intro h v0 v1 v2 hf
    have hf : (none : Option (Hp)) = some _ := hf
    cases hf
  | succ n ih =>
    intro h v0 v1 v2 hf
    rw [f_X6_append_3] at hf
    refine V_iload_n C dX6_append_3 rfl 2 rfl ?_
    refine V_if_lt C 46 dX6_append_4 (by decide) (fun c1 => ?_) (fun c1 => ?_)
    · have hf := i_t c1 hf
      have hf := Option.some.inj hf
      subst hf
      exact V_vret C hQ dX6_append_46
    · have hf := i_f c1 hf
      refine V_aload_n C dX6_append_7 rfl 0 rfl ?_
      refine V_getI C fl_X6_15 rfl dX6_append_8 ?_
      refine V_sipush (v := (400 : Int32)) C dX6_append_11 (by decide) ?_
      refine V_icmp_ge C 46 dX6_append_14 (by decide) (fun c2 => ?_) (fun c2 => ?_)
      · have hf := i_t c2 hf
        have hf := Option.some.inj hf
        subst hf
        exact V_vret C hQ dX6_append_46
      · have hf := i_f c2 hf
        refine V_aload_n C dX6_append_17 rfl 0 rfl ?_
        obtain ⟨q3, eq3, hf⟩ := o_b hf
        refine V_getR C fl_X6_9 rfl rfl (by decide) eq3 dX6_append_18 ?_
        refine V_aload_n C dX6_append_21 rfl 0 rfl ?_
        refine V_getI C fl_X6_15 rfl dX6_append_22 ?_
        refine V_iload_n C dX6_append_25 rfl 1 rfl ?_
        refine V_iload_n C dX6_append_26 rfl 2 rfl ?_
        refine V_ishr C dX6_append_27 ?_
        refine V_i2b C dX6_append_28 ?_
        obtain ⟨y4, ey4, hf⟩ := o_l hf
        refine V_eqI ey4 ?_
        obtain ⟨g5, hf⟩ := o_if hf
        obtain ⟨h6, eh6, hf⟩ := o_l hf
        refine V_bast C (vp_g g5) rfl dX6_append_29 (V_eqH eh6 ?_)
        refine V_aload_n C dX6_append_30 rfl 0 rfl ?_
        refine V_dup C dX6_append_31 rfl ?_
        refine V_getI C fl_X6_15 rfl dX6_append_32 ?_
        refine V_iconst (v := (1 : Int32)) C dX6_append_35 (by decide) ?_
        refine V_iadd C dX6_append_36 ?_
        obtain ⟨h7, eh7, hf⟩ := o_l hf
        refine V_putI C nf_X6_15 rfl (okI_int _) dX6_append_37 (V_eqH eh7 ?_)
        refine V_iinc (lv' := [(2, vI (v2 + (-8 : Int32))), (0, vR 6 (some v0)), (1, vI v1)]) C dX6_append_40 2 rfl (congrArg (v2 + ·) (by decide : Int32.ofInt (-8) = (-8 : Int32))) (by decide) rfl ?_
        refine V_goto C 3 dX6_append_43 (by decide) ?_
        refine V_sub (lv' := [(0, vR 6 (some v0)), (1, vI v1), (2, vI (v2 + (-8 : Int32)))]) [1, 2, 0] rfl ?_
        exact ih _ _ _ _ hf
def f_X6_append (N : Nat) (h : Hp) (v0 : Nat) (v1 : Int32) : Option (Hp) := f_X6_append_3 N N h v0 v1 (24 : Int32)
set_option maxHeartbeats 4000000 in
set_option maxRecDepth 100000 in
theorem p_X6_append {X : XT} {h' : Hp} (C : CX X cX6_append "WaterStair$Tape" 3 none rmX6_append) {N : Nat} {h : Hp} {v0 : Nat} {v1 : Int32} (hQ : QX X none h' rmX6_append.cells rmX6_append.slots) (hf : f_X6_append N h v0 v1 = some h') : V X 0 0 h 0 [(0, vR 6 (some v0)), (1, vI v1)] [] := by
  unfold f_X6_append at hf
  refine V_bipush (v := (24 : Int32)) C dX6_append_0 (by decide) ?_
  refine V_istore_n (lv' := [(2, vI (24 : Int32)), (0, vR 6 (some v0)), (1, vI v1)]) C dX6_append_2 rfl (by decide) rfl ?_
  refine V_sub (lv' := [(0, vR 6 (some v0)), (1, vI v1), (2, vI (24 : Int32))]) [1, 2, 0] rfl ?_
  exact p_X6_append_3 C hQ N _ _ _ _ hf
theorem ct_X6_append {h' : Hp} {N : Nat} {h : Hp} {v0 : Nat} {v1 : Int32} (hf : f_X6_append N h v0 v1 = some h') (l : Launch) (G : GT) : MC l G yX6_append cX6_append 3 none rmX6_append h [vR 6 (some v0), vI v1] none h' := MC_of (by decide) rfl (Nat.le_of_ble_eq_true rfl) rfl (fun X C hQ hin => p_X6_append C hQ hf)
