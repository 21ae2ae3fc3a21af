abbrev rmX7_init : Room := { frames := 2, cells := 50, slots := 17296, locals := 42 }
def f_X7_init (h : Hp) (v0 : Nat) : Option (Hp) := lt (nO h 6 0) (fun h1 => Option.bind (f_X6_init h1 (hN h)) (fun h2 => lt (sP h2 v0 0 (some (hN h))) (fun h3 => lt (nO h3 5 0) (fun h4 => Option.bind (f_X5_init h4 (hN h3)) (fun h5 => lt (sP h5 v0 1 (some (hN h3))) (fun h6 => lt (nO h6 5 0) (fun h7 => Option.bind (f_X5_init h7 (hN h6)) (fun h8 => lt (sP h8 v0 2 (some (hN h6))) (fun h9 => lt (nO h9 14 4) (fun h10 => lt (sP h10 v0 3 (some (hN h9))) (fun h11 => lt (nO h11 13 6) (fun h12 => lt (sP h12 v0 4 (some (hN h11))) (fun h13 => lt (sI h13 v0 5 (0 : Int32)) (fun h14 => lt (nO h14 4 0) (fun h15 => Option.bind (hP h15 v0 0) (fun q16 => Option.bind (hP h15 v0 2) (fun q17 => Option.bind (f_X4_init h15 (hN h14) q16 q17) (fun h18 => lt (sP h18 v0 6 (some (hN h14))) (fun h19 => lt (nO h19 2 0) (fun h20 => Option.bind (hP h20 v0 0) (fun q21 => Option.bind (f_X2_init h20 (hN h19) q21) (fun h22 => lt (sP h22 v0 7 (some (hN h19))) (fun h23 => lt (nO h23 3 0) (fun h24 => Option.bind (hP h24 v0 2) (fun q25 => Option.bind (f_X3_init h24 (hN h23) q25) (fun h26 => lt (sP h26 v0 8 (some (hN h23))) (fun h27 => lt (nO h27 0 0) (fun h28 => Option.bind (hP h28 v0 2) (fun q29 => Option.bind (f_X0_init h28 (hN h27) q29) (fun h30 => lt (sP h30 v0 9 (some (hN h27))) (fun h31 => some h31)))))))))))))))))))))))))))))))
set_option maxHeartbeats 4000000 in
set_option maxRecDepth 100000 in
theorem p_X7_init {X : XT} {h' : Hp} (C : CX X cX7_init "WaterStair" 1 none rmX7_init) (hin : X.2.2.2.2.2.2.2.2.1.name = "<init>") {h : Hp} {v0 : Nat} (hQ : QX X none h' rmX7_init.cells rmX7_init.slots) (hf : f_X7_init h v0 = some h') : V X 0 0 h 0 [(0, vR 7 (some v0))] [] := by
  unfold f_X7_init at hf
  refine V_aload_n C dX7_init_0 rfl 0 rfl ?_
  refine V_obj C (by decide) ob_X7_1 ob_i ob_c (by decide) (by decide) dX7_init_1 ?_
  refine V_aload_n C dX7_init_4 rfl 0 rfl ?_
  obtain ⟨h1, eh1, hf⟩ := o_l hf
  refine V_new C nl_X7_7 (by decide) (by decide) dX7_init_5 (V_eqH eh1 ?_)
  refine V_dup C dX7_init_8 rfl ?_
  obtain ⟨h2, eh2, hf⟩ := o_b hf
  refine V_callN (as := []) (st := [vR 6 (some (hN h)), vR 7 (some v0)]) C ml_X7_9 (by decide) (ct_X6_init eh2) rfl ⟨by decide, by decide, by decide, by decide⟩ (Nat.le_of_ble_eq_true rfl) rfl dX7_init_9 (cs' := 2) (sl' := 407) rfl rfl ?_
  obtain ⟨h3, eh3, hf⟩ := o_l hf
  refine V_putR C hin ff_X7_10 rfl (fun _ => ⟨rfl, rfl⟩) rfl (by decide) dX7_init_12 (V_eqH eh3 ?_)
  refine V_aload_n C dX7_init_15 rfl 0 rfl ?_
  obtain ⟨h4, eh4, hf⟩ := o_l hf
  refine V_new C nl_X7_16 (by decide) (by decide) dX7_init_16 (V_eqH eh4 ?_)
  refine V_dup C dX7_init_19 rfl ?_
  obtain ⟨h5, eh5, hf⟩ := o_b hf
  refine V_callN (as := []) (st := [vR 5 (some (hN h3)), vR 7 (some v0)]) C ml_X7_18 (by decide) (ct_X5_init eh5) rfl ⟨by decide, by decide, by decide, by decide⟩ (Nat.le_of_ble_eq_true rfl) rfl dX7_init_20 (cs' := 14) (sl' := 514) rfl rfl ?_
  obtain ⟨h6, eh6, hf⟩ := o_l hf
  refine V_putR C hin ff_X7_19 rfl (fun _ => ⟨rfl, rfl⟩) rfl (by decide) dX7_init_23 (V_eqH eh6 ?_)
  refine V_aload_n C dX7_init_26 rfl 0 rfl ?_
  obtain ⟨h7, eh7, hf⟩ := o_l hf
  refine V_new C nl_X7_16 (by decide) (by decide) dX7_init_27 (V_eqH eh7 ?_)
  refine V_dup C dX7_init_30 rfl ?_
  obtain ⟨h8, eh8, hf⟩ := o_b hf
  refine V_callN (as := []) (st := [vR 5 (some (hN h6)), vR 7 (some v0)]) C ml_X7_18 (by decide) (ct_X5_init eh8) rfl ⟨by decide, by decide, by decide, by decide⟩ (Nat.le_of_ble_eq_true rfl) rfl dX7_init_31 (cs' := 26) (sl' := 621) rfl rfl ?_
  obtain ⟨h9, eh9, hf⟩ := o_l hf
  refine V_putR C hin ff_X7_23 rfl (fun _ => ⟨rfl, rfl⟩) rfl (by decide) dX7_init_34 (V_eqH eh9 ?_)
  refine V_aload_n C dX7_init_37 rfl 0 rfl ?_
  refine V_iconst (v := (4 : Int32)) C dX7_init_38 (by decide) ?_
  obtain ⟨h10, eh10, hf⟩ := o_l hf
  refine V_newq14 C cl_X7_16 (by decide) (by decide : Int32.toNatClampNeg (4 : Int32) = 4) (by decide) (by decide) (by decide) dX7_init_39 (V_eqH eh10 ?_)
  obtain ⟨h11, eh11, hf⟩ := o_l hf
  refine V_putR C hin ff_X7_26 rfl (fun _ => ⟨rfl, rfl⟩) rfl (by decide) dX7_init_42 (V_eqH eh11 ?_)
  refine V_aload_n C dX7_init_45 rfl 0 rfl ?_
  refine V_bipush (v := (6 : Int32)) C dX7_init_46 (by decide) ?_
  obtain ⟨h12, eh12, hf⟩ := o_l hf
  refine V_newq13 C cl_X7_30 (by decide) (by decide : Int32.toNatClampNeg (6 : Int32) = 6) (by decide) (by decide) (by decide) dX7_init_48 (V_eqH eh12 ?_)
  obtain ⟨h13, eh13, hf⟩ := o_l hf
  refine V_putR C hin ff_X7_32 rfl (fun _ => ⟨rfl, rfl⟩) rfl (by decide) dX7_init_51 (V_eqH eh13 ?_)
  refine V_aload_n C dX7_init_54 rfl 0 rfl ?_
  refine V_iconst (v := (0 : Int32)) C dX7_init_55 (by decide) ?_
  obtain ⟨h14, eh14, hf⟩ := o_l hf
  refine V_putI C nf_X7_36 rfl (okI_int _) dX7_init_56 (V_eqH eh14 ?_)
  refine V_aload_n C dX7_init_59 rfl 0 rfl ?_
  obtain ⟨h15, eh15, hf⟩ := o_l hf
  refine V_new C nl_X7_40 (by decide) (by decide) dX7_init_60 (V_eqH eh15 ?_)
  refine V_dup C dX7_init_63 rfl ?_
  refine V_aload_n C dX7_init_64 rfl 0 rfl ?_
  obtain ⟨q16, eq16, hf⟩ := o_b hf
  refine V_getR C fl_X7_10 rfl rfl (by decide) eq16 dX7_init_65 ?_
  refine V_aload_n C dX7_init_68 rfl 0 rfl ?_
  obtain ⟨q17, eq17, hf⟩ := o_b hf
  refine V_getR C fl_X7_23 rfl rfl (by decide) eq17 dX7_init_69 ?_
  obtain ⟨h18, eh18, hf⟩ := o_b hf
  refine V_callI (as := [vR 6 (some q16), vR 5 (some q17)]) (st := [vR 4 (some (hN h14)), vR 7 (some v0)]) C ml_X7_42 (by decide) (ct_X4_init eh18) rfl ⟨by decide, by decide, by decide, by decide⟩ (Nat.le_of_ble_eq_true rfl) rfl dX7_init_72 (cs' := 29) (sl' := 635) rfl rfl ?_
  obtain ⟨h19, eh19, hf⟩ := o_l hf
  refine V_putR C hin ff_X7_45 rfl (fun _ => ⟨rfl, rfl⟩) rfl (by decide) dX7_init_75 (V_eqH eh19 ?_)
  refine V_aload_n C dX7_init_78 rfl 0 rfl ?_
  obtain ⟨h20, eh20, hf⟩ := o_l hf
  refine V_new C nl_X7_49 (by decide) (by decide) dX7_init_79 (V_eqH eh20 ?_)
  refine V_dup C dX7_init_82 rfl ?_
  refine V_aload_n C dX7_init_83 rfl 0 rfl ?_
  obtain ⟨q21, eq21, hf⟩ := o_b hf
  refine V_getR C fl_X7_10 rfl rfl (by decide) eq21 dX7_init_84 ?_
  obtain ⟨h22, eh22, hf⟩ := o_b hf
  refine V_callI (as := [vR 6 (some q21)]) (st := [vR 2 (some (hN h19)), vR 7 (some v0)]) C ml_X7_51 (by decide) (ct_X2_init eh22) rfl ⟨by decide, by decide, by decide, by decide⟩ (Nat.le_of_ble_eq_true rfl) rfl dX7_init_87 (cs' := 31) (sl' := 1039) rfl rfl ?_
  obtain ⟨h23, eh23, hf⟩ := o_l hf
  refine V_putR C hin ff_X7_54 rfl (fun _ => ⟨rfl, rfl⟩) rfl (by decide) dX7_init_90 (V_eqH eh23 ?_)
  refine V_aload_n C dX7_init_93 rfl 0 rfl ?_
  obtain ⟨h24, eh24, hf⟩ := o_l hf
  refine V_new C nl_X7_58 (by decide) (by decide) dX7_init_94 (V_eqH eh24 ?_)
  refine V_dup C dX7_init_97 rfl ?_
  refine V_aload_n C dX7_init_98 rfl 0 rfl ?_
  obtain ⟨q25, eq25, hf⟩ := o_b hf
  refine V_getR C fl_X7_23 rfl rfl (by decide) eq25 dX7_init_99 ?_
  obtain ⟨h26, eh26, hf⟩ := o_b hf
  refine V_callI (as := [vR 5 (some q25)]) (st := [vR 3 (some (hN h23)), vR 7 (some v0)]) C ml_X7_60 (by decide) (ct_X3_init eh26) rfl ⟨by decide, by decide, by decide, by decide⟩ (Nat.le_of_ble_eq_true rfl) rfl dX7_init_102 (cs' := 43) (sl' := 17231) rfl rfl ?_
  obtain ⟨h27, eh27, hf⟩ := o_l hf
  refine V_putR C hin ff_X7_63 rfl (fun _ => ⟨rfl, rfl⟩) rfl (by decide) dX7_init_105 (V_eqH eh27 ?_)
  refine V_aload_n C dX7_init_108 rfl 0 rfl ?_
  obtain ⟨h28, eh28, hf⟩ := o_l hf
  refine V_new C nl_X7_67 (by decide) (by decide) dX7_init_109 (V_eqH eh28 ?_)
  refine V_dup C dX7_init_112 rfl ?_
  refine V_aload_n C dX7_init_113 rfl 0 rfl ?_
  obtain ⟨q29, eq29, hf⟩ := o_b hf
  refine V_getR C fl_X7_23 rfl rfl (by decide) eq29 dX7_init_114 ?_
  obtain ⟨h30, eh30, hf⟩ := o_b hf
  refine V_callI (as := [vR 5 (some q29)]) (st := [vR 0 (some (hN h27)), vR 7 (some v0)]) C ml_X7_69 (by decide) (ct_X0_init eh30) rfl ⟨by decide, by decide, by decide, by decide⟩ (Nat.le_of_ble_eq_true rfl) rfl dX7_init_117 (cs' := 50) (sl' := 17296) rfl rfl ?_
  obtain ⟨h31, eh31, hf⟩ := o_l hf
  refine V_putR C hin ff_X7_70 rfl (fun _ => ⟨rfl, rfl⟩) rfl (by decide) dX7_init_120 (V_eqH eh31 ?_)
  have hf := Option.some.inj hf
  subst hf
  exact V_vret C hQ dX7_init_123
theorem ct_X7_init {h' : Hp} {h : Hp} {v0 : Nat} (hf : f_X7_init h v0 = some h') (l : Launch) (G : GT) : MC l G yX7_init cX7_init 1 none rmX7_init h [vR 7 (some v0)] none h' := MC_of (by decide) rfl (Nat.le_of_ble_eq_true rfl) rfl (fun X C hQ hin => p_X7_init C hin hQ hf)
abbrev rmX7_feed : Room := { frames := 1, cells := 0, slots := 0, locals := 22 }
def f_X7_feed (N : Nat) (h : Hp) (v0 : Nat) (v1 : Int32) (v2 : Int32) (v3 : Int32) (v4 : Int32) (v5 : Int32) : Option (Int32 × Hp) := Option.bind (hP h v0 0) (fun q1 => if (hI h q1 1) ≤ (380 : Int32) then (Option.bind (hP h v0 0) (fun q3 => Option.bind (f_X6_append N h q3 v1) (fun h4 => Option.bind (hP h4 v0 0) (fun q5 => Option.bind (f_X6_append N h4 q5 v2) (fun h6 => Option.bind (hP h6 v0 0) (fun q7 => Option.bind (f_X6_append N h6 q7 v3) (fun h8 => Option.bind (hP h8 v0 0) (fun q9 => Option.bind (f_X6_append N h8 q9 v4) (fun h10 => Option.bind (hP h10 v0 0) (fun q11 => Option.bind (f_X6_append N h10 q11 v5) (fun h12 => Option.bind (hP h12 v0 0) (fun q13 => some ((hI h12 q13 1, h12)))))))))))))) else (some (((-1 : Int32), h))))
set_option maxHeartbeats 4000000 in
set_option maxRecDepth 100000 in
theorem p_X7_feed {X : XT} {r : Int32} {h' : Hp} (C : CX X cX7_feed "WaterStair" 6 (some .int) rmX7_feed) {N : Nat} {h : Hp} {v0 : Nat} {v1 : Int32} {v2 : Int32} {v3 : Int32} {v4 : Int32} {v5 : Int32} (hQ : QX X (some (vI r)) h' rmX7_feed.cells rmX7_feed.slots) (hf : f_X7_feed N h v0 v1 v2 v3 v4 v5 = some ((r, h'))) : V X 0 0 h 0 [(0, vR 7 (some v0)), (1, vI v1), (2, vI v2), (3, vI v3), (4, vI v4), (5, vI v5)] [] := by
  unfold f_X7_feed at hf
  refine V_aload_n C dX7_feed_0 rfl 0 rfl ?_
  obtain ⟨q1, eq1, hf⟩ := o_b hf
  refine V_getR C fl_X7_10 rfl rfl (by decide) eq1 dX7_feed_1 ?_
  refine V_getI C fl_X7_74 rfl dX7_feed_4 ?_
  refine V_sipush (v := (380 : Int32)) C dX7_feed_7 (by decide) ?_
  refine V_icmp_le C 15 dX7_feed_10 (by decide) (fun c2 => ?_) (fun c2 => ?_)
  · have hf := i_t c2 hf
    refine V_aload_n C dX7_feed_15 rfl 0 rfl ?_
    obtain ⟨q3, eq3, hf⟩ := o_b hf
    refine V_getR C fl_X7_10 rfl rfl (by decide) eq3 dX7_feed_16 ?_
    refine V_iload_n C dX7_feed_19 rfl 1 rfl ?_
    obtain ⟨h4, eh4, hf⟩ := o_b hf
    refine V_callV (as := [vI v1]) (st := []) C ml_X7_77 fx6 (ct_X6_append eh4) rfl ⟨by decide, by decide, by decide, by decide⟩ (Nat.le_of_ble_eq_true rfl) rfl dX7_feed_20 (cs' := 0) (sl' := 0) rfl rfl ?_
    refine V_aload_n C dX7_feed_23 rfl 0 rfl ?_
    obtain ⟨q5, eq5, hf⟩ := o_b hf
    refine V_getR C fl_X7_10 rfl rfl (by decide) eq5 dX7_feed_24 ?_
    refine V_iload_n C dX7_feed_27 rfl 2 rfl ?_
    obtain ⟨h6, eh6, hf⟩ := o_b hf
    refine V_callV (as := [vI v2]) (st := []) C ml_X7_77 fx6 (ct_X6_append eh6) rfl ⟨by decide, by decide, by decide, by decide⟩ (Nat.le_of_ble_eq_true rfl) rfl dX7_feed_28 (cs' := 0) (sl' := 0) rfl rfl ?_
    refine V_aload_n C dX7_feed_31 rfl 0 rfl ?_
    obtain ⟨q7, eq7, hf⟩ := o_b hf
    refine V_getR C fl_X7_10 rfl rfl (by decide) eq7 dX7_feed_32 ?_
    refine V_iload_n C dX7_feed_35 rfl 3 rfl ?_
    obtain ⟨h8, eh8, hf⟩ := o_b hf
    refine V_callV (as := [vI v3]) (st := []) C ml_X7_77 fx6 (ct_X6_append eh8) rfl ⟨by decide, by decide, by decide, by decide⟩ (Nat.le_of_ble_eq_true rfl) rfl dX7_feed_36 (cs' := 0) (sl' := 0) rfl rfl ?_
    refine V_aload_n C dX7_feed_39 rfl 0 rfl ?_
    obtain ⟨q9, eq9, hf⟩ := o_b hf
    refine V_getR C fl_X7_10 rfl rfl (by decide) eq9 dX7_feed_40 ?_
    refine V_iload C dX7_feed_43 4 rfl ?_
    obtain ⟨h10, eh10, hf⟩ := o_b hf
    refine V_callV (as := [vI v4]) (st := []) C ml_X7_77 fx6 (ct_X6_append eh10) rfl ⟨by decide, by decide, by decide, by decide⟩ (Nat.le_of_ble_eq_true rfl) rfl dX7_feed_45 (cs' := 0) (sl' := 0) rfl rfl ?_
    refine V_aload_n C dX7_feed_48 rfl 0 rfl ?_
    obtain ⟨q11, eq11, hf⟩ := o_b hf
    refine V_getR C fl_X7_10 rfl rfl (by decide) eq11 dX7_feed_49 ?_
    refine V_iload C dX7_feed_52 5 rfl ?_
    obtain ⟨h12, eh12, hf⟩ := o_b hf
    refine V_callV (as := [vI v5]) (st := []) C ml_X7_77 fx6 (ct_X6_append eh12) rfl ⟨by decide, by decide, by decide, by decide⟩ (Nat.le_of_ble_eq_true rfl) rfl dX7_feed_54 (cs' := 0) (sl' := 0) rfl rfl ?_
    refine V_aload_n C dX7_feed_57 rfl 0 rfl ?_
    obtain ⟨q13, eq13, hf⟩ := o_b hf
    refine V_getR C fl_X7_10 rfl rfl (by decide) eq13 dX7_feed_58 ?_
    refine V_getI C fl_X7_74 rfl dX7_feed_61 ?_
    obtain ⟨hf1, hf2⟩ := Prod.mk.inj (Option.some.inj hf)
    subst hf1
    subst hf2
    exact V_iret C hQ dX7_feed_64
  · have hf := i_f c2 hf
    refine V_iconst (v := (-1 : Int32)) C dX7_feed_13 (by decide) ?_
    obtain ⟨hf1, hf2⟩ := Prod.mk.inj (Option.some.inj hf)
    subst hf1
    subst hf2
    exact V_iret C hQ dX7_feed_14
theorem ct_X7_feed {r : Int32} {h' : Hp} {N : Nat} {h : Hp} {v0 : Nat} {v1 : Int32} {v2 : Int32} {v3 : Int32} {v4 : Int32} {v5 : Int32} (hf : f_X7_feed N h v0 v1 v2 v3 v4 v5 = some ((r, h'))) (l : Launch) (G : GT) : MC l G yX7_feed cX7_feed 6 (some .int) rmX7_feed h [vR 7 (some v0), vI v1, vI v2, vI v3, vI v4, vI v5] (some (vI r)) h' := MC_of (by decide) rfl (Nat.le_of_ble_eq_true rfl) rfl (fun X C hQ hin => p_X7_feed C hQ hf)
abbrev rmX7_end : Room := { frames := 0, cells := 0, slots := 0, locals := 0 }
def f_X7_end (h : Hp) (v0 : Nat) (v1 : Int32) : Option (Int32 × Hp) := if v1 < 0 then (some (((-1 : Int32), h))) else (Option.bind (hP h v0 0) (fun q2 => if v1 ≤ (hI h q2 1) then (Option.bind (hP h v0 0) (fun q4 => lt (sI h q4 1 v1) (fun h5 => some ((v1, h5))))) else (some (((-1 : Int32), h)))))
set_option maxHeartbeats 4000000 in
set_option maxRecDepth 100000 in
theorem p_X7_end {X : XT} {r : Int32} {h' : Hp} (C : CX X cX7_end "WaterStair" 2 (some .int) rmX7_end) {h : Hp} {v0 : Nat} {v1 : Int32} (hQ : QX X (some (vI r)) h' rmX7_end.cells rmX7_end.slots) (hf : f_X7_end h v0 v1 = some ((r, h'))) : V X 0 0 h 0 [(0, vR 7 (some v0)), (1, vI v1)] [] := by
  unfold f_X7_end at hf
  refine V_iload_n C dX7_end_0 rfl 1 rfl ?_
  refine V_if_lt C 15 dX7_end_1 (by decide) (fun c1 => ?_) (fun c1 => ?_)
  · have hf := i_t c1 hf
    refine V_iconst (v := (-1 : Int32)) C dX7_end_15 (by decide) ?_
    obtain ⟨hf1, hf2⟩ := Prod.mk.inj (Option.some.inj hf)
    subst hf1
    subst hf2
    exact V_iret C hQ dX7_end_16
  · have hf := i_f c1 hf
    refine V_iload_n C dX7_end_4 rfl 1 rfl ?_
    refine V_aload_n C dX7_end_5 rfl 0 rfl ?_
    obtain ⟨q2, eq2, hf⟩ := o_b hf
    refine V_getR C fl_X7_10 rfl rfl (by decide) eq2 dX7_end_6 ?_
    refine V_getI C fl_X7_74 rfl dX7_end_9 ?_
    refine V_icmp_le C 17 dX7_end_12 (by decide) (fun c3 => ?_) (fun c3 => ?_)
    · have hf := i_t c3 hf
      refine V_aload_n C dX7_end_17 rfl 0 rfl ?_
      obtain ⟨q4, eq4, hf⟩ := o_b hf
      refine V_getR C fl_X7_10 rfl rfl (by decide) eq4 dX7_end_18 ?_
      refine V_iload_n C dX7_end_21 rfl 1 rfl ?_
      obtain ⟨h5, eh5, hf⟩ := o_l hf
      refine V_putI C nf_X7_74 rfl (okI_int _) dX7_end_22 (V_eqH eh5 ?_)
      refine V_iload_n C dX7_end_25 rfl 1 rfl ?_
      obtain ⟨hf1, hf2⟩ := Prod.mk.inj (Option.some.inj hf)
      subst hf1
      subst hf2
      exact V_iret C hQ dX7_end_26
    · have hf := i_f c3 hf
      refine V_iconst (v := (-1 : Int32)) C dX7_end_15 (by decide) ?_
      obtain ⟨hf1, hf2⟩ := Prod.mk.inj (Option.some.inj hf)
      subst hf1
      subst hf2
      exact V_iret C hQ dX7_end_16
theorem ct_X7_end {r : Int32} {h' : Hp} {h : Hp} {v0 : Nat} {v1 : Int32} (hf : f_X7_end h v0 v1 = some ((r, h'))) (l : Launch) (G : GT) : MC l G yX7_end cX7_end 2 (some .int) rmX7_end h [vR 7 (some v0), vI v1] (some (vI r)) h' := MC_of (by decide) rfl (Nat.le_of_ble_eq_true rfl) rfl (fun X C hQ hin => p_X7_end C hQ hf)
abbrev rmX7_stair : Room := { frames := 8, cells := 0, slots := 0, locals := 175 }
def f_X7_stair (N : Nat) (h : Hp) (v0 : Nat) : Option (Int32 × Hp) := Option.bind (hP h v0 6) (fun q1 => b2 (f_X4_readStair N h q1) (fun r2 h3 => Option.bind (hP h3 v0 0) (fun q4 => lt (sI h3 q4 1 (0 : Int32)) (fun h5 => if r2 = 0 then (Option.bind (hP h5 v0 2) (fun q7 => Option.bind (hP h5 v0 1) (fun q8 => lt (sI h5 q7 5 (hI h5 q8 5)) (fun h9 => Option.bind (hP h9 v0 2) (fun q10 => Option.bind (hP h9 v0 1) (fun q11 => lt (sI h9 q10 6 (hI h9 q11 6)) (fun h12 => Option.bind (hP h12 v0 1) (fun q13 => Option.bind (hP h12 v0 2) (fun q14 => Option.bind (f_X5_copyFrom h12 q13 q14) (fun h15 => Option.bind (hP h15 v0 8) (fun q16 => Option.bind (f_X3_forget h15 q16) (fun h17 => Option.bind (hP h17 v0 1) (fun q18 => some ((hI h17 q18 0, h17))))))))))))))) else (some (((-2 : Int32) - r2, h5)))))))
set_option maxHeartbeats 4000000 in
set_option maxRecDepth 100000 in
theorem p_X7_stair {X : XT} {r : Int32} {h' : Hp} (C : CX X cX7_stair "WaterStair" 2 (some .int) rmX7_stair) {N : Nat} {h : Hp} {v0 : Nat} (hQ : QX X (some (vI r)) h' rmX7_stair.cells rmX7_stair.slots) (hf : f_X7_stair N h v0 = some ((r, h'))) : V X 0 0 h 0 [(0, vR 7 (some v0))] [] := by
  unfold f_X7_stair at hf
  refine V_aload_n C dX7_stair_0 rfl 0 rfl ?_
  obtain ⟨q1, eq1, hf⟩ := o_b hf
  refine V_getR C fl_X7_45 rfl rfl (by decide) eq1 dX7_stair_1 ?_
  obtain ⟨r2, h3, er2, hf⟩ := o_b2 hf
  refine V_callV (as := []) (st := []) C ml_X7_81 fx4 (ct_X4_readStair er2) rfl ⟨by decide, by decide, by decide, by decide⟩ (Nat.le_of_ble_eq_true rfl) rfl dX7_stair_4 (cs' := 0) (sl' := 0) rfl rfl ?_
  refine V_istore_n (lv' := [(1, vI r2), (0, vR 7 (some v0))]) C dX7_stair_7 rfl (by decide) rfl ?_
  refine V_aload_n C dX7_stair_8 rfl 1 rfl ?_
  obtain ⟨q4, eq4, hf⟩ := o_b hf
  refine V_getR C fl_X7_10 rfl rfl (by decide) eq4 dX7_stair_9 ?_
  refine V_iconst (v := (0 : Int32)) C dX7_stair_12 (by decide) ?_
  obtain ⟨h5, eh5, hf⟩ := o_l hf
  refine V_putI C nf_X7_74 rfl (okI_int _) dX7_stair_13 (V_eqH eh5 ?_)
  refine V_iload_n C dX7_stair_16 rfl 0 rfl ?_
  refine V_if_eq C 25 dX7_stair_17 (by decide) (fun c6 => ?_) (fun c6 => ?_)
  · have hf := i_t c6 hf
    refine V_aload_n C dX7_stair_25 rfl 1 rfl ?_
    obtain ⟨q7, eq7, hf⟩ := o_b hf
    refine V_getR C fl_X7_23 rfl rfl (by decide) eq7 dX7_stair_26 ?_
    refine V_aload_n C dX7_stair_29 rfl 1 rfl ?_
    obtain ⟨q8, eq8, hf⟩ := o_b hf
    refine V_getR C fl_X7_19 rfl rfl (by decide) eq8 dX7_stair_30 ?_
    refine V_getI C fl_X7_85 rfl dX7_stair_33 ?_
    obtain ⟨h9, eh9, hf⟩ := o_l hf
    refine V_putI C nf_X7_85 rfl (okI_int _) dX7_stair_36 (V_eqH eh9 ?_)
    refine V_aload_n C dX7_stair_39 rfl 1 rfl ?_
    obtain ⟨q10, eq10, hf⟩ := o_b hf
    refine V_getR C fl_X7_23 rfl rfl (by decide) eq10 dX7_stair_40 ?_
    refine V_aload_n C dX7_stair_43 rfl 1 rfl ?_
    obtain ⟨q11, eq11, hf⟩ := o_b hf
    refine V_getR C fl_X7_19 rfl rfl (by decide) eq11 dX7_stair_44 ?_
    refine V_getI C fl_X7_88 rfl dX7_stair_47 ?_
    obtain ⟨h12, eh12, hf⟩ := o_l hf
    refine V_putI C nf_X7_88 rfl (okI_int _) dX7_stair_50 (V_eqH eh12 ?_)
    refine V_aload_n C dX7_stair_53 rfl 1 rfl ?_
    obtain ⟨q13, eq13, hf⟩ := o_b hf
    refine V_getR C fl_X7_19 rfl rfl (by decide) eq13 dX7_stair_54 ?_
    refine V_aload_n C dX7_stair_57 rfl 1 rfl ?_
    obtain ⟨q14, eq14, hf⟩ := o_b hf
    refine V_getR C fl_X7_23 rfl rfl (by decide) eq14 dX7_stair_58 ?_
    obtain ⟨h15, eh15, hf⟩ := o_b hf
    refine V_callV (as := [vR 5 (some q14)]) (st := []) C ml_X7_91 fx5 (ct_X5_copyFrom eh15) rfl ⟨by decide, by decide, by decide, by decide⟩ (Nat.le_of_ble_eq_true rfl) rfl dX7_stair_61 (cs' := 0) (sl' := 0) rfl rfl ?_
    refine V_aload_n C dX7_stair_64 rfl 1 rfl ?_
    obtain ⟨q16, eq16, hf⟩ := o_b hf
    refine V_getR C fl_X7_63 rfl rfl (by decide) eq16 dX7_stair_65 ?_
    obtain ⟨h17, eh17, hf⟩ := o_b hf
    refine V_callV (as := []) (st := []) C ml_X7_94 fx3 (ct_X3_forget eh17) rfl ⟨by decide, by decide, by decide, by decide⟩ (Nat.le_of_ble_eq_true rfl) rfl dX7_stair_68 (cs' := 0) (sl' := 0) rfl rfl ?_
    refine V_aload_n C dX7_stair_71 rfl 1 rfl ?_
    obtain ⟨q18, eq18, hf⟩ := o_b hf
    refine V_getR C fl_X7_19 rfl rfl (by decide) eq18 dX7_stair_72 ?_
    refine V_getI C fl_X7_97 rfl dX7_stair_75 ?_
    obtain ⟨hf1, hf2⟩ := Prod.mk.inj (Option.some.inj hf)
    subst hf1
    subst hf2
    exact V_iret C hQ dX7_stair_78
  · have hf := i_f c6 hf
    refine V_bipush (v := (-2 : Int32)) C dX7_stair_20 (by decide) ?_
    refine V_iload_n C dX7_stair_22 rfl 0 rfl ?_
    refine V_isub C dX7_stair_23 ?_
    obtain ⟨hf1, hf2⟩ := Prod.mk.inj (Option.some.inj hf)
    subst hf1
    subst hf2
    exact V_iret C hQ dX7_stair_24
theorem ct_X7_stair {r : Int32} {h' : Hp} {N : Nat} {h : Hp} {v0 : Nat} (hf : f_X7_stair N h v0 = some ((r, h'))) (l : Launch) (G : GT) : MC l G yX7_stair cX7_stair 2 (some .int) rmX7_stair h [vR 7 (some v0)] (some (vI r)) h' := MC_of (by decide) rfl (Nat.le_of_ble_eq_true rfl) rfl (fun X C hQ hin => p_X7_stair C hQ hf)
abbrev rmX7_rule : Room := { frames := 92, cells := 4, slots := 473, locals := 3845 }
def f_X7_rule (N : Nat) (h : Hp) (v0 : Nat) : Option (Int32 × Hp) := if (hI h v0 5) < (6 : Int32) then (Option.bind (hP h v0 7) (fun q2 => b2 (f_X2_readRule N h q2) (fun r3 h4 => Option.bind (hP h4 v0 0) (fun q5 => lt (sI h4 q5 1 (0 : Int32)) (fun h6 => if r3 = none then (Option.bind (hP h6 v0 0) (fun q13 => some (((-2 : Int32) - (hI h6 q13 6), h6)))) else (Option.bind (hP h6 v0 4) (fun q8 => Option.bind r3 (fun q9 => if 0 ≤ hI h6 v0 5 ∧ (hI h6 v0 5).toNatClampNeg < hL h6 q8 then (lt (sP h6 q8 ((hI h6 v0 5).toNatClampNeg) (some q9)) (fun h11 => lt (sI h11 v0 5 ((hI h11 v0 5) + (1 : Int32))) (fun h12 => some (((hI h12 v0 5) - (1 : Int32), h12))))) else none)))))))) else (some (((-1 : Int32), h)))
set_option maxHeartbeats 4000000 in
set_option maxRecDepth 100000 in
theorem p_X7_rule {X : XT} {r : Int32} {h' : Hp} (C : CX X cX7_rule "WaterStair" 2 (some .int) rmX7_rule) {N : Nat} {h : Hp} {v0 : Nat} (hQ : QX X (some (vI r)) h' rmX7_rule.cells rmX7_rule.slots) (hf : f_X7_rule N h v0 = some ((r, h'))) : V X 0 0 h 0 [(0, vR 7 (some v0))] [] := by
  unfold f_X7_rule at hf
  refine V_aload_n C dX7_rule_0 rfl 0 rfl ?_
  refine V_getI C fl_X7_36 rfl dX7_rule_1 ?_
  refine V_bipush (v := (6 : Int32)) C dX7_rule_4 (by decide) ?_
  refine V_icmp_lt C 11 dX7_rule_6 (by decide) (fun c1 => ?_) (fun c1 => ?_)
  · have hf := i_t c1 hf
    refine V_aload_n C dX7_rule_11 rfl 0 rfl ?_
    obtain ⟨q2, eq2, hf⟩ := o_b hf
    refine V_getR C fl_X7_54 rfl rfl (by decide) eq2 dX7_rule_12 ?_
    obtain ⟨r3, h4, er3, hf⟩ := o_b2 hf
    refine V_callV (as := []) (st := []) C ml_X7_100 fx2 (ct_X2_readRule er3) rfl ⟨by decide, by decide, by decide, by decide⟩ (Nat.le_of_ble_eq_true rfl) rfl dX7_rule_15 (cs' := 4) (sl' := 473) rfl rfl ?_
    refine V_astore_n (lv' := [(1, vR 1 r3), (0, vR 7 (some v0))]) C dX7_rule_18 rfl (by decide) rfl ?_
    refine V_aload_n C dX7_rule_19 rfl 1 rfl ?_
    obtain ⟨q5, eq5, hf⟩ := o_b hf
    refine V_getR C fl_X7_10 rfl rfl (by decide) eq5 dX7_rule_20 ?_
    refine V_iconst (v := (0 : Int32)) C dX7_rule_23 (by decide) ?_
    obtain ⟨h6, eh6, hf⟩ := o_l hf
    refine V_putI C nf_X7_74 rfl (okI_int _) dX7_rule_24 (V_eqH eh6 ?_)
    refine V_aload_n C dX7_rule_27 rfl 0 rfl ?_
    refine V_ifnonnull C (by decide) 42 dX7_rule_28 (by decide) (fun wc7 c7 => ?_) (fun c7 => ?_)
    · have hf := i_f (fun z => by rw [c7] at z; cases z) hf
      refine V_aload_n C dX7_rule_42 rfl 1 rfl ?_
      obtain ⟨q8, eq8, hf⟩ := o_b hf
      refine V_getR C fl_X7_32 rfl rfl (by decide) eq8 dX7_rule_43 ?_
      refine V_aload_n C dX7_rule_46 rfl 1 rfl ?_
      refine V_getI C fl_X7_36 rfl dX7_rule_47 ?_
      refine V_aload_n C dX7_rule_50 rfl 0 rfl ?_
      obtain ⟨q9, eq9, hf⟩ := o_b hf
      refine V_eqR eq9 ?_
      obtain ⟨g10, hf⟩ := o_if hf
      obtain ⟨h11, eh11, hf⟩ := o_l hf
      refine V_rulest C (vp_g g10) rfl dX7_rule_51 (V_eqH eh11 ?_)
      refine V_aload_n C dX7_rule_52 rfl 1 rfl ?_
      refine V_dup C dX7_rule_53 rfl ?_
      refine V_getI C fl_X7_36 rfl dX7_rule_54 ?_
      refine V_iconst (v := (1 : Int32)) C dX7_rule_57 (by decide) ?_
      refine V_iadd C dX7_rule_58 ?_
      obtain ⟨h12, eh12, hf⟩ := o_l hf
      refine V_putI C nf_X7_36 rfl (okI_int _) dX7_rule_59 (V_eqH eh12 ?_)
      refine V_aload_n C dX7_rule_62 rfl 1 rfl ?_
      refine V_getI C fl_X7_36 rfl dX7_rule_63 ?_
      refine V_iconst (v := (1 : Int32)) C dX7_rule_66 (by decide) ?_
      refine V_isub C dX7_rule_67 ?_
      obtain ⟨hf1, hf2⟩ := Prod.mk.inj (Option.some.inj hf)
      subst hf1
      subst hf2
      exact V_iret C hQ dX7_rule_68
    · have hf := i_t c7 hf
      refine V_bipush (v := (-2 : Int32)) C dX7_rule_31 (by decide) ?_
      refine V_aload_n C dX7_rule_33 rfl 1 rfl ?_
      obtain ⟨q13, eq13, hf⟩ := o_b hf
      refine V_getR C fl_X7_10 rfl rfl (by decide) eq13 dX7_rule_34 ?_
      refine V_getI C fl_X7_104 rfl dX7_rule_37 ?_
      refine V_isub C dX7_rule_40 ?_
      obtain ⟨hf1, hf2⟩ := Prod.mk.inj (Option.some.inj hf)
      subst hf1
      subst hf2
      exact V_iret C hQ dX7_rule_41
  · have hf := i_f c1 hf
    refine V_iconst (v := (-1 : Int32)) C dX7_rule_9 (by decide) ?_
    refine V_wide (cs' := rmX7_rule.cells) (sl' := rmX7_rule.slots) (by decide) (by decide) ?_
    obtain ⟨hf1, hf2⟩ := Prod.mk.inj (Option.some.inj hf)
    subst hf1
    subst hf2
    exact V_iret C hQ dX7_rule_10
theorem ct_X7_rule {r : Int32} {h' : Hp} {N : Nat} {h : Hp} {v0 : Nat} (hf : f_X7_rule N h v0 = some ((r, h'))) (l : Launch) (G : GT) : MC l G yX7_rule cX7_rule 2 (some .int) rmX7_rule h [vR 7 (some v0)] (some (vI r)) h' := MC_of (by decide) rfl (Nat.le_of_ble_eq_true rfl) rfl (fun X C hQ hin => p_X7_rule C hQ hf)
abbrev rmX7_force : Room := { frames := 1, cells := 0, slots := 0, locals := 20 }
def f_X7_force (h : Hp) (v0 : Nat) (v1 : Int32) : Option (Int32 × Hp) := if v1 < (-1 : Int32) then (some (((-2 : Int32), h))) else (if v1 < (hI h v0 5) then (Option.bind (hP h v0 1) (fun q3 => Option.bind (hP h v0 1) (fun q4 => lt (sI h q4 5 v1) (fun h5 => Option.bind (hP h5 v0 8) (fun q6 => Option.bind (f_X3_forget h5 q6) (fun h7 => some ((hI h q3 5, h7)))))))) else (some (((-2 : Int32), h))))
set_option maxHeartbeats 4000000 in
set_option maxRecDepth 100000 in
theorem p_X7_force {X : XT} {r : Int32} {h' : Hp} (C : CX X cX7_force "WaterStair" 3 (some .int) rmX7_force) {h : Hp} {v0 : Nat} {v1 : Int32} (hQ : QX X (some (vI r)) h' rmX7_force.cells rmX7_force.slots) (hf : f_X7_force h v0 v1 = some ((r, h'))) : V X 0 0 h 0 [(0, vR 7 (some v0)), (1, vI v1)] [] := by
  unfold f_X7_force at hf
  refine V_iload_n C dX7_force_0 rfl 1 rfl ?_
  refine V_iconst (v := (-1 : Int32)) C dX7_force_1 (by decide) ?_
  refine V_icmp_lt C 13 dX7_force_2 (by decide) (fun c1 => ?_) (fun c1 => ?_)
  · have hf := i_t c1 hf
    refine V_bipush (v := (-2 : Int32)) C dX7_force_13 (by decide) ?_
    obtain ⟨hf1, hf2⟩ := Prod.mk.inj (Option.some.inj hf)
    subst hf1
    subst hf2
    exact V_iret C hQ dX7_force_15
  · have hf := i_f c1 hf
    refine V_iload_n C dX7_force_5 rfl 1 rfl ?_
    refine V_aload_n C dX7_force_6 rfl 0 rfl ?_
    refine V_getI C fl_X7_36 rfl dX7_force_7 ?_
    refine V_icmp_lt C 16 dX7_force_10 (by decide) (fun c2 => ?_) (fun c2 => ?_)
    · have hf := i_t c2 hf
      refine V_aload_n C dX7_force_16 rfl 0 rfl ?_
      obtain ⟨q3, eq3, hf⟩ := o_b hf
      refine V_getR C fl_X7_19 rfl rfl (by decide) eq3 dX7_force_17 ?_
      refine V_getI C fl_X7_85 rfl dX7_force_20 ?_
      refine V_istore_n (lv' := [(2, vI (hI h q3 5)), (0, vR 7 (some v0)), (1, vI v1)]) C dX7_force_23 rfl (by decide) rfl ?_
      refine V_aload_n C dX7_force_24 rfl 1 rfl ?_
      obtain ⟨q4, eq4, hf⟩ := o_b hf
      refine V_getR C fl_X7_19 rfl rfl (by decide) eq4 dX7_force_25 ?_
      refine V_iload_n C dX7_force_28 rfl 2 rfl ?_
      obtain ⟨h5, eh5, hf⟩ := o_l hf
      refine V_putI C nf_X7_85 rfl (okI_int _) dX7_force_29 (V_eqH eh5 ?_)
      refine V_aload_n C dX7_force_32 rfl 1 rfl ?_
      obtain ⟨q6, eq6, hf⟩ := o_b hf
      refine V_getR C fl_X7_63 rfl rfl (by decide) eq6 dX7_force_33 ?_
      obtain ⟨h7, eh7, hf⟩ := o_b hf
      refine V_callV (as := []) (st := []) C ml_X7_94 fx3 (ct_X3_forget eh7) rfl ⟨by decide, by decide, by decide, by decide⟩ (Nat.le_of_ble_eq_true rfl) rfl dX7_force_36 (cs' := 0) (sl' := 0) rfl rfl ?_
      refine V_iload_n C dX7_force_39 rfl 0 rfl ?_
      obtain ⟨hf1, hf2⟩ := Prod.mk.inj (Option.some.inj hf)
      subst hf1
      subst hf2
      exact V_iret C hQ dX7_force_40
    · have hf := i_f c2 hf
      refine V_bipush (v := (-2 : Int32)) C dX7_force_13 (by decide) ?_
      obtain ⟨hf1, hf2⟩ := Prod.mk.inj (Option.some.inj hf)
      subst hf1
      subst hf2
      exact V_iret C hQ dX7_force_15
theorem ct_X7_force {r : Int32} {h' : Hp} {h : Hp} {v0 : Nat} {v1 : Int32} (hf : f_X7_force h v0 v1 = some ((r, h'))) (l : Launch) (G : GT) : MC l G yX7_force cX7_force 3 (some .int) rmX7_force h [vR 7 (some v0), vI v1] (some (vI r)) h' := MC_of (by decide) rfl (Nat.le_of_ble_eq_true rfl) rfl (fun X C hQ hin => p_X7_force C hQ hf)
abbrev rmX7_level : Room := { frames := 1, cells := 0, slots := 0, locals := 23 }
def f_X7_level (N : Nat) (h : Hp) (v0 : Nat) (v1 : Int32) (v2 : Int32) : Option (Int32) := Option.bind (hP h v0 1) (fun q1 => Option.bind (f_X5_hasLevel h q1 v1) (fun r2 => if r2 = 0 then (some (-1 : Int32)) else (if v2 = (0 : Int32) then (Option.bind (hP h v0 1) (fun q5 => Option.bind (hP h q5 8) (fun q6 => if 0 ≤ v1 ∧ v1.toNatClampNeg < hL h q6 then (some (hI h q6 (v1.toNatClampNeg))) else none))) else if v2 = (1 : Int32) then (Option.bind (hP h v0 1) (fun q9 => Option.bind (hP h q9 9) (fun q10 => if 0 ≤ v1 ∧ v1.toNatClampNeg < hL h q10 then (some (hI h q10 (v1.toNatClampNeg))) else none))) else if v2 = (2 : Int32) then (Option.bind (hP h v0 1) (fun q13 => Option.bind (f_X5_bargeBitsAt N h q13 v1) (fun r14 => some r14))) else if v2 = (3 : Int32) then (Option.bind (hP h v0 1) (fun q16 => Option.bind (f_X5_hasStep h q16 v1) (fun r17 => if r17 = 0 then (some (-1 : Int32)) else (Option.bind (hP h v0 1) (fun q19 => Option.bind (hP h q19 10) (fun q20 => if 0 ≤ v1 ∧ v1.toNatClampNeg < hL h q20 then (some (hI h q20 (v1.toNatClampNeg))) else none)))))) else (some (-1 : Int32)))))
set_option maxHeartbeats 4000000 in
set_option maxRecDepth 100000 in
theorem p_X7_level {X : XT} {r : Int32} (C : CX X cX7_level "WaterStair" 3 (some .int) rmX7_level) {N : Nat} {h : Hp} {v0 : Nat} {v1 : Int32} {v2 : Int32} (hQ : QX X (some (vI r)) h rmX7_level.cells rmX7_level.slots) (hf : f_X7_level N h v0 v1 v2 = some r) : V X 0 0 h 0 [(0, vR 7 (some v0)), (1, vI v1), (2, vI v2)] [] := by
  unfold f_X7_level at hf
  refine V_aload_n C dX7_level_0 rfl 0 rfl ?_
  obtain ⟨q1, eq1, hf⟩ := o_b hf
  refine V_getR C fl_X7_19 rfl rfl (by decide) eq1 dX7_level_1 ?_
  refine V_iload_n C dX7_level_4 rfl 1 rfl ?_
  obtain ⟨r2, er2, hf⟩ := o_b hf
  refine V_callV (as := [vI v1]) (st := []) C ml_X7_107 fx5 (ct_X5_hasLevel er2) rfl ⟨by decide, by decide, by decide, by decide⟩ (Nat.le_of_ble_eq_true rfl) rfl dX7_level_5 (cs' := 0) (sl' := 0) rfl rfl ?_
  refine V_if_ne C 13 dX7_level_8 (by decide) (fun c3 => ?_) (fun c3 => ?_)
  · have hf := i_f c3 hf
    refine V_iload_n C dX7_level_13 rfl 2 rfl ?_
    by_cases c4 : v2 = (0 : Int32)
    · have hf := i_t c4 hf
      refine V_tabIn (off := 30) C 44 dX7_level_14 (by rw [c4]; decide) (by rw [c4]; decide) (by rw [c4]; decide) (by decide) ?_
      refine V_aload_n C dX7_level_44 rfl 0 rfl ?_
      obtain ⟨q5, eq5, hf⟩ := o_b hf
      refine V_getR C fl_X7_19 rfl rfl (by decide) eq5 dX7_level_45 ?_
      obtain ⟨q6, eq6, hf⟩ := o_b hf
      refine V_getR C fl_X7_111 rfl rfl (by decide) eq6 dX7_level_48 ?_
      refine V_iload_n C dX7_level_51 rfl 1 rfl ?_
      obtain ⟨g7, hf⟩ := o_if hf
      refine V_iald C (vp_g g7) rfl dX7_level_52 ?_
      have hf := Option.some.inj hf
      subst hf
      exact V_iret C hQ dX7_level_53
    have hf := i_f c4 hf
    by_cases c8 : v2 = (1 : Int32)
    · have hf := i_t c8 hf
      refine V_tabIn (off := 40) C 54 dX7_level_14 (by rw [c8]; decide) (by rw [c8]; decide) (by rw [c8]; decide) (by decide) ?_
      refine V_aload_n C dX7_level_54 rfl 0 rfl ?_
      obtain ⟨q9, eq9, hf⟩ := o_b hf
      refine V_getR C fl_X7_19 rfl rfl (by decide) eq9 dX7_level_55 ?_
      obtain ⟨q10, eq10, hf⟩ := o_b hf
      refine V_getR C fl_X7_115 rfl rfl (by decide) eq10 dX7_level_58 ?_
      refine V_iload_n C dX7_level_61 rfl 1 rfl ?_
      obtain ⟨g11, hf⟩ := o_if hf
      refine V_iald C (vp_g g11) rfl dX7_level_62 ?_
      have hf := Option.some.inj hf
      subst hf
      exact V_iret C hQ dX7_level_63
    have hf := i_f c8 hf
    by_cases c12 : v2 = (2 : Int32)
    · have hf := i_t c12 hf
      refine V_tabIn (off := 50) C 64 dX7_level_14 (by rw [c12]; decide) (by rw [c12]; decide) (by rw [c12]; decide) (by decide) ?_
      refine V_aload_n C dX7_level_64 rfl 0 rfl ?_
      obtain ⟨q13, eq13, hf⟩ := o_b hf
      refine V_getR C fl_X7_19 rfl rfl (by decide) eq13 dX7_level_65 ?_
      refine V_iload_n C dX7_level_68 rfl 1 rfl ?_
      obtain ⟨r14, er14, hf⟩ := o_b hf
      refine V_callV (as := [vI v1]) (st := []) C ml_X7_118 fx5 (ct_X5_bargeBitsAt er14) rfl ⟨by decide, by decide, by decide, by decide⟩ (Nat.le_of_ble_eq_true rfl) rfl dX7_level_69 (cs' := 0) (sl' := 0) rfl rfl ?_
      have hf := Option.some.inj hf
      subst hf
      exact V_iret C hQ dX7_level_72
    have hf := i_f c12 hf
    by_cases c15 : v2 = (3 : Int32)
    · have hf := i_t c15 hf
      refine V_tabIn (off := 59) C 73 dX7_level_14 (by rw [c15]; decide) (by rw [c15]; decide) (by rw [c15]; decide) (by decide) ?_
      refine V_aload_n C dX7_level_73 rfl 0 rfl ?_
      obtain ⟨q16, eq16, hf⟩ := o_b hf
      refine V_getR C fl_X7_19 rfl rfl (by decide) eq16 dX7_level_74 ?_
      refine V_iload_n C dX7_level_77 rfl 1 rfl ?_
      obtain ⟨r17, er17, hf⟩ := o_b hf
      refine V_callV (as := [vI v1]) (st := []) C ml_X7_122 fx5 (ct_X5_hasStep er17) rfl ⟨by decide, by decide, by decide, by decide⟩ (Nat.le_of_ble_eq_true rfl) rfl dX7_level_78 (cs' := 0) (sl' := 0) rfl rfl ?_
      refine V_if_eq C 96 dX7_level_81 (by decide) (fun c18 => ?_) (fun c18 => ?_)
      · have hf := i_t c18 hf
        refine V_iconst (v := (-1 : Int32)) C dX7_level_96 (by decide) ?_
        have hf := Option.some.inj hf
        subst hf
        exact V_iret C hQ dX7_level_97
      · have hf := i_f c18 hf
        refine V_aload_n C dX7_level_84 rfl 0 rfl ?_
        obtain ⟨q19, eq19, hf⟩ := o_b hf
        refine V_getR C fl_X7_19 rfl rfl (by decide) eq19 dX7_level_85 ?_
        obtain ⟨q20, eq20, hf⟩ := o_b hf
        refine V_getR C fl_X7_125 rfl rfl (by decide) eq20 dX7_level_88 ?_
        refine V_iload_n C dX7_level_91 rfl 1 rfl ?_
        obtain ⟨g21, hf⟩ := o_if hf
        refine V_iald C (vp_g g21) rfl dX7_level_92 ?_
        refine V_goto C 97 dX7_level_93 (by decide) ?_
        have hf := Option.some.inj hf
        subst hf
        exact V_iret C hQ dX7_level_97
    have hf := i_f c15 hf
    refine V_tabOut C 98 dX7_level_14 (tab_o (fun z z1 z2 => ?_)) (by decide) ?_
    · rcases (show z = 0 ∨ z = 1 ∨ z = 2 ∨ z = 3 by omega) with rfl | rfl | rfl | rfl
      · exact tab_n c4 (by decide)
      · exact tab_n c8 (by decide)
      · exact tab_n c12 (by decide)
      · exact tab_n c15 (by decide)
    refine V_iconst (v := (-1 : Int32)) C dX7_level_98 (by decide) ?_
    have hf := Option.some.inj hf
    subst hf
    exact V_iret C hQ dX7_level_99
  · have hf := i_t c3 hf
    refine V_iconst (v := (-1 : Int32)) C dX7_level_11 (by decide) ?_
    have hf := Option.some.inj hf
    subst hf
    exact V_iret C hQ dX7_level_12
theorem ct_X7_level {r : Int32} {N : Nat} {h : Hp} {v0 : Nat} {v1 : Int32} {v2 : Int32} (hf : f_X7_level N h v0 v1 v2 = some r) (l : Launch) (G : GT) : MC l G yX7_level cX7_level 3 (some .int) rmX7_level h [vR 7 (some v0), vI v1, vI v2] (some (vI r)) h := MC_of (by decide) rfl (Nat.le_of_ble_eq_true rfl) rfl (fun X C hQ hin => p_X7_level C hQ hf)
abbrev rmX7_barge : Room := { frames := 2, cells := 0, slots := 0, locals := 42 }
def f_X7_barge (h : Hp) (v0 : Nat) (v1 : Int32) (v2 : Int32) : Option (Int32) := Option.bind (hP h v0 1) (fun q1 => Option.bind (f_X5_hasBarge h q1 v1) (fun r2 => if r2 = 0 then (some (-1 : Int32)) else (if v2 = (0 : Int32) then (Option.bind (hP h v0 1) (fun q5 => Option.bind (hP h q5 12) (fun q6 => if 0 ≤ v1 ∧ v1.toNatClampNeg < hL h q6 then (some (hI h q6 (v1.toNatClampNeg))) else none))) else if v2 = (1 : Int32) then (Option.bind (hP h v0 1) (fun q9 => Option.bind (hP h q9 13) (fun q10 => if 0 ≤ v1 ∧ v1.toNatClampNeg < hL h q10 then (some (hI h q10 (v1.toNatClampNeg))) else none))) else if v2 = (2 : Int32) then (Option.bind (hP h v0 1) (fun q13 => Option.bind (hP h q13 14) (fun q14 => if 0 ≤ v1 ∧ v1.toNatClampNeg < hL h q14 then (some (hI h q14 (v1.toNatClampNeg))) else none))) else if v2 = (3 : Int32) then (Option.bind (hP h v0 1) (fun q17 => Option.bind (hP h q17 15) (fun q18 => if 0 ≤ v1 ∧ v1.toNatClampNeg < hL h q18 then (some (hI h q18 (v1.toNatClampNeg))) else none))) else if v2 = (4 : Int32) then (Option.bind (hP h v0 1) (fun q21 => Option.bind (hP h q21 16) (fun q22 => if 0 ≤ v1 ∧ v1.toNatClampNeg < hL h q22 then (some (hI h q22 (v1.toNatClampNeg))) else none))) else if v2 = (5 : Int32) then (Option.bind (hP h v0 1) (fun q25 => Option.bind (f_X5_isHome h q25 v1) (fun r26 => if r26 = 0 then (some (0 : Int32)) else (some (1 : Int32))))) else (some (-1 : Int32)))))
set_option maxHeartbeats 4000000 in
set_option maxRecDepth 100000 in
theorem p_X7_barge {X : XT} {r : Int32} (C : CX X cX7_barge "WaterStair" 3 (some .int) rmX7_barge) {h : Hp} {v0 : Nat} {v1 : Int32} {v2 : Int32} (hQ : QX X (some (vI r)) h rmX7_barge.cells rmX7_barge.slots) (hf : f_X7_barge h v0 v1 v2 = some r) : V X 0 0 h 0 [(0, vR 7 (some v0)), (1, vI v1), (2, vI v2)] [] := by
  unfold f_X7_barge at hf
  refine V_aload_n C dX7_barge_0 rfl 0 rfl ?_
  obtain ⟨q1, eq1, hf⟩ := o_b hf
  refine V_getR C fl_X7_19 rfl rfl (by decide) eq1 dX7_barge_1 ?_
  refine V_iload_n C dX7_barge_4 rfl 1 rfl ?_
  obtain ⟨r2, er2, hf⟩ := o_b hf
  refine V_callV (as := [vI v1]) (st := []) C ml_X7_128 fx5 (ct_X5_hasBarge er2) rfl ⟨by decide, by decide, by decide, by decide⟩ (Nat.le_of_ble_eq_true rfl) rfl dX7_barge_5 (cs' := 0) (sl' := 0) rfl rfl ?_
  refine V_if_ne C 13 dX7_barge_8 (by decide) (fun c3 => ?_) (fun c3 => ?_)
  · have hf := i_f c3 hf
    refine V_iload_n C dX7_barge_13 rfl 2 rfl ?_
    by_cases c4 : v2 = (0 : Int32)
    · have hf := i_t c4 hf
      refine V_tabIn (off := 38) C 52 dX7_barge_14 (by rw [c4]; decide) (by rw [c4]; decide) (by rw [c4]; decide) (by decide) ?_
      refine V_aload_n C dX7_barge_52 rfl 0 rfl ?_
      obtain ⟨q5, eq5, hf⟩ := o_b hf
      refine V_getR C fl_X7_19 rfl rfl (by decide) eq5 dX7_barge_53 ?_
      obtain ⟨q6, eq6, hf⟩ := o_b hf
      refine V_getR C fl_X7_131 rfl rfl (by decide) eq6 dX7_barge_56 ?_
      refine V_iload_n C dX7_barge_59 rfl 1 rfl ?_
      obtain ⟨g7, hf⟩ := o_if hf
      refine V_iald C (vp_g g7) rfl dX7_barge_60 ?_
      have hf := Option.some.inj hf
      subst hf
      exact V_iret C hQ dX7_barge_61
    have hf := i_f c4 hf
    by_cases c8 : v2 = (1 : Int32)
    · have hf := i_t c8 hf
      refine V_tabIn (off := 48) C 62 dX7_barge_14 (by rw [c8]; decide) (by rw [c8]; decide) (by rw [c8]; decide) (by decide) ?_
      refine V_aload_n C dX7_barge_62 rfl 0 rfl ?_
      obtain ⟨q9, eq9, hf⟩ := o_b hf
      refine V_getR C fl_X7_19 rfl rfl (by decide) eq9 dX7_barge_63 ?_
      obtain ⟨q10, eq10, hf⟩ := o_b hf
      refine V_getR C fl_X7_134 rfl rfl (by decide) eq10 dX7_barge_66 ?_
      refine V_iload_n C dX7_barge_69 rfl 1 rfl ?_
      obtain ⟨g11, hf⟩ := o_if hf
      refine V_iald C (vp_g g11) rfl dX7_barge_70 ?_
      have hf := Option.some.inj hf
      subst hf
      exact V_iret C hQ dX7_barge_71
    have hf := i_f c8 hf
    by_cases c12 : v2 = (2 : Int32)
    · have hf := i_t c12 hf
      refine V_tabIn (off := 58) C 72 dX7_barge_14 (by rw [c12]; decide) (by rw [c12]; decide) (by rw [c12]; decide) (by decide) ?_
      refine V_aload_n C dX7_barge_72 rfl 0 rfl ?_
      obtain ⟨q13, eq13, hf⟩ := o_b hf
      refine V_getR C fl_X7_19 rfl rfl (by decide) eq13 dX7_barge_73 ?_
      obtain ⟨q14, eq14, hf⟩ := o_b hf
      refine V_getR C fl_X7_137 rfl rfl (by decide) eq14 dX7_barge_76 ?_
      refine V_iload_n C dX7_barge_79 rfl 1 rfl ?_
      obtain ⟨g15, hf⟩ := o_if hf
      refine V_iald C (vp_g g15) rfl dX7_barge_80 ?_
      have hf := Option.some.inj hf
      subst hf
      exact V_iret C hQ dX7_barge_81
    have hf := i_f c12 hf
    by_cases c16 : v2 = (3 : Int32)
    · have hf := i_t c16 hf
      refine V_tabIn (off := 68) C 82 dX7_barge_14 (by rw [c16]; decide) (by rw [c16]; decide) (by rw [c16]; decide) (by decide) ?_
      refine V_aload_n C dX7_barge_82 rfl 0 rfl ?_
      obtain ⟨q17, eq17, hf⟩ := o_b hf
      refine V_getR C fl_X7_19 rfl rfl (by decide) eq17 dX7_barge_83 ?_
      obtain ⟨q18, eq18, hf⟩ := o_b hf
      refine V_getR C fl_X7_140 rfl rfl (by decide) eq18 dX7_barge_86 ?_
      refine V_iload_n C dX7_barge_89 rfl 1 rfl ?_
      obtain ⟨g19, hf⟩ := o_if hf
      refine V_iald C (vp_g g19) rfl dX7_barge_90 ?_
      have hf := Option.some.inj hf
      subst hf
      exact V_iret C hQ dX7_barge_91
    have hf := i_f c16 hf
    by_cases c20 : v2 = (4 : Int32)
    · have hf := i_t c20 hf
      refine V_tabIn (off := 78) C 92 dX7_barge_14 (by rw [c20]; decide) (by rw [c20]; decide) (by rw [c20]; decide) (by decide) ?_
      refine V_aload_n C dX7_barge_92 rfl 0 rfl ?_
      obtain ⟨q21, eq21, hf⟩ := o_b hf
      refine V_getR C fl_X7_19 rfl rfl (by decide) eq21 dX7_barge_93 ?_
      obtain ⟨q22, eq22, hf⟩ := o_b hf
      refine V_getR C fl_X7_143 rfl rfl (by decide) eq22 dX7_barge_96 ?_
      refine V_iload_n C dX7_barge_99 rfl 1 rfl ?_
      obtain ⟨g23, hf⟩ := o_if hf
      refine V_iald C (vp_g g23) rfl dX7_barge_100 ?_
      have hf := Option.some.inj hf
      subst hf
      exact V_iret C hQ dX7_barge_101
    have hf := i_f c20 hf
    by_cases c24 : v2 = (5 : Int32)
    · have hf := i_t c24 hf
      refine V_tabIn (off := 88) C 102 dX7_barge_14 (by rw [c24]; decide) (by rw [c24]; decide) (by rw [c24]; decide) (by decide) ?_
      refine V_aload_n C dX7_barge_102 rfl 0 rfl ?_
      obtain ⟨q25, eq25, hf⟩ := o_b hf
      refine V_getR C fl_X7_19 rfl rfl (by decide) eq25 dX7_barge_103 ?_
      refine V_iload_n C dX7_barge_106 rfl 1 rfl ?_
      obtain ⟨r26, er26, hf⟩ := o_b hf
      refine V_callV (as := [vI v1]) (st := []) C ml_X7_146 fx5 (ct_X5_isHome er26) rfl ⟨by decide, by decide, by decide, by decide⟩ (Nat.le_of_ble_eq_true rfl) rfl dX7_barge_107 (cs' := 0) (sl' := 0) rfl rfl ?_
      refine V_if_eq C 117 dX7_barge_110 (by decide) (fun c27 => ?_) (fun c27 => ?_)
      · have hf := i_t c27 hf
        refine V_iconst (v := (0 : Int32)) C dX7_barge_117 (by decide) ?_
        have hf := Option.some.inj hf
        subst hf
        exact V_iret C hQ dX7_barge_118
      · have hf := i_f c27 hf
        refine V_iconst (v := (1 : Int32)) C dX7_barge_113 (by decide) ?_
        refine V_goto C 118 dX7_barge_114 (by decide) ?_
        have hf := Option.some.inj hf
        subst hf
        exact V_iret C hQ dX7_barge_118
    have hf := i_f c24 hf
    refine V_tabOut C 119 dX7_barge_14 (tab_o (fun z z1 z2 => ?_)) (by decide) ?_
    · rcases (show z = 0 ∨ z = 1 ∨ z = 2 ∨ z = 3 ∨ z = 4 ∨ z = 5 by omega) with rfl | rfl | rfl | rfl | rfl | rfl
      · exact tab_n c4 (by decide)
      · exact tab_n c8 (by decide)
      · exact tab_n c12 (by decide)
      · exact tab_n c16 (by decide)
      · exact tab_n c20 (by decide)
      · exact tab_n c24 (by decide)
    refine V_iconst (v := (-1 : Int32)) C dX7_barge_119 (by decide) ?_
    have hf := Option.some.inj hf
    subst hf
    exact V_iret C hQ dX7_barge_120
  · have hf := i_t c3 hf
    refine V_iconst (v := (-1 : Int32)) C dX7_barge_11 (by decide) ?_
    have hf := Option.some.inj hf
    subst hf
    exact V_iret C hQ dX7_barge_12
theorem ct_X7_barge {r : Int32} {h : Hp} {v0 : Nat} {v1 : Int32} {v2 : Int32} (hf : f_X7_barge h v0 v1 v2 = some r) (l : Launch) (G : GT) : MC l G yX7_barge cX7_barge 3 (some .int) rmX7_barge h [vR 7 (some v0), vI v1, vI v2] (some (vI r)) h := MC_of (by decide) rfl (Nat.le_of_ble_eq_true rfl) rfl (fun X C hQ hin => p_X7_barge C hQ hf)
abbrev rmX7_ruleInForce : Room := { frames := 0, cells := 0, slots := 0, locals := 0 }
def f_X7_ruleInForce (h : Hp) (v0 : Nat) : Option (Option Nat) := Option.bind (hP h v0 1) (fun q1 => if (hI h q1 5) < 0 then (some none) else (if (hI h q1 5) < (hI h v0 5) then (Option.bind (hP h v0 4) (fun q4 => if 0 ≤ hI h q1 5 ∧ (hI h q1 5).toNatClampNeg < hL h q4 then (some (hP h q4 ((hI h q1 5).toNatClampNeg))) else none)) else (some none)))
set_option maxHeartbeats 4000000 in
set_option maxRecDepth 100000 in
theorem p_X7_ruleInForce {X : XT} {r : Option Nat} (C : CX X cX7_ruleInForce "WaterStair" 2 (some (.object "WaterStair$Rule")) rmX7_ruleInForce) {h : Hp} {v0 : Nat} (hQ : QX X (some (vR 1 r)) h rmX7_ruleInForce.cells rmX7_ruleInForce.slots) (hf : f_X7_ruleInForce h v0 = some r) : V X 0 0 h 0 [(0, vR 7 (some v0))] [] := by
  unfold f_X7_ruleInForce at hf
  refine V_aload_n C dX7_ruleInForce_0 rfl 0 rfl ?_
  obtain ⟨q1, eq1, hf⟩ := o_b hf
  refine V_getR C fl_X7_19 rfl rfl (by decide) eq1 dX7_ruleInForce_1 ?_
  refine V_getI C fl_X7_85 rfl dX7_ruleInForce_4 ?_
  refine V_istore_n (lv' := [(1, vI (hI h q1 5)), (0, vR 7 (some v0))]) C dX7_ruleInForce_7 rfl (by decide) rfl ?_
  refine V_iload_n C dX7_ruleInForce_8 rfl 0 rfl ?_
  refine V_if_lt C 20 dX7_ruleInForce_9 (by decide) (fun c2 => ?_) (fun c2 => ?_)
  · have hf := i_t c2 hf
    refine V_null (by decide : 1 < 16) C dX7_ruleInForce_20 ?_
    refine V_goto C 30 dX7_ruleInForce_21 (by decide) ?_
    have hf := Option.some.inj hf
    subst hf
    exact V_aret C (Or.inl ⟨_, rfl⟩) (by decide) hQ dX7_ruleInForce_30
  · have hf := i_f c2 hf
    refine V_iload_n C dX7_ruleInForce_12 rfl 0 rfl ?_
    refine V_aload_n C dX7_ruleInForce_13 rfl 1 rfl ?_
    refine V_getI C fl_X7_36 rfl dX7_ruleInForce_14 ?_
    refine V_icmp_lt C 24 dX7_ruleInForce_17 (by decide) (fun c3 => ?_) (fun c3 => ?_)
    · have hf := i_t c3 hf
      refine V_aload_n C dX7_ruleInForce_24 rfl 1 rfl ?_
      obtain ⟨q4, eq4, hf⟩ := o_b hf
      refine V_getR C fl_X7_32 rfl rfl (by decide) eq4 dX7_ruleInForce_25 ?_
      refine V_iload_n C dX7_ruleInForce_28 rfl 0 rfl ?_
      obtain ⟨g5, hf⟩ := o_if hf
      refine V_ruleld C (vp_g g5) rfl dX7_ruleInForce_29 ?_
      have hf := Option.some.inj hf
      subst hf
      exact V_aret C (Or.inl ⟨_, rfl⟩) (by decide) hQ dX7_ruleInForce_30
    · have hf := i_f c3 hf
      refine V_null (by decide : 1 < 16) C dX7_ruleInForce_20 ?_
      refine V_goto C 30 dX7_ruleInForce_21 (by decide) ?_
      have hf := Option.some.inj hf
      subst hf
      exact V_aret C (Or.inl ⟨_, rfl⟩) (by decide) hQ dX7_ruleInForce_30
theorem ct_X7_ruleInForce {r : Option Nat} {h : Hp} {v0 : Nat} (hf : f_X7_ruleInForce h v0 = some r) (l : Launch) (G : GT) : MC l G yX7_ruleInForce cX7_ruleInForce 2 (some (.object "WaterStair$Rule")) rmX7_ruleInForce h [vR 7 (some v0)] (some (vR 1 r)) h := MC_of (by decide) rfl (Nat.le_of_ble_eq_true rfl) rfl (fun X C hQ hin => p_X7_ruleInForce C hQ hf)
abbrev rmX7_may : Room := { frames := 4, cells := 0, slots := 0, locals := 92 }
def f_X7_may (N : Nat) (h : Hp) (v0 : Nat) (v1 : Int32) (v2 : Int32) (v3 : Int32) : Option (Int32 × Hp) := Option.bind (hP h v0 1) (fun q1 => Option.bind (f_X5_isTip h q1 v1 v2 v3) (fun r2 => if r2 = 0 then (some (((-1 : Int32), h))) else (Option.bind (hP h v0 1) (fun q4 => Option.bind (f_X7_ruleInForce h v0) (fun r5 => b2 (f_X5_brokenLaw N h q4 r5 v1 v2 v3) (fun r6 h7 => if r6 = 0 then (Option.bind (hP h7 v0 1) (fun q9 => Option.bind (f_X5_need h7 q9 v2 v3) (fun r10 => some ((r10, h7))))) else (some (((-2 : Int32) - r6, h7)))))))))
set_option maxHeartbeats 4000000 in
set_option maxRecDepth 100000 in
theorem p_X7_may {X : XT} {r : Int32} {h' : Hp} (C : CX X cX7_may "WaterStair" 5 (some .int) rmX7_may) {N : Nat} {h : Hp} {v0 : Nat} {v1 : Int32} {v2 : Int32} {v3 : Int32} (hQ : QX X (some (vI r)) h' rmX7_may.cells rmX7_may.slots) (hf : f_X7_may N h v0 v1 v2 v3 = some ((r, h'))) : V X 0 0 h 0 [(0, vR 7 (some v0)), (1, vI v1), (2, vI v2), (3, vI v3)] [] := by
  unfold f_X7_may at hf
  refine V_aload_n C dX7_may_0 rfl 0 rfl ?_
  obtain ⟨q1, eq1, hf⟩ := o_b hf
  refine V_getR C fl_X7_19 rfl rfl (by decide) eq1 dX7_may_1 ?_
  refine V_iload_n C dX7_may_4 rfl 1 rfl ?_
  refine V_iload_n C dX7_may_5 rfl 2 rfl ?_
  refine V_iload_n C dX7_may_6 rfl 3 rfl ?_
  obtain ⟨r2, er2, hf⟩ := o_b hf
  refine V_callV (as := [vI v1, vI v2, vI v3]) (st := []) C ml_X7_159 fx5 (ct_X5_isTip er2) rfl ⟨by decide, by decide, by decide, by decide⟩ (Nat.le_of_ble_eq_true rfl) rfl dX7_may_7 (cs' := 0) (sl' := 0) rfl rfl ?_
  refine V_if_ne C 15 dX7_may_10 (by decide) (fun c3 => ?_) (fun c3 => ?_)
  · have hf := i_f c3 hf
    refine V_aload_n C dX7_may_15 rfl 0 rfl ?_
    obtain ⟨q4, eq4, hf⟩ := o_b hf
    refine V_getR C fl_X7_19 rfl rfl (by decide) eq4 dX7_may_16 ?_
    refine V_aload_n C dX7_may_19 rfl 0 rfl ?_
    obtain ⟨r5, er5, hf⟩ := o_b hf
    refine V_callV (as := []) (st := [vR 5 (some q4)]) C ml_X7_163 fx7 (ct_X7_ruleInForce er5) rfl ⟨by decide, by decide, by decide, by decide⟩ (Nat.le_of_ble_eq_true rfl) rfl dX7_may_20 (cs' := 0) (sl' := 0) rfl rfl ?_
    refine V_iload_n C dX7_may_23 rfl 1 rfl ?_
    refine V_iload_n C dX7_may_24 rfl 2 rfl ?_
    refine V_iload_n C dX7_may_25 rfl 3 rfl ?_
    obtain ⟨r6, h7, er6, hf⟩ := o_b2 hf
    refine V_callV (as := [vR 1 r5, vI v1, vI v2, vI v3]) (st := []) C ml_X7_166 fx5 (ct_X5_brokenLaw er6) rfl ⟨by decide, by decide, by decide, by decide⟩ (Nat.le_of_ble_eq_true rfl) rfl dX7_may_26 (cs' := 0) (sl' := 0) rfl rfl ?_
    refine V_istore (lv' := [(4, vI r6), (0, vR 7 (some v0)), (1, vI v1), (2, vI v2), (3, vI v3)]) C dX7_may_29 (by decide) rfl ?_
    refine V_iload C dX7_may_31 0 rfl ?_
    refine V_if_ne C 48 dX7_may_33 (by decide) (fun c8 => ?_) (fun c8 => ?_)
    · have hf := i_f c8 hf
      refine V_bipush (v := (-2 : Int32)) C dX7_may_48 (by decide) ?_
      refine V_iload C dX7_may_50 0 rfl ?_
      refine V_isub C dX7_may_52 ?_
      obtain ⟨hf1, hf2⟩ := Prod.mk.inj (Option.some.inj hf)
      subst hf1
      subst hf2
      exact V_iret C hQ dX7_may_53
    · have hf := i_t c8 hf
      refine V_aload_n C dX7_may_36 rfl 1 rfl ?_
      obtain ⟨q9, eq9, hf⟩ := o_b hf
      refine V_getR C fl_X7_19 rfl rfl (by decide) eq9 dX7_may_37 ?_
      refine V_iload_n C dX7_may_40 rfl 3 rfl ?_
      refine V_iload_n C dX7_may_41 rfl 4 rfl ?_
      obtain ⟨r10, er10, hf⟩ := o_b hf
      refine V_callV (as := [vI v2, vI v3]) (st := []) C ml_X7_170 fx5 (ct_X5_need er10) rfl ⟨by decide, by decide, by decide, by decide⟩ (Nat.le_of_ble_eq_true rfl) rfl dX7_may_42 (cs' := 0) (sl' := 0) rfl rfl ?_
      refine V_goto C 53 dX7_may_45 (by decide) ?_
      obtain ⟨hf1, hf2⟩ := Prod.mk.inj (Option.some.inj hf)
      subst hf1
      subst hf2
      exact V_iret C hQ dX7_may_53
  · have hf := i_t c3 hf
    refine V_iconst (v := (-1 : Int32)) C dX7_may_13 (by decide) ?_
    obtain ⟨hf1, hf2⟩ := Prod.mk.inj (Option.some.inj hf)
    subst hf1
    subst hf2
    exact V_iret C hQ dX7_may_14
theorem ct_X7_may {r : Int32} {h' : Hp} {N : Nat} {h : Hp} {v0 : Nat} {v1 : Int32} {v2 : Int32} {v3 : Int32} (hf : f_X7_may N h v0 v1 v2 v3 = some ((r, h'))) (l : Launch) (G : GT) : MC l G yX7_may cX7_may 5 (some .int) rmX7_may h [vR 7 (some v0), vI v1, vI v2, vI v3] (some (vI r)) h' := MC_of (by decide) rfl (Nat.le_of_ble_eq_true rfl) rfl (fun X C hQ hin => p_X7_may C hQ hf)
abbrev rmX7_tip : Room := { frames := 5, cells := 0, slots := 0, locals := 116 }
def f_X7_tip (N : Nat) (h : Hp) (v0 : Nat) (v1 : Int32) (v2 : Int32) (v3 : Int32) : Option (Int32 × Hp) := b2 (f_X7_may N h v0 v1 v2 v3) (fun r1 h2 => if r1 < 0 then (some ((r1, h2))) else (Option.bind (hP h2 v0 1) (fun q4 => Option.bind (f_X5_tipOf h2 v1 v2 v3) (fun r5 => Option.bind (f_X5_doTip h2 q4 r5) (fun h6 => Option.bind (hP h6 v0 8) (fun q7 => Option.bind (f_X3_forget h6 q7) (fun h8 => some ((r1, h8)))))))))
set_option maxHeartbeats 4000000 in
set_option maxRecDepth 100000 in
theorem p_X7_tip {X : XT} {r : Int32} {h' : Hp} (C : CX X cX7_tip "WaterStair" 5 (some .int) rmX7_tip) {N : Nat} {h : Hp} {v0 : Nat} {v1 : Int32} {v2 : Int32} {v3 : Int32} (hQ : QX X (some (vI r)) h' rmX7_tip.cells rmX7_tip.slots) (hf : f_X7_tip N h v0 v1 v2 v3 = some ((r, h'))) : V X 0 0 h 0 [(0, vR 7 (some v0)), (1, vI v1), (2, vI v2), (3, vI v3)] [] := by
  unfold f_X7_tip at hf
  refine V_aload_n C dX7_tip_0 rfl 0 rfl ?_
  refine V_iload_n C dX7_tip_1 rfl 1 rfl ?_
  refine V_iload_n C dX7_tip_2 rfl 2 rfl ?_
  refine V_iload_n C dX7_tip_3 rfl 3 rfl ?_
  obtain ⟨r1, h2, er1, hf⟩ := o_b2 hf
  refine V_callV (as := [vI v1, vI v2, vI v3]) (st := []) C ml_X7_149 fx7 (ct_X7_may er1) rfl ⟨by decide, by decide, by decide, by decide⟩ (Nat.le_of_ble_eq_true rfl) rfl dX7_tip_4 (cs' := 0) (sl' := 0) rfl rfl ?_
  refine V_istore (lv' := [(4, vI r1), (0, vR 7 (some v0)), (1, vI v1), (2, vI v2), (3, vI v3)]) C dX7_tip_7 (by decide) rfl ?_
  refine V_iload C dX7_tip_9 0 rfl ?_
  refine V_if_lt C 34 dX7_tip_11 (by decide) (fun c3 => ?_) (fun c3 => ?_)
  · have hf := i_t c3 hf
    refine V_iload C dX7_tip_34 0 rfl ?_
    obtain ⟨hf1, hf2⟩ := Prod.mk.inj (Option.some.inj hf)
    subst hf1
    subst hf2
    exact V_iret C hQ dX7_tip_36
  · have hf := i_f c3 hf
    refine V_aload_n C dX7_tip_14 rfl 1 rfl ?_
    obtain ⟨q4, eq4, hf⟩ := o_b hf
    refine V_getR C fl_X7_19 rfl rfl (by decide) eq4 dX7_tip_15 ?_
    refine V_iload_n C dX7_tip_18 rfl 2 rfl ?_
    refine V_iload_n C dX7_tip_19 rfl 3 rfl ?_
    refine V_iload_n C dX7_tip_20 rfl 4 rfl ?_
    obtain ⟨r5, er5, hf⟩ := o_b hf
    refine V_callS (as := [vI v1, vI v2, vI v3]) (st := [vR 5 (some q4)]) C ml_X7_153 (ct_X5_tipOf er5) rfl ⟨by decide, by decide, by decide, by decide⟩ (Nat.le_of_ble_eq_true rfl) rfl dX7_tip_21 (cs' := 0) (sl' := 0) rfl rfl ?_
    obtain ⟨h6, eh6, hf⟩ := o_b hf
    refine V_callV (as := [vI r5]) (st := []) C ml_X7_156 fx5 (ct_X5_doTip eh6) rfl ⟨by decide, by decide, by decide, by decide⟩ (Nat.le_of_ble_eq_true rfl) rfl dX7_tip_24 (cs' := 0) (sl' := 0) rfl rfl ?_
    refine V_aload_n C dX7_tip_27 rfl 1 rfl ?_
    obtain ⟨q7, eq7, hf⟩ := o_b hf
    refine V_getR C fl_X7_63 rfl rfl (by decide) eq7 dX7_tip_28 ?_
    obtain ⟨h8, eh8, hf⟩ := o_b hf
    refine V_callV (as := []) (st := []) C ml_X7_94 fx3 (ct_X3_forget eh8) rfl ⟨by decide, by decide, by decide, by decide⟩ (Nat.le_of_ble_eq_true rfl) rfl dX7_tip_31 (cs' := 0) (sl' := 0) rfl rfl ?_
    refine V_iload C dX7_tip_34 0 rfl ?_
    obtain ⟨hf1, hf2⟩ := Prod.mk.inj (Option.some.inj hf)
    subst hf1
    subst hf2
    exact V_iret C hQ dX7_tip_36
theorem ct_X7_tip {r : Int32} {h' : Hp} {N : Nat} {h : Hp} {v0 : Nat} {v1 : Int32} {v2 : Int32} {v3 : Int32} (hf : f_X7_tip N h v0 v1 v2 v3 = some ((r, h'))) (l : Launch) (G : GT) : MC l G yX7_tip cX7_tip 5 (some .int) rmX7_tip h [vR 7 (some v0), vI v1, vI v2, vI v3] (some (vI r)) h' := MC_of (by decide) rfl (Nat.le_of_ble_eq_true rfl) rfl (fun X C hQ hin => p_X7_tip C hQ hf)
abbrev rmX7_rain : Room := { frames := 1, cells := 0, slots := 0, locals := 40 }
def f_X7_rain_65 (h : Hp) (v0 : Nat) (v1 : Int32) : Option (Int32 × Hp) := Option.bind (hP h v0 8) (fun q1 => Option.bind (f_X3_forget h q1) (fun h2 => Option.bind (hP h2 v0 1) (fun q3 => Option.bind (hP h2 q3 8) (fun q4 => if 0 ≤ v1 ∧ v1.toNatClampNeg < hL h2 q4 then (some ((hI h2 q4 (v1.toNatClampNeg), h2))) else none))))
set_option maxHeartbeats 4000000 in
set_option maxRecDepth 100000 in
theorem p_X7_rain_65 {X : XT} {r : Int32} {h' : Hp} (C : CX X cX7_rain "WaterStair" 3 (some .int) rmX7_rain) (hQ : QX X (some (vI r)) h' rmX7_rain.cells rmX7_rain.slots)  {h : Hp} {v0 : Nat} {v1 : Int32} (hf : f_X7_rain_65 h v0 v1 = some ((r, h'))) : V X 0 0 h 65 [(0, vR 7 (some v0)), (1, vI v1)] [] := by
  unfold f_X7_rain_65 at hf
  refine V_aload_n C dX7_rain_65 rfl 0 rfl ?_
  obtain ⟨q1, eq1, hf⟩ := o_b hf
  refine V_getR C fl_X7_63 rfl rfl (by decide) eq1 dX7_rain_66 ?_
  obtain ⟨h2, eh2, hf⟩ := o_b hf
  refine V_callV (as := []) (st := []) C ml_X7_94 fx3 (ct_X3_forget eh2) rfl ⟨by decide, by decide, by decide, by decide⟩ (Nat.le_of_ble_eq_true rfl) rfl dX7_rain_69 (cs' := 0) (sl' := 0) rfl rfl ?_
  refine V_aload_n C dX7_rain_72 rfl 0 rfl ?_
  obtain ⟨q3, eq3, hf⟩ := o_b hf
  refine V_getR C fl_X7_19 rfl rfl (by decide) eq3 dX7_rain_73 ?_
  obtain ⟨q4, eq4, hf⟩ := o_b hf
  refine V_getR C fl_X7_111 rfl rfl (by decide) eq4 dX7_rain_76 ?_
  refine V_iload_n C dX7_rain_79 rfl 1 rfl ?_
  obtain ⟨g5, hf⟩ := o_if hf
  refine V_iald C (vp_g g5) rfl dX7_rain_80 ?_
  obtain ⟨hf1, hf2⟩ := Prod.mk.inj (Option.some.inj hf)
  subst hf1
  subst hf2
  exact V_iret C hQ dX7_rain_81
def f_X7_rain (h : Hp) (v0 : Nat) (v1 : Int32) (v2 : Int32) : Option (Int32 × Hp) := Option.bind (hP h v0 1) (fun q6 => Option.bind (f_X5_hasLevel h q6 v1) (fun r7 => if r7 = 0 then (some (((-1 : Int32), h))) else (if v2 < 0 then (some (((-1 : Int32), h))) else (if v2 ≤ (9999 : Int32) then (Option.bind (hP h v0 1) (fun q11 => Option.bind (hP h q11 8) (fun q12 => if 0 ≤ v1 ∧ v1.toNatClampNeg < hL h q12 then (if (9999 : Int32) ≤ (hI h q12 (v1.toNatClampNeg)) then (f_X7_rain_65 h v0 v1) else (Option.bind (hP h v0 1) (fun q15 => Option.bind (hP h q15 8) (fun q16 => Option.bind (hP h v0 1) (fun q17 => Option.bind (hP h q17 8) (fun q18 => if 0 ≤ v1 ∧ v1.toNatClampNeg < hL h q18 then (lt (if (9999 : Int32) < (hI h q18 (v1.toNatClampNeg)) + v2 then (9999 : Int32) else (hI h q18 (v1.toNatClampNeg)) + v2) (fun y20 => if 0 ≤ v1 ∧ v1.toNatClampNeg < hL h q16 then (lt (sI h q16 (v1.toNatClampNeg) y20) (fun h22 => f_X7_rain_65 h22 v0 v1)) else none)) else none)))))) else none))) else (some (((-1 : Int32), h)))))))
set_option maxHeartbeats 4000000 in
set_option maxRecDepth 100000 in
theorem p_X7_rain {X : XT} {r : Int32} {h' : Hp} (C : CX X cX7_rain "WaterStair" 3 (some .int) rmX7_rain) {h : Hp} {v0 : Nat} {v1 : Int32} {v2 : Int32} (hQ : QX X (some (vI r)) h' rmX7_rain.cells rmX7_rain.slots) (hf : f_X7_rain h v0 v1 v2 = some ((r, h'))) : V X 0 0 h 0 [(0, vR 7 (some v0)), (1, vI v1), (2, vI v2)] [] := by
  unfold f_X7_rain at hf
  refine V_aload_n C dX7_rain_0 rfl 0 rfl ?_
  obtain ⟨q6, eq6, hf⟩ := o_b hf
  refine V_getR C fl_X7_19 rfl rfl (by decide) eq6 dX7_rain_1 ?_
  refine V_iload_n C dX7_rain_4 rfl 1 rfl ?_
  obtain ⟨r7, er7, hf⟩ := o_b hf
  refine V_callV (as := [vI v1]) (st := []) C ml_X7_107 fx5 (ct_X5_hasLevel er7) rfl ⟨by decide, by decide, by decide, by decide⟩ (Nat.le_of_ble_eq_true rfl) rfl dX7_rain_5 (cs' := 0) (sl' := 0) rfl rfl ?_
  refine V_if_eq C 22 dX7_rain_8 (by decide) (fun c8 => ?_) (fun c8 => ?_)
  · have hf := i_t c8 hf
    refine V_iconst (v := (-1 : Int32)) C dX7_rain_22 (by decide) ?_
    obtain ⟨hf1, hf2⟩ := Prod.mk.inj (Option.some.inj hf)
    subst hf1
    subst hf2
    exact V_iret C hQ dX7_rain_23
  · have hf := i_f c8 hf
    refine V_iload_n C dX7_rain_11 rfl 2 rfl ?_
    refine V_if_lt C 22 dX7_rain_12 (by decide) (fun c9 => ?_) (fun c9 => ?_)
    · have hf := i_t c9 hf
      refine V_iconst (v := (-1 : Int32)) C dX7_rain_22 (by decide) ?_
      obtain ⟨hf1, hf2⟩ := Prod.mk.inj (Option.some.inj hf)
      subst hf1
      subst hf2
      exact V_iret C hQ dX7_rain_23
    · have hf := i_f c9 hf
      refine V_iload_n C dX7_rain_15 rfl 2 rfl ?_
      refine V_sipush (v := (9999 : Int32)) C dX7_rain_16 (by decide) ?_
      refine V_icmp_le C 24 dX7_rain_19 (by decide) (fun c10 => ?_) (fun c10 => ?_)
      · have hf := i_t c10 hf
        refine V_aload_n C dX7_rain_24 rfl 0 rfl ?_
        obtain ⟨q11, eq11, hf⟩ := o_b hf
        refine V_getR C fl_X7_19 rfl rfl (by decide) eq11 dX7_rain_25 ?_
        obtain ⟨q12, eq12, hf⟩ := o_b hf
        refine V_getR C fl_X7_111 rfl rfl (by decide) eq12 dX7_rain_28 ?_
        refine V_iload_n C dX7_rain_31 rfl 1 rfl ?_
        obtain ⟨g13, hf⟩ := o_if hf
        refine V_iald C (vp_g g13) rfl dX7_rain_32 ?_
        refine V_sipush (v := (9999 : Int32)) C dX7_rain_33 (by decide) ?_
        refine V_icmp_ge C 65 dX7_rain_36 (by decide) (fun c14 => ?_) (fun c14 => ?_)
        · have hf := i_t c14 hf
          refine V_sub (lv' := [(0, vR 7 (some v0)), (1, vI v1)]) [0, 1] rfl ?_
          exact p_X7_rain_65 C hQ hf
        · have hf := i_f c14 hf
          refine V_aload_n C dX7_rain_39 rfl 0 rfl ?_
          obtain ⟨q15, eq15, hf⟩ := o_b hf
          refine V_getR C fl_X7_19 rfl rfl (by decide) eq15 dX7_rain_40 ?_
          obtain ⟨q16, eq16, hf⟩ := o_b hf
          refine V_getR C fl_X7_111 rfl rfl (by decide) eq16 dX7_rain_43 ?_
          refine V_iload_n C dX7_rain_46 rfl 1 rfl ?_
          refine V_aload_n C dX7_rain_47 rfl 0 rfl ?_
          obtain ⟨q17, eq17, hf⟩ := o_b hf
          refine V_getR C fl_X7_19 rfl rfl (by decide) eq17 dX7_rain_48 ?_
          obtain ⟨q18, eq18, hf⟩ := o_b hf
          refine V_getR C fl_X7_111 rfl rfl (by decide) eq18 dX7_rain_51 ?_
          refine V_iload_n C dX7_rain_54 rfl 1 rfl ?_
          obtain ⟨g19, hf⟩ := o_if hf
          refine V_iald C (vp_g g19) rfl dX7_rain_55 ?_
          refine V_iload_n C dX7_rain_56 rfl 2 rfl ?_
          refine V_iadd C dX7_rain_57 ?_
          refine V_sipush (v := (9999 : Int32)) C dX7_rain_58 (by decide) ?_
          refine V_mmin C mm_X7_174 mm_smin mm_i mm_cmin (by decide) (Nat.le_of_ble_eq_true rfl) (by decide) (by decide) dX7_rain_61 ?_
          obtain ⟨y20, ey20, hf⟩ := o_l hf
          refine V_eqI ey20 ?_
          obtain ⟨g21, hf⟩ := o_if hf
          obtain ⟨h22, eh22, hf⟩ := o_l hf
          refine V_iast C (vp_g g21) rfl dX7_rain_64 (V_eqH eh22 ?_)
          refine V_sub (lv' := [(0, vR 7 (some v0)), (1, vI v1)]) [0, 1] rfl ?_
          exact p_X7_rain_65 C hQ hf
      · have hf := i_f c10 hf
        refine V_iconst (v := (-1 : Int32)) C dX7_rain_22 (by decide) ?_
        obtain ⟨hf1, hf2⟩ := Prod.mk.inj (Option.some.inj hf)
        subst hf1
        subst hf2
        exact V_iret C hQ dX7_rain_23
theorem ct_X7_rain {r : Int32} {h' : Hp} {h : Hp} {v0 : Nat} {v1 : Int32} {v2 : Int32} (hf : f_X7_rain h v0 v1 v2 = some ((r, h'))) (l : Launch) (G : GT) : MC l G yX7_rain cX7_rain 3 (some .int) rmX7_rain h [vR 7 (some v0), vI v1, vI v2] (some (vI r)) h' := MC_of (by decide) rfl (Nat.le_of_ble_eq_true rfl) rfl (fun X C hQ hin => p_X7_rain C hQ hf)
abbrev rmX7_chain : Room := { frames := 1, cells := 0, slots := 0, locals := 21 }
def f_X7_chain_9 (h : Hp) (v0 : Nat) (v1 : Int32) (s0_ : Int32) : Option (Int32 × Hp) := Option.bind (hP h v0 1) (fun q1 => Option.bind (f_X5_hasStep h q1 v1) (fun r2 => if r2 = 0 then (some (((0 : Int32), h))) else (Option.bind (hP h v0 1) (fun q4 => Option.bind (hP h q4 10) (fun q5 => if 0 ≤ v1 ∧ v1.toNatClampNeg < hL h q5 then (if (hI h q5 (v1.toNatClampNeg)) = s0_ then (some (((0 : Int32), h))) else (Option.bind (hP h v0 1) (fun q8 => Option.bind (hP h q8 10) (fun q9 => if 0 ≤ v1 ∧ v1.toNatClampNeg < hL h q9 then (lt (sI h q9 (v1.toNatClampNeg) s0_) (fun h11 => Option.bind (hP h11 v0 8) (fun q12 => Option.bind (f_X3_forget h11 q12) (fun h13 => some (((1 : Int32), h13)))))) else none)))) else none)))))
set_option maxHeartbeats 4000000 in
set_option maxRecDepth 100000 in
theorem p_X7_chain_9 {X : XT} {r : Int32} {h' : Hp} (C : CX X cX7_chain "WaterStair" 4 (some .boolean) rmX7_chain) (hQ : QX X (some (vI r)) h' rmX7_chain.cells rmX7_chain.slots)  {h : Hp} {v0 : Nat} {v1 : Int32} {s0_ : Int32} (hf : f_X7_chain_9 h v0 v1 s0_ = some ((r, h'))) : V X 0 0 h 9 [(0, vR 7 (some v0)), (1, vI v1)] [vI s0_] := by
  unfold f_X7_chain_9 at hf
  refine V_istore_n (lv' := [(3, vI s0_), (0, vR 7 (some v0)), (1, vI v1)]) C dX7_chain_9 rfl (by decide) rfl ?_
  refine V_aload_n C dX7_chain_10 rfl 1 rfl ?_
  obtain ⟨q1, eq1, hf⟩ := o_b hf
  refine V_getR C fl_X7_19 rfl rfl (by decide) eq1 dX7_chain_11 ?_
  refine V_iload_n C dX7_chain_14 rfl 2 rfl ?_
  obtain ⟨r2, er2, hf⟩ := o_b hf
  refine V_callV (as := [vI v1]) (st := []) C ml_X7_122 fx5 (ct_X5_hasStep er2) rfl ⟨by decide, by decide, by decide, by decide⟩ (Nat.le_of_ble_eq_true rfl) rfl dX7_chain_15 (cs' := 0) (sl' := 0) rfl rfl ?_
  refine V_if_eq C 34 dX7_chain_18 (by decide) (fun c3 => ?_) (fun c3 => ?_)
  · have hf := i_t c3 hf
    refine V_iconst (v := (0 : Int32)) C dX7_chain_34 (by decide) ?_
    obtain ⟨hf1, hf2⟩ := Prod.mk.inj (Option.some.inj hf)
    subst hf1
    subst hf2
    exact V_zret C (by decide) hQ dX7_chain_35
  · have hf := i_f c3 hf
    refine V_aload_n C dX7_chain_21 rfl 1 rfl ?_
    obtain ⟨q4, eq4, hf⟩ := o_b hf
    refine V_getR C fl_X7_19 rfl rfl (by decide) eq4 dX7_chain_22 ?_
    obtain ⟨q5, eq5, hf⟩ := o_b hf
    refine V_getR C fl_X7_125 rfl rfl (by decide) eq5 dX7_chain_25 ?_
    refine V_iload_n C dX7_chain_28 rfl 2 rfl ?_
    obtain ⟨g6, hf⟩ := o_if hf
    refine V_iald C (vp_g g6) rfl dX7_chain_29 ?_
    refine V_iload_n C dX7_chain_30 rfl 0 rfl ?_
    refine V_icmp_ne C 36 dX7_chain_31 (by decide) (fun c7 => ?_) (fun c7 => ?_)
    · have hf := i_f c7 hf
      refine V_aload_n C dX7_chain_36 rfl 1 rfl ?_
      obtain ⟨q8, eq8, hf⟩ := o_b hf
      refine V_getR C fl_X7_19 rfl rfl (by decide) eq8 dX7_chain_37 ?_
      obtain ⟨q9, eq9, hf⟩ := o_b hf
      refine V_getR C fl_X7_125 rfl rfl (by decide) eq9 dX7_chain_40 ?_
      refine V_iload_n C dX7_chain_43 rfl 2 rfl ?_
      refine V_iload_n C dX7_chain_44 rfl 0 rfl ?_
      obtain ⟨g10, hf⟩ := o_if hf
      obtain ⟨h11, eh11, hf⟩ := o_l hf
      refine V_iast C (vp_g g10) rfl dX7_chain_45 (V_eqH eh11 ?_)
      refine V_aload_n C dX7_chain_46 rfl 1 rfl ?_
      obtain ⟨q12, eq12, hf⟩ := o_b hf
      refine V_getR C fl_X7_63 rfl rfl (by decide) eq12 dX7_chain_47 ?_
      obtain ⟨h13, eh13, hf⟩ := o_b hf
      refine V_callV (as := []) (st := []) C ml_X7_94 fx3 (ct_X3_forget eh13) rfl ⟨by decide, by decide, by decide, by decide⟩ (Nat.le_of_ble_eq_true rfl) rfl dX7_chain_50 (cs' := 0) (sl' := 0) rfl rfl ?_
      refine V_iconst (v := (1 : Int32)) C dX7_chain_53 (by decide) ?_
      obtain ⟨hf1, hf2⟩ := Prod.mk.inj (Option.some.inj hf)
      subst hf1
      subst hf2
      exact V_zret C (by decide) hQ dX7_chain_54
    · have hf := i_t c7 hf
      refine V_iconst (v := (0 : Int32)) C dX7_chain_34 (by decide) ?_
      obtain ⟨hf1, hf2⟩ := Prod.mk.inj (Option.some.inj hf)
      subst hf1
      subst hf2
      exact V_zret C (by decide) hQ dX7_chain_35
def f_X7_chain (h : Hp) (v0 : Nat) (v1 : Int32) (v2 : Int32) : Option (Int32 × Hp) := if v2 = 0 then (f_X7_chain_9 h v0 v1 (0 : Int32)) else (f_X7_chain_9 h v0 v1 (1 : Int32))
set_option maxHeartbeats 4000000 in
set_option maxRecDepth 100000 in
theorem p_X7_chain {X : XT} {r : Int32} {h' : Hp} (C : CX X cX7_chain "WaterStair" 4 (some .boolean) rmX7_chain) {h : Hp} {v0 : Nat} {v1 : Int32} {v2 : Int32} (hQ : QX X (some (vI r)) h' rmX7_chain.cells rmX7_chain.slots) (hf : f_X7_chain h v0 v1 v2 = some ((r, h'))) : V X 0 0 h 0 [(0, vR 7 (some v0)), (1, vI v1), (2, vI v2)] [] := by
  unfold f_X7_chain at hf
  refine V_iload_n C dX7_chain_0 rfl 2 rfl ?_
  refine V_if_eq C 8 dX7_chain_1 (by decide) (fun c14 => ?_) (fun c14 => ?_)
  · have hf := i_t c14 hf
    refine V_iconst (v := (0 : Int32)) C dX7_chain_8 (by decide) ?_
    refine V_sub (lv' := [(0, vR 7 (some v0)), (1, vI v1)]) [0, 1] rfl ?_
    exact p_X7_chain_9 C hQ hf
  · have hf := i_f c14 hf
    refine V_iconst (v := (1 : Int32)) C dX7_chain_4 (by decide) ?_
    refine V_goto C 9 dX7_chain_5 (by decide) ?_
    refine V_sub (lv' := [(0, vR 7 (some v0)), (1, vI v1)]) [0, 1] rfl ?_
    exact p_X7_chain_9 C hQ hf
theorem ct_X7_chain {r : Int32} {h' : Hp} {h : Hp} {v0 : Nat} {v1 : Int32} {v2 : Int32} (hf : f_X7_chain h v0 v1 v2 = some ((r, h'))) (l : Launch) (G : GT) : MC l G yX7_chain cX7_chain 4 (some .boolean) rmX7_chain h [vR 7 (some v0), vI v1, vI v2] (some (vI r)) h' := MC_of (by decide) rfl (Nat.le_of_ble_eq_true rfl) rfl (fun X C hQ hin => p_X7_chain C hQ hf)
abbrev rmX7_run : Room := { frames := 6, cells := 0, slots := 0, locals := 145 }
def f_X7_run (N : Nat) (h : Hp) (v0 : Nat) (v1 : Int32) : Option (Int32 × Hp) := Option.bind (hP h v0 1) (fun q1 => if hI h q1 0 = 0 then (some (((-1 : Int32), h))) else (if v1 < 0 then (some (((-1 : Int32), h))) else (if v1 ≤ (200 : Int32) then (Option.bind (hP h v0 8) (fun q5 => Option.bind (f_X3_forget h q5) (fun h6 => Option.bind (hP h6 v0 1) (fun q7 => Option.bind (f_X7_ruleInForce h6 v0) (fun r8 => b2 (f_X5_runTips N h6 q7 r8 v1) (fun r9 h10 => some ((r9, h10)))))))) else (some (((-1 : Int32), h))))))
set_option maxHeartbeats 4000000 in
set_option maxRecDepth 100000 in
theorem p_X7_run {X : XT} {r : Int32} {h' : Hp} (C : CX X cX7_run "WaterStair" 2 (some .int) rmX7_run) {N : Nat} {h : Hp} {v0 : Nat} {v1 : Int32} (hQ : QX X (some (vI r)) h' rmX7_run.cells rmX7_run.slots) (hf : f_X7_run N h v0 v1 = some ((r, h'))) : V X 0 0 h 0 [(0, vR 7 (some v0)), (1, vI v1)] [] := by
  unfold f_X7_run at hf
  refine V_aload_n C dX7_run_0 rfl 0 rfl ?_
  obtain ⟨q1, eq1, hf⟩ := o_b hf
  refine V_getR C fl_X7_19 rfl rfl (by decide) eq1 dX7_run_1 ?_
  refine V_getI C fl_X7_97 rfl dX7_run_4 ?_
  refine V_if_eq C 21 dX7_run_7 (by decide) (fun c2 => ?_) (fun c2 => ?_)
  · have hf := i_t c2 hf
    refine V_iconst (v := (-1 : Int32)) C dX7_run_21 (by decide) ?_
    obtain ⟨hf1, hf2⟩ := Prod.mk.inj (Option.some.inj hf)
    subst hf1
    subst hf2
    exact V_iret C hQ dX7_run_22
  · have hf := i_f c2 hf
    refine V_iload_n C dX7_run_10 rfl 1 rfl ?_
    refine V_if_lt C 21 dX7_run_11 (by decide) (fun c3 => ?_) (fun c3 => ?_)
    · have hf := i_t c3 hf
      refine V_iconst (v := (-1 : Int32)) C dX7_run_21 (by decide) ?_
      obtain ⟨hf1, hf2⟩ := Prod.mk.inj (Option.some.inj hf)
      subst hf1
      subst hf2
      exact V_iret C hQ dX7_run_22
    · have hf := i_f c3 hf
      refine V_iload_n C dX7_run_14 rfl 1 rfl ?_
      refine V_sipush (v := (200 : Int32)) C dX7_run_15 (by decide) ?_
      refine V_icmp_le C 23 dX7_run_18 (by decide) (fun c4 => ?_) (fun c4 => ?_)
      · have hf := i_t c4 hf
        refine V_aload_n C dX7_run_23 rfl 0 rfl ?_
        obtain ⟨q5, eq5, hf⟩ := o_b hf
        refine V_getR C fl_X7_63 rfl rfl (by decide) eq5 dX7_run_24 ?_
        obtain ⟨h6, eh6, hf⟩ := o_b hf
        refine V_callV (as := []) (st := []) C ml_X7_94 fx3 (ct_X3_forget eh6) rfl ⟨by decide, by decide, by decide, by decide⟩ (Nat.le_of_ble_eq_true rfl) rfl dX7_run_27 (cs' := 0) (sl' := 0) rfl rfl ?_
        refine V_aload_n C dX7_run_30 rfl 0 rfl ?_
        obtain ⟨q7, eq7, hf⟩ := o_b hf
        refine V_getR C fl_X7_19 rfl rfl (by decide) eq7 dX7_run_31 ?_
        refine V_aload_n C dX7_run_34 rfl 0 rfl ?_
        obtain ⟨r8, er8, hf⟩ := o_b hf
        refine V_callV (as := []) (st := [vR 5 (some q7)]) C ml_X7_163 fx7 (ct_X7_ruleInForce er8) rfl ⟨by decide, by decide, by decide, by decide⟩ (Nat.le_of_ble_eq_true rfl) rfl dX7_run_35 (cs' := 0) (sl' := 0) rfl rfl ?_
        refine V_iload_n C dX7_run_38 rfl 1 rfl ?_
        obtain ⟨r9, h10, er9, hf⟩ := o_b2 hf
        refine V_callV (as := [vR 1 r8, vI v1]) (st := []) C ml_X7_179 fx5 (ct_X5_runTips er9) rfl ⟨by decide, by decide, by decide, by decide⟩ (Nat.le_of_ble_eq_true rfl) rfl dX7_run_39 (cs' := 0) (sl' := 0) rfl rfl ?_
        obtain ⟨hf1, hf2⟩ := Prod.mk.inj (Option.some.inj hf)
        subst hf1
        subst hf2
        exact V_iret C hQ dX7_run_42
      · have hf := i_f c4 hf
        refine V_iconst (v := (-1 : Int32)) C dX7_run_21 (by decide) ?_
        obtain ⟨hf1, hf2⟩ := Prod.mk.inj (Option.some.inj hf)
        subst hf1
        subst hf2
        exact V_iret C hQ dX7_run_22
theorem ct_X7_run {r : Int32} {h' : Hp} {N : Nat} {h : Hp} {v0 : Nat} {v1 : Int32} (hf : f_X7_run N h v0 v1 = some ((r, h'))) (l : Launch) (G : GT) : MC l G yX7_run cX7_run 2 (some .int) rmX7_run h [vR 7 (some v0), vI v1] (some (vI r)) h' := MC_of (by decide) rfl (Nat.le_of_ble_eq_true rfl) rfl (fun X C hQ hin => p_X7_run C hQ hf)
abbrev rmX7_would : Room := { frames := 6, cells := 0, slots := 0, locals := 145 }
def f_X7_would (N : Nat) (h : Hp) (v0 : Nat) (v1 : Int32) (v2 : Int32) : Option (Int32 × Hp) := Option.bind (hP h v0 1) (fun q1 => if hI h q1 0 = 0 then (some (((-1 : Int32), h))) else (if v1 < 0 then (some (((-1 : Int32), h))) else (if (200 : Int32) < v1 then (some (((-1 : Int32), h))) else (if v2 < 0 then (some (((-1 : Int32), h))) else (if v2 ≤ (3 : Int32) then (Option.bind (hP h v0 2) (fun q7 => Option.bind (hP h v0 1) (fun q8 => Option.bind (f_X5_copyFrom h q7 q8) (fun h9 => Option.bind (hP h9 v0 2) (fun q10 => Option.bind (f_X7_ruleInForce h9 v0) (fun r11 => b2 (f_X5_runTips N h9 q10 r11 v1) (fun r12 h13 => if v2 = (0 : Int32) then (some ((r12, h13))) else if v2 = (1 : Int32) then (Option.bind (hP h13 v0 2) (fun q16 => Option.bind (f_X5_homeBits N h13 q16) (fun r17 => Option.bind (f_J6_bitCount_0f7a4 h13 r17) (fun r18 => some ((r18, h13)))))) else if v2 = (2 : Int32) then (Option.bind (hP h13 v0 2) (fun q20 => Option.bind (hP h13 v0 1) (fun q21 => some (((hI h13 q20 4) - (hI h13 q21 4), h13))))) else (Option.bind (hP h13 v0 2) (fun q22 => Option.bind (f_X7_ruleInForce h13 v0) (fun r23 => b2 (f_X5_isStuck N h13 q22 r23) (fun r24 h25 => if r24 = 0 then (some (((0 : Int32), h25))) else (some (((1 : Int32), h25)))))))))))))) else (some (((-1 : Int32), h))))))))
set_option maxHeartbeats 4000000 in
set_option maxRecDepth 100000 in
theorem p_X7_would {X : XT} {r : Int32} {h' : Hp} (C : CX X cX7_would "WaterStair" 4 (some .int) rmX7_would) {N : Nat} {h : Hp} {v0 : Nat} {v1 : Int32} {v2 : Int32} (hQ : QX X (some (vI r)) h' rmX7_would.cells rmX7_would.slots) (hf : f_X7_would N h v0 v1 v2 = some ((r, h'))) : V X 0 0 h 0 [(0, vR 7 (some v0)), (1, vI v1), (2, vI v2)] [] := by
  unfold f_X7_would at hf
  refine V_aload_n C dX7_would_0 rfl 0 rfl ?_
  obtain ⟨q1, eq1, hf⟩ := o_b hf
  refine V_getR C fl_X7_19 rfl rfl (by decide) eq1 dX7_would_1 ?_
  refine V_getI C fl_X7_97 rfl dX7_would_4 ?_
  refine V_if_eq C 30 dX7_would_7 (by decide) (fun c2 => ?_) (fun c2 => ?_)
  · have hf := i_t c2 hf
    refine V_iconst (v := (-1 : Int32)) C dX7_would_30 (by decide) ?_
    obtain ⟨hf1, hf2⟩ := Prod.mk.inj (Option.some.inj hf)
    subst hf1
    subst hf2
    exact V_iret C hQ dX7_would_31
  · have hf := i_f c2 hf
    refine V_iload_n C dX7_would_10 rfl 1 rfl ?_
    refine V_if_lt C 30 dX7_would_11 (by decide) (fun c3 => ?_) (fun c3 => ?_)
    · have hf := i_t c3 hf
      refine V_iconst (v := (-1 : Int32)) C dX7_would_30 (by decide) ?_
      obtain ⟨hf1, hf2⟩ := Prod.mk.inj (Option.some.inj hf)
      subst hf1
      subst hf2
      exact V_iret C hQ dX7_would_31
    · have hf := i_f c3 hf
      refine V_iload_n C dX7_would_14 rfl 1 rfl ?_
      refine V_sipush (v := (200 : Int32)) C dX7_would_15 (by decide) ?_
      refine V_icmp_gt C 30 dX7_would_18 (by decide) (fun c4 => ?_) (fun c4 => ?_)
      · have hf := i_t c4 hf
        refine V_iconst (v := (-1 : Int32)) C dX7_would_30 (by decide) ?_
        obtain ⟨hf1, hf2⟩ := Prod.mk.inj (Option.some.inj hf)
        subst hf1
        subst hf2
        exact V_iret C hQ dX7_would_31
      · have hf := i_f c4 hf
        refine V_iload_n C dX7_would_21 rfl 2 rfl ?_
        refine V_if_lt C 30 dX7_would_22 (by decide) (fun c5 => ?_) (fun c5 => ?_)
        · have hf := i_t c5 hf
          refine V_iconst (v := (-1 : Int32)) C dX7_would_30 (by decide) ?_
          obtain ⟨hf1, hf2⟩ := Prod.mk.inj (Option.some.inj hf)
          subst hf1
          subst hf2
          exact V_iret C hQ dX7_would_31
        · have hf := i_f c5 hf
          refine V_iload_n C dX7_would_25 rfl 2 rfl ?_
          refine V_iconst (v := (3 : Int32)) C dX7_would_26 (by decide) ?_
          refine V_icmp_le C 32 dX7_would_27 (by decide) (fun c6 => ?_) (fun c6 => ?_)
          · have hf := i_t c6 hf
            refine V_aload_n C dX7_would_32 rfl 0 rfl ?_
            obtain ⟨q7, eq7, hf⟩ := o_b hf
            refine V_getR C fl_X7_23 rfl rfl (by decide) eq7 dX7_would_33 ?_
            refine V_aload_n C dX7_would_36 rfl 0 rfl ?_
            obtain ⟨q8, eq8, hf⟩ := o_b hf
            refine V_getR C fl_X7_19 rfl rfl (by decide) eq8 dX7_would_37 ?_
            obtain ⟨h9, eh9, hf⟩ := o_b hf
            refine V_callV (as := [vR 5 (some q8)]) (st := []) C ml_X7_91 fx5 (ct_X5_copyFrom eh9) rfl ⟨by decide, by decide, by decide, by decide⟩ (Nat.le_of_ble_eq_true rfl) rfl dX7_would_40 (cs' := 0) (sl' := 0) rfl rfl ?_
            refine V_aload_n C dX7_would_43 rfl 0 rfl ?_
            obtain ⟨q10, eq10, hf⟩ := o_b hf
            refine V_getR C fl_X7_23 rfl rfl (by decide) eq10 dX7_would_44 ?_
            refine V_aload_n C dX7_would_47 rfl 0 rfl ?_
            obtain ⟨r11, er11, hf⟩ := o_b hf
            refine V_callV (as := []) (st := [vR 5 (some q10)]) C ml_X7_163 fx7 (ct_X7_ruleInForce er11) rfl ⟨by decide, by decide, by decide, by decide⟩ (Nat.le_of_ble_eq_true rfl) rfl dX7_would_48 (cs' := 0) (sl' := 0) rfl rfl ?_
            refine V_iload_n C dX7_would_51 rfl 1 rfl ?_
            obtain ⟨r12, h13, er12, hf⟩ := o_b2 hf
            refine V_callV (as := [vR 1 r11, vI v1]) (st := []) C ml_X7_179 fx5 (ct_X5_runTips er12) rfl ⟨by decide, by decide, by decide, by decide⟩ (Nat.le_of_ble_eq_true rfl) rfl dX7_would_52 (cs' := 0) (sl' := 0) rfl rfl ?_
            refine V_istore_n (lv' := [(3, vI r12), (0, vR 7 (some v0)), (1, vI v1), (2, vI v2)]) C dX7_would_55 rfl (by decide) rfl ?_
            refine V_iload_n C dX7_would_56 rfl 3 rfl ?_
            by_cases c14 : v2 = (0 : Int32)
            · have hf := i_t c14 hf
              refine V_tabIn (off := 27) C 84 dX7_would_57 (by rw [c14]; decide) (by rw [c14]; decide) (by rw [c14]; decide) (by decide) ?_
              refine V_iload_n C dX7_would_84 rfl 0 rfl ?_
              obtain ⟨hf1, hf2⟩ := Prod.mk.inj (Option.some.inj hf)
              subst hf1
              subst hf2
              exact V_iret C hQ dX7_would_85
            have hf := i_f c14 hf
            by_cases c15 : v2 = (1 : Int32)
            · have hf := i_t c15 hf
              refine V_tabIn (off := 29) C 86 dX7_would_57 (by rw [c15]; decide) (by rw [c15]; decide) (by rw [c15]; decide) (by decide) ?_
              refine V_aload_n C dX7_would_86 rfl 1 rfl ?_
              obtain ⟨q16, eq16, hf⟩ := o_b hf
              refine V_getR C fl_X7_23 rfl rfl (by decide) eq16 dX7_would_87 ?_
              obtain ⟨r17, er17, hf⟩ := o_b hf
              refine V_callV (as := []) (st := []) C ml_X7_183 fx5 (ct_X5_homeBits er17) rfl ⟨by decide, by decide, by decide, by decide⟩ (Nat.le_of_ble_eq_true rfl) rfl dX7_would_90 (cs' := 0) (sl' := 0) rfl rfl ?_
              obtain ⟨r18, er18, hf⟩ := o_b hf
              refine V_callS (as := [vI r17]) (st := []) C ml_X7_186 (ct_J6_bitCount_0f7a4 er18) rfl ⟨by decide, by decide, by decide, by decide⟩ (Nat.le_of_ble_eq_true rfl) rfl dX7_would_93 (cs' := 0) (sl' := 0) rfl rfl ?_
              obtain ⟨hf1, hf2⟩ := Prod.mk.inj (Option.some.inj hf)
              subst hf1
              subst hf2
              exact V_iret C hQ dX7_would_96
            have hf := i_f c15 hf
            by_cases c19 : v2 = (2 : Int32)
            · have hf := i_t c19 hf
              refine V_tabIn (off := 40) C 97 dX7_would_57 (by rw [c19]; decide) (by rw [c19]; decide) (by rw [c19]; decide) (by decide) ?_
              refine V_aload_n C dX7_would_97 rfl 1 rfl ?_
              obtain ⟨q20, eq20, hf⟩ := o_b hf
              refine V_getR C fl_X7_23 rfl rfl (by decide) eq20 dX7_would_98 ?_
              refine V_getI C fl_X7_191 rfl dX7_would_101 ?_
              refine V_aload_n C dX7_would_104 rfl 1 rfl ?_
              obtain ⟨q21, eq21, hf⟩ := o_b hf
              refine V_getR C fl_X7_19 rfl rfl (by decide) eq21 dX7_would_105 ?_
              refine V_getI C fl_X7_191 rfl dX7_would_108 ?_
              refine V_isub C dX7_would_111 ?_
              obtain ⟨hf1, hf2⟩ := Prod.mk.inj (Option.some.inj hf)
              subst hf1
              subst hf2
              exact V_iret C hQ dX7_would_112
            have hf := i_f c19 hf
            refine V_tabOut C 113 dX7_would_57 (tab_o (fun z z1 z2 => ?_)) (by decide) ?_
            · rcases (show z = 0 ∨ z = 1 ∨ z = 2 by omega) with rfl | rfl | rfl
              · exact tab_n c14 (by decide)
              · exact tab_n c15 (by decide)
              · exact tab_n c19 (by decide)
            refine V_aload_n C dX7_would_113 rfl 1 rfl ?_
            obtain ⟨q22, eq22, hf⟩ := o_b hf
            refine V_getR C fl_X7_23 rfl rfl (by decide) eq22 dX7_would_114 ?_
            refine V_aload_n C dX7_would_117 rfl 1 rfl ?_
            obtain ⟨r23, er23, hf⟩ := o_b hf
            refine V_callV (as := []) (st := [vR 5 (some q22)]) C ml_X7_163 fx7 (ct_X7_ruleInForce er23) rfl ⟨by decide, by decide, by decide, by decide⟩ (Nat.le_of_ble_eq_true rfl) rfl dX7_would_118 (cs' := 0) (sl' := 0) rfl rfl ?_
            obtain ⟨r24, h25, er24, hf⟩ := o_b2 hf
            refine V_callV (as := [vR 1 r23]) (st := []) C ml_X7_194 fx5 (ct_X5_isStuck er24) rfl ⟨by decide, by decide, by decide, by decide⟩ (Nat.le_of_ble_eq_true rfl) rfl dX7_would_121 (cs' := 0) (sl' := 0) rfl rfl ?_
            refine V_if_eq C 131 dX7_would_124 (by decide) (fun c26 => ?_) (fun c26 => ?_)
            · have hf := i_t c26 hf
              refine V_iconst (v := (0 : Int32)) C dX7_would_131 (by decide) ?_
              obtain ⟨hf1, hf2⟩ := Prod.mk.inj (Option.some.inj hf)
              subst hf1
              subst hf2
              exact V_iret C hQ dX7_would_132
            · have hf := i_f c26 hf
              refine V_iconst (v := (1 : Int32)) C dX7_would_127 (by decide) ?_
              refine V_goto C 132 dX7_would_128 (by decide) ?_
              obtain ⟨hf1, hf2⟩ := Prod.mk.inj (Option.some.inj hf)
              subst hf1
              subst hf2
              exact V_iret C hQ dX7_would_132
          · have hf := i_f c6 hf
            refine V_iconst (v := (-1 : Int32)) C dX7_would_30 (by decide) ?_
            obtain ⟨hf1, hf2⟩ := Prod.mk.inj (Option.some.inj hf)
            subst hf1
            subst hf2
            exact V_iret C hQ dX7_would_31
theorem ct_X7_would {r : Int32} {h' : Hp} {N : Nat} {h : Hp} {v0 : Nat} {v1 : Int32} {v2 : Int32} (hf : f_X7_would N h v0 v1 v2 = some ((r, h'))) (l : Launch) (G : GT) : MC l G yX7_would cX7_would 4 (some .int) rmX7_would h [vR 7 (some v0), vI v1, vI v2] (some (vI r)) h' := MC_of (by decide) rfl (Nat.le_of_ble_eq_true rfl) rfl (fun X C hQ hin => p_X7_would C hQ hf)
abbrev rmX7_can : Room := { frames := 5, cells := 0, slots := 0, locals := 122 }
def f_X7_can (N : Nat) (h : Hp) (v0 : Nat) : Option (Int32 × Hp) := Option.bind (hP h v0 1) (fun q1 => if hI h q1 0 = 0 then (some (((-1 : Int32), h))) else (Option.bind (hP h v0 1) (fun q3 => Option.bind (f_X7_ruleInForce h v0) (fun r4 => Option.bind (hP h v0 1) (fun q5 => Option.bind (hP h q5 18) (fun q6 => Option.bind (hP h v0 1) (fun q7 => Option.bind (hP h q7 18) (fun q8 => b2 (f_X5_gatherTips N h q3 r4 q6 (nI (hL h q8))) (fun r9 h10 => some ((r9, h10)))))))))))
set_option maxHeartbeats 4000000 in
set_option maxRecDepth 100000 in
theorem p_X7_can {X : XT} {r : Int32} {h' : Hp} (C : CX X cX7_can "WaterStair" 1 (some .int) rmX7_can) {N : Nat} {h : Hp} {v0 : Nat} (hQ : QX X (some (vI r)) h' rmX7_can.cells rmX7_can.slots) (hf : f_X7_can N h v0 = some ((r, h'))) : V X 0 0 h 0 [(0, vR 7 (some v0))] [] := by
  unfold f_X7_can at hf
  refine V_aload_n C dX7_can_0 rfl 0 rfl ?_
  obtain ⟨q1, eq1, hf⟩ := o_b hf
  refine V_getR C fl_X7_19 rfl rfl (by decide) eq1 dX7_can_1 ?_
  refine V_getI C fl_X7_97 rfl dX7_can_4 ?_
  refine V_if_ne C 14 dX7_can_7 (by decide) (fun c2 => ?_) (fun c2 => ?_)
  · have hf := i_f c2 hf
    refine V_aload_n C dX7_can_14 rfl 0 rfl ?_
    obtain ⟨q3, eq3, hf⟩ := o_b hf
    refine V_getR C fl_X7_19 rfl rfl (by decide) eq3 dX7_can_15 ?_
    refine V_aload_n C dX7_can_18 rfl 0 rfl ?_
    obtain ⟨r4, er4, hf⟩ := o_b hf
    refine V_callV (as := []) (st := [vR 5 (some q3)]) C ml_X7_163 fx7 (ct_X7_ruleInForce er4) rfl ⟨by decide, by decide, by decide, by decide⟩ (Nat.le_of_ble_eq_true rfl) rfl dX7_can_19 (cs' := 0) (sl' := 0) rfl rfl ?_
    refine V_aload_n C dX7_can_22 rfl 0 rfl ?_
    obtain ⟨q5, eq5, hf⟩ := o_b hf
    refine V_getR C fl_X7_19 rfl rfl (by decide) eq5 dX7_can_23 ?_
    obtain ⟨q6, eq6, hf⟩ := o_b hf
    refine V_getR C fl_X7_198 rfl rfl (by decide) eq6 dX7_can_26 ?_
    refine V_aload_n C dX7_can_29 rfl 0 rfl ?_
    obtain ⟨q7, eq7, hf⟩ := o_b hf
    refine V_getR C fl_X7_19 rfl rfl (by decide) eq7 dX7_can_30 ?_
    obtain ⟨q8, eq8, hf⟩ := o_b hf
    refine V_getR C fl_X7_198 rfl rfl (by decide) eq8 dX7_can_33 ?_
    refine V_alen C (by decide) (by decide) dX7_can_36 ?_
    obtain ⟨r9, h10, er9, hf⟩ := o_b2 hf
    refine V_callV (as := [vR 1 r4, vR 10 (some q6), vI (nI (hL h q8))]) (st := []) C ml_X7_201 fx5 (ct_X5_gatherTips er9) rfl ⟨by decide, by decide, by decide, by decide⟩ (Nat.le_of_ble_eq_true rfl) rfl dX7_can_37 (cs' := 0) (sl' := 0) rfl rfl ?_
    obtain ⟨hf1, hf2⟩ := Prod.mk.inj (Option.some.inj hf)
    subst hf1
    subst hf2
    exact V_iret C hQ dX7_can_40
  · have hf := i_t c2 hf
    refine V_iconst (v := (-1 : Int32)) C dX7_can_10 (by decide) ?_
    refine V_goto C 40 dX7_can_11 (by decide) ?_
    obtain ⟨hf1, hf2⟩ := Prod.mk.inj (Option.some.inj hf)
    subst hf1
    subst hf2
    exact V_iret C hQ dX7_can_40
theorem ct_X7_can {r : Int32} {h' : Hp} {N : Nat} {h : Hp} {v0 : Nat} (hf : f_X7_can N h v0 = some ((r, h'))) (l : Launch) (G : GT) : MC l G yX7_can cX7_can 1 (some .int) rmX7_can h [vR 7 (some v0)] (some (vI r)) h' := MC_of (by decide) rfl (Nat.le_of_ble_eq_true rfl) rfl (fun X C hQ hin => p_X7_can C hQ hf)
abbrev rmX7_plan : Room := { frames := 7, cells := 0, slots := 0, locals := 179 }
def f_X7_plan (N : Nat) (h : Hp) (v0 : Nat) (v1 : Int32) (v2 : Int32) : Option (Int32 × Hp) := Option.bind (hP h v0 1) (fun q1 => Option.bind (f_X5_isSet h q1 v1) (fun r2 => if r2 = 0 then (some (((-1 : Int32), h))) else (Option.bind (hP h v0 8) (fun q4 => Option.bind (hP h v0 1) (fun q5 => Option.bind (f_X7_ruleInForce h v0) (fun r6 => Option.bind (hP h v0 1) (fun q7 => Option.bind (hP h q7 8) (fun q8 => if 0 < hL h q8 then (Option.bind (f_X3_explore N h q4 q5 r6 v2 (hI h q8 (0))) (fun h10 => Option.bind (hP h10 v0 8) (fun q11 => Option.bind (f_X3_costOf h10 q11 v1) (fun r12 => some ((r12, h10)))))) else none))))))))
set_option maxHeartbeats 4000000 in
set_option maxRecDepth 100000 in
theorem p_X7_plan {X : XT} {r : Int32} {h' : Hp} (C : CX X cX7_plan "WaterStair" 3 (some .int) rmX7_plan) {N : Nat} {h : Hp} {v0 : Nat} {v1 : Int32} {v2 : Int32} (hQ : QX X (some (vI r)) h' rmX7_plan.cells rmX7_plan.slots) (hf : f_X7_plan N h v0 v1 v2 = some ((r, h'))) : V X 0 0 h 0 [(0, vR 7 (some v0)), (1, vI v1), (2, vI v2)] [] := by
  unfold f_X7_plan at hf
  refine V_aload_n C dX7_plan_0 rfl 0 rfl ?_
  obtain ⟨q1, eq1, hf⟩ := o_b hf
  refine V_getR C fl_X7_19 rfl rfl (by decide) eq1 dX7_plan_1 ?_
  refine V_iload_n C dX7_plan_4 rfl 1 rfl ?_
  obtain ⟨r2, er2, hf⟩ := o_b hf
  refine V_callV (as := [vI v1]) (st := []) C ml_X7_205 fx5 (ct_X5_isSet er2) rfl ⟨by decide, by decide, by decide, by decide⟩ (Nat.le_of_ble_eq_true rfl) rfl dX7_plan_5 (cs' := 0) (sl' := 0) rfl rfl ?_
  refine V_if_ne C 13 dX7_plan_8 (by decide) (fun c3 => ?_) (fun c3 => ?_)
  · have hf := i_f c3 hf
    refine V_aload_n C dX7_plan_13 rfl 0 rfl ?_
    obtain ⟨q4, eq4, hf⟩ := o_b hf
    refine V_getR C fl_X7_63 rfl rfl (by decide) eq4 dX7_plan_14 ?_
    refine V_aload_n C dX7_plan_17 rfl 0 rfl ?_
    obtain ⟨q5, eq5, hf⟩ := o_b hf
    refine V_getR C fl_X7_19 rfl rfl (by decide) eq5 dX7_plan_18 ?_
    refine V_aload_n C dX7_plan_21 rfl 0 rfl ?_
    obtain ⟨r6, er6, hf⟩ := o_b hf
    refine V_callV (as := []) (st := [vR 5 (some q5), vR 3 (some q4)]) C ml_X7_163 fx7 (ct_X7_ruleInForce er6) rfl ⟨by decide, by decide, by decide, by decide⟩ (Nat.le_of_ble_eq_true rfl) rfl dX7_plan_22 (cs' := 0) (sl' := 0) rfl rfl ?_
    refine V_iload_n C dX7_plan_25 rfl 2 rfl ?_
    refine V_aload_n C dX7_plan_26 rfl 0 rfl ?_
    obtain ⟨q7, eq7, hf⟩ := o_b hf
    refine V_getR C fl_X7_19 rfl rfl (by decide) eq7 dX7_plan_27 ?_
    obtain ⟨q8, eq8, hf⟩ := o_b hf
    refine V_getR C fl_X7_111 rfl rfl (by decide) eq8 dX7_plan_30 ?_
    refine V_iconst (v := (0 : Int32)) C dX7_plan_33 (by decide) ?_
    obtain ⟨g9, hf⟩ := o_if hf
    refine V_iald C (vp_k (by decide) (by decide) g9) (by decide : Int32.toNatClampNeg (0 : Int32) = 0) dX7_plan_34 ?_
    obtain ⟨h10, eh10, hf⟩ := o_b hf
    refine V_callV (as := [vR 5 (some q5), vR 1 r6, vI v2, vI (hI h q8 (0))]) (st := []) C ml_X7_208 fx3 (ct_X3_explore eh10) rfl ⟨by decide, by decide, by decide, by decide⟩ (Nat.le_of_ble_eq_true rfl) rfl dX7_plan_35 (cs' := 0) (sl' := 0) rfl rfl ?_
    refine V_aload_n C dX7_plan_38 rfl 0 rfl ?_
    obtain ⟨q11, eq11, hf⟩ := o_b hf
    refine V_getR C fl_X7_63 rfl rfl (by decide) eq11 dX7_plan_39 ?_
    refine V_iload_n C dX7_plan_42 rfl 1 rfl ?_
    obtain ⟨r12, er12, hf⟩ := o_b hf
    refine V_callV (as := [vI v1]) (st := []) C ml_X7_212 fx3 (ct_X3_costOf er12) rfl ⟨by decide, by decide, by decide, by decide⟩ (Nat.le_of_ble_eq_true rfl) rfl dX7_plan_43 (cs' := 0) (sl' := 0) rfl rfl ?_
    obtain ⟨hf1, hf2⟩ := Prod.mk.inj (Option.some.inj hf)
    subst hf1
    subst hf2
    exact V_iret C hQ dX7_plan_46
  · have hf := i_t c3 hf
    refine V_iconst (v := (-1 : Int32)) C dX7_plan_11 (by decide) ?_
    obtain ⟨hf1, hf2⟩ := Prod.mk.inj (Option.some.inj hf)
    subst hf1
    subst hf2
    exact V_iret C hQ dX7_plan_12
theorem ct_X7_plan {r : Int32} {h' : Hp} {N : Nat} {h : Hp} {v0 : Nat} {v1 : Int32} {v2 : Int32} (hf : f_X7_plan N h v0 v1 v2 = some ((r, h'))) (l : Launch) (G : GT) : MC l G yX7_plan cX7_plan 3 (some .int) rmX7_plan h [vR 7 (some v0), vI v1, vI v2] (some (vI r)) h' := MC_of (by decide) rfl (Nat.le_of_ble_eq_true rfl) rfl (fun X C hQ hin => p_X7_plan C hQ hf)
abbrev rmX7_row : Room := { frames := 7, cells := 0, slots := 0, locals := 179 }
def f_X7_row (N : Nat) (h : Hp) (v0 : Nat) (v1 : Int32) (v2 : Int32) (v3 : Int32) (v4 : Int32) : Option (Int32 × Hp) := Option.bind (hP h v0 1) (fun q1 => Option.bind (f_X5_isSet h q1 v1) (fun r2 => if r2 = 0 then (some (((-1 : Int32), h))) else (if v3 < 0 then (some (((-1 : Int32), h))) else (if v4 < 0 then (some (((-1 : Int32), h))) else (if v4 ≤ (2 : Int32) then (Option.bind (hP h v0 8) (fun q7 => Option.bind (hP h v0 1) (fun q8 => Option.bind (f_X7_ruleInForce h v0) (fun r9 => Option.bind (hP h v0 1) (fun q10 => Option.bind (hP h q10 8) (fun q11 => if 0 < hL h q11 then (Option.bind (f_X3_explore N h q7 q8 r9 v2 (hI h q11 (0))) (fun h13 => Option.bind (hP h13 v0 8) (fun q14 => Option.bind (f_X3_tipOfRow N h13 q14 v1 v3) (fun r15 => if 0 ≤ r15 then (Option.bind (f_X5_partOf h13 r15 v4) (fun r17 => some ((r17, h13)))) else (some ((r15, h13))))))) else none)))))) else (some (((-1 : Int32), h))))))))
set_option maxHeartbeats 4000000 in
set_option maxRecDepth 100000 in
theorem p_X7_row {X : XT} {r : Int32} {h' : Hp} (C : CX X cX7_row "WaterStair" 6 (some .int) rmX7_row) {N : Nat} {h : Hp} {v0 : Nat} {v1 : Int32} {v2 : Int32} {v3 : Int32} {v4 : Int32} (hQ : QX X (some (vI r)) h' rmX7_row.cells rmX7_row.slots) (hf : f_X7_row N h v0 v1 v2 v3 v4 = some ((r, h'))) : V X 0 0 h 0 [(0, vR 7 (some v0)), (1, vI v1), (2, vI v2), (3, vI v3), (4, vI v4)] [] := by
  unfold f_X7_row at hf
  refine V_aload_n C dX7_row_0 rfl 0 rfl ?_
  obtain ⟨q1, eq1, hf⟩ := o_b hf
  refine V_getR C fl_X7_19 rfl rfl (by decide) eq1 dX7_row_1 ?_
  refine V_iload_n C dX7_row_4 rfl 1 rfl ?_
  obtain ⟨r2, er2, hf⟩ := o_b hf
  refine V_callV (as := [vI v1]) (st := []) C ml_X7_205 fx5 (ct_X5_isSet er2) rfl ⟨by decide, by decide, by decide, by decide⟩ (Nat.le_of_ble_eq_true rfl) rfl dX7_row_5 (cs' := 0) (sl' := 0) rfl rfl ?_
  refine V_if_eq C 26 dX7_row_8 (by decide) (fun c3 => ?_) (fun c3 => ?_)
  · have hf := i_t c3 hf
    refine V_iconst (v := (-1 : Int32)) C dX7_row_26 (by decide) ?_
    obtain ⟨hf1, hf2⟩ := Prod.mk.inj (Option.some.inj hf)
    subst hf1
    subst hf2
    exact V_iret C hQ dX7_row_27
  · have hf := i_f c3 hf
    refine V_iload_n C dX7_row_11 rfl 3 rfl ?_
    refine V_if_lt C 26 dX7_row_12 (by decide) (fun c4 => ?_) (fun c4 => ?_)
    · have hf := i_t c4 hf
      refine V_iconst (v := (-1 : Int32)) C dX7_row_26 (by decide) ?_
      obtain ⟨hf1, hf2⟩ := Prod.mk.inj (Option.some.inj hf)
      subst hf1
      subst hf2
      exact V_iret C hQ dX7_row_27
    · have hf := i_f c4 hf
      refine V_iload C dX7_row_15 4 rfl ?_
      refine V_if_lt C 26 dX7_row_17 (by decide) (fun c5 => ?_) (fun c5 => ?_)
      · have hf := i_t c5 hf
        refine V_iconst (v := (-1 : Int32)) C dX7_row_26 (by decide) ?_
        obtain ⟨hf1, hf2⟩ := Prod.mk.inj (Option.some.inj hf)
        subst hf1
        subst hf2
        exact V_iret C hQ dX7_row_27
      · have hf := i_f c5 hf
        refine V_iload C dX7_row_20 4 rfl ?_
        refine V_iconst (v := (2 : Int32)) C dX7_row_22 (by decide) ?_
        refine V_icmp_le C 28 dX7_row_23 (by decide) (fun c6 => ?_) (fun c6 => ?_)
        · have hf := i_t c6 hf
          refine V_aload_n C dX7_row_28 rfl 0 rfl ?_
          obtain ⟨q7, eq7, hf⟩ := o_b hf
          refine V_getR C fl_X7_63 rfl rfl (by decide) eq7 dX7_row_29 ?_
          refine V_aload_n C dX7_row_32 rfl 0 rfl ?_
          obtain ⟨q8, eq8, hf⟩ := o_b hf
          refine V_getR C fl_X7_19 rfl rfl (by decide) eq8 dX7_row_33 ?_
          refine V_aload_n C dX7_row_36 rfl 0 rfl ?_
          obtain ⟨r9, er9, hf⟩ := o_b hf
          refine V_callV (as := []) (st := [vR 5 (some q8), vR 3 (some q7)]) C ml_X7_163 fx7 (ct_X7_ruleInForce er9) rfl ⟨by decide, by decide, by decide, by decide⟩ (Nat.le_of_ble_eq_true rfl) rfl dX7_row_37 (cs' := 0) (sl' := 0) rfl rfl ?_
          refine V_iload_n C dX7_row_40 rfl 2 rfl ?_
          refine V_aload_n C dX7_row_41 rfl 0 rfl ?_
          obtain ⟨q10, eq10, hf⟩ := o_b hf
          refine V_getR C fl_X7_19 rfl rfl (by decide) eq10 dX7_row_42 ?_
          obtain ⟨q11, eq11, hf⟩ := o_b hf
          refine V_getR C fl_X7_111 rfl rfl (by decide) eq11 dX7_row_45 ?_
          refine V_iconst (v := (0 : Int32)) C dX7_row_48 (by decide) ?_
          obtain ⟨g12, hf⟩ := o_if hf
          refine V_iald C (vp_k (by decide) (by decide) g12) (by decide : Int32.toNatClampNeg (0 : Int32) = 0) dX7_row_49 ?_
          obtain ⟨h13, eh13, hf⟩ := o_b hf
          refine V_callV (as := [vR 5 (some q8), vR 1 r9, vI v2, vI (hI h q11 (0))]) (st := []) C ml_X7_208 fx3 (ct_X3_explore eh13) rfl ⟨by decide, by decide, by decide, by decide⟩ (Nat.le_of_ble_eq_true rfl) rfl dX7_row_50 (cs' := 0) (sl' := 0) rfl rfl ?_
          refine V_aload_n C dX7_row_53 rfl 0 rfl ?_
          obtain ⟨q14, eq14, hf⟩ := o_b hf
          refine V_getR C fl_X7_63 rfl rfl (by decide) eq14 dX7_row_54 ?_
          refine V_iload_n C dX7_row_57 rfl 1 rfl ?_
          refine V_iload_n C dX7_row_58 rfl 3 rfl ?_
          obtain ⟨r15, er15, hf⟩ := o_b hf
          refine V_callV (as := [vI v1, vI v3]) (st := []) C ml_X7_215 fx3 (ct_X3_tipOfRow er15) rfl ⟨by decide, by decide, by decide, by decide⟩ (Nat.le_of_ble_eq_true rfl) rfl dX7_row_59 (cs' := 0) (sl' := 0) rfl rfl ?_
          refine V_istore (lv' := [(5, vI r15), (0, vR 7 (some v0)), (1, vI v1), (2, vI v2), (3, vI v3), (4, vI v4)]) C dX7_row_62 (by decide) rfl ?_
          refine V_iload C dX7_row_64 0 rfl ?_
          refine V_if_ge C 74 dX7_row_66 (by decide) (fun c16 => ?_) (fun c16 => ?_)
          · have hf := i_t c16 hf
            refine V_iload C dX7_row_74 0 rfl ?_
            refine V_iload C dX7_row_76 5 rfl ?_
            obtain ⟨r17, er17, hf⟩ := o_b hf
            refine V_callS (as := [vI r15, vI v4]) (st := []) C ml_X7_218 (ct_X5_partOf er17) rfl ⟨by decide, by decide, by decide, by decide⟩ (Nat.le_of_ble_eq_true rfl) rfl dX7_row_78 (cs' := 0) (sl' := 0) rfl rfl ?_
            obtain ⟨hf1, hf2⟩ := Prod.mk.inj (Option.some.inj hf)
            subst hf1
            subst hf2
            exact V_iret C hQ dX7_row_81
          · have hf := i_f c16 hf
            refine V_iload C dX7_row_69 0 rfl ?_
            refine V_goto C 81 dX7_row_71 (by decide) ?_
            obtain ⟨hf1, hf2⟩ := Prod.mk.inj (Option.some.inj hf)
            subst hf1
            subst hf2
            exact V_iret C hQ dX7_row_81
        · have hf := i_f c6 hf
          refine V_iconst (v := (-1 : Int32)) C dX7_row_26 (by decide) ?_
          obtain ⟨hf1, hf2⟩ := Prod.mk.inj (Option.some.inj hf)
          subst hf1
          subst hf2
          exact V_iret C hQ dX7_row_27
theorem ct_X7_row {r : Int32} {h' : Hp} {N : Nat} {h : Hp} {v0 : Nat} {v1 : Int32} {v2 : Int32} {v3 : Int32} {v4 : Int32} (hf : f_X7_row N h v0 v1 v2 v3 v4 = some ((r, h'))) (l : Launch) (G : GT) : MC l G yX7_row cX7_row 6 (some .int) rmX7_row h [vR 7 (some v0), vI v1, vI v2, vI v3, vI v4] (some (vI r)) h' := MC_of (by decide) rfl (Nat.le_of_ble_eq_true rfl) rfl (fun X C hQ hin => p_X7_row C hQ hf)
abbrev rmX7_drought : Room := { frames := 7, cells := 0, slots := 0, locals := 179 }
def f_X7_drought_96 (N : Nat) (s54 : Hp → Nat → Int32 → Int32 → Int32 → Option (Int32 × Hp)) (h : Hp) (v0 : Nat) (v2 : Int32) (v3 : Int32) (v4 : Int32) : Option (Int32 × Hp) := s54 h v0 v2 v3 (v4 + (1 : Int32))
set_option maxHeartbeats 4000000 in
set_option maxRecDepth 100000 in
theorem p_X7_drought_96 {X : XT} {r : Int32} {h' : Hp} (C : CX X cX7_drought "WaterStair" 5 (some .int) rmX7_drought) (hQ : QX X (some (vI r)) h' rmX7_drought.cells rmX7_drought.slots) {N : Nat} {s54 : Hp → Nat → Int32 → Int32 → Int32 → Option (Int32 × Hp)} (S54 : ∀ (h : Hp) (v0 : Nat) (v2 : Int32) (v3 : Int32) (v4 : Int32), s54 h v0 v2 v3 v4 = some ((r, h')) → V X 0 0 h 54 [(0, vR 7 (some v0)), (2, vI v2), (3, vI v3), (4, vI v4)] []) {h : Hp} {v0 : Nat} {v2 : Int32} {v3 : Int32} {v4 : Int32} (hf : f_X7_drought_96 N s54 h v0 v2 v3 v4 = some ((r, h'))) : V X 0 0 h 96 [(0, vR 7 (some v0)), (2, vI v2), (3, vI v3), (4, vI v4)] [] := by
  unfold f_X7_drought_96 at hf
  refine V_iinc (lv' := [(4, vI (v4 + (1 : Int32))), (0, vR 7 (some v0)), (2, vI v2), (3, vI v3)]) C dX7_drought_96 3 rfl (congrArg (v4 + ·) (by decide : Int32.ofInt (1) = (1 : Int32))) (by decide) rfl ?_
  refine V_goto C 54 dX7_drought_99 (by decide) ?_
  refine V_sub (lv' := [(0, vR 7 (some v0)), (2, vI v2), (3, vI v3), (4, vI (v4 + (1 : Int32)))]) [1, 2, 3, 0] rfl ?_
  exact S54 _ _ _ _ _ hf
def f_X7_drought_54 (N : Nat) : Nat → Hp → Nat → Int32 → Int32 → Int32 → Option (Int32 × Hp)
  | 0, _, _, _, _, _ => none
  | n + 1, h, v0, v2, v3, v4 => Option.bind (hP h v0 1) (fun q1 => if ((1 : Int32) <<< ((hI h q1 1) &&& 31)) ≤ v4 then (if v2 = 0 then (Option.bind (hP h v0 1) (fun q4 => Option.bind (f_X5_tollOf N h q4 v3) (fun r5 => some ((r5, h))))) else (some ((v3, h)))) else (Option.bind (hP h v0 8) (fun q6 => Option.bind (f_X3_costOf h q6 v4) (fun r7 => if r7 < 0 then (f_X7_drought_96 N (f_X7_drought_54 N n) h v0 v2 v3 v4) else (Option.bind (hP h v0 1) (fun q9 => Option.bind (f_X5_isDearer N h q9 v4 v3) (fun r10 => if r10 = 0 then (f_X7_drought_96 N (f_X7_drought_54 N n) h v0 v2 v3 v4) else (f_X7_drought_96 N (f_X7_drought_54 N n) h v0 v2 v4 v4))))))))
set_option maxHeartbeats 4000000 in
set_option maxRecDepth 100000 in
theorem p_X7_drought_54 {X : XT} {r : Int32} {h' : Hp} (C : CX X cX7_drought "WaterStair" 5 (some .int) rmX7_drought) (hQ : QX X (some (vI r)) h' rmX7_drought.cells rmX7_drought.slots) {N : Nat}  : ∀ (n : Nat) (h : Hp) (v0 : Nat) (v2 : Int32) (v3 : Int32) (v4 : Int32), f_X7_drought_54 N n h v0 v2 v3 v4 = some ((r, h')) → V X 0 0 h 54 [(0, vR 7 (some v0)), (2, vI v2), (3, vI v3), (4, vI v4)] [] := by
  intro n
  induction n with
  | zero =>
    intro h v0 v2 v3 v4 hf
    have hf : (none : Option (Int32 × Hp)) = some _ := hf
    cases hf
  | succ n ih =>
    intro h v0 v2 v3 v4 hf
    rw [f_X7_drought_54] at hf
    refine V_iload C dX7_drought_54 3 rfl ?_
    refine V_iconst (v := (1 : Int32)) C dX7_drought_56 (by decide) ?_
    refine V_aload_n C dX7_drought_57 rfl 0 rfl ?_
    obtain ⟨q1, eq1, hf⟩ := o_b hf
    refine V_getR C fl_X7_19 rfl rfl (by decide) eq1 dX7_drought_58 ?_
    refine V_getI C fl_X7_221 rfl dX7_drought_61 ?_
    refine V_ishl C dX7_drought_64 ?_
    refine V_icmp_ge C 102 dX7_drought_65 (by decide) (fun c2 => ?_) (fun c2 => ?_)
    · have hf := i_t c2 hf
      refine V_iload_n C dX7_drought_102 rfl 1 rfl ?_
      refine V_if_ne C 117 dX7_drought_103 (by decide) (fun c3 => ?_) (fun c3 => ?_)
      · have hf := i_f c3 hf
        refine V_iload_n C dX7_drought_117 rfl 2 rfl ?_
        obtain ⟨hf1, hf2⟩ := Prod.mk.inj (Option.some.inj hf)
        subst hf1
        subst hf2
        exact V_iret C hQ dX7_drought_118
      · have hf := i_t c3 hf
        refine V_aload_n C dX7_drought_106 rfl 0 rfl ?_
        obtain ⟨q4, eq4, hf⟩ := o_b hf
        refine V_getR C fl_X7_19 rfl rfl (by decide) eq4 dX7_drought_107 ?_
        refine V_iload_n C dX7_drought_110 rfl 2 rfl ?_
        obtain ⟨r5, er5, hf⟩ := o_b hf
        refine V_callV (as := [vI v3]) (st := []) C ml_X7_228 fx5 (ct_X5_tollOf er5) rfl ⟨by decide, by decide, by decide, by decide⟩ (Nat.le_of_ble_eq_true rfl) rfl dX7_drought_111 (cs' := 0) (sl' := 0) rfl rfl ?_
        refine V_goto C 118 dX7_drought_114 (by decide) ?_
        obtain ⟨hf1, hf2⟩ := Prod.mk.inj (Option.some.inj hf)
        subst hf1
        subst hf2
        exact V_iret C hQ dX7_drought_118
    · have hf := i_f c2 hf
      refine V_aload_n C dX7_drought_68 rfl 0 rfl ?_
      obtain ⟨q6, eq6, hf⟩ := o_b hf
      refine V_getR C fl_X7_63 rfl rfl (by decide) eq6 dX7_drought_69 ?_
      refine V_iload C dX7_drought_72 3 rfl ?_
      obtain ⟨r7, er7, hf⟩ := o_b hf
      refine V_callV (as := [vI v4]) (st := []) C ml_X7_212 fx3 (ct_X3_costOf er7) rfl ⟨by decide, by decide, by decide, by decide⟩ (Nat.le_of_ble_eq_true rfl) rfl dX7_drought_74 (cs' := 0) (sl' := 0) rfl rfl ?_
      refine V_if_lt C 96 dX7_drought_77 (by decide) (fun c8 => ?_) (fun c8 => ?_)
      · have hf := i_t c8 hf
        refine V_sub (lv' := [(0, vR 7 (some v0)), (2, vI v2), (3, vI v3), (4, vI v4)]) [0, 1, 2, 3] rfl ?_
        exact p_X7_drought_96 C hQ ih hf
      · have hf := i_f c8 hf
        refine V_aload_n C dX7_drought_80 rfl 0 rfl ?_
        obtain ⟨q9, eq9, hf⟩ := o_b hf
        refine V_getR C fl_X7_19 rfl rfl (by decide) eq9 dX7_drought_81 ?_
        refine V_iload C dX7_drought_84 3 rfl ?_
        refine V_iload_n C dX7_drought_86 rfl 2 rfl ?_
        obtain ⟨r10, er10, hf⟩ := o_b hf
        refine V_callV (as := [vI v4, vI v3]) (st := []) C ml_X7_224 fx5 (ct_X5_isDearer er10) rfl ⟨by decide, by decide, by decide, by decide⟩ (Nat.le_of_ble_eq_true rfl) rfl dX7_drought_87 (cs' := 0) (sl' := 0) rfl rfl ?_
        refine V_if_eq C 96 dX7_drought_90 (by decide) (fun c11 => ?_) (fun c11 => ?_)
        · have hf := i_t c11 hf
          refine V_sub (lv' := [(0, vR 7 (some v0)), (2, vI v2), (3, vI v3), (4, vI v4)]) [0, 1, 2, 3] rfl ?_
          exact p_X7_drought_96 C hQ ih hf
        · have hf := i_f c11 hf
          refine V_iload C dX7_drought_93 3 rfl ?_
          refine V_istore_n (lv' := [(3, vI v4), (0, vR 7 (some v0)), (2, vI v2), (4, vI v4)]) C dX7_drought_95 rfl (by decide) rfl ?_
          refine V_sub (lv' := [(0, vR 7 (some v0)), (2, vI v2), (3, vI v4), (4, vI v4)]) [1, 2, 0, 3] rfl ?_
          exact p_X7_drought_96 C hQ ih hf
def f_X7_drought (N : Nat) (h : Hp) (v0 : Nat) (v1 : Int32) (v2 : Int32) : Option (Int32 × Hp) := Option.bind (hP h v0 1) (fun q12 => if hI h q12 0 = 0 then (some (((-1 : Int32), h))) else (if v1 < 0 then (some (((-1 : Int32), h))) else (if (999 : Int32) < v1 then (some (((-1 : Int32), h))) else (if v2 < 0 then (some (((-1 : Int32), h))) else (if v2 ≤ (1 : Int32) then (Option.bind (hP h v0 8) (fun q18 => Option.bind (hP h v0 1) (fun q19 => Option.bind (f_X7_ruleInForce h v0) (fun r20 => Option.bind (f_X3_explore N h q18 q19 r20 (0 : Int32) v1) (fun h21 => f_X7_drought_54 N N h21 v0 v2 (0 : Int32) (1 : Int32)))))) else (some (((-1 : Int32), h))))))))
set_option maxHeartbeats 4000000 in
set_option maxRecDepth 100000 in
theorem p_X7_drought {X : XT} {r : Int32} {h' : Hp} (C : CX X cX7_drought "WaterStair" 5 (some .int) rmX7_drought) {N : Nat} {h : Hp} {v0 : Nat} {v1 : Int32} {v2 : Int32} (hQ : QX X (some (vI r)) h' rmX7_drought.cells rmX7_drought.slots) (hf : f_X7_drought N h v0 v1 v2 = some ((r, h'))) : V X 0 0 h 0 [(0, vR 7 (some v0)), (1, vI v1), (2, vI v2)] [] := by
  unfold f_X7_drought at hf
  refine V_aload_n C dX7_drought_0 rfl 0 rfl ?_
  obtain ⟨q12, eq12, hf⟩ := o_b hf
  refine V_getR C fl_X7_19 rfl rfl (by decide) eq12 dX7_drought_1 ?_
  refine V_getI C fl_X7_97 rfl dX7_drought_4 ?_
  refine V_if_eq C 30 dX7_drought_7 (by decide) (fun c13 => ?_) (fun c13 => ?_)
  · have hf := i_t c13 hf
    refine V_iconst (v := (-1 : Int32)) C dX7_drought_30 (by decide) ?_
    obtain ⟨hf1, hf2⟩ := Prod.mk.inj (Option.some.inj hf)
    subst hf1
    subst hf2
    exact V_iret C hQ dX7_drought_31
  · have hf := i_f c13 hf
    refine V_iload_n C dX7_drought_10 rfl 1 rfl ?_
    refine V_if_lt C 30 dX7_drought_11 (by decide) (fun c14 => ?_) (fun c14 => ?_)
    · have hf := i_t c14 hf
      refine V_iconst (v := (-1 : Int32)) C dX7_drought_30 (by decide) ?_
      obtain ⟨hf1, hf2⟩ := Prod.mk.inj (Option.some.inj hf)
      subst hf1
      subst hf2
      exact V_iret C hQ dX7_drought_31
    · have hf := i_f c14 hf
      refine V_iload_n C dX7_drought_14 rfl 1 rfl ?_
      refine V_sipush (v := (999 : Int32)) C dX7_drought_15 (by decide) ?_
      refine V_icmp_gt C 30 dX7_drought_18 (by decide) (fun c15 => ?_) (fun c15 => ?_)
      · have hf := i_t c15 hf
        refine V_iconst (v := (-1 : Int32)) C dX7_drought_30 (by decide) ?_
        obtain ⟨hf1, hf2⟩ := Prod.mk.inj (Option.some.inj hf)
        subst hf1
        subst hf2
        exact V_iret C hQ dX7_drought_31
      · have hf := i_f c15 hf
        refine V_iload_n C dX7_drought_21 rfl 2 rfl ?_
        refine V_if_lt C 30 dX7_drought_22 (by decide) (fun c16 => ?_) (fun c16 => ?_)
        · have hf := i_t c16 hf
          refine V_iconst (v := (-1 : Int32)) C dX7_drought_30 (by decide) ?_
          obtain ⟨hf1, hf2⟩ := Prod.mk.inj (Option.some.inj hf)
          subst hf1
          subst hf2
          exact V_iret C hQ dX7_drought_31
        · have hf := i_f c16 hf
          refine V_iload_n C dX7_drought_25 rfl 2 rfl ?_
          refine V_iconst (v := (1 : Int32)) C dX7_drought_26 (by decide) ?_
          refine V_icmp_le C 32 dX7_drought_27 (by decide) (fun c17 => ?_) (fun c17 => ?_)
          · have hf := i_t c17 hf
            refine V_aload_n C dX7_drought_32 rfl 0 rfl ?_
            obtain ⟨q18, eq18, hf⟩ := o_b hf
            refine V_getR C fl_X7_63 rfl rfl (by decide) eq18 dX7_drought_33 ?_
            refine V_aload_n C dX7_drought_36 rfl 0 rfl ?_
            obtain ⟨q19, eq19, hf⟩ := o_b hf
            refine V_getR C fl_X7_19 rfl rfl (by decide) eq19 dX7_drought_37 ?_
            refine V_aload_n C dX7_drought_40 rfl 0 rfl ?_
            obtain ⟨r20, er20, hf⟩ := o_b hf
            refine V_callV (as := []) (st := [vR 5 (some q19), vR 3 (some q18)]) C ml_X7_163 fx7 (ct_X7_ruleInForce er20) rfl ⟨by decide, by decide, by decide, by decide⟩ (Nat.le_of_ble_eq_true rfl) rfl dX7_drought_41 (cs' := 0) (sl' := 0) rfl rfl ?_
            refine V_iconst (v := (0 : Int32)) C dX7_drought_44 (by decide) ?_
            refine V_iload_n C dX7_drought_45 rfl 1 rfl ?_
            obtain ⟨h21, eh21, hf⟩ := o_b hf
            refine V_callV (as := [vR 5 (some q19), vR 1 r20, vI (0 : Int32), vI v1]) (st := []) C ml_X7_208 fx3 (ct_X3_explore eh21) rfl ⟨by decide, by decide, by decide, by decide⟩ (Nat.le_of_ble_eq_true rfl) rfl dX7_drought_46 (cs' := 0) (sl' := 0) rfl rfl ?_
            refine V_iconst (v := (0 : Int32)) C dX7_drought_49 (by decide) ?_
            refine V_istore_n (lv' := [(3, vI (0 : Int32)), (0, vR 7 (some v0)), (1, vI v1), (2, vI v2)]) C dX7_drought_50 rfl (by decide) rfl ?_
            refine V_iconst (v := (1 : Int32)) C dX7_drought_51 (by decide) ?_
            refine V_istore (lv' := [(4, vI (1 : Int32)), (3, vI (0 : Int32)), (0, vR 7 (some v0)), (1, vI v1), (2, vI v2)]) C dX7_drought_52 (by decide) rfl ?_
            refine V_sub (lv' := [(0, vR 7 (some v0)), (2, vI v2), (3, vI (0 : Int32)), (4, vI (1 : Int32))]) [2, 4, 1, 0] rfl ?_
            exact p_X7_drought_54 C hQ N _ _ _ _ _ hf
          · have hf := i_f c17 hf
            refine V_iconst (v := (-1 : Int32)) C dX7_drought_30 (by decide) ?_
            obtain ⟨hf1, hf2⟩ := Prod.mk.inj (Option.some.inj hf)
            subst hf1
            subst hf2
            exact V_iret C hQ dX7_drought_31
theorem ct_X7_drought {r : Int32} {h' : Hp} {N : Nat} {h : Hp} {v0 : Nat} {v1 : Int32} {v2 : Int32} (hf : f_X7_drought N h v0 v1 v2 = some ((r, h'))) (l : Launch) (G : GT) : MC l G yX7_drought cX7_drought 5 (some .int) rmX7_drought h [vR 7 (some v0), vI v1, vI v2] (some (vI r)) h' := MC_of (by decide) rfl (Nat.le_of_ble_eq_true rfl) rfl (fun X C hQ hin => p_X7_drought C hQ hf)
abbrev rmX7_pass : Room := { frames := 1, cells := 0, slots := 0, locals := 24 }
def f_X7_pass (N : Nat) (h : Hp) (v0 : Nat) (v1 : Int32) : Option (Int32) := Option.bind (hP h v0 1) (fun q1 => Option.bind (f_X5_hasStep h q1 v1) (fun r2 => if r2 = 0 then (some (-1 : Int32)) else (Option.bind (hP h v0 1) (fun q4 => Option.bind (f_X5_passersOf N h q4 v1) (fun r5 => some r5)))))
set_option maxHeartbeats 4000000 in
set_option maxRecDepth 100000 in
theorem p_X7_pass {X : XT} {r : Int32} (C : CX X cX7_pass "WaterStair" 2 (some .int) rmX7_pass) {N : Nat} {h : Hp} {v0 : Nat} {v1 : Int32} (hQ : QX X (some (vI r)) h rmX7_pass.cells rmX7_pass.slots) (hf : f_X7_pass N h v0 v1 = some r) : V X 0 0 h 0 [(0, vR 7 (some v0)), (1, vI v1)] [] := by
  unfold f_X7_pass at hf
  refine V_aload_n C dX7_pass_0 rfl 0 rfl ?_
  obtain ⟨q1, eq1, hf⟩ := o_b hf
  refine V_getR C fl_X7_19 rfl rfl (by decide) eq1 dX7_pass_1 ?_
  refine V_iload_n C dX7_pass_4 rfl 1 rfl ?_
  obtain ⟨r2, er2, hf⟩ := o_b hf
  refine V_callV (as := [vI v1]) (st := []) C ml_X7_122 fx5 (ct_X5_hasStep er2) rfl ⟨by decide, by decide, by decide, by decide⟩ (Nat.le_of_ble_eq_true rfl) rfl dX7_pass_5 (cs' := 0) (sl' := 0) rfl rfl ?_
  refine V_if_eq C 22 dX7_pass_8 (by decide) (fun c3 => ?_) (fun c3 => ?_)
  · have hf := i_t c3 hf
    refine V_iconst (v := (-1 : Int32)) C dX7_pass_22 (by decide) ?_
    have hf := Option.some.inj hf
    subst hf
    exact V_iret C hQ dX7_pass_23
  · have hf := i_f c3 hf
    refine V_aload_n C dX7_pass_11 rfl 0 rfl ?_
    obtain ⟨q4, eq4, hf⟩ := o_b hf
    refine V_getR C fl_X7_19 rfl rfl (by decide) eq4 dX7_pass_12 ?_
    refine V_iload_n C dX7_pass_15 rfl 1 rfl ?_
    obtain ⟨r5, er5, hf⟩ := o_b hf
    refine V_callV (as := [vI v1]) (st := []) C ml_X7_231 fx5 (ct_X5_passersOf er5) rfl ⟨by decide, by decide, by decide, by decide⟩ (Nat.le_of_ble_eq_true rfl) rfl dX7_pass_16 (cs' := 0) (sl' := 0) rfl rfl ?_
    refine V_goto C 23 dX7_pass_19 (by decide) ?_
    have hf := Option.some.inj hf
    subst hf
    exact V_iret C hQ dX7_pass_23
theorem ct_X7_pass {r : Int32} {N : Nat} {h : Hp} {v0 : Nat} {v1 : Int32} (hf : f_X7_pass N h v0 v1 = some r) (l : Launch) (G : GT) : MC l G yX7_pass cX7_pass 2 (some .int) rmX7_pass h [vR 7 (some v0), vI v1] (some (vI r)) h := MC_of (by decide) rfl (Nat.le_of_ble_eq_true rfl) rfl (fun X C hQ hin => p_X7_pass C hQ hf)
abbrev rmX7_worst : Room := { frames := 1, cells := 0, slots := 0, locals := 24 }
def f_X7_worst_50 (N : Nat) (s16 : Hp → Nat → Int32 → Int32 → Option (Int32)) (h : Hp) (v0 : Nat) (v1 : Int32) (v2 : Int32) : Option (Int32) := s16 h v0 v1 (v2 + (1 : Int32))
set_option maxHeartbeats 4000000 in
set_option maxRecDepth 100000 in
theorem p_X7_worst_50 {X : XT} {r : Int32} {h : Hp} (C : CX X cX7_worst "WaterStair" 3 (some .int) rmX7_worst) (hQ : QX X (some (vI r)) h rmX7_worst.cells rmX7_worst.slots) {N : Nat} {s16 : Hp → Nat → Int32 → Int32 → Option (Int32)} (S16 : ∀ (v0 : Nat) (v1 : Int32) (v2 : Int32), s16 h v0 v1 v2 = some r → V X 0 0 h 16 [(0, vR 7 (some v0)), (1, vI v1), (2, vI v2)] [])  {v0 : Nat} {v1 : Int32} {v2 : Int32} (hf : f_X7_worst_50 N s16 h v0 v1 v2 = some r) : V X 0 0 h 50 [(0, vR 7 (some v0)), (1, vI v1), (2, vI v2)] [] := by
  unfold f_X7_worst_50 at hf
  refine V_iinc (lv' := [(2, vI (v2 + (1 : Int32))), (0, vR 7 (some v0)), (1, vI v1)]) C dX7_worst_50 2 rfl (congrArg (v2 + ·) (by decide : Int32.ofInt (1) = (1 : Int32))) (by decide) rfl ?_
  refine V_goto C 16 dX7_worst_53 (by decide) ?_
  refine V_sub (lv' := [(0, vR 7 (some v0)), (1, vI v1), (2, vI (v2 + (1 : Int32)))]) [1, 2, 0] rfl ?_
  exact S16 _ _ _ hf
def f_X7_worst_16 (N : Nat) : Nat → Hp → Nat → Int32 → Int32 → Option (Int32)
  | 0, _, _, _, _ => none
  | n + 1, h, v0, v1, v2 => Option.bind (hP h v0 1) (fun q1 => if ((hI h q1 0) - (1 : Int32)) ≤ v2 then (some v1) else (Option.bind (hP h v0 1) (fun q3 => Option.bind (f_X5_passersOf N h q3 v2) (fun r4 => Option.bind (hP h v0 1) (fun q5 => Option.bind (f_X5_passersOf N h q5 v1) (fun r6 => if r4 ≤ r6 then (f_X7_worst_50 N (f_X7_worst_16 N n) h v0 v1 v2) else (f_X7_worst_50 N (f_X7_worst_16 N n) h v0 v2 v2)))))))
set_option maxHeartbeats 4000000 in
set_option maxRecDepth 100000 in
theorem p_X7_worst_16 {X : XT} {r : Int32} {h : Hp} (C : CX X cX7_worst "WaterStair" 3 (some .int) rmX7_worst) (hQ : QX X (some (vI r)) h rmX7_worst.cells rmX7_worst.slots) {N : Nat}  : ∀ (n : Nat) (v0 : Nat) (v1 : Int32) (v2 : Int32), f_X7_worst_16 N n h v0 v1 v2 = some r → V X 0 0 h 16 [(0, vR 7 (some v0)), (1, vI v1), (2, vI v2)] [] := by
  intro n
  induction n with
  | zero =>
    intro v0 v1 v2 hf
    have hf : (none : Option (Int32)) = some _ := hf
    cases hf
  | succ n ih =>
    intro v0 v1 v2 hf
    rw [f_X7_worst_16] at hf
    refine V_iload_n C dX7_worst_16 rfl 2 rfl ?_
    refine V_aload_n C dX7_worst_17 rfl 0 rfl ?_
    obtain ⟨q1, eq1, hf⟩ := o_b hf
    refine V_getR C fl_X7_19 rfl rfl (by decide) eq1 dX7_worst_18 ?_
    refine V_getI C fl_X7_97 rfl dX7_worst_21 ?_
    refine V_iconst (v := (1 : Int32)) C dX7_worst_24 (by decide) ?_
    refine V_isub C dX7_worst_25 ?_
    refine V_icmp_ge C 56 dX7_worst_26 (by decide) (fun c2 => ?_) (fun c2 => ?_)
    · have hf := i_t c2 hf
      refine V_iload_n C dX7_worst_56 rfl 1 rfl ?_
      have hf := Option.some.inj hf
      subst hf
      exact V_iret C hQ dX7_worst_57
    · have hf := i_f c2 hf
      refine V_aload_n C dX7_worst_29 rfl 0 rfl ?_
      obtain ⟨q3, eq3, hf⟩ := o_b hf
      refine V_getR C fl_X7_19 rfl rfl (by decide) eq3 dX7_worst_30 ?_
      refine V_iload_n C dX7_worst_33 rfl 2 rfl ?_
      obtain ⟨r4, er4, hf⟩ := o_b hf
      refine V_callV (as := [vI v2]) (st := []) C ml_X7_231 fx5 (ct_X5_passersOf er4) rfl ⟨by decide, by decide, by decide, by decide⟩ (Nat.le_of_ble_eq_true rfl) rfl dX7_worst_34 (cs' := 0) (sl' := 0) rfl rfl ?_
      refine V_aload_n C dX7_worst_37 rfl 0 rfl ?_
      obtain ⟨q5, eq5, hf⟩ := o_b hf
      refine V_getR C fl_X7_19 rfl rfl (by decide) eq5 dX7_worst_38 ?_
      refine V_iload_n C dX7_worst_41 rfl 1 rfl ?_
      obtain ⟨r6, er6, hf⟩ := o_b hf
      refine V_callV (as := [vI v1]) (st := [vI r4]) C ml_X7_231 fx5 (ct_X5_passersOf er6) rfl ⟨by decide, by decide, by decide, by decide⟩ (Nat.le_of_ble_eq_true rfl) rfl dX7_worst_42 (cs' := 0) (sl' := 0) rfl rfl ?_
      refine V_icmp_le C 50 dX7_worst_45 (by decide) (fun c7 => ?_) (fun c7 => ?_)
      · have hf := i_t c7 hf
        refine V_sub (lv' := [(0, vR 7 (some v0)), (1, vI v1), (2, vI v2)]) [0, 1, 2] rfl ?_
        exact p_X7_worst_50 C hQ ih hf
      · have hf := i_f c7 hf
        refine V_iload_n C dX7_worst_48 rfl 2 rfl ?_
        refine V_istore_n (lv' := [(1, vI v2), (0, vR 7 (some v0)), (2, vI v2)]) C dX7_worst_49 rfl (by decide) rfl ?_
        refine V_sub (lv' := [(0, vR 7 (some v0)), (1, vI v2), (2, vI v2)]) [1, 0, 2] rfl ?_
        exact p_X7_worst_50 C hQ ih hf
def f_X7_worst (N : Nat) (h : Hp) (v0 : Nat) : Option (Int32) := Option.bind (hP h v0 1) (fun q8 => if hI h q8 0 = 0 then (some (-1 : Int32)) else (f_X7_worst_16 N N h v0 (0 : Int32) (1 : Int32)))
set_option maxHeartbeats 4000000 in
set_option maxRecDepth 100000 in
theorem p_X7_worst {X : XT} {r : Int32} (C : CX X cX7_worst "WaterStair" 3 (some .int) rmX7_worst) {N : Nat} {h : Hp} {v0 : Nat} (hQ : QX X (some (vI r)) h rmX7_worst.cells rmX7_worst.slots) (hf : f_X7_worst N h v0 = some r) : V X 0 0 h 0 [(0, vR 7 (some v0))] [] := by
  unfold f_X7_worst at hf
  refine V_aload_n C dX7_worst_0 rfl 0 rfl ?_
  obtain ⟨q8, eq8, hf⟩ := o_b hf
  refine V_getR C fl_X7_19 rfl rfl (by decide) eq8 dX7_worst_1 ?_
  refine V_getI C fl_X7_97 rfl dX7_worst_4 ?_
  refine V_if_ne C 12 dX7_worst_7 (by decide) (fun c9 => ?_) (fun c9 => ?_)
  · have hf := i_f c9 hf
    refine V_iconst (v := (0 : Int32)) C dX7_worst_12 (by decide) ?_
    refine V_istore_n (lv' := [(1, vI (0 : Int32)), (0, vR 7 (some v0))]) C dX7_worst_13 rfl (by decide) rfl ?_
    refine V_iconst (v := (1 : Int32)) C dX7_worst_14 (by decide) ?_
    refine V_istore_n (lv' := [(2, vI (1 : Int32)), (1, vI (0 : Int32)), (0, vR 7 (some v0))]) C dX7_worst_15 rfl (by decide) rfl ?_
    refine V_sub (lv' := [(0, vR 7 (some v0)), (1, vI (0 : Int32)), (2, vI (1 : Int32))]) [2, 1, 0] rfl ?_
    exact p_X7_worst_16 C hQ N _ _ _ hf
  · have hf := i_t c9 hf
    refine V_iconst (v := (-1 : Int32)) C dX7_worst_10 (by decide) ?_
    have hf := Option.some.inj hf
    subst hf
    exact V_iret C hQ dX7_worst_11
theorem ct_X7_worst {r : Int32} {N : Nat} {h : Hp} {v0 : Nat} (hf : f_X7_worst N h v0 = some r) (l : Launch) (G : GT) : MC l G yX7_worst cX7_worst 3 (some .int) rmX7_worst h [vR 7 (some v0)] (some (vI r)) h := MC_of (by decide) rfl (Nat.le_of_ble_eq_true rfl) rfl (fun X C hQ hin => p_X7_worst C hQ hf)
abbrev rmX7_seen : Room := { frames := 1, cells := 0, slots := 0, locals := 21 }
def f_X7_seen (h : Hp) (v0 : Nat) (v1 : Int32) (v2 : Int32) : Option (Int32 × Hp) := Option.bind (hP h v0 1) (fun q1 => Option.bind (f_X5_hasLevel h q1 v1) (fun r2 => if r2 = 0 then (some (((0 : Int32), h))) else (if v2 < (-1 : Int32) then (some (((0 : Int32), h))) else (if v2 ≤ (9999 : Int32) then (Option.bind (hP h v0 1) (fun q6 => Option.bind (hP h q6 11) (fun q7 => if 0 ≤ v1 ∧ v1.toNatClampNeg < hL h q7 then (lt (sI h q7 (v1.toNatClampNeg) v2) (fun h9 => some (((1 : Int32), h9)))) else none))) else (some (((0 : Int32), h)))))))
set_option maxHeartbeats 4000000 in
set_option maxRecDepth 100000 in
theorem p_X7_seen {X : XT} {r : Int32} {h' : Hp} (C : CX X cX7_seen "WaterStair" 3 (some .boolean) rmX7_seen) {h : Hp} {v0 : Nat} {v1 : Int32} {v2 : Int32} (hQ : QX X (some (vI r)) h' rmX7_seen.cells rmX7_seen.slots) (hf : f_X7_seen h v0 v1 v2 = some ((r, h'))) : V X 0 0 h 0 [(0, vR 7 (some v0)), (1, vI v1), (2, vI v2)] [] := by
  unfold f_X7_seen at hf
  refine V_aload_n C dX7_seen_0 rfl 0 rfl ?_
  obtain ⟨q1, eq1, hf⟩ := o_b hf
  refine V_getR C fl_X7_19 rfl rfl (by decide) eq1 dX7_seen_1 ?_
  refine V_iload_n C dX7_seen_4 rfl 1 rfl ?_
  obtain ⟨r2, er2, hf⟩ := o_b hf
  refine V_callV (as := [vI v1]) (st := []) C ml_X7_107 fx5 (ct_X5_hasLevel er2) rfl ⟨by decide, by decide, by decide, by decide⟩ (Nat.le_of_ble_eq_true rfl) rfl dX7_seen_5 (cs' := 0) (sl' := 0) rfl rfl ?_
  refine V_if_eq C 23 dX7_seen_8 (by decide) (fun c3 => ?_) (fun c3 => ?_)
  · have hf := i_t c3 hf
    refine V_iconst (v := (0 : Int32)) C dX7_seen_23 (by decide) ?_
    obtain ⟨hf1, hf2⟩ := Prod.mk.inj (Option.some.inj hf)
    subst hf1
    subst hf2
    exact V_zret C (by decide) hQ dX7_seen_24
  · have hf := i_f c3 hf
    refine V_iload_n C dX7_seen_11 rfl 2 rfl ?_
    refine V_iconst (v := (-1 : Int32)) C dX7_seen_12 (by decide) ?_
    refine V_icmp_lt C 23 dX7_seen_13 (by decide) (fun c4 => ?_) (fun c4 => ?_)
    · have hf := i_t c4 hf
      refine V_iconst (v := (0 : Int32)) C dX7_seen_23 (by decide) ?_
      obtain ⟨hf1, hf2⟩ := Prod.mk.inj (Option.some.inj hf)
      subst hf1
      subst hf2
      exact V_zret C (by decide) hQ dX7_seen_24
    · have hf := i_f c4 hf
      refine V_iload_n C dX7_seen_16 rfl 2 rfl ?_
      refine V_sipush (v := (9999 : Int32)) C dX7_seen_17 (by decide) ?_
      refine V_icmp_le C 25 dX7_seen_20 (by decide) (fun c5 => ?_) (fun c5 => ?_)
      · have hf := i_t c5 hf
        refine V_aload_n C dX7_seen_25 rfl 0 rfl ?_
        obtain ⟨q6, eq6, hf⟩ := o_b hf
        refine V_getR C fl_X7_19 rfl rfl (by decide) eq6 dX7_seen_26 ?_
        obtain ⟨q7, eq7, hf⟩ := o_b hf
        refine V_getR C fl_X7_234 rfl rfl (by decide) eq7 dX7_seen_29 ?_
        refine V_iload_n C dX7_seen_32 rfl 1 rfl ?_
        refine V_iload_n C dX7_seen_33 rfl 2 rfl ?_
        obtain ⟨g8, hf⟩ := o_if hf
        obtain ⟨h9, eh9, hf⟩ := o_l hf
        refine V_iast C (vp_g g8) rfl dX7_seen_34 (V_eqH eh9 ?_)
        refine V_iconst (v := (1 : Int32)) C dX7_seen_35 (by decide) ?_
        obtain ⟨hf1, hf2⟩ := Prod.mk.inj (Option.some.inj hf)
        subst hf1
        subst hf2
        exact V_zret C (by decide) hQ dX7_seen_36
      · have hf := i_f c5 hf
        refine V_iconst (v := (0 : Int32)) C dX7_seen_23 (by decide) ?_
        obtain ⟨hf1, hf2⟩ := Prod.mk.inj (Option.some.inj hf)
        subst hf1
        subst hf2
        exact V_zret C (by decide) hQ dX7_seen_24
theorem ct_X7_seen {r : Int32} {h' : Hp} {h : Hp} {v0 : Nat} {v1 : Int32} {v2 : Int32} (hf : f_X7_seen h v0 v1 v2 = some ((r, h'))) (l : Launch) (G : GT) : MC l G yX7_seen cX7_seen 3 (some .boolean) rmX7_seen h [vR 7 (some v0), vI v1, vI v2] (some (vI r)) h' := MC_of (by decide) rfl (Nat.le_of_ble_eq_true rfl) rfl (fun X C hQ hin => p_X7_seen C hQ hf)
abbrev rmX7_went : Room := { frames := 92, cells := 0, slots := 0, locals := 3851 }
def f_X7_went_57 (N : Nat) (h : Hp) (v0 : Nat) (v2 : Int32) (s4_ : Int32) (s3_ : Int32) (s2_ : Option Nat) (s1_ : Nat) (s0_ : Nat) : Option (Int32 × Hp) := b2 (f_X0_countRows N h s0_ s1_ s2_ s3_ s4_) (fun r1 h2 => if v2 = 0 then (some ((r1, h2))) else (if r1 = 0 then (some (((-2 : Int32), h2))) else (Option.bind (hP h2 v0 9) (fun q5 => Option.bind (hP h2 q5 3) (fun q6 => if 0 ≤ (v2 - (1 : Int32)) / (3 : Int32) ∧ ((v2 - (1 : Int32)) / (3 : Int32)).toNatClampNeg < hL h2 q6 then (Option.bind (f_X5_partOf h2 (hI h2 q6 (((v2 - (1 : Int32)) / (3 : Int32)).toNatClampNeg)) ((v2 - (1 : Int32)) - (v2 - (1 : Int32)) / (3 : Int32) * (3 : Int32))) (fun r8 => some ((r8, h2)))) else none)))))
set_option maxHeartbeats 4000000 in
set_option maxRecDepth 100000 in
theorem p_X7_went_57 {X : XT} {r : Int32} {h' : Hp} (C : CX X cX7_went "WaterStair" 4 (some .int) rmX7_went) (hQ : QX X (some (vI r)) h' rmX7_went.cells rmX7_went.slots) {N : Nat}  {h : Hp} {v0 : Nat} {v2 : Int32} {s4_ : Int32} {s3_ : Int32} {s2_ : Option Nat} {s1_ : Nat} {s0_ : Nat} (hf : f_X7_went_57 N h v0 v2 s4_ s3_ s2_ s1_ s0_ = some ((r, h'))) : V X 0 0 h 57 [(0, vR 7 (some v0)), (2, vI v2)] [vI s4_, vI s3_, vR 1 s2_, vR 5 (some s1_), vR 0 (some s0_)] := by
  unfold f_X7_went_57 at hf
  obtain ⟨r1, h2, er1, hf⟩ := o_b2 hf
  refine V_callV (as := [vR 5 (some s1_), vR 1 s2_, vI s3_, vI s4_]) (st := []) C ml_X7_237 fx0 (ct_X0_countRows er1) rfl ⟨by decide, by decide, by decide, by decide⟩ (Nat.le_of_ble_eq_true rfl) rfl dX7_went_57 (cs' := 0) (sl' := 0) rfl rfl ?_
  refine V_istore_n (lv' := [(3, vI r1), (0, vR 7 (some v0)), (2, vI v2)]) C dX7_went_60 rfl (by decide) rfl ?_
  refine V_iload_n C dX7_went_61 rfl 2 rfl ?_
  refine V_if_ne C 67 dX7_went_62 (by decide) (fun c3 => ?_) (fun c3 => ?_)
  · have hf := i_f c3 hf
    refine V_iload_n C dX7_went_67 rfl 0 rfl ?_
    refine V_if_ne C 76 dX7_went_68 (by decide) (fun c4 => ?_) (fun c4 => ?_)
    · have hf := i_f c4 hf
      refine V_aload_n C dX7_went_76 rfl 1 rfl ?_
      obtain ⟨q5, eq5, hf⟩ := o_b hf
      refine V_getR C fl_X7_70 rfl rfl (by decide) eq5 dX7_went_77 ?_
      obtain ⟨q6, eq6, hf⟩ := o_b hf
      refine V_getR C fl_X7_241 rfl rfl (by decide) eq6 dX7_went_80 ?_
      refine V_iload_n C dX7_went_83 rfl 2 rfl ?_
      refine V_iconst (v := (1 : Int32)) C dX7_went_84 (by decide) ?_
      refine V_isub C dX7_went_85 ?_
      refine V_iconst (v := (3 : Int32)) C dX7_went_86 (by decide) ?_
      refine V_idiv C dX7_went_87 (by decide) ?_
      obtain ⟨g7, hf⟩ := o_if hf
      refine V_iald C (vp_g g7) rfl dX7_went_88 ?_
      refine V_iload_n C dX7_went_89 rfl 2 rfl ?_
      refine V_iconst (v := (1 : Int32)) C dX7_went_90 (by decide) ?_
      refine V_isub C dX7_went_91 ?_
      refine V_iconst (v := (3 : Int32)) C dX7_went_92 (by decide) ?_
      refine V_irem C dX7_went_93 (by decide) ?_
      obtain ⟨r8, er8, hf⟩ := o_b hf
      refine V_callS (as := [vI (hI h2 q6 (((v2 - (1 : Int32)) / (3 : Int32)).toNatClampNeg)), vI ((v2 - (1 : Int32)) - (v2 - (1 : Int32)) / (3 : Int32) * (3 : Int32))]) (st := []) C ml_X7_218 (ct_X5_partOf er8) rfl ⟨by decide, by decide, by decide, by decide⟩ (Nat.le_of_ble_eq_true rfl) rfl dX7_went_94 (cs' := 0) (sl' := 0) rfl rfl ?_
      obtain ⟨hf1, hf2⟩ := Prod.mk.inj (Option.some.inj hf)
      subst hf1
      subst hf2
      exact V_iret C hQ dX7_went_97
    · have hf := i_t c4 hf
      refine V_bipush (v := (-2 : Int32)) C dX7_went_71 (by decide) ?_
      refine V_goto C 97 dX7_went_73 (by decide) ?_
      obtain ⟨hf1, hf2⟩ := Prod.mk.inj (Option.some.inj hf)
      subst hf1
      subst hf2
      exact V_iret C hQ dX7_went_97
  · have hf := i_t c3 hf
    refine V_iload_n C dX7_went_65 rfl 0 rfl ?_
    obtain ⟨hf1, hf2⟩ := Prod.mk.inj (Option.some.inj hf)
    subst hf1
    subst hf2
    exact V_iret C hQ dX7_went_66
def f_X7_went (N : Nat) (h : Hp) (v0 : Nat) (v1 : Int32) (v2 : Int32) : Option (Int32 × Hp) := Option.bind (hP h v0 1) (fun q9 => if hI h q9 0 = 0 then (some (((-1 : Int32), h))) else (if v1 < (1 : Int32) then (some (((-1 : Int32), h))) else (if (3 : Int32) < v1 then (some (((-1 : Int32), h))) else (if v2 < 0 then (some (((-1 : Int32), h))) else (if v2 ≤ ((3 : Int32) * v1) then (Option.bind (hP h v0 9) (fun q15 => Option.bind (hP h v0 1) (fun q16 => Option.bind (f_X7_ruleInForce h v0) (fun r17 => if v2 = 0 then (f_X7_went_57 N h v0 v2 (30000 : Int32) v1 r17 q16 q15) else (f_X7_went_57 N h v0 v2 (1 : Int32) v1 r17 q16 q15))))) else (some (((-1 : Int32), h))))))))
set_option maxHeartbeats 4000000 in
set_option maxRecDepth 100000 in
theorem p_X7_went {X : XT} {r : Int32} {h' : Hp} (C : CX X cX7_went "WaterStair" 4 (some .int) rmX7_went) {N : Nat} {h : Hp} {v0 : Nat} {v1 : Int32} {v2 : Int32} (hQ : QX X (some (vI r)) h' rmX7_went.cells rmX7_went.slots) (hf : f_X7_went N h v0 v1 v2 = some ((r, h'))) : V X 0 0 h 0 [(0, vR 7 (some v0)), (1, vI v1), (2, vI v2)] [] := by
  unfold f_X7_went at hf
  refine V_aload_n C dX7_went_0 rfl 0 rfl ?_
  obtain ⟨q9, eq9, hf⟩ := o_b hf
  refine V_getR C fl_X7_19 rfl rfl (by decide) eq9 dX7_went_1 ?_
  refine V_getI C fl_X7_97 rfl dX7_went_4 ?_
  refine V_if_eq C 31 dX7_went_7 (by decide) (fun c10 => ?_) (fun c10 => ?_)
  · have hf := i_t c10 hf
    refine V_iconst (v := (-1 : Int32)) C dX7_went_31 (by decide) ?_
    obtain ⟨hf1, hf2⟩ := Prod.mk.inj (Option.some.inj hf)
    subst hf1
    subst hf2
    exact V_iret C hQ dX7_went_32
  · have hf := i_f c10 hf
    refine V_iload_n C dX7_went_10 rfl 1 rfl ?_
    refine V_iconst (v := (1 : Int32)) C dX7_went_11 (by decide) ?_
    refine V_icmp_lt C 31 dX7_went_12 (by decide) (fun c11 => ?_) (fun c11 => ?_)
    · have hf := i_t c11 hf
      refine V_iconst (v := (-1 : Int32)) C dX7_went_31 (by decide) ?_
      obtain ⟨hf1, hf2⟩ := Prod.mk.inj (Option.some.inj hf)
      subst hf1
      subst hf2
      exact V_iret C hQ dX7_went_32
    · have hf := i_f c11 hf
      refine V_iload_n C dX7_went_15 rfl 1 rfl ?_
      refine V_iconst (v := (3 : Int32)) C dX7_went_16 (by decide) ?_
      refine V_icmp_gt C 31 dX7_went_17 (by decide) (fun c12 => ?_) (fun c12 => ?_)
      · have hf := i_t c12 hf
        refine V_iconst (v := (-1 : Int32)) C dX7_went_31 (by decide) ?_
        obtain ⟨hf1, hf2⟩ := Prod.mk.inj (Option.some.inj hf)
        subst hf1
        subst hf2
        exact V_iret C hQ dX7_went_32
      · have hf := i_f c12 hf
        refine V_iload_n C dX7_went_20 rfl 2 rfl ?_
        refine V_if_lt C 31 dX7_went_21 (by decide) (fun c13 => ?_) (fun c13 => ?_)
        · have hf := i_t c13 hf
          refine V_iconst (v := (-1 : Int32)) C dX7_went_31 (by decide) ?_
          obtain ⟨hf1, hf2⟩ := Prod.mk.inj (Option.some.inj hf)
          subst hf1
          subst hf2
          exact V_iret C hQ dX7_went_32
        · have hf := i_f c13 hf
          refine V_iload_n C dX7_went_24 rfl 2 rfl ?_
          refine V_iconst (v := (3 : Int32)) C dX7_went_25 (by decide) ?_
          refine V_iload_n C dX7_went_26 rfl 1 rfl ?_
          refine V_imul C dX7_went_27 ?_
          refine V_icmp_le C 33 dX7_went_28 (by decide) (fun c14 => ?_) (fun c14 => ?_)
          · have hf := i_t c14 hf
            refine V_aload_n C dX7_went_33 rfl 0 rfl ?_
            obtain ⟨q15, eq15, hf⟩ := o_b hf
            refine V_getR C fl_X7_70 rfl rfl (by decide) eq15 dX7_went_34 ?_
            refine V_aload_n C dX7_went_37 rfl 0 rfl ?_
            obtain ⟨q16, eq16, hf⟩ := o_b hf
            refine V_getR C fl_X7_19 rfl rfl (by decide) eq16 dX7_went_38 ?_
            refine V_aload_n C dX7_went_41 rfl 0 rfl ?_
            obtain ⟨r17, er17, hf⟩ := o_b hf
            refine V_callV (as := []) (st := [vR 5 (some q16), vR 0 (some q15)]) C ml_X7_163 fx7 (ct_X7_ruleInForce er17) rfl ⟨by decide, by decide, by decide, by decide⟩ (Nat.le_of_ble_eq_true rfl) rfl dX7_went_42 (cs' := 0) (sl' := 0) rfl rfl ?_
            refine V_iload_n C dX7_went_45 rfl 1 rfl ?_
            refine V_iload_n C dX7_went_46 rfl 2 rfl ?_
            refine V_if_ne C 56 dX7_went_47 (by decide) (fun c18 => ?_) (fun c18 => ?_)
            · have hf := i_f c18 hf
              refine V_iconst (v := (1 : Int32)) C dX7_went_56 (by decide) ?_
              refine V_sub (lv' := [(0, vR 7 (some v0)), (2, vI v2)]) [0, 2] rfl ?_
              exact p_X7_went_57 C hQ hf
            · have hf := i_t c18 hf
              refine V_sipush (v := (30000 : Int32)) C dX7_went_50 (by decide) ?_
              refine V_goto C 57 dX7_went_53 (by decide) ?_
              refine V_sub (lv' := [(0, vR 7 (some v0)), (2, vI v2)]) [0, 2] rfl ?_
              exact p_X7_went_57 C hQ hf
          · have hf := i_f c14 hf
            refine V_iconst (v := (-1 : Int32)) C dX7_went_31 (by decide) ?_
            obtain ⟨hf1, hf2⟩ := Prod.mk.inj (Option.some.inj hf)
            subst hf1
            subst hf2
            exact V_iret C hQ dX7_went_32
theorem ct_X7_went {r : Int32} {h' : Hp} {N : Nat} {h : Hp} {v0 : Nat} {v1 : Int32} {v2 : Int32} (hf : f_X7_went N h v0 v1 v2 = some ((r, h'))) (l : Launch) (G : GT) : MC l G yX7_went cX7_went 4 (some .int) rmX7_went h [vR 7 (some v0), vI v1, vI v2] (some (vI r)) h' := MC_of (by decide) rfl (Nat.le_of_ble_eq_true rfl) rfl (fun X C hQ hin => p_X7_went C hQ hf)
abbrev rmX7_book : Room := { frames := 2, cells := 0, slots := 0, locals := 46 }
def f_X7_book (h : Hp) (v0 : Nat) (v1 : Int32) (v2 : Int32) (v3 : Int32) : Option (Int32 × Hp) := if v1 = (-1 : Int32) then (Option.bind (hP h v0 1) (fun q16 => lt (sI h q16 7 (0 : Int32)) (fun h17 => some (((0 : Int32), h17))))) else (Option.bind (hP h v0 1) (fun q2 => Option.bind (f_X5_isTip h q2 v1 v2 v3) (fun r3 => if r3 = 0 then (some (((-2 : Int32), h))) else (Option.bind (hP h v0 1) (fun q5 => if (hI h q5 7) < (10 : Int32) then (Option.bind (hP h v0 1) (fun q7 => Option.bind (hP h q7 17) (fun q8 => Option.bind (hP h v0 1) (fun q9 => Option.bind (f_X5_tipOf h v1 v2 v3) (fun r10 => if 0 ≤ hI h q9 7 ∧ (hI h q9 7).toNatClampNeg < hL h q8 then (lt (sI h q8 ((hI h q9 7).toNatClampNeg) r10) (fun h12 => Option.bind (hP h12 v0 1) (fun q13 => lt (sI h12 q13 7 ((hI h12 q13 7) + (1 : Int32))) (fun h14 => Option.bind (hP h14 v0 1) (fun q15 => some ((hI h14 q15 7, h14))))))) else none))))) else (some (((-2 : Int32), h))))))))
set_option maxHeartbeats 4000000 in
set_option maxRecDepth 100000 in
theorem p_X7_book {X : XT} {r : Int32} {h' : Hp} (C : CX X cX7_book "WaterStair" 4 (some .int) rmX7_book) {h : Hp} {v0 : Nat} {v1 : Int32} {v2 : Int32} {v3 : Int32} (hQ : QX X (some (vI r)) h' rmX7_book.cells rmX7_book.slots) (hf : f_X7_book h v0 v1 v2 v3 = some ((r, h'))) : V X 0 0 h 0 [(0, vR 7 (some v0)), (1, vI v1), (2, vI v2), (3, vI v3)] [] := by
  unfold f_X7_book at hf
  refine V_iload_n C dX7_book_0 rfl 1 rfl ?_
  refine V_iconst (v := (-1 : Int32)) C dX7_book_1 (by decide) ?_
  refine V_icmp_ne C 15 dX7_book_2 (by decide) (fun c1 => ?_) (fun c1 => ?_)
  · have hf := i_f c1 hf
    refine V_aload_n C dX7_book_15 rfl 0 rfl ?_
    obtain ⟨q2, eq2, hf⟩ := o_b hf
    refine V_getR C fl_X7_19 rfl rfl (by decide) eq2 dX7_book_16 ?_
    refine V_iload_n C dX7_book_19 rfl 1 rfl ?_
    refine V_iload_n C dX7_book_20 rfl 2 rfl ?_
    refine V_iload_n C dX7_book_21 rfl 3 rfl ?_
    obtain ⟨r3, er3, hf⟩ := o_b hf
    refine V_callV (as := [vI v1, vI v2, vI v3]) (st := []) C ml_X7_159 fx5 (ct_X5_isTip er3) rfl ⟨by decide, by decide, by decide, by decide⟩ (Nat.le_of_ble_eq_true rfl) rfl dX7_book_22 (cs' := 0) (sl' := 0) rfl rfl ?_
    refine V_if_eq C 40 dX7_book_25 (by decide) (fun c4 => ?_) (fun c4 => ?_)
    · have hf := i_t c4 hf
      refine V_bipush (v := (-2 : Int32)) C dX7_book_40 (by decide) ?_
      obtain ⟨hf1, hf2⟩ := Prod.mk.inj (Option.some.inj hf)
      subst hf1
      subst hf2
      exact V_iret C hQ dX7_book_42
    · have hf := i_f c4 hf
      refine V_aload_n C dX7_book_28 rfl 0 rfl ?_
      obtain ⟨q5, eq5, hf⟩ := o_b hf
      refine V_getR C fl_X7_19 rfl rfl (by decide) eq5 dX7_book_29 ?_
      refine V_getI C fl_X7_244 rfl dX7_book_32 ?_
      refine V_bipush (v := (10 : Int32)) C dX7_book_35 (by decide) ?_
      refine V_icmp_lt C 43 dX7_book_37 (by decide) (fun c6 => ?_) (fun c6 => ?_)
      · have hf := i_t c6 hf
        refine V_aload_n C dX7_book_43 rfl 0 rfl ?_
        obtain ⟨q7, eq7, hf⟩ := o_b hf
        refine V_getR C fl_X7_19 rfl rfl (by decide) eq7 dX7_book_44 ?_
        obtain ⟨q8, eq8, hf⟩ := o_b hf
        refine V_getR C fl_X7_247 rfl rfl (by decide) eq8 dX7_book_47 ?_
        refine V_aload_n C dX7_book_50 rfl 0 rfl ?_
        obtain ⟨q9, eq9, hf⟩ := o_b hf
        refine V_getR C fl_X7_19 rfl rfl (by decide) eq9 dX7_book_51 ?_
        refine V_getI C fl_X7_244 rfl dX7_book_54 ?_
        refine V_iload_n C dX7_book_57 rfl 1 rfl ?_
        refine V_iload_n C dX7_book_58 rfl 2 rfl ?_
        refine V_iload_n C dX7_book_59 rfl 3 rfl ?_
        obtain ⟨r10, er10, hf⟩ := o_b hf
        refine V_callS (as := [vI v1, vI v2, vI v3]) (st := [vI (hI h q9 7), vR 10 (some q8)]) C ml_X7_153 (ct_X5_tipOf er10) rfl ⟨by decide, by decide, by decide, by decide⟩ (Nat.le_of_ble_eq_true rfl) rfl dX7_book_60 (cs' := 0) (sl' := 0) rfl rfl ?_
        obtain ⟨g11, hf⟩ := o_if hf
        obtain ⟨h12, eh12, hf⟩ := o_l hf
        refine V_iast C (vp_g g11) rfl dX7_book_63 (V_eqH eh12 ?_)
        refine V_aload_n C dX7_book_64 rfl 0 rfl ?_
        obtain ⟨q13, eq13, hf⟩ := o_b hf
        refine V_getR C fl_X7_19 rfl rfl (by decide) eq13 dX7_book_65 ?_
        refine V_dup C dX7_book_68 rfl ?_
        refine V_getI C fl_X7_244 rfl dX7_book_69 ?_
        refine V_iconst (v := (1 : Int32)) C dX7_book_72 (by decide) ?_
        refine V_iadd C dX7_book_73 ?_
        obtain ⟨h14, eh14, hf⟩ := o_l hf
        refine V_putI C nf_X7_244 rfl (okI_int _) dX7_book_74 (V_eqH eh14 ?_)
        refine V_aload_n C dX7_book_77 rfl 0 rfl ?_
        obtain ⟨q15, eq15, hf⟩ := o_b hf
        refine V_getR C fl_X7_19 rfl rfl (by decide) eq15 dX7_book_78 ?_
        refine V_getI C fl_X7_244 rfl dX7_book_81 ?_
        obtain ⟨hf1, hf2⟩ := Prod.mk.inj (Option.some.inj hf)
        subst hf1
        subst hf2
        exact V_iret C hQ dX7_book_84
      · have hf := i_f c6 hf
        refine V_bipush (v := (-2 : Int32)) C dX7_book_40 (by decide) ?_
        obtain ⟨hf1, hf2⟩ := Prod.mk.inj (Option.some.inj hf)
        subst hf1
        subst hf2
        exact V_iret C hQ dX7_book_42
  · have hf := i_t c1 hf
    refine V_aload_n C dX7_book_5 rfl 0 rfl ?_
    obtain ⟨q16, eq16, hf⟩ := o_b hf
    refine V_getR C fl_X7_19 rfl rfl (by decide) eq16 dX7_book_6 ?_
    refine V_iconst (v := (0 : Int32)) C dX7_book_9 (by decide) ?_
    obtain ⟨h17, eh17, hf⟩ := o_l hf
    refine V_putI C nf_X7_244 rfl (okI_int _) dX7_book_10 (V_eqH eh17 ?_)
    refine V_iconst (v := (0 : Int32)) C dX7_book_13 (by decide) ?_
    obtain ⟨hf1, hf2⟩ := Prod.mk.inj (Option.some.inj hf)
    subst hf1
    subst hf2
    exact V_iret C hQ dX7_book_14
theorem ct_X7_book {r : Int32} {h' : Hp} {h : Hp} {v0 : Nat} {v1 : Int32} {v2 : Int32} {v3 : Int32} (hf : f_X7_book h v0 v1 v2 v3 = some ((r, h'))) (l : Launch) (G : GT) : MC l G yX7_book cX7_book 4 (some .int) rmX7_book h [vR 7 (some v0), vI v1, vI v2, vI v3] (some (vI r)) h' := MC_of (by decide) rfl (Nat.le_of_ble_eq_true rfl) rfl (fun X C hQ hin => p_X7_book C hQ hf)
abbrev rmX7_smuggled : Room := { frames := 6, cells := 0, slots := 0, locals := 137 }
def f_X7_smuggled (N : Nat) (h : Hp) (v0 : Nat) (v1 : Int32) : Option (Int32 × Hp) := Option.bind (hP h v0 1) (fun q1 => if hI h q1 0 = 0 then (some (((-1 : Int32), h))) else (if v1 < 0 then (some (((-1 : Int32), h))) else (if v1 ≤ (2 : Int32) then (Option.bind (hP h v0 9) (fun q5 => Option.bind (hP h v0 1) (fun q6 => Option.bind (f_X0_searchSmuggled N h q5 q6) (fun h7 => if v1 = (0 : Int32) then (Option.bind (hP h7 v0 9) (fun q9 => some ((hI h7 q9 5, h7)))) else if v1 = (1 : Int32) then (Option.bind (hP h7 v0 9) (fun q11 => if hI h7 q11 5 = 0 then (some (((-2 : Int32), h7))) else (Option.bind (hP h7 v0 9) (fun q13 => some ((hI h7 q13 6, h7)))))) else (Option.bind (hP h7 v0 9) (fun q14 => if hI h7 q14 5 = 0 then (some (((0 : Int32), h7))) else (Option.bind (hP h7 v0 9) (fun q16 => some ((hI h7 q16 7, h7)))))))))) else (some (((-1 : Int32), h))))))
set_option maxHeartbeats 4000000 in
set_option maxRecDepth 100000 in
theorem p_X7_smuggled {X : XT} {r : Int32} {h' : Hp} (C : CX X cX7_smuggled "WaterStair" 2 (some .int) rmX7_smuggled) {N : Nat} {h : Hp} {v0 : Nat} {v1 : Int32} (hQ : QX X (some (vI r)) h' rmX7_smuggled.cells rmX7_smuggled.slots) (hf : f_X7_smuggled N h v0 v1 = some ((r, h'))) : V X 0 0 h 0 [(0, vR 7 (some v0)), (1, vI v1)] [] := by
  unfold f_X7_smuggled at hf
  refine V_aload_n C dX7_smuggled_0 rfl 0 rfl ?_
  obtain ⟨q1, eq1, hf⟩ := o_b hf
  refine V_getR C fl_X7_19 rfl rfl (by decide) eq1 dX7_smuggled_1 ?_
  refine V_getI C fl_X7_97 rfl dX7_smuggled_4 ?_
  refine V_if_eq C 19 dX7_smuggled_7 (by decide) (fun c2 => ?_) (fun c2 => ?_)
  · have hf := i_t c2 hf
    refine V_iconst (v := (-1 : Int32)) C dX7_smuggled_19 (by decide) ?_
    obtain ⟨hf1, hf2⟩ := Prod.mk.inj (Option.some.inj hf)
    subst hf1
    subst hf2
    exact V_iret C hQ dX7_smuggled_20
  · have hf := i_f c2 hf
    refine V_iload_n C dX7_smuggled_10 rfl 1 rfl ?_
    refine V_if_lt C 19 dX7_smuggled_11 (by decide) (fun c3 => ?_) (fun c3 => ?_)
    · have hf := i_t c3 hf
      refine V_iconst (v := (-1 : Int32)) C dX7_smuggled_19 (by decide) ?_
      obtain ⟨hf1, hf2⟩ := Prod.mk.inj (Option.some.inj hf)
      subst hf1
      subst hf2
      exact V_iret C hQ dX7_smuggled_20
    · have hf := i_f c3 hf
      refine V_iload_n C dX7_smuggled_14 rfl 1 rfl ?_
      refine V_iconst (v := (2 : Int32)) C dX7_smuggled_15 (by decide) ?_
      refine V_icmp_le C 21 dX7_smuggled_16 (by decide) (fun c4 => ?_) (fun c4 => ?_)
      · have hf := i_t c4 hf
        refine V_aload_n C dX7_smuggled_21 rfl 0 rfl ?_
        obtain ⟨q5, eq5, hf⟩ := o_b hf
        refine V_getR C fl_X7_70 rfl rfl (by decide) eq5 dX7_smuggled_22 ?_
        refine V_aload_n C dX7_smuggled_25 rfl 0 rfl ?_
        obtain ⟨q6, eq6, hf⟩ := o_b hf
        refine V_getR C fl_X7_19 rfl rfl (by decide) eq6 dX7_smuggled_26 ?_
        obtain ⟨h7, eh7, hf⟩ := o_b hf
        refine V_callV (as := [vR 5 (some q6)]) (st := []) C ml_X7_250 fx0 (ct_X0_searchSmuggled eh7) rfl ⟨by decide, by decide, by decide, by decide⟩ (Nat.le_of_ble_eq_true rfl) rfl dX7_smuggled_29 (cs' := 0) (sl' := 0) rfl rfl ?_
        refine V_iload_n C dX7_smuggled_32 rfl 1 rfl ?_
        by_cases c8 : v1 = (0 : Int32)
        · have hf := i_t c8 hf
          refine V_look (off := 27) C 60 dX7_smuggled_33 (by decide) (by rw [c8]; decide) (by decide) ?_
          refine V_aload_n C dX7_smuggled_60 rfl 0 rfl ?_
          obtain ⟨q9, eq9, hf⟩ := o_b hf
          refine V_getR C fl_X7_70 rfl rfl (by decide) eq9 dX7_smuggled_61 ?_
          refine V_getI C fl_X7_253 rfl dX7_smuggled_64 ?_
          obtain ⟨hf1, hf2⟩ := Prod.mk.inj (Option.some.inj hf)
          subst hf1
          subst hf2
          exact V_iret C hQ dX7_smuggled_67
        have hf := i_f c8 hf
        by_cases c10 : v1 = (1 : Int32)
        · have hf := i_t c10 hf
          refine V_look (off := 35) C 68 dX7_smuggled_33 (by decide) (by rw [c10]; decide) (by decide) ?_
          refine V_aload_n C dX7_smuggled_68 rfl 0 rfl ?_
          obtain ⟨q11, eq11, hf⟩ := o_b hf
          refine V_getR C fl_X7_70 rfl rfl (by decide) eq11 dX7_smuggled_69 ?_
          refine V_getI C fl_X7_253 rfl dX7_smuggled_72 ?_
          refine V_if_ne C 83 dX7_smuggled_75 (by decide) (fun c12 => ?_) (fun c12 => ?_)
          · have hf := i_f c12 hf
            refine V_aload_n C dX7_smuggled_83 rfl 0 rfl ?_
            obtain ⟨q13, eq13, hf⟩ := o_b hf
            refine V_getR C fl_X7_70 rfl rfl (by decide) eq13 dX7_smuggled_84 ?_
            refine V_getI C fl_X7_256 rfl dX7_smuggled_87 ?_
            obtain ⟨hf1, hf2⟩ := Prod.mk.inj (Option.some.inj hf)
            subst hf1
            subst hf2
            exact V_iret C hQ dX7_smuggled_90
          · have hf := i_t c12 hf
            refine V_bipush (v := (-2 : Int32)) C dX7_smuggled_78 (by decide) ?_
            refine V_goto C 90 dX7_smuggled_80 (by decide) ?_
            obtain ⟨hf1, hf2⟩ := Prod.mk.inj (Option.some.inj hf)
            subst hf1
            subst hf2
            exact V_iret C hQ dX7_smuggled_90
        have hf := i_f c10 hf
        refine V_look (off := 58) C 91 dX7_smuggled_33 (by decide) (by have nc8 : ¬ (0 : Int) = Int32.toInt v1 := fun e => tab_n (z := 0) c8 (by decide) e.symm; have nc10 : ¬ (1 : Int) = Int32.toInt v1 := fun e => tab_n (z := 1) c10 (by decide) e.symm; simp [Op.lookupswitch.offset, nc8, nc10]) (by decide) ?_
        refine V_aload_n C dX7_smuggled_91 rfl 0 rfl ?_
        obtain ⟨q14, eq14, hf⟩ := o_b hf
        refine V_getR C fl_X7_70 rfl rfl (by decide) eq14 dX7_smuggled_92 ?_
        refine V_getI C fl_X7_253 rfl dX7_smuggled_95 ?_
        refine V_if_ne C 105 dX7_smuggled_98 (by decide) (fun c15 => ?_) (fun c15 => ?_)
        · have hf := i_f c15 hf
          refine V_aload_n C dX7_smuggled_105 rfl 0 rfl ?_
          obtain ⟨q16, eq16, hf⟩ := o_b hf
          refine V_getR C fl_X7_70 rfl rfl (by decide) eq16 dX7_smuggled_106 ?_
          refine V_getI C fl_X7_259 rfl dX7_smuggled_109 ?_
          obtain ⟨hf1, hf2⟩ := Prod.mk.inj (Option.some.inj hf)
          subst hf1
          subst hf2
          exact V_iret C hQ dX7_smuggled_112
        · have hf := i_t c15 hf
          refine V_iconst (v := (0 : Int32)) C dX7_smuggled_101 (by decide) ?_
          refine V_goto C 112 dX7_smuggled_102 (by decide) ?_
          obtain ⟨hf1, hf2⟩ := Prod.mk.inj (Option.some.inj hf)
          subst hf1
          subst hf2
          exact V_iret C hQ dX7_smuggled_112
      · have hf := i_f c4 hf
        refine V_iconst (v := (-1 : Int32)) C dX7_smuggled_19 (by decide) ?_
        obtain ⟨hf1, hf2⟩ := Prod.mk.inj (Option.some.inj hf)
        subst hf1
        subst hf2
        exact V_iret C hQ dX7_smuggled_20
theorem ct_X7_smuggled {r : Int32} {h' : Hp} {N : Nat} {h : Hp} {v0 : Nat} {v1 : Int32} (hf : f_X7_smuggled N h v0 v1 = some ((r, h'))) (l : Launch) (G : GT) : MC l G yX7_smuggled cX7_smuggled 2 (some .int) rmX7_smuggled h [vR 7 (some v0), vI v1] (some (vI r)) h' := MC_of (by decide) rfl (Nat.le_of_ble_eq_true rfl) rfl (fun X C hQ hin => p_X7_smuggled C hQ hf)
abbrev rmX7_seed : Room := { frames := 0, cells := 0, slots := 0, locals := 0 }
def f_X7_seed (h : Hp) (v0 : Nat) (v1 : Int32) : Option (Int32 × Hp) := if 0 ≤ v1 then (Option.bind (hP h v0 1) (fun q2 => Option.bind (hP h v0 1) (fun q3 => lt (sI h q3 6 v1) (fun h4 => some ((hI h q2 6, h4)))))) else (some (((-1 : Int32), h)))
set_option maxHeartbeats 4000000 in
set_option maxRecDepth 100000 in
theorem p_X7_seed {X : XT} {r : Int32} {h' : Hp} (C : CX X cX7_seed "WaterStair" 3 (some .int) rmX7_seed) {h : Hp} {v0 : Nat} {v1 : Int32} (hQ : QX X (some (vI r)) h' rmX7_seed.cells rmX7_seed.slots) (hf : f_X7_seed h v0 v1 = some ((r, h'))) : V X 0 0 h 0 [(0, vR 7 (some v0)), (1, vI v1)] [] := by
  unfold f_X7_seed at hf
  refine V_iload_n C dX7_seed_0 rfl 1 rfl ?_
  refine V_if_ge C 6 dX7_seed_1 (by decide) (fun c1 => ?_) (fun c1 => ?_)
  · have hf := i_t c1 hf
    refine V_aload_n C dX7_seed_6 rfl 0 rfl ?_
    obtain ⟨q2, eq2, hf⟩ := o_b hf
    refine V_getR C fl_X7_19 rfl rfl (by decide) eq2 dX7_seed_7 ?_
    refine V_getI C fl_X7_88 rfl dX7_seed_10 ?_
    refine V_istore_n (lv' := [(2, vI (hI h q2 6)), (0, vR 7 (some v0)), (1, vI v1)]) C dX7_seed_13 rfl (by decide) rfl ?_
    refine V_aload_n C dX7_seed_14 rfl 1 rfl ?_
    obtain ⟨q3, eq3, hf⟩ := o_b hf
    refine V_getR C fl_X7_19 rfl rfl (by decide) eq3 dX7_seed_15 ?_
    refine V_iload_n C dX7_seed_18 rfl 2 rfl ?_
    obtain ⟨h4, eh4, hf⟩ := o_l hf
    refine V_putI C nf_X7_88 rfl (okI_int _) dX7_seed_19 (V_eqH eh4 ?_)
    refine V_iload_n C dX7_seed_22 rfl 0 rfl ?_
    obtain ⟨hf1, hf2⟩ := Prod.mk.inj (Option.some.inj hf)
    subst hf1
    subst hf2
    exact V_iret C hQ dX7_seed_23
  · have hf := i_f c1 hf
    refine V_iconst (v := (-1 : Int32)) C dX7_seed_4 (by decide) ?_
    obtain ⟨hf1, hf2⟩ := Prod.mk.inj (Option.some.inj hf)
    subst hf1
    subst hf2
    exact V_iret C hQ dX7_seed_5
theorem ct_X7_seed {r : Int32} {h' : Hp} {h : Hp} {v0 : Nat} {v1 : Int32} (hf : f_X7_seed h v0 v1 = some ((r, h'))) (l : Launch) (G : GT) : MC l G yX7_seed cX7_seed 3 (some .int) rmX7_seed h [vR 7 (some v0), vI v1] (some (vI r)) h' := MC_of (by decide) rfl (Nat.le_of_ble_eq_true rfl) rfl (fun X C hQ hin => p_X7_seed C hQ hf)
abbrev rmX7_seasons : Room := { frames := 6, cells := 0, slots := 0, locals := 145 }
def f_X7_seasons_61 (N : Nat) : Nat → Hp → Nat → Int32 → Int32 → Int32 → Int32 → Int32 → Int32 → Int32 → Option (Int32 × Hp)
  | 0, _, _, _, _, _, _, _, _, _ => none
  | n + 1, h, v0, v1, v2, v3, v4, v5, v6, v7 => if v1 ≤ v7 then (if v3 = 0 then (some ((v4, h))) else (some ((v5, h)))) else (Option.bind (hP h v0 2) (fun q3 => Option.bind (hP h v0 1) (fun q4 => Option.bind (f_X5_copyFrom h q3 q4) (fun h5 => Option.bind (hP h5 v0 2) (fun q6 => lt (sI h5 q6 6 v6) (fun h7 => Option.bind (hP h7 v0 2) (fun q8 => Option.bind (f_X5_drawBarges N h7 q8 v2) (fun h9 => Option.bind (hP h9 v0 2) (fun q10 => Option.bind (hP h9 v0 2) (fun q11 => Option.bind (f_X7_ruleInForce h9 v0) (fun r12 => b2 (f_X5_runTips N h9 q11 r12 (200 : Int32)) (fun r13 h14 => Option.bind (hP h14 v0 2) (fun q15 => Option.bind (f_X5_homeBits N h14 q15) (fun r16 => Option.bind (f_J6_bitCount_0f7a4 h14 r16) (fun r17 => Option.bind (hP h14 v0 2) (fun q18 => Option.bind (hP h14 v0 1) (fun q19 => lt (v5 + ((hI h14 q18 4) - (hI h14 q19 4))) (fun y20 => f_X7_seasons_61 N n h14 v0 v1 v2 v3 (v4 + r17) y20 (hI h9 q10 6) (v7 + (1 : Int32))))))))))))))))))))
set_option maxHeartbeats 4000000 in
set_option maxRecDepth 100000 in
theorem p_X7_seasons_61 {X : XT} {r : Int32} {h' : Hp} (C : CX X cX7_seasons "WaterStair" 8 (some .int) rmX7_seasons) (hQ : QX X (some (vI r)) h' rmX7_seasons.cells rmX7_seasons.slots) {N : Nat}  : ∀ (n : Nat) (h : Hp) (v0 : Nat) (v1 : Int32) (v2 : Int32) (v3 : Int32) (v4 : Int32) (v5 : Int32) (v6 : Int32) (v7 : Int32), f_X7_seasons_61 N n h v0 v1 v2 v3 v4 v5 v6 v7 = some ((r, h')) → V X 0 0 h 61 [(0, vR 7 (some v0)), (1, vI v1), (2, vI v2), (3, vI v3), (4, vI v4), (5, vI v5), (6, vI v6), (7, vI v7)] [] := by
  intro n
  induction n with
  | zero =>
    intro h v0 v1 v2 v3 v4 v5 v6 v7 hf
    have hf : (none : Option (Int32 × Hp)) = some _ := hf
    cases hf
  | succ n ih =>
    intro h v0 v1 v2 v3 v4 v5 v6 v7 hf
    rw [f_X7_seasons_61] at hf
    refine V_iload C dX7_seasons_61 7 rfl ?_
    refine V_iload_n C dX7_seasons_63 rfl 1 rfl ?_
    refine V_icmp_ge C 160 dX7_seasons_64 (by decide) (fun c1 => ?_) (fun c1 => ?_)
    · have hf := i_t c1 hf
      refine V_iload_n C dX7_seasons_160 rfl 3 rfl ?_
      refine V_if_ne C 169 dX7_seasons_161 (by decide) (fun c2 => ?_) (fun c2 => ?_)
      · have hf := i_f c2 hf
        refine V_iload C dX7_seasons_169 5 rfl ?_
        obtain ⟨hf1, hf2⟩ := Prod.mk.inj (Option.some.inj hf)
        subst hf1
        subst hf2
        exact V_iret C hQ dX7_seasons_171
      · have hf := i_t c2 hf
        refine V_iload C dX7_seasons_164 4 rfl ?_
        refine V_goto C 171 dX7_seasons_166 (by decide) ?_
        obtain ⟨hf1, hf2⟩ := Prod.mk.inj (Option.some.inj hf)
        subst hf1
        subst hf2
        exact V_iret C hQ dX7_seasons_171
    · have hf := i_f c1 hf
      refine V_aload_n C dX7_seasons_67 rfl 0 rfl ?_
      obtain ⟨q3, eq3, hf⟩ := o_b hf
      refine V_getR C fl_X7_23 rfl rfl (by decide) eq3 dX7_seasons_68 ?_
      refine V_aload_n C dX7_seasons_71 rfl 0 rfl ?_
      obtain ⟨q4, eq4, hf⟩ := o_b hf
      refine V_getR C fl_X7_19 rfl rfl (by decide) eq4 dX7_seasons_72 ?_
      obtain ⟨h5, eh5, hf⟩ := o_b hf
      refine V_callV (as := [vR 5 (some q4)]) (st := []) C ml_X7_91 fx5 (ct_X5_copyFrom eh5) rfl ⟨by decide, by decide, by decide, by decide⟩ (Nat.le_of_ble_eq_true rfl) rfl dX7_seasons_75 (cs' := 0) (sl' := 0) rfl rfl ?_
      refine V_aload_n C dX7_seasons_78 rfl 0 rfl ?_
      obtain ⟨q6, eq6, hf⟩ := o_b hf
      refine V_getR C fl_X7_23 rfl rfl (by decide) eq6 dX7_seasons_79 ?_
      refine V_iload C dX7_seasons_82 6 rfl ?_
      obtain ⟨h7, eh7, hf⟩ := o_l hf
      refine V_putI C nf_X7_88 rfl (okI_int _) dX7_seasons_84 (V_eqH eh7 ?_)
      refine V_aload_n C dX7_seasons_87 rfl 0 rfl ?_
      obtain ⟨q8, eq8, hf⟩ := o_b hf
      refine V_getR C fl_X7_23 rfl rfl (by decide) eq8 dX7_seasons_88 ?_
      refine V_iload_n C dX7_seasons_91 rfl 2 rfl ?_
      obtain ⟨h9, eh9, hf⟩ := o_b hf
      refine V_callV (as := [vI v2]) (st := []) C ml_X7_262 fx5 (ct_X5_drawBarges eh9) rfl ⟨by decide, by decide, by decide, by decide⟩ (Nat.le_of_ble_eq_true rfl) rfl dX7_seasons_92 (cs' := 0) (sl' := 0) rfl rfl ?_
      refine V_aload_n C dX7_seasons_95 rfl 0 rfl ?_
      obtain ⟨q10, eq10, hf⟩ := o_b hf
      refine V_getR C fl_X7_23 rfl rfl (by decide) eq10 dX7_seasons_96 ?_
      refine V_getI C fl_X7_88 rfl dX7_seasons_99 ?_
      refine V_istore (lv' := [(6, vI (hI h9 q10 6)), (0, vR 7 (some v0)), (1, vI v1), (2, vI v2), (3, vI v3), (4, vI v4), (5, vI v5), (7, vI v7)]) C dX7_seasons_102 (by decide) rfl ?_
      refine V_aload_n C dX7_seasons_104 rfl 1 rfl ?_
      obtain ⟨q11, eq11, hf⟩ := o_b hf
      refine V_getR C fl_X7_23 rfl rfl (by decide) eq11 dX7_seasons_105 ?_
      refine V_aload_n C dX7_seasons_108 rfl 1 rfl ?_
      obtain ⟨r12, er12, hf⟩ := o_b hf
      refine V_callV (as := []) (st := [vR 5 (some q11)]) C ml_X7_163 fx7 (ct_X7_ruleInForce er12) rfl ⟨by decide, by decide, by decide, by decide⟩ (Nat.le_of_ble_eq_true rfl) rfl dX7_seasons_109 (cs' := 0) (sl' := 0) rfl rfl ?_
      refine V_sipush (v := (200 : Int32)) C dX7_seasons_112 (by decide) ?_
      obtain ⟨r13, h14, er13, hf⟩ := o_b2 hf
      refine V_callV (as := [vR 1 r12, vI (200 : Int32)]) (st := []) C ml_X7_179 fx5 (ct_X5_runTips er13) rfl ⟨by decide, by decide, by decide, by decide⟩ (Nat.le_of_ble_eq_true rfl) rfl dX7_seasons_115 (cs' := 0) (sl' := 0) rfl rfl ?_
      refine V_pop C dX7_seasons_118 rfl ?_
      refine V_iload C dX7_seasons_119 5 rfl ?_
      refine V_aload_n C dX7_seasons_121 rfl 1 rfl ?_
      obtain ⟨q15, eq15, hf⟩ := o_b hf
      refine V_getR C fl_X7_23 rfl rfl (by decide) eq15 dX7_seasons_122 ?_
      obtain ⟨r16, er16, hf⟩ := o_b hf
      refine V_callV (as := []) (st := [vI v4]) C ml_X7_183 fx5 (ct_X5_homeBits er16) rfl ⟨by decide, by decide, by decide, by decide⟩ (Nat.le_of_ble_eq_true rfl) rfl dX7_seasons_125 (cs' := 0) (sl' := 0) rfl rfl ?_
      obtain ⟨r17, er17, hf⟩ := o_b hf
      refine V_callS (as := [vI r16]) (st := [vI v4]) C ml_X7_186 (ct_J6_bitCount_0f7a4 er17) rfl ⟨by decide, by decide, by decide, by decide⟩ (Nat.le_of_ble_eq_true rfl) rfl dX7_seasons_128 (cs' := 0) (sl' := 0) rfl rfl ?_
      refine V_iadd C dX7_seasons_131 ?_
      refine V_istore (lv' := [(4, vI (v4 + r17)), (6, vI (hI h9 q10 6)), (0, vR 7 (some v0)), (1, vI v1), (2, vI v2), (3, vI v3), (5, vI v5), (7, vI v7)]) C dX7_seasons_132 (by decide) rfl ?_
      refine V_iload C dX7_seasons_134 6 rfl ?_
      refine V_aload_n C dX7_seasons_136 rfl 2 rfl ?_
      obtain ⟨q18, eq18, hf⟩ := o_b hf
      refine V_getR C fl_X7_23 rfl rfl (by decide) eq18 dX7_seasons_137 ?_
      refine V_getI C fl_X7_191 rfl dX7_seasons_140 ?_
      refine V_aload_n C dX7_seasons_143 rfl 2 rfl ?_
      obtain ⟨q19, eq19, hf⟩ := o_b hf
      refine V_getR C fl_X7_19 rfl rfl (by decide) eq19 dX7_seasons_144 ?_
      refine V_getI C fl_X7_191 rfl dX7_seasons_147 ?_
      refine V_isub C dX7_seasons_150 ?_
      refine V_iadd C dX7_seasons_151 ?_
      obtain ⟨y20, ey20, hf⟩ := o_l hf
      refine V_eqI ey20 ?_
      refine V_istore (lv' := [(5, vI y20), (4, vI (v4 + r17)), (6, vI (hI h9 q10 6)), (0, vR 7 (some v0)), (1, vI v1), (2, vI v2), (3, vI v3), (7, vI v7)]) C dX7_seasons_152 (by decide) rfl ?_
      refine V_iinc (lv' := [(7, vI (v7 + (1 : Int32))), (5, vI y20), (4, vI (v4 + r17)), (6, vI (hI h9 q10 6)), (0, vR 7 (some v0)), (1, vI v1), (2, vI v2), (3, vI v3)]) C dX7_seasons_154 7 rfl (congrArg (v7 + ·) (by decide : Int32.ofInt (1) = (1 : Int32))) (by decide) rfl ?_
      refine V_goto C 61 dX7_seasons_157 (by decide) ?_
      refine V_sub (lv' := [(0, vR 7 (some v0)), (1, vI v1), (2, vI v2), (3, vI v3), (4, vI (v4 + r17)), (5, vI y20), (6, vI (hI h9 q10 6)), (7, vI (v7 + (1 : Int32)))]) [4, 5, 6, 7, 2, 1, 3, 0] rfl ?_
      exact ih _ _ _ _ _ _ _ _ _ hf
def f_X7_seasons (N : Nat) (h : Hp) (v0 : Nat) (v1 : Int32) (v2 : Int32) (v3 : Int32) : Option (Int32 × Hp) := Option.bind (hP h v0 1) (fun q21 => if hI h q21 0 = 0 then (some (((-1 : Int32), h))) else (if v1 < (1 : Int32) then (some (((-1 : Int32), h))) else (if (20 : Int32) < v1 then (some (((-1 : Int32), h))) else (if v2 < (1 : Int32) then (some (((-1 : Int32), h))) else (if (99 : Int32) < v2 then (some (((-1 : Int32), h))) else (if v3 < 0 then (some (((-1 : Int32), h))) else (if v3 ≤ (1 : Int32) then (Option.bind (hP h v0 1) (fun q29 => f_X7_seasons_61 N N h v0 v1 v2 v3 (0 : Int32) (0 : Int32) (hI h q29 6) (0 : Int32))) else (some (((-1 : Int32), h))))))))))
set_option maxHeartbeats 4000000 in
set_option maxRecDepth 100000 in
theorem p_X7_seasons {X : XT} {r : Int32} {h' : Hp} (C : CX X cX7_seasons "WaterStair" 8 (some .int) rmX7_seasons) {N : Nat} {h : Hp} {v0 : Nat} {v1 : Int32} {v2 : Int32} {v3 : Int32} (hQ : QX X (some (vI r)) h' rmX7_seasons.cells rmX7_seasons.slots) (hf : f_X7_seasons N h v0 v1 v2 v3 = some ((r, h'))) : V X 0 0 h 0 [(0, vR 7 (some v0)), (1, vI v1), (2, vI v2), (3, vI v3)] [] := by
  unfold f_X7_seasons at hf
  refine V_aload_n C dX7_seasons_0 rfl 0 rfl ?_
  obtain ⟨q21, eq21, hf⟩ := o_b hf
  refine V_getR C fl_X7_19 rfl rfl (by decide) eq21 dX7_seasons_1 ?_
  refine V_getI C fl_X7_97 rfl dX7_seasons_4 ?_
  refine V_if_eq C 41 dX7_seasons_7 (by decide) (fun c22 => ?_) (fun c22 => ?_)
  · have hf := i_t c22 hf
    refine V_iconst (v := (-1 : Int32)) C dX7_seasons_41 (by decide) ?_
    obtain ⟨hf1, hf2⟩ := Prod.mk.inj (Option.some.inj hf)
    subst hf1
    subst hf2
    exact V_iret C hQ dX7_seasons_42
  · have hf := i_f c22 hf
    refine V_iload_n C dX7_seasons_10 rfl 1 rfl ?_
    refine V_iconst (v := (1 : Int32)) C dX7_seasons_11 (by decide) ?_
    refine V_icmp_lt C 41 dX7_seasons_12 (by decide) (fun c23 => ?_) (fun c23 => ?_)
    · have hf := i_t c23 hf
      refine V_iconst (v := (-1 : Int32)) C dX7_seasons_41 (by decide) ?_
      obtain ⟨hf1, hf2⟩ := Prod.mk.inj (Option.some.inj hf)
      subst hf1
      subst hf2
      exact V_iret C hQ dX7_seasons_42
    · have hf := i_f c23 hf
      refine V_iload_n C dX7_seasons_15 rfl 1 rfl ?_
      refine V_bipush (v := (20 : Int32)) C dX7_seasons_16 (by decide) ?_
      refine V_icmp_gt C 41 dX7_seasons_18 (by decide) (fun c24 => ?_) (fun c24 => ?_)
      · have hf := i_t c24 hf
        refine V_iconst (v := (-1 : Int32)) C dX7_seasons_41 (by decide) ?_
        obtain ⟨hf1, hf2⟩ := Prod.mk.inj (Option.some.inj hf)
        subst hf1
        subst hf2
        exact V_iret C hQ dX7_seasons_42
      · have hf := i_f c24 hf
        refine V_iload_n C dX7_seasons_21 rfl 2 rfl ?_
        refine V_iconst (v := (1 : Int32)) C dX7_seasons_22 (by decide) ?_
        refine V_icmp_lt C 41 dX7_seasons_23 (by decide) (fun c25 => ?_) (fun c25 => ?_)
        · have hf := i_t c25 hf
          refine V_iconst (v := (-1 : Int32)) C dX7_seasons_41 (by decide) ?_
          obtain ⟨hf1, hf2⟩ := Prod.mk.inj (Option.some.inj hf)
          subst hf1
          subst hf2
          exact V_iret C hQ dX7_seasons_42
        · have hf := i_f c25 hf
          refine V_iload_n C dX7_seasons_26 rfl 2 rfl ?_
          refine V_bipush (v := (99 : Int32)) C dX7_seasons_27 (by decide) ?_
          refine V_icmp_gt C 41 dX7_seasons_29 (by decide) (fun c26 => ?_) (fun c26 => ?_)
          · have hf := i_t c26 hf
            refine V_iconst (v := (-1 : Int32)) C dX7_seasons_41 (by decide) ?_
            obtain ⟨hf1, hf2⟩ := Prod.mk.inj (Option.some.inj hf)
            subst hf1
            subst hf2
            exact V_iret C hQ dX7_seasons_42
          · have hf := i_f c26 hf
            refine V_iload_n C dX7_seasons_32 rfl 3 rfl ?_
            refine V_if_lt C 41 dX7_seasons_33 (by decide) (fun c27 => ?_) (fun c27 => ?_)
            · have hf := i_t c27 hf
              refine V_iconst (v := (-1 : Int32)) C dX7_seasons_41 (by decide) ?_
              obtain ⟨hf1, hf2⟩ := Prod.mk.inj (Option.some.inj hf)
              subst hf1
              subst hf2
              exact V_iret C hQ dX7_seasons_42
            · have hf := i_f c27 hf
              refine V_iload_n C dX7_seasons_36 rfl 3 rfl ?_
              refine V_iconst (v := (1 : Int32)) C dX7_seasons_37 (by decide) ?_
              refine V_icmp_le C 43 dX7_seasons_38 (by decide) (fun c28 => ?_) (fun c28 => ?_)
              · have hf := i_t c28 hf
                refine V_iconst (v := (0 : Int32)) C dX7_seasons_43 (by decide) ?_
                refine V_istore (lv' := [(4, vI (0 : Int32)), (0, vR 7 (some v0)), (1, vI v1), (2, vI v2), (3, vI v3)]) C dX7_seasons_44 (by decide) rfl ?_
                refine V_iconst (v := (0 : Int32)) C dX7_seasons_46 (by decide) ?_
                refine V_istore (lv' := [(5, vI (0 : Int32)), (4, vI (0 : Int32)), (0, vR 7 (some v0)), (1, vI v1), (2, vI v2), (3, vI v3)]) C dX7_seasons_47 (by decide) rfl ?_
                refine V_aload_n C dX7_seasons_49 rfl 2 rfl ?_
                obtain ⟨q29, eq29, hf⟩ := o_b hf
                refine V_getR C fl_X7_19 rfl rfl (by decide) eq29 dX7_seasons_50 ?_
                refine V_getI C fl_X7_88 rfl dX7_seasons_53 ?_
                refine V_istore (lv' := [(6, vI (hI h q29 6)), (5, vI (0 : Int32)), (4, vI (0 : Int32)), (0, vR 7 (some v0)), (1, vI v1), (2, vI v2), (3, vI v3)]) C dX7_seasons_56 (by decide) rfl ?_
                refine V_iconst (v := (0 : Int32)) C dX7_seasons_58 (by decide) ?_
                refine V_istore (lv' := [(7, vI (0 : Int32)), (6, vI (hI h q29 6)), (5, vI (0 : Int32)), (4, vI (0 : Int32)), (0, vR 7 (some v0)), (1, vI v1), (2, vI v2), (3, vI v3)]) C dX7_seasons_59 (by decide) rfl ?_
                refine V_sub (lv' := [(0, vR 7 (some v0)), (1, vI v1), (2, vI v2), (3, vI v3), (4, vI (0 : Int32)), (5, vI (0 : Int32)), (6, vI (hI h q29 6)), (7, vI (0 : Int32))]) [4, 5, 6, 7, 3, 2, 1, 0] rfl ?_
                exact p_X7_seasons_61 C hQ N _ _ _ _ _ _ _ _ _ hf
              · have hf := i_f c28 hf
                refine V_iconst (v := (-1 : Int32)) C dX7_seasons_41 (by decide) ?_
                obtain ⟨hf1, hf2⟩ := Prod.mk.inj (Option.some.inj hf)
                subst hf1
                subst hf2
                exact V_iret C hQ dX7_seasons_42
theorem ct_X7_seasons {r : Int32} {h' : Hp} {N : Nat} {h : Hp} {v0 : Nat} {v1 : Int32} {v2 : Int32} {v3 : Int32} (hf : f_X7_seasons N h v0 v1 v2 v3 = some ((r, h'))) (l : Launch) (G : GT) : MC l G yX7_seasons cX7_seasons 8 (some .int) rmX7_seasons h [vR 7 (some v0), vI v1, vI v2, vI v3] (some (vI r)) h' := MC_of (by decide) rfl (Nat.le_of_ble_eq_true rfl) rfl (fun X C hQ hin => p_X7_seasons C hQ hf)
abbrev rmX7_count : Room := { frames := 3, cells := 0, slots := 0, locals := 64 }
def f_X7_count (N : Nat) (h : Hp) (v0 : Nat) (v1 : Int32) : Option (Int32) := if v1 = (0 : Int32) then (Option.bind (hP h v0 1) (fun q2 => some (hI h q2 0))) else if v1 = (1 : Int32) then (Option.bind (hP h v0 1) (fun q4 => some (hI h q4 1))) else if v1 = (2 : Int32) then (Option.bind (hP h v0 1) (fun q6 => Option.bind (f_X5_homeBits N h q6) (fun r7 => Option.bind (f_J6_bitCount_0f7a4 h r7) (fun r8 => some r8)))) else if v1 = (3 : Int32) then (Option.bind (hP h v0 1) (fun q10 => some (hI h q10 3))) else if v1 = (4 : Int32) then (Option.bind (hP h v0 1) (fun q12 => Option.bind (f_X5_allWater N h q12) (fun r13 => some r13))) else if v1 = (5 : Int32) then (Option.bind (hP h v0 1) (fun q15 => some (hI h q15 4))) else if v1 = (6 : Int32) then (some (hI h v0 5)) else if v1 = (7 : Int32) then (Option.bind (hP h v0 1) (fun q18 => some (hI h q18 5))) else if v1 = (8 : Int32) then (Option.bind (hP h v0 1) (fun q20 => some (hI h q20 2))) else if v1 = (9 : Int32) then (Option.bind (hP h v0 1) (fun q22 => some (hI h q22 7))) else if v1 = (10 : Int32) then (Option.bind (hP h v0 1) (fun q24 => Option.bind (f_X5_levelsSeen N h q24) (fun r25 => some r25))) else if v1 = (11 : Int32) then (Option.bind (hP h v0 1) (fun q27 => some (hI h q27 6))) else if v1 = (12 : Int32) then (Option.bind (hP h v0 0) (fun q29 => some (hI h q29 1))) else (some (-1 : Int32))
set_option maxHeartbeats 4000000 in
set_option maxRecDepth 100000 in
theorem p_X7_count {X : XT} {r : Int32} (C : CX X cX7_count "WaterStair" 2 (some .int) rmX7_count) {N : Nat} {h : Hp} {v0 : Nat} {v1 : Int32} (hQ : QX X (some (vI r)) h rmX7_count.cells rmX7_count.slots) (hf : f_X7_count N h v0 v1 = some r) : V X 0 0 h 0 [(0, vR 7 (some v0)), (1, vI v1)] [] := by
  unfold f_X7_count at hf
  refine V_iload_n C dX7_count_0 rfl 1 rfl ?_
  by_cases c1 : v1 = (0 : Int32)
  · have hf := i_t c1 hf
    refine V_tabIn (off := 67) C 68 dX7_count_1 (by rw [c1]; decide) (by rw [c1]; decide) (by rw [c1]; decide) (by decide) ?_
    refine V_aload_n C dX7_count_68 rfl 0 rfl ?_
    obtain ⟨q2, eq2, hf⟩ := o_b hf
    refine V_getR C fl_X7_19 rfl rfl (by decide) eq2 dX7_count_69 ?_
    refine V_getI C fl_X7_97 rfl dX7_count_72 ?_
    have hf := Option.some.inj hf
    subst hf
    exact V_iret C hQ dX7_count_75
  have hf := i_f c1 hf
  by_cases c3 : v1 = (1 : Int32)
  · have hf := i_t c3 hf
    refine V_tabIn (off := 75) C 76 dX7_count_1 (by rw [c3]; decide) (by rw [c3]; decide) (by rw [c3]; decide) (by decide) ?_
    refine V_aload_n C dX7_count_76 rfl 0 rfl ?_
    obtain ⟨q4, eq4, hf⟩ := o_b hf
    refine V_getR C fl_X7_19 rfl rfl (by decide) eq4 dX7_count_77 ?_
    refine V_getI C fl_X7_221 rfl dX7_count_80 ?_
    have hf := Option.some.inj hf
    subst hf
    exact V_iret C hQ dX7_count_83
  have hf := i_f c3 hf
  by_cases c5 : v1 = (2 : Int32)
  · have hf := i_t c5 hf
    refine V_tabIn (off := 83) C 84 dX7_count_1 (by rw [c5]; decide) (by rw [c5]; decide) (by rw [c5]; decide) (by decide) ?_
    refine V_aload_n C dX7_count_84 rfl 0 rfl ?_
    obtain ⟨q6, eq6, hf⟩ := o_b hf
    refine V_getR C fl_X7_19 rfl rfl (by decide) eq6 dX7_count_85 ?_
    obtain ⟨r7, er7, hf⟩ := o_b hf
    refine V_callV (as := []) (st := []) C ml_X7_183 fx5 (ct_X5_homeBits er7) rfl ⟨by decide, by decide, by decide, by decide⟩ (Nat.le_of_ble_eq_true rfl) rfl dX7_count_88 (cs' := 0) (sl' := 0) rfl rfl ?_
    obtain ⟨r8, er8, hf⟩ := o_b hf
    refine V_callS (as := [vI r7]) (st := []) C ml_X7_186 (ct_J6_bitCount_0f7a4 er8) rfl ⟨by decide, by decide, by decide, by decide⟩ (Nat.le_of_ble_eq_true rfl) rfl dX7_count_91 (cs' := 0) (sl' := 0) rfl rfl ?_
    have hf := Option.some.inj hf
    subst hf
    exact V_iret C hQ dX7_count_94
  have hf := i_f c5 hf
  by_cases c9 : v1 = (3 : Int32)
  · have hf := i_t c9 hf
    refine V_tabIn (off := 94) C 95 dX7_count_1 (by rw [c9]; decide) (by rw [c9]; decide) (by rw [c9]; decide) (by decide) ?_
    refine V_aload_n C dX7_count_95 rfl 0 rfl ?_
    obtain ⟨q10, eq10, hf⟩ := o_b hf
    refine V_getR C fl_X7_19 rfl rfl (by decide) eq10 dX7_count_96 ?_
    refine V_getI C fl_X7_265 rfl dX7_count_99 ?_
    have hf := Option.some.inj hf
    subst hf
    exact V_iret C hQ dX7_count_102
  have hf := i_f c9 hf
  by_cases c11 : v1 = (4 : Int32)
  · have hf := i_t c11 hf
    refine V_tabIn (off := 102) C 103 dX7_count_1 (by rw [c11]; decide) (by rw [c11]; decide) (by rw [c11]; decide) (by decide) ?_
    refine V_aload_n C dX7_count_103 rfl 0 rfl ?_
    obtain ⟨q12, eq12, hf⟩ := o_b hf
    refine V_getR C fl_X7_19 rfl rfl (by decide) eq12 dX7_count_104 ?_
    obtain ⟨r13, er13, hf⟩ := o_b hf
    refine V_callV (as := []) (st := []) C ml_X7_268 fx5 (ct_X5_allWater er13) rfl ⟨by decide, by decide, by decide, by decide⟩ (Nat.le_of_ble_eq_true rfl) rfl dX7_count_107 (cs' := 0) (sl' := 0) rfl rfl ?_
    have hf := Option.some.inj hf
    subst hf
    exact V_iret C hQ dX7_count_110
  have hf := i_f c11 hf
  by_cases c14 : v1 = (5 : Int32)
  · have hf := i_t c14 hf
    refine V_tabIn (off := 110) C 111 dX7_count_1 (by rw [c14]; decide) (by rw [c14]; decide) (by rw [c14]; decide) (by decide) ?_
    refine V_aload_n C dX7_count_111 rfl 0 rfl ?_
    obtain ⟨q15, eq15, hf⟩ := o_b hf
    refine V_getR C fl_X7_19 rfl rfl (by decide) eq15 dX7_count_112 ?_
    refine V_getI C fl_X7_191 rfl dX7_count_115 ?_
    have hf := Option.some.inj hf
    subst hf
    exact V_iret C hQ dX7_count_118
  have hf := i_f c14 hf
  by_cases c16 : v1 = (6 : Int32)
  · have hf := i_t c16 hf
    refine V_tabIn (off := 118) C 119 dX7_count_1 (by rw [c16]; decide) (by rw [c16]; decide) (by rw [c16]; decide) (by decide) ?_
    refine V_aload_n C dX7_count_119 rfl 0 rfl ?_
    refine V_getI C fl_X7_36 rfl dX7_count_120 ?_
    have hf := Option.some.inj hf
    subst hf
    exact V_iret C hQ dX7_count_123
  have hf := i_f c16 hf
  by_cases c17 : v1 = (7 : Int32)
  · have hf := i_t c17 hf
    refine V_tabIn (off := 123) C 124 dX7_count_1 (by rw [c17]; decide) (by rw [c17]; decide) (by rw [c17]; decide) (by decide) ?_
    refine V_aload_n C dX7_count_124 rfl 0 rfl ?_
    obtain ⟨q18, eq18, hf⟩ := o_b hf
    refine V_getR C fl_X7_19 rfl rfl (by decide) eq18 dX7_count_125 ?_
    refine V_getI C fl_X7_85 rfl dX7_count_128 ?_
    have hf := Option.some.inj hf
    subst hf
    exact V_iret C hQ dX7_count_131
  have hf := i_f c17 hf
  by_cases c19 : v1 = (8 : Int32)
  · have hf := i_t c19 hf
    refine V_tabIn (off := 131) C 132 dX7_count_1 (by rw [c19]; decide) (by rw [c19]; decide) (by rw [c19]; decide) (by decide) ?_
    refine V_aload_n C dX7_count_132 rfl 0 rfl ?_
    obtain ⟨q20, eq20, hf⟩ := o_b hf
    refine V_getR C fl_X7_19 rfl rfl (by decide) eq20 dX7_count_133 ?_
    refine V_getI C fl_X7_271 rfl dX7_count_136 ?_
    have hf := Option.some.inj hf
    subst hf
    exact V_iret C hQ dX7_count_139
  have hf := i_f c19 hf
  by_cases c21 : v1 = (9 : Int32)
  · have hf := i_t c21 hf
    refine V_tabIn (off := 139) C 140 dX7_count_1 (by rw [c21]; decide) (by rw [c21]; decide) (by rw [c21]; decide) (by decide) ?_
    refine V_aload_n C dX7_count_140 rfl 0 rfl ?_
    obtain ⟨q22, eq22, hf⟩ := o_b hf
    refine V_getR C fl_X7_19 rfl rfl (by decide) eq22 dX7_count_141 ?_
    refine V_getI C fl_X7_244 rfl dX7_count_144 ?_
    have hf := Option.some.inj hf
    subst hf
    exact V_iret C hQ dX7_count_147
  have hf := i_f c21 hf
  by_cases c23 : v1 = (10 : Int32)
  · have hf := i_t c23 hf
    refine V_tabIn (off := 147) C 148 dX7_count_1 (by rw [c23]; decide) (by rw [c23]; decide) (by rw [c23]; decide) (by decide) ?_
    refine V_aload_n C dX7_count_148 rfl 0 rfl ?_
    obtain ⟨q24, eq24, hf⟩ := o_b hf
    refine V_getR C fl_X7_19 rfl rfl (by decide) eq24 dX7_count_149 ?_
    obtain ⟨r25, er25, hf⟩ := o_b hf
    refine V_callV (as := []) (st := []) C ml_X7_274 fx5 (ct_X5_levelsSeen er25) rfl ⟨by decide, by decide, by decide, by decide⟩ (Nat.le_of_ble_eq_true rfl) rfl dX7_count_152 (cs' := 0) (sl' := 0) rfl rfl ?_
    have hf := Option.some.inj hf
    subst hf
    exact V_iret C hQ dX7_count_155
  have hf := i_f c23 hf
  by_cases c26 : v1 = (11 : Int32)
  · have hf := i_t c26 hf
    refine V_tabIn (off := 155) C 156 dX7_count_1 (by rw [c26]; decide) (by rw [c26]; decide) (by rw [c26]; decide) (by decide) ?_
    refine V_aload_n C dX7_count_156 rfl 0 rfl ?_
    obtain ⟨q27, eq27, hf⟩ := o_b hf
    refine V_getR C fl_X7_19 rfl rfl (by decide) eq27 dX7_count_157 ?_
    refine V_getI C fl_X7_88 rfl dX7_count_160 ?_
    have hf := Option.some.inj hf
    subst hf
    exact V_iret C hQ dX7_count_163
  have hf := i_f c26 hf
  by_cases c28 : v1 = (12 : Int32)
  · have hf := i_t c28 hf
    refine V_tabIn (off := 163) C 164 dX7_count_1 (by rw [c28]; decide) (by rw [c28]; decide) (by rw [c28]; decide) (by decide) ?_
    refine V_aload_n C dX7_count_164 rfl 0 rfl ?_
    obtain ⟨q29, eq29, hf⟩ := o_b hf
    refine V_getR C fl_X7_10 rfl rfl (by decide) eq29 dX7_count_165 ?_
    refine V_getI C fl_X7_74 rfl dX7_count_168 ?_
    have hf := Option.some.inj hf
    subst hf
    exact V_iret C hQ dX7_count_171
  have hf := i_f c28 hf
  refine V_tabOut C 172 dX7_count_1 (tab_o (fun z z1 z2 => ?_)) (by decide) ?_
  · rcases (show z = 0 ∨ z = 1 ∨ z = 2 ∨ z = 3 ∨ z = 4 ∨ z = 5 ∨ z = 6 ∨ z = 7 ∨ z = 8 ∨ z = 9 ∨ z = 10 ∨ z = 11 ∨ z = 12 by omega) with rfl | rfl | rfl | rfl | rfl | rfl | rfl | rfl | rfl | rfl | rfl | rfl | rfl
    · exact tab_n c1 (by decide)
    · exact tab_n c3 (by decide)
    · exact tab_n c5 (by decide)
    · exact tab_n c9 (by decide)
    · exact tab_n c11 (by decide)
    · exact tab_n c14 (by decide)
    · exact tab_n c16 (by decide)
    · exact tab_n c17 (by decide)
    · exact tab_n c19 (by decide)
    · exact tab_n c21 (by decide)
    · exact tab_n c23 (by decide)
    · exact tab_n c26 (by decide)
    · exact tab_n c28 (by decide)
  refine V_iconst (v := (-1 : Int32)) C dX7_count_172 (by decide) ?_
  have hf := Option.some.inj hf
  subst hf
  exact V_iret C hQ dX7_count_173
theorem ct_X7_count {r : Int32} {N : Nat} {h : Hp} {v0 : Nat} {v1 : Int32} (hf : f_X7_count N h v0 v1 = some r) (l : Launch) (G : GT) : MC l G yX7_count cX7_count 2 (some .int) rmX7_count h [vR 7 (some v0), vI v1] (some (vI r)) h := MC_of (by decide) rfl (Nat.le_of_ble_eq_true rfl) rfl (fun X C hQ hin => p_X7_count C hQ hf)
abbrev rmX7_image : Room := { frames := 2, cells := 12, slots := 107, locals := 85 }
def f_X7_image_33 (h : Hp) (v0 : Nat) (v1 : Int32) : Option (Int32 × Hp) := Option.bind (hP h v0 3) (fun q1 => if 0 ≤ v1 ∧ v1.toNatClampNeg < hL h q1 then (Option.bind (hP h q1 (v1.toNatClampNeg)) (fun q3 => Option.bind (hP h v0 1) (fun q4 => Option.bind (f_X5_copyFrom h q3 q4) (fun h5 => Option.bind (hP h5 v0 1) (fun q6 => some ((hI h5 q6 3, h5))))))) else none)
set_option maxHeartbeats 4000000 in
set_option maxRecDepth 100000 in
theorem p_X7_image_33 {X : XT} {r : Int32} {h' : Hp} (C : CX X cX7_image "WaterStair" 2 (some .int) rmX7_image) (hQ : QX X (some (vI r)) h' rmX7_image.cells rmX7_image.slots)  {h : Hp} {v0 : Nat} {v1 : Int32} (hf : f_X7_image_33 h v0 v1 = some ((r, h'))) : V X 12 107 h 33 [(0, vR 7 (some v0)), (1, vI v1)] [] := by
  unfold f_X7_image_33 at hf
  refine V_aload_n C dX7_image_33 rfl 0 rfl ?_
  obtain ⟨q1, eq1, hf⟩ := o_b hf
  refine V_getR C fl_X7_26 rfl rfl (by decide) eq1 dX7_image_34 ?_
  refine V_iload_n C dX7_image_37 rfl 1 rfl ?_
  obtain ⟨g2, hf⟩ := o_if hf
  refine V_stateld C (vp_g g2) rfl dX7_image_38 ?_
  obtain ⟨q3, eq3, hf⟩ := o_b hf
  refine V_eqR eq3 ?_
  refine V_aload_n C dX7_image_39 rfl 0 rfl ?_
  obtain ⟨q4, eq4, hf⟩ := o_b hf
  refine V_getR C fl_X7_19 rfl rfl (by decide) eq4 dX7_image_40 ?_
  obtain ⟨h5, eh5, hf⟩ := o_b hf
  refine V_callV (as := [vR 5 (some q4)]) (st := []) C ml_X7_91 fx5 (ct_X5_copyFrom eh5) rfl ⟨by decide, by decide, by decide, by decide⟩ (Nat.le_of_ble_eq_true rfl) rfl dX7_image_43 (cs' := 12) (sl' := 107) rfl rfl ?_
  refine V_aload_n C dX7_image_46 rfl 0 rfl ?_
  obtain ⟨q6, eq6, hf⟩ := o_b hf
  refine V_getR C fl_X7_19 rfl rfl (by decide) eq6 dX7_image_47 ?_
  refine V_getI C fl_X7_265 rfl dX7_image_50 ?_
  obtain ⟨hf1, hf2⟩ := Prod.mk.inj (Option.some.inj hf)
  subst hf1
  subst hf2
  exact V_iret C hQ dX7_image_53
def f_X7_image (h : Hp) (v0 : Nat) (v1 : Int32) : Option (Int32 × Hp) := if v1 < 0 then (some (((-1 : Int32), h))) else (if v1 < (4 : Int32) then (Option.bind (hP h v0 3) (fun q9 => if 0 ≤ v1 ∧ v1.toNatClampNeg < hL h q9 then (if hP h q9 (v1.toNatClampNeg) = none then (Option.bind (hP h v0 3) (fun q12 => lt (nO h 5 0) (fun h13 => Option.bind (f_X5_init h13 (hN h)) (fun h14 => if 0 ≤ v1 ∧ v1.toNatClampNeg < hL h14 q12 then (lt (sP h14 q12 (v1.toNatClampNeg) (some (hN h))) (fun h16 => f_X7_image_33 h16 v0 v1)) else none)))) else (f_X7_image_33 h v0 v1)) else none)) else (some (((-1 : Int32), h))))
set_option maxHeartbeats 4000000 in
set_option maxRecDepth 100000 in
theorem p_X7_image {X : XT} {r : Int32} {h' : Hp} (C : CX X cX7_image "WaterStair" 2 (some .int) rmX7_image) {h : Hp} {v0 : Nat} {v1 : Int32} (hQ : QX X (some (vI r)) h' rmX7_image.cells rmX7_image.slots) (hf : f_X7_image h v0 v1 = some ((r, h'))) : V X 0 0 h 0 [(0, vR 7 (some v0)), (1, vI v1)] [] := by
  unfold f_X7_image at hf
  refine V_iload_n C dX7_image_0 rfl 1 rfl ?_
  refine V_if_lt C 9 dX7_image_1 (by decide) (fun c7 => ?_) (fun c7 => ?_)
  · have hf := i_t c7 hf
    refine V_iconst (v := (-1 : Int32)) C dX7_image_9 (by decide) ?_
    refine V_wide (cs' := rmX7_image.cells) (sl' := rmX7_image.slots) (by decide) (by decide) ?_
    obtain ⟨hf1, hf2⟩ := Prod.mk.inj (Option.some.inj hf)
    subst hf1
    subst hf2
    exact V_iret C hQ dX7_image_10
  · have hf := i_f c7 hf
    refine V_iload_n C dX7_image_4 rfl 1 rfl ?_
    refine V_iconst (v := (4 : Int32)) C dX7_image_5 (by decide) ?_
    refine V_icmp_lt C 11 dX7_image_6 (by decide) (fun c8 => ?_) (fun c8 => ?_)
    · have hf := i_t c8 hf
      refine V_aload_n C dX7_image_11 rfl 0 rfl ?_
      obtain ⟨q9, eq9, hf⟩ := o_b hf
      refine V_getR C fl_X7_26 rfl rfl (by decide) eq9 dX7_image_12 ?_
      refine V_iload_n C dX7_image_15 rfl 1 rfl ?_
      obtain ⟨g10, hf⟩ := o_if hf
      refine V_stateld C (vp_g g10) rfl dX7_image_16 ?_
      refine V_ifnonnull C (by decide) 33 dX7_image_17 (by decide) (fun wc11 c11 => ?_) (fun c11 => ?_)
      · have hf := i_f (fun z => by rw [c11] at z; cases z) hf
        refine V_wide (cs' := 12) (sl' := 107) (by decide) (by decide) ?_
        refine V_sub (lv' := [(0, vR 7 (some v0)), (1, vI v1)]) [0, 1] rfl ?_
        exact p_X7_image_33 C hQ hf
      · have hf := i_t c11 hf
        refine V_aload_n C dX7_image_20 rfl 0 rfl ?_
        obtain ⟨q12, eq12, hf⟩ := o_b hf
        refine V_getR C fl_X7_26 rfl rfl (by decide) eq12 dX7_image_21 ?_
        refine V_iload_n C dX7_image_24 rfl 1 rfl ?_
        obtain ⟨h13, eh13, hf⟩ := o_l hf
        refine V_new C nl_X7_16 (by decide) (by decide) dX7_image_25 (V_eqH eh13 ?_)
        refine V_dup C dX7_image_28 rfl ?_
        obtain ⟨h14, eh14, hf⟩ := o_b hf
        refine V_callN (as := []) (st := [vR 5 (some (hN h)), vI v1, vR 14 (some q12)]) C ml_X7_18 (by decide) (ct_X5_init eh14) rfl ⟨by decide, by decide, by decide, by decide⟩ (Nat.le_of_ble_eq_true rfl) rfl dX7_image_29 (cs' := 12) (sl' := 107) rfl rfl ?_
        obtain ⟨g15, hf⟩ := o_if hf
        obtain ⟨h16, eh16, hf⟩ := o_l hf
        refine V_statest C (vp_g g15) rfl dX7_image_32 (V_eqH eh16 ?_)
        refine V_sub (lv' := [(0, vR 7 (some v0)), (1, vI v1)]) [0, 1] rfl ?_
        exact p_X7_image_33 C hQ hf
    · have hf := i_f c8 hf
      refine V_iconst (v := (-1 : Int32)) C dX7_image_9 (by decide) ?_
      refine V_wide (cs' := rmX7_image.cells) (sl' := rmX7_image.slots) (by decide) (by decide) ?_
      obtain ⟨hf1, hf2⟩ := Prod.mk.inj (Option.some.inj hf)
      subst hf1
      subst hf2
      exact V_iret C hQ dX7_image_10
theorem ct_X7_image {r : Int32} {h' : Hp} {h : Hp} {v0 : Nat} {v1 : Int32} (hf : f_X7_image h v0 v1 = some ((r, h'))) (l : Launch) (G : GT) : MC l G yX7_image cX7_image 2 (some .int) rmX7_image h [vR 7 (some v0), vI v1] (some (vI r)) h' := MC_of (by decide) rfl (Nat.le_of_ble_eq_true rfl) rfl (fun X C hQ hin => p_X7_image C hQ hf)
abbrev rmX7_back : Room := { frames := 2, cells := 0, slots := 0, locals := 85 }
def f_X7_back (h : Hp) (v0 : Nat) (v1 : Int32) : Option (Int32 × Hp) := if v1 < 0 then (some (((-1 : Int32), h))) else (if (4 : Int32) ≤ v1 then (some (((-1 : Int32), h))) else (Option.bind (hP h v0 3) (fun q3 => if 0 ≤ v1 ∧ v1.toNatClampNeg < hL h q3 then (if hP h q3 (v1.toNatClampNeg) = none then (some (((-1 : Int32), h))) else (Option.bind (hP h v0 1) (fun q6 => Option.bind (hP h v0 3) (fun q7 => if 0 ≤ v1 ∧ v1.toNatClampNeg < hL h q7 then (Option.bind (hP h q7 (v1.toNatClampNeg)) (fun q9 => Option.bind (f_X5_copyFrom h q6 q9) (fun h10 => Option.bind (hP h10 v0 8) (fun q11 => Option.bind (f_X3_forget h10 q11) (fun h12 => Option.bind (hP h12 v0 1) (fun q13 => some ((hI h12 q13 3, h12)))))))) else none)))) else none)))
set_option maxHeartbeats 4000000 in
set_option maxRecDepth 100000 in
theorem p_X7_back {X : XT} {r : Int32} {h' : Hp} (C : CX X cX7_back "WaterStair" 2 (some .int) rmX7_back) {h : Hp} {v0 : Nat} {v1 : Int32} (hQ : QX X (some (vI r)) h' rmX7_back.cells rmX7_back.slots) (hf : f_X7_back h v0 v1 = some ((r, h'))) : V X 0 0 h 0 [(0, vR 7 (some v0)), (1, vI v1)] [] := by
  unfold f_X7_back at hf
  refine V_iload_n C dX7_back_0 rfl 1 rfl ?_
  refine V_if_lt C 18 dX7_back_1 (by decide) (fun c1 => ?_) (fun c1 => ?_)
  · have hf := i_t c1 hf
    refine V_iconst (v := (-1 : Int32)) C dX7_back_18 (by decide) ?_
    obtain ⟨hf1, hf2⟩ := Prod.mk.inj (Option.some.inj hf)
    subst hf1
    subst hf2
    exact V_iret C hQ dX7_back_19
  · have hf := i_f c1 hf
    refine V_iload_n C dX7_back_4 rfl 1 rfl ?_
    refine V_iconst (v := (4 : Int32)) C dX7_back_5 (by decide) ?_
    refine V_icmp_ge C 18 dX7_back_6 (by decide) (fun c2 => ?_) (fun c2 => ?_)
    · have hf := i_t c2 hf
      refine V_iconst (v := (-1 : Int32)) C dX7_back_18 (by decide) ?_
      obtain ⟨hf1, hf2⟩ := Prod.mk.inj (Option.some.inj hf)
      subst hf1
      subst hf2
      exact V_iret C hQ dX7_back_19
    · have hf := i_f c2 hf
      refine V_aload_n C dX7_back_9 rfl 0 rfl ?_
      obtain ⟨q3, eq3, hf⟩ := o_b hf
      refine V_getR C fl_X7_26 rfl rfl (by decide) eq3 dX7_back_10 ?_
      refine V_iload_n C dX7_back_13 rfl 1 rfl ?_
      obtain ⟨g4, hf⟩ := o_if hf
      refine V_stateld C (vp_g g4) rfl dX7_back_14 ?_
      refine V_ifnonnull C (by decide) 20 dX7_back_15 (by decide) (fun wc5 c5 => ?_) (fun c5 => ?_)
      · have hf := i_f (fun z => by rw [c5] at z; cases z) hf
        refine V_aload_n C dX7_back_20 rfl 0 rfl ?_
        obtain ⟨q6, eq6, hf⟩ := o_b hf
        refine V_getR C fl_X7_19 rfl rfl (by decide) eq6 dX7_back_21 ?_
        refine V_aload_n C dX7_back_24 rfl 0 rfl ?_
        obtain ⟨q7, eq7, hf⟩ := o_b hf
        refine V_getR C fl_X7_26 rfl rfl (by decide) eq7 dX7_back_25 ?_
        refine V_iload_n C dX7_back_28 rfl 1 rfl ?_
        obtain ⟨g8, hf⟩ := o_if hf
        refine V_stateld C (vp_g g8) rfl dX7_back_29 ?_
        obtain ⟨q9, eq9, hf⟩ := o_b hf
        refine V_eqR eq9 ?_
        obtain ⟨h10, eh10, hf⟩ := o_b hf
        refine V_callV (as := [vR 5 (some q9)]) (st := []) C ml_X7_91 fx5 (ct_X5_copyFrom eh10) rfl ⟨by decide, by decide, by decide, by decide⟩ (Nat.le_of_ble_eq_true rfl) rfl dX7_back_30 (cs' := 0) (sl' := 0) rfl rfl ?_
        refine V_aload_n C dX7_back_33 rfl 0 rfl ?_
        obtain ⟨q11, eq11, hf⟩ := o_b hf
        refine V_getR C fl_X7_63 rfl rfl (by decide) eq11 dX7_back_34 ?_
        obtain ⟨h12, eh12, hf⟩ := o_b hf
        refine V_callV (as := []) (st := []) C ml_X7_94 fx3 (ct_X3_forget eh12) rfl ⟨by decide, by decide, by decide, by decide⟩ (Nat.le_of_ble_eq_true rfl) rfl dX7_back_37 (cs' := 0) (sl' := 0) rfl rfl ?_
        refine V_aload_n C dX7_back_40 rfl 0 rfl ?_
        obtain ⟨q13, eq13, hf⟩ := o_b hf
        refine V_getR C fl_X7_19 rfl rfl (by decide) eq13 dX7_back_41 ?_
        refine V_getI C fl_X7_265 rfl dX7_back_44 ?_
        obtain ⟨hf1, hf2⟩ := Prod.mk.inj (Option.some.inj hf)
        subst hf1
        subst hf2
        exact V_iret C hQ dX7_back_47
      · have hf := i_t c5 hf
        refine V_iconst (v := (-1 : Int32)) C dX7_back_18 (by decide) ?_
        obtain ⟨hf1, hf2⟩ := Prod.mk.inj (Option.some.inj hf)
        subst hf1
        subst hf2
        exact V_iret C hQ dX7_back_19
theorem ct_X7_back {r : Int32} {h' : Hp} {h : Hp} {v0 : Nat} {v1 : Int32} (hf : f_X7_back h v0 v1 = some ((r, h'))) (l : Launch) (G : GT) : MC l G yX7_back cX7_back 2 (some .int) rmX7_back h [vR 7 (some v0), vI v1] (some (vI r)) h' := MC_of (by decide) rfl (Nat.le_of_ble_eq_true rfl) rfl (fun X C hQ hin => p_X7_back C hQ hf)
