abbrev rmX8_init : Room := { frames := 1, cells := 25, slots := 38508, locals := 20 }
def f_X8_init (h : Hp) (v0 : Nat) : Option (Hp) := lt (nO h 9 400) (fun h1 => lt (sP h1 v0 0 (some (hN h))) (fun h2 => lt (nO h2 10 2400) (fun h3 => lt (sP h3 v0 3 (some (hN h2))) (fun h4 => lt (nO h4 10 7) (fun h5 => lt (sP h5 v0 4 (some (hN h4))) (fun h6 => lt (nO h6 10 144) (fun h7 => lt (sP h7 v0 5 (some (hN h6))) (fun h8 => lt (nO h8 10 6) (fun h9 => lt (sP h9 v0 6 (some (hN h8))) (fun h10 => lt (nO h10 10 16) (fun h11 => lt (sP h11 v0 12 (some (hN h10))) (fun h12 => lt (nO h12 10 24) (fun h13 => lt (sP h13 v0 13 (some (hN h12))) (fun h14 => lt (nO h14 10 400) (fun h15 => lt (sP h15 v0 21 (some (hN h14))) (fun h16 => lt (nO h16 11 64) (fun h17 => lt (sP h17 v0 23 (some (hN h16))) (fun h18 => lt (nO h18 11 10) (fun h19 => lt (sP h19 v0 25 (some (hN h18))) (fun h20 => lt (nO h20 10 93) (fun h21 => lt (sP h21 v0 26 (some (hN h20))) (fun h22 => lt (nO h22 10 93) (fun h23 => lt (sP h23 v0 27 (some (hN h22))) (fun h24 => lt (nO h24 10 21000) (fun h25 => lt (sP h25 v0 28 (some (hN h24))) (fun h26 => lt (nO h26 10 1500) (fun h27 => lt (sP h27 v0 29 (some (hN h26))) (fun h28 => lt (nO h28 10 1500) (fun h29 => lt (sP h29 v0 30 (some (hN h28))) (fun h30 => lt (nO h30 10 1500) (fun h31 => lt (sP h31 v0 31 (some (hN h30))) (fun h32 => lt (nO h32 12 1500) (fun h33 => lt (sP h33 v0 32 (some (hN h32))) (fun h34 => lt (nO h34 10 1500) (fun h35 => lt (sP h35 v0 33 (some (hN h34))) (fun h36 => lt (nO h36 10 1500) (fun h37 => lt (sP h37 v0 34 (some (hN h36))) (fun h38 => lt (nO h38 10 4096) (fun h39 => lt (sP h39 v0 35 (some (hN h38))) (fun h40 => lt (nO h40 10 372) (fun h41 => lt (sP h41 v0 39 (some (hN h40))) (fun h42 => lt (nO h42 10 4) (fun h43 => lt (sP h43 v0 40 (some (hN h42))) (fun h44 => lt (nO h44 10 3) (fun h45 => lt (sP h45 v0 41 (some (hN h44))) (fun h46 => lt (nO h46 10 372) (fun h47 => lt (sP h47 v0 42 (some (hN h46))) (fun h48 => lt (nO h48 12 4) (fun h49 => lt (sP h49 v0 43 (some (hN h48))) (fun h50 => Option.bind (hP h50 v0 26) (fun q51 => if 8 < hL h50 q51 then (lt (sI h50 q51 (8) (-1 : Int32)) (fun h53 => some h53)) else none)))))))))))))))))))))))))))))))))))))))))))))))))))
set_option maxHeartbeats 4000000 in
set_option maxRecDepth 100000 in
theorem p_X8_init {X : XT} {h' : Hp} (C : CX X cX8_init "WaterStairModel" 1 none rmX8_init) (hin : X.2.2.2.2.2.2.2.2.1.name = "<init>") {h : Hp} {v0 : Nat} (hQ : QX X none h' rmX8_init.cells rmX8_init.slots) (hf : f_X8_init h v0 = some h') : V X 0 0 h 0 [(0, vR 8 (some v0))] [] := by
  unfold f_X8_init at hf
  refine V_aload_n C dX8_init_0 rfl 0 rfl ?_
  refine V_obj C (by decide) ob_X8_1 ob_i ob_c (by decide) (by decide) dX8_init_1 ?_
  refine V_aload_n C dX8_init_4 rfl 0 rfl ?_
  refine V_sipush (v := (400 : Int32)) C dX8_init_5 (by decide) ?_
  obtain ⟨h1, eh1, hf⟩ := o_l hf
  refine V_newb C (by decide) (by decide : Int32.toNatClampNeg (400 : Int32) = 400) (by decide) kA9 (by decide) (by decide) dX8_init_8 (V_eqH eh1 ?_)
  obtain ⟨h2, eh2, hf⟩ := o_l hf
  refine V_putR C hin ff_X8_7 rfl (fun _ => ⟨rfl, rfl⟩) rfl (by decide) dX8_init_10 (V_eqH eh2 ?_)
  refine V_aload_n C dX8_init_13 rfl 0 rfl ?_
  refine V_sipush (v := (2400 : Int32)) C dX8_init_14 (by decide) ?_
  obtain ⟨h3, eh3, hf⟩ := o_l hf
  refine V_newi C (by decide) (by decide : Int32.toNatClampNeg (2400 : Int32) = 2400) (by decide) kA10 (by decide) (by decide) dX8_init_17 (V_eqH eh3 ?_)
  obtain ⟨h4, eh4, hf⟩ := o_l hf
  refine V_putR C hin ff_X8_13 rfl (fun _ => ⟨rfl, rfl⟩) rfl (by decide) dX8_init_19 (V_eqH eh4 ?_)
  refine V_aload_n C dX8_init_22 rfl 0 rfl ?_
  refine V_bipush (v := (7 : Int32)) C dX8_init_23 (by decide) ?_
  obtain ⟨h5, eh5, hf⟩ := o_l hf
  refine V_newi C (by decide) (by decide : Int32.toNatClampNeg (7 : Int32) = 7) (by decide) kA10 (by decide) (by decide) dX8_init_25 (V_eqH eh5 ?_)
  obtain ⟨h6, eh6, hf⟩ := o_l hf
  refine V_putR C hin ff_X8_17 rfl (fun _ => ⟨rfl, rfl⟩) rfl (by decide) dX8_init_27 (V_eqH eh6 ?_)
  refine V_aload_n C dX8_init_30 rfl 0 rfl ?_
  refine V_sipush (v := (144 : Int32)) C dX8_init_31 (by decide) ?_
  obtain ⟨h7, eh7, hf⟩ := o_l hf
  refine V_newi C (by decide) (by decide : Int32.toNatClampNeg (144 : Int32) = 144) (by decide) kA10 (by decide) (by decide) dX8_init_34 (V_eqH eh7 ?_)
  obtain ⟨h8, eh8, hf⟩ := o_l hf
  refine V_putR C hin ff_X8_20 rfl (fun _ => ⟨rfl, rfl⟩) rfl (by decide) dX8_init_36 (V_eqH eh8 ?_)
  refine V_aload_n C dX8_init_39 rfl 0 rfl ?_
  refine V_bipush (v := (6 : Int32)) C dX8_init_40 (by decide) ?_
  obtain ⟨h9, eh9, hf⟩ := o_l hf
  refine V_newi C (by decide) (by decide : Int32.toNatClampNeg (6 : Int32) = 6) (by decide) kA10 (by decide) (by decide) dX8_init_42 (V_eqH eh9 ?_)
  obtain ⟨h10, eh10, hf⟩ := o_l hf
  refine V_putR C hin ff_X8_23 rfl (fun _ => ⟨rfl, rfl⟩) rfl (by decide) dX8_init_44 (V_eqH eh10 ?_)
  refine V_aload_n C dX8_init_47 rfl 0 rfl ?_
  refine V_bipush (v := (16 : Int32)) C dX8_init_48 (by decide) ?_
  obtain ⟨h11, eh11, hf⟩ := o_l hf
  refine V_newi C (by decide) (by decide : Int32.toNatClampNeg (16 : Int32) = 16) (by decide) kA10 (by decide) (by decide) dX8_init_50 (V_eqH eh11 ?_)
  obtain ⟨h12, eh12, hf⟩ := o_l hf
  refine V_putR C hin ff_X8_26 rfl (fun _ => ⟨rfl, rfl⟩) rfl (by decide) dX8_init_52 (V_eqH eh12 ?_)
  refine V_aload_n C dX8_init_55 rfl 0 rfl ?_
  refine V_bipush (v := (24 : Int32)) C dX8_init_56 (by decide) ?_
  obtain ⟨h13, eh13, hf⟩ := o_l hf
  refine V_newi C (by decide) (by decide : Int32.toNatClampNeg (24 : Int32) = 24) (by decide) kA10 (by decide) (by decide) dX8_init_58 (V_eqH eh13 ?_)
  obtain ⟨h14, eh14, hf⟩ := o_l hf
  refine V_putR C hin ff_X8_29 rfl (fun _ => ⟨rfl, rfl⟩) rfl (by decide) dX8_init_60 (V_eqH eh14 ?_)
  refine V_aload_n C dX8_init_63 rfl 0 rfl ?_
  refine V_sipush (v := (400 : Int32)) C dX8_init_64 (by decide) ?_
  obtain ⟨h15, eh15, hf⟩ := o_l hf
  refine V_newi C (by decide) (by decide : Int32.toNatClampNeg (400 : Int32) = 400) (by decide) kA10 (by decide) (by decide) dX8_init_67 (V_eqH eh15 ?_)
  obtain ⟨h16, eh16, hf⟩ := o_l hf
  refine V_putR C hin ff_X8_32 rfl (fun _ => ⟨rfl, rfl⟩) rfl (by decide) dX8_init_69 (V_eqH eh16 ?_)
  refine V_aload_n C dX8_init_72 rfl 0 rfl ?_
  refine V_bipush (v := (64 : Int32)) C dX8_init_73 (by decide) ?_
  obtain ⟨h17, eh17, hf⟩ := o_l hf
  refine V_newl C (by decide) (by decide : Int32.toNatClampNeg (64 : Int32) = 64) (by decide) kA11 (by decide) (by decide) dX8_init_75 (V_eqH eh17 ?_)
  obtain ⟨h18, eh18, hf⟩ := o_l hf
  refine V_putR C hin ff_X8_35 rfl (fun _ => ⟨rfl, rfl⟩) rfl (by decide) dX8_init_77 (V_eqH eh18 ?_)
  refine V_aload_n C dX8_init_80 rfl 0 rfl ?_
  refine V_bipush (v := (10 : Int32)) C dX8_init_81 (by decide) ?_
  obtain ⟨h19, eh19, hf⟩ := o_l hf
  refine V_newl C (by decide) (by decide : Int32.toNatClampNeg (10 : Int32) = 10) (by decide) kA11 (by decide) (by decide) dX8_init_83 (V_eqH eh19 ?_)
  obtain ⟨h20, eh20, hf⟩ := o_l hf
  refine V_putR C hin ff_X8_39 rfl (fun _ => ⟨rfl, rfl⟩) rfl (by decide) dX8_init_85 (V_eqH eh20 ?_)
  refine V_aload_n C dX8_init_88 rfl 0 rfl ?_
  refine V_bipush (v := (93 : Int32)) C dX8_init_89 (by decide) ?_
  obtain ⟨h21, eh21, hf⟩ := o_l hf
  refine V_newi C (by decide) (by decide : Int32.toNatClampNeg (93 : Int32) = 93) (by decide) kA10 (by decide) (by decide) dX8_init_91 (V_eqH eh21 ?_)
  obtain ⟨h22, eh22, hf⟩ := o_l hf
  refine V_putR C hin ff_X8_42 rfl (fun _ => ⟨rfl, rfl⟩) rfl (by decide) dX8_init_93 (V_eqH eh22 ?_)
  refine V_aload_n C dX8_init_96 rfl 0 rfl ?_
  refine V_bipush (v := (93 : Int32)) C dX8_init_97 (by decide) ?_
  obtain ⟨h23, eh23, hf⟩ := o_l hf
  refine V_newi C (by decide) (by decide : Int32.toNatClampNeg (93 : Int32) = 93) (by decide) kA10 (by decide) (by decide) dX8_init_99 (V_eqH eh23 ?_)
  obtain ⟨h24, eh24, hf⟩ := o_l hf
  refine V_putR C hin ff_X8_45 rfl (fun _ => ⟨rfl, rfl⟩) rfl (by decide) dX8_init_101 (V_eqH eh24 ?_)
  refine V_aload_n C dX8_init_104 rfl 0 rfl ?_
  refine V_sipush (v := (21000 : Int32)) C dX8_init_105 (by decide) ?_
  obtain ⟨h25, eh25, hf⟩ := o_l hf
  refine V_newi C (by decide) (by decide : Int32.toNatClampNeg (21000 : Int32) = 21000) (by decide) kA10 (by decide) (by decide) dX8_init_108 (V_eqH eh25 ?_)
  obtain ⟨h26, eh26, hf⟩ := o_l hf
  refine V_putR C hin ff_X8_48 rfl (fun _ => ⟨rfl, rfl⟩) rfl (by decide) dX8_init_110 (V_eqH eh26 ?_)
  refine V_aload_n C dX8_init_113 rfl 0 rfl ?_
  refine V_sipush (v := (1500 : Int32)) C dX8_init_114 (by decide) ?_
  obtain ⟨h27, eh27, hf⟩ := o_l hf
  refine V_newi C (by decide) (by decide : Int32.toNatClampNeg (1500 : Int32) = 1500) (by decide) kA10 (by decide) (by decide) dX8_init_117 (V_eqH eh27 ?_)
  obtain ⟨h28, eh28, hf⟩ := o_l hf
  refine V_putR C hin ff_X8_51 rfl (fun _ => ⟨rfl, rfl⟩) rfl (by decide) dX8_init_119 (V_eqH eh28 ?_)
  refine V_aload_n C dX8_init_122 rfl 0 rfl ?_
  refine V_sipush (v := (1500 : Int32)) C dX8_init_123 (by decide) ?_
  obtain ⟨h29, eh29, hf⟩ := o_l hf
  refine V_newi C (by decide) (by decide : Int32.toNatClampNeg (1500 : Int32) = 1500) (by decide) kA10 (by decide) (by decide) dX8_init_126 (V_eqH eh29 ?_)
  obtain ⟨h30, eh30, hf⟩ := o_l hf
  refine V_putR C hin ff_X8_54 rfl (fun _ => ⟨rfl, rfl⟩) rfl (by decide) dX8_init_128 (V_eqH eh30 ?_)
  refine V_aload_n C dX8_init_131 rfl 0 rfl ?_
  refine V_sipush (v := (1500 : Int32)) C dX8_init_132 (by decide) ?_
  obtain ⟨h31, eh31, hf⟩ := o_l hf
  refine V_newi C (by decide) (by decide : Int32.toNatClampNeg (1500 : Int32) = 1500) (by decide) kA10 (by decide) (by decide) dX8_init_135 (V_eqH eh31 ?_)
  obtain ⟨h32, eh32, hf⟩ := o_l hf
  refine V_putR C hin ff_X8_57 rfl (fun _ => ⟨rfl, rfl⟩) rfl (by decide) dX8_init_137 (V_eqH eh32 ?_)
  refine V_aload_n C dX8_init_140 rfl 0 rfl ?_
  refine V_sipush (v := (1500 : Int32)) C dX8_init_141 (by decide) ?_
  obtain ⟨h33, eh33, hf⟩ := o_l hf
  refine V_newz C (by decide) (by decide : Int32.toNatClampNeg (1500 : Int32) = 1500) (by decide) kA12 (by decide) (by decide) dX8_init_144 (V_eqH eh33 ?_)
  obtain ⟨h34, eh34, hf⟩ := o_l hf
  refine V_putR C hin ff_X8_60 rfl (fun _ => ⟨rfl, rfl⟩) rfl (by decide) dX8_init_146 (V_eqH eh34 ?_)
  refine V_aload_n C dX8_init_149 rfl 0 rfl ?_
  refine V_sipush (v := (1500 : Int32)) C dX8_init_150 (by decide) ?_
  obtain ⟨h35, eh35, hf⟩ := o_l hf
  refine V_newi C (by decide) (by decide : Int32.toNatClampNeg (1500 : Int32) = 1500) (by decide) kA10 (by decide) (by decide) dX8_init_153 (V_eqH eh35 ?_)
  obtain ⟨h36, eh36, hf⟩ := o_l hf
  refine V_putR C hin ff_X8_64 rfl (fun _ => ⟨rfl, rfl⟩) rfl (by decide) dX8_init_155 (V_eqH eh36 ?_)
  refine V_aload_n C dX8_init_158 rfl 0 rfl ?_
  refine V_sipush (v := (1500 : Int32)) C dX8_init_159 (by decide) ?_
  obtain ⟨h37, eh37, hf⟩ := o_l hf
  refine V_newi C (by decide) (by decide : Int32.toNatClampNeg (1500 : Int32) = 1500) (by decide) kA10 (by decide) (by decide) dX8_init_162 (V_eqH eh37 ?_)
  obtain ⟨h38, eh38, hf⟩ := o_l hf
  refine V_putR C hin ff_X8_67 rfl (fun _ => ⟨rfl, rfl⟩) rfl (by decide) dX8_init_164 (V_eqH eh38 ?_)
  refine V_aload_n C dX8_init_167 rfl 0 rfl ?_
  refine V_sipush (v := (4096 : Int32)) C dX8_init_168 (by decide) ?_
  obtain ⟨h39, eh39, hf⟩ := o_l hf
  refine V_newi C (by decide) (by decide : Int32.toNatClampNeg (4096 : Int32) = 4096) (by decide) kA10 (by decide) (by decide) dX8_init_171 (V_eqH eh39 ?_)
  obtain ⟨h40, eh40, hf⟩ := o_l hf
  refine V_putR C hin ff_X8_70 rfl (fun _ => ⟨rfl, rfl⟩) rfl (by decide) dX8_init_173 (V_eqH eh40 ?_)
  refine V_aload_n C dX8_init_176 rfl 0 rfl ?_
  refine V_sipush (v := (372 : Int32)) C dX8_init_177 (by decide) ?_
  obtain ⟨h41, eh41, hf⟩ := o_l hf
  refine V_newi C (by decide) (by decide : Int32.toNatClampNeg (372 : Int32) = 372) (by decide) kA10 (by decide) (by decide) dX8_init_180 (V_eqH eh41 ?_)
  obtain ⟨h42, eh42, hf⟩ := o_l hf
  refine V_putR C hin ff_X8_73 rfl (fun _ => ⟨rfl, rfl⟩) rfl (by decide) dX8_init_182 (V_eqH eh42 ?_)
  refine V_aload_n C dX8_init_185 rfl 0 rfl ?_
  refine V_iconst (v := (4 : Int32)) C dX8_init_186 (by decide) ?_
  obtain ⟨h43, eh43, hf⟩ := o_l hf
  refine V_newi C (by decide) (by decide : Int32.toNatClampNeg (4 : Int32) = 4) (by decide) kA10 (by decide) (by decide) dX8_init_187 (V_eqH eh43 ?_)
  obtain ⟨h44, eh44, hf⟩ := o_l hf
  refine V_putR C hin ff_X8_76 rfl (fun _ => ⟨rfl, rfl⟩) rfl (by decide) dX8_init_189 (V_eqH eh44 ?_)
  refine V_aload_n C dX8_init_192 rfl 0 rfl ?_
  refine V_iconst (v := (3 : Int32)) C dX8_init_193 (by decide) ?_
  obtain ⟨h45, eh45, hf⟩ := o_l hf
  refine V_newi C (by decide) (by decide : Int32.toNatClampNeg (3 : Int32) = 3) (by decide) kA10 (by decide) (by decide) dX8_init_194 (V_eqH eh45 ?_)
  obtain ⟨h46, eh46, hf⟩ := o_l hf
  refine V_putR C hin ff_X8_79 rfl (fun _ => ⟨rfl, rfl⟩) rfl (by decide) dX8_init_196 (V_eqH eh46 ?_)
  refine V_aload_n C dX8_init_199 rfl 0 rfl ?_
  refine V_sipush (v := (372 : Int32)) C dX8_init_200 (by decide) ?_
  obtain ⟨h47, eh47, hf⟩ := o_l hf
  refine V_newi C (by decide) (by decide : Int32.toNatClampNeg (372 : Int32) = 372) (by decide) kA10 (by decide) (by decide) dX8_init_203 (V_eqH eh47 ?_)
  obtain ⟨h48, eh48, hf⟩ := o_l hf
  refine V_putR C hin ff_X8_82 rfl (fun _ => ⟨rfl, rfl⟩) rfl (by decide) dX8_init_205 (V_eqH eh48 ?_)
  refine V_aload_n C dX8_init_208 rfl 0 rfl ?_
  refine V_iconst (v := (4 : Int32)) C dX8_init_209 (by decide) ?_
  obtain ⟨h49, eh49, hf⟩ := o_l hf
  refine V_newz C (by decide) (by decide : Int32.toNatClampNeg (4 : Int32) = 4) (by decide) kA12 (by decide) (by decide) dX8_init_210 (V_eqH eh49 ?_)
  obtain ⟨h50, eh50, hf⟩ := o_l hf
  refine V_putR C hin ff_X8_85 rfl (fun _ => ⟨rfl, rfl⟩) rfl (by decide) dX8_init_212 (V_eqH eh50 ?_)
  refine V_aload_n C dX8_init_215 rfl 0 rfl ?_
  obtain ⟨q51, eq51, hf⟩ := o_b hf
  refine V_getR C fl_X8_42 rfl rfl (by decide) eq51 dX8_init_216 ?_
  refine V_bipush (v := (8 : Int32)) C dX8_init_219 (by decide) ?_
  refine V_iconst (v := (-1 : Int32)) C dX8_init_221 (by decide) ?_
  obtain ⟨g52, hf⟩ := o_if hf
  obtain ⟨h53, eh53, hf⟩ := o_l hf
  refine V_iast C (vp_k (by decide) (by decide) g52) (by decide : Int32.toNatClampNeg (8 : Int32) = 8) dX8_init_222 (V_eqH eh53 ?_)
  have hf := Option.some.inj hf
  subst hf
  exact V_vret C hQ dX8_init_223
theorem ct_X8_init {h' : Hp} {h : Hp} {v0 : Nat} (hf : f_X8_init h v0 = some h') (l : Launch) (G : GT) : MC l G yX8_init cX8_init 1 none rmX8_init h [vR 8 (some v0)] none h' := MC_of (by decide) rfl (Nat.le_of_ble_eq_true rfl) rfl (fun X C hQ hin => p_X8_init C hin hQ hf)
abbrev rmX8_in : Room := { frames := 0, cells := 0, slots := 0, locals := 0 }
def f_X8_in (h : Hp) (v0 : Int64) (v2 : Int64) (v4 : Int64) : Option (Int32) := if (lg_cmp v0 v2) < 0 then (some (0 : Int32)) else (if 0 < (lg_cmp v0 v4) then (some (0 : Int32)) else (some (1 : Int32)))
set_option maxHeartbeats 4000000 in
set_option maxRecDepth 100000 in
theorem p_X8_in {X : XT} {r : Int32} (C : CX X cX8_in "WaterStairModel" 6 (some .boolean) rmX8_in) {h : Hp} {v0 : Int64} {v2 : Int64} {v4 : Int64} (hQ : QX X (some (vI r)) h rmX8_in.cells rmX8_in.slots) (hf : f_X8_in h v0 v2 v4 = some r) : V X 0 0 h 0 [(0, vL v0), (2, vL v2), (4, vL v4)] [] := by
  unfold f_X8_in at hf
  refine V_lload_n C dX8_in_0 rfl 0 rfl ?_
  refine V_lload_n C dX8_in_1 rfl 1 rfl ?_
  refine V_lcmp C dX8_in_2 ?_
  refine V_if_lt C 17 dX8_in_3 (by decide) (fun c1 => ?_) (fun c1 => ?_)
  · have hf := i_t c1 hf
    refine V_iconst (v := (0 : Int32)) C dX8_in_17 (by decide) ?_
    have hf := Option.some.inj hf
    subst hf
    exact V_zret C (by decide) hQ dX8_in_18
  · have hf := i_f c1 hf
    refine V_lload_n C dX8_in_6 rfl 0 rfl ?_
    refine V_lload C dX8_in_7 2 rfl ?_
    refine V_lcmp C dX8_in_9 ?_
    refine V_if_gt C 17 dX8_in_10 (by decide) (fun c2 => ?_) (fun c2 => ?_)
    · have hf := i_t c2 hf
      refine V_iconst (v := (0 : Int32)) C dX8_in_17 (by decide) ?_
      have hf := Option.some.inj hf
      subst hf
      exact V_zret C (by decide) hQ dX8_in_18
    · have hf := i_f c2 hf
      refine V_iconst (v := (1 : Int32)) C dX8_in_13 (by decide) ?_
      refine V_goto C 18 dX8_in_14 (by decide) ?_
      have hf := Option.some.inj hf
      subst hf
      exact V_zret C (by decide) hQ dX8_in_18
theorem ct_X8_in {r : Int32} {h : Hp} {v0 : Int64} {v2 : Int64} {v4 : Int64} (hf : f_X8_in h v0 v2 v4 = some r) (l : Launch) (G : GT) : MC l G yX8_in cX8_in 6 (some .boolean) rmX8_in h [vL v0, vL v2, vL v4] (some (vI r)) h := MC_of (by decide) rfl (Nat.le_of_ble_eq_true rfl) rfl (fun X C hQ hin => p_X8_in C hQ hf)
abbrev rmX8_isOf : Room := { frames := 0, cells := 0, slots := 0, locals := 0 }
def f_X8_isOf (h : Hp) (v0 : Int32) (v1 : Int32) : Option (Int32) := if ((v0 >>> (v1 &&& 31)) &&& (1 : Int32)) = (1 : Int32) then (some (1 : Int32)) else (some (0 : Int32))
set_option maxHeartbeats 4000000 in
set_option maxRecDepth 100000 in
theorem p_X8_isOf {X : XT} {r : Int32} (C : CX X cX8_isOf "WaterStairModel" 2 (some .boolean) rmX8_isOf) {h : Hp} {v0 : Int32} {v1 : Int32} (hQ : QX X (some (vI r)) h rmX8_isOf.cells rmX8_isOf.slots) (hf : f_X8_isOf h v0 v1 = some r) : V X 0 0 h 0 [(0, vI v0), (1, vI v1)] [] := by
  unfold f_X8_isOf at hf
  refine V_iload_n C dX8_isOf_0 rfl 0 rfl ?_
  refine V_iload_n C dX8_isOf_1 rfl 1 rfl ?_
  refine V_ishr C dX8_isOf_2 ?_
  refine V_iconst (v := (1 : Int32)) C dX8_isOf_3 (by decide) ?_
  refine V_iand C dX8_isOf_4 ?_
  refine V_iconst (v := (1 : Int32)) C dX8_isOf_5 (by decide) ?_
  refine V_icmp_ne C 13 dX8_isOf_6 (by decide) (fun c1 => ?_) (fun c1 => ?_)
  · have hf := i_f c1 hf
    refine V_iconst (v := (0 : Int32)) C dX8_isOf_13 (by decide) ?_
    have hf := Option.some.inj hf
    subst hf
    exact V_zret C (by decide) hQ dX8_isOf_14
  · have hf := i_t c1 hf
    refine V_iconst (v := (1 : Int32)) C dX8_isOf_9 (by decide) ?_
    refine V_goto C 14 dX8_isOf_10 (by decide) ?_
    have hf := Option.some.inj hf
    subst hf
    exact V_zret C (by decide) hQ dX8_isOf_14
theorem ct_X8_isOf {r : Int32} {h : Hp} {v0 : Int32} {v1 : Int32} (hf : f_X8_isOf h v0 v1 = some r) (l : Launch) (G : GT) : MC l G yX8_isOf cX8_isOf 2 (some .boolean) rmX8_isOf h [vI v0, vI v1] (some (vI r)) h := MC_of (by decide) rfl (Nat.le_of_ble_eq_true rfl) rfl (fun X C hQ hin => p_X8_isOf C hQ hf)
abbrev rmX8_bits : Room := { frames := 0, cells := 0, slots := 0, locals := 0 }
def f_X8_bits_4 (N : Nat) : Nat → Hp → Int32 → Int32 → Option (Int32)
  | 0, _, _, _ => none
  | n + 1, h, v1, v2 => if v2 = 0 then (some v1) else (f_X8_bits_4 N n h (v1 + (1 : Int32)) (v2 &&& (v2 - (1 : Int32))))
set_option maxHeartbeats 4000000 in
set_option maxRecDepth 100000 in
theorem p_X8_bits_4 {X : XT} {r : Int32} {h : Hp} (C : CX X cX8_bits "WaterStairModel" 3 (some .int) rmX8_bits) (hQ : QX X (some (vI r)) h rmX8_bits.cells rmX8_bits.slots) {N : Nat}  : ∀ (n : Nat) (v1 : Int32) (v2 : Int32), f_X8_bits_4 N n h v1 v2 = some r → V X 0 0 h 4 [(1, vI v1), (2, vI v2)] [] := by
  intro n
  induction n with
  | zero =>
    intro v1 v2 hf
    have hf : (none : Option (Int32)) = some _ := hf
    cases hf
  | succ n ih =>
    intro v1 v2 hf
    rw [f_X8_bits_4] at hf
    refine V_iload_n C dX8_bits_4 rfl 1 rfl ?_
    refine V_if_eq C 20 dX8_bits_5 (by decide) (fun c1 => ?_) (fun c1 => ?_)
    · have hf := i_t c1 hf
      refine V_iload_n C dX8_bits_20 rfl 0 rfl ?_
      have hf := Option.some.inj hf
      subst hf
      exact V_iret C hQ dX8_bits_21
    · have hf := i_f c1 hf
      refine V_iinc (lv' := [(1, vI (v1 + (1 : Int32))), (2, vI v2)]) C dX8_bits_8 0 rfl (congrArg (v1 + ·) (by decide : Int32.ofInt (1) = (1 : Int32))) (by decide) rfl ?_
      refine V_iload_n C dX8_bits_11 rfl 1 rfl ?_
      refine V_iload_n C dX8_bits_12 rfl 1 rfl ?_
      refine V_iconst (v := (1 : Int32)) C dX8_bits_13 (by decide) ?_
      refine V_isub C dX8_bits_14 ?_
      refine V_iand C dX8_bits_15 ?_
      refine V_istore_n (lv' := [(2, vI (v2 &&& (v2 - (1 : Int32)))), (1, vI (v1 + (1 : Int32)))]) C dX8_bits_16 rfl (by decide) rfl ?_
      refine V_goto C 4 dX8_bits_17 (by decide) ?_
      refine V_sub (lv' := [(1, vI (v1 + (1 : Int32))), (2, vI (v2 &&& (v2 - (1 : Int32))))]) [1, 0] rfl ?_
      exact ih _ _ hf
def f_X8_bits (N : Nat) (h : Hp) (v0 : Int32) : Option (Int32) := f_X8_bits_4 N N h (0 : Int32) v0
set_option maxHeartbeats 4000000 in
set_option maxRecDepth 100000 in
theorem p_X8_bits {X : XT} {r : Int32} (C : CX X cX8_bits "WaterStairModel" 3 (some .int) rmX8_bits) {N : Nat} {h : Hp} {v0 : Int32} (hQ : QX X (some (vI r)) h rmX8_bits.cells rmX8_bits.slots) (hf : f_X8_bits N h v0 = some r) : V X 0 0 h 0 [(0, vI v0)] [] := by
  unfold f_X8_bits at hf
  refine V_iconst (v := (0 : Int32)) C dX8_bits_0 (by decide) ?_
  refine V_istore_n (lv' := [(1, vI (0 : Int32)), (0, vI v0)]) C dX8_bits_1 rfl (by decide) rfl ?_
  refine V_iload_n C dX8_bits_2 rfl 1 rfl ?_
  refine V_istore_n (lv' := [(2, vI v0), (1, vI (0 : Int32)), (0, vI v0)]) C dX8_bits_3 rfl (by decide) rfl ?_
  refine V_sub (lv' := [(1, vI (0 : Int32)), (2, vI v0)]) [1, 0] rfl ?_
  exact p_X8_bits_4 C hQ N _ _ hf
theorem ct_X8_bits {r : Int32} {N : Nat} {h : Hp} {v0 : Int32} (hf : f_X8_bits N h v0 = some r) (l : Launch) (G : GT) : MC l G yX8_bits cX8_bits 3 (some .int) rmX8_bits h [vI v0] (some (vI r)) h := MC_of (by decide) rfl (Nat.le_of_ble_eq_true rfl) rfl (fun X C hQ hin => p_X8_bits C hQ hf)
abbrev rmX8_four : Room := { frames := 0, cells := 0, slots := 0, locals := 0 }
def f_X8_four_3 (N : Nat) : Nat → Hp → Nat → Int32 → Int32 → Option (Hp)
  | 0, _, _, _, _ => none
  | n + 1, h, v0, v1, v2 => if v2 < 0 then (some h) else (Option.bind (hP h v0 0) (fun q2 => lt ((v1 >>> (v2 &&& 31)).toInt8.toInt32) (fun y3 => if 0 ≤ hI h v0 1 ∧ (hI h v0 1).toNatClampNeg < hL h q2 then (lt (sI h q2 ((hI h v0 1).toNatClampNeg) (y3.toInt8.toInt32)) (fun h5 => lt (sI h5 v0 1 ((hI h5 v0 1) + (1 : Int32))) (fun h6 => f_X8_four_3 N n h6 v0 v1 (v2 + (-8 : Int32))))) else none)))
set_option maxHeartbeats 4000000 in
set_option maxRecDepth 100000 in
theorem p_X8_four_3 {X : XT} {h' : Hp} (C : CX X cX8_four "WaterStairModel" 3 none rmX8_four) (hQ : QX X none h' rmX8_four.cells rmX8_four.slots) {N : Nat}  : ∀ (n : Nat) (h : Hp) (v0 : Nat) (v1 : Int32) (v2 : Int32), f_X8_four_3 N n h v0 v1 v2 = some h' → V X 0 0 h 3 [(0, vR 8 (some v0)), (1, vI v1), (2, vI v2)] [] := by
  intro n
  induction n with
  | zero =>
    intro h v0 v1 v2 hf
    have hf : (none : Option (Hp)) = some _ := hf
    cases hf
  | succ n ih =>
    intro h v0 v1 v2 hf
    rw [f_X8_four_3] at hf
    refine V_iload_n C dX8_four_3 rfl 2 rfl ?_
    refine V_if_lt C 36 dX8_four_4 (by decide) (fun c1 => ?_) (fun c1 => ?_)
    · have hf := i_t c1 hf
      have hf := Option.some.inj hf
      subst hf
      exact V_vret C hQ dX8_four_36
    · have hf := i_f c1 hf
      refine V_aload_n C dX8_four_7 rfl 0 rfl ?_
      obtain ⟨q2, eq2, hf⟩ := o_b hf
      refine V_getR C fl_X8_7 rfl rfl (by decide) eq2 dX8_four_8 ?_
      refine V_aload_n C dX8_four_11 rfl 0 rfl ?_
      refine V_getI C fl_X8_88 rfl dX8_four_12 ?_
      refine V_iload_n C dX8_four_15 rfl 1 rfl ?_
      refine V_iload_n C dX8_four_16 rfl 2 rfl ?_
      refine V_ishr C dX8_four_17 ?_
      refine V_i2b C dX8_four_18 ?_
      obtain ⟨y3, ey3, hf⟩ := o_l hf
      refine V_eqI ey3 ?_
      obtain ⟨g4, hf⟩ := o_if hf
      obtain ⟨h5, eh5, hf⟩ := o_l hf
      refine V_bast C (vp_g g4) rfl dX8_four_19 (V_eqH eh5 ?_)
      refine V_aload_n C dX8_four_20 rfl 0 rfl ?_
      refine V_dup C dX8_four_21 rfl ?_
      refine V_getI C fl_X8_88 rfl dX8_four_22 ?_
      refine V_iconst (v := (1 : Int32)) C dX8_four_25 (by decide) ?_
      refine V_iadd C dX8_four_26 ?_
      obtain ⟨h6, eh6, hf⟩ := o_l hf
      refine V_putI C nf_X8_88 rfl (okI_int _) dX8_four_27 (V_eqH eh6 ?_)
      refine V_iinc (lv' := [(2, vI (v2 + (-8 : Int32))), (0, vR 8 (some v0)), (1, vI v1)]) C dX8_four_30 2 rfl (congrArg (v2 + ·) (by decide : Int32.ofInt (-8) = (-8 : Int32))) (by decide) rfl ?_
      refine V_goto C 3 dX8_four_33 (by decide) ?_
      refine V_sub (lv' := [(0, vR 8 (some v0)), (1, vI v1), (2, vI (v2 + (-8 : Int32)))]) [1, 2, 0] rfl ?_
      exact ih _ _ _ _ hf
def f_X8_four (N : Nat) (h : Hp) (v0 : Nat) (v1 : Int32) : Option (Hp) := f_X8_four_3 N N h v0 v1 (24 : Int32)
set_option maxHeartbeats 4000000 in
set_option maxRecDepth 100000 in
theorem p_X8_four {X : XT} {h' : Hp} (C : CX X cX8_four "WaterStairModel" 3 none rmX8_four) {N : Nat} {h : Hp} {v0 : Nat} {v1 : Int32} (hQ : QX X none h' rmX8_four.cells rmX8_four.slots) (hf : f_X8_four N h v0 v1 = some h') : V X 0 0 h 0 [(0, vR 8 (some v0)), (1, vI v1)] [] := by
  unfold f_X8_four at hf
  refine V_bipush (v := (24 : Int32)) C dX8_four_0 (by decide) ?_
  refine V_istore_n (lv' := [(2, vI (24 : Int32)), (0, vR 8 (some v0)), (1, vI v1)]) C dX8_four_2 rfl (by decide) rfl ?_
  refine V_sub (lv' := [(0, vR 8 (some v0)), (1, vI v1), (2, vI (24 : Int32))]) [1, 2, 0] rfl ?_
  exact p_X8_four_3 C hQ N _ _ _ _ hf
theorem ct_X8_four {h' : Hp} {N : Nat} {h : Hp} {v0 : Nat} {v1 : Int32} (hf : f_X8_four N h v0 v1 = some h') (l : Launch) (G : GT) : MC l G yX8_four cX8_four 3 none rmX8_four h [vR 8 (some v0), vI v1] none h' := MC_of (by decide) rfl (Nat.le_of_ble_eq_true rfl) rfl (fun X C hQ hin => p_X8_four C hQ hf)
abbrev rmX8_feed : Room := { frames := 1, cells := 0, slots := 0, locals := 22 }
def f_X8_feed (N : Nat) (h : Hp) (v0 : Nat) (v1 : Int32) (v2 : Int32) (v3 : Int32) (v4 : Int32) (v5 : Int32) : Option (Int32 × Hp) := if ((hI h v0 1) + (20 : Int32)) ≤ (400 : Int32) then (Option.bind (f_X8_four N h v0 v1) (fun h2 => Option.bind (f_X8_four N h2 v0 v2) (fun h3 => Option.bind (f_X8_four N h3 v0 v3) (fun h4 => Option.bind (f_X8_four N h4 v0 v4) (fun h5 => Option.bind (f_X8_four N h5 v0 v5) (fun h6 => some ((hI h6 v0 1, h6)))))))) else (some (((-1 : Int32), h)))
set_option maxHeartbeats 4000000 in
set_option maxRecDepth 100000 in
theorem p_X8_feed {X : XT} {r : Int32} {h' : Hp} (C : CX X cX8_feed "WaterStairModel" 6 (some .int) rmX8_feed) {N : Nat} {h : Hp} {v0 : Nat} {v1 : Int32} {v2 : Int32} {v3 : Int32} {v4 : Int32} {v5 : Int32} (hQ : QX X (some (vI r)) h' rmX8_feed.cells rmX8_feed.slots) (hf : f_X8_feed N h v0 v1 v2 v3 v4 v5 = some ((r, h'))) : V X 0 0 h 0 [(0, vR 8 (some v0)), (1, vI v1), (2, vI v2), (3, vI v3), (4, vI v4), (5, vI v5)] [] := by
  unfold f_X8_feed at hf
  refine V_aload_n C dX8_feed_0 rfl 0 rfl ?_
  refine V_getI C fl_X8_88 rfl dX8_feed_1 ?_
  refine V_bipush (v := (20 : Int32)) C dX8_feed_4 (by decide) ?_
  refine V_iadd C dX8_feed_6 ?_
  refine V_sipush (v := (400 : Int32)) C dX8_feed_7 (by decide) ?_
  refine V_icmp_le C 15 dX8_feed_10 (by decide) (fun c1 => ?_) (fun c1 => ?_)
  · have hf := i_t c1 hf
    refine V_aload_n C dX8_feed_15 rfl 0 rfl ?_
    refine V_iload_n C dX8_feed_16 rfl 1 rfl ?_
    obtain ⟨h2, eh2, hf⟩ := o_b hf
    refine V_callV (as := [vI v1]) (st := []) C ml_X8_92 fx8 (ct_X8_four eh2) rfl ⟨by decide, by decide, by decide, by decide⟩ (Nat.le_of_ble_eq_true rfl) rfl dX8_feed_17 (cs' := 0) (sl' := 0) rfl rfl ?_
    refine V_aload_n C dX8_feed_20 rfl 0 rfl ?_
    refine V_iload_n C dX8_feed_21 rfl 2 rfl ?_
    obtain ⟨h3, eh3, hf⟩ := o_b hf
    refine V_callV (as := [vI v2]) (st := []) C ml_X8_92 fx8 (ct_X8_four eh3) rfl ⟨by decide, by decide, by decide, by decide⟩ (Nat.le_of_ble_eq_true rfl) rfl dX8_feed_22 (cs' := 0) (sl' := 0) rfl rfl ?_
    refine V_aload_n C dX8_feed_25 rfl 0 rfl ?_
    refine V_iload_n C dX8_feed_26 rfl 3 rfl ?_
    obtain ⟨h4, eh4, hf⟩ := o_b hf
    refine V_callV (as := [vI v3]) (st := []) C ml_X8_92 fx8 (ct_X8_four eh4) rfl ⟨by decide, by decide, by decide, by decide⟩ (Nat.le_of_ble_eq_true rfl) rfl dX8_feed_27 (cs' := 0) (sl' := 0) rfl rfl ?_
    refine V_aload_n C dX8_feed_30 rfl 0 rfl ?_
    refine V_iload C dX8_feed_31 4 rfl ?_
    obtain ⟨h5, eh5, hf⟩ := o_b hf
    refine V_callV (as := [vI v4]) (st := []) C ml_X8_92 fx8 (ct_X8_four eh5) rfl ⟨by decide, by decide, by decide, by decide⟩ (Nat.le_of_ble_eq_true rfl) rfl dX8_feed_33 (cs' := 0) (sl' := 0) rfl rfl ?_
    refine V_aload_n C dX8_feed_36 rfl 0 rfl ?_
    refine V_iload C dX8_feed_37 5 rfl ?_
    obtain ⟨h6, eh6, hf⟩ := o_b hf
    refine V_callV (as := [vI v5]) (st := []) C ml_X8_92 fx8 (ct_X8_four eh6) rfl ⟨by decide, by decide, by decide, by decide⟩ (Nat.le_of_ble_eq_true rfl) rfl dX8_feed_39 (cs' := 0) (sl' := 0) rfl rfl ?_
    refine V_aload_n C dX8_feed_42 rfl 0 rfl ?_
    refine V_getI C fl_X8_88 rfl dX8_feed_43 ?_
    obtain ⟨hf1, hf2⟩ := Prod.mk.inj (Option.some.inj hf)
    subst hf1
    subst hf2
    exact V_iret C hQ dX8_feed_46
  · have hf := i_f c1 hf
    refine V_iconst (v := (-1 : Int32)) C dX8_feed_13 (by decide) ?_
    obtain ⟨hf1, hf2⟩ := Prod.mk.inj (Option.some.inj hf)
    subst hf1
    subst hf2
    exact V_iret C hQ dX8_feed_14
theorem ct_X8_feed {r : Int32} {h' : Hp} {N : Nat} {h : Hp} {v0 : Nat} {v1 : Int32} {v2 : Int32} {v3 : Int32} {v4 : Int32} {v5 : Int32} (hf : f_X8_feed N h v0 v1 v2 v3 v4 v5 = some ((r, h'))) (l : Launch) (G : GT) : MC l G yX8_feed cX8_feed 6 (some .int) rmX8_feed h [vR 8 (some v0), vI v1, vI v2, vI v3, vI v4, vI v5] (some (vI r)) h' := MC_of (by decide) rfl (Nat.le_of_ble_eq_true rfl) rfl (fun X C hQ hin => p_X8_feed C hQ hf)
abbrev rmX8_end : Room := { frames := 0, cells := 0, slots := 0, locals := 0 }
def f_X8_end (h : Hp) (v0 : Nat) (v1 : Int32) : Option (Int32 × Hp) := if v1 < 0 then (some (((-1 : Int32), h))) else (if v1 ≤ (hI h v0 1) then (lt (sI h v0 1 v1) (fun h3 => some ((v1, h3)))) else (some (((-1 : Int32), h))))
set_option maxHeartbeats 4000000 in
set_option maxRecDepth 100000 in
theorem p_X8_end {X : XT} {r : Int32} {h' : Hp} (C : CX X cX8_end "WaterStairModel" 2 (some .int) rmX8_end) {h : Hp} {v0 : Nat} {v1 : Int32} (hQ : QX X (some (vI r)) h' rmX8_end.cells rmX8_end.slots) (hf : f_X8_end h v0 v1 = some ((r, h'))) : V X 0 0 h 0 [(0, vR 8 (some v0)), (1, vI v1)] [] := by
  unfold f_X8_end at hf
  refine V_iload_n C dX8_end_0 rfl 1 rfl ?_
  refine V_if_lt C 12 dX8_end_1 (by decide) (fun c1 => ?_) (fun c1 => ?_)
  · have hf := i_t c1 hf
    refine V_iconst (v := (-1 : Int32)) C dX8_end_12 (by decide) ?_
    obtain ⟨hf1, hf2⟩ := Prod.mk.inj (Option.some.inj hf)
    subst hf1
    subst hf2
    exact V_iret C hQ dX8_end_13
  · have hf := i_f c1 hf
    refine V_iload_n C dX8_end_4 rfl 1 rfl ?_
    refine V_aload_n C dX8_end_5 rfl 0 rfl ?_
    refine V_getI C fl_X8_88 rfl dX8_end_6 ?_
    refine V_icmp_le C 14 dX8_end_9 (by decide) (fun c2 => ?_) (fun c2 => ?_)
    · have hf := i_t c2 hf
      refine V_aload_n C dX8_end_14 rfl 0 rfl ?_
      refine V_iload_n C dX8_end_15 rfl 1 rfl ?_
      obtain ⟨h3, eh3, hf⟩ := o_l hf
      refine V_putI C nf_X8_88 rfl (okI_int _) dX8_end_16 (V_eqH eh3 ?_)
      refine V_iload_n C dX8_end_19 rfl 1 rfl ?_
      obtain ⟨hf1, hf2⟩ := Prod.mk.inj (Option.some.inj hf)
      subst hf1
      subst hf2
      exact V_iret C hQ dX8_end_20
    · have hf := i_f c2 hf
      refine V_iconst (v := (-1 : Int32)) C dX8_end_12 (by decide) ?_
      obtain ⟨hf1, hf2⟩ := Prod.mk.inj (Option.some.inj hf)
      subst hf1
      subst hf2
      exact V_iret C hQ dX8_end_13
theorem ct_X8_end {r : Int32} {h' : Hp} {h : Hp} {v0 : Nat} {v1 : Int32} (hf : f_X8_end h v0 v1 = some ((r, h'))) (l : Launch) (G : GT) : MC l G yX8_end cX8_end 2 (some .int) rmX8_end h [vR 8 (some v0), vI v1] (some (vI r)) h' := MC_of (by decide) rfl (Nat.le_of_ble_eq_true rfl) rfl (fun X C hQ hin => p_X8_end C hQ hf)
abbrev rmX8_fails : Room := { frames := 0, cells := 0, slots := 0, locals := 0 }
def f_X8_fails (h : Hp) (v0 : Nat) (v1 : Int32) (v2 : Int32) : Option (Int32 × Hp) := if hI h v0 15 = 0 then (lt (sI h v0 15 (((1 : Int32) + ((8 : Int32) * v2)) + v1)) (fun h2 => some (((0 : Int32), h2)))) else (some (((0 : Int32), h)))
set_option maxHeartbeats 4000000 in
set_option maxRecDepth 100000 in
theorem p_X8_fails {X : XT} {r : Int32} {h' : Hp} (C : CX X cX8_fails "WaterStairModel" 3 (some .boolean) rmX8_fails) {h : Hp} {v0 : Nat} {v1 : Int32} {v2 : Int32} (hQ : QX X (some (vI r)) h' rmX8_fails.cells rmX8_fails.slots) (hf : f_X8_fails h v0 v1 v2 = some ((r, h'))) : V X 0 0 h 0 [(0, vR 8 (some v0)), (1, vI v1), (2, vI v2)] [] := by
  unfold f_X8_fails at hf
  refine V_aload_n C dX8_fails_0 rfl 0 rfl ?_
  refine V_getI C fl_X8_96 rfl dX8_fails_1 ?_
  refine V_if_ne C 19 dX8_fails_4 (by decide) (fun c1 => ?_) (fun c1 => ?_)
  · have hf := i_f c1 hf
    refine V_iconst (v := (0 : Int32)) C dX8_fails_19 (by decide) ?_
    obtain ⟨hf1, hf2⟩ := Prod.mk.inj (Option.some.inj hf)
    subst hf1
    subst hf2
    exact V_zret C (by decide) hQ dX8_fails_20
  · have hf := i_t c1 hf
    refine V_aload_n C dX8_fails_7 rfl 0 rfl ?_
    refine V_iconst (v := (1 : Int32)) C dX8_fails_8 (by decide) ?_
    refine V_bipush (v := (8 : Int32)) C dX8_fails_9 (by decide) ?_
    refine V_iload_n C dX8_fails_11 rfl 2 rfl ?_
    refine V_imul C dX8_fails_12 ?_
    refine V_iadd C dX8_fails_13 ?_
    refine V_iload_n C dX8_fails_14 rfl 1 rfl ?_
    refine V_iadd C dX8_fails_15 ?_
    obtain ⟨h2, eh2, hf⟩ := o_l hf
    refine V_putI C nf_X8_96 rfl (okI_int _) dX8_fails_16 (V_eqH eh2 ?_)
    refine V_iconst (v := (0 : Int32)) C dX8_fails_19 (by decide) ?_
    obtain ⟨hf1, hf2⟩ := Prod.mk.inj (Option.some.inj hf)
    subst hf1
    subst hf2
    exact V_zret C (by decide) hQ dX8_fails_20
theorem ct_X8_fails {r : Int32} {h' : Hp} {h : Hp} {v0 : Nat} {v1 : Int32} {v2 : Int32} (hf : f_X8_fails h v0 v1 v2 = some ((r, h'))) (l : Launch) (G : GT) : MC l G yX8_fails cX8_fails 3 (some .boolean) rmX8_fails h [vR 8 (some v0), vI v1, vI v2] (some (vI r)) h' := MC_of (by decide) rfl (Nat.le_of_ble_eq_true rfl) rfl (fun X C hQ hin => p_X8_fails C hQ hf)
abbrev rmX8_see : Room := { frames := 0, cells := 0, slots := 0, locals := 0 }
def f_X8_see_38 (N : Nat) (h : Hp) (v0 : Nat) : Option (Int32 × Hp) := if (hI h v0 1) ≤ (hI h v0 14) then (some (((-1 : Int32), h))) else (Option.bind (hP h v0 0) (fun q2 => if 0 ≤ hI h v0 14 ∧ (hI h v0 14).toNatClampNeg < hL h q2 then (some (((hI h q2 ((hI h v0 14).toNatClampNeg)) &&& (255 : Int32), h))) else none))
set_option maxHeartbeats 4000000 in
set_option maxRecDepth 100000 in
theorem p_X8_see_38 {X : XT} {r : Int32} {h' : Hp} (C : CX X cX8_see "WaterStairModel" 1 (some .int) rmX8_see) (hQ : QX X (some (vI r)) h' rmX8_see.cells rmX8_see.slots) {N : Nat}  {h : Hp} {v0 : Nat} (hf : f_X8_see_38 N h v0 = some ((r, h'))) : V X 0 0 h 38 [(0, vR 8 (some v0))] [] := by
  unfold f_X8_see_38 at hf
  refine V_aload_n C dX8_see_38 rfl 0 rfl ?_
  refine V_getI C fl_X8_99 rfl dX8_see_39 ?_
  refine V_aload_n C dX8_see_42 rfl 0 rfl ?_
  refine V_getI C fl_X8_88 rfl dX8_see_43 ?_
  refine V_icmp_ge C 65 dX8_see_46 (by decide) (fun c1 => ?_) (fun c1 => ?_)
  · have hf := i_t c1 hf
    refine V_iconst (v := (-1 : Int32)) C dX8_see_65 (by decide) ?_
    obtain ⟨hf1, hf2⟩ := Prod.mk.inj (Option.some.inj hf)
    subst hf1
    subst hf2
    exact V_iret C hQ dX8_see_66
  · have hf := i_f c1 hf
    refine V_aload_n C dX8_see_49 rfl 0 rfl ?_
    obtain ⟨q2, eq2, hf⟩ := o_b hf
    refine V_getR C fl_X8_7 rfl rfl (by decide) eq2 dX8_see_50 ?_
    refine V_aload_n C dX8_see_53 rfl 0 rfl ?_
    refine V_getI C fl_X8_99 rfl dX8_see_54 ?_
    obtain ⟨g3, hf⟩ := o_if hf
    refine V_bald C (vp_g g3) rfl dX8_see_57 ?_
    refine V_sipush (v := (255 : Int32)) C dX8_see_58 (by decide) ?_
    refine V_iand C dX8_see_61 ?_
    refine V_goto C 66 dX8_see_62 (by decide) ?_
    obtain ⟨hf1, hf2⟩ := Prod.mk.inj (Option.some.inj hf)
    subst hf1
    subst hf2
    exact V_iret C hQ dX8_see_66
def f_X8_see_0 (N : Nat) : Nat → Hp → Nat → Option (Int32 × Hp)
  | 0, _, _ => none
  | n + 1, h, v0 => if (hI h v0 1) ≤ (hI h v0 14) then (f_X8_see_38 N h v0) else (Option.bind (hP h v0 0) (fun q5 => if 0 ≤ hI h v0 14 ∧ (hI h v0 14).toNatClampNeg < hL h q5 then (if (hI h q5 ((hI h v0 14).toNatClampNeg)) = (32 : Int32) then (lt (sI h v0 14 ((hI h v0 14) + (1 : Int32))) (fun h8 => f_X8_see_0 N n h8 v0)) else (f_X8_see_38 N h v0)) else none))
set_option maxHeartbeats 4000000 in
set_option maxRecDepth 100000 in
theorem p_X8_see_0 {X : XT} {r : Int32} {h' : Hp} (C : CX X cX8_see "WaterStairModel" 1 (some .int) rmX8_see) (hQ : QX X (some (vI r)) h' rmX8_see.cells rmX8_see.slots) {N : Nat}  : ∀ (n : Nat) (h : Hp) (v0 : Nat), f_X8_see_0 N n h v0 = some ((r, h')) → V X 0 0 h 0 [(0, vR 8 (some v0))] [] := by
  intro n
  induction n with
  | zero =>
    intro h v0 hf
    have hf : (none : Option (Int32 × Hp)) = some _ := hf
    cases hf
  | succ n ih =>
    intro h v0 hf
    rw [f_X8_see_0] at hf
    refine V_aload_n C dX8_see_0 rfl 0 rfl ?_
    refine V_getI C fl_X8_99 rfl dX8_see_1 ?_
    refine V_aload_n C dX8_see_4 rfl 0 rfl ?_
    refine V_getI C fl_X8_88 rfl dX8_see_5 ?_
    refine V_icmp_ge C 38 dX8_see_8 (by decide) (fun c4 => ?_) (fun c4 => ?_)
    · have hf := i_t c4 hf
      refine V_sub (lv' := [(0, vR 8 (some v0))]) [0] rfl ?_
      exact p_X8_see_38 C hQ hf
    · have hf := i_f c4 hf
      refine V_aload_n C dX8_see_11 rfl 0 rfl ?_
      obtain ⟨q5, eq5, hf⟩ := o_b hf
      refine V_getR C fl_X8_7 rfl rfl (by decide) eq5 dX8_see_12 ?_
      refine V_aload_n C dX8_see_15 rfl 0 rfl ?_
      refine V_getI C fl_X8_99 rfl dX8_see_16 ?_
      obtain ⟨g6, hf⟩ := o_if hf
      refine V_bald C (vp_g g6) rfl dX8_see_19 ?_
      refine V_bipush (v := (32 : Int32)) C dX8_see_20 (by decide) ?_
      refine V_icmp_ne C 38 dX8_see_22 (by decide) (fun c7 => ?_) (fun c7 => ?_)
      · have hf := i_f c7 hf
        refine V_sub (lv' := [(0, vR 8 (some v0))]) [0] rfl ?_
        exact p_X8_see_38 C hQ hf
      · have hf := i_t c7 hf
        refine V_aload_n C dX8_see_25 rfl 0 rfl ?_
        refine V_dup C dX8_see_26 rfl ?_
        refine V_getI C fl_X8_99 rfl dX8_see_27 ?_
        refine V_iconst (v := (1 : Int32)) C dX8_see_30 (by decide) ?_
        refine V_iadd C dX8_see_31 ?_
        obtain ⟨h8, eh8, hf⟩ := o_l hf
        refine V_putI C nf_X8_99 rfl (okI_int _) dX8_see_32 (V_eqH eh8 ?_)
        refine V_goto C 0 dX8_see_35 (by decide) ?_
        refine V_sub (lv' := [(0, vR 8 (some v0))]) [0] rfl ?_
        exact ih _ _ hf
def f_X8_see (N : Nat) (h : Hp) (v0 : Nat) : Option (Int32 × Hp) := f_X8_see_0 N N h v0
set_option maxHeartbeats 4000000 in
set_option maxRecDepth 100000 in
theorem p_X8_see {X : XT} {r : Int32} {h' : Hp} (C : CX X cX8_see "WaterStairModel" 1 (some .int) rmX8_see) {N : Nat} {h : Hp} {v0 : Nat} (hQ : QX X (some (vI r)) h' rmX8_see.cells rmX8_see.slots) (hf : f_X8_see N h v0 = some ((r, h'))) : V X 0 0 h 0 [(0, vR 8 (some v0))] [] := by
  unfold f_X8_see at hf
  refine V_sub (lv' := [(0, vR 8 (some v0))]) [0] rfl ?_
  exact p_X8_see_0 C hQ N _ _ hf
theorem ct_X8_see {r : Int32} {h' : Hp} {N : Nat} {h : Hp} {v0 : Nat} (hf : f_X8_see N h v0 = some ((r, h'))) (l : Launch) (G : GT) : MC l G yX8_see cX8_see 1 (some .int) rmX8_see h [vR 8 (some v0)] (some (vI r)) h' := MC_of (by decide) rfl (Nat.le_of_ble_eq_true rfl) rfl (fun X C hQ hin => p_X8_see C hQ hf)
abbrev rmX8_isDigit : Room := { frames := 0, cells := 0, slots := 0, locals := 0 }
def f_X8_isDigit (h : Hp) (v0 : Nat) (v1 : Int32) : Option (Int32) := if (hI h v0 1) ≤ v1 then (some (0 : Int32)) else (Option.bind (hP h v0 0) (fun q2 => if 0 ≤ v1 ∧ v1.toNatClampNeg < hL h q2 then (if (hI h q2 (v1.toNatClampNeg)) < (48 : Int32) then (some (0 : Int32)) else (Option.bind (hP h v0 0) (fun q5 => if 0 ≤ v1 ∧ v1.toNatClampNeg < hL h q5 then (if (57 : Int32) < (hI h q5 (v1.toNatClampNeg)) then (some (0 : Int32)) else (some (1 : Int32))) else none))) else none))
set_option maxHeartbeats 4000000 in
set_option maxRecDepth 100000 in
theorem p_X8_isDigit {X : XT} {r : Int32} (C : CX X cX8_isDigit "WaterStairModel" 2 (some .boolean) rmX8_isDigit) {h : Hp} {v0 : Nat} {v1 : Int32} (hQ : QX X (some (vI r)) h rmX8_isDigit.cells rmX8_isDigit.slots) (hf : f_X8_isDigit h v0 v1 = some r) : V X 0 0 h 0 [(0, vR 8 (some v0)), (1, vI v1)] [] := by
  unfold f_X8_isDigit at hf
  refine V_iload_n C dX8_isDigit_0 rfl 1 rfl ?_
  refine V_aload_n C dX8_isDigit_1 rfl 0 rfl ?_
  refine V_getI C fl_X8_88 rfl dX8_isDigit_2 ?_
  refine V_icmp_ge C 34 dX8_isDigit_5 (by decide) (fun c1 => ?_) (fun c1 => ?_)
  · have hf := i_t c1 hf
    refine V_iconst (v := (0 : Int32)) C dX8_isDigit_34 (by decide) ?_
    have hf := Option.some.inj hf
    subst hf
    exact V_zret C (by decide) hQ dX8_isDigit_35
  · have hf := i_f c1 hf
    refine V_aload_n C dX8_isDigit_8 rfl 0 rfl ?_
    obtain ⟨q2, eq2, hf⟩ := o_b hf
    refine V_getR C fl_X8_7 rfl rfl (by decide) eq2 dX8_isDigit_9 ?_
    refine V_iload_n C dX8_isDigit_12 rfl 1 rfl ?_
    obtain ⟨g3, hf⟩ := o_if hf
    refine V_bald C (vp_g g3) rfl dX8_isDigit_13 ?_
    refine V_bipush (v := (48 : Int32)) C dX8_isDigit_14 (by decide) ?_
    refine V_icmp_lt C 34 dX8_isDigit_16 (by decide) (fun c4 => ?_) (fun c4 => ?_)
    · have hf := i_t c4 hf
      refine V_iconst (v := (0 : Int32)) C dX8_isDigit_34 (by decide) ?_
      have hf := Option.some.inj hf
      subst hf
      exact V_zret C (by decide) hQ dX8_isDigit_35
    · have hf := i_f c4 hf
      refine V_aload_n C dX8_isDigit_19 rfl 0 rfl ?_
      obtain ⟨q5, eq5, hf⟩ := o_b hf
      refine V_getR C fl_X8_7 rfl rfl (by decide) eq5 dX8_isDigit_20 ?_
      refine V_iload_n C dX8_isDigit_23 rfl 1 rfl ?_
      obtain ⟨g6, hf⟩ := o_if hf
      refine V_bald C (vp_g g6) rfl dX8_isDigit_24 ?_
      refine V_bipush (v := (57 : Int32)) C dX8_isDigit_25 (by decide) ?_
      refine V_icmp_gt C 34 dX8_isDigit_27 (by decide) (fun c7 => ?_) (fun c7 => ?_)
      · have hf := i_t c7 hf
        refine V_iconst (v := (0 : Int32)) C dX8_isDigit_34 (by decide) ?_
        have hf := Option.some.inj hf
        subst hf
        exact V_zret C (by decide) hQ dX8_isDigit_35
      · have hf := i_f c7 hf
        refine V_iconst (v := (1 : Int32)) C dX8_isDigit_30 (by decide) ?_
        refine V_goto C 35 dX8_isDigit_31 (by decide) ?_
        have hf := Option.some.inj hf
        subst hf
        exact V_zret C (by decide) hQ dX8_isDigit_35
theorem ct_X8_isDigit {r : Int32} {h : Hp} {v0 : Nat} {v1 : Int32} (hf : f_X8_isDigit h v0 v1 = some r) (l : Launch) (G : GT) : MC l G yX8_isDigit cX8_isDigit 2 (some .boolean) rmX8_isDigit h [vR 8 (some v0), vI v1] (some (vI r)) h := MC_of (by decide) rfl (Nat.le_of_ble_eq_true rfl) rfl (fun X C hQ hin => p_X8_isDigit C hQ hf)
abbrev rmX8_isLetter : Room := { frames := 0, cells := 0, slots := 0, locals := 0 }
def f_X8_isLetter (h : Hp) (v0 : Nat) (v1 : Int32) : Option (Int32) := if (hI h v0 1) ≤ v1 then (some (0 : Int32)) else (Option.bind (hP h v0 0) (fun q2 => if 0 ≤ v1 ∧ v1.toNatClampNeg < hL h q2 then (if (hI h q2 (v1.toNatClampNeg)) < (97 : Int32) then (some (0 : Int32)) else (Option.bind (hP h v0 0) (fun q5 => if 0 ≤ v1 ∧ v1.toNatClampNeg < hL h q5 then (if (122 : Int32) < (hI h q5 (v1.toNatClampNeg)) then (some (0 : Int32)) else (some (1 : Int32))) else none))) else none))
set_option maxHeartbeats 4000000 in
set_option maxRecDepth 100000 in
theorem p_X8_isLetter {X : XT} {r : Int32} (C : CX X cX8_isLetter "WaterStairModel" 2 (some .boolean) rmX8_isLetter) {h : Hp} {v0 : Nat} {v1 : Int32} (hQ : QX X (some (vI r)) h rmX8_isLetter.cells rmX8_isLetter.slots) (hf : f_X8_isLetter h v0 v1 = some r) : V X 0 0 h 0 [(0, vR 8 (some v0)), (1, vI v1)] [] := by
  unfold f_X8_isLetter at hf
  refine V_iload_n C dX8_isLetter_0 rfl 1 rfl ?_
  refine V_aload_n C dX8_isLetter_1 rfl 0 rfl ?_
  refine V_getI C fl_X8_88 rfl dX8_isLetter_2 ?_
  refine V_icmp_ge C 34 dX8_isLetter_5 (by decide) (fun c1 => ?_) (fun c1 => ?_)
  · have hf := i_t c1 hf
    refine V_iconst (v := (0 : Int32)) C dX8_isLetter_34 (by decide) ?_
    have hf := Option.some.inj hf
    subst hf
    exact V_zret C (by decide) hQ dX8_isLetter_35
  · have hf := i_f c1 hf
    refine V_aload_n C dX8_isLetter_8 rfl 0 rfl ?_
    obtain ⟨q2, eq2, hf⟩ := o_b hf
    refine V_getR C fl_X8_7 rfl rfl (by decide) eq2 dX8_isLetter_9 ?_
    refine V_iload_n C dX8_isLetter_12 rfl 1 rfl ?_
    obtain ⟨g3, hf⟩ := o_if hf
    refine V_bald C (vp_g g3) rfl dX8_isLetter_13 ?_
    refine V_bipush (v := (97 : Int32)) C dX8_isLetter_14 (by decide) ?_
    refine V_icmp_lt C 34 dX8_isLetter_16 (by decide) (fun c4 => ?_) (fun c4 => ?_)
    · have hf := i_t c4 hf
      refine V_iconst (v := (0 : Int32)) C dX8_isLetter_34 (by decide) ?_
      have hf := Option.some.inj hf
      subst hf
      exact V_zret C (by decide) hQ dX8_isLetter_35
    · have hf := i_f c4 hf
      refine V_aload_n C dX8_isLetter_19 rfl 0 rfl ?_
      obtain ⟨q5, eq5, hf⟩ := o_b hf
      refine V_getR C fl_X8_7 rfl rfl (by decide) eq5 dX8_isLetter_20 ?_
      refine V_iload_n C dX8_isLetter_23 rfl 1 rfl ?_
      obtain ⟨g6, hf⟩ := o_if hf
      refine V_bald C (vp_g g6) rfl dX8_isLetter_24 ?_
      refine V_bipush (v := (122 : Int32)) C dX8_isLetter_25 (by decide) ?_
      refine V_icmp_gt C 34 dX8_isLetter_27 (by decide) (fun c7 => ?_) (fun c7 => ?_)
      · have hf := i_t c7 hf
        refine V_iconst (v := (0 : Int32)) C dX8_isLetter_34 (by decide) ?_
        have hf := Option.some.inj hf
        subst hf
        exact V_zret C (by decide) hQ dX8_isLetter_35
      · have hf := i_f c7 hf
        refine V_iconst (v := (1 : Int32)) C dX8_isLetter_30 (by decide) ?_
        refine V_goto C 35 dX8_isLetter_31 (by decide) ?_
        have hf := Option.some.inj hf
        subst hf
        exact V_zret C (by decide) hQ dX8_isLetter_35
theorem ct_X8_isLetter {r : Int32} {h : Hp} {v0 : Nat} {v1 : Int32} (hf : f_X8_isLetter h v0 v1 = some r) (l : Launch) (G : GT) : MC l G yX8_isLetter cX8_isLetter 2 (some .boolean) rmX8_isLetter h [vR 8 (some v0), vI v1] (some (vI r)) h := MC_of (by decide) rfl (Nat.le_of_ble_eq_true rfl) rfl (fun X C hQ hin => p_X8_isLetter C hQ hf)
abbrev rmX8_isWord : Room := { frames := 1, cells := 0, slots := 0, locals := 21 }
def f_X8_isWord_50 (N : Nat) (s10 : Hp → Nat → Int64 → Int64 → Int32 → Option (Int32 × Hp)) (h : Hp) (v0 : Nat) (v1 : Int64) (v3 : Int64) (v5 : Int32) : Option (Int32 × Hp) := s10 h v0 v1 v3 (v5 + (1 : Int32))
set_option maxHeartbeats 4000000 in
set_option maxRecDepth 100000 in
theorem p_X8_isWord_50 {X : XT} {r : Int32} {h' : Hp} (C : CX X cX8_isWord "WaterStairModel" 6 (some .boolean) rmX8_isWord) (hQ : QX X (some (vI r)) h' rmX8_isWord.cells rmX8_isWord.slots) {N : Nat} {s10 : Hp → Nat → Int64 → Int64 → Int32 → Option (Int32 × Hp)} (S10 : ∀ (h : Hp) (v0 : Nat) (v1 : Int64) (v3 : Int64) (v5 : Int32), s10 h v0 v1 v3 v5 = some ((r, h')) → V X 0 0 h 10 [(0, vR 8 (some v0)), (1, vL v1), (3, vL v3), (5, vI v5)] []) {h : Hp} {v0 : Nat} {v1 : Int64} {v3 : Int64} {v5 : Int32} (hf : f_X8_isWord_50 N s10 h v0 v1 v3 v5 = some ((r, h'))) : V X 0 0 h 50 [(0, vR 8 (some v0)), (1, vL v1), (3, vL v3), (5, vI v5)] [] := by
  unfold f_X8_isWord_50 at hf
  refine V_iinc (lv' := [(5, vI (v5 + (1 : Int32))), (0, vR 8 (some v0)), (1, vL v1), (3, vL v3)]) C dX8_isWord_50 3 rfl (congrArg (v5 + ·) (by decide : Int32.ofInt (1) = (1 : Int32))) (by decide) rfl ?_
  refine V_goto C 10 dX8_isWord_53 (by decide) ?_
  refine V_sub (lv' := [(0, vR 8 (some v0)), (1, vL v1), (3, vL v3), (5, vI (v5 + (1 : Int32)))]) [1, 2, 3, 0] rfl ?_
  exact S10 _ _ _ _ _ hf
def f_X8_isWord_10 (N : Nat) : Nat → Hp → Nat → Int64 → Int64 → Int32 → Option (Int32 × Hp)
  | 0, _, _, _, _, _ => none
  | n + 1, h, v0, v1, v3, v5 => Option.bind (f_X8_isLetter h v0 ((hI h v0 14) + v5)) (fun r1 => if r1 = 0 then (if v5 ≤ 0 then (some (((0 : Int32), h))) else (if (8 : Int32) ≤ v5 then (some (((0 : Int32), h))) else (if lg_cmp v3 v1 = 0 then (some (((1 : Int32), h))) else (some (((0 : Int32), h)))))) else (if (8 : Int32) ≤ v5 then (f_X8_isWord_50 N (f_X8_isWord_10 N n) h v0 v1 v3 v5) else (Option.bind (hP h v0 0) (fun q7 => if 0 ≤ (hI h v0 14) + v5 ∧ ((hI h v0 14) + v5).toNatClampNeg < hL h q7 then (lt ((v3 <<< ((8 : Int32).toInt64 &&& 63)) ||| ((hI h q7 (((hI h v0 14) + v5).toNatClampNeg)).toInt64)) (fun y9 => f_X8_isWord_50 N (f_X8_isWord_10 N n) h v0 v1 y9 v5)) else none))))
set_option maxHeartbeats 4000000 in
set_option maxRecDepth 100000 in
theorem p_X8_isWord_10 {X : XT} {r : Int32} {h' : Hp} (C : CX X cX8_isWord "WaterStairModel" 6 (some .boolean) rmX8_isWord) (hQ : QX X (some (vI r)) h' rmX8_isWord.cells rmX8_isWord.slots) {N : Nat}  : ∀ (n : Nat) (h : Hp) (v0 : Nat) (v1 : Int64) (v3 : Int64) (v5 : Int32), f_X8_isWord_10 N n h v0 v1 v3 v5 = some ((r, h')) → V X 0 0 h 10 [(0, vR 8 (some v0)), (1, vL v1), (3, vL v3), (5, vI v5)] [] := by
  intro n
  induction n with
  | zero =>
    intro h v0 v1 v3 v5 hf
    have hf : (none : Option (Int32 × Hp)) = some _ := hf
    cases hf
  | succ n ih =>
    intro h v0 v1 v3 v5 hf
    rw [f_X8_isWord_10] at hf
    refine V_aload_n C dX8_isWord_10 rfl 0 rfl ?_
    refine V_aload_n C dX8_isWord_11 rfl 0 rfl ?_
    refine V_getI C fl_X8_99 rfl dX8_isWord_12 ?_
    refine V_iload C dX8_isWord_15 3 rfl ?_
    refine V_iadd C dX8_isWord_17 ?_
    obtain ⟨r1, er1, hf⟩ := o_b hf
    refine V_callV (as := [vI ((hI h v0 14) + v5)]) (st := []) C ml_X8_106 fx8 (ct_X8_isLetter er1) rfl ⟨by decide, by decide, by decide, by decide⟩ (Nat.le_of_ble_eq_true rfl) rfl dX8_isWord_18 (cs' := 0) (sl' := 0) rfl rfl ?_
    refine V_if_eq C 56 dX8_isWord_21 (by decide) (fun c2 => ?_) (fun c2 => ?_)
    · have hf := i_t c2 hf
      refine V_iload C dX8_isWord_56 3 rfl ?_
      refine V_if_le C 78 dX8_isWord_58 (by decide) (fun c3 => ?_) (fun c3 => ?_)
      · have hf := i_t c3 hf
        refine V_iconst (v := (0 : Int32)) C dX8_isWord_78 (by decide) ?_
        obtain ⟨hf1, hf2⟩ := Prod.mk.inj (Option.some.inj hf)
        subst hf1
        subst hf2
        exact V_zret C (by decide) hQ dX8_isWord_79
      · have hf := i_f c3 hf
        refine V_iload C dX8_isWord_61 3 rfl ?_
        refine V_bipush (v := (8 : Int32)) C dX8_isWord_63 (by decide) ?_
        refine V_icmp_ge C 78 dX8_isWord_65 (by decide) (fun c4 => ?_) (fun c4 => ?_)
        · have hf := i_t c4 hf
          refine V_iconst (v := (0 : Int32)) C dX8_isWord_78 (by decide) ?_
          obtain ⟨hf1, hf2⟩ := Prod.mk.inj (Option.some.inj hf)
          subst hf1
          subst hf2
          exact V_zret C (by decide) hQ dX8_isWord_79
        · have hf := i_f c4 hf
          refine V_lload_n C dX8_isWord_68 rfl 2 rfl ?_
          refine V_lload_n C dX8_isWord_69 rfl 1 rfl ?_
          refine V_lcmp C dX8_isWord_70 ?_
          refine V_if_ne C 78 dX8_isWord_71 (by decide) (fun c5 => ?_) (fun c5 => ?_)
          · have hf := i_f c5 hf
            refine V_iconst (v := (0 : Int32)) C dX8_isWord_78 (by decide) ?_
            obtain ⟨hf1, hf2⟩ := Prod.mk.inj (Option.some.inj hf)
            subst hf1
            subst hf2
            exact V_zret C (by decide) hQ dX8_isWord_79
          · have hf := i_t c5 hf
            refine V_iconst (v := (1 : Int32)) C dX8_isWord_74 (by decide) ?_
            refine V_goto C 79 dX8_isWord_75 (by decide) ?_
            obtain ⟨hf1, hf2⟩ := Prod.mk.inj (Option.some.inj hf)
            subst hf1
            subst hf2
            exact V_zret C (by decide) hQ dX8_isWord_79
    · have hf := i_f c2 hf
      refine V_iload C dX8_isWord_24 3 rfl ?_
      refine V_bipush (v := (8 : Int32)) C dX8_isWord_26 (by decide) ?_
      refine V_icmp_ge C 50 dX8_isWord_28 (by decide) (fun c6 => ?_) (fun c6 => ?_)
      · have hf := i_t c6 hf
        refine V_sub (lv' := [(0, vR 8 (some v0)), (1, vL v1), (3, vL v3), (5, vI v5)]) [0, 1, 2, 3] rfl ?_
        exact p_X8_isWord_50 C hQ ih hf
      · have hf := i_f c6 hf
        refine V_lload_n C dX8_isWord_31 rfl 2 rfl ?_
        refine V_bipush (v := (8 : Int32)) C dX8_isWord_32 (by decide) ?_
        refine V_lshl C dX8_isWord_34 ?_
        refine V_aload_n C dX8_isWord_35 rfl 0 rfl ?_
        obtain ⟨q7, eq7, hf⟩ := o_b hf
        refine V_getR C fl_X8_7 rfl rfl (by decide) eq7 dX8_isWord_36 ?_
        refine V_aload_n C dX8_isWord_39 rfl 0 rfl ?_
        refine V_getI C fl_X8_99 rfl dX8_isWord_40 ?_
        refine V_iload C dX8_isWord_43 3 rfl ?_
        refine V_iadd C dX8_isWord_45 ?_
        obtain ⟨g8, hf⟩ := o_if hf
        refine V_bald C (vp_g g8) rfl dX8_isWord_46 ?_
        refine V_i2l C dX8_isWord_47 ?_
        refine V_lor C dX8_isWord_48 ?_
        obtain ⟨y9, ey9, hf⟩ := o_l hf
        refine V_eqL ey9 ?_
        refine V_lstore_n (lv' := [(3, vL y9), (0, vR 8 (some v0)), (1, vL v1), (5, vI v5)]) C dX8_isWord_49 rfl (by decide) rfl ?_
        refine V_sub (lv' := [(0, vR 8 (some v0)), (1, vL v1), (3, vL y9), (5, vI v5)]) [1, 2, 0, 3] rfl ?_
        exact p_X8_isWord_50 C hQ ih hf
def f_X8_isWord (N : Nat) (h : Hp) (v0 : Nat) (v1 : Int64) : Option (Int32 × Hp) := b2 (f_X8_see N h v0) (fun r10 h11 => f_X8_isWord_10 N N h11 v0 v1 (0 : Int64) (0 : Int32))
set_option maxHeartbeats 4000000 in
set_option maxRecDepth 100000 in
theorem p_X8_isWord {X : XT} {r : Int32} {h' : Hp} (C : CX X cX8_isWord "WaterStairModel" 6 (some .boolean) rmX8_isWord) {N : Nat} {h : Hp} {v0 : Nat} {v1 : Int64} (hQ : QX X (some (vI r)) h' rmX8_isWord.cells rmX8_isWord.slots) (hf : f_X8_isWord N h v0 v1 = some ((r, h'))) : V X 0 0 h 0 [(0, vR 8 (some v0)), (1, vL v1)] [] := by
  unfold f_X8_isWord at hf
  refine V_aload_n C dX8_isWord_0 rfl 0 rfl ?_
  obtain ⟨r10, h11, er10, hf⟩ := o_b2 hf
  refine V_callV (as := []) (st := []) C ml_X8_102 fx8 (ct_X8_see er10) rfl ⟨by decide, by decide, by decide, by decide⟩ (Nat.le_of_ble_eq_true rfl) rfl dX8_isWord_1 (cs' := 0) (sl' := 0) rfl rfl ?_
  refine V_pop C dX8_isWord_4 rfl ?_
  refine V_lconst (v := (0 : Int64)) C dX8_isWord_5 (by decide) ?_
  refine V_lstore_n (lv' := [(3, vL (0 : Int64)), (0, vR 8 (some v0)), (1, vL v1)]) C dX8_isWord_6 rfl (by decide) rfl ?_
  refine V_iconst (v := (0 : Int32)) C dX8_isWord_7 (by decide) ?_
  refine V_istore (lv' := [(5, vI (0 : Int32)), (3, vL (0 : Int64)), (0, vR 8 (some v0)), (1, vL v1)]) C dX8_isWord_8 (by decide) rfl ?_
  refine V_sub (lv' := [(0, vR 8 (some v0)), (1, vL v1), (3, vL (0 : Int64)), (5, vI (0 : Int32))]) [2, 3, 1, 0] rfl ?_
  exact p_X8_isWord_10 C hQ N _ _ _ _ _ hf
theorem ct_X8_isWord {r : Int32} {h' : Hp} {N : Nat} {h : Hp} {v0 : Nat} {v1 : Int64} (hf : f_X8_isWord N h v0 v1 = some ((r, h'))) (l : Launch) (G : GT) : MC l G yX8_isWord cX8_isWord 6 (some .boolean) rmX8_isWord h [vR 8 (some v0), vL v1] (some (vI r)) h' := MC_of (by decide) rfl (Nat.le_of_ble_eq_true rfl) rfl (fun X C hQ hin => p_X8_isWord C hQ hf)
abbrev rmX8_passWord : Room := { frames := 1, cells := 0, slots := 0, locals := 21 }
def f_X8_passWord_0 (N : Nat) : Nat → Hp → Nat → Option (Hp)
  | 0, _, _ => none
  | n + 1, h, v0 => Option.bind (f_X8_isLetter h v0 (hI h v0 14)) (fun r1 => if r1 = 0 then (some h) else (lt (sI h v0 14 ((hI h v0 14) + (1 : Int32))) (fun h3 => f_X8_passWord_0 N n h3 v0)))
set_option maxHeartbeats 4000000 in
set_option maxRecDepth 100000 in
theorem p_X8_passWord_0 {X : XT} {h' : Hp} (C : CX X cX8_passWord "WaterStairModel" 1 none rmX8_passWord) (hQ : QX X none h' rmX8_passWord.cells rmX8_passWord.slots) {N : Nat}  : ∀ (n : Nat) (h : Hp) (v0 : Nat), f_X8_passWord_0 N n h v0 = some h' → V X 0 0 h 0 [(0, vR 8 (some v0))] [] := by
  intro n
  induction n with
  | zero =>
    intro h v0 hf
    have hf : (none : Option (Hp)) = some _ := hf
    cases hf
  | succ n ih =>
    intro h v0 hf
    rw [f_X8_passWord_0] at hf
    refine V_aload_n C dX8_passWord_0 rfl 0 rfl ?_
    refine V_aload_n C dX8_passWord_1 rfl 0 rfl ?_
    refine V_getI C fl_X8_99 rfl dX8_passWord_2 ?_
    obtain ⟨r1, er1, hf⟩ := o_b hf
    refine V_callV (as := [vI (hI h v0 14)]) (st := []) C ml_X8_106 fx8 (ct_X8_isLetter er1) rfl ⟨by decide, by decide, by decide, by decide⟩ (Nat.le_of_ble_eq_true rfl) rfl dX8_passWord_5 (cs' := 0) (sl' := 0) rfl rfl ?_
    refine V_if_eq C 24 dX8_passWord_8 (by decide) (fun c2 => ?_) (fun c2 => ?_)
    · have hf := i_t c2 hf
      have hf := Option.some.inj hf
      subst hf
      exact V_vret C hQ dX8_passWord_24
    · have hf := i_f c2 hf
      refine V_aload_n C dX8_passWord_11 rfl 0 rfl ?_
      refine V_dup C dX8_passWord_12 rfl ?_
      refine V_getI C fl_X8_99 rfl dX8_passWord_13 ?_
      refine V_iconst (v := (1 : Int32)) C dX8_passWord_16 (by decide) ?_
      refine V_iadd C dX8_passWord_17 ?_
      obtain ⟨h3, eh3, hf⟩ := o_l hf
      refine V_putI C nf_X8_99 rfl (okI_int _) dX8_passWord_18 (V_eqH eh3 ?_)
      refine V_goto C 0 dX8_passWord_21 (by decide) ?_
      refine V_sub (lv' := [(0, vR 8 (some v0))]) [0] rfl ?_
      exact ih _ _ hf
def f_X8_passWord (N : Nat) (h : Hp) (v0 : Nat) : Option (Hp) := f_X8_passWord_0 N N h v0
set_option maxHeartbeats 4000000 in
set_option maxRecDepth 100000 in
theorem p_X8_passWord {X : XT} {h' : Hp} (C : CX X cX8_passWord "WaterStairModel" 1 none rmX8_passWord) {N : Nat} {h : Hp} {v0 : Nat} (hQ : QX X none h' rmX8_passWord.cells rmX8_passWord.slots) (hf : f_X8_passWord N h v0 = some h') : V X 0 0 h 0 [(0, vR 8 (some v0))] [] := by
  unfold f_X8_passWord at hf
  refine V_sub (lv' := [(0, vR 8 (some v0))]) [0] rfl ?_
  exact p_X8_passWord_0 C hQ N _ _ hf
theorem ct_X8_passWord {h' : Hp} {N : Nat} {h : Hp} {v0 : Nat} (hf : f_X8_passWord N h v0 = some h') (l : Launch) (G : GT) : MC l G yX8_passWord cX8_passWord 1 none rmX8_passWord h [vR 8 (some v0)] none h' := MC_of (by decide) rfl (Nat.le_of_ble_eq_true rfl) rfl (fun X C hQ hin => p_X8_passWord C hQ hf)
abbrev rmX8_numberHere : Room := { frames := 1, cells := 0, slots := 0, locals := 25 }
def f_X8_numberHere_75 (N : Nat) (s34 : Hp → Nat → Int32 → Int32 → Int32 → Int32 → Option (Int32 × Hp)) (h : Hp) (v0 : Nat) (v1 : Int32) (v2 : Int32) (v3 : Int32) (v4 : Int32) : Option (Int32 × Hp) := lt (sI h v0 14 ((hI h v0 14) + (1 : Int32))) (fun h1 => s34 h1 v0 v1 v2 v3 v4)
set_option maxHeartbeats 4000000 in
set_option maxRecDepth 100000 in
theorem p_X8_numberHere_75 {X : XT} {r : Int32} {h' : Hp} (C : CX X cX8_numberHere "WaterStairModel" 5 (some .boolean) rmX8_numberHere) (hQ : QX X (some (vI r)) h' rmX8_numberHere.cells rmX8_numberHere.slots) {N : Nat} {s34 : Hp → Nat → Int32 → Int32 → Int32 → Int32 → Option (Int32 × Hp)} (S34 : ∀ (h : Hp) (v0 : Nat) (v1 : Int32) (v2 : Int32) (v3 : Int32) (v4 : Int32), s34 h v0 v1 v2 v3 v4 = some ((r, h')) → V X 0 0 h 34 [(0, vR 8 (some v0)), (1, vI v1), (2, vI v2), (3, vI v3), (4, vI v4)] []) {h : Hp} {v0 : Nat} {v1 : Int32} {v2 : Int32} {v3 : Int32} {v4 : Int32} (hf : f_X8_numberHere_75 N s34 h v0 v1 v2 v3 v4 = some ((r, h'))) : V X 0 0 h 75 [(0, vR 8 (some v0)), (1, vI v1), (2, vI v2), (3, vI v3), (4, vI v4)] [] := by
  unfold f_X8_numberHere_75 at hf
  refine V_aload_n C dX8_numberHere_75 rfl 0 rfl ?_
  refine V_dup C dX8_numberHere_76 rfl ?_
  refine V_getI C fl_X8_99 rfl dX8_numberHere_77 ?_
  refine V_iconst (v := (1 : Int32)) C dX8_numberHere_80 (by decide) ?_
  refine V_iadd C dX8_numberHere_81 ?_
  obtain ⟨h1, eh1, hf⟩ := o_l hf
  refine V_putI C nf_X8_99 rfl (okI_int _) dX8_numberHere_82 (V_eqH eh1 ?_)
  refine V_goto C 34 dX8_numberHere_85 (by decide) ?_
  refine V_sub (lv' := [(0, vR 8 (some v0)), (1, vI v1), (2, vI v2), (3, vI v3), (4, vI v4)]) [0, 1, 2, 3, 4] rfl ?_
  exact S34 _ _ _ _ _ _ hf
def f_X8_numberHere_117 (N : Nat) (h : Hp) (v0 : Nat) (v3 : Int32) : Option (Int32 × Hp) := b2 (f_X8_fails h v0 (1 : Int32) v3) (fun r2 h3 => if r2 = 0 then (some (((0 : Int32), h3))) else (some (((1 : Int32), h3))))
set_option maxHeartbeats 4000000 in
set_option maxRecDepth 100000 in
theorem p_X8_numberHere_117 {X : XT} {r : Int32} {h' : Hp} (C : CX X cX8_numberHere "WaterStairModel" 5 (some .boolean) rmX8_numberHere) (hQ : QX X (some (vI r)) h' rmX8_numberHere.cells rmX8_numberHere.slots) {N : Nat}  {h : Hp} {v0 : Nat} {v3 : Int32} (hf : f_X8_numberHere_117 N h v0 v3 = some ((r, h'))) : V X 0 0 h 117 [(0, vR 8 (some v0)), (3, vI v3)] [] := by
  unfold f_X8_numberHere_117 at hf
  refine V_aload_n C dX8_numberHere_117 rfl 0 rfl ?_
  refine V_iconst (v := (1 : Int32)) C dX8_numberHere_118 (by decide) ?_
  refine V_iload_n C dX8_numberHere_119 rfl 1 rfl ?_
  obtain ⟨r2, h3, er2, hf⟩ := o_b2 hf
  refine V_callV (as := [vI (1 : Int32), vI v3]) (st := []) C ml_X8_120 fx8 (ct_X8_fails er2) rfl ⟨by decide, by decide, by decide, by decide⟩ (Nat.le_of_ble_eq_true rfl) rfl dX8_numberHere_120 (cs' := 0) (sl' := 0) rfl rfl ?_
  refine V_if_eq C 130 dX8_numberHere_123 (by decide) (fun c4 => ?_) (fun c4 => ?_)
  · have hf := i_t c4 hf
    refine V_iconst (v := (0 : Int32)) C dX8_numberHere_130 (by decide) ?_
    obtain ⟨hf1, hf2⟩ := Prod.mk.inj (Option.some.inj hf)
    subst hf1
    subst hf2
    exact V_zret C (by decide) hQ dX8_numberHere_131
  · have hf := i_f c4 hf
    refine V_iconst (v := (1 : Int32)) C dX8_numberHere_126 (by decide) ?_
    refine V_goto C 131 dX8_numberHere_127 (by decide) ?_
    obtain ⟨hf1, hf2⟩ := Prod.mk.inj (Option.some.inj hf)
    subst hf1
    subst hf2
    exact V_zret C (by decide) hQ dX8_numberHere_131
def f_X8_numberHere_34 (N : Nat) : Nat → Hp → Nat → Int32 → Int32 → Int32 → Int32 → Option (Int32 × Hp)
  | 0, _, _, _, _, _, _ => none
  | n + 1, h, v0, v1, v2, v3, v4 => Option.bind (f_X8_isDigit h v0 (hI h v0 14)) (fun r5 => if r5 = 0 then (lt (sI h v0 16 v4) (fun h7 => if (5 : Int32) < ((hI h7 v0 14) - v3) then (f_X8_numberHere_117 N h7 v0 v3) else (Option.bind (f_X8_in h7 (v4.toInt64) (v1.toInt64) (v2.toInt64)) (fun r9 => if r9 = 0 then (f_X8_numberHere_117 N h7 v0 v3) else (some (((1 : Int32), h7))))))) else (if (5 : Int32) ≤ ((hI h v0 14) - v3) then (f_X8_numberHere_75 N (f_X8_numberHere_34 N n) h v0 v1 v2 v3 v4) else (Option.bind (hP h v0 0) (fun q12 => if 0 ≤ hI h v0 14 ∧ (hI h v0 14).toNatClampNeg < hL h q12 then (lt ((((10 : Int32) * v4) + (hI h q12 ((hI h v0 14).toNatClampNeg))) - (48 : Int32)) (fun y14 => f_X8_numberHere_75 N (f_X8_numberHere_34 N n) h v0 v1 v2 v3 y14)) else none))))
set_option maxHeartbeats 4000000 in
set_option maxRecDepth 100000 in
theorem p_X8_numberHere_34 {X : XT} {r : Int32} {h' : Hp} (C : CX X cX8_numberHere "WaterStairModel" 5 (some .boolean) rmX8_numberHere) (hQ : QX X (some (vI r)) h' rmX8_numberHere.cells rmX8_numberHere.slots) {N : Nat}  : ∀ (n : Nat) (h : Hp) (v0 : Nat) (v1 : Int32) (v2 : Int32) (v3 : Int32) (v4 : Int32), f_X8_numberHere_34 N n h v0 v1 v2 v3 v4 = some ((r, h')) → V X 0 0 h 34 [(0, vR 8 (some v0)), (1, vI v1), (2, vI v2), (3, vI v3), (4, vI v4)] [] := by
  intro n
  induction n with
  | zero =>
    intro h v0 v1 v2 v3 v4 hf
    have hf : (none : Option (Int32 × Hp)) = some _ := hf
    cases hf
  | succ n ih =>
    intro h v0 v1 v2 v3 v4 hf
    rw [f_X8_numberHere_34] at hf
    refine V_aload_n C dX8_numberHere_34 rfl 0 rfl ?_
    refine V_aload_n C dX8_numberHere_35 rfl 0 rfl ?_
    refine V_getI C fl_X8_99 rfl dX8_numberHere_36 ?_
    obtain ⟨r5, er5, hf⟩ := o_b hf
    refine V_callV (as := [vI (hI h v0 14)]) (st := []) C ml_X8_117 fx8 (ct_X8_isDigit er5) rfl ⟨by decide, by decide, by decide, by decide⟩ (Nat.le_of_ble_eq_true rfl) rfl dX8_numberHere_39 (cs' := 0) (sl' := 0) rfl rfl ?_
    refine V_if_eq C 88 dX8_numberHere_42 (by decide) (fun c6 => ?_) (fun c6 => ?_)
    · have hf := i_t c6 hf
      refine V_aload_n C dX8_numberHere_88 rfl 0 rfl ?_
      refine V_iload C dX8_numberHere_89 4 rfl ?_
      obtain ⟨h7, eh7, hf⟩ := o_l hf
      refine V_putI C nf_X8_124 rfl (okI_int _) dX8_numberHere_91 (V_eqH eh7 ?_)
      refine V_aload_n C dX8_numberHere_94 rfl 0 rfl ?_
      refine V_getI C fl_X8_99 rfl dX8_numberHere_95 ?_
      refine V_iload_n C dX8_numberHere_98 rfl 3 rfl ?_
      refine V_isub C dX8_numberHere_99 ?_
      refine V_iconst (v := (5 : Int32)) C dX8_numberHere_100 (by decide) ?_
      refine V_icmp_gt C 117 dX8_numberHere_101 (by decide) (fun c8 => ?_) (fun c8 => ?_)
      · have hf := i_t c8 hf
        refine V_sub (lv' := [(0, vR 8 (some v0)), (3, vI v3)]) [0, 3] rfl ?_
        exact p_X8_numberHere_117 C hQ hf
      · have hf := i_f c8 hf
        refine V_iload C dX8_numberHere_104 4 rfl ?_
        refine V_i2l C dX8_numberHere_106 ?_
        refine V_iload_n C dX8_numberHere_107 rfl 1 rfl ?_
        refine V_i2l C dX8_numberHere_108 ?_
        refine V_iload_n C dX8_numberHere_109 rfl 2 rfl ?_
        refine V_i2l C dX8_numberHere_110 ?_
        obtain ⟨r9, er9, hf⟩ := o_b hf
        refine V_callS (as := [vL (v4.toInt64), vL (v1.toInt64), vL (v2.toInt64)]) (st := []) C ml_X8_127 (ct_X8_in er9) rfl ⟨by decide, by decide, by decide, by decide⟩ (Nat.le_of_ble_eq_true rfl) rfl dX8_numberHere_111 (cs' := 0) (sl' := 0) rfl rfl ?_
        refine V_if_ne C 126 dX8_numberHere_114 (by decide) (fun c10 => ?_) (fun c10 => ?_)
        · have hf := i_f c10 hf
          refine V_iconst (v := (1 : Int32)) C dX8_numberHere_126 (by decide) ?_
          refine V_goto C 131 dX8_numberHere_127 (by decide) ?_
          obtain ⟨hf1, hf2⟩ := Prod.mk.inj (Option.some.inj hf)
          subst hf1
          subst hf2
          exact V_zret C (by decide) hQ dX8_numberHere_131
        · have hf := i_t c10 hf
          refine V_sub (lv' := [(0, vR 8 (some v0)), (3, vI v3)]) [0, 3] rfl ?_
          exact p_X8_numberHere_117 C hQ hf
    · have hf := i_f c6 hf
      refine V_aload_n C dX8_numberHere_45 rfl 0 rfl ?_
      refine V_getI C fl_X8_99 rfl dX8_numberHere_46 ?_
      refine V_iload_n C dX8_numberHere_49 rfl 3 rfl ?_
      refine V_isub C dX8_numberHere_50 ?_
      refine V_iconst (v := (5 : Int32)) C dX8_numberHere_51 (by decide) ?_
      refine V_icmp_ge C 75 dX8_numberHere_52 (by decide) (fun c11 => ?_) (fun c11 => ?_)
      · have hf := i_t c11 hf
        refine V_sub (lv' := [(0, vR 8 (some v0)), (1, vI v1), (2, vI v2), (3, vI v3), (4, vI v4)]) [0, 1, 2, 3, 4] rfl ?_
        exact p_X8_numberHere_75 C hQ ih hf
      · have hf := i_f c11 hf
        refine V_bipush (v := (10 : Int32)) C dX8_numberHere_55 (by decide) ?_
        refine V_iload C dX8_numberHere_57 4 rfl ?_
        refine V_imul C dX8_numberHere_59 ?_
        refine V_aload_n C dX8_numberHere_60 rfl 0 rfl ?_
        obtain ⟨q12, eq12, hf⟩ := o_b hf
        refine V_getR C fl_X8_7 rfl rfl (by decide) eq12 dX8_numberHere_61 ?_
        refine V_aload_n C dX8_numberHere_64 rfl 0 rfl ?_
        refine V_getI C fl_X8_99 rfl dX8_numberHere_65 ?_
        obtain ⟨g13, hf⟩ := o_if hf
        refine V_bald C (vp_g g13) rfl dX8_numberHere_68 ?_
        refine V_iadd C dX8_numberHere_69 ?_
        refine V_bipush (v := (48 : Int32)) C dX8_numberHere_70 (by decide) ?_
        refine V_isub C dX8_numberHere_72 ?_
        obtain ⟨y14, ey14, hf⟩ := o_l hf
        refine V_eqI ey14 ?_
        refine V_istore (lv' := [(4, vI y14), (0, vR 8 (some v0)), (1, vI v1), (2, vI v2), (3, vI v3)]) C dX8_numberHere_73 (by decide) rfl ?_
        refine V_sub (lv' := [(0, vR 8 (some v0)), (1, vI v1), (2, vI v2), (3, vI v3), (4, vI y14)]) [1, 2, 3, 4, 0] rfl ?_
        exact p_X8_numberHere_75 C hQ ih hf
def f_X8_numberHere (N : Nat) (h : Hp) (v0 : Nat) (v1 : Int32) (v2 : Int32) : Option (Int32 × Hp) := b2 (f_X8_see N h v0) (fun r15 h16 => Option.bind (f_X8_isDigit h16 v0 (hI h16 v0 14)) (fun r17 => if r17 = 0 then (b2 (f_X8_fails h16 v0 (0 : Int32) (hI h16 v0 14)) (fun r19 h20 => if r19 = 0 ∨ r19 = 1 then (some ((r19, h20))) else none)) else (f_X8_numberHere_34 N N h16 v0 v1 v2 (hI h16 v0 14) (0 : Int32))))
set_option maxHeartbeats 4000000 in
set_option maxRecDepth 100000 in
theorem p_X8_numberHere {X : XT} {r : Int32} {h' : Hp} (C : CX X cX8_numberHere "WaterStairModel" 5 (some .boolean) rmX8_numberHere) {N : Nat} {h : Hp} {v0 : Nat} {v1 : Int32} {v2 : Int32} (hQ : QX X (some (vI r)) h' rmX8_numberHere.cells rmX8_numberHere.slots) (hf : f_X8_numberHere N h v0 v1 v2 = some ((r, h'))) : V X 0 0 h 0 [(0, vR 8 (some v0)), (1, vI v1), (2, vI v2)] [] := by
  unfold f_X8_numberHere at hf
  refine V_aload_n C dX8_numberHere_0 rfl 0 rfl ?_
  obtain ⟨r15, h16, er15, hf⟩ := o_b2 hf
  refine V_callV (as := []) (st := []) C ml_X8_102 fx8 (ct_X8_see er15) rfl ⟨by decide, by decide, by decide, by decide⟩ (Nat.le_of_ble_eq_true rfl) rfl dX8_numberHere_1 (cs' := 0) (sl' := 0) rfl rfl ?_
  refine V_pop C dX8_numberHere_4 rfl ?_
  refine V_aload_n C dX8_numberHere_5 rfl 0 rfl ?_
  refine V_aload_n C dX8_numberHere_6 rfl 0 rfl ?_
  refine V_getI C fl_X8_99 rfl dX8_numberHere_7 ?_
  obtain ⟨r17, er17, hf⟩ := o_b hf
  refine V_callV (as := [vI (hI h16 v0 14)]) (st := []) C ml_X8_117 fx8 (ct_X8_isDigit er17) rfl ⟨by decide, by decide, by decide, by decide⟩ (Nat.le_of_ble_eq_true rfl) rfl dX8_numberHere_10 (cs' := 0) (sl' := 0) rfl rfl ?_
  refine V_if_ne C 26 dX8_numberHere_13 (by decide) (fun c18 => ?_) (fun c18 => ?_)
  · have hf := i_f c18 hf
    refine V_aload_n C dX8_numberHere_26 rfl 0 rfl ?_
    refine V_getI C fl_X8_99 rfl dX8_numberHere_27 ?_
    refine V_istore_n (lv' := [(3, vI (hI h16 v0 14)), (0, vR 8 (some v0)), (1, vI v1), (2, vI v2)]) C dX8_numberHere_30 rfl (by decide) rfl ?_
    refine V_iconst (v := (0 : Int32)) C dX8_numberHere_31 (by decide) ?_
    refine V_istore (lv' := [(4, vI (0 : Int32)), (3, vI (hI h16 v0 14)), (0, vR 8 (some v0)), (1, vI v1), (2, vI v2)]) C dX8_numberHere_32 (by decide) rfl ?_
    refine V_sub (lv' := [(0, vR 8 (some v0)), (1, vI v1), (2, vI v2), (3, vI (hI h16 v0 14)), (4, vI (0 : Int32))]) [2, 3, 4, 1, 0] rfl ?_
    exact p_X8_numberHere_34 C hQ N _ _ _ _ _ _ hf
  · have hf := i_t c18 hf
    refine V_aload_n C dX8_numberHere_16 rfl 0 rfl ?_
    refine V_iconst (v := (0 : Int32)) C dX8_numberHere_17 (by decide) ?_
    refine V_aload_n C dX8_numberHere_18 rfl 0 rfl ?_
    refine V_getI C fl_X8_99 rfl dX8_numberHere_19 ?_
    obtain ⟨r19, h20, er19, hf⟩ := o_b2 hf
    refine V_callV (as := [vI (0 : Int32), vI (hI h16 v0 14)]) (st := []) C ml_X8_120 fx8 (ct_X8_fails er19) rfl ⟨by decide, by decide, by decide, by decide⟩ (Nat.le_of_ble_eq_true rfl) rfl dX8_numberHere_22 (cs' := 0) (sl' := 0) rfl rfl ?_
    obtain ⟨g21, hf⟩ := o_if hf
    obtain ⟨hf1, hf2⟩ := Prod.mk.inj (Option.some.inj hf)
    subst hf1
    subst hf2
    exact V_zret C (okI_z g21).1 hQ dX8_numberHere_25
theorem ct_X8_numberHere {r : Int32} {h' : Hp} {N : Nat} {h : Hp} {v0 : Nat} {v1 : Int32} {v2 : Int32} (hf : f_X8_numberHere N h v0 v1 v2 = some ((r, h'))) (l : Launch) (G : GT) : MC l G yX8_numberHere cX8_numberHere 5 (some .boolean) rmX8_numberHere h [vR 8 (some v0), vI v1, vI v2] (some (vI r)) h' := MC_of (by decide) rfl (Nat.le_of_ble_eq_true rfl) rfl (fun X C hQ hin => p_X8_numberHere C hQ hf)
abbrev rmX8_wordHere : Room := { frames := 2, cells := 0, slots := 0, locals := 46 }
def f_X8_wordHere (N : Nat) (h : Hp) (v0 : Nat) : Option (Int32 × Hp) := b2 (f_X8_isWord N h v0 (1937007984 : Int64)) (fun r1 h2 => if r1 = 0 then (b2 (f_X8_isWord N h2 v0 (1685026670 : Int64)) (fun r4 h5 => if r4 = 0 then (b2 (f_X8_isWord N h5 v0 (30064 : Int64)) (fun r7 h8 => if r7 = 0 then (b2 (f_X8_isWord N h8 v0 (1852138852 : Int64)) (fun r10 h11 => if r10 = 0 then (b2 (f_X8_isWord N h11 v0 (512736126322 : Int64)) (fun r13 h14 => if r13 = 0 then (b2 (f_X8_isWord N h14 v0 (422608400247 : Int64)) (fun r16 h17 => if r16 = 0 then (b2 (f_X8_isWord N h17 v0 (1751478885 : Int64)) (fun r19 h20 => if r19 = 0 then (b2 (f_X8_isWord N h20 v0 (499967685221 : Int64)) (fun r22 h23 => if r22 = 0 then (b2 (f_X8_isWord N h23 v0 (2003395685 : Int64)) (fun r25 h26 => if r25 = 0 then (b2 (f_X8_isWord N h26 v0 (1953067123 : Int64)) (fun r28 h29 => if r28 = 0 then (some (((-1 : Int32), h29))) else (some (((9 : Int32), h29))))) else (some (((8 : Int32), h26))))) else (some (((7 : Int32), h23))))) else (some (((6 : Int32), h20))))) else (some (((5 : Int32), h17))))) else (some (((4 : Int32), h14))))) else (some (((3 : Int32), h11))))) else (some (((2 : Int32), h8))))) else (some (((1 : Int32), h5))))) else (some (((0 : Int32), h2))))
set_option maxHeartbeats 4000000 in
set_option maxRecDepth 100000 in
theorem p_X8_wordHere {X : XT} {r : Int32} {h' : Hp} (C : CX X cX8_wordHere "WaterStairModel" 1 (some .int) rmX8_wordHere) {N : Nat} {h : Hp} {v0 : Nat} (hQ : QX X (some (vI r)) h' rmX8_wordHere.cells rmX8_wordHere.slots) (hf : f_X8_wordHere N h v0 = some ((r, h'))) : V X 0 0 h 0 [(0, vR 8 (some v0))] [] := by
  unfold f_X8_wordHere at hf
  refine V_aload_n C dX8_wordHere_0 rfl 0 rfl ?_
  refine V_ldc2 C kl_X8_131 dX8_wordHere_1 ?_
  obtain ⟨r1, h2, er1, hf⟩ := o_b2 hf
  refine V_callV (as := [vL (1937007984 : Int64)]) (st := []) C ml_X8_110 fx8 (ct_X8_isWord er1) rfl ⟨by decide, by decide, by decide, by decide⟩ (Nat.le_of_ble_eq_true rfl) rfl dX8_wordHere_4 (cs' := 0) (sl' := 0) rfl rfl ?_
  refine V_if_eq C 12 dX8_wordHere_7 (by decide) (fun c3 => ?_) (fun c3 => ?_)
  · have hf := i_t c3 hf
    refine V_aload_n C dX8_wordHere_12 rfl 0 rfl ?_
    refine V_ldc2 C kl_X8_133 dX8_wordHere_13 ?_
    obtain ⟨r4, h5, er4, hf⟩ := o_b2 hf
    refine V_callV (as := [vL (1685026670 : Int64)]) (st := []) C ml_X8_110 fx8 (ct_X8_isWord er4) rfl ⟨by decide, by decide, by decide, by decide⟩ (Nat.le_of_ble_eq_true rfl) rfl dX8_wordHere_16 (cs' := 0) (sl' := 0) rfl rfl ?_
    refine V_if_eq C 24 dX8_wordHere_19 (by decide) (fun c6 => ?_) (fun c6 => ?_)
    · have hf := i_t c6 hf
      refine V_aload_n C dX8_wordHere_24 rfl 0 rfl ?_
      refine V_ldc2 C kl_X8_135 dX8_wordHere_25 ?_
      obtain ⟨r7, h8, er7, hf⟩ := o_b2 hf
      refine V_callV (as := [vL (30064 : Int64)]) (st := []) C ml_X8_110 fx8 (ct_X8_isWord er7) rfl ⟨by decide, by decide, by decide, by decide⟩ (Nat.le_of_ble_eq_true rfl) rfl dX8_wordHere_28 (cs' := 0) (sl' := 0) rfl rfl ?_
      refine V_if_eq C 36 dX8_wordHere_31 (by decide) (fun c9 => ?_) (fun c9 => ?_)
      · have hf := i_t c9 hf
        refine V_aload_n C dX8_wordHere_36 rfl 0 rfl ?_
        refine V_ldc2 C kl_X8_137 dX8_wordHere_37 ?_
        obtain ⟨r10, h11, er10, hf⟩ := o_b2 hf
        refine V_callV (as := [vL (1852138852 : Int64)]) (st := []) C ml_X8_110 fx8 (ct_X8_isWord er10) rfl ⟨by decide, by decide, by decide, by decide⟩ (Nat.le_of_ble_eq_true rfl) rfl dX8_wordHere_40 (cs' := 0) (sl' := 0) rfl rfl ?_
        refine V_if_eq C 48 dX8_wordHere_43 (by decide) (fun c12 => ?_) (fun c12 => ?_)
        · have hf := i_t c12 hf
          refine V_aload_n C dX8_wordHere_48 rfl 0 rfl ?_
          refine V_ldc2 C kl_X8_139 dX8_wordHere_49 ?_
          obtain ⟨r13, h14, er13, hf⟩ := o_b2 hf
          refine V_callV (as := [vL (512736126322 : Int64)]) (st := []) C ml_X8_110 fx8 (ct_X8_isWord er13) rfl ⟨by decide, by decide, by decide, by decide⟩ (Nat.le_of_ble_eq_true rfl) rfl dX8_wordHere_52 (cs' := 0) (sl' := 0) rfl rfl ?_
          refine V_if_eq C 60 dX8_wordHere_55 (by decide) (fun c15 => ?_) (fun c15 => ?_)
          · have hf := i_t c15 hf
            refine V_aload_n C dX8_wordHere_60 rfl 0 rfl ?_
            refine V_ldc2 C kl_X8_141 dX8_wordHere_61 ?_
            obtain ⟨r16, h17, er16, hf⟩ := o_b2 hf
            refine V_callV (as := [vL (422608400247 : Int64)]) (st := []) C ml_X8_110 fx8 (ct_X8_isWord er16) rfl ⟨by decide, by decide, by decide, by decide⟩ (Nat.le_of_ble_eq_true rfl) rfl dX8_wordHere_64 (cs' := 0) (sl' := 0) rfl rfl ?_
            refine V_if_eq C 72 dX8_wordHere_67 (by decide) (fun c18 => ?_) (fun c18 => ?_)
            · have hf := i_t c18 hf
              refine V_aload_n C dX8_wordHere_72 rfl 0 rfl ?_
              refine V_ldc2 C kl_X8_143 dX8_wordHere_73 ?_
              obtain ⟨r19, h20, er19, hf⟩ := o_b2 hf
              refine V_callV (as := [vL (1751478885 : Int64)]) (st := []) C ml_X8_110 fx8 (ct_X8_isWord er19) rfl ⟨by decide, by decide, by decide, by decide⟩ (Nat.le_of_ble_eq_true rfl) rfl dX8_wordHere_76 (cs' := 0) (sl' := 0) rfl rfl ?_
              refine V_if_eq C 85 dX8_wordHere_79 (by decide) (fun c21 => ?_) (fun c21 => ?_)
              · have hf := i_t c21 hf
                refine V_aload_n C dX8_wordHere_85 rfl 0 rfl ?_
                refine V_ldc2 C kl_X8_145 dX8_wordHere_86 ?_
                obtain ⟨r22, h23, er22, hf⟩ := o_b2 hf
                refine V_callV (as := [vL (499967685221 : Int64)]) (st := []) C ml_X8_110 fx8 (ct_X8_isWord er22) rfl ⟨by decide, by decide, by decide, by decide⟩ (Nat.le_of_ble_eq_true rfl) rfl dX8_wordHere_89 (cs' := 0) (sl' := 0) rfl rfl ?_
                refine V_if_eq C 98 dX8_wordHere_92 (by decide) (fun c24 => ?_) (fun c24 => ?_)
                · have hf := i_t c24 hf
                  refine V_aload_n C dX8_wordHere_98 rfl 0 rfl ?_
                  refine V_ldc2 C kl_X8_147 dX8_wordHere_99 ?_
                  obtain ⟨r25, h26, er25, hf⟩ := o_b2 hf
                  refine V_callV (as := [vL (2003395685 : Int64)]) (st := []) C ml_X8_110 fx8 (ct_X8_isWord er25) rfl ⟨by decide, by decide, by decide, by decide⟩ (Nat.le_of_ble_eq_true rfl) rfl dX8_wordHere_102 (cs' := 0) (sl' := 0) rfl rfl ?_
                  refine V_if_eq C 113 dX8_wordHere_105 (by decide) (fun c27 => ?_) (fun c27 => ?_)
                  · have hf := i_t c27 hf
                    refine V_aload_n C dX8_wordHere_113 rfl 0 rfl ?_
                    refine V_ldc2 C kl_X8_149 dX8_wordHere_114 ?_
                    obtain ⟨r28, h29, er28, hf⟩ := o_b2 hf
                    refine V_callV (as := [vL (1953067123 : Int64)]) (st := []) C ml_X8_110 fx8 (ct_X8_isWord er28) rfl ⟨by decide, by decide, by decide, by decide⟩ (Nat.le_of_ble_eq_true rfl) rfl dX8_wordHere_117 (cs' := 0) (sl' := 0) rfl rfl ?_
                    refine V_if_eq C 128 dX8_wordHere_120 (by decide) (fun c30 => ?_) (fun c30 => ?_)
                    · have hf := i_t c30 hf
                      refine V_iconst (v := (-1 : Int32)) C dX8_wordHere_128 (by decide) ?_
                      obtain ⟨hf1, hf2⟩ := Prod.mk.inj (Option.some.inj hf)
                      subst hf1
                      subst hf2
                      exact V_iret C hQ dX8_wordHere_129
                    · have hf := i_f c30 hf
                      refine V_bipush (v := (9 : Int32)) C dX8_wordHere_123 (by decide) ?_
                      refine V_goto C 129 dX8_wordHere_125 (by decide) ?_
                      obtain ⟨hf1, hf2⟩ := Prod.mk.inj (Option.some.inj hf)
                      subst hf1
                      subst hf2
                      exact V_iret C hQ dX8_wordHere_129
                  · have hf := i_f c27 hf
                    refine V_bipush (v := (8 : Int32)) C dX8_wordHere_108 (by decide) ?_
                    refine V_goto C 129 dX8_wordHere_110 (by decide) ?_
                    obtain ⟨hf1, hf2⟩ := Prod.mk.inj (Option.some.inj hf)
                    subst hf1
                    subst hf2
                    exact V_iret C hQ dX8_wordHere_129
                · have hf := i_f c24 hf
                  refine V_bipush (v := (7 : Int32)) C dX8_wordHere_95 (by decide) ?_
                  obtain ⟨hf1, hf2⟩ := Prod.mk.inj (Option.some.inj hf)
                  subst hf1
                  subst hf2
                  exact V_iret C hQ dX8_wordHere_97
              · have hf := i_f c21 hf
                refine V_bipush (v := (6 : Int32)) C dX8_wordHere_82 (by decide) ?_
                obtain ⟨hf1, hf2⟩ := Prod.mk.inj (Option.some.inj hf)
                subst hf1
                subst hf2
                exact V_iret C hQ dX8_wordHere_84
            · have hf := i_f c18 hf
              refine V_iconst (v := (5 : Int32)) C dX8_wordHere_70 (by decide) ?_
              obtain ⟨hf1, hf2⟩ := Prod.mk.inj (Option.some.inj hf)
              subst hf1
              subst hf2
              exact V_iret C hQ dX8_wordHere_71
          · have hf := i_f c15 hf
            refine V_iconst (v := (4 : Int32)) C dX8_wordHere_58 (by decide) ?_
            obtain ⟨hf1, hf2⟩ := Prod.mk.inj (Option.some.inj hf)
            subst hf1
            subst hf2
            exact V_iret C hQ dX8_wordHere_59
        · have hf := i_f c12 hf
          refine V_iconst (v := (3 : Int32)) C dX8_wordHere_46 (by decide) ?_
          obtain ⟨hf1, hf2⟩ := Prod.mk.inj (Option.some.inj hf)
          subst hf1
          subst hf2
          exact V_iret C hQ dX8_wordHere_47
      · have hf := i_f c9 hf
        refine V_iconst (v := (2 : Int32)) C dX8_wordHere_34 (by decide) ?_
        obtain ⟨hf1, hf2⟩ := Prod.mk.inj (Option.some.inj hf)
        subst hf1
        subst hf2
        exact V_iret C hQ dX8_wordHere_35
    · have hf := i_f c6 hf
      refine V_iconst (v := (1 : Int32)) C dX8_wordHere_22 (by decide) ?_
      obtain ⟨hf1, hf2⟩ := Prod.mk.inj (Option.some.inj hf)
      subst hf1
      subst hf2
      exact V_iret C hQ dX8_wordHere_23
  · have hf := i_f c3 hf
    refine V_iconst (v := (0 : Int32)) C dX8_wordHere_10 (by decide) ?_
    obtain ⟨hf1, hf2⟩ := Prod.mk.inj (Option.some.inj hf)
    subst hf1
    subst hf2
    exact V_iret C hQ dX8_wordHere_11
theorem ct_X8_wordHere {r : Int32} {h' : Hp} {N : Nat} {h : Hp} {v0 : Nat} (hf : f_X8_wordHere N h v0 = some ((r, h'))) (l : Launch) (G : GT) : MC l G yX8_wordHere cX8_wordHere 1 (some .int) rmX8_wordHere h [vR 8 (some v0)] (some (vI r)) h' := MC_of (by decide) rfl (Nat.le_of_ble_eq_true rfl) rfl (fun X C hQ hin => p_X8_wordHere C hQ hf)
abbrev rmX8_puts : Room := { frames := 0, cells := 0, slots := 0, locals := 0 }
def f_X8_puts (h : Hp) (v0 : Nat) (v1 : Int32) (v2 : Int32) : Option (Hp) := Option.bind (hP h v0 3) (fun q1 => Option.bind (hP h v0 4) (fun q2 => if 0 ≤ hI h v0 17 ∧ (hI h v0 17).toNatClampNeg < hL h q2 then (if 0 ≤ ((400 : Int32) * (hI h v0 17)) + (hI h q2 ((hI h v0 17).toNatClampNeg)) ∧ (((400 : Int32) * (hI h v0 17)) + (hI h q2 ((hI h v0 17).toNatClampNeg))).toNatClampNeg < hL h q1 then (lt (sI h q1 ((((400 : Int32) * (hI h v0 17)) + (hI h q2 ((hI h v0 17).toNatClampNeg))).toNatClampNeg) (v1 + ((16 : Int32) * v2))) (fun h5 => Option.bind (hP h5 v0 4) (fun q6 => if 0 ≤ hI h5 v0 17 ∧ (hI h5 v0 17).toNatClampNeg < hL h5 q6 then (lt ((hI h5 q6 ((hI h5 v0 17).toNatClampNeg)) + (1 : Int32)) (fun y8 => if 0 ≤ hI h5 v0 17 ∧ (hI h5 v0 17).toNatClampNeg < hL h5 q6 then (lt (sI h5 q6 ((hI h5 v0 17).toNatClampNeg) y8) (fun h10 => some h10)) else none)) else none))) else none) else none))
set_option maxHeartbeats 4000000 in
set_option maxRecDepth 100000 in
theorem p_X8_puts {X : XT} {h' : Hp} (C : CX X cX8_puts "WaterStairModel" 3 none rmX8_puts) {h : Hp} {v0 : Nat} {v1 : Int32} {v2 : Int32} (hQ : QX X none h' rmX8_puts.cells rmX8_puts.slots) (hf : f_X8_puts h v0 v1 v2 = some h') : V X 0 0 h 0 [(0, vR 8 (some v0)), (1, vI v1), (2, vI v2)] [] := by
  unfold f_X8_puts at hf
  refine V_aload_n C dX8_puts_0 rfl 0 rfl ?_
  obtain ⟨q1, eq1, hf⟩ := o_b hf
  refine V_getR C fl_X8_13 rfl rfl (by decide) eq1 dX8_puts_1 ?_
  refine V_sipush (v := (400 : Int32)) C dX8_puts_4 (by decide) ?_
  refine V_aload_n C dX8_puts_7 rfl 0 rfl ?_
  refine V_getI C fl_X8_151 rfl dX8_puts_8 ?_
  refine V_imul C dX8_puts_11 ?_
  refine V_aload_n C dX8_puts_12 rfl 0 rfl ?_
  obtain ⟨q2, eq2, hf⟩ := o_b hf
  refine V_getR C fl_X8_17 rfl rfl (by decide) eq2 dX8_puts_13 ?_
  refine V_aload_n C dX8_puts_16 rfl 0 rfl ?_
  refine V_getI C fl_X8_151 rfl dX8_puts_17 ?_
  obtain ⟨g3, hf⟩ := o_if hf
  refine V_iald C (vp_g g3) rfl dX8_puts_20 ?_
  refine V_iadd C dX8_puts_21 ?_
  refine V_iload_n C dX8_puts_22 rfl 1 rfl ?_
  refine V_bipush (v := (16 : Int32)) C dX8_puts_23 (by decide) ?_
  refine V_iload_n C dX8_puts_25 rfl 2 rfl ?_
  refine V_imul C dX8_puts_26 ?_
  refine V_iadd C dX8_puts_27 ?_
  obtain ⟨g4, hf⟩ := o_if hf
  obtain ⟨h5, eh5, hf⟩ := o_l hf
  refine V_iast C (vp_g g4) rfl dX8_puts_28 (V_eqH eh5 ?_)
  refine V_aload_n C dX8_puts_29 rfl 0 rfl ?_
  obtain ⟨q6, eq6, hf⟩ := o_b hf
  refine V_getR C fl_X8_17 rfl rfl (by decide) eq6 dX8_puts_30 ?_
  refine V_aload_n C dX8_puts_33 rfl 0 rfl ?_
  refine V_getI C fl_X8_151 rfl dX8_puts_34 ?_
  refine V_dup2 C dX8_puts_37 rfl rfl ?_
  obtain ⟨g7, hf⟩ := o_if hf
  refine V_iald C (vp_g g7) rfl dX8_puts_38 ?_
  refine V_iconst (v := (1 : Int32)) C dX8_puts_39 (by decide) ?_
  refine V_iadd C dX8_puts_40 ?_
  obtain ⟨y8, ey8, hf⟩ := o_l hf
  refine V_eqI ey8 ?_
  obtain ⟨g9, hf⟩ := o_if hf
  obtain ⟨h10, eh10, hf⟩ := o_l hf
  refine V_iast C (vp_g g9) rfl dX8_puts_41 (V_eqH eh10 ?_)
  have hf := Option.some.inj hf
  subst hf
  exact V_vret C hQ dX8_puts_42
theorem ct_X8_puts {h' : Hp} {h : Hp} {v0 : Nat} {v1 : Int32} {v2 : Int32} (hf : f_X8_puts h v0 v1 v2 = some h') (l : Launch) (G : GT) : MC l G yX8_puts cX8_puts 3 none rmX8_puts h [vR 8 (some v0), vI v1, vI v2] none h' := MC_of (by decide) rfl (Nat.le_of_ble_eq_true rfl) rfl (fun X C hQ hin => p_X8_puts C hQ hf)
abbrev rmX8_makes : Room := { frames := 1, cells := 0, slots := 0, locals := 22 }
def f_X8_makes (h : Hp) (v0 : Nat) (v1 : Int32) : Option (Int32 × Hp) := if (hI h v0 18) = (60 : Int32) then (b2 (f_X8_fails h v0 (3 : Int32) v1) (fun r3 h4 => if r3 = 0 ∨ r3 = 1 then (some ((r3, h4))) else none)) else (lt (sI h v0 18 ((hI h v0 18) + (1 : Int32))) (fun h2 => some (((1 : Int32), h2))))
set_option maxHeartbeats 4000000 in
set_option maxRecDepth 100000 in
theorem p_X8_makes {X : XT} {r : Int32} {h' : Hp} (C : CX X cX8_makes "WaterStairModel" 2 (some .boolean) rmX8_makes) {h : Hp} {v0 : Nat} {v1 : Int32} (hQ : QX X (some (vI r)) h' rmX8_makes.cells rmX8_makes.slots) (hf : f_X8_makes h v0 v1 = some ((r, h'))) : V X 0 0 h 0 [(0, vR 8 (some v0)), (1, vI v1)] [] := by
  unfold f_X8_makes at hf
  refine V_aload_n C dX8_makes_0 rfl 0 rfl ?_
  refine V_getI C fl_X8_154 rfl dX8_makes_1 ?_
  refine V_bipush (v := (60 : Int32)) C dX8_makes_4 (by decide) ?_
  refine V_icmp_ne C 16 dX8_makes_6 (by decide) (fun c1 => ?_) (fun c1 => ?_)
  · have hf := i_f c1 hf
    refine V_aload_n C dX8_makes_16 rfl 0 rfl ?_
    refine V_dup C dX8_makes_17 rfl ?_
    refine V_getI C fl_X8_154 rfl dX8_makes_18 ?_
    refine V_iconst (v := (1 : Int32)) C dX8_makes_21 (by decide) ?_
    refine V_iadd C dX8_makes_22 ?_
    obtain ⟨h2, eh2, hf⟩ := o_l hf
    refine V_putI C nf_X8_154 rfl (okI_int _) dX8_makes_23 (V_eqH eh2 ?_)
    refine V_iconst (v := (1 : Int32)) C dX8_makes_26 (by decide) ?_
    obtain ⟨hf1, hf2⟩ := Prod.mk.inj (Option.some.inj hf)
    subst hf1
    subst hf2
    exact V_zret C (by decide) hQ dX8_makes_27
  · have hf := i_t c1 hf
    refine V_aload_n C dX8_makes_9 rfl 0 rfl ?_
    refine V_iconst (v := (3 : Int32)) C dX8_makes_10 (by decide) ?_
    refine V_iload_n C dX8_makes_11 rfl 1 rfl ?_
    obtain ⟨r3, h4, er3, hf⟩ := o_b2 hf
    refine V_callV (as := [vI (3 : Int32), vI v1]) (st := []) C ml_X8_120 fx8 (ct_X8_fails er3) rfl ⟨by decide, by decide, by decide, by decide⟩ (Nat.le_of_ble_eq_true rfl) rfl dX8_makes_12 (cs' := 0) (sl' := 0) rfl rfl ?_
    obtain ⟨g5, hf⟩ := o_if hf
    obtain ⟨hf1, hf2⟩ := Prod.mk.inj (Option.some.inj hf)
    subst hf1
    subst hf2
    exact V_zret C (okI_z g5).1 hQ dX8_makes_15
theorem ct_X8_makes {r : Int32} {h' : Hp} {h : Hp} {v0 : Nat} {v1 : Int32} (hf : f_X8_makes h v0 v1 = some ((r, h'))) (l : Launch) (G : GT) : MC l G yX8_makes cX8_makes 2 (some .boolean) rmX8_makes h [vR 8 (some v0), vI v1] (some (vI r)) h' := MC_of (by decide) rfl (Nat.le_of_ble_eq_true rfl) rfl (fun X C hQ hin => p_X8_makes C hQ hf)
abbrev rmX8_opens : Room := { frames := 1, cells := 0, slots := 0, locals := 22 }
def f_X8_opens (h : Hp) (v0 : Nat) (v1 : Int32) : Option (Int32 × Hp) := if (hI h v0 19) = (10 : Int32) then (b2 (f_X8_fails h v0 (2 : Int32) (hI h v0 14)) (fun r7 h8 => if r7 = 0 ∨ r7 = 1 then (some ((r7, h8))) else none)) else (lt (sI h v0 19 ((hI h v0 19) + (1 : Int32))) (fun h2 => Option.bind (hP h2 v0 21) (fun q3 => if 0 ≤ hI h2 v0 22 ∧ (hI h2 v0 22).toNatClampNeg < hL h2 q3 then (lt (sI h2 q3 ((hI h2 v0 22).toNatClampNeg) v1) (fun h5 => lt (sI h5 v0 22 ((hI h5 v0 22) + (1 : Int32))) (fun h6 => some (((1 : Int32), h6))))) else none)))
set_option maxHeartbeats 4000000 in
set_option maxRecDepth 100000 in
theorem p_X8_opens {X : XT} {r : Int32} {h' : Hp} (C : CX X cX8_opens "WaterStairModel" 2 (some .boolean) rmX8_opens) {h : Hp} {v0 : Nat} {v1 : Int32} (hQ : QX X (some (vI r)) h' rmX8_opens.cells rmX8_opens.slots) (hf : f_X8_opens h v0 v1 = some ((r, h'))) : V X 0 0 h 0 [(0, vR 8 (some v0)), (1, vI v1)] [] := by
  unfold f_X8_opens at hf
  refine V_aload_n C dX8_opens_0 rfl 0 rfl ?_
  refine V_getI C fl_X8_157 rfl dX8_opens_1 ?_
  refine V_bipush (v := (10 : Int32)) C dX8_opens_4 (by decide) ?_
  refine V_icmp_ne C 19 dX8_opens_6 (by decide) (fun c1 => ?_) (fun c1 => ?_)
  · have hf := i_f c1 hf
    refine V_aload_n C dX8_opens_19 rfl 0 rfl ?_
    refine V_dup C dX8_opens_20 rfl ?_
    refine V_getI C fl_X8_157 rfl dX8_opens_21 ?_
    refine V_iconst (v := (1 : Int32)) C dX8_opens_24 (by decide) ?_
    refine V_iadd C dX8_opens_25 ?_
    obtain ⟨h2, eh2, hf⟩ := o_l hf
    refine V_putI C nf_X8_157 rfl (okI_int _) dX8_opens_26 (V_eqH eh2 ?_)
    refine V_aload_n C dX8_opens_29 rfl 0 rfl ?_
    obtain ⟨q3, eq3, hf⟩ := o_b hf
    refine V_getR C fl_X8_32 rfl rfl (by decide) eq3 dX8_opens_30 ?_
    refine V_aload_n C dX8_opens_33 rfl 0 rfl ?_
    refine V_getI C fl_X8_160 rfl dX8_opens_34 ?_
    refine V_iload_n C dX8_opens_37 rfl 1 rfl ?_
    obtain ⟨g4, hf⟩ := o_if hf
    obtain ⟨h5, eh5, hf⟩ := o_l hf
    refine V_iast C (vp_g g4) rfl dX8_opens_38 (V_eqH eh5 ?_)
    refine V_aload_n C dX8_opens_39 rfl 0 rfl ?_
    refine V_dup C dX8_opens_40 rfl ?_
    refine V_getI C fl_X8_160 rfl dX8_opens_41 ?_
    refine V_iconst (v := (1 : Int32)) C dX8_opens_44 (by decide) ?_
    refine V_iadd C dX8_opens_45 ?_
    obtain ⟨h6, eh6, hf⟩ := o_l hf
    refine V_putI C nf_X8_160 rfl (okI_int _) dX8_opens_46 (V_eqH eh6 ?_)
    refine V_iconst (v := (1 : Int32)) C dX8_opens_49 (by decide) ?_
    obtain ⟨hf1, hf2⟩ := Prod.mk.inj (Option.some.inj hf)
    subst hf1
    subst hf2
    exact V_zret C (by decide) hQ dX8_opens_50
  · have hf := i_t c1 hf
    refine V_aload_n C dX8_opens_9 rfl 0 rfl ?_
    refine V_iconst (v := (2 : Int32)) C dX8_opens_10 (by decide) ?_
    refine V_aload_n C dX8_opens_11 rfl 0 rfl ?_
    refine V_getI C fl_X8_99 rfl dX8_opens_12 ?_
    obtain ⟨r7, h8, er7, hf⟩ := o_b2 hf
    refine V_callV (as := [vI (2 : Int32), vI (hI h v0 14)]) (st := []) C ml_X8_120 fx8 (ct_X8_fails er7) rfl ⟨by decide, by decide, by decide, by decide⟩ (Nat.le_of_ble_eq_true rfl) rfl dX8_opens_15 (cs' := 0) (sl' := 0) rfl rfl ?_
    obtain ⟨g9, hf⟩ := o_if hf
    obtain ⟨hf1, hf2⟩ := Prod.mk.inj (Option.some.inj hf)
    subst hf1
    subst hf2
    exact V_zret C (okI_z g9).1 hQ dX8_opens_18
theorem ct_X8_opens {r : Int32} {h' : Hp} {h : Hp} {v0 : Nat} {v1 : Int32} (hf : f_X8_opens h v0 v1 = some ((r, h'))) (l : Launch) (G : GT) : MC l G yX8_opens cX8_opens 2 (some .boolean) rmX8_opens h [vR 8 (some v0), vI v1] (some (vI r)) h' := MC_of (by decide) rfl (Nat.le_of_ble_eq_true rfl) rfl (fun X C hQ hin => p_X8_opens C hQ hf)
abbrev rmX8_strength : Room := { frames := 0, cells := 0, slots := 0, locals := 0 }
def f_X8_strength (h : Hp) (v0 : Int32) : Option (Int32) := if v0 = (13 : Int32) then (some (1 : Int32)) else (if v0 = (12 : Int32) then (some (2 : Int32)) else (if v0 = (11 : Int32) then (some (3 : Int32)) else (some (0 : Int32))))
set_option maxHeartbeats 4000000 in
set_option maxRecDepth 100000 in
theorem p_X8_strength {X : XT} {r : Int32} (C : CX X cX8_strength "WaterStairModel" 1 (some .int) rmX8_strength) {h : Hp} {v0 : Int32} (hQ : QX X (some (vI r)) h rmX8_strength.cells rmX8_strength.slots) (hf : f_X8_strength h v0 = some r) : V X 0 0 h 0 [(0, vI v0)] [] := by
  unfold f_X8_strength at hf
  refine V_iload_n C dX8_strength_0 rfl 0 rfl ?_
  refine V_bipush (v := (13 : Int32)) C dX8_strength_1 (by decide) ?_
  refine V_icmp_ne C 10 dX8_strength_3 (by decide) (fun c1 => ?_) (fun c1 => ?_)
  · have hf := i_f c1 hf
    refine V_iload_n C dX8_strength_10 rfl 0 rfl ?_
    refine V_bipush (v := (12 : Int32)) C dX8_strength_11 (by decide) ?_
    refine V_icmp_ne C 20 dX8_strength_13 (by decide) (fun c2 => ?_) (fun c2 => ?_)
    · have hf := i_f c2 hf
      refine V_iload_n C dX8_strength_20 rfl 0 rfl ?_
      refine V_bipush (v := (11 : Int32)) C dX8_strength_21 (by decide) ?_
      refine V_icmp_ne C 30 dX8_strength_23 (by decide) (fun c3 => ?_) (fun c3 => ?_)
      · have hf := i_f c3 hf
        refine V_iconst (v := (0 : Int32)) C dX8_strength_30 (by decide) ?_
        have hf := Option.some.inj hf
        subst hf
        exact V_iret C hQ dX8_strength_31
      · have hf := i_t c3 hf
        refine V_iconst (v := (3 : Int32)) C dX8_strength_26 (by decide) ?_
        refine V_goto C 31 dX8_strength_27 (by decide) ?_
        have hf := Option.some.inj hf
        subst hf
        exact V_iret C hQ dX8_strength_31
    · have hf := i_t c2 hf
      refine V_iconst (v := (2 : Int32)) C dX8_strength_16 (by decide) ?_
      refine V_goto C 31 dX8_strength_17 (by decide) ?_
      have hf := Option.some.inj hf
      subst hf
      exact V_iret C hQ dX8_strength_31
  · have hf := i_t c1 hf
    refine V_iconst (v := (1 : Int32)) C dX8_strength_6 (by decide) ?_
    refine V_goto C 31 dX8_strength_7 (by decide) ?_
    have hf := Option.some.inj hf
    subst hf
    exact V_iret C hQ dX8_strength_31
theorem ct_X8_strength {r : Int32} {h : Hp} {v0 : Int32} (hf : f_X8_strength h v0 = some r) (l : Launch) (G : GT) : MC l G yX8_strength cX8_strength 1 (some .int) rmX8_strength h [vI v0] (some (vI r)) h := MC_of (by decide) rfl (Nat.le_of_ble_eq_true rfl) rfl (fun X C hQ hin => p_X8_strength C hQ hf)
abbrev rmX8_settles : Room := { frames := 1, cells := 0, slots := 0, locals := 22 }
def f_X8_settles_0 (N : Nat) : Nat → Hp → Nat → Int32 → Option (Hp)
  | 0, _, _, _ => none
  | n + 1, h, v0, v1 => if (hI h v0 22) ≤ 0 then (some h) else (Option.bind (hP h v0 21) (fun q2 => if 0 ≤ (hI h v0 22) - (1 : Int32) ∧ ((hI h v0 22) - (1 : Int32)).toNatClampNeg < hL h q2 then (Option.bind (f_X8_strength h (hI h q2 (((hI h v0 22) - (1 : Int32)).toNatClampNeg))) (fun r4 => if r4 < v1 then (some h) else (lt (sI h v0 22 ((hI h v0 22) - (1 : Int32))) (fun h6 => Option.bind (hP h6 v0 21) (fun q7 => if 0 ≤ hI h6 v0 22 ∧ (hI h6 v0 22).toNatClampNeg < hL h6 q7 then (Option.bind (f_X8_puts h6 v0 (hI h6 q7 ((hI h6 v0 22).toNatClampNeg)) (0 : Int32)) (fun h9 => Option.bind (hP h9 v0 21) (fun q10 => if 0 ≤ hI h9 v0 22 ∧ (hI h9 v0 22).toNatClampNeg < hL h9 q10 then (if (hI h9 q10 ((hI h9 v0 22).toNatClampNeg)) = (11 : Int32) then (lt (sI h9 v0 19 ((hI h9 v0 19) - (1 : Int32))) (fun h13 => f_X8_settles_0 N n h13 v0 v1)) else (f_X8_settles_0 N n h9 v0 v1)) else none))) else none))))) else none))
set_option maxHeartbeats 4000000 in
set_option maxRecDepth 100000 in
theorem p_X8_settles_0 {X : XT} {h' : Hp} (C : CX X cX8_settles "WaterStairModel" 2 none rmX8_settles) (hQ : QX X none h' rmX8_settles.cells rmX8_settles.slots) {N : Nat}  : ∀ (n : Nat) (h : Hp) (v0 : Nat) (v1 : Int32), f_X8_settles_0 N n h v0 v1 = some h' → V X 0 0 h 0 [(0, vR 8 (some v0)), (1, vI v1)] [] := by
  intro n
  induction n with
  | zero =>
    intro h v0 v1 hf
    have hf : (none : Option (Hp)) = some _ := hf
    cases hf
  | succ n ih =>
    intro h v0 v1 hf
    rw [f_X8_settles_0] at hf
    refine V_aload_n C dX8_settles_0 rfl 0 rfl ?_
    refine V_getI C fl_X8_160 rfl dX8_settles_1 ?_
    refine V_if_le C 76 dX8_settles_4 (by decide) (fun c1 => ?_) (fun c1 => ?_)
    · have hf := i_t c1 hf
      have hf := Option.some.inj hf
      subst hf
      exact V_vret C hQ dX8_settles_76
    · have hf := i_f c1 hf
      refine V_aload_n C dX8_settles_7 rfl 0 rfl ?_
      obtain ⟨q2, eq2, hf⟩ := o_b hf
      refine V_getR C fl_X8_32 rfl rfl (by decide) eq2 dX8_settles_8 ?_
      refine V_aload_n C dX8_settles_11 rfl 0 rfl ?_
      refine V_getI C fl_X8_160 rfl dX8_settles_12 ?_
      refine V_iconst (v := (1 : Int32)) C dX8_settles_15 (by decide) ?_
      refine V_isub C dX8_settles_16 ?_
      obtain ⟨g3, hf⟩ := o_if hf
      refine V_iald C (vp_g g3) rfl dX8_settles_17 ?_
      obtain ⟨r4, er4, hf⟩ := o_b hf
      refine V_callS (as := [vI (hI h q2 (((hI h v0 22) - (1 : Int32)).toNatClampNeg))]) (st := []) C ml_X8_163 (ct_X8_strength er4) rfl ⟨by decide, by decide, by decide, by decide⟩ (Nat.le_of_ble_eq_true rfl) rfl dX8_settles_18 (cs' := 0) (sl' := 0) rfl rfl ?_
      refine V_iload_n C dX8_settles_21 rfl 1 rfl ?_
      refine V_icmp_lt C 76 dX8_settles_22 (by decide) (fun c5 => ?_) (fun c5 => ?_)
      · have hf := i_t c5 hf
        have hf := Option.some.inj hf
        subst hf
        exact V_vret C hQ dX8_settles_76
      · have hf := i_f c5 hf
        refine V_aload_n C dX8_settles_25 rfl 0 rfl ?_
        refine V_dup C dX8_settles_26 rfl ?_
        refine V_getI C fl_X8_160 rfl dX8_settles_27 ?_
        refine V_iconst (v := (1 : Int32)) C dX8_settles_30 (by decide) ?_
        refine V_isub C dX8_settles_31 ?_
        obtain ⟨h6, eh6, hf⟩ := o_l hf
        refine V_putI C nf_X8_160 rfl (okI_int _) dX8_settles_32 (V_eqH eh6 ?_)
        refine V_aload_n C dX8_settles_35 rfl 0 rfl ?_
        refine V_aload_n C dX8_settles_36 rfl 0 rfl ?_
        obtain ⟨q7, eq7, hf⟩ := o_b hf
        refine V_getR C fl_X8_32 rfl rfl (by decide) eq7 dX8_settles_37 ?_
        refine V_aload_n C dX8_settles_40 rfl 0 rfl ?_
        refine V_getI C fl_X8_160 rfl dX8_settles_41 ?_
        obtain ⟨g8, hf⟩ := o_if hf
        refine V_iald C (vp_g g8) rfl dX8_settles_44 ?_
        refine V_iconst (v := (0 : Int32)) C dX8_settles_45 (by decide) ?_
        obtain ⟨h9, eh9, hf⟩ := o_b hf
        refine V_callV (as := [vI (hI h6 q7 ((hI h6 v0 22).toNatClampNeg)), vI (0 : Int32)]) (st := []) C ml_X8_167 fx8 (ct_X8_puts eh9) rfl ⟨by decide, by decide, by decide, by decide⟩ (Nat.le_of_ble_eq_true rfl) rfl dX8_settles_46 (cs' := 0) (sl' := 0) rfl rfl ?_
        refine V_aload_n C dX8_settles_49 rfl 0 rfl ?_
        obtain ⟨q10, eq10, hf⟩ := o_b hf
        refine V_getR C fl_X8_32 rfl rfl (by decide) eq10 dX8_settles_50 ?_
        refine V_aload_n C dX8_settles_53 rfl 0 rfl ?_
        refine V_getI C fl_X8_160 rfl dX8_settles_54 ?_
        obtain ⟨g11, hf⟩ := o_if hf
        refine V_iald C (vp_g g11) rfl dX8_settles_57 ?_
        refine V_bipush (v := (11 : Int32)) C dX8_settles_58 (by decide) ?_
        refine V_icmp_ne C 0 dX8_settles_60 (by decide) (fun c12 => ?_) (fun c12 => ?_)
        · have hf := i_f c12 hf
          refine V_sub (lv' := [(0, vR 8 (some v0)), (1, vI v1)]) [0, 1] rfl ?_
          exact ih _ _ _ hf
        · have hf := i_t c12 hf
          refine V_aload_n C dX8_settles_63 rfl 0 rfl ?_
          refine V_dup C dX8_settles_64 rfl ?_
          refine V_getI C fl_X8_157 rfl dX8_settles_65 ?_
          refine V_iconst (v := (1 : Int32)) C dX8_settles_68 (by decide) ?_
          refine V_isub C dX8_settles_69 ?_
          obtain ⟨h13, eh13, hf⟩ := o_l hf
          refine V_putI C nf_X8_157 rfl (okI_int _) dX8_settles_70 (V_eqH eh13 ?_)
          refine V_goto C 0 dX8_settles_73 (by decide) ?_
          refine V_sub (lv' := [(0, vR 8 (some v0)), (1, vI v1)]) [0, 1] rfl ?_
          exact ih _ _ _ hf
def f_X8_settles (N : Nat) (h : Hp) (v0 : Nat) (v1 : Int32) : Option (Hp) := f_X8_settles_0 N N h v0 v1
set_option maxHeartbeats 4000000 in
set_option maxRecDepth 100000 in
theorem p_X8_settles {X : XT} {h' : Hp} (C : CX X cX8_settles "WaterStairModel" 2 none rmX8_settles) {N : Nat} {h : Hp} {v0 : Nat} {v1 : Int32} (hQ : QX X none h' rmX8_settles.cells rmX8_settles.slots) (hf : f_X8_settles N h v0 v1 = some h') : V X 0 0 h 0 [(0, vR 8 (some v0)), (1, vI v1)] [] := by
  unfold f_X8_settles at hf
  refine V_sub (lv' := [(0, vR 8 (some v0)), (1, vI v1)]) [0, 1] rfl ?_
  exact p_X8_settles_0 C hQ N _ _ _ hf
theorem ct_X8_settles {h' : Hp} {N : Nat} {h : Hp} {v0 : Nat} {v1 : Int32} (hf : f_X8_settles N h v0 v1 = some h') (l : Launch) (G : GT) : MC l G yX8_settles cX8_settles 2 none rmX8_settles h [vR 8 (some v0), vI v1] none h' := MC_of (by decide) rfl (Nat.le_of_ble_eq_true rfl) rfl (fun X C hQ hin => p_X8_settles C hQ hf)
abbrev rmX8_value : Room := { frames := 3, cells := 0, slots := 0, locals := 66 }
def f_X8_value (N : Nat) (h : Hp) (v0 : Nat) : Option (Int32 × Hp) := b2 (f_X8_see N h v0) (fun r1 h2 => Option.bind (f_X8_isDigit h2 v0 (hI h2 v0 14)) (fun r3 => if r3 = 0 then (b2 (f_X8_wordHere N h2 v0) (fun r5 h6 => if 0 ≤ r5 then (b2 (f_X8_makes h6 v0 (hI h2 v0 14)) (fun r8 h9 => if r8 = 0 then (some (((0 : Int32), h9))) else (Option.bind (f_X8_passWord N h9 v0) (fun h11 => Option.bind (f_X8_puts h11 v0 (1 : Int32) r5) (fun h12 => some (((1 : Int32), h12))))))) else (b2 (f_X8_fails h6 v0 (0 : Int32) (hI h2 v0 14)) (fun r13 h14 => if r13 = 0 ∨ r13 = 1 then (some ((r13, h14))) else none)))) else (b2 (f_X8_numberHere N h2 v0 (0 : Int32) (99999 : Int32)) (fun r16 h17 => if r16 = 0 then (some (((0 : Int32), h17))) else (b2 (f_X8_makes h17 v0 (hI h2 v0 14)) (fun r19 h20 => if r19 = 0 then (some (((0 : Int32), h20))) else (Option.bind (f_X8_puts h20 v0 (0 : Int32) (hI h20 v0 16)) (fun h22 => some (((1 : Int32), h22))))))))))
set_option maxHeartbeats 4000000 in
set_option maxRecDepth 100000 in
theorem p_X8_value {X : XT} {r : Int32} {h' : Hp} (C : CX X cX8_value "WaterStairModel" 3 (some .boolean) rmX8_value) {N : Nat} {h : Hp} {v0 : Nat} (hQ : QX X (some (vI r)) h' rmX8_value.cells rmX8_value.slots) (hf : f_X8_value N h v0 = some ((r, h'))) : V X 0 0 h 0 [(0, vR 8 (some v0))] [] := by
  unfold f_X8_value at hf
  refine V_aload_n C dX8_value_0 rfl 0 rfl ?_
  obtain ⟨r1, h2, er1, hf⟩ := o_b2 hf
  refine V_callV (as := []) (st := []) C ml_X8_102 fx8 (ct_X8_see er1) rfl ⟨by decide, by decide, by decide, by decide⟩ (Nat.le_of_ble_eq_true rfl) rfl dX8_value_1 (cs' := 0) (sl' := 0) rfl rfl ?_
  refine V_pop C dX8_value_4 rfl ?_
  refine V_aload_n C dX8_value_5 rfl 0 rfl ?_
  refine V_getI C fl_X8_99 rfl dX8_value_6 ?_
  refine V_istore_n (lv' := [(1, vI (hI h2 v0 14)), (0, vR 8 (some v0))]) C dX8_value_9 rfl (by decide) rfl ?_
  refine V_aload_n C dX8_value_10 rfl 1 rfl ?_
  refine V_aload_n C dX8_value_11 rfl 1 rfl ?_
  refine V_getI C fl_X8_99 rfl dX8_value_12 ?_
  obtain ⟨r3, er3, hf⟩ := o_b hf
  refine V_callV (as := [vI (hI h2 v0 14)]) (st := []) C ml_X8_117 fx8 (ct_X8_isDigit er3) rfl ⟨by decide, by decide, by decide, by decide⟩ (Nat.le_of_ble_eq_true rfl) rfl dX8_value_15 (cs' := 0) (sl' := 0) rfl rfl ?_
  refine V_if_eq C 52 dX8_value_18 (by decide) (fun c4 => ?_) (fun c4 => ?_)
  · have hf := i_t c4 hf
    refine V_aload_n C dX8_value_52 rfl 1 rfl ?_
    obtain ⟨r5, h6, er5, hf⟩ := o_b2 hf
    refine V_callV (as := []) (st := []) C ml_X8_178 fx8 (ct_X8_wordHere er5) rfl ⟨by decide, by decide, by decide, by decide⟩ (Nat.le_of_ble_eq_true rfl) rfl dX8_value_53 (cs' := 0) (sl' := 0) rfl rfl ?_
    refine V_istore_n (lv' := [(2, vI r5), (1, vI (hI h2 v0 14)), (0, vR 8 (some v0))]) C dX8_value_56 rfl (by decide) rfl ?_
    refine V_iload_n C dX8_value_57 rfl 0 rfl ?_
    refine V_if_ge C 68 dX8_value_58 (by decide) (fun c7 => ?_) (fun c7 => ?_)
    · have hf := i_t c7 hf
      refine V_aload_n C dX8_value_68 rfl 2 rfl ?_
      refine V_iload_n C dX8_value_69 rfl 1 rfl ?_
      obtain ⟨r8, h9, er8, hf⟩ := o_b2 hf
      refine V_callV (as := [vI (hI h2 v0 14)]) (st := []) C ml_X8_175 fx8 (ct_X8_makes er8) rfl ⟨by decide, by decide, by decide, by decide⟩ (Nat.le_of_ble_eq_true rfl) rfl dX8_value_70 (cs' := 0) (sl' := 0) rfl rfl ?_
      refine V_if_ne C 78 dX8_value_73 (by decide) (fun c10 => ?_) (fun c10 => ?_)
      · have hf := i_f c10 hf
        refine V_aload_n C dX8_value_78 rfl 2 rfl ?_
        obtain ⟨h11, eh11, hf⟩ := o_b hf
        refine V_callV (as := []) (st := []) C ml_X8_114 fx8 (ct_X8_passWord eh11) rfl ⟨by decide, by decide, by decide, by decide⟩ (Nat.le_of_ble_eq_true rfl) rfl dX8_value_79 (cs' := 0) (sl' := 0) rfl rfl ?_
        refine V_aload_n C dX8_value_82 rfl 2 rfl ?_
        refine V_iconst (v := (1 : Int32)) C dX8_value_83 (by decide) ?_
        refine V_iload_n C dX8_value_84 rfl 0 rfl ?_
        obtain ⟨h12, eh12, hf⟩ := o_b hf
        refine V_callV (as := [vI (1 : Int32), vI r5]) (st := []) C ml_X8_167 fx8 (ct_X8_puts eh12) rfl ⟨by decide, by decide, by decide, by decide⟩ (Nat.le_of_ble_eq_true rfl) rfl dX8_value_85 (cs' := 0) (sl' := 0) rfl rfl ?_
        refine V_iconst (v := (1 : Int32)) C dX8_value_88 (by decide) ?_
        obtain ⟨hf1, hf2⟩ := Prod.mk.inj (Option.some.inj hf)
        subst hf1
        subst hf2
        exact V_zret C (by decide) hQ dX8_value_89
      · have hf := i_t c10 hf
        refine V_iconst (v := (0 : Int32)) C dX8_value_76 (by decide) ?_
        obtain ⟨hf1, hf2⟩ := Prod.mk.inj (Option.some.inj hf)
        subst hf1
        subst hf2
        exact V_zret C (by decide) hQ dX8_value_77
    · have hf := i_f c7 hf
      refine V_aload_n C dX8_value_61 rfl 2 rfl ?_
      refine V_iconst (v := (0 : Int32)) C dX8_value_62 (by decide) ?_
      refine V_iload_n C dX8_value_63 rfl 1 rfl ?_
      obtain ⟨r13, h14, er13, hf⟩ := o_b2 hf
      refine V_callV (as := [vI (0 : Int32), vI (hI h2 v0 14)]) (st := []) C ml_X8_120 fx8 (ct_X8_fails er13) rfl ⟨by decide, by decide, by decide, by decide⟩ (Nat.le_of_ble_eq_true rfl) rfl dX8_value_64 (cs' := 0) (sl' := 0) rfl rfl ?_
      obtain ⟨g15, hf⟩ := o_if hf
      obtain ⟨hf1, hf2⟩ := Prod.mk.inj (Option.some.inj hf)
      subst hf1
      subst hf2
      exact V_zret C (okI_z g15).1 hQ dX8_value_67
  · have hf := i_f c4 hf
    refine V_aload_n C dX8_value_21 rfl 1 rfl ?_
    refine V_iconst (v := (0 : Int32)) C dX8_value_22 (by decide) ?_
    refine V_ldc C kc_X8_171 dX8_value_23 ?_
    obtain ⟨r16, h17, er16, hf⟩ := o_b2 hf
    refine V_callV (as := [vI (0 : Int32), vI (99999 : Int32)]) (st := []) C ml_X8_172 fx8 (ct_X8_numberHere er16) rfl ⟨by decide, by decide, by decide, by decide⟩ (Nat.le_of_ble_eq_true rfl) rfl dX8_value_25 (cs' := 0) (sl' := 0) rfl rfl ?_
    refine V_if_eq C 39 dX8_value_28 (by decide) (fun c18 => ?_) (fun c18 => ?_)
    · have hf := i_t c18 hf
      refine V_iconst (v := (0 : Int32)) C dX8_value_39 (by decide) ?_
      obtain ⟨hf1, hf2⟩ := Prod.mk.inj (Option.some.inj hf)
      subst hf1
      subst hf2
      exact V_zret C (by decide) hQ dX8_value_40
    · have hf := i_f c18 hf
      refine V_aload_n C dX8_value_31 rfl 1 rfl ?_
      refine V_iload_n C dX8_value_32 rfl 0 rfl ?_
      obtain ⟨r19, h20, er19, hf⟩ := o_b2 hf
      refine V_callV (as := [vI (hI h2 v0 14)]) (st := []) C ml_X8_175 fx8 (ct_X8_makes er19) rfl ⟨by decide, by decide, by decide, by decide⟩ (Nat.le_of_ble_eq_true rfl) rfl dX8_value_33 (cs' := 0) (sl' := 0) rfl rfl ?_
      refine V_if_ne C 41 dX8_value_36 (by decide) (fun c21 => ?_) (fun c21 => ?_)
      · have hf := i_f c21 hf
        refine V_aload_n C dX8_value_41 rfl 1 rfl ?_
        refine V_iconst (v := (0 : Int32)) C dX8_value_42 (by decide) ?_
        refine V_aload_n C dX8_value_43 rfl 1 rfl ?_
        refine V_getI C fl_X8_124 rfl dX8_value_44 ?_
        obtain ⟨h22, eh22, hf⟩ := o_b hf
        refine V_callV (as := [vI (0 : Int32), vI (hI h20 v0 16)]) (st := []) C ml_X8_167 fx8 (ct_X8_puts eh22) rfl ⟨by decide, by decide, by decide, by decide⟩ (Nat.le_of_ble_eq_true rfl) rfl dX8_value_47 (cs' := 0) (sl' := 0) rfl rfl ?_
        refine V_iconst (v := (1 : Int32)) C dX8_value_50 (by decide) ?_
        obtain ⟨hf1, hf2⟩ := Prod.mk.inj (Option.some.inj hf)
        subst hf1
        subst hf2
        exact V_zret C (by decide) hQ dX8_value_51
      · have hf := i_t c21 hf
        refine V_iconst (v := (0 : Int32)) C dX8_value_39 (by decide) ?_
        obtain ⟨hf1, hf2⟩ := Prod.mk.inj (Option.some.inj hf)
        subst hf1
        subst hf2
        exact V_zret C (by decide) hQ dX8_value_40
theorem ct_X8_value {r : Int32} {h' : Hp} {N : Nat} {h : Hp} {v0 : Nat} (hf : f_X8_value N h v0 = some ((r, h'))) (l : Launch) (G : GT) : MC l G yX8_value cX8_value 3 (some .boolean) rmX8_value h [vR 8 (some v0)] (some (vI r)) h' := MC_of (by decide) rfl (Nat.le_of_ble_eq_true rfl) rfl (fun X C hQ hin => p_X8_value C hQ hf)
abbrev rmX8_term : Room := { frames := 4, cells := 0, slots := 0, locals := 88 }
def f_X8_term_46 (N : Nat) (s9 : Hp → Nat → Option (Int32 × Hp)) (h : Hp) (v0 : Nat) (s0_ : Int32) : Option (Int32 × Hp) := lt (sI h v0 14 ((hI h v0 14) + (1 : Int32))) (fun h1 => b2 (f_X8_value N h1 v0) (fun r2 h3 => if r2 = 0 then (some (((0 : Int32), h3))) else (Option.bind (f_X8_puts h3 v0 s0_ (0 : Int32)) (fun h5 => s9 h5 v0))))
set_option maxHeartbeats 4000000 in
set_option maxRecDepth 100000 in
theorem p_X8_term_46 {X : XT} {r : Int32} {h' : Hp} (C : CX X cX8_term "WaterStairModel" 2 (some .boolean) rmX8_term) (hQ : QX X (some (vI r)) h' rmX8_term.cells rmX8_term.slots) {N : Nat} {s9 : Hp → Nat → Option (Int32 × Hp)} (S9 : ∀ (h : Hp) (v0 : Nat), s9 h v0 = some ((r, h')) → V X 0 0 h 9 [(0, vR 8 (some v0))] []) {h : Hp} {v0 : Nat} {s0_ : Int32} (hf : f_X8_term_46 N s9 h v0 s0_ = some ((r, h'))) : V X 0 0 h 46 [(0, vR 8 (some v0))] [vI s0_] := by
  unfold f_X8_term_46 at hf
  refine V_istore_n (lv' := [(1, vI s0_), (0, vR 8 (some v0))]) C dX8_term_46 rfl (by decide) rfl ?_
  refine V_aload_n C dX8_term_47 rfl 1 rfl ?_
  refine V_dup C dX8_term_48 rfl ?_
  refine V_getI C fl_X8_99 rfl dX8_term_49 ?_
  refine V_iconst (v := (1 : Int32)) C dX8_term_52 (by decide) ?_
  refine V_iadd C dX8_term_53 ?_
  obtain ⟨h1, eh1, hf⟩ := o_l hf
  refine V_putI C nf_X8_99 rfl (okI_int _) dX8_term_54 (V_eqH eh1 ?_)
  refine V_aload_n C dX8_term_57 rfl 1 rfl ?_
  obtain ⟨r2, h3, er2, hf⟩ := o_b2 hf
  refine V_callV (as := []) (st := []) C ml_X8_181 fx8 (ct_X8_value er2) rfl ⟨by decide, by decide, by decide, by decide⟩ (Nat.le_of_ble_eq_true rfl) rfl dX8_term_58 (cs' := 0) (sl' := 0) rfl rfl ?_
  refine V_if_ne C 66 dX8_term_61 (by decide) (fun c4 => ?_) (fun c4 => ?_)
  · have hf := i_f c4 hf
    refine V_aload_n C dX8_term_66 rfl 1 rfl ?_
    refine V_iload_n C dX8_term_67 rfl 0 rfl ?_
    refine V_iconst (v := (0 : Int32)) C dX8_term_68 (by decide) ?_
    obtain ⟨h5, eh5, hf⟩ := o_b hf
    refine V_callV (as := [vI s0_, vI (0 : Int32)]) (st := []) C ml_X8_167 fx8 (ct_X8_puts eh5) rfl ⟨by decide, by decide, by decide, by decide⟩ (Nat.le_of_ble_eq_true rfl) rfl dX8_term_69 (cs' := 0) (sl' := 0) rfl rfl ?_
    refine V_goto C 9 dX8_term_72 (by decide) ?_
    refine V_sub (lv' := [(0, vR 8 (some v0))]) [1] rfl ?_
    exact S9 _ _ hf
  · have hf := i_t c4 hf
    refine V_iconst (v := (0 : Int32)) C dX8_term_64 (by decide) ?_
    obtain ⟨hf1, hf2⟩ := Prod.mk.inj (Option.some.inj hf)
    subst hf1
    subst hf2
    exact V_zret C (by decide) hQ dX8_term_65
def f_X8_term_27 (N : Nat) (s9 : Hp → Nat → Option (Int32 × Hp)) (h : Hp) (v0 : Nat) : Option (Int32 × Hp) := Option.bind (hP h v0 0) (fun q6 => if 0 ≤ hI h v0 14 ∧ (hI h v0 14).toNatClampNeg < hL h q6 then (if (hI h q6 ((hI h v0 14).toNatClampNeg)) = (42 : Int32) then (f_X8_term_46 N s9 h v0 (4 : Int32)) else (f_X8_term_46 N s9 h v0 (5 : Int32))) else none)
set_option maxHeartbeats 4000000 in
set_option maxRecDepth 100000 in
theorem p_X8_term_27 {X : XT} {r : Int32} {h' : Hp} (C : CX X cX8_term "WaterStairModel" 2 (some .boolean) rmX8_term) (hQ : QX X (some (vI r)) h' rmX8_term.cells rmX8_term.slots) {N : Nat} {s9 : Hp → Nat → Option (Int32 × Hp)} (S9 : ∀ (h : Hp) (v0 : Nat), s9 h v0 = some ((r, h')) → V X 0 0 h 9 [(0, vR 8 (some v0))] []) {h : Hp} {v0 : Nat} (hf : f_X8_term_27 N s9 h v0 = some ((r, h'))) : V X 0 0 h 27 [(0, vR 8 (some v0))] [] := by
  unfold f_X8_term_27 at hf
  refine V_aload_n C dX8_term_27 rfl 0 rfl ?_
  obtain ⟨q6, eq6, hf⟩ := o_b hf
  refine V_getR C fl_X8_7 rfl rfl (by decide) eq6 dX8_term_28 ?_
  refine V_aload_n C dX8_term_31 rfl 0 rfl ?_
  refine V_getI C fl_X8_99 rfl dX8_term_32 ?_
  obtain ⟨g7, hf⟩ := o_if hf
  refine V_bald C (vp_g g7) rfl dX8_term_35 ?_
  refine V_bipush (v := (42 : Int32)) C dX8_term_36 (by decide) ?_
  refine V_icmp_ne C 45 dX8_term_38 (by decide) (fun c8 => ?_) (fun c8 => ?_)
  · have hf := i_f c8 hf
    refine V_iconst (v := (5 : Int32)) C dX8_term_45 (by decide) ?_
    refine V_sub (lv' := [(0, vR 8 (some v0))]) [0] rfl ?_
    exact p_X8_term_46 C hQ S9 hf
  · have hf := i_t c8 hf
    refine V_iconst (v := (4 : Int32)) C dX8_term_41 (by decide) ?_
    refine V_goto C 46 dX8_term_42 (by decide) ?_
    refine V_sub (lv' := [(0, vR 8 (some v0))]) [0] rfl ?_
    exact p_X8_term_46 C hQ S9 hf
def f_X8_term_9 (N : Nat) : Nat → Hp → Nat → Option (Int32 × Hp)
  | 0, _, _ => none
  | n + 1, h, v0 => b2 (f_X8_see N h v0) (fun r9 h10 => if r9 = (42 : Int32) then (f_X8_term_27 N (f_X8_term_9 N n) h10 v0) else (b2 (f_X8_see N h10 v0) (fun r12 h13 => if r12 = (47 : Int32) then (f_X8_term_27 N (f_X8_term_9 N n) h13 v0) else (some (((1 : Int32), h13))))))
set_option maxHeartbeats 4000000 in
set_option maxRecDepth 100000 in
theorem p_X8_term_9 {X : XT} {r : Int32} {h' : Hp} (C : CX X cX8_term "WaterStairModel" 2 (some .boolean) rmX8_term) (hQ : QX X (some (vI r)) h' rmX8_term.cells rmX8_term.slots) {N : Nat}  : ∀ (n : Nat) (h : Hp) (v0 : Nat), f_X8_term_9 N n h v0 = some ((r, h')) → V X 0 0 h 9 [(0, vR 8 (some v0))] [] := by
  intro n
  induction n with
  | zero =>
    intro h v0 hf
    have hf : (none : Option (Int32 × Hp)) = some _ := hf
    cases hf
  | succ n ih =>
    intro h v0 hf
    rw [f_X8_term_9] at hf
    refine V_aload_n C dX8_term_9 rfl 0 rfl ?_
    obtain ⟨r9, h10, er9, hf⟩ := o_b2 hf
    refine V_callV (as := []) (st := []) C ml_X8_102 fx8 (ct_X8_see er9) rfl ⟨by decide, by decide, by decide, by decide⟩ (Nat.le_of_ble_eq_true rfl) rfl dX8_term_10 (cs' := 0) (sl' := 0) rfl rfl ?_
    refine V_bipush (v := (42 : Int32)) C dX8_term_13 (by decide) ?_
    refine V_icmp_eq C 27 dX8_term_15 (by decide) (fun c11 => ?_) (fun c11 => ?_)
    · have hf := i_t c11 hf
      refine V_sub (lv' := [(0, vR 8 (some v0))]) [0] rfl ?_
      exact p_X8_term_27 C hQ ih hf
    · have hf := i_f c11 hf
      refine V_aload_n C dX8_term_18 rfl 0 rfl ?_
      obtain ⟨r12, h13, er12, hf⟩ := o_b2 hf
      refine V_callV (as := []) (st := []) C ml_X8_102 fx8 (ct_X8_see er12) rfl ⟨by decide, by decide, by decide, by decide⟩ (Nat.le_of_ble_eq_true rfl) rfl dX8_term_19 (cs' := 0) (sl' := 0) rfl rfl ?_
      refine V_bipush (v := (47 : Int32)) C dX8_term_22 (by decide) ?_
      refine V_icmp_ne C 75 dX8_term_24 (by decide) (fun c14 => ?_) (fun c14 => ?_)
      · have hf := i_f c14 hf
        refine V_iconst (v := (1 : Int32)) C dX8_term_75 (by decide) ?_
        obtain ⟨hf1, hf2⟩ := Prod.mk.inj (Option.some.inj hf)
        subst hf1
        subst hf2
        exact V_zret C (by decide) hQ dX8_term_76
      · have hf := i_t c14 hf
        refine V_sub (lv' := [(0, vR 8 (some v0))]) [0] rfl ?_
        exact p_X8_term_27 C hQ ih hf
def f_X8_term (N : Nat) (h : Hp) (v0 : Nat) : Option (Int32 × Hp) := b2 (f_X8_value N h v0) (fun r15 h16 => if r15 = 0 then (some (((0 : Int32), h16))) else (f_X8_term_9 N N h16 v0))
set_option maxHeartbeats 4000000 in
set_option maxRecDepth 100000 in
theorem p_X8_term {X : XT} {r : Int32} {h' : Hp} (C : CX X cX8_term "WaterStairModel" 2 (some .boolean) rmX8_term) {N : Nat} {h : Hp} {v0 : Nat} (hQ : QX X (some (vI r)) h' rmX8_term.cells rmX8_term.slots) (hf : f_X8_term N h v0 = some ((r, h'))) : V X 0 0 h 0 [(0, vR 8 (some v0))] [] := by
  unfold f_X8_term at hf
  refine V_aload_n C dX8_term_0 rfl 0 rfl ?_
  obtain ⟨r15, h16, er15, hf⟩ := o_b2 hf
  refine V_callV (as := []) (st := []) C ml_X8_181 fx8 (ct_X8_value er15) rfl ⟨by decide, by decide, by decide, by decide⟩ (Nat.le_of_ble_eq_true rfl) rfl dX8_term_1 (cs' := 0) (sl' := 0) rfl rfl ?_
  refine V_if_ne C 9 dX8_term_4 (by decide) (fun c17 => ?_) (fun c17 => ?_)
  · have hf := i_f c17 hf
    refine V_sub (lv' := [(0, vR 8 (some v0))]) [0] rfl ?_
    exact p_X8_term_9 C hQ N _ _ hf
  · have hf := i_t c17 hf
    refine V_iconst (v := (0 : Int32)) C dX8_term_7 (by decide) ?_
    obtain ⟨hf1, hf2⟩ := Prod.mk.inj (Option.some.inj hf)
    subst hf1
    subst hf2
    exact V_zret C (by decide) hQ dX8_term_8
theorem ct_X8_term {r : Int32} {h' : Hp} {N : Nat} {h : Hp} {v0 : Nat} (hf : f_X8_term N h v0 = some ((r, h'))) (l : Launch) (G : GT) : MC l G yX8_term cX8_term 2 (some .boolean) rmX8_term h [vR 8 (some v0)] (some (vI r)) h' := MC_of (by decide) rfl (Nat.le_of_ble_eq_true rfl) rfl (fun X C hQ hin => p_X8_term C hQ hf)
abbrev rmX8_sum : Room := { frames := 5, cells := 0, slots := 0, locals := 109 }
def f_X8_sum_46 (N : Nat) (s9 : Hp → Nat → Option (Int32 × Hp)) (h : Hp) (v0 : Nat) (s0_ : Int32) : Option (Int32 × Hp) := lt (sI h v0 14 ((hI h v0 14) + (1 : Int32))) (fun h1 => b2 (f_X8_term N h1 v0) (fun r2 h3 => if r2 = 0 then (some (((0 : Int32), h3))) else (Option.bind (f_X8_puts h3 v0 s0_ (0 : Int32)) (fun h5 => s9 h5 v0))))
set_option maxHeartbeats 4000000 in
set_option maxRecDepth 100000 in
theorem p_X8_sum_46 {X : XT} {r : Int32} {h' : Hp} (C : CX X cX8_sum "WaterStairModel" 2 (some .boolean) rmX8_sum) (hQ : QX X (some (vI r)) h' rmX8_sum.cells rmX8_sum.slots) {N : Nat} {s9 : Hp → Nat → Option (Int32 × Hp)} (S9 : ∀ (h : Hp) (v0 : Nat), s9 h v0 = some ((r, h')) → V X 0 0 h 9 [(0, vR 8 (some v0))] []) {h : Hp} {v0 : Nat} {s0_ : Int32} (hf : f_X8_sum_46 N s9 h v0 s0_ = some ((r, h'))) : V X 0 0 h 46 [(0, vR 8 (some v0))] [vI s0_] := by
  unfold f_X8_sum_46 at hf
  refine V_istore_n (lv' := [(1, vI s0_), (0, vR 8 (some v0))]) C dX8_sum_46 rfl (by decide) rfl ?_
  refine V_aload_n C dX8_sum_47 rfl 1 rfl ?_
  refine V_dup C dX8_sum_48 rfl ?_
  refine V_getI C fl_X8_99 rfl dX8_sum_49 ?_
  refine V_iconst (v := (1 : Int32)) C dX8_sum_52 (by decide) ?_
  refine V_iadd C dX8_sum_53 ?_
  obtain ⟨h1, eh1, hf⟩ := o_l hf
  refine V_putI C nf_X8_99 rfl (okI_int _) dX8_sum_54 (V_eqH eh1 ?_)
  refine V_aload_n C dX8_sum_57 rfl 1 rfl ?_
  obtain ⟨r2, h3, er2, hf⟩ := o_b2 hf
  refine V_callV (as := []) (st := []) C ml_X8_185 fx8 (ct_X8_term er2) rfl ⟨by decide, by decide, by decide, by decide⟩ (Nat.le_of_ble_eq_true rfl) rfl dX8_sum_58 (cs' := 0) (sl' := 0) rfl rfl ?_
  refine V_if_ne C 66 dX8_sum_61 (by decide) (fun c4 => ?_) (fun c4 => ?_)
  · have hf := i_f c4 hf
    refine V_aload_n C dX8_sum_66 rfl 1 rfl ?_
    refine V_iload_n C dX8_sum_67 rfl 0 rfl ?_
    refine V_iconst (v := (0 : Int32)) C dX8_sum_68 (by decide) ?_
    obtain ⟨h5, eh5, hf⟩ := o_b hf
    refine V_callV (as := [vI s0_, vI (0 : Int32)]) (st := []) C ml_X8_167 fx8 (ct_X8_puts eh5) rfl ⟨by decide, by decide, by decide, by decide⟩ (Nat.le_of_ble_eq_true rfl) rfl dX8_sum_69 (cs' := 0) (sl' := 0) rfl rfl ?_
    refine V_goto C 9 dX8_sum_72 (by decide) ?_
    refine V_sub (lv' := [(0, vR 8 (some v0))]) [1] rfl ?_
    exact S9 _ _ hf
  · have hf := i_t c4 hf
    refine V_iconst (v := (0 : Int32)) C dX8_sum_64 (by decide) ?_
    obtain ⟨hf1, hf2⟩ := Prod.mk.inj (Option.some.inj hf)
    subst hf1
    subst hf2
    exact V_zret C (by decide) hQ dX8_sum_65
def f_X8_sum_27 (N : Nat) (s9 : Hp → Nat → Option (Int32 × Hp)) (h : Hp) (v0 : Nat) : Option (Int32 × Hp) := Option.bind (hP h v0 0) (fun q6 => if 0 ≤ hI h v0 14 ∧ (hI h v0 14).toNatClampNeg < hL h q6 then (if (hI h q6 ((hI h v0 14).toNatClampNeg)) = (43 : Int32) then (f_X8_sum_46 N s9 h v0 (2 : Int32)) else (f_X8_sum_46 N s9 h v0 (3 : Int32))) else none)
set_option maxHeartbeats 4000000 in
set_option maxRecDepth 100000 in
theorem p_X8_sum_27 {X : XT} {r : Int32} {h' : Hp} (C : CX X cX8_sum "WaterStairModel" 2 (some .boolean) rmX8_sum) (hQ : QX X (some (vI r)) h' rmX8_sum.cells rmX8_sum.slots) {N : Nat} {s9 : Hp → Nat → Option (Int32 × Hp)} (S9 : ∀ (h : Hp) (v0 : Nat), s9 h v0 = some ((r, h')) → V X 0 0 h 9 [(0, vR 8 (some v0))] []) {h : Hp} {v0 : Nat} (hf : f_X8_sum_27 N s9 h v0 = some ((r, h'))) : V X 0 0 h 27 [(0, vR 8 (some v0))] [] := by
  unfold f_X8_sum_27 at hf
  refine V_aload_n C dX8_sum_27 rfl 0 rfl ?_
  obtain ⟨q6, eq6, hf⟩ := o_b hf
  refine V_getR C fl_X8_7 rfl rfl (by decide) eq6 dX8_sum_28 ?_
  refine V_aload_n C dX8_sum_31 rfl 0 rfl ?_
  refine V_getI C fl_X8_99 rfl dX8_sum_32 ?_
  obtain ⟨g7, hf⟩ := o_if hf
  refine V_bald C (vp_g g7) rfl dX8_sum_35 ?_
  refine V_bipush (v := (43 : Int32)) C dX8_sum_36 (by decide) ?_
  refine V_icmp_ne C 45 dX8_sum_38 (by decide) (fun c8 => ?_) (fun c8 => ?_)
  · have hf := i_f c8 hf
    refine V_iconst (v := (3 : Int32)) C dX8_sum_45 (by decide) ?_
    refine V_sub (lv' := [(0, vR 8 (some v0))]) [0] rfl ?_
    exact p_X8_sum_46 C hQ S9 hf
  · have hf := i_t c8 hf
    refine V_iconst (v := (2 : Int32)) C dX8_sum_41 (by decide) ?_
    refine V_goto C 46 dX8_sum_42 (by decide) ?_
    refine V_sub (lv' := [(0, vR 8 (some v0))]) [0] rfl ?_
    exact p_X8_sum_46 C hQ S9 hf
def f_X8_sum_9 (N : Nat) : Nat → Hp → Nat → Option (Int32 × Hp)
  | 0, _, _ => none
  | n + 1, h, v0 => b2 (f_X8_see N h v0) (fun r9 h10 => if r9 = (43 : Int32) then (f_X8_sum_27 N (f_X8_sum_9 N n) h10 v0) else (b2 (f_X8_see N h10 v0) (fun r12 h13 => if r12 = (45 : Int32) then (f_X8_sum_27 N (f_X8_sum_9 N n) h13 v0) else (some (((1 : Int32), h13))))))
set_option maxHeartbeats 4000000 in
set_option maxRecDepth 100000 in
theorem p_X8_sum_9 {X : XT} {r : Int32} {h' : Hp} (C : CX X cX8_sum "WaterStairModel" 2 (some .boolean) rmX8_sum) (hQ : QX X (some (vI r)) h' rmX8_sum.cells rmX8_sum.slots) {N : Nat}  : ∀ (n : Nat) (h : Hp) (v0 : Nat), f_X8_sum_9 N n h v0 = some ((r, h')) → V X 0 0 h 9 [(0, vR 8 (some v0))] [] := by
  intro n
  induction n with
  | zero =>
    intro h v0 hf
    have hf : (none : Option (Int32 × Hp)) = some _ := hf
    cases hf
  | succ n ih =>
    intro h v0 hf
    rw [f_X8_sum_9] at hf
    refine V_aload_n C dX8_sum_9 rfl 0 rfl ?_
    obtain ⟨r9, h10, er9, hf⟩ := o_b2 hf
    refine V_callV (as := []) (st := []) C ml_X8_102 fx8 (ct_X8_see er9) rfl ⟨by decide, by decide, by decide, by decide⟩ (Nat.le_of_ble_eq_true rfl) rfl dX8_sum_10 (cs' := 0) (sl' := 0) rfl rfl ?_
    refine V_bipush (v := (43 : Int32)) C dX8_sum_13 (by decide) ?_
    refine V_icmp_eq C 27 dX8_sum_15 (by decide) (fun c11 => ?_) (fun c11 => ?_)
    · have hf := i_t c11 hf
      refine V_sub (lv' := [(0, vR 8 (some v0))]) [0] rfl ?_
      exact p_X8_sum_27 C hQ ih hf
    · have hf := i_f c11 hf
      refine V_aload_n C dX8_sum_18 rfl 0 rfl ?_
      obtain ⟨r12, h13, er12, hf⟩ := o_b2 hf
      refine V_callV (as := []) (st := []) C ml_X8_102 fx8 (ct_X8_see er12) rfl ⟨by decide, by decide, by decide, by decide⟩ (Nat.le_of_ble_eq_true rfl) rfl dX8_sum_19 (cs' := 0) (sl' := 0) rfl rfl ?_
      refine V_bipush (v := (45 : Int32)) C dX8_sum_22 (by decide) ?_
      refine V_icmp_ne C 75 dX8_sum_24 (by decide) (fun c14 => ?_) (fun c14 => ?_)
      · have hf := i_f c14 hf
        refine V_iconst (v := (1 : Int32)) C dX8_sum_75 (by decide) ?_
        obtain ⟨hf1, hf2⟩ := Prod.mk.inj (Option.some.inj hf)
        subst hf1
        subst hf2
        exact V_zret C (by decide) hQ dX8_sum_76
      · have hf := i_t c14 hf
        refine V_sub (lv' := [(0, vR 8 (some v0))]) [0] rfl ?_
        exact p_X8_sum_27 C hQ ih hf
def f_X8_sum (N : Nat) (h : Hp) (v0 : Nat) : Option (Int32 × Hp) := b2 (f_X8_term N h v0) (fun r15 h16 => if r15 = 0 then (some (((0 : Int32), h16))) else (f_X8_sum_9 N N h16 v0))
set_option maxHeartbeats 4000000 in
set_option maxRecDepth 100000 in
theorem p_X8_sum {X : XT} {r : Int32} {h' : Hp} (C : CX X cX8_sum "WaterStairModel" 2 (some .boolean) rmX8_sum) {N : Nat} {h : Hp} {v0 : Nat} (hQ : QX X (some (vI r)) h' rmX8_sum.cells rmX8_sum.slots) (hf : f_X8_sum N h v0 = some ((r, h'))) : V X 0 0 h 0 [(0, vR 8 (some v0))] [] := by
  unfold f_X8_sum at hf
  refine V_aload_n C dX8_sum_0 rfl 0 rfl ?_
  obtain ⟨r15, h16, er15, hf⟩ := o_b2 hf
  refine V_callV (as := []) (st := []) C ml_X8_185 fx8 (ct_X8_term er15) rfl ⟨by decide, by decide, by decide, by decide⟩ (Nat.le_of_ble_eq_true rfl) rfl dX8_sum_1 (cs' := 0) (sl' := 0) rfl rfl ?_
  refine V_if_ne C 9 dX8_sum_4 (by decide) (fun c17 => ?_) (fun c17 => ?_)
  · have hf := i_f c17 hf
    refine V_sub (lv' := [(0, vR 8 (some v0))]) [0] rfl ?_
    exact p_X8_sum_9 C hQ N _ _ hf
  · have hf := i_t c17 hf
    refine V_iconst (v := (0 : Int32)) C dX8_sum_7 (by decide) ?_
    obtain ⟨hf1, hf2⟩ := Prod.mk.inj (Option.some.inj hf)
    subst hf1
    subst hf2
    exact V_zret C (by decide) hQ dX8_sum_8
theorem ct_X8_sum {r : Int32} {h' : Hp} {N : Nat} {h : Hp} {v0 : Nat} (hf : f_X8_sum N h v0 = some ((r, h'))) (l : Launch) (G : GT) : MC l G yX8_sum cX8_sum 2 (some .boolean) rmX8_sum h [vR 8 (some v0)] (some (vI r)) h' := MC_of (by decide) rfl (Nat.le_of_ble_eq_true rfl) rfl (fun X C hQ hin => p_X8_sum C hQ hf)
abbrev rmX8_compare : Room := { frames := 6, cells := 0, slots := 0, locals := 130 }
def f_X8_compare_152 (N : Nat) (h : Hp) (v0 : Nat) (s0_ : Int32) : Option (Int32 × Hp) := b2 (f_X8_sum N h v0) (fun r1 h2 => if r1 = 0 then (some (((0 : Int32), h2))) else (Option.bind (f_X8_puts h2 v0 ((6 : Int32) + s0_) (0 : Int32)) (fun h4 => some (((1 : Int32), h4)))))
set_option maxHeartbeats 4000000 in
set_option maxRecDepth 100000 in
theorem p_X8_compare_152 {X : XT} {r : Int32} {h' : Hp} (C : CX X cX8_compare "WaterStairModel" 5 (some .boolean) rmX8_compare) (hQ : QX X (some (vI r)) h' rmX8_compare.cells rmX8_compare.slots) {N : Nat}  {h : Hp} {v0 : Nat} {s0_ : Int32} (hf : f_X8_compare_152 N h v0 s0_ = some ((r, h'))) : V X 0 0 h 152 [(0, vR 8 (some v0))] [vI s0_] := by
  unfold f_X8_compare_152 at hf
  refine V_istore (lv' := [(4, vI s0_), (0, vR 8 (some v0))]) C dX8_compare_152 (by decide) rfl ?_
  refine V_aload_n C dX8_compare_154 rfl 1 rfl ?_
  obtain ⟨r1, h2, er1, hf⟩ := o_b2 hf
  refine V_callV (as := []) (st := []) C ml_X8_188 fx8 (ct_X8_sum er1) rfl ⟨by decide, by decide, by decide, by decide⟩ (Nat.le_of_ble_eq_true rfl) rfl dX8_compare_155 (cs' := 0) (sl' := 0) rfl rfl ?_
  refine V_if_ne C 163 dX8_compare_158 (by decide) (fun c3 => ?_) (fun c3 => ?_)
  · have hf := i_f c3 hf
    refine V_aload_n C dX8_compare_163 rfl 1 rfl ?_
    refine V_bipush (v := (6 : Int32)) C dX8_compare_164 (by decide) ?_
    refine V_iload C dX8_compare_166 0 rfl ?_
    refine V_iadd C dX8_compare_168 ?_
    refine V_iconst (v := (0 : Int32)) C dX8_compare_169 (by decide) ?_
    obtain ⟨h4, eh4, hf⟩ := o_b hf
    refine V_callV (as := [vI ((6 : Int32) + s0_), vI (0 : Int32)]) (st := []) C ml_X8_167 fx8 (ct_X8_puts eh4) rfl ⟨by decide, by decide, by decide, by decide⟩ (Nat.le_of_ble_eq_true rfl) rfl dX8_compare_170 (cs' := 0) (sl' := 0) rfl rfl ?_
    refine V_iconst (v := (1 : Int32)) C dX8_compare_173 (by decide) ?_
    obtain ⟨hf1, hf2⟩ := Prod.mk.inj (Option.some.inj hf)
    subst hf1
    subst hf2
    exact V_zret C (by decide) hQ dX8_compare_174
  · have hf := i_t c3 hf
    refine V_iconst (v := (0 : Int32)) C dX8_compare_161 (by decide) ?_
    obtain ⟨hf1, hf2⟩ := Prod.mk.inj (Option.some.inj hf)
    subst hf1
    subst hf2
    exact V_zret C (by decide) hQ dX8_compare_162
def f_X8_compare_105 (N : Nat) (h : Hp) (v0 : Nat) (v1 : Int32) (v2 : Int32) (v3 : Int32) : Option (Int32 × Hp) := b2 (f_X8_makes h v0 v2) (fun r5 h6 => if r5 = 0 then (some (((0 : Int32), h6))) else (if v1 = (60 : Int32) then (if v3 = 0 then (f_X8_compare_152 N h6 v0 (0 : Int32)) else (f_X8_compare_152 N h6 v0 (1 : Int32))) else (if v1 = (61 : Int32) then (f_X8_compare_152 N h6 v0 (2 : Int32)) else (if v3 = 0 then (f_X8_compare_152 N h6 v0 (4 : Int32)) else (f_X8_compare_152 N h6 v0 (3 : Int32))))))
set_option maxHeartbeats 4000000 in
set_option maxRecDepth 100000 in
theorem p_X8_compare_105 {X : XT} {r : Int32} {h' : Hp} (C : CX X cX8_compare "WaterStairModel" 5 (some .boolean) rmX8_compare) (hQ : QX X (some (vI r)) h' rmX8_compare.cells rmX8_compare.slots) {N : Nat}  {h : Hp} {v0 : Nat} {v1 : Int32} {v2 : Int32} {v3 : Int32} (hf : f_X8_compare_105 N h v0 v1 v2 v3 = some ((r, h'))) : V X 0 0 h 105 [(0, vR 8 (some v0)), (1, vI v1), (2, vI v2), (3, vI v3)] [] := by
  unfold f_X8_compare_105 at hf
  refine V_aload_n C dX8_compare_105 rfl 0 rfl ?_
  refine V_iload_n C dX8_compare_106 rfl 2 rfl ?_
  obtain ⟨r5, h6, er5, hf⟩ := o_b2 hf
  refine V_callV (as := [vI v2]) (st := []) C ml_X8_175 fx8 (ct_X8_makes er5) rfl ⟨by decide, by decide, by decide, by decide⟩ (Nat.le_of_ble_eq_true rfl) rfl dX8_compare_107 (cs' := 0) (sl' := 0) rfl rfl ?_
  refine V_if_ne C 115 dX8_compare_110 (by decide) (fun c7 => ?_) (fun c7 => ?_)
  · have hf := i_f c7 hf
    refine V_iload_n C dX8_compare_115 rfl 1 rfl ?_
    refine V_bipush (v := (60 : Int32)) C dX8_compare_116 (by decide) ?_
    refine V_icmp_ne C 133 dX8_compare_118 (by decide) (fun c8 => ?_) (fun c8 => ?_)
    · have hf := i_f c8 hf
      refine V_iload_n C dX8_compare_133 rfl 1 rfl ?_
      refine V_bipush (v := (61 : Int32)) C dX8_compare_134 (by decide) ?_
      refine V_icmp_ne C 143 dX8_compare_136 (by decide) (fun c9 => ?_) (fun c9 => ?_)
      · have hf := i_f c9 hf
        refine V_iload_n C dX8_compare_143 rfl 3 rfl ?_
        refine V_if_eq C 151 dX8_compare_144 (by decide) (fun c10 => ?_) (fun c10 => ?_)
        · have hf := i_t c10 hf
          refine V_iconst (v := (4 : Int32)) C dX8_compare_151 (by decide) ?_
          refine V_sub (lv' := [(0, vR 8 (some v0))]) [0] rfl ?_
          exact p_X8_compare_152 C hQ hf
        · have hf := i_f c10 hf
          refine V_iconst (v := (3 : Int32)) C dX8_compare_147 (by decide) ?_
          refine V_goto C 152 dX8_compare_148 (by decide) ?_
          refine V_sub (lv' := [(0, vR 8 (some v0))]) [0] rfl ?_
          exact p_X8_compare_152 C hQ hf
      · have hf := i_t c9 hf
        refine V_iconst (v := (2 : Int32)) C dX8_compare_139 (by decide) ?_
        refine V_goto C 152 dX8_compare_140 (by decide) ?_
        refine V_sub (lv' := [(0, vR 8 (some v0))]) [0] rfl ?_
        exact p_X8_compare_152 C hQ hf
    · have hf := i_t c8 hf
      refine V_iload_n C dX8_compare_121 rfl 3 rfl ?_
      refine V_if_eq C 129 dX8_compare_122 (by decide) (fun c11 => ?_) (fun c11 => ?_)
      · have hf := i_t c11 hf
        refine V_iconst (v := (0 : Int32)) C dX8_compare_129 (by decide) ?_
        refine V_goto C 152 dX8_compare_130 (by decide) ?_
        refine V_sub (lv' := [(0, vR 8 (some v0))]) [0] rfl ?_
        exact p_X8_compare_152 C hQ hf
      · have hf := i_f c11 hf
        refine V_iconst (v := (1 : Int32)) C dX8_compare_125 (by decide) ?_
        refine V_goto C 152 dX8_compare_126 (by decide) ?_
        refine V_sub (lv' := [(0, vR 8 (some v0))]) [0] rfl ?_
        exact p_X8_compare_152 C hQ hf
  · have hf := i_t c7 hf
    refine V_iconst (v := (0 : Int32)) C dX8_compare_113 (by decide) ?_
    obtain ⟨hf1, hf2⟩ := Prod.mk.inj (Option.some.inj hf)
    subst hf1
    subst hf2
    exact V_zret C (by decide) hQ dX8_compare_114
def f_X8_compare_90 (N : Nat) (h : Hp) (v0 : Nat) (v1 : Int32) (v2 : Int32) (s0_ : Int32) : Option (Int32 × Hp) := if s0_ = 0 then (f_X8_compare_105 N h v0 v1 v2 s0_) else (lt (sI h v0 14 ((hI h v0 14) + (1 : Int32))) (fun h13 => f_X8_compare_105 N h13 v0 v1 v2 s0_))
set_option maxHeartbeats 4000000 in
set_option maxRecDepth 100000 in
theorem p_X8_compare_90 {X : XT} {r : Int32} {h' : Hp} (C : CX X cX8_compare "WaterStairModel" 5 (some .boolean) rmX8_compare) (hQ : QX X (some (vI r)) h' rmX8_compare.cells rmX8_compare.slots) {N : Nat}  {h : Hp} {v0 : Nat} {v1 : Int32} {v2 : Int32} {s0_ : Int32} (hf : f_X8_compare_90 N h v0 v1 v2 s0_ = some ((r, h'))) : V X 0 0 h 90 [(0, vR 8 (some v0)), (1, vI v1), (2, vI v2)] [vI s0_] := by
  unfold f_X8_compare_90 at hf
  refine V_istore_n (lv' := [(3, vI s0_), (0, vR 8 (some v0)), (1, vI v1), (2, vI v2)]) C dX8_compare_90 rfl (by decide) rfl ?_
  refine V_iload_n C dX8_compare_91 rfl 0 rfl ?_
  refine V_if_eq C 105 dX8_compare_92 (by decide) (fun c12 => ?_) (fun c12 => ?_)
  · have hf := i_t c12 hf
    refine V_sub (lv' := [(0, vR 8 (some v0)), (1, vI v1), (2, vI v2), (3, vI s0_)]) [1, 2, 3, 0] rfl ?_
    exact p_X8_compare_105 C hQ hf
  · have hf := i_f c12 hf
    refine V_aload_n C dX8_compare_95 rfl 1 rfl ?_
    refine V_dup C dX8_compare_96 rfl ?_
    refine V_getI C fl_X8_99 rfl dX8_compare_97 ?_
    refine V_iconst (v := (1 : Int32)) C dX8_compare_100 (by decide) ?_
    refine V_iadd C dX8_compare_101 ?_
    obtain ⟨h13, eh13, hf⟩ := o_l hf
    refine V_putI C nf_X8_99 rfl (okI_int _) dX8_compare_102 (V_eqH eh13 ?_)
    refine V_sub (lv' := [(0, vR 8 (some v0)), (1, vI v1), (2, vI v2), (3, vI s0_)]) [1, 2, 3, 0] rfl ?_
    exact p_X8_compare_105 C hQ hf
def f_X8_compare_89 (N : Nat) (h : Hp) (v0 : Nat) (v1 : Int32) (v2 : Int32) : Option (Int32 × Hp) := f_X8_compare_90 N h v0 v1 v2 (0 : Int32)
set_option maxHeartbeats 4000000 in
set_option maxRecDepth 100000 in
theorem p_X8_compare_89 {X : XT} {r : Int32} {h' : Hp} (C : CX X cX8_compare "WaterStairModel" 5 (some .boolean) rmX8_compare) (hQ : QX X (some (vI r)) h' rmX8_compare.cells rmX8_compare.slots) {N : Nat}  {h : Hp} {v0 : Nat} {v1 : Int32} {v2 : Int32} (hf : f_X8_compare_89 N h v0 v1 v2 = some ((r, h'))) : V X 0 0 h 89 [(0, vR 8 (some v0)), (1, vI v1), (2, vI v2)] [] := by
  unfold f_X8_compare_89 at hf
  refine V_iconst (v := (0 : Int32)) C dX8_compare_89 (by decide) ?_
  refine V_sub (lv' := [(0, vR 8 (some v0)), (1, vI v1), (2, vI v2)]) [0, 1, 2] rfl ?_
  exact p_X8_compare_90 C hQ hf
def f_X8_compare_44 (N : Nat) (h : Hp) (v0 : Nat) (v1 : Int32) (v2 : Int32) : Option (Int32 × Hp) := lt (sI h v0 14 ((hI h v0 14) + (1 : Int32))) (fun h14 => if v1 = (61 : Int32) then (f_X8_compare_89 N h14 v0 v1 v2) else (if (hI h14 v0 1) ≤ (hI h14 v0 14) then (f_X8_compare_89 N h14 v0 v1 v2) else (Option.bind (hP h14 v0 0) (fun q17 => if 0 ≤ hI h14 v0 14 ∧ (hI h14 v0 14).toNatClampNeg < hL h14 q17 then (if (hI h14 q17 ((hI h14 v0 14).toNatClampNeg)) = (61 : Int32) then (f_X8_compare_90 N h14 v0 v1 v2 (1 : Int32)) else (f_X8_compare_89 N h14 v0 v1 v2)) else none))))
set_option maxHeartbeats 4000000 in
set_option maxRecDepth 100000 in
theorem p_X8_compare_44 {X : XT} {r : Int32} {h' : Hp} (C : CX X cX8_compare "WaterStairModel" 5 (some .boolean) rmX8_compare) (hQ : QX X (some (vI r)) h' rmX8_compare.cells rmX8_compare.slots) {N : Nat}  {h : Hp} {v0 : Nat} {v1 : Int32} {v2 : Int32} (hf : f_X8_compare_44 N h v0 v1 v2 = some ((r, h'))) : V X 0 0 h 44 [(0, vR 8 (some v0)), (1, vI v1), (2, vI v2)] [] := by
  unfold f_X8_compare_44 at hf
  refine V_aload_n C dX8_compare_44 rfl 0 rfl ?_
  refine V_dup C dX8_compare_45 rfl ?_
  refine V_getI C fl_X8_99 rfl dX8_compare_46 ?_
  refine V_iconst (v := (1 : Int32)) C dX8_compare_49 (by decide) ?_
  refine V_iadd C dX8_compare_50 ?_
  obtain ⟨h14, eh14, hf⟩ := o_l hf
  refine V_putI C nf_X8_99 rfl (okI_int _) dX8_compare_51 (V_eqH eh14 ?_)
  refine V_iload_n C dX8_compare_54 rfl 1 rfl ?_
  refine V_bipush (v := (61 : Int32)) C dX8_compare_55 (by decide) ?_
  refine V_icmp_eq C 89 dX8_compare_57 (by decide) (fun c15 => ?_) (fun c15 => ?_)
  · have hf := i_t c15 hf
    refine V_sub (lv' := [(0, vR 8 (some v0)), (1, vI v1), (2, vI v2)]) [0, 1, 2] rfl ?_
    exact p_X8_compare_89 C hQ hf
  · have hf := i_f c15 hf
    refine V_aload_n C dX8_compare_60 rfl 0 rfl ?_
    refine V_getI C fl_X8_99 rfl dX8_compare_61 ?_
    refine V_aload_n C dX8_compare_64 rfl 0 rfl ?_
    refine V_getI C fl_X8_88 rfl dX8_compare_65 ?_
    refine V_icmp_ge C 89 dX8_compare_68 (by decide) (fun c16 => ?_) (fun c16 => ?_)
    · have hf := i_t c16 hf
      refine V_sub (lv' := [(0, vR 8 (some v0)), (1, vI v1), (2, vI v2)]) [0, 1, 2] rfl ?_
      exact p_X8_compare_89 C hQ hf
    · have hf := i_f c16 hf
      refine V_aload_n C dX8_compare_71 rfl 0 rfl ?_
      obtain ⟨q17, eq17, hf⟩ := o_b hf
      refine V_getR C fl_X8_7 rfl rfl (by decide) eq17 dX8_compare_72 ?_
      refine V_aload_n C dX8_compare_75 rfl 0 rfl ?_
      refine V_getI C fl_X8_99 rfl dX8_compare_76 ?_
      obtain ⟨g18, hf⟩ := o_if hf
      refine V_bald C (vp_g g18) rfl dX8_compare_79 ?_
      refine V_bipush (v := (61 : Int32)) C dX8_compare_80 (by decide) ?_
      refine V_icmp_ne C 89 dX8_compare_82 (by decide) (fun c19 => ?_) (fun c19 => ?_)
      · have hf := i_f c19 hf
        refine V_sub (lv' := [(0, vR 8 (some v0)), (1, vI v1), (2, vI v2)]) [0, 1, 2] rfl ?_
        exact p_X8_compare_89 C hQ hf
      · have hf := i_t c19 hf
        refine V_iconst (v := (1 : Int32)) C dX8_compare_85 (by decide) ?_
        refine V_goto C 90 dX8_compare_86 (by decide) ?_
        refine V_sub (lv' := [(0, vR 8 (some v0)), (1, vI v1), (2, vI v2)]) [0, 1, 2] rfl ?_
        exact p_X8_compare_90 C hQ hf
def f_X8_compare (N : Nat) (h : Hp) (v0 : Nat) : Option (Int32 × Hp) := b2 (f_X8_sum N h v0) (fun r20 h21 => if r20 = 0 then (some (((0 : Int32), h21))) else (b2 (f_X8_see N h21 v0) (fun r23 h24 => if r23 = (60 : Int32) then (f_X8_compare_44 N h24 v0 r23 (hI h24 v0 14)) else (if r23 = (61 : Int32) then (f_X8_compare_44 N h24 v0 r23 (hI h24 v0 14)) else (if r23 = (62 : Int32) then (f_X8_compare_44 N h24 v0 r23 (hI h24 v0 14)) else (b2 (f_X8_fails h24 v0 (0 : Int32) (hI h24 v0 14)) (fun r28 h29 => if r28 = 0 ∨ r28 = 1 then (some ((r28, h29))) else none)))))))
set_option maxHeartbeats 4000000 in
set_option maxRecDepth 100000 in
theorem p_X8_compare {X : XT} {r : Int32} {h' : Hp} (C : CX X cX8_compare "WaterStairModel" 5 (some .boolean) rmX8_compare) {N : Nat} {h : Hp} {v0 : Nat} (hQ : QX X (some (vI r)) h' rmX8_compare.cells rmX8_compare.slots) (hf : f_X8_compare N h v0 = some ((r, h'))) : V X 0 0 h 0 [(0, vR 8 (some v0))] [] := by
  unfold f_X8_compare at hf
  refine V_aload_n C dX8_compare_0 rfl 0 rfl ?_
  obtain ⟨r20, h21, er20, hf⟩ := o_b2 hf
  refine V_callV (as := []) (st := []) C ml_X8_188 fx8 (ct_X8_sum er20) rfl ⟨by decide, by decide, by decide, by decide⟩ (Nat.le_of_ble_eq_true rfl) rfl dX8_compare_1 (cs' := 0) (sl' := 0) rfl rfl ?_
  refine V_if_ne C 9 dX8_compare_4 (by decide) (fun c22 => ?_) (fun c22 => ?_)
  · have hf := i_f c22 hf
    refine V_aload_n C dX8_compare_9 rfl 0 rfl ?_
    obtain ⟨r23, h24, er23, hf⟩ := o_b2 hf
    refine V_callV (as := []) (st := []) C ml_X8_102 fx8 (ct_X8_see er23) rfl ⟨by decide, by decide, by decide, by decide⟩ (Nat.le_of_ble_eq_true rfl) rfl dX8_compare_10 (cs' := 0) (sl' := 0) rfl rfl ?_
    refine V_istore_n (lv' := [(1, vI r23), (0, vR 8 (some v0))]) C dX8_compare_13 rfl (by decide) rfl ?_
    refine V_aload_n C dX8_compare_14 rfl 1 rfl ?_
    refine V_getI C fl_X8_99 rfl dX8_compare_15 ?_
    refine V_istore_n (lv' := [(2, vI (hI h24 v0 14)), (1, vI r23), (0, vR 8 (some v0))]) C dX8_compare_18 rfl (by decide) rfl ?_
    refine V_iload_n C dX8_compare_19 rfl 1 rfl ?_
    refine V_bipush (v := (60 : Int32)) C dX8_compare_20 (by decide) ?_
    refine V_icmp_eq C 44 dX8_compare_22 (by decide) (fun c25 => ?_) (fun c25 => ?_)
    · have hf := i_t c25 hf
      refine V_sub (lv' := [(0, vR 8 (some v0)), (1, vI r23), (2, vI (hI h24 v0 14))]) [2, 1, 0] rfl ?_
      exact p_X8_compare_44 C hQ hf
    · have hf := i_f c25 hf
      refine V_iload_n C dX8_compare_25 rfl 1 rfl ?_
      refine V_bipush (v := (61 : Int32)) C dX8_compare_26 (by decide) ?_
      refine V_icmp_eq C 44 dX8_compare_28 (by decide) (fun c26 => ?_) (fun c26 => ?_)
      · have hf := i_t c26 hf
        refine V_sub (lv' := [(0, vR 8 (some v0)), (1, vI r23), (2, vI (hI h24 v0 14))]) [2, 1, 0] rfl ?_
        exact p_X8_compare_44 C hQ hf
      · have hf := i_f c26 hf
        refine V_iload_n C dX8_compare_31 rfl 1 rfl ?_
        refine V_bipush (v := (62 : Int32)) C dX8_compare_32 (by decide) ?_
        refine V_icmp_eq C 44 dX8_compare_34 (by decide) (fun c27 => ?_) (fun c27 => ?_)
        · have hf := i_t c27 hf
          refine V_sub (lv' := [(0, vR 8 (some v0)), (1, vI r23), (2, vI (hI h24 v0 14))]) [2, 1, 0] rfl ?_
          exact p_X8_compare_44 C hQ hf
        · have hf := i_f c27 hf
          refine V_aload_n C dX8_compare_37 rfl 2 rfl ?_
          refine V_iconst (v := (0 : Int32)) C dX8_compare_38 (by decide) ?_
          refine V_iload_n C dX8_compare_39 rfl 0 rfl ?_
          obtain ⟨r28, h29, er28, hf⟩ := o_b2 hf
          refine V_callV (as := [vI (0 : Int32), vI (hI h24 v0 14)]) (st := []) C ml_X8_120 fx8 (ct_X8_fails er28) rfl ⟨by decide, by decide, by decide, by decide⟩ (Nat.le_of_ble_eq_true rfl) rfl dX8_compare_40 (cs' := 0) (sl' := 0) rfl rfl ?_
          obtain ⟨g30, hf⟩ := o_if hf
          obtain ⟨hf1, hf2⟩ := Prod.mk.inj (Option.some.inj hf)
          subst hf1
          subst hf2
          exact V_zret C (okI_z g30).1 hQ dX8_compare_43
  · have hf := i_t c22 hf
    refine V_iconst (v := (0 : Int32)) C dX8_compare_7 (by decide) ?_
    obtain ⟨hf1, hf2⟩ := Prod.mk.inj (Option.some.inj hf)
    subst hf1
    subst hf2
    exact V_zret C (by decide) hQ dX8_compare_8
theorem ct_X8_compare {r : Int32} {h' : Hp} {N : Nat} {h : Hp} {v0 : Nat} (hf : f_X8_compare N h v0 = some ((r, h'))) (l : Launch) (G : GT) : MC l G yX8_compare cX8_compare 5 (some .boolean) rmX8_compare h [vR 8 (some v0)] (some (vI r)) h' := MC_of (by decide) rfl (Nat.le_of_ble_eq_true rfl) rfl (fun X C hQ hin => p_X8_compare C hQ hf)
abbrev rmX8_fact : Room := { frames := 7, cells := 0, slots := 0, locals := 154 }
def f_X8_fact_72 (N : Nat) (s2 : Hp → Nat → Int32 → Option (Int32 × Hp)) (h : Hp) (v0 : Nat) (v1 : Int32) : Option (Int32 × Hp) := s2 h v0 v1
set_option maxHeartbeats 4000000 in
set_option maxRecDepth 100000 in
theorem p_X8_fact_72 {X : XT} {r : Int32} {h' : Hp} (C : CX X cX8_fact "WaterStairModel" 3 (some .boolean) rmX8_fact) (hQ : QX X (some (vI r)) h' rmX8_fact.cells rmX8_fact.slots) {N : Nat} {s2 : Hp → Nat → Int32 → Option (Int32 × Hp)} (S2 : ∀ (h : Hp) (v0 : Nat) (v1 : Int32), s2 h v0 v1 = some ((r, h')) → V X 0 0 h 2 [(0, vR 8 (some v0)), (1, vI v1)] []) {h : Hp} {v0 : Nat} {v1 : Int32} (hf : f_X8_fact_72 N s2 h v0 v1 = some ((r, h'))) : V X 0 0 h 72 [(0, vR 8 (some v0)), (1, vI v1)] [] := by
  unfold f_X8_fact_72 at hf
  refine V_goto C 2 dX8_fact_72 (by decide) ?_
  refine V_sub (lv' := [(0, vR 8 (some v0)), (1, vI v1)]) [0, 1] rfl ?_
  exact S2 _ _ _ hf
def f_X8_fact_2 (N : Nat) : Nat → Hp → Nat → Int32 → Option (Int32 × Hp)
  | 0, _, _, _ => none
  | n + 1, h, v0, v1 => if v1 = 0 then (b2 (f_X8_compare N h v0) (fun r2 h3 => if r2 = 0 ∨ r2 = 1 then (some ((r2, h3))) else none)) else (b2 (f_X8_see N h v0) (fun r5 h6 => b2 (f_X8_isWord N h6 v0 (7237492 : Int64)) (fun r7 h8 => if r7 = 0 then (if r5 = (91 : Int32) then (b2 (f_X8_opens h8 v0 (91 : Int32)) (fun r11 h12 => if r11 = 0 then (some (((0 : Int32), h12))) else (lt (sI h12 v0 14 ((hI h12 v0 14) + (1 : Int32))) (fun h14 => f_X8_fact_72 N (f_X8_fact_2 N n) h14 v0 (1 : Int32))))) else (f_X8_fact_72 N (f_X8_fact_2 N n) h8 v0 (0 : Int32))) else (b2 (f_X8_opens h8 v0 (11 : Int32)) (fun r15 h16 => if r15 = 0 then (some (((0 : Int32), h16))) else (Option.bind (f_X8_passWord N h16 v0) (fun h18 => f_X8_fact_72 N (f_X8_fact_2 N n) h18 v0 (1 : Int32))))))))
set_option maxHeartbeats 4000000 in
set_option maxRecDepth 100000 in
theorem p_X8_fact_2 {X : XT} {r : Int32} {h' : Hp} (C : CX X cX8_fact "WaterStairModel" 3 (some .boolean) rmX8_fact) (hQ : QX X (some (vI r)) h' rmX8_fact.cells rmX8_fact.slots) {N : Nat}  : ∀ (n : Nat) (h : Hp) (v0 : Nat) (v1 : Int32), f_X8_fact_2 N n h v0 v1 = some ((r, h')) → V X 0 0 h 2 [(0, vR 8 (some v0)), (1, vI v1)] [] := by
  intro n
  induction n with
  | zero =>
    intro h v0 v1 hf
    have hf : (none : Option (Int32 × Hp)) = some _ := hf
    cases hf
  | succ n ih =>
    intro h v0 v1 hf
    rw [f_X8_fact_2] at hf
    refine V_iload_n C dX8_fact_2 rfl 1 rfl ?_
    refine V_if_eq C 75 dX8_fact_3 (by decide) (fun c1 => ?_) (fun c1 => ?_)
    · have hf := i_t c1 hf
      refine V_aload_n C dX8_fact_75 rfl 0 rfl ?_
      obtain ⟨r2, h3, er2, hf⟩ := o_b2 hf
      refine V_callV (as := []) (st := []) C ml_X8_196 fx8 (ct_X8_compare er2) rfl ⟨by decide, by decide, by decide, by decide⟩ (Nat.le_of_ble_eq_true rfl) rfl dX8_fact_76 (cs' := 0) (sl' := 0) rfl rfl ?_
      obtain ⟨g4, hf⟩ := o_if hf
      obtain ⟨hf1, hf2⟩ := Prod.mk.inj (Option.some.inj hf)
      subst hf1
      subst hf2
      exact V_zret C (okI_z g4).1 hQ dX8_fact_79
    · have hf := i_f c1 hf
      refine V_iconst (v := (0 : Int32)) C dX8_fact_6 (by decide) ?_
      refine V_istore_n (lv' := [(1, vI (0 : Int32)), (0, vR 8 (some v0))]) C dX8_fact_7 rfl (by decide) rfl ?_
      refine V_aload_n C dX8_fact_8 rfl 1 rfl ?_
      obtain ⟨r5, h6, er5, hf⟩ := o_b2 hf
      refine V_callV (as := []) (st := []) C ml_X8_102 fx8 (ct_X8_see er5) rfl ⟨by decide, by decide, by decide, by decide⟩ (Nat.le_of_ble_eq_true rfl) rfl dX8_fact_9 (cs' := 0) (sl' := 0) rfl rfl ?_
      refine V_istore_n (lv' := [(2, vI r5), (1, vI (0 : Int32)), (0, vR 8 (some v0))]) C dX8_fact_12 rfl (by decide) rfl ?_
      refine V_aload_n C dX8_fact_13 rfl 2 rfl ?_
      refine V_ldc2 C kl_X8_191 dX8_fact_14 ?_
      obtain ⟨r7, h8, er7, hf⟩ := o_b2 hf
      refine V_callV (as := [vL (7237492 : Int64)]) (st := []) C ml_X8_110 fx8 (ct_X8_isWord er7) rfl ⟨by decide, by decide, by decide, by decide⟩ (Nat.le_of_ble_eq_true rfl) rfl dX8_fact_17 (cs' := 0) (sl' := 0) rfl rfl ?_
      refine V_if_eq C 43 dX8_fact_20 (by decide) (fun c9 => ?_) (fun c9 => ?_)
      · have hf := i_t c9 hf
        refine V_iload_n C dX8_fact_43 rfl 0 rfl ?_
        refine V_bipush (v := (91 : Int32)) C dX8_fact_44 (by decide) ?_
        refine V_icmp_ne C 72 dX8_fact_46 (by decide) (fun c10 => ?_) (fun c10 => ?_)
        · have hf := i_f c10 hf
          refine V_sub (lv' := [(0, vR 8 (some v0)), (1, vI (0 : Int32))]) [2, 1] rfl ?_
          exact p_X8_fact_72 C hQ ih hf
        · have hf := i_t c10 hf
          refine V_aload_n C dX8_fact_49 rfl 2 rfl ?_
          refine V_bipush (v := (91 : Int32)) C dX8_fact_50 (by decide) ?_
          obtain ⟨r11, h12, er11, hf⟩ := o_b2 hf
          refine V_callV (as := [vI (91 : Int32)]) (st := []) C ml_X8_193 fx8 (ct_X8_opens er11) rfl ⟨by decide, by decide, by decide, by decide⟩ (Nat.le_of_ble_eq_true rfl) rfl dX8_fact_52 (cs' := 0) (sl' := 0) rfl rfl ?_
          refine V_if_ne C 60 dX8_fact_55 (by decide) (fun c13 => ?_) (fun c13 => ?_)
          · have hf := i_f c13 hf
            refine V_aload_n C dX8_fact_60 rfl 2 rfl ?_
            refine V_dup C dX8_fact_61 rfl ?_
            refine V_getI C fl_X8_99 rfl dX8_fact_62 ?_
            refine V_iconst (v := (1 : Int32)) C dX8_fact_65 (by decide) ?_
            refine V_iadd C dX8_fact_66 ?_
            obtain ⟨h14, eh14, hf⟩ := o_l hf
            refine V_putI C nf_X8_99 rfl (okI_int _) dX8_fact_67 (V_eqH eh14 ?_)
            refine V_iconst (v := (1 : Int32)) C dX8_fact_70 (by decide) ?_
            refine V_istore_n (lv' := [(1, vI (1 : Int32)), (2, vI r5), (0, vR 8 (some v0))]) C dX8_fact_71 rfl (by decide) rfl ?_
            refine V_sub (lv' := [(0, vR 8 (some v0)), (1, vI (1 : Int32))]) [2, 0] rfl ?_
            exact p_X8_fact_72 C hQ ih hf
          · have hf := i_t c13 hf
            refine V_iconst (v := (0 : Int32)) C dX8_fact_58 (by decide) ?_
            obtain ⟨hf1, hf2⟩ := Prod.mk.inj (Option.some.inj hf)
            subst hf1
            subst hf2
            exact V_zret C (by decide) hQ dX8_fact_59
      · have hf := i_f c9 hf
        refine V_aload_n C dX8_fact_23 rfl 2 rfl ?_
        refine V_bipush (v := (11 : Int32)) C dX8_fact_24 (by decide) ?_
        obtain ⟨r15, h16, er15, hf⟩ := o_b2 hf
        refine V_callV (as := [vI (11 : Int32)]) (st := []) C ml_X8_193 fx8 (ct_X8_opens er15) rfl ⟨by decide, by decide, by decide, by decide⟩ (Nat.le_of_ble_eq_true rfl) rfl dX8_fact_26 (cs' := 0) (sl' := 0) rfl rfl ?_
        refine V_if_ne C 34 dX8_fact_29 (by decide) (fun c17 => ?_) (fun c17 => ?_)
        · have hf := i_f c17 hf
          refine V_aload_n C dX8_fact_34 rfl 2 rfl ?_
          obtain ⟨h18, eh18, hf⟩ := o_b hf
          refine V_callV (as := []) (st := []) C ml_X8_114 fx8 (ct_X8_passWord eh18) rfl ⟨by decide, by decide, by decide, by decide⟩ (Nat.le_of_ble_eq_true rfl) rfl dX8_fact_35 (cs' := 0) (sl' := 0) rfl rfl ?_
          refine V_iconst (v := (1 : Int32)) C dX8_fact_38 (by decide) ?_
          refine V_istore_n (lv' := [(1, vI (1 : Int32)), (2, vI r5), (0, vR 8 (some v0))]) C dX8_fact_39 rfl (by decide) rfl ?_
          refine V_goto C 72 dX8_fact_40 (by decide) ?_
          refine V_sub (lv' := [(0, vR 8 (some v0)), (1, vI (1 : Int32))]) [2, 0] rfl ?_
          exact p_X8_fact_72 C hQ ih hf
        · have hf := i_t c17 hf
          refine V_iconst (v := (0 : Int32)) C dX8_fact_32 (by decide) ?_
          obtain ⟨hf1, hf2⟩ := Prod.mk.inj (Option.some.inj hf)
          subst hf1
          subst hf2
          exact V_zret C (by decide) hQ dX8_fact_33
def f_X8_fact (N : Nat) (h : Hp) (v0 : Nat) : Option (Int32 × Hp) := f_X8_fact_2 N N h v0 (1 : Int32)
set_option maxHeartbeats 4000000 in
set_option maxRecDepth 100000 in
theorem p_X8_fact {X : XT} {r : Int32} {h' : Hp} (C : CX X cX8_fact "WaterStairModel" 3 (some .boolean) rmX8_fact) {N : Nat} {h : Hp} {v0 : Nat} (hQ : QX X (some (vI r)) h' rmX8_fact.cells rmX8_fact.slots) (hf : f_X8_fact N h v0 = some ((r, h'))) : V X 0 0 h 0 [(0, vR 8 (some v0))] [] := by
  unfold f_X8_fact at hf
  refine V_iconst (v := (1 : Int32)) C dX8_fact_0 (by decide) ?_
  refine V_istore_n (lv' := [(1, vI (1 : Int32)), (0, vR 8 (some v0))]) C dX8_fact_1 rfl (by decide) rfl ?_
  refine V_sub (lv' := [(0, vR 8 (some v0)), (1, vI (1 : Int32))]) [1, 0] rfl ?_
  exact p_X8_fact_2 C hQ N _ _ _ hf
theorem ct_X8_fact {r : Int32} {h' : Hp} {N : Nat} {h : Hp} {v0 : Nat} (hf : f_X8_fact N h v0 = some ((r, h'))) (l : Launch) (G : GT) : MC l G yX8_fact cX8_fact 3 (some .boolean) rmX8_fact h [vR 8 (some v0)] (some (vI r)) h' := MC_of (by decide) rfl (Nat.le_of_ble_eq_true rfl) rfl (fun X C hQ hin => p_X8_fact C hQ hf)
abbrev rmX8_isInside : Room := { frames := 0, cells := 0, slots := 0, locals := 0 }
def f_X8_isInside_2 (N : Nat) : Nat → Hp → Nat → Int32 → Option (Int32)
  | 0, _, _, _ => none
  | n + 1, h, v0, v1 => if (hI h v0 22) ≤ v1 then (some (0 : Int32)) else (Option.bind (hP h v0 21) (fun q2 => if 0 ≤ v1 ∧ v1.toNatClampNeg < hL h q2 then (if (hI h q2 (v1.toNatClampNeg)) = (91 : Int32) then (some (1 : Int32)) else (f_X8_isInside_2 N n h v0 (v1 + (1 : Int32)))) else none))
set_option maxHeartbeats 4000000 in
set_option maxRecDepth 100000 in
theorem p_X8_isInside_2 {X : XT} {r : Int32} {h : Hp} (C : CX X cX8_isInside "WaterStairModel" 2 (some .boolean) rmX8_isInside) (hQ : QX X (some (vI r)) h rmX8_isInside.cells rmX8_isInside.slots) {N : Nat}  : ∀ (n : Nat) (v0 : Nat) (v1 : Int32), f_X8_isInside_2 N n h v0 v1 = some r → V X 0 0 h 2 [(0, vR 8 (some v0)), (1, vI v1)] [] := by
  intro n
  induction n with
  | zero =>
    intro v0 v1 hf
    have hf : (none : Option (Int32)) = some _ := hf
    cases hf
  | succ n ih =>
    intro v0 v1 hf
    rw [f_X8_isInside_2] at hf
    refine V_iload_n C dX8_isInside_2 rfl 1 rfl ?_
    refine V_aload_n C dX8_isInside_3 rfl 0 rfl ?_
    refine V_getI C fl_X8_160 rfl dX8_isInside_4 ?_
    refine V_icmp_ge C 29 dX8_isInside_7 (by decide) (fun c1 => ?_) (fun c1 => ?_)
    · have hf := i_t c1 hf
      refine V_iconst (v := (0 : Int32)) C dX8_isInside_29 (by decide) ?_
      have hf := Option.some.inj hf
      subst hf
      exact V_zret C (by decide) hQ dX8_isInside_30
    · have hf := i_f c1 hf
      refine V_aload_n C dX8_isInside_10 rfl 0 rfl ?_
      obtain ⟨q2, eq2, hf⟩ := o_b hf
      refine V_getR C fl_X8_32 rfl rfl (by decide) eq2 dX8_isInside_11 ?_
      refine V_iload_n C dX8_isInside_14 rfl 1 rfl ?_
      obtain ⟨g3, hf⟩ := o_if hf
      refine V_iald C (vp_g g3) rfl dX8_isInside_15 ?_
      refine V_bipush (v := (91 : Int32)) C dX8_isInside_16 (by decide) ?_
      refine V_icmp_ne C 23 dX8_isInside_18 (by decide) (fun c4 => ?_) (fun c4 => ?_)
      · have hf := i_f c4 hf
        refine V_iinc (lv' := [(1, vI (v1 + (1 : Int32))), (0, vR 8 (some v0))]) C dX8_isInside_23 1 rfl (congrArg (v1 + ·) (by decide : Int32.ofInt (1) = (1 : Int32))) (by decide) rfl ?_
        refine V_goto C 2 dX8_isInside_26 (by decide) ?_
        refine V_sub (lv' := [(0, vR 8 (some v0)), (1, vI (v1 + (1 : Int32)))]) [1, 0] rfl ?_
        exact ih _ _ hf
      · have hf := i_t c4 hf
        refine V_iconst (v := (1 : Int32)) C dX8_isInside_21 (by decide) ?_
        have hf := Option.some.inj hf
        subst hf
        exact V_zret C (by decide) hQ dX8_isInside_22
def f_X8_isInside (N : Nat) (h : Hp) (v0 : Nat) : Option (Int32) := f_X8_isInside_2 N N h v0 (0 : Int32)
set_option maxHeartbeats 4000000 in
set_option maxRecDepth 100000 in
theorem p_X8_isInside {X : XT} {r : Int32} (C : CX X cX8_isInside "WaterStairModel" 2 (some .boolean) rmX8_isInside) {N : Nat} {h : Hp} {v0 : Nat} (hQ : QX X (some (vI r)) h rmX8_isInside.cells rmX8_isInside.slots) (hf : f_X8_isInside N h v0 = some r) : V X 0 0 h 0 [(0, vR 8 (some v0))] [] := by
  unfold f_X8_isInside at hf
  refine V_iconst (v := (0 : Int32)) C dX8_isInside_0 (by decide) ?_
  refine V_istore_n (lv' := [(1, vI (0 : Int32)), (0, vR 8 (some v0))]) C dX8_isInside_1 rfl (by decide) rfl ?_
  refine V_sub (lv' := [(0, vR 8 (some v0)), (1, vI (0 : Int32))]) [1, 0] rfl ?_
  exact p_X8_isInside_2 C hQ N _ _ hf
theorem ct_X8_isInside {r : Int32} {N : Nat} {h : Hp} {v0 : Nat} (hf : f_X8_isInside N h v0 = some r) (l : Launch) (G : GT) : MC l G yX8_isInside cX8_isInside 2 (some .boolean) rmX8_isInside h [vR 8 (some v0)] (some (vI r)) h := MC_of (by decide) rfl (Nat.le_of_ble_eq_true rfl) rfl (fun X C hQ hin => p_X8_isInside C hQ hf)
abbrev rmX8_closes : Room := { frames := 2, cells := 0, slots := 0, locals := 43 }
def f_X8_closes_5 (N : Nat) : Nat → Hp → Nat → Option (Hp)
  | 0, _, _ => none
  | n + 1, h, v0 => b2 (f_X8_see N h v0) (fun r1 h2 => if r1 = (93 : Int32) then (Option.bind (f_X8_isInside N h2 v0) (fun r4 => if r4 = 0 then (some h2) else (Option.bind (f_X8_settles N h2 v0 (1 : Int32)) (fun h6 => lt (sI h6 v0 22 ((hI h6 v0 22) - (1 : Int32))) (fun h7 => lt (sI h7 v0 19 ((hI h7 v0 19) - (1 : Int32))) (fun h8 => lt (sI h8 v0 14 ((hI h8 v0 14) + (1 : Int32))) (fun h9 => Option.bind (f_X8_settles N h9 v0 (3 : Int32)) (fun h10 => f_X8_closes_5 N n h10 v0)))))))) else (some h2))
set_option maxHeartbeats 4000000 in
set_option maxRecDepth 100000 in
theorem p_X8_closes_5 {X : XT} {h' : Hp} (C : CX X cX8_closes "WaterStairModel" 1 none rmX8_closes) (hQ : QX X none h' rmX8_closes.cells rmX8_closes.slots) {N : Nat}  : ∀ (n : Nat) (h : Hp) (v0 : Nat), f_X8_closes_5 N n h v0 = some h' → V X 0 0 h 5 [(0, vR 8 (some v0))] [] := by
  intro n
  induction n with
  | zero =>
    intro h v0 hf
    have hf : (none : Option (Hp)) = some _ := hf
    cases hf
  | succ n ih =>
    intro h v0 hf
    rw [f_X8_closes_5] at hf
    refine V_aload_n C dX8_closes_5 rfl 0 rfl ?_
    obtain ⟨r1, h2, er1, hf⟩ := o_b2 hf
    refine V_callV (as := []) (st := []) C ml_X8_102 fx8 (ct_X8_see er1) rfl ⟨by decide, by decide, by decide, by decide⟩ (Nat.le_of_ble_eq_true rfl) rfl dX8_closes_6 (cs' := 0) (sl' := 0) rfl rfl ?_
    refine V_bipush (v := (93 : Int32)) C dX8_closes_9 (by decide) ?_
    refine V_icmp_ne C 64 dX8_closes_11 (by decide) (fun c3 => ?_) (fun c3 => ?_)
    · have hf := i_f c3 hf
      have hf := Option.some.inj hf
      subst hf
      exact V_vret C hQ dX8_closes_64
    · have hf := i_t c3 hf
      refine V_aload_n C dX8_closes_14 rfl 0 rfl ?_
      obtain ⟨r4, er4, hf⟩ := o_b hf
      refine V_callV (as := []) (st := []) C ml_X8_202 fx8 (ct_X8_isInside er4) rfl ⟨by decide, by decide, by decide, by decide⟩ (Nat.le_of_ble_eq_true rfl) rfl dX8_closes_15 (cs' := 0) (sl' := 0) rfl rfl ?_
      refine V_if_eq C 64 dX8_closes_18 (by decide) (fun c5 => ?_) (fun c5 => ?_)
      · have hf := i_t c5 hf
        have hf := Option.some.inj hf
        subst hf
        exact V_vret C hQ dX8_closes_64
      · have hf := i_f c5 hf
        refine V_aload_n C dX8_closes_21 rfl 0 rfl ?_
        refine V_iconst (v := (1 : Int32)) C dX8_closes_22 (by decide) ?_
        obtain ⟨h6, eh6, hf⟩ := o_b hf
        refine V_callV (as := [vI (1 : Int32)]) (st := []) C ml_X8_199 fx8 (ct_X8_settles eh6) rfl ⟨by decide, by decide, by decide, by decide⟩ (Nat.le_of_ble_eq_true rfl) rfl dX8_closes_23 (cs' := 0) (sl' := 0) rfl rfl ?_
        refine V_aload_n C dX8_closes_26 rfl 0 rfl ?_
        refine V_dup C dX8_closes_27 rfl ?_
        refine V_getI C fl_X8_160 rfl dX8_closes_28 ?_
        refine V_iconst (v := (1 : Int32)) C dX8_closes_31 (by decide) ?_
        refine V_isub C dX8_closes_32 ?_
        obtain ⟨h7, eh7, hf⟩ := o_l hf
        refine V_putI C nf_X8_160 rfl (okI_int _) dX8_closes_33 (V_eqH eh7 ?_)
        refine V_aload_n C dX8_closes_36 rfl 0 rfl ?_
        refine V_dup C dX8_closes_37 rfl ?_
        refine V_getI C fl_X8_157 rfl dX8_closes_38 ?_
        refine V_iconst (v := (1 : Int32)) C dX8_closes_41 (by decide) ?_
        refine V_isub C dX8_closes_42 ?_
        obtain ⟨h8, eh8, hf⟩ := o_l hf
        refine V_putI C nf_X8_157 rfl (okI_int _) dX8_closes_43 (V_eqH eh8 ?_)
        refine V_aload_n C dX8_closes_46 rfl 0 rfl ?_
        refine V_dup C dX8_closes_47 rfl ?_
        refine V_getI C fl_X8_99 rfl dX8_closes_48 ?_
        refine V_iconst (v := (1 : Int32)) C dX8_closes_51 (by decide) ?_
        refine V_iadd C dX8_closes_52 ?_
        obtain ⟨h9, eh9, hf⟩ := o_l hf
        refine V_putI C nf_X8_99 rfl (okI_int _) dX8_closes_53 (V_eqH eh9 ?_)
        refine V_aload_n C dX8_closes_56 rfl 0 rfl ?_
        refine V_iconst (v := (3 : Int32)) C dX8_closes_57 (by decide) ?_
        obtain ⟨h10, eh10, hf⟩ := o_b hf
        refine V_callV (as := [vI (3 : Int32)]) (st := []) C ml_X8_199 fx8 (ct_X8_settles eh10) rfl ⟨by decide, by decide, by decide, by decide⟩ (Nat.le_of_ble_eq_true rfl) rfl dX8_closes_58 (cs' := 0) (sl' := 0) rfl rfl ?_
        refine V_goto C 5 dX8_closes_61 (by decide) ?_
        refine V_sub (lv' := [(0, vR 8 (some v0))]) [0] rfl ?_
        exact ih _ _ hf
def f_X8_closes (N : Nat) (h : Hp) (v0 : Nat) : Option (Hp) := Option.bind (f_X8_settles N h v0 (3 : Int32)) (fun h11 => f_X8_closes_5 N N h11 v0)
set_option maxHeartbeats 4000000 in
set_option maxRecDepth 100000 in
theorem p_X8_closes {X : XT} {h' : Hp} (C : CX X cX8_closes "WaterStairModel" 1 none rmX8_closes) {N : Nat} {h : Hp} {v0 : Nat} (hQ : QX X none h' rmX8_closes.cells rmX8_closes.slots) (hf : f_X8_closes N h v0 = some h') : V X 0 0 h 0 [(0, vR 8 (some v0))] [] := by
  unfold f_X8_closes at hf
  refine V_aload_n C dX8_closes_0 rfl 0 rfl ?_
  refine V_iconst (v := (3 : Int32)) C dX8_closes_1 (by decide) ?_
  obtain ⟨h11, eh11, hf⟩ := o_b hf
  refine V_callV (as := [vI (3 : Int32)]) (st := []) C ml_X8_199 fx8 (ct_X8_settles eh11) rfl ⟨by decide, by decide, by decide, by decide⟩ (Nat.le_of_ble_eq_true rfl) rfl dX8_closes_2 (cs' := 0) (sl' := 0) rfl rfl ?_
  refine V_sub (lv' := [(0, vR 8 (some v0))]) [0] rfl ?_
  exact p_X8_closes_5 C hQ N _ _ hf
theorem ct_X8_closes {h' : Hp} {N : Nat} {h : Hp} {v0 : Nat} (hf : f_X8_closes N h v0 = some h') (l : Launch) (G : GT) : MC l G yX8_closes cX8_closes 1 none rmX8_closes h [vR 8 (some v0)] none h' := MC_of (by decide) rfl (Nat.le_of_ble_eq_true rfl) rfl (fun X C hQ hin => p_X8_closes C hQ hf)
abbrev rmX8_tested : Room := { frames := 8, cells := 0, slots := 0, locals := 176 }
def f_X8_tested_76 (N : Nat) (s12 : Hp → Nat → Int32 → Option (Int32 × Hp)) (h : Hp) (v0 : Nat) (v1 : Int32) (s0_ : Int32) : Option (Int32 × Hp) := Option.bind (f_X8_passWord N h v0) (fun h1 => Option.bind (f_X8_strength h1 s0_) (fun r2 => Option.bind (f_X8_settles N h1 v0 r2) (fun h3 => Option.bind (hP h3 v0 21) (fun q4 => if 0 ≤ hI h3 v0 22 ∧ (hI h3 v0 22).toNatClampNeg < hL h3 q4 then (lt (sI h3 q4 ((hI h3 v0 22).toNatClampNeg) s0_) (fun h6 => lt (sI h6 v0 22 ((hI h6 v0 22) + (1 : Int32))) (fun h7 => s12 h7 v0 v1))) else none))))
set_option maxHeartbeats 4000000 in
set_option maxRecDepth 100000 in
theorem p_X8_tested_76 {X : XT} {r : Int32} {h' : Hp} (C : CX X cX8_tested "WaterStairModel" 3 (some .boolean) rmX8_tested) (hQ : QX X (some (vI r)) h' rmX8_tested.cells rmX8_tested.slots) {N : Nat} {s12 : Hp → Nat → Int32 → Option (Int32 × Hp)} (S12 : ∀ (h : Hp) (v0 : Nat) (v1 : Int32), s12 h v0 v1 = some ((r, h')) → V X 0 0 h 12 [(0, vR 8 (some v0)), (1, vI v1)] []) {h : Hp} {v0 : Nat} {v1 : Int32} {s0_ : Int32} (hf : f_X8_tested_76 N s12 h v0 v1 s0_ = some ((r, h'))) : V X 0 0 h 76 [(0, vR 8 (some v0)), (1, vI v1)] [vI s0_] := by
  unfold f_X8_tested_76 at hf
  refine V_istore_n (lv' := [(2, vI s0_), (0, vR 8 (some v0)), (1, vI v1)]) C dX8_tested_76 rfl (by decide) rfl ?_
  refine V_aload_n C dX8_tested_77 rfl 1 rfl ?_
  obtain ⟨h1, eh1, hf⟩ := o_b hf
  refine V_callV (as := []) (st := []) C ml_X8_114 fx8 (ct_X8_passWord eh1) rfl ⟨by decide, by decide, by decide, by decide⟩ (Nat.le_of_ble_eq_true rfl) rfl dX8_tested_78 (cs' := 0) (sl' := 0) rfl rfl ?_
  refine V_aload_n C dX8_tested_81 rfl 1 rfl ?_
  refine V_iload_n C dX8_tested_82 rfl 0 rfl ?_
  obtain ⟨r2, er2, hf⟩ := o_b hf
  refine V_callS (as := [vI s0_]) (st := [vR 8 (some v0)]) C ml_X8_163 (ct_X8_strength er2) rfl ⟨by decide, by decide, by decide, by decide⟩ (Nat.le_of_ble_eq_true rfl) rfl dX8_tested_83 (cs' := 0) (sl' := 0) rfl rfl ?_
  obtain ⟨h3, eh3, hf⟩ := o_b hf
  refine V_callV (as := [vI r2]) (st := []) C ml_X8_199 fx8 (ct_X8_settles eh3) rfl ⟨by decide, by decide, by decide, by decide⟩ (Nat.le_of_ble_eq_true rfl) rfl dX8_tested_86 (cs' := 0) (sl' := 0) rfl rfl ?_
  refine V_aload_n C dX8_tested_89 rfl 1 rfl ?_
  obtain ⟨q4, eq4, hf⟩ := o_b hf
  refine V_getR C fl_X8_32 rfl rfl (by decide) eq4 dX8_tested_90 ?_
  refine V_aload_n C dX8_tested_93 rfl 1 rfl ?_
  refine V_getI C fl_X8_160 rfl dX8_tested_94 ?_
  refine V_iload_n C dX8_tested_97 rfl 0 rfl ?_
  obtain ⟨g5, hf⟩ := o_if hf
  obtain ⟨h6, eh6, hf⟩ := o_l hf
  refine V_iast C (vp_g g5) rfl dX8_tested_98 (V_eqH eh6 ?_)
  refine V_aload_n C dX8_tested_99 rfl 1 rfl ?_
  refine V_dup C dX8_tested_100 rfl ?_
  refine V_getI C fl_X8_160 rfl dX8_tested_101 ?_
  refine V_iconst (v := (1 : Int32)) C dX8_tested_104 (by decide) ?_
  refine V_iadd C dX8_tested_105 ?_
  obtain ⟨h7, eh7, hf⟩ := o_l hf
  refine V_putI C nf_X8_160 rfl (okI_int _) dX8_tested_106 (V_eqH eh7 ?_)
  refine V_goto C 12 dX8_tested_109 (by decide) ?_
  refine V_sub (lv' := [(0, vR 8 (some v0)), (1, vI v1)]) [1, 2] rfl ?_
  exact S12 _ _ _ hf
def f_X8_tested_54 (N : Nat) (s12 : Hp → Nat → Int32 → Option (Int32 × Hp)) (h : Hp) (v0 : Nat) (s0_ : Int32) : Option (Int32 × Hp) := if s0_ = 0 then (s12 h v0 s0_) else (b2 (f_X8_isWord N h v0 (6385252 : Int64)) (fun r9 h10 => if r9 = 0 then (f_X8_tested_76 N s12 h10 v0 s0_ (13 : Int32)) else (f_X8_tested_76 N s12 h10 v0 s0_ (12 : Int32))))
set_option maxHeartbeats 4000000 in
set_option maxRecDepth 100000 in
theorem p_X8_tested_54 {X : XT} {r : Int32} {h' : Hp} (C : CX X cX8_tested "WaterStairModel" 3 (some .boolean) rmX8_tested) (hQ : QX X (some (vI r)) h' rmX8_tested.cells rmX8_tested.slots) {N : Nat} {s12 : Hp → Nat → Int32 → Option (Int32 × Hp)} (S12 : ∀ (h : Hp) (v0 : Nat) (v1 : Int32), s12 h v0 v1 = some ((r, h')) → V X 0 0 h 12 [(0, vR 8 (some v0)), (1, vI v1)] []) {h : Hp} {v0 : Nat} {s0_ : Int32} (hf : f_X8_tested_54 N s12 h v0 s0_ = some ((r, h'))) : V X 0 0 h 54 [(0, vR 8 (some v0))] [vI s0_] := by
  unfold f_X8_tested_54 at hf
  refine V_istore_n (lv' := [(1, vI s0_), (0, vR 8 (some v0))]) C dX8_tested_54 rfl (by decide) rfl ?_
  refine V_iload_n C dX8_tested_55 rfl 0 rfl ?_
  refine V_if_eq C 12 dX8_tested_56 (by decide) (fun c8 => ?_) (fun c8 => ?_)
  · have hf := i_t c8 hf
    refine V_sub (lv' := [(0, vR 8 (some v0)), (1, vI s0_)]) [1, 0] rfl ?_
    exact S12 _ _ _ hf
  · have hf := i_f c8 hf
    refine V_aload_n C dX8_tested_59 rfl 1 rfl ?_
    refine V_ldc2 C kl_X8_211 dX8_tested_60 ?_
    obtain ⟨r9, h10, er9, hf⟩ := o_b2 hf
    refine V_callV (as := [vL (6385252 : Int64)]) (st := []) C ml_X8_110 fx8 (ct_X8_isWord er9) rfl ⟨by decide, by decide, by decide, by decide⟩ (Nat.le_of_ble_eq_true rfl) rfl dX8_tested_63 (cs' := 0) (sl' := 0) rfl rfl ?_
    refine V_if_eq C 74 dX8_tested_66 (by decide) (fun c11 => ?_) (fun c11 => ?_)
    · have hf := i_t c11 hf
      refine V_bipush (v := (13 : Int32)) C dX8_tested_74 (by decide) ?_
      refine V_sub (lv' := [(0, vR 8 (some v0)), (1, vI s0_)]) [1, 0] rfl ?_
      exact p_X8_tested_76 C hQ S12 hf
    · have hf := i_f c11 hf
      refine V_bipush (v := (12 : Int32)) C dX8_tested_69 (by decide) ?_
      refine V_goto C 76 dX8_tested_71 (by decide) ?_
      refine V_sub (lv' := [(0, vR 8 (some v0)), (1, vI s0_)]) [1, 0] rfl ?_
      exact p_X8_tested_76 C hQ S12 hf
def f_X8_tested_49 (N : Nat) (s12 : Hp → Nat → Int32 → Option (Int32 × Hp)) (h : Hp) (v0 : Nat) : Option (Int32 × Hp) := f_X8_tested_54 N s12 h v0 (1 : Int32)
set_option maxHeartbeats 4000000 in
set_option maxRecDepth 100000 in
theorem p_X8_tested_49 {X : XT} {r : Int32} {h' : Hp} (C : CX X cX8_tested "WaterStairModel" 3 (some .boolean) rmX8_tested) (hQ : QX X (some (vI r)) h' rmX8_tested.cells rmX8_tested.slots) {N : Nat} {s12 : Hp → Nat → Int32 → Option (Int32 × Hp)} (S12 : ∀ (h : Hp) (v0 : Nat) (v1 : Int32), s12 h v0 v1 = some ((r, h')) → V X 0 0 h 12 [(0, vR 8 (some v0)), (1, vI v1)] []) {h : Hp} {v0 : Nat} (hf : f_X8_tested_49 N s12 h v0 = some ((r, h'))) : V X 0 0 h 49 [(0, vR 8 (some v0))] [] := by
  unfold f_X8_tested_49 at hf
  refine V_iconst (v := (1 : Int32)) C dX8_tested_49 (by decide) ?_
  refine V_goto C 54 dX8_tested_50 (by decide) ?_
  refine V_sub (lv' := [(0, vR 8 (some v0))]) [0] rfl ?_
  exact p_X8_tested_54 C hQ S12 hf
def f_X8_tested_12 (N : Nat) : Nat → Hp → Nat → Int32 → Option (Int32 × Hp)
  | 0, _, _, _ => none
  | n + 1, h, v0, v1 => if v1 = 0 then (Option.bind (f_X8_isInside N h v0) (fun r13 => if r13 = 0 then (Option.bind (f_X8_settles N h v0 (1 : Int32)) (fun h15 => some (((1 : Int32), h15)))) else (b2 (f_X8_see N h v0) (fun r16 h17 => b2 (f_X8_fails h17 v0 (0 : Int32) (hI h17 v0 14)) (fun r18 h19 => if r18 = 0 ∨ r18 = 1 then (some ((r18, h19))) else none))))) else (b2 (f_X8_fact N h v0) (fun r21 h22 => if r21 = 0 then (some (((0 : Int32), h22))) else (Option.bind (f_X8_closes N h22 v0) (fun h24 => b2 (f_X8_isWord N h24 v0 (6385252 : Int64)) (fun r25 h26 => if r25 = 0 then (b2 (f_X8_isWord N h26 v0 (28530 : Int64)) (fun r28 h29 => if r28 = 0 then (f_X8_tested_54 N (f_X8_tested_12 N n) h29 v0 (0 : Int32)) else (f_X8_tested_49 N (f_X8_tested_12 N n) h29 v0))) else (f_X8_tested_49 N (f_X8_tested_12 N n) h26 v0))))))
set_option maxHeartbeats 4000000 in
set_option maxRecDepth 100000 in
theorem p_X8_tested_12 {X : XT} {r : Int32} {h' : Hp} (C : CX X cX8_tested "WaterStairModel" 3 (some .boolean) rmX8_tested) (hQ : QX X (some (vI r)) h' rmX8_tested.cells rmX8_tested.slots) {N : Nat}  : ∀ (n : Nat) (h : Hp) (v0 : Nat) (v1 : Int32), f_X8_tested_12 N n h v0 v1 = some ((r, h')) → V X 0 0 h 12 [(0, vR 8 (some v0)), (1, vI v1)] [] := by
  intro n
  induction n with
  | zero =>
    intro h v0 v1 hf
    have hf : (none : Option (Int32 × Hp)) = some _ := hf
    cases hf
  | succ n ih =>
    intro h v0 v1 hf
    rw [f_X8_tested_12] at hf
    refine V_iload_n C dX8_tested_12 rfl 1 rfl ?_
    refine V_if_eq C 112 dX8_tested_13 (by decide) (fun c12 => ?_) (fun c12 => ?_)
    · have hf := i_t c12 hf
      refine V_aload_n C dX8_tested_112 rfl 0 rfl ?_
      obtain ⟨r13, er13, hf⟩ := o_b hf
      refine V_callV (as := []) (st := []) C ml_X8_202 fx8 (ct_X8_isInside er13) rfl ⟨by decide, by decide, by decide, by decide⟩ (Nat.le_of_ble_eq_true rfl) rfl dX8_tested_113 (cs' := 0) (sl' := 0) rfl rfl ?_
      refine V_if_eq C 134 dX8_tested_116 (by decide) (fun c14 => ?_) (fun c14 => ?_)
      · have hf := i_t c14 hf
        refine V_aload_n C dX8_tested_134 rfl 0 rfl ?_
        refine V_iconst (v := (1 : Int32)) C dX8_tested_135 (by decide) ?_
        obtain ⟨h15, eh15, hf⟩ := o_b hf
        refine V_callV (as := [vI (1 : Int32)]) (st := []) C ml_X8_199 fx8 (ct_X8_settles eh15) rfl ⟨by decide, by decide, by decide, by decide⟩ (Nat.le_of_ble_eq_true rfl) rfl dX8_tested_136 (cs' := 0) (sl' := 0) rfl rfl ?_
        refine V_iconst (v := (1 : Int32)) C dX8_tested_139 (by decide) ?_
        obtain ⟨hf1, hf2⟩ := Prod.mk.inj (Option.some.inj hf)
        subst hf1
        subst hf2
        exact V_zret C (by decide) hQ dX8_tested_140
      · have hf := i_f c14 hf
        refine V_aload_n C dX8_tested_119 rfl 0 rfl ?_
        obtain ⟨r16, h17, er16, hf⟩ := o_b2 hf
        refine V_callV (as := []) (st := []) C ml_X8_102 fx8 (ct_X8_see er16) rfl ⟨by decide, by decide, by decide, by decide⟩ (Nat.le_of_ble_eq_true rfl) rfl dX8_tested_120 (cs' := 0) (sl' := 0) rfl rfl ?_
        refine V_pop C dX8_tested_123 rfl ?_
        refine V_aload_n C dX8_tested_124 rfl 0 rfl ?_
        refine V_iconst (v := (0 : Int32)) C dX8_tested_125 (by decide) ?_
        refine V_aload_n C dX8_tested_126 rfl 0 rfl ?_
        refine V_getI C fl_X8_99 rfl dX8_tested_127 ?_
        obtain ⟨r18, h19, er18, hf⟩ := o_b2 hf
        refine V_callV (as := [vI (0 : Int32), vI (hI h17 v0 14)]) (st := []) C ml_X8_120 fx8 (ct_X8_fails er18) rfl ⟨by decide, by decide, by decide, by decide⟩ (Nat.le_of_ble_eq_true rfl) rfl dX8_tested_130 (cs' := 0) (sl' := 0) rfl rfl ?_
        obtain ⟨g20, hf⟩ := o_if hf
        obtain ⟨hf1, hf2⟩ := Prod.mk.inj (Option.some.inj hf)
        subst hf1
        subst hf2
        exact V_zret C (okI_z g20).1 hQ dX8_tested_133
    · have hf := i_f c12 hf
      refine V_aload_n C dX8_tested_16 rfl 0 rfl ?_
      obtain ⟨r21, h22, er21, hf⟩ := o_b2 hf
      refine V_callV (as := []) (st := []) C ml_X8_205 fx8 (ct_X8_fact er21) rfl ⟨by decide, by decide, by decide, by decide⟩ (Nat.le_of_ble_eq_true rfl) rfl dX8_tested_17 (cs' := 0) (sl' := 0) rfl rfl ?_
      refine V_if_ne C 25 dX8_tested_20 (by decide) (fun c23 => ?_) (fun c23 => ?_)
      · have hf := i_f c23 hf
        refine V_aload_n C dX8_tested_25 rfl 0 rfl ?_
        obtain ⟨h24, eh24, hf⟩ := o_b hf
        refine V_callV (as := []) (st := []) C ml_X8_208 fx8 (ct_X8_closes eh24) rfl ⟨by decide, by decide, by decide, by decide⟩ (Nat.le_of_ble_eq_true rfl) rfl dX8_tested_26 (cs' := 0) (sl' := 0) rfl rfl ?_
        refine V_aload_n C dX8_tested_29 rfl 0 rfl ?_
        refine V_ldc2 C kl_X8_211 dX8_tested_30 ?_
        obtain ⟨r25, h26, er25, hf⟩ := o_b2 hf
        refine V_callV (as := [vL (6385252 : Int64)]) (st := []) C ml_X8_110 fx8 (ct_X8_isWord er25) rfl ⟨by decide, by decide, by decide, by decide⟩ (Nat.le_of_ble_eq_true rfl) rfl dX8_tested_33 (cs' := 0) (sl' := 0) rfl rfl ?_
        refine V_if_ne C 49 dX8_tested_36 (by decide) (fun c27 => ?_) (fun c27 => ?_)
        · have hf := i_f c27 hf
          refine V_sub (lv' := [(0, vR 8 (some v0))]) [0] rfl ?_
          exact p_X8_tested_49 C hQ ih hf
        · have hf := i_t c27 hf
          refine V_aload_n C dX8_tested_39 rfl 0 rfl ?_
          refine V_ldc2 C kl_X8_213 dX8_tested_40 ?_
          obtain ⟨r28, h29, er28, hf⟩ := o_b2 hf
          refine V_callV (as := [vL (28530 : Int64)]) (st := []) C ml_X8_110 fx8 (ct_X8_isWord er28) rfl ⟨by decide, by decide, by decide, by decide⟩ (Nat.le_of_ble_eq_true rfl) rfl dX8_tested_43 (cs' := 0) (sl' := 0) rfl rfl ?_
          refine V_if_eq C 53 dX8_tested_46 (by decide) (fun c30 => ?_) (fun c30 => ?_)
          · have hf := i_t c30 hf
            refine V_iconst (v := (0 : Int32)) C dX8_tested_53 (by decide) ?_
            refine V_sub (lv' := [(0, vR 8 (some v0))]) [0] rfl ?_
            exact p_X8_tested_54 C hQ ih hf
          · have hf := i_f c30 hf
            refine V_sub (lv' := [(0, vR 8 (some v0))]) [0] rfl ?_
            exact p_X8_tested_49 C hQ ih hf
      · have hf := i_t c23 hf
        refine V_iconst (v := (0 : Int32)) C dX8_tested_23 (by decide) ?_
        obtain ⟨hf1, hf2⟩ := Prod.mk.inj (Option.some.inj hf)
        subst hf1
        subst hf2
        exact V_zret C (by decide) hQ dX8_tested_24
def f_X8_tested (N : Nat) (h : Hp) (v0 : Nat) : Option (Int32 × Hp) := lt (sI h v0 22 (0 : Int32)) (fun h31 => lt (sI h31 v0 19 (0 : Int32)) (fun h32 => f_X8_tested_12 N N h32 v0 (1 : Int32)))
set_option maxHeartbeats 4000000 in
set_option maxRecDepth 100000 in
theorem p_X8_tested {X : XT} {r : Int32} {h' : Hp} (C : CX X cX8_tested "WaterStairModel" 3 (some .boolean) rmX8_tested) {N : Nat} {h : Hp} {v0 : Nat} (hQ : QX X (some (vI r)) h' rmX8_tested.cells rmX8_tested.slots) (hf : f_X8_tested N h v0 = some ((r, h'))) : V X 0 0 h 0 [(0, vR 8 (some v0))] [] := by
  unfold f_X8_tested at hf
  refine V_aload_n C dX8_tested_0 rfl 0 rfl ?_
  refine V_iconst (v := (0 : Int32)) C dX8_tested_1 (by decide) ?_
  obtain ⟨h31, eh31, hf⟩ := o_l hf
  refine V_putI C nf_X8_160 rfl (okI_int _) dX8_tested_2 (V_eqH eh31 ?_)
  refine V_aload_n C dX8_tested_5 rfl 0 rfl ?_
  refine V_iconst (v := (0 : Int32)) C dX8_tested_6 (by decide) ?_
  obtain ⟨h32, eh32, hf⟩ := o_l hf
  refine V_putI C nf_X8_157 rfl (okI_int _) dX8_tested_7 (V_eqH eh32 ?_)
  refine V_iconst (v := (1 : Int32)) C dX8_tested_10 (by decide) ?_
  refine V_istore_n (lv' := [(1, vI (1 : Int32)), (0, vR 8 (some v0))]) C dX8_tested_11 rfl (by decide) rfl ?_
  refine V_sub (lv' := [(0, vR 8 (some v0)), (1, vI (1 : Int32))]) [1, 0] rfl ?_
  exact p_X8_tested_12 C hQ N _ _ _ hf
theorem ct_X8_tested {r : Int32} {h' : Hp} {N : Nat} {h : Hp} {v0 : Nat} (hf : f_X8_tested N h v0 = some ((r, h'))) (l : Launch) (G : GT) : MC l G yX8_tested cX8_tested 3 (some .boolean) rmX8_tested h [vR 8 (some v0)] (some (vI r)) h' := MC_of (by decide) rfl (Nat.le_of_ble_eq_true rfl) rfl (fun X C hQ hin => p_X8_tested C hQ hf)
abbrev rmX8_isBarHere : Room := { frames := 9, cells := 0, slots := 0, locals := 198 }
def f_X8_isBarHere (N : Nat) (h : Hp) (v0 : Nat) : Option (Int32 × Hp) := Option.bind (f_X8_passWord N h v0) (fun h1 => Option.bind (hP h1 v0 6) (fun q2 => if 0 ≤ hI h1 v0 17 ∧ (hI h1 v0 17).toNatClampNeg < hL h1 q2 then (lt (((24 : Int32) * (hI h1 v0 17)) + ((2 : Int32) * (hI h1 q2 ((hI h1 v0 17).toNatClampNeg)))) (fun y4 => Option.bind (hP h1 v0 5) (fun q5 => Option.bind (hP h1 v0 4) (fun q6 => if 0 ≤ hI h1 v0 17 ∧ (hI h1 v0 17).toNatClampNeg < hL h1 q6 then (lt (hI h1 q6 ((hI h1 v0 17).toNatClampNeg)) (fun y8 => if 0 ≤ y4 ∧ y4.toNatClampNeg < hL h1 q5 then (lt (sI h1 q5 (y4.toNatClampNeg) y8) (fun h10 => b2 (f_X8_tested N h10 v0) (fun r11 h12 => if r11 = 0 then (some (((0 : Int32), h12))) else (Option.bind (hP h12 v0 5) (fun q14 => Option.bind (hP h12 v0 4) (fun q15 => if 0 ≤ hI h12 v0 17 ∧ (hI h12 v0 17).toNatClampNeg < hL h12 q15 then (lt (hI h12 q15 ((hI h12 v0 17).toNatClampNeg)) (fun y17 => if 0 ≤ y4 + (1 : Int32) ∧ (y4 + (1 : Int32)).toNatClampNeg < hL h12 q14 then (lt (sI h12 q14 ((y4 + (1 : Int32)).toNatClampNeg) y17) (fun h19 => Option.bind (hP h19 v0 6) (fun q20 => if 0 ≤ hI h19 v0 17 ∧ (hI h19 v0 17).toNatClampNeg < hL h19 q20 then (lt ((hI h19 q20 ((hI h19 v0 17).toNatClampNeg)) + (1 : Int32)) (fun y22 => if 0 ≤ hI h19 v0 17 ∧ (hI h19 v0 17).toNatClampNeg < hL h19 q20 then (lt (sI h19 q20 ((hI h19 v0 17).toNatClampNeg) y22) (fun h24 => some (((1 : Int32), h24)))) else none)) else none))) else none)) else none)))))) else none)) else none)))) else none))
set_option maxHeartbeats 4000000 in
set_option maxRecDepth 100000 in
theorem p_X8_isBarHere {X : XT} {r : Int32} {h' : Hp} (C : CX X cX8_isBarHere "WaterStairModel" 2 (some .boolean) rmX8_isBarHere) {N : Nat} {h : Hp} {v0 : Nat} (hQ : QX X (some (vI r)) h' rmX8_isBarHere.cells rmX8_isBarHere.slots) (hf : f_X8_isBarHere N h v0 = some ((r, h'))) : V X 0 0 h 0 [(0, vR 8 (some v0))] [] := by
  unfold f_X8_isBarHere at hf
  refine V_aload_n C dX8_isBarHere_0 rfl 0 rfl ?_
  obtain ⟨h1, eh1, hf⟩ := o_b hf
  refine V_callV (as := []) (st := []) C ml_X8_114 fx8 (ct_X8_passWord eh1) rfl ⟨by decide, by decide, by decide, by decide⟩ (Nat.le_of_ble_eq_true rfl) rfl dX8_isBarHere_1 (cs' := 0) (sl' := 0) rfl rfl ?_
  refine V_bipush (v := (24 : Int32)) C dX8_isBarHere_4 (by decide) ?_
  refine V_aload_n C dX8_isBarHere_6 rfl 0 rfl ?_
  refine V_getI C fl_X8_151 rfl dX8_isBarHere_7 ?_
  refine V_imul C dX8_isBarHere_10 ?_
  refine V_iconst (v := (2 : Int32)) C dX8_isBarHere_11 (by decide) ?_
  refine V_aload_n C dX8_isBarHere_12 rfl 0 rfl ?_
  obtain ⟨q2, eq2, hf⟩ := o_b hf
  refine V_getR C fl_X8_23 rfl rfl (by decide) eq2 dX8_isBarHere_13 ?_
  refine V_aload_n C dX8_isBarHere_16 rfl 0 rfl ?_
  refine V_getI C fl_X8_151 rfl dX8_isBarHere_17 ?_
  obtain ⟨g3, hf⟩ := o_if hf
  refine V_iald C (vp_g g3) rfl dX8_isBarHere_20 ?_
  refine V_imul C dX8_isBarHere_21 ?_
  refine V_iadd C dX8_isBarHere_22 ?_
  obtain ⟨y4, ey4, hf⟩ := o_l hf
  refine V_eqI ey4 ?_
  refine V_istore_n (lv' := [(1, vI y4), (0, vR 8 (some v0))]) C dX8_isBarHere_23 rfl (by decide) rfl ?_
  refine V_aload_n C dX8_isBarHere_24 rfl 1 rfl ?_
  obtain ⟨q5, eq5, hf⟩ := o_b hf
  refine V_getR C fl_X8_20 rfl rfl (by decide) eq5 dX8_isBarHere_25 ?_
  refine V_iload_n C dX8_isBarHere_28 rfl 0 rfl ?_
  refine V_aload_n C dX8_isBarHere_29 rfl 1 rfl ?_
  obtain ⟨q6, eq6, hf⟩ := o_b hf
  refine V_getR C fl_X8_17 rfl rfl (by decide) eq6 dX8_isBarHere_30 ?_
  refine V_aload_n C dX8_isBarHere_33 rfl 1 rfl ?_
  refine V_getI C fl_X8_151 rfl dX8_isBarHere_34 ?_
  obtain ⟨g7, hf⟩ := o_if hf
  refine V_iald C (vp_g g7) rfl dX8_isBarHere_37 ?_
  obtain ⟨y8, ey8, hf⟩ := o_l hf
  refine V_eqI ey8 ?_
  obtain ⟨g9, hf⟩ := o_if hf
  obtain ⟨h10, eh10, hf⟩ := o_l hf
  refine V_iast C (vp_g g9) rfl dX8_isBarHere_38 (V_eqH eh10 ?_)
  refine V_aload_n C dX8_isBarHere_39 rfl 1 rfl ?_
  obtain ⟨r11, h12, er11, hf⟩ := o_b2 hf
  refine V_callV (as := []) (st := []) C ml_X8_215 fx8 (ct_X8_tested er11) rfl ⟨by decide, by decide, by decide, by decide⟩ (Nat.le_of_ble_eq_true rfl) rfl dX8_isBarHere_40 (cs' := 0) (sl' := 0) rfl rfl ?_
  refine V_if_ne C 48 dX8_isBarHere_43 (by decide) (fun c13 => ?_) (fun c13 => ?_)
  · have hf := i_f c13 hf
    refine V_aload_n C dX8_isBarHere_48 rfl 1 rfl ?_
    obtain ⟨q14, eq14, hf⟩ := o_b hf
    refine V_getR C fl_X8_20 rfl rfl (by decide) eq14 dX8_isBarHere_49 ?_
    refine V_iload_n C dX8_isBarHere_52 rfl 0 rfl ?_
    refine V_iconst (v := (1 : Int32)) C dX8_isBarHere_53 (by decide) ?_
    refine V_iadd C dX8_isBarHere_54 ?_
    refine V_aload_n C dX8_isBarHere_55 rfl 1 rfl ?_
    obtain ⟨q15, eq15, hf⟩ := o_b hf
    refine V_getR C fl_X8_17 rfl rfl (by decide) eq15 dX8_isBarHere_56 ?_
    refine V_aload_n C dX8_isBarHere_59 rfl 1 rfl ?_
    refine V_getI C fl_X8_151 rfl dX8_isBarHere_60 ?_
    obtain ⟨g16, hf⟩ := o_if hf
    refine V_iald C (vp_g g16) rfl dX8_isBarHere_63 ?_
    obtain ⟨y17, ey17, hf⟩ := o_l hf
    refine V_eqI ey17 ?_
    obtain ⟨g18, hf⟩ := o_if hf
    obtain ⟨h19, eh19, hf⟩ := o_l hf
    refine V_iast C (vp_g g18) rfl dX8_isBarHere_64 (V_eqH eh19 ?_)
    refine V_aload_n C dX8_isBarHere_65 rfl 1 rfl ?_
    obtain ⟨q20, eq20, hf⟩ := o_b hf
    refine V_getR C fl_X8_23 rfl rfl (by decide) eq20 dX8_isBarHere_66 ?_
    refine V_aload_n C dX8_isBarHere_69 rfl 1 rfl ?_
    refine V_getI C fl_X8_151 rfl dX8_isBarHere_70 ?_
    refine V_dup2 C dX8_isBarHere_73 rfl rfl ?_
    obtain ⟨g21, hf⟩ := o_if hf
    refine V_iald C (vp_g g21) rfl dX8_isBarHere_74 ?_
    refine V_iconst (v := (1 : Int32)) C dX8_isBarHere_75 (by decide) ?_
    refine V_iadd C dX8_isBarHere_76 ?_
    obtain ⟨y22, ey22, hf⟩ := o_l hf
    refine V_eqI ey22 ?_
    obtain ⟨g23, hf⟩ := o_if hf
    obtain ⟨h24, eh24, hf⟩ := o_l hf
    refine V_iast C (vp_g g23) rfl dX8_isBarHere_77 (V_eqH eh24 ?_)
    refine V_iconst (v := (1 : Int32)) C dX8_isBarHere_78 (by decide) ?_
    obtain ⟨hf1, hf2⟩ := Prod.mk.inj (Option.some.inj hf)
    subst hf1
    subst hf2
    exact V_zret C (by decide) hQ dX8_isBarHere_79
  · have hf := i_t c13 hf
    refine V_iconst (v := (0 : Int32)) C dX8_isBarHere_46 (by decide) ?_
    obtain ⟨hf1, hf2⟩ := Prod.mk.inj (Option.some.inj hf)
    subst hf1
    subst hf2
    exact V_zret C (by decide) hQ dX8_isBarHere_47
theorem ct_X8_isBarHere {r : Int32} {h' : Hp} {N : Nat} {h : Hp} {v0 : Nat} (hf : f_X8_isBarHere N h v0 = some ((r, h'))) (l : Launch) (G : GT) : MC l G yX8_isBarHere cX8_isBarHere 2 (some .boolean) rmX8_isBarHere h [vR 8 (some v0)] (some (vI r)) h' := MC_of (by decide) rfl (Nat.le_of_ble_eq_true rfl) rfl (fun X C hQ hin => p_X8_isBarHere C hQ hf)
abbrev rmX8_isLevelHere : Room := { frames := 2, cells := 0, slots := 0, locals := 49 }
def f_X8_isLevelHere_16 (N : Nat) (h : Hp) (v0 : Nat) (v1 : Int32) : Option (Int32 × Hp) := b2 (f_X8_fails h v0 (4 : Int32) v1) (fun r1 h2 => if r1 = 0 ∨ r1 = 1 then (some ((r1, h2))) else none)
set_option maxHeartbeats 4000000 in
set_option maxRecDepth 100000 in
theorem p_X8_isLevelHere_16 {X : XT} {r : Int32} {h' : Hp} (C : CX X cX8_isLevelHere "WaterStairModel" 2 (some .boolean) rmX8_isLevelHere) (hQ : QX X (some (vI r)) h' rmX8_isLevelHere.cells rmX8_isLevelHere.slots) {N : Nat}  {h : Hp} {v0 : Nat} {v1 : Int32} (hf : f_X8_isLevelHere_16 N h v0 v1 = some ((r, h'))) : V X 0 0 h 16 [(0, vR 8 (some v0)), (1, vI v1)] [] := by
  unfold f_X8_isLevelHere_16 at hf
  refine V_aload_n C dX8_isLevelHere_16 rfl 0 rfl ?_
  refine V_iconst (v := (4 : Int32)) C dX8_isLevelHere_17 (by decide) ?_
  refine V_iload_n C dX8_isLevelHere_18 rfl 1 rfl ?_
  obtain ⟨r1, h2, er1, hf⟩ := o_b2 hf
  refine V_callV (as := [vI (4 : Int32), vI v1]) (st := []) C ml_X8_120 fx8 (ct_X8_fails er1) rfl ⟨by decide, by decide, by decide, by decide⟩ (Nat.le_of_ble_eq_true rfl) rfl dX8_isLevelHere_19 (cs' := 0) (sl' := 0) rfl rfl ?_
  obtain ⟨g3, hf⟩ := o_if hf
  obtain ⟨hf1, hf2⟩ := Prod.mk.inj (Option.some.inj hf)
  subst hf1
  subst hf2
  exact V_zret C (okI_z g3).1 hQ dX8_isLevelHere_22
def f_X8_isLevelHere (N : Nat) (h : Hp) (v0 : Nat) (v1 : Int32) : Option (Int32 × Hp) := if (hI h v0 7) = (8 : Int32) then (f_X8_isLevelHere_16 N h v0 v1) else (if hI h v0 11 = 0 then (Option.bind (f_X8_passWord N h v0) (fun h6 => b2 (f_X8_numberHere N h6 v0 (0 : Int32) (999 : Int32)) (fun r7 h8 => if r7 = 0 then (some (((0 : Int32), h8))) else (Option.bind (hP h8 v0 12) (fun q10 => if 0 ≤ (2 : Int32) * (hI h8 v0 7) ∧ ((2 : Int32) * (hI h8 v0 7)).toNatClampNeg < hL h8 q10 then (lt (sI h8 q10 (((2 : Int32) * (hI h8 v0 7)).toNatClampNeg) (hI h8 v0 16)) (fun h12 => b2 (f_X8_numberHere N h12 v0 (1 : Int32) (8 : Int32)) (fun r13 h14 => if r13 = 0 then (some (((0 : Int32), h14))) else (Option.bind (hP h14 v0 12) (fun q16 => if 0 ≤ ((2 : Int32) * (hI h14 v0 7)) + (1 : Int32) ∧ (((2 : Int32) * (hI h14 v0 7)) + (1 : Int32)).toNatClampNeg < hL h14 q16 then (lt (sI h14 q16 ((((2 : Int32) * (hI h14 v0 7)) + (1 : Int32)).toNatClampNeg) (hI h14 v0 16)) (fun h18 => lt (sI h18 v0 7 ((hI h18 v0 7) + (1 : Int32))) (fun h19 => some (((1 : Int32), h19))))) else none))))) else none))))) else (f_X8_isLevelHere_16 N h v0 v1))
set_option maxHeartbeats 4000000 in
set_option maxRecDepth 100000 in
theorem p_X8_isLevelHere {X : XT} {r : Int32} {h' : Hp} (C : CX X cX8_isLevelHere "WaterStairModel" 2 (some .boolean) rmX8_isLevelHere) {N : Nat} {h : Hp} {v0 : Nat} {v1 : Int32} (hQ : QX X (some (vI r)) h' rmX8_isLevelHere.cells rmX8_isLevelHere.slots) (hf : f_X8_isLevelHere N h v0 v1 = some ((r, h'))) : V X 0 0 h 0 [(0, vR 8 (some v0)), (1, vI v1)] [] := by
  unfold f_X8_isLevelHere at hf
  refine V_aload_n C dX8_isLevelHere_0 rfl 0 rfl ?_
  refine V_getI C fl_X8_218 rfl dX8_isLevelHere_1 ?_
  refine V_bipush (v := (8 : Int32)) C dX8_isLevelHere_4 (by decide) ?_
  refine V_icmp_eq C 16 dX8_isLevelHere_6 (by decide) (fun c4 => ?_) (fun c4 => ?_)
  · have hf := i_t c4 hf
    refine V_sub (lv' := [(0, vR 8 (some v0)), (1, vI v1)]) [0, 1] rfl ?_
    exact p_X8_isLevelHere_16 C hQ hf
  · have hf := i_f c4 hf
    refine V_aload_n C dX8_isLevelHere_9 rfl 0 rfl ?_
    refine V_getI C fl_X8_221 rfl dX8_isLevelHere_10 ?_
    refine V_if_eq C 23 dX8_isLevelHere_13 (by decide) (fun c5 => ?_) (fun c5 => ?_)
    · have hf := i_t c5 hf
      refine V_aload_n C dX8_isLevelHere_23 rfl 0 rfl ?_
      obtain ⟨h6, eh6, hf⟩ := o_b hf
      refine V_callV (as := []) (st := []) C ml_X8_114 fx8 (ct_X8_passWord eh6) rfl ⟨by decide, by decide, by decide, by decide⟩ (Nat.le_of_ble_eq_true rfl) rfl dX8_isLevelHere_24 (cs' := 0) (sl' := 0) rfl rfl ?_
      refine V_aload_n C dX8_isLevelHere_27 rfl 0 rfl ?_
      refine V_iconst (v := (0 : Int32)) C dX8_isLevelHere_28 (by decide) ?_
      refine V_sipush (v := (999 : Int32)) C dX8_isLevelHere_29 (by decide) ?_
      obtain ⟨r7, h8, er7, hf⟩ := o_b2 hf
      refine V_callV (as := [vI (0 : Int32), vI (999 : Int32)]) (st := []) C ml_X8_172 fx8 (ct_X8_numberHere er7) rfl ⟨by decide, by decide, by decide, by decide⟩ (Nat.le_of_ble_eq_true rfl) rfl dX8_isLevelHere_32 (cs' := 0) (sl' := 0) rfl rfl ?_
      refine V_if_ne C 40 dX8_isLevelHere_35 (by decide) (fun c9 => ?_) (fun c9 => ?_)
      · have hf := i_f c9 hf
        refine V_aload_n C dX8_isLevelHere_40 rfl 0 rfl ?_
        obtain ⟨q10, eq10, hf⟩ := o_b hf
        refine V_getR C fl_X8_26 rfl rfl (by decide) eq10 dX8_isLevelHere_41 ?_
        refine V_iconst (v := (2 : Int32)) C dX8_isLevelHere_44 (by decide) ?_
        refine V_aload_n C dX8_isLevelHere_45 rfl 0 rfl ?_
        refine V_getI C fl_X8_218 rfl dX8_isLevelHere_46 ?_
        refine V_imul C dX8_isLevelHere_49 ?_
        refine V_aload_n C dX8_isLevelHere_50 rfl 0 rfl ?_
        refine V_getI C fl_X8_124 rfl dX8_isLevelHere_51 ?_
        obtain ⟨g11, hf⟩ := o_if hf
        obtain ⟨h12, eh12, hf⟩ := o_l hf
        refine V_iast C (vp_g g11) rfl dX8_isLevelHere_54 (V_eqH eh12 ?_)
        refine V_aload_n C dX8_isLevelHere_55 rfl 0 rfl ?_
        refine V_iconst (v := (1 : Int32)) C dX8_isLevelHere_56 (by decide) ?_
        refine V_bipush (v := (8 : Int32)) C dX8_isLevelHere_57 (by decide) ?_
        obtain ⟨r13, h14, er13, hf⟩ := o_b2 hf
        refine V_callV (as := [vI (1 : Int32), vI (8 : Int32)]) (st := []) C ml_X8_172 fx8 (ct_X8_numberHere er13) rfl ⟨by decide, by decide, by decide, by decide⟩ (Nat.le_of_ble_eq_true rfl) rfl dX8_isLevelHere_59 (cs' := 0) (sl' := 0) rfl rfl ?_
        refine V_if_ne C 67 dX8_isLevelHere_62 (by decide) (fun c15 => ?_) (fun c15 => ?_)
        · have hf := i_f c15 hf
          refine V_aload_n C dX8_isLevelHere_67 rfl 0 rfl ?_
          obtain ⟨q16, eq16, hf⟩ := o_b hf
          refine V_getR C fl_X8_26 rfl rfl (by decide) eq16 dX8_isLevelHere_68 ?_
          refine V_iconst (v := (2 : Int32)) C dX8_isLevelHere_71 (by decide) ?_
          refine V_aload_n C dX8_isLevelHere_72 rfl 0 rfl ?_
          refine V_getI C fl_X8_218 rfl dX8_isLevelHere_73 ?_
          refine V_imul C dX8_isLevelHere_76 ?_
          refine V_iconst (v := (1 : Int32)) C dX8_isLevelHere_77 (by decide) ?_
          refine V_iadd C dX8_isLevelHere_78 ?_
          refine V_aload_n C dX8_isLevelHere_79 rfl 0 rfl ?_
          refine V_getI C fl_X8_124 rfl dX8_isLevelHere_80 ?_
          obtain ⟨g17, hf⟩ := o_if hf
          obtain ⟨h18, eh18, hf⟩ := o_l hf
          refine V_iast C (vp_g g17) rfl dX8_isLevelHere_83 (V_eqH eh18 ?_)
          refine V_aload_n C dX8_isLevelHere_84 rfl 0 rfl ?_
          refine V_dup C dX8_isLevelHere_85 rfl ?_
          refine V_getI C fl_X8_218 rfl dX8_isLevelHere_86 ?_
          refine V_iconst (v := (1 : Int32)) C dX8_isLevelHere_89 (by decide) ?_
          refine V_iadd C dX8_isLevelHere_90 ?_
          obtain ⟨h19, eh19, hf⟩ := o_l hf
          refine V_putI C nf_X8_218 rfl (okI_int _) dX8_isLevelHere_91 (V_eqH eh19 ?_)
          refine V_iconst (v := (1 : Int32)) C dX8_isLevelHere_94 (by decide) ?_
          obtain ⟨hf1, hf2⟩ := Prod.mk.inj (Option.some.inj hf)
          subst hf1
          subst hf2
          exact V_zret C (by decide) hQ dX8_isLevelHere_95
        · have hf := i_t c15 hf
          refine V_iconst (v := (0 : Int32)) C dX8_isLevelHere_65 (by decide) ?_
          obtain ⟨hf1, hf2⟩ := Prod.mk.inj (Option.some.inj hf)
          subst hf1
          subst hf2
          exact V_zret C (by decide) hQ dX8_isLevelHere_66
      · have hf := i_t c9 hf
        refine V_iconst (v := (0 : Int32)) C dX8_isLevelHere_38 (by decide) ?_
        obtain ⟨hf1, hf2⟩ := Prod.mk.inj (Option.some.inj hf)
        subst hf1
        subst hf2
        exact V_zret C (by decide) hQ dX8_isLevelHere_39
    · have hf := i_f c5 hf
      refine V_sub (lv' := [(0, vR 8 (some v0)), (1, vI v1)]) [0, 1] rfl ?_
      exact p_X8_isLevelHere_16 C hQ hf
theorem ct_X8_isLevelHere {r : Int32} {h' : Hp} {N : Nat} {h : Hp} {v0 : Nat} {v1 : Int32} (hf : f_X8_isLevelHere N h v0 v1 = some ((r, h'))) (l : Launch) (G : GT) : MC l G yX8_isLevelHere cX8_isLevelHere 2 (some .boolean) rmX8_isLevelHere h [vR 8 (some v0), vI v1] (some (vI r)) h' := MC_of (by decide) rfl (Nat.le_of_ble_eq_true rfl) rfl (fun X C hQ hin => p_X8_isLevelHere C hQ hf)
abbrev rmX8_isLagHere : Room := { frames := 2, cells := 0, slots := 0, locals := 49 }
def f_X8_isLagHere (N : Nat) (h : Hp) (v0 : Nat) (v1 : Int32) : Option (Int32 × Hp) := if (hI h v0 9) < 0 then (Option.bind (f_X8_passWord N h v0) (fun h2 => b2 (f_X8_numberHere N h2 v0 (0 : Int32) (20 : Int32)) (fun r3 h4 => if r3 = 0 then (some (((0 : Int32), h4))) else (lt (sI h4 v0 9 (hI h4 v0 16)) (fun h6 => some (((1 : Int32), h6))))))) else (b2 (f_X8_fails h v0 (4 : Int32) v1) (fun r7 h8 => if r7 = 0 ∨ r7 = 1 then (some ((r7, h8))) else none))
set_option maxHeartbeats 4000000 in
set_option maxRecDepth 100000 in
theorem p_X8_isLagHere {X : XT} {r : Int32} {h' : Hp} (C : CX X cX8_isLagHere "WaterStairModel" 2 (some .boolean) rmX8_isLagHere) {N : Nat} {h : Hp} {v0 : Nat} {v1 : Int32} (hQ : QX X (some (vI r)) h' rmX8_isLagHere.cells rmX8_isLagHere.slots) (hf : f_X8_isLagHere N h v0 v1 = some ((r, h'))) : V X 0 0 h 0 [(0, vR 8 (some v0)), (1, vI v1)] [] := by
  unfold f_X8_isLagHere at hf
  refine V_aload_n C dX8_isLagHere_0 rfl 0 rfl ?_
  refine V_getI C fl_X8_225 rfl dX8_isLagHere_1 ?_
  refine V_if_lt C 14 dX8_isLagHere_4 (by decide) (fun c1 => ?_) (fun c1 => ?_)
  · have hf := i_t c1 hf
    refine V_aload_n C dX8_isLagHere_14 rfl 0 rfl ?_
    obtain ⟨h2, eh2, hf⟩ := o_b hf
    refine V_callV (as := []) (st := []) C ml_X8_114 fx8 (ct_X8_passWord eh2) rfl ⟨by decide, by decide, by decide, by decide⟩ (Nat.le_of_ble_eq_true rfl) rfl dX8_isLagHere_15 (cs' := 0) (sl' := 0) rfl rfl ?_
    refine V_aload_n C dX8_isLagHere_18 rfl 0 rfl ?_
    refine V_iconst (v := (0 : Int32)) C dX8_isLagHere_19 (by decide) ?_
    refine V_bipush (v := (20 : Int32)) C dX8_isLagHere_20 (by decide) ?_
    obtain ⟨r3, h4, er3, hf⟩ := o_b2 hf
    refine V_callV (as := [vI (0 : Int32), vI (20 : Int32)]) (st := []) C ml_X8_172 fx8 (ct_X8_numberHere er3) rfl ⟨by decide, by decide, by decide, by decide⟩ (Nat.le_of_ble_eq_true rfl) rfl dX8_isLagHere_22 (cs' := 0) (sl' := 0) rfl rfl ?_
    refine V_if_ne C 30 dX8_isLagHere_25 (by decide) (fun c5 => ?_) (fun c5 => ?_)
    · have hf := i_f c5 hf
      refine V_aload_n C dX8_isLagHere_30 rfl 0 rfl ?_
      refine V_aload_n C dX8_isLagHere_31 rfl 0 rfl ?_
      refine V_getI C fl_X8_124 rfl dX8_isLagHere_32 ?_
      obtain ⟨h6, eh6, hf⟩ := o_l hf
      refine V_putI C nf_X8_225 rfl (okI_int _) dX8_isLagHere_35 (V_eqH eh6 ?_)
      refine V_iconst (v := (1 : Int32)) C dX8_isLagHere_38 (by decide) ?_
      obtain ⟨hf1, hf2⟩ := Prod.mk.inj (Option.some.inj hf)
      subst hf1
      subst hf2
      exact V_zret C (by decide) hQ dX8_isLagHere_39
    · have hf := i_t c5 hf
      refine V_iconst (v := (0 : Int32)) C dX8_isLagHere_28 (by decide) ?_
      obtain ⟨hf1, hf2⟩ := Prod.mk.inj (Option.some.inj hf)
      subst hf1
      subst hf2
      exact V_zret C (by decide) hQ dX8_isLagHere_29
  · have hf := i_f c1 hf
    refine V_aload_n C dX8_isLagHere_7 rfl 0 rfl ?_
    refine V_iconst (v := (4 : Int32)) C dX8_isLagHere_8 (by decide) ?_
    refine V_iload_n C dX8_isLagHere_9 rfl 1 rfl ?_
    obtain ⟨r7, h8, er7, hf⟩ := o_b2 hf
    refine V_callV (as := [vI (4 : Int32), vI v1]) (st := []) C ml_X8_120 fx8 (ct_X8_fails er7) rfl ⟨by decide, by decide, by decide, by decide⟩ (Nat.le_of_ble_eq_true rfl) rfl dX8_isLagHere_10 (cs' := 0) (sl' := 0) rfl rfl ?_
    obtain ⟨g9, hf⟩ := o_if hf
    obtain ⟨hf1, hf2⟩ := Prod.mk.inj (Option.some.inj hf)
    subst hf1
    subst hf2
    exact V_zret C (okI_z g9).1 hQ dX8_isLagHere_13
theorem ct_X8_isLagHere {r : Int32} {h' : Hp} {N : Nat} {h : Hp} {v0 : Nat} {v1 : Int32} (hf : f_X8_isLagHere N h v0 v1 = some ((r, h'))) (l : Launch) (G : GT) : MC l G yX8_isLagHere cX8_isLagHere 2 (some .boolean) rmX8_isLagHere h [vR 8 (some v0), vI v1] (some (vI r)) h' := MC_of (by decide) rfl (Nat.le_of_ble_eq_true rfl) rfl (fun X C hQ hin => p_X8_isLagHere C hQ hf)
abbrev rmX8_mostOf : Room := { frames := 0, cells := 0, slots := 0, locals := 0 }
def f_X8_mostOf (h : Hp) (v0 : Int32) : Option (Int32) := if v0 = 0 then (some (99 : Int32)) else (if v0 = (3 : Int32) then (some (999 : Int32)) else (some (1 : Int32)))
set_option maxHeartbeats 4000000 in
set_option maxRecDepth 100000 in
theorem p_X8_mostOf {X : XT} {r : Int32} (C : CX X cX8_mostOf "WaterStairModel" 1 (some .int) rmX8_mostOf) {h : Hp} {v0 : Int32} (hQ : QX X (some (vI r)) h rmX8_mostOf.cells rmX8_mostOf.slots) (hf : f_X8_mostOf h v0 = some r) : V X 0 0 h 0 [(0, vI v0)] [] := by
  unfold f_X8_mostOf at hf
  refine V_iload_n C dX8_mostOf_0 rfl 0 rfl ?_
  refine V_if_ne C 9 dX8_mostOf_1 (by decide) (fun c1 => ?_) (fun c1 => ?_)
  · have hf := i_f c1 hf
    refine V_iload_n C dX8_mostOf_9 rfl 0 rfl ?_
    refine V_iconst (v := (3 : Int32)) C dX8_mostOf_10 (by decide) ?_
    refine V_icmp_ne C 20 dX8_mostOf_11 (by decide) (fun c2 => ?_) (fun c2 => ?_)
    · have hf := i_f c2 hf
      refine V_iconst (v := (1 : Int32)) C dX8_mostOf_20 (by decide) ?_
      have hf := Option.some.inj hf
      subst hf
      exact V_iret C hQ dX8_mostOf_21
    · have hf := i_t c2 hf
      refine V_sipush (v := (999 : Int32)) C dX8_mostOf_14 (by decide) ?_
      refine V_goto C 21 dX8_mostOf_17 (by decide) ?_
      have hf := Option.some.inj hf
      subst hf
      exact V_iret C hQ dX8_mostOf_21
  · have hf := i_t c1 hf
    refine V_bipush (v := (99 : Int32)) C dX8_mostOf_4 (by decide) ?_
    refine V_goto C 21 dX8_mostOf_6 (by decide) ?_
    have hf := Option.some.inj hf
    subst hf
    exact V_iret C hQ dX8_mostOf_21
theorem ct_X8_mostOf {r : Int32} {h : Hp} {v0 : Int32} (hf : f_X8_mostOf h v0 = some r) (l : Launch) (G : GT) : MC l G yX8_mostOf cX8_mostOf 1 (some .int) rmX8_mostOf h [vI v0] (some (vI r)) h := MC_of (by decide) rfl (Nat.le_of_ble_eq_true rfl) rfl (fun X C hQ hin => p_X8_mostOf C hQ hf)
abbrev rmX8_isBargeHere : Room := { frames := 2, cells := 0, slots := 0, locals := 49 }
def f_X8_isBargeHere_50 (N : Nat) (s35 : Hp → Nat → Int32 → Option (Int32 × Hp)) (h : Hp) (v0 : Nat) (v2 : Int32) (s1_ : Int32) (s0_ : Nat) : Option (Int32 × Hp) := Option.bind (f_X8_mostOf h v2) (fun r1 => b2 (f_X8_numberHere N h s0_ s1_ r1) (fun r2 h3 => if r2 = 0 then (some (((0 : Int32), h3))) else (Option.bind (hP h3 v0 13) (fun q5 => if 0 ≤ ((4 : Int32) * (hI h3 v0 8)) + v2 ∧ (((4 : Int32) * (hI h3 v0 8)) + v2).toNatClampNeg < hL h3 q5 then (lt (sI h3 q5 ((((4 : Int32) * (hI h3 v0 8)) + v2).toNatClampNeg) (hI h3 v0 16)) (fun h7 => s35 h7 v0 (v2 + (1 : Int32)))) else none))))
set_option maxHeartbeats 4000000 in
set_option maxRecDepth 100000 in
theorem p_X8_isBargeHere_50 {X : XT} {r : Int32} {h' : Hp} (C : CX X cX8_isBargeHere "WaterStairModel" 3 (some .boolean) rmX8_isBargeHere) (hQ : QX X (some (vI r)) h' rmX8_isBargeHere.cells rmX8_isBargeHere.slots) {N : Nat} {s35 : Hp → Nat → Int32 → Option (Int32 × Hp)} (S35 : ∀ (h : Hp) (v0 : Nat) (v2 : Int32), s35 h v0 v2 = some ((r, h')) → V X 0 0 h 35 [(0, vR 8 (some v0)), (2, vI v2)] []) {h : Hp} {v0 : Nat} {v2 : Int32} {s1_ : Int32} {s0_ : Nat} (hf : f_X8_isBargeHere_50 N s35 h v0 v2 s1_ s0_ = some ((r, h'))) : V X 0 0 h 50 [(0, vR 8 (some v0)), (2, vI v2)] [vI s1_, vR 8 (some s0_)] := by
  unfold f_X8_isBargeHere_50 at hf
  refine V_iload_n C dX8_isBargeHere_50 rfl 1 rfl ?_
  obtain ⟨r1, er1, hf⟩ := o_b hf
  refine V_callS (as := [vI v2]) (st := [vI s1_, vR 8 (some s0_)]) C ml_X8_231 (ct_X8_mostOf er1) rfl ⟨by decide, by decide, by decide, by decide⟩ (Nat.le_of_ble_eq_true rfl) rfl dX8_isBargeHere_51 (cs' := 0) (sl' := 0) rfl rfl ?_
  obtain ⟨r2, h3, er2, hf⟩ := o_b2 hf
  refine V_callV (as := [vI s1_, vI r1]) (st := []) C ml_X8_172 fx8 (ct_X8_numberHere er2) rfl ⟨by decide, by decide, by decide, by decide⟩ (Nat.le_of_ble_eq_true rfl) rfl dX8_isBargeHere_54 (cs' := 0) (sl' := 0) rfl rfl ?_
  refine V_if_ne C 62 dX8_isBargeHere_57 (by decide) (fun c4 => ?_) (fun c4 => ?_)
  · have hf := i_f c4 hf
    refine V_aload_n C dX8_isBargeHere_62 rfl 0 rfl ?_
    obtain ⟨q5, eq5, hf⟩ := o_b hf
    refine V_getR C fl_X8_29 rfl rfl (by decide) eq5 dX8_isBargeHere_63 ?_
    refine V_iconst (v := (4 : Int32)) C dX8_isBargeHere_66 (by decide) ?_
    refine V_aload_n C dX8_isBargeHere_67 rfl 0 rfl ?_
    refine V_getI C fl_X8_228 rfl dX8_isBargeHere_68 ?_
    refine V_imul C dX8_isBargeHere_71 ?_
    refine V_iload_n C dX8_isBargeHere_72 rfl 1 rfl ?_
    refine V_iadd C dX8_isBargeHere_73 ?_
    refine V_aload_n C dX8_isBargeHere_74 rfl 0 rfl ?_
    refine V_getI C fl_X8_124 rfl dX8_isBargeHere_75 ?_
    obtain ⟨g6, hf⟩ := o_if hf
    obtain ⟨h7, eh7, hf⟩ := o_l hf
    refine V_iast C (vp_g g6) rfl dX8_isBargeHere_78 (V_eqH eh7 ?_)
    refine V_iinc (lv' := [(2, vI (v2 + (1 : Int32))), (0, vR 8 (some v0))]) C dX8_isBargeHere_79 1 rfl (congrArg (v2 + ·) (by decide : Int32.ofInt (1) = (1 : Int32))) (by decide) rfl ?_
    refine V_goto C 35 dX8_isBargeHere_82 (by decide) ?_
    refine V_sub (lv' := [(0, vR 8 (some v0)), (2, vI (v2 + (1 : Int32)))]) [1, 0] rfl ?_
    exact S35 _ _ _ hf
  · have hf := i_t c4 hf
    refine V_iconst (v := (0 : Int32)) C dX8_isBargeHere_60 (by decide) ?_
    obtain ⟨hf1, hf2⟩ := Prod.mk.inj (Option.some.inj hf)
    subst hf1
    subst hf2
    exact V_zret C (by decide) hQ dX8_isBargeHere_61
def f_X8_isBargeHere_35 (N : Nat) : Nat → Hp → Nat → Int32 → Option (Int32 × Hp)
  | 0, _, _, _ => none
  | n + 1, h, v0, v2 => if (4 : Int32) ≤ v2 then (lt (sI h v0 8 ((hI h v0 8) + (1 : Int32))) (fun h9 => some (((1 : Int32), h9)))) else (if v2 = 0 then (f_X8_isBargeHere_50 N (f_X8_isBargeHere_35 N n) h v0 v2 (1 : Int32) v0) else (f_X8_isBargeHere_50 N (f_X8_isBargeHere_35 N n) h v0 v2 (0 : Int32) v0))
set_option maxHeartbeats 4000000 in
set_option maxRecDepth 100000 in
theorem p_X8_isBargeHere_35 {X : XT} {r : Int32} {h' : Hp} (C : CX X cX8_isBargeHere "WaterStairModel" 3 (some .boolean) rmX8_isBargeHere) (hQ : QX X (some (vI r)) h' rmX8_isBargeHere.cells rmX8_isBargeHere.slots) {N : Nat}  : ∀ (n : Nat) (h : Hp) (v0 : Nat) (v2 : Int32), f_X8_isBargeHere_35 N n h v0 v2 = some ((r, h')) → V X 0 0 h 35 [(0, vR 8 (some v0)), (2, vI v2)] [] := by
  intro n
  induction n with
  | zero =>
    intro h v0 v2 hf
    have hf : (none : Option (Int32 × Hp)) = some _ := hf
    cases hf
  | succ n ih =>
    intro h v0 v2 hf
    rw [f_X8_isBargeHere_35] at hf
    refine V_iload_n C dX8_isBargeHere_35 rfl 1 rfl ?_
    refine V_iconst (v := (4 : Int32)) C dX8_isBargeHere_36 (by decide) ?_
    refine V_icmp_ge C 85 dX8_isBargeHere_37 (by decide) (fun c8 => ?_) (fun c8 => ?_)
    · have hf := i_t c8 hf
      refine V_aload_n C dX8_isBargeHere_85 rfl 0 rfl ?_
      refine V_dup C dX8_isBargeHere_86 rfl ?_
      refine V_getI C fl_X8_228 rfl dX8_isBargeHere_87 ?_
      refine V_iconst (v := (1 : Int32)) C dX8_isBargeHere_90 (by decide) ?_
      refine V_iadd C dX8_isBargeHere_91 ?_
      obtain ⟨h9, eh9, hf⟩ := o_l hf
      refine V_putI C nf_X8_228 rfl (okI_int _) dX8_isBargeHere_92 (V_eqH eh9 ?_)
      refine V_iconst (v := (1 : Int32)) C dX8_isBargeHere_95 (by decide) ?_
      obtain ⟨hf1, hf2⟩ := Prod.mk.inj (Option.some.inj hf)
      subst hf1
      subst hf2
      exact V_zret C (by decide) hQ dX8_isBargeHere_96
    · have hf := i_f c8 hf
      refine V_aload_n C dX8_isBargeHere_40 rfl 0 rfl ?_
      refine V_iload_n C dX8_isBargeHere_41 rfl 1 rfl ?_
      refine V_if_ne C 49 dX8_isBargeHere_42 (by decide) (fun c10 => ?_) (fun c10 => ?_)
      · have hf := i_f c10 hf
        refine V_iconst (v := (0 : Int32)) C dX8_isBargeHere_49 (by decide) ?_
        refine V_sub (lv' := [(0, vR 8 (some v0)), (2, vI v2)]) [0, 1] rfl ?_
        exact p_X8_isBargeHere_50 C hQ ih hf
      · have hf := i_t c10 hf
        refine V_iconst (v := (1 : Int32)) C dX8_isBargeHere_45 (by decide) ?_
        refine V_goto C 50 dX8_isBargeHere_46 (by decide) ?_
        refine V_sub (lv' := [(0, vR 8 (some v0)), (2, vI v2)]) [0, 1] rfl ?_
        exact p_X8_isBargeHere_50 C hQ ih hf
def f_X8_isBargeHere_17 (N : Nat) (h : Hp) (v0 : Nat) (v1 : Int32) : Option (Int32 × Hp) := b2 (f_X8_fails h v0 (4 : Int32) v1) (fun r11 h12 => if r11 = 0 ∨ r11 = 1 then (some ((r11, h12))) else none)
set_option maxHeartbeats 4000000 in
set_option maxRecDepth 100000 in
theorem p_X8_isBargeHere_17 {X : XT} {r : Int32} {h' : Hp} (C : CX X cX8_isBargeHere "WaterStairModel" 3 (some .boolean) rmX8_isBargeHere) (hQ : QX X (some (vI r)) h' rmX8_isBargeHere.cells rmX8_isBargeHere.slots) {N : Nat}  {h : Hp} {v0 : Nat} {v1 : Int32} (hf : f_X8_isBargeHere_17 N h v0 v1 = some ((r, h'))) : V X 0 0 h 17 [(0, vR 8 (some v0)), (1, vI v1)] [] := by
  unfold f_X8_isBargeHere_17 at hf
  refine V_aload_n C dX8_isBargeHere_17 rfl 0 rfl ?_
  refine V_iconst (v := (4 : Int32)) C dX8_isBargeHere_18 (by decide) ?_
  refine V_iload_n C dX8_isBargeHere_19 rfl 1 rfl ?_
  obtain ⟨r11, h12, er11, hf⟩ := o_b2 hf
  refine V_callV (as := [vI (4 : Int32), vI v1]) (st := []) C ml_X8_120 fx8 (ct_X8_fails er11) rfl ⟨by decide, by decide, by decide, by decide⟩ (Nat.le_of_ble_eq_true rfl) rfl dX8_isBargeHere_20 (cs' := 0) (sl' := 0) rfl rfl ?_
  obtain ⟨g13, hf⟩ := o_if hf
  obtain ⟨hf1, hf2⟩ := Prod.mk.inj (Option.some.inj hf)
  subst hf1
  subst hf2
  exact V_zret C (okI_z g13).1 hQ dX8_isBargeHere_23
def f_X8_isBargeHere (N : Nat) (h : Hp) (v0 : Nat) (v1 : Int32) : Option (Int32 × Hp) := if (hI h v0 7) < (2 : Int32) then (f_X8_isBargeHere_17 N h v0 v1) else (if (hI h v0 8) = (6 : Int32) then (f_X8_isBargeHere_17 N h v0 v1) else (lt (sI h v0 11 (1 : Int32)) (fun h16 => Option.bind (f_X8_passWord N h16 v0) (fun h17 => f_X8_isBargeHere_35 N N h17 v0 (0 : Int32)))))
set_option maxHeartbeats 4000000 in
set_option maxRecDepth 100000 in
theorem p_X8_isBargeHere {X : XT} {r : Int32} {h' : Hp} (C : CX X cX8_isBargeHere "WaterStairModel" 3 (some .boolean) rmX8_isBargeHere) {N : Nat} {h : Hp} {v0 : Nat} {v1 : Int32} (hQ : QX X (some (vI r)) h' rmX8_isBargeHere.cells rmX8_isBargeHere.slots) (hf : f_X8_isBargeHere N h v0 v1 = some ((r, h'))) : V X 0 0 h 0 [(0, vR 8 (some v0)), (1, vI v1)] [] := by
  unfold f_X8_isBargeHere at hf
  refine V_aload_n C dX8_isBargeHere_0 rfl 0 rfl ?_
  refine V_getI C fl_X8_218 rfl dX8_isBargeHere_1 ?_
  refine V_iconst (v := (2 : Int32)) C dX8_isBargeHere_4 (by decide) ?_
  refine V_icmp_lt C 17 dX8_isBargeHere_5 (by decide) (fun c14 => ?_) (fun c14 => ?_)
  · have hf := i_t c14 hf
    refine V_sub (lv' := [(0, vR 8 (some v0)), (1, vI v1)]) [0, 1] rfl ?_
    exact p_X8_isBargeHere_17 C hQ hf
  · have hf := i_f c14 hf
    refine V_aload_n C dX8_isBargeHere_8 rfl 0 rfl ?_
    refine V_getI C fl_X8_228 rfl dX8_isBargeHere_9 ?_
    refine V_bipush (v := (6 : Int32)) C dX8_isBargeHere_12 (by decide) ?_
    refine V_icmp_ne C 24 dX8_isBargeHere_14 (by decide) (fun c15 => ?_) (fun c15 => ?_)
    · have hf := i_f c15 hf
      refine V_aload_n C dX8_isBargeHere_24 rfl 0 rfl ?_
      refine V_iconst (v := (1 : Int32)) C dX8_isBargeHere_25 (by decide) ?_
      obtain ⟨h16, eh16, hf⟩ := o_l hf
      refine V_putI C nf_X8_221 rfl (okI_z (Or.inr rfl)) dX8_isBargeHere_26 (V_eqH eh16 ?_)
      refine V_aload_n C dX8_isBargeHere_29 rfl 0 rfl ?_
      obtain ⟨h17, eh17, hf⟩ := o_b hf
      refine V_callV (as := []) (st := []) C ml_X8_114 fx8 (ct_X8_passWord eh17) rfl ⟨by decide, by decide, by decide, by decide⟩ (Nat.le_of_ble_eq_true rfl) rfl dX8_isBargeHere_30 (cs' := 0) (sl' := 0) rfl rfl ?_
      refine V_iconst (v := (0 : Int32)) C dX8_isBargeHere_33 (by decide) ?_
      refine V_istore_n (lv' := [(2, vI (0 : Int32)), (0, vR 8 (some v0)), (1, vI v1)]) C dX8_isBargeHere_34 rfl (by decide) rfl ?_
      refine V_sub (lv' := [(0, vR 8 (some v0)), (2, vI (0 : Int32))]) [1, 0] rfl ?_
      exact p_X8_isBargeHere_35 C hQ N _ _ _ hf
    · have hf := i_t c15 hf
      refine V_sub (lv' := [(0, vR 8 (some v0)), (1, vI v1)]) [0, 1] rfl ?_
      exact p_X8_isBargeHere_17 C hQ hf
theorem ct_X8_isBargeHere {r : Int32} {h' : Hp} {N : Nat} {h : Hp} {v0 : Nat} {v1 : Int32} (hf : f_X8_isBargeHere N h v0 v1 = some ((r, h'))) (l : Launch) (G : GT) : MC l G yX8_isBargeHere cX8_isBargeHere 3 (some .boolean) rmX8_isBargeHere h [vR 8 (some v0), vI v1] (some (vI r)) h' := MC_of (by decide) rfl (Nat.le_of_ble_eq_true rfl) rfl (fun X C hQ hin => p_X8_isBargeHere C hQ hf)
abbrev rmX8_isBrokenHere : Room := { frames := 2, cells := 0, slots := 0, locals := 49 }
def f_X8_isBrokenHere (N : Nat) (h : Hp) (v0 : Nat) (v1 : Int32) : Option (Int32 × Hp) := if (2 : Int32) ≤ (hI h v0 7) then (lt (sI h v0 11 (1 : Int32)) (fun h2 => Option.bind (f_X8_passWord N h2 v0) (fun h3 => b2 (f_X8_numberHere N h3 v0 (0 : Int32) ((hI h3 v0 7) - (2 : Int32))) (fun r4 h5 => if r4 = 0 then (some (((0 : Int32), h5))) else (lt (sI h5 v0 10 ((hI h5 v0 10) ||| ((1 : Int32) <<< ((hI h5 v0 16) &&& 31)))) (fun h7 => some (((1 : Int32), h7)))))))) else (b2 (f_X8_fails h v0 (4 : Int32) v1) (fun r8 h9 => if r8 = 0 ∨ r8 = 1 then (some ((r8, h9))) else none))
set_option maxHeartbeats 4000000 in
set_option maxRecDepth 100000 in
theorem p_X8_isBrokenHere {X : XT} {r : Int32} {h' : Hp} (C : CX X cX8_isBrokenHere "WaterStairModel" 2 (some .boolean) rmX8_isBrokenHere) {N : Nat} {h : Hp} {v0 : Nat} {v1 : Int32} (hQ : QX X (some (vI r)) h' rmX8_isBrokenHere.cells rmX8_isBrokenHere.slots) (hf : f_X8_isBrokenHere N h v0 v1 = some ((r, h'))) : V X 0 0 h 0 [(0, vR 8 (some v0)), (1, vI v1)] [] := by
  unfold f_X8_isBrokenHere at hf
  refine V_aload_n C dX8_isBrokenHere_0 rfl 0 rfl ?_
  refine V_getI C fl_X8_218 rfl dX8_isBrokenHere_1 ?_
  refine V_iconst (v := (2 : Int32)) C dX8_isBrokenHere_4 (by decide) ?_
  refine V_icmp_ge C 15 dX8_isBrokenHere_5 (by decide) (fun c1 => ?_) (fun c1 => ?_)
  · have hf := i_t c1 hf
    refine V_aload_n C dX8_isBrokenHere_15 rfl 0 rfl ?_
    refine V_iconst (v := (1 : Int32)) C dX8_isBrokenHere_16 (by decide) ?_
    obtain ⟨h2, eh2, hf⟩ := o_l hf
    refine V_putI C nf_X8_221 rfl (okI_z (Or.inr rfl)) dX8_isBrokenHere_17 (V_eqH eh2 ?_)
    refine V_aload_n C dX8_isBrokenHere_20 rfl 0 rfl ?_
    obtain ⟨h3, eh3, hf⟩ := o_b hf
    refine V_callV (as := []) (st := []) C ml_X8_114 fx8 (ct_X8_passWord eh3) rfl ⟨by decide, by decide, by decide, by decide⟩ (Nat.le_of_ble_eq_true rfl) rfl dX8_isBrokenHere_21 (cs' := 0) (sl' := 0) rfl rfl ?_
    refine V_aload_n C dX8_isBrokenHere_24 rfl 0 rfl ?_
    refine V_iconst (v := (0 : Int32)) C dX8_isBrokenHere_25 (by decide) ?_
    refine V_aload_n C dX8_isBrokenHere_26 rfl 0 rfl ?_
    refine V_getI C fl_X8_218 rfl dX8_isBrokenHere_27 ?_
    refine V_iconst (v := (2 : Int32)) C dX8_isBrokenHere_30 (by decide) ?_
    refine V_isub C dX8_isBrokenHere_31 ?_
    obtain ⟨r4, h5, er4, hf⟩ := o_b2 hf
    refine V_callV (as := [vI (0 : Int32), vI ((hI h3 v0 7) - (2 : Int32))]) (st := []) C ml_X8_172 fx8 (ct_X8_numberHere er4) rfl ⟨by decide, by decide, by decide, by decide⟩ (Nat.le_of_ble_eq_true rfl) rfl dX8_isBrokenHere_32 (cs' := 0) (sl' := 0) rfl rfl ?_
    refine V_if_ne C 40 dX8_isBrokenHere_35 (by decide) (fun c6 => ?_) (fun c6 => ?_)
    · have hf := i_f c6 hf
      refine V_aload_n C dX8_isBrokenHere_40 rfl 0 rfl ?_
      refine V_dup C dX8_isBrokenHere_41 rfl ?_
      refine V_getI C fl_X8_234 rfl dX8_isBrokenHere_42 ?_
      refine V_iconst (v := (1 : Int32)) C dX8_isBrokenHere_45 (by decide) ?_
      refine V_aload_n C dX8_isBrokenHere_46 rfl 0 rfl ?_
      refine V_getI C fl_X8_124 rfl dX8_isBrokenHere_47 ?_
      refine V_ishl C dX8_isBrokenHere_50 ?_
      refine V_ior C dX8_isBrokenHere_51 ?_
      obtain ⟨h7, eh7, hf⟩ := o_l hf
      refine V_putI C nf_X8_234 rfl (okI_int _) dX8_isBrokenHere_52 (V_eqH eh7 ?_)
      refine V_iconst (v := (1 : Int32)) C dX8_isBrokenHere_55 (by decide) ?_
      obtain ⟨hf1, hf2⟩ := Prod.mk.inj (Option.some.inj hf)
      subst hf1
      subst hf2
      exact V_zret C (by decide) hQ dX8_isBrokenHere_56
    · have hf := i_t c6 hf
      refine V_iconst (v := (0 : Int32)) C dX8_isBrokenHere_38 (by decide) ?_
      obtain ⟨hf1, hf2⟩ := Prod.mk.inj (Option.some.inj hf)
      subst hf1
      subst hf2
      exact V_zret C (by decide) hQ dX8_isBrokenHere_39
  · have hf := i_f c1 hf
    refine V_aload_n C dX8_isBrokenHere_8 rfl 0 rfl ?_
    refine V_iconst (v := (4 : Int32)) C dX8_isBrokenHere_9 (by decide) ?_
    refine V_iload_n C dX8_isBrokenHere_10 rfl 1 rfl ?_
    obtain ⟨r8, h9, er8, hf⟩ := o_b2 hf
    refine V_callV (as := [vI (4 : Int32), vI v1]) (st := []) C ml_X8_120 fx8 (ct_X8_fails er8) rfl ⟨by decide, by decide, by decide, by decide⟩ (Nat.le_of_ble_eq_true rfl) rfl dX8_isBrokenHere_11 (cs' := 0) (sl' := 0) rfl rfl ?_
    obtain ⟨g10, hf⟩ := o_if hf
    obtain ⟨hf1, hf2⟩ := Prod.mk.inj (Option.some.inj hf)
    subst hf1
    subst hf2
    exact V_zret C (okI_z g10).1 hQ dX8_isBrokenHere_14
theorem ct_X8_isBrokenHere {r : Int32} {h' : Hp} {N : Nat} {h : Hp} {v0 : Nat} {v1 : Int32} (hf : f_X8_isBrokenHere N h v0 v1 = some ((r, h'))) (l : Launch) (G : GT) : MC l G yX8_isBrokenHere cX8_isBrokenHere 2 (some .boolean) rmX8_isBrokenHere h [vR 8 (some v0), vI v1] (some (vI r)) h' := MC_of (by decide) rfl (Nat.le_of_ble_eq_true rfl) rfl (fun X C hQ hin => p_X8_isBrokenHere C hQ hf)
abbrev rmX8_clauseHere : Room := { frames := 10, cells := 0, slots := 0, locals := 219 }
def f_X8_clauseHere_111 (N : Nat) (h : Hp) (v0 : Nat) (v1 : Int32) (v2 : Int32) (s1_ : Int32) (s0_ : Int32) : Option (Int32 × Hp) := if s0_ = s1_ then (b2 (f_X8_fails h v0 (4 : Int32) v1) (fun r28 h29 => if r28 = 0 ∨ r28 = 1 then (some ((r28, h29))) else none)) else (lt (sI h v0 20 ((hI h v0 20) + (1 : Int32))) (fun h2 => if v2 = 0 then (b2 (f_X8_isBarHere N h2 v0) (fun r25 h26 => if r25 = 0 ∨ r25 = 1 then (some ((r25, h26))) else none)) else (b2 (f_X8_isWord N h2 v0 (465558725996 : Int64)) (fun r4 h5 => if r4 = 0 then (b2 (f_X8_isWord N h5 v0 (7102823 : Int64)) (fun r7 h8 => if r7 = 0 then (b2 (f_X8_isWord N h8 v0 (422541682533 : Int64)) (fun r10 h11 => if r10 = 0 then (b2 (f_X8_isBrokenHere N h11 v0 v1) (fun r13 h14 => if r13 = 0 ∨ r13 = 1 then (some ((r13, h14))) else none)) else (b2 (f_X8_isBargeHere N h11 v0 v1) (fun r16 h17 => if r16 = 0 ∨ r16 = 1 then (some ((r16, h17))) else none)))) else (b2 (f_X8_isLagHere N h8 v0 v1) (fun r19 h20 => if r19 = 0 ∨ r19 = 1 then (some ((r19, h20))) else none)))) else (b2 (f_X8_isLevelHere N h5 v0 v1) (fun r22 h23 => if r22 = 0 ∨ r22 = 1 then (some ((r22, h23))) else none))))))
set_option maxHeartbeats 4000000 in
set_option maxRecDepth 100000 in
theorem p_X8_clauseHere_111 {X : XT} {r : Int32} {h' : Hp} (C : CX X cX8_clauseHere "WaterStairModel" 4 (some .boolean) rmX8_clauseHere) (hQ : QX X (some (vI r)) h' rmX8_clauseHere.cells rmX8_clauseHere.slots) {N : Nat}  {h : Hp} {v0 : Nat} {v1 : Int32} {v2 : Int32} {s1_ : Int32} {s0_ : Int32} (hf : f_X8_clauseHere_111 N h v0 v1 v2 s1_ s0_ = some ((r, h'))) : V X 0 0 h 111 [(0, vR 8 (some v0)), (1, vI v1), (2, vI v2)] [vI s1_, vI s0_] := by
  unfold f_X8_clauseHere_111 at hf
  refine V_icmp_ne C 121 dX8_clauseHere_111 (by decide) (fun c1 => ?_) (fun c1 => ?_)
  · have hf := i_f c1 hf
    refine V_aload_n C dX8_clauseHere_121 rfl 0 rfl ?_
    refine V_dup C dX8_clauseHere_122 rfl ?_
    refine V_getI C fl_X8_247 rfl dX8_clauseHere_123 ?_
    refine V_iconst (v := (1 : Int32)) C dX8_clauseHere_126 (by decide) ?_
    refine V_iadd C dX8_clauseHere_127 ?_
    obtain ⟨h2, eh2, hf⟩ := o_l hf
    refine V_putI C nf_X8_247 rfl (okI_int _) dX8_clauseHere_128 (V_eqH eh2 ?_)
    refine V_iload_n C dX8_clauseHere_131 rfl 2 rfl ?_
    refine V_if_ne C 140 dX8_clauseHere_132 (by decide) (fun c3 => ?_) (fun c3 => ?_)
    · have hf := i_f c3 hf
      refine V_aload_n C dX8_clauseHere_140 rfl 0 rfl ?_
      refine V_ldc2 C kl_X8_237 dX8_clauseHere_141 ?_
      obtain ⟨r4, h5, er4, hf⟩ := o_b2 hf
      refine V_callV (as := [vL (465558725996 : Int64)]) (st := []) C ml_X8_110 fx8 (ct_X8_isWord er4) rfl ⟨by decide, by decide, by decide, by decide⟩ (Nat.le_of_ble_eq_true rfl) rfl dX8_clauseHere_144 (cs' := 0) (sl' := 0) rfl rfl ?_
      refine V_if_eq C 156 dX8_clauseHere_147 (by decide) (fun c6 => ?_) (fun c6 => ?_)
      · have hf := i_t c6 hf
        refine V_aload_n C dX8_clauseHere_156 rfl 0 rfl ?_
        refine V_ldc2 C kl_X8_239 dX8_clauseHere_157 ?_
        obtain ⟨r7, h8, er7, hf⟩ := o_b2 hf
        refine V_callV (as := [vL (7102823 : Int64)]) (st := []) C ml_X8_110 fx8 (ct_X8_isWord er7) rfl ⟨by decide, by decide, by decide, by decide⟩ (Nat.le_of_ble_eq_true rfl) rfl dX8_clauseHere_160 (cs' := 0) (sl' := 0) rfl rfl ?_
        refine V_if_eq C 174 dX8_clauseHere_163 (by decide) (fun c9 => ?_) (fun c9 => ?_)
        · have hf := i_t c9 hf
          refine V_aload_n C dX8_clauseHere_174 rfl 0 rfl ?_
          refine V_ldc2 C kl_X8_241 dX8_clauseHere_175 ?_
          obtain ⟨r10, h11, er10, hf⟩ := o_b2 hf
          refine V_callV (as := [vL (422541682533 : Int64)]) (st := []) C ml_X8_110 fx8 (ct_X8_isWord er10) rfl ⟨by decide, by decide, by decide, by decide⟩ (Nat.le_of_ble_eq_true rfl) rfl dX8_clauseHere_178 (cs' := 0) (sl' := 0) rfl rfl ?_
          refine V_if_eq C 192 dX8_clauseHere_181 (by decide) (fun c12 => ?_) (fun c12 => ?_)
          · have hf := i_t c12 hf
            refine V_aload_n C dX8_clauseHere_192 rfl 0 rfl ?_
            refine V_iload_n C dX8_clauseHere_193 rfl 1 rfl ?_
            obtain ⟨r13, h14, er13, hf⟩ := o_b2 hf
            refine V_callV (as := [vI v1]) (st := []) C ml_X8_262 fx8 (ct_X8_isBrokenHere er13) rfl ⟨by decide, by decide, by decide, by decide⟩ (Nat.le_of_ble_eq_true rfl) rfl dX8_clauseHere_194 (cs' := 0) (sl' := 0) rfl rfl ?_
            obtain ⟨g15, hf⟩ := o_if hf
            obtain ⟨hf1, hf2⟩ := Prod.mk.inj (Option.some.inj hf)
            subst hf1
            subst hf2
            exact V_zret C (okI_z g15).1 hQ dX8_clauseHere_197
          · have hf := i_f c12 hf
            refine V_aload_n C dX8_clauseHere_184 rfl 0 rfl ?_
            refine V_iload_n C dX8_clauseHere_185 rfl 1 rfl ?_
            obtain ⟨r16, h17, er16, hf⟩ := o_b2 hf
            refine V_callV (as := [vI v1]) (st := []) C ml_X8_259 fx8 (ct_X8_isBargeHere er16) rfl ⟨by decide, by decide, by decide, by decide⟩ (Nat.le_of_ble_eq_true rfl) rfl dX8_clauseHere_186 (cs' := 0) (sl' := 0) rfl rfl ?_
            refine V_goto C 197 dX8_clauseHere_189 (by decide) ?_
            obtain ⟨g18, hf⟩ := o_if hf
            obtain ⟨hf1, hf2⟩ := Prod.mk.inj (Option.some.inj hf)
            subst hf1
            subst hf2
            exact V_zret C (okI_z g18).1 hQ dX8_clauseHere_197
        · have hf := i_f c9 hf
          refine V_aload_n C dX8_clauseHere_166 rfl 0 rfl ?_
          refine V_iload_n C dX8_clauseHere_167 rfl 1 rfl ?_
          obtain ⟨r19, h20, er19, hf⟩ := o_b2 hf
          refine V_callV (as := [vI v1]) (st := []) C ml_X8_256 fx8 (ct_X8_isLagHere er19) rfl ⟨by decide, by decide, by decide, by decide⟩ (Nat.le_of_ble_eq_true rfl) rfl dX8_clauseHere_168 (cs' := 0) (sl' := 0) rfl rfl ?_
          refine V_goto C 197 dX8_clauseHere_171 (by decide) ?_
          obtain ⟨g21, hf⟩ := o_if hf
          obtain ⟨hf1, hf2⟩ := Prod.mk.inj (Option.some.inj hf)
          subst hf1
          subst hf2
          exact V_zret C (okI_z g21).1 hQ dX8_clauseHere_197
      · have hf := i_f c6 hf
        refine V_aload_n C dX8_clauseHere_150 rfl 0 rfl ?_
        refine V_iload_n C dX8_clauseHere_151 rfl 1 rfl ?_
        obtain ⟨r22, h23, er22, hf⟩ := o_b2 hf
        refine V_callV (as := [vI v1]) (st := []) C ml_X8_253 fx8 (ct_X8_isLevelHere er22) rfl ⟨by decide, by decide, by decide, by decide⟩ (Nat.le_of_ble_eq_true rfl) rfl dX8_clauseHere_152 (cs' := 0) (sl' := 0) rfl rfl ?_
        obtain ⟨g24, hf⟩ := o_if hf
        obtain ⟨hf1, hf2⟩ := Prod.mk.inj (Option.some.inj hf)
        subst hf1
        subst hf2
        exact V_zret C (okI_z g24).1 hQ dX8_clauseHere_155
    · have hf := i_t c3 hf
      refine V_aload_n C dX8_clauseHere_135 rfl 0 rfl ?_
      obtain ⟨r25, h26, er25, hf⟩ := o_b2 hf
      refine V_callV (as := []) (st := []) C ml_X8_250 fx8 (ct_X8_isBarHere er25) rfl ⟨by decide, by decide, by decide, by decide⟩ (Nat.le_of_ble_eq_true rfl) rfl dX8_clauseHere_136 (cs' := 0) (sl' := 0) rfl rfl ?_
      obtain ⟨g27, hf⟩ := o_if hf
      obtain ⟨hf1, hf2⟩ := Prod.mk.inj (Option.some.inj hf)
      subst hf1
      subst hf2
      exact V_zret C (okI_z g27).1 hQ dX8_clauseHere_139
  · have hf := i_t c1 hf
    refine V_aload_n C dX8_clauseHere_114 rfl 0 rfl ?_
    refine V_iconst (v := (4 : Int32)) C dX8_clauseHere_115 (by decide) ?_
    refine V_iload_n C dX8_clauseHere_116 rfl 1 rfl ?_
    obtain ⟨r28, h29, er28, hf⟩ := o_b2 hf
    refine V_callV (as := [vI (4 : Int32), vI v1]) (st := []) C ml_X8_120 fx8 (ct_X8_fails er28) rfl ⟨by decide, by decide, by decide, by decide⟩ (Nat.le_of_ble_eq_true rfl) rfl dX8_clauseHere_117 (cs' := 0) (sl' := 0) rfl rfl ?_
    obtain ⟨g30, hf⟩ := o_if hf
    obtain ⟨hf1, hf2⟩ := Prod.mk.inj (Option.some.inj hf)
    subst hf1
    subst hf2
    exact V_zret C (okI_z g30).1 hQ dX8_clauseHere_120
def f_X8_clauseHere_84 (N : Nat) (h : Hp) (v0 : Nat) (v1 : Int32) (v2 : Int32) (s0_ : Int32) : Option (Int32 × Hp) := if s0_ = 0 then (b2 (f_X8_fails h v0 (0 : Int32) v1) (fun r33 h34 => if r33 = 0 ∨ r33 = 1 then (some ((r33, h34))) else none)) else (if v2 = 0 then (f_X8_clauseHere_111 N h v0 v1 v2 (12 : Int32) (hI h v0 20)) else (f_X8_clauseHere_111 N h v0 v1 v2 (32 : Int32) (hI h v0 20)))
set_option maxHeartbeats 4000000 in
set_option maxRecDepth 100000 in
theorem p_X8_clauseHere_84 {X : XT} {r : Int32} {h' : Hp} (C : CX X cX8_clauseHere "WaterStairModel" 4 (some .boolean) rmX8_clauseHere) (hQ : QX X (some (vI r)) h' rmX8_clauseHere.cells rmX8_clauseHere.slots) {N : Nat}  {h : Hp} {v0 : Nat} {v1 : Int32} {v2 : Int32} {s0_ : Int32} (hf : f_X8_clauseHere_84 N h v0 v1 v2 s0_ = some ((r, h'))) : V X 0 0 h 84 [(0, vR 8 (some v0)), (1, vI v1), (2, vI v2)] [vI s0_] := by
  unfold f_X8_clauseHere_84 at hf
  refine V_istore_n (lv' := [(3, vI s0_), (0, vR 8 (some v0)), (1, vI v1), (2, vI v2)]) C dX8_clauseHere_84 rfl (by decide) rfl ?_
  refine V_iload_n C dX8_clauseHere_85 rfl 0 rfl ?_
  refine V_if_ne C 96 dX8_clauseHere_86 (by decide) (fun c31 => ?_) (fun c31 => ?_)
  · have hf := i_f c31 hf
    refine V_aload_n C dX8_clauseHere_96 rfl 1 rfl ?_
    refine V_getI C fl_X8_247 rfl dX8_clauseHere_97 ?_
    refine V_iload_n C dX8_clauseHere_100 rfl 3 rfl ?_
    refine V_if_eq C 109 dX8_clauseHere_101 (by decide) (fun c32 => ?_) (fun c32 => ?_)
    · have hf := i_t c32 hf
      refine V_bipush (v := (12 : Int32)) C dX8_clauseHere_109 (by decide) ?_
      refine V_sub (lv' := [(0, vR 8 (some v0)), (1, vI v1), (2, vI v2)]) [1, 2, 3] rfl ?_
      exact p_X8_clauseHere_111 C hQ hf
    · have hf := i_f c32 hf
      refine V_bipush (v := (32 : Int32)) C dX8_clauseHere_104 (by decide) ?_
      refine V_goto C 111 dX8_clauseHere_106 (by decide) ?_
      refine V_sub (lv' := [(0, vR 8 (some v0)), (1, vI v1), (2, vI v2)]) [1, 2, 3] rfl ?_
      exact p_X8_clauseHere_111 C hQ hf
  · have hf := i_t c31 hf
    refine V_aload_n C dX8_clauseHere_89 rfl 1 rfl ?_
    refine V_iconst (v := (0 : Int32)) C dX8_clauseHere_90 (by decide) ?_
    refine V_iload_n C dX8_clauseHere_91 rfl 2 rfl ?_
    obtain ⟨r33, h34, er33, hf⟩ := o_b2 hf
    refine V_callV (as := [vI (0 : Int32), vI v1]) (st := []) C ml_X8_120 fx8 (ct_X8_fails er33) rfl ⟨by decide, by decide, by decide, by decide⟩ (Nat.le_of_ble_eq_true rfl) rfl dX8_clauseHere_92 (cs' := 0) (sl' := 0) rfl rfl ?_
    obtain ⟨g35, hf⟩ := o_if hf
    obtain ⟨hf1, hf2⟩ := Prod.mk.inj (Option.some.inj hf)
    subst hf1
    subst hf2
    exact V_zret C (okI_z g35).1 hQ dX8_clauseHere_95
def f_X8_clauseHere_69 (N : Nat) (h : Hp) (v0 : Nat) (v1 : Int32) (v2 : Int32) : Option (Int32 × Hp) := f_X8_clauseHere_84 N h v0 v1 v2 (1 : Int32)
set_option maxHeartbeats 4000000 in
set_option maxRecDepth 100000 in
theorem p_X8_clauseHere_69 {X : XT} {r : Int32} {h' : Hp} (C : CX X cX8_clauseHere "WaterStairModel" 4 (some .boolean) rmX8_clauseHere) (hQ : QX X (some (vI r)) h' rmX8_clauseHere.cells rmX8_clauseHere.slots) {N : Nat}  {h : Hp} {v0 : Nat} {v1 : Int32} {v2 : Int32} (hf : f_X8_clauseHere_69 N h v0 v1 v2 = some ((r, h'))) : V X 0 0 h 69 [(0, vR 8 (some v0)), (1, vI v1), (2, vI v2)] [] := by
  unfold f_X8_clauseHere_69 at hf
  refine V_iconst (v := (1 : Int32)) C dX8_clauseHere_69 (by decide) ?_
  refine V_goto C 84 dX8_clauseHere_70 (by decide) ?_
  refine V_sub (lv' := [(0, vR 8 (some v0)), (1, vI v1), (2, vI v2)]) [0, 1, 2] rfl ?_
  exact p_X8_clauseHere_84 C hQ hf
def f_X8_clauseHere_24 (N : Nat) (h : Hp) (v0 : Nat) (v1 : Int32) (s0_ : Int32) : Option (Int32 × Hp) := if s0_ = 0 then (b2 (f_X8_isWord N h v0 (6447474 : Int64)) (fun r37 h38 => f_X8_clauseHere_84 N h38 v0 v1 s0_ r37)) else (b2 (f_X8_isWord N h v0 (465558725996 : Int64)) (fun r39 h40 => if r39 = 0 then (b2 (f_X8_isWord N h40 v0 (7102823 : Int64)) (fun r42 h43 => if r42 = 0 then (b2 (f_X8_isWord N h43 v0 (422541682533 : Int64)) (fun r45 h46 => if r45 = 0 then (b2 (f_X8_isWord N h46 v0 (108243635103086 : Int64)) (fun r48 h49 => if r48 = 0 then (f_X8_clauseHere_84 N h49 v0 v1 s0_ (0 : Int32)) else (f_X8_clauseHere_69 N h49 v0 v1 s0_))) else (f_X8_clauseHere_69 N h46 v0 v1 s0_))) else (f_X8_clauseHere_69 N h43 v0 v1 s0_))) else (f_X8_clauseHere_69 N h40 v0 v1 s0_)))
set_option maxHeartbeats 4000000 in
set_option maxRecDepth 100000 in
theorem p_X8_clauseHere_24 {X : XT} {r : Int32} {h' : Hp} (C : CX X cX8_clauseHere "WaterStairModel" 4 (some .boolean) rmX8_clauseHere) (hQ : QX X (some (vI r)) h' rmX8_clauseHere.cells rmX8_clauseHere.slots) {N : Nat}  {h : Hp} {v0 : Nat} {v1 : Int32} {s0_ : Int32} (hf : f_X8_clauseHere_24 N h v0 v1 s0_ = some ((r, h'))) : V X 0 0 h 24 [(0, vR 8 (some v0)), (1, vI v1)] [vI s0_] := by
  unfold f_X8_clauseHere_24 at hf
  refine V_istore_n (lv' := [(2, vI s0_), (0, vR 8 (some v0)), (1, vI v1)]) C dX8_clauseHere_24 rfl (by decide) rfl ?_
  refine V_iload_n C dX8_clauseHere_25 rfl 0 rfl ?_
  refine V_if_eq C 77 dX8_clauseHere_26 (by decide) (fun c36 => ?_) (fun c36 => ?_)
  · have hf := i_t c36 hf
    refine V_aload_n C dX8_clauseHere_77 rfl 1 rfl ?_
    refine V_ldc2 C kl_X8_245 dX8_clauseHere_78 ?_
    obtain ⟨r37, h38, er37, hf⟩ := o_b2 hf
    refine V_callV (as := [vL (6447474 : Int64)]) (st := []) C ml_X8_110 fx8 (ct_X8_isWord er37) rfl ⟨by decide, by decide, by decide, by decide⟩ (Nat.le_of_ble_eq_true rfl) rfl dX8_clauseHere_81 (cs' := 0) (sl' := 0) rfl rfl ?_
    refine V_sub (lv' := [(0, vR 8 (some v0)), (1, vI v1), (2, vI s0_)]) [1, 2, 0] rfl ?_
    exact p_X8_clauseHere_84 C hQ hf
  · have hf := i_f c36 hf
    refine V_aload_n C dX8_clauseHere_29 rfl 1 rfl ?_
    refine V_ldc2 C kl_X8_237 dX8_clauseHere_30 ?_
    obtain ⟨r39, h40, er39, hf⟩ := o_b2 hf
    refine V_callV (as := [vL (465558725996 : Int64)]) (st := []) C ml_X8_110 fx8 (ct_X8_isWord er39) rfl ⟨by decide, by decide, by decide, by decide⟩ (Nat.le_of_ble_eq_true rfl) rfl dX8_clauseHere_33 (cs' := 0) (sl' := 0) rfl rfl ?_
    refine V_if_ne C 69 dX8_clauseHere_36 (by decide) (fun c41 => ?_) (fun c41 => ?_)
    · have hf := i_f c41 hf
      refine V_sub (lv' := [(0, vR 8 (some v0)), (1, vI v1), (2, vI s0_)]) [1, 2, 0] rfl ?_
      exact p_X8_clauseHere_69 C hQ hf
    · have hf := i_t c41 hf
      refine V_aload_n C dX8_clauseHere_39 rfl 1 rfl ?_
      refine V_ldc2 C kl_X8_239 dX8_clauseHere_40 ?_
      obtain ⟨r42, h43, er42, hf⟩ := o_b2 hf
      refine V_callV (as := [vL (7102823 : Int64)]) (st := []) C ml_X8_110 fx8 (ct_X8_isWord er42) rfl ⟨by decide, by decide, by decide, by decide⟩ (Nat.le_of_ble_eq_true rfl) rfl dX8_clauseHere_43 (cs' := 0) (sl' := 0) rfl rfl ?_
      refine V_if_ne C 69 dX8_clauseHere_46 (by decide) (fun c44 => ?_) (fun c44 => ?_)
      · have hf := i_f c44 hf
        refine V_sub (lv' := [(0, vR 8 (some v0)), (1, vI v1), (2, vI s0_)]) [1, 2, 0] rfl ?_
        exact p_X8_clauseHere_69 C hQ hf
      · have hf := i_t c44 hf
        refine V_aload_n C dX8_clauseHere_49 rfl 1 rfl ?_
        refine V_ldc2 C kl_X8_241 dX8_clauseHere_50 ?_
        obtain ⟨r45, h46, er45, hf⟩ := o_b2 hf
        refine V_callV (as := [vL (422541682533 : Int64)]) (st := []) C ml_X8_110 fx8 (ct_X8_isWord er45) rfl ⟨by decide, by decide, by decide, by decide⟩ (Nat.le_of_ble_eq_true rfl) rfl dX8_clauseHere_53 (cs' := 0) (sl' := 0) rfl rfl ?_
        refine V_if_ne C 69 dX8_clauseHere_56 (by decide) (fun c47 => ?_) (fun c47 => ?_)
        · have hf := i_f c47 hf
          refine V_sub (lv' := [(0, vR 8 (some v0)), (1, vI v1), (2, vI s0_)]) [1, 2, 0] rfl ?_
          exact p_X8_clauseHere_69 C hQ hf
        · have hf := i_t c47 hf
          refine V_aload_n C dX8_clauseHere_59 rfl 1 rfl ?_
          refine V_ldc2 C kl_X8_243 dX8_clauseHere_60 ?_
          obtain ⟨r48, h49, er48, hf⟩ := o_b2 hf
          refine V_callV (as := [vL (108243635103086 : Int64)]) (st := []) C ml_X8_110 fx8 (ct_X8_isWord er48) rfl ⟨by decide, by decide, by decide, by decide⟩ (Nat.le_of_ble_eq_true rfl) rfl dX8_clauseHere_63 (cs' := 0) (sl' := 0) rfl rfl ?_
          refine V_if_eq C 73 dX8_clauseHere_66 (by decide) (fun c50 => ?_) (fun c50 => ?_)
          · have hf := i_t c50 hf
            refine V_iconst (v := (0 : Int32)) C dX8_clauseHere_73 (by decide) ?_
            refine V_goto C 84 dX8_clauseHere_74 (by decide) ?_
            refine V_sub (lv' := [(0, vR 8 (some v0)), (1, vI v1), (2, vI s0_)]) [1, 2, 0] rfl ?_
            exact p_X8_clauseHere_84 C hQ hf
          · have hf := i_f c50 hf
            refine V_sub (lv' := [(0, vR 8 (some v0)), (1, vI v1), (2, vI s0_)]) [1, 2, 0] rfl ?_
            exact p_X8_clauseHere_69 C hQ hf
def f_X8_clauseHere (N : Nat) (h : Hp) (v0 : Nat) : Option (Int32 × Hp) := b2 (f_X8_see N h v0) (fun r51 h52 => if (hI h52 v0 17) = (6 : Int32) then (f_X8_clauseHere_24 N h52 v0 (hI h52 v0 14) (1 : Int32)) else (f_X8_clauseHere_24 N h52 v0 (hI h52 v0 14) (0 : Int32)))
set_option maxHeartbeats 4000000 in
set_option maxRecDepth 100000 in
theorem p_X8_clauseHere {X : XT} {r : Int32} {h' : Hp} (C : CX X cX8_clauseHere "WaterStairModel" 4 (some .boolean) rmX8_clauseHere) {N : Nat} {h : Hp} {v0 : Nat} (hQ : QX X (some (vI r)) h' rmX8_clauseHere.cells rmX8_clauseHere.slots) (hf : f_X8_clauseHere N h v0 = some ((r, h'))) : V X 0 0 h 0 [(0, vR 8 (some v0))] [] := by
  unfold f_X8_clauseHere at hf
  refine V_aload_n C dX8_clauseHere_0 rfl 0 rfl ?_
  obtain ⟨r51, h52, er51, hf⟩ := o_b2 hf
  refine V_callV (as := []) (st := []) C ml_X8_102 fx8 (ct_X8_see er51) rfl ⟨by decide, by decide, by decide, by decide⟩ (Nat.le_of_ble_eq_true rfl) rfl dX8_clauseHere_1 (cs' := 0) (sl' := 0) rfl rfl ?_
  refine V_pop C dX8_clauseHere_4 rfl ?_
  refine V_aload_n C dX8_clauseHere_5 rfl 0 rfl ?_
  refine V_getI C fl_X8_99 rfl dX8_clauseHere_6 ?_
  refine V_istore_n (lv' := [(1, vI (hI h52 v0 14)), (0, vR 8 (some v0))]) C dX8_clauseHere_9 rfl (by decide) rfl ?_
  refine V_aload_n C dX8_clauseHere_10 rfl 1 rfl ?_
  refine V_getI C fl_X8_151 rfl dX8_clauseHere_11 ?_
  refine V_bipush (v := (6 : Int32)) C dX8_clauseHere_14 (by decide) ?_
  refine V_icmp_ne C 23 dX8_clauseHere_16 (by decide) (fun c53 => ?_) (fun c53 => ?_)
  · have hf := i_f c53 hf
    refine V_iconst (v := (0 : Int32)) C dX8_clauseHere_23 (by decide) ?_
    refine V_sub (lv' := [(0, vR 8 (some v0)), (1, vI (hI h52 v0 14))]) [1, 0] rfl ?_
    exact p_X8_clauseHere_24 C hQ hf
  · have hf := i_t c53 hf
    refine V_iconst (v := (1 : Int32)) C dX8_clauseHere_19 (by decide) ?_
    refine V_goto C 24 dX8_clauseHere_20 (by decide) ?_
    refine V_sub (lv' := [(0, vR 8 (some v0)), (1, vI (hI h52 v0 14))]) [1, 0] rfl ?_
    exact p_X8_clauseHere_24 C hQ hf
theorem ct_X8_clauseHere {r : Int32} {h' : Hp} {N : Nat} {h : Hp} {v0 : Nat} (hf : f_X8_clauseHere N h v0 = some ((r, h'))) (l : Launch) (G : GT) : MC l G yX8_clauseHere cX8_clauseHere 4 (some .boolean) rmX8_clauseHere h [vR 8 (some v0)] (some (vI r)) h' := MC_of (by decide) rfl (Nat.le_of_ble_eq_true rfl) rfl (fun X C hQ hin => p_X8_clauseHere C hQ hf)
abbrev rmX8_readsAll : Room := { frames := 11, cells := 0, slots := 0, locals := 242 }
def f_X8_readsAll_119 (N : Nat) (h : Hp) (v0 : Nat) : Option (Int32 × Hp) := lt (sI h v0 1 (0 : Int32)) (fun h1 => if hI h1 v0 15 = 0 then (some (((1 : Int32), h1))) else (some (((0 : Int32), h1))))
set_option maxHeartbeats 4000000 in
set_option maxRecDepth 100000 in
theorem p_X8_readsAll_119 {X : XT} {r : Int32} {h' : Hp} (C : CX X cX8_readsAll "WaterStairModel" 2 (some .boolean) rmX8_readsAll) (hQ : QX X (some (vI r)) h' rmX8_readsAll.cells rmX8_readsAll.slots) {N : Nat}  {h : Hp} {v0 : Nat} (hf : f_X8_readsAll_119 N h v0 = some ((r, h'))) : V X 0 0 h 119 [(0, vR 8 (some v0))] [] := by
  unfold f_X8_readsAll_119 at hf
  refine V_aload_n C dX8_readsAll_119 rfl 0 rfl ?_
  refine V_iconst (v := (0 : Int32)) C dX8_readsAll_120 (by decide) ?_
  obtain ⟨h1, eh1, hf⟩ := o_l hf
  refine V_putI C nf_X8_88 rfl (okI_int _) dX8_readsAll_121 (V_eqH eh1 ?_)
  refine V_aload_n C dX8_readsAll_124 rfl 0 rfl ?_
  refine V_getI C fl_X8_96 rfl dX8_readsAll_125 ?_
  refine V_if_ne C 135 dX8_readsAll_128 (by decide) (fun c2 => ?_) (fun c2 => ?_)
  · have hf := i_f c2 hf
    refine V_iconst (v := (0 : Int32)) C dX8_readsAll_135 (by decide) ?_
    obtain ⟨hf1, hf2⟩ := Prod.mk.inj (Option.some.inj hf)
    subst hf1
    subst hf2
    exact V_zret C (by decide) hQ dX8_readsAll_136
  · have hf := i_t c2 hf
    refine V_iconst (v := (1 : Int32)) C dX8_readsAll_131 (by decide) ?_
    refine V_goto C 136 dX8_readsAll_132 (by decide) ?_
    obtain ⟨hf1, hf2⟩ := Prod.mk.inj (Option.some.inj hf)
    subst hf1
    subst hf2
    exact V_zret C (by decide) hQ dX8_readsAll_136
def f_X8_readsAll_88 (N : Nat) (h : Hp) (v0 : Nat) (v1 : Int32) : Option (Int32 × Hp) := if v1 = 0 then (f_X8_readsAll_119 N h v0) else (if (hI h v0 17) = (6 : Int32) then (if (2 : Int32) ≤ (hI h v0 7) then (f_X8_readsAll_119 N h v0) else (b2 (f_X8_fails h v0 (0 : Int32) (hI h v0 14)) (fun r6 h7 => f_X8_readsAll_119 N h7 v0))) else (f_X8_readsAll_119 N h v0))
set_option maxHeartbeats 4000000 in
set_option maxRecDepth 100000 in
theorem p_X8_readsAll_88 {X : XT} {r : Int32} {h' : Hp} (C : CX X cX8_readsAll "WaterStairModel" 2 (some .boolean) rmX8_readsAll) (hQ : QX X (some (vI r)) h' rmX8_readsAll.cells rmX8_readsAll.slots) {N : Nat}  {h : Hp} {v0 : Nat} {v1 : Int32} (hf : f_X8_readsAll_88 N h v0 v1 = some ((r, h'))) : V X 0 0 h 88 [(0, vR 8 (some v0)), (1, vI v1)] [] := by
  unfold f_X8_readsAll_88 at hf
  refine V_iload_n C dX8_readsAll_88 rfl 1 rfl ?_
  refine V_if_eq C 119 dX8_readsAll_89 (by decide) (fun c3 => ?_) (fun c3 => ?_)
  · have hf := i_t c3 hf
    refine V_sub (lv' := [(0, vR 8 (some v0))]) [0] rfl ?_
    exact p_X8_readsAll_119 C hQ hf
  · have hf := i_f c3 hf
    refine V_aload_n C dX8_readsAll_92 rfl 0 rfl ?_
    refine V_getI C fl_X8_151 rfl dX8_readsAll_93 ?_
    refine V_bipush (v := (6 : Int32)) C dX8_readsAll_96 (by decide) ?_
    refine V_icmp_ne C 119 dX8_readsAll_98 (by decide) (fun c4 => ?_) (fun c4 => ?_)
    · have hf := i_f c4 hf
      refine V_sub (lv' := [(0, vR 8 (some v0))]) [0] rfl ?_
      exact p_X8_readsAll_119 C hQ hf
    · have hf := i_t c4 hf
      refine V_aload_n C dX8_readsAll_101 rfl 0 rfl ?_
      refine V_getI C fl_X8_218 rfl dX8_readsAll_102 ?_
      refine V_iconst (v := (2 : Int32)) C dX8_readsAll_105 (by decide) ?_
      refine V_icmp_ge C 119 dX8_readsAll_106 (by decide) (fun c5 => ?_) (fun c5 => ?_)
      · have hf := i_t c5 hf
        refine V_sub (lv' := [(0, vR 8 (some v0))]) [0] rfl ?_
        exact p_X8_readsAll_119 C hQ hf
      · have hf := i_f c5 hf
        refine V_aload_n C dX8_readsAll_109 rfl 0 rfl ?_
        refine V_iconst (v := (0 : Int32)) C dX8_readsAll_110 (by decide) ?_
        refine V_aload_n C dX8_readsAll_111 rfl 0 rfl ?_
        refine V_getI C fl_X8_99 rfl dX8_readsAll_112 ?_
        obtain ⟨r6, h7, er6, hf⟩ := o_b2 hf
        refine V_callV (as := [vI (0 : Int32), vI (hI h v0 14)]) (st := []) C ml_X8_120 fx8 (ct_X8_fails er6) rfl ⟨by decide, by decide, by decide, by decide⟩ (Nat.le_of_ble_eq_true rfl) rfl dX8_readsAll_115 (cs' := 0) (sl' := 0) rfl rfl ?_
        refine V_pop C dX8_readsAll_118 rfl ?_
        refine V_sub (lv' := [(0, vR 8 (some v0))]) [0] rfl ?_
        exact p_X8_readsAll_119 C hQ hf
def f_X8_readsAll_66 (N : Nat) (h : Hp) (v0 : Nat) (v1 : Int32) : Option (Int32 × Hp) := if v1 = 0 then (f_X8_readsAll_88 N h v0 v1) else (b2 (f_X8_see N h v0) (fun r9 h10 => if r9 = (-1 : Int32) then (f_X8_readsAll_88 N h10 v0 v1) else (b2 (f_X8_fails h10 v0 (0 : Int32) (hI h10 v0 14)) (fun r12 h13 => f_X8_readsAll_88 N h13 v0 r12))))
set_option maxHeartbeats 4000000 in
set_option maxRecDepth 100000 in
theorem p_X8_readsAll_66 {X : XT} {r : Int32} {h' : Hp} (C : CX X cX8_readsAll "WaterStairModel" 2 (some .boolean) rmX8_readsAll) (hQ : QX X (some (vI r)) h' rmX8_readsAll.cells rmX8_readsAll.slots) {N : Nat}  {h : Hp} {v0 : Nat} {v1 : Int32} (hf : f_X8_readsAll_66 N h v0 v1 = some ((r, h'))) : V X 0 0 h 66 [(0, vR 8 (some v0)), (1, vI v1)] [] := by
  unfold f_X8_readsAll_66 at hf
  refine V_iload_n C dX8_readsAll_66 rfl 1 rfl ?_
  refine V_if_eq C 88 dX8_readsAll_67 (by decide) (fun c8 => ?_) (fun c8 => ?_)
  · have hf := i_t c8 hf
    refine V_sub (lv' := [(0, vR 8 (some v0)), (1, vI v1)]) [0, 1] rfl ?_
    exact p_X8_readsAll_88 C hQ hf
  · have hf := i_f c8 hf
    refine V_aload_n C dX8_readsAll_70 rfl 0 rfl ?_
    obtain ⟨r9, h10, er9, hf⟩ := o_b2 hf
    refine V_callV (as := []) (st := []) C ml_X8_102 fx8 (ct_X8_see er9) rfl ⟨by decide, by decide, by decide, by decide⟩ (Nat.le_of_ble_eq_true rfl) rfl dX8_readsAll_71 (cs' := 0) (sl' := 0) rfl rfl ?_
    refine V_iconst (v := (-1 : Int32)) C dX8_readsAll_74 (by decide) ?_
    refine V_icmp_eq C 88 dX8_readsAll_75 (by decide) (fun c11 => ?_) (fun c11 => ?_)
    · have hf := i_t c11 hf
      refine V_sub (lv' := [(0, vR 8 (some v0)), (1, vI v1)]) [0, 1] rfl ?_
      exact p_X8_readsAll_88 C hQ hf
    · have hf := i_f c11 hf
      refine V_aload_n C dX8_readsAll_78 rfl 0 rfl ?_
      refine V_iconst (v := (0 : Int32)) C dX8_readsAll_79 (by decide) ?_
      refine V_aload_n C dX8_readsAll_80 rfl 0 rfl ?_
      refine V_getI C fl_X8_99 rfl dX8_readsAll_81 ?_
      obtain ⟨r12, h13, er12, hf⟩ := o_b2 hf
      refine V_callV (as := [vI (0 : Int32), vI (hI h10 v0 14)]) (st := []) C ml_X8_120 fx8 (ct_X8_fails er12) rfl ⟨by decide, by decide, by decide, by decide⟩ (Nat.le_of_ble_eq_true rfl) rfl dX8_readsAll_84 (cs' := 0) (sl' := 0) rfl rfl ?_
      refine V_istore_n (lv' := [(1, vI r12), (0, vR 8 (some v0))]) C dX8_readsAll_87 rfl (by decide) rfl ?_
      refine V_sub (lv' := [(0, vR 8 (some v0)), (1, vI r12)]) [1, 0] rfl ?_
      exact p_X8_readsAll_88 C hQ hf
def f_X8_readsAll_35 (N : Nat) : Nat → Hp → Nat → Int32 → Option (Int32 × Hp)
  | 0, _, _, _ => none
  | n + 1, h, v0, v1 => if v1 = 0 then (f_X8_readsAll_66 N h v0 v1) else (b2 (f_X8_see N h v0) (fun r15 h16 => if r15 = (59 : Int32) then (lt (sI h16 v0 14 ((hI h16 v0 14) + (1 : Int32))) (fun h18 => b2 (f_X8_clauseHere N h18 v0) (fun r19 h20 => f_X8_readsAll_35 N n h20 v0 r19))) else (f_X8_readsAll_66 N h16 v0 v1)))
set_option maxHeartbeats 4000000 in
set_option maxRecDepth 100000 in
theorem p_X8_readsAll_35 {X : XT} {r : Int32} {h' : Hp} (C : CX X cX8_readsAll "WaterStairModel" 2 (some .boolean) rmX8_readsAll) (hQ : QX X (some (vI r)) h' rmX8_readsAll.cells rmX8_readsAll.slots) {N : Nat}  : ∀ (n : Nat) (h : Hp) (v0 : Nat) (v1 : Int32), f_X8_readsAll_35 N n h v0 v1 = some ((r, h')) → V X 0 0 h 35 [(0, vR 8 (some v0)), (1, vI v1)] [] := by
  intro n
  induction n with
  | zero =>
    intro h v0 v1 hf
    have hf : (none : Option (Int32 × Hp)) = some _ := hf
    cases hf
  | succ n ih =>
    intro h v0 v1 hf
    rw [f_X8_readsAll_35] at hf
    refine V_iload_n C dX8_readsAll_35 rfl 1 rfl ?_
    refine V_if_eq C 66 dX8_readsAll_36 (by decide) (fun c14 => ?_) (fun c14 => ?_)
    · have hf := i_t c14 hf
      refine V_sub (lv' := [(0, vR 8 (some v0)), (1, vI v1)]) [0, 1] rfl ?_
      exact p_X8_readsAll_66 C hQ hf
    · have hf := i_f c14 hf
      refine V_aload_n C dX8_readsAll_39 rfl 0 rfl ?_
      obtain ⟨r15, h16, er15, hf⟩ := o_b2 hf
      refine V_callV (as := []) (st := []) C ml_X8_102 fx8 (ct_X8_see er15) rfl ⟨by decide, by decide, by decide, by decide⟩ (Nat.le_of_ble_eq_true rfl) rfl dX8_readsAll_40 (cs' := 0) (sl' := 0) rfl rfl ?_
      refine V_bipush (v := (59 : Int32)) C dX8_readsAll_43 (by decide) ?_
      refine V_icmp_ne C 66 dX8_readsAll_45 (by decide) (fun c17 => ?_) (fun c17 => ?_)
      · have hf := i_f c17 hf
        refine V_sub (lv' := [(0, vR 8 (some v0)), (1, vI v1)]) [0, 1] rfl ?_
        exact p_X8_readsAll_66 C hQ hf
      · have hf := i_t c17 hf
        refine V_aload_n C dX8_readsAll_48 rfl 0 rfl ?_
        refine V_dup C dX8_readsAll_49 rfl ?_
        refine V_getI C fl_X8_99 rfl dX8_readsAll_50 ?_
        refine V_iconst (v := (1 : Int32)) C dX8_readsAll_53 (by decide) ?_
        refine V_iadd C dX8_readsAll_54 ?_
        obtain ⟨h18, eh18, hf⟩ := o_l hf
        refine V_putI C nf_X8_99 rfl (okI_int _) dX8_readsAll_55 (V_eqH eh18 ?_)
        refine V_aload_n C dX8_readsAll_58 rfl 0 rfl ?_
        obtain ⟨r19, h20, er19, hf⟩ := o_b2 hf
        refine V_callV (as := []) (st := []) C ml_X8_265 fx8 (ct_X8_clauseHere er19) rfl ⟨by decide, by decide, by decide, by decide⟩ (Nat.le_of_ble_eq_true rfl) rfl dX8_readsAll_59 (cs' := 0) (sl' := 0) rfl rfl ?_
        refine V_istore_n (lv' := [(1, vI r19), (0, vR 8 (some v0))]) C dX8_readsAll_62 rfl (by decide) rfl ?_
        refine V_goto C 35 dX8_readsAll_63 (by decide) ?_
        refine V_sub (lv' := [(0, vR 8 (some v0)), (1, vI r19)]) [1, 0] rfl ?_
        exact ih _ _ _ hf
def f_X8_readsAll (N : Nat) (h : Hp) (v0 : Nat) : Option (Int32 × Hp) := Option.bind (hP h v0 4) (fun q21 => if 0 ≤ hI h v0 17 ∧ (hI h v0 17).toNatClampNeg < hL h q21 then (lt (sI h q21 ((hI h v0 17).toNatClampNeg) (0 : Int32)) (fun h23 => lt (sI h23 v0 20 (0 : Int32)) (fun h24 => lt (sI h24 v0 14 (0 : Int32)) (fun h25 => lt (sI h25 v0 15 (0 : Int32)) (fun h26 => lt (sI h26 v0 18 (0 : Int32)) (fun h27 => b2 (f_X8_clauseHere N h27 v0) (fun r28 h29 => f_X8_readsAll_35 N N h29 v0 r28))))))) else none)
set_option maxHeartbeats 4000000 in
set_option maxRecDepth 100000 in
theorem p_X8_readsAll {X : XT} {r : Int32} {h' : Hp} (C : CX X cX8_readsAll "WaterStairModel" 2 (some .boolean) rmX8_readsAll) {N : Nat} {h : Hp} {v0 : Nat} (hQ : QX X (some (vI r)) h' rmX8_readsAll.cells rmX8_readsAll.slots) (hf : f_X8_readsAll N h v0 = some ((r, h'))) : V X 0 0 h 0 [(0, vR 8 (some v0))] [] := by
  unfold f_X8_readsAll at hf
  refine V_aload_n C dX8_readsAll_0 rfl 0 rfl ?_
  obtain ⟨q21, eq21, hf⟩ := o_b hf
  refine V_getR C fl_X8_17 rfl rfl (by decide) eq21 dX8_readsAll_1 ?_
  refine V_aload_n C dX8_readsAll_4 rfl 0 rfl ?_
  refine V_getI C fl_X8_151 rfl dX8_readsAll_5 ?_
  refine V_iconst (v := (0 : Int32)) C dX8_readsAll_8 (by decide) ?_
  obtain ⟨g22, hf⟩ := o_if hf
  obtain ⟨h23, eh23, hf⟩ := o_l hf
  refine V_iast C (vp_g g22) rfl dX8_readsAll_9 (V_eqH eh23 ?_)
  refine V_aload_n C dX8_readsAll_10 rfl 0 rfl ?_
  refine V_iconst (v := (0 : Int32)) C dX8_readsAll_11 (by decide) ?_
  obtain ⟨h24, eh24, hf⟩ := o_l hf
  refine V_putI C nf_X8_247 rfl (okI_int _) dX8_readsAll_12 (V_eqH eh24 ?_)
  refine V_aload_n C dX8_readsAll_15 rfl 0 rfl ?_
  refine V_iconst (v := (0 : Int32)) C dX8_readsAll_16 (by decide) ?_
  obtain ⟨h25, eh25, hf⟩ := o_l hf
  refine V_putI C nf_X8_99 rfl (okI_int _) dX8_readsAll_17 (V_eqH eh25 ?_)
  refine V_aload_n C dX8_readsAll_20 rfl 0 rfl ?_
  refine V_iconst (v := (0 : Int32)) C dX8_readsAll_21 (by decide) ?_
  obtain ⟨h26, eh26, hf⟩ := o_l hf
  refine V_putI C nf_X8_96 rfl (okI_int _) dX8_readsAll_22 (V_eqH eh26 ?_)
  refine V_aload_n C dX8_readsAll_25 rfl 0 rfl ?_
  refine V_iconst (v := (0 : Int32)) C dX8_readsAll_26 (by decide) ?_
  obtain ⟨h27, eh27, hf⟩ := o_l hf
  refine V_putI C nf_X8_154 rfl (okI_int _) dX8_readsAll_27 (V_eqH eh27 ?_)
  refine V_aload_n C dX8_readsAll_30 rfl 0 rfl ?_
  obtain ⟨r28, h29, er28, hf⟩ := o_b2 hf
  refine V_callV (as := []) (st := []) C ml_X8_265 fx8 (ct_X8_clauseHere er28) rfl ⟨by decide, by decide, by decide, by decide⟩ (Nat.le_of_ble_eq_true rfl) rfl dX8_readsAll_31 (cs' := 0) (sl' := 0) rfl rfl ?_
  refine V_istore_n (lv' := [(1, vI r28), (0, vR 8 (some v0))]) C dX8_readsAll_34 rfl (by decide) rfl ?_
  refine V_sub (lv' := [(0, vR 8 (some v0)), (1, vI r28)]) [1, 0] rfl ?_
  exact p_X8_readsAll_35 C hQ N _ _ _ hf
theorem ct_X8_readsAll {r : Int32} {h' : Hp} {N : Nat} {h : Hp} {v0 : Nat} (hf : f_X8_readsAll N h v0 = some ((r, h'))) (l : Launch) (G : GT) : MC l G yX8_readsAll cX8_readsAll 2 (some .boolean) rmX8_readsAll h [vR 8 (some v0)] (some (vI r)) h' := MC_of (by decide) rfl (Nat.le_of_ble_eq_true rfl) rfl (fun X C hQ hin => p_X8_readsAll C hQ hf)
abbrev rmX8_rule : Room := { frames := 12, cells := 0, slots := 0, locals := 263 }
def f_X8_rule (N : Nat) (h : Hp) (v0 : Nat) : Option (Int32 × Hp) := if (hI h v0 2) = (6 : Int32) then (some (((-1 : Int32), h))) else (lt (sI h v0 17 (hI h v0 2)) (fun h2 => Option.bind (hP h2 v0 6) (fun q3 => if 0 ≤ hI h2 v0 17 ∧ (hI h2 v0 17).toNatClampNeg < hL h2 q3 then (lt (sI h2 q3 ((hI h2 v0 17).toNatClampNeg) (0 : Int32)) (fun h5 => b2 (f_X8_readsAll N h5 v0) (fun r6 h7 => if r6 = 0 then (some (((-2 : Int32) - (hI h7 v0 15), h7))) else (lt (sI h7 v0 2 ((hI h7 v0 2) + (1 : Int32))) (fun h9 => some (((hI h9 v0 2) - (1 : Int32), h9))))))) else none)))
set_option maxHeartbeats 4000000 in
set_option maxRecDepth 100000 in
theorem p_X8_rule {X : XT} {r : Int32} {h' : Hp} (C : CX X cX8_rule "WaterStairModel" 1 (some .int) rmX8_rule) {N : Nat} {h : Hp} {v0 : Nat} (hQ : QX X (some (vI r)) h' rmX8_rule.cells rmX8_rule.slots) (hf : f_X8_rule N h v0 = some ((r, h'))) : V X 0 0 h 0 [(0, vR 8 (some v0))] [] := by
  unfold f_X8_rule at hf
  refine V_aload_n C dX8_rule_0 rfl 0 rfl ?_
  refine V_getI C fl_X8_268 rfl dX8_rule_1 ?_
  refine V_bipush (v := (6 : Int32)) C dX8_rule_4 (by decide) ?_
  refine V_icmp_ne C 11 dX8_rule_6 (by decide) (fun c1 => ?_) (fun c1 => ?_)
  · have hf := i_f c1 hf
    refine V_aload_n C dX8_rule_11 rfl 0 rfl ?_
    refine V_aload_n C dX8_rule_12 rfl 0 rfl ?_
    refine V_getI C fl_X8_268 rfl dX8_rule_13 ?_
    obtain ⟨h2, eh2, hf⟩ := o_l hf
    refine V_putI C nf_X8_151 rfl (okI_int _) dX8_rule_16 (V_eqH eh2 ?_)
    refine V_aload_n C dX8_rule_19 rfl 0 rfl ?_
    obtain ⟨q3, eq3, hf⟩ := o_b hf
    refine V_getR C fl_X8_23 rfl rfl (by decide) eq3 dX8_rule_20 ?_
    refine V_aload_n C dX8_rule_23 rfl 0 rfl ?_
    refine V_getI C fl_X8_151 rfl dX8_rule_24 ?_
    refine V_iconst (v := (0 : Int32)) C dX8_rule_27 (by decide) ?_
    obtain ⟨g4, hf⟩ := o_if hf
    obtain ⟨h5, eh5, hf⟩ := o_l hf
    refine V_iast C (vp_g g4) rfl dX8_rule_28 (V_eqH eh5 ?_)
    refine V_aload_n C dX8_rule_29 rfl 0 rfl ?_
    obtain ⟨r6, h7, er6, hf⟩ := o_b2 hf
    refine V_callV (as := []) (st := []) C ml_X8_271 fx8 (ct_X8_readsAll er6) rfl ⟨by decide, by decide, by decide, by decide⟩ (Nat.le_of_ble_eq_true rfl) rfl dX8_rule_30 (cs' := 0) (sl' := 0) rfl rfl ?_
    refine V_if_ne C 44 dX8_rule_33 (by decide) (fun c8 => ?_) (fun c8 => ?_)
    · have hf := i_f c8 hf
      refine V_aload_n C dX8_rule_44 rfl 0 rfl ?_
      refine V_dup C dX8_rule_45 rfl ?_
      refine V_getI C fl_X8_268 rfl dX8_rule_46 ?_
      refine V_iconst (v := (1 : Int32)) C dX8_rule_49 (by decide) ?_
      refine V_iadd C dX8_rule_50 ?_
      obtain ⟨h9, eh9, hf⟩ := o_l hf
      refine V_putI C nf_X8_268 rfl (okI_int _) dX8_rule_51 (V_eqH eh9 ?_)
      refine V_aload_n C dX8_rule_54 rfl 0 rfl ?_
      refine V_getI C fl_X8_268 rfl dX8_rule_55 ?_
      refine V_iconst (v := (1 : Int32)) C dX8_rule_58 (by decide) ?_
      refine V_isub C dX8_rule_59 ?_
      obtain ⟨hf1, hf2⟩ := Prod.mk.inj (Option.some.inj hf)
      subst hf1
      subst hf2
      exact V_iret C hQ dX8_rule_60
    · have hf := i_t c8 hf
      refine V_bipush (v := (-2 : Int32)) C dX8_rule_36 (by decide) ?_
      refine V_aload_n C dX8_rule_38 rfl 0 rfl ?_
      refine V_getI C fl_X8_96 rfl dX8_rule_39 ?_
      refine V_isub C dX8_rule_42 ?_
      obtain ⟨hf1, hf2⟩ := Prod.mk.inj (Option.some.inj hf)
      subst hf1
      subst hf2
      exact V_iret C hQ dX8_rule_43
  · have hf := i_t c1 hf
    refine V_iconst (v := (-1 : Int32)) C dX8_rule_9 (by decide) ?_
    obtain ⟨hf1, hf2⟩ := Prod.mk.inj (Option.some.inj hf)
    subst hf1
    subst hf2
    exact V_iret C hQ dX8_rule_10
theorem ct_X8_rule {r : Int32} {h' : Hp} {N : Nat} {h : Hp} {v0 : Nat} (hf : f_X8_rule N h v0 = some ((r, h'))) (l : Launch) (G : GT) : MC l G yX8_rule cX8_rule 1 (some .int) rmX8_rule h [vR 8 (some v0)] (some (vI r)) h' := MC_of (by decide) rfl (Nat.le_of_ble_eq_true rfl) rfl (fun X C hQ hin => p_X8_rule C hQ hf)
abbrev rmX8_bargeOf : Room := { frames := 0, cells := 0, slots := 0, locals := 0 }
def f_X8_bargeOf (h : Hp) (v0 : Nat) (v1 : Int32) (v2 : Int32) : Option (Int32) := Option.bind (hP h v0 26) (fun q1 => if 0 ≤ ((25 : Int32) + ((5 : Int32) * v1)) + v2 ∧ (((25 : Int32) + ((5 : Int32) * v1)) + v2).toNatClampNeg < hL h q1 then (some (hI h q1 ((((25 : Int32) + ((5 : Int32) * v1)) + v2).toNatClampNeg))) else none)
set_option maxHeartbeats 4000000 in
set_option maxRecDepth 100000 in
theorem p_X8_bargeOf {X : XT} {r : Int32} (C : CX X cX8_bargeOf "WaterStairModel" 3 (some .int) rmX8_bargeOf) {h : Hp} {v0 : Nat} {v1 : Int32} {v2 : Int32} (hQ : QX X (some (vI r)) h rmX8_bargeOf.cells rmX8_bargeOf.slots) (hf : f_X8_bargeOf h v0 v1 v2 = some r) : V X 0 0 h 0 [(0, vR 8 (some v0)), (1, vI v1), (2, vI v2)] [] := by
  unfold f_X8_bargeOf at hf
  refine V_aload_n C dX8_bargeOf_0 rfl 0 rfl ?_
  obtain ⟨q1, eq1, hf⟩ := o_b hf
  refine V_getR C fl_X8_42 rfl rfl (by decide) eq1 dX8_bargeOf_1 ?_
  refine V_bipush (v := (25 : Int32)) C dX8_bargeOf_4 (by decide) ?_
  refine V_iconst (v := (5 : Int32)) C dX8_bargeOf_6 (by decide) ?_
  refine V_iload_n C dX8_bargeOf_7 rfl 1 rfl ?_
  refine V_imul C dX8_bargeOf_8 ?_
  refine V_iadd C dX8_bargeOf_9 ?_
  refine V_iload_n C dX8_bargeOf_10 rfl 2 rfl ?_
  refine V_iadd C dX8_bargeOf_11 ?_
  obtain ⟨g2, hf⟩ := o_if hf
  refine V_iald C (vp_g g2) rfl dX8_bargeOf_12 ?_
  have hf := Option.some.inj hf
  subst hf
  exact V_iret C hQ dX8_bargeOf_13
theorem ct_X8_bargeOf {r : Int32} {h : Hp} {v0 : Nat} {v1 : Int32} {v2 : Int32} (hf : f_X8_bargeOf h v0 v1 v2 = some r) (l : Launch) (G : GT) : MC l G yX8_bargeOf cX8_bargeOf 3 (some .int) rmX8_bargeOf h [vR 8 (some v0), vI v1, vI v2] (some (vI r)) h := MC_of (by decide) rfl (Nat.le_of_ble_eq_true rfl) rfl (fun X C hQ hin => p_X8_bargeOf C hQ hf)
abbrev rmX8_begins : Room := { frames := 1, cells := 0, slots := 0, locals := 22 }
def f_X8_begins_33 (h : Hp) (s2_ : Int32) (s1_ : Int32) (s0_ : Nat) : Option (Hp) := if 0 ≤ s1_ ∧ s1_.toNatClampNeg < hL h s0_ then (lt (sI h s0_ (s1_.toNatClampNeg) s2_) (fun h2 => some h2)) else none
set_option maxHeartbeats 4000000 in
set_option maxRecDepth 100000 in
theorem p_X8_begins_33 {X : XT} {h' : Hp} (C : CX X cX8_begins "WaterStairModel" 2 none rmX8_begins) (hQ : QX X none h' rmX8_begins.cells rmX8_begins.slots)  {h : Hp} {s2_ : Int32} {s1_ : Int32} {s0_ : Nat} (hf : f_X8_begins_33 h s2_ s1_ s0_ = some h') : V X 0 0 h 33 [] [vI s2_, vI s1_, vR 10 (some s0_)] := by
  unfold f_X8_begins_33 at hf
  obtain ⟨g1, hf⟩ := o_if hf
  obtain ⟨h2, eh2, hf⟩ := o_l hf
  refine V_iast C (vp_g g1) rfl dX8_begins_33 (V_eqH eh2 ?_)
  have hf := Option.some.inj hf
  subst hf
  exact V_vret C hQ dX8_begins_34
def f_X8_begins (h : Hp) (v0 : Nat) (v1 : Int32) : Option (Hp) := Option.bind (hP h v0 26) (fun q3 => Option.bind (f_X8_bargeOf h v0 v1 (2 : Int32)) (fun r4 => if r4 = 0 then (f_X8_begins_33 h (0 : Int32) (((25 : Int32) + ((5 : Int32) * v1)) + (4 : Int32)) q3) else (Option.bind (hP h v0 26) (fun q6 => if 0 < hL h q6 then (f_X8_begins_33 h ((hI h q6 (0)) - (1 : Int32)) (((25 : Int32) + ((5 : Int32) * v1)) + (4 : Int32)) q3) else none))))
set_option maxHeartbeats 4000000 in
set_option maxRecDepth 100000 in
theorem p_X8_begins {X : XT} {h' : Hp} (C : CX X cX8_begins "WaterStairModel" 2 none rmX8_begins) {h : Hp} {v0 : Nat} {v1 : Int32} (hQ : QX X none h' rmX8_begins.cells rmX8_begins.slots) (hf : f_X8_begins h v0 v1 = some h') : V X 0 0 h 0 [(0, vR 8 (some v0)), (1, vI v1)] [] := by
  unfold f_X8_begins at hf
  refine V_aload_n C dX8_begins_0 rfl 0 rfl ?_
  obtain ⟨q3, eq3, hf⟩ := o_b hf
  refine V_getR C fl_X8_42 rfl rfl (by decide) eq3 dX8_begins_1 ?_
  refine V_bipush (v := (25 : Int32)) C dX8_begins_4 (by decide) ?_
  refine V_iconst (v := (5 : Int32)) C dX8_begins_6 (by decide) ?_
  refine V_iload_n C dX8_begins_7 rfl 1 rfl ?_
  refine V_imul C dX8_begins_8 ?_
  refine V_iadd C dX8_begins_9 ?_
  refine V_iconst (v := (4 : Int32)) C dX8_begins_10 (by decide) ?_
  refine V_iadd C dX8_begins_11 ?_
  refine V_aload_n C dX8_begins_12 rfl 0 rfl ?_
  refine V_iload_n C dX8_begins_13 rfl 1 rfl ?_
  refine V_iconst (v := (2 : Int32)) C dX8_begins_14 (by decide) ?_
  obtain ⟨r4, er4, hf⟩ := o_b hf
  refine V_callV (as := [vI v1, vI (2 : Int32)]) (st := [vI (((25 : Int32) + ((5 : Int32) * v1)) + (4 : Int32)), vR 10 (some q3)]) C ml_X8_295 fx8 (ct_X8_bargeOf er4) rfl ⟨by decide, by decide, by decide, by decide⟩ (Nat.le_of_ble_eq_true rfl) rfl dX8_begins_15 (cs' := 0) (sl' := 0) rfl rfl ?_
  refine V_if_ne C 25 dX8_begins_18 (by decide) (fun c5 => ?_) (fun c5 => ?_)
  · have hf := i_f c5 hf
    refine V_aload_n C dX8_begins_25 rfl 0 rfl ?_
    obtain ⟨q6, eq6, hf⟩ := o_b hf
    refine V_getR C fl_X8_42 rfl rfl (by decide) eq6 dX8_begins_26 ?_
    refine V_iconst (v := (0 : Int32)) C dX8_begins_29 (by decide) ?_
    obtain ⟨g7, hf⟩ := o_if hf
    refine V_iald C (vp_k (by decide) (by decide) g7) (by decide : Int32.toNatClampNeg (0 : Int32) = 0) dX8_begins_30 ?_
    refine V_iconst (v := (1 : Int32)) C dX8_begins_31 (by decide) ?_
    refine V_isub C dX8_begins_32 ?_
    refine V_sub (lv' := []) [] rfl ?_
    exact p_X8_begins_33 C hQ hf
  · have hf := i_t c5 hf
    refine V_iconst (v := (0 : Int32)) C dX8_begins_21 (by decide) ?_
    refine V_goto C 33 dX8_begins_22 (by decide) ?_
    refine V_sub (lv' := []) [] rfl ?_
    exact p_X8_begins_33 C hQ hf
theorem ct_X8_begins {h' : Hp} {h : Hp} {v0 : Nat} {v1 : Int32} (hf : f_X8_begins h v0 v1 = some h') (l : Launch) (G : GT) : MC l G yX8_begins cX8_begins 2 none rmX8_begins h [vR 8 (some v0), vI v1] none h' := MC_of (by decide) rfl (Nat.le_of_ble_eq_true rfl) rfl (fun X C hQ hin => p_X8_begins C hQ hf)
abbrev rmX8_stair : Room := { frames := 12, cells := 0, slots := 0, locals := 263 }
def f_X8_stair_75 (N : Nat) (s56 : Hp → Nat → Int32 → Int32 → Option (Int32 × Hp)) (h : Hp) (v0 : Nat) (v1 : Int32) (v2 : Int32) : Option (Int32 × Hp) := s56 h v0 v1 (v2 + (1 : Int32))
set_option maxHeartbeats 4000000 in
set_option maxRecDepth 100000 in
theorem p_X8_stair_75 {X : XT} {r : Int32} {h' : Hp} (C : CX X cX8_stair "WaterStairModel" 4 (some .int) rmX8_stair) (hQ : QX X (some (vI r)) h' rmX8_stair.cells rmX8_stair.slots) {N : Nat} {s56 : Hp → Nat → Int32 → Int32 → Option (Int32 × Hp)} (S56 : ∀ (h : Hp) (v0 : Nat) (v1 : Int32) (v2 : Int32), s56 h v0 v1 v2 = some ((r, h')) → V X 0 0 h 56 [(0, vR 8 (some v0)), (1, vI v1), (2, vI v2)] []) {h : Hp} {v0 : Nat} {v1 : Int32} {v2 : Int32} (hf : f_X8_stair_75 N s56 h v0 v1 v2 = some ((r, h'))) : V X 0 0 h 75 [(0, vR 8 (some v0)), (1, vI v1), (2, vI v2)] [] := by
  unfold f_X8_stair_75 at hf
  refine V_iinc (lv' := [(2, vI (v2 + (1 : Int32))), (0, vR 8 (some v0)), (1, vI v1)]) C dX8_stair_75 2 rfl (congrArg (v2 + ·) (by decide : Int32.ofInt (1) = (1 : Int32))) (by decide) rfl ?_
  refine V_goto C 56 dX8_stair_78 (by decide) ?_
  refine V_sub (lv' := [(0, vR 8 (some v0)), (1, vI v1), (2, vI (v2 + (1 : Int32)))]) [1, 2, 0] rfl ?_
  exact S56 _ _ _ _ hf
def f_X8_stair_185 (N : Nat) (s175 : Hp → Nat → Int32 → Option (Int32 × Hp)) : Nat → Hp → Nat → Int32 → Int32 → Option (Int32 × Hp)
  | 0, _, _, _, _ => none
  | n + 1, h, v0, v2, v3 => if (4 : Int32) ≤ v3 then (Option.bind (f_X8_begins h v0 v2) (fun h2 => s175 h2 v0 (v2 + (1 : Int32)))) else (Option.bind (hP h v0 26) (fun q3 => Option.bind (hP h v0 13) (fun q4 => if 0 ≤ ((4 : Int32) * v2) + v3 ∧ (((4 : Int32) * v2) + v3).toNatClampNeg < hL h q4 then (lt (hI h q4 ((((4 : Int32) * v2) + v3).toNatClampNeg)) (fun y6 => if 0 ≤ ((25 : Int32) + ((5 : Int32) * v2)) + v3 ∧ (((25 : Int32) + ((5 : Int32) * v2)) + v3).toNatClampNeg < hL h q3 then (lt (sI h q3 ((((25 : Int32) + ((5 : Int32) * v2)) + v3).toNatClampNeg) y6) (fun h8 => f_X8_stair_185 N s175 n h8 v0 v2 (v3 + (1 : Int32)))) else none)) else none)))
set_option maxHeartbeats 4000000 in
set_option maxRecDepth 100000 in
theorem p_X8_stair_185 {X : XT} {r : Int32} {h' : Hp} (C : CX X cX8_stair "WaterStairModel" 4 (some .int) rmX8_stair) (hQ : QX X (some (vI r)) h' rmX8_stair.cells rmX8_stair.slots) {N : Nat} {s175 : Hp → Nat → Int32 → Option (Int32 × Hp)} (S175 : ∀ (h : Hp) (v0 : Nat) (v2 : Int32), s175 h v0 v2 = some ((r, h')) → V X 0 0 h 175 [(0, vR 8 (some v0)), (2, vI v2)] []) : ∀ (n : Nat) (h : Hp) (v0 : Nat) (v2 : Int32) (v3 : Int32), f_X8_stair_185 N s175 n h v0 v2 v3 = some ((r, h')) → V X 0 0 h 185 [(0, vR 8 (some v0)), (2, vI v2), (3, vI v3)] [] := by
  intro n
  induction n with
  | zero =>
    intro h v0 v2 v3 hf
    have hf : (none : Option (Int32 × Hp)) = some _ := hf
    cases hf
  | succ n ih =>
    intro h v0 v2 v3 hf
    rw [f_X8_stair_185] at hf
    refine V_iload_n C dX8_stair_185 rfl 2 rfl ?_
    refine V_iconst (v := (4 : Int32)) C dX8_stair_186 (by decide) ?_
    refine V_icmp_ge C 219 dX8_stair_187 (by decide) (fun c1 => ?_) (fun c1 => ?_)
    · have hf := i_t c1 hf
      refine V_aload_n C dX8_stair_219 rfl 0 rfl ?_
      refine V_iload_n C dX8_stair_220 rfl 1 rfl ?_
      obtain ⟨h2, eh2, hf⟩ := o_b hf
      refine V_callV (as := [vI v2]) (st := []) C ml_X8_274 fx8 (ct_X8_begins eh2) rfl ⟨by decide, by decide, by decide, by decide⟩ (Nat.le_of_ble_eq_true rfl) rfl dX8_stair_221 (cs' := 0) (sl' := 0) rfl rfl ?_
      refine V_iinc (lv' := [(2, vI (v2 + (1 : Int32))), (0, vR 8 (some v0)), (3, vI v3)]) C dX8_stair_224 1 rfl (congrArg (v2 + ·) (by decide : Int32.ofInt (1) = (1 : Int32))) (by decide) rfl ?_
      refine V_goto C 175 dX8_stair_227 (by decide) ?_
      refine V_sub (lv' := [(0, vR 8 (some v0)), (2, vI (v2 + (1 : Int32)))]) [1, 0] rfl ?_
      exact S175 _ _ _ hf
    · have hf := i_f c1 hf
      refine V_aload_n C dX8_stair_190 rfl 0 rfl ?_
      obtain ⟨q3, eq3, hf⟩ := o_b hf
      refine V_getR C fl_X8_42 rfl rfl (by decide) eq3 dX8_stair_191 ?_
      refine V_bipush (v := (25 : Int32)) C dX8_stair_194 (by decide) ?_
      refine V_iconst (v := (5 : Int32)) C dX8_stair_196 (by decide) ?_
      refine V_iload_n C dX8_stair_197 rfl 1 rfl ?_
      refine V_imul C dX8_stair_198 ?_
      refine V_iadd C dX8_stair_199 ?_
      refine V_iload_n C dX8_stair_200 rfl 2 rfl ?_
      refine V_iadd C dX8_stair_201 ?_
      refine V_aload_n C dX8_stair_202 rfl 0 rfl ?_
      obtain ⟨q4, eq4, hf⟩ := o_b hf
      refine V_getR C fl_X8_29 rfl rfl (by decide) eq4 dX8_stair_203 ?_
      refine V_iconst (v := (4 : Int32)) C dX8_stair_206 (by decide) ?_
      refine V_iload_n C dX8_stair_207 rfl 1 rfl ?_
      refine V_imul C dX8_stair_208 ?_
      refine V_iload_n C dX8_stair_209 rfl 2 rfl ?_
      refine V_iadd C dX8_stair_210 ?_
      obtain ⟨g5, hf⟩ := o_if hf
      refine V_iald C (vp_g g5) rfl dX8_stair_211 ?_
      obtain ⟨y6, ey6, hf⟩ := o_l hf
      refine V_eqI ey6 ?_
      obtain ⟨g7, hf⟩ := o_if hf
      obtain ⟨h8, eh8, hf⟩ := o_l hf
      refine V_iast C (vp_g g7) rfl dX8_stair_212 (V_eqH eh8 ?_)
      refine V_iinc (lv' := [(3, vI (v3 + (1 : Int32))), (0, vR 8 (some v0)), (2, vI v2)]) C dX8_stair_213 2 rfl (congrArg (v3 + ·) (by decide : Int32.ofInt (1) = (1 : Int32))) (by decide) rfl ?_
      refine V_goto C 185 dX8_stair_216 (by decide) ?_
      refine V_sub (lv' := [(0, vR 8 (some v0)), (2, vI v2), (3, vI (v3 + (1 : Int32)))]) [1, 2, 0] rfl ?_
      exact ih _ _ _ _ hf
def f_X8_stair_232 (N : Nat) : Nat → Hp → Nat → Int32 → Option (Int32 × Hp)
  | 0, _, _, _ => none
  | n + 1, h, v0, v2 => if (8 : Int32) ≤ v2 then (some ((hI h v0 7, h))) else (Option.bind (hP h v0 26) (fun q10 => if 0 ≤ (55 : Int32) + v2 ∧ ((55 : Int32) + v2).toNatClampNeg < hL h q10 then (lt (sI h q10 (((55 : Int32) + v2).toNatClampNeg) (-1 : Int32)) (fun h12 => f_X8_stair_232 N n h12 v0 (v2 + (1 : Int32)))) else none))
set_option maxHeartbeats 4000000 in
set_option maxRecDepth 100000 in
theorem p_X8_stair_232 {X : XT} {r : Int32} {h' : Hp} (C : CX X cX8_stair "WaterStairModel" 4 (some .int) rmX8_stair) (hQ : QX X (some (vI r)) h' rmX8_stair.cells rmX8_stair.slots) {N : Nat}  : ∀ (n : Nat) (h : Hp) (v0 : Nat) (v2 : Int32), f_X8_stair_232 N n h v0 v2 = some ((r, h')) → V X 0 0 h 232 [(0, vR 8 (some v0)), (2, vI v2)] [] := by
  intro n
  induction n with
  | zero =>
    intro h v0 v2 hf
    have hf : (none : Option (Int32 × Hp)) = some _ := hf
    cases hf
  | succ n ih =>
    intro h v0 v2 hf
    rw [f_X8_stair_232] at hf
    refine V_iload_n C dX8_stair_232 rfl 1 rfl ?_
    refine V_bipush (v := (8 : Int32)) C dX8_stair_233 (by decide) ?_
    refine V_icmp_ge C 254 dX8_stair_235 (by decide) (fun c9 => ?_) (fun c9 => ?_)
    · have hf := i_t c9 hf
      refine V_aload_n C dX8_stair_254 rfl 0 rfl ?_
      refine V_getI C fl_X8_218 rfl dX8_stair_255 ?_
      obtain ⟨hf1, hf2⟩ := Prod.mk.inj (Option.some.inj hf)
      subst hf1
      subst hf2
      exact V_iret C hQ dX8_stair_258
    · have hf := i_f c9 hf
      refine V_aload_n C dX8_stair_238 rfl 0 rfl ?_
      obtain ⟨q10, eq10, hf⟩ := o_b hf
      refine V_getR C fl_X8_42 rfl rfl (by decide) eq10 dX8_stair_239 ?_
      refine V_bipush (v := (55 : Int32)) C dX8_stair_242 (by decide) ?_
      refine V_iload_n C dX8_stair_244 rfl 1 rfl ?_
      refine V_iadd C dX8_stair_245 ?_
      refine V_iconst (v := (-1 : Int32)) C dX8_stair_246 (by decide) ?_
      obtain ⟨g11, hf⟩ := o_if hf
      obtain ⟨h12, eh12, hf⟩ := o_l hf
      refine V_iast C (vp_g g11) rfl dX8_stair_247 (V_eqH eh12 ?_)
      refine V_iinc (lv' := [(2, vI (v2 + (1 : Int32))), (0, vR 8 (some v0))]) C dX8_stair_248 1 rfl (congrArg (v2 + ·) (by decide : Int32.ofInt (1) = (1 : Int32))) (by decide) rfl ?_
      refine V_goto C 232 dX8_stair_251 (by decide) ?_
      refine V_sub (lv' := [(0, vR 8 (some v0)), (2, vI (v2 + (1 : Int32)))]) [1, 0] rfl ?_
      exact ih _ _ _ hf
def f_X8_stair_175 (N : Nat) : Nat → Hp → Nat → Int32 → Option (Int32 × Hp)
  | 0, _, _, _ => none
  | n + 1, h, v0, v2 => if (hI h v0 8) ≤ v2 then (f_X8_stair_232 N N h v0 (0 : Int32)) else (f_X8_stair_185 N (f_X8_stair_175 N n) N h v0 v2 (0 : Int32))
set_option maxHeartbeats 4000000 in
set_option maxRecDepth 100000 in
theorem p_X8_stair_175 {X : XT} {r : Int32} {h' : Hp} (C : CX X cX8_stair "WaterStairModel" 4 (some .int) rmX8_stair) (hQ : QX X (some (vI r)) h' rmX8_stair.cells rmX8_stair.slots) {N : Nat}  : ∀ (n : Nat) (h : Hp) (v0 : Nat) (v2 : Int32), f_X8_stair_175 N n h v0 v2 = some ((r, h')) → V X 0 0 h 175 [(0, vR 8 (some v0)), (2, vI v2)] [] := by
  intro n
  induction n with
  | zero =>
    intro h v0 v2 hf
    have hf : (none : Option (Int32 × Hp)) = some _ := hf
    cases hf
  | succ n ih =>
    intro h v0 v2 hf
    rw [f_X8_stair_175] at hf
    refine V_iload_n C dX8_stair_175 rfl 1 rfl ?_
    refine V_aload_n C dX8_stair_176 rfl 0 rfl ?_
    refine V_getI C fl_X8_228 rfl dX8_stair_177 ?_
    refine V_icmp_ge C 230 dX8_stair_180 (by decide) (fun c13 => ?_) (fun c13 => ?_)
    · have hf := i_t c13 hf
      refine V_iconst (v := (0 : Int32)) C dX8_stair_230 (by decide) ?_
      refine V_istore_n (lv' := [(2, vI (0 : Int32)), (0, vR 8 (some v0))]) C dX8_stair_231 rfl (by decide) rfl ?_
      refine V_sub (lv' := [(0, vR 8 (some v0)), (2, vI (0 : Int32))]) [1, 0] rfl ?_
      exact p_X8_stair_232 C hQ N _ _ _ hf
    · have hf := i_f c13 hf
      refine V_iconst (v := (0 : Int32)) C dX8_stair_183 (by decide) ?_
      refine V_istore_n (lv' := [(3, vI (0 : Int32)), (0, vR 8 (some v0)), (2, vI v2)]) C dX8_stair_184 rfl (by decide) rfl ?_
      refine V_sub (lv' := [(0, vR 8 (some v0)), (2, vI v2), (3, vI (0 : Int32))]) [1, 2, 0] rfl ?_
      exact p_X8_stair_185 C hQ ih N _ _ _ _ hf
def f_X8_stair_142 (N : Nat) : Nat → Hp → Nat → Int32 → Option (Int32 × Hp)
  | 0, _, _, _ => none
  | n + 1, h, v0, v2 => if ((2 : Int32) * (hI h v0 7)) ≤ v2 then (f_X8_stair_175 N N h v0 (0 : Int32)) else (Option.bind (hP h v0 26) (fun q15 => Option.bind (hP h v0 12) (fun q16 => if 0 ≤ v2 ∧ v2.toNatClampNeg < hL h q16 then (lt (hI h q16 (v2.toNatClampNeg)) (fun y18 => if 0 ≤ (9 : Int32) + v2 ∧ ((9 : Int32) + v2).toNatClampNeg < hL h q15 then (lt (sI h q15 (((9 : Int32) + v2).toNatClampNeg) y18) (fun h20 => f_X8_stair_142 N n h20 v0 (v2 + (1 : Int32)))) else none)) else none)))
set_option maxHeartbeats 4000000 in
set_option maxRecDepth 100000 in
theorem p_X8_stair_142 {X : XT} {r : Int32} {h' : Hp} (C : CX X cX8_stair "WaterStairModel" 4 (some .int) rmX8_stair) (hQ : QX X (some (vI r)) h' rmX8_stair.cells rmX8_stair.slots) {N : Nat}  : ∀ (n : Nat) (h : Hp) (v0 : Nat) (v2 : Int32), f_X8_stair_142 N n h v0 v2 = some ((r, h')) → V X 0 0 h 142 [(0, vR 8 (some v0)), (2, vI v2)] [] := by
  intro n
  induction n with
  | zero =>
    intro h v0 v2 hf
    have hf : (none : Option (Int32 × Hp)) = some _ := hf
    cases hf
  | succ n ih =>
    intro h v0 v2 hf
    rw [f_X8_stair_142] at hf
    refine V_iload_n C dX8_stair_142 rfl 1 rfl ?_
    refine V_iconst (v := (2 : Int32)) C dX8_stair_143 (by decide) ?_
    refine V_aload_n C dX8_stair_144 rfl 0 rfl ?_
    refine V_getI C fl_X8_218 rfl dX8_stair_145 ?_
    refine V_imul C dX8_stair_148 ?_
    refine V_icmp_ge C 173 dX8_stair_149 (by decide) (fun c14 => ?_) (fun c14 => ?_)
    · have hf := i_t c14 hf
      refine V_iconst (v := (0 : Int32)) C dX8_stair_173 (by decide) ?_
      refine V_istore_n (lv' := [(2, vI (0 : Int32)), (0, vR 8 (some v0))]) C dX8_stair_174 rfl (by decide) rfl ?_
      refine V_sub (lv' := [(0, vR 8 (some v0)), (2, vI (0 : Int32))]) [1, 0] rfl ?_
      exact p_X8_stair_175 C hQ N _ _ _ hf
    · have hf := i_f c14 hf
      refine V_aload_n C dX8_stair_152 rfl 0 rfl ?_
      obtain ⟨q15, eq15, hf⟩ := o_b hf
      refine V_getR C fl_X8_42 rfl rfl (by decide) eq15 dX8_stair_153 ?_
      refine V_bipush (v := (9 : Int32)) C dX8_stair_156 (by decide) ?_
      refine V_iload_n C dX8_stair_158 rfl 1 rfl ?_
      refine V_iadd C dX8_stair_159 ?_
      refine V_aload_n C dX8_stair_160 rfl 0 rfl ?_
      obtain ⟨q16, eq16, hf⟩ := o_b hf
      refine V_getR C fl_X8_26 rfl rfl (by decide) eq16 dX8_stair_161 ?_
      refine V_iload_n C dX8_stair_164 rfl 1 rfl ?_
      obtain ⟨g17, hf⟩ := o_if hf
      refine V_iald C (vp_g g17) rfl dX8_stair_165 ?_
      obtain ⟨y18, ey18, hf⟩ := o_l hf
      refine V_eqI ey18 ?_
      obtain ⟨g19, hf⟩ := o_if hf
      obtain ⟨h20, eh20, hf⟩ := o_l hf
      refine V_iast C (vp_g g19) rfl dX8_stair_166 (V_eqH eh20 ?_)
      refine V_iinc (lv' := [(2, vI (v2 + (1 : Int32))), (0, vR 8 (some v0))]) C dX8_stair_167 1 rfl (congrArg (v2 + ·) (by decide : Int32.ofInt (1) = (1 : Int32))) (by decide) rfl ?_
      refine V_goto C 142 dX8_stair_170 (by decide) ?_
      refine V_sub (lv' := [(0, vR 8 (some v0)), (2, vI (v2 + (1 : Int32)))]) [1, 0] rfl ?_
      exact ih _ _ _ hf
def f_X8_stair_121 (N : Nat) (h : Hp) (v0 : Nat) (v1 : Int32) (s2_ : Int32) (s1_ : Int32) (s0_ : Nat) : Option (Int32 × Hp) := if 0 ≤ s1_ ∧ s1_.toNatClampNeg < hL h s0_ then (lt (sI h s0_ (s1_.toNatClampNeg) s2_) (fun h22 => Option.bind (hP h22 v0 26) (fun q23 => if 5 < hL h22 q23 then (lt (sI h22 q23 (5) (hI h22 v0 10)) (fun h25 => Option.bind (hP h25 v0 26) (fun q26 => if 7 < hL h25 q26 then (lt (sI h25 q26 (7) v1) (fun h28 => f_X8_stair_142 N N h28 v0 (0 : Int32))) else none))) else none))) else none
set_option maxHeartbeats 4000000 in
set_option maxRecDepth 100000 in
theorem p_X8_stair_121 {X : XT} {r : Int32} {h' : Hp} (C : CX X cX8_stair "WaterStairModel" 4 (some .int) rmX8_stair) (hQ : QX X (some (vI r)) h' rmX8_stair.cells rmX8_stair.slots) {N : Nat}  {h : Hp} {v0 : Nat} {v1 : Int32} {s2_ : Int32} {s1_ : Int32} {s0_ : Nat} (hf : f_X8_stair_121 N h v0 v1 s2_ s1_ s0_ = some ((r, h'))) : V X 0 0 h 121 [(0, vR 8 (some v0)), (1, vI v1)] [vI s2_, vI s1_, vR 10 (some s0_)] := by
  unfold f_X8_stair_121 at hf
  obtain ⟨g21, hf⟩ := o_if hf
  obtain ⟨h22, eh22, hf⟩ := o_l hf
  refine V_iast C (vp_g g21) rfl dX8_stair_121 (V_eqH eh22 ?_)
  refine V_aload_n C dX8_stair_122 rfl 0 rfl ?_
  obtain ⟨q23, eq23, hf⟩ := o_b hf
  refine V_getR C fl_X8_42 rfl rfl (by decide) eq23 dX8_stair_123 ?_
  refine V_iconst (v := (5 : Int32)) C dX8_stair_126 (by decide) ?_
  refine V_aload_n C dX8_stair_127 rfl 0 rfl ?_
  refine V_getI C fl_X8_234 rfl dX8_stair_128 ?_
  obtain ⟨g24, hf⟩ := o_if hf
  obtain ⟨h25, eh25, hf⟩ := o_l hf
  refine V_iast C (vp_k (by decide) (by decide) g24) (by decide : Int32.toNatClampNeg (5 : Int32) = 5) dX8_stair_131 (V_eqH eh25 ?_)
  refine V_aload_n C dX8_stair_132 rfl 0 rfl ?_
  obtain ⟨q26, eq26, hf⟩ := o_b hf
  refine V_getR C fl_X8_42 rfl rfl (by decide) eq26 dX8_stair_133 ?_
  refine V_bipush (v := (7 : Int32)) C dX8_stair_136 (by decide) ?_
  refine V_iload_n C dX8_stair_138 rfl 1 rfl ?_
  obtain ⟨g27, hf⟩ := o_if hf
  obtain ⟨h28, eh28, hf⟩ := o_l hf
  refine V_iast C (vp_k (by decide) (by decide) g27) (by decide : Int32.toNatClampNeg (7 : Int32) = 7) dX8_stair_139 (V_eqH eh28 ?_)
  refine V_iconst (v := (0 : Int32)) C dX8_stair_140 (by decide) ?_
  refine V_istore_n (lv' := [(2, vI (0 : Int32)), (0, vR 8 (some v0)), (1, vI v1)]) C dX8_stair_141 rfl (by decide) rfl ?_
  refine V_sub (lv' := [(0, vR 8 (some v0)), (2, vI (0 : Int32))]) [1, 0] rfl ?_
  exact p_X8_stair_142 C hQ N _ _ _ hf
def f_X8_stair_56 (N : Nat) : Nat → Hp → Nat → Int32 → Int32 → Option (Int32 × Hp)
  | 0, _, _, _, _ => none
  | n + 1, h, v0, v1, v2 => if (93 : Int32) ≤ v2 then (Option.bind (hP h v0 26) (fun q30 => if 0 < hL h q30 then (lt (sI h q30 (0) (hI h v0 7)) (fun h32 => Option.bind (hP h32 v0 26) (fun q33 => if 1 < hL h32 q33 then (lt (sI h32 q33 (1) (hI h32 v0 8)) (fun h35 => Option.bind (hP h35 v0 26) (fun q36 => if 0 ≤ (hI h35 v0 9) then (f_X8_stair_121 N h35 v0 v1 (hI h35 v0 9) (2 : Int32) q36) else (f_X8_stair_121 N h35 v0 v1 (0 : Int32) (2 : Int32) q36)))) else none))) else none)) else (if v2 = (8 : Int32) then (f_X8_stair_75 N (f_X8_stair_56 N n) h v0 v1 v2) else (Option.bind (hP h v0 26) (fun q39 => if 0 ≤ v2 ∧ v2.toNatClampNeg < hL h q39 then (lt (sI h q39 (v2.toNatClampNeg) (0 : Int32)) (fun h41 => f_X8_stair_75 N (f_X8_stair_56 N n) h41 v0 v1 v2)) else none)))
set_option maxHeartbeats 4000000 in
set_option maxRecDepth 100000 in
theorem p_X8_stair_56 {X : XT} {r : Int32} {h' : Hp} (C : CX X cX8_stair "WaterStairModel" 4 (some .int) rmX8_stair) (hQ : QX X (some (vI r)) h' rmX8_stair.cells rmX8_stair.slots) {N : Nat}  : ∀ (n : Nat) (h : Hp) (v0 : Nat) (v1 : Int32) (v2 : Int32), f_X8_stair_56 N n h v0 v1 v2 = some ((r, h')) → V X 0 0 h 56 [(0, vR 8 (some v0)), (1, vI v1), (2, vI v2)] [] := by
  intro n
  induction n with
  | zero =>
    intro h v0 v1 v2 hf
    have hf : (none : Option (Int32 × Hp)) = some _ := hf
    cases hf
  | succ n ih =>
    intro h v0 v1 v2 hf
    rw [f_X8_stair_56] at hf
    refine V_iload_n C dX8_stair_56 rfl 2 rfl ?_
    refine V_bipush (v := (93 : Int32)) C dX8_stair_57 (by decide) ?_
    refine V_icmp_ge C 81 dX8_stair_59 (by decide) (fun c29 => ?_) (fun c29 => ?_)
    · have hf := i_t c29 hf
      refine V_aload_n C dX8_stair_81 rfl 0 rfl ?_
      obtain ⟨q30, eq30, hf⟩ := o_b hf
      refine V_getR C fl_X8_42 rfl rfl (by decide) eq30 dX8_stair_82 ?_
      refine V_iconst (v := (0 : Int32)) C dX8_stair_85 (by decide) ?_
      refine V_aload_n C dX8_stair_86 rfl 0 rfl ?_
      refine V_getI C fl_X8_218 rfl dX8_stair_87 ?_
      obtain ⟨g31, hf⟩ := o_if hf
      obtain ⟨h32, eh32, hf⟩ := o_l hf
      refine V_iast C (vp_k (by decide) (by decide) g31) (by decide : Int32.toNatClampNeg (0 : Int32) = 0) dX8_stair_90 (V_eqH eh32 ?_)
      refine V_aload_n C dX8_stair_91 rfl 0 rfl ?_
      obtain ⟨q33, eq33, hf⟩ := o_b hf
      refine V_getR C fl_X8_42 rfl rfl (by decide) eq33 dX8_stair_92 ?_
      refine V_iconst (v := (1 : Int32)) C dX8_stair_95 (by decide) ?_
      refine V_aload_n C dX8_stair_96 rfl 0 rfl ?_
      refine V_getI C fl_X8_228 rfl dX8_stair_97 ?_
      obtain ⟨g34, hf⟩ := o_if hf
      obtain ⟨h35, eh35, hf⟩ := o_l hf
      refine V_iast C (vp_k (by decide) (by decide) g34) (by decide : Int32.toNatClampNeg (1 : Int32) = 1) dX8_stair_100 (V_eqH eh35 ?_)
      refine V_aload_n C dX8_stair_101 rfl 0 rfl ?_
      obtain ⟨q36, eq36, hf⟩ := o_b hf
      refine V_getR C fl_X8_42 rfl rfl (by decide) eq36 dX8_stair_102 ?_
      refine V_iconst (v := (2 : Int32)) C dX8_stair_105 (by decide) ?_
      refine V_aload_n C dX8_stair_106 rfl 0 rfl ?_
      refine V_getI C fl_X8_225 rfl dX8_stair_107 ?_
      refine V_if_ge C 117 dX8_stair_110 (by decide) (fun c37 => ?_) (fun c37 => ?_)
      · have hf := i_t c37 hf
        refine V_aload_n C dX8_stair_117 rfl 0 rfl ?_
        refine V_getI C fl_X8_225 rfl dX8_stair_118 ?_
        refine V_sub (lv' := [(0, vR 8 (some v0)), (1, vI v1)]) [0, 1] rfl ?_
        exact p_X8_stair_121 C hQ hf
      · have hf := i_f c37 hf
        refine V_iconst (v := (0 : Int32)) C dX8_stair_113 (by decide) ?_
        refine V_goto C 121 dX8_stair_114 (by decide) ?_
        refine V_sub (lv' := [(0, vR 8 (some v0)), (1, vI v1)]) [0, 1] rfl ?_
        exact p_X8_stair_121 C hQ hf
    · have hf := i_f c29 hf
      refine V_iload_n C dX8_stair_62 rfl 2 rfl ?_
      refine V_bipush (v := (8 : Int32)) C dX8_stair_63 (by decide) ?_
      refine V_icmp_eq C 75 dX8_stair_65 (by decide) (fun c38 => ?_) (fun c38 => ?_)
      · have hf := i_t c38 hf
        refine V_sub (lv' := [(0, vR 8 (some v0)), (1, vI v1), (2, vI v2)]) [0, 1, 2] rfl ?_
        exact p_X8_stair_75 C hQ ih hf
      · have hf := i_f c38 hf
        refine V_aload_n C dX8_stair_68 rfl 0 rfl ?_
        obtain ⟨q39, eq39, hf⟩ := o_b hf
        refine V_getR C fl_X8_42 rfl rfl (by decide) eq39 dX8_stair_69 ?_
        refine V_iload_n C dX8_stair_72 rfl 2 rfl ?_
        refine V_iconst (v := (0 : Int32)) C dX8_stair_73 (by decide) ?_
        obtain ⟨g40, hf⟩ := o_if hf
        obtain ⟨h41, eh41, hf⟩ := o_l hf
        refine V_iast C (vp_g g40) rfl dX8_stair_74 (V_eqH eh41 ?_)
        refine V_sub (lv' := [(0, vR 8 (some v0)), (1, vI v1), (2, vI v2)]) [0, 1, 2] rfl ?_
        exact p_X8_stair_75 C hQ ih hf
def f_X8_stair (N : Nat) (h : Hp) (v0 : Nat) : Option (Int32 × Hp) := lt (sI h v0 17 (6 : Int32)) (fun h42 => lt (sI h42 v0 7 (0 : Int32)) (fun h43 => lt (sI h43 v0 8 (0 : Int32)) (fun h44 => lt (sI h44 v0 9 (-1 : Int32)) (fun h45 => lt (sI h45 v0 10 (0 : Int32)) (fun h46 => lt (sI h46 v0 11 (0 : Int32)) (fun h47 => b2 (f_X8_readsAll N h47 v0) (fun r48 h49 => if r48 = 0 then (some (((-2 : Int32) - (hI h49 v0 15), h49))) else (Option.bind (hP h49 v0 26) (fun q51 => if 7 < hL h49 q51 then (f_X8_stair_56 N N h49 v0 (hI h49 q51 (7)) (0 : Int32)) else none)))))))))
set_option maxHeartbeats 4000000 in
set_option maxRecDepth 100000 in
theorem p_X8_stair {X : XT} {r : Int32} {h' : Hp} (C : CX X cX8_stair "WaterStairModel" 4 (some .int) rmX8_stair) {N : Nat} {h : Hp} {v0 : Nat} (hQ : QX X (some (vI r)) h' rmX8_stair.cells rmX8_stair.slots) (hf : f_X8_stair N h v0 = some ((r, h'))) : V X 0 0 h 0 [(0, vR 8 (some v0))] [] := by
  unfold f_X8_stair at hf
  refine V_aload_n C dX8_stair_0 rfl 0 rfl ?_
  refine V_bipush (v := (6 : Int32)) C dX8_stair_1 (by decide) ?_
  obtain ⟨h42, eh42, hf⟩ := o_l hf
  refine V_putI C nf_X8_151 rfl (okI_int _) dX8_stair_3 (V_eqH eh42 ?_)
  refine V_aload_n C dX8_stair_6 rfl 0 rfl ?_
  refine V_iconst (v := (0 : Int32)) C dX8_stair_7 (by decide) ?_
  obtain ⟨h43, eh43, hf⟩ := o_l hf
  refine V_putI C nf_X8_218 rfl (okI_int _) dX8_stair_8 (V_eqH eh43 ?_)
  refine V_aload_n C dX8_stair_11 rfl 0 rfl ?_
  refine V_iconst (v := (0 : Int32)) C dX8_stair_12 (by decide) ?_
  obtain ⟨h44, eh44, hf⟩ := o_l hf
  refine V_putI C nf_X8_228 rfl (okI_int _) dX8_stair_13 (V_eqH eh44 ?_)
  refine V_aload_n C dX8_stair_16 rfl 0 rfl ?_
  refine V_iconst (v := (-1 : Int32)) C dX8_stair_17 (by decide) ?_
  obtain ⟨h45, eh45, hf⟩ := o_l hf
  refine V_putI C nf_X8_225 rfl (okI_int _) dX8_stair_18 (V_eqH eh45 ?_)
  refine V_aload_n C dX8_stair_21 rfl 0 rfl ?_
  refine V_iconst (v := (0 : Int32)) C dX8_stair_22 (by decide) ?_
  obtain ⟨h46, eh46, hf⟩ := o_l hf
  refine V_putI C nf_X8_234 rfl (okI_int _) dX8_stair_23 (V_eqH eh46 ?_)
  refine V_aload_n C dX8_stair_26 rfl 0 rfl ?_
  refine V_iconst (v := (0 : Int32)) C dX8_stair_27 (by decide) ?_
  obtain ⟨h47, eh47, hf⟩ := o_l hf
  refine V_putI C nf_X8_221 rfl (okI_z (Or.inl rfl)) dX8_stair_28 (V_eqH eh47 ?_)
  refine V_aload_n C dX8_stair_31 rfl 0 rfl ?_
  obtain ⟨r48, h49, er48, hf⟩ := o_b2 hf
  refine V_callV (as := []) (st := []) C ml_X8_271 fx8 (ct_X8_readsAll er48) rfl ⟨by decide, by decide, by decide, by decide⟩ (Nat.le_of_ble_eq_true rfl) rfl dX8_stair_32 (cs' := 0) (sl' := 0) rfl rfl ?_
  refine V_if_ne C 46 dX8_stair_35 (by decide) (fun c50 => ?_) (fun c50 => ?_)
  · have hf := i_f c50 hf
    refine V_aload_n C dX8_stair_46 rfl 0 rfl ?_
    obtain ⟨q51, eq51, hf⟩ := o_b hf
    refine V_getR C fl_X8_42 rfl rfl (by decide) eq51 dX8_stair_47 ?_
    refine V_bipush (v := (7 : Int32)) C dX8_stair_50 (by decide) ?_
    obtain ⟨g52, hf⟩ := o_if hf
    refine V_iald C (vp_k (by decide) (by decide) g52) (by decide : Int32.toNatClampNeg (7 : Int32) = 7) dX8_stair_52 ?_
    refine V_istore_n (lv' := [(1, vI (hI h49 q51 (7))), (0, vR 8 (some v0))]) C dX8_stair_53 rfl (by decide) rfl ?_
    refine V_iconst (v := (0 : Int32)) C dX8_stair_54 (by decide) ?_
    refine V_istore_n (lv' := [(2, vI (0 : Int32)), (1, vI (hI h49 q51 (7))), (0, vR 8 (some v0))]) C dX8_stair_55 rfl (by decide) rfl ?_
    refine V_sub (lv' := [(0, vR 8 (some v0)), (1, vI (hI h49 q51 (7))), (2, vI (0 : Int32))]) [2, 1, 0] rfl ?_
    exact p_X8_stair_56 C hQ N _ _ _ _ hf
  · have hf := i_t c50 hf
    refine V_bipush (v := (-2 : Int32)) C dX8_stair_38 (by decide) ?_
    refine V_aload_n C dX8_stair_40 rfl 0 rfl ?_
    refine V_getI C fl_X8_96 rfl dX8_stair_41 ?_
    refine V_isub C dX8_stair_44 ?_
    obtain ⟨hf1, hf2⟩ := Prod.mk.inj (Option.some.inj hf)
    subst hf1
    subst hf2
    exact V_iret C hQ dX8_stair_45
theorem ct_X8_stair {r : Int32} {h' : Hp} {N : Nat} {h : Hp} {v0 : Nat} (hf : f_X8_stair N h v0 = some ((r, h'))) (l : Launch) (G : GT) : MC l G yX8_stair cX8_stair 4 (some .int) rmX8_stair h [vR 8 (some v0)] (some (vI r)) h' := MC_of (by decide) rfl (Nat.le_of_ble_eq_true rfl) rfl (fun X C hQ hin => p_X8_stair C hQ hf)
abbrev rmX8_isRule : Room := { frames := 0, cells := 0, slots := 0, locals := 0 }
def f_X8_isRule (h : Hp) (v0 : Nat) (v1 : Int32) : Option (Int32) := if v1 < 0 then (some (0 : Int32)) else (if (hI h v0 2) ≤ v1 then (some (0 : Int32)) else (some (1 : Int32)))
set_option maxHeartbeats 4000000 in
set_option maxRecDepth 100000 in
theorem p_X8_isRule {X : XT} {r : Int32} (C : CX X cX8_isRule "WaterStairModel" 2 (some .boolean) rmX8_isRule) {h : Hp} {v0 : Nat} {v1 : Int32} (hQ : QX X (some (vI r)) h rmX8_isRule.cells rmX8_isRule.slots) (hf : f_X8_isRule h v0 v1 = some r) : V X 0 0 h 0 [(0, vR 8 (some v0)), (1, vI v1)] [] := by
  unfold f_X8_isRule at hf
  refine V_iload_n C dX8_isRule_0 rfl 1 rfl ?_
  refine V_if_lt C 16 dX8_isRule_1 (by decide) (fun c1 => ?_) (fun c1 => ?_)
  · have hf := i_t c1 hf
    refine V_iconst (v := (0 : Int32)) C dX8_isRule_16 (by decide) ?_
    have hf := Option.some.inj hf
    subst hf
    exact V_zret C (by decide) hQ dX8_isRule_17
  · have hf := i_f c1 hf
    refine V_iload_n C dX8_isRule_4 rfl 1 rfl ?_
    refine V_aload_n C dX8_isRule_5 rfl 0 rfl ?_
    refine V_getI C fl_X8_268 rfl dX8_isRule_6 ?_
    refine V_icmp_ge C 16 dX8_isRule_9 (by decide) (fun c2 => ?_) (fun c2 => ?_)
    · have hf := i_t c2 hf
      refine V_iconst (v := (0 : Int32)) C dX8_isRule_16 (by decide) ?_
      have hf := Option.some.inj hf
      subst hf
      exact V_zret C (by decide) hQ dX8_isRule_17
    · have hf := i_f c2 hf
      refine V_iconst (v := (1 : Int32)) C dX8_isRule_12 (by decide) ?_
      refine V_goto C 17 dX8_isRule_13 (by decide) ?_
      have hf := Option.some.inj hf
      subst hf
      exact V_zret C (by decide) hQ dX8_isRule_17
theorem ct_X8_isRule {r : Int32} {h : Hp} {v0 : Nat} {v1 : Int32} (hf : f_X8_isRule h v0 v1 = some r) (l : Launch) (G : GT) : MC l G yX8_isRule cX8_isRule 2 (some .boolean) rmX8_isRule h [vR 8 (some v0), vI v1] (some (vI r)) h := MC_of (by decide) rfl (Nat.le_of_ble_eq_true rfl) rfl (fun X C hQ hin => p_X8_isRule C hQ hf)
abbrev rmX8_push : Room := { frames := 0, cells := 0, slots := 0, locals := 0 }
def f_X8_push (h : Hp) (v0 : Nat) (v1 : Int64) : Option (Hp) := Option.bind (hP h v0 23) (fun q1 => if 0 ≤ hI h v0 24 ∧ (hI h v0 24).toNatClampNeg < hL h q1 then (lt (sJ h q1 ((hI h v0 24).toNatClampNeg) v1) (fun h3 => lt (sI h3 v0 24 ((hI h3 v0 24) + (1 : Int32))) (fun h4 => some h4))) else none)
set_option maxHeartbeats 4000000 in
set_option maxRecDepth 100000 in
theorem p_X8_push {X : XT} {h' : Hp} (C : CX X cX8_push "WaterStairModel" 3 none rmX8_push) {h : Hp} {v0 : Nat} {v1 : Int64} (hQ : QX X none h' rmX8_push.cells rmX8_push.slots) (hf : f_X8_push h v0 v1 = some h') : V X 0 0 h 0 [(0, vR 8 (some v0)), (1, vL v1)] [] := by
  unfold f_X8_push at hf
  refine V_aload_n C dX8_push_0 rfl 0 rfl ?_
  obtain ⟨q1, eq1, hf⟩ := o_b hf
  refine V_getR C fl_X8_35 rfl rfl (by decide) eq1 dX8_push_1 ?_
  refine V_aload_n C dX8_push_4 rfl 0 rfl ?_
  refine V_getI C fl_X8_277 rfl dX8_push_5 ?_
  refine V_lload_n C dX8_push_8 rfl 1 rfl ?_
  obtain ⟨g2, hf⟩ := o_if hf
  obtain ⟨h3, eh3, hf⟩ := o_l hf
  refine V_last C (vp_g g2) rfl dX8_push_9 (V_eqH eh3 ?_)
  refine V_aload_n C dX8_push_10 rfl 0 rfl ?_
  refine V_dup C dX8_push_11 rfl ?_
  refine V_getI C fl_X8_277 rfl dX8_push_12 ?_
  refine V_iconst (v := (1 : Int32)) C dX8_push_15 (by decide) ?_
  refine V_iadd C dX8_push_16 ?_
  obtain ⟨h4, eh4, hf⟩ := o_l hf
  refine V_putI C nf_X8_277 rfl (okI_int _) dX8_push_17 (V_eqH eh4 ?_)
  have hf := Option.some.inj hf
  subst hf
  exact V_vret C hQ dX8_push_20
theorem ct_X8_push {h' : Hp} {h : Hp} {v0 : Nat} {v1 : Int64} (hf : f_X8_push h v0 v1 = some h') (l : Launch) (G : GT) : MC l G yX8_push cX8_push 3 none rmX8_push h [vR 8 (some v0), vL v1] none h' := MC_of (by decide) rfl (Nat.le_of_ble_eq_true rfl) rfl (fun X C hQ hin => p_X8_push C hQ hf)
abbrev rmX8_pop : Room := { frames := 0, cells := 0, slots := 0, locals := 0 }
def f_X8_pop (h : Hp) (v0 : Nat) : Option (Int64 × Hp) := lt (sI h v0 24 ((hI h v0 24) - (1 : Int32))) (fun h1 => Option.bind (hP h1 v0 23) (fun q2 => if 0 ≤ hI h1 v0 24 ∧ (hI h1 v0 24).toNatClampNeg < hL h1 q2 then (some ((hJ h1 q2 ((hI h1 v0 24).toNatClampNeg), h1))) else none))
set_option maxHeartbeats 4000000 in
set_option maxRecDepth 100000 in
theorem p_X8_pop {X : XT} {r : Int64} {h' : Hp} (C : CX X cX8_pop "WaterStairModel" 1 (some .long) rmX8_pop) {h : Hp} {v0 : Nat} (hQ : QX X (some (vL r)) h' rmX8_pop.cells rmX8_pop.slots) (hf : f_X8_pop h v0 = some ((r, h'))) : V X 0 0 h 0 [(0, vR 8 (some v0))] [] := by
  unfold f_X8_pop at hf
  refine V_aload_n C dX8_pop_0 rfl 0 rfl ?_
  refine V_dup C dX8_pop_1 rfl ?_
  refine V_getI C fl_X8_277 rfl dX8_pop_2 ?_
  refine V_iconst (v := (1 : Int32)) C dX8_pop_5 (by decide) ?_
  refine V_isub C dX8_pop_6 ?_
  obtain ⟨h1, eh1, hf⟩ := o_l hf
  refine V_putI C nf_X8_277 rfl (okI_int _) dX8_pop_7 (V_eqH eh1 ?_)
  refine V_aload_n C dX8_pop_10 rfl 0 rfl ?_
  obtain ⟨q2, eq2, hf⟩ := o_b hf
  refine V_getR C fl_X8_35 rfl rfl (by decide) eq2 dX8_pop_11 ?_
  refine V_aload_n C dX8_pop_14 rfl 0 rfl ?_
  refine V_getI C fl_X8_277 rfl dX8_pop_15 ?_
  obtain ⟨g3, hf⟩ := o_if hf
  refine V_lald C (vp_g g3) rfl dX8_pop_18 ?_
  obtain ⟨hf1, hf2⟩ := Prod.mk.inj (Option.some.inj hf)
  subst hf1
  subst hf2
  exact V_lret C hQ dX8_pop_19
theorem ct_X8_pop {r : Int64} {h' : Hp} {h : Hp} {v0 : Nat} (hf : f_X8_pop h v0 = some ((r, h'))) (l : Launch) (G : GT) : MC l G yX8_pop cX8_pop 1 (some .long) rmX8_pop h [vR 8 (some v0)] (some (vL r)) h' := MC_of (by decide) rfl (Nat.le_of_ble_eq_true rfl) rfl (fun X C hQ hin => p_X8_pop C hQ hf)
abbrev rmX8_one : Room := { frames := 0, cells := 0, slots := 0, locals := 0 }
def f_X8_one (h : Hp) (v0 : Int32) (v1 : Int64) (v3 : Int64) : Option (Int64) := if v0 = (2 : Int32) then (some (v1 + v3)) else if v0 = (3 : Int32) then (some (v1 - v3)) else if v0 = (4 : Int32) then (some (v1 * v3)) else if v0 = (5 : Int32) then (if lg_cmp v3 (0 : Int64) = 0 then (some (0 : Int64)) else (if ¬ v3 = 0 then (some (v1 / v3)) else none)) else if v0 = (6 : Int32) then (if 0 ≤ (lg_cmp v1 v3) then (some (0 : Int64)) else (some (1 : Int64))) else if v0 = (7 : Int32) then (if 0 < (lg_cmp v1 v3) then (some (0 : Int64)) else (some (1 : Int64))) else if v0 = (8 : Int32) then (if lg_cmp v1 v3 = 0 then (some (1 : Int64)) else (some (0 : Int64))) else if v0 = (9 : Int32) then (if (lg_cmp v1 v3) < 0 then (some (0 : Int64)) else (some (1 : Int64))) else if v0 = (10 : Int32) then (if (lg_cmp v1 v3) ≤ 0 then (some (0 : Int64)) else (some (1 : Int64))) else if v0 = (11 : Int32) then (some (v1 ||| v3)) else if v0 = (12 : Int32) then (some (v1 &&& v3)) else (some (v1 ||| v3))
set_option maxHeartbeats 4000000 in
set_option maxRecDepth 100000 in
theorem p_X8_one {X : XT} {r : Int64} (C : CX X cX8_one "WaterStairModel" 5 (some .long) rmX8_one) {h : Hp} {v0 : Int32} {v1 : Int64} {v3 : Int64} (hQ : QX X (some (vL r)) h rmX8_one.cells rmX8_one.slots) (hf : f_X8_one h v0 v1 v3 = some r) : V X 0 0 h 0 [(0, vI v0), (1, vL v1), (3, vL v3)] [] := by
  unfold f_X8_one at hf
  refine V_iload_n C dX8_one_0 rfl 0 rfl ?_
  by_cases c1 : v0 = (2 : Int32)
  · have hf := i_t c1 hf
    refine V_tabIn (off := 59) C 60 dX8_one_1 (by rw [c1]; decide) (by rw [c1]; decide) (by rw [c1]; decide) (by decide) ?_
    refine V_lload_n C dX8_one_60 rfl 1 rfl ?_
    refine V_lload_n C dX8_one_61 rfl 2 rfl ?_
    refine V_ladd C dX8_one_62 ?_
    have hf := Option.some.inj hf
    subst hf
    exact V_lret C hQ dX8_one_63
  have hf := i_f c1 hf
  by_cases c2 : v0 = (3 : Int32)
  · have hf := i_t c2 hf
    refine V_tabIn (off := 63) C 64 dX8_one_1 (by rw [c2]; decide) (by rw [c2]; decide) (by rw [c2]; decide) (by decide) ?_
    refine V_lload_n C dX8_one_64 rfl 1 rfl ?_
    refine V_lload_n C dX8_one_65 rfl 2 rfl ?_
    refine V_lsub C dX8_one_66 ?_
    have hf := Option.some.inj hf
    subst hf
    exact V_lret C hQ dX8_one_67
  have hf := i_f c2 hf
  by_cases c3 : v0 = (4 : Int32)
  · have hf := i_t c3 hf
    refine V_tabIn (off := 67) C 68 dX8_one_1 (by rw [c3]; decide) (by rw [c3]; decide) (by rw [c3]; decide) (by decide) ?_
    refine V_lload_n C dX8_one_68 rfl 1 rfl ?_
    refine V_lload_n C dX8_one_69 rfl 2 rfl ?_
    refine V_lmul C dX8_one_70 ?_
    have hf := Option.some.inj hf
    subst hf
    exact V_lret C hQ dX8_one_71
  have hf := i_f c3 hf
  by_cases c4 : v0 = (5 : Int32)
  · have hf := i_t c4 hf
    refine V_tabIn (off := 71) C 72 dX8_one_1 (by rw [c4]; decide) (by rw [c4]; decide) (by rw [c4]; decide) (by decide) ?_
    refine V_lload_n C dX8_one_72 rfl 2 rfl ?_
    refine V_lconst (v := (0 : Int64)) C dX8_one_73 (by decide) ?_
    refine V_lcmp C dX8_one_74 ?_
    refine V_if_ne C 82 dX8_one_75 (by decide) (fun c5 => ?_) (fun c5 => ?_)
    · have hf := i_f c5 hf
      refine V_lload_n C dX8_one_82 rfl 1 rfl ?_
      refine V_lload_n C dX8_one_83 rfl 2 rfl ?_
      obtain ⟨g6, hf⟩ := o_if hf
      refine V_ldiv C dX8_one_84 g6 ?_
      have hf := Option.some.inj hf
      subst hf
      exact V_lret C hQ dX8_one_85
    · have hf := i_t c5 hf
      refine V_lconst (v := (0 : Int64)) C dX8_one_78 (by decide) ?_
      refine V_goto C 85 dX8_one_79 (by decide) ?_
      have hf := Option.some.inj hf
      subst hf
      exact V_lret C hQ dX8_one_85
  have hf := i_f c4 hf
  by_cases c7 : v0 = (6 : Int32)
  · have hf := i_t c7 hf
    refine V_tabIn (off := 85) C 86 dX8_one_1 (by rw [c7]; decide) (by rw [c7]; decide) (by rw [c7]; decide) (by decide) ?_
    refine V_lload_n C dX8_one_86 rfl 1 rfl ?_
    refine V_lload_n C dX8_one_87 rfl 2 rfl ?_
    refine V_lcmp C dX8_one_88 ?_
    refine V_if_ge C 96 dX8_one_89 (by decide) (fun c8 => ?_) (fun c8 => ?_)
    · have hf := i_t c8 hf
      refine V_lconst (v := (0 : Int64)) C dX8_one_96 (by decide) ?_
      have hf := Option.some.inj hf
      subst hf
      exact V_lret C hQ dX8_one_97
    · have hf := i_f c8 hf
      refine V_lconst (v := (1 : Int64)) C dX8_one_92 (by decide) ?_
      refine V_goto C 97 dX8_one_93 (by decide) ?_
      have hf := Option.some.inj hf
      subst hf
      exact V_lret C hQ dX8_one_97
  have hf := i_f c7 hf
  by_cases c9 : v0 = (7 : Int32)
  · have hf := i_t c9 hf
    refine V_tabIn (off := 97) C 98 dX8_one_1 (by rw [c9]; decide) (by rw [c9]; decide) (by rw [c9]; decide) (by decide) ?_
    refine V_lload_n C dX8_one_98 rfl 1 rfl ?_
    refine V_lload_n C dX8_one_99 rfl 2 rfl ?_
    refine V_lcmp C dX8_one_100 ?_
    refine V_if_gt C 108 dX8_one_101 (by decide) (fun c10 => ?_) (fun c10 => ?_)
    · have hf := i_t c10 hf
      refine V_lconst (v := (0 : Int64)) C dX8_one_108 (by decide) ?_
      have hf := Option.some.inj hf
      subst hf
      exact V_lret C hQ dX8_one_109
    · have hf := i_f c10 hf
      refine V_lconst (v := (1 : Int64)) C dX8_one_104 (by decide) ?_
      refine V_goto C 109 dX8_one_105 (by decide) ?_
      have hf := Option.some.inj hf
      subst hf
      exact V_lret C hQ dX8_one_109
  have hf := i_f c9 hf
  by_cases c11 : v0 = (8 : Int32)
  · have hf := i_t c11 hf
    refine V_tabIn (off := 109) C 110 dX8_one_1 (by rw [c11]; decide) (by rw [c11]; decide) (by rw [c11]; decide) (by decide) ?_
    refine V_lload_n C dX8_one_110 rfl 1 rfl ?_
    refine V_lload_n C dX8_one_111 rfl 2 rfl ?_
    refine V_lcmp C dX8_one_112 ?_
    refine V_if_ne C 120 dX8_one_113 (by decide) (fun c12 => ?_) (fun c12 => ?_)
    · have hf := i_f c12 hf
      refine V_lconst (v := (0 : Int64)) C dX8_one_120 (by decide) ?_
      have hf := Option.some.inj hf
      subst hf
      exact V_lret C hQ dX8_one_121
    · have hf := i_t c12 hf
      refine V_lconst (v := (1 : Int64)) C dX8_one_116 (by decide) ?_
      refine V_goto C 121 dX8_one_117 (by decide) ?_
      have hf := Option.some.inj hf
      subst hf
      exact V_lret C hQ dX8_one_121
  have hf := i_f c11 hf
  by_cases c13 : v0 = (9 : Int32)
  · have hf := i_t c13 hf
    refine V_tabIn (off := 121) C 122 dX8_one_1 (by rw [c13]; decide) (by rw [c13]; decide) (by rw [c13]; decide) (by decide) ?_
    refine V_lload_n C dX8_one_122 rfl 1 rfl ?_
    refine V_lload_n C dX8_one_123 rfl 2 rfl ?_
    refine V_lcmp C dX8_one_124 ?_
    refine V_if_lt C 132 dX8_one_125 (by decide) (fun c14 => ?_) (fun c14 => ?_)
    · have hf := i_t c14 hf
      refine V_lconst (v := (0 : Int64)) C dX8_one_132 (by decide) ?_
      have hf := Option.some.inj hf
      subst hf
      exact V_lret C hQ dX8_one_133
    · have hf := i_f c14 hf
      refine V_lconst (v := (1 : Int64)) C dX8_one_128 (by decide) ?_
      refine V_goto C 133 dX8_one_129 (by decide) ?_
      have hf := Option.some.inj hf
      subst hf
      exact V_lret C hQ dX8_one_133
  have hf := i_f c13 hf
  by_cases c15 : v0 = (10 : Int32)
  · have hf := i_t c15 hf
    refine V_tabIn (off := 133) C 134 dX8_one_1 (by rw [c15]; decide) (by rw [c15]; decide) (by rw [c15]; decide) (by decide) ?_
    refine V_lload_n C dX8_one_134 rfl 1 rfl ?_
    refine V_lload_n C dX8_one_135 rfl 2 rfl ?_
    refine V_lcmp C dX8_one_136 ?_
    refine V_if_le C 144 dX8_one_137 (by decide) (fun c16 => ?_) (fun c16 => ?_)
    · have hf := i_t c16 hf
      refine V_lconst (v := (0 : Int64)) C dX8_one_144 (by decide) ?_
      have hf := Option.some.inj hf
      subst hf
      exact V_lret C hQ dX8_one_145
    · have hf := i_f c16 hf
      refine V_lconst (v := (1 : Int64)) C dX8_one_140 (by decide) ?_
      refine V_goto C 145 dX8_one_141 (by decide) ?_
      have hf := Option.some.inj hf
      subst hf
      exact V_lret C hQ dX8_one_145
  have hf := i_f c15 hf
  by_cases c17 : v0 = (11 : Int32)
  · have hf := i_t c17 hf
    refine V_tabIn (off := 149) C 150 dX8_one_1 (by rw [c17]; decide) (by rw [c17]; decide) (by rw [c17]; decide) (by decide) ?_
    refine V_lload_n C dX8_one_150 rfl 1 rfl ?_
    refine V_lload_n C dX8_one_151 rfl 2 rfl ?_
    refine V_lor C dX8_one_152 ?_
    have hf := Option.some.inj hf
    subst hf
    exact V_lret C hQ dX8_one_153
  have hf := i_f c17 hf
  by_cases c18 : v0 = (12 : Int32)
  · have hf := i_t c18 hf
    refine V_tabIn (off := 145) C 146 dX8_one_1 (by rw [c18]; decide) (by rw [c18]; decide) (by rw [c18]; decide) (by decide) ?_
    refine V_lload_n C dX8_one_146 rfl 1 rfl ?_
    refine V_lload_n C dX8_one_147 rfl 2 rfl ?_
    refine V_land C dX8_one_148 ?_
    have hf := Option.some.inj hf
    subst hf
    exact V_lret C hQ dX8_one_149
  have hf := i_f c18 hf
  refine V_tabOut C 150 dX8_one_1 (tab_o (fun z z1 z2 => ?_)) (by decide) ?_
  · rcases (show z = 2 ∨ z = 3 ∨ z = 4 ∨ z = 5 ∨ z = 6 ∨ z = 7 ∨ z = 8 ∨ z = 9 ∨ z = 10 ∨ z = 11 ∨ z = 12 by omega) with rfl | rfl | rfl | rfl | rfl | rfl | rfl | rfl | rfl | rfl | rfl
    · exact tab_n c1 (by decide)
    · exact tab_n c2 (by decide)
    · exact tab_n c3 (by decide)
    · exact tab_n c4 (by decide)
    · exact tab_n c7 (by decide)
    · exact tab_n c9 (by decide)
    · exact tab_n c11 (by decide)
    · exact tab_n c13 (by decide)
    · exact tab_n c15 (by decide)
    · exact tab_n c17 (by decide)
    · exact tab_n c18 (by decide)
  refine V_lload_n C dX8_one_150 rfl 1 rfl ?_
  refine V_lload_n C dX8_one_151 rfl 2 rfl ?_
  refine V_lor C dX8_one_152 ?_
  have hf := Option.some.inj hf
  subst hf
  exact V_lret C hQ dX8_one_153
theorem ct_X8_one {r : Int64} {h : Hp} {v0 : Int32} {v1 : Int64} {v3 : Int64} (hf : f_X8_one h v0 v1 v3 = some r) (l : Launch) (G : GT) : MC l G yX8_one cX8_one 5 (some .long) rmX8_one h [vI v0, vL v1, vL v3] (some (vL r)) h := MC_of (by decide) rfl (Nat.le_of_ble_eq_true rfl) rfl (fun X C hQ hin => p_X8_one C hQ hf)
abbrev rmX8_reckons : Room := { frames := 1, cells := 0, slots := 0, locals := 24 }
def f_X8_reckons_129 (N : Nat) (s8 : Hp → Nat → Int32 → Int32 → Int32 → Option (Int64 × Hp)) (h : Hp) (v0 : Nat) (v1 : Int32) (v3 : Int32) (v4 : Int32) : Option (Int64 × Hp) := s8 h v0 v1 v3 (v4 + (1 : Int32))
set_option maxHeartbeats 4000000 in
set_option maxRecDepth 100000 in
theorem p_X8_reckons_129 {X : XT} {r : Int64} {h' : Hp} (C : CX X cX8_reckons "WaterStairModel" 11 (some .long) rmX8_reckons) (hQ : QX X (some (vL r)) h' rmX8_reckons.cells rmX8_reckons.slots) {N : Nat} {s8 : Hp → Nat → Int32 → Int32 → Int32 → Option (Int64 × Hp)} (S8 : ∀ (h : Hp) (v0 : Nat) (v1 : Int32) (v3 : Int32) (v4 : Int32), s8 h v0 v1 v3 v4 = some ((r, h')) → V X 0 0 h 8 [(0, vR 8 (some v0)), (1, vI v1), (3, vI v3), (4, vI v4)] []) {h : Hp} {v0 : Nat} {v1 : Int32} {v3 : Int32} {v4 : Int32} (hf : f_X8_reckons_129 N s8 h v0 v1 v3 v4 = some ((r, h'))) : V X 0 0 h 129 [(0, vR 8 (some v0)), (1, vI v1), (3, vI v3), (4, vI v4)] [] := by
  unfold f_X8_reckons_129 at hf
  refine V_iinc (lv' := [(4, vI (v4 + (1 : Int32))), (0, vR 8 (some v0)), (1, vI v1), (3, vI v3)]) C dX8_reckons_129 3 rfl (congrArg (v4 + ·) (by decide : Int32.ofInt (1) = (1 : Int32))) (by decide) rfl ?_
  refine V_goto C 8 dX8_reckons_132 (by decide) ?_
  refine V_sub (lv' := [(0, vR 8 (some v0)), (1, vI v1), (3, vI v3), (4, vI (v4 + (1 : Int32)))]) [1, 2, 3, 0] rfl ?_
  exact S8 _ _ _ _ _ hf
def f_X8_reckons_8 (N : Nat) : Nat → Hp → Nat → Int32 → Int32 → Int32 → Option (Int64 × Hp)
  | 0, _, _, _, _, _ => none
  | n + 1, h, v0, v1, v3, v4 => if v3 ≤ v4 then (b2 (f_X8_pop h v0) (fun r2 h3 => some ((r2, h3)))) else (Option.bind (hP h v0 3) (fun q4 => if 0 ≤ ((400 : Int32) * v1) + v4 ∧ (((400 : Int32) * v1) + v4).toNatClampNeg < hL h q4 then (lt ((hI h q4 ((((400 : Int32) * v1) + v4).toNatClampNeg)) &&& (15 : Int32)) (fun y6 => Option.bind (hP h v0 3) (fun q7 => if 0 ≤ ((400 : Int32) * v1) + v4 ∧ (((400 : Int32) * v1) + v4).toNatClampNeg < hL h q7 then (lt ((hI h q7 ((((400 : Int32) * v1) + v4).toNatClampNeg)) >>> ((4 : Int32) &&& 31)) (fun y9 => if y6 = 0 then (Option.bind (f_X8_push h v0 (y9.toInt64)) (fun h25 => f_X8_reckons_129 N (f_X8_reckons_8 N n) h25 v0 v1 v3 v4)) else (if y6 = (1 : Int32) then (Option.bind (hP h v0 25) (fun q22 => if 0 ≤ y9 ∧ y9.toNatClampNeg < hL h q22 then (Option.bind (f_X8_push h v0 (hJ h q22 (y9.toNatClampNeg))) (fun h24 => f_X8_reckons_129 N (f_X8_reckons_8 N n) h24 v0 v1 v3 v4)) else none)) else (if y6 = (11 : Int32) then (b2 (f_X8_pop h v0) (fun r19 h20 => Option.bind (f_X8_push h20 v0 ((1 : Int64) - r19)) (fun h21 => f_X8_reckons_129 N (f_X8_reckons_8 N n) h21 v0 v1 v3 v4))) else (b2 (f_X8_pop h v0) (fun r13 h14 => b2 (f_X8_pop h14 v0) (fun r15 h16 => Option.bind (f_X8_one h16 y6 r15 r13) (fun r17 => Option.bind (f_X8_push h16 v0 r17) (fun h18 => f_X8_reckons_129 N (f_X8_reckons_8 N n) h18 v0 v1 v3 v4))))))))) else none))) else none))
set_option maxHeartbeats 4000000 in
set_option maxRecDepth 100000 in
theorem p_X8_reckons_8 {X : XT} {r : Int64} {h' : Hp} (C : CX X cX8_reckons "WaterStairModel" 11 (some .long) rmX8_reckons) (hQ : QX X (some (vL r)) h' rmX8_reckons.cells rmX8_reckons.slots) {N : Nat}  : ∀ (n : Nat) (h : Hp) (v0 : Nat) (v1 : Int32) (v3 : Int32) (v4 : Int32), f_X8_reckons_8 N n h v0 v1 v3 v4 = some ((r, h')) → V X 0 0 h 8 [(0, vR 8 (some v0)), (1, vI v1), (3, vI v3), (4, vI v4)] [] := by
  intro n
  induction n with
  | zero =>
    intro h v0 v1 v3 v4 hf
    have hf : (none : Option (Int64 × Hp)) = some _ := hf
    cases hf
  | succ n ih =>
    intro h v0 v1 v3 v4 hf
    rw [f_X8_reckons_8] at hf
    refine V_iload C dX8_reckons_8 3 rfl ?_
    refine V_iload_n C dX8_reckons_10 rfl 2 rfl ?_
    refine V_icmp_ge C 135 dX8_reckons_11 (by decide) (fun c1 => ?_) (fun c1 => ?_)
    · have hf := i_t c1 hf
      refine V_aload_n C dX8_reckons_135 rfl 0 rfl ?_
      obtain ⟨r2, h3, er2, hf⟩ := o_b2 hf
      refine V_callV (as := []) (st := []) C ml_X8_284 fx8 (ct_X8_pop er2) rfl ⟨by decide, by decide, by decide, by decide⟩ (Nat.le_of_ble_eq_true rfl) rfl dX8_reckons_136 (cs' := 0) (sl' := 0) rfl rfl ?_
      obtain ⟨hf1, hf2⟩ := Prod.mk.inj (Option.some.inj hf)
      subst hf1
      subst hf2
      exact V_lret C hQ dX8_reckons_139
    · have hf := i_f c1 hf
      refine V_aload_n C dX8_reckons_14 rfl 0 rfl ?_
      obtain ⟨q4, eq4, hf⟩ := o_b hf
      refine V_getR C fl_X8_13 rfl rfl (by decide) eq4 dX8_reckons_15 ?_
      refine V_sipush (v := (400 : Int32)) C dX8_reckons_18 (by decide) ?_
      refine V_iload_n C dX8_reckons_21 rfl 1 rfl ?_
      refine V_imul C dX8_reckons_22 ?_
      refine V_iload C dX8_reckons_23 3 rfl ?_
      refine V_iadd C dX8_reckons_25 ?_
      obtain ⟨g5, hf⟩ := o_if hf
      refine V_iald C (vp_g g5) rfl dX8_reckons_26 ?_
      refine V_bipush (v := (15 : Int32)) C dX8_reckons_27 (by decide) ?_
      refine V_iand C dX8_reckons_29 ?_
      obtain ⟨y6, ey6, hf⟩ := o_l hf
      refine V_eqI ey6 ?_
      refine V_istore (lv' := [(5, vI y6), (0, vR 8 (some v0)), (1, vI v1), (3, vI v3), (4, vI v4)]) C dX8_reckons_30 (by decide) rfl ?_
      refine V_aload_n C dX8_reckons_32 rfl 1 rfl ?_
      obtain ⟨q7, eq7, hf⟩ := o_b hf
      refine V_getR C fl_X8_13 rfl rfl (by decide) eq7 dX8_reckons_33 ?_
      refine V_sipush (v := (400 : Int32)) C dX8_reckons_36 (by decide) ?_
      refine V_iload_n C dX8_reckons_39 rfl 2 rfl ?_
      refine V_imul C dX8_reckons_40 ?_
      refine V_iload C dX8_reckons_41 4 rfl ?_
      refine V_iadd C dX8_reckons_43 ?_
      obtain ⟨g8, hf⟩ := o_if hf
      refine V_iald C (vp_g g8) rfl dX8_reckons_44 ?_
      refine V_iconst (v := (4 : Int32)) C dX8_reckons_45 (by decide) ?_
      refine V_ishr C dX8_reckons_46 ?_
      obtain ⟨y9, ey9, hf⟩ := o_l hf
      refine V_eqI ey9 ?_
      refine V_istore (lv' := [(6, vI y9), (5, vI y6), (0, vR 8 (some v0)), (1, vI v1), (3, vI v3), (4, vI v4)]) C dX8_reckons_47 (by decide) rfl ?_
      refine V_iload C dX8_reckons_49 1 rfl ?_
      refine V_if_ne C 64 dX8_reckons_51 (by decide) (fun c10 => ?_) (fun c10 => ?_)
      · have hf := i_f c10 hf
        refine V_iload C dX8_reckons_64 1 rfl ?_
        refine V_iconst (v := (1 : Int32)) C dX8_reckons_66 (by decide) ?_
        refine V_icmp_ne C 84 dX8_reckons_67 (by decide) (fun c11 => ?_) (fun c11 => ?_)
        · have hf := i_f c11 hf
          refine V_iload C dX8_reckons_84 1 rfl ?_
          refine V_bipush (v := (11 : Int32)) C dX8_reckons_86 (by decide) ?_
          refine V_icmp_ne C 104 dX8_reckons_88 (by decide) (fun c12 => ?_) (fun c12 => ?_)
          · have hf := i_f c12 hf
            refine V_aload_n C dX8_reckons_104 rfl 2 rfl ?_
            obtain ⟨r13, h14, er13, hf⟩ := o_b2 hf
            refine V_callV (as := []) (st := []) C ml_X8_284 fx8 (ct_X8_pop er13) rfl ⟨by decide, by decide, by decide, by decide⟩ (Nat.le_of_ble_eq_true rfl) rfl dX8_reckons_105 (cs' := 0) (sl' := 0) rfl rfl ?_
            refine V_lstore (lv' := [(7, vL r13), (6, vI y9), (5, vI y6), (0, vR 8 (some v0)), (1, vI v1), (3, vI v3), (4, vI v4)]) C dX8_reckons_108 (by decide) rfl ?_
            refine V_aload_n C dX8_reckons_110 rfl 3 rfl ?_
            obtain ⟨r15, h16, er15, hf⟩ := o_b2 hf
            refine V_callV (as := []) (st := []) C ml_X8_284 fx8 (ct_X8_pop er15) rfl ⟨by decide, by decide, by decide, by decide⟩ (Nat.le_of_ble_eq_true rfl) rfl dX8_reckons_111 (cs' := 0) (sl' := 0) rfl rfl ?_
            refine V_lstore (lv' := [(9, vL r15), (7, vL r13), (6, vI y9), (5, vI y6), (0, vR 8 (some v0)), (1, vI v1), (3, vI v3), (4, vI v4)]) C dX8_reckons_114 (by decide) rfl ?_
            refine V_aload_n C dX8_reckons_116 rfl 4 rfl ?_
            refine V_iload C dX8_reckons_117 3 rfl ?_
            refine V_lload C dX8_reckons_119 0 rfl ?_
            refine V_lload C dX8_reckons_121 1 rfl ?_
            obtain ⟨r17, er17, hf⟩ := o_b hf
            refine V_callS (as := [vI y6, vL r15, vL r13]) (st := [vR 8 (some v0)]) C ml_X8_288 (ct_X8_one er17) rfl ⟨by decide, by decide, by decide, by decide⟩ (Nat.le_of_ble_eq_true rfl) rfl dX8_reckons_123 (cs' := 0) (sl' := 0) rfl rfl ?_
            obtain ⟨h18, eh18, hf⟩ := o_b hf
            refine V_callV (as := [vL r17]) (st := []) C ml_X8_280 fx8 (ct_X8_push eh18) rfl ⟨by decide, by decide, by decide, by decide⟩ (Nat.le_of_ble_eq_true rfl) rfl dX8_reckons_126 (cs' := 0) (sl' := 0) rfl rfl ?_
            refine V_sub (lv' := [(0, vR 8 (some v0)), (1, vI v1), (3, vI v3), (4, vI v4)]) [4, 5, 6, 7] rfl ?_
            exact p_X8_reckons_129 C hQ ih hf
          · have hf := i_t c12 hf
            refine V_aload_n C dX8_reckons_91 rfl 2 rfl ?_
            refine V_lconst (v := (1 : Int64)) C dX8_reckons_92 (by decide) ?_
            refine V_aload_n C dX8_reckons_93 rfl 2 rfl ?_
            obtain ⟨r19, h20, er19, hf⟩ := o_b2 hf
            refine V_callV (as := []) (st := [vL (1 : Int64), vR 8 (some v0)]) C ml_X8_284 fx8 (ct_X8_pop er19) rfl ⟨by decide, by decide, by decide, by decide⟩ (Nat.le_of_ble_eq_true rfl) rfl dX8_reckons_94 (cs' := 0) (sl' := 0) rfl rfl ?_
            refine V_lsub C dX8_reckons_97 ?_
            obtain ⟨h21, eh21, hf⟩ := o_b hf
            refine V_callV (as := [vL ((1 : Int64) - r19)]) (st := []) C ml_X8_280 fx8 (ct_X8_push eh21) rfl ⟨by decide, by decide, by decide, by decide⟩ (Nat.le_of_ble_eq_true rfl) rfl dX8_reckons_98 (cs' := 0) (sl' := 0) rfl rfl ?_
            refine V_goto C 129 dX8_reckons_101 (by decide) ?_
            refine V_sub (lv' := [(0, vR 8 (some v0)), (1, vI v1), (3, vI v3), (4, vI v4)]) [2, 3, 4, 5] rfl ?_
            exact p_X8_reckons_129 C hQ ih hf
        · have hf := i_t c11 hf
          refine V_aload_n C dX8_reckons_70 rfl 2 rfl ?_
          refine V_aload_n C dX8_reckons_71 rfl 2 rfl ?_
          obtain ⟨q22, eq22, hf⟩ := o_b hf
          refine V_getR C fl_X8_39 rfl rfl (by decide) eq22 dX8_reckons_72 ?_
          refine V_iload C dX8_reckons_75 0 rfl ?_
          obtain ⟨g23, hf⟩ := o_if hf
          refine V_lald C (vp_g g23) rfl dX8_reckons_77 ?_
          obtain ⟨h24, eh24, hf⟩ := o_b hf
          refine V_callV (as := [vL (hJ h q22 (y9.toNatClampNeg))]) (st := []) C ml_X8_280 fx8 (ct_X8_push eh24) rfl ⟨by decide, by decide, by decide, by decide⟩ (Nat.le_of_ble_eq_true rfl) rfl dX8_reckons_78 (cs' := 0) (sl' := 0) rfl rfl ?_
          refine V_goto C 129 dX8_reckons_81 (by decide) ?_
          refine V_sub (lv' := [(0, vR 8 (some v0)), (1, vI v1), (3, vI v3), (4, vI v4)]) [2, 3, 4, 5] rfl ?_
          exact p_X8_reckons_129 C hQ ih hf
      · have hf := i_t c10 hf
        refine V_aload_n C dX8_reckons_54 rfl 2 rfl ?_
        refine V_iload C dX8_reckons_55 0 rfl ?_
        refine V_i2l C dX8_reckons_57 ?_
        obtain ⟨h25, eh25, hf⟩ := o_b hf
        refine V_callV (as := [vL (y9.toInt64)]) (st := []) C ml_X8_280 fx8 (ct_X8_push eh25) rfl ⟨by decide, by decide, by decide, by decide⟩ (Nat.le_of_ble_eq_true rfl) rfl dX8_reckons_58 (cs' := 0) (sl' := 0) rfl rfl ?_
        refine V_goto C 129 dX8_reckons_61 (by decide) ?_
        refine V_sub (lv' := [(0, vR 8 (some v0)), (1, vI v1), (3, vI v3), (4, vI v4)]) [2, 3, 4, 5] rfl ?_
        exact p_X8_reckons_129 C hQ ih hf
def f_X8_reckons (N : Nat) (h : Hp) (v0 : Nat) (v1 : Int32) (v2 : Int32) (v3 : Int32) : Option (Int64 × Hp) := lt (sI h v0 24 (0 : Int32)) (fun h26 => f_X8_reckons_8 N N h26 v0 v1 v3 v2)
set_option maxHeartbeats 4000000 in
set_option maxRecDepth 100000 in
theorem p_X8_reckons {X : XT} {r : Int64} {h' : Hp} (C : CX X cX8_reckons "WaterStairModel" 11 (some .long) rmX8_reckons) {N : Nat} {h : Hp} {v0 : Nat} {v1 : Int32} {v2 : Int32} {v3 : Int32} (hQ : QX X (some (vL r)) h' rmX8_reckons.cells rmX8_reckons.slots) (hf : f_X8_reckons N h v0 v1 v2 v3 = some ((r, h'))) : V X 0 0 h 0 [(0, vR 8 (some v0)), (1, vI v1), (2, vI v2), (3, vI v3)] [] := by
  unfold f_X8_reckons at hf
  refine V_aload_n C dX8_reckons_0 rfl 0 rfl ?_
  refine V_iconst (v := (0 : Int32)) C dX8_reckons_1 (by decide) ?_
  obtain ⟨h26, eh26, hf⟩ := o_l hf
  refine V_putI C nf_X8_277 rfl (okI_int _) dX8_reckons_2 (V_eqH eh26 ?_)
  refine V_iload_n C dX8_reckons_5 rfl 2 rfl ?_
  refine V_istore (lv' := [(4, vI v2), (0, vR 8 (some v0)), (1, vI v1), (2, vI v2), (3, vI v3)]) C dX8_reckons_6 (by decide) rfl ?_
  refine V_sub (lv' := [(0, vR 8 (some v0)), (1, vI v1), (3, vI v3), (4, vI v2)]) [1, 2, 4, 0] rfl ?_
  exact p_X8_reckons_8 C hQ N _ _ _ _ _ hf
theorem ct_X8_reckons {r : Int64} {h' : Hp} {N : Nat} {h : Hp} {v0 : Nat} {v1 : Int32} {v2 : Int32} {v3 : Int32} (hf : f_X8_reckons N h v0 v1 v2 v3 = some ((r, h'))) (l : Launch) (G : GT) : MC l G yX8_reckons cX8_reckons 11 (some .long) rmX8_reckons h [vR 8 (some v0), vI v1, vI v2, vI v3] (some (vL r)) h' := MC_of (by decide) rfl (Nat.le_of_ble_eq_true rfl) rfl (fun X C hQ hin => p_X8_reckons C hQ hf)
abbrev rmX8_isLevel : Room := { frames := 0, cells := 0, slots := 0, locals := 0 }
def f_X8_isLevel (h : Hp) (v0 : Nat) (v1 : Int32) : Option (Int32) := if v1 < 0 then (some (0 : Int32)) else (Option.bind (hP h v0 26) (fun q2 => if 0 < hL h q2 then (if (hI h q2 (0)) ≤ v1 then (some (0 : Int32)) else (some (1 : Int32))) else none))
set_option maxHeartbeats 4000000 in
set_option maxRecDepth 100000 in
theorem p_X8_isLevel {X : XT} {r : Int32} (C : CX X cX8_isLevel "WaterStairModel" 2 (some .boolean) rmX8_isLevel) {h : Hp} {v0 : Nat} {v1 : Int32} (hQ : QX X (some (vI r)) h rmX8_isLevel.cells rmX8_isLevel.slots) (hf : f_X8_isLevel h v0 v1 = some r) : V X 0 0 h 0 [(0, vR 8 (some v0)), (1, vI v1)] [] := by
  unfold f_X8_isLevel at hf
  refine V_iload_n C dX8_isLevel_0 rfl 1 rfl ?_
  refine V_if_lt C 18 dX8_isLevel_1 (by decide) (fun c1 => ?_) (fun c1 => ?_)
  · have hf := i_t c1 hf
    refine V_iconst (v := (0 : Int32)) C dX8_isLevel_18 (by decide) ?_
    have hf := Option.some.inj hf
    subst hf
    exact V_zret C (by decide) hQ dX8_isLevel_19
  · have hf := i_f c1 hf
    refine V_iload_n C dX8_isLevel_4 rfl 1 rfl ?_
    refine V_aload_n C dX8_isLevel_5 rfl 0 rfl ?_
    obtain ⟨q2, eq2, hf⟩ := o_b hf
    refine V_getR C fl_X8_42 rfl rfl (by decide) eq2 dX8_isLevel_6 ?_
    refine V_iconst (v := (0 : Int32)) C dX8_isLevel_9 (by decide) ?_
    obtain ⟨g3, hf⟩ := o_if hf
    refine V_iald C (vp_k (by decide) (by decide) g3) (by decide : Int32.toNatClampNeg (0 : Int32) = 0) dX8_isLevel_10 ?_
    refine V_icmp_ge C 18 dX8_isLevel_11 (by decide) (fun c4 => ?_) (fun c4 => ?_)
    · have hf := i_t c4 hf
      refine V_iconst (v := (0 : Int32)) C dX8_isLevel_18 (by decide) ?_
      have hf := Option.some.inj hf
      subst hf
      exact V_zret C (by decide) hQ dX8_isLevel_19
    · have hf := i_f c4 hf
      refine V_iconst (v := (1 : Int32)) C dX8_isLevel_14 (by decide) ?_
      refine V_goto C 19 dX8_isLevel_15 (by decide) ?_
      have hf := Option.some.inj hf
      subst hf
      exact V_zret C (by decide) hQ dX8_isLevel_19
theorem ct_X8_isLevel {r : Int32} {h : Hp} {v0 : Nat} {v1 : Int32} (hf : f_X8_isLevel h v0 v1 = some r) (l : Launch) (G : GT) : MC l G yX8_isLevel cX8_isLevel 2 (some .boolean) rmX8_isLevel h [vR 8 (some v0), vI v1] (some (vI r)) h := MC_of (by decide) rfl (Nat.le_of_ble_eq_true rfl) rfl (fun X C hQ hin => p_X8_isLevel C hQ hf)
abbrev rmX8_isStep : Room := { frames := 0, cells := 0, slots := 0, locals := 0 }
def f_X8_isStep (h : Hp) (v0 : Nat) (v1 : Int32) : Option (Int32) := if v1 < 0 then (some (0 : Int32)) else (Option.bind (hP h v0 26) (fun q2 => if 0 < hL h q2 then (if ((hI h q2 (0)) - (1 : Int32)) ≤ v1 then (some (0 : Int32)) else (some (1 : Int32))) else none))
set_option maxHeartbeats 4000000 in
set_option maxRecDepth 100000 in
theorem p_X8_isStep {X : XT} {r : Int32} (C : CX X cX8_isStep "WaterStairModel" 2 (some .boolean) rmX8_isStep) {h : Hp} {v0 : Nat} {v1 : Int32} (hQ : QX X (some (vI r)) h rmX8_isStep.cells rmX8_isStep.slots) (hf : f_X8_isStep h v0 v1 = some r) : V X 0 0 h 0 [(0, vR 8 (some v0)), (1, vI v1)] [] := by
  unfold f_X8_isStep at hf
  refine V_iload_n C dX8_isStep_0 rfl 1 rfl ?_
  refine V_if_lt C 20 dX8_isStep_1 (by decide) (fun c1 => ?_) (fun c1 => ?_)
  · have hf := i_t c1 hf
    refine V_iconst (v := (0 : Int32)) C dX8_isStep_20 (by decide) ?_
    have hf := Option.some.inj hf
    subst hf
    exact V_zret C (by decide) hQ dX8_isStep_21
  · have hf := i_f c1 hf
    refine V_iload_n C dX8_isStep_4 rfl 1 rfl ?_
    refine V_aload_n C dX8_isStep_5 rfl 0 rfl ?_
    obtain ⟨q2, eq2, hf⟩ := o_b hf
    refine V_getR C fl_X8_42 rfl rfl (by decide) eq2 dX8_isStep_6 ?_
    refine V_iconst (v := (0 : Int32)) C dX8_isStep_9 (by decide) ?_
    obtain ⟨g3, hf⟩ := o_if hf
    refine V_iald C (vp_k (by decide) (by decide) g3) (by decide : Int32.toNatClampNeg (0 : Int32) = 0) dX8_isStep_10 ?_
    refine V_iconst (v := (1 : Int32)) C dX8_isStep_11 (by decide) ?_
    refine V_isub C dX8_isStep_12 ?_
    refine V_icmp_ge C 20 dX8_isStep_13 (by decide) (fun c4 => ?_) (fun c4 => ?_)
    · have hf := i_t c4 hf
      refine V_iconst (v := (0 : Int32)) C dX8_isStep_20 (by decide) ?_
      have hf := Option.some.inj hf
      subst hf
      exact V_zret C (by decide) hQ dX8_isStep_21
    · have hf := i_f c4 hf
      refine V_iconst (v := (1 : Int32)) C dX8_isStep_16 (by decide) ?_
      refine V_goto C 21 dX8_isStep_17 (by decide) ?_
      have hf := Option.some.inj hf
      subst hf
      exact V_zret C (by decide) hQ dX8_isStep_21
theorem ct_X8_isStep {r : Int32} {h : Hp} {v0 : Nat} {v1 : Int32} (hf : f_X8_isStep h v0 v1 = some r) (l : Launch) (G : GT) : MC l G yX8_isStep cX8_isStep 2 (some .boolean) rmX8_isStep h [vR 8 (some v0), vI v1] (some (vI r)) h := MC_of (by decide) rfl (Nat.le_of_ble_eq_true rfl) rfl (fun X C hQ hin => p_X8_isStep C hQ hf)
abbrev rmX8_isBarge : Room := { frames := 0, cells := 0, slots := 0, locals := 0 }
def f_X8_isBarge (h : Hp) (v0 : Nat) (v1 : Int32) : Option (Int32) := if v1 < 0 then (some (0 : Int32)) else (Option.bind (hP h v0 26) (fun q2 => if 1 < hL h q2 then (if (hI h q2 (1)) ≤ v1 then (some (0 : Int32)) else (some (1 : Int32))) else none))
set_option maxHeartbeats 4000000 in
set_option maxRecDepth 100000 in
theorem p_X8_isBarge {X : XT} {r : Int32} (C : CX X cX8_isBarge "WaterStairModel" 2 (some .boolean) rmX8_isBarge) {h : Hp} {v0 : Nat} {v1 : Int32} (hQ : QX X (some (vI r)) h rmX8_isBarge.cells rmX8_isBarge.slots) (hf : f_X8_isBarge h v0 v1 = some r) : V X 0 0 h 0 [(0, vR 8 (some v0)), (1, vI v1)] [] := by
  unfold f_X8_isBarge at hf
  refine V_iload_n C dX8_isBarge_0 rfl 1 rfl ?_
  refine V_if_lt C 18 dX8_isBarge_1 (by decide) (fun c1 => ?_) (fun c1 => ?_)
  · have hf := i_t c1 hf
    refine V_iconst (v := (0 : Int32)) C dX8_isBarge_18 (by decide) ?_
    have hf := Option.some.inj hf
    subst hf
    exact V_zret C (by decide) hQ dX8_isBarge_19
  · have hf := i_f c1 hf
    refine V_iload_n C dX8_isBarge_4 rfl 1 rfl ?_
    refine V_aload_n C dX8_isBarge_5 rfl 0 rfl ?_
    obtain ⟨q2, eq2, hf⟩ := o_b hf
    refine V_getR C fl_X8_42 rfl rfl (by decide) eq2 dX8_isBarge_6 ?_
    refine V_iconst (v := (1 : Int32)) C dX8_isBarge_9 (by decide) ?_
    obtain ⟨g3, hf⟩ := o_if hf
    refine V_iald C (vp_k (by decide) (by decide) g3) (by decide : Int32.toNatClampNeg (1 : Int32) = 1) dX8_isBarge_10 ?_
    refine V_icmp_ge C 18 dX8_isBarge_11 (by decide) (fun c4 => ?_) (fun c4 => ?_)
    · have hf := i_t c4 hf
      refine V_iconst (v := (0 : Int32)) C dX8_isBarge_18 (by decide) ?_
      have hf := Option.some.inj hf
      subst hf
      exact V_zret C (by decide) hQ dX8_isBarge_19
    · have hf := i_f c4 hf
      refine V_iconst (v := (1 : Int32)) C dX8_isBarge_14 (by decide) ?_
      refine V_goto C 19 dX8_isBarge_15 (by decide) ?_
      have hf := Option.some.inj hf
      subst hf
      exact V_zret C (by decide) hQ dX8_isBarge_19
theorem ct_X8_isBarge {r : Int32} {h : Hp} {v0 : Nat} {v1 : Int32} (hf : f_X8_isBarge h v0 v1 = some r) (l : Launch) (G : GT) : MC l G yX8_isBarge cX8_isBarge 2 (some .boolean) rmX8_isBarge h [vR 8 (some v0), vI v1] (some (vI r)) h := MC_of (by decide) rfl (Nat.le_of_ble_eq_true rfl) rfl (fun X C hQ hin => p_X8_isBarge C hQ hf)
abbrev rmX8_isNamed : Room := { frames := 1, cells := 0, slots := 0, locals := 21 }
def f_X8_isNamed (h : Hp) (v0 : Nat) (v1 : Int32) : Option (Int32) := if v1 = (-1 : Int32) then (some (1 : Int32)) else (Option.bind (f_X8_isBarge h v0 v1) (fun r2 => if r2 = 0 then (some (0 : Int32)) else (some (1 : Int32))))
set_option maxHeartbeats 4000000 in
set_option maxRecDepth 100000 in
theorem p_X8_isNamed {X : XT} {r : Int32} (C : CX X cX8_isNamed "WaterStairModel" 2 (some .boolean) rmX8_isNamed) {h : Hp} {v0 : Nat} {v1 : Int32} (hQ : QX X (some (vI r)) h rmX8_isNamed.cells rmX8_isNamed.slots) (hf : f_X8_isNamed h v0 v1 = some r) : V X 0 0 h 0 [(0, vR 8 (some v0)), (1, vI v1)] [] := by
  unfold f_X8_isNamed at hf
  refine V_iload_n C dX8_isNamed_0 rfl 1 rfl ?_
  refine V_iconst (v := (-1 : Int32)) C dX8_isNamed_1 (by decide) ?_
  refine V_icmp_eq C 13 dX8_isNamed_2 (by decide) (fun c1 => ?_) (fun c1 => ?_)
  · have hf := i_t c1 hf
    refine V_iconst (v := (1 : Int32)) C dX8_isNamed_13 (by decide) ?_
    refine V_goto C 18 dX8_isNamed_14 (by decide) ?_
    have hf := Option.some.inj hf
    subst hf
    exact V_zret C (by decide) hQ dX8_isNamed_18
  · have hf := i_f c1 hf
    refine V_aload_n C dX8_isNamed_5 rfl 0 rfl ?_
    refine V_iload_n C dX8_isNamed_6 rfl 1 rfl ?_
    obtain ⟨r2, er2, hf⟩ := o_b hf
    refine V_callV (as := [vI v1]) (st := []) C ml_X8_292 fx8 (ct_X8_isBarge er2) rfl ⟨by decide, by decide, by decide, by decide⟩ (Nat.le_of_ble_eq_true rfl) rfl dX8_isNamed_7 (cs' := 0) (sl' := 0) rfl rfl ?_
    refine V_if_eq C 17 dX8_isNamed_10 (by decide) (fun c3 => ?_) (fun c3 => ?_)
    · have hf := i_t c3 hf
      refine V_iconst (v := (0 : Int32)) C dX8_isNamed_17 (by decide) ?_
      have hf := Option.some.inj hf
      subst hf
      exact V_zret C (by decide) hQ dX8_isNamed_18
    · have hf := i_f c3 hf
      refine V_iconst (v := (1 : Int32)) C dX8_isNamed_13 (by decide) ?_
      refine V_goto C 18 dX8_isNamed_14 (by decide) ?_
      have hf := Option.some.inj hf
      subst hf
      exact V_zret C (by decide) hQ dX8_isNamed_18
theorem ct_X8_isNamed {r : Int32} {h : Hp} {v0 : Nat} {v1 : Int32} (hf : f_X8_isNamed h v0 v1 = some r) (l : Launch) (G : GT) : MC l G yX8_isNamed cX8_isNamed 2 (some .boolean) rmX8_isNamed h [vR 8 (some v0), vI v1] (some (vI r)) h := MC_of (by decide) rfl (Nat.le_of_ble_eq_true rfl) rfl (fun X C hQ hin => p_X8_isNamed C hQ hf)
abbrev rmX8_waterOf : Room := { frames := 0, cells := 0, slots := 0, locals := 0 }
def f_X8_waterOf (h : Hp) (v0 : Nat) (v1 : Int32) : Option (Int32) := Option.bind (hP h v0 26) (fun q1 => if 0 ≤ (9 : Int32) + ((2 : Int32) * v1) ∧ ((9 : Int32) + ((2 : Int32) * v1)).toNatClampNeg < hL h q1 then (some (hI h q1 (((9 : Int32) + ((2 : Int32) * v1)).toNatClampNeg))) else none)
set_option maxHeartbeats 4000000 in
set_option maxRecDepth 100000 in
theorem p_X8_waterOf {X : XT} {r : Int32} (C : CX X cX8_waterOf "WaterStairModel" 2 (some .int) rmX8_waterOf) {h : Hp} {v0 : Nat} {v1 : Int32} (hQ : QX X (some (vI r)) h rmX8_waterOf.cells rmX8_waterOf.slots) (hf : f_X8_waterOf h v0 v1 = some r) : V X 0 0 h 0 [(0, vR 8 (some v0)), (1, vI v1)] [] := by
  unfold f_X8_waterOf at hf
  refine V_aload_n C dX8_waterOf_0 rfl 0 rfl ?_
  obtain ⟨q1, eq1, hf⟩ := o_b hf
  refine V_getR C fl_X8_42 rfl rfl (by decide) eq1 dX8_waterOf_1 ?_
  refine V_bipush (v := (9 : Int32)) C dX8_waterOf_4 (by decide) ?_
  refine V_iconst (v := (2 : Int32)) C dX8_waterOf_6 (by decide) ?_
  refine V_iload_n C dX8_waterOf_7 rfl 1 rfl ?_
  refine V_imul C dX8_waterOf_8 ?_
  refine V_iadd C dX8_waterOf_9 ?_
  obtain ⟨g2, hf⟩ := o_if hf
  refine V_iald C (vp_g g2) rfl dX8_waterOf_10 ?_
  have hf := Option.some.inj hf
  subst hf
  exact V_iret C hQ dX8_waterOf_11
theorem ct_X8_waterOf {r : Int32} {h : Hp} {v0 : Nat} {v1 : Int32} (hf : f_X8_waterOf h v0 v1 = some r) (l : Launch) (G : GT) : MC l G yX8_waterOf cX8_waterOf 2 (some .int) rmX8_waterOf h [vR 8 (some v0), vI v1] (some (vI r)) h := MC_of (by decide) rfl (Nat.le_of_ble_eq_true rfl) rfl (fun X C hQ hin => p_X8_waterOf C hQ hf)
abbrev rmX8_isHome : Room := { frames := 1, cells := 0, slots := 0, locals := 22 }
def f_X8_isHome_27 (h : Hp) (s1_ : Int32) (s0_ : Int32) : Option (Int32) := if s0_ = s1_ then (some (1 : Int32)) else (some (0 : Int32))
set_option maxHeartbeats 4000000 in
set_option maxRecDepth 100000 in
theorem p_X8_isHome_27 {X : XT} {r : Int32} {h : Hp} (C : CX X cX8_isHome "WaterStairModel" 2 (some .boolean) rmX8_isHome) (hQ : QX X (some (vI r)) h rmX8_isHome.cells rmX8_isHome.slots)   {s1_ : Int32} {s0_ : Int32} (hf : f_X8_isHome_27 h s1_ s0_ = some r) : V X 0 0 h 27 [] [vI s1_, vI s0_] := by
  unfold f_X8_isHome_27 at hf
  refine V_icmp_ne C 34 dX8_isHome_27 (by decide) (fun c1 => ?_) (fun c1 => ?_)
  · have hf := i_f c1 hf
    refine V_iconst (v := (0 : Int32)) C dX8_isHome_34 (by decide) ?_
    have hf := Option.some.inj hf
    subst hf
    exact V_zret C (by decide) hQ dX8_isHome_35
  · have hf := i_t c1 hf
    refine V_iconst (v := (1 : Int32)) C dX8_isHome_30 (by decide) ?_
    refine V_goto C 35 dX8_isHome_31 (by decide) ?_
    have hf := Option.some.inj hf
    subst hf
    exact V_zret C (by decide) hQ dX8_isHome_35
def f_X8_isHome (h : Hp) (v0 : Nat) (v1 : Int32) : Option (Int32) := Option.bind (f_X8_bargeOf h v0 v1 (4 : Int32)) (fun r2 => Option.bind (f_X8_bargeOf h v0 v1 (2 : Int32)) (fun r3 => if r3 = 0 then (Option.bind (hP h v0 26) (fun q5 => if 0 < hL h q5 then (f_X8_isHome_27 h ((hI h q5 (0)) - (1 : Int32)) r2) else none)) else (f_X8_isHome_27 h (0 : Int32) r2)))
set_option maxHeartbeats 4000000 in
set_option maxRecDepth 100000 in
theorem p_X8_isHome {X : XT} {r : Int32} (C : CX X cX8_isHome "WaterStairModel" 2 (some .boolean) rmX8_isHome) {h : Hp} {v0 : Nat} {v1 : Int32} (hQ : QX X (some (vI r)) h rmX8_isHome.cells rmX8_isHome.slots) (hf : f_X8_isHome h v0 v1 = some r) : V X 0 0 h 0 [(0, vR 8 (some v0)), (1, vI v1)] [] := by
  unfold f_X8_isHome at hf
  refine V_aload_n C dX8_isHome_0 rfl 0 rfl ?_
  refine V_iload_n C dX8_isHome_1 rfl 1 rfl ?_
  refine V_iconst (v := (4 : Int32)) C dX8_isHome_2 (by decide) ?_
  obtain ⟨r2, er2, hf⟩ := o_b hf
  refine V_callV (as := [vI v1, vI (4 : Int32)]) (st := []) C ml_X8_295 fx8 (ct_X8_bargeOf er2) rfl ⟨by decide, by decide, by decide, by decide⟩ (Nat.le_of_ble_eq_true rfl) rfl dX8_isHome_3 (cs' := 0) (sl' := 0) rfl rfl ?_
  refine V_aload_n C dX8_isHome_6 rfl 0 rfl ?_
  refine V_iload_n C dX8_isHome_7 rfl 1 rfl ?_
  refine V_iconst (v := (2 : Int32)) C dX8_isHome_8 (by decide) ?_
  obtain ⟨r3, er3, hf⟩ := o_b hf
  refine V_callV (as := [vI v1, vI (2 : Int32)]) (st := [vI r2]) C ml_X8_295 fx8 (ct_X8_bargeOf er3) rfl ⟨by decide, by decide, by decide, by decide⟩ (Nat.le_of_ble_eq_true rfl) rfl dX8_isHome_9 (cs' := 0) (sl' := 0) rfl rfl ?_
  refine V_if_ne C 26 dX8_isHome_12 (by decide) (fun c4 => ?_) (fun c4 => ?_)
  · have hf := i_f c4 hf
    refine V_iconst (v := (0 : Int32)) C dX8_isHome_26 (by decide) ?_
    refine V_sub (lv' := []) [] rfl ?_
    exact p_X8_isHome_27 C hQ hf
  · have hf := i_t c4 hf
    refine V_aload_n C dX8_isHome_15 rfl 0 rfl ?_
    obtain ⟨q5, eq5, hf⟩ := o_b hf
    refine V_getR C fl_X8_42 rfl rfl (by decide) eq5 dX8_isHome_16 ?_
    refine V_iconst (v := (0 : Int32)) C dX8_isHome_19 (by decide) ?_
    obtain ⟨g6, hf⟩ := o_if hf
    refine V_iald C (vp_k (by decide) (by decide) g6) (by decide : Int32.toNatClampNeg (0 : Int32) = 0) dX8_isHome_20 ?_
    refine V_iconst (v := (1 : Int32)) C dX8_isHome_21 (by decide) ?_
    refine V_isub C dX8_isHome_22 ?_
    refine V_goto C 27 dX8_isHome_23 (by decide) ?_
    refine V_sub (lv' := []) [] rfl ?_
    exact p_X8_isHome_27 C hQ hf
theorem ct_X8_isHome {r : Int32} {h : Hp} {v0 : Nat} {v1 : Int32} (hf : f_X8_isHome h v0 v1 = some r) (l : Launch) (G : GT) : MC l G yX8_isHome cX8_isHome 2 (some .boolean) rmX8_isHome h [vR 8 (some v0), vI v1] (some (vI r)) h := MC_of (by decide) rfl (Nat.le_of_ble_eq_true rfl) rfl (fun X C hQ hin => p_X8_isHome C hQ hf)
abbrev rmX8_homeOnes : Room := { frames := 2, cells := 0, slots := 0, locals := 43 }
def f_X8_homeOnes_30 (N : Nat) (s4 : Hp → Nat → Int32 → Int32 → Option (Int32)) (h : Hp) (v0 : Nat) (v2 : Int32) (s1_ : Int32) (s0_ : Int32) : Option (Int32) := s4 h v0 (s0_ ||| s1_) (v2 + (1 : Int32))
set_option maxHeartbeats 4000000 in
set_option maxRecDepth 100000 in
theorem p_X8_homeOnes_30 {X : XT} {r : Int32} {h : Hp} (C : CX X cX8_homeOnes "WaterStairModel" 3 (some .int) rmX8_homeOnes) (hQ : QX X (some (vI r)) h rmX8_homeOnes.cells rmX8_homeOnes.slots) {N : Nat} {s4 : Hp → Nat → Int32 → Int32 → Option (Int32)} (S4 : ∀ (v0 : Nat) (v1 : Int32) (v2 : Int32), s4 h v0 v1 v2 = some r → V X 0 0 h 4 [(0, vR 8 (some v0)), (1, vI v1), (2, vI v2)] [])  {v0 : Nat} {v2 : Int32} {s1_ : Int32} {s0_ : Int32} (hf : f_X8_homeOnes_30 N s4 h v0 v2 s1_ s0_ = some r) : V X 0 0 h 30 [(0, vR 8 (some v0)), (2, vI v2)] [vI s1_, vI s0_] := by
  unfold f_X8_homeOnes_30 at hf
  refine V_ior C dX8_homeOnes_30 ?_
  refine V_istore_n (lv' := [(1, vI (s0_ ||| s1_)), (0, vR 8 (some v0)), (2, vI v2)]) C dX8_homeOnes_31 rfl (by decide) rfl ?_
  refine V_iinc (lv' := [(2, vI (v2 + (1 : Int32))), (1, vI (s0_ ||| s1_)), (0, vR 8 (some v0))]) C dX8_homeOnes_32 2 rfl (congrArg (v2 + ·) (by decide : Int32.ofInt (1) = (1 : Int32))) (by decide) rfl ?_
  refine V_goto C 4 dX8_homeOnes_35 (by decide) ?_
  refine V_sub (lv' := [(0, vR 8 (some v0)), (1, vI (s0_ ||| s1_)), (2, vI (v2 + (1 : Int32)))]) [2, 1, 0] rfl ?_
  exact S4 _ _ _ hf
def f_X8_homeOnes_4 (N : Nat) : Nat → Hp → Nat → Int32 → Int32 → Option (Int32)
  | 0, _, _, _, _ => none
  | n + 1, h, v0, v1, v2 => Option.bind (hP h v0 26) (fun q1 => if 1 < hL h q1 then (if (hI h q1 (1)) ≤ v2 then (some v1) else (Option.bind (f_X8_isHome h v0 v2) (fun r4 => if r4 = 0 then (f_X8_homeOnes_30 N (f_X8_homeOnes_4 N n) h v0 v2 (0 : Int32) v1) else (f_X8_homeOnes_30 N (f_X8_homeOnes_4 N n) h v0 v2 ((1 : Int32) <<< (v2 &&& 31)) v1)))) else none)
set_option maxHeartbeats 4000000 in
set_option maxRecDepth 100000 in
theorem p_X8_homeOnes_4 {X : XT} {r : Int32} {h : Hp} (C : CX X cX8_homeOnes "WaterStairModel" 3 (some .int) rmX8_homeOnes) (hQ : QX X (some (vI r)) h rmX8_homeOnes.cells rmX8_homeOnes.slots) {N : Nat}  : ∀ (n : Nat) (v0 : Nat) (v1 : Int32) (v2 : Int32), f_X8_homeOnes_4 N n h v0 v1 v2 = some r → V X 0 0 h 4 [(0, vR 8 (some v0)), (1, vI v1), (2, vI v2)] [] := by
  intro n
  induction n with
  | zero =>
    intro v0 v1 v2 hf
    have hf : (none : Option (Int32)) = some _ := hf
    cases hf
  | succ n ih =>
    intro v0 v1 v2 hf
    rw [f_X8_homeOnes_4] at hf
    refine V_iload_n C dX8_homeOnes_4 rfl 2 rfl ?_
    refine V_aload_n C dX8_homeOnes_5 rfl 0 rfl ?_
    obtain ⟨q1, eq1, hf⟩ := o_b hf
    refine V_getR C fl_X8_42 rfl rfl (by decide) eq1 dX8_homeOnes_6 ?_
    refine V_iconst (v := (1 : Int32)) C dX8_homeOnes_9 (by decide) ?_
    obtain ⟨g2, hf⟩ := o_if hf
    refine V_iald C (vp_k (by decide) (by decide) g2) (by decide : Int32.toNatClampNeg (1 : Int32) = 1) dX8_homeOnes_10 ?_
    refine V_icmp_ge C 38 dX8_homeOnes_11 (by decide) (fun c3 => ?_) (fun c3 => ?_)
    · have hf := i_t c3 hf
      refine V_iload_n C dX8_homeOnes_38 rfl 1 rfl ?_
      have hf := Option.some.inj hf
      subst hf
      exact V_iret C hQ dX8_homeOnes_39
    · have hf := i_f c3 hf
      refine V_iload_n C dX8_homeOnes_14 rfl 1 rfl ?_
      refine V_aload_n C dX8_homeOnes_15 rfl 0 rfl ?_
      refine V_iload_n C dX8_homeOnes_16 rfl 2 rfl ?_
      obtain ⟨r4, er4, hf⟩ := o_b hf
      refine V_callV (as := [vI v2]) (st := [vI v1]) C ml_X8_299 fx8 (ct_X8_isHome er4) rfl ⟨by decide, by decide, by decide, by decide⟩ (Nat.le_of_ble_eq_true rfl) rfl dX8_homeOnes_17 (cs' := 0) (sl' := 0) rfl rfl ?_
      refine V_if_eq C 29 dX8_homeOnes_20 (by decide) (fun c5 => ?_) (fun c5 => ?_)
      · have hf := i_t c5 hf
        refine V_iconst (v := (0 : Int32)) C dX8_homeOnes_29 (by decide) ?_
        refine V_sub (lv' := [(0, vR 8 (some v0)), (2, vI v2)]) [0, 2] rfl ?_
        exact p_X8_homeOnes_30 C hQ ih hf
      · have hf := i_f c5 hf
        refine V_iconst (v := (1 : Int32)) C dX8_homeOnes_23 (by decide) ?_
        refine V_iload_n C dX8_homeOnes_24 rfl 2 rfl ?_
        refine V_ishl C dX8_homeOnes_25 ?_
        refine V_goto C 30 dX8_homeOnes_26 (by decide) ?_
        refine V_sub (lv' := [(0, vR 8 (some v0)), (2, vI v2)]) [0, 2] rfl ?_
        exact p_X8_homeOnes_30 C hQ ih hf
def f_X8_homeOnes (N : Nat) (h : Hp) (v0 : Nat) : Option (Int32) := f_X8_homeOnes_4 N N h v0 (0 : Int32) (0 : Int32)
set_option maxHeartbeats 4000000 in
set_option maxRecDepth 100000 in
theorem p_X8_homeOnes {X : XT} {r : Int32} (C : CX X cX8_homeOnes "WaterStairModel" 3 (some .int) rmX8_homeOnes) {N : Nat} {h : Hp} {v0 : Nat} (hQ : QX X (some (vI r)) h rmX8_homeOnes.cells rmX8_homeOnes.slots) (hf : f_X8_homeOnes N h v0 = some r) : V X 0 0 h 0 [(0, vR 8 (some v0))] [] := by
  unfold f_X8_homeOnes at hf
  refine V_iconst (v := (0 : Int32)) C dX8_homeOnes_0 (by decide) ?_
  refine V_istore_n (lv' := [(1, vI (0 : Int32)), (0, vR 8 (some v0))]) C dX8_homeOnes_1 rfl (by decide) rfl ?_
  refine V_iconst (v := (0 : Int32)) C dX8_homeOnes_2 (by decide) ?_
  refine V_istore_n (lv' := [(2, vI (0 : Int32)), (1, vI (0 : Int32)), (0, vR 8 (some v0))]) C dX8_homeOnes_3 rfl (by decide) rfl ?_
  refine V_sub (lv' := [(0, vR 8 (some v0)), (1, vI (0 : Int32)), (2, vI (0 : Int32))]) [2, 1, 0] rfl ?_
  exact p_X8_homeOnes_4 C hQ N _ _ _ hf
theorem ct_X8_homeOnes {r : Int32} {N : Nat} {h : Hp} {v0 : Nat} (hf : f_X8_homeOnes N h v0 = some r) (l : Launch) (G : GT) : MC l G yX8_homeOnes cX8_homeOnes 3 (some .int) rmX8_homeOnes h [vR 8 (some v0)] (some (vI r)) h := MC_of (by decide) rfl (Nat.le_of_ble_eq_true rfl) rfl (fun X C hQ hin => p_X8_homeOnes C hQ hf)
abbrev rmX8_atLevel : Room := { frames := 1, cells := 0, slots := 0, locals := 22 }
def f_X8_atLevel_32 (N : Nat) (s4 : Hp → Nat → Int32 → Int32 → Int32 → Option (Int32)) (h : Hp) (v0 : Nat) (v1 : Int32) (v3 : Int32) (s1_ : Int32) (s0_ : Int32) : Option (Int32) := s4 h v0 v1 (s0_ ||| s1_) (v3 + (1 : Int32))
set_option maxHeartbeats 4000000 in
set_option maxRecDepth 100000 in
theorem p_X8_atLevel_32 {X : XT} {r : Int32} {h : Hp} (C : CX X cX8_atLevel "WaterStairModel" 4 (some .int) rmX8_atLevel) (hQ : QX X (some (vI r)) h rmX8_atLevel.cells rmX8_atLevel.slots) {N : Nat} {s4 : Hp → Nat → Int32 → Int32 → Int32 → Option (Int32)} (S4 : ∀ (v0 : Nat) (v1 : Int32) (v2 : Int32) (v3 : Int32), s4 h v0 v1 v2 v3 = some r → V X 0 0 h 4 [(0, vR 8 (some v0)), (1, vI v1), (2, vI v2), (3, vI v3)] [])  {v0 : Nat} {v1 : Int32} {v3 : Int32} {s1_ : Int32} {s0_ : Int32} (hf : f_X8_atLevel_32 N s4 h v0 v1 v3 s1_ s0_ = some r) : V X 0 0 h 32 [(0, vR 8 (some v0)), (1, vI v1), (3, vI v3)] [vI s1_, vI s0_] := by
  unfold f_X8_atLevel_32 at hf
  refine V_ior C dX8_atLevel_32 ?_
  refine V_istore_n (lv' := [(2, vI (s0_ ||| s1_)), (0, vR 8 (some v0)), (1, vI v1), (3, vI v3)]) C dX8_atLevel_33 rfl (by decide) rfl ?_
  refine V_iinc (lv' := [(3, vI (v3 + (1 : Int32))), (2, vI (s0_ ||| s1_)), (0, vR 8 (some v0)), (1, vI v1)]) C dX8_atLevel_34 3 rfl (congrArg (v3 + ·) (by decide : Int32.ofInt (1) = (1 : Int32))) (by decide) rfl ?_
  refine V_goto C 4 dX8_atLevel_37 (by decide) ?_
  refine V_sub (lv' := [(0, vR 8 (some v0)), (1, vI v1), (2, vI (s0_ ||| s1_)), (3, vI (v3 + (1 : Int32)))]) [2, 3, 1, 0] rfl ?_
  exact S4 _ _ _ _ hf
def f_X8_atLevel_4 (N : Nat) : Nat → Hp → Nat → Int32 → Int32 → Int32 → Option (Int32)
  | 0, _, _, _, _, _ => none
  | n + 1, h, v0, v1, v2, v3 => Option.bind (hP h v0 26) (fun q1 => if 1 < hL h q1 then (if (hI h q1 (1)) ≤ v3 then (some v2) else (Option.bind (f_X8_bargeOf h v0 v3 (4 : Int32)) (fun r4 => if r4 = v1 then (f_X8_atLevel_32 N (f_X8_atLevel_4 N n) h v0 v1 v3 ((1 : Int32) <<< (v3 &&& 31)) v2) else (f_X8_atLevel_32 N (f_X8_atLevel_4 N n) h v0 v1 v3 (0 : Int32) v2)))) else none)
set_option maxHeartbeats 4000000 in
set_option maxRecDepth 100000 in
theorem p_X8_atLevel_4 {X : XT} {r : Int32} {h : Hp} (C : CX X cX8_atLevel "WaterStairModel" 4 (some .int) rmX8_atLevel) (hQ : QX X (some (vI r)) h rmX8_atLevel.cells rmX8_atLevel.slots) {N : Nat}  : ∀ (n : Nat) (v0 : Nat) (v1 : Int32) (v2 : Int32) (v3 : Int32), f_X8_atLevel_4 N n h v0 v1 v2 v3 = some r → V X 0 0 h 4 [(0, vR 8 (some v0)), (1, vI v1), (2, vI v2), (3, vI v3)] [] := by
  intro n
  induction n with
  | zero =>
    intro v0 v1 v2 v3 hf
    have hf : (none : Option (Int32)) = some _ := hf
    cases hf
  | succ n ih =>
    intro v0 v1 v2 v3 hf
    rw [f_X8_atLevel_4] at hf
    refine V_iload_n C dX8_atLevel_4 rfl 3 rfl ?_
    refine V_aload_n C dX8_atLevel_5 rfl 0 rfl ?_
    obtain ⟨q1, eq1, hf⟩ := o_b hf
    refine V_getR C fl_X8_42 rfl rfl (by decide) eq1 dX8_atLevel_6 ?_
    refine V_iconst (v := (1 : Int32)) C dX8_atLevel_9 (by decide) ?_
    obtain ⟨g2, hf⟩ := o_if hf
    refine V_iald C (vp_k (by decide) (by decide) g2) (by decide : Int32.toNatClampNeg (1 : Int32) = 1) dX8_atLevel_10 ?_
    refine V_icmp_ge C 40 dX8_atLevel_11 (by decide) (fun c3 => ?_) (fun c3 => ?_)
    · have hf := i_t c3 hf
      refine V_iload_n C dX8_atLevel_40 rfl 2 rfl ?_
      have hf := Option.some.inj hf
      subst hf
      exact V_iret C hQ dX8_atLevel_41
    · have hf := i_f c3 hf
      refine V_iload_n C dX8_atLevel_14 rfl 2 rfl ?_
      refine V_aload_n C dX8_atLevel_15 rfl 0 rfl ?_
      refine V_iload_n C dX8_atLevel_16 rfl 3 rfl ?_
      refine V_iconst (v := (4 : Int32)) C dX8_atLevel_17 (by decide) ?_
      obtain ⟨r4, er4, hf⟩ := o_b hf
      refine V_callV (as := [vI v3, vI (4 : Int32)]) (st := [vI v2]) C ml_X8_295 fx8 (ct_X8_bargeOf er4) rfl ⟨by decide, by decide, by decide, by decide⟩ (Nat.le_of_ble_eq_true rfl) rfl dX8_atLevel_18 (cs' := 0) (sl' := 0) rfl rfl ?_
      refine V_iload_n C dX8_atLevel_21 rfl 1 rfl ?_
      refine V_icmp_ne C 31 dX8_atLevel_22 (by decide) (fun c5 => ?_) (fun c5 => ?_)
      · have hf := i_f c5 hf
        refine V_iconst (v := (0 : Int32)) C dX8_atLevel_31 (by decide) ?_
        refine V_sub (lv' := [(0, vR 8 (some v0)), (1, vI v1), (3, vI v3)]) [0, 1, 3] rfl ?_
        exact p_X8_atLevel_32 C hQ ih hf
      · have hf := i_t c5 hf
        refine V_iconst (v := (1 : Int32)) C dX8_atLevel_25 (by decide) ?_
        refine V_iload_n C dX8_atLevel_26 rfl 3 rfl ?_
        refine V_ishl C dX8_atLevel_27 ?_
        refine V_goto C 32 dX8_atLevel_28 (by decide) ?_
        refine V_sub (lv' := [(0, vR 8 (some v0)), (1, vI v1), (3, vI v3)]) [0, 1, 3] rfl ?_
        exact p_X8_atLevel_32 C hQ ih hf
def f_X8_atLevel (N : Nat) (h : Hp) (v0 : Nat) (v1 : Int32) : Option (Int32) := f_X8_atLevel_4 N N h v0 v1 (0 : Int32) (0 : Int32)
set_option maxHeartbeats 4000000 in
set_option maxRecDepth 100000 in
theorem p_X8_atLevel {X : XT} {r : Int32} (C : CX X cX8_atLevel "WaterStairModel" 4 (some .int) rmX8_atLevel) {N : Nat} {h : Hp} {v0 : Nat} {v1 : Int32} (hQ : QX X (some (vI r)) h rmX8_atLevel.cells rmX8_atLevel.slots) (hf : f_X8_atLevel N h v0 v1 = some r) : V X 0 0 h 0 [(0, vR 8 (some v0)), (1, vI v1)] [] := by
  unfold f_X8_atLevel at hf
  refine V_iconst (v := (0 : Int32)) C dX8_atLevel_0 (by decide) ?_
  refine V_istore_n (lv' := [(2, vI (0 : Int32)), (0, vR 8 (some v0)), (1, vI v1)]) C dX8_atLevel_1 rfl (by decide) rfl ?_
  refine V_iconst (v := (0 : Int32)) C dX8_atLevel_2 (by decide) ?_
  refine V_istore_n (lv' := [(3, vI (0 : Int32)), (2, vI (0 : Int32)), (0, vR 8 (some v0)), (1, vI v1)]) C dX8_atLevel_3 rfl (by decide) rfl ?_
  refine V_sub (lv' := [(0, vR 8 (some v0)), (1, vI v1), (2, vI (0 : Int32)), (3, vI (0 : Int32))]) [2, 3, 1, 0] rfl ?_
  exact p_X8_atLevel_4 C hQ N _ _ _ _ hf
theorem ct_X8_atLevel {r : Int32} {N : Nat} {h : Hp} {v0 : Nat} {v1 : Int32} (hf : f_X8_atLevel N h v0 v1 = some r) (l : Launch) (G : GT) : MC l G yX8_atLevel cX8_atLevel 4 (some .int) rmX8_atLevel h [vR 8 (some v0), vI v1] (some (vI r)) h := MC_of (by decide) rfl (Nat.le_of_ble_eq_true rfl) rfl (fun X C hQ hin => p_X8_atLevel C hQ hf)
abbrev rmX8_force : Room := { frames := 1, cells := 0, slots := 0, locals := 21 }
def f_X8_force_16 (h : Hp) (v0 : Nat) (v1 : Int32) : Option (Int32 × Hp) := Option.bind (hP h v0 26) (fun q1 => if 8 < hL h q1 then (Option.bind (hP h v0 26) (fun q3 => if 8 < hL h q3 then (lt (sI h q3 (8) v1) (fun h5 => some ((hI h q1 (8), h5)))) else none)) else none)
set_option maxHeartbeats 4000000 in
set_option maxRecDepth 100000 in
theorem p_X8_force_16 {X : XT} {r : Int32} {h' : Hp} (C : CX X cX8_force "WaterStairModel" 3 (some .int) rmX8_force) (hQ : QX X (some (vI r)) h' rmX8_force.cells rmX8_force.slots)  {h : Hp} {v0 : Nat} {v1 : Int32} (hf : f_X8_force_16 h v0 v1 = some ((r, h'))) : V X 0 0 h 16 [(0, vR 8 (some v0)), (1, vI v1)] [] := by
  unfold f_X8_force_16 at hf
  refine V_aload_n C dX8_force_16 rfl 0 rfl ?_
  obtain ⟨q1, eq1, hf⟩ := o_b hf
  refine V_getR C fl_X8_42 rfl rfl (by decide) eq1 dX8_force_17 ?_
  refine V_bipush (v := (8 : Int32)) C dX8_force_20 (by decide) ?_
  obtain ⟨g2, hf⟩ := o_if hf
  refine V_iald C (vp_k (by decide) (by decide) g2) (by decide : Int32.toNatClampNeg (8 : Int32) = 8) dX8_force_22 ?_
  refine V_istore_n (lv' := [(2, vI (hI h q1 (8))), (0, vR 8 (some v0)), (1, vI v1)]) C dX8_force_23 rfl (by decide) rfl ?_
  refine V_aload_n C dX8_force_24 rfl 1 rfl ?_
  obtain ⟨q3, eq3, hf⟩ := o_b hf
  refine V_getR C fl_X8_42 rfl rfl (by decide) eq3 dX8_force_25 ?_
  refine V_bipush (v := (8 : Int32)) C dX8_force_28 (by decide) ?_
  refine V_iload_n C dX8_force_30 rfl 2 rfl ?_
  obtain ⟨g4, hf⟩ := o_if hf
  obtain ⟨h5, eh5, hf⟩ := o_l hf
  refine V_iast C (vp_k (by decide) (by decide) g4) (by decide : Int32.toNatClampNeg (8 : Int32) = 8) dX8_force_31 (V_eqH eh5 ?_)
  refine V_iload_n C dX8_force_32 rfl 0 rfl ?_
  obtain ⟨hf1, hf2⟩ := Prod.mk.inj (Option.some.inj hf)
  subst hf1
  subst hf2
  exact V_iret C hQ dX8_force_33
def f_X8_force (h : Hp) (v0 : Nat) (v1 : Int32) : Option (Int32 × Hp) := if v1 = (-1 : Int32) then (f_X8_force_16 h v0 v1) else (Option.bind (f_X8_isRule h v0 v1) (fun r7 => if r7 = 0 then (some (((-2 : Int32), h))) else (f_X8_force_16 h v0 v1)))
set_option maxHeartbeats 4000000 in
set_option maxRecDepth 100000 in
theorem p_X8_force {X : XT} {r : Int32} {h' : Hp} (C : CX X cX8_force "WaterStairModel" 3 (some .int) rmX8_force) {h : Hp} {v0 : Nat} {v1 : Int32} (hQ : QX X (some (vI r)) h' rmX8_force.cells rmX8_force.slots) (hf : f_X8_force h v0 v1 = some ((r, h'))) : V X 0 0 h 0 [(0, vR 8 (some v0)), (1, vI v1)] [] := by
  unfold f_X8_force at hf
  refine V_iload_n C dX8_force_0 rfl 1 rfl ?_
  refine V_iconst (v := (-1 : Int32)) C dX8_force_1 (by decide) ?_
  refine V_icmp_eq C 16 dX8_force_2 (by decide) (fun c6 => ?_) (fun c6 => ?_)
  · have hf := i_t c6 hf
    refine V_sub (lv' := [(0, vR 8 (some v0)), (1, vI v1)]) [0, 1] rfl ?_
    exact p_X8_force_16 C hQ hf
  · have hf := i_f c6 hf
    refine V_aload_n C dX8_force_5 rfl 0 rfl ?_
    refine V_iload_n C dX8_force_6 rfl 1 rfl ?_
    obtain ⟨r7, er7, hf⟩ := o_b hf
    refine V_callV (as := [vI v1]) (st := []) C ml_X8_302 fx8 (ct_X8_isRule er7) rfl ⟨by decide, by decide, by decide, by decide⟩ (Nat.le_of_ble_eq_true rfl) rfl dX8_force_7 (cs' := 0) (sl' := 0) rfl rfl ?_
    refine V_if_ne C 16 dX8_force_10 (by decide) (fun c8 => ?_) (fun c8 => ?_)
    · have hf := i_f c8 hf
      refine V_sub (lv' := [(0, vR 8 (some v0)), (1, vI v1)]) [0, 1] rfl ?_
      exact p_X8_force_16 C hQ hf
    · have hf := i_t c8 hf
      refine V_bipush (v := (-2 : Int32)) C dX8_force_13 (by decide) ?_
      obtain ⟨hf1, hf2⟩ := Prod.mk.inj (Option.some.inj hf)
      subst hf1
      subst hf2
      exact V_iret C hQ dX8_force_15
theorem ct_X8_force {r : Int32} {h' : Hp} {h : Hp} {v0 : Nat} {v1 : Int32} (hf : f_X8_force h v0 v1 = some ((r, h'))) (l : Launch) (G : GT) : MC l G yX8_force cX8_force 3 (some .int) rmX8_force h [vR 8 (some v0), vI v1] (some (vI r)) h' := MC_of (by decide) rfl (Nat.le_of_ble_eq_true rfl) rfl (fun X C hQ hin => p_X8_force C hQ hf)
abbrev rmX8_level : Room := { frames := 2, cells := 0, slots := 0, locals := 45 }
def f_X8_level (N : Nat) (h : Hp) (v0 : Nat) (v1 : Int32) (v2 : Int32) : Option (Int32) := Option.bind (f_X8_isLevel h v0 v1) (fun r1 => if r1 = 0 then (some (-1 : Int32)) else (Option.bind (f_X8_in h (v2.toInt64) (0 : Int64) (3 : Int64)) (fun r3 => if r3 = 0 then (some (-1 : Int32)) else (if (2 : Int32) ≤ v2 then (if v2 = (2 : Int32) then (Option.bind (f_X8_atLevel N h v0 v1) (fun r13 => some r13)) else (Option.bind (f_X8_isStep h v0 v1) (fun r7 => if r7 = 0 then (some (-1 : Int32)) else (Option.bind (hP h v0 26) (fun q9 => if 5 < hL h q9 then (Option.bind (f_X8_isOf h (hI h q9 (5)) v1) (fun r11 => if r11 = 0 then (some (1 : Int32)) else (some (0 : Int32)))) else none))))) else (Option.bind (hP h v0 26) (fun q14 => if 0 ≤ ((9 : Int32) + ((2 : Int32) * v1)) + v2 ∧ (((9 : Int32) + ((2 : Int32) * v1)) + v2).toNatClampNeg < hL h q14 then (some (hI h q14 ((((9 : Int32) + ((2 : Int32) * v1)) + v2).toNatClampNeg))) else none))))))
set_option maxHeartbeats 4000000 in
set_option maxRecDepth 100000 in
theorem p_X8_level {X : XT} {r : Int32} (C : CX X cX8_level "WaterStairModel" 3 (some .int) rmX8_level) {N : Nat} {h : Hp} {v0 : Nat} {v1 : Int32} {v2 : Int32} (hQ : QX X (some (vI r)) h rmX8_level.cells rmX8_level.slots) (hf : f_X8_level N h v0 v1 v2 = some r) : V X 0 0 h 0 [(0, vR 8 (some v0)), (1, vI v1), (2, vI v2)] [] := by
  unfold f_X8_level at hf
  refine V_aload_n C dX8_level_0 rfl 0 rfl ?_
  refine V_iload_n C dX8_level_1 rfl 1 rfl ?_
  obtain ⟨r1, er1, hf⟩ := o_b hf
  refine V_callV (as := [vI v1]) (st := []) C ml_X8_305 fx8 (ct_X8_isLevel er1) rfl ⟨by decide, by decide, by decide, by decide⟩ (Nat.le_of_ble_eq_true rfl) rfl dX8_level_2 (cs' := 0) (sl' := 0) rfl rfl ?_
  refine V_if_eq C 20 dX8_level_5 (by decide) (fun c2 => ?_) (fun c2 => ?_)
  · have hf := i_t c2 hf
    refine V_iconst (v := (-1 : Int32)) C dX8_level_20 (by decide) ?_
    have hf := Option.some.inj hf
    subst hf
    exact V_iret C hQ dX8_level_21
  · have hf := i_f c2 hf
    refine V_iload_n C dX8_level_8 rfl 2 rfl ?_
    refine V_i2l C dX8_level_9 ?_
    refine V_lconst (v := (0 : Int64)) C dX8_level_10 (by decide) ?_
    refine V_ldc2 C kl_X8_308 dX8_level_11 ?_
    obtain ⟨r3, er3, hf⟩ := o_b hf
    refine V_callS (as := [vL (v2.toInt64), vL (0 : Int64), vL (3 : Int64)]) (st := []) C ml_X8_127 (ct_X8_in er3) rfl ⟨by decide, by decide, by decide, by decide⟩ (Nat.le_of_ble_eq_true rfl) rfl dX8_level_14 (cs' := 0) (sl' := 0) rfl rfl ?_
    refine V_if_ne C 22 dX8_level_17 (by decide) (fun c4 => ?_) (fun c4 => ?_)
    · have hf := i_f c4 hf
      refine V_iload_n C dX8_level_22 rfl 2 rfl ?_
      refine V_iconst (v := (2 : Int32)) C dX8_level_23 (by decide) ?_
      refine V_icmp_ge C 41 dX8_level_24 (by decide) (fun c5 => ?_) (fun c5 => ?_)
      · have hf := i_t c5 hf
        refine V_iload_n C dX8_level_41 rfl 2 rfl ?_
        refine V_iconst (v := (2 : Int32)) C dX8_level_42 (by decide) ?_
        refine V_icmp_ne C 54 dX8_level_43 (by decide) (fun c6 => ?_) (fun c6 => ?_)
        · have hf := i_f c6 hf
          refine V_aload_n C dX8_level_54 rfl 0 rfl ?_
          refine V_iload_n C dX8_level_55 rfl 1 rfl ?_
          obtain ⟨r7, er7, hf⟩ := o_b hf
          refine V_callV (as := [vI v1]) (st := []) C ml_X8_313 fx8 (ct_X8_isStep er7) rfl ⟨by decide, by decide, by decide, by decide⟩ (Nat.le_of_ble_eq_true rfl) rfl dX8_level_56 (cs' := 0) (sl' := 0) rfl rfl ?_
          refine V_if_ne C 66 dX8_level_59 (by decide) (fun c8 => ?_) (fun c8 => ?_)
          · have hf := i_f c8 hf
            refine V_aload_n C dX8_level_66 rfl 0 rfl ?_
            obtain ⟨q9, eq9, hf⟩ := o_b hf
            refine V_getR C fl_X8_42 rfl rfl (by decide) eq9 dX8_level_67 ?_
            refine V_iconst (v := (5 : Int32)) C dX8_level_70 (by decide) ?_
            obtain ⟨g10, hf⟩ := o_if hf
            refine V_iald C (vp_k (by decide) (by decide) g10) (by decide : Int32.toNatClampNeg (5 : Int32) = 5) dX8_level_71 ?_
            refine V_iload_n C dX8_level_72 rfl 1 rfl ?_
            obtain ⟨r11, er11, hf⟩ := o_b hf
            refine V_callS (as := [vI (hI h q9 (5)), vI v1]) (st := []) C ml_X8_316 (ct_X8_isOf er11) rfl ⟨by decide, by decide, by decide, by decide⟩ (Nat.le_of_ble_eq_true rfl) rfl dX8_level_73 (cs' := 0) (sl' := 0) rfl rfl ?_
            refine V_if_eq C 83 dX8_level_76 (by decide) (fun c12 => ?_) (fun c12 => ?_)
            · have hf := i_t c12 hf
              refine V_iconst (v := (1 : Int32)) C dX8_level_83 (by decide) ?_
              have hf := Option.some.inj hf
              subst hf
              exact V_iret C hQ dX8_level_84
            · have hf := i_f c12 hf
              refine V_iconst (v := (0 : Int32)) C dX8_level_79 (by decide) ?_
              refine V_goto C 84 dX8_level_80 (by decide) ?_
              have hf := Option.some.inj hf
              subst hf
              exact V_iret C hQ dX8_level_84
          · have hf := i_t c8 hf
            refine V_iconst (v := (-1 : Int32)) C dX8_level_62 (by decide) ?_
            refine V_goto C 84 dX8_level_63 (by decide) ?_
            have hf := Option.some.inj hf
            subst hf
            exact V_iret C hQ dX8_level_84
        · have hf := i_t c6 hf
          refine V_aload_n C dX8_level_46 rfl 0 rfl ?_
          refine V_iload_n C dX8_level_47 rfl 1 rfl ?_
          obtain ⟨r13, er13, hf⟩ := o_b hf
          refine V_callV (as := [vI v1]) (st := []) C ml_X8_310 fx8 (ct_X8_atLevel er13) rfl ⟨by decide, by decide, by decide, by decide⟩ (Nat.le_of_ble_eq_true rfl) rfl dX8_level_48 (cs' := 0) (sl' := 0) rfl rfl ?_
          refine V_goto C 84 dX8_level_51 (by decide) ?_
          have hf := Option.some.inj hf
          subst hf
          exact V_iret C hQ dX8_level_84
      · have hf := i_f c5 hf
        refine V_aload_n C dX8_level_27 rfl 0 rfl ?_
        obtain ⟨q14, eq14, hf⟩ := o_b hf
        refine V_getR C fl_X8_42 rfl rfl (by decide) eq14 dX8_level_28 ?_
        refine V_bipush (v := (9 : Int32)) C dX8_level_31 (by decide) ?_
        refine V_iconst (v := (2 : Int32)) C dX8_level_33 (by decide) ?_
        refine V_iload_n C dX8_level_34 rfl 1 rfl ?_
        refine V_imul C dX8_level_35 ?_
        refine V_iadd C dX8_level_36 ?_
        refine V_iload_n C dX8_level_37 rfl 2 rfl ?_
        refine V_iadd C dX8_level_38 ?_
        obtain ⟨g15, hf⟩ := o_if hf
        refine V_iald C (vp_g g15) rfl dX8_level_39 ?_
        have hf := Option.some.inj hf
        subst hf
        exact V_iret C hQ dX8_level_40
    · have hf := i_t c4 hf
      refine V_iconst (v := (-1 : Int32)) C dX8_level_20 (by decide) ?_
      have hf := Option.some.inj hf
      subst hf
      exact V_iret C hQ dX8_level_21
theorem ct_X8_level {r : Int32} {N : Nat} {h : Hp} {v0 : Nat} {v1 : Int32} {v2 : Int32} (hf : f_X8_level N h v0 v1 v2 = some r) (l : Launch) (G : GT) : MC l G yX8_level cX8_level 3 (some .int) rmX8_level h [vR 8 (some v0), vI v1, vI v2] (some (vI r)) h := MC_of (by decide) rfl (Nat.le_of_ble_eq_true rfl) rfl (fun X C hQ hin => p_X8_level C hQ hf)
abbrev rmX8_barge : Room := { frames := 2, cells := 0, slots := 0, locals := 43 }
def f_X8_barge (h : Hp) (v0 : Nat) (v1 : Int32) (v2 : Int32) : Option (Int32) := Option.bind (f_X8_isBarge h v0 v1) (fun r1 => if r1 = 0 then (some (-1 : Int32)) else (Option.bind (f_X8_in h (v2.toInt64) (0 : Int64) (5 : Int64)) (fun r3 => if r3 = 0 then (some (-1 : Int32)) else (if v2 = 0 then (Option.bind (f_X8_bargeOf h v0 v1 (4 : Int32)) (fun r10 => some r10)) else (if v2 = (5 : Int32) then (Option.bind (f_X8_isHome h v0 v1) (fun r8 => if r8 = 0 then (some (0 : Int32)) else (some (1 : Int32)))) else (Option.bind (f_X8_bargeOf h v0 v1 (v2 - (1 : Int32))) (fun r7 => some r7)))))))
set_option maxHeartbeats 4000000 in
set_option maxRecDepth 100000 in
theorem p_X8_barge {X : XT} {r : Int32} (C : CX X cX8_barge "WaterStairModel" 3 (some .int) rmX8_barge) {h : Hp} {v0 : Nat} {v1 : Int32} {v2 : Int32} (hQ : QX X (some (vI r)) h rmX8_barge.cells rmX8_barge.slots) (hf : f_X8_barge h v0 v1 v2 = some r) : V X 0 0 h 0 [(0, vR 8 (some v0)), (1, vI v1), (2, vI v2)] [] := by
  unfold f_X8_barge at hf
  refine V_aload_n C dX8_barge_0 rfl 0 rfl ?_
  refine V_iload_n C dX8_barge_1 rfl 1 rfl ?_
  obtain ⟨r1, er1, hf⟩ := o_b hf
  refine V_callV (as := [vI v1]) (st := []) C ml_X8_292 fx8 (ct_X8_isBarge er1) rfl ⟨by decide, by decide, by decide, by decide⟩ (Nat.le_of_ble_eq_true rfl) rfl dX8_barge_2 (cs' := 0) (sl' := 0) rfl rfl ?_
  refine V_if_eq C 20 dX8_barge_5 (by decide) (fun c2 => ?_) (fun c2 => ?_)
  · have hf := i_t c2 hf
    refine V_iconst (v := (-1 : Int32)) C dX8_barge_20 (by decide) ?_
    have hf := Option.some.inj hf
    subst hf
    exact V_iret C hQ dX8_barge_21
  · have hf := i_f c2 hf
    refine V_iload_n C dX8_barge_8 rfl 2 rfl ?_
    refine V_i2l C dX8_barge_9 ?_
    refine V_lconst (v := (0 : Int64)) C dX8_barge_10 (by decide) ?_
    refine V_ldc2 C kl_X8_319 dX8_barge_11 ?_
    obtain ⟨r3, er3, hf⟩ := o_b hf
    refine V_callS (as := [vL (v2.toInt64), vL (0 : Int64), vL (5 : Int64)]) (st := []) C ml_X8_127 (ct_X8_in er3) rfl ⟨by decide, by decide, by decide, by decide⟩ (Nat.le_of_ble_eq_true rfl) rfl dX8_barge_14 (cs' := 0) (sl' := 0) rfl rfl ?_
    refine V_if_ne C 22 dX8_barge_17 (by decide) (fun c4 => ?_) (fun c4 => ?_)
    · have hf := i_f c4 hf
      refine V_iload_n C dX8_barge_22 rfl 2 rfl ?_
      refine V_if_ne C 35 dX8_barge_23 (by decide) (fun c5 => ?_) (fun c5 => ?_)
      · have hf := i_f c5 hf
        refine V_iload_n C dX8_barge_35 rfl 2 rfl ?_
        refine V_iconst (v := (5 : Int32)) C dX8_barge_36 (by decide) ?_
        refine V_icmp_ne C 56 dX8_barge_37 (by decide) (fun c6 => ?_) (fun c6 => ?_)
        · have hf := i_f c6 hf
          refine V_aload_n C dX8_barge_56 rfl 0 rfl ?_
          refine V_iload_n C dX8_barge_57 rfl 1 rfl ?_
          refine V_iload_n C dX8_barge_58 rfl 2 rfl ?_
          refine V_iconst (v := (1 : Int32)) C dX8_barge_59 (by decide) ?_
          refine V_isub C dX8_barge_60 ?_
          obtain ⟨r7, er7, hf⟩ := o_b hf
          refine V_callV (as := [vI v1, vI (v2 - (1 : Int32))]) (st := []) C ml_X8_295 fx8 (ct_X8_bargeOf er7) rfl ⟨by decide, by decide, by decide, by decide⟩ (Nat.le_of_ble_eq_true rfl) rfl dX8_barge_61 (cs' := 0) (sl' := 0) rfl rfl ?_
          have hf := Option.some.inj hf
          subst hf
          exact V_iret C hQ dX8_barge_64
        · have hf := i_t c6 hf
          refine V_aload_n C dX8_barge_40 rfl 0 rfl ?_
          refine V_iload_n C dX8_barge_41 rfl 1 rfl ?_
          obtain ⟨r8, er8, hf⟩ := o_b hf
          refine V_callV (as := [vI v1]) (st := []) C ml_X8_299 fx8 (ct_X8_isHome er8) rfl ⟨by decide, by decide, by decide, by decide⟩ (Nat.le_of_ble_eq_true rfl) rfl dX8_barge_42 (cs' := 0) (sl' := 0) rfl rfl ?_
          refine V_if_eq C 52 dX8_barge_45 (by decide) (fun c9 => ?_) (fun c9 => ?_)
          · have hf := i_t c9 hf
            refine V_iconst (v := (0 : Int32)) C dX8_barge_52 (by decide) ?_
            refine V_goto C 64 dX8_barge_53 (by decide) ?_
            have hf := Option.some.inj hf
            subst hf
            exact V_iret C hQ dX8_barge_64
          · have hf := i_f c9 hf
            refine V_iconst (v := (1 : Int32)) C dX8_barge_48 (by decide) ?_
            refine V_goto C 64 dX8_barge_49 (by decide) ?_
            have hf := Option.some.inj hf
            subst hf
            exact V_iret C hQ dX8_barge_64
      · have hf := i_t c5 hf
        refine V_aload_n C dX8_barge_26 rfl 0 rfl ?_
        refine V_iload_n C dX8_barge_27 rfl 1 rfl ?_
        refine V_iconst (v := (4 : Int32)) C dX8_barge_28 (by decide) ?_
        obtain ⟨r10, er10, hf⟩ := o_b hf
        refine V_callV (as := [vI v1, vI (4 : Int32)]) (st := []) C ml_X8_295 fx8 (ct_X8_bargeOf er10) rfl ⟨by decide, by decide, by decide, by decide⟩ (Nat.le_of_ble_eq_true rfl) rfl dX8_barge_29 (cs' := 0) (sl' := 0) rfl rfl ?_
        refine V_goto C 64 dX8_barge_32 (by decide) ?_
        have hf := Option.some.inj hf
        subst hf
        exact V_iret C hQ dX8_barge_64
    · have hf := i_t c4 hf
      refine V_iconst (v := (-1 : Int32)) C dX8_barge_20 (by decide) ?_
      have hf := Option.some.inj hf
      subst hf
      exact V_iret C hQ dX8_barge_21
theorem ct_X8_barge {r : Int32} {h : Hp} {v0 : Nat} {v1 : Int32} {v2 : Int32} (hf : f_X8_barge h v0 v1 v2 = some r) (l : Launch) (G : GT) : MC l G yX8_barge cX8_barge 3 (some .int) rmX8_barge h [vR 8 (some v0), vI v1, vI v2] (some (vI r)) h := MC_of (by decide) rfl (Nat.le_of_ble_eq_true rfl) rfl (fun X C hQ hin => p_X8_barge C hQ hf)
abbrev rmX8_weightOf : Room := { frames := 1, cells := 0, slots := 0, locals := 22 }
def f_X8_weightOf (h : Hp) (v0 : Nat) (v1 : Int32) : Option (Int32) := if 0 ≤ v1 then (Option.bind (f_X8_bargeOf h v0 v1 (0 : Int32)) (fun r2 => some r2)) else (some (0 : Int32))
set_option maxHeartbeats 4000000 in
set_option maxRecDepth 100000 in
theorem p_X8_weightOf {X : XT} {r : Int32} (C : CX X cX8_weightOf "WaterStairModel" 2 (some .int) rmX8_weightOf) {h : Hp} {v0 : Nat} {v1 : Int32} (hQ : QX X (some (vI r)) h rmX8_weightOf.cells rmX8_weightOf.slots) (hf : f_X8_weightOf h v0 v1 = some r) : V X 0 0 h 0 [(0, vR 8 (some v0)), (1, vI v1)] [] := by
  unfold f_X8_weightOf at hf
  refine V_iload_n C dX8_weightOf_0 rfl 1 rfl ?_
  refine V_if_ge C 8 dX8_weightOf_1 (by decide) (fun c1 => ?_) (fun c1 => ?_)
  · have hf := i_t c1 hf
    refine V_aload_n C dX8_weightOf_8 rfl 0 rfl ?_
    refine V_iload_n C dX8_weightOf_9 rfl 1 rfl ?_
    refine V_iconst (v := (0 : Int32)) C dX8_weightOf_10 (by decide) ?_
    obtain ⟨r2, er2, hf⟩ := o_b hf
    refine V_callV (as := [vI v1, vI (0 : Int32)]) (st := []) C ml_X8_295 fx8 (ct_X8_bargeOf er2) rfl ⟨by decide, by decide, by decide, by decide⟩ (Nat.le_of_ble_eq_true rfl) rfl dX8_weightOf_11 (cs' := 0) (sl' := 0) rfl rfl ?_
    have hf := Option.some.inj hf
    subst hf
    exact V_iret C hQ dX8_weightOf_14
  · have hf := i_f c1 hf
    refine V_iconst (v := (0 : Int32)) C dX8_weightOf_4 (by decide) ?_
    refine V_goto C 14 dX8_weightOf_5 (by decide) ?_
    have hf := Option.some.inj hf
    subst hf
    exact V_iret C hQ dX8_weightOf_14
theorem ct_X8_weightOf {r : Int32} {h : Hp} {v0 : Nat} {v1 : Int32} (hf : f_X8_weightOf h v0 v1 = some r) (l : Launch) (G : GT) : MC l G yX8_weightOf cX8_weightOf 2 (some .int) rmX8_weightOf h [vR 8 (some v0), vI v1] (some (vI r)) h := MC_of (by decide) rfl (Nat.le_of_ble_eq_true rfl) rfl (fun X C hQ hin => p_X8_weightOf C hQ hf)
abbrev rmX8_wideOf : Room := { frames := 1, cells := 0, slots := 0, locals := 22 }
def f_X8_wideOf (h : Hp) (v0 : Nat) (v1 : Int32) : Option (Int32) := if 0 ≤ v1 then (Option.bind (f_X8_bargeOf h v0 v1 (1 : Int32)) (fun r2 => some r2)) else (some (0 : Int32))
set_option maxHeartbeats 4000000 in
set_option maxRecDepth 100000 in
theorem p_X8_wideOf {X : XT} {r : Int32} (C : CX X cX8_wideOf "WaterStairModel" 2 (some .int) rmX8_wideOf) {h : Hp} {v0 : Nat} {v1 : Int32} (hQ : QX X (some (vI r)) h rmX8_wideOf.cells rmX8_wideOf.slots) (hf : f_X8_wideOf h v0 v1 = some r) : V X 0 0 h 0 [(0, vR 8 (some v0)), (1, vI v1)] [] := by
  unfold f_X8_wideOf at hf
  refine V_iload_n C dX8_wideOf_0 rfl 1 rfl ?_
  refine V_if_ge C 8 dX8_wideOf_1 (by decide) (fun c1 => ?_) (fun c1 => ?_)
  · have hf := i_t c1 hf
    refine V_aload_n C dX8_wideOf_8 rfl 0 rfl ?_
    refine V_iload_n C dX8_wideOf_9 rfl 1 rfl ?_
    refine V_iconst (v := (1 : Int32)) C dX8_wideOf_10 (by decide) ?_
    obtain ⟨r2, er2, hf⟩ := o_b hf
    refine V_callV (as := [vI v1, vI (1 : Int32)]) (st := []) C ml_X8_295 fx8 (ct_X8_bargeOf er2) rfl ⟨by decide, by decide, by decide, by decide⟩ (Nat.le_of_ble_eq_true rfl) rfl dX8_wideOf_11 (cs' := 0) (sl' := 0) rfl rfl ?_
    have hf := Option.some.inj hf
    subst hf
    exact V_iret C hQ dX8_wideOf_14
  · have hf := i_f c1 hf
    refine V_iconst (v := (0 : Int32)) C dX8_wideOf_4 (by decide) ?_
    refine V_goto C 14 dX8_wideOf_5 (by decide) ?_
    have hf := Option.some.inj hf
    subst hf
    exact V_iret C hQ dX8_wideOf_14
theorem ct_X8_wideOf {r : Int32} {h : Hp} {v0 : Nat} {v1 : Int32} (hf : f_X8_wideOf h v0 v1 = some r) (l : Launch) (G : GT) : MC l G yX8_wideOf cX8_wideOf 2 (some .int) rmX8_wideOf h [vR 8 (some v0), vI v1] (some (vI r)) h := MC_of (by decide) rfl (Nat.le_of_ble_eq_true rfl) rfl (fun X C hQ hin => p_X8_wideOf C hQ hf)
abbrev rmX8_needOf : Room := { frames := 2, cells := 0, slots := 0, locals := 43 }
def f_X8_needOf (h : Hp) (v0 : Nat) (v1 : Int32) (v2 : Int32) : Option (Int32) := Option.bind (f_X8_weightOf h v0 v2) (fun r1 => Option.bind (hP h v0 26) (fun q2 => if 2 < hL h q2 then (Option.bind (f_X8_weightOf h v0 v1) (fun r4 => if 0 ≤ ((r1 + (hI h q2 (2))) - r4) then (Option.bind (f_X8_wideOf h v0 v1) (fun r6 => Option.bind (f_X8_wideOf h v0 v2) (fun r7 => if (r6 + r7) ≤ 0 then (some ((r1 + (hI h q2 (2))) - r4)) else (some ((2 : Int32) * ((r1 + (hI h q2 (2))) - r4)))))) else (some (0 : Int32)))) else none))
set_option maxHeartbeats 4000000 in
set_option maxRecDepth 100000 in
theorem p_X8_needOf {X : XT} {r : Int32} (C : CX X cX8_needOf "WaterStairModel" 4 (some .int) rmX8_needOf) {h : Hp} {v0 : Nat} {v1 : Int32} {v2 : Int32} (hQ : QX X (some (vI r)) h rmX8_needOf.cells rmX8_needOf.slots) (hf : f_X8_needOf h v0 v1 v2 = some r) : V X 0 0 h 0 [(0, vR 8 (some v0)), (1, vI v1), (2, vI v2)] [] := by
  unfold f_X8_needOf at hf
  refine V_aload_n C dX8_needOf_0 rfl 0 rfl ?_
  refine V_iload_n C dX8_needOf_1 rfl 2 rfl ?_
  obtain ⟨r1, er1, hf⟩ := o_b hf
  refine V_callV (as := [vI v2]) (st := []) C ml_X8_321 fx8 (ct_X8_weightOf er1) rfl ⟨by decide, by decide, by decide, by decide⟩ (Nat.le_of_ble_eq_true rfl) rfl dX8_needOf_2 (cs' := 0) (sl' := 0) rfl rfl ?_
  refine V_aload_n C dX8_needOf_5 rfl 0 rfl ?_
  obtain ⟨q2, eq2, hf⟩ := o_b hf
  refine V_getR C fl_X8_42 rfl rfl (by decide) eq2 dX8_needOf_6 ?_
  refine V_iconst (v := (2 : Int32)) C dX8_needOf_9 (by decide) ?_
  obtain ⟨g3, hf⟩ := o_if hf
  refine V_iald C (vp_k (by decide) (by decide) g3) (by decide : Int32.toNatClampNeg (2 : Int32) = 2) dX8_needOf_10 ?_
  refine V_iadd C dX8_needOf_11 ?_
  refine V_aload_n C dX8_needOf_12 rfl 0 rfl ?_
  refine V_iload_n C dX8_needOf_13 rfl 1 rfl ?_
  obtain ⟨r4, er4, hf⟩ := o_b hf
  refine V_callV (as := [vI v1]) (st := [vI (r1 + (hI h q2 (2)))]) C ml_X8_321 fx8 (ct_X8_weightOf er4) rfl ⟨by decide, by decide, by decide, by decide⟩ (Nat.le_of_ble_eq_true rfl) rfl dX8_needOf_14 (cs' := 0) (sl' := 0) rfl rfl ?_
  refine V_isub C dX8_needOf_17 ?_
  refine V_istore_n (lv' := [(3, vI ((r1 + (hI h q2 (2))) - r4)), (0, vR 8 (some v0)), (1, vI v1), (2, vI v2)]) C dX8_needOf_18 rfl (by decide) rfl ?_
  refine V_iload_n C dX8_needOf_19 rfl 0 rfl ?_
  refine V_if_ge C 27 dX8_needOf_20 (by decide) (fun c5 => ?_) (fun c5 => ?_)
  · have hf := i_t c5 hf
    refine V_aload_n C dX8_needOf_27 rfl 1 rfl ?_
    refine V_iload_n C dX8_needOf_28 rfl 2 rfl ?_
    obtain ⟨r6, er6, hf⟩ := o_b hf
    refine V_callV (as := [vI v1]) (st := []) C ml_X8_324 fx8 (ct_X8_wideOf er6) rfl ⟨by decide, by decide, by decide, by decide⟩ (Nat.le_of_ble_eq_true rfl) rfl dX8_needOf_29 (cs' := 0) (sl' := 0) rfl rfl ?_
    refine V_aload_n C dX8_needOf_32 rfl 1 rfl ?_
    refine V_iload_n C dX8_needOf_33 rfl 3 rfl ?_
    obtain ⟨r7, er7, hf⟩ := o_b hf
    refine V_callV (as := [vI v2]) (st := [vI r6]) C ml_X8_324 fx8 (ct_X8_wideOf er7) rfl ⟨by decide, by decide, by decide, by decide⟩ (Nat.le_of_ble_eq_true rfl) rfl dX8_needOf_34 (cs' := 0) (sl' := 0) rfl rfl ?_
    refine V_iadd C dX8_needOf_37 ?_
    refine V_if_le C 47 dX8_needOf_38 (by decide) (fun c8 => ?_) (fun c8 => ?_)
    · have hf := i_t c8 hf
      refine V_iload_n C dX8_needOf_47 rfl 0 rfl ?_
      have hf := Option.some.inj hf
      subst hf
      exact V_iret C hQ dX8_needOf_48
    · have hf := i_f c8 hf
      refine V_iconst (v := (2 : Int32)) C dX8_needOf_41 (by decide) ?_
      refine V_iload_n C dX8_needOf_42 rfl 0 rfl ?_
      refine V_imul C dX8_needOf_43 ?_
      refine V_goto C 48 dX8_needOf_44 (by decide) ?_
      have hf := Option.some.inj hf
      subst hf
      exact V_iret C hQ dX8_needOf_48
  · have hf := i_f c5 hf
    refine V_iconst (v := (0 : Int32)) C dX8_needOf_23 (by decide) ?_
    refine V_goto C 48 dX8_needOf_24 (by decide) ?_
    have hf := Option.some.inj hf
    subst hf
    exact V_iret C hQ dX8_needOf_48
theorem ct_X8_needOf {r : Int32} {h : Hp} {v0 : Nat} {v1 : Int32} {v2 : Int32} (hf : f_X8_needOf h v0 v1 v2 = some r) (l : Launch) (G : GT) : MC l G yX8_needOf cX8_needOf 4 (some .int) rmX8_needOf h [vR 8 (some v0), vI v1, vI v2] (some (vI r)) h := MC_of (by decide) rfl (Nat.le_of_ble_eq_true rfl) rfl (fun X C hQ hin => p_X8_needOf C hQ hf)
abbrev rmX8_isThere : Room := { frames := 1, cells := 0, slots := 0, locals := 22 }
def f_X8_isThere (h : Hp) (v0 : Nat) (v1 : Int32) (v2 : Int32) (v3 : Int32) : Option (Int32) := if v1 < 0 then (some (1 : Int32)) else (Option.bind (f_X8_bargeOf h v0 v1 (4 : Int32)) (fun r2 => if r2 = v2 then (Option.bind (f_X8_bargeOf h v0 v1 (2 : Int32)) (fun r4 => if r4 = v3 then (some (1 : Int32)) else (some (0 : Int32)))) else (some (0 : Int32))))
set_option maxHeartbeats 4000000 in
set_option maxRecDepth 100000 in
theorem p_X8_isThere {X : XT} {r : Int32} (C : CX X cX8_isThere "WaterStairModel" 4 (some .boolean) rmX8_isThere) {h : Hp} {v0 : Nat} {v1 : Int32} {v2 : Int32} {v3 : Int32} (hQ : QX X (some (vI r)) h rmX8_isThere.cells rmX8_isThere.slots) (hf : f_X8_isThere h v0 v1 v2 v3 = some r) : V X 0 0 h 0 [(0, vR 8 (some v0)), (1, vI v1), (2, vI v2), (3, vI v3)] [] := by
  unfold f_X8_isThere at hf
  refine V_iload_n C dX8_isThere_0 rfl 1 rfl ?_
  refine V_if_lt C 24 dX8_isThere_1 (by decide) (fun c1 => ?_) (fun c1 => ?_)
  · have hf := i_t c1 hf
    refine V_iconst (v := (1 : Int32)) C dX8_isThere_24 (by decide) ?_
    refine V_goto C 29 dX8_isThere_25 (by decide) ?_
    have hf := Option.some.inj hf
    subst hf
    exact V_zret C (by decide) hQ dX8_isThere_29
  · have hf := i_f c1 hf
    refine V_aload_n C dX8_isThere_4 rfl 0 rfl ?_
    refine V_iload_n C dX8_isThere_5 rfl 1 rfl ?_
    refine V_iconst (v := (4 : Int32)) C dX8_isThere_6 (by decide) ?_
    obtain ⟨r2, er2, hf⟩ := o_b hf
    refine V_callV (as := [vI v1, vI (4 : Int32)]) (st := []) C ml_X8_295 fx8 (ct_X8_bargeOf er2) rfl ⟨by decide, by decide, by decide, by decide⟩ (Nat.le_of_ble_eq_true rfl) rfl dX8_isThere_7 (cs' := 0) (sl' := 0) rfl rfl ?_
    refine V_iload_n C dX8_isThere_10 rfl 2 rfl ?_
    refine V_icmp_ne C 28 dX8_isThere_11 (by decide) (fun c3 => ?_) (fun c3 => ?_)
    · have hf := i_f c3 hf
      refine V_iconst (v := (0 : Int32)) C dX8_isThere_28 (by decide) ?_
      have hf := Option.some.inj hf
      subst hf
      exact V_zret C (by decide) hQ dX8_isThere_29
    · have hf := i_t c3 hf
      refine V_aload_n C dX8_isThere_14 rfl 0 rfl ?_
      refine V_iload_n C dX8_isThere_15 rfl 1 rfl ?_
      refine V_iconst (v := (2 : Int32)) C dX8_isThere_16 (by decide) ?_
      obtain ⟨r4, er4, hf⟩ := o_b hf
      refine V_callV (as := [vI v1, vI (2 : Int32)]) (st := []) C ml_X8_295 fx8 (ct_X8_bargeOf er4) rfl ⟨by decide, by decide, by decide, by decide⟩ (Nat.le_of_ble_eq_true rfl) rfl dX8_isThere_17 (cs' := 0) (sl' := 0) rfl rfl ?_
      refine V_iload_n C dX8_isThere_20 rfl 3 rfl ?_
      refine V_icmp_ne C 28 dX8_isThere_21 (by decide) (fun c5 => ?_) (fun c5 => ?_)
      · have hf := i_f c5 hf
        refine V_iconst (v := (0 : Int32)) C dX8_isThere_28 (by decide) ?_
        have hf := Option.some.inj hf
        subst hf
        exact V_zret C (by decide) hQ dX8_isThere_29
      · have hf := i_t c5 hf
        refine V_iconst (v := (1 : Int32)) C dX8_isThere_24 (by decide) ?_
        refine V_goto C 29 dX8_isThere_25 (by decide) ?_
        have hf := Option.some.inj hf
        subst hf
        exact V_zret C (by decide) hQ dX8_isThere_29
theorem ct_X8_isThere {r : Int32} {h : Hp} {v0 : Nat} {v1 : Int32} {v2 : Int32} {v3 : Int32} (hf : f_X8_isThere h v0 v1 v2 v3 = some r) (l : Launch) (G : GT) : MC l G yX8_isThere cX8_isThere 4 (some .boolean) rmX8_isThere h [vR 8 (some v0), vI v1, vI v2, vI v3] (some (vI r)) h := MC_of (by decide) rfl (Nat.le_of_ble_eq_true rfl) rfl (fun X C hQ hin => p_X8_isThere C hQ hf)
abbrev rmX8_areSeats : Room := { frames := 0, cells := 0, slots := 0, locals := 0 }
def f_X8_areSeats (h : Hp) (v0 : Nat) (v1 : Int32) (v2 : Int32) : Option (Int32) := if v1 = 0 then (some (1 : Int32)) else (Option.bind (hP h v0 26) (fun q2 => if 0 < hL h q2 then (if v1 = ((hI h q2 (0)) - (1 : Int32)) then (some (1 : Int32)) else (Option.bind (hP h v0 26) (fun q5 => if 0 ≤ ((9 : Int32) + ((2 : Int32) * v1)) + (1 : Int32) ∧ (((9 : Int32) + ((2 : Int32) * v1)) + (1 : Int32)).toNatClampNeg < hL h q5 then (if (hI h q5 ((((9 : Int32) + ((2 : Int32) * v1)) + (1 : Int32)).toNatClampNeg)) < v2 then (some (0 : Int32)) else (some (1 : Int32))) else none))) else none))
set_option maxHeartbeats 4000000 in
set_option maxRecDepth 100000 in
theorem p_X8_areSeats {X : XT} {r : Int32} (C : CX X cX8_areSeats "WaterStairModel" 3 (some .boolean) rmX8_areSeats) {h : Hp} {v0 : Nat} {v1 : Int32} {v2 : Int32} (hQ : QX X (some (vI r)) h rmX8_areSeats.cells rmX8_areSeats.slots) (hf : f_X8_areSeats h v0 v1 v2 = some r) : V X 0 0 h 0 [(0, vR 8 (some v0)), (1, vI v1), (2, vI v2)] [] := by
  unfold f_X8_areSeats at hf
  refine V_iload_n C dX8_areSeats_0 rfl 1 rfl ?_
  refine V_if_eq C 33 dX8_areSeats_1 (by decide) (fun c1 => ?_) (fun c1 => ?_)
  · have hf := i_t c1 hf
    refine V_iconst (v := (1 : Int32)) C dX8_areSeats_33 (by decide) ?_
    refine V_goto C 38 dX8_areSeats_34 (by decide) ?_
    have hf := Option.some.inj hf
    subst hf
    exact V_zret C (by decide) hQ dX8_areSeats_38
  · have hf := i_f c1 hf
    refine V_iload_n C dX8_areSeats_4 rfl 1 rfl ?_
    refine V_aload_n C dX8_areSeats_5 rfl 0 rfl ?_
    obtain ⟨q2, eq2, hf⟩ := o_b hf
    refine V_getR C fl_X8_42 rfl rfl (by decide) eq2 dX8_areSeats_6 ?_
    refine V_iconst (v := (0 : Int32)) C dX8_areSeats_9 (by decide) ?_
    obtain ⟨g3, hf⟩ := o_if hf
    refine V_iald C (vp_k (by decide) (by decide) g3) (by decide : Int32.toNatClampNeg (0 : Int32) = 0) dX8_areSeats_10 ?_
    refine V_iconst (v := (1 : Int32)) C dX8_areSeats_11 (by decide) ?_
    refine V_isub C dX8_areSeats_12 ?_
    refine V_icmp_eq C 33 dX8_areSeats_13 (by decide) (fun c4 => ?_) (fun c4 => ?_)
    · have hf := i_t c4 hf
      refine V_iconst (v := (1 : Int32)) C dX8_areSeats_33 (by decide) ?_
      refine V_goto C 38 dX8_areSeats_34 (by decide) ?_
      have hf := Option.some.inj hf
      subst hf
      exact V_zret C (by decide) hQ dX8_areSeats_38
    · have hf := i_f c4 hf
      refine V_iload_n C dX8_areSeats_16 rfl 2 rfl ?_
      refine V_aload_n C dX8_areSeats_17 rfl 0 rfl ?_
      obtain ⟨q5, eq5, hf⟩ := o_b hf
      refine V_getR C fl_X8_42 rfl rfl (by decide) eq5 dX8_areSeats_18 ?_
      refine V_bipush (v := (9 : Int32)) C dX8_areSeats_21 (by decide) ?_
      refine V_iconst (v := (2 : Int32)) C dX8_areSeats_23 (by decide) ?_
      refine V_iload_n C dX8_areSeats_24 rfl 1 rfl ?_
      refine V_imul C dX8_areSeats_25 ?_
      refine V_iadd C dX8_areSeats_26 ?_
      refine V_iconst (v := (1 : Int32)) C dX8_areSeats_27 (by decide) ?_
      refine V_iadd C dX8_areSeats_28 ?_
      obtain ⟨g6, hf⟩ := o_if hf
      refine V_iald C (vp_g g6) rfl dX8_areSeats_29 ?_
      refine V_icmp_gt C 37 dX8_areSeats_30 (by decide) (fun c7 => ?_) (fun c7 => ?_)
      · have hf := i_t c7 hf
        refine V_iconst (v := (0 : Int32)) C dX8_areSeats_37 (by decide) ?_
        have hf := Option.some.inj hf
        subst hf
        exact V_zret C (by decide) hQ dX8_areSeats_38
      · have hf := i_f c7 hf
        refine V_iconst (v := (1 : Int32)) C dX8_areSeats_33 (by decide) ?_
        refine V_goto C 38 dX8_areSeats_34 (by decide) ?_
        have hf := Option.some.inj hf
        subst hf
        exact V_zret C (by decide) hQ dX8_areSeats_38
theorem ct_X8_areSeats {r : Int32} {h : Hp} {v0 : Nat} {v1 : Int32} {v2 : Int32} (hf : f_X8_areSeats h v0 v1 v2 = some r) (l : Launch) (G : GT) : MC l G yX8_areSeats cX8_areSeats 3 (some .boolean) rmX8_areSeats h [vR 8 (some v0), vI v1, vI v2] (some (vI r)) h := MC_of (by decide) rfl (Nat.le_of_ble_eq_true rfl) rfl (fun X C hQ hin => p_X8_areSeats C hQ hf)
abbrev rmX8_isBarred : Room := { frames := 3, cells := 0, slots := 0, locals := 66 }
def f_X8_isBarred_153 (N : Nat) : Nat → Hp → Nat → Int32 → Option (Int32 × Hp)
  | 0, _, _, _ => none
  | n + 1, h, v0, v4 => Option.bind (hP h v0 6) (fun q1 => Option.bind (hP h v0 26) (fun q2 => if 8 < hL h q2 then (if 0 ≤ hI h q2 (8) ∧ (hI h q2 (8)).toNatClampNeg < hL h q1 then (if (hI h q1 ((hI h q2 (8)).toNatClampNeg)) ≤ v4 then (some (((0 : Int32), h))) else (Option.bind (hP h v0 26) (fun q6 => if 8 < hL h q6 then (lt (((24 : Int32) * (hI h q6 (8))) + ((2 : Int32) * v4)) (fun y8 => Option.bind (hP h v0 26) (fun q9 => if 8 < hL h q9 then (Option.bind (hP h v0 5) (fun q11 => if 0 ≤ y8 ∧ y8.toNatClampNeg < hL h q11 then (Option.bind (hP h v0 5) (fun q13 => if 0 ≤ y8 + (1 : Int32) ∧ (y8 + (1 : Int32)).toNatClampNeg < hL h q13 then (b2 (f_X8_reckons N h v0 (hI h q9 (8)) (hI h q11 (y8.toNatClampNeg)) (hI h q13 ((y8 + (1 : Int32)).toNatClampNeg))) (fun r15 h16 => if lg_cmp r15 (1 : Int64) = 0 then (some (((1 : Int32), h16))) else (f_X8_isBarred_153 N n h16 v0 (v4 + (1 : Int32))))) else none)) else none)) else none))) else none))) else none) else none))
set_option maxHeartbeats 4000000 in
set_option maxRecDepth 100000 in
theorem p_X8_isBarred_153 {X : XT} {r : Int32} {h' : Hp} (C : CX X cX8_isBarred "WaterStairModel" 6 (some .boolean) rmX8_isBarred) (hQ : QX X (some (vI r)) h' rmX8_isBarred.cells rmX8_isBarred.slots) {N : Nat}  : ∀ (n : Nat) (h : Hp) (v0 : Nat) (v4 : Int32), f_X8_isBarred_153 N n h v0 v4 = some ((r, h')) → V X 0 0 h 153 [(0, vR 8 (some v0)), (4, vI v4)] [] := by
  intro n
  induction n with
  | zero =>
    intro h v0 v4 hf
    have hf : (none : Option (Int32 × Hp)) = some _ := hf
    cases hf
  | succ n ih =>
    intro h v0 v4 hf
    rw [f_X8_isBarred_153] at hf
    refine V_iload C dX8_isBarred_153 1 rfl ?_
    refine V_aload_n C dX8_isBarred_155 rfl 0 rfl ?_
    obtain ⟨q1, eq1, hf⟩ := o_b hf
    refine V_getR C fl_X8_23 rfl rfl (by decide) eq1 dX8_isBarred_156 ?_
    refine V_aload_n C dX8_isBarred_159 rfl 0 rfl ?_
    obtain ⟨q2, eq2, hf⟩ := o_b hf
    refine V_getR C fl_X8_42 rfl rfl (by decide) eq2 dX8_isBarred_160 ?_
    refine V_bipush (v := (8 : Int32)) C dX8_isBarred_163 (by decide) ?_
    obtain ⟨g3, hf⟩ := o_if hf
    refine V_iald C (vp_k (by decide) (by decide) g3) (by decide : Int32.toNatClampNeg (8 : Int32) = 8) dX8_isBarred_165 ?_
    obtain ⟨g4, hf⟩ := o_if hf
    refine V_iald C (vp_g g4) rfl dX8_isBarred_166 ?_
    refine V_icmp_ge C 227 dX8_isBarred_167 (by decide) (fun c5 => ?_) (fun c5 => ?_)
    · have hf := i_t c5 hf
      refine V_iconst (v := (0 : Int32)) C dX8_isBarred_227 (by decide) ?_
      obtain ⟨hf1, hf2⟩ := Prod.mk.inj (Option.some.inj hf)
      subst hf1
      subst hf2
      exact V_zret C (by decide) hQ dX8_isBarred_228
    · have hf := i_f c5 hf
      refine V_bipush (v := (24 : Int32)) C dX8_isBarred_170 (by decide) ?_
      refine V_aload_n C dX8_isBarred_172 rfl 0 rfl ?_
      obtain ⟨q6, eq6, hf⟩ := o_b hf
      refine V_getR C fl_X8_42 rfl rfl (by decide) eq6 dX8_isBarred_173 ?_
      refine V_bipush (v := (8 : Int32)) C dX8_isBarred_176 (by decide) ?_
      obtain ⟨g7, hf⟩ := o_if hf
      refine V_iald C (vp_k (by decide) (by decide) g7) (by decide : Int32.toNatClampNeg (8 : Int32) = 8) dX8_isBarred_178 ?_
      refine V_imul C dX8_isBarred_179 ?_
      refine V_iconst (v := (2 : Int32)) C dX8_isBarred_180 (by decide) ?_
      refine V_iload C dX8_isBarred_181 1 rfl ?_
      refine V_imul C dX8_isBarred_183 ?_
      refine V_iadd C dX8_isBarred_184 ?_
      obtain ⟨y8, ey8, hf⟩ := o_l hf
      refine V_eqI ey8 ?_
      refine V_istore (lv' := [(5, vI y8), (0, vR 8 (some v0)), (4, vI v4)]) C dX8_isBarred_185 (by decide) rfl ?_
      refine V_aload_n C dX8_isBarred_187 rfl 1 rfl ?_
      refine V_aload_n C dX8_isBarred_188 rfl 1 rfl ?_
      obtain ⟨q9, eq9, hf⟩ := o_b hf
      refine V_getR C fl_X8_42 rfl rfl (by decide) eq9 dX8_isBarred_189 ?_
      refine V_bipush (v := (8 : Int32)) C dX8_isBarred_192 (by decide) ?_
      obtain ⟨g10, hf⟩ := o_if hf
      refine V_iald C (vp_k (by decide) (by decide) g10) (by decide : Int32.toNatClampNeg (8 : Int32) = 8) dX8_isBarred_194 ?_
      refine V_aload_n C dX8_isBarred_195 rfl 1 rfl ?_
      obtain ⟨q11, eq11, hf⟩ := o_b hf
      refine V_getR C fl_X8_20 rfl rfl (by decide) eq11 dX8_isBarred_196 ?_
      refine V_iload C dX8_isBarred_199 0 rfl ?_
      obtain ⟨g12, hf⟩ := o_if hf
      refine V_iald C (vp_g g12) rfl dX8_isBarred_201 ?_
      refine V_aload_n C dX8_isBarred_202 rfl 1 rfl ?_
      obtain ⟨q13, eq13, hf⟩ := o_b hf
      refine V_getR C fl_X8_20 rfl rfl (by decide) eq13 dX8_isBarred_203 ?_
      refine V_iload C dX8_isBarred_206 0 rfl ?_
      refine V_iconst (v := (1 : Int32)) C dX8_isBarred_208 (by decide) ?_
      refine V_iadd C dX8_isBarred_209 ?_
      obtain ⟨g14, hf⟩ := o_if hf
      refine V_iald C (vp_g g14) rfl dX8_isBarred_210 ?_
      obtain ⟨r15, h16, er15, hf⟩ := o_b2 hf
      refine V_callV (as := [vI (hI h q9 (8)), vI (hI h q11 (y8.toNatClampNeg)), vI (hI h q13 ((y8 + (1 : Int32)).toNatClampNeg))]) (st := []) C ml_X8_336 fx8 (ct_X8_reckons er15) rfl ⟨by decide, by decide, by decide, by decide⟩ (Nat.le_of_ble_eq_true rfl) rfl dX8_isBarred_211 (cs' := 0) (sl' := 0) rfl rfl ?_
      refine V_lconst (v := (1 : Int64)) C dX8_isBarred_214 (by decide) ?_
      refine V_lcmp C dX8_isBarred_215 ?_
      refine V_if_ne C 221 dX8_isBarred_216 (by decide) (fun c17 => ?_) (fun c17 => ?_)
      · have hf := i_f c17 hf
        refine V_iinc (lv' := [(4, vI (v4 + (1 : Int32))), (5, vI y8), (0, vR 8 (some v0))]) C dX8_isBarred_221 2 rfl (congrArg (v4 + ·) (by decide : Int32.ofInt (1) = (1 : Int32))) (by decide) rfl ?_
        refine V_goto C 153 dX8_isBarred_224 (by decide) ?_
        refine V_sub (lv' := [(0, vR 8 (some v0)), (4, vI (v4 + (1 : Int32)))]) [2, 0] rfl ?_
        exact ih _ _ _ hf
      · have hf := i_t c17 hf
        refine V_iconst (v := (1 : Int32)) C dX8_isBarred_219 (by decide) ?_
        obtain ⟨hf1, hf2⟩ := Prod.mk.inj (Option.some.inj hf)
        subst hf1
        subst hf2
        exact V_zret C (by decide) hQ dX8_isBarred_220
def f_X8_isBarred (N : Nat) (h : Hp) (v0 : Nat) (v1 : Int32) (v2 : Int32) (v3 : Int32) : Option (Int32 × Hp) := Option.bind (hP h v0 26) (fun q18 => if 8 < hL h q18 then (if 0 ≤ (hI h q18 (8)) then (Option.bind (hP h v0 25) (fun q21 => if 0 < hL h q21 then (lt (sJ h q21 (0) (v1.toInt64)) (fun h23 => Option.bind (hP h23 v0 25) (fun q24 => Option.bind (f_X8_weightOf h23 v0 v2) (fun r25 => if 1 < hL h23 q24 then (lt (sJ h23 q24 (1) (r25.toInt64)) (fun h27 => Option.bind (hP h27 v0 25) (fun q28 => Option.bind (f_X8_weightOf h27 v0 v3) (fun r29 => if 2 < hL h27 q28 then (lt (sJ h27 q28 (2) (r29.toInt64)) (fun h31 => Option.bind (hP h31 v0 25) (fun q32 => Option.bind (f_X8_needOf h31 v0 v2 v3) (fun r33 => if 3 < hL h31 q32 then (lt (sJ h31 q32 (3) (r33.toInt64)) (fun h35 => Option.bind (hP h35 v0 25) (fun q36 => Option.bind (f_X8_waterOf h35 v0 v1) (fun r37 => if 4 < hL h35 q36 then (lt (sJ h35 q36 (4) (r37.toInt64)) (fun h39 => Option.bind (hP h39 v0 25) (fun q40 => Option.bind (f_X8_waterOf h39 v0 (v1 + (1 : Int32))) (fun r41 => if 5 < hL h39 q40 then (lt (sJ h39 q40 (5) (r41.toInt64)) (fun h43 => Option.bind (hP h43 v0 25) (fun q44 => Option.bind (f_X8_atLevel N h43 v0 v1) (fun r45 => Option.bind (f_X8_bits N h43 r45) (fun r46 => if 6 < hL h43 q44 then (lt (sJ h43 q44 (6) (r46.toInt64)) (fun h48 => Option.bind (hP h48 v0 25) (fun q49 => Option.bind (f_X8_atLevel N h48 v0 (v1 + (1 : Int32))) (fun r50 => Option.bind (f_X8_bits N h48 r50) (fun r51 => if 7 < hL h48 q49 then (lt (sJ h48 q49 (7) (r51.toInt64)) (fun h53 => Option.bind (hP h53 v0 25) (fun q54 => Option.bind (f_X8_wideOf h53 v0 v2) (fun r55 => Option.bind (f_X8_wideOf h53 v0 v3) (fun r56 => if 8 < hL h53 q54 then (lt (sJ h53 q54 (8) ((r55 + r56).toInt64)) (fun h58 => Option.bind (hP h58 v0 25) (fun q59 => Option.bind (hP h58 v0 26) (fun q60 => if 3 < hL h58 q60 then (if 9 < hL h58 q59 then (lt (sJ h58 q59 (9) ((hI h58 q60 (3)).toInt64)) (fun h63 => f_X8_isBarred_153 N N h63 v0 (0 : Int32))) else none) else none)))) else none))))) else none))))) else none))))) else none)))) else none)))) else none)))) else none)))) else none)))) else none)) else (some (((0 : Int32), h)))) else none)
set_option maxHeartbeats 4000000 in
set_option maxRecDepth 100000 in
theorem p_X8_isBarred {X : XT} {r : Int32} {h' : Hp} (C : CX X cX8_isBarred "WaterStairModel" 6 (some .boolean) rmX8_isBarred) {N : Nat} {h : Hp} {v0 : Nat} {v1 : Int32} {v2 : Int32} {v3 : Int32} (hQ : QX X (some (vI r)) h' rmX8_isBarred.cells rmX8_isBarred.slots) (hf : f_X8_isBarred N h v0 v1 v2 v3 = some ((r, h'))) : V X 0 0 h 0 [(0, vR 8 (some v0)), (1, vI v1), (2, vI v2), (3, vI v3)] [] := by
  unfold f_X8_isBarred at hf
  refine V_aload_n C dX8_isBarred_0 rfl 0 rfl ?_
  obtain ⟨q18, eq18, hf⟩ := o_b hf
  refine V_getR C fl_X8_42 rfl rfl (by decide) eq18 dX8_isBarred_1 ?_
  refine V_bipush (v := (8 : Int32)) C dX8_isBarred_4 (by decide) ?_
  obtain ⟨g19, hf⟩ := o_if hf
  refine V_iald C (vp_k (by decide) (by decide) g19) (by decide : Int32.toNatClampNeg (8 : Int32) = 8) dX8_isBarred_6 ?_
  refine V_if_ge C 12 dX8_isBarred_7 (by decide) (fun c20 => ?_) (fun c20 => ?_)
  · have hf := i_t c20 hf
    refine V_aload_n C dX8_isBarred_12 rfl 0 rfl ?_
    obtain ⟨q21, eq21, hf⟩ := o_b hf
    refine V_getR C fl_X8_39 rfl rfl (by decide) eq21 dX8_isBarred_13 ?_
    refine V_iconst (v := (0 : Int32)) C dX8_isBarred_16 (by decide) ?_
    refine V_iload_n C dX8_isBarred_17 rfl 1 rfl ?_
    refine V_i2l C dX8_isBarred_18 ?_
    obtain ⟨g22, hf⟩ := o_if hf
    obtain ⟨h23, eh23, hf⟩ := o_l hf
    refine V_last C (vp_k (by decide) (by decide) g22) (by decide : Int32.toNatClampNeg (0 : Int32) = 0) dX8_isBarred_19 (V_eqH eh23 ?_)
    refine V_aload_n C dX8_isBarred_20 rfl 0 rfl ?_
    obtain ⟨q24, eq24, hf⟩ := o_b hf
    refine V_getR C fl_X8_39 rfl rfl (by decide) eq24 dX8_isBarred_21 ?_
    refine V_iconst (v := (1 : Int32)) C dX8_isBarred_24 (by decide) ?_
    refine V_aload_n C dX8_isBarred_25 rfl 0 rfl ?_
    refine V_iload_n C dX8_isBarred_26 rfl 2 rfl ?_
    obtain ⟨r25, er25, hf⟩ := o_b hf
    refine V_callV (as := [vI v2]) (st := [vI (1 : Int32), vR 11 (some q24)]) C ml_X8_321 fx8 (ct_X8_weightOf er25) rfl ⟨by decide, by decide, by decide, by decide⟩ (Nat.le_of_ble_eq_true rfl) rfl dX8_isBarred_27 (cs' := 0) (sl' := 0) rfl rfl ?_
    refine V_i2l C dX8_isBarred_30 ?_
    obtain ⟨g26, hf⟩ := o_if hf
    obtain ⟨h27, eh27, hf⟩ := o_l hf
    refine V_last C (vp_k (by decide) (by decide) g26) (by decide : Int32.toNatClampNeg (1 : Int32) = 1) dX8_isBarred_31 (V_eqH eh27 ?_)
    refine V_aload_n C dX8_isBarred_32 rfl 0 rfl ?_
    obtain ⟨q28, eq28, hf⟩ := o_b hf
    refine V_getR C fl_X8_39 rfl rfl (by decide) eq28 dX8_isBarred_33 ?_
    refine V_iconst (v := (2 : Int32)) C dX8_isBarred_36 (by decide) ?_
    refine V_aload_n C dX8_isBarred_37 rfl 0 rfl ?_
    refine V_iload_n C dX8_isBarred_38 rfl 3 rfl ?_
    obtain ⟨r29, er29, hf⟩ := o_b hf
    refine V_callV (as := [vI v3]) (st := [vI (2 : Int32), vR 11 (some q28)]) C ml_X8_321 fx8 (ct_X8_weightOf er29) rfl ⟨by decide, by decide, by decide, by decide⟩ (Nat.le_of_ble_eq_true rfl) rfl dX8_isBarred_39 (cs' := 0) (sl' := 0) rfl rfl ?_
    refine V_i2l C dX8_isBarred_42 ?_
    obtain ⟨g30, hf⟩ := o_if hf
    obtain ⟨h31, eh31, hf⟩ := o_l hf
    refine V_last C (vp_k (by decide) (by decide) g30) (by decide : Int32.toNatClampNeg (2 : Int32) = 2) dX8_isBarred_43 (V_eqH eh31 ?_)
    refine V_aload_n C dX8_isBarred_44 rfl 0 rfl ?_
    obtain ⟨q32, eq32, hf⟩ := o_b hf
    refine V_getR C fl_X8_39 rfl rfl (by decide) eq32 dX8_isBarred_45 ?_
    refine V_iconst (v := (3 : Int32)) C dX8_isBarred_48 (by decide) ?_
    refine V_aload_n C dX8_isBarred_49 rfl 0 rfl ?_
    refine V_iload_n C dX8_isBarred_50 rfl 2 rfl ?_
    refine V_iload_n C dX8_isBarred_51 rfl 3 rfl ?_
    obtain ⟨r33, er33, hf⟩ := o_b hf
    refine V_callV (as := [vI v2, vI v3]) (st := [vI (3 : Int32), vR 11 (some q32)]) C ml_X8_327 fx8 (ct_X8_needOf er33) rfl ⟨by decide, by decide, by decide, by decide⟩ (Nat.le_of_ble_eq_true rfl) rfl dX8_isBarred_52 (cs' := 0) (sl' := 0) rfl rfl ?_
    refine V_i2l C dX8_isBarred_55 ?_
    obtain ⟨g34, hf⟩ := o_if hf
    obtain ⟨h35, eh35, hf⟩ := o_l hf
    refine V_last C (vp_k (by decide) (by decide) g34) (by decide : Int32.toNatClampNeg (3 : Int32) = 3) dX8_isBarred_56 (V_eqH eh35 ?_)
    refine V_aload_n C dX8_isBarred_57 rfl 0 rfl ?_
    obtain ⟨q36, eq36, hf⟩ := o_b hf
    refine V_getR C fl_X8_39 rfl rfl (by decide) eq36 dX8_isBarred_58 ?_
    refine V_iconst (v := (4 : Int32)) C dX8_isBarred_61 (by decide) ?_
    refine V_aload_n C dX8_isBarred_62 rfl 0 rfl ?_
    refine V_iload_n C dX8_isBarred_63 rfl 1 rfl ?_
    obtain ⟨r37, er37, hf⟩ := o_b hf
    refine V_callV (as := [vI v1]) (st := [vI (4 : Int32), vR 11 (some q36)]) C ml_X8_330 fx8 (ct_X8_waterOf er37) rfl ⟨by decide, by decide, by decide, by decide⟩ (Nat.le_of_ble_eq_true rfl) rfl dX8_isBarred_64 (cs' := 0) (sl' := 0) rfl rfl ?_
    refine V_i2l C dX8_isBarred_67 ?_
    obtain ⟨g38, hf⟩ := o_if hf
    obtain ⟨h39, eh39, hf⟩ := o_l hf
    refine V_last C (vp_k (by decide) (by decide) g38) (by decide : Int32.toNatClampNeg (4 : Int32) = 4) dX8_isBarred_68 (V_eqH eh39 ?_)
    refine V_aload_n C dX8_isBarred_69 rfl 0 rfl ?_
    obtain ⟨q40, eq40, hf⟩ := o_b hf
    refine V_getR C fl_X8_39 rfl rfl (by decide) eq40 dX8_isBarred_70 ?_
    refine V_iconst (v := (5 : Int32)) C dX8_isBarred_73 (by decide) ?_
    refine V_aload_n C dX8_isBarred_74 rfl 0 rfl ?_
    refine V_iload_n C dX8_isBarred_75 rfl 1 rfl ?_
    refine V_iconst (v := (1 : Int32)) C dX8_isBarred_76 (by decide) ?_
    refine V_iadd C dX8_isBarred_77 ?_
    obtain ⟨r41, er41, hf⟩ := o_b hf
    refine V_callV (as := [vI (v1 + (1 : Int32))]) (st := [vI (5 : Int32), vR 11 (some q40)]) C ml_X8_330 fx8 (ct_X8_waterOf er41) rfl ⟨by decide, by decide, by decide, by decide⟩ (Nat.le_of_ble_eq_true rfl) rfl dX8_isBarred_78 (cs' := 0) (sl' := 0) rfl rfl ?_
    refine V_i2l C dX8_isBarred_81 ?_
    obtain ⟨g42, hf⟩ := o_if hf
    obtain ⟨h43, eh43, hf⟩ := o_l hf
    refine V_last C (vp_k (by decide) (by decide) g42) (by decide : Int32.toNatClampNeg (5 : Int32) = 5) dX8_isBarred_82 (V_eqH eh43 ?_)
    refine V_aload_n C dX8_isBarred_83 rfl 0 rfl ?_
    obtain ⟨q44, eq44, hf⟩ := o_b hf
    refine V_getR C fl_X8_39 rfl rfl (by decide) eq44 dX8_isBarred_84 ?_
    refine V_bipush (v := (6 : Int32)) C dX8_isBarred_87 (by decide) ?_
    refine V_aload_n C dX8_isBarred_89 rfl 0 rfl ?_
    refine V_iload_n C dX8_isBarred_90 rfl 1 rfl ?_
    obtain ⟨r45, er45, hf⟩ := o_b hf
    refine V_callV (as := [vI v1]) (st := [vI (6 : Int32), vR 11 (some q44)]) C ml_X8_310 fx8 (ct_X8_atLevel er45) rfl ⟨by decide, by decide, by decide, by decide⟩ (Nat.le_of_ble_eq_true rfl) rfl dX8_isBarred_91 (cs' := 0) (sl' := 0) rfl rfl ?_
    obtain ⟨r46, er46, hf⟩ := o_b hf
    refine V_callS (as := [vI r45]) (st := [vI (6 : Int32), vR 11 (some q44)]) C ml_X8_333 (ct_X8_bits er46) rfl ⟨by decide, by decide, by decide, by decide⟩ (Nat.le_of_ble_eq_true rfl) rfl dX8_isBarred_94 (cs' := 0) (sl' := 0) rfl rfl ?_
    refine V_i2l C dX8_isBarred_97 ?_
    obtain ⟨g47, hf⟩ := o_if hf
    obtain ⟨h48, eh48, hf⟩ := o_l hf
    refine V_last C (vp_k (by decide) (by decide) g47) (by decide : Int32.toNatClampNeg (6 : Int32) = 6) dX8_isBarred_98 (V_eqH eh48 ?_)
    refine V_aload_n C dX8_isBarred_99 rfl 0 rfl ?_
    obtain ⟨q49, eq49, hf⟩ := o_b hf
    refine V_getR C fl_X8_39 rfl rfl (by decide) eq49 dX8_isBarred_100 ?_
    refine V_bipush (v := (7 : Int32)) C dX8_isBarred_103 (by decide) ?_
    refine V_aload_n C dX8_isBarred_105 rfl 0 rfl ?_
    refine V_iload_n C dX8_isBarred_106 rfl 1 rfl ?_
    refine V_iconst (v := (1 : Int32)) C dX8_isBarred_107 (by decide) ?_
    refine V_iadd C dX8_isBarred_108 ?_
    obtain ⟨r50, er50, hf⟩ := o_b hf
    refine V_callV (as := [vI (v1 + (1 : Int32))]) (st := [vI (7 : Int32), vR 11 (some q49)]) C ml_X8_310 fx8 (ct_X8_atLevel er50) rfl ⟨by decide, by decide, by decide, by decide⟩ (Nat.le_of_ble_eq_true rfl) rfl dX8_isBarred_109 (cs' := 0) (sl' := 0) rfl rfl ?_
    obtain ⟨r51, er51, hf⟩ := o_b hf
    refine V_callS (as := [vI r50]) (st := [vI (7 : Int32), vR 11 (some q49)]) C ml_X8_333 (ct_X8_bits er51) rfl ⟨by decide, by decide, by decide, by decide⟩ (Nat.le_of_ble_eq_true rfl) rfl dX8_isBarred_112 (cs' := 0) (sl' := 0) rfl rfl ?_
    refine V_i2l C dX8_isBarred_115 ?_
    obtain ⟨g52, hf⟩ := o_if hf
    obtain ⟨h53, eh53, hf⟩ := o_l hf
    refine V_last C (vp_k (by decide) (by decide) g52) (by decide : Int32.toNatClampNeg (7 : Int32) = 7) dX8_isBarred_116 (V_eqH eh53 ?_)
    refine V_aload_n C dX8_isBarred_117 rfl 0 rfl ?_
    obtain ⟨q54, eq54, hf⟩ := o_b hf
    refine V_getR C fl_X8_39 rfl rfl (by decide) eq54 dX8_isBarred_118 ?_
    refine V_bipush (v := (8 : Int32)) C dX8_isBarred_121 (by decide) ?_
    refine V_aload_n C dX8_isBarred_123 rfl 0 rfl ?_
    refine V_iload_n C dX8_isBarred_124 rfl 2 rfl ?_
    obtain ⟨r55, er55, hf⟩ := o_b hf
    refine V_callV (as := [vI v2]) (st := [vI (8 : Int32), vR 11 (some q54)]) C ml_X8_324 fx8 (ct_X8_wideOf er55) rfl ⟨by decide, by decide, by decide, by decide⟩ (Nat.le_of_ble_eq_true rfl) rfl dX8_isBarred_125 (cs' := 0) (sl' := 0) rfl rfl ?_
    refine V_aload_n C dX8_isBarred_128 rfl 0 rfl ?_
    refine V_iload_n C dX8_isBarred_129 rfl 3 rfl ?_
    obtain ⟨r56, er56, hf⟩ := o_b hf
    refine V_callV (as := [vI v3]) (st := [vI r55, vI (8 : Int32), vR 11 (some q54)]) C ml_X8_324 fx8 (ct_X8_wideOf er56) rfl ⟨by decide, by decide, by decide, by decide⟩ (Nat.le_of_ble_eq_true rfl) rfl dX8_isBarred_130 (cs' := 0) (sl' := 0) rfl rfl ?_
    refine V_iadd C dX8_isBarred_133 ?_
    refine V_i2l C dX8_isBarred_134 ?_
    obtain ⟨g57, hf⟩ := o_if hf
    obtain ⟨h58, eh58, hf⟩ := o_l hf
    refine V_last C (vp_k (by decide) (by decide) g57) (by decide : Int32.toNatClampNeg (8 : Int32) = 8) dX8_isBarred_135 (V_eqH eh58 ?_)
    refine V_aload_n C dX8_isBarred_136 rfl 0 rfl ?_
    obtain ⟨q59, eq59, hf⟩ := o_b hf
    refine V_getR C fl_X8_39 rfl rfl (by decide) eq59 dX8_isBarred_137 ?_
    refine V_bipush (v := (9 : Int32)) C dX8_isBarred_140 (by decide) ?_
    refine V_aload_n C dX8_isBarred_142 rfl 0 rfl ?_
    obtain ⟨q60, eq60, hf⟩ := o_b hf
    refine V_getR C fl_X8_42 rfl rfl (by decide) eq60 dX8_isBarred_143 ?_
    refine V_iconst (v := (3 : Int32)) C dX8_isBarred_146 (by decide) ?_
    obtain ⟨g61, hf⟩ := o_if hf
    refine V_iald C (vp_k (by decide) (by decide) g61) (by decide : Int32.toNatClampNeg (3 : Int32) = 3) dX8_isBarred_147 ?_
    refine V_i2l C dX8_isBarred_148 ?_
    obtain ⟨g62, hf⟩ := o_if hf
    obtain ⟨h63, eh63, hf⟩ := o_l hf
    refine V_last C (vp_k (by decide) (by decide) g62) (by decide : Int32.toNatClampNeg (9 : Int32) = 9) dX8_isBarred_149 (V_eqH eh63 ?_)
    refine V_iconst (v := (0 : Int32)) C dX8_isBarred_150 (by decide) ?_
    refine V_istore (lv' := [(4, vI (0 : Int32)), (0, vR 8 (some v0)), (1, vI v1), (2, vI v2), (3, vI v3)]) C dX8_isBarred_151 (by decide) rfl ?_
    refine V_sub (lv' := [(0, vR 8 (some v0)), (4, vI (0 : Int32))]) [1, 0] rfl ?_
    exact p_X8_isBarred_153 C hQ N _ _ _ hf
  · have hf := i_f c20 hf
    refine V_iconst (v := (0 : Int32)) C dX8_isBarred_10 (by decide) ?_
    obtain ⟨hf1, hf2⟩ := Prod.mk.inj (Option.some.inj hf)
    subst hf1
    subst hf2
    exact V_zret C (by decide) hQ dX8_isBarred_11
theorem ct_X8_isBarred {r : Int32} {h' : Hp} {N : Nat} {h : Hp} {v0 : Nat} {v1 : Int32} {v2 : Int32} {v3 : Int32} (hf : f_X8_isBarred N h v0 v1 v2 v3 = some ((r, h'))) (l : Launch) (G : GT) : MC l G yX8_isBarred cX8_isBarred 6 (some .boolean) rmX8_isBarred h [vR 8 (some v0), vI v1, vI v2, vI v3] (some (vI r)) h' := MC_of (by decide) rfl (Nat.le_of_ble_eq_true rfl) rfl (fun X C hQ hin => p_X8_isBarred C hQ hf)
abbrev rmX8_broken : Room := { frames := 4, cells := 0, slots := 0, locals := 91 }
def f_X8_broken_57 (N : Nat) (h : Hp) (v0 : Nat) (v1 : Int32) (v2 : Int32) (v3 : Int32) (s1_ : Int32) (s0_ : Int32) : Option (Int32 × Hp) := Option.bind (f_X8_atLevel N h v0 v1) (fun r1 => Option.bind (f_X8_bits N h r1) (fun r2 => Option.bind (f_X8_areSeats h v0 v1 (r2 + (s0_ - s1_))) (fun r3 => if r3 = 0 then (some (((3 : Int32), h))) else (Option.bind (f_X8_atLevel N h v0 (v1 + (1 : Int32))) (fun r5 => Option.bind (f_X8_bits N h r5) (fun r6 => Option.bind (f_X8_areSeats h v0 (v1 + (1 : Int32)) (r6 - (s0_ - s1_))) (fun r7 => if r7 = 0 then (some (((3 : Int32), h))) else (Option.bind (f_X8_waterOf h v0 v1) (fun r9 => Option.bind (f_X8_needOf h v0 v2 v3) (fun r10 => if r10 ≤ r9 then (b2 (f_X8_isBarred N h v0 v1 v2 v3) (fun r12 h13 => if r12 = 0 then (some (((0 : Int32), h13))) else (some (((5 : Int32), h13))))) else (some (((4 : Int32), h)))))))))))))
set_option maxHeartbeats 4000000 in
set_option maxRecDepth 100000 in
theorem p_X8_broken_57 {X : XT} {r : Int32} {h' : Hp} (C : CX X cX8_broken "WaterStairModel" 5 (some .int) rmX8_broken) (hQ : QX X (some (vI r)) h' rmX8_broken.cells rmX8_broken.slots) {N : Nat}  {h : Hp} {v0 : Nat} {v1 : Int32} {v2 : Int32} {v3 : Int32} {s1_ : Int32} {s0_ : Int32} (hf : f_X8_broken_57 N h v0 v1 v2 v3 s1_ s0_ = some ((r, h'))) : V X 0 0 h 57 [(0, vR 8 (some v0)), (1, vI v1), (2, vI v2), (3, vI v3)] [vI s1_, vI s0_] := by
  unfold f_X8_broken_57 at hf
  refine V_isub C dX8_broken_57 ?_
  refine V_istore (lv' := [(4, vI (s0_ - s1_)), (0, vR 8 (some v0)), (1, vI v1), (2, vI v2), (3, vI v3)]) C dX8_broken_58 (by decide) rfl ?_
  refine V_aload_n C dX8_broken_60 rfl 1 rfl ?_
  refine V_iload_n C dX8_broken_61 rfl 2 rfl ?_
  refine V_aload_n C dX8_broken_62 rfl 1 rfl ?_
  refine V_iload_n C dX8_broken_63 rfl 2 rfl ?_
  obtain ⟨r1, er1, hf⟩ := o_b hf
  refine V_callV (as := [vI v1]) (st := [vI v1, vR 8 (some v0)]) C ml_X8_310 fx8 (ct_X8_atLevel er1) rfl ⟨by decide, by decide, by decide, by decide⟩ (Nat.le_of_ble_eq_true rfl) rfl dX8_broken_64 (cs' := 0) (sl' := 0) rfl rfl ?_
  obtain ⟨r2, er2, hf⟩ := o_b hf
  refine V_callS (as := [vI r1]) (st := [vI v1, vR 8 (some v0)]) C ml_X8_333 (ct_X8_bits er2) rfl ⟨by decide, by decide, by decide, by decide⟩ (Nat.le_of_ble_eq_true rfl) rfl dX8_broken_67 (cs' := 0) (sl' := 0) rfl rfl ?_
  refine V_iload C dX8_broken_70 0 rfl ?_
  refine V_iadd C dX8_broken_72 ?_
  obtain ⟨r3, er3, hf⟩ := o_b hf
  refine V_callV (as := [vI v1, vI (r2 + (s0_ - s1_))]) (st := []) C ml_X8_344 fx8 (ct_X8_areSeats er3) rfl ⟨by decide, by decide, by decide, by decide⟩ (Nat.le_of_ble_eq_true rfl) rfl dX8_broken_73 (cs' := 0) (sl' := 0) rfl rfl ?_
  refine V_if_eq C 102 dX8_broken_76 (by decide) (fun c4 => ?_) (fun c4 => ?_)
  · have hf := i_t c4 hf
    refine V_iconst (v := (3 : Int32)) C dX8_broken_102 (by decide) ?_
    obtain ⟨hf1, hf2⟩ := Prod.mk.inj (Option.some.inj hf)
    subst hf1
    subst hf2
    exact V_iret C hQ dX8_broken_103
  · have hf := i_f c4 hf
    refine V_aload_n C dX8_broken_79 rfl 1 rfl ?_
    refine V_iload_n C dX8_broken_80 rfl 2 rfl ?_
    refine V_iconst (v := (1 : Int32)) C dX8_broken_81 (by decide) ?_
    refine V_iadd C dX8_broken_82 ?_
    refine V_aload_n C dX8_broken_83 rfl 1 rfl ?_
    refine V_iload_n C dX8_broken_84 rfl 2 rfl ?_
    refine V_iconst (v := (1 : Int32)) C dX8_broken_85 (by decide) ?_
    refine V_iadd C dX8_broken_86 ?_
    obtain ⟨r5, er5, hf⟩ := o_b hf
    refine V_callV (as := [vI (v1 + (1 : Int32))]) (st := [vI (v1 + (1 : Int32)), vR 8 (some v0)]) C ml_X8_310 fx8 (ct_X8_atLevel er5) rfl ⟨by decide, by decide, by decide, by decide⟩ (Nat.le_of_ble_eq_true rfl) rfl dX8_broken_87 (cs' := 0) (sl' := 0) rfl rfl ?_
    obtain ⟨r6, er6, hf⟩ := o_b hf
    refine V_callS (as := [vI r5]) (st := [vI (v1 + (1 : Int32)), vR 8 (some v0)]) C ml_X8_333 (ct_X8_bits er6) rfl ⟨by decide, by decide, by decide, by decide⟩ (Nat.le_of_ble_eq_true rfl) rfl dX8_broken_90 (cs' := 0) (sl' := 0) rfl rfl ?_
    refine V_iload C dX8_broken_93 0 rfl ?_
    refine V_isub C dX8_broken_95 ?_
    obtain ⟨r7, er7, hf⟩ := o_b hf
    refine V_callV (as := [vI (v1 + (1 : Int32)), vI (r6 - (s0_ - s1_))]) (st := []) C ml_X8_344 fx8 (ct_X8_areSeats er7) rfl ⟨by decide, by decide, by decide, by decide⟩ (Nat.le_of_ble_eq_true rfl) rfl dX8_broken_96 (cs' := 0) (sl' := 0) rfl rfl ?_
    refine V_if_ne C 104 dX8_broken_99 (by decide) (fun c8 => ?_) (fun c8 => ?_)
    · have hf := i_f c8 hf
      refine V_aload_n C dX8_broken_104 rfl 1 rfl ?_
      refine V_iload_n C dX8_broken_105 rfl 2 rfl ?_
      obtain ⟨r9, er9, hf⟩ := o_b hf
      refine V_callV (as := [vI v1]) (st := []) C ml_X8_330 fx8 (ct_X8_waterOf er9) rfl ⟨by decide, by decide, by decide, by decide⟩ (Nat.le_of_ble_eq_true rfl) rfl dX8_broken_106 (cs' := 0) (sl' := 0) rfl rfl ?_
      refine V_aload_n C dX8_broken_109 rfl 1 rfl ?_
      refine V_iload_n C dX8_broken_110 rfl 3 rfl ?_
      refine V_iload_n C dX8_broken_111 rfl 4 rfl ?_
      obtain ⟨r10, er10, hf⟩ := o_b hf
      refine V_callV (as := [vI v2, vI v3]) (st := [vI r9]) C ml_X8_327 fx8 (ct_X8_needOf er10) rfl ⟨by decide, by decide, by decide, by decide⟩ (Nat.le_of_ble_eq_true rfl) rfl dX8_broken_112 (cs' := 0) (sl' := 0) rfl rfl ?_
      refine V_icmp_ge C 120 dX8_broken_115 (by decide) (fun c11 => ?_) (fun c11 => ?_)
      · have hf := i_t c11 hf
        refine V_aload_n C dX8_broken_120 rfl 1 rfl ?_
        refine V_iload_n C dX8_broken_121 rfl 2 rfl ?_
        refine V_iload_n C dX8_broken_122 rfl 3 rfl ?_
        refine V_iload_n C dX8_broken_123 rfl 4 rfl ?_
        obtain ⟨r12, h13, er12, hf⟩ := o_b2 hf
        refine V_callV (as := [vI v1, vI v2, vI v3]) (st := []) C ml_X8_347 fx8 (ct_X8_isBarred er12) rfl ⟨by decide, by decide, by decide, by decide⟩ (Nat.le_of_ble_eq_true rfl) rfl dX8_broken_124 (cs' := 0) (sl' := 0) rfl rfl ?_
        refine V_if_eq C 134 dX8_broken_127 (by decide) (fun c14 => ?_) (fun c14 => ?_)
        · have hf := i_t c14 hf
          refine V_iconst (v := (0 : Int32)) C dX8_broken_134 (by decide) ?_
          obtain ⟨hf1, hf2⟩ := Prod.mk.inj (Option.some.inj hf)
          subst hf1
          subst hf2
          exact V_iret C hQ dX8_broken_135
        · have hf := i_f c14 hf
          refine V_iconst (v := (5 : Int32)) C dX8_broken_130 (by decide) ?_
          refine V_goto C 135 dX8_broken_131 (by decide) ?_
          obtain ⟨hf1, hf2⟩ := Prod.mk.inj (Option.some.inj hf)
          subst hf1
          subst hf2
          exact V_iret C hQ dX8_broken_135
      · have hf := i_f c11 hf
        refine V_iconst (v := (4 : Int32)) C dX8_broken_118 (by decide) ?_
        obtain ⟨hf1, hf2⟩ := Prod.mk.inj (Option.some.inj hf)
        subst hf1
        subst hf2
        exact V_iret C hQ dX8_broken_119
    · have hf := i_t c8 hf
      refine V_iconst (v := (3 : Int32)) C dX8_broken_102 (by decide) ?_
      obtain ⟨hf1, hf2⟩ := Prod.mk.inj (Option.some.inj hf)
      subst hf1
      subst hf2
      exact V_iret C hQ dX8_broken_103
def f_X8_broken_48 (N : Nat) (h : Hp) (v0 : Nat) (v1 : Int32) (v2 : Int32) (v3 : Int32) (s0_ : Int32) : Option (Int32 × Hp) := if 0 ≤ v2 then (f_X8_broken_57 N h v0 v1 v2 v3 (1 : Int32) s0_) else (f_X8_broken_57 N h v0 v1 v2 v3 (0 : Int32) s0_)
set_option maxHeartbeats 4000000 in
set_option maxRecDepth 100000 in
theorem p_X8_broken_48 {X : XT} {r : Int32} {h' : Hp} (C : CX X cX8_broken "WaterStairModel" 5 (some .int) rmX8_broken) (hQ : QX X (some (vI r)) h' rmX8_broken.cells rmX8_broken.slots) {N : Nat}  {h : Hp} {v0 : Nat} {v1 : Int32} {v2 : Int32} {v3 : Int32} {s0_ : Int32} (hf : f_X8_broken_48 N h v0 v1 v2 v3 s0_ = some ((r, h'))) : V X 0 0 h 48 [(0, vR 8 (some v0)), (1, vI v1), (2, vI v2), (3, vI v3)] [vI s0_] := by
  unfold f_X8_broken_48 at hf
  refine V_iload_n C dX8_broken_48 rfl 2 rfl ?_
  refine V_if_ge C 56 dX8_broken_49 (by decide) (fun c15 => ?_) (fun c15 => ?_)
  · have hf := i_t c15 hf
    refine V_iconst (v := (1 : Int32)) C dX8_broken_56 (by decide) ?_
    refine V_sub (lv' := [(0, vR 8 (some v0)), (1, vI v1), (2, vI v2), (3, vI v3)]) [0, 1, 2, 3] rfl ?_
    exact p_X8_broken_57 C hQ hf
  · have hf := i_f c15 hf
    refine V_iconst (v := (0 : Int32)) C dX8_broken_52 (by decide) ?_
    refine V_goto C 57 dX8_broken_53 (by decide) ?_
    refine V_sub (lv' := [(0, vR 8 (some v0)), (1, vI v1), (2, vI v2), (3, vI v3)]) [0, 1, 2, 3] rfl ?_
    exact p_X8_broken_57 C hQ hf
def f_X8_broken (N : Nat) (h : Hp) (v0 : Nat) (v1 : Int32) (v2 : Int32) (v3 : Int32) : Option (Int32 × Hp) := Option.bind (hP h v0 26) (fun q16 => if 5 < hL h q16 then (Option.bind (f_X8_isOf h (hI h q16 (5)) v1) (fun r18 => if r18 = 0 then (Option.bind (f_X8_isThere h v0 v2 v1 (0 : Int32)) (fun r20 => if r20 = 0 then (some (((2 : Int32), h))) else (Option.bind (f_X8_isThere h v0 v3 (v1 + (1 : Int32)) (1 : Int32)) (fun r22 => if r22 = 0 then (some (((2 : Int32), h))) else (if 0 ≤ v3 then (f_X8_broken_48 N h v0 v1 v2 v3 (1 : Int32)) else (f_X8_broken_48 N h v0 v1 v2 v3 (0 : Int32))))))) else (some (((1 : Int32), h))))) else none)
set_option maxHeartbeats 4000000 in
set_option maxRecDepth 100000 in
theorem p_X8_broken {X : XT} {r : Int32} {h' : Hp} (C : CX X cX8_broken "WaterStairModel" 5 (some .int) rmX8_broken) {N : Nat} {h : Hp} {v0 : Nat} {v1 : Int32} {v2 : Int32} {v3 : Int32} (hQ : QX X (some (vI r)) h' rmX8_broken.cells rmX8_broken.slots) (hf : f_X8_broken N h v0 v1 v2 v3 = some ((r, h'))) : V X 0 0 h 0 [(0, vR 8 (some v0)), (1, vI v1), (2, vI v2), (3, vI v3)] [] := by
  unfold f_X8_broken at hf
  refine V_aload_n C dX8_broken_0 rfl 0 rfl ?_
  obtain ⟨q16, eq16, hf⟩ := o_b hf
  refine V_getR C fl_X8_42 rfl rfl (by decide) eq16 dX8_broken_1 ?_
  refine V_iconst (v := (5 : Int32)) C dX8_broken_4 (by decide) ?_
  obtain ⟨g17, hf⟩ := o_if hf
  refine V_iald C (vp_k (by decide) (by decide) g17) (by decide : Int32.toNatClampNeg (5 : Int32) = 5) dX8_broken_5 ?_
  refine V_iload_n C dX8_broken_6 rfl 1 rfl ?_
  obtain ⟨r18, er18, hf⟩ := o_b hf
  refine V_callS (as := [vI (hI h q16 (5)), vI v1]) (st := []) C ml_X8_316 (ct_X8_isOf er18) rfl ⟨by decide, by decide, by decide, by decide⟩ (Nat.le_of_ble_eq_true rfl) rfl dX8_broken_7 (cs' := 0) (sl' := 0) rfl rfl ?_
  refine V_if_eq C 15 dX8_broken_10 (by decide) (fun c19 => ?_) (fun c19 => ?_)
  · have hf := i_t c19 hf
    refine V_aload_n C dX8_broken_15 rfl 0 rfl ?_
    refine V_iload_n C dX8_broken_16 rfl 2 rfl ?_
    refine V_iload_n C dX8_broken_17 rfl 1 rfl ?_
    refine V_iconst (v := (0 : Int32)) C dX8_broken_18 (by decide) ?_
    obtain ⟨r20, er20, hf⟩ := o_b hf
    refine V_callV (as := [vI v2, vI v1, vI (0 : Int32)]) (st := []) C ml_X8_340 fx8 (ct_X8_isThere er20) rfl ⟨by decide, by decide, by decide, by decide⟩ (Nat.le_of_ble_eq_true rfl) rfl dX8_broken_19 (cs' := 0) (sl' := 0) rfl rfl ?_
    refine V_if_eq C 37 dX8_broken_22 (by decide) (fun c21 => ?_) (fun c21 => ?_)
    · have hf := i_t c21 hf
      refine V_iconst (v := (2 : Int32)) C dX8_broken_37 (by decide) ?_
      obtain ⟨hf1, hf2⟩ := Prod.mk.inj (Option.some.inj hf)
      subst hf1
      subst hf2
      exact V_iret C hQ dX8_broken_38
    · have hf := i_f c21 hf
      refine V_aload_n C dX8_broken_25 rfl 0 rfl ?_
      refine V_iload_n C dX8_broken_26 rfl 3 rfl ?_
      refine V_iload_n C dX8_broken_27 rfl 1 rfl ?_
      refine V_iconst (v := (1 : Int32)) C dX8_broken_28 (by decide) ?_
      refine V_iadd C dX8_broken_29 ?_
      refine V_iconst (v := (1 : Int32)) C dX8_broken_30 (by decide) ?_
      obtain ⟨r22, er22, hf⟩ := o_b hf
      refine V_callV (as := [vI v3, vI (v1 + (1 : Int32)), vI (1 : Int32)]) (st := []) C ml_X8_340 fx8 (ct_X8_isThere er22) rfl ⟨by decide, by decide, by decide, by decide⟩ (Nat.le_of_ble_eq_true rfl) rfl dX8_broken_31 (cs' := 0) (sl' := 0) rfl rfl ?_
      refine V_if_ne C 39 dX8_broken_34 (by decide) (fun c23 => ?_) (fun c23 => ?_)
      · have hf := i_f c23 hf
        refine V_iload_n C dX8_broken_39 rfl 3 rfl ?_
        refine V_if_ge C 47 dX8_broken_40 (by decide) (fun c24 => ?_) (fun c24 => ?_)
        · have hf := i_t c24 hf
          refine V_iconst (v := (1 : Int32)) C dX8_broken_47 (by decide) ?_
          refine V_sub (lv' := [(0, vR 8 (some v0)), (1, vI v1), (2, vI v2), (3, vI v3)]) [0, 1, 2, 3] rfl ?_
          exact p_X8_broken_48 C hQ hf
        · have hf := i_f c24 hf
          refine V_iconst (v := (0 : Int32)) C dX8_broken_43 (by decide) ?_
          refine V_goto C 48 dX8_broken_44 (by decide) ?_
          refine V_sub (lv' := [(0, vR 8 (some v0)), (1, vI v1), (2, vI v2), (3, vI v3)]) [0, 1, 2, 3] rfl ?_
          exact p_X8_broken_48 C hQ hf
      · have hf := i_t c23 hf
        refine V_iconst (v := (2 : Int32)) C dX8_broken_37 (by decide) ?_
        obtain ⟨hf1, hf2⟩ := Prod.mk.inj (Option.some.inj hf)
        subst hf1
        subst hf2
        exact V_iret C hQ dX8_broken_38
  · have hf := i_f c19 hf
    refine V_iconst (v := (1 : Int32)) C dX8_broken_13 (by decide) ?_
    obtain ⟨hf1, hf2⟩ := Prod.mk.inj (Option.some.inj hf)
    subst hf1
    subst hf2
    exact V_iret C hQ dX8_broken_14
theorem ct_X8_broken {r : Int32} {h' : Hp} {N : Nat} {h : Hp} {v0 : Nat} {v1 : Int32} {v2 : Int32} {v3 : Int32} (hf : f_X8_broken N h v0 v1 v2 v3 = some ((r, h'))) (l : Launch) (G : GT) : MC l G yX8_broken cX8_broken 5 (some .int) rmX8_broken h [vR 8 (some v0), vI v1, vI v2, vI v3] (some (vI r)) h' := MC_of (by decide) rfl (Nat.le_of_ble_eq_true rfl) rfl (fun X C hQ hin => p_X8_broken C hQ hf)
abbrev rmX8_counted : Room := { frames := 2, cells := 0, slots := 0, locals := 43 }
def f_X8_counted (h : Hp) (v0 : Nat) (v1 : Int32) (v2 : Int32) : Option (Int32) := Option.bind (f_X8_wideOf h v0 v1) (fun r1 => Option.bind (f_X8_wideOf h v0 v2) (fun r2 => if (r1 + r2) ≤ 0 then (some (1 : Int32)) else (some (2 : Int32))))
set_option maxHeartbeats 4000000 in
set_option maxRecDepth 100000 in
theorem p_X8_counted {X : XT} {r : Int32} (C : CX X cX8_counted "WaterStairModel" 3 (some .int) rmX8_counted) {h : Hp} {v0 : Nat} {v1 : Int32} {v2 : Int32} (hQ : QX X (some (vI r)) h rmX8_counted.cells rmX8_counted.slots) (hf : f_X8_counted h v0 v1 v2 = some r) : V X 0 0 h 0 [(0, vR 8 (some v0)), (1, vI v1), (2, vI v2)] [] := by
  unfold f_X8_counted at hf
  refine V_aload_n C dX8_counted_0 rfl 0 rfl ?_
  refine V_iload_n C dX8_counted_1 rfl 1 rfl ?_
  obtain ⟨r1, er1, hf⟩ := o_b hf
  refine V_callV (as := [vI v1]) (st := []) C ml_X8_324 fx8 (ct_X8_wideOf er1) rfl ⟨by decide, by decide, by decide, by decide⟩ (Nat.le_of_ble_eq_true rfl) rfl dX8_counted_2 (cs' := 0) (sl' := 0) rfl rfl ?_
  refine V_aload_n C dX8_counted_5 rfl 0 rfl ?_
  refine V_iload_n C dX8_counted_6 rfl 2 rfl ?_
  obtain ⟨r2, er2, hf⟩ := o_b hf
  refine V_callV (as := [vI v2]) (st := [vI r1]) C ml_X8_324 fx8 (ct_X8_wideOf er2) rfl ⟨by decide, by decide, by decide, by decide⟩ (Nat.le_of_ble_eq_true rfl) rfl dX8_counted_7 (cs' := 0) (sl' := 0) rfl rfl ?_
  refine V_iadd C dX8_counted_10 ?_
  refine V_if_le C 18 dX8_counted_11 (by decide) (fun c3 => ?_) (fun c3 => ?_)
  · have hf := i_t c3 hf
    refine V_iconst (v := (1 : Int32)) C dX8_counted_18 (by decide) ?_
    have hf := Option.some.inj hf
    subst hf
    exact V_iret C hQ dX8_counted_19
  · have hf := i_f c3 hf
    refine V_iconst (v := (2 : Int32)) C dX8_counted_14 (by decide) ?_
    refine V_goto C 19 dX8_counted_15 (by decide) ?_
    have hf := Option.some.inj hf
    subst hf
    exact V_iret C hQ dX8_counted_19
theorem ct_X8_counted {r : Int32} {h : Hp} {v0 : Nat} {v1 : Int32} {v2 : Int32} (hf : f_X8_counted h v0 v1 v2 = some r) (l : Launch) (G : GT) : MC l G yX8_counted cX8_counted 3 (some .int) rmX8_counted h [vR 8 (some v0), vI v1, vI v2] (some (vI r)) h := MC_of (by decide) rfl (Nat.le_of_ble_eq_true rfl) rfl (fun X C hQ hin => p_X8_counted C hQ hf)
abbrev rmX8_does : Room := { frames := 3, cells := 0, slots := 0, locals := 66 }
def f_X8_does_88 (h : Hp) (v0 : Nat) (v1 : Int32) (v3 : Int32) (v4 : Int32) : Option (Int32 × Hp) := if v3 < 0 then (some ((v4, h))) else (Option.bind (hP h v0 26) (fun q2 => if 0 ≤ ((25 : Int32) + ((5 : Int32) * v3)) + (4 : Int32) ∧ (((25 : Int32) + ((5 : Int32) * v3)) + (4 : Int32)).toNatClampNeg < hL h q2 then (lt (sI h q2 ((((25 : Int32) + ((5 : Int32) * v3)) + (4 : Int32)).toNatClampNeg) v1) (fun h4 => some ((v4, h4)))) else none))
set_option maxHeartbeats 4000000 in
set_option maxRecDepth 100000 in
theorem p_X8_does_88 {X : XT} {r : Int32} {h' : Hp} (C : CX X cX8_does "WaterStairModel" 5 (some .int) rmX8_does) (hQ : QX X (some (vI r)) h' rmX8_does.cells rmX8_does.slots)  {h : Hp} {v0 : Nat} {v1 : Int32} {v3 : Int32} {v4 : Int32} (hf : f_X8_does_88 h v0 v1 v3 v4 = some ((r, h'))) : V X 0 0 h 88 [(0, vR 8 (some v0)), (1, vI v1), (3, vI v3), (4, vI v4)] [] := by
  unfold f_X8_does_88 at hf
  refine V_iload_n C dX8_does_88 rfl 2 rfl ?_
  refine V_if_lt C 106 dX8_does_89 (by decide) (fun c1 => ?_) (fun c1 => ?_)
  · have hf := i_t c1 hf
    refine V_iload C dX8_does_106 3 rfl ?_
    obtain ⟨hf1, hf2⟩ := Prod.mk.inj (Option.some.inj hf)
    subst hf1
    subst hf2
    exact V_iret C hQ dX8_does_108
  · have hf := i_f c1 hf
    refine V_aload_n C dX8_does_92 rfl 0 rfl ?_
    obtain ⟨q2, eq2, hf⟩ := o_b hf
    refine V_getR C fl_X8_42 rfl rfl (by decide) eq2 dX8_does_93 ?_
    refine V_bipush (v := (25 : Int32)) C dX8_does_96 (by decide) ?_
    refine V_iconst (v := (5 : Int32)) C dX8_does_98 (by decide) ?_
    refine V_iload_n C dX8_does_99 rfl 2 rfl ?_
    refine V_imul C dX8_does_100 ?_
    refine V_iadd C dX8_does_101 ?_
    refine V_iconst (v := (4 : Int32)) C dX8_does_102 (by decide) ?_
    refine V_iadd C dX8_does_103 ?_
    refine V_iload_n C dX8_does_104 rfl 1 rfl ?_
    obtain ⟨g3, hf⟩ := o_if hf
    obtain ⟨h4, eh4, hf⟩ := o_l hf
    refine V_iast C (vp_g g3) rfl dX8_does_105 (V_eqH eh4 ?_)
    refine V_iload C dX8_does_106 3 rfl ?_
    obtain ⟨hf1, hf2⟩ := Prod.mk.inj (Option.some.inj hf)
    subst hf1
    subst hf2
    exact V_iret C hQ dX8_does_108
def f_X8_does (h : Hp) (v0 : Nat) (v1 : Int32) (v2 : Int32) (v3 : Int32) : Option (Int32 × Hp) := Option.bind (f_X8_needOf h v0 v2 v3) (fun r5 => Option.bind (hP h v0 26) (fun q6 => if 0 ≤ (9 : Int32) + ((2 : Int32) * v1) ∧ ((9 : Int32) + ((2 : Int32) * v1)).toNatClampNeg < hL h q6 then (lt ((hI h q6 (((9 : Int32) + ((2 : Int32) * v1)).toNatClampNeg)) - r5) (fun y8 => if 0 ≤ (9 : Int32) + ((2 : Int32) * v1) ∧ ((9 : Int32) + ((2 : Int32) * v1)).toNatClampNeg < hL h q6 then (lt (sI h q6 (((9 : Int32) + ((2 : Int32) * v1)).toNatClampNeg) y8) (fun h10 => Option.bind (hP h10 v0 26) (fun q11 => if 0 ≤ ((9 : Int32) + ((2 : Int32) * v1)) + (2 : Int32) ∧ (((9 : Int32) + ((2 : Int32) * v1)) + (2 : Int32)).toNatClampNeg < hL h10 q11 then (lt ((hI h10 q11 ((((9 : Int32) + ((2 : Int32) * v1)) + (2 : Int32)).toNatClampNeg)) + r5) (fun y13 => if 0 ≤ ((9 : Int32) + ((2 : Int32) * v1)) + (2 : Int32) ∧ (((9 : Int32) + ((2 : Int32) * v1)) + (2 : Int32)).toNatClampNeg < hL h10 q11 then (lt (sI h10 q11 ((((9 : Int32) + ((2 : Int32) * v1)) + (2 : Int32)).toNatClampNeg) y13) (fun h15 => Option.bind (hP h15 v0 26) (fun q16 => if 4 < hL h15 q16 then (if 4 < hL h15 q16 then (lt (sI h15 q16 (4) ((hI h15 q16 (4)) + r5)) (fun h19 => Option.bind (hP h19 v0 26) (fun q20 => if 3 < hL h19 q20 then (Option.bind (f_X8_counted h19 v0 v2 v3) (fun r22 => if 3 < hL h19 q20 then (lt (sI h19 q20 (3) ((hI h19 q20 (3)) + r22)) (fun h24 => if v2 < 0 then (f_X8_does_88 h24 v0 v1 v3 r5) else (Option.bind (hP h24 v0 26) (fun q26 => if 0 ≤ ((25 : Int32) + ((5 : Int32) * v2)) + (4 : Int32) ∧ (((25 : Int32) + ((5 : Int32) * v2)) + (4 : Int32)).toNatClampNeg < hL h24 q26 then (lt (sI h24 q26 ((((25 : Int32) + ((5 : Int32) * v2)) + (4 : Int32)).toNatClampNeg) (v1 + (1 : Int32))) (fun h28 => f_X8_does_88 h28 v0 v1 v3 r5)) else none)))) else none)) else none))) else none) else none))) else none)) else none))) else none)) else none))
set_option maxHeartbeats 4000000 in
set_option maxRecDepth 100000 in
theorem p_X8_does {X : XT} {r : Int32} {h' : Hp} (C : CX X cX8_does "WaterStairModel" 5 (some .int) rmX8_does) {h : Hp} {v0 : Nat} {v1 : Int32} {v2 : Int32} {v3 : Int32} (hQ : QX X (some (vI r)) h' rmX8_does.cells rmX8_does.slots) (hf : f_X8_does h v0 v1 v2 v3 = some ((r, h'))) : V X 0 0 h 0 [(0, vR 8 (some v0)), (1, vI v1), (2, vI v2), (3, vI v3)] [] := by
  unfold f_X8_does at hf
  refine V_aload_n C dX8_does_0 rfl 0 rfl ?_
  refine V_iload_n C dX8_does_1 rfl 2 rfl ?_
  refine V_iload_n C dX8_does_2 rfl 3 rfl ?_
  obtain ⟨r5, er5, hf⟩ := o_b hf
  refine V_callV (as := [vI v2, vI v3]) (st := []) C ml_X8_327 fx8 (ct_X8_needOf er5) rfl ⟨by decide, by decide, by decide, by decide⟩ (Nat.le_of_ble_eq_true rfl) rfl dX8_does_3 (cs' := 0) (sl' := 0) rfl rfl ?_
  refine V_istore (lv' := [(4, vI r5), (0, vR 8 (some v0)), (1, vI v1), (2, vI v2), (3, vI v3)]) C dX8_does_6 (by decide) rfl ?_
  refine V_aload_n C dX8_does_8 rfl 1 rfl ?_
  obtain ⟨q6, eq6, hf⟩ := o_b hf
  refine V_getR C fl_X8_42 rfl rfl (by decide) eq6 dX8_does_9 ?_
  refine V_bipush (v := (9 : Int32)) C dX8_does_12 (by decide) ?_
  refine V_iconst (v := (2 : Int32)) C dX8_does_14 (by decide) ?_
  refine V_iload_n C dX8_does_15 rfl 2 rfl ?_
  refine V_imul C dX8_does_16 ?_
  refine V_iadd C dX8_does_17 ?_
  refine V_dup2 C dX8_does_18 rfl rfl ?_
  obtain ⟨g7, hf⟩ := o_if hf
  refine V_iald C (vp_g g7) rfl dX8_does_19 ?_
  refine V_iload C dX8_does_20 0 rfl ?_
  refine V_isub C dX8_does_22 ?_
  obtain ⟨y8, ey8, hf⟩ := o_l hf
  refine V_eqI ey8 ?_
  obtain ⟨g9, hf⟩ := o_if hf
  obtain ⟨h10, eh10, hf⟩ := o_l hf
  refine V_iast C (vp_g g9) rfl dX8_does_23 (V_eqH eh10 ?_)
  refine V_aload_n C dX8_does_24 rfl 1 rfl ?_
  obtain ⟨q11, eq11, hf⟩ := o_b hf
  refine V_getR C fl_X8_42 rfl rfl (by decide) eq11 dX8_does_25 ?_
  refine V_bipush (v := (9 : Int32)) C dX8_does_28 (by decide) ?_
  refine V_iconst (v := (2 : Int32)) C dX8_does_30 (by decide) ?_
  refine V_iload_n C dX8_does_31 rfl 2 rfl ?_
  refine V_imul C dX8_does_32 ?_
  refine V_iadd C dX8_does_33 ?_
  refine V_iconst (v := (2 : Int32)) C dX8_does_34 (by decide) ?_
  refine V_iadd C dX8_does_35 ?_
  refine V_dup2 C dX8_does_36 rfl rfl ?_
  obtain ⟨g12, hf⟩ := o_if hf
  refine V_iald C (vp_g g12) rfl dX8_does_37 ?_
  refine V_iload C dX8_does_38 0 rfl ?_
  refine V_iadd C dX8_does_40 ?_
  obtain ⟨y13, ey13, hf⟩ := o_l hf
  refine V_eqI ey13 ?_
  obtain ⟨g14, hf⟩ := o_if hf
  obtain ⟨h15, eh15, hf⟩ := o_l hf
  refine V_iast C (vp_g g14) rfl dX8_does_41 (V_eqH eh15 ?_)
  refine V_aload_n C dX8_does_42 rfl 1 rfl ?_
  obtain ⟨q16, eq16, hf⟩ := o_b hf
  refine V_getR C fl_X8_42 rfl rfl (by decide) eq16 dX8_does_43 ?_
  refine V_iconst (v := (4 : Int32)) C dX8_does_46 (by decide) ?_
  refine V_dup2 C dX8_does_47 rfl rfl ?_
  obtain ⟨g17, hf⟩ := o_if hf
  refine V_iald C (vp_k (by decide) (by decide) g17) (by decide : Int32.toNatClampNeg (4 : Int32) = 4) dX8_does_48 ?_
  refine V_iload C dX8_does_49 0 rfl ?_
  refine V_iadd C dX8_does_51 ?_
  obtain ⟨g18, hf⟩ := o_if hf
  obtain ⟨h19, eh19, hf⟩ := o_l hf
  refine V_iast C (vp_k (by decide) (by decide) g18) (by decide : Int32.toNatClampNeg (4 : Int32) = 4) dX8_does_52 (V_eqH eh19 ?_)
  refine V_aload_n C dX8_does_53 rfl 1 rfl ?_
  obtain ⟨q20, eq20, hf⟩ := o_b hf
  refine V_getR C fl_X8_42 rfl rfl (by decide) eq20 dX8_does_54 ?_
  refine V_iconst (v := (3 : Int32)) C dX8_does_57 (by decide) ?_
  refine V_dup2 C dX8_does_58 rfl rfl ?_
  obtain ⟨g21, hf⟩ := o_if hf
  refine V_iald C (vp_k (by decide) (by decide) g21) (by decide : Int32.toNatClampNeg (3 : Int32) = 3) dX8_does_59 ?_
  refine V_aload_n C dX8_does_60 rfl 1 rfl ?_
  refine V_iload_n C dX8_does_61 rfl 3 rfl ?_
  refine V_iload_n C dX8_does_62 rfl 4 rfl ?_
  obtain ⟨r22, er22, hf⟩ := o_b hf
  refine V_callV (as := [vI v2, vI v3]) (st := [vI (hI h19 q20 (3)), vI (3 : Int32), vR 10 (some q20)]) C ml_X8_350 fx8 (ct_X8_counted er22) rfl ⟨by decide, by decide, by decide, by decide⟩ (Nat.le_of_ble_eq_true rfl) rfl dX8_does_63 (cs' := 0) (sl' := 0) rfl rfl ?_
  refine V_iadd C dX8_does_66 ?_
  obtain ⟨g23, hf⟩ := o_if hf
  obtain ⟨h24, eh24, hf⟩ := o_l hf
  refine V_iast C (vp_k (by decide) (by decide) g23) (by decide : Int32.toNatClampNeg (3 : Int32) = 3) dX8_does_67 (V_eqH eh24 ?_)
  refine V_iload_n C dX8_does_68 rfl 3 rfl ?_
  refine V_if_lt C 88 dX8_does_69 (by decide) (fun c25 => ?_) (fun c25 => ?_)
  · have hf := i_t c25 hf
    refine V_sub (lv' := [(0, vR 8 (some v0)), (1, vI v1), (3, vI v3), (4, vI r5)]) [1, 2, 4, 0] rfl ?_
    exact p_X8_does_88 C hQ hf
  · have hf := i_f c25 hf
    refine V_aload_n C dX8_does_72 rfl 1 rfl ?_
    obtain ⟨q26, eq26, hf⟩ := o_b hf
    refine V_getR C fl_X8_42 rfl rfl (by decide) eq26 dX8_does_73 ?_
    refine V_bipush (v := (25 : Int32)) C dX8_does_76 (by decide) ?_
    refine V_iconst (v := (5 : Int32)) C dX8_does_78 (by decide) ?_
    refine V_iload_n C dX8_does_79 rfl 3 rfl ?_
    refine V_imul C dX8_does_80 ?_
    refine V_iadd C dX8_does_81 ?_
    refine V_iconst (v := (4 : Int32)) C dX8_does_82 (by decide) ?_
    refine V_iadd C dX8_does_83 ?_
    refine V_iload_n C dX8_does_84 rfl 2 rfl ?_
    refine V_iconst (v := (1 : Int32)) C dX8_does_85 (by decide) ?_
    refine V_iadd C dX8_does_86 ?_
    obtain ⟨g27, hf⟩ := o_if hf
    obtain ⟨h28, eh28, hf⟩ := o_l hf
    refine V_iast C (vp_g g27) rfl dX8_does_87 (V_eqH eh28 ?_)
    refine V_sub (lv' := [(0, vR 8 (some v0)), (1, vI v1), (3, vI v3), (4, vI r5)]) [1, 2, 4, 0] rfl ?_
    exact p_X8_does_88 C hQ hf
theorem ct_X8_does {r : Int32} {h' : Hp} {h : Hp} {v0 : Nat} {v1 : Int32} {v2 : Int32} {v3 : Int32} (hf : f_X8_does h v0 v1 v2 v3 = some ((r, h'))) (l : Launch) (G : GT) : MC l G yX8_does cX8_does 5 (some .int) rmX8_does h [vR 8 (some v0), vI v1, vI v2, vI v3] (some (vI r)) h' := MC_of (by decide) rfl (Nat.le_of_ble_eq_true rfl) rfl (fun X C hQ hin => p_X8_does C hQ hf)
abbrev rmX8_isTip : Room := { frames := 2, cells := 0, slots := 0, locals := 42 }
def f_X8_isTip (h : Hp) (v0 : Nat) (v1 : Int32) (v2 : Int32) (v3 : Int32) : Option (Int32) := Option.bind (f_X8_isStep h v0 v1) (fun r1 => if r1 = 0 then (some (0 : Int32)) else (Option.bind (f_X8_isNamed h v0 v2) (fun r3 => if r3 = 0 then (some (0 : Int32)) else (Option.bind (f_X8_isNamed h v0 v3) (fun r5 => if r5 = 0 then (some (0 : Int32)) else (if 0 ≤ v2 then (some (1 : Int32)) else (if v3 < 0 then (some (0 : Int32)) else (some (1 : Int32)))))))))
set_option maxHeartbeats 4000000 in
set_option maxRecDepth 100000 in
theorem p_X8_isTip {X : XT} {r : Int32} (C : CX X cX8_isTip "WaterStairModel" 4 (some .boolean) rmX8_isTip) {h : Hp} {v0 : Nat} {v1 : Int32} {v2 : Int32} {v3 : Int32} (hQ : QX X (some (vI r)) h rmX8_isTip.cells rmX8_isTip.slots) (hf : f_X8_isTip h v0 v1 v2 v3 = some r) : V X 0 0 h 0 [(0, vR 8 (some v0)), (1, vI v1), (2, vI v2), (3, vI v3)] [] := by
  unfold f_X8_isTip at hf
  refine V_aload_n C dX8_isTip_0 rfl 0 rfl ?_
  refine V_iload_n C dX8_isTip_1 rfl 1 rfl ?_
  obtain ⟨r1, er1, hf⟩ := o_b hf
  refine V_callV (as := [vI v1]) (st := []) C ml_X8_313 fx8 (ct_X8_isStep er1) rfl ⟨by decide, by decide, by decide, by decide⟩ (Nat.le_of_ble_eq_true rfl) rfl dX8_isTip_2 (cs' := 0) (sl' := 0) rfl rfl ?_
  refine V_if_eq C 36 dX8_isTip_5 (by decide) (fun c2 => ?_) (fun c2 => ?_)
  · have hf := i_t c2 hf
    refine V_iconst (v := (0 : Int32)) C dX8_isTip_36 (by decide) ?_
    have hf := Option.some.inj hf
    subst hf
    exact V_zret C (by decide) hQ dX8_isTip_37
  · have hf := i_f c2 hf
    refine V_aload_n C dX8_isTip_8 rfl 0 rfl ?_
    refine V_iload_n C dX8_isTip_9 rfl 2 rfl ?_
    obtain ⟨r3, er3, hf⟩ := o_b hf
    refine V_callV (as := [vI v2]) (st := []) C ml_X8_353 fx8 (ct_X8_isNamed er3) rfl ⟨by decide, by decide, by decide, by decide⟩ (Nat.le_of_ble_eq_true rfl) rfl dX8_isTip_10 (cs' := 0) (sl' := 0) rfl rfl ?_
    refine V_if_eq C 36 dX8_isTip_13 (by decide) (fun c4 => ?_) (fun c4 => ?_)
    · have hf := i_t c4 hf
      refine V_iconst (v := (0 : Int32)) C dX8_isTip_36 (by decide) ?_
      have hf := Option.some.inj hf
      subst hf
      exact V_zret C (by decide) hQ dX8_isTip_37
    · have hf := i_f c4 hf
      refine V_aload_n C dX8_isTip_16 rfl 0 rfl ?_
      refine V_iload_n C dX8_isTip_17 rfl 3 rfl ?_
      obtain ⟨r5, er5, hf⟩ := o_b hf
      refine V_callV (as := [vI v3]) (st := []) C ml_X8_353 fx8 (ct_X8_isNamed er5) rfl ⟨by decide, by decide, by decide, by decide⟩ (Nat.le_of_ble_eq_true rfl) rfl dX8_isTip_18 (cs' := 0) (sl' := 0) rfl rfl ?_
      refine V_if_eq C 36 dX8_isTip_21 (by decide) (fun c6 => ?_) (fun c6 => ?_)
      · have hf := i_t c6 hf
        refine V_iconst (v := (0 : Int32)) C dX8_isTip_36 (by decide) ?_
        have hf := Option.some.inj hf
        subst hf
        exact V_zret C (by decide) hQ dX8_isTip_37
      · have hf := i_f c6 hf
        refine V_iload_n C dX8_isTip_24 rfl 2 rfl ?_
        refine V_if_ge C 32 dX8_isTip_25 (by decide) (fun c7 => ?_) (fun c7 => ?_)
        · have hf := i_t c7 hf
          refine V_iconst (v := (1 : Int32)) C dX8_isTip_32 (by decide) ?_
          refine V_goto C 37 dX8_isTip_33 (by decide) ?_
          have hf := Option.some.inj hf
          subst hf
          exact V_zret C (by decide) hQ dX8_isTip_37
        · have hf := i_f c7 hf
          refine V_iload_n C dX8_isTip_28 rfl 3 rfl ?_
          refine V_if_lt C 36 dX8_isTip_29 (by decide) (fun c8 => ?_) (fun c8 => ?_)
          · have hf := i_t c8 hf
            refine V_iconst (v := (0 : Int32)) C dX8_isTip_36 (by decide) ?_
            have hf := Option.some.inj hf
            subst hf
            exact V_zret C (by decide) hQ dX8_isTip_37
          · have hf := i_f c8 hf
            refine V_iconst (v := (1 : Int32)) C dX8_isTip_32 (by decide) ?_
            refine V_goto C 37 dX8_isTip_33 (by decide) ?_
            have hf := Option.some.inj hf
            subst hf
            exact V_zret C (by decide) hQ dX8_isTip_37
theorem ct_X8_isTip {r : Int32} {h : Hp} {v0 : Nat} {v1 : Int32} {v2 : Int32} {v3 : Int32} (hf : f_X8_isTip h v0 v1 v2 v3 = some r) (l : Launch) (G : GT) : MC l G yX8_isTip cX8_isTip 4 (some .boolean) rmX8_isTip h [vR 8 (some v0), vI v1, vI v2, vI v3] (some (vI r)) h := MC_of (by decide) rfl (Nat.le_of_ble_eq_true rfl) rfl (fun X C hQ hin => p_X8_isTip C hQ hf)
abbrev rmX8_may : Room := { frames := 5, cells := 0, slots := 0, locals := 115 }
def f_X8_may (N : Nat) (h : Hp) (v0 : Nat) (v1 : Int32) (v2 : Int32) (v3 : Int32) : Option (Int32 × Hp) := Option.bind (f_X8_isTip h v0 v1 v2 v3) (fun r1 => if r1 = 0 then (some (((-1 : Int32), h))) else (b2 (f_X8_broken N h v0 v1 v2 v3) (fun r3 h4 => if r3 ≤ 0 then (Option.bind (f_X8_needOf h4 v0 v2 v3) (fun r6 => some ((r6, h4)))) else (some (((-2 : Int32) - r3, h4))))))
set_option maxHeartbeats 4000000 in
set_option maxRecDepth 100000 in
theorem p_X8_may {X : XT} {r : Int32} {h' : Hp} (C : CX X cX8_may "WaterStairModel" 5 (some .int) rmX8_may) {N : Nat} {h : Hp} {v0 : Nat} {v1 : Int32} {v2 : Int32} {v3 : Int32} (hQ : QX X (some (vI r)) h' rmX8_may.cells rmX8_may.slots) (hf : f_X8_may N h v0 v1 v2 v3 = some ((r, h'))) : V X 0 0 h 0 [(0, vR 8 (some v0)), (1, vI v1), (2, vI v2), (3, vI v3)] [] := by
  unfold f_X8_may at hf
  refine V_aload_n C dX8_may_0 rfl 0 rfl ?_
  refine V_iload_n C dX8_may_1 rfl 1 rfl ?_
  refine V_iload_n C dX8_may_2 rfl 2 rfl ?_
  refine V_iload_n C dX8_may_3 rfl 3 rfl ?_
  obtain ⟨r1, er1, hf⟩ := o_b hf
  refine V_callV (as := [vI v1, vI v2, vI v3]) (st := []) C ml_X8_356 fx8 (ct_X8_isTip er1) rfl ⟨by decide, by decide, by decide, by decide⟩ (Nat.le_of_ble_eq_true rfl) rfl dX8_may_4 (cs' := 0) (sl' := 0) rfl rfl ?_
  refine V_if_ne C 12 dX8_may_7 (by decide) (fun c2 => ?_) (fun c2 => ?_)
  · have hf := i_f c2 hf
    refine V_aload_n C dX8_may_12 rfl 0 rfl ?_
    refine V_iload_n C dX8_may_13 rfl 1 rfl ?_
    refine V_iload_n C dX8_may_14 rfl 2 rfl ?_
    refine V_iload_n C dX8_may_15 rfl 3 rfl ?_
    obtain ⟨r3, h4, er3, hf⟩ := o_b2 hf
    refine V_callV (as := [vI v1, vI v2, vI v3]) (st := []) C ml_X8_359 fx8 (ct_X8_broken er3) rfl ⟨by decide, by decide, by decide, by decide⟩ (Nat.le_of_ble_eq_true rfl) rfl dX8_may_16 (cs' := 0) (sl' := 0) rfl rfl ?_
    refine V_istore (lv' := [(4, vI r3), (0, vR 8 (some v0)), (1, vI v1), (2, vI v2), (3, vI v3)]) C dX8_may_19 (by decide) rfl ?_
    refine V_iload C dX8_may_21 0 rfl ?_
    refine V_if_le C 34 dX8_may_23 (by decide) (fun c5 => ?_) (fun c5 => ?_)
    · have hf := i_t c5 hf
      refine V_aload_n C dX8_may_34 rfl 1 rfl ?_
      refine V_iload_n C dX8_may_35 rfl 3 rfl ?_
      refine V_iload_n C dX8_may_36 rfl 4 rfl ?_
      obtain ⟨r6, er6, hf⟩ := o_b hf
      refine V_callV (as := [vI v2, vI v3]) (st := []) C ml_X8_327 fx8 (ct_X8_needOf er6) rfl ⟨by decide, by decide, by decide, by decide⟩ (Nat.le_of_ble_eq_true rfl) rfl dX8_may_37 (cs' := 0) (sl' := 0) rfl rfl ?_
      obtain ⟨hf1, hf2⟩ := Prod.mk.inj (Option.some.inj hf)
      subst hf1
      subst hf2
      exact V_iret C hQ dX8_may_40
    · have hf := i_f c5 hf
      refine V_bipush (v := (-2 : Int32)) C dX8_may_26 (by decide) ?_
      refine V_iload C dX8_may_28 0 rfl ?_
      refine V_isub C dX8_may_30 ?_
      refine V_goto C 40 dX8_may_31 (by decide) ?_
      obtain ⟨hf1, hf2⟩ := Prod.mk.inj (Option.some.inj hf)
      subst hf1
      subst hf2
      exact V_iret C hQ dX8_may_40
  · have hf := i_t c2 hf
    refine V_iconst (v := (-1 : Int32)) C dX8_may_10 (by decide) ?_
    obtain ⟨hf1, hf2⟩ := Prod.mk.inj (Option.some.inj hf)
    subst hf1
    subst hf2
    exact V_iret C hQ dX8_may_11
theorem ct_X8_may {r : Int32} {h' : Hp} {N : Nat} {h : Hp} {v0 : Nat} {v1 : Int32} {v2 : Int32} {v3 : Int32} (hf : f_X8_may N h v0 v1 v2 v3 = some ((r, h'))) (l : Launch) (G : GT) : MC l G yX8_may cX8_may 5 (some .int) rmX8_may h [vR 8 (some v0), vI v1, vI v2, vI v3] (some (vI r)) h' := MC_of (by decide) rfl (Nat.le_of_ble_eq_true rfl) rfl (fun X C hQ hin => p_X8_may C hQ hf)
abbrev rmX8_tip : Room := { frames := 6, cells := 0, slots := 0, locals := 139 }
def f_X8_tip (N : Nat) (h : Hp) (v0 : Nat) (v1 : Int32) (v2 : Int32) (v3 : Int32) : Option (Int32 × Hp) := b2 (f_X8_may N h v0 v1 v2 v3) (fun r1 h2 => if 0 ≤ r1 then (b2 (f_X8_does h2 v0 v1 v2 v3) (fun r4 h5 => some ((r4, h5)))) else (some ((r1, h2))))
set_option maxHeartbeats 4000000 in
set_option maxRecDepth 100000 in
theorem p_X8_tip {X : XT} {r : Int32} {h' : Hp} (C : CX X cX8_tip "WaterStairModel" 5 (some .int) rmX8_tip) {N : Nat} {h : Hp} {v0 : Nat} {v1 : Int32} {v2 : Int32} {v3 : Int32} (hQ : QX X (some (vI r)) h' rmX8_tip.cells rmX8_tip.slots) (hf : f_X8_tip N h v0 v1 v2 v3 = some ((r, h'))) : V X 0 0 h 0 [(0, vR 8 (some v0)), (1, vI v1), (2, vI v2), (3, vI v3)] [] := by
  unfold f_X8_tip at hf
  refine V_aload_n C dX8_tip_0 rfl 0 rfl ?_
  refine V_iload_n C dX8_tip_1 rfl 1 rfl ?_
  refine V_iload_n C dX8_tip_2 rfl 2 rfl ?_
  refine V_iload_n C dX8_tip_3 rfl 3 rfl ?_
  obtain ⟨r1, h2, er1, hf⟩ := o_b2 hf
  refine V_callV (as := [vI v1, vI v2, vI v3]) (st := []) C ml_X8_363 fx8 (ct_X8_may er1) rfl ⟨by decide, by decide, by decide, by decide⟩ (Nat.le_of_ble_eq_true rfl) rfl dX8_tip_4 (cs' := 0) (sl' := 0) rfl rfl ?_
  refine V_istore (lv' := [(4, vI r1), (0, vR 8 (some v0)), (1, vI v1), (2, vI v2), (3, vI v3)]) C dX8_tip_7 (by decide) rfl ?_
  refine V_iload C dX8_tip_9 0 rfl ?_
  refine V_if_ge C 19 dX8_tip_11 (by decide) (fun c3 => ?_) (fun c3 => ?_)
  · have hf := i_t c3 hf
    refine V_aload_n C dX8_tip_19 rfl 1 rfl ?_
    refine V_iload_n C dX8_tip_20 rfl 2 rfl ?_
    refine V_iload_n C dX8_tip_21 rfl 3 rfl ?_
    refine V_iload_n C dX8_tip_22 rfl 4 rfl ?_
    obtain ⟨r4, h5, er4, hf⟩ := o_b2 hf
    refine V_callV (as := [vI v1, vI v2, vI v3]) (st := []) C ml_X8_366 fx8 (ct_X8_does er4) rfl ⟨by decide, by decide, by decide, by decide⟩ (Nat.le_of_ble_eq_true rfl) rfl dX8_tip_23 (cs' := 0) (sl' := 0) rfl rfl ?_
    obtain ⟨hf1, hf2⟩ := Prod.mk.inj (Option.some.inj hf)
    subst hf1
    subst hf2
    exact V_iret C hQ dX8_tip_26
  · have hf := i_f c3 hf
    refine V_iload C dX8_tip_14 0 rfl ?_
    refine V_goto C 26 dX8_tip_16 (by decide) ?_
    obtain ⟨hf1, hf2⟩ := Prod.mk.inj (Option.some.inj hf)
    subst hf1
    subst hf2
    exact V_iret C hQ dX8_tip_26
theorem ct_X8_tip {r : Int32} {h' : Hp} {N : Nat} {h : Hp} {v0 : Nat} {v1 : Int32} {v2 : Int32} {v3 : Int32} (hf : f_X8_tip N h v0 v1 v2 v3 = some ((r, h'))) (l : Launch) (G : GT) : MC l G yX8_tip cX8_tip 5 (some .int) rmX8_tip h [vR 8 (some v0), vI v1, vI v2, vI v3] (some (vI r)) h' := MC_of (by decide) rfl (Nat.le_of_ble_eq_true rfl) rfl (fun X C hQ hin => p_X8_tip C hQ hf)
abbrev rmX8_rain : Room := { frames := 1, cells := 0, slots := 0, locals := 25 }
def f_X8_rain_66 (h : Hp) (v0 : Nat) (v1 : Int32) : Option (Int32 × Hp) := Option.bind (f_X8_waterOf h v0 v1) (fun r1 => some ((r1, h)))
set_option maxHeartbeats 4000000 in
set_option maxRecDepth 100000 in
theorem p_X8_rain_66 {X : XT} {r : Int32} {h' : Hp} (C : CX X cX8_rain "WaterStairModel" 4 (some .int) rmX8_rain) (hQ : QX X (some (vI r)) h' rmX8_rain.cells rmX8_rain.slots)  {h : Hp} {v0 : Nat} {v1 : Int32} (hf : f_X8_rain_66 h v0 v1 = some ((r, h'))) : V X 0 0 h 66 [(0, vR 8 (some v0)), (1, vI v1)] [] := by
  unfold f_X8_rain_66 at hf
  refine V_aload_n C dX8_rain_66 rfl 0 rfl ?_
  refine V_iload_n C dX8_rain_67 rfl 1 rfl ?_
  obtain ⟨r1, er1, hf⟩ := o_b hf
  refine V_callV (as := [vI v1]) (st := []) C ml_X8_330 fx8 (ct_X8_waterOf er1) rfl ⟨by decide, by decide, by decide, by decide⟩ (Nat.le_of_ble_eq_true rfl) rfl dX8_rain_68 (cs' := 0) (sl' := 0) rfl rfl ?_
  obtain ⟨hf1, hf2⟩ := Prod.mk.inj (Option.some.inj hf)
  subst hf1
  subst hf2
  exact V_iret C hQ dX8_rain_71
def f_X8_rain_65 (h : Hp) (v0 : Nat) (v1 : Int32) (s2_ : Int32) (s1_ : Int32) (s0_ : Nat) : Option (Int32 × Hp) := if 0 ≤ s1_ ∧ s1_.toNatClampNeg < hL h s0_ then (lt (sI h s0_ (s1_.toNatClampNeg) s2_) (fun h3 => f_X8_rain_66 h3 v0 v1)) else none
set_option maxHeartbeats 4000000 in
set_option maxRecDepth 100000 in
theorem p_X8_rain_65 {X : XT} {r : Int32} {h' : Hp} (C : CX X cX8_rain "WaterStairModel" 4 (some .int) rmX8_rain) (hQ : QX X (some (vI r)) h' rmX8_rain.cells rmX8_rain.slots)  {h : Hp} {v0 : Nat} {v1 : Int32} {s2_ : Int32} {s1_ : Int32} {s0_ : Nat} (hf : f_X8_rain_65 h v0 v1 s2_ s1_ s0_ = some ((r, h'))) : V X 0 0 h 65 [(0, vR 8 (some v0)), (1, vI v1)] [vI s2_, vI s1_, vR 10 (some s0_)] := by
  unfold f_X8_rain_65 at hf
  obtain ⟨g2, hf⟩ := o_if hf
  obtain ⟨h3, eh3, hf⟩ := o_l hf
  refine V_iast C (vp_g g2) rfl dX8_rain_65 (V_eqH eh3 ?_)
  refine V_sub (lv' := [(0, vR 8 (some v0)), (1, vI v1)]) [0, 1] rfl ?_
  exact p_X8_rain_66 C hQ hf
def f_X8_rain (h : Hp) (v0 : Nat) (v1 : Int32) (v2 : Int32) : Option (Int32 × Hp) := Option.bind (f_X8_isLevel h v0 v1) (fun r4 => if r4 = 0 then (some (((-1 : Int32), h))) else (Option.bind (f_X8_in h (v2.toInt64) (0 : Int64) (9999 : Int64)) (fun r6 => if r6 = 0 then (some (((-1 : Int32), h))) else (Option.bind (f_X8_waterOf h v0 v1) (fun r8 => Option.bind (f_X8_waterOf h v0 v1) (fun r9 => if (9999 : Int32) ≤ r9 then (f_X8_rain_66 h v0 v1) else (Option.bind (hP h v0 26) (fun q11 => if (r8 + v2) ≤ (9999 : Int32) then (f_X8_rain_65 h v0 v1 (r8 + v2) ((9 : Int32) + ((2 : Int32) * v1)) q11) else (f_X8_rain_65 h v0 v1 (9999 : Int32) ((9 : Int32) + ((2 : Int32) * v1)) q11)))))))))
set_option maxHeartbeats 4000000 in
set_option maxRecDepth 100000 in
theorem p_X8_rain {X : XT} {r : Int32} {h' : Hp} (C : CX X cX8_rain "WaterStairModel" 4 (some .int) rmX8_rain) {h : Hp} {v0 : Nat} {v1 : Int32} {v2 : Int32} (hQ : QX X (some (vI r)) h' rmX8_rain.cells rmX8_rain.slots) (hf : f_X8_rain h v0 v1 v2 = some ((r, h'))) : V X 0 0 h 0 [(0, vR 8 (some v0)), (1, vI v1), (2, vI v2)] [] := by
  unfold f_X8_rain at hf
  refine V_aload_n C dX8_rain_0 rfl 0 rfl ?_
  refine V_iload_n C dX8_rain_1 rfl 1 rfl ?_
  obtain ⟨r4, er4, hf⟩ := o_b hf
  refine V_callV (as := [vI v1]) (st := []) C ml_X8_305 fx8 (ct_X8_isLevel er4) rfl ⟨by decide, by decide, by decide, by decide⟩ (Nat.le_of_ble_eq_true rfl) rfl dX8_rain_2 (cs' := 0) (sl' := 0) rfl rfl ?_
  refine V_if_eq C 20 dX8_rain_5 (by decide) (fun c5 => ?_) (fun c5 => ?_)
  · have hf := i_t c5 hf
    refine V_iconst (v := (-1 : Int32)) C dX8_rain_20 (by decide) ?_
    obtain ⟨hf1, hf2⟩ := Prod.mk.inj (Option.some.inj hf)
    subst hf1
    subst hf2
    exact V_iret C hQ dX8_rain_21
  · have hf := i_f c5 hf
    refine V_iload_n C dX8_rain_8 rfl 2 rfl ?_
    refine V_i2l C dX8_rain_9 ?_
    refine V_lconst (v := (0 : Int64)) C dX8_rain_10 (by decide) ?_
    refine V_ldc2 C kl_X8_369 dX8_rain_11 ?_
    obtain ⟨r6, er6, hf⟩ := o_b hf
    refine V_callS (as := [vL (v2.toInt64), vL (0 : Int64), vL (9999 : Int64)]) (st := []) C ml_X8_127 (ct_X8_in er6) rfl ⟨by decide, by decide, by decide, by decide⟩ (Nat.le_of_ble_eq_true rfl) rfl dX8_rain_14 (cs' := 0) (sl' := 0) rfl rfl ?_
    refine V_if_ne C 22 dX8_rain_17 (by decide) (fun c7 => ?_) (fun c7 => ?_)
    · have hf := i_f c7 hf
      refine V_aload_n C dX8_rain_22 rfl 0 rfl ?_
      refine V_iload_n C dX8_rain_23 rfl 1 rfl ?_
      obtain ⟨r8, er8, hf⟩ := o_b hf
      refine V_callV (as := [vI v1]) (st := []) C ml_X8_330 fx8 (ct_X8_waterOf er8) rfl ⟨by decide, by decide, by decide, by decide⟩ (Nat.le_of_ble_eq_true rfl) rfl dX8_rain_24 (cs' := 0) (sl' := 0) rfl rfl ?_
      refine V_iload_n C dX8_rain_27 rfl 2 rfl ?_
      refine V_iadd C dX8_rain_28 ?_
      refine V_istore_n (lv' := [(3, vI (r8 + v2)), (0, vR 8 (some v0)), (1, vI v1), (2, vI v2)]) C dX8_rain_29 rfl (by decide) rfl ?_
      refine V_aload_n C dX8_rain_30 rfl 1 rfl ?_
      refine V_iload_n C dX8_rain_31 rfl 2 rfl ?_
      obtain ⟨r9, er9, hf⟩ := o_b hf
      refine V_callV (as := [vI v1]) (st := []) C ml_X8_330 fx8 (ct_X8_waterOf er9) rfl ⟨by decide, by decide, by decide, by decide⟩ (Nat.le_of_ble_eq_true rfl) rfl dX8_rain_32 (cs' := 0) (sl' := 0) rfl rfl ?_
      refine V_sipush (v := (9999 : Int32)) C dX8_rain_35 (by decide) ?_
      refine V_icmp_ge C 66 dX8_rain_38 (by decide) (fun c10 => ?_) (fun c10 => ?_)
      · have hf := i_t c10 hf
        refine V_sub (lv' := [(0, vR 8 (some v0)), (1, vI v1)]) [1, 2] rfl ?_
        exact p_X8_rain_66 C hQ hf
      · have hf := i_f c10 hf
        refine V_aload_n C dX8_rain_41 rfl 1 rfl ?_
        obtain ⟨q11, eq11, hf⟩ := o_b hf
        refine V_getR C fl_X8_42 rfl rfl (by decide) eq11 dX8_rain_42 ?_
        refine V_bipush (v := (9 : Int32)) C dX8_rain_45 (by decide) ?_
        refine V_iconst (v := (2 : Int32)) C dX8_rain_47 (by decide) ?_
        refine V_iload_n C dX8_rain_48 rfl 2 rfl ?_
        refine V_imul C dX8_rain_49 ?_
        refine V_iadd C dX8_rain_50 ?_
        refine V_iload_n C dX8_rain_51 rfl 0 rfl ?_
        refine V_sipush (v := (9999 : Int32)) C dX8_rain_52 (by decide) ?_
        refine V_icmp_le C 64 dX8_rain_55 (by decide) (fun c12 => ?_) (fun c12 => ?_)
        · have hf := i_t c12 hf
          refine V_iload_n C dX8_rain_64 rfl 0 rfl ?_
          refine V_sub (lv' := [(0, vR 8 (some v0)), (1, vI v1)]) [1, 2] rfl ?_
          exact p_X8_rain_65 C hQ hf
        · have hf := i_f c12 hf
          refine V_sipush (v := (9999 : Int32)) C dX8_rain_58 (by decide) ?_
          refine V_goto C 65 dX8_rain_61 (by decide) ?_
          refine V_sub (lv' := [(0, vR 8 (some v0)), (1, vI v1)]) [1, 2] rfl ?_
          exact p_X8_rain_65 C hQ hf
    · have hf := i_t c7 hf
      refine V_iconst (v := (-1 : Int32)) C dX8_rain_20 (by decide) ?_
      obtain ⟨hf1, hf2⟩ := Prod.mk.inj (Option.some.inj hf)
      subst hf1
      subst hf2
      exact V_iret C hQ dX8_rain_21
theorem ct_X8_rain {r : Int32} {h' : Hp} {h : Hp} {v0 : Nat} {v1 : Int32} {v2 : Int32} (hf : f_X8_rain h v0 v1 v2 = some ((r, h'))) (l : Launch) (G : GT) : MC l G yX8_rain cX8_rain 4 (some .int) rmX8_rain h [vR 8 (some v0), vI v1, vI v2] (some (vI r)) h' := MC_of (by decide) rfl (Nat.le_of_ble_eq_true rfl) rfl (fun X C hQ hin => p_X8_rain C hQ hf)
abbrev rmX8_chain : Room := { frames := 1, cells := 0, slots := 0, locals := 21 }
def f_X8_chain (h : Hp) (v0 : Nat) (v1 : Int32) (v2 : Int32) : Option (Int32 × Hp) := Option.bind (f_X8_isStep h v0 v1) (fun r1 => if r1 = 0 then (some (((0 : Int32), h))) else (Option.bind (hP h v0 26) (fun q3 => if 5 < hL h q3 then (Option.bind (f_X8_isOf h (hI h q3 (5)) v1) (fun r5 => if r5 = v2 then (Option.bind (hP h v0 26) (fun q7 => if 5 < hL h q7 then (lt ((hI h q7 (5)) ^^^ ((1 : Int32) <<< (v1 &&& 31))) (fun y9 => if 5 < hL h q7 then (lt (sI h q7 (5) y9) (fun h11 => some (((1 : Int32), h11)))) else none)) else none)) else (some (((0 : Int32), h))))) else none)))
set_option maxHeartbeats 4000000 in
set_option maxRecDepth 100000 in
theorem p_X8_chain {X : XT} {r : Int32} {h' : Hp} (C : CX X cX8_chain "WaterStairModel" 3 (some .boolean) rmX8_chain) {h : Hp} {v0 : Nat} {v1 : Int32} {v2 : Int32} (hQ : QX X (some (vI r)) h' rmX8_chain.cells rmX8_chain.slots) (hf : f_X8_chain h v0 v1 v2 = some ((r, h'))) : V X 0 0 h 0 [(0, vR 8 (some v0)), (1, vI v1), (2, vI v2)] [] := by
  unfold f_X8_chain at hf
  refine V_aload_n C dX8_chain_0 rfl 0 rfl ?_
  refine V_iload_n C dX8_chain_1 rfl 1 rfl ?_
  obtain ⟨r1, er1, hf⟩ := o_b hf
  refine V_callV (as := [vI v1]) (st := []) C ml_X8_313 fx8 (ct_X8_isStep er1) rfl ⟨by decide, by decide, by decide, by decide⟩ (Nat.le_of_ble_eq_true rfl) rfl dX8_chain_2 (cs' := 0) (sl' := 0) rfl rfl ?_
  refine V_if_eq C 22 dX8_chain_5 (by decide) (fun c2 => ?_) (fun c2 => ?_)
  · have hf := i_t c2 hf
    refine V_iconst (v := (0 : Int32)) C dX8_chain_22 (by decide) ?_
    obtain ⟨hf1, hf2⟩ := Prod.mk.inj (Option.some.inj hf)
    subst hf1
    subst hf2
    exact V_zret C (by decide) hQ dX8_chain_23
  · have hf := i_f c2 hf
    refine V_aload_n C dX8_chain_8 rfl 0 rfl ?_
    obtain ⟨q3, eq3, hf⟩ := o_b hf
    refine V_getR C fl_X8_42 rfl rfl (by decide) eq3 dX8_chain_9 ?_
    refine V_iconst (v := (5 : Int32)) C dX8_chain_12 (by decide) ?_
    obtain ⟨g4, hf⟩ := o_if hf
    refine V_iald C (vp_k (by decide) (by decide) g4) (by decide : Int32.toNatClampNeg (5 : Int32) = 5) dX8_chain_13 ?_
    refine V_iload_n C dX8_chain_14 rfl 1 rfl ?_
    obtain ⟨r5, er5, hf⟩ := o_b hf
    refine V_callS (as := [vI (hI h q3 (5)), vI v1]) (st := []) C ml_X8_316 (ct_X8_isOf er5) rfl ⟨by decide, by decide, by decide, by decide⟩ (Nat.le_of_ble_eq_true rfl) rfl dX8_chain_15 (cs' := 0) (sl' := 0) rfl rfl ?_
    refine V_iload_n C dX8_chain_18 rfl 2 rfl ?_
    refine V_icmp_eq C 24 dX8_chain_19 (by decide) (fun c6 => ?_) (fun c6 => ?_)
    · have hf := i_t c6 hf
      refine V_aload_n C dX8_chain_24 rfl 0 rfl ?_
      obtain ⟨q7, eq7, hf⟩ := o_b hf
      refine V_getR C fl_X8_42 rfl rfl (by decide) eq7 dX8_chain_25 ?_
      refine V_iconst (v := (5 : Int32)) C dX8_chain_28 (by decide) ?_
      refine V_dup2 C dX8_chain_29 rfl rfl ?_
      obtain ⟨g8, hf⟩ := o_if hf
      refine V_iald C (vp_k (by decide) (by decide) g8) (by decide : Int32.toNatClampNeg (5 : Int32) = 5) dX8_chain_30 ?_
      refine V_iconst (v := (1 : Int32)) C dX8_chain_31 (by decide) ?_
      refine V_iload_n C dX8_chain_32 rfl 1 rfl ?_
      refine V_ishl C dX8_chain_33 ?_
      refine V_ixor C dX8_chain_34 ?_
      obtain ⟨y9, ey9, hf⟩ := o_l hf
      refine V_eqI ey9 ?_
      obtain ⟨g10, hf⟩ := o_if hf
      obtain ⟨h11, eh11, hf⟩ := o_l hf
      refine V_iast C (vp_k (by decide) (by decide) g10) (by decide : Int32.toNatClampNeg (5 : Int32) = 5) dX8_chain_35 (V_eqH eh11 ?_)
      refine V_iconst (v := (1 : Int32)) C dX8_chain_36 (by decide) ?_
      obtain ⟨hf1, hf2⟩ := Prod.mk.inj (Option.some.inj hf)
      subst hf1
      subst hf2
      exact V_zret C (by decide) hQ dX8_chain_37
    · have hf := i_f c6 hf
      refine V_iconst (v := (0 : Int32)) C dX8_chain_22 (by decide) ?_
      obtain ⟨hf1, hf2⟩ := Prod.mk.inj (Option.some.inj hf)
      subst hf1
      subst hf2
      exact V_zret C (by decide) hQ dX8_chain_23
theorem ct_X8_chain {r : Int32} {h' : Hp} {h : Hp} {v0 : Nat} {v1 : Int32} {v2 : Int32} (hf : f_X8_chain h v0 v1 v2 = some ((r, h'))) (l : Launch) (G : GT) : MC l G yX8_chain cX8_chain 3 (some .boolean) rmX8_chain h [vR 8 (some v0), vI v1, vI v2] (some (vI r)) h' := MC_of (by decide) rfl (Nat.le_of_ble_eq_true rfl) rfl (fun X C hQ hin => p_X8_chain C hQ hf)
abbrev rmX8_tipMany : Room := { frames := 0, cells := 0, slots := 0, locals := 0 }
def f_X8_tipMany (h : Hp) (v0 : Nat) : Option (Int32) := Option.bind (hP h v0 26) (fun q1 => if 0 < hL h q1 then (if hI h q1 (0) = 0 then (some (0 : Int32)) else (Option.bind (hP h v0 26) (fun q4 => if 0 < hL h q4 then (Option.bind (hP h v0 26) (fun q6 => if 1 < hL h q6 then (Option.bind (hP h v0 26) (fun q8 => if 1 < hL h q8 then (some ((((hI h q4 (0)) - (1 : Int32)) * ((hI h q6 (1)) + (1 : Int32))) * ((hI h q8 (1)) + (1 : Int32)))) else none)) else none)) else none))) else none)
set_option maxHeartbeats 4000000 in
set_option maxRecDepth 100000 in
theorem p_X8_tipMany {X : XT} {r : Int32} (C : CX X cX8_tipMany "WaterStairModel" 1 (some .int) rmX8_tipMany) {h : Hp} {v0 : Nat} (hQ : QX X (some (vI r)) h rmX8_tipMany.cells rmX8_tipMany.slots) (hf : f_X8_tipMany h v0 = some r) : V X 0 0 h 0 [(0, vR 8 (some v0))] [] := by
  unfold f_X8_tipMany at hf
  refine V_aload_n C dX8_tipMany_0 rfl 0 rfl ?_
  obtain ⟨q1, eq1, hf⟩ := o_b hf
  refine V_getR C fl_X8_42 rfl rfl (by decide) eq1 dX8_tipMany_1 ?_
  refine V_iconst (v := (0 : Int32)) C dX8_tipMany_4 (by decide) ?_
  obtain ⟨g2, hf⟩ := o_if hf
  refine V_iald C (vp_k (by decide) (by decide) g2) (by decide : Int32.toNatClampNeg (0 : Int32) = 0) dX8_tipMany_5 ?_
  refine V_if_ne C 13 dX8_tipMany_6 (by decide) (fun c3 => ?_) (fun c3 => ?_)
  · have hf := i_f c3 hf
    refine V_aload_n C dX8_tipMany_13 rfl 0 rfl ?_
    obtain ⟨q4, eq4, hf⟩ := o_b hf
    refine V_getR C fl_X8_42 rfl rfl (by decide) eq4 dX8_tipMany_14 ?_
    refine V_iconst (v := (0 : Int32)) C dX8_tipMany_17 (by decide) ?_
    obtain ⟨g5, hf⟩ := o_if hf
    refine V_iald C (vp_k (by decide) (by decide) g5) (by decide : Int32.toNatClampNeg (0 : Int32) = 0) dX8_tipMany_18 ?_
    refine V_iconst (v := (1 : Int32)) C dX8_tipMany_19 (by decide) ?_
    refine V_isub C dX8_tipMany_20 ?_
    refine V_aload_n C dX8_tipMany_21 rfl 0 rfl ?_
    obtain ⟨q6, eq6, hf⟩ := o_b hf
    refine V_getR C fl_X8_42 rfl rfl (by decide) eq6 dX8_tipMany_22 ?_
    refine V_iconst (v := (1 : Int32)) C dX8_tipMany_25 (by decide) ?_
    obtain ⟨g7, hf⟩ := o_if hf
    refine V_iald C (vp_k (by decide) (by decide) g7) (by decide : Int32.toNatClampNeg (1 : Int32) = 1) dX8_tipMany_26 ?_
    refine V_iconst (v := (1 : Int32)) C dX8_tipMany_27 (by decide) ?_
    refine V_iadd C dX8_tipMany_28 ?_
    refine V_imul C dX8_tipMany_29 ?_
    refine V_aload_n C dX8_tipMany_30 rfl 0 rfl ?_
    obtain ⟨q8, eq8, hf⟩ := o_b hf
    refine V_getR C fl_X8_42 rfl rfl (by decide) eq8 dX8_tipMany_31 ?_
    refine V_iconst (v := (1 : Int32)) C dX8_tipMany_34 (by decide) ?_
    obtain ⟨g9, hf⟩ := o_if hf
    refine V_iald C (vp_k (by decide) (by decide) g9) (by decide : Int32.toNatClampNeg (1 : Int32) = 1) dX8_tipMany_35 ?_
    refine V_iconst (v := (1 : Int32)) C dX8_tipMany_36 (by decide) ?_
    refine V_iadd C dX8_tipMany_37 ?_
    refine V_imul C dX8_tipMany_38 ?_
    have hf := Option.some.inj hf
    subst hf
    exact V_iret C hQ dX8_tipMany_39
  · have hf := i_t c3 hf
    refine V_iconst (v := (0 : Int32)) C dX8_tipMany_9 (by decide) ?_
    refine V_goto C 39 dX8_tipMany_10 (by decide) ?_
    have hf := Option.some.inj hf
    subst hf
    exact V_iret C hQ dX8_tipMany_39
theorem ct_X8_tipMany {r : Int32} {h : Hp} {v0 : Nat} (hf : f_X8_tipMany h v0 = some r) (l : Launch) (G : GT) : MC l G yX8_tipMany cX8_tipMany 1 (some .int) rmX8_tipMany h [vR 8 (some v0)] (some (vI r)) h := MC_of (by decide) rfl (Nat.le_of_ble_eq_true rfl) rfl (fun X C hQ hin => p_X8_tipMany C hQ hf)
abbrev rmX8_stepBy : Room := { frames := 0, cells := 0, slots := 0, locals := 0 }
def f_X8_stepBy (h : Hp) (v0 : Nat) (v1 : Int32) : Option (Int32) := Option.bind (hP h v0 26) (fun q1 => if 1 < hL h q1 then (Option.bind (hP h v0 26) (fun q3 => if 1 < hL h q3 then (if ¬ ((hI h q1 (1)) + (1 : Int32)) * ((hI h q3 (1)) + (1 : Int32)) = 0 then (some (v1 / (((hI h q1 (1)) + (1 : Int32)) * ((hI h q3 (1)) + (1 : Int32))))) else none) else none)) else none)
set_option maxHeartbeats 4000000 in
set_option maxRecDepth 100000 in
theorem p_X8_stepBy {X : XT} {r : Int32} (C : CX X cX8_stepBy "WaterStairModel" 2 (some .int) rmX8_stepBy) {h : Hp} {v0 : Nat} {v1 : Int32} (hQ : QX X (some (vI r)) h rmX8_stepBy.cells rmX8_stepBy.slots) (hf : f_X8_stepBy h v0 v1 = some r) : V X 0 0 h 0 [(0, vR 8 (some v0)), (1, vI v1)] [] := by
  unfold f_X8_stepBy at hf
  refine V_iload_n C dX8_stepBy_0 rfl 1 rfl ?_
  refine V_aload_n C dX8_stepBy_1 rfl 0 rfl ?_
  obtain ⟨q1, eq1, hf⟩ := o_b hf
  refine V_getR C fl_X8_42 rfl rfl (by decide) eq1 dX8_stepBy_2 ?_
  refine V_iconst (v := (1 : Int32)) C dX8_stepBy_5 (by decide) ?_
  obtain ⟨g2, hf⟩ := o_if hf
  refine V_iald C (vp_k (by decide) (by decide) g2) (by decide : Int32.toNatClampNeg (1 : Int32) = 1) dX8_stepBy_6 ?_
  refine V_iconst (v := (1 : Int32)) C dX8_stepBy_7 (by decide) ?_
  refine V_iadd C dX8_stepBy_8 ?_
  refine V_aload_n C dX8_stepBy_9 rfl 0 rfl ?_
  obtain ⟨q3, eq3, hf⟩ := o_b hf
  refine V_getR C fl_X8_42 rfl rfl (by decide) eq3 dX8_stepBy_10 ?_
  refine V_iconst (v := (1 : Int32)) C dX8_stepBy_13 (by decide) ?_
  obtain ⟨g4, hf⟩ := o_if hf
  refine V_iald C (vp_k (by decide) (by decide) g4) (by decide : Int32.toNatClampNeg (1 : Int32) = 1) dX8_stepBy_14 ?_
  refine V_iconst (v := (1 : Int32)) C dX8_stepBy_15 (by decide) ?_
  refine V_iadd C dX8_stepBy_16 ?_
  refine V_imul C dX8_stepBy_17 ?_
  obtain ⟨g5, hf⟩ := o_if hf
  refine V_idiv C dX8_stepBy_18 g5 ?_
  have hf := Option.some.inj hf
  subst hf
  exact V_iret C hQ dX8_stepBy_19
theorem ct_X8_stepBy {r : Int32} {h : Hp} {v0 : Nat} {v1 : Int32} (hf : f_X8_stepBy h v0 v1 = some r) (l : Launch) (G : GT) : MC l G yX8_stepBy cX8_stepBy 2 (some .int) rmX8_stepBy h [vR 8 (some v0), vI v1] (some (vI r)) h := MC_of (by decide) rfl (Nat.le_of_ble_eq_true rfl) rfl (fun X C hQ hin => p_X8_stepBy C hQ hf)
abbrev rmX8_downBy : Room := { frames := 0, cells := 0, slots := 0, locals := 0 }
def f_X8_downBy (h : Hp) (v0 : Nat) (v1 : Int32) : Option (Int32) := Option.bind (hP h v0 26) (fun q1 => if 1 < hL h q1 then (if ¬ (hI h q1 (1)) + (1 : Int32) = 0 then (Option.bind (hP h v0 26) (fun q4 => if 1 < hL h q4 then (if ¬ (hI h q4 (1)) + (1 : Int32) = 0 then (lt ((v1 / ((hI h q1 (1)) + (1 : Int32))) - (v1 / ((hI h q1 (1)) + (1 : Int32))) / ((hI h q4 (1)) + (1 : Int32)) * ((hI h q4 (1)) + (1 : Int32))) (fun y7 => Option.bind (hP h v0 26) (fun q8 => if 1 < hL h q8 then (if y7 = (hI h q8 (1)) then (some (-1 : Int32)) else (some y7)) else none))) else none) else none)) else none) else none)
set_option maxHeartbeats 4000000 in
set_option maxRecDepth 100000 in
theorem p_X8_downBy {X : XT} {r : Int32} (C : CX X cX8_downBy "WaterStairModel" 3 (some .int) rmX8_downBy) {h : Hp} {v0 : Nat} {v1 : Int32} (hQ : QX X (some (vI r)) h rmX8_downBy.cells rmX8_downBy.slots) (hf : f_X8_downBy h v0 v1 = some r) : V X 0 0 h 0 [(0, vR 8 (some v0)), (1, vI v1)] [] := by
  unfold f_X8_downBy at hf
  refine V_iload_n C dX8_downBy_0 rfl 1 rfl ?_
  refine V_aload_n C dX8_downBy_1 rfl 0 rfl ?_
  obtain ⟨q1, eq1, hf⟩ := o_b hf
  refine V_getR C fl_X8_42 rfl rfl (by decide) eq1 dX8_downBy_2 ?_
  refine V_iconst (v := (1 : Int32)) C dX8_downBy_5 (by decide) ?_
  obtain ⟨g2, hf⟩ := o_if hf
  refine V_iald C (vp_k (by decide) (by decide) g2) (by decide : Int32.toNatClampNeg (1 : Int32) = 1) dX8_downBy_6 ?_
  refine V_iconst (v := (1 : Int32)) C dX8_downBy_7 (by decide) ?_
  refine V_iadd C dX8_downBy_8 ?_
  obtain ⟨g3, hf⟩ := o_if hf
  refine V_idiv C dX8_downBy_9 g3 ?_
  refine V_aload_n C dX8_downBy_10 rfl 0 rfl ?_
  obtain ⟨q4, eq4, hf⟩ := o_b hf
  refine V_getR C fl_X8_42 rfl rfl (by decide) eq4 dX8_downBy_11 ?_
  refine V_iconst (v := (1 : Int32)) C dX8_downBy_14 (by decide) ?_
  obtain ⟨g5, hf⟩ := o_if hf
  refine V_iald C (vp_k (by decide) (by decide) g5) (by decide : Int32.toNatClampNeg (1 : Int32) = 1) dX8_downBy_15 ?_
  refine V_iconst (v := (1 : Int32)) C dX8_downBy_16 (by decide) ?_
  refine V_iadd C dX8_downBy_17 ?_
  obtain ⟨g6, hf⟩ := o_if hf
  refine V_irem C dX8_downBy_18 g6 ?_
  obtain ⟨y7, ey7, hf⟩ := o_l hf
  refine V_eqI ey7 ?_
  refine V_istore_n (lv' := [(2, vI y7), (0, vR 8 (some v0)), (1, vI v1)]) C dX8_downBy_19 rfl (by decide) rfl ?_
  refine V_iload_n C dX8_downBy_20 rfl 0 rfl ?_
  refine V_aload_n C dX8_downBy_21 rfl 1 rfl ?_
  obtain ⟨q8, eq8, hf⟩ := o_b hf
  refine V_getR C fl_X8_42 rfl rfl (by decide) eq8 dX8_downBy_22 ?_
  refine V_iconst (v := (1 : Int32)) C dX8_downBy_25 (by decide) ?_
  obtain ⟨g9, hf⟩ := o_if hf
  refine V_iald C (vp_k (by decide) (by decide) g9) (by decide : Int32.toNatClampNeg (1 : Int32) = 1) dX8_downBy_26 ?_
  refine V_icmp_ne C 34 dX8_downBy_27 (by decide) (fun c10 => ?_) (fun c10 => ?_)
  · have hf := i_f c10 hf
    refine V_iload_n C dX8_downBy_34 rfl 0 rfl ?_
    have hf := Option.some.inj hf
    subst hf
    exact V_iret C hQ dX8_downBy_35
  · have hf := i_t c10 hf
    refine V_iconst (v := (-1 : Int32)) C dX8_downBy_30 (by decide) ?_
    refine V_goto C 35 dX8_downBy_31 (by decide) ?_
    have hf := Option.some.inj hf
    subst hf
    exact V_iret C hQ dX8_downBy_35
theorem ct_X8_downBy {r : Int32} {h : Hp} {v0 : Nat} {v1 : Int32} (hf : f_X8_downBy h v0 v1 = some r) (l : Launch) (G : GT) : MC l G yX8_downBy cX8_downBy 3 (some .int) rmX8_downBy h [vR 8 (some v0), vI v1] (some (vI r)) h := MC_of (by decide) rfl (Nat.le_of_ble_eq_true rfl) rfl (fun X C hQ hin => p_X8_downBy C hQ hf)
abbrev rmX8_upBy : Room := { frames := 0, cells := 0, slots := 0, locals := 0 }
def f_X8_upBy (h : Hp) (v0 : Nat) (v1 : Int32) : Option (Int32) := Option.bind (hP h v0 26) (fun q1 => if 1 < hL h q1 then (if ¬ (hI h q1 (1)) + (1 : Int32) = 0 then (lt (v1 - v1 / ((hI h q1 (1)) + (1 : Int32)) * ((hI h q1 (1)) + (1 : Int32))) (fun y4 => Option.bind (hP h v0 26) (fun q5 => if 1 < hL h q5 then (if y4 = (hI h q5 (1)) then (some (-1 : Int32)) else (some y4)) else none))) else none) else none)
set_option maxHeartbeats 4000000 in
set_option maxRecDepth 100000 in
theorem p_X8_upBy {X : XT} {r : Int32} (C : CX X cX8_upBy "WaterStairModel" 3 (some .int) rmX8_upBy) {h : Hp} {v0 : Nat} {v1 : Int32} (hQ : QX X (some (vI r)) h rmX8_upBy.cells rmX8_upBy.slots) (hf : f_X8_upBy h v0 v1 = some r) : V X 0 0 h 0 [(0, vR 8 (some v0)), (1, vI v1)] [] := by
  unfold f_X8_upBy at hf
  refine V_iload_n C dX8_upBy_0 rfl 1 rfl ?_
  refine V_aload_n C dX8_upBy_1 rfl 0 rfl ?_
  obtain ⟨q1, eq1, hf⟩ := o_b hf
  refine V_getR C fl_X8_42 rfl rfl (by decide) eq1 dX8_upBy_2 ?_
  refine V_iconst (v := (1 : Int32)) C dX8_upBy_5 (by decide) ?_
  obtain ⟨g2, hf⟩ := o_if hf
  refine V_iald C (vp_k (by decide) (by decide) g2) (by decide : Int32.toNatClampNeg (1 : Int32) = 1) dX8_upBy_6 ?_
  refine V_iconst (v := (1 : Int32)) C dX8_upBy_7 (by decide) ?_
  refine V_iadd C dX8_upBy_8 ?_
  obtain ⟨g3, hf⟩ := o_if hf
  refine V_irem C dX8_upBy_9 g3 ?_
  obtain ⟨y4, ey4, hf⟩ := o_l hf
  refine V_eqI ey4 ?_
  refine V_istore_n (lv' := [(2, vI y4), (0, vR 8 (some v0)), (1, vI v1)]) C dX8_upBy_10 rfl (by decide) rfl ?_
  refine V_iload_n C dX8_upBy_11 rfl 0 rfl ?_
  refine V_aload_n C dX8_upBy_12 rfl 1 rfl ?_
  obtain ⟨q5, eq5, hf⟩ := o_b hf
  refine V_getR C fl_X8_42 rfl rfl (by decide) eq5 dX8_upBy_13 ?_
  refine V_iconst (v := (1 : Int32)) C dX8_upBy_16 (by decide) ?_
  obtain ⟨g6, hf⟩ := o_if hf
  refine V_iald C (vp_k (by decide) (by decide) g6) (by decide : Int32.toNatClampNeg (1 : Int32) = 1) dX8_upBy_17 ?_
  refine V_icmp_ne C 25 dX8_upBy_18 (by decide) (fun c7 => ?_) (fun c7 => ?_)
  · have hf := i_f c7 hf
    refine V_iload_n C dX8_upBy_25 rfl 0 rfl ?_
    have hf := Option.some.inj hf
    subst hf
    exact V_iret C hQ dX8_upBy_26
  · have hf := i_t c7 hf
    refine V_iconst (v := (-1 : Int32)) C dX8_upBy_21 (by decide) ?_
    refine V_goto C 26 dX8_upBy_22 (by decide) ?_
    have hf := Option.some.inj hf
    subst hf
    exact V_iret C hQ dX8_upBy_26
theorem ct_X8_upBy {r : Int32} {h : Hp} {v0 : Nat} {v1 : Int32} (hf : f_X8_upBy h v0 v1 = some r) (l : Launch) (G : GT) : MC l G yX8_upBy cX8_upBy 3 (some .int) rmX8_upBy h [vR 8 (some v0), vI v1] (some (vI r)) h := MC_of (by decide) rfl (Nat.le_of_ble_eq_true rfl) rfl (fun X C hQ hin => p_X8_upBy C hQ hf)
abbrev rmX8_mayBe : Room := { frames := 5, cells := 0, slots := 0, locals := 115 }
def f_X8_mayBe_16 (N : Nat) (h : Hp) (v0 : Nat) (v1 : Int32) : Option (Int32 × Hp) := Option.bind (f_X8_stepBy h v0 v1) (fun r1 => Option.bind (f_X8_downBy h v0 v1) (fun r2 => Option.bind (f_X8_upBy h v0 v1) (fun r3 => b2 (f_X8_broken N h v0 r1 r2 r3) (fun r4 h5 => if r4 = 0 then (some (((1 : Int32), h5))) else (some (((0 : Int32), h5)))))))
set_option maxHeartbeats 4000000 in
set_option maxRecDepth 100000 in
theorem p_X8_mayBe_16 {X : XT} {r : Int32} {h' : Hp} (C : CX X cX8_mayBe "WaterStairModel" 2 (some .boolean) rmX8_mayBe) (hQ : QX X (some (vI r)) h' rmX8_mayBe.cells rmX8_mayBe.slots) {N : Nat}  {h : Hp} {v0 : Nat} {v1 : Int32} (hf : f_X8_mayBe_16 N h v0 v1 = some ((r, h'))) : V X 0 0 h 16 [(0, vR 8 (some v0)), (1, vI v1)] [] := by
  unfold f_X8_mayBe_16 at hf
  refine V_aload_n C dX8_mayBe_16 rfl 0 rfl ?_
  refine V_aload_n C dX8_mayBe_17 rfl 0 rfl ?_
  refine V_iload_n C dX8_mayBe_18 rfl 1 rfl ?_
  obtain ⟨r1, er1, hf⟩ := o_b hf
  refine V_callV (as := [vI v1]) (st := [vR 8 (some v0)]) C ml_X8_377 fx8 (ct_X8_stepBy er1) rfl ⟨by decide, by decide, by decide, by decide⟩ (Nat.le_of_ble_eq_true rfl) rfl dX8_mayBe_19 (cs' := 0) (sl' := 0) rfl rfl ?_
  refine V_aload_n C dX8_mayBe_22 rfl 0 rfl ?_
  refine V_iload_n C dX8_mayBe_23 rfl 1 rfl ?_
  obtain ⟨r2, er2, hf⟩ := o_b hf
  refine V_callV (as := [vI v1]) (st := [vI r1, vR 8 (some v0)]) C ml_X8_371 fx8 (ct_X8_downBy er2) rfl ⟨by decide, by decide, by decide, by decide⟩ (Nat.le_of_ble_eq_true rfl) rfl dX8_mayBe_24 (cs' := 0) (sl' := 0) rfl rfl ?_
  refine V_aload_n C dX8_mayBe_27 rfl 0 rfl ?_
  refine V_iload_n C dX8_mayBe_28 rfl 1 rfl ?_
  obtain ⟨r3, er3, hf⟩ := o_b hf
  refine V_callV (as := [vI v1]) (st := [vI r2, vI r1, vR 8 (some v0)]) C ml_X8_374 fx8 (ct_X8_upBy er3) rfl ⟨by decide, by decide, by decide, by decide⟩ (Nat.le_of_ble_eq_true rfl) rfl dX8_mayBe_29 (cs' := 0) (sl' := 0) rfl rfl ?_
  obtain ⟨r4, h5, er4, hf⟩ := o_b2 hf
  refine V_callV (as := [vI r1, vI r2, vI r3]) (st := []) C ml_X8_359 fx8 (ct_X8_broken er4) rfl ⟨by decide, by decide, by decide, by decide⟩ (Nat.le_of_ble_eq_true rfl) rfl dX8_mayBe_32 (cs' := 0) (sl' := 0) rfl rfl ?_
  refine V_if_ne C 42 dX8_mayBe_35 (by decide) (fun c6 => ?_) (fun c6 => ?_)
  · have hf := i_f c6 hf
    refine V_iconst (v := (0 : Int32)) C dX8_mayBe_42 (by decide) ?_
    obtain ⟨hf1, hf2⟩ := Prod.mk.inj (Option.some.inj hf)
    subst hf1
    subst hf2
    exact V_zret C (by decide) hQ dX8_mayBe_43
  · have hf := i_t c6 hf
    refine V_iconst (v := (1 : Int32)) C dX8_mayBe_38 (by decide) ?_
    refine V_goto C 43 dX8_mayBe_39 (by decide) ?_
    obtain ⟨hf1, hf2⟩ := Prod.mk.inj (Option.some.inj hf)
    subst hf1
    subst hf2
    exact V_zret C (by decide) hQ dX8_mayBe_43
def f_X8_mayBe (N : Nat) (h : Hp) (v0 : Nat) (v1 : Int32) : Option (Int32 × Hp) := Option.bind (f_X8_downBy h v0 v1) (fun r7 => if 0 ≤ r7 then (f_X8_mayBe_16 N h v0 v1) else (Option.bind (f_X8_upBy h v0 v1) (fun r9 => if r9 < 0 then (some (((0 : Int32), h))) else (f_X8_mayBe_16 N h v0 v1))))
set_option maxHeartbeats 4000000 in
set_option maxRecDepth 100000 in
theorem p_X8_mayBe {X : XT} {r : Int32} {h' : Hp} (C : CX X cX8_mayBe "WaterStairModel" 2 (some .boolean) rmX8_mayBe) {N : Nat} {h : Hp} {v0 : Nat} {v1 : Int32} (hQ : QX X (some (vI r)) h' rmX8_mayBe.cells rmX8_mayBe.slots) (hf : f_X8_mayBe N h v0 v1 = some ((r, h'))) : V X 0 0 h 0 [(0, vR 8 (some v0)), (1, vI v1)] [] := by
  unfold f_X8_mayBe at hf
  refine V_aload_n C dX8_mayBe_0 rfl 0 rfl ?_
  refine V_iload_n C dX8_mayBe_1 rfl 1 rfl ?_
  obtain ⟨r7, er7, hf⟩ := o_b hf
  refine V_callV (as := [vI v1]) (st := []) C ml_X8_371 fx8 (ct_X8_downBy er7) rfl ⟨by decide, by decide, by decide, by decide⟩ (Nat.le_of_ble_eq_true rfl) rfl dX8_mayBe_2 (cs' := 0) (sl' := 0) rfl rfl ?_
  refine V_if_ge C 16 dX8_mayBe_5 (by decide) (fun c8 => ?_) (fun c8 => ?_)
  · have hf := i_t c8 hf
    refine V_sub (lv' := [(0, vR 8 (some v0)), (1, vI v1)]) [0, 1] rfl ?_
    exact p_X8_mayBe_16 C hQ hf
  · have hf := i_f c8 hf
    refine V_aload_n C dX8_mayBe_8 rfl 0 rfl ?_
    refine V_iload_n C dX8_mayBe_9 rfl 1 rfl ?_
    obtain ⟨r9, er9, hf⟩ := o_b hf
    refine V_callV (as := [vI v1]) (st := []) C ml_X8_374 fx8 (ct_X8_upBy er9) rfl ⟨by decide, by decide, by decide, by decide⟩ (Nat.le_of_ble_eq_true rfl) rfl dX8_mayBe_10 (cs' := 0) (sl' := 0) rfl rfl ?_
    refine V_if_lt C 42 dX8_mayBe_13 (by decide) (fun c10 => ?_) (fun c10 => ?_)
    · have hf := i_t c10 hf
      refine V_iconst (v := (0 : Int32)) C dX8_mayBe_42 (by decide) ?_
      obtain ⟨hf1, hf2⟩ := Prod.mk.inj (Option.some.inj hf)
      subst hf1
      subst hf2
      exact V_zret C (by decide) hQ dX8_mayBe_43
    · have hf := i_f c10 hf
      refine V_sub (lv' := [(0, vR 8 (some v0)), (1, vI v1)]) [0, 1] rfl ?_
      exact p_X8_mayBe_16 C hQ hf
theorem ct_X8_mayBe {r : Int32} {h' : Hp} {N : Nat} {h : Hp} {v0 : Nat} {v1 : Int32} (hf : f_X8_mayBe N h v0 v1 = some ((r, h'))) (l : Launch) (G : GT) : MC l G yX8_mayBe cX8_mayBe 2 (some .boolean) rmX8_mayBe h [vR 8 (some v0), vI v1] (some (vI r)) h' := MC_of (by decide) rfl (Nat.le_of_ble_eq_true rfl) rfl (fun X C hQ hin => p_X8_mayBe C hQ hf)
abbrev rmX8_firstFrom : Room := { frames := 6, cells := 0, slots := 0, locals := 136 }
def f_X8_firstFrom_2 (N : Nat) : Nat → Hp → Nat → Int32 → Option (Int32 × Hp)
  | 0, _, _, _ => none
  | n + 1, h, v0, v2 => Option.bind (f_X8_tipMany h v0) (fun r1 => if r1 ≤ v2 then (some (((-1 : Int32), h))) else (b2 (f_X8_mayBe N h v0 v2) (fun r3 h4 => if r3 = 0 then (f_X8_firstFrom_2 N n h4 v0 (v2 + (1 : Int32))) else (some ((v2, h4))))))
set_option maxHeartbeats 4000000 in
set_option maxRecDepth 100000 in
theorem p_X8_firstFrom_2 {X : XT} {r : Int32} {h' : Hp} (C : CX X cX8_firstFrom "WaterStairModel" 3 (some .int) rmX8_firstFrom) (hQ : QX X (some (vI r)) h' rmX8_firstFrom.cells rmX8_firstFrom.slots) {N : Nat}  : ∀ (n : Nat) (h : Hp) (v0 : Nat) (v2 : Int32), f_X8_firstFrom_2 N n h v0 v2 = some ((r, h')) → V X 0 0 h 2 [(0, vR 8 (some v0)), (2, vI v2)] [] := by
  intro n
  induction n with
  | zero =>
    intro h v0 v2 hf
    have hf : (none : Option (Int32 × Hp)) = some _ := hf
    cases hf
  | succ n ih =>
    intro h v0 v2 hf
    rw [f_X8_firstFrom_2] at hf
    refine V_iload_n C dX8_firstFrom_2 rfl 1 rfl ?_
    refine V_aload_n C dX8_firstFrom_3 rfl 0 rfl ?_
    obtain ⟨r1, er1, hf⟩ := o_b hf
    refine V_callV (as := []) (st := [vI v2]) C ml_X8_380 fx8 (ct_X8_tipMany er1) rfl ⟨by decide, by decide, by decide, by decide⟩ (Nat.le_of_ble_eq_true rfl) rfl dX8_firstFrom_4 (cs' := 0) (sl' := 0) rfl rfl ?_
    refine V_icmp_ge C 26 dX8_firstFrom_7 (by decide) (fun c2 => ?_) (fun c2 => ?_)
    · have hf := i_t c2 hf
      refine V_iconst (v := (-1 : Int32)) C dX8_firstFrom_26 (by decide) ?_
      obtain ⟨hf1, hf2⟩ := Prod.mk.inj (Option.some.inj hf)
      subst hf1
      subst hf2
      exact V_iret C hQ dX8_firstFrom_27
    · have hf := i_f c2 hf
      refine V_aload_n C dX8_firstFrom_10 rfl 0 rfl ?_
      refine V_iload_n C dX8_firstFrom_11 rfl 1 rfl ?_
      obtain ⟨r3, h4, er3, hf⟩ := o_b2 hf
      refine V_callV (as := [vI v2]) (st := []) C ml_X8_383 fx8 (ct_X8_mayBe er3) rfl ⟨by decide, by decide, by decide, by decide⟩ (Nat.le_of_ble_eq_true rfl) rfl dX8_firstFrom_12 (cs' := 0) (sl' := 0) rfl rfl ?_
      refine V_if_eq C 20 dX8_firstFrom_15 (by decide) (fun c5 => ?_) (fun c5 => ?_)
      · have hf := i_t c5 hf
        refine V_iinc (lv' := [(2, vI (v2 + (1 : Int32))), (0, vR 8 (some v0))]) C dX8_firstFrom_20 1 rfl (congrArg (v2 + ·) (by decide : Int32.ofInt (1) = (1 : Int32))) (by decide) rfl ?_
        refine V_goto C 2 dX8_firstFrom_23 (by decide) ?_
        refine V_sub (lv' := [(0, vR 8 (some v0)), (2, vI (v2 + (1 : Int32)))]) [1, 0] rfl ?_
        exact ih _ _ _ hf
      · have hf := i_f c5 hf
        refine V_iload_n C dX8_firstFrom_18 rfl 1 rfl ?_
        obtain ⟨hf1, hf2⟩ := Prod.mk.inj (Option.some.inj hf)
        subst hf1
        subst hf2
        exact V_iret C hQ dX8_firstFrom_19
def f_X8_firstFrom (N : Nat) (h : Hp) (v0 : Nat) (v1 : Int32) : Option (Int32 × Hp) := f_X8_firstFrom_2 N N h v0 v1
set_option maxHeartbeats 4000000 in
set_option maxRecDepth 100000 in
theorem p_X8_firstFrom {X : XT} {r : Int32} {h' : Hp} (C : CX X cX8_firstFrom "WaterStairModel" 3 (some .int) rmX8_firstFrom) {N : Nat} {h : Hp} {v0 : Nat} {v1 : Int32} (hQ : QX X (some (vI r)) h' rmX8_firstFrom.cells rmX8_firstFrom.slots) (hf : f_X8_firstFrom N h v0 v1 = some ((r, h'))) : V X 0 0 h 0 [(0, vR 8 (some v0)), (1, vI v1)] [] := by
  unfold f_X8_firstFrom at hf
  refine V_iload_n C dX8_firstFrom_0 rfl 1 rfl ?_
  refine V_istore_n (lv' := [(2, vI v1), (0, vR 8 (some v0)), (1, vI v1)]) C dX8_firstFrom_1 rfl (by decide) rfl ?_
  refine V_sub (lv' := [(0, vR 8 (some v0)), (2, vI v1)]) [1, 0] rfl ?_
  exact p_X8_firstFrom_2 C hQ N _ _ _ hf
theorem ct_X8_firstFrom {r : Int32} {h' : Hp} {N : Nat} {h : Hp} {v0 : Nat} {v1 : Int32} (hf : f_X8_firstFrom N h v0 v1 = some ((r, h'))) (l : Launch) (G : GT) : MC l G yX8_firstFrom cX8_firstFrom 3 (some .int) rmX8_firstFrom h [vR 8 (some v0), vI v1] (some (vI r)) h' := MC_of (by decide) rfl (Nat.le_of_ble_eq_true rfl) rfl (fun X C hQ hin => p_X8_firstFrom C hQ hf)
abbrev rmX8_runs : Room := { frames := 7, cells := 0, slots := 0, locals := 158 }
def f_X8_runs_2 (N : Nat) : Nat → Hp → Nat → Int32 → Int32 → Option (Int32 × Hp)
  | 0, _, _, _, _ => none
  | n + 1, h, v0, v1, v2 => if v1 ≤ v2 then (some ((v2, h))) else (b2 (f_X8_firstFrom N h v0 (0 : Int32)) (fun r2 h3 => if 0 ≤ r2 then (Option.bind (f_X8_stepBy h3 v0 r2) (fun r5 => Option.bind (f_X8_downBy h3 v0 r2) (fun r6 => Option.bind (f_X8_upBy h3 v0 r2) (fun r7 => b2 (f_X8_does h3 v0 r5 r6 r7) (fun r8 h9 => f_X8_runs_2 N n h9 v0 v1 (v2 + (1 : Int32))))))) else (some ((v2, h3)))))
set_option maxHeartbeats 4000000 in
set_option maxRecDepth 100000 in
theorem p_X8_runs_2 {X : XT} {r : Int32} {h' : Hp} (C : CX X cX8_runs "WaterStairModel" 4 (some .int) rmX8_runs) (hQ : QX X (some (vI r)) h' rmX8_runs.cells rmX8_runs.slots) {N : Nat}  : ∀ (n : Nat) (h : Hp) (v0 : Nat) (v1 : Int32) (v2 : Int32), f_X8_runs_2 N n h v0 v1 v2 = some ((r, h')) → V X 0 0 h 2 [(0, vR 8 (some v0)), (1, vI v1), (2, vI v2)] [] := by
  intro n
  induction n with
  | zero =>
    intro h v0 v1 v2 hf
    have hf : (none : Option (Int32 × Hp)) = some _ := hf
    cases hf
  | succ n ih =>
    intro h v0 v1 v2 hf
    rw [f_X8_runs_2] at hf
    refine V_iload_n C dX8_runs_2 rfl 2 rfl ?_
    refine V_iload_n C dX8_runs_3 rfl 1 rfl ?_
    refine V_icmp_ge C 45 dX8_runs_4 (by decide) (fun c1 => ?_) (fun c1 => ?_)
    · have hf := i_t c1 hf
      refine V_iload_n C dX8_runs_45 rfl 2 rfl ?_
      obtain ⟨hf1, hf2⟩ := Prod.mk.inj (Option.some.inj hf)
      subst hf1
      subst hf2
      exact V_iret C hQ dX8_runs_46
    · have hf := i_f c1 hf
      refine V_aload_n C dX8_runs_7 rfl 0 rfl ?_
      refine V_iconst (v := (0 : Int32)) C dX8_runs_8 (by decide) ?_
      obtain ⟨r2, h3, er2, hf⟩ := o_b2 hf
      refine V_callV (as := [vI (0 : Int32)]) (st := []) C ml_X8_386 fx8 (ct_X8_firstFrom er2) rfl ⟨by decide, by decide, by decide, by decide⟩ (Nat.le_of_ble_eq_true rfl) rfl dX8_runs_9 (cs' := 0) (sl' := 0) rfl rfl ?_
      refine V_istore_n (lv' := [(3, vI r2), (0, vR 8 (some v0)), (1, vI v1), (2, vI v2)]) C dX8_runs_12 rfl (by decide) rfl ?_
      refine V_iload_n C dX8_runs_13 rfl 0 rfl ?_
      refine V_if_ge C 19 dX8_runs_14 (by decide) (fun c4 => ?_) (fun c4 => ?_)
      · have hf := i_t c4 hf
        refine V_aload_n C dX8_runs_19 rfl 1 rfl ?_
        refine V_aload_n C dX8_runs_20 rfl 1 rfl ?_
        refine V_iload_n C dX8_runs_21 rfl 0 rfl ?_
        obtain ⟨r5, er5, hf⟩ := o_b hf
        refine V_callV (as := [vI r2]) (st := [vR 8 (some v0)]) C ml_X8_377 fx8 (ct_X8_stepBy er5) rfl ⟨by decide, by decide, by decide, by decide⟩ (Nat.le_of_ble_eq_true rfl) rfl dX8_runs_22 (cs' := 0) (sl' := 0) rfl rfl ?_
        refine V_aload_n C dX8_runs_25 rfl 1 rfl ?_
        refine V_iload_n C dX8_runs_26 rfl 0 rfl ?_
        obtain ⟨r6, er6, hf⟩ := o_b hf
        refine V_callV (as := [vI r2]) (st := [vI r5, vR 8 (some v0)]) C ml_X8_371 fx8 (ct_X8_downBy er6) rfl ⟨by decide, by decide, by decide, by decide⟩ (Nat.le_of_ble_eq_true rfl) rfl dX8_runs_27 (cs' := 0) (sl' := 0) rfl rfl ?_
        refine V_aload_n C dX8_runs_30 rfl 1 rfl ?_
        refine V_iload_n C dX8_runs_31 rfl 0 rfl ?_
        obtain ⟨r7, er7, hf⟩ := o_b hf
        refine V_callV (as := [vI r2]) (st := [vI r6, vI r5, vR 8 (some v0)]) C ml_X8_374 fx8 (ct_X8_upBy er7) rfl ⟨by decide, by decide, by decide, by decide⟩ (Nat.le_of_ble_eq_true rfl) rfl dX8_runs_32 (cs' := 0) (sl' := 0) rfl rfl ?_
        obtain ⟨r8, h9, er8, hf⟩ := o_b2 hf
        refine V_callV (as := [vI r5, vI r6, vI r7]) (st := []) C ml_X8_366 fx8 (ct_X8_does er8) rfl ⟨by decide, by decide, by decide, by decide⟩ (Nat.le_of_ble_eq_true rfl) rfl dX8_runs_35 (cs' := 0) (sl' := 0) rfl rfl ?_
        refine V_pop C dX8_runs_38 rfl ?_
        refine V_iinc (lv' := [(2, vI (v2 + (1 : Int32))), (3, vI r2), (0, vR 8 (some v0)), (1, vI v1)]) C dX8_runs_39 3 rfl (congrArg (v2 + ·) (by decide : Int32.ofInt (1) = (1 : Int32))) (by decide) rfl ?_
        refine V_goto C 2 dX8_runs_42 (by decide) ?_
        refine V_sub (lv' := [(0, vR 8 (some v0)), (1, vI v1), (2, vI (v2 + (1 : Int32)))]) [2, 3, 0] rfl ?_
        exact ih _ _ _ _ hf
      · have hf := i_f c4 hf
        refine V_iload_n C dX8_runs_17 rfl 3 rfl ?_
        obtain ⟨hf1, hf2⟩ := Prod.mk.inj (Option.some.inj hf)
        subst hf1
        subst hf2
        exact V_iret C hQ dX8_runs_18
def f_X8_runs (N : Nat) (h : Hp) (v0 : Nat) (v1 : Int32) : Option (Int32 × Hp) := f_X8_runs_2 N N h v0 v1 (0 : Int32)
set_option maxHeartbeats 4000000 in
set_option maxRecDepth 100000 in
theorem p_X8_runs {X : XT} {r : Int32} {h' : Hp} (C : CX X cX8_runs "WaterStairModel" 4 (some .int) rmX8_runs) {N : Nat} {h : Hp} {v0 : Nat} {v1 : Int32} (hQ : QX X (some (vI r)) h' rmX8_runs.cells rmX8_runs.slots) (hf : f_X8_runs N h v0 v1 = some ((r, h'))) : V X 0 0 h 0 [(0, vR 8 (some v0)), (1, vI v1)] [] := by
  unfold f_X8_runs at hf
  refine V_iconst (v := (0 : Int32)) C dX8_runs_0 (by decide) ?_
  refine V_istore_n (lv' := [(2, vI (0 : Int32)), (0, vR 8 (some v0)), (1, vI v1)]) C dX8_runs_1 rfl (by decide) rfl ?_
  refine V_sub (lv' := [(0, vR 8 (some v0)), (1, vI v1), (2, vI (0 : Int32))]) [1, 2, 0] rfl ?_
  exact p_X8_runs_2 C hQ N _ _ _ _ hf
theorem ct_X8_runs {r : Int32} {h' : Hp} {N : Nat} {h : Hp} {v0 : Nat} {v1 : Int32} (hf : f_X8_runs N h v0 v1 = some ((r, h'))) (l : Launch) (G : GT) : MC l G yX8_runs cX8_runs 4 (some .int) rmX8_runs h [vR 8 (some v0), vI v1] (some (vI r)) h' := MC_of (by decide) rfl (Nat.le_of_ble_eq_true rfl) rfl (fun X C hQ hin => p_X8_runs C hQ hf)
abbrev rmX8_run : Room := { frames := 8, cells := 0, slots := 0, locals := 181 }
def f_X8_run (N : Nat) (h : Hp) (v0 : Nat) (v1 : Int32) : Option (Int32 × Hp) := Option.bind (hP h v0 26) (fun q1 => if 0 < hL h q1 then (if (hI h q1 (0)) ≤ 0 then (some (((-1 : Int32), h))) else (Option.bind (f_X8_in h (v1.toInt64) (0 : Int64) (200 : Int64)) (fun r4 => if r4 = 0 then (some (((-1 : Int32), h))) else (b2 (f_X8_runs N h v0 v1) (fun r6 h7 => some ((r6, h7))))))) else none)
set_option maxHeartbeats 4000000 in
set_option maxRecDepth 100000 in
theorem p_X8_run {X : XT} {r : Int32} {h' : Hp} (C : CX X cX8_run "WaterStairModel" 2 (some .int) rmX8_run) {N : Nat} {h : Hp} {v0 : Nat} {v1 : Int32} (hQ : QX X (some (vI r)) h' rmX8_run.cells rmX8_run.slots) (hf : f_X8_run N h v0 v1 = some ((r, h'))) : V X 0 0 h 0 [(0, vR 8 (some v0)), (1, vI v1)] [] := by
  unfold f_X8_run at hf
  refine V_aload_n C dX8_run_0 rfl 0 rfl ?_
  obtain ⟨q1, eq1, hf⟩ := o_b hf
  refine V_getR C fl_X8_42 rfl rfl (by decide) eq1 dX8_run_1 ?_
  refine V_iconst (v := (0 : Int32)) C dX8_run_4 (by decide) ?_
  obtain ⟨g2, hf⟩ := o_if hf
  refine V_iald C (vp_k (by decide) (by decide) g2) (by decide : Int32.toNatClampNeg (0 : Int32) = 0) dX8_run_5 ?_
  refine V_if_le C 29 dX8_run_6 (by decide) (fun c3 => ?_) (fun c3 => ?_)
  · have hf := i_t c3 hf
    refine V_iconst (v := (-1 : Int32)) C dX8_run_29 (by decide) ?_
    obtain ⟨hf1, hf2⟩ := Prod.mk.inj (Option.some.inj hf)
    subst hf1
    subst hf2
    exact V_iret C hQ dX8_run_30
  · have hf := i_f c3 hf
    refine V_iload_n C dX8_run_9 rfl 1 rfl ?_
    refine V_i2l C dX8_run_10 ?_
    refine V_lconst (v := (0 : Int64)) C dX8_run_11 (by decide) ?_
    refine V_ldc2 C kl_X8_389 dX8_run_12 ?_
    obtain ⟨r4, er4, hf⟩ := o_b hf
    refine V_callS (as := [vL (v1.toInt64), vL (0 : Int64), vL (200 : Int64)]) (st := []) C ml_X8_127 (ct_X8_in er4) rfl ⟨by decide, by decide, by decide, by decide⟩ (Nat.le_of_ble_eq_true rfl) rfl dX8_run_15 (cs' := 0) (sl' := 0) rfl rfl ?_
    refine V_if_eq C 29 dX8_run_18 (by decide) (fun c5 => ?_) (fun c5 => ?_)
    · have hf := i_t c5 hf
      refine V_iconst (v := (-1 : Int32)) C dX8_run_29 (by decide) ?_
      obtain ⟨hf1, hf2⟩ := Prod.mk.inj (Option.some.inj hf)
      subst hf1
      subst hf2
      exact V_iret C hQ dX8_run_30
    · have hf := i_f c5 hf
      refine V_aload_n C dX8_run_21 rfl 0 rfl ?_
      refine V_iload_n C dX8_run_22 rfl 1 rfl ?_
      obtain ⟨r6, h7, er6, hf⟩ := o_b2 hf
      refine V_callV (as := [vI v1]) (st := []) C ml_X8_391 fx8 (ct_X8_runs er6) rfl ⟨by decide, by decide, by decide, by decide⟩ (Nat.le_of_ble_eq_true rfl) rfl dX8_run_23 (cs' := 0) (sl' := 0) rfl rfl ?_
      refine V_goto C 30 dX8_run_26 (by decide) ?_
      obtain ⟨hf1, hf2⟩ := Prod.mk.inj (Option.some.inj hf)
      subst hf1
      subst hf2
      exact V_iret C hQ dX8_run_30
theorem ct_X8_run {r : Int32} {h' : Hp} {N : Nat} {h : Hp} {v0 : Nat} {v1 : Int32} (hf : f_X8_run N h v0 v1 = some ((r, h'))) (l : Launch) (G : GT) : MC l G yX8_run cX8_run 2 (some .int) rmX8_run h [vR 8 (some v0), vI v1] (some (vI r)) h' := MC_of (by decide) rfl (Nat.le_of_ble_eq_true rfl) rfl (fun X C hQ hin => p_X8_run C hQ hf)
abbrev rmX8_keeps : Room := { frames := 0, cells := 0, slots := 0, locals := 0 }
def f_X8_keeps_2 (N : Nat) : Nat → Hp → Nat → Int32 → Option (Hp)
  | 0, _, _, _ => none
  | n + 1, h, v0, v1 => if (93 : Int32) ≤ v1 then (some h) else (Option.bind (hP h v0 27) (fun q2 => Option.bind (hP h v0 26) (fun q3 => if 0 ≤ v1 ∧ v1.toNatClampNeg < hL h q3 then (lt (hI h q3 (v1.toNatClampNeg)) (fun y5 => if 0 ≤ v1 ∧ v1.toNatClampNeg < hL h q2 then (lt (sI h q2 (v1.toNatClampNeg) y5) (fun h7 => f_X8_keeps_2 N n h7 v0 (v1 + (1 : Int32)))) else none)) else none)))
set_option maxHeartbeats 4000000 in
set_option maxRecDepth 100000 in
theorem p_X8_keeps_2 {X : XT} {h' : Hp} (C : CX X cX8_keeps "WaterStairModel" 2 none rmX8_keeps) (hQ : QX X none h' rmX8_keeps.cells rmX8_keeps.slots) {N : Nat}  : ∀ (n : Nat) (h : Hp) (v0 : Nat) (v1 : Int32), f_X8_keeps_2 N n h v0 v1 = some h' → V X 0 0 h 2 [(0, vR 8 (some v0)), (1, vI v1)] [] := by
  intro n
  induction n with
  | zero =>
    intro h v0 v1 hf
    have hf : (none : Option (Hp)) = some _ := hf
    cases hf
  | succ n ih =>
    intro h v0 v1 hf
    rw [f_X8_keeps_2] at hf
    refine V_iload_n C dX8_keeps_2 rfl 1 rfl ?_
    refine V_bipush (v := (93 : Int32)) C dX8_keeps_3 (by decide) ?_
    refine V_icmp_ge C 26 dX8_keeps_5 (by decide) (fun c1 => ?_) (fun c1 => ?_)
    · have hf := i_t c1 hf
      have hf := Option.some.inj hf
      subst hf
      exact V_vret C hQ dX8_keeps_26
    · have hf := i_f c1 hf
      refine V_aload_n C dX8_keeps_8 rfl 0 rfl ?_
      obtain ⟨q2, eq2, hf⟩ := o_b hf
      refine V_getR C fl_X8_45 rfl rfl (by decide) eq2 dX8_keeps_9 ?_
      refine V_iload_n C dX8_keeps_12 rfl 1 rfl ?_
      refine V_aload_n C dX8_keeps_13 rfl 0 rfl ?_
      obtain ⟨q3, eq3, hf⟩ := o_b hf
      refine V_getR C fl_X8_42 rfl rfl (by decide) eq3 dX8_keeps_14 ?_
      refine V_iload_n C dX8_keeps_17 rfl 1 rfl ?_
      obtain ⟨g4, hf⟩ := o_if hf
      refine V_iald C (vp_g g4) rfl dX8_keeps_18 ?_
      obtain ⟨y5, ey5, hf⟩ := o_l hf
      refine V_eqI ey5 ?_
      obtain ⟨g6, hf⟩ := o_if hf
      obtain ⟨h7, eh7, hf⟩ := o_l hf
      refine V_iast C (vp_g g6) rfl dX8_keeps_19 (V_eqH eh7 ?_)
      refine V_iinc (lv' := [(1, vI (v1 + (1 : Int32))), (0, vR 8 (some v0))]) C dX8_keeps_20 1 rfl (congrArg (v1 + ·) (by decide : Int32.ofInt (1) = (1 : Int32))) (by decide) rfl ?_
      refine V_goto C 2 dX8_keeps_23 (by decide) ?_
      refine V_sub (lv' := [(0, vR 8 (some v0)), (1, vI (v1 + (1 : Int32)))]) [1, 0] rfl ?_
      exact ih _ _ _ hf
def f_X8_keeps (N : Nat) (h : Hp) (v0 : Nat) : Option (Hp) := f_X8_keeps_2 N N h v0 (0 : Int32)
set_option maxHeartbeats 4000000 in
set_option maxRecDepth 100000 in
theorem p_X8_keeps {X : XT} {h' : Hp} (C : CX X cX8_keeps "WaterStairModel" 2 none rmX8_keeps) {N : Nat} {h : Hp} {v0 : Nat} (hQ : QX X none h' rmX8_keeps.cells rmX8_keeps.slots) (hf : f_X8_keeps N h v0 = some h') : V X 0 0 h 0 [(0, vR 8 (some v0))] [] := by
  unfold f_X8_keeps at hf
  refine V_iconst (v := (0 : Int32)) C dX8_keeps_0 (by decide) ?_
  refine V_istore_n (lv' := [(1, vI (0 : Int32)), (0, vR 8 (some v0))]) C dX8_keeps_1 rfl (by decide) rfl ?_
  refine V_sub (lv' := [(0, vR 8 (some v0)), (1, vI (0 : Int32))]) [1, 0] rfl ?_
  exact p_X8_keeps_2 C hQ N _ _ _ hf
theorem ct_X8_keeps {h' : Hp} {N : Nat} {h : Hp} {v0 : Nat} (hf : f_X8_keeps N h v0 = some h') (l : Launch) (G : GT) : MC l G yX8_keeps cX8_keeps 2 none rmX8_keeps h [vR 8 (some v0)] none h' := MC_of (by decide) rfl (Nat.le_of_ble_eq_true rfl) rfl (fun X C hQ hin => p_X8_keeps C hQ hf)
abbrev rmX8_putsBack : Room := { frames := 0, cells := 0, slots := 0, locals := 0 }
def f_X8_putsBack_2 (N : Nat) : Nat → Hp → Nat → Int32 → Option (Hp)
  | 0, _, _, _ => none
  | n + 1, h, v0, v1 => if (93 : Int32) ≤ v1 then (some h) else (Option.bind (hP h v0 26) (fun q2 => Option.bind (hP h v0 27) (fun q3 => if 0 ≤ v1 ∧ v1.toNatClampNeg < hL h q3 then (lt (hI h q3 (v1.toNatClampNeg)) (fun y5 => if 0 ≤ v1 ∧ v1.toNatClampNeg < hL h q2 then (lt (sI h q2 (v1.toNatClampNeg) y5) (fun h7 => f_X8_putsBack_2 N n h7 v0 (v1 + (1 : Int32)))) else none)) else none)))
set_option maxHeartbeats 4000000 in
set_option maxRecDepth 100000 in
theorem p_X8_putsBack_2 {X : XT} {h' : Hp} (C : CX X cX8_putsBack "WaterStairModel" 2 none rmX8_putsBack) (hQ : QX X none h' rmX8_putsBack.cells rmX8_putsBack.slots) {N : Nat}  : ∀ (n : Nat) (h : Hp) (v0 : Nat) (v1 : Int32), f_X8_putsBack_2 N n h v0 v1 = some h' → V X 0 0 h 2 [(0, vR 8 (some v0)), (1, vI v1)] [] := by
  intro n
  induction n with
  | zero =>
    intro h v0 v1 hf
    have hf : (none : Option (Hp)) = some _ := hf
    cases hf
  | succ n ih =>
    intro h v0 v1 hf
    rw [f_X8_putsBack_2] at hf
    refine V_iload_n C dX8_putsBack_2 rfl 1 rfl ?_
    refine V_bipush (v := (93 : Int32)) C dX8_putsBack_3 (by decide) ?_
    refine V_icmp_ge C 26 dX8_putsBack_5 (by decide) (fun c1 => ?_) (fun c1 => ?_)
    · have hf := i_t c1 hf
      have hf := Option.some.inj hf
      subst hf
      exact V_vret C hQ dX8_putsBack_26
    · have hf := i_f c1 hf
      refine V_aload_n C dX8_putsBack_8 rfl 0 rfl ?_
      obtain ⟨q2, eq2, hf⟩ := o_b hf
      refine V_getR C fl_X8_42 rfl rfl (by decide) eq2 dX8_putsBack_9 ?_
      refine V_iload_n C dX8_putsBack_12 rfl 1 rfl ?_
      refine V_aload_n C dX8_putsBack_13 rfl 0 rfl ?_
      obtain ⟨q3, eq3, hf⟩ := o_b hf
      refine V_getR C fl_X8_45 rfl rfl (by decide) eq3 dX8_putsBack_14 ?_
      refine V_iload_n C dX8_putsBack_17 rfl 1 rfl ?_
      obtain ⟨g4, hf⟩ := o_if hf
      refine V_iald C (vp_g g4) rfl dX8_putsBack_18 ?_
      obtain ⟨y5, ey5, hf⟩ := o_l hf
      refine V_eqI ey5 ?_
      obtain ⟨g6, hf⟩ := o_if hf
      obtain ⟨h7, eh7, hf⟩ := o_l hf
      refine V_iast C (vp_g g6) rfl dX8_putsBack_19 (V_eqH eh7 ?_)
      refine V_iinc (lv' := [(1, vI (v1 + (1 : Int32))), (0, vR 8 (some v0))]) C dX8_putsBack_20 1 rfl (congrArg (v1 + ·) (by decide : Int32.ofInt (1) = (1 : Int32))) (by decide) rfl ?_
      refine V_goto C 2 dX8_putsBack_23 (by decide) ?_
      refine V_sub (lv' := [(0, vR 8 (some v0)), (1, vI (v1 + (1 : Int32)))]) [1, 0] rfl ?_
      exact ih _ _ _ hf
def f_X8_putsBack (N : Nat) (h : Hp) (v0 : Nat) : Option (Hp) := f_X8_putsBack_2 N N h v0 (0 : Int32)
set_option maxHeartbeats 4000000 in
set_option maxRecDepth 100000 in
theorem p_X8_putsBack {X : XT} {h' : Hp} (C : CX X cX8_putsBack "WaterStairModel" 2 none rmX8_putsBack) {N : Nat} {h : Hp} {v0 : Nat} (hQ : QX X none h' rmX8_putsBack.cells rmX8_putsBack.slots) (hf : f_X8_putsBack N h v0 = some h') : V X 0 0 h 0 [(0, vR 8 (some v0))] [] := by
  unfold f_X8_putsBack at hf
  refine V_iconst (v := (0 : Int32)) C dX8_putsBack_0 (by decide) ?_
  refine V_istore_n (lv' := [(1, vI (0 : Int32)), (0, vR 8 (some v0))]) C dX8_putsBack_1 rfl (by decide) rfl ?_
  refine V_sub (lv' := [(0, vR 8 (some v0)), (1, vI (0 : Int32))]) [1, 0] rfl ?_
  exact p_X8_putsBack_2 C hQ N _ _ _ hf
theorem ct_X8_putsBack {h' : Hp} {N : Nat} {h : Hp} {v0 : Nat} (hf : f_X8_putsBack N h v0 = some h') (l : Launch) (G : GT) : MC l G yX8_putsBack cX8_putsBack 2 none rmX8_putsBack h [vR 8 (some v0)] none h' := MC_of (by decide) rfl (Nat.le_of_ble_eq_true rfl) rfl (fun X C hQ hin => p_X8_putsBack C hQ hf)
abbrev rmX8_isStuck : Room := { frames := 7, cells := 0, slots := 0, locals := 158 }
def f_X8_isStuck (N : Nat) (h : Hp) (v0 : Nat) : Option (Int32 × Hp) := b2 (f_X8_firstFrom N h v0 (0 : Int32)) (fun r1 h2 => if 0 ≤ r1 then (some (((0 : Int32), h2))) else (Option.bind (f_X8_homeOnes N h2 v0) (fun r4 => Option.bind (hP h2 v0 26) (fun q5 => if 1 < hL h2 q5 then (if r4 = (((1 : Int32) <<< ((hI h2 q5 (1)) &&& 31)) - (1 : Int32)) then (some (((0 : Int32), h2))) else (some (((1 : Int32), h2)))) else none))))
set_option maxHeartbeats 4000000 in
set_option maxRecDepth 100000 in
theorem p_X8_isStuck {X : XT} {r : Int32} {h' : Hp} (C : CX X cX8_isStuck "WaterStairModel" 1 (some .boolean) rmX8_isStuck) {N : Nat} {h : Hp} {v0 : Nat} (hQ : QX X (some (vI r)) h' rmX8_isStuck.cells rmX8_isStuck.slots) (hf : f_X8_isStuck N h v0 = some ((r, h'))) : V X 0 0 h 0 [(0, vR 8 (some v0))] [] := by
  unfold f_X8_isStuck at hf
  refine V_aload_n C dX8_isStuck_0 rfl 0 rfl ?_
  refine V_iconst (v := (0 : Int32)) C dX8_isStuck_1 (by decide) ?_
  obtain ⟨r1, h2, er1, hf⟩ := o_b2 hf
  refine V_callV (as := [vI (0 : Int32)]) (st := []) C ml_X8_386 fx8 (ct_X8_firstFrom er1) rfl ⟨by decide, by decide, by decide, by decide⟩ (Nat.le_of_ble_eq_true rfl) rfl dX8_isStuck_2 (cs' := 0) (sl' := 0) rfl rfl ?_
  refine V_if_ge C 29 dX8_isStuck_5 (by decide) (fun c3 => ?_) (fun c3 => ?_)
  · have hf := i_t c3 hf
    refine V_iconst (v := (0 : Int32)) C dX8_isStuck_29 (by decide) ?_
    obtain ⟨hf1, hf2⟩ := Prod.mk.inj (Option.some.inj hf)
    subst hf1
    subst hf2
    exact V_zret C (by decide) hQ dX8_isStuck_30
  · have hf := i_f c3 hf
    refine V_aload_n C dX8_isStuck_8 rfl 0 rfl ?_
    obtain ⟨r4, er4, hf⟩ := o_b hf
    refine V_callV (as := []) (st := []) C ml_X8_394 fx8 (ct_X8_homeOnes er4) rfl ⟨by decide, by decide, by decide, by decide⟩ (Nat.le_of_ble_eq_true rfl) rfl dX8_isStuck_9 (cs' := 0) (sl' := 0) rfl rfl ?_
    refine V_iconst (v := (1 : Int32)) C dX8_isStuck_12 (by decide) ?_
    refine V_aload_n C dX8_isStuck_13 rfl 0 rfl ?_
    obtain ⟨q5, eq5, hf⟩ := o_b hf
    refine V_getR C fl_X8_42 rfl rfl (by decide) eq5 dX8_isStuck_14 ?_
    refine V_iconst (v := (1 : Int32)) C dX8_isStuck_17 (by decide) ?_
    obtain ⟨g6, hf⟩ := o_if hf
    refine V_iald C (vp_k (by decide) (by decide) g6) (by decide : Int32.toNatClampNeg (1 : Int32) = 1) dX8_isStuck_18 ?_
    refine V_ishl C dX8_isStuck_19 ?_
    refine V_iconst (v := (1 : Int32)) C dX8_isStuck_20 (by decide) ?_
    refine V_isub C dX8_isStuck_21 ?_
    refine V_icmp_eq C 29 dX8_isStuck_22 (by decide) (fun c7 => ?_) (fun c7 => ?_)
    · have hf := i_t c7 hf
      refine V_iconst (v := (0 : Int32)) C dX8_isStuck_29 (by decide) ?_
      obtain ⟨hf1, hf2⟩ := Prod.mk.inj (Option.some.inj hf)
      subst hf1
      subst hf2
      exact V_zret C (by decide) hQ dX8_isStuck_30
    · have hf := i_f c7 hf
      refine V_iconst (v := (1 : Int32)) C dX8_isStuck_25 (by decide) ?_
      refine V_goto C 30 dX8_isStuck_26 (by decide) ?_
      obtain ⟨hf1, hf2⟩ := Prod.mk.inj (Option.some.inj hf)
      subst hf1
      subst hf2
      exact V_zret C (by decide) hQ dX8_isStuck_30
theorem ct_X8_isStuck {r : Int32} {h' : Hp} {N : Nat} {h : Hp} {v0 : Nat} (hf : f_X8_isStuck N h v0 = some ((r, h'))) (l : Launch) (G : GT) : MC l G yX8_isStuck cX8_isStuck 1 (some .boolean) rmX8_isStuck h [vR 8 (some v0)] (some (vI r)) h' := MC_of (by decide) rfl (Nat.le_of_ble_eq_true rfl) rfl (fun X C hQ hin => p_X8_isStuck C hQ hf)
abbrev rmX8_would : Room := { frames := 8, cells := 0, slots := 0, locals := 181 }
def f_X8_would_101 (N : Nat) (h : Hp) (v0 : Nat) (s0_ : Int32) : Option (Int32 × Hp) := Option.bind (f_X8_putsBack N h v0) (fun h1 => some ((s0_, h1)))
set_option maxHeartbeats 4000000 in
set_option maxRecDepth 100000 in
theorem p_X8_would_101 {X : XT} {r : Int32} {h' : Hp} (C : CX X cX8_would "WaterStairModel" 5 (some .int) rmX8_would) (hQ : QX X (some (vI r)) h' rmX8_would.cells rmX8_would.slots) {N : Nat}  {h : Hp} {v0 : Nat} {s0_ : Int32} (hf : f_X8_would_101 N h v0 s0_ = some ((r, h'))) : V X 0 0 h 101 [(0, vR 8 (some v0))] [vI s0_] := by
  unfold f_X8_would_101 at hf
  refine V_istore (lv' := [(4, vI s0_), (0, vR 8 (some v0))]) C dX8_would_101 (by decide) rfl ?_
  refine V_aload_n C dX8_would_103 rfl 1 rfl ?_
  obtain ⟨h1, eh1, hf⟩ := o_b hf
  refine V_callV (as := []) (st := []) C ml_X8_403 fx8 (ct_X8_putsBack eh1) rfl ⟨by decide, by decide, by decide, by decide⟩ (Nat.le_of_ble_eq_true rfl) rfl dX8_would_104 (cs' := 0) (sl' := 0) rfl rfl ?_
  refine V_iload C dX8_would_107 0 rfl ?_
  obtain ⟨hf1, hf2⟩ := Prod.mk.inj (Option.some.inj hf)
  subst hf1
  subst hf2
  exact V_iret C hQ dX8_would_109
def f_X8_would (N : Nat) (h : Hp) (v0 : Nat) (v1 : Int32) (v2 : Int32) : Option (Int32 × Hp) := Option.bind (hP h v0 26) (fun q2 => if 0 < hL h q2 then (if hI h q2 (0) = 0 then (some (((-1 : Int32), h))) else (Option.bind (f_X8_in h (v1.toInt64) (0 : Int64) (200 : Int64)) (fun r5 => if r5 = 0 then (some (((-1 : Int32), h))) else (Option.bind (f_X8_in h (v2.toInt64) (0 : Int64) (3 : Int64)) (fun r7 => if r7 = 0 then (some (((-1 : Int32), h))) else (Option.bind (f_X8_keeps N h v0) (fun h9 => b2 (f_X8_runs N h9 v0 v1) (fun r10 h11 => if v2 = 0 then (f_X8_would_101 N h11 v0 r10) else (if v2 = (1 : Int32) then (Option.bind (f_X8_homeOnes N h11 v0) (fun r22 => Option.bind (f_X8_bits N h11 r22) (fun r23 => f_X8_would_101 N h11 v0 r23))) else (if v2 = (2 : Int32) then (Option.bind (hP h11 v0 26) (fun q18 => if 4 < hL h11 q18 then (Option.bind (hP h11 v0 27) (fun q20 => if 4 < hL h11 q20 then (f_X8_would_101 N h11 v0 ((hI h11 q18 (4)) - (hI h11 q20 (4)))) else none)) else none)) else (b2 (f_X8_isStuck N h11 v0) (fun r15 h16 => if r15 = 0 then (f_X8_would_101 N h16 v0 (0 : Int32)) else (f_X8_would_101 N h16 v0 (1 : Int32)))))))))))))) else none)
set_option maxHeartbeats 4000000 in
set_option maxRecDepth 100000 in
theorem p_X8_would {X : XT} {r : Int32} {h' : Hp} (C : CX X cX8_would "WaterStairModel" 5 (some .int) rmX8_would) {N : Nat} {h : Hp} {v0 : Nat} {v1 : Int32} {v2 : Int32} (hQ : QX X (some (vI r)) h' rmX8_would.cells rmX8_would.slots) (hf : f_X8_would N h v0 v1 v2 = some ((r, h'))) : V X 0 0 h 0 [(0, vR 8 (some v0)), (1, vI v1), (2, vI v2)] [] := by
  unfold f_X8_would at hf
  refine V_aload_n C dX8_would_0 rfl 0 rfl ?_
  obtain ⟨q2, eq2, hf⟩ := o_b hf
  refine V_getR C fl_X8_42 rfl rfl (by decide) eq2 dX8_would_1 ?_
  refine V_iconst (v := (0 : Int32)) C dX8_would_4 (by decide) ?_
  obtain ⟨g3, hf⟩ := o_if hf
  refine V_iald C (vp_k (by decide) (by decide) g3) (by decide : Int32.toNatClampNeg (0 : Int32) = 0) dX8_would_5 ?_
  refine V_if_eq C 33 dX8_would_6 (by decide) (fun c4 => ?_) (fun c4 => ?_)
  · have hf := i_t c4 hf
    refine V_iconst (v := (-1 : Int32)) C dX8_would_33 (by decide) ?_
    obtain ⟨hf1, hf2⟩ := Prod.mk.inj (Option.some.inj hf)
    subst hf1
    subst hf2
    exact V_iret C hQ dX8_would_34
  · have hf := i_f c4 hf
    refine V_iload_n C dX8_would_9 rfl 1 rfl ?_
    refine V_i2l C dX8_would_10 ?_
    refine V_lconst (v := (0 : Int64)) C dX8_would_11 (by decide) ?_
    refine V_ldc2 C kl_X8_389 dX8_would_12 ?_
    obtain ⟨r5, er5, hf⟩ := o_b hf
    refine V_callS (as := [vL (v1.toInt64), vL (0 : Int64), vL (200 : Int64)]) (st := []) C ml_X8_127 (ct_X8_in er5) rfl ⟨by decide, by decide, by decide, by decide⟩ (Nat.le_of_ble_eq_true rfl) rfl dX8_would_15 (cs' := 0) (sl' := 0) rfl rfl ?_
    refine V_if_eq C 33 dX8_would_18 (by decide) (fun c6 => ?_) (fun c6 => ?_)
    · have hf := i_t c6 hf
      refine V_iconst (v := (-1 : Int32)) C dX8_would_33 (by decide) ?_
      obtain ⟨hf1, hf2⟩ := Prod.mk.inj (Option.some.inj hf)
      subst hf1
      subst hf2
      exact V_iret C hQ dX8_would_34
    · have hf := i_f c6 hf
      refine V_iload_n C dX8_would_21 rfl 2 rfl ?_
      refine V_i2l C dX8_would_22 ?_
      refine V_lconst (v := (0 : Int64)) C dX8_would_23 (by decide) ?_
      refine V_ldc2 C kl_X8_308 dX8_would_24 ?_
      obtain ⟨r7, er7, hf⟩ := o_b hf
      refine V_callS (as := [vL (v2.toInt64), vL (0 : Int64), vL (3 : Int64)]) (st := []) C ml_X8_127 (ct_X8_in er7) rfl ⟨by decide, by decide, by decide, by decide⟩ (Nat.le_of_ble_eq_true rfl) rfl dX8_would_27 (cs' := 0) (sl' := 0) rfl rfl ?_
      refine V_if_ne C 35 dX8_would_30 (by decide) (fun c8 => ?_) (fun c8 => ?_)
      · have hf := i_f c8 hf
        refine V_aload_n C dX8_would_35 rfl 0 rfl ?_
        obtain ⟨h9, eh9, hf⟩ := o_b hf
        refine V_callV (as := []) (st := []) C ml_X8_397 fx8 (ct_X8_keeps eh9) rfl ⟨by decide, by decide, by decide, by decide⟩ (Nat.le_of_ble_eq_true rfl) rfl dX8_would_36 (cs' := 0) (sl' := 0) rfl rfl ?_
        refine V_aload_n C dX8_would_39 rfl 0 rfl ?_
        refine V_iload_n C dX8_would_40 rfl 1 rfl ?_
        obtain ⟨r10, h11, er10, hf⟩ := o_b2 hf
        refine V_callV (as := [vI v1]) (st := []) C ml_X8_391 fx8 (ct_X8_runs er10) rfl ⟨by decide, by decide, by decide, by decide⟩ (Nat.le_of_ble_eq_true rfl) rfl dX8_would_41 (cs' := 0) (sl' := 0) rfl rfl ?_
        refine V_istore_n (lv' := [(3, vI r10), (0, vR 8 (some v0)), (1, vI v1), (2, vI v2)]) C dX8_would_44 rfl (by decide) rfl ?_
        refine V_iload_n C dX8_would_45 rfl 3 rfl ?_
        refine V_if_ne C 53 dX8_would_46 (by decide) (fun c12 => ?_) (fun c12 => ?_)
        · have hf := i_f c12 hf
          refine V_iload_n C dX8_would_53 rfl 3 rfl ?_
          refine V_iconst (v := (1 : Int32)) C dX8_would_54 (by decide) ?_
          refine V_icmp_ne C 68 dX8_would_55 (by decide) (fun c13 => ?_) (fun c13 => ?_)
          · have hf := i_f c13 hf
            refine V_iload_n C dX8_would_68 rfl 3 rfl ?_
            refine V_iconst (v := (2 : Int32)) C dX8_would_69 (by decide) ?_
            refine V_icmp_ne C 89 dX8_would_70 (by decide) (fun c14 => ?_) (fun c14 => ?_)
            · have hf := i_f c14 hf
              refine V_aload_n C dX8_would_89 rfl 1 rfl ?_
              obtain ⟨r15, h16, er15, hf⟩ := o_b2 hf
              refine V_callV (as := []) (st := []) C ml_X8_400 fx8 (ct_X8_isStuck er15) rfl ⟨by decide, by decide, by decide, by decide⟩ (Nat.le_of_ble_eq_true rfl) rfl dX8_would_90 (cs' := 0) (sl' := 0) rfl rfl ?_
              refine V_if_eq C 100 dX8_would_93 (by decide) (fun c17 => ?_) (fun c17 => ?_)
              · have hf := i_t c17 hf
                refine V_iconst (v := (0 : Int32)) C dX8_would_100 (by decide) ?_
                refine V_sub (lv' := [(0, vR 8 (some v0))]) [1] rfl ?_
                exact p_X8_would_101 C hQ hf
              · have hf := i_f c17 hf
                refine V_iconst (v := (1 : Int32)) C dX8_would_96 (by decide) ?_
                refine V_goto C 101 dX8_would_97 (by decide) ?_
                refine V_sub (lv' := [(0, vR 8 (some v0))]) [1] rfl ?_
                exact p_X8_would_101 C hQ hf
            · have hf := i_t c14 hf
              refine V_aload_n C dX8_would_73 rfl 1 rfl ?_
              obtain ⟨q18, eq18, hf⟩ := o_b hf
              refine V_getR C fl_X8_42 rfl rfl (by decide) eq18 dX8_would_74 ?_
              refine V_iconst (v := (4 : Int32)) C dX8_would_77 (by decide) ?_
              obtain ⟨g19, hf⟩ := o_if hf
              refine V_iald C (vp_k (by decide) (by decide) g19) (by decide : Int32.toNatClampNeg (4 : Int32) = 4) dX8_would_78 ?_
              refine V_aload_n C dX8_would_79 rfl 1 rfl ?_
              obtain ⟨q20, eq20, hf⟩ := o_b hf
              refine V_getR C fl_X8_45 rfl rfl (by decide) eq20 dX8_would_80 ?_
              refine V_iconst (v := (4 : Int32)) C dX8_would_83 (by decide) ?_
              obtain ⟨g21, hf⟩ := o_if hf
              refine V_iald C (vp_k (by decide) (by decide) g21) (by decide : Int32.toNatClampNeg (4 : Int32) = 4) dX8_would_84 ?_
              refine V_isub C dX8_would_85 ?_
              refine V_goto C 101 dX8_would_86 (by decide) ?_
              refine V_sub (lv' := [(0, vR 8 (some v0))]) [1] rfl ?_
              exact p_X8_would_101 C hQ hf
          · have hf := i_t c13 hf
            refine V_aload_n C dX8_would_58 rfl 1 rfl ?_
            obtain ⟨r22, er22, hf⟩ := o_b hf
            refine V_callV (as := []) (st := []) C ml_X8_394 fx8 (ct_X8_homeOnes er22) rfl ⟨by decide, by decide, by decide, by decide⟩ (Nat.le_of_ble_eq_true rfl) rfl dX8_would_59 (cs' := 0) (sl' := 0) rfl rfl ?_
            obtain ⟨r23, er23, hf⟩ := o_b hf
            refine V_callS (as := [vI r22]) (st := []) C ml_X8_333 (ct_X8_bits er23) rfl ⟨by decide, by decide, by decide, by decide⟩ (Nat.le_of_ble_eq_true rfl) rfl dX8_would_62 (cs' := 0) (sl' := 0) rfl rfl ?_
            refine V_goto C 101 dX8_would_65 (by decide) ?_
            refine V_sub (lv' := [(0, vR 8 (some v0))]) [1] rfl ?_
            exact p_X8_would_101 C hQ hf
        · have hf := i_t c12 hf
          refine V_iload_n C dX8_would_49 rfl 0 rfl ?_
          refine V_goto C 101 dX8_would_50 (by decide) ?_
          refine V_sub (lv' := [(0, vR 8 (some v0))]) [1] rfl ?_
          exact p_X8_would_101 C hQ hf
      · have hf := i_t c8 hf
        refine V_iconst (v := (-1 : Int32)) C dX8_would_33 (by decide) ?_
        obtain ⟨hf1, hf2⟩ := Prod.mk.inj (Option.some.inj hf)
        subst hf1
        subst hf2
        exact V_iret C hQ dX8_would_34
theorem ct_X8_would {r : Int32} {h' : Hp} {N : Nat} {h : Hp} {v0 : Nat} {v1 : Int32} {v2 : Int32} (hf : f_X8_would N h v0 v1 v2 = some ((r, h'))) (l : Launch) (G : GT) : MC l G yX8_would cX8_would 5 (some .int) rmX8_would h [vR 8 (some v0), vI v1, vI v2] (some (vI r)) h' := MC_of (by decide) rfl (Nat.le_of_ble_eq_true rfl) rfl (fun X C hQ hin => p_X8_would C hQ hf)
abbrev rmX8_can : Room := { frames := 6, cells := 0, slots := 0, locals := 136 }
def f_X8_can_37 (N : Nat) (s15 : Hp → Nat → Int32 → Int32 → Option (Int32 × Hp)) (h : Hp) (v0 : Nat) (v2 : Int32) (s1_ : Int32) (s0_ : Int32) : Option (Int32 × Hp) := s15 h v0 (s0_ + s1_) (v2 + (1 : Int32))
set_option maxHeartbeats 4000000 in
set_option maxRecDepth 100000 in
theorem p_X8_can_37 {X : XT} {r : Int32} {h' : Hp} (C : CX X cX8_can "WaterStairModel" 3 (some .int) rmX8_can) (hQ : QX X (some (vI r)) h' rmX8_can.cells rmX8_can.slots) {N : Nat} {s15 : Hp → Nat → Int32 → Int32 → Option (Int32 × Hp)} (S15 : ∀ (h : Hp) (v0 : Nat) (v1 : Int32) (v2 : Int32), s15 h v0 v1 v2 = some ((r, h')) → V X 0 0 h 15 [(0, vR 8 (some v0)), (1, vI v1), (2, vI v2)] []) {h : Hp} {v0 : Nat} {v2 : Int32} {s1_ : Int32} {s0_ : Int32} (hf : f_X8_can_37 N s15 h v0 v2 s1_ s0_ = some ((r, h'))) : V X 0 0 h 37 [(0, vR 8 (some v0)), (2, vI v2)] [vI s1_, vI s0_] := by
  unfold f_X8_can_37 at hf
  refine V_iadd C dX8_can_37 ?_
  refine V_istore_n (lv' := [(1, vI (s0_ + s1_)), (0, vR 8 (some v0)), (2, vI v2)]) C dX8_can_38 rfl (by decide) rfl ?_
  refine V_iinc (lv' := [(2, vI (v2 + (1 : Int32))), (1, vI (s0_ + s1_)), (0, vR 8 (some v0))]) C dX8_can_39 2 rfl (congrArg (v2 + ·) (by decide : Int32.ofInt (1) = (1 : Int32))) (by decide) rfl ?_
  refine V_goto C 15 dX8_can_42 (by decide) ?_
  refine V_sub (lv' := [(0, vR 8 (some v0)), (1, vI (s0_ + s1_)), (2, vI (v2 + (1 : Int32)))]) [2, 1, 0] rfl ?_
  exact S15 _ _ _ _ hf
def f_X8_can_15 (N : Nat) : Nat → Hp → Nat → Int32 → Int32 → Option (Int32 × Hp)
  | 0, _, _, _, _ => none
  | n + 1, h, v0, v1, v2 => Option.bind (f_X8_tipMany h v0) (fun r1 => if r1 ≤ v2 then (some ((v1, h))) else (b2 (f_X8_mayBe N h v0 v2) (fun r3 h4 => if r3 = 0 then (f_X8_can_37 N (f_X8_can_15 N n) h4 v0 v2 (0 : Int32) v1) else (f_X8_can_37 N (f_X8_can_15 N n) h4 v0 v2 (1 : Int32) v1))))
set_option maxHeartbeats 4000000 in
set_option maxRecDepth 100000 in
theorem p_X8_can_15 {X : XT} {r : Int32} {h' : Hp} (C : CX X cX8_can "WaterStairModel" 3 (some .int) rmX8_can) (hQ : QX X (some (vI r)) h' rmX8_can.cells rmX8_can.slots) {N : Nat}  : ∀ (n : Nat) (h : Hp) (v0 : Nat) (v1 : Int32) (v2 : Int32), f_X8_can_15 N n h v0 v1 v2 = some ((r, h')) → V X 0 0 h 15 [(0, vR 8 (some v0)), (1, vI v1), (2, vI v2)] [] := by
  intro n
  induction n with
  | zero =>
    intro h v0 v1 v2 hf
    have hf : (none : Option (Int32 × Hp)) = some _ := hf
    cases hf
  | succ n ih =>
    intro h v0 v1 v2 hf
    rw [f_X8_can_15] at hf
    refine V_iload_n C dX8_can_15 rfl 2 rfl ?_
    refine V_aload_n C dX8_can_16 rfl 0 rfl ?_
    obtain ⟨r1, er1, hf⟩ := o_b hf
    refine V_callV (as := []) (st := [vI v2]) C ml_X8_380 fx8 (ct_X8_tipMany er1) rfl ⟨by decide, by decide, by decide, by decide⟩ (Nat.le_of_ble_eq_true rfl) rfl dX8_can_17 (cs' := 0) (sl' := 0) rfl rfl ?_
    refine V_icmp_ge C 45 dX8_can_20 (by decide) (fun c2 => ?_) (fun c2 => ?_)
    · have hf := i_t c2 hf
      refine V_iload_n C dX8_can_45 rfl 1 rfl ?_
      obtain ⟨hf1, hf2⟩ := Prod.mk.inj (Option.some.inj hf)
      subst hf1
      subst hf2
      exact V_iret C hQ dX8_can_46
    · have hf := i_f c2 hf
      refine V_iload_n C dX8_can_23 rfl 1 rfl ?_
      refine V_aload_n C dX8_can_24 rfl 0 rfl ?_
      refine V_iload_n C dX8_can_25 rfl 2 rfl ?_
      obtain ⟨r3, h4, er3, hf⟩ := o_b2 hf
      refine V_callV (as := [vI v2]) (st := [vI v1]) C ml_X8_383 fx8 (ct_X8_mayBe er3) rfl ⟨by decide, by decide, by decide, by decide⟩ (Nat.le_of_ble_eq_true rfl) rfl dX8_can_26 (cs' := 0) (sl' := 0) rfl rfl ?_
      refine V_if_eq C 36 dX8_can_29 (by decide) (fun c5 => ?_) (fun c5 => ?_)
      · have hf := i_t c5 hf
        refine V_iconst (v := (0 : Int32)) C dX8_can_36 (by decide) ?_
        refine V_sub (lv' := [(0, vR 8 (some v0)), (2, vI v2)]) [0, 2] rfl ?_
        exact p_X8_can_37 C hQ ih hf
      · have hf := i_f c5 hf
        refine V_iconst (v := (1 : Int32)) C dX8_can_32 (by decide) ?_
        refine V_goto C 37 dX8_can_33 (by decide) ?_
        refine V_sub (lv' := [(0, vR 8 (some v0)), (2, vI v2)]) [0, 2] rfl ?_
        exact p_X8_can_37 C hQ ih hf
def f_X8_can (N : Nat) (h : Hp) (v0 : Nat) : Option (Int32 × Hp) := Option.bind (hP h v0 26) (fun q6 => if 0 < hL h q6 then (if hI h q6 (0) = 0 then (some (((-1 : Int32), h))) else (f_X8_can_15 N N h v0 (0 : Int32) (0 : Int32))) else none)
set_option maxHeartbeats 4000000 in
set_option maxRecDepth 100000 in
theorem p_X8_can {X : XT} {r : Int32} {h' : Hp} (C : CX X cX8_can "WaterStairModel" 3 (some .int) rmX8_can) {N : Nat} {h : Hp} {v0 : Nat} (hQ : QX X (some (vI r)) h' rmX8_can.cells rmX8_can.slots) (hf : f_X8_can N h v0 = some ((r, h'))) : V X 0 0 h 0 [(0, vR 8 (some v0))] [] := by
  unfold f_X8_can at hf
  refine V_aload_n C dX8_can_0 rfl 0 rfl ?_
  obtain ⟨q6, eq6, hf⟩ := o_b hf
  refine V_getR C fl_X8_42 rfl rfl (by decide) eq6 dX8_can_1 ?_
  refine V_iconst (v := (0 : Int32)) C dX8_can_4 (by decide) ?_
  obtain ⟨g7, hf⟩ := o_if hf
  refine V_iald C (vp_k (by decide) (by decide) g7) (by decide : Int32.toNatClampNeg (0 : Int32) = 0) dX8_can_5 ?_
  refine V_if_ne C 11 dX8_can_6 (by decide) (fun c8 => ?_) (fun c8 => ?_)
  · have hf := i_f c8 hf
    refine V_iconst (v := (0 : Int32)) C dX8_can_11 (by decide) ?_
    refine V_istore_n (lv' := [(1, vI (0 : Int32)), (0, vR 8 (some v0))]) C dX8_can_12 rfl (by decide) rfl ?_
    refine V_iconst (v := (0 : Int32)) C dX8_can_13 (by decide) ?_
    refine V_istore_n (lv' := [(2, vI (0 : Int32)), (1, vI (0 : Int32)), (0, vR 8 (some v0))]) C dX8_can_14 rfl (by decide) rfl ?_
    refine V_sub (lv' := [(0, vR 8 (some v0)), (1, vI (0 : Int32)), (2, vI (0 : Int32))]) [2, 1, 0] rfl ?_
    exact p_X8_can_15 C hQ N _ _ _ _ hf
  · have hf := i_t c8 hf
    refine V_iconst (v := (-1 : Int32)) C dX8_can_9 (by decide) ?_
    obtain ⟨hf1, hf2⟩ := Prod.mk.inj (Option.some.inj hf)
    subst hf1
    subst hf2
    exact V_iret C hQ dX8_can_10
theorem ct_X8_can {r : Int32} {h' : Hp} {N : Nat} {h : Hp} {v0 : Nat} (hf : f_X8_can N h v0 = some ((r, h'))) (l : Launch) (G : GT) : MC l G yX8_can cX8_can 3 (some .int) rmX8_can h [vR 8 (some v0)] (some (vI r)) h' := MC_of (by decide) rfl (Nat.le_of_ble_eq_true rfl) rfl (fun X C hQ hin => p_X8_can C hQ hf)
abbrev rmX8_cellOf : Room := { frames := 1, cells := 0, slots := 0, locals := 22 }
def f_X8_cellOf (h : Hp) (v0 : Nat) (v1 : Int32) : Option (Int32) := if (6 : Int32) ≤ v1 then (Option.bind (f_X8_waterOf h v0 (v1 - (6 : Int32))) (fun r2 => some r2)) else (Option.bind (f_X8_bargeOf h v0 v1 (4 : Int32)) (fun r3 => some r3))
set_option maxHeartbeats 4000000 in
set_option maxRecDepth 100000 in
theorem p_X8_cellOf {X : XT} {r : Int32} (C : CX X cX8_cellOf "WaterStairModel" 2 (some .int) rmX8_cellOf) {h : Hp} {v0 : Nat} {v1 : Int32} (hQ : QX X (some (vI r)) h rmX8_cellOf.cells rmX8_cellOf.slots) (hf : f_X8_cellOf h v0 v1 = some r) : V X 0 0 h 0 [(0, vR 8 (some v0)), (1, vI v1)] [] := by
  unfold f_X8_cellOf at hf
  refine V_iload_n C dX8_cellOf_0 rfl 1 rfl ?_
  refine V_bipush (v := (6 : Int32)) C dX8_cellOf_1 (by decide) ?_
  refine V_icmp_ge C 15 dX8_cellOf_3 (by decide) (fun c1 => ?_) (fun c1 => ?_)
  · have hf := i_t c1 hf
    refine V_aload_n C dX8_cellOf_15 rfl 0 rfl ?_
    refine V_iload_n C dX8_cellOf_16 rfl 1 rfl ?_
    refine V_bipush (v := (6 : Int32)) C dX8_cellOf_17 (by decide) ?_
    refine V_isub C dX8_cellOf_19 ?_
    obtain ⟨r2, er2, hf⟩ := o_b hf
    refine V_callV (as := [vI (v1 - (6 : Int32))]) (st := []) C ml_X8_330 fx8 (ct_X8_waterOf er2) rfl ⟨by decide, by decide, by decide, by decide⟩ (Nat.le_of_ble_eq_true rfl) rfl dX8_cellOf_20 (cs' := 0) (sl' := 0) rfl rfl ?_
    have hf := Option.some.inj hf
    subst hf
    exact V_iret C hQ dX8_cellOf_23
  · have hf := i_f c1 hf
    refine V_aload_n C dX8_cellOf_6 rfl 0 rfl ?_
    refine V_iload_n C dX8_cellOf_7 rfl 1 rfl ?_
    refine V_iconst (v := (4 : Int32)) C dX8_cellOf_8 (by decide) ?_
    obtain ⟨r3, er3, hf⟩ := o_b hf
    refine V_callV (as := [vI v1, vI (4 : Int32)]) (st := []) C ml_X8_295 fx8 (ct_X8_bargeOf er3) rfl ⟨by decide, by decide, by decide, by decide⟩ (Nat.le_of_ble_eq_true rfl) rfl dX8_cellOf_9 (cs' := 0) (sl' := 0) rfl rfl ?_
    refine V_goto C 23 dX8_cellOf_12 (by decide) ?_
    have hf := Option.some.inj hf
    subst hf
    exact V_iret C hQ dX8_cellOf_23
theorem ct_X8_cellOf {r : Int32} {h : Hp} {v0 : Nat} {v1 : Int32} (hf : f_X8_cellOf h v0 v1 = some r) (l : Launch) (G : GT) : MC l G yX8_cellOf cX8_cellOf 2 (some .int) rmX8_cellOf h [vR 8 (some v0), vI v1] (some (vI r)) h := MC_of (by decide) rfl (Nat.le_of_ble_eq_true rfl) rfl (fun X C hQ hin => p_X8_cellOf C hQ hf)
abbrev rmX8_isNow : Room := { frames := 2, cells := 0, slots := 0, locals := 43 }
def f_X8_isNow_2 (N : Nat) : Nat → Hp → Nat → Int32 → Int32 → Option (Int32)
  | 0, _, _, _, _ => none
  | n + 1, h, v0, v1, v2 => if (14 : Int32) ≤ v2 then (some (1 : Int32)) else (Option.bind (hP h v0 28) (fun q2 => if 0 ≤ ((14 : Int32) * v1) + v2 ∧ (((14 : Int32) * v1) + v2).toNatClampNeg < hL h q2 then (Option.bind (f_X8_cellOf h v0 v2) (fun r4 => if (hI h q2 ((((14 : Int32) * v1) + v2).toNatClampNeg)) = r4 then (f_X8_isNow_2 N n h v0 v1 (v2 + (1 : Int32))) else (some (0 : Int32)))) else none))
set_option maxHeartbeats 4000000 in
set_option maxRecDepth 100000 in
theorem p_X8_isNow_2 {X : XT} {r : Int32} {h : Hp} (C : CX X cX8_isNow "WaterStairModel" 3 (some .boolean) rmX8_isNow) (hQ : QX X (some (vI r)) h rmX8_isNow.cells rmX8_isNow.slots) {N : Nat}  : ∀ (n : Nat) (v0 : Nat) (v1 : Int32) (v2 : Int32), f_X8_isNow_2 N n h v0 v1 v2 = some r → V X 0 0 h 2 [(0, vR 8 (some v0)), (1, vI v1), (2, vI v2)] [] := by
  intro n
  induction n with
  | zero =>
    intro v0 v1 v2 hf
    have hf : (none : Option (Int32)) = some _ := hf
    cases hf
  | succ n ih =>
    intro v0 v1 v2 hf
    rw [f_X8_isNow_2] at hf
    refine V_iload_n C dX8_isNow_2 rfl 2 rfl ?_
    refine V_bipush (v := (14 : Int32)) C dX8_isNow_3 (by decide) ?_
    refine V_icmp_ge C 35 dX8_isNow_5 (by decide) (fun c1 => ?_) (fun c1 => ?_)
    · have hf := i_t c1 hf
      refine V_iconst (v := (1 : Int32)) C dX8_isNow_35 (by decide) ?_
      have hf := Option.some.inj hf
      subst hf
      exact V_zret C (by decide) hQ dX8_isNow_36
    · have hf := i_f c1 hf
      refine V_aload_n C dX8_isNow_8 rfl 0 rfl ?_
      obtain ⟨q2, eq2, hf⟩ := o_b hf
      refine V_getR C fl_X8_48 rfl rfl (by decide) eq2 dX8_isNow_9 ?_
      refine V_bipush (v := (14 : Int32)) C dX8_isNow_12 (by decide) ?_
      refine V_iload_n C dX8_isNow_14 rfl 1 rfl ?_
      refine V_imul C dX8_isNow_15 ?_
      refine V_iload_n C dX8_isNow_16 rfl 2 rfl ?_
      refine V_iadd C dX8_isNow_17 ?_
      obtain ⟨g3, hf⟩ := o_if hf
      refine V_iald C (vp_g g3) rfl dX8_isNow_18 ?_
      refine V_aload_n C dX8_isNow_19 rfl 0 rfl ?_
      refine V_iload_n C dX8_isNow_20 rfl 2 rfl ?_
      obtain ⟨r4, er4, hf⟩ := o_b hf
      refine V_callV (as := [vI v2]) (st := [vI (hI h q2 ((((14 : Int32) * v1) + v2).toNatClampNeg))]) C ml_X8_406 fx8 (ct_X8_cellOf er4) rfl ⟨by decide, by decide, by decide, by decide⟩ (Nat.le_of_ble_eq_true rfl) rfl dX8_isNow_21 (cs' := 0) (sl' := 0) rfl rfl ?_
      refine V_icmp_eq C 29 dX8_isNow_24 (by decide) (fun c5 => ?_) (fun c5 => ?_)
      · have hf := i_t c5 hf
        refine V_iinc (lv' := [(2, vI (v2 + (1 : Int32))), (0, vR 8 (some v0)), (1, vI v1)]) C dX8_isNow_29 2 rfl (congrArg (v2 + ·) (by decide : Int32.ofInt (1) = (1 : Int32))) (by decide) rfl ?_
        refine V_goto C 2 dX8_isNow_32 (by decide) ?_
        refine V_sub (lv' := [(0, vR 8 (some v0)), (1, vI v1), (2, vI (v2 + (1 : Int32)))]) [1, 2, 0] rfl ?_
        exact ih _ _ _ hf
      · have hf := i_f c5 hf
        refine V_iconst (v := (0 : Int32)) C dX8_isNow_27 (by decide) ?_
        have hf := Option.some.inj hf
        subst hf
        exact V_zret C (by decide) hQ dX8_isNow_28
def f_X8_isNow (N : Nat) (h : Hp) (v0 : Nat) (v1 : Int32) : Option (Int32) := f_X8_isNow_2 N N h v0 v1 (0 : Int32)
set_option maxHeartbeats 4000000 in
set_option maxRecDepth 100000 in
theorem p_X8_isNow {X : XT} {r : Int32} (C : CX X cX8_isNow "WaterStairModel" 3 (some .boolean) rmX8_isNow) {N : Nat} {h : Hp} {v0 : Nat} {v1 : Int32} (hQ : QX X (some (vI r)) h rmX8_isNow.cells rmX8_isNow.slots) (hf : f_X8_isNow N h v0 v1 = some r) : V X 0 0 h 0 [(0, vR 8 (some v0)), (1, vI v1)] [] := by
  unfold f_X8_isNow at hf
  refine V_iconst (v := (0 : Int32)) C dX8_isNow_0 (by decide) ?_
  refine V_istore_n (lv' := [(2, vI (0 : Int32)), (0, vR 8 (some v0)), (1, vI v1)]) C dX8_isNow_1 rfl (by decide) rfl ?_
  refine V_sub (lv' := [(0, vR 8 (some v0)), (1, vI v1), (2, vI (0 : Int32))]) [1, 2, 0] rfl ?_
  exact p_X8_isNow_2 C hQ N _ _ _ hf
theorem ct_X8_isNow {r : Int32} {N : Nat} {h : Hp} {v0 : Nat} {v1 : Int32} (hf : f_X8_isNow N h v0 v1 = some r) (l : Launch) (G : GT) : MC l G yX8_isNow cX8_isNow 3 (some .boolean) rmX8_isNow h [vR 8 (some v0), vI v1] (some (vI r)) h := MC_of (by decide) rfl (Nat.le_of_ble_eq_true rfl) rfl (fun X C hQ hin => p_X8_isNow C hQ hf)
abbrev rmX8_slotNow : Room := { frames := 3, cells := 0, slots := 0, locals := 65 }
def f_X8_slotNow_37 (N : Nat) : Nat → Hp → Nat → Int32 → Option (Int32)
  | 0, _, _, _ => none
  | n + 1, h, v0, v2 => Option.bind (hP h v0 35) (fun q1 => if 0 ≤ v2 ∧ v2.toNatClampNeg < hL h q1 then (if (hI h q1 (v2.toNatClampNeg)) ≤ 0 then (some v2) else (Option.bind (hP h v0 35) (fun q4 => if 0 ≤ v2 ∧ v2.toNatClampNeg < hL h q4 then (Option.bind (f_X8_isNow N h v0 ((hI h q4 (v2.toNatClampNeg)) - (1 : Int32))) (fun r6 => if r6 = 0 then (lt ((v2 + (1 : Int32)) - (v2 + (1 : Int32)) / (4096 : Int32) * (4096 : Int32)) (fun y8 => f_X8_slotNow_37 N n h v0 y8)) else (some v2))) else none))) else none)
set_option maxHeartbeats 4000000 in
set_option maxRecDepth 100000 in
theorem p_X8_slotNow_37 {X : XT} {r : Int32} {h : Hp} (C : CX X cX8_slotNow "WaterStairModel" 3 (some .int) rmX8_slotNow) (hQ : QX X (some (vI r)) h rmX8_slotNow.cells rmX8_slotNow.slots) {N : Nat}  : ∀ (n : Nat) (v0 : Nat) (v2 : Int32), f_X8_slotNow_37 N n h v0 v2 = some r → V X 0 0 h 37 [(0, vR 8 (some v0)), (2, vI v2)] [] := by
  intro n
  induction n with
  | zero =>
    intro v0 v2 hf
    have hf : (none : Option (Int32)) = some _ := hf
    cases hf
  | succ n ih =>
    intro v0 v2 hf
    rw [f_X8_slotNow_37] at hf
    refine V_aload_n C dX8_slotNow_37 rfl 0 rfl ?_
    obtain ⟨q1, eq1, hf⟩ := o_b hf
    refine V_getR C fl_X8_70 rfl rfl (by decide) eq1 dX8_slotNow_38 ?_
    refine V_iload_n C dX8_slotNow_41 rfl 1 rfl ?_
    obtain ⟨g2, hf⟩ := o_if hf
    refine V_iald C (vp_g g2) rfl dX8_slotNow_42 ?_
    refine V_if_le C 72 dX8_slotNow_43 (by decide) (fun c3 => ?_) (fun c3 => ?_)
    · have hf := i_t c3 hf
      refine V_iload_n C dX8_slotNow_72 rfl 1 rfl ?_
      have hf := Option.some.inj hf
      subst hf
      exact V_iret C hQ dX8_slotNow_73
    · have hf := i_f c3 hf
      refine V_aload_n C dX8_slotNow_46 rfl 0 rfl ?_
      refine V_aload_n C dX8_slotNow_47 rfl 0 rfl ?_
      obtain ⟨q4, eq4, hf⟩ := o_b hf
      refine V_getR C fl_X8_70 rfl rfl (by decide) eq4 dX8_slotNow_48 ?_
      refine V_iload_n C dX8_slotNow_51 rfl 1 rfl ?_
      obtain ⟨g5, hf⟩ := o_if hf
      refine V_iald C (vp_g g5) rfl dX8_slotNow_52 ?_
      refine V_iconst (v := (1 : Int32)) C dX8_slotNow_53 (by decide) ?_
      refine V_isub C dX8_slotNow_54 ?_
      obtain ⟨r6, er6, hf⟩ := o_b hf
      refine V_callV (as := [vI ((hI h q4 (v2.toNatClampNeg)) - (1 : Int32))]) (st := []) C ml_X8_410 fx8 (ct_X8_isNow er6) rfl ⟨by decide, by decide, by decide, by decide⟩ (Nat.le_of_ble_eq_true rfl) rfl dX8_slotNow_55 (cs' := 0) (sl' := 0) rfl rfl ?_
      refine V_if_ne C 72 dX8_slotNow_58 (by decide) (fun c7 => ?_) (fun c7 => ?_)
      · have hf := i_f c7 hf
        refine V_iload_n C dX8_slotNow_72 rfl 1 rfl ?_
        have hf := Option.some.inj hf
        subst hf
        exact V_iret C hQ dX8_slotNow_73
      · have hf := i_t c7 hf
        refine V_iload_n C dX8_slotNow_61 rfl 1 rfl ?_
        refine V_iconst (v := (1 : Int32)) C dX8_slotNow_62 (by decide) ?_
        refine V_iadd C dX8_slotNow_63 ?_
        refine V_sipush (v := (4096 : Int32)) C dX8_slotNow_64 (by decide) ?_
        refine V_irem C dX8_slotNow_67 (by decide) ?_
        obtain ⟨y8, ey8, hf⟩ := o_l hf
        refine V_eqI ey8 ?_
        refine V_istore_n (lv' := [(2, vI y8), (0, vR 8 (some v0))]) C dX8_slotNow_68 rfl (by decide) rfl ?_
        refine V_goto C 37 dX8_slotNow_69 (by decide) ?_
        refine V_sub (lv' := [(0, vR 8 (some v0)), (2, vI y8)]) [1, 0] rfl ?_
        exact ih _ _ hf
def f_X8_slotNow_4 (N : Nat) : Nat → Hp → Nat → Int32 → Int32 → Option (Int32)
  | 0, _, _, _, _ => none
  | n + 1, h, v0, v1, v2 => if (14 : Int32) ≤ v2 then (lt (v1 - v1 / (4096 : Int32) * (4096 : Int32)) (fun y10 => f_X8_slotNow_37 N N h v0 y10)) else (Option.bind (f_X8_cellOf h v0 v2) (fun r11 => lt (((v1 * (31 : Int32)) + r11) - ((v1 * (31 : Int32)) + r11) / (1000003 : Int32) * (1000003 : Int32)) (fun y12 => f_X8_slotNow_4 N n h v0 y12 (v2 + (1 : Int32)))))
set_option maxHeartbeats 4000000 in
set_option maxRecDepth 100000 in
theorem p_X8_slotNow_4 {X : XT} {r : Int32} {h : Hp} (C : CX X cX8_slotNow "WaterStairModel" 3 (some .int) rmX8_slotNow) (hQ : QX X (some (vI r)) h rmX8_slotNow.cells rmX8_slotNow.slots) {N : Nat}  : ∀ (n : Nat) (v0 : Nat) (v1 : Int32) (v2 : Int32), f_X8_slotNow_4 N n h v0 v1 v2 = some r → V X 0 0 h 4 [(0, vR 8 (some v0)), (1, vI v1), (2, vI v2)] [] := by
  intro n
  induction n with
  | zero =>
    intro v0 v1 v2 hf
    have hf : (none : Option (Int32)) = some _ := hf
    cases hf
  | succ n ih =>
    intro v0 v1 v2 hf
    rw [f_X8_slotNow_4] at hf
    refine V_iload_n C dX8_slotNow_4 rfl 2 rfl ?_
    refine V_bipush (v := (14 : Int32)) C dX8_slotNow_5 (by decide) ?_
    refine V_icmp_ge C 31 dX8_slotNow_7 (by decide) (fun c9 => ?_) (fun c9 => ?_)
    · have hf := i_t c9 hf
      refine V_iload_n C dX8_slotNow_31 rfl 1 rfl ?_
      refine V_sipush (v := (4096 : Int32)) C dX8_slotNow_32 (by decide) ?_
      refine V_irem C dX8_slotNow_35 (by decide) ?_
      obtain ⟨y10, ey10, hf⟩ := o_l hf
      refine V_eqI ey10 ?_
      refine V_istore_n (lv' := [(2, vI y10), (0, vR 8 (some v0)), (1, vI v1)]) C dX8_slotNow_36 rfl (by decide) rfl ?_
      refine V_sub (lv' := [(0, vR 8 (some v0)), (2, vI y10)]) [1, 0] rfl ?_
      exact p_X8_slotNow_37 C hQ N _ _ hf
    · have hf := i_f c9 hf
      refine V_iload_n C dX8_slotNow_10 rfl 1 rfl ?_
      refine V_bipush (v := (31 : Int32)) C dX8_slotNow_11 (by decide) ?_
      refine V_imul C dX8_slotNow_13 ?_
      refine V_aload_n C dX8_slotNow_14 rfl 0 rfl ?_
      refine V_iload_n C dX8_slotNow_15 rfl 2 rfl ?_
      obtain ⟨r11, er11, hf⟩ := o_b hf
      refine V_callV (as := [vI v2]) (st := [vI (v1 * (31 : Int32))]) C ml_X8_406 fx8 (ct_X8_cellOf er11) rfl ⟨by decide, by decide, by decide, by decide⟩ (Nat.le_of_ble_eq_true rfl) rfl dX8_slotNow_16 (cs' := 0) (sl' := 0) rfl rfl ?_
      refine V_iadd C dX8_slotNow_19 ?_
      refine V_ldcw C kc_X8_409 dX8_slotNow_20 ?_
      refine V_irem C dX8_slotNow_23 (by decide) ?_
      obtain ⟨y12, ey12, hf⟩ := o_l hf
      refine V_eqI ey12 ?_
      refine V_istore_n (lv' := [(1, vI y12), (0, vR 8 (some v0)), (2, vI v2)]) C dX8_slotNow_24 rfl (by decide) rfl ?_
      refine V_iinc (lv' := [(2, vI (v2 + (1 : Int32))), (1, vI y12), (0, vR 8 (some v0))]) C dX8_slotNow_25 2 rfl (congrArg (v2 + ·) (by decide : Int32.ofInt (1) = (1 : Int32))) (by decide) rfl ?_
      refine V_goto C 4 dX8_slotNow_28 (by decide) ?_
      refine V_sub (lv' := [(0, vR 8 (some v0)), (1, vI y12), (2, vI (v2 + (1 : Int32)))]) [2, 1, 0] rfl ?_
      exact ih _ _ _ hf
def f_X8_slotNow (N : Nat) (h : Hp) (v0 : Nat) : Option (Int32) := f_X8_slotNow_4 N N h v0 (0 : Int32) (0 : Int32)
set_option maxHeartbeats 4000000 in
set_option maxRecDepth 100000 in
theorem p_X8_slotNow {X : XT} {r : Int32} (C : CX X cX8_slotNow "WaterStairModel" 3 (some .int) rmX8_slotNow) {N : Nat} {h : Hp} {v0 : Nat} (hQ : QX X (some (vI r)) h rmX8_slotNow.cells rmX8_slotNow.slots) (hf : f_X8_slotNow N h v0 = some r) : V X 0 0 h 0 [(0, vR 8 (some v0))] [] := by
  unfold f_X8_slotNow at hf
  refine V_iconst (v := (0 : Int32)) C dX8_slotNow_0 (by decide) ?_
  refine V_istore_n (lv' := [(1, vI (0 : Int32)), (0, vR 8 (some v0))]) C dX8_slotNow_1 rfl (by decide) rfl ?_
  refine V_iconst (v := (0 : Int32)) C dX8_slotNow_2 (by decide) ?_
  refine V_istore_n (lv' := [(2, vI (0 : Int32)), (1, vI (0 : Int32)), (0, vR 8 (some v0))]) C dX8_slotNow_3 rfl (by decide) rfl ?_
  refine V_sub (lv' := [(0, vR 8 (some v0)), (1, vI (0 : Int32)), (2, vI (0 : Int32))]) [2, 1, 0] rfl ?_
  exact p_X8_slotNow_4 C hQ N _ _ _ hf
theorem ct_X8_slotNow {r : Int32} {N : Nat} {h : Hp} {v0 : Nat} (hf : f_X8_slotNow N h v0 = some r) (l : Launch) (G : GT) : MC l G yX8_slotNow cX8_slotNow 3 (some .int) rmX8_slotNow h [vR 8 (some v0)] (some (vI r)) h := MC_of (by decide) rfl (Nat.le_of_ble_eq_true rfl) rfl (fun X C hQ hin => p_X8_slotNow C hQ hf)
abbrev rmX8_comes : Room := { frames := 2, cells := 0, slots := 0, locals := 43 }
def f_X8_comes_3 (N : Nat) : Nat → Hp → Nat → Int32 → Int32 → Int32 → Int32 → Int32 → Option (Hp)
  | 0, _, _, _, _, _, _, _ => none
  | n + 1, h, v0, v1, v2, v3, v4, v5 => if (14 : Int32) ≤ v5 then (Option.bind (hP h v0 35) (fun q2 => lt ((hI h v0 36) + (1 : Int32)) (fun y3 => if 0 ≤ v1 ∧ v1.toNatClampNeg < hL h q2 then (lt (sI h q2 (v1.toNatClampNeg) y3) (fun h5 => Option.bind (hP h5 v0 32) (fun q6 => if 0 ≤ hI h5 v0 36 ∧ (hI h5 v0 36).toNatClampNeg < hL h5 q6 then (lt (sI h5 q6 ((hI h5 v0 36).toNatClampNeg) (0 : Int32)) (fun h8 => Option.bind (hP h8 v0 29) (fun q9 => if 0 ≤ hI h8 v0 36 ∧ (hI h8 v0 36).toNatClampNeg < hL h8 q9 then (lt (sI h8 q9 ((hI h8 v0 36).toNatClampNeg) v2) (fun h11 => Option.bind (hP h11 v0 30) (fun q12 => if 0 ≤ hI h11 v0 36 ∧ (hI h11 v0 36).toNatClampNeg < hL h11 q12 then (lt (sI h11 q12 ((hI h11 v0 36).toNatClampNeg) v3) (fun h14 => Option.bind (hP h14 v0 31) (fun q15 => if 0 ≤ hI h14 v0 36 ∧ (hI h14 v0 36).toNatClampNeg < hL h14 q15 then (lt (sI h14 q15 ((hI h14 v0 36).toNatClampNeg) v4) (fun h17 => lt (sI h17 v0 36 ((hI h17 v0 36) + (1 : Int32))) (fun h18 => some h18))) else none))) else none))) else none))) else none))) else none))) else (Option.bind (hP h v0 28) (fun q19 => Option.bind (f_X8_cellOf h v0 v5) (fun r20 => if 0 ≤ ((14 : Int32) * (hI h v0 36)) + v5 ∧ (((14 : Int32) * (hI h v0 36)) + v5).toNatClampNeg < hL h q19 then (lt (sI h q19 ((((14 : Int32) * (hI h v0 36)) + v5).toNatClampNeg) r20) (fun h22 => f_X8_comes_3 N n h22 v0 v1 v2 v3 v4 (v5 + (1 : Int32)))) else none)))
set_option maxHeartbeats 4000000 in
set_option maxRecDepth 100000 in
theorem p_X8_comes_3 {X : XT} {h' : Hp} (C : CX X cX8_comes "WaterStairModel" 6 none rmX8_comes) (hQ : QX X none h' rmX8_comes.cells rmX8_comes.slots) {N : Nat}  : ∀ (n : Nat) (h : Hp) (v0 : Nat) (v1 : Int32) (v2 : Int32) (v3 : Int32) (v4 : Int32) (v5 : Int32), f_X8_comes_3 N n h v0 v1 v2 v3 v4 v5 = some h' → V X 0 0 h 3 [(0, vR 8 (some v0)), (1, vI v1), (2, vI v2), (3, vI v3), (4, vI v4), (5, vI v5)] [] := by
  intro n
  induction n with
  | zero =>
    intro h v0 v1 v2 v3 v4 v5 hf
    have hf : (none : Option (Hp)) = some _ := hf
    cases hf
  | succ n ih =>
    intro h v0 v1 v2 v3 v4 v5 hf
    rw [f_X8_comes_3] at hf
    refine V_iload C dX8_comes_3 5 rfl ?_
    refine V_bipush (v := (14 : Int32)) C dX8_comes_5 (by decide) ?_
    refine V_icmp_ge C 37 dX8_comes_7 (by decide) (fun c1 => ?_) (fun c1 => ?_)
    · have hf := i_t c1 hf
      refine V_aload_n C dX8_comes_37 rfl 0 rfl ?_
      obtain ⟨q2, eq2, hf⟩ := o_b hf
      refine V_getR C fl_X8_70 rfl rfl (by decide) eq2 dX8_comes_38 ?_
      refine V_iload_n C dX8_comes_41 rfl 1 rfl ?_
      refine V_aload_n C dX8_comes_42 rfl 0 rfl ?_
      refine V_getI C fl_X8_413 rfl dX8_comes_43 ?_
      refine V_iconst (v := (1 : Int32)) C dX8_comes_46 (by decide) ?_
      refine V_iadd C dX8_comes_47 ?_
      obtain ⟨y3, ey3, hf⟩ := o_l hf
      refine V_eqI ey3 ?_
      obtain ⟨g4, hf⟩ := o_if hf
      obtain ⟨h5, eh5, hf⟩ := o_l hf
      refine V_iast C (vp_g g4) rfl dX8_comes_48 (V_eqH eh5 ?_)
      refine V_aload_n C dX8_comes_49 rfl 0 rfl ?_
      obtain ⟨q6, eq6, hf⟩ := o_b hf
      refine V_getR C fl_X8_60 rfl rfl (by decide) eq6 dX8_comes_50 ?_
      refine V_aload_n C dX8_comes_53 rfl 0 rfl ?_
      refine V_getI C fl_X8_413 rfl dX8_comes_54 ?_
      refine V_iconst (v := (0 : Int32)) C dX8_comes_57 (by decide) ?_
      obtain ⟨g7, hf⟩ := o_if hf
      obtain ⟨h8, eh8, hf⟩ := o_l hf
      refine V_zast C (Or.inl rfl) (vp_g g7) rfl dX8_comes_58 (V_eqH eh8 ?_)
      refine V_aload_n C dX8_comes_59 rfl 0 rfl ?_
      obtain ⟨q9, eq9, hf⟩ := o_b hf
      refine V_getR C fl_X8_51 rfl rfl (by decide) eq9 dX8_comes_60 ?_
      refine V_aload_n C dX8_comes_63 rfl 0 rfl ?_
      refine V_getI C fl_X8_413 rfl dX8_comes_64 ?_
      refine V_iload_n C dX8_comes_67 rfl 2 rfl ?_
      obtain ⟨g10, hf⟩ := o_if hf
      obtain ⟨h11, eh11, hf⟩ := o_l hf
      refine V_iast C (vp_g g10) rfl dX8_comes_68 (V_eqH eh11 ?_)
      refine V_aload_n C dX8_comes_69 rfl 0 rfl ?_
      obtain ⟨q12, eq12, hf⟩ := o_b hf
      refine V_getR C fl_X8_54 rfl rfl (by decide) eq12 dX8_comes_70 ?_
      refine V_aload_n C dX8_comes_73 rfl 0 rfl ?_
      refine V_getI C fl_X8_413 rfl dX8_comes_74 ?_
      refine V_iload_n C dX8_comes_77 rfl 3 rfl ?_
      obtain ⟨g13, hf⟩ := o_if hf
      obtain ⟨h14, eh14, hf⟩ := o_l hf
      refine V_iast C (vp_g g13) rfl dX8_comes_78 (V_eqH eh14 ?_)
      refine V_aload_n C dX8_comes_79 rfl 0 rfl ?_
      obtain ⟨q15, eq15, hf⟩ := o_b hf
      refine V_getR C fl_X8_57 rfl rfl (by decide) eq15 dX8_comes_80 ?_
      refine V_aload_n C dX8_comes_83 rfl 0 rfl ?_
      refine V_getI C fl_X8_413 rfl dX8_comes_84 ?_
      refine V_iload C dX8_comes_87 4 rfl ?_
      obtain ⟨g16, hf⟩ := o_if hf
      obtain ⟨h17, eh17, hf⟩ := o_l hf
      refine V_iast C (vp_g g16) rfl dX8_comes_89 (V_eqH eh17 ?_)
      refine V_aload_n C dX8_comes_90 rfl 0 rfl ?_
      refine V_dup C dX8_comes_91 rfl ?_
      refine V_getI C fl_X8_413 rfl dX8_comes_92 ?_
      refine V_iconst (v := (1 : Int32)) C dX8_comes_95 (by decide) ?_
      refine V_iadd C dX8_comes_96 ?_
      obtain ⟨h18, eh18, hf⟩ := o_l hf
      refine V_putI C nf_X8_413 rfl (okI_int _) dX8_comes_97 (V_eqH eh18 ?_)
      have hf := Option.some.inj hf
      subst hf
      exact V_vret C hQ dX8_comes_100
    · have hf := i_f c1 hf
      refine V_aload_n C dX8_comes_10 rfl 0 rfl ?_
      obtain ⟨q19, eq19, hf⟩ := o_b hf
      refine V_getR C fl_X8_48 rfl rfl (by decide) eq19 dX8_comes_11 ?_
      refine V_bipush (v := (14 : Int32)) C dX8_comes_14 (by decide) ?_
      refine V_aload_n C dX8_comes_16 rfl 0 rfl ?_
      refine V_getI C fl_X8_413 rfl dX8_comes_17 ?_
      refine V_imul C dX8_comes_20 ?_
      refine V_iload C dX8_comes_21 5 rfl ?_
      refine V_iadd C dX8_comes_23 ?_
      refine V_aload_n C dX8_comes_24 rfl 0 rfl ?_
      refine V_iload C dX8_comes_25 5 rfl ?_
      obtain ⟨r20, er20, hf⟩ := o_b hf
      refine V_callV (as := [vI v5]) (st := [vI (((14 : Int32) * (hI h v0 36)) + v5), vR 10 (some q19)]) C ml_X8_406 fx8 (ct_X8_cellOf er20) rfl ⟨by decide, by decide, by decide, by decide⟩ (Nat.le_of_ble_eq_true rfl) rfl dX8_comes_27 (cs' := 0) (sl' := 0) rfl rfl ?_
      obtain ⟨g21, hf⟩ := o_if hf
      obtain ⟨h22, eh22, hf⟩ := o_l hf
      refine V_iast C (vp_g g21) rfl dX8_comes_30 (V_eqH eh22 ?_)
      refine V_iinc (lv' := [(5, vI (v5 + (1 : Int32))), (0, vR 8 (some v0)), (1, vI v1), (2, vI v2), (3, vI v3), (4, vI v4)]) C dX8_comes_31 5 rfl (congrArg (v5 + ·) (by decide : Int32.ofInt (1) = (1 : Int32))) (by decide) rfl ?_
      refine V_goto C 3 dX8_comes_34 (by decide) ?_
      refine V_sub (lv' := [(0, vR 8 (some v0)), (1, vI v1), (2, vI v2), (3, vI v3), (4, vI v4), (5, vI (v5 + (1 : Int32)))]) [1, 2, 3, 4, 5, 0] rfl ?_
      exact ih _ _ _ _ _ _ _ hf
def f_X8_comes (N : Nat) (h : Hp) (v0 : Nat) (v1 : Int32) (v2 : Int32) (v3 : Int32) (v4 : Int32) : Option (Hp) := f_X8_comes_3 N N h v0 v1 v2 v3 v4 (0 : Int32)
set_option maxHeartbeats 4000000 in
set_option maxRecDepth 100000 in
theorem p_X8_comes {X : XT} {h' : Hp} (C : CX X cX8_comes "WaterStairModel" 6 none rmX8_comes) {N : Nat} {h : Hp} {v0 : Nat} {v1 : Int32} {v2 : Int32} {v3 : Int32} {v4 : Int32} (hQ : QX X none h' rmX8_comes.cells rmX8_comes.slots) (hf : f_X8_comes N h v0 v1 v2 v3 v4 = some h') : V X 0 0 h 0 [(0, vR 8 (some v0)), (1, vI v1), (2, vI v2), (3, vI v3), (4, vI v4)] [] := by
  unfold f_X8_comes at hf
  refine V_iconst (v := (0 : Int32)) C dX8_comes_0 (by decide) ?_
  refine V_istore (lv' := [(5, vI (0 : Int32)), (0, vR 8 (some v0)), (1, vI v1), (2, vI v2), (3, vI v3), (4, vI v4)]) C dX8_comes_1 (by decide) rfl ?_
  refine V_sub (lv' := [(0, vR 8 (some v0)), (1, vI v1), (2, vI v2), (3, vI v3), (4, vI v4), (5, vI (0 : Int32))]) [1, 2, 3, 4, 5, 0] rfl ?_
  exact p_X8_comes_3 C hQ N _ _ _ _ _ _ _ hf
theorem ct_X8_comes {h' : Hp} {N : Nat} {h : Hp} {v0 : Nat} {v1 : Int32} {v2 : Int32} {v3 : Int32} {v4 : Int32} (hf : f_X8_comes N h v0 v1 v2 v3 v4 = some h') (l : Launch) (G : GT) : MC l G yX8_comes cX8_comes 6 none rmX8_comes h [vR 8 (some v0), vI v1, vI v2, vI v3, vI v4] none h' := MC_of (by decide) rfl (Nat.le_of_ble_eq_true rfl) rfl (fun X C hQ hin => p_X8_comes C hQ hf)
abbrev rmX8_stands : Room := { frames := 0, cells := 0, slots := 0, locals := 0 }
def f_X8_stands_44 (N : Nat) : Nat → Hp → Nat → Int32 → Int32 → Option (Hp)
  | 0, _, _, _, _ => none
  | n + 1, h, v0, v1, v2 => Option.bind (hP h v0 26) (fun q1 => if 0 < hL h q1 then (if (hI h q1 (0)) ≤ v2 then (Option.bind (hP h v0 26) (fun q4 => Option.bind (hP h v0 27) (fun q5 => if 3 < hL h q5 then (if 3 < hL h q4 then (lt (sI h q4 (3) (hI h q5 (3))) (fun h8 => some h8)) else none) else none))) else (Option.bind (hP h v0 26) (fun q9 => Option.bind (hP h v0 28) (fun q10 => if 0 ≤ (((14 : Int32) * v1) + (6 : Int32)) + v2 ∧ ((((14 : Int32) * v1) + (6 : Int32)) + v2).toNatClampNeg < hL h q10 then (lt (hI h q10 (((((14 : Int32) * v1) + (6 : Int32)) + v2).toNatClampNeg)) (fun y12 => if 0 ≤ (9 : Int32) + ((2 : Int32) * v2) ∧ ((9 : Int32) + ((2 : Int32) * v2)).toNatClampNeg < hL h q9 then (lt (sI h q9 (((9 : Int32) + ((2 : Int32) * v2)).toNatClampNeg) y12) (fun h14 => f_X8_stands_44 N n h14 v0 v1 (v2 + (1 : Int32)))) else none)) else none)))) else none)
set_option maxHeartbeats 4000000 in
set_option maxRecDepth 100000 in
theorem p_X8_stands_44 {X : XT} {h' : Hp} (C : CX X cX8_stands "WaterStairModel" 3 none rmX8_stands) (hQ : QX X none h' rmX8_stands.cells rmX8_stands.slots) {N : Nat}  : ∀ (n : Nat) (h : Hp) (v0 : Nat) (v1 : Int32) (v2 : Int32), f_X8_stands_44 N n h v0 v1 v2 = some h' → V X 0 0 h 44 [(0, vR 8 (some v0)), (1, vI v1), (2, vI v2)] [] := by
  intro n
  induction n with
  | zero =>
    intro h v0 v1 v2 hf
    have hf : (none : Option (Hp)) = some _ := hf
    cases hf
  | succ n ih =>
    intro h v0 v1 v2 hf
    rw [f_X8_stands_44] at hf
    refine V_iload_n C dX8_stands_44 rfl 2 rfl ?_
    refine V_aload_n C dX8_stands_45 rfl 0 rfl ?_
    obtain ⟨q1, eq1, hf⟩ := o_b hf
    refine V_getR C fl_X8_42 rfl rfl (by decide) eq1 dX8_stands_46 ?_
    refine V_iconst (v := (0 : Int32)) C dX8_stands_49 (by decide) ?_
    obtain ⟨g2, hf⟩ := o_if hf
    refine V_iald C (vp_k (by decide) (by decide) g2) (by decide : Int32.toNatClampNeg (0 : Int32) = 0) dX8_stands_50 ?_
    refine V_icmp_ge C 85 dX8_stands_51 (by decide) (fun c3 => ?_) (fun c3 => ?_)
    · have hf := i_t c3 hf
      refine V_aload_n C dX8_stands_85 rfl 0 rfl ?_
      obtain ⟨q4, eq4, hf⟩ := o_b hf
      refine V_getR C fl_X8_42 rfl rfl (by decide) eq4 dX8_stands_86 ?_
      refine V_iconst (v := (3 : Int32)) C dX8_stands_89 (by decide) ?_
      refine V_aload_n C dX8_stands_90 rfl 0 rfl ?_
      obtain ⟨q5, eq5, hf⟩ := o_b hf
      refine V_getR C fl_X8_45 rfl rfl (by decide) eq5 dX8_stands_91 ?_
      refine V_iconst (v := (3 : Int32)) C dX8_stands_94 (by decide) ?_
      obtain ⟨g6, hf⟩ := o_if hf
      refine V_iald C (vp_k (by decide) (by decide) g6) (by decide : Int32.toNatClampNeg (3 : Int32) = 3) dX8_stands_95 ?_
      obtain ⟨g7, hf⟩ := o_if hf
      obtain ⟨h8, eh8, hf⟩ := o_l hf
      refine V_iast C (vp_k (by decide) (by decide) g7) (by decide : Int32.toNatClampNeg (3 : Int32) = 3) dX8_stands_96 (V_eqH eh8 ?_)
      have hf := Option.some.inj hf
      subst hf
      exact V_vret C hQ dX8_stands_97
    · have hf := i_f c3 hf
      refine V_aload_n C dX8_stands_54 rfl 0 rfl ?_
      obtain ⟨q9, eq9, hf⟩ := o_b hf
      refine V_getR C fl_X8_42 rfl rfl (by decide) eq9 dX8_stands_55 ?_
      refine V_bipush (v := (9 : Int32)) C dX8_stands_58 (by decide) ?_
      refine V_iconst (v := (2 : Int32)) C dX8_stands_60 (by decide) ?_
      refine V_iload_n C dX8_stands_61 rfl 2 rfl ?_
      refine V_imul C dX8_stands_62 ?_
      refine V_iadd C dX8_stands_63 ?_
      refine V_aload_n C dX8_stands_64 rfl 0 rfl ?_
      obtain ⟨q10, eq10, hf⟩ := o_b hf
      refine V_getR C fl_X8_48 rfl rfl (by decide) eq10 dX8_stands_65 ?_
      refine V_bipush (v := (14 : Int32)) C dX8_stands_68 (by decide) ?_
      refine V_iload_n C dX8_stands_70 rfl 1 rfl ?_
      refine V_imul C dX8_stands_71 ?_
      refine V_bipush (v := (6 : Int32)) C dX8_stands_72 (by decide) ?_
      refine V_iadd C dX8_stands_74 ?_
      refine V_iload_n C dX8_stands_75 rfl 2 rfl ?_
      refine V_iadd C dX8_stands_76 ?_
      obtain ⟨g11, hf⟩ := o_if hf
      refine V_iald C (vp_g g11) rfl dX8_stands_77 ?_
      obtain ⟨y12, ey12, hf⟩ := o_l hf
      refine V_eqI ey12 ?_
      obtain ⟨g13, hf⟩ := o_if hf
      obtain ⟨h14, eh14, hf⟩ := o_l hf
      refine V_iast C (vp_g g13) rfl dX8_stands_78 (V_eqH eh14 ?_)
      refine V_iinc (lv' := [(2, vI (v2 + (1 : Int32))), (0, vR 8 (some v0)), (1, vI v1)]) C dX8_stands_79 2 rfl (congrArg (v2 + ·) (by decide : Int32.ofInt (1) = (1 : Int32))) (by decide) rfl ?_
      refine V_goto C 44 dX8_stands_82 (by decide) ?_
      refine V_sub (lv' := [(0, vR 8 (some v0)), (1, vI v1), (2, vI (v2 + (1 : Int32)))]) [1, 2, 0] rfl ?_
      exact ih _ _ _ _ hf
def f_X8_stands_2 (N : Nat) : Nat → Hp → Nat → Int32 → Int32 → Option (Hp)
  | 0, _, _, _, _ => none
  | n + 1, h, v0, v1, v2 => Option.bind (hP h v0 26) (fun q15 => if 1 < hL h q15 then (if (hI h q15 (1)) ≤ v2 then (f_X8_stands_44 N N h v0 v1 (0 : Int32)) else (Option.bind (hP h v0 26) (fun q18 => Option.bind (hP h v0 28) (fun q19 => if 0 ≤ ((14 : Int32) * v1) + v2 ∧ (((14 : Int32) * v1) + v2).toNatClampNeg < hL h q19 then (lt (hI h q19 ((((14 : Int32) * v1) + v2).toNatClampNeg)) (fun y21 => if 0 ≤ ((25 : Int32) + ((5 : Int32) * v2)) + (4 : Int32) ∧ (((25 : Int32) + ((5 : Int32) * v2)) + (4 : Int32)).toNatClampNeg < hL h q18 then (lt (sI h q18 ((((25 : Int32) + ((5 : Int32) * v2)) + (4 : Int32)).toNatClampNeg) y21) (fun h23 => f_X8_stands_2 N n h23 v0 v1 (v2 + (1 : Int32)))) else none)) else none)))) else none)
set_option maxHeartbeats 4000000 in
set_option maxRecDepth 100000 in
theorem p_X8_stands_2 {X : XT} {h' : Hp} (C : CX X cX8_stands "WaterStairModel" 3 none rmX8_stands) (hQ : QX X none h' rmX8_stands.cells rmX8_stands.slots) {N : Nat}  : ∀ (n : Nat) (h : Hp) (v0 : Nat) (v1 : Int32) (v2 : Int32), f_X8_stands_2 N n h v0 v1 v2 = some h' → V X 0 0 h 2 [(0, vR 8 (some v0)), (1, vI v1), (2, vI v2)] [] := by
  intro n
  induction n with
  | zero =>
    intro h v0 v1 v2 hf
    have hf : (none : Option (Hp)) = some _ := hf
    cases hf
  | succ n ih =>
    intro h v0 v1 v2 hf
    rw [f_X8_stands_2] at hf
    refine V_iload_n C dX8_stands_2 rfl 2 rfl ?_
    refine V_aload_n C dX8_stands_3 rfl 0 rfl ?_
    obtain ⟨q15, eq15, hf⟩ := o_b hf
    refine V_getR C fl_X8_42 rfl rfl (by decide) eq15 dX8_stands_4 ?_
    refine V_iconst (v := (1 : Int32)) C dX8_stands_7 (by decide) ?_
    obtain ⟨g16, hf⟩ := o_if hf
    refine V_iald C (vp_k (by decide) (by decide) g16) (by decide : Int32.toNatClampNeg (1 : Int32) = 1) dX8_stands_8 ?_
    refine V_icmp_ge C 42 dX8_stands_9 (by decide) (fun c17 => ?_) (fun c17 => ?_)
    · have hf := i_t c17 hf
      refine V_iconst (v := (0 : Int32)) C dX8_stands_42 (by decide) ?_
      refine V_istore_n (lv' := [(2, vI (0 : Int32)), (0, vR 8 (some v0)), (1, vI v1)]) C dX8_stands_43 rfl (by decide) rfl ?_
      refine V_sub (lv' := [(0, vR 8 (some v0)), (1, vI v1), (2, vI (0 : Int32))]) [1, 2, 0] rfl ?_
      exact p_X8_stands_44 C hQ N _ _ _ _ hf
    · have hf := i_f c17 hf
      refine V_aload_n C dX8_stands_12 rfl 0 rfl ?_
      obtain ⟨q18, eq18, hf⟩ := o_b hf
      refine V_getR C fl_X8_42 rfl rfl (by decide) eq18 dX8_stands_13 ?_
      refine V_bipush (v := (25 : Int32)) C dX8_stands_16 (by decide) ?_
      refine V_iconst (v := (5 : Int32)) C dX8_stands_18 (by decide) ?_
      refine V_iload_n C dX8_stands_19 rfl 2 rfl ?_
      refine V_imul C dX8_stands_20 ?_
      refine V_iadd C dX8_stands_21 ?_
      refine V_iconst (v := (4 : Int32)) C dX8_stands_22 (by decide) ?_
      refine V_iadd C dX8_stands_23 ?_
      refine V_aload_n C dX8_stands_24 rfl 0 rfl ?_
      obtain ⟨q19, eq19, hf⟩ := o_b hf
      refine V_getR C fl_X8_48 rfl rfl (by decide) eq19 dX8_stands_25 ?_
      refine V_bipush (v := (14 : Int32)) C dX8_stands_28 (by decide) ?_
      refine V_iload_n C dX8_stands_30 rfl 1 rfl ?_
      refine V_imul C dX8_stands_31 ?_
      refine V_iload_n C dX8_stands_32 rfl 2 rfl ?_
      refine V_iadd C dX8_stands_33 ?_
      obtain ⟨g20, hf⟩ := o_if hf
      refine V_iald C (vp_g g20) rfl dX8_stands_34 ?_
      obtain ⟨y21, ey21, hf⟩ := o_l hf
      refine V_eqI ey21 ?_
      obtain ⟨g22, hf⟩ := o_if hf
      obtain ⟨h23, eh23, hf⟩ := o_l hf
      refine V_iast C (vp_g g22) rfl dX8_stands_35 (V_eqH eh23 ?_)
      refine V_iinc (lv' := [(2, vI (v2 + (1 : Int32))), (0, vR 8 (some v0)), (1, vI v1)]) C dX8_stands_36 2 rfl (congrArg (v2 + ·) (by decide : Int32.ofInt (1) = (1 : Int32))) (by decide) rfl ?_
      refine V_goto C 2 dX8_stands_39 (by decide) ?_
      refine V_sub (lv' := [(0, vR 8 (some v0)), (1, vI v1), (2, vI (v2 + (1 : Int32)))]) [1, 2, 0] rfl ?_
      exact ih _ _ _ _ hf
def f_X8_stands (N : Nat) (h : Hp) (v0 : Nat) (v1 : Int32) : Option (Hp) := f_X8_stands_2 N N h v0 v1 (0 : Int32)
set_option maxHeartbeats 4000000 in
set_option maxRecDepth 100000 in
theorem p_X8_stands {X : XT} {h' : Hp} (C : CX X cX8_stands "WaterStairModel" 3 none rmX8_stands) {N : Nat} {h : Hp} {v0 : Nat} {v1 : Int32} (hQ : QX X none h' rmX8_stands.cells rmX8_stands.slots) (hf : f_X8_stands N h v0 v1 = some h') : V X 0 0 h 0 [(0, vR 8 (some v0)), (1, vI v1)] [] := by
  unfold f_X8_stands at hf
  refine V_iconst (v := (0 : Int32)) C dX8_stands_0 (by decide) ?_
  refine V_istore_n (lv' := [(2, vI (0 : Int32)), (0, vR 8 (some v0)), (1, vI v1)]) C dX8_stands_1 rfl (by decide) rfl ?_
  refine V_sub (lv' := [(0, vR 8 (some v0)), (1, vI v1), (2, vI (0 : Int32))]) [1, 2, 0] rfl ?_
  exact p_X8_stands_2 C hQ N _ _ _ _ hf
theorem ct_X8_stands {h' : Hp} {N : Nat} {h : Hp} {v0 : Nat} {v1 : Int32} (hf : f_X8_stands N h v0 v1 = some h') (l : Launch) (G : GT) : MC l G yX8_stands cX8_stands 3 none rmX8_stands h [vR 8 (some v0), vI v1] none h' := MC_of (by decide) rfl (Nat.le_of_ble_eq_true rfl) rfl (fun X C hQ hin => p_X8_stands C hQ hf)
abbrev rmX8_least : Room := { frames := 0, cells := 0, slots := 0, locals := 0 }
def f_X8_least_42 (N : Nat) (s4 : Hp → Nat → Int32 → Int32 → Option (Int32)) (h : Hp) (v0 : Nat) (v1 : Int32) (v2 : Int32) : Option (Int32) := s4 h v0 v1 (v2 + (1 : Int32))
set_option maxHeartbeats 4000000 in
set_option maxRecDepth 100000 in
theorem p_X8_least_42 {X : XT} {r : Int32} {h : Hp} (C : CX X cX8_least "WaterStairModel" 3 (some .int) rmX8_least) (hQ : QX X (some (vI r)) h rmX8_least.cells rmX8_least.slots) {N : Nat} {s4 : Hp → Nat → Int32 → Int32 → Option (Int32)} (S4 : ∀ (v0 : Nat) (v1 : Int32) (v2 : Int32), s4 h v0 v1 v2 = some r → V X 0 0 h 4 [(0, vR 8 (some v0)), (1, vI v1), (2, vI v2)] [])  {v0 : Nat} {v1 : Int32} {v2 : Int32} (hf : f_X8_least_42 N s4 h v0 v1 v2 = some r) : V X 0 0 h 42 [(0, vR 8 (some v0)), (1, vI v1), (2, vI v2)] [] := by
  unfold f_X8_least_42 at hf
  refine V_iinc (lv' := [(2, vI (v2 + (1 : Int32))), (0, vR 8 (some v0)), (1, vI v1)]) C dX8_least_42 2 rfl (congrArg (v2 + ·) (by decide : Int32.ofInt (1) = (1 : Int32))) (by decide) rfl ?_
  refine V_goto C 4 dX8_least_45 (by decide) ?_
  refine V_sub (lv' := [(0, vR 8 (some v0)), (1, vI v1), (2, vI (v2 + (1 : Int32)))]) [1, 2, 0] rfl ?_
  exact S4 _ _ _ hf
def f_X8_least_40 (N : Nat) (s4 : Hp → Nat → Int32 → Int32 → Option (Int32)) (h : Hp) (v0 : Nat) (v2 : Int32) : Option (Int32) := f_X8_least_42 N s4 h v0 v2 v2
set_option maxHeartbeats 4000000 in
set_option maxRecDepth 100000 in
theorem p_X8_least_40 {X : XT} {r : Int32} {h : Hp} (C : CX X cX8_least "WaterStairModel" 3 (some .int) rmX8_least) (hQ : QX X (some (vI r)) h rmX8_least.cells rmX8_least.slots) {N : Nat} {s4 : Hp → Nat → Int32 → Int32 → Option (Int32)} (S4 : ∀ (v0 : Nat) (v1 : Int32) (v2 : Int32), s4 h v0 v1 v2 = some r → V X 0 0 h 4 [(0, vR 8 (some v0)), (1, vI v1), (2, vI v2)] [])  {v0 : Nat} {v2 : Int32} (hf : f_X8_least_40 N s4 h v0 v2 = some r) : V X 0 0 h 40 [(0, vR 8 (some v0)), (2, vI v2)] [] := by
  unfold f_X8_least_40 at hf
  refine V_iload_n C dX8_least_40 rfl 1 rfl ?_
  refine V_istore_n (lv' := [(1, vI v2), (0, vR 8 (some v0)), (2, vI v2)]) C dX8_least_41 rfl (by decide) rfl ?_
  refine V_sub (lv' := [(0, vR 8 (some v0)), (1, vI v2), (2, vI v2)]) [1, 0, 2] rfl ?_
  exact p_X8_least_42 C hQ S4 hf
def f_X8_least_4 (N : Nat) : Nat → Hp → Nat → Int32 → Int32 → Option (Int32)
  | 0, _, _, _, _ => none
  | n + 1, h, v0, v1, v2 => if (hI h v0 36) ≤ v2 then (some v1) else (Option.bind (hP h v0 32) (fun q2 => if 0 ≤ v2 ∧ v2.toNatClampNeg < hL h q2 then (if hI h q2 (v2.toNatClampNeg) = 0 then (if v1 < 0 then (f_X8_least_40 N (f_X8_least_4 N n) h v0 v2) else (Option.bind (hP h v0 29) (fun q6 => if 0 ≤ v2 ∧ v2.toNatClampNeg < hL h q6 then (Option.bind (hP h v0 29) (fun q8 => if 0 ≤ v1 ∧ v1.toNatClampNeg < hL h q8 then (if (hI h q8 (v1.toNatClampNeg)) ≤ (hI h q6 (v2.toNatClampNeg)) then (f_X8_least_42 N (f_X8_least_4 N n) h v0 v1 v2) else (f_X8_least_40 N (f_X8_least_4 N n) h v0 v2)) else none)) else none))) else (f_X8_least_42 N (f_X8_least_4 N n) h v0 v1 v2)) else none))
set_option maxHeartbeats 4000000 in
set_option maxRecDepth 100000 in
theorem p_X8_least_4 {X : XT} {r : Int32} {h : Hp} (C : CX X cX8_least "WaterStairModel" 3 (some .int) rmX8_least) (hQ : QX X (some (vI r)) h rmX8_least.cells rmX8_least.slots) {N : Nat}  : ∀ (n : Nat) (v0 : Nat) (v1 : Int32) (v2 : Int32), f_X8_least_4 N n h v0 v1 v2 = some r → V X 0 0 h 4 [(0, vR 8 (some v0)), (1, vI v1), (2, vI v2)] [] := by
  intro n
  induction n with
  | zero =>
    intro v0 v1 v2 hf
    have hf : (none : Option (Int32)) = some _ := hf
    cases hf
  | succ n ih =>
    intro v0 v1 v2 hf
    rw [f_X8_least_4] at hf
    refine V_iload_n C dX8_least_4 rfl 2 rfl ?_
    refine V_aload_n C dX8_least_5 rfl 0 rfl ?_
    refine V_getI C fl_X8_413 rfl dX8_least_6 ?_
    refine V_icmp_ge C 48 dX8_least_9 (by decide) (fun c1 => ?_) (fun c1 => ?_)
    · have hf := i_t c1 hf
      refine V_iload_n C dX8_least_48 rfl 1 rfl ?_
      have hf := Option.some.inj hf
      subst hf
      exact V_iret C hQ dX8_least_49
    · have hf := i_f c1 hf
      refine V_aload_n C dX8_least_12 rfl 0 rfl ?_
      obtain ⟨q2, eq2, hf⟩ := o_b hf
      refine V_getR C fl_X8_60 rfl rfl (by decide) eq2 dX8_least_13 ?_
      refine V_iload_n C dX8_least_16 rfl 2 rfl ?_
      obtain ⟨g3, hf⟩ := o_if hf
      refine V_zald C (vp_g g3) rfl dX8_least_17 ?_
      refine V_if_ne C 42 dX8_least_18 (by decide) (fun c4 => ?_) (fun c4 => ?_)
      · have hf := i_f c4 hf
        refine V_sub (lv' := [(0, vR 8 (some v0)), (1, vI v1), (2, vI v2)]) [0, 1, 2] rfl ?_
        exact p_X8_least_42 C hQ ih hf
      · have hf := i_t c4 hf
        refine V_iload_n C dX8_least_21 rfl 1 rfl ?_
        refine V_if_lt C 40 dX8_least_22 (by decide) (fun c5 => ?_) (fun c5 => ?_)
        · have hf := i_t c5 hf
          refine V_sub (lv' := [(0, vR 8 (some v0)), (2, vI v2)]) [0, 2] rfl ?_
          exact p_X8_least_40 C hQ ih hf
        · have hf := i_f c5 hf
          refine V_aload_n C dX8_least_25 rfl 0 rfl ?_
          obtain ⟨q6, eq6, hf⟩ := o_b hf
          refine V_getR C fl_X8_51 rfl rfl (by decide) eq6 dX8_least_26 ?_
          refine V_iload_n C dX8_least_29 rfl 2 rfl ?_
          obtain ⟨g7, hf⟩ := o_if hf
          refine V_iald C (vp_g g7) rfl dX8_least_30 ?_
          refine V_aload_n C dX8_least_31 rfl 0 rfl ?_
          obtain ⟨q8, eq8, hf⟩ := o_b hf
          refine V_getR C fl_X8_51 rfl rfl (by decide) eq8 dX8_least_32 ?_
          refine V_iload_n C dX8_least_35 rfl 1 rfl ?_
          obtain ⟨g9, hf⟩ := o_if hf
          refine V_iald C (vp_g g9) rfl dX8_least_36 ?_
          refine V_icmp_ge C 42 dX8_least_37 (by decide) (fun c10 => ?_) (fun c10 => ?_)
          · have hf := i_t c10 hf
            refine V_sub (lv' := [(0, vR 8 (some v0)), (1, vI v1), (2, vI v2)]) [0, 1, 2] rfl ?_
            exact p_X8_least_42 C hQ ih hf
          · have hf := i_f c10 hf
            refine V_sub (lv' := [(0, vR 8 (some v0)), (2, vI v2)]) [0, 2] rfl ?_
            exact p_X8_least_40 C hQ ih hf
def f_X8_least (N : Nat) (h : Hp) (v0 : Nat) : Option (Int32) := f_X8_least_4 N N h v0 (-1 : Int32) (0 : Int32)
set_option maxHeartbeats 4000000 in
set_option maxRecDepth 100000 in
theorem p_X8_least {X : XT} {r : Int32} (C : CX X cX8_least "WaterStairModel" 3 (some .int) rmX8_least) {N : Nat} {h : Hp} {v0 : Nat} (hQ : QX X (some (vI r)) h rmX8_least.cells rmX8_least.slots) (hf : f_X8_least N h v0 = some r) : V X 0 0 h 0 [(0, vR 8 (some v0))] [] := by
  unfold f_X8_least at hf
  refine V_iconst (v := (-1 : Int32)) C dX8_least_0 (by decide) ?_
  refine V_istore_n (lv' := [(1, vI (-1 : Int32)), (0, vR 8 (some v0))]) C dX8_least_1 rfl (by decide) rfl ?_
  refine V_iconst (v := (0 : Int32)) C dX8_least_2 (by decide) ?_
  refine V_istore_n (lv' := [(2, vI (0 : Int32)), (1, vI (-1 : Int32)), (0, vR 8 (some v0))]) C dX8_least_3 rfl (by decide) rfl ?_
  refine V_sub (lv' := [(0, vR 8 (some v0)), (1, vI (-1 : Int32)), (2, vI (0 : Int32))]) [2, 1, 0] rfl ?_
  exact p_X8_least_4 C hQ N _ _ _ hf
theorem ct_X8_least {r : Int32} {N : Nat} {h : Hp} {v0 : Nat} (hf : f_X8_least N h v0 = some r) (l : Launch) (G : GT) : MC l G yX8_least cX8_least 3 (some .int) rmX8_least h [vR 8 (some v0)] (some (vI r)) h := MC_of (by decide) rfl (Nat.le_of_ble_eq_true rfl) rfl (fun X C hQ hin => p_X8_least C hQ hf)
abbrev rmX8_leads : Room := { frames := 4, cells := 0, slots := 0, locals := 90 }
def f_X8_leads_92 (N : Nat) (h : Hp) (v0 : Nat) (v1 : Int32) (v2 : Int32) (v6 : Int32) (v7 : Int32) (s1_ : Int32) (s0_ : Nat) : Option (Hp) := if s1_ = 0 ∨ s1_ = 1 then (lt (sI h s0_ 38 s1_) (fun h2 => if hI h2 v0 38 = 0 then (Option.bind (f_X8_comes N h2 v0 v7 v6 v1 v2) (fun h4 => some h4)) else (some h2))) else none
set_option maxHeartbeats 4000000 in
set_option maxRecDepth 100000 in
theorem p_X8_leads_92 {X : XT} {h' : Hp} (C : CX X cX8_leads "WaterStairModel" 9 none rmX8_leads) (hQ : QX X none h' rmX8_leads.cells rmX8_leads.slots) {N : Nat}  {h : Hp} {v0 : Nat} {v1 : Int32} {v2 : Int32} {v6 : Int32} {v7 : Int32} {s1_ : Int32} {s0_ : Nat} (hf : f_X8_leads_92 N h v0 v1 v2 v6 v7 s1_ s0_ = some h') : V X 0 0 h 92 [(0, vR 8 (some v0)), (1, vI v1), (2, vI v2), (6, vI v6), (7, vI v7)] [vI s1_, vR 8 (some s0_)] := by
  unfold f_X8_leads_92 at hf
  obtain ⟨g1, hf⟩ := o_if hf
  obtain ⟨h2, eh2, hf⟩ := o_l hf
  refine V_putI C nf_X8_419 rfl (okI_z g1) dX8_leads_92 (V_eqH eh2 ?_)
  refine V_aload_n C dX8_leads_95 rfl 0 rfl ?_
  refine V_getI C fl_X8_419 rfl dX8_leads_96 ?_
  refine V_if_ne C 112 dX8_leads_99 (by decide) (fun c3 => ?_) (fun c3 => ?_)
  · have hf := i_f c3 hf
    have hf := Option.some.inj hf
    subst hf
    exact V_vret C hQ dX8_leads_112
  · have hf := i_t c3 hf
    refine V_aload_n C dX8_leads_102 rfl 0 rfl ?_
    refine V_iload C dX8_leads_103 4 rfl ?_
    refine V_iload C dX8_leads_105 3 rfl ?_
    refine V_iload_n C dX8_leads_107 rfl 1 rfl ?_
    refine V_iload_n C dX8_leads_108 rfl 2 rfl ?_
    obtain ⟨h4, eh4, hf⟩ := o_b hf
    refine V_callV (as := [vI v7, vI v6, vI v1, vI v2]) (st := []) C ml_X8_422 fx8 (ct_X8_comes eh4) rfl ⟨by decide, by decide, by decide, by decide⟩ (Nat.le_of_ble_eq_true rfl) rfl dX8_leads_109 (cs' := 0) (sl' := 0) rfl rfl ?_
    have hf := Option.some.inj hf
    subst hf
    exact V_vret C hQ dX8_leads_112
def f_X8_leads_43 (N : Nat) (h : Hp) (v0 : Nat) (v1 : Int32) (v2 : Int32) (v4 : Int32) (v5 : Int32) (s1_ : Int32) (s0_ : Int32) : Option (Hp) := Option.bind (f_X8_stepBy h v0 v2) (fun r5 => b2 (f_X8_does h v0 r5 v4 v5) (fun r6 h7 => Option.bind (f_X8_slotNow N h7 v0) (fun r8 => Option.bind (hP h7 v0 35) (fun q9 => if 0 ≤ r8 ∧ r8.toNatClampNeg < hL h7 q9 then (if hI h7 q9 (r8.toNatClampNeg) = 0 then (if (hI h7 v0 36) = (1500 : Int32) then (f_X8_leads_92 N h7 v0 v1 v2 (s0_ + s1_) r8 (1 : Int32) v0) else (f_X8_leads_92 N h7 v0 v1 v2 (s0_ + s1_) r8 (0 : Int32) v0)) else (Option.bind (hP h7 v0 35) (fun q12 => if 0 ≤ r8 ∧ r8.toNatClampNeg < hL h7 q12 then (lt ((hI h7 q12 (r8.toNatClampNeg)) - (1 : Int32)) (fun y14 => Option.bind (hP h7 v0 32) (fun q15 => if 0 ≤ y14 ∧ y14.toNatClampNeg < hL h7 q15 then (if hI h7 q15 (y14.toNatClampNeg) = 0 then (Option.bind (hP h7 v0 29) (fun q18 => if 0 ≤ y14 ∧ y14.toNatClampNeg < hL h7 q18 then (if (s0_ + s1_) < (hI h7 q18 (y14.toNatClampNeg)) then (Option.bind (hP h7 v0 29) (fun q21 => if 0 ≤ y14 ∧ y14.toNatClampNeg < hL h7 q21 then (lt (sI h7 q21 (y14.toNatClampNeg) (s0_ + s1_)) (fun h23 => Option.bind (hP h23 v0 30) (fun q24 => if 0 ≤ y14 ∧ y14.toNatClampNeg < hL h23 q24 then (lt (sI h23 q24 (y14.toNatClampNeg) v1) (fun h26 => Option.bind (hP h26 v0 31) (fun q27 => if 0 ≤ y14 ∧ y14.toNatClampNeg < hL h26 q27 then (lt (sI h26 q27 (y14.toNatClampNeg) v2) (fun h29 => some h29)) else none))) else none))) else none)) else (some h7)) else none)) else (some h7)) else none))) else none))) else none))))
set_option maxHeartbeats 4000000 in
set_option maxRecDepth 100000 in
theorem p_X8_leads_43 {X : XT} {h' : Hp} (C : CX X cX8_leads "WaterStairModel" 9 none rmX8_leads) (hQ : QX X none h' rmX8_leads.cells rmX8_leads.slots) {N : Nat}  {h : Hp} {v0 : Nat} {v1 : Int32} {v2 : Int32} {v4 : Int32} {v5 : Int32} {s1_ : Int32} {s0_ : Int32} (hf : f_X8_leads_43 N h v0 v1 v2 v4 v5 s1_ s0_ = some h') : V X 0 0 h 43 [(0, vR 8 (some v0)), (1, vI v1), (2, vI v2), (4, vI v4), (5, vI v5)] [vI s1_, vI s0_] := by
  unfold f_X8_leads_43 at hf
  refine V_iadd C dX8_leads_43 ?_
  refine V_istore (lv' := [(6, vI (s0_ + s1_)), (0, vR 8 (some v0)), (1, vI v1), (2, vI v2), (4, vI v4), (5, vI v5)]) C dX8_leads_44 (by decide) rfl ?_
  refine V_aload_n C dX8_leads_46 rfl 1 rfl ?_
  refine V_aload_n C dX8_leads_47 rfl 1 rfl ?_
  refine V_iload_n C dX8_leads_48 rfl 3 rfl ?_
  obtain ⟨r5, er5, hf⟩ := o_b hf
  refine V_callV (as := [vI v2]) (st := [vR 8 (some v0)]) C ml_X8_377 fx8 (ct_X8_stepBy er5) rfl ⟨by decide, by decide, by decide, by decide⟩ (Nat.le_of_ble_eq_true rfl) rfl dX8_leads_49 (cs' := 0) (sl' := 0) rfl rfl ?_
  refine V_iload C dX8_leads_52 4 rfl ?_
  refine V_iload C dX8_leads_54 5 rfl ?_
  obtain ⟨r6, h7, er6, hf⟩ := o_b2 hf
  refine V_callV (as := [vI r5, vI v4, vI v5]) (st := []) C ml_X8_366 fx8 (ct_X8_does er6) rfl ⟨by decide, by decide, by decide, by decide⟩ (Nat.le_of_ble_eq_true rfl) rfl dX8_leads_56 (cs' := 0) (sl' := 0) rfl rfl ?_
  refine V_pop C dX8_leads_59 rfl ?_
  refine V_aload_n C dX8_leads_60 rfl 1 rfl ?_
  obtain ⟨r8, er8, hf⟩ := o_b hf
  refine V_callV (as := []) (st := []) C ml_X8_416 fx8 (ct_X8_slotNow er8) rfl ⟨by decide, by decide, by decide, by decide⟩ (Nat.le_of_ble_eq_true rfl) rfl dX8_leads_61 (cs' := 0) (sl' := 0) rfl rfl ?_
  refine V_istore (lv' := [(7, vI r8), (6, vI (s0_ + s1_)), (0, vR 8 (some v0)), (1, vI v1), (2, vI v2), (4, vI v4), (5, vI v5)]) C dX8_leads_64 (by decide) rfl ?_
  refine V_aload_n C dX8_leads_66 rfl 2 rfl ?_
  obtain ⟨q9, eq9, hf⟩ := o_b hf
  refine V_getR C fl_X8_70 rfl rfl (by decide) eq9 dX8_leads_67 ?_
  refine V_iload C dX8_leads_70 0 rfl ?_
  obtain ⟨g10, hf⟩ := o_if hf
  refine V_iald C (vp_g g10) rfl dX8_leads_72 ?_
  refine V_if_ne C 113 dX8_leads_73 (by decide) (fun c11 => ?_) (fun c11 => ?_)
  · have hf := i_f c11 hf
    refine V_aload_n C dX8_leads_113 rfl 2 rfl ?_
    obtain ⟨q12, eq12, hf⟩ := o_b hf
    refine V_getR C fl_X8_70 rfl rfl (by decide) eq12 dX8_leads_114 ?_
    refine V_iload C dX8_leads_117 0 rfl ?_
    obtain ⟨g13, hf⟩ := o_if hf
    refine V_iald C (vp_g g13) rfl dX8_leads_119 ?_
    refine V_iconst (v := (1 : Int32)) C dX8_leads_120 (by decide) ?_
    refine V_isub C dX8_leads_121 ?_
    obtain ⟨y14, ey14, hf⟩ := o_l hf
    refine V_eqI ey14 ?_
    refine V_istore (lv' := [(8, vI y14), (7, vI r8), (6, vI (s0_ + s1_)), (0, vR 8 (some v0)), (1, vI v1), (2, vI v2), (4, vI v4), (5, vI v5)]) C dX8_leads_122 (by decide) rfl ?_
    refine V_aload_n C dX8_leads_124 rfl 3 rfl ?_
    obtain ⟨q15, eq15, hf⟩ := o_b hf
    refine V_getR C fl_X8_60 rfl rfl (by decide) eq15 dX8_leads_125 ?_
    refine V_iload C dX8_leads_128 0 rfl ?_
    obtain ⟨g16, hf⟩ := o_if hf
    refine V_zald C (vp_g g16) rfl dX8_leads_130 ?_
    refine V_if_ne C 146 dX8_leads_131 (by decide) (fun c17 => ?_) (fun c17 => ?_)
    · have hf := i_f c17 hf
      have hf := Option.some.inj hf
      subst hf
      exact V_vret C hQ dX8_leads_146
    · have hf := i_t c17 hf
      refine V_iload C dX8_leads_134 2 rfl ?_
      refine V_aload_n C dX8_leads_136 rfl 3 rfl ?_
      obtain ⟨q18, eq18, hf⟩ := o_b hf
      refine V_getR C fl_X8_51 rfl rfl (by decide) eq18 dX8_leads_137 ?_
      refine V_iload C dX8_leads_140 0 rfl ?_
      obtain ⟨g19, hf⟩ := o_if hf
      refine V_iald C (vp_g g19) rfl dX8_leads_142 ?_
      refine V_icmp_lt C 147 dX8_leads_143 (by decide) (fun c20 => ?_) (fun c20 => ?_)
      · have hf := i_t c20 hf
        refine V_aload_n C dX8_leads_147 rfl 3 rfl ?_
        obtain ⟨q21, eq21, hf⟩ := o_b hf
        refine V_getR C fl_X8_51 rfl rfl (by decide) eq21 dX8_leads_148 ?_
        refine V_iload C dX8_leads_151 0 rfl ?_
        refine V_iload C dX8_leads_153 2 rfl ?_
        obtain ⟨g22, hf⟩ := o_if hf
        obtain ⟨h23, eh23, hf⟩ := o_l hf
        refine V_iast C (vp_g g22) rfl dX8_leads_155 (V_eqH eh23 ?_)
        refine V_aload_n C dX8_leads_156 rfl 3 rfl ?_
        obtain ⟨q24, eq24, hf⟩ := o_b hf
        refine V_getR C fl_X8_54 rfl rfl (by decide) eq24 dX8_leads_157 ?_
        refine V_iload C dX8_leads_160 0 rfl ?_
        refine V_iload_n C dX8_leads_162 rfl 4 rfl ?_
        obtain ⟨g25, hf⟩ := o_if hf
        obtain ⟨h26, eh26, hf⟩ := o_l hf
        refine V_iast C (vp_g g25) rfl dX8_leads_163 (V_eqH eh26 ?_)
        refine V_aload_n C dX8_leads_164 rfl 3 rfl ?_
        obtain ⟨q27, eq27, hf⟩ := o_b hf
        refine V_getR C fl_X8_57 rfl rfl (by decide) eq27 dX8_leads_165 ?_
        refine V_iload C dX8_leads_168 0 rfl ?_
        refine V_iload_n C dX8_leads_170 rfl 5 rfl ?_
        obtain ⟨g28, hf⟩ := o_if hf
        obtain ⟨h29, eh29, hf⟩ := o_l hf
        refine V_iast C (vp_g g28) rfl dX8_leads_171 (V_eqH eh29 ?_)
        have hf := Option.some.inj hf
        subst hf
        exact V_vret C hQ dX8_leads_172
      · have hf := i_f c20 hf
        have hf := Option.some.inj hf
        subst hf
        exact V_vret C hQ dX8_leads_146
  · have hf := i_t c11 hf
    refine V_aload_n C dX8_leads_76 rfl 2 rfl ?_
    refine V_aload_n C dX8_leads_77 rfl 2 rfl ?_
    refine V_getI C fl_X8_413 rfl dX8_leads_78 ?_
    refine V_sipush (v := (1500 : Int32)) C dX8_leads_81 (by decide) ?_
    refine V_icmp_ne C 91 dX8_leads_84 (by decide) (fun c30 => ?_) (fun c30 => ?_)
    · have hf := i_f c30 hf
      refine V_iconst (v := (0 : Int32)) C dX8_leads_91 (by decide) ?_
      refine V_sub (lv' := [(0, vR 8 (some v0)), (1, vI v1), (2, vI v2), (6, vI (s0_ + s1_)), (7, vI r8)]) [2, 3, 4, 1, 0] rfl ?_
      exact p_X8_leads_92 C hQ hf
    · have hf := i_t c30 hf
      refine V_iconst (v := (1 : Int32)) C dX8_leads_87 (by decide) ?_
      refine V_goto C 92 dX8_leads_88 (by decide) ?_
      refine V_sub (lv' := [(0, vR 8 (some v0)), (1, vI v1), (2, vI v2), (6, vI (s0_ + s1_)), (7, vI r8)]) [2, 3, 4, 1, 0] rfl ?_
      exact p_X8_leads_92 C hQ hf
def f_X8_leads (N : Nat) (h : Hp) (v0 : Nat) (v1 : Int32) (v2 : Int32) (v3 : Int32) : Option (Hp) := Option.bind (f_X8_downBy h v0 v2) (fun r31 => Option.bind (f_X8_upBy h v0 v2) (fun r32 => Option.bind (hP h v0 29) (fun q33 => if 0 ≤ v1 ∧ v1.toNatClampNeg < hL h q33 then (if v3 = 0 then (Option.bind (f_X8_counted h v0 r31 r32) (fun r36 => f_X8_leads_43 N h v0 v1 v2 r31 r32 r36 (hI h q33 (v1.toNatClampNeg)))) else (Option.bind (f_X8_needOf h v0 r31 r32) (fun r37 => f_X8_leads_43 N h v0 v1 v2 r31 r32 r37 (hI h q33 (v1.toNatClampNeg))))) else none)))
set_option maxHeartbeats 4000000 in
set_option maxRecDepth 100000 in
theorem p_X8_leads {X : XT} {h' : Hp} (C : CX X cX8_leads "WaterStairModel" 9 none rmX8_leads) {N : Nat} {h : Hp} {v0 : Nat} {v1 : Int32} {v2 : Int32} {v3 : Int32} (hQ : QX X none h' rmX8_leads.cells rmX8_leads.slots) (hf : f_X8_leads N h v0 v1 v2 v3 = some h') : V X 0 0 h 0 [(0, vR 8 (some v0)), (1, vI v1), (2, vI v2), (3, vI v3)] [] := by
  unfold f_X8_leads at hf
  refine V_aload_n C dX8_leads_0 rfl 0 rfl ?_
  refine V_iload_n C dX8_leads_1 rfl 2 rfl ?_
  obtain ⟨r31, er31, hf⟩ := o_b hf
  refine V_callV (as := [vI v2]) (st := []) C ml_X8_371 fx8 (ct_X8_downBy er31) rfl ⟨by decide, by decide, by decide, by decide⟩ (Nat.le_of_ble_eq_true rfl) rfl dX8_leads_2 (cs' := 0) (sl' := 0) rfl rfl ?_
  refine V_istore (lv' := [(4, vI r31), (0, vR 8 (some v0)), (1, vI v1), (2, vI v2), (3, vI v3)]) C dX8_leads_5 (by decide) rfl ?_
  refine V_aload_n C dX8_leads_7 rfl 1 rfl ?_
  refine V_iload_n C dX8_leads_8 rfl 3 rfl ?_
  obtain ⟨r32, er32, hf⟩ := o_b hf
  refine V_callV (as := [vI v2]) (st := []) C ml_X8_374 fx8 (ct_X8_upBy er32) rfl ⟨by decide, by decide, by decide, by decide⟩ (Nat.le_of_ble_eq_true rfl) rfl dX8_leads_9 (cs' := 0) (sl' := 0) rfl rfl ?_
  refine V_istore (lv' := [(5, vI r32), (4, vI r31), (0, vR 8 (some v0)), (1, vI v1), (2, vI v2), (3, vI v3)]) C dX8_leads_12 (by decide) rfl ?_
  refine V_aload_n C dX8_leads_14 rfl 2 rfl ?_
  obtain ⟨q33, eq33, hf⟩ := o_b hf
  refine V_getR C fl_X8_51 rfl rfl (by decide) eq33 dX8_leads_15 ?_
  refine V_iload_n C dX8_leads_18 rfl 3 rfl ?_
  obtain ⟨g34, hf⟩ := o_if hf
  refine V_iald C (vp_g g34) rfl dX8_leads_19 ?_
  refine V_iload_n C dX8_leads_20 rfl 5 rfl ?_
  refine V_if_eq C 35 dX8_leads_21 (by decide) (fun c35 => ?_) (fun c35 => ?_)
  · have hf := i_t c35 hf
    refine V_aload_n C dX8_leads_35 rfl 2 rfl ?_
    refine V_iload C dX8_leads_36 1 rfl ?_
    refine V_iload C dX8_leads_38 0 rfl ?_
    obtain ⟨r36, er36, hf⟩ := o_b hf
    refine V_callV (as := [vI r31, vI r32]) (st := [vI (hI h q33 (v1.toNatClampNeg))]) C ml_X8_350 fx8 (ct_X8_counted er36) rfl ⟨by decide, by decide, by decide, by decide⟩ (Nat.le_of_ble_eq_true rfl) rfl dX8_leads_40 (cs' := 0) (sl' := 0) rfl rfl ?_
    refine V_sub (lv' := [(0, vR 8 (some v0)), (1, vI v1), (2, vI v2), (4, vI r31), (5, vI r32)]) [2, 3, 4, 1, 0] rfl ?_
    exact p_X8_leads_43 C hQ hf
  · have hf := i_f c35 hf
    refine V_aload_n C dX8_leads_24 rfl 2 rfl ?_
    refine V_iload C dX8_leads_25 1 rfl ?_
    refine V_iload C dX8_leads_27 0 rfl ?_
    obtain ⟨r37, er37, hf⟩ := o_b hf
    refine V_callV (as := [vI r31, vI r32]) (st := [vI (hI h q33 (v1.toNatClampNeg))]) C ml_X8_327 fx8 (ct_X8_needOf er37) rfl ⟨by decide, by decide, by decide, by decide⟩ (Nat.le_of_ble_eq_true rfl) rfl dX8_leads_29 (cs' := 0) (sl' := 0) rfl rfl ?_
    refine V_goto C 43 dX8_leads_32 (by decide) ?_
    refine V_sub (lv' := [(0, vR 8 (some v0)), (1, vI v1), (2, vI v2), (4, vI r31), (5, vI r32)]) [2, 3, 4, 1, 0] rfl ?_
    exact p_X8_leads_43 C hQ hf
theorem ct_X8_leads {h' : Hp} {N : Nat} {h : Hp} {v0 : Nat} {v1 : Int32} {v2 : Int32} {v3 : Int32} (hf : f_X8_leads N h v0 v1 v2 v3 = some h') (l : Launch) (G : GT) : MC l G yX8_leads cX8_leads 9 none rmX8_leads h [vR 8 (some v0), vI v1, vI v2, vI v3] none h' := MC_of (by decide) rfl (Nat.le_of_ble_eq_true rfl) rfl (fun X C hQ hin => p_X8_leads C hQ hf)
abbrev rmX8_goesThrough : Room := { frames := 7, cells := 0, slots := 0, locals := 158 }
def f_X8_goesThrough_150 (N : Nat) (s54 : Hp → Nat → Int32 → Int32 → Option (Hp)) (h : Hp) (v0 : Nat) (v1 : Int32) : Option (Hp) := Option.bind (f_X8_least N h v0) (fun r1 => s54 h v0 v1 r1)
set_option maxHeartbeats 4000000 in
set_option maxRecDepth 100000 in
theorem p_X8_goesThrough_150 {X : XT} {h' : Hp} (C : CX X cX8_goesThrough "WaterStairModel" 4 none rmX8_goesThrough) (hQ : QX X none h' rmX8_goesThrough.cells rmX8_goesThrough.slots) {N : Nat} {s54 : Hp → Nat → Int32 → Int32 → Option (Hp)} (S54 : ∀ (h : Hp) (v0 : Nat) (v1 : Int32) (v2 : Int32), s54 h v0 v1 v2 = some h' → V X 0 0 h 54 [(0, vR 8 (some v0)), (1, vI v1), (2, vI v2)] []) {h : Hp} {v0 : Nat} {v1 : Int32} (hf : f_X8_goesThrough_150 N s54 h v0 v1 = some h') : V X 0 0 h 150 [(0, vR 8 (some v0)), (1, vI v1)] [] := by
  unfold f_X8_goesThrough_150 at hf
  refine V_aload_n C dX8_goesThrough_150 rfl 0 rfl ?_
  obtain ⟨r1, er1, hf⟩ := o_b hf
  refine V_callV (as := []) (st := []) C ml_X8_436 fx8 (ct_X8_least er1) rfl ⟨by decide, by decide, by decide, by decide⟩ (Nat.le_of_ble_eq_true rfl) rfl dX8_goesThrough_151 (cs' := 0) (sl' := 0) rfl rfl ?_
  refine V_istore_n (lv' := [(2, vI r1), (0, vR 8 (some v0)), (1, vI v1)]) C dX8_goesThrough_154 rfl (by decide) rfl ?_
  refine V_goto C 54 dX8_goesThrough_155 (by decide) ?_
  refine V_sub (lv' := [(0, vR 8 (some v0)), (1, vI v1), (2, vI r1)]) [1, 2, 0] rfl ?_
  exact S54 _ _ _ _ hf
def f_X8_goesThrough_116 (N : Nat) (s54 : Hp → Nat → Int32 → Int32 → Option (Hp)) : Nat → Hp → Nat → Int32 → Int32 → Int32 → Option (Hp)
  | 0, _, _, _, _, _ => none
  | n + 1, h, v0, v1, v2, v3 => if v3 < 0 then (f_X8_goesThrough_150 N s54 h v0 v1) else (if hI h v0 38 = 0 then (Option.bind (f_X8_leads N h v0 v2 v3 v1) (fun h4 => Option.bind (f_X8_stands N h4 v0 v2) (fun h5 => b2 (f_X8_firstFrom N h5 v0 (v3 + (1 : Int32))) (fun r6 h7 => f_X8_goesThrough_116 N s54 n h7 v0 v1 v2 r6)))) else (f_X8_goesThrough_150 N s54 h v0 v1))
set_option maxHeartbeats 4000000 in
set_option maxRecDepth 100000 in
theorem p_X8_goesThrough_116 {X : XT} {h' : Hp} (C : CX X cX8_goesThrough "WaterStairModel" 4 none rmX8_goesThrough) (hQ : QX X none h' rmX8_goesThrough.cells rmX8_goesThrough.slots) {N : Nat} {s54 : Hp → Nat → Int32 → Int32 → Option (Hp)} (S54 : ∀ (h : Hp) (v0 : Nat) (v1 : Int32) (v2 : Int32), s54 h v0 v1 v2 = some h' → V X 0 0 h 54 [(0, vR 8 (some v0)), (1, vI v1), (2, vI v2)] []) : ∀ (n : Nat) (h : Hp) (v0 : Nat) (v1 : Int32) (v2 : Int32) (v3 : Int32), f_X8_goesThrough_116 N s54 n h v0 v1 v2 v3 = some h' → V X 0 0 h 116 [(0, vR 8 (some v0)), (1, vI v1), (2, vI v2), (3, vI v3)] [] := by
  intro n
  induction n with
  | zero =>
    intro h v0 v1 v2 v3 hf
    have hf : (none : Option (Hp)) = some _ := hf
    cases hf
  | succ n ih =>
    intro h v0 v1 v2 v3 hf
    rw [f_X8_goesThrough_116] at hf
    refine V_iload_n C dX8_goesThrough_116 rfl 3 rfl ?_
    refine V_if_lt C 150 dX8_goesThrough_117 (by decide) (fun c2 => ?_) (fun c2 => ?_)
    · have hf := i_t c2 hf
      refine V_sub (lv' := [(0, vR 8 (some v0)), (1, vI v1)]) [0, 1] rfl ?_
      exact p_X8_goesThrough_150 C hQ S54 hf
    · have hf := i_f c2 hf
      refine V_aload_n C dX8_goesThrough_120 rfl 0 rfl ?_
      refine V_getI C fl_X8_419 rfl dX8_goesThrough_121 ?_
      refine V_if_ne C 150 dX8_goesThrough_124 (by decide) (fun c3 => ?_) (fun c3 => ?_)
      · have hf := i_f c3 hf
        refine V_sub (lv' := [(0, vR 8 (some v0)), (1, vI v1)]) [0, 1] rfl ?_
        exact p_X8_goesThrough_150 C hQ S54 hf
      · have hf := i_t c3 hf
        refine V_aload_n C dX8_goesThrough_127 rfl 0 rfl ?_
        refine V_iload_n C dX8_goesThrough_128 rfl 2 rfl ?_
        refine V_iload_n C dX8_goesThrough_129 rfl 3 rfl ?_
        refine V_iload_n C dX8_goesThrough_130 rfl 1 rfl ?_
        obtain ⟨h4, eh4, hf⟩ := o_b hf
        refine V_callV (as := [vI v2, vI v3, vI v1]) (st := []) C ml_X8_432 fx8 (ct_X8_leads eh4) rfl ⟨by decide, by decide, by decide, by decide⟩ (Nat.le_of_ble_eq_true rfl) rfl dX8_goesThrough_131 (cs' := 0) (sl' := 0) rfl rfl ?_
        refine V_aload_n C dX8_goesThrough_134 rfl 0 rfl ?_
        refine V_iload_n C dX8_goesThrough_135 rfl 2 rfl ?_
        obtain ⟨h5, eh5, hf⟩ := o_b hf
        refine V_callV (as := [vI v2]) (st := []) C ml_X8_429 fx8 (ct_X8_stands eh5) rfl ⟨by decide, by decide, by decide, by decide⟩ (Nat.le_of_ble_eq_true rfl) rfl dX8_goesThrough_136 (cs' := 0) (sl' := 0) rfl rfl ?_
        refine V_aload_n C dX8_goesThrough_139 rfl 0 rfl ?_
        refine V_iload_n C dX8_goesThrough_140 rfl 3 rfl ?_
        refine V_iconst (v := (1 : Int32)) C dX8_goesThrough_141 (by decide) ?_
        refine V_iadd C dX8_goesThrough_142 ?_
        obtain ⟨r6, h7, er6, hf⟩ := o_b2 hf
        refine V_callV (as := [vI (v3 + (1 : Int32))]) (st := []) C ml_X8_386 fx8 (ct_X8_firstFrom er6) rfl ⟨by decide, by decide, by decide, by decide⟩ (Nat.le_of_ble_eq_true rfl) rfl dX8_goesThrough_143 (cs' := 0) (sl' := 0) rfl rfl ?_
        refine V_istore_n (lv' := [(3, vI r6), (0, vR 8 (some v0)), (1, vI v1), (2, vI v2)]) C dX8_goesThrough_146 rfl (by decide) rfl ?_
        refine V_goto C 116 dX8_goesThrough_147 (by decide) ?_
        refine V_sub (lv' := [(0, vR 8 (some v0)), (1, vI v1), (2, vI v2), (3, vI r6)]) [1, 2, 3, 0] rfl ?_
        exact ih _ _ _ _ _ hf
def f_X8_goesThrough_158 (N : Nat) (h : Hp) (v0 : Nat) : Option (Hp) := Option.bind (f_X8_putsBack N h v0) (fun h8 => some h8)
set_option maxHeartbeats 4000000 in
set_option maxRecDepth 100000 in
theorem p_X8_goesThrough_158 {X : XT} {h' : Hp} (C : CX X cX8_goesThrough "WaterStairModel" 4 none rmX8_goesThrough) (hQ : QX X none h' rmX8_goesThrough.cells rmX8_goesThrough.slots) {N : Nat}  {h : Hp} {v0 : Nat} (hf : f_X8_goesThrough_158 N h v0 = some h') : V X 0 0 h 158 [(0, vR 8 (some v0))] [] := by
  unfold f_X8_goesThrough_158 at hf
  refine V_aload_n C dX8_goesThrough_158 rfl 0 rfl ?_
  obtain ⟨h8, eh8, hf⟩ := o_b hf
  refine V_callV (as := []) (st := []) C ml_X8_403 fx8 (ct_X8_putsBack eh8) rfl ⟨by decide, by decide, by decide, by decide⟩ (Nat.le_of_ble_eq_true rfl) rfl dX8_goesThrough_159 (cs' := 0) (sl' := 0) rfl rfl ?_
  have hf := Option.some.inj hf
  subst hf
  exact V_vret C hQ dX8_goesThrough_162
def f_X8_goesThrough_54 (N : Nat) : Nat → Hp → Nat → Int32 → Int32 → Option (Hp)
  | 0, _, _, _, _ => none
  | n + 1, h, v0, v1, v2 => if v2 < 0 then (f_X8_goesThrough_158 N h v0) else (if hI h v0 38 = 0 then (Option.bind (hP h v0 32) (fun q11 => if 0 ≤ v2 ∧ v2.toNatClampNeg < hL h q11 then (lt (sI h q11 (v2.toNatClampNeg) (1 : Int32)) (fun h13 => Option.bind (hP h13 v0 33) (fun q14 => if 0 ≤ hI h13 v0 37 ∧ (hI h13 v0 37).toNatClampNeg < hL h13 q14 then (lt (sI h13 q14 ((hI h13 v0 37).toNatClampNeg) v2) (fun h16 => Option.bind (f_X8_stands N h16 v0 v2) (fun h17 => Option.bind (hP h17 v0 34) (fun q18 => Option.bind (f_X8_homeOnes N h17 v0) (fun r19 => if 0 ≤ hI h17 v0 37 ∧ (hI h17 v0 37).toNatClampNeg < hL h17 q18 then (lt (sI h17 q18 ((hI h17 v0 37).toNatClampNeg) r19) (fun h21 => lt (sI h21 v0 37 ((hI h21 v0 37) + (1 : Int32))) (fun h22 => b2 (f_X8_firstFrom N h22 v0 (0 : Int32)) (fun r23 h24 => f_X8_goesThrough_116 N (f_X8_goesThrough_54 N n) N h24 v0 v1 v2 r23)))) else none))))) else none))) else none)) else (f_X8_goesThrough_158 N h v0))
set_option maxHeartbeats 4000000 in
set_option maxRecDepth 100000 in
theorem p_X8_goesThrough_54 {X : XT} {h' : Hp} (C : CX X cX8_goesThrough "WaterStairModel" 4 none rmX8_goesThrough) (hQ : QX X none h' rmX8_goesThrough.cells rmX8_goesThrough.slots) {N : Nat}  : ∀ (n : Nat) (h : Hp) (v0 : Nat) (v1 : Int32) (v2 : Int32), f_X8_goesThrough_54 N n h v0 v1 v2 = some h' → V X 0 0 h 54 [(0, vR 8 (some v0)), (1, vI v1), (2, vI v2)] [] := by
  intro n
  induction n with
  | zero =>
    intro h v0 v1 v2 hf
    have hf : (none : Option (Hp)) = some _ := hf
    cases hf
  | succ n ih =>
    intro h v0 v1 v2 hf
    rw [f_X8_goesThrough_54] at hf
    refine V_iload_n C dX8_goesThrough_54 rfl 2 rfl ?_
    refine V_if_lt C 158 dX8_goesThrough_55 (by decide) (fun c9 => ?_) (fun c9 => ?_)
    · have hf := i_t c9 hf
      refine V_sub (lv' := [(0, vR 8 (some v0))]) [0] rfl ?_
      exact p_X8_goesThrough_158 C hQ hf
    · have hf := i_f c9 hf
      refine V_aload_n C dX8_goesThrough_58 rfl 0 rfl ?_
      refine V_getI C fl_X8_419 rfl dX8_goesThrough_59 ?_
      refine V_if_ne C 158 dX8_goesThrough_62 (by decide) (fun c10 => ?_) (fun c10 => ?_)
      · have hf := i_f c10 hf
        refine V_sub (lv' := [(0, vR 8 (some v0))]) [0] rfl ?_
        exact p_X8_goesThrough_158 C hQ hf
      · have hf := i_t c10 hf
        refine V_aload_n C dX8_goesThrough_65 rfl 0 rfl ?_
        obtain ⟨q11, eq11, hf⟩ := o_b hf
        refine V_getR C fl_X8_60 rfl rfl (by decide) eq11 dX8_goesThrough_66 ?_
        refine V_iload_n C dX8_goesThrough_69 rfl 2 rfl ?_
        refine V_iconst (v := (1 : Int32)) C dX8_goesThrough_70 (by decide) ?_
        obtain ⟨g12, hf⟩ := o_if hf
        obtain ⟨h13, eh13, hf⟩ := o_l hf
        refine V_zast C (Or.inr rfl) (vp_g g12) rfl dX8_goesThrough_71 (V_eqH eh13 ?_)
        refine V_aload_n C dX8_goesThrough_72 rfl 0 rfl ?_
        obtain ⟨q14, eq14, hf⟩ := o_b hf
        refine V_getR C fl_X8_64 rfl rfl (by decide) eq14 dX8_goesThrough_73 ?_
        refine V_aload_n C dX8_goesThrough_76 rfl 0 rfl ?_
        refine V_getI C fl_X8_426 rfl dX8_goesThrough_77 ?_
        refine V_iload_n C dX8_goesThrough_80 rfl 2 rfl ?_
        obtain ⟨g15, hf⟩ := o_if hf
        obtain ⟨h16, eh16, hf⟩ := o_l hf
        refine V_iast C (vp_g g15) rfl dX8_goesThrough_81 (V_eqH eh16 ?_)
        refine V_aload_n C dX8_goesThrough_82 rfl 0 rfl ?_
        refine V_iload_n C dX8_goesThrough_83 rfl 2 rfl ?_
        obtain ⟨h17, eh17, hf⟩ := o_b hf
        refine V_callV (as := [vI v2]) (st := []) C ml_X8_429 fx8 (ct_X8_stands eh17) rfl ⟨by decide, by decide, by decide, by decide⟩ (Nat.le_of_ble_eq_true rfl) rfl dX8_goesThrough_84 (cs' := 0) (sl' := 0) rfl rfl ?_
        refine V_aload_n C dX8_goesThrough_87 rfl 0 rfl ?_
        obtain ⟨q18, eq18, hf⟩ := o_b hf
        refine V_getR C fl_X8_67 rfl rfl (by decide) eq18 dX8_goesThrough_88 ?_
        refine V_aload_n C dX8_goesThrough_91 rfl 0 rfl ?_
        refine V_getI C fl_X8_426 rfl dX8_goesThrough_92 ?_
        refine V_aload_n C dX8_goesThrough_95 rfl 0 rfl ?_
        obtain ⟨r19, er19, hf⟩ := o_b hf
        refine V_callV (as := []) (st := [vI (hI h17 v0 37), vR 10 (some q18)]) C ml_X8_394 fx8 (ct_X8_homeOnes er19) rfl ⟨by decide, by decide, by decide, by decide⟩ (Nat.le_of_ble_eq_true rfl) rfl dX8_goesThrough_96 (cs' := 0) (sl' := 0) rfl rfl ?_
        obtain ⟨g20, hf⟩ := o_if hf
        obtain ⟨h21, eh21, hf⟩ := o_l hf
        refine V_iast C (vp_g g20) rfl dX8_goesThrough_99 (V_eqH eh21 ?_)
        refine V_aload_n C dX8_goesThrough_100 rfl 0 rfl ?_
        refine V_dup C dX8_goesThrough_101 rfl ?_
        refine V_getI C fl_X8_426 rfl dX8_goesThrough_102 ?_
        refine V_iconst (v := (1 : Int32)) C dX8_goesThrough_105 (by decide) ?_
        refine V_iadd C dX8_goesThrough_106 ?_
        obtain ⟨h22, eh22, hf⟩ := o_l hf
        refine V_putI C nf_X8_426 rfl (okI_int _) dX8_goesThrough_107 (V_eqH eh22 ?_)
        refine V_aload_n C dX8_goesThrough_110 rfl 0 rfl ?_
        refine V_iconst (v := (0 : Int32)) C dX8_goesThrough_111 (by decide) ?_
        obtain ⟨r23, h24, er23, hf⟩ := o_b2 hf
        refine V_callV (as := [vI (0 : Int32)]) (st := []) C ml_X8_386 fx8 (ct_X8_firstFrom er23) rfl ⟨by decide, by decide, by decide, by decide⟩ (Nat.le_of_ble_eq_true rfl) rfl dX8_goesThrough_112 (cs' := 0) (sl' := 0) rfl rfl ?_
        refine V_istore_n (lv' := [(3, vI r23), (0, vR 8 (some v0)), (1, vI v1), (2, vI v2)]) C dX8_goesThrough_115 rfl (by decide) rfl ?_
        refine V_sub (lv' := [(0, vR 8 (some v0)), (1, vI v1), (2, vI v2), (3, vI r23)]) [1, 2, 3, 0] rfl ?_
        exact p_X8_goesThrough_116 C hQ ih N _ _ _ _ _ hf
def f_X8_goesThrough_2 (N : Nat) : Nat → Hp → Nat → Int32 → Int32 → Option (Hp)
  | 0, _, _, _, _ => none
  | n + 1, h, v0, v1, v2 => if (4096 : Int32) ≤ v2 then (lt (sI h v0 36 (0 : Int32)) (fun h26 => lt (sI h26 v0 37 (0 : Int32)) (fun h27 => lt (sI h27 v0 38 (0 : Int32)) (fun h28 => Option.bind (f_X8_keeps N h28 v0) (fun h29 => Option.bind (f_X8_slotNow N h29 v0) (fun r30 => Option.bind (f_X8_comes N h29 v0 r30 (0 : Int32) (-1 : Int32) (0 : Int32)) (fun h31 => f_X8_goesThrough_54 N N h31 v0 v1 (0 : Int32)))))))) else (Option.bind (hP h v0 35) (fun q32 => if 0 ≤ v2 ∧ v2.toNatClampNeg < hL h q32 then (lt (sI h q32 (v2.toNatClampNeg) (0 : Int32)) (fun h34 => f_X8_goesThrough_2 N n h34 v0 v1 (v2 + (1 : Int32)))) else none))
set_option maxHeartbeats 4000000 in
set_option maxRecDepth 100000 in
theorem p_X8_goesThrough_2 {X : XT} {h' : Hp} (C : CX X cX8_goesThrough "WaterStairModel" 4 none rmX8_goesThrough) (hQ : QX X none h' rmX8_goesThrough.cells rmX8_goesThrough.slots) {N : Nat}  : ∀ (n : Nat) (h : Hp) (v0 : Nat) (v1 : Int32) (v2 : Int32), f_X8_goesThrough_2 N n h v0 v1 v2 = some h' → V X 0 0 h 2 [(0, vR 8 (some v0)), (1, vI v1), (2, vI v2)] [] := by
  intro n
  induction n with
  | zero =>
    intro h v0 v1 v2 hf
    have hf : (none : Option (Hp)) = some _ := hf
    cases hf
  | succ n ih =>
    intro h v0 v1 v2 hf
    rw [f_X8_goesThrough_2] at hf
    refine V_iload_n C dX8_goesThrough_2 rfl 2 rfl ?_
    refine V_sipush (v := (4096 : Int32)) C dX8_goesThrough_3 (by decide) ?_
    refine V_icmp_ge C 22 dX8_goesThrough_6 (by decide) (fun c25 => ?_) (fun c25 => ?_)
    · have hf := i_t c25 hf
      refine V_aload_n C dX8_goesThrough_22 rfl 0 rfl ?_
      refine V_iconst (v := (0 : Int32)) C dX8_goesThrough_23 (by decide) ?_
      obtain ⟨h26, eh26, hf⟩ := o_l hf
      refine V_putI C nf_X8_413 rfl (okI_int _) dX8_goesThrough_24 (V_eqH eh26 ?_)
      refine V_aload_n C dX8_goesThrough_27 rfl 0 rfl ?_
      refine V_iconst (v := (0 : Int32)) C dX8_goesThrough_28 (by decide) ?_
      obtain ⟨h27, eh27, hf⟩ := o_l hf
      refine V_putI C nf_X8_426 rfl (okI_int _) dX8_goesThrough_29 (V_eqH eh27 ?_)
      refine V_aload_n C dX8_goesThrough_32 rfl 0 rfl ?_
      refine V_iconst (v := (0 : Int32)) C dX8_goesThrough_33 (by decide) ?_
      obtain ⟨h28, eh28, hf⟩ := o_l hf
      refine V_putI C nf_X8_419 rfl (okI_z (Or.inl rfl)) dX8_goesThrough_34 (V_eqH eh28 ?_)
      refine V_aload_n C dX8_goesThrough_37 rfl 0 rfl ?_
      obtain ⟨h29, eh29, hf⟩ := o_b hf
      refine V_callV (as := []) (st := []) C ml_X8_397 fx8 (ct_X8_keeps eh29) rfl ⟨by decide, by decide, by decide, by decide⟩ (Nat.le_of_ble_eq_true rfl) rfl dX8_goesThrough_38 (cs' := 0) (sl' := 0) rfl rfl ?_
      refine V_aload_n C dX8_goesThrough_41 rfl 0 rfl ?_
      refine V_aload_n C dX8_goesThrough_42 rfl 0 rfl ?_
      obtain ⟨r30, er30, hf⟩ := o_b hf
      refine V_callV (as := []) (st := [vR 8 (some v0)]) C ml_X8_416 fx8 (ct_X8_slotNow er30) rfl ⟨by decide, by decide, by decide, by decide⟩ (Nat.le_of_ble_eq_true rfl) rfl dX8_goesThrough_43 (cs' := 0) (sl' := 0) rfl rfl ?_
      refine V_iconst (v := (0 : Int32)) C dX8_goesThrough_46 (by decide) ?_
      refine V_iconst (v := (-1 : Int32)) C dX8_goesThrough_47 (by decide) ?_
      refine V_iconst (v := (0 : Int32)) C dX8_goesThrough_48 (by decide) ?_
      obtain ⟨h31, eh31, hf⟩ := o_b hf
      refine V_callV (as := [vI r30, vI (0 : Int32), vI (-1 : Int32), vI (0 : Int32)]) (st := []) C ml_X8_422 fx8 (ct_X8_comes eh31) rfl ⟨by decide, by decide, by decide, by decide⟩ (Nat.le_of_ble_eq_true rfl) rfl dX8_goesThrough_49 (cs' := 0) (sl' := 0) rfl rfl ?_
      refine V_iconst (v := (0 : Int32)) C dX8_goesThrough_52 (by decide) ?_
      refine V_istore_n (lv' := [(2, vI (0 : Int32)), (0, vR 8 (some v0)), (1, vI v1)]) C dX8_goesThrough_53 rfl (by decide) rfl ?_
      refine V_sub (lv' := [(0, vR 8 (some v0)), (1, vI v1), (2, vI (0 : Int32))]) [1, 2, 0] rfl ?_
      exact p_X8_goesThrough_54 C hQ N _ _ _ _ hf
    · have hf := i_f c25 hf
      refine V_aload_n C dX8_goesThrough_9 rfl 0 rfl ?_
      obtain ⟨q32, eq32, hf⟩ := o_b hf
      refine V_getR C fl_X8_70 rfl rfl (by decide) eq32 dX8_goesThrough_10 ?_
      refine V_iload_n C dX8_goesThrough_13 rfl 2 rfl ?_
      refine V_iconst (v := (0 : Int32)) C dX8_goesThrough_14 (by decide) ?_
      obtain ⟨g33, hf⟩ := o_if hf
      obtain ⟨h34, eh34, hf⟩ := o_l hf
      refine V_iast C (vp_g g33) rfl dX8_goesThrough_15 (V_eqH eh34 ?_)
      refine V_iinc (lv' := [(2, vI (v2 + (1 : Int32))), (0, vR 8 (some v0)), (1, vI v1)]) C dX8_goesThrough_16 2 rfl (congrArg (v2 + ·) (by decide : Int32.ofInt (1) = (1 : Int32))) (by decide) rfl ?_
      refine V_goto C 2 dX8_goesThrough_19 (by decide) ?_
      refine V_sub (lv' := [(0, vR 8 (some v0)), (1, vI v1), (2, vI (v2 + (1 : Int32)))]) [1, 2, 0] rfl ?_
      exact ih _ _ _ _ hf
def f_X8_goesThrough (N : Nat) (h : Hp) (v0 : Nat) (v1 : Int32) : Option (Hp) := f_X8_goesThrough_2 N N h v0 v1 (0 : Int32)
set_option maxHeartbeats 4000000 in
set_option maxRecDepth 100000 in
theorem p_X8_goesThrough {X : XT} {h' : Hp} (C : CX X cX8_goesThrough "WaterStairModel" 4 none rmX8_goesThrough) {N : Nat} {h : Hp} {v0 : Nat} {v1 : Int32} (hQ : QX X none h' rmX8_goesThrough.cells rmX8_goesThrough.slots) (hf : f_X8_goesThrough N h v0 v1 = some h') : V X 0 0 h 0 [(0, vR 8 (some v0)), (1, vI v1)] [] := by
  unfold f_X8_goesThrough at hf
  refine V_iconst (v := (0 : Int32)) C dX8_goesThrough_0 (by decide) ?_
  refine V_istore_n (lv' := [(2, vI (0 : Int32)), (0, vR 8 (some v0)), (1, vI v1)]) C dX8_goesThrough_1 rfl (by decide) rfl ?_
  refine V_sub (lv' := [(0, vR 8 (some v0)), (1, vI v1), (2, vI (0 : Int32))]) [1, 2, 0] rfl ?_
  exact p_X8_goesThrough_2 C hQ N _ _ _ _ hf
theorem ct_X8_goesThrough {h' : Hp} {N : Nat} {h : Hp} {v0 : Nat} {v1 : Int32} (hf : f_X8_goesThrough N h v0 v1 = some h') (l : Launch) (G : GT) : MC l G yX8_goesThrough cX8_goesThrough 4 none rmX8_goesThrough h [vR 8 (some v0), vI v1] none h' := MC_of (by decide) rfl (Nat.le_of_ble_eq_true rfl) rfl (fun X C hQ hin => p_X8_goesThrough C hQ hf)
abbrev rmX8_endOf : Room := { frames := 0, cells := 0, slots := 0, locals := 0 }
def f_X8_endOf_2 (N : Nat) : Nat → Hp → Nat → Int32 → Int32 → Option (Int32)
  | 0, _, _, _, _ => none
  | n + 1, h, v0, v1, v2 => if (hI h v0 37) ≤ v2 then (if hI h v0 38 = 0 then (some (-2 : Int32)) else (some (-3 : Int32))) else (Option.bind (hP h v0 34) (fun q3 => if 0 ≤ v2 ∧ v2.toNatClampNeg < hL h q3 then (if ((hI h q3 (v2.toNatClampNeg)) &&& v1) = v1 then (Option.bind (hP h v0 33) (fun q6 => if 0 ≤ v2 ∧ v2.toNatClampNeg < hL h q6 then (some (hI h q6 (v2.toNatClampNeg))) else none)) else (f_X8_endOf_2 N n h v0 v1 (v2 + (1 : Int32)))) else none))
set_option maxHeartbeats 4000000 in
set_option maxRecDepth 100000 in
theorem p_X8_endOf_2 {X : XT} {r : Int32} {h : Hp} (C : CX X cX8_endOf "WaterStairModel" 3 (some .int) rmX8_endOf) (hQ : QX X (some (vI r)) h rmX8_endOf.cells rmX8_endOf.slots) {N : Nat}  : ∀ (n : Nat) (v0 : Nat) (v1 : Int32) (v2 : Int32), f_X8_endOf_2 N n h v0 v1 v2 = some r → V X 0 0 h 2 [(0, vR 8 (some v0)), (1, vI v1), (2, vI v2)] [] := by
  intro n
  induction n with
  | zero =>
    intro v0 v1 v2 hf
    have hf : (none : Option (Int32)) = some _ := hf
    cases hf
  | succ n ih =>
    intro v0 v1 v2 hf
    rw [f_X8_endOf_2] at hf
    refine V_iload_n C dX8_endOf_2 rfl 2 rfl ?_
    refine V_aload_n C dX8_endOf_3 rfl 0 rfl ?_
    refine V_getI C fl_X8_426 rfl dX8_endOf_4 ?_
    refine V_icmp_ge C 35 dX8_endOf_7 (by decide) (fun c1 => ?_) (fun c1 => ?_)
    · have hf := i_t c1 hf
      refine V_aload_n C dX8_endOf_35 rfl 0 rfl ?_
      refine V_getI C fl_X8_419 rfl dX8_endOf_36 ?_
      refine V_if_eq C 47 dX8_endOf_39 (by decide) (fun c2 => ?_) (fun c2 => ?_)
      · have hf := i_t c2 hf
        refine V_bipush (v := (-2 : Int32)) C dX8_endOf_47 (by decide) ?_
        have hf := Option.some.inj hf
        subst hf
        exact V_iret C hQ dX8_endOf_49
      · have hf := i_f c2 hf
        refine V_bipush (v := (-3 : Int32)) C dX8_endOf_42 (by decide) ?_
        refine V_goto C 49 dX8_endOf_44 (by decide) ?_
        have hf := Option.some.inj hf
        subst hf
        exact V_iret C hQ dX8_endOf_49
    · have hf := i_f c1 hf
      refine V_aload_n C dX8_endOf_10 rfl 0 rfl ?_
      obtain ⟨q3, eq3, hf⟩ := o_b hf
      refine V_getR C fl_X8_67 rfl rfl (by decide) eq3 dX8_endOf_11 ?_
      refine V_iload_n C dX8_endOf_14 rfl 2 rfl ?_
      obtain ⟨g4, hf⟩ := o_if hf
      refine V_iald C (vp_g g4) rfl dX8_endOf_15 ?_
      refine V_iload_n C dX8_endOf_16 rfl 1 rfl ?_
      refine V_iand C dX8_endOf_17 ?_
      refine V_iload_n C dX8_endOf_18 rfl 1 rfl ?_
      refine V_icmp_ne C 29 dX8_endOf_19 (by decide) (fun c5 => ?_) (fun c5 => ?_)
      · have hf := i_f c5 hf
        refine V_iinc (lv' := [(2, vI (v2 + (1 : Int32))), (0, vR 8 (some v0)), (1, vI v1)]) C dX8_endOf_29 2 rfl (congrArg (v2 + ·) (by decide : Int32.ofInt (1) = (1 : Int32))) (by decide) rfl ?_
        refine V_goto C 2 dX8_endOf_32 (by decide) ?_
        refine V_sub (lv' := [(0, vR 8 (some v0)), (1, vI v1), (2, vI (v2 + (1 : Int32)))]) [1, 2, 0] rfl ?_
        exact ih _ _ _ hf
      · have hf := i_t c5 hf
        refine V_aload_n C dX8_endOf_22 rfl 0 rfl ?_
        obtain ⟨q6, eq6, hf⟩ := o_b hf
        refine V_getR C fl_X8_64 rfl rfl (by decide) eq6 dX8_endOf_23 ?_
        refine V_iload_n C dX8_endOf_26 rfl 2 rfl ?_
        obtain ⟨g7, hf⟩ := o_if hf
        refine V_iald C (vp_g g7) rfl dX8_endOf_27 ?_
        have hf := Option.some.inj hf
        subst hf
        exact V_iret C hQ dX8_endOf_28
def f_X8_endOf (N : Nat) (h : Hp) (v0 : Nat) (v1 : Int32) : Option (Int32) := f_X8_endOf_2 N N h v0 v1 (0 : Int32)
set_option maxHeartbeats 4000000 in
set_option maxRecDepth 100000 in
theorem p_X8_endOf {X : XT} {r : Int32} (C : CX X cX8_endOf "WaterStairModel" 3 (some .int) rmX8_endOf) {N : Nat} {h : Hp} {v0 : Nat} {v1 : Int32} (hQ : QX X (some (vI r)) h rmX8_endOf.cells rmX8_endOf.slots) (hf : f_X8_endOf N h v0 v1 = some r) : V X 0 0 h 0 [(0, vR 8 (some v0)), (1, vI v1)] [] := by
  unfold f_X8_endOf at hf
  refine V_iconst (v := (0 : Int32)) C dX8_endOf_0 (by decide) ?_
  refine V_istore_n (lv' := [(2, vI (0 : Int32)), (0, vR 8 (some v0)), (1, vI v1)]) C dX8_endOf_1 rfl (by decide) rfl ?_
  refine V_sub (lv' := [(0, vR 8 (some v0)), (1, vI v1), (2, vI (0 : Int32))]) [1, 2, 0] rfl ?_
  exact p_X8_endOf_2 C hQ N _ _ _ hf
theorem ct_X8_endOf {r : Int32} {N : Nat} {h : Hp} {v0 : Nat} {v1 : Int32} (hf : f_X8_endOf N h v0 v1 = some r) (l : Launch) (G : GT) : MC l G yX8_endOf cX8_endOf 3 (some .int) rmX8_endOf h [vR 8 (some v0), vI v1] (some (vI r)) h := MC_of (by decide) rfl (Nat.le_of_ble_eq_true rfl) rfl (fun X C hQ hin => p_X8_endOf C hQ hf)
abbrev rmX8_isSet : Room := { frames := 0, cells := 0, slots := 0, locals := 0 }
def f_X8_isSet (h : Hp) (v0 : Nat) (v1 : Int32) : Option (Int32) := Option.bind (hP h v0 26) (fun q1 => if 0 < hL h q1 then (if (hI h q1 (0)) ≤ 0 then (some (0 : Int32)) else (if v1 < 0 then (some (0 : Int32)) else (Option.bind (hP h v0 26) (fun q5 => if 1 < hL h q5 then (if ((1 : Int32) <<< ((hI h q5 (1)) &&& 31)) ≤ v1 then (some (0 : Int32)) else (some (1 : Int32))) else none)))) else none)
set_option maxHeartbeats 4000000 in
set_option maxRecDepth 100000 in
theorem p_X8_isSet {X : XT} {r : Int32} (C : CX X cX8_isSet "WaterStairModel" 2 (some .boolean) rmX8_isSet) {h : Hp} {v0 : Nat} {v1 : Int32} (hQ : QX X (some (vI r)) h rmX8_isSet.cells rmX8_isSet.slots) (hf : f_X8_isSet h v0 v1 = some r) : V X 0 0 h 0 [(0, vR 8 (some v0)), (1, vI v1)] [] := by
  unfold f_X8_isSet at hf
  refine V_aload_n C dX8_isSet_0 rfl 0 rfl ?_
  obtain ⟨q1, eq1, hf⟩ := o_b hf
  refine V_getR C fl_X8_42 rfl rfl (by decide) eq1 dX8_isSet_1 ?_
  refine V_iconst (v := (0 : Int32)) C dX8_isSet_4 (by decide) ?_
  obtain ⟨g2, hf⟩ := o_if hf
  refine V_iald C (vp_k (by decide) (by decide) g2) (by decide : Int32.toNatClampNeg (0 : Int32) = 0) dX8_isSet_5 ?_
  refine V_if_le C 29 dX8_isSet_6 (by decide) (fun c3 => ?_) (fun c3 => ?_)
  · have hf := i_t c3 hf
    refine V_iconst (v := (0 : Int32)) C dX8_isSet_29 (by decide) ?_
    have hf := Option.some.inj hf
    subst hf
    exact V_zret C (by decide) hQ dX8_isSet_30
  · have hf := i_f c3 hf
    refine V_iload_n C dX8_isSet_9 rfl 1 rfl ?_
    refine V_if_lt C 29 dX8_isSet_10 (by decide) (fun c4 => ?_) (fun c4 => ?_)
    · have hf := i_t c4 hf
      refine V_iconst (v := (0 : Int32)) C dX8_isSet_29 (by decide) ?_
      have hf := Option.some.inj hf
      subst hf
      exact V_zret C (by decide) hQ dX8_isSet_30
    · have hf := i_f c4 hf
      refine V_iload_n C dX8_isSet_13 rfl 1 rfl ?_
      refine V_iconst (v := (1 : Int32)) C dX8_isSet_14 (by decide) ?_
      refine V_aload_n C dX8_isSet_15 rfl 0 rfl ?_
      obtain ⟨q5, eq5, hf⟩ := o_b hf
      refine V_getR C fl_X8_42 rfl rfl (by decide) eq5 dX8_isSet_16 ?_
      refine V_iconst (v := (1 : Int32)) C dX8_isSet_19 (by decide) ?_
      obtain ⟨g6, hf⟩ := o_if hf
      refine V_iald C (vp_k (by decide) (by decide) g6) (by decide : Int32.toNatClampNeg (1 : Int32) = 1) dX8_isSet_20 ?_
      refine V_ishl C dX8_isSet_21 ?_
      refine V_icmp_ge C 29 dX8_isSet_22 (by decide) (fun c7 => ?_) (fun c7 => ?_)
      · have hf := i_t c7 hf
        refine V_iconst (v := (0 : Int32)) C dX8_isSet_29 (by decide) ?_
        have hf := Option.some.inj hf
        subst hf
        exact V_zret C (by decide) hQ dX8_isSet_30
      · have hf := i_f c7 hf
        refine V_iconst (v := (1 : Int32)) C dX8_isSet_25 (by decide) ?_
        refine V_goto C 30 dX8_isSet_26 (by decide) ?_
        have hf := Option.some.inj hf
        subst hf
        exact V_zret C (by decide) hQ dX8_isSet_30
theorem ct_X8_isSet {r : Int32} {h : Hp} {v0 : Nat} {v1 : Int32} (hf : f_X8_isSet h v0 v1 = some r) (l : Launch) (G : GT) : MC l G yX8_isSet cX8_isSet 2 (some .boolean) rmX8_isSet h [vR 8 (some v0), vI v1] (some (vI r)) h := MC_of (by decide) rfl (Nat.le_of_ble_eq_true rfl) rfl (fun X C hQ hin => p_X8_isSet C hQ hf)
abbrev rmX8_plan : Room := { frames := 8, cells := 0, slots := 0, locals := 181 }
def f_X8_plan (N : Nat) (h : Hp) (v0 : Nat) (v1 : Int32) (v2 : Int32) : Option (Int32 × Hp) := Option.bind (f_X8_isSet h v0 v1) (fun r1 => if r1 = 0 then (some (((-1 : Int32), h))) else (Option.bind (f_X8_goesThrough N h v0 v2) (fun h3 => Option.bind (f_X8_endOf N h3 v0 v1) (fun r4 => if 0 ≤ r4 then (Option.bind (hP h3 v0 29) (fun q6 => if 0 ≤ r4 ∧ r4.toNatClampNeg < hL h3 q6 then (some ((hI h3 q6 (r4.toNatClampNeg), h3))) else none)) else (some ((r4, h3)))))))
set_option maxHeartbeats 4000000 in
set_option maxRecDepth 100000 in
theorem p_X8_plan {X : XT} {r : Int32} {h' : Hp} (C : CX X cX8_plan "WaterStairModel" 4 (some .int) rmX8_plan) {N : Nat} {h : Hp} {v0 : Nat} {v1 : Int32} {v2 : Int32} (hQ : QX X (some (vI r)) h' rmX8_plan.cells rmX8_plan.slots) (hf : f_X8_plan N h v0 v1 v2 = some ((r, h'))) : V X 0 0 h 0 [(0, vR 8 (some v0)), (1, vI v1), (2, vI v2)] [] := by
  unfold f_X8_plan at hf
  refine V_aload_n C dX8_plan_0 rfl 0 rfl ?_
  refine V_iload_n C dX8_plan_1 rfl 1 rfl ?_
  obtain ⟨r1, er1, hf⟩ := o_b hf
  refine V_callV (as := [vI v1]) (st := []) C ml_X8_439 fx8 (ct_X8_isSet er1) rfl ⟨by decide, by decide, by decide, by decide⟩ (Nat.le_of_ble_eq_true rfl) rfl dX8_plan_2 (cs' := 0) (sl' := 0) rfl rfl ?_
  refine V_if_ne C 10 dX8_plan_5 (by decide) (fun c2 => ?_) (fun c2 => ?_)
  · have hf := i_f c2 hf
    refine V_aload_n C dX8_plan_10 rfl 0 rfl ?_
    refine V_iload_n C dX8_plan_11 rfl 2 rfl ?_
    obtain ⟨h3, eh3, hf⟩ := o_b hf
    refine V_callV (as := [vI v2]) (st := []) C ml_X8_442 fx8 (ct_X8_goesThrough eh3) rfl ⟨by decide, by decide, by decide, by decide⟩ (Nat.le_of_ble_eq_true rfl) rfl dX8_plan_12 (cs' := 0) (sl' := 0) rfl rfl ?_
    refine V_aload_n C dX8_plan_15 rfl 0 rfl ?_
    refine V_iload_n C dX8_plan_16 rfl 1 rfl ?_
    obtain ⟨r4, er4, hf⟩ := o_b hf
    refine V_callV (as := [vI v1]) (st := []) C ml_X8_446 fx8 (ct_X8_endOf er4) rfl ⟨by decide, by decide, by decide, by decide⟩ (Nat.le_of_ble_eq_true rfl) rfl dX8_plan_17 (cs' := 0) (sl' := 0) rfl rfl ?_
    refine V_istore_n (lv' := [(3, vI r4), (0, vR 8 (some v0)), (1, vI v1), (2, vI v2)]) C dX8_plan_20 rfl (by decide) rfl ?_
    refine V_iload_n C dX8_plan_21 rfl 0 rfl ?_
    refine V_if_ge C 29 dX8_plan_22 (by decide) (fun c5 => ?_) (fun c5 => ?_)
    · have hf := i_t c5 hf
      refine V_aload_n C dX8_plan_29 rfl 1 rfl ?_
      obtain ⟨q6, eq6, hf⟩ := o_b hf
      refine V_getR C fl_X8_51 rfl rfl (by decide) eq6 dX8_plan_30 ?_
      refine V_iload_n C dX8_plan_33 rfl 0 rfl ?_
      obtain ⟨g7, hf⟩ := o_if hf
      refine V_iald C (vp_g g7) rfl dX8_plan_34 ?_
      obtain ⟨hf1, hf2⟩ := Prod.mk.inj (Option.some.inj hf)
      subst hf1
      subst hf2
      exact V_iret C hQ dX8_plan_35
    · have hf := i_f c5 hf
      refine V_iload_n C dX8_plan_25 rfl 0 rfl ?_
      refine V_goto C 35 dX8_plan_26 (by decide) ?_
      obtain ⟨hf1, hf2⟩ := Prod.mk.inj (Option.some.inj hf)
      subst hf1
      subst hf2
      exact V_iret C hQ dX8_plan_35
  · have hf := i_t c2 hf
    refine V_iconst (v := (-1 : Int32)) C dX8_plan_8 (by decide) ?_
    obtain ⟨hf1, hf2⟩ := Prod.mk.inj (Option.some.inj hf)
    subst hf1
    subst hf2
    exact V_iret C hQ dX8_plan_9
theorem ct_X8_plan {r : Int32} {h' : Hp} {N : Nat} {h : Hp} {v0 : Nat} {v1 : Int32} {v2 : Int32} (hf : f_X8_plan N h v0 v1 v2 = some ((r, h'))) (l : Launch) (G : GT) : MC l G yX8_plan cX8_plan 4 (some .int) rmX8_plan h [vR 8 (some v0), vI v1, vI v2] (some (vI r)) h' := MC_of (by decide) rfl (Nat.le_of_ble_eq_true rfl) rfl (fun X C hQ hin => p_X8_plan C hQ hf)
abbrev rmX8_row : Room := { frames := 8, cells := 0, slots := 0, locals := 181 }
def f_X8_row_94 (N : Nat) : Nat → Hp → Nat → Int32 → Int32 → Int32 → Int32 → Option (Int32 × Hp)
  | 0, _, _, _, _, _, _ => none
  | n + 1, h, v0, v3, v4, v5, v7 => if v7 ≤ v3 then (if v4 = 0 then (Option.bind (hP h v0 31) (fun q10 => if 0 ≤ v5 ∧ v5.toNatClampNeg < hL h q10 then (Option.bind (f_X8_stepBy h v0 (hI h q10 (v5.toNatClampNeg))) (fun r12 => some ((r12, h)))) else none)) else (if v4 = (1 : Int32) then (Option.bind (hP h v0 31) (fun q7 => if 0 ≤ v5 ∧ v5.toNatClampNeg < hL h q7 then (Option.bind (f_X8_downBy h v0 (hI h q7 (v5.toNatClampNeg))) (fun r9 => some ((r9, h)))) else none)) else (Option.bind (hP h v0 31) (fun q4 => if 0 ≤ v5 ∧ v5.toNatClampNeg < hL h q4 then (Option.bind (f_X8_upBy h v0 (hI h q4 (v5.toNatClampNeg))) (fun r6 => some ((r6, h)))) else none)))) else (Option.bind (hP h v0 30) (fun q13 => if 0 ≤ v5 ∧ v5.toNatClampNeg < hL h q13 then (lt (hI h q13 (v5.toNatClampNeg)) (fun y15 => f_X8_row_94 N n h v0 v3 v4 y15 (v7 + (-1 : Int32)))) else none))
set_option maxHeartbeats 4000000 in
set_option maxRecDepth 100000 in
theorem p_X8_row_94 {X : XT} {r : Int32} {h' : Hp} (C : CX X cX8_row "WaterStairModel" 8 (some .int) rmX8_row) (hQ : QX X (some (vI r)) h' rmX8_row.cells rmX8_row.slots) {N : Nat}  : ∀ (n : Nat) (h : Hp) (v0 : Nat) (v3 : Int32) (v4 : Int32) (v5 : Int32) (v7 : Int32), f_X8_row_94 N n h v0 v3 v4 v5 v7 = some ((r, h')) → V X 0 0 h 94 [(0, vR 8 (some v0)), (3, vI v3), (4, vI v4), (5, vI v5), (7, vI v7)] [] := by
  intro n
  induction n with
  | zero =>
    intro h v0 v3 v4 v5 v7 hf
    have hf : (none : Option (Int32 × Hp)) = some _ := hf
    cases hf
  | succ n ih =>
    intro h v0 v3 v4 v5 v7 hf
    rw [f_X8_row_94] at hf
    refine V_iload C dX8_row_94 4 rfl ?_
    refine V_iload_n C dX8_row_96 rfl 1 rfl ?_
    refine V_icmp_le C 115 dX8_row_97 (by decide) (fun c1 => ?_) (fun c1 => ?_)
    · have hf := i_t c1 hf
      refine V_iload C dX8_row_115 2 rfl ?_
      refine V_if_ne C 134 dX8_row_117 (by decide) (fun c2 => ?_) (fun c2 => ?_)
      · have hf := i_f c2 hf
        refine V_iload C dX8_row_134 2 rfl ?_
        refine V_iconst (v := (1 : Int32)) C dX8_row_136 (by decide) ?_
        refine V_icmp_ne C 154 dX8_row_137 (by decide) (fun c3 => ?_) (fun c3 => ?_)
        · have hf := i_f c3 hf
          refine V_aload_n C dX8_row_154 rfl 0 rfl ?_
          refine V_aload_n C dX8_row_155 rfl 0 rfl ?_
          obtain ⟨q4, eq4, hf⟩ := o_b hf
          refine V_getR C fl_X8_57 rfl rfl (by decide) eq4 dX8_row_156 ?_
          refine V_iload C dX8_row_159 3 rfl ?_
          obtain ⟨g5, hf⟩ := o_if hf
          refine V_iald C (vp_g g5) rfl dX8_row_161 ?_
          obtain ⟨r6, er6, hf⟩ := o_b hf
          refine V_callV (as := [vI (hI h q4 (v5.toNatClampNeg))]) (st := []) C ml_X8_374 fx8 (ct_X8_upBy er6) rfl ⟨by decide, by decide, by decide, by decide⟩ (Nat.le_of_ble_eq_true rfl) rfl dX8_row_162 (cs' := 0) (sl' := 0) rfl rfl ?_
          obtain ⟨hf1, hf2⟩ := Prod.mk.inj (Option.some.inj hf)
          subst hf1
          subst hf2
          exact V_iret C hQ dX8_row_165
        · have hf := i_t c3 hf
          refine V_aload_n C dX8_row_140 rfl 0 rfl ?_
          refine V_aload_n C dX8_row_141 rfl 0 rfl ?_
          obtain ⟨q7, eq7, hf⟩ := o_b hf
          refine V_getR C fl_X8_57 rfl rfl (by decide) eq7 dX8_row_142 ?_
          refine V_iload C dX8_row_145 3 rfl ?_
          obtain ⟨g8, hf⟩ := o_if hf
          refine V_iald C (vp_g g8) rfl dX8_row_147 ?_
          obtain ⟨r9, er9, hf⟩ := o_b hf
          refine V_callV (as := [vI (hI h q7 (v5.toNatClampNeg))]) (st := []) C ml_X8_371 fx8 (ct_X8_downBy er9) rfl ⟨by decide, by decide, by decide, by decide⟩ (Nat.le_of_ble_eq_true rfl) rfl dX8_row_148 (cs' := 0) (sl' := 0) rfl rfl ?_
          refine V_goto C 165 dX8_row_151 (by decide) ?_
          obtain ⟨hf1, hf2⟩ := Prod.mk.inj (Option.some.inj hf)
          subst hf1
          subst hf2
          exact V_iret C hQ dX8_row_165
      · have hf := i_t c2 hf
        refine V_aload_n C dX8_row_120 rfl 0 rfl ?_
        refine V_aload_n C dX8_row_121 rfl 0 rfl ?_
        obtain ⟨q10, eq10, hf⟩ := o_b hf
        refine V_getR C fl_X8_57 rfl rfl (by decide) eq10 dX8_row_122 ?_
        refine V_iload C dX8_row_125 3 rfl ?_
        obtain ⟨g11, hf⟩ := o_if hf
        refine V_iald C (vp_g g11) rfl dX8_row_127 ?_
        obtain ⟨r12, er12, hf⟩ := o_b hf
        refine V_callV (as := [vI (hI h q10 (v5.toNatClampNeg))]) (st := []) C ml_X8_377 fx8 (ct_X8_stepBy er12) rfl ⟨by decide, by decide, by decide, by decide⟩ (Nat.le_of_ble_eq_true rfl) rfl dX8_row_128 (cs' := 0) (sl' := 0) rfl rfl ?_
        refine V_goto C 165 dX8_row_131 (by decide) ?_
        obtain ⟨hf1, hf2⟩ := Prod.mk.inj (Option.some.inj hf)
        subst hf1
        subst hf2
        exact V_iret C hQ dX8_row_165
    · have hf := i_f c1 hf
      refine V_aload_n C dX8_row_100 rfl 0 rfl ?_
      obtain ⟨q13, eq13, hf⟩ := o_b hf
      refine V_getR C fl_X8_54 rfl rfl (by decide) eq13 dX8_row_101 ?_
      refine V_iload C dX8_row_104 3 rfl ?_
      obtain ⟨g14, hf⟩ := o_if hf
      refine V_iald C (vp_g g14) rfl dX8_row_106 ?_
      obtain ⟨y15, ey15, hf⟩ := o_l hf
      refine V_eqI ey15 ?_
      refine V_istore (lv' := [(5, vI y15), (0, vR 8 (some v0)), (3, vI v3), (4, vI v4), (7, vI v7)]) C dX8_row_107 (by decide) rfl ?_
      refine V_iinc (lv' := [(7, vI (v7 + (-1 : Int32))), (5, vI y15), (0, vR 8 (some v0)), (3, vI v3), (4, vI v4)]) C dX8_row_109 4 rfl (congrArg (v7 + ·) (by decide : Int32.ofInt (-1) = (-1 : Int32))) (by decide) rfl ?_
      refine V_goto C 94 dX8_row_112 (by decide) ?_
      refine V_sub (lv' := [(0, vR 8 (some v0)), (3, vI v3), (4, vI v4), (5, vI y15), (7, vI (v7 + (-1 : Int32)))]) [2, 3, 4, 1, 0] rfl ?_
      exact ih _ _ _ _ _ _ hf
def f_X8_row_54 (N : Nat) : Nat → Hp → Nat → Int32 → Int32 → Int32 → Int32 → Int32 → Option (Int32 × Hp)
  | 0, _, _, _, _, _, _, _ => none
  | n + 1, h, v0, v3, v4, v5, v6, v7 => Option.bind (hP h v0 30) (fun q16 => if 0 ≤ v7 ∧ v7.toNatClampNeg < hL h q16 then (if (hI h q16 (v7.toNatClampNeg)) < 0 then (if v3 < v6 then (f_X8_row_94 N N h v0 v3 v4 v5 (v6 - (1 : Int32))) else (some (((-2 : Int32), h)))) else (Option.bind (hP h v0 30) (fun q20 => if 0 ≤ v7 ∧ v7.toNatClampNeg < hL h q20 then (lt (hI h q20 (v7.toNatClampNeg)) (fun y22 => f_X8_row_54 N n h v0 v3 v4 v5 (v6 + (1 : Int32)) y22)) else none))) else none)
set_option maxHeartbeats 4000000 in
set_option maxRecDepth 100000 in
theorem p_X8_row_54 {X : XT} {r : Int32} {h' : Hp} (C : CX X cX8_row "WaterStairModel" 8 (some .int) rmX8_row) (hQ : QX X (some (vI r)) h' rmX8_row.cells rmX8_row.slots) {N : Nat}  : ∀ (n : Nat) (h : Hp) (v0 : Nat) (v3 : Int32) (v4 : Int32) (v5 : Int32) (v6 : Int32) (v7 : Int32), f_X8_row_54 N n h v0 v3 v4 v5 v6 v7 = some ((r, h')) → V X 0 0 h 54 [(0, vR 8 (some v0)), (3, vI v3), (4, vI v4), (5, vI v5), (6, vI v6), (7, vI v7)] [] := by
  intro n
  induction n with
  | zero =>
    intro h v0 v3 v4 v5 v6 v7 hf
    have hf : (none : Option (Int32 × Hp)) = some _ := hf
    cases hf
  | succ n ih =>
    intro h v0 v3 v4 v5 v6 v7 hf
    rw [f_X8_row_54] at hf
    refine V_aload_n C dX8_row_54 rfl 0 rfl ?_
    obtain ⟨q16, eq16, hf⟩ := o_b hf
    refine V_getR C fl_X8_54 rfl rfl (by decide) eq16 dX8_row_55 ?_
    refine V_iload C dX8_row_58 5 rfl ?_
    obtain ⟨g17, hf⟩ := o_if hf
    refine V_iald C (vp_g g17) rfl dX8_row_60 ?_
    refine V_if_lt C 79 dX8_row_61 (by decide) (fun c18 => ?_) (fun c18 => ?_)
    · have hf := i_t c18 hf
      refine V_iload_n C dX8_row_79 rfl 1 rfl ?_
      refine V_iload C dX8_row_80 4 rfl ?_
      refine V_icmp_lt C 88 dX8_row_82 (by decide) (fun c19 => ?_) (fun c19 => ?_)
      · have hf := i_t c19 hf
        refine V_iload C dX8_row_88 4 rfl ?_
        refine V_iconst (v := (1 : Int32)) C dX8_row_90 (by decide) ?_
        refine V_isub C dX8_row_91 ?_
        refine V_istore (lv' := [(7, vI (v6 - (1 : Int32))), (0, vR 8 (some v0)), (3, vI v3), (4, vI v4), (5, vI v5), (6, vI v6)]) C dX8_row_92 (by decide) rfl ?_
        refine V_sub (lv' := [(0, vR 8 (some v0)), (3, vI v3), (4, vI v4), (5, vI v5), (7, vI (v6 - (1 : Int32)))]) [1, 2, 3, 4, 0] rfl ?_
        exact p_X8_row_94 C hQ N _ _ _ _ _ _ hf
      · have hf := i_f c19 hf
        refine V_bipush (v := (-2 : Int32)) C dX8_row_85 (by decide) ?_
        obtain ⟨hf1, hf2⟩ := Prod.mk.inj (Option.some.inj hf)
        subst hf1
        subst hf2
        exact V_iret C hQ dX8_row_87
    · have hf := i_f c18 hf
      refine V_iinc (lv' := [(6, vI (v6 + (1 : Int32))), (0, vR 8 (some v0)), (3, vI v3), (4, vI v4), (5, vI v5), (7, vI v7)]) C dX8_row_64 4 rfl (congrArg (v6 + ·) (by decide : Int32.ofInt (1) = (1 : Int32))) (by decide) rfl ?_
      refine V_aload_n C dX8_row_67 rfl 1 rfl ?_
      obtain ⟨q20, eq20, hf⟩ := o_b hf
      refine V_getR C fl_X8_54 rfl rfl (by decide) eq20 dX8_row_68 ?_
      refine V_iload C dX8_row_71 5 rfl ?_
      obtain ⟨g21, hf⟩ := o_if hf
      refine V_iald C (vp_g g21) rfl dX8_row_73 ?_
      obtain ⟨y22, ey22, hf⟩ := o_l hf
      refine V_eqI ey22 ?_
      refine V_istore (lv' := [(7, vI y22), (6, vI (v6 + (1 : Int32))), (0, vR 8 (some v0)), (3, vI v3), (4, vI v4), (5, vI v5)]) C dX8_row_74 (by decide) rfl ?_
      refine V_goto C 54 dX8_row_76 (by decide) ?_
      refine V_sub (lv' := [(0, vR 8 (some v0)), (3, vI v3), (4, vI v4), (5, vI v5), (6, vI (v6 + (1 : Int32))), (7, vI y22)]) [2, 3, 4, 5, 1, 0] rfl ?_
      exact ih _ _ _ _ _ _ _ hf
def f_X8_row (N : Nat) (h : Hp) (v0 : Nat) (v1 : Int32) (v2 : Int32) (v3 : Int32) (v4 : Int32) : Option (Int32 × Hp) := Option.bind (f_X8_isSet h v0 v1) (fun r23 => if r23 = 0 then (some (((-1 : Int32), h))) else (if v3 < 0 then (some (((-1 : Int32), h))) else (Option.bind (f_X8_in h (v4.toInt64) (0 : Int64) (2 : Int64)) (fun r26 => if r26 = 0 then (some (((-1 : Int32), h))) else (Option.bind (f_X8_goesThrough N h v0 v2) (fun h28 => Option.bind (f_X8_endOf N h28 v0 v1) (fun r29 => if 0 ≤ r29 then (f_X8_row_54 N N h28 v0 v3 v4 r29 (0 : Int32) r29) else (some ((r29, h28))))))))))
set_option maxHeartbeats 4000000 in
set_option maxRecDepth 100000 in
theorem p_X8_row {X : XT} {r : Int32} {h' : Hp} (C : CX X cX8_row "WaterStairModel" 8 (some .int) rmX8_row) {N : Nat} {h : Hp} {v0 : Nat} {v1 : Int32} {v2 : Int32} {v3 : Int32} {v4 : Int32} (hQ : QX X (some (vI r)) h' rmX8_row.cells rmX8_row.slots) (hf : f_X8_row N h v0 v1 v2 v3 v4 = some ((r, h'))) : V X 0 0 h 0 [(0, vR 8 (some v0)), (1, vI v1), (2, vI v2), (3, vI v3), (4, vI v4)] [] := by
  unfold f_X8_row at hf
  refine V_aload_n C dX8_row_0 rfl 0 rfl ?_
  refine V_iload_n C dX8_row_1 rfl 1 rfl ?_
  obtain ⟨r23, er23, hf⟩ := o_b hf
  refine V_callV (as := [vI v1]) (st := []) C ml_X8_439 fx8 (ct_X8_isSet er23) rfl ⟨by decide, by decide, by decide, by decide⟩ (Nat.le_of_ble_eq_true rfl) rfl dX8_row_2 (cs' := 0) (sl' := 0) rfl rfl ?_
  refine V_if_eq C 25 dX8_row_5 (by decide) (fun c24 => ?_) (fun c24 => ?_)
  · have hf := i_t c24 hf
    refine V_iconst (v := (-1 : Int32)) C dX8_row_25 (by decide) ?_
    obtain ⟨hf1, hf2⟩ := Prod.mk.inj (Option.some.inj hf)
    subst hf1
    subst hf2
    exact V_iret C hQ dX8_row_26
  · have hf := i_f c24 hf
    refine V_iload_n C dX8_row_8 rfl 3 rfl ?_
    refine V_if_lt C 25 dX8_row_9 (by decide) (fun c25 => ?_) (fun c25 => ?_)
    · have hf := i_t c25 hf
      refine V_iconst (v := (-1 : Int32)) C dX8_row_25 (by decide) ?_
      obtain ⟨hf1, hf2⟩ := Prod.mk.inj (Option.some.inj hf)
      subst hf1
      subst hf2
      exact V_iret C hQ dX8_row_26
    · have hf := i_f c25 hf
      refine V_iload C dX8_row_12 4 rfl ?_
      refine V_i2l C dX8_row_14 ?_
      refine V_lconst (v := (0 : Int64)) C dX8_row_15 (by decide) ?_
      refine V_ldc2 C kl_X8_449 dX8_row_16 ?_
      obtain ⟨r26, er26, hf⟩ := o_b hf
      refine V_callS (as := [vL (v4.toInt64), vL (0 : Int64), vL (2 : Int64)]) (st := []) C ml_X8_127 (ct_X8_in er26) rfl ⟨by decide, by decide, by decide, by decide⟩ (Nat.le_of_ble_eq_true rfl) rfl dX8_row_19 (cs' := 0) (sl' := 0) rfl rfl ?_
      refine V_if_ne C 27 dX8_row_22 (by decide) (fun c27 => ?_) (fun c27 => ?_)
      · have hf := i_f c27 hf
        refine V_aload_n C dX8_row_27 rfl 0 rfl ?_
        refine V_iload_n C dX8_row_28 rfl 2 rfl ?_
        obtain ⟨h28, eh28, hf⟩ := o_b hf
        refine V_callV (as := [vI v2]) (st := []) C ml_X8_442 fx8 (ct_X8_goesThrough eh28) rfl ⟨by decide, by decide, by decide, by decide⟩ (Nat.le_of_ble_eq_true rfl) rfl dX8_row_29 (cs' := 0) (sl' := 0) rfl rfl ?_
        refine V_aload_n C dX8_row_32 rfl 0 rfl ?_
        refine V_iload_n C dX8_row_33 rfl 1 rfl ?_
        obtain ⟨r29, er29, hf⟩ := o_b hf
        refine V_callV (as := [vI v1]) (st := []) C ml_X8_446 fx8 (ct_X8_endOf er29) rfl ⟨by decide, by decide, by decide, by decide⟩ (Nat.le_of_ble_eq_true rfl) rfl dX8_row_34 (cs' := 0) (sl' := 0) rfl rfl ?_
        refine V_istore (lv' := [(5, vI r29), (0, vR 8 (some v0)), (1, vI v1), (2, vI v2), (3, vI v3), (4, vI v4)]) C dX8_row_37 (by decide) rfl ?_
        refine V_iload C dX8_row_39 0 rfl ?_
        refine V_if_ge C 47 dX8_row_41 (by decide) (fun c30 => ?_) (fun c30 => ?_)
        · have hf := i_t c30 hf
          refine V_iconst (v := (0 : Int32)) C dX8_row_47 (by decide) ?_
          refine V_istore (lv' := [(6, vI (0 : Int32)), (5, vI r29), (0, vR 8 (some v0)), (1, vI v1), (2, vI v2), (3, vI v3), (4, vI v4)]) C dX8_row_48 (by decide) rfl ?_
          refine V_iload C dX8_row_50 1 rfl ?_
          refine V_istore (lv' := [(7, vI r29), (6, vI (0 : Int32)), (5, vI r29), (0, vR 8 (some v0)), (1, vI v1), (2, vI v2), (3, vI v3), (4, vI v4)]) C dX8_row_52 (by decide) rfl ?_
          refine V_sub (lv' := [(0, vR 8 (some v0)), (3, vI v3), (4, vI v4), (5, vI r29), (6, vI (0 : Int32)), (7, vI r29)]) [3, 6, 7, 2, 1, 0] rfl ?_
          exact p_X8_row_54 C hQ N _ _ _ _ _ _ _ hf
        · have hf := i_f c30 hf
          refine V_iload C dX8_row_44 0 rfl ?_
          obtain ⟨hf1, hf2⟩ := Prod.mk.inj (Option.some.inj hf)
          subst hf1
          subst hf2
          exact V_iret C hQ dX8_row_46
      · have hf := i_t c27 hf
        refine V_iconst (v := (-1 : Int32)) C dX8_row_25 (by decide) ?_
        obtain ⟨hf1, hf2⟩ := Prod.mk.inj (Option.some.inj hf)
        subst hf1
        subst hf2
        exact V_iret C hQ dX8_row_26
theorem ct_X8_row {r : Int32} {h' : Hp} {N : Nat} {h : Hp} {v0 : Nat} {v1 : Int32} {v2 : Int32} {v3 : Int32} {v4 : Int32} (hf : f_X8_row N h v0 v1 v2 v3 v4 = some ((r, h'))) (l : Launch) (G : GT) : MC l G yX8_row cX8_row 8 (some .int) rmX8_row h [vR 8 (some v0), vI v1, vI v2, vI v3, vI v4] (some (vI r)) h' := MC_of (by decide) rfl (Nat.le_of_ble_eq_true rfl) rfl (fun X C hQ hin => p_X8_row C hQ hf)
abbrev rmX8_tollOf : Room := { frames := 1, cells := 0, slots := 0, locals := 22 }
def f_X8_tollOf_33 (N : Nat) (s4 : Hp → Nat → Int32 → Int32 → Int32 → Option (Int32)) (h : Hp) (v0 : Nat) (v1 : Int32) (v3 : Int32) (s1_ : Int32) (s0_ : Int32) : Option (Int32) := s4 h v0 v1 (s0_ + s1_) (v3 + (1 : Int32))
set_option maxHeartbeats 4000000 in
set_option maxRecDepth 100000 in
theorem p_X8_tollOf_33 {X : XT} {r : Int32} {h : Hp} (C : CX X cX8_tollOf "WaterStairModel" 4 (some .int) rmX8_tollOf) (hQ : QX X (some (vI r)) h rmX8_tollOf.cells rmX8_tollOf.slots) {N : Nat} {s4 : Hp → Nat → Int32 → Int32 → Int32 → Option (Int32)} (S4 : ∀ (v0 : Nat) (v1 : Int32) (v2 : Int32) (v3 : Int32), s4 h v0 v1 v2 v3 = some r → V X 0 0 h 4 [(0, vR 8 (some v0)), (1, vI v1), (2, vI v2), (3, vI v3)] [])  {v0 : Nat} {v1 : Int32} {v3 : Int32} {s1_ : Int32} {s0_ : Int32} (hf : f_X8_tollOf_33 N s4 h v0 v1 v3 s1_ s0_ = some r) : V X 0 0 h 33 [(0, vR 8 (some v0)), (1, vI v1), (3, vI v3)] [vI s1_, vI s0_] := by
  unfold f_X8_tollOf_33 at hf
  refine V_iadd C dX8_tollOf_33 ?_
  refine V_istore_n (lv' := [(2, vI (s0_ + s1_)), (0, vR 8 (some v0)), (1, vI v1), (3, vI v3)]) C dX8_tollOf_34 rfl (by decide) rfl ?_
  refine V_iinc (lv' := [(3, vI (v3 + (1 : Int32))), (2, vI (s0_ + s1_)), (0, vR 8 (some v0)), (1, vI v1)]) C dX8_tollOf_35 3 rfl (congrArg (v3 + ·) (by decide : Int32.ofInt (1) = (1 : Int32))) (by decide) rfl ?_
  refine V_goto C 4 dX8_tollOf_38 (by decide) ?_
  refine V_sub (lv' := [(0, vR 8 (some v0)), (1, vI v1), (2, vI (s0_ + s1_)), (3, vI (v3 + (1 : Int32)))]) [2, 3, 1, 0] rfl ?_
  exact S4 _ _ _ _ hf
def f_X8_tollOf_4 (N : Nat) : Nat → Hp → Nat → Int32 → Int32 → Int32 → Option (Int32)
  | 0, _, _, _, _, _ => none
  | n + 1, h, v0, v1, v2, v3 => Option.bind (hP h v0 26) (fun q1 => if 1 < hL h q1 then (if (hI h q1 (1)) ≤ v3 then (some v2) else (Option.bind (f_X8_isOf h v1 v3) (fun r4 => if r4 = 0 then (f_X8_tollOf_33 N (f_X8_tollOf_4 N n) h v0 v1 v3 (0 : Int32) v2) else (Option.bind (f_X8_bargeOf h v0 v3 (3 : Int32)) (fun r6 => f_X8_tollOf_33 N (f_X8_tollOf_4 N n) h v0 v1 v3 r6 v2))))) else none)
set_option maxHeartbeats 4000000 in
set_option maxRecDepth 100000 in
theorem p_X8_tollOf_4 {X : XT} {r : Int32} {h : Hp} (C : CX X cX8_tollOf "WaterStairModel" 4 (some .int) rmX8_tollOf) (hQ : QX X (some (vI r)) h rmX8_tollOf.cells rmX8_tollOf.slots) {N : Nat}  : ∀ (n : Nat) (v0 : Nat) (v1 : Int32) (v2 : Int32) (v3 : Int32), f_X8_tollOf_4 N n h v0 v1 v2 v3 = some r → V X 0 0 h 4 [(0, vR 8 (some v0)), (1, vI v1), (2, vI v2), (3, vI v3)] [] := by
  intro n
  induction n with
  | zero =>
    intro v0 v1 v2 v3 hf
    have hf : (none : Option (Int32)) = some _ := hf
    cases hf
  | succ n ih =>
    intro v0 v1 v2 v3 hf
    rw [f_X8_tollOf_4] at hf
    refine V_iload_n C dX8_tollOf_4 rfl 3 rfl ?_
    refine V_aload_n C dX8_tollOf_5 rfl 0 rfl ?_
    obtain ⟨q1, eq1, hf⟩ := o_b hf
    refine V_getR C fl_X8_42 rfl rfl (by decide) eq1 dX8_tollOf_6 ?_
    refine V_iconst (v := (1 : Int32)) C dX8_tollOf_9 (by decide) ?_
    obtain ⟨g2, hf⟩ := o_if hf
    refine V_iald C (vp_k (by decide) (by decide) g2) (by decide : Int32.toNatClampNeg (1 : Int32) = 1) dX8_tollOf_10 ?_
    refine V_icmp_ge C 41 dX8_tollOf_11 (by decide) (fun c3 => ?_) (fun c3 => ?_)
    · have hf := i_t c3 hf
      refine V_iload_n C dX8_tollOf_41 rfl 2 rfl ?_
      have hf := Option.some.inj hf
      subst hf
      exact V_iret C hQ dX8_tollOf_42
    · have hf := i_f c3 hf
      refine V_iload_n C dX8_tollOf_14 rfl 2 rfl ?_
      refine V_iload_n C dX8_tollOf_15 rfl 1 rfl ?_
      refine V_iload_n C dX8_tollOf_16 rfl 3 rfl ?_
      obtain ⟨r4, er4, hf⟩ := o_b hf
      refine V_callS (as := [vI v1, vI v3]) (st := [vI v2]) C ml_X8_316 (ct_X8_isOf er4) rfl ⟨by decide, by decide, by decide, by decide⟩ (Nat.le_of_ble_eq_true rfl) rfl dX8_tollOf_17 (cs' := 0) (sl' := 0) rfl rfl ?_
      refine V_if_eq C 32 dX8_tollOf_20 (by decide) (fun c5 => ?_) (fun c5 => ?_)
      · have hf := i_t c5 hf
        refine V_iconst (v := (0 : Int32)) C dX8_tollOf_32 (by decide) ?_
        refine V_sub (lv' := [(0, vR 8 (some v0)), (1, vI v1), (3, vI v3)]) [0, 1, 3] rfl ?_
        exact p_X8_tollOf_33 C hQ ih hf
      · have hf := i_f c5 hf
        refine V_aload_n C dX8_tollOf_23 rfl 0 rfl ?_
        refine V_iload_n C dX8_tollOf_24 rfl 3 rfl ?_
        refine V_iconst (v := (3 : Int32)) C dX8_tollOf_25 (by decide) ?_
        obtain ⟨r6, er6, hf⟩ := o_b hf
        refine V_callV (as := [vI v3, vI (3 : Int32)]) (st := [vI v2]) C ml_X8_295 fx8 (ct_X8_bargeOf er6) rfl ⟨by decide, by decide, by decide, by decide⟩ (Nat.le_of_ble_eq_true rfl) rfl dX8_tollOf_26 (cs' := 0) (sl' := 0) rfl rfl ?_
        refine V_goto C 33 dX8_tollOf_29 (by decide) ?_
        refine V_sub (lv' := [(0, vR 8 (some v0)), (1, vI v1), (3, vI v3)]) [0, 1, 3] rfl ?_
        exact p_X8_tollOf_33 C hQ ih hf
def f_X8_tollOf (N : Nat) (h : Hp) (v0 : Nat) (v1 : Int32) : Option (Int32) := f_X8_tollOf_4 N N h v0 v1 (0 : Int32) (0 : Int32)
set_option maxHeartbeats 4000000 in
set_option maxRecDepth 100000 in
theorem p_X8_tollOf {X : XT} {r : Int32} (C : CX X cX8_tollOf "WaterStairModel" 4 (some .int) rmX8_tollOf) {N : Nat} {h : Hp} {v0 : Nat} {v1 : Int32} (hQ : QX X (some (vI r)) h rmX8_tollOf.cells rmX8_tollOf.slots) (hf : f_X8_tollOf N h v0 v1 = some r) : V X 0 0 h 0 [(0, vR 8 (some v0)), (1, vI v1)] [] := by
  unfold f_X8_tollOf at hf
  refine V_iconst (v := (0 : Int32)) C dX8_tollOf_0 (by decide) ?_
  refine V_istore_n (lv' := [(2, vI (0 : Int32)), (0, vR 8 (some v0)), (1, vI v1)]) C dX8_tollOf_1 rfl (by decide) rfl ?_
  refine V_iconst (v := (0 : Int32)) C dX8_tollOf_2 (by decide) ?_
  refine V_istore_n (lv' := [(3, vI (0 : Int32)), (2, vI (0 : Int32)), (0, vR 8 (some v0)), (1, vI v1)]) C dX8_tollOf_3 rfl (by decide) rfl ?_
  refine V_sub (lv' := [(0, vR 8 (some v0)), (1, vI v1), (2, vI (0 : Int32)), (3, vI (0 : Int32))]) [2, 3, 1, 0] rfl ?_
  exact p_X8_tollOf_4 C hQ N _ _ _ _ hf
theorem ct_X8_tollOf {r : Int32} {N : Nat} {h : Hp} {v0 : Nat} {v1 : Int32} (hf : f_X8_tollOf N h v0 v1 = some r) (l : Launch) (G : GT) : MC l G yX8_tollOf cX8_tollOf 4 (some .int) rmX8_tollOf h [vR 8 (some v0), vI v1] (some (vI r)) h := MC_of (by decide) rfl (Nat.le_of_ble_eq_true rfl) rfl (fun X C hQ hin => p_X8_tollOf C hQ hf)
abbrev rmX8_drought : Room := { frames := 8, cells := 0, slots := 0, locals := 181 }
def f_X8_drought_138 (N : Nat) (s66 : Hp → Nat → Int32 → Int32 → Int32 → Option (Int32 × Hp)) (h : Hp) (v0 : Nat) (v2 : Int32) (v4 : Int32) (v5 : Int32) : Option (Int32 × Hp) := s66 h v0 v2 v4 (v5 + (1 : Int32))
set_option maxHeartbeats 4000000 in
set_option maxRecDepth 100000 in
theorem p_X8_drought_138 {X : XT} {r : Int32} {h' : Hp} (C : CX X cX8_drought "WaterStairModel" 6 (some .int) rmX8_drought) (hQ : QX X (some (vI r)) h' rmX8_drought.cells rmX8_drought.slots) {N : Nat} {s66 : Hp → Nat → Int32 → Int32 → Int32 → Option (Int32 × Hp)} (S66 : ∀ (h : Hp) (v0 : Nat) (v2 : Int32) (v4 : Int32) (v5 : Int32), s66 h v0 v2 v4 v5 = some ((r, h')) → V X 0 0 h 66 [(0, vR 8 (some v0)), (2, vI v2), (4, vI v4), (5, vI v5)] []) {h : Hp} {v0 : Nat} {v2 : Int32} {v4 : Int32} {v5 : Int32} (hf : f_X8_drought_138 N s66 h v0 v2 v4 v5 = some ((r, h'))) : V X 0 0 h 138 [(0, vR 8 (some v0)), (2, vI v2), (4, vI v4), (5, vI v5)] [] := by
  unfold f_X8_drought_138 at hf
  refine V_iinc (lv' := [(5, vI (v5 + (1 : Int32))), (0, vR 8 (some v0)), (2, vI v2), (4, vI v4)]) C dX8_drought_138 3 rfl (congrArg (v5 + ·) (by decide : Int32.ofInt (1) = (1 : Int32))) (by decide) rfl ?_
  refine V_goto C 66 dX8_drought_141 (by decide) ?_
  refine V_sub (lv' := [(0, vR 8 (some v0)), (2, vI v2), (4, vI v4), (5, vI (v5 + (1 : Int32)))]) [1, 2, 3, 0] rfl ?_
  exact S66 _ _ _ _ _ hf
def f_X8_drought_134 (N : Nat) (s66 : Hp → Nat → Int32 → Int32 → Int32 → Option (Int32 × Hp)) (h : Hp) (v0 : Nat) (v2 : Int32) (v5 : Int32) : Option (Int32 × Hp) := f_X8_drought_138 N s66 h v0 v2 v5 v5
set_option maxHeartbeats 4000000 in
set_option maxRecDepth 100000 in
theorem p_X8_drought_134 {X : XT} {r : Int32} {h' : Hp} (C : CX X cX8_drought "WaterStairModel" 6 (some .int) rmX8_drought) (hQ : QX X (some (vI r)) h' rmX8_drought.cells rmX8_drought.slots) {N : Nat} {s66 : Hp → Nat → Int32 → Int32 → Int32 → Option (Int32 × Hp)} (S66 : ∀ (h : Hp) (v0 : Nat) (v2 : Int32) (v4 : Int32) (v5 : Int32), s66 h v0 v2 v4 v5 = some ((r, h')) → V X 0 0 h 66 [(0, vR 8 (some v0)), (2, vI v2), (4, vI v4), (5, vI v5)] []) {h : Hp} {v0 : Nat} {v2 : Int32} {v5 : Int32} (hf : f_X8_drought_134 N s66 h v0 v2 v5 = some ((r, h'))) : V X 0 0 h 134 [(0, vR 8 (some v0)), (2, vI v2), (5, vI v5)] [] := by
  unfold f_X8_drought_134 at hf
  refine V_iload C dX8_drought_134 2 rfl ?_
  refine V_istore (lv' := [(4, vI v5), (0, vR 8 (some v0)), (2, vI v2), (5, vI v5)]) C dX8_drought_136 (by decide) rfl ?_
  refine V_sub (lv' := [(0, vR 8 (some v0)), (2, vI v2), (4, vI v5), (5, vI v5)]) [1, 2, 0, 3] rfl ?_
  exact p_X8_drought_138 C hQ S66 hf
def f_X8_drought_66 (N : Nat) : Nat → Hp → Nat → Int32 → Int32 → Int32 → Option (Int32 × Hp)
  | 0, _, _, _, _, _ => none
  | n + 1, h, v0, v2, v4, v5 => Option.bind (hP h v0 26) (fun q1 => if 1 < hL h q1 then (if ((1 : Int32) <<< ((hI h q1 (1)) &&& 31)) ≤ v5 then (if v2 = 0 then (Option.bind (f_X8_tollOf N h v0 v4) (fun r5 => some ((r5, h)))) else (some ((v4, h)))) else (Option.bind (f_X8_endOf N h v0 v5) (fun r6 => if 0 ≤ r6 then (Option.bind (f_X8_tollOf N h v0 v5) (fun r8 => Option.bind (f_X8_tollOf N h v0 v4) (fun r9 => if r9 < r8 then (f_X8_drought_134 N (f_X8_drought_66 N n) h v0 v2 v5) else (Option.bind (f_X8_tollOf N h v0 v5) (fun r11 => Option.bind (f_X8_tollOf N h v0 v4) (fun r12 => if r11 = r12 then (Option.bind (f_X8_bits N h v5) (fun r14 => Option.bind (f_X8_bits N h v4) (fun r15 => if r15 ≤ r14 then (f_X8_drought_138 N (f_X8_drought_66 N n) h v0 v2 v4 v5) else (f_X8_drought_134 N (f_X8_drought_66 N n) h v0 v2 v5)))) else (f_X8_drought_138 N (f_X8_drought_66 N n) h v0 v2 v4 v5))))))) else (f_X8_drought_138 N (f_X8_drought_66 N n) h v0 v2 v4 v5)))) else none)
set_option maxHeartbeats 4000000 in
set_option maxRecDepth 100000 in
theorem p_X8_drought_66 {X : XT} {r : Int32} {h' : Hp} (C : CX X cX8_drought "WaterStairModel" 6 (some .int) rmX8_drought) (hQ : QX X (some (vI r)) h' rmX8_drought.cells rmX8_drought.slots) {N : Nat}  : ∀ (n : Nat) (h : Hp) (v0 : Nat) (v2 : Int32) (v4 : Int32) (v5 : Int32), f_X8_drought_66 N n h v0 v2 v4 v5 = some ((r, h')) → V X 0 0 h 66 [(0, vR 8 (some v0)), (2, vI v2), (4, vI v4), (5, vI v5)] [] := by
  intro n
  induction n with
  | zero =>
    intro h v0 v2 v4 v5 hf
    have hf : (none : Option (Int32 × Hp)) = some _ := hf
    cases hf
  | succ n ih =>
    intro h v0 v2 v4 v5 hf
    rw [f_X8_drought_66] at hf
    refine V_iload C dX8_drought_66 3 rfl ?_
    refine V_iconst (v := (1 : Int32)) C dX8_drought_68 (by decide) ?_
    refine V_aload_n C dX8_drought_69 rfl 0 rfl ?_
    obtain ⟨q1, eq1, hf⟩ := o_b hf
    refine V_getR C fl_X8_42 rfl rfl (by decide) eq1 dX8_drought_70 ?_
    refine V_iconst (v := (1 : Int32)) C dX8_drought_73 (by decide) ?_
    obtain ⟨g2, hf⟩ := o_if hf
    refine V_iald C (vp_k (by decide) (by decide) g2) (by decide : Int32.toNatClampNeg (1 : Int32) = 1) dX8_drought_74 ?_
    refine V_ishl C dX8_drought_75 ?_
    refine V_icmp_ge C 144 dX8_drought_76 (by decide) (fun c3 => ?_) (fun c3 => ?_)
    · have hf := i_t c3 hf
      refine V_iload_n C dX8_drought_144 rfl 1 rfl ?_
      refine V_if_ne C 157 dX8_drought_145 (by decide) (fun c4 => ?_) (fun c4 => ?_)
      · have hf := i_f c4 hf
        refine V_iload C dX8_drought_157 2 rfl ?_
        obtain ⟨hf1, hf2⟩ := Prod.mk.inj (Option.some.inj hf)
        subst hf1
        subst hf2
        exact V_iret C hQ dX8_drought_159
      · have hf := i_t c4 hf
        refine V_aload_n C dX8_drought_148 rfl 0 rfl ?_
        refine V_iload C dX8_drought_149 2 rfl ?_
        obtain ⟨r5, er5, hf⟩ := o_b hf
        refine V_callV (as := [vI v4]) (st := []) C ml_X8_453 fx8 (ct_X8_tollOf er5) rfl ⟨by decide, by decide, by decide, by decide⟩ (Nat.le_of_ble_eq_true rfl) rfl dX8_drought_151 (cs' := 0) (sl' := 0) rfl rfl ?_
        refine V_goto C 159 dX8_drought_154 (by decide) ?_
        obtain ⟨hf1, hf2⟩ := Prod.mk.inj (Option.some.inj hf)
        subst hf1
        subst hf2
        exact V_iret C hQ dX8_drought_159
    · have hf := i_f c3 hf
      refine V_aload_n C dX8_drought_79 rfl 0 rfl ?_
      refine V_iload C dX8_drought_80 3 rfl ?_
      obtain ⟨r6, er6, hf⟩ := o_b hf
      refine V_callV (as := [vI v5]) (st := []) C ml_X8_446 fx8 (ct_X8_endOf er6) rfl ⟨by decide, by decide, by decide, by decide⟩ (Nat.le_of_ble_eq_true rfl) rfl dX8_drought_82 (cs' := 0) (sl' := 0) rfl rfl ?_
      refine V_if_ge C 91 dX8_drought_85 (by decide) (fun c7 => ?_) (fun c7 => ?_)
      · have hf := i_t c7 hf
        refine V_aload_n C dX8_drought_91 rfl 0 rfl ?_
        refine V_iload C dX8_drought_92 3 rfl ?_
        obtain ⟨r8, er8, hf⟩ := o_b hf
        refine V_callV (as := [vI v5]) (st := []) C ml_X8_453 fx8 (ct_X8_tollOf er8) rfl ⟨by decide, by decide, by decide, by decide⟩ (Nat.le_of_ble_eq_true rfl) rfl dX8_drought_94 (cs' := 0) (sl' := 0) rfl rfl ?_
        refine V_aload_n C dX8_drought_97 rfl 0 rfl ?_
        refine V_iload C dX8_drought_98 2 rfl ?_
        obtain ⟨r9, er9, hf⟩ := o_b hf
        refine V_callV (as := [vI v4]) (st := [vI r8]) C ml_X8_453 fx8 (ct_X8_tollOf er9) rfl ⟨by decide, by decide, by decide, by decide⟩ (Nat.le_of_ble_eq_true rfl) rfl dX8_drought_100 (cs' := 0) (sl' := 0) rfl rfl ?_
        refine V_icmp_gt C 134 dX8_drought_103 (by decide) (fun c10 => ?_) (fun c10 => ?_)
        · have hf := i_t c10 hf
          refine V_sub (lv' := [(0, vR 8 (some v0)), (2, vI v2), (5, vI v5)]) [0, 1, 3] rfl ?_
          exact p_X8_drought_134 C hQ ih hf
        · have hf := i_f c10 hf
          refine V_aload_n C dX8_drought_106 rfl 0 rfl ?_
          refine V_iload C dX8_drought_107 3 rfl ?_
          obtain ⟨r11, er11, hf⟩ := o_b hf
          refine V_callV (as := [vI v5]) (st := []) C ml_X8_453 fx8 (ct_X8_tollOf er11) rfl ⟨by decide, by decide, by decide, by decide⟩ (Nat.le_of_ble_eq_true rfl) rfl dX8_drought_109 (cs' := 0) (sl' := 0) rfl rfl ?_
          refine V_aload_n C dX8_drought_112 rfl 0 rfl ?_
          refine V_iload C dX8_drought_113 2 rfl ?_
          obtain ⟨r12, er12, hf⟩ := o_b hf
          refine V_callV (as := [vI v4]) (st := [vI r11]) C ml_X8_453 fx8 (ct_X8_tollOf er12) rfl ⟨by decide, by decide, by decide, by decide⟩ (Nat.le_of_ble_eq_true rfl) rfl dX8_drought_115 (cs' := 0) (sl' := 0) rfl rfl ?_
          refine V_icmp_ne C 138 dX8_drought_118 (by decide) (fun c13 => ?_) (fun c13 => ?_)
          · have hf := i_f c13 hf
            refine V_sub (lv' := [(0, vR 8 (some v0)), (2, vI v2), (4, vI v4), (5, vI v5)]) [0, 1, 2, 3] rfl ?_
            exact p_X8_drought_138 C hQ ih hf
          · have hf := i_t c13 hf
            refine V_iload C dX8_drought_121 3 rfl ?_
            obtain ⟨r14, er14, hf⟩ := o_b hf
            refine V_callS (as := [vI v5]) (st := []) C ml_X8_333 (ct_X8_bits er14) rfl ⟨by decide, by decide, by decide, by decide⟩ (Nat.le_of_ble_eq_true rfl) rfl dX8_drought_123 (cs' := 0) (sl' := 0) rfl rfl ?_
            refine V_iload C dX8_drought_126 2 rfl ?_
            obtain ⟨r15, er15, hf⟩ := o_b hf
            refine V_callS (as := [vI v4]) (st := [vI r14]) C ml_X8_333 (ct_X8_bits er15) rfl ⟨by decide, by decide, by decide, by decide⟩ (Nat.le_of_ble_eq_true rfl) rfl dX8_drought_128 (cs' := 0) (sl' := 0) rfl rfl ?_
            refine V_icmp_ge C 138 dX8_drought_131 (by decide) (fun c16 => ?_) (fun c16 => ?_)
            · have hf := i_t c16 hf
              refine V_sub (lv' := [(0, vR 8 (some v0)), (2, vI v2), (4, vI v4), (5, vI v5)]) [0, 1, 2, 3] rfl ?_
              exact p_X8_drought_138 C hQ ih hf
            · have hf := i_f c16 hf
              refine V_sub (lv' := [(0, vR 8 (some v0)), (2, vI v2), (5, vI v5)]) [0, 1, 3] rfl ?_
              exact p_X8_drought_134 C hQ ih hf
      · have hf := i_f c7 hf
        refine V_goto C 138 dX8_drought_88 (by decide) ?_
        refine V_sub (lv' := [(0, vR 8 (some v0)), (2, vI v2), (4, vI v4), (5, vI v5)]) [0, 1, 2, 3] rfl ?_
        exact p_X8_drought_138 C hQ ih hf
def f_X8_drought (N : Nat) (h : Hp) (v0 : Nat) (v1 : Int32) (v2 : Int32) : Option (Int32 × Hp) := Option.bind (hP h v0 26) (fun q17 => if 0 < hL h q17 then (if hI h q17 (0) = 0 then (some (((-1 : Int32), h))) else (Option.bind (f_X8_in h (v1.toInt64) (0 : Int64) (999 : Int64)) (fun r20 => if r20 = 0 then (some (((-1 : Int32), h))) else (Option.bind (f_X8_in h (v2.toInt64) (0 : Int64) (1 : Int64)) (fun r22 => if r22 = 0 then (some (((-1 : Int32), h))) else (Option.bind (f_X8_waterOf h v0 (0 : Int32)) (fun r24 => Option.bind (hP h v0 26) (fun q25 => if 9 < hL h q25 then (lt (sI h q25 (9) v1) (fun h27 => Option.bind (f_X8_goesThrough N h27 v0 (0 : Int32)) (fun h28 => Option.bind (hP h28 v0 26) (fun q29 => if 9 < hL h28 q29 then (lt (sI h28 q29 (9) r24) (fun h31 => f_X8_drought_66 N N h31 v0 v2 (0 : Int32) (1 : Int32))) else none)))) else none)))))))) else none)
set_option maxHeartbeats 4000000 in
set_option maxRecDepth 100000 in
theorem p_X8_drought {X : XT} {r : Int32} {h' : Hp} (C : CX X cX8_drought "WaterStairModel" 6 (some .int) rmX8_drought) {N : Nat} {h : Hp} {v0 : Nat} {v1 : Int32} {v2 : Int32} (hQ : QX X (some (vI r)) h' rmX8_drought.cells rmX8_drought.slots) (hf : f_X8_drought N h v0 v1 v2 = some ((r, h'))) : V X 0 0 h 0 [(0, vR 8 (some v0)), (1, vI v1), (2, vI v2)] [] := by
  unfold f_X8_drought at hf
  refine V_aload_n C dX8_drought_0 rfl 0 rfl ?_
  obtain ⟨q17, eq17, hf⟩ := o_b hf
  refine V_getR C fl_X8_42 rfl rfl (by decide) eq17 dX8_drought_1 ?_
  refine V_iconst (v := (0 : Int32)) C dX8_drought_4 (by decide) ?_
  obtain ⟨g18, hf⟩ := o_if hf
  refine V_iald C (vp_k (by decide) (by decide) g18) (by decide : Int32.toNatClampNeg (0 : Int32) = 0) dX8_drought_5 ?_
  refine V_if_eq C 31 dX8_drought_6 (by decide) (fun c19 => ?_) (fun c19 => ?_)
  · have hf := i_t c19 hf
    refine V_iconst (v := (-1 : Int32)) C dX8_drought_31 (by decide) ?_
    obtain ⟨hf1, hf2⟩ := Prod.mk.inj (Option.some.inj hf)
    subst hf1
    subst hf2
    exact V_iret C hQ dX8_drought_32
  · have hf := i_f c19 hf
    refine V_iload_n C dX8_drought_9 rfl 1 rfl ?_
    refine V_i2l C dX8_drought_10 ?_
    refine V_lconst (v := (0 : Int64)) C dX8_drought_11 (by decide) ?_
    refine V_ldc2 C kl_X8_451 dX8_drought_12 ?_
    obtain ⟨r20, er20, hf⟩ := o_b hf
    refine V_callS (as := [vL (v1.toInt64), vL (0 : Int64), vL (999 : Int64)]) (st := []) C ml_X8_127 (ct_X8_in er20) rfl ⟨by decide, by decide, by decide, by decide⟩ (Nat.le_of_ble_eq_true rfl) rfl dX8_drought_15 (cs' := 0) (sl' := 0) rfl rfl ?_
    refine V_if_eq C 31 dX8_drought_18 (by decide) (fun c21 => ?_) (fun c21 => ?_)
    · have hf := i_t c21 hf
      refine V_iconst (v := (-1 : Int32)) C dX8_drought_31 (by decide) ?_
      obtain ⟨hf1, hf2⟩ := Prod.mk.inj (Option.some.inj hf)
      subst hf1
      subst hf2
      exact V_iret C hQ dX8_drought_32
    · have hf := i_f c21 hf
      refine V_iload_n C dX8_drought_21 rfl 2 rfl ?_
      refine V_i2l C dX8_drought_22 ?_
      refine V_lconst (v := (0 : Int64)) C dX8_drought_23 (by decide) ?_
      refine V_lconst (v := (1 : Int64)) C dX8_drought_24 (by decide) ?_
      obtain ⟨r22, er22, hf⟩ := o_b hf
      refine V_callS (as := [vL (v2.toInt64), vL (0 : Int64), vL (1 : Int64)]) (st := []) C ml_X8_127 (ct_X8_in er22) rfl ⟨by decide, by decide, by decide, by decide⟩ (Nat.le_of_ble_eq_true rfl) rfl dX8_drought_25 (cs' := 0) (sl' := 0) rfl rfl ?_
      refine V_if_ne C 33 dX8_drought_28 (by decide) (fun c23 => ?_) (fun c23 => ?_)
      · have hf := i_f c23 hf
        refine V_aload_n C dX8_drought_33 rfl 0 rfl ?_
        refine V_iconst (v := (0 : Int32)) C dX8_drought_34 (by decide) ?_
        obtain ⟨r24, er24, hf⟩ := o_b hf
        refine V_callV (as := [vI (0 : Int32)]) (st := []) C ml_X8_330 fx8 (ct_X8_waterOf er24) rfl ⟨by decide, by decide, by decide, by decide⟩ (Nat.le_of_ble_eq_true rfl) rfl dX8_drought_35 (cs' := 0) (sl' := 0) rfl rfl ?_
        refine V_istore_n (lv' := [(3, vI r24), (0, vR 8 (some v0)), (1, vI v1), (2, vI v2)]) C dX8_drought_38 rfl (by decide) rfl ?_
        refine V_aload_n C dX8_drought_39 rfl 1 rfl ?_
        obtain ⟨q25, eq25, hf⟩ := o_b hf
        refine V_getR C fl_X8_42 rfl rfl (by decide) eq25 dX8_drought_40 ?_
        refine V_bipush (v := (9 : Int32)) C dX8_drought_43 (by decide) ?_
        refine V_iload_n C dX8_drought_45 rfl 2 rfl ?_
        obtain ⟨g26, hf⟩ := o_if hf
        obtain ⟨h27, eh27, hf⟩ := o_l hf
        refine V_iast C (vp_k (by decide) (by decide) g26) (by decide : Int32.toNatClampNeg (9 : Int32) = 9) dX8_drought_46 (V_eqH eh27 ?_)
        refine V_aload_n C dX8_drought_47 rfl 1 rfl ?_
        refine V_iconst (v := (0 : Int32)) C dX8_drought_48 (by decide) ?_
        obtain ⟨h28, eh28, hf⟩ := o_b hf
        refine V_callV (as := [vI (0 : Int32)]) (st := []) C ml_X8_442 fx8 (ct_X8_goesThrough eh28) rfl ⟨by decide, by decide, by decide, by decide⟩ (Nat.le_of_ble_eq_true rfl) rfl dX8_drought_49 (cs' := 0) (sl' := 0) rfl rfl ?_
        refine V_aload_n C dX8_drought_52 rfl 1 rfl ?_
        obtain ⟨q29, eq29, hf⟩ := o_b hf
        refine V_getR C fl_X8_42 rfl rfl (by decide) eq29 dX8_drought_53 ?_
        refine V_bipush (v := (9 : Int32)) C dX8_drought_56 (by decide) ?_
        refine V_iload_n C dX8_drought_58 rfl 0 rfl ?_
        obtain ⟨g30, hf⟩ := o_if hf
        obtain ⟨h31, eh31, hf⟩ := o_l hf
        refine V_iast C (vp_k (by decide) (by decide) g30) (by decide : Int32.toNatClampNeg (9 : Int32) = 9) dX8_drought_59 (V_eqH eh31 ?_)
        refine V_iconst (v := (0 : Int32)) C dX8_drought_60 (by decide) ?_
        refine V_istore (lv' := [(4, vI (0 : Int32)), (3, vI r24), (0, vR 8 (some v0)), (1, vI v1), (2, vI v2)]) C dX8_drought_61 (by decide) rfl ?_
        refine V_iconst (v := (1 : Int32)) C dX8_drought_63 (by decide) ?_
        refine V_istore (lv' := [(5, vI (1 : Int32)), (4, vI (0 : Int32)), (3, vI r24), (0, vR 8 (some v0)), (1, vI v1), (2, vI v2)]) C dX8_drought_64 (by decide) rfl ?_
        refine V_sub (lv' := [(0, vR 8 (some v0)), (2, vI v2), (4, vI (0 : Int32)), (5, vI (1 : Int32))]) [3, 5, 1, 0] rfl ?_
        exact p_X8_drought_66 C hQ N _ _ _ _ _ hf
      · have hf := i_t c23 hf
        refine V_iconst (v := (-1 : Int32)) C dX8_drought_31 (by decide) ?_
        obtain ⟨hf1, hf2⟩ := Prod.mk.inj (Option.some.inj hf)
        subst hf1
        subst hf2
        exact V_iret C hQ dX8_drought_32
theorem ct_X8_drought {r : Int32} {h' : Hp} {N : Nat} {h : Hp} {v0 : Nat} {v1 : Int32} {v2 : Int32} (hf : f_X8_drought N h v0 v1 v2 = some ((r, h'))) (l : Launch) (G : GT) : MC l G yX8_drought cX8_drought 6 (some .int) rmX8_drought h [vR 8 (some v0), vI v1, vI v2] (some (vI r)) h' := MC_of (by decide) rfl (Nat.le_of_ble_eq_true rfl) rfl (fun X C hQ hin => p_X8_drought C hQ hf)
abbrev rmX8_mustPass : Room := { frames := 2, cells := 0, slots := 0, locals := 43 }
def f_X8_mustPass_60 (N : Nat) (s4 : Hp → Nat → Int32 → Int32 → Int32 → Option (Int32)) (h : Hp) (v0 : Nat) (v1 : Int32) (v3 : Int32) (s1_ : Int32) (s0_ : Int32) : Option (Int32) := s4 h v0 v1 (s0_ + s1_) (v3 + (1 : Int32))
set_option maxHeartbeats 4000000 in
set_option maxRecDepth 100000 in
theorem p_X8_mustPass_60 {X : XT} {r : Int32} {h : Hp} (C : CX X cX8_mustPass "WaterStairModel" 4 (some .int) rmX8_mustPass) (hQ : QX X (some (vI r)) h rmX8_mustPass.cells rmX8_mustPass.slots) {N : Nat} {s4 : Hp → Nat → Int32 → Int32 → Int32 → Option (Int32)} (S4 : ∀ (v0 : Nat) (v1 : Int32) (v2 : Int32) (v3 : Int32), s4 h v0 v1 v2 v3 = some r → V X 0 0 h 4 [(0, vR 8 (some v0)), (1, vI v1), (2, vI v2), (3, vI v3)] [])  {v0 : Nat} {v1 : Int32} {v3 : Int32} {s1_ : Int32} {s0_ : Int32} (hf : f_X8_mustPass_60 N s4 h v0 v1 v3 s1_ s0_ = some r) : V X 0 0 h 60 [(0, vR 8 (some v0)), (1, vI v1), (3, vI v3)] [vI s1_, vI s0_] := by
  unfold f_X8_mustPass_60 at hf
  refine V_iadd C dX8_mustPass_60 ?_
  refine V_istore_n (lv' := [(2, vI (s0_ + s1_)), (0, vR 8 (some v0)), (1, vI v1), (3, vI v3)]) C dX8_mustPass_61 rfl (by decide) rfl ?_
  refine V_iinc (lv' := [(3, vI (v3 + (1 : Int32))), (2, vI (s0_ + s1_)), (0, vR 8 (some v0)), (1, vI v1)]) C dX8_mustPass_62 3 rfl (congrArg (v3 + ·) (by decide : Int32.ofInt (1) = (1 : Int32))) (by decide) rfl ?_
  refine V_goto C 4 dX8_mustPass_65 (by decide) ?_
  refine V_sub (lv' := [(0, vR 8 (some v0)), (1, vI v1), (2, vI (s0_ + s1_)), (3, vI (v3 + (1 : Int32)))]) [2, 3, 1, 0] rfl ?_
  exact S4 _ _ _ _ hf
def f_X8_mustPass_55 (N : Nat) (s4 : Hp → Nat → Int32 → Int32 → Int32 → Option (Int32)) (h : Hp) (v0 : Nat) (v1 : Int32) (v3 : Int32) (s0_ : Int32) : Option (Int32) := f_X8_mustPass_60 N s4 h v0 v1 v3 (1 : Int32) s0_
set_option maxHeartbeats 4000000 in
set_option maxRecDepth 100000 in
theorem p_X8_mustPass_55 {X : XT} {r : Int32} {h : Hp} (C : CX X cX8_mustPass "WaterStairModel" 4 (some .int) rmX8_mustPass) (hQ : QX X (some (vI r)) h rmX8_mustPass.cells rmX8_mustPass.slots) {N : Nat} {s4 : Hp → Nat → Int32 → Int32 → Int32 → Option (Int32)} (S4 : ∀ (v0 : Nat) (v1 : Int32) (v2 : Int32) (v3 : Int32), s4 h v0 v1 v2 v3 = some r → V X 0 0 h 4 [(0, vR 8 (some v0)), (1, vI v1), (2, vI v2), (3, vI v3)] [])  {v0 : Nat} {v1 : Int32} {v3 : Int32} {s0_ : Int32} (hf : f_X8_mustPass_55 N s4 h v0 v1 v3 s0_ = some r) : V X 0 0 h 55 [(0, vR 8 (some v0)), (1, vI v1), (3, vI v3)] [vI s0_] := by
  unfold f_X8_mustPass_55 at hf
  refine V_iconst (v := (1 : Int32)) C dX8_mustPass_55 (by decide) ?_
  refine V_goto C 60 dX8_mustPass_56 (by decide) ?_
  refine V_sub (lv' := [(0, vR 8 (some v0)), (1, vI v1), (3, vI v3)]) [0, 1, 2] rfl ?_
  exact p_X8_mustPass_60 C hQ S4 hf
def f_X8_mustPass_59 (N : Nat) (s4 : Hp → Nat → Int32 → Int32 → Int32 → Option (Int32)) (h : Hp) (v0 : Nat) (v1 : Int32) (v3 : Int32) (s0_ : Int32) : Option (Int32) := f_X8_mustPass_60 N s4 h v0 v1 v3 (0 : Int32) s0_
set_option maxHeartbeats 4000000 in
set_option maxRecDepth 100000 in
theorem p_X8_mustPass_59 {X : XT} {r : Int32} {h : Hp} (C : CX X cX8_mustPass "WaterStairModel" 4 (some .int) rmX8_mustPass) (hQ : QX X (some (vI r)) h rmX8_mustPass.cells rmX8_mustPass.slots) {N : Nat} {s4 : Hp → Nat → Int32 → Int32 → Int32 → Option (Int32)} (S4 : ∀ (v0 : Nat) (v1 : Int32) (v2 : Int32) (v3 : Int32), s4 h v0 v1 v2 v3 = some r → V X 0 0 h 4 [(0, vR 8 (some v0)), (1, vI v1), (2, vI v2), (3, vI v3)] [])  {v0 : Nat} {v1 : Int32} {v3 : Int32} {s0_ : Int32} (hf : f_X8_mustPass_59 N s4 h v0 v1 v3 s0_ = some r) : V X 0 0 h 59 [(0, vR 8 (some v0)), (1, vI v1), (3, vI v3)] [vI s0_] := by
  unfold f_X8_mustPass_59 at hf
  refine V_iconst (v := (0 : Int32)) C dX8_mustPass_59 (by decide) ?_
  refine V_sub (lv' := [(0, vR 8 (some v0)), (1, vI v1), (3, vI v3)]) [0, 1, 2] rfl ?_
  exact p_X8_mustPass_60 C hQ S4 hf
def f_X8_mustPass_4 (N : Nat) : Nat → Hp → Nat → Int32 → Int32 → Int32 → Option (Int32)
  | 0, _, _, _, _, _ => none
  | n + 1, h, v0, v1, v2, v3 => Option.bind (hP h v0 26) (fun q1 => if 1 < hL h q1 then (if (hI h q1 (1)) ≤ v3 then (some v2) else (Option.bind (f_X8_isHome h v0 v3) (fun r4 => if r4 = 0 then (Option.bind (f_X8_bargeOf h v0 v3 (2 : Int32)) (fun r6 => if r6 = 0 then (Option.bind (f_X8_bargeOf h v0 v3 (4 : Int32)) (fun r10 => if v1 < r10 then (f_X8_mustPass_59 N (f_X8_mustPass_4 N n) h v0 v1 v3 v2) else (f_X8_mustPass_55 N (f_X8_mustPass_4 N n) h v0 v1 v3 v2))) else (Option.bind (f_X8_bargeOf h v0 v3 (4 : Int32)) (fun r8 => if r8 ≤ v1 then (f_X8_mustPass_59 N (f_X8_mustPass_4 N n) h v0 v1 v3 v2) else (f_X8_mustPass_55 N (f_X8_mustPass_4 N n) h v0 v1 v3 v2))))) else (f_X8_mustPass_59 N (f_X8_mustPass_4 N n) h v0 v1 v3 v2)))) else none)
set_option maxHeartbeats 4000000 in
set_option maxRecDepth 100000 in
theorem p_X8_mustPass_4 {X : XT} {r : Int32} {h : Hp} (C : CX X cX8_mustPass "WaterStairModel" 4 (some .int) rmX8_mustPass) (hQ : QX X (some (vI r)) h rmX8_mustPass.cells rmX8_mustPass.slots) {N : Nat}  : ∀ (n : Nat) (v0 : Nat) (v1 : Int32) (v2 : Int32) (v3 : Int32), f_X8_mustPass_4 N n h v0 v1 v2 v3 = some r → V X 0 0 h 4 [(0, vR 8 (some v0)), (1, vI v1), (2, vI v2), (3, vI v3)] [] := by
  intro n
  induction n with
  | zero =>
    intro v0 v1 v2 v3 hf
    have hf : (none : Option (Int32)) = some _ := hf
    cases hf
  | succ n ih =>
    intro v0 v1 v2 v3 hf
    rw [f_X8_mustPass_4] at hf
    refine V_iload_n C dX8_mustPass_4 rfl 3 rfl ?_
    refine V_aload_n C dX8_mustPass_5 rfl 0 rfl ?_
    obtain ⟨q1, eq1, hf⟩ := o_b hf
    refine V_getR C fl_X8_42 rfl rfl (by decide) eq1 dX8_mustPass_6 ?_
    refine V_iconst (v := (1 : Int32)) C dX8_mustPass_9 (by decide) ?_
    obtain ⟨g2, hf⟩ := o_if hf
    refine V_iald C (vp_k (by decide) (by decide) g2) (by decide : Int32.toNatClampNeg (1 : Int32) = 1) dX8_mustPass_10 ?_
    refine V_icmp_ge C 68 dX8_mustPass_11 (by decide) (fun c3 => ?_) (fun c3 => ?_)
    · have hf := i_t c3 hf
      refine V_iload_n C dX8_mustPass_68 rfl 2 rfl ?_
      have hf := Option.some.inj hf
      subst hf
      exact V_iret C hQ dX8_mustPass_69
    · have hf := i_f c3 hf
      refine V_iload_n C dX8_mustPass_14 rfl 2 rfl ?_
      refine V_aload_n C dX8_mustPass_15 rfl 0 rfl ?_
      refine V_iload_n C dX8_mustPass_16 rfl 3 rfl ?_
      obtain ⟨r4, er4, hf⟩ := o_b hf
      refine V_callV (as := [vI v3]) (st := [vI v2]) C ml_X8_299 fx8 (ct_X8_isHome er4) rfl ⟨by decide, by decide, by decide, by decide⟩ (Nat.le_of_ble_eq_true rfl) rfl dX8_mustPass_17 (cs' := 0) (sl' := 0) rfl rfl ?_
      refine V_if_ne C 59 dX8_mustPass_20 (by decide) (fun c5 => ?_) (fun c5 => ?_)
      · have hf := i_f c5 hf
        refine V_sub (lv' := [(0, vR 8 (some v0)), (1, vI v1), (3, vI v3)]) [0, 1, 3] rfl ?_
        exact p_X8_mustPass_59 C hQ ih hf
      · have hf := i_t c5 hf
        refine V_aload_n C dX8_mustPass_23 rfl 0 rfl ?_
        refine V_iload_n C dX8_mustPass_24 rfl 3 rfl ?_
        refine V_iconst (v := (2 : Int32)) C dX8_mustPass_25 (by decide) ?_
        obtain ⟨r6, er6, hf⟩ := o_b hf
        refine V_callV (as := [vI v3, vI (2 : Int32)]) (st := [vI v2]) C ml_X8_295 fx8 (ct_X8_bargeOf er6) rfl ⟨by decide, by decide, by decide, by decide⟩ (Nat.le_of_ble_eq_true rfl) rfl dX8_mustPass_26 (cs' := 0) (sl' := 0) rfl rfl ?_
        refine V_if_ne C 45 dX8_mustPass_29 (by decide) (fun c7 => ?_) (fun c7 => ?_)
        · have hf := i_f c7 hf
          refine V_aload_n C dX8_mustPass_45 rfl 0 rfl ?_
          refine V_iload_n C dX8_mustPass_46 rfl 3 rfl ?_
          refine V_iconst (v := (4 : Int32)) C dX8_mustPass_47 (by decide) ?_
          obtain ⟨r8, er8, hf⟩ := o_b hf
          refine V_callV (as := [vI v3, vI (4 : Int32)]) (st := [vI v2]) C ml_X8_295 fx8 (ct_X8_bargeOf er8) rfl ⟨by decide, by decide, by decide, by decide⟩ (Nat.le_of_ble_eq_true rfl) rfl dX8_mustPass_48 (cs' := 0) (sl' := 0) rfl rfl ?_
          refine V_iload_n C dX8_mustPass_51 rfl 1 rfl ?_
          refine V_icmp_le C 59 dX8_mustPass_52 (by decide) (fun c9 => ?_) (fun c9 => ?_)
          · have hf := i_t c9 hf
            refine V_sub (lv' := [(0, vR 8 (some v0)), (1, vI v1), (3, vI v3)]) [0, 1, 3] rfl ?_
            exact p_X8_mustPass_59 C hQ ih hf
          · have hf := i_f c9 hf
            refine V_sub (lv' := [(0, vR 8 (some v0)), (1, vI v1), (3, vI v3)]) [0, 1, 3] rfl ?_
            exact p_X8_mustPass_55 C hQ ih hf
        · have hf := i_t c7 hf
          refine V_aload_n C dX8_mustPass_32 rfl 0 rfl ?_
          refine V_iload_n C dX8_mustPass_33 rfl 3 rfl ?_
          refine V_iconst (v := (4 : Int32)) C dX8_mustPass_34 (by decide) ?_
          obtain ⟨r10, er10, hf⟩ := o_b hf
          refine V_callV (as := [vI v3, vI (4 : Int32)]) (st := [vI v2]) C ml_X8_295 fx8 (ct_X8_bargeOf er10) rfl ⟨by decide, by decide, by decide, by decide⟩ (Nat.le_of_ble_eq_true rfl) rfl dX8_mustPass_35 (cs' := 0) (sl' := 0) rfl rfl ?_
          refine V_iload_n C dX8_mustPass_38 rfl 1 rfl ?_
          refine V_icmp_gt C 59 dX8_mustPass_39 (by decide) (fun c11 => ?_) (fun c11 => ?_)
          · have hf := i_t c11 hf
            refine V_sub (lv' := [(0, vR 8 (some v0)), (1, vI v1), (3, vI v3)]) [0, 1, 3] rfl ?_
            exact p_X8_mustPass_59 C hQ ih hf
          · have hf := i_f c11 hf
            refine V_goto C 55 dX8_mustPass_42 (by decide) ?_
            refine V_sub (lv' := [(0, vR 8 (some v0)), (1, vI v1), (3, vI v3)]) [0, 1, 3] rfl ?_
            exact p_X8_mustPass_55 C hQ ih hf
def f_X8_mustPass (N : Nat) (h : Hp) (v0 : Nat) (v1 : Int32) : Option (Int32) := f_X8_mustPass_4 N N h v0 v1 (0 : Int32) (0 : Int32)
set_option maxHeartbeats 4000000 in
set_option maxRecDepth 100000 in
theorem p_X8_mustPass {X : XT} {r : Int32} (C : CX X cX8_mustPass "WaterStairModel" 4 (some .int) rmX8_mustPass) {N : Nat} {h : Hp} {v0 : Nat} {v1 : Int32} (hQ : QX X (some (vI r)) h rmX8_mustPass.cells rmX8_mustPass.slots) (hf : f_X8_mustPass N h v0 v1 = some r) : V X 0 0 h 0 [(0, vR 8 (some v0)), (1, vI v1)] [] := by
  unfold f_X8_mustPass at hf
  refine V_iconst (v := (0 : Int32)) C dX8_mustPass_0 (by decide) ?_
  refine V_istore_n (lv' := [(2, vI (0 : Int32)), (0, vR 8 (some v0)), (1, vI v1)]) C dX8_mustPass_1 rfl (by decide) rfl ?_
  refine V_iconst (v := (0 : Int32)) C dX8_mustPass_2 (by decide) ?_
  refine V_istore_n (lv' := [(3, vI (0 : Int32)), (2, vI (0 : Int32)), (0, vR 8 (some v0)), (1, vI v1)]) C dX8_mustPass_3 rfl (by decide) rfl ?_
  refine V_sub (lv' := [(0, vR 8 (some v0)), (1, vI v1), (2, vI (0 : Int32)), (3, vI (0 : Int32))]) [2, 3, 1, 0] rfl ?_
  exact p_X8_mustPass_4 C hQ N _ _ _ _ hf
theorem ct_X8_mustPass {r : Int32} {N : Nat} {h : Hp} {v0 : Nat} {v1 : Int32} (hf : f_X8_mustPass N h v0 v1 = some r) (l : Launch) (G : GT) : MC l G yX8_mustPass cX8_mustPass 4 (some .int) rmX8_mustPass h [vR 8 (some v0), vI v1] (some (vI r)) h := MC_of (by decide) rfl (Nat.le_of_ble_eq_true rfl) rfl (fun X C hQ hin => p_X8_mustPass C hQ hf)
abbrev rmX8_pass : Room := { frames := 3, cells := 0, slots := 0, locals := 66 }
def f_X8_pass (N : Nat) (h : Hp) (v0 : Nat) (v1 : Int32) : Option (Int32) := Option.bind (f_X8_isStep h v0 v1) (fun r1 => if r1 = 0 then (some (-1 : Int32)) else (Option.bind (f_X8_mustPass N h v0 v1) (fun r3 => some r3)))
set_option maxHeartbeats 4000000 in
set_option maxRecDepth 100000 in
theorem p_X8_pass {X : XT} {r : Int32} (C : CX X cX8_pass "WaterStairModel" 2 (some .int) rmX8_pass) {N : Nat} {h : Hp} {v0 : Nat} {v1 : Int32} (hQ : QX X (some (vI r)) h rmX8_pass.cells rmX8_pass.slots) (hf : f_X8_pass N h v0 v1 = some r) : V X 0 0 h 0 [(0, vR 8 (some v0)), (1, vI v1)] [] := by
  unfold f_X8_pass at hf
  refine V_aload_n C dX8_pass_0 rfl 0 rfl ?_
  refine V_iload_n C dX8_pass_1 rfl 1 rfl ?_
  obtain ⟨r1, er1, hf⟩ := o_b hf
  refine V_callV (as := [vI v1]) (st := []) C ml_X8_313 fx8 (ct_X8_isStep er1) rfl ⟨by decide, by decide, by decide, by decide⟩ (Nat.le_of_ble_eq_true rfl) rfl dX8_pass_2 (cs' := 0) (sl' := 0) rfl rfl ?_
  refine V_if_eq C 16 dX8_pass_5 (by decide) (fun c2 => ?_) (fun c2 => ?_)
  · have hf := i_t c2 hf
    refine V_iconst (v := (-1 : Int32)) C dX8_pass_16 (by decide) ?_
    have hf := Option.some.inj hf
    subst hf
    exact V_iret C hQ dX8_pass_17
  · have hf := i_f c2 hf
    refine V_aload_n C dX8_pass_8 rfl 0 rfl ?_
    refine V_iload_n C dX8_pass_9 rfl 1 rfl ?_
    obtain ⟨r3, er3, hf⟩ := o_b hf
    refine V_callV (as := [vI v1]) (st := []) C ml_X8_456 fx8 (ct_X8_mustPass er3) rfl ⟨by decide, by decide, by decide, by decide⟩ (Nat.le_of_ble_eq_true rfl) rfl dX8_pass_10 (cs' := 0) (sl' := 0) rfl rfl ?_
    refine V_goto C 17 dX8_pass_13 (by decide) ?_
    have hf := Option.some.inj hf
    subst hf
    exact V_iret C hQ dX8_pass_17
theorem ct_X8_pass {r : Int32} {N : Nat} {h : Hp} {v0 : Nat} {v1 : Int32} (hf : f_X8_pass N h v0 v1 = some r) (l : Launch) (G : GT) : MC l G yX8_pass cX8_pass 2 (some .int) rmX8_pass h [vR 8 (some v0), vI v1] (some (vI r)) h := MC_of (by decide) rfl (Nat.le_of_ble_eq_true rfl) rfl (fun X C hQ hin => p_X8_pass C hQ hf)
abbrev rmX8_worst : Room := { frames := 3, cells := 0, slots := 0, locals := 66 }
def f_X8_worst_41 (N : Nat) (s15 : Hp → Nat → Int32 → Int32 → Option (Int32)) (h : Hp) (v0 : Nat) (v2 : Int32) (s0_ : Int32) : Option (Int32) := s15 h v0 s0_ (v2 + (1 : Int32))
set_option maxHeartbeats 4000000 in
set_option maxRecDepth 100000 in
theorem p_X8_worst_41 {X : XT} {r : Int32} {h : Hp} (C : CX X cX8_worst "WaterStairModel" 3 (some .int) rmX8_worst) (hQ : QX X (some (vI r)) h rmX8_worst.cells rmX8_worst.slots) {N : Nat} {s15 : Hp → Nat → Int32 → Int32 → Option (Int32)} (S15 : ∀ (v0 : Nat) (v1 : Int32) (v2 : Int32), s15 h v0 v1 v2 = some r → V X 0 0 h 15 [(0, vR 8 (some v0)), (1, vI v1), (2, vI v2)] [])  {v0 : Nat} {v2 : Int32} {s0_ : Int32} (hf : f_X8_worst_41 N s15 h v0 v2 s0_ = some r) : V X 0 0 h 41 [(0, vR 8 (some v0)), (2, vI v2)] [vI s0_] := by
  unfold f_X8_worst_41 at hf
  refine V_istore_n (lv' := [(1, vI s0_), (0, vR 8 (some v0)), (2, vI v2)]) C dX8_worst_41 rfl (by decide) rfl ?_
  refine V_iinc (lv' := [(2, vI (v2 + (1 : Int32))), (1, vI s0_), (0, vR 8 (some v0))]) C dX8_worst_42 2 rfl (congrArg (v2 + ·) (by decide : Int32.ofInt (1) = (1 : Int32))) (by decide) rfl ?_
  refine V_goto C 15 dX8_worst_45 (by decide) ?_
  refine V_sub (lv' := [(0, vR 8 (some v0)), (1, vI s0_), (2, vI (v2 + (1 : Int32)))]) [2, 1, 0] rfl ?_
  exact S15 _ _ _ hf
def f_X8_worst_15 (N : Nat) : Nat → Hp → Nat → Int32 → Int32 → Option (Int32)
  | 0, _, _, _, _ => none
  | n + 1, h, v0, v1, v2 => Option.bind (f_X8_isStep h v0 v2) (fun r1 => if r1 = 0 then (some v1) else (Option.bind (f_X8_mustPass N h v0 v2) (fun r3 => Option.bind (f_X8_mustPass N h v0 v1) (fun r4 => if r3 ≤ r4 then (f_X8_worst_41 N (f_X8_worst_15 N n) h v0 v2 v1) else (f_X8_worst_41 N (f_X8_worst_15 N n) h v0 v2 v2)))))
set_option maxHeartbeats 4000000 in
set_option maxRecDepth 100000 in
theorem p_X8_worst_15 {X : XT} {r : Int32} {h : Hp} (C : CX X cX8_worst "WaterStairModel" 3 (some .int) rmX8_worst) (hQ : QX X (some (vI r)) h rmX8_worst.cells rmX8_worst.slots) {N : Nat}  : ∀ (n : Nat) (v0 : Nat) (v1 : Int32) (v2 : Int32), f_X8_worst_15 N n h v0 v1 v2 = some r → V X 0 0 h 15 [(0, vR 8 (some v0)), (1, vI v1), (2, vI v2)] [] := by
  intro n
  induction n with
  | zero =>
    intro v0 v1 v2 hf
    have hf : (none : Option (Int32)) = some _ := hf
    cases hf
  | succ n ih =>
    intro v0 v1 v2 hf
    rw [f_X8_worst_15] at hf
    refine V_aload_n C dX8_worst_15 rfl 0 rfl ?_
    refine V_iload_n C dX8_worst_16 rfl 2 rfl ?_
    obtain ⟨r1, er1, hf⟩ := o_b hf
    refine V_callV (as := [vI v2]) (st := []) C ml_X8_313 fx8 (ct_X8_isStep er1) rfl ⟨by decide, by decide, by decide, by decide⟩ (Nat.le_of_ble_eq_true rfl) rfl dX8_worst_17 (cs' := 0) (sl' := 0) rfl rfl ?_
    refine V_if_eq C 48 dX8_worst_20 (by decide) (fun c2 => ?_) (fun c2 => ?_)
    · have hf := i_t c2 hf
      refine V_iload_n C dX8_worst_48 rfl 1 rfl ?_
      have hf := Option.some.inj hf
      subst hf
      exact V_iret C hQ dX8_worst_49
    · have hf := i_f c2 hf
      refine V_aload_n C dX8_worst_23 rfl 0 rfl ?_
      refine V_iload_n C dX8_worst_24 rfl 2 rfl ?_
      obtain ⟨r3, er3, hf⟩ := o_b hf
      refine V_callV (as := [vI v2]) (st := []) C ml_X8_456 fx8 (ct_X8_mustPass er3) rfl ⟨by decide, by decide, by decide, by decide⟩ (Nat.le_of_ble_eq_true rfl) rfl dX8_worst_25 (cs' := 0) (sl' := 0) rfl rfl ?_
      refine V_aload_n C dX8_worst_28 rfl 0 rfl ?_
      refine V_iload_n C dX8_worst_29 rfl 1 rfl ?_
      obtain ⟨r4, er4, hf⟩ := o_b hf
      refine V_callV (as := [vI v1]) (st := [vI r3]) C ml_X8_456 fx8 (ct_X8_mustPass er4) rfl ⟨by decide, by decide, by decide, by decide⟩ (Nat.le_of_ble_eq_true rfl) rfl dX8_worst_30 (cs' := 0) (sl' := 0) rfl rfl ?_
      refine V_icmp_le C 40 dX8_worst_33 (by decide) (fun c5 => ?_) (fun c5 => ?_)
      · have hf := i_t c5 hf
        refine V_iload_n C dX8_worst_40 rfl 1 rfl ?_
        refine V_sub (lv' := [(0, vR 8 (some v0)), (2, vI v2)]) [0, 2] rfl ?_
        exact p_X8_worst_41 C hQ ih hf
      · have hf := i_f c5 hf
        refine V_iload_n C dX8_worst_36 rfl 2 rfl ?_
        refine V_goto C 41 dX8_worst_37 (by decide) ?_
        refine V_sub (lv' := [(0, vR 8 (some v0)), (2, vI v2)]) [0, 2] rfl ?_
        exact p_X8_worst_41 C hQ ih hf
def f_X8_worst (N : Nat) (h : Hp) (v0 : Nat) : Option (Int32) := Option.bind (hP h v0 26) (fun q6 => if 0 < hL h q6 then (if hI h q6 (0) = 0 then (some (-1 : Int32)) else (f_X8_worst_15 N N h v0 (0 : Int32) (1 : Int32))) else none)
set_option maxHeartbeats 4000000 in
set_option maxRecDepth 100000 in
theorem p_X8_worst {X : XT} {r : Int32} (C : CX X cX8_worst "WaterStairModel" 3 (some .int) rmX8_worst) {N : Nat} {h : Hp} {v0 : Nat} (hQ : QX X (some (vI r)) h rmX8_worst.cells rmX8_worst.slots) (hf : f_X8_worst N h v0 = some r) : V X 0 0 h 0 [(0, vR 8 (some v0))] [] := by
  unfold f_X8_worst at hf
  refine V_aload_n C dX8_worst_0 rfl 0 rfl ?_
  obtain ⟨q6, eq6, hf⟩ := o_b hf
  refine V_getR C fl_X8_42 rfl rfl (by decide) eq6 dX8_worst_1 ?_
  refine V_iconst (v := (0 : Int32)) C dX8_worst_4 (by decide) ?_
  obtain ⟨g7, hf⟩ := o_if hf
  refine V_iald C (vp_k (by decide) (by decide) g7) (by decide : Int32.toNatClampNeg (0 : Int32) = 0) dX8_worst_5 ?_
  refine V_if_ne C 11 dX8_worst_6 (by decide) (fun c8 => ?_) (fun c8 => ?_)
  · have hf := i_f c8 hf
    refine V_iconst (v := (0 : Int32)) C dX8_worst_11 (by decide) ?_
    refine V_istore_n (lv' := [(1, vI (0 : Int32)), (0, vR 8 (some v0))]) C dX8_worst_12 rfl (by decide) rfl ?_
    refine V_iconst (v := (1 : Int32)) C dX8_worst_13 (by decide) ?_
    refine V_istore_n (lv' := [(2, vI (1 : Int32)), (1, vI (0 : Int32)), (0, vR 8 (some v0))]) C dX8_worst_14 rfl (by decide) rfl ?_
    refine V_sub (lv' := [(0, vR 8 (some v0)), (1, vI (0 : Int32)), (2, vI (1 : Int32))]) [2, 1, 0] rfl ?_
    exact p_X8_worst_15 C hQ N _ _ _ hf
  · have hf := i_t c8 hf
    refine V_iconst (v := (-1 : Int32)) C dX8_worst_9 (by decide) ?_
    have hf := Option.some.inj hf
    subst hf
    exact V_iret C hQ dX8_worst_10
theorem ct_X8_worst {r : Int32} {N : Nat} {h : Hp} {v0 : Nat} (hf : f_X8_worst N h v0 = some r) (l : Launch) (G : GT) : MC l G yX8_worst cX8_worst 3 (some .int) rmX8_worst h [vR 8 (some v0)] (some (vI r)) h := MC_of (by decide) rfl (Nat.le_of_ble_eq_true rfl) rfl (fun X C hQ hin => p_X8_worst C hQ hf)
abbrev rmX8_seen : Room := { frames := 1, cells := 0, slots := 0, locals := 25 }
def f_X8_seen (h : Hp) (v0 : Nat) (v1 : Int32) (v2 : Int32) : Option (Int32 × Hp) := Option.bind (f_X8_isLevel h v0 v1) (fun r1 => if r1 = 0 then (some (((0 : Int32), h))) else (Option.bind (f_X8_in h (v2.toInt64) (-1 : Int64) (9999 : Int64)) (fun r3 => if r3 = 0 then (some (((0 : Int32), h))) else (Option.bind (hP h v0 26) (fun q5 => if 0 ≤ (55 : Int32) + v1 ∧ ((55 : Int32) + v1).toNatClampNeg < hL h q5 then (lt (sI h q5 (((55 : Int32) + v1).toNatClampNeg) v2) (fun h7 => some (((1 : Int32), h7)))) else none)))))
set_option maxHeartbeats 4000000 in
set_option maxRecDepth 100000 in
theorem p_X8_seen {X : XT} {r : Int32} {h' : Hp} (C : CX X cX8_seen "WaterStairModel" 3 (some .boolean) rmX8_seen) {h : Hp} {v0 : Nat} {v1 : Int32} {v2 : Int32} (hQ : QX X (some (vI r)) h' rmX8_seen.cells rmX8_seen.slots) (hf : f_X8_seen h v0 v1 v2 = some ((r, h'))) : V X 0 0 h 0 [(0, vR 8 (some v0)), (1, vI v1), (2, vI v2)] [] := by
  unfold f_X8_seen at hf
  refine V_aload_n C dX8_seen_0 rfl 0 rfl ?_
  refine V_iload_n C dX8_seen_1 rfl 1 rfl ?_
  obtain ⟨r1, er1, hf⟩ := o_b hf
  refine V_callV (as := [vI v1]) (st := []) C ml_X8_305 fx8 (ct_X8_isLevel er1) rfl ⟨by decide, by decide, by decide, by decide⟩ (Nat.le_of_ble_eq_true rfl) rfl dX8_seen_2 (cs' := 0) (sl' := 0) rfl rfl ?_
  refine V_if_eq C 22 dX8_seen_5 (by decide) (fun c2 => ?_) (fun c2 => ?_)
  · have hf := i_t c2 hf
    refine V_iconst (v := (0 : Int32)) C dX8_seen_22 (by decide) ?_
    obtain ⟨hf1, hf2⟩ := Prod.mk.inj (Option.some.inj hf)
    subst hf1
    subst hf2
    exact V_zret C (by decide) hQ dX8_seen_23
  · have hf := i_f c2 hf
    refine V_iload_n C dX8_seen_8 rfl 2 rfl ?_
    refine V_i2l C dX8_seen_9 ?_
    refine V_ldc2 C kl_X8_459 dX8_seen_10 ?_
    refine V_ldc2 C kl_X8_369 dX8_seen_13 ?_
    obtain ⟨r3, er3, hf⟩ := o_b hf
    refine V_callS (as := [vL (v2.toInt64), vL (-1 : Int64), vL (9999 : Int64)]) (st := []) C ml_X8_127 (ct_X8_in er3) rfl ⟨by decide, by decide, by decide, by decide⟩ (Nat.le_of_ble_eq_true rfl) rfl dX8_seen_16 (cs' := 0) (sl' := 0) rfl rfl ?_
    refine V_if_ne C 24 dX8_seen_19 (by decide) (fun c4 => ?_) (fun c4 => ?_)
    · have hf := i_f c4 hf
      refine V_aload_n C dX8_seen_24 rfl 0 rfl ?_
      obtain ⟨q5, eq5, hf⟩ := o_b hf
      refine V_getR C fl_X8_42 rfl rfl (by decide) eq5 dX8_seen_25 ?_
      refine V_bipush (v := (55 : Int32)) C dX8_seen_28 (by decide) ?_
      refine V_iload_n C dX8_seen_30 rfl 1 rfl ?_
      refine V_iadd C dX8_seen_31 ?_
      refine V_iload_n C dX8_seen_32 rfl 2 rfl ?_
      obtain ⟨g6, hf⟩ := o_if hf
      obtain ⟨h7, eh7, hf⟩ := o_l hf
      refine V_iast C (vp_g g6) rfl dX8_seen_33 (V_eqH eh7 ?_)
      refine V_iconst (v := (1 : Int32)) C dX8_seen_34 (by decide) ?_
      obtain ⟨hf1, hf2⟩ := Prod.mk.inj (Option.some.inj hf)
      subst hf1
      subst hf2
      exact V_zret C (by decide) hQ dX8_seen_35
    · have hf := i_t c4 hf
      refine V_iconst (v := (0 : Int32)) C dX8_seen_22 (by decide) ?_
      obtain ⟨hf1, hf2⟩ := Prod.mk.inj (Option.some.inj hf)
      subst hf1
      subst hf2
      exact V_zret C (by decide) hQ dX8_seen_23
theorem ct_X8_seen {r : Int32} {h' : Hp} {h : Hp} {v0 : Nat} {v1 : Int32} {v2 : Int32} (hf : f_X8_seen h v0 v1 v2 = some ((r, h'))) (l : Launch) (G : GT) : MC l G yX8_seen cX8_seen 3 (some .boolean) rmX8_seen h [vR 8 (some v0), vI v1, vI v2] (some (vI r)) h' := MC_of (by decide) rfl (Nat.le_of_ble_eq_true rfl) rfl (fun X C hQ hin => p_X8_seen C hQ hf)
abbrev rmX8_isSeen : Room := { frames := 1, cells := 0, slots := 0, locals := 21 }
def f_X8_isSeen_43 (N : Nat) (s2 : Hp → Nat → Int32 → Option (Int32)) (h : Hp) (v0 : Nat) (v1 : Int32) : Option (Int32) := s2 h v0 (v1 + (1 : Int32))
set_option maxHeartbeats 4000000 in
set_option maxRecDepth 100000 in
theorem p_X8_isSeen_43 {X : XT} {r : Int32} {h : Hp} (C : CX X cX8_isSeen "WaterStairModel" 2 (some .boolean) rmX8_isSeen) (hQ : QX X (some (vI r)) h rmX8_isSeen.cells rmX8_isSeen.slots) {N : Nat} {s2 : Hp → Nat → Int32 → Option (Int32)} (S2 : ∀ (v0 : Nat) (v1 : Int32), s2 h v0 v1 = some r → V X 0 0 h 2 [(0, vR 8 (some v0)), (1, vI v1)] [])  {v0 : Nat} {v1 : Int32} (hf : f_X8_isSeen_43 N s2 h v0 v1 = some r) : V X 0 0 h 43 [(0, vR 8 (some v0)), (1, vI v1)] [] := by
  unfold f_X8_isSeen_43 at hf
  refine V_iinc (lv' := [(1, vI (v1 + (1 : Int32))), (0, vR 8 (some v0))]) C dX8_isSeen_43 1 rfl (congrArg (v1 + ·) (by decide : Int32.ofInt (1) = (1 : Int32))) (by decide) rfl ?_
  refine V_goto C 2 dX8_isSeen_46 (by decide) ?_
  refine V_sub (lv' := [(0, vR 8 (some v0)), (1, vI (v1 + (1 : Int32)))]) [1, 0] rfl ?_
  exact S2 _ _ hf
def f_X8_isSeen_2 (N : Nat) : Nat → Hp → Nat → Int32 → Option (Int32)
  | 0, _, _, _ => none
  | n + 1, h, v0, v1 => Option.bind (hP h v0 26) (fun q1 => if 0 < hL h q1 then (if (hI h q1 (0)) ≤ v1 then (some (1 : Int32)) else (Option.bind (hP h v0 26) (fun q4 => if 0 ≤ (55 : Int32) + v1 ∧ ((55 : Int32) + v1).toNatClampNeg < hL h q4 then (if (hI h q4 (((55 : Int32) + v1).toNatClampNeg)) < 0 then (f_X8_isSeen_43 N (f_X8_isSeen_2 N n) h v0 v1) else (Option.bind (hP h v0 26) (fun q7 => if 0 ≤ (55 : Int32) + v1 ∧ ((55 : Int32) + v1).toNatClampNeg < hL h q7 then (Option.bind (f_X8_waterOf h v0 v1) (fun r9 => if (hI h q7 (((55 : Int32) + v1).toNatClampNeg)) = r9 then (f_X8_isSeen_43 N (f_X8_isSeen_2 N n) h v0 v1) else (some (0 : Int32)))) else none))) else none))) else none)
set_option maxHeartbeats 4000000 in
set_option maxRecDepth 100000 in
theorem p_X8_isSeen_2 {X : XT} {r : Int32} {h : Hp} (C : CX X cX8_isSeen "WaterStairModel" 2 (some .boolean) rmX8_isSeen) (hQ : QX X (some (vI r)) h rmX8_isSeen.cells rmX8_isSeen.slots) {N : Nat}  : ∀ (n : Nat) (v0 : Nat) (v1 : Int32), f_X8_isSeen_2 N n h v0 v1 = some r → V X 0 0 h 2 [(0, vR 8 (some v0)), (1, vI v1)] [] := by
  intro n
  induction n with
  | zero =>
    intro v0 v1 hf
    have hf : (none : Option (Int32)) = some _ := hf
    cases hf
  | succ n ih =>
    intro v0 v1 hf
    rw [f_X8_isSeen_2] at hf
    refine V_iload_n C dX8_isSeen_2 rfl 1 rfl ?_
    refine V_aload_n C dX8_isSeen_3 rfl 0 rfl ?_
    obtain ⟨q1, eq1, hf⟩ := o_b hf
    refine V_getR C fl_X8_42 rfl rfl (by decide) eq1 dX8_isSeen_4 ?_
    refine V_iconst (v := (0 : Int32)) C dX8_isSeen_7 (by decide) ?_
    obtain ⟨g2, hf⟩ := o_if hf
    refine V_iald C (vp_k (by decide) (by decide) g2) (by decide : Int32.toNatClampNeg (0 : Int32) = 0) dX8_isSeen_8 ?_
    refine V_icmp_ge C 49 dX8_isSeen_9 (by decide) (fun c3 => ?_) (fun c3 => ?_)
    · have hf := i_t c3 hf
      refine V_iconst (v := (1 : Int32)) C dX8_isSeen_49 (by decide) ?_
      have hf := Option.some.inj hf
      subst hf
      exact V_zret C (by decide) hQ dX8_isSeen_50
    · have hf := i_f c3 hf
      refine V_aload_n C dX8_isSeen_12 rfl 0 rfl ?_
      obtain ⟨q4, eq4, hf⟩ := o_b hf
      refine V_getR C fl_X8_42 rfl rfl (by decide) eq4 dX8_isSeen_13 ?_
      refine V_bipush (v := (55 : Int32)) C dX8_isSeen_16 (by decide) ?_
      refine V_iload_n C dX8_isSeen_18 rfl 1 rfl ?_
      refine V_iadd C dX8_isSeen_19 ?_
      obtain ⟨g5, hf⟩ := o_if hf
      refine V_iald C (vp_g g5) rfl dX8_isSeen_20 ?_
      refine V_if_lt C 43 dX8_isSeen_21 (by decide) (fun c6 => ?_) (fun c6 => ?_)
      · have hf := i_t c6 hf
        refine V_sub (lv' := [(0, vR 8 (some v0)), (1, vI v1)]) [0, 1] rfl ?_
        exact p_X8_isSeen_43 C hQ ih hf
      · have hf := i_f c6 hf
        refine V_aload_n C dX8_isSeen_24 rfl 0 rfl ?_
        obtain ⟨q7, eq7, hf⟩ := o_b hf
        refine V_getR C fl_X8_42 rfl rfl (by decide) eq7 dX8_isSeen_25 ?_
        refine V_bipush (v := (55 : Int32)) C dX8_isSeen_28 (by decide) ?_
        refine V_iload_n C dX8_isSeen_30 rfl 1 rfl ?_
        refine V_iadd C dX8_isSeen_31 ?_
        obtain ⟨g8, hf⟩ := o_if hf
        refine V_iald C (vp_g g8) rfl dX8_isSeen_32 ?_
        refine V_aload_n C dX8_isSeen_33 rfl 0 rfl ?_
        refine V_iload_n C dX8_isSeen_34 rfl 1 rfl ?_
        obtain ⟨r9, er9, hf⟩ := o_b hf
        refine V_callV (as := [vI v1]) (st := [vI (hI h q7 (((55 : Int32) + v1).toNatClampNeg))]) C ml_X8_330 fx8 (ct_X8_waterOf er9) rfl ⟨by decide, by decide, by decide, by decide⟩ (Nat.le_of_ble_eq_true rfl) rfl dX8_isSeen_35 (cs' := 0) (sl' := 0) rfl rfl ?_
        refine V_icmp_eq C 43 dX8_isSeen_38 (by decide) (fun c10 => ?_) (fun c10 => ?_)
        · have hf := i_t c10 hf
          refine V_sub (lv' := [(0, vR 8 (some v0)), (1, vI v1)]) [0, 1] rfl ?_
          exact p_X8_isSeen_43 C hQ ih hf
        · have hf := i_f c10 hf
          refine V_iconst (v := (0 : Int32)) C dX8_isSeen_41 (by decide) ?_
          have hf := Option.some.inj hf
          subst hf
          exact V_zret C (by decide) hQ dX8_isSeen_42
def f_X8_isSeen (N : Nat) (h : Hp) (v0 : Nat) : Option (Int32) := f_X8_isSeen_2 N N h v0 (0 : Int32)
set_option maxHeartbeats 4000000 in
set_option maxRecDepth 100000 in
theorem p_X8_isSeen {X : XT} {r : Int32} (C : CX X cX8_isSeen "WaterStairModel" 2 (some .boolean) rmX8_isSeen) {N : Nat} {h : Hp} {v0 : Nat} (hQ : QX X (some (vI r)) h rmX8_isSeen.cells rmX8_isSeen.slots) (hf : f_X8_isSeen N h v0 = some r) : V X 0 0 h 0 [(0, vR 8 (some v0))] [] := by
  unfold f_X8_isSeen at hf
  refine V_iconst (v := (0 : Int32)) C dX8_isSeen_0 (by decide) ?_
  refine V_istore_n (lv' := [(1, vI (0 : Int32)), (0, vR 8 (some v0))]) C dX8_isSeen_1 rfl (by decide) rfl ?_
  refine V_sub (lv' := [(0, vR 8 (some v0)), (1, vI (0 : Int32))]) [1, 0] rfl ?_
  exact p_X8_isSeen_2 C hQ N _ _ hf
theorem ct_X8_isSeen {r : Int32} {N : Nat} {h : Hp} {v0 : Nat} (hf : f_X8_isSeen N h v0 = some r) (l : Launch) (G : GT) : MC l G yX8_isSeen cX8_isSeen 2 (some .boolean) rmX8_isSeen h [vR 8 (some v0)] (some (vI r)) h := MC_of (by decide) rfl (Nat.le_of_ble_eq_true rfl) rfl (fun X C hQ hin => p_X8_isSeen C hQ hf)
abbrev rmX8_keepsAt : Room := { frames := 0, cells := 0, slots := 0, locals := 0 }
def f_X8_keepsAt_2 (N : Nat) : Nat → Hp → Nat → Int32 → Int32 → Option (Hp)
  | 0, _, _, _, _ => none
  | n + 1, h, v0, v1, v2 => if (93 : Int32) ≤ v2 then (some h) else (Option.bind (hP h v0 39) (fun q2 => Option.bind (hP h v0 26) (fun q3 => if 0 ≤ v2 ∧ v2.toNatClampNeg < hL h q3 then (lt (hI h q3 (v2.toNatClampNeg)) (fun y5 => if 0 ≤ ((93 : Int32) * v1) + v2 ∧ (((93 : Int32) * v1) + v2).toNatClampNeg < hL h q2 then (lt (sI h q2 ((((93 : Int32) * v1) + v2).toNatClampNeg) y5) (fun h7 => f_X8_keepsAt_2 N n h7 v0 v1 (v2 + (1 : Int32)))) else none)) else none)))
set_option maxHeartbeats 4000000 in
set_option maxRecDepth 100000 in
theorem p_X8_keepsAt_2 {X : XT} {h' : Hp} (C : CX X cX8_keepsAt "WaterStairModel" 3 none rmX8_keepsAt) (hQ : QX X none h' rmX8_keepsAt.cells rmX8_keepsAt.slots) {N : Nat}  : ∀ (n : Nat) (h : Hp) (v0 : Nat) (v1 : Int32) (v2 : Int32), f_X8_keepsAt_2 N n h v0 v1 v2 = some h' → V X 0 0 h 2 [(0, vR 8 (some v0)), (1, vI v1), (2, vI v2)] [] := by
  intro n
  induction n with
  | zero =>
    intro h v0 v1 v2 hf
    have hf : (none : Option (Hp)) = some _ := hf
    cases hf
  | succ n ih =>
    intro h v0 v1 v2 hf
    rw [f_X8_keepsAt_2] at hf
    refine V_iload_n C dX8_keepsAt_2 rfl 2 rfl ?_
    refine V_bipush (v := (93 : Int32)) C dX8_keepsAt_3 (by decide) ?_
    refine V_icmp_ge C 31 dX8_keepsAt_5 (by decide) (fun c1 => ?_) (fun c1 => ?_)
    · have hf := i_t c1 hf
      have hf := Option.some.inj hf
      subst hf
      exact V_vret C hQ dX8_keepsAt_31
    · have hf := i_f c1 hf
      refine V_aload_n C dX8_keepsAt_8 rfl 0 rfl ?_
      obtain ⟨q2, eq2, hf⟩ := o_b hf
      refine V_getR C fl_X8_73 rfl rfl (by decide) eq2 dX8_keepsAt_9 ?_
      refine V_bipush (v := (93 : Int32)) C dX8_keepsAt_12 (by decide) ?_
      refine V_iload_n C dX8_keepsAt_14 rfl 1 rfl ?_
      refine V_imul C dX8_keepsAt_15 ?_
      refine V_iload_n C dX8_keepsAt_16 rfl 2 rfl ?_
      refine V_iadd C dX8_keepsAt_17 ?_
      refine V_aload_n C dX8_keepsAt_18 rfl 0 rfl ?_
      obtain ⟨q3, eq3, hf⟩ := o_b hf
      refine V_getR C fl_X8_42 rfl rfl (by decide) eq3 dX8_keepsAt_19 ?_
      refine V_iload_n C dX8_keepsAt_22 rfl 2 rfl ?_
      obtain ⟨g4, hf⟩ := o_if hf
      refine V_iald C (vp_g g4) rfl dX8_keepsAt_23 ?_
      obtain ⟨y5, ey5, hf⟩ := o_l hf
      refine V_eqI ey5 ?_
      obtain ⟨g6, hf⟩ := o_if hf
      obtain ⟨h7, eh7, hf⟩ := o_l hf
      refine V_iast C (vp_g g6) rfl dX8_keepsAt_24 (V_eqH eh7 ?_)
      refine V_iinc (lv' := [(2, vI (v2 + (1 : Int32))), (0, vR 8 (some v0)), (1, vI v1)]) C dX8_keepsAt_25 2 rfl (congrArg (v2 + ·) (by decide : Int32.ofInt (1) = (1 : Int32))) (by decide) rfl ?_
      refine V_goto C 2 dX8_keepsAt_28 (by decide) ?_
      refine V_sub (lv' := [(0, vR 8 (some v0)), (1, vI v1), (2, vI (v2 + (1 : Int32)))]) [1, 2, 0] rfl ?_
      exact ih _ _ _ _ hf
def f_X8_keepsAt (N : Nat) (h : Hp) (v0 : Nat) (v1 : Int32) : Option (Hp) := f_X8_keepsAt_2 N N h v0 v1 (0 : Int32)
set_option maxHeartbeats 4000000 in
set_option maxRecDepth 100000 in
theorem p_X8_keepsAt {X : XT} {h' : Hp} (C : CX X cX8_keepsAt "WaterStairModel" 3 none rmX8_keepsAt) {N : Nat} {h : Hp} {v0 : Nat} {v1 : Int32} (hQ : QX X none h' rmX8_keepsAt.cells rmX8_keepsAt.slots) (hf : f_X8_keepsAt N h v0 v1 = some h') : V X 0 0 h 0 [(0, vR 8 (some v0)), (1, vI v1)] [] := by
  unfold f_X8_keepsAt at hf
  refine V_iconst (v := (0 : Int32)) C dX8_keepsAt_0 (by decide) ?_
  refine V_istore_n (lv' := [(2, vI (0 : Int32)), (0, vR 8 (some v0)), (1, vI v1)]) C dX8_keepsAt_1 rfl (by decide) rfl ?_
  refine V_sub (lv' := [(0, vR 8 (some v0)), (1, vI v1), (2, vI (0 : Int32))]) [1, 2, 0] rfl ?_
  exact p_X8_keepsAt_2 C hQ N _ _ _ _ hf
theorem ct_X8_keepsAt {h' : Hp} {N : Nat} {h : Hp} {v0 : Nat} {v1 : Int32} (hf : f_X8_keepsAt N h v0 v1 = some h') (l : Launch) (G : GT) : MC l G yX8_keepsAt cX8_keepsAt 3 none rmX8_keepsAt h [vR 8 (some v0), vI v1] none h' := MC_of (by decide) rfl (Nat.le_of_ble_eq_true rfl) rfl (fun X C hQ hin => p_X8_keepsAt C hQ hf)
abbrev rmX8_putsBackAt : Room := { frames := 0, cells := 0, slots := 0, locals := 0 }
def f_X8_putsBackAt_2 (N : Nat) : Nat → Hp → Nat → Int32 → Int32 → Option (Hp)
  | 0, _, _, _, _ => none
  | n + 1, h, v0, v1, v2 => if (93 : Int32) ≤ v2 then (some h) else (Option.bind (hP h v0 26) (fun q2 => Option.bind (hP h v0 39) (fun q3 => if 0 ≤ ((93 : Int32) * v1) + v2 ∧ (((93 : Int32) * v1) + v2).toNatClampNeg < hL h q3 then (lt (hI h q3 ((((93 : Int32) * v1) + v2).toNatClampNeg)) (fun y5 => if 0 ≤ v2 ∧ v2.toNatClampNeg < hL h q2 then (lt (sI h q2 (v2.toNatClampNeg) y5) (fun h7 => f_X8_putsBackAt_2 N n h7 v0 v1 (v2 + (1 : Int32)))) else none)) else none)))
set_option maxHeartbeats 4000000 in
set_option maxRecDepth 100000 in
theorem p_X8_putsBackAt_2 {X : XT} {h' : Hp} (C : CX X cX8_putsBackAt "WaterStairModel" 3 none rmX8_putsBackAt) (hQ : QX X none h' rmX8_putsBackAt.cells rmX8_putsBackAt.slots) {N : Nat}  : ∀ (n : Nat) (h : Hp) (v0 : Nat) (v1 : Int32) (v2 : Int32), f_X8_putsBackAt_2 N n h v0 v1 v2 = some h' → V X 0 0 h 2 [(0, vR 8 (some v0)), (1, vI v1), (2, vI v2)] [] := by
  intro n
  induction n with
  | zero =>
    intro h v0 v1 v2 hf
    have hf : (none : Option (Hp)) = some _ := hf
    cases hf
  | succ n ih =>
    intro h v0 v1 v2 hf
    rw [f_X8_putsBackAt_2] at hf
    refine V_iload_n C dX8_putsBackAt_2 rfl 2 rfl ?_
    refine V_bipush (v := (93 : Int32)) C dX8_putsBackAt_3 (by decide) ?_
    refine V_icmp_ge C 31 dX8_putsBackAt_5 (by decide) (fun c1 => ?_) (fun c1 => ?_)
    · have hf := i_t c1 hf
      have hf := Option.some.inj hf
      subst hf
      exact V_vret C hQ dX8_putsBackAt_31
    · have hf := i_f c1 hf
      refine V_aload_n C dX8_putsBackAt_8 rfl 0 rfl ?_
      obtain ⟨q2, eq2, hf⟩ := o_b hf
      refine V_getR C fl_X8_42 rfl rfl (by decide) eq2 dX8_putsBackAt_9 ?_
      refine V_iload_n C dX8_putsBackAt_12 rfl 2 rfl ?_
      refine V_aload_n C dX8_putsBackAt_13 rfl 0 rfl ?_
      obtain ⟨q3, eq3, hf⟩ := o_b hf
      refine V_getR C fl_X8_73 rfl rfl (by decide) eq3 dX8_putsBackAt_14 ?_
      refine V_bipush (v := (93 : Int32)) C dX8_putsBackAt_17 (by decide) ?_
      refine V_iload_n C dX8_putsBackAt_19 rfl 1 rfl ?_
      refine V_imul C dX8_putsBackAt_20 ?_
      refine V_iload_n C dX8_putsBackAt_21 rfl 2 rfl ?_
      refine V_iadd C dX8_putsBackAt_22 ?_
      obtain ⟨g4, hf⟩ := o_if hf
      refine V_iald C (vp_g g4) rfl dX8_putsBackAt_23 ?_
      obtain ⟨y5, ey5, hf⟩ := o_l hf
      refine V_eqI ey5 ?_
      obtain ⟨g6, hf⟩ := o_if hf
      obtain ⟨h7, eh7, hf⟩ := o_l hf
      refine V_iast C (vp_g g6) rfl dX8_putsBackAt_24 (V_eqH eh7 ?_)
      refine V_iinc (lv' := [(2, vI (v2 + (1 : Int32))), (0, vR 8 (some v0)), (1, vI v1)]) C dX8_putsBackAt_25 2 rfl (congrArg (v2 + ·) (by decide : Int32.ofInt (1) = (1 : Int32))) (by decide) rfl ?_
      refine V_goto C 2 dX8_putsBackAt_28 (by decide) ?_
      refine V_sub (lv' := [(0, vR 8 (some v0)), (1, vI v1), (2, vI (v2 + (1 : Int32)))]) [1, 2, 0] rfl ?_
      exact ih _ _ _ _ hf
def f_X8_putsBackAt (N : Nat) (h : Hp) (v0 : Nat) (v1 : Int32) : Option (Hp) := f_X8_putsBackAt_2 N N h v0 v1 (0 : Int32)
set_option maxHeartbeats 4000000 in
set_option maxRecDepth 100000 in
theorem p_X8_putsBackAt {X : XT} {h' : Hp} (C : CX X cX8_putsBackAt "WaterStairModel" 3 none rmX8_putsBackAt) {N : Nat} {h : Hp} {v0 : Nat} {v1 : Int32} (hQ : QX X none h' rmX8_putsBackAt.cells rmX8_putsBackAt.slots) (hf : f_X8_putsBackAt N h v0 v1 = some h') : V X 0 0 h 0 [(0, vR 8 (some v0)), (1, vI v1)] [] := by
  unfold f_X8_putsBackAt at hf
  refine V_iconst (v := (0 : Int32)) C dX8_putsBackAt_0 (by decide) ?_
  refine V_istore_n (lv' := [(2, vI (0 : Int32)), (0, vR 8 (some v0)), (1, vI v1)]) C dX8_putsBackAt_1 rfl (by decide) rfl ?_
  refine V_sub (lv' := [(0, vR 8 (some v0)), (1, vI v1), (2, vI (0 : Int32))]) [1, 2, 0] rfl ?_
  exact p_X8_putsBackAt_2 C hQ N _ _ _ _ hf
theorem ct_X8_putsBackAt {h' : Hp} {N : Nat} {h : Hp} {v0 : Nat} {v1 : Int32} (hf : f_X8_putsBackAt N h v0 v1 = some h') (l : Launch) (G : GT) : MC l G yX8_putsBackAt cX8_putsBackAt 3 none rmX8_putsBackAt h [vR 8 (some v0), vI v1] none h' := MC_of (by decide) rfl (Nat.le_of_ble_eq_true rfl) rfl (fun X C hQ hin => p_X8_putsBackAt C hQ hf)
abbrev rmX8_rowsOf : Room := { frames := 7, cells := 0, slots := 0, locals := 158 }
def f_X8_rowsOf_168 (N : Nat) (s16 : Hp → Nat → Int32 → Int32 → Int32 → Option (Int32 × Hp)) (h : Hp) (v0 : Nat) (v1 : Int32) (v2 : Int32) (v3 : Int32) : Option (Int32 × Hp) := s16 h v0 v1 (v2 + (1 : Int32)) v3
set_option maxHeartbeats 4000000 in
set_option maxRecDepth 100000 in
theorem p_X8_rowsOf_168 {X : XT} {r : Int32} {h' : Hp} (C : CX X cX8_rowsOf "WaterStairModel" 5 (some .int) rmX8_rowsOf) (hQ : QX X (some (vI r)) h' rmX8_rowsOf.cells rmX8_rowsOf.slots) {N : Nat} {s16 : Hp → Nat → Int32 → Int32 → Int32 → Option (Int32 × Hp)} (S16 : ∀ (h : Hp) (v0 : Nat) (v1 : Int32) (v2 : Int32) (v3 : Int32), s16 h v0 v1 v2 v3 = some ((r, h')) → V X 0 0 h 16 [(0, vR 8 (some v0)), (1, vI v1), (2, vI v2), (3, vI v3)] []) {h : Hp} {v0 : Nat} {v1 : Int32} {v2 : Int32} {v3 : Int32} (hf : f_X8_rowsOf_168 N s16 h v0 v1 v2 v3 = some ((r, h'))) : V X 0 0 h 168 [(0, vR 8 (some v0)), (1, vI v1), (2, vI v2), (3, vI v3)] [] := by
  unfold f_X8_rowsOf_168 at hf
  refine V_iinc (lv' := [(2, vI (v2 + (1 : Int32))), (0, vR 8 (some v0)), (1, vI v1), (3, vI v3)]) C dX8_rowsOf_168 2 rfl (congrArg (v2 + ·) (by decide : Int32.ofInt (1) = (1 : Int32))) (by decide) rfl ?_
  refine V_goto C 16 dX8_rowsOf_171 (by decide) ?_
  refine V_sub (lv' := [(0, vR 8 (some v0)), (1, vI v1), (2, vI (v2 + (1 : Int32))), (3, vI v3)]) [1, 2, 0, 3] rfl ?_
  exact S16 _ _ _ _ _ hf
def f_X8_rowsOf_138 (N : Nat) (s16 : Hp → Nat → Int32 → Int32 → Int32 → Option (Int32 × Hp)) : Nat → Hp → Nat → Int32 → Int32 → Int32 → Int32 → Option (Int32 × Hp)
  | 0, _, _, _, _, _, _ => none
  | n + 1, h, v0, v1, v2, v3, v4 => if v1 ≤ v4 then (f_X8_rowsOf_168 N s16 h v0 v1 v2 v3) else (if v2 = 0 then (Option.bind (hP h v0 41) (fun q3 => Option.bind (hP h v0 40) (fun q4 => if 0 ≤ v4 ∧ v4.toNatClampNeg < hL h q4 then (lt (hI h q4 (v4.toNatClampNeg)) (fun y6 => if 0 ≤ v4 ∧ v4.toNatClampNeg < hL h q3 then (lt (sI h q3 (v4.toNatClampNeg) y6) (fun h8 => f_X8_rowsOf_138 N s16 n h8 v0 v1 v2 v3 (v4 + (1 : Int32)))) else none)) else none))) else (f_X8_rowsOf_168 N s16 h v0 v1 v2 v3))
set_option maxHeartbeats 4000000 in
set_option maxRecDepth 100000 in
theorem p_X8_rowsOf_138 {X : XT} {r : Int32} {h' : Hp} (C : CX X cX8_rowsOf "WaterStairModel" 5 (some .int) rmX8_rowsOf) (hQ : QX X (some (vI r)) h' rmX8_rowsOf.cells rmX8_rowsOf.slots) {N : Nat} {s16 : Hp → Nat → Int32 → Int32 → Int32 → Option (Int32 × Hp)} (S16 : ∀ (h : Hp) (v0 : Nat) (v1 : Int32) (v2 : Int32) (v3 : Int32), s16 h v0 v1 v2 v3 = some ((r, h')) → V X 0 0 h 16 [(0, vR 8 (some v0)), (1, vI v1), (2, vI v2), (3, vI v3)] []) : ∀ (n : Nat) (h : Hp) (v0 : Nat) (v1 : Int32) (v2 : Int32) (v3 : Int32) (v4 : Int32), f_X8_rowsOf_138 N s16 n h v0 v1 v2 v3 v4 = some ((r, h')) → V X 0 0 h 138 [(0, vR 8 (some v0)), (1, vI v1), (2, vI v2), (3, vI v3), (4, vI v4)] [] := by
  intro n
  induction n with
  | zero =>
    intro h v0 v1 v2 v3 v4 hf
    have hf : (none : Option (Int32 × Hp)) = some _ := hf
    cases hf
  | succ n ih =>
    intro h v0 v1 v2 v3 v4 hf
    rw [f_X8_rowsOf_138] at hf
    refine V_iload C dX8_rowsOf_138 4 rfl ?_
    refine V_iload_n C dX8_rowsOf_140 rfl 1 rfl ?_
    refine V_icmp_ge C 168 dX8_rowsOf_141 (by decide) (fun c1 => ?_) (fun c1 => ?_)
    · have hf := i_t c1 hf
      refine V_sub (lv' := [(0, vR 8 (some v0)), (1, vI v1), (2, vI v2), (3, vI v3)]) [0, 1, 2, 3] rfl ?_
      exact p_X8_rowsOf_168 C hQ S16 hf
    · have hf := i_f c1 hf
      refine V_iload_n C dX8_rowsOf_144 rfl 2 rfl ?_
      refine V_if_ne C 168 dX8_rowsOf_145 (by decide) (fun c2 => ?_) (fun c2 => ?_)
      · have hf := i_f c2 hf
        refine V_sub (lv' := [(0, vR 8 (some v0)), (1, vI v1), (2, vI v2), (3, vI v3)]) [0, 1, 2, 3] rfl ?_
        exact p_X8_rowsOf_168 C hQ S16 hf
      · have hf := i_t c2 hf
        refine V_aload_n C dX8_rowsOf_148 rfl 0 rfl ?_
        obtain ⟨q3, eq3, hf⟩ := o_b hf
        refine V_getR C fl_X8_79 rfl rfl (by decide) eq3 dX8_rowsOf_149 ?_
        refine V_iload C dX8_rowsOf_152 4 rfl ?_
        refine V_aload_n C dX8_rowsOf_154 rfl 0 rfl ?_
        obtain ⟨q4, eq4, hf⟩ := o_b hf
        refine V_getR C fl_X8_76 rfl rfl (by decide) eq4 dX8_rowsOf_155 ?_
        refine V_iload C dX8_rowsOf_158 4 rfl ?_
        obtain ⟨g5, hf⟩ := o_if hf
        refine V_iald C (vp_g g5) rfl dX8_rowsOf_160 ?_
        obtain ⟨y6, ey6, hf⟩ := o_l hf
        refine V_eqI ey6 ?_
        obtain ⟨g7, hf⟩ := o_if hf
        obtain ⟨h8, eh8, hf⟩ := o_l hf
        refine V_iast C (vp_g g7) rfl dX8_rowsOf_161 (V_eqH eh8 ?_)
        refine V_iinc (lv' := [(4, vI (v4 + (1 : Int32))), (0, vR 8 (some v0)), (1, vI v1), (2, vI v2), (3, vI v3)]) C dX8_rowsOf_162 4 rfl (congrArg (v4 + ·) (by decide : Int32.ofInt (1) = (1 : Int32))) (by decide) rfl ?_
        refine V_goto C 138 dX8_rowsOf_165 (by decide) ?_
        refine V_sub (lv' := [(0, vR 8 (some v0)), (1, vI v1), (2, vI v2), (3, vI v3), (4, vI (v4 + (1 : Int32)))]) [1, 2, 3, 4, 0] rfl ?_
        exact ih _ _ _ _ _ _ hf
def f_X8_rowsOf_174 (N : Nat) (h : Hp) (v0 : Nat) (v2 : Int32) : Option (Int32 × Hp) := Option.bind (f_X8_putsBackAt N h v0 (0 : Int32)) (fun h9 => some ((v2, h9)))
set_option maxHeartbeats 4000000 in
set_option maxRecDepth 100000 in
theorem p_X8_rowsOf_174 {X : XT} {r : Int32} {h' : Hp} (C : CX X cX8_rowsOf "WaterStairModel" 5 (some .int) rmX8_rowsOf) (hQ : QX X (some (vI r)) h' rmX8_rowsOf.cells rmX8_rowsOf.slots) {N : Nat}  {h : Hp} {v0 : Nat} {v2 : Int32} (hf : f_X8_rowsOf_174 N h v0 v2 = some ((r, h'))) : V X 0 0 h 174 [(0, vR 8 (some v0)), (2, vI v2)] [] := by
  unfold f_X8_rowsOf_174 at hf
  refine V_aload_n C dX8_rowsOf_174 rfl 0 rfl ?_
  refine V_iconst (v := (0 : Int32)) C dX8_rowsOf_175 (by decide) ?_
  obtain ⟨h9, eh9, hf⟩ := o_b hf
  refine V_callV (as := [vI (0 : Int32)]) (st := []) C ml_X8_464 fx8 (ct_X8_putsBackAt eh9) rfl ⟨by decide, by decide, by decide, by decide⟩ (Nat.le_of_ble_eq_true rfl) rfl dX8_rowsOf_176 (cs' := 0) (sl' := 0) rfl rfl ?_
  refine V_iload_n C dX8_rowsOf_179 rfl 1 rfl ?_
  obtain ⟨hf1, hf2⟩ := Prod.mk.inj (Option.some.inj hf)
  subst hf1
  subst hf2
  exact V_iret C hQ dX8_rowsOf_180
def f_X8_rowsOf_16 (N : Nat) : Nat → Hp → Nat → Int32 → Int32 → Int32 → Option (Int32 × Hp)
  | 0, _, _, _, _, _ => none
  | n + 1, h, v0, v1, v2, v3 => if v3 < 0 then (f_X8_rowsOf_174 N h v0 v2) else (if (30000 : Int32) ≤ v2 then (f_X8_rowsOf_174 N h v0 v2) else (Option.bind (f_X8_putsBackAt N h v0 v3) (fun h12 => Option.bind (hP h12 v0 40) (fun q13 => Option.bind (hP h12 v0 40) (fun q14 => if 0 ≤ v3 ∧ v3.toNatClampNeg < hL h12 q14 then (b2 (f_X8_firstFrom N h12 v0 ((hI h12 q14 (v3.toNatClampNeg)) + (1 : Int32))) (fun r16 h17 => if 0 ≤ v3 ∧ v3.toNatClampNeg < hL h17 q13 then (lt (sI h17 q13 (v3.toNatClampNeg) r16) (fun h19 => Option.bind (hP h19 v0 40) (fun q20 => if 0 ≤ v3 ∧ v3.toNatClampNeg < hL h19 q20 then (if 0 ≤ (hI h19 q20 (v3.toNatClampNeg)) then (Option.bind (hP h19 v0 40) (fun q23 => if 0 ≤ v3 ∧ v3.toNatClampNeg < hL h19 q23 then (Option.bind (f_X8_stepBy h19 v0 (hI h19 q23 (v3.toNatClampNeg))) (fun r25 => Option.bind (hP h19 v0 40) (fun q26 => if 0 ≤ v3 ∧ v3.toNatClampNeg < hL h19 q26 then (Option.bind (f_X8_downBy h19 v0 (hI h19 q26 (v3.toNatClampNeg))) (fun r28 => Option.bind (hP h19 v0 40) (fun q29 => if 0 ≤ v3 ∧ v3.toNatClampNeg < hL h19 q29 then (Option.bind (f_X8_upBy h19 v0 (hI h19 q29 (v3.toNatClampNeg))) (fun r31 => b2 (f_X8_does h19 v0 r25 r28 r31) (fun r32 h33 => if (v1 - (1 : Int32)) ≤ v3 then (Option.bind (f_X8_isSeen N h33 v0) (fun r35 => if r35 = 0 then (f_X8_rowsOf_16 N n h33 v0 v1 v2 v3) else (f_X8_rowsOf_138 N (f_X8_rowsOf_16 N n) N h33 v0 v1 v2 v3 (0 : Int32)))) else (Option.bind (f_X8_keepsAt N h33 v0 (v3 + (1 : Int32))) (fun h37 => Option.bind (hP h37 v0 40) (fun q38 => if 0 ≤ v3 + (1 : Int32) ∧ (v3 + (1 : Int32)).toNatClampNeg < hL h37 q38 then (lt (sI h37 q38 ((v3 + (1 : Int32)).toNatClampNeg) (-1 : Int32)) (fun h40 => f_X8_rowsOf_16 N n h40 v0 v1 v2 (v3 + (1 : Int32)))) else none)))))) else none))) else none))) else none)) else (f_X8_rowsOf_16 N n h19 v0 v1 v2 (v3 + (-1 : Int32)))) else none))) else none)) else none)))))
set_option maxHeartbeats 4000000 in
set_option maxRecDepth 100000 in
theorem p_X8_rowsOf_16 {X : XT} {r : Int32} {h' : Hp} (C : CX X cX8_rowsOf "WaterStairModel" 5 (some .int) rmX8_rowsOf) (hQ : QX X (some (vI r)) h' rmX8_rowsOf.cells rmX8_rowsOf.slots) {N : Nat}  : ∀ (n : Nat) (h : Hp) (v0 : Nat) (v1 : Int32) (v2 : Int32) (v3 : Int32), f_X8_rowsOf_16 N n h v0 v1 v2 v3 = some ((r, h')) → V X 0 0 h 16 [(0, vR 8 (some v0)), (1, vI v1), (2, vI v2), (3, vI v3)] [] := by
  intro n
  induction n with
  | zero =>
    intro h v0 v1 v2 v3 hf
    have hf : (none : Option (Int32 × Hp)) = some _ := hf
    cases hf
  | succ n ih =>
    intro h v0 v1 v2 v3 hf
    rw [f_X8_rowsOf_16] at hf
    refine V_iload_n C dX8_rowsOf_16 rfl 3 rfl ?_
    refine V_if_lt C 174 dX8_rowsOf_17 (by decide) (fun c10 => ?_) (fun c10 => ?_)
    · have hf := i_t c10 hf
      refine V_sub (lv' := [(0, vR 8 (some v0)), (2, vI v2)]) [0, 2] rfl ?_
      exact p_X8_rowsOf_174 C hQ hf
    · have hf := i_f c10 hf
      refine V_iload_n C dX8_rowsOf_20 rfl 2 rfl ?_
      refine V_sipush (v := (30000 : Int32)) C dX8_rowsOf_21 (by decide) ?_
      refine V_icmp_ge C 174 dX8_rowsOf_24 (by decide) (fun c11 => ?_) (fun c11 => ?_)
      · have hf := i_t c11 hf
        refine V_sub (lv' := [(0, vR 8 (some v0)), (2, vI v2)]) [0, 2] rfl ?_
        exact p_X8_rowsOf_174 C hQ hf
      · have hf := i_f c11 hf
        refine V_aload_n C dX8_rowsOf_27 rfl 0 rfl ?_
        refine V_iload_n C dX8_rowsOf_28 rfl 3 rfl ?_
        obtain ⟨h12, eh12, hf⟩ := o_b hf
        refine V_callV (as := [vI v3]) (st := []) C ml_X8_464 fx8 (ct_X8_putsBackAt eh12) rfl ⟨by decide, by decide, by decide, by decide⟩ (Nat.le_of_ble_eq_true rfl) rfl dX8_rowsOf_29 (cs' := 0) (sl' := 0) rfl rfl ?_
        refine V_aload_n C dX8_rowsOf_32 rfl 0 rfl ?_
        obtain ⟨q13, eq13, hf⟩ := o_b hf
        refine V_getR C fl_X8_76 rfl rfl (by decide) eq13 dX8_rowsOf_33 ?_
        refine V_iload_n C dX8_rowsOf_36 rfl 3 rfl ?_
        refine V_aload_n C dX8_rowsOf_37 rfl 0 rfl ?_
        refine V_aload_n C dX8_rowsOf_38 rfl 0 rfl ?_
        obtain ⟨q14, eq14, hf⟩ := o_b hf
        refine V_getR C fl_X8_76 rfl rfl (by decide) eq14 dX8_rowsOf_39 ?_
        refine V_iload_n C dX8_rowsOf_42 rfl 3 rfl ?_
        obtain ⟨g15, hf⟩ := o_if hf
        refine V_iald C (vp_g g15) rfl dX8_rowsOf_43 ?_
        refine V_iconst (v := (1 : Int32)) C dX8_rowsOf_44 (by decide) ?_
        refine V_iadd C dX8_rowsOf_45 ?_
        obtain ⟨r16, h17, er16, hf⟩ := o_b2 hf
        refine V_callV (as := [vI ((hI h12 q14 (v3.toNatClampNeg)) + (1 : Int32))]) (st := [vI v3, vR 10 (some q13)]) C ml_X8_386 fx8 (ct_X8_firstFrom er16) rfl ⟨by decide, by decide, by decide, by decide⟩ (Nat.le_of_ble_eq_true rfl) rfl dX8_rowsOf_46 (cs' := 0) (sl' := 0) rfl rfl ?_
        obtain ⟨g18, hf⟩ := o_if hf
        obtain ⟨h19, eh19, hf⟩ := o_l hf
        refine V_iast C (vp_g g18) rfl dX8_rowsOf_49 (V_eqH eh19 ?_)
        refine V_aload_n C dX8_rowsOf_50 rfl 0 rfl ?_
        obtain ⟨q20, eq20, hf⟩ := o_b hf
        refine V_getR C fl_X8_76 rfl rfl (by decide) eq20 dX8_rowsOf_51 ?_
        refine V_iload_n C dX8_rowsOf_54 rfl 3 rfl ?_
        obtain ⟨g21, hf⟩ := o_if hf
        refine V_iald C (vp_g g21) rfl dX8_rowsOf_55 ?_
        refine V_if_ge C 65 dX8_rowsOf_56 (by decide) (fun c22 => ?_) (fun c22 => ?_)
        · have hf := i_t c22 hf
          refine V_aload_n C dX8_rowsOf_65 rfl 0 rfl ?_
          refine V_aload_n C dX8_rowsOf_66 rfl 0 rfl ?_
          refine V_aload_n C dX8_rowsOf_67 rfl 0 rfl ?_
          obtain ⟨q23, eq23, hf⟩ := o_b hf
          refine V_getR C fl_X8_76 rfl rfl (by decide) eq23 dX8_rowsOf_68 ?_
          refine V_iload_n C dX8_rowsOf_71 rfl 3 rfl ?_
          obtain ⟨g24, hf⟩ := o_if hf
          refine V_iald C (vp_g g24) rfl dX8_rowsOf_72 ?_
          obtain ⟨r25, er25, hf⟩ := o_b hf
          refine V_callV (as := [vI (hI h19 q23 (v3.toNatClampNeg))]) (st := [vR 8 (some v0)]) C ml_X8_377 fx8 (ct_X8_stepBy er25) rfl ⟨by decide, by decide, by decide, by decide⟩ (Nat.le_of_ble_eq_true rfl) rfl dX8_rowsOf_73 (cs' := 0) (sl' := 0) rfl rfl ?_
          refine V_aload_n C dX8_rowsOf_76 rfl 0 rfl ?_
          refine V_aload_n C dX8_rowsOf_77 rfl 0 rfl ?_
          obtain ⟨q26, eq26, hf⟩ := o_b hf
          refine V_getR C fl_X8_76 rfl rfl (by decide) eq26 dX8_rowsOf_78 ?_
          refine V_iload_n C dX8_rowsOf_81 rfl 3 rfl ?_
          obtain ⟨g27, hf⟩ := o_if hf
          refine V_iald C (vp_g g27) rfl dX8_rowsOf_82 ?_
          obtain ⟨r28, er28, hf⟩ := o_b hf
          refine V_callV (as := [vI (hI h19 q26 (v3.toNatClampNeg))]) (st := [vI r25, vR 8 (some v0)]) C ml_X8_371 fx8 (ct_X8_downBy er28) rfl ⟨by decide, by decide, by decide, by decide⟩ (Nat.le_of_ble_eq_true rfl) rfl dX8_rowsOf_83 (cs' := 0) (sl' := 0) rfl rfl ?_
          refine V_aload_n C dX8_rowsOf_86 rfl 0 rfl ?_
          refine V_aload_n C dX8_rowsOf_87 rfl 0 rfl ?_
          obtain ⟨q29, eq29, hf⟩ := o_b hf
          refine V_getR C fl_X8_76 rfl rfl (by decide) eq29 dX8_rowsOf_88 ?_
          refine V_iload_n C dX8_rowsOf_91 rfl 3 rfl ?_
          obtain ⟨g30, hf⟩ := o_if hf
          refine V_iald C (vp_g g30) rfl dX8_rowsOf_92 ?_
          obtain ⟨r31, er31, hf⟩ := o_b hf
          refine V_callV (as := [vI (hI h19 q29 (v3.toNatClampNeg))]) (st := [vI r28, vI r25, vR 8 (some v0)]) C ml_X8_374 fx8 (ct_X8_upBy er31) rfl ⟨by decide, by decide, by decide, by decide⟩ (Nat.le_of_ble_eq_true rfl) rfl dX8_rowsOf_93 (cs' := 0) (sl' := 0) rfl rfl ?_
          obtain ⟨r32, h33, er32, hf⟩ := o_b2 hf
          refine V_callV (as := [vI r25, vI r28, vI r31]) (st := []) C ml_X8_366 fx8 (ct_X8_does er32) rfl ⟨by decide, by decide, by decide, by decide⟩ (Nat.le_of_ble_eq_true rfl) rfl dX8_rowsOf_96 (cs' := 0) (sl' := 0) rfl rfl ?_
          refine V_pop C dX8_rowsOf_99 rfl ?_
          refine V_iload_n C dX8_rowsOf_100 rfl 3 rfl ?_
          refine V_iload_n C dX8_rowsOf_101 rfl 1 rfl ?_
          refine V_iconst (v := (1 : Int32)) C dX8_rowsOf_102 (by decide) ?_
          refine V_isub C dX8_rowsOf_103 ?_
          refine V_icmp_ge C 125 dX8_rowsOf_104 (by decide) (fun c34 => ?_) (fun c34 => ?_)
          · have hf := i_t c34 hf
            refine V_aload_n C dX8_rowsOf_125 rfl 0 rfl ?_
            obtain ⟨r35, er35, hf⟩ := o_b hf
            refine V_callV (as := []) (st := []) C ml_X8_467 fx8 (ct_X8_isSeen er35) rfl ⟨by decide, by decide, by decide, by decide⟩ (Nat.le_of_ble_eq_true rfl) rfl dX8_rowsOf_126 (cs' := 0) (sl' := 0) rfl rfl ?_
            refine V_if_ne C 135 dX8_rowsOf_129 (by decide) (fun c36 => ?_) (fun c36 => ?_)
            · have hf := i_f c36 hf
              refine V_iconst (v := (0 : Int32)) C dX8_rowsOf_135 (by decide) ?_
              refine V_istore (lv' := [(4, vI (0 : Int32)), (0, vR 8 (some v0)), (1, vI v1), (2, vI v2), (3, vI v3)]) C dX8_rowsOf_136 (by decide) rfl ?_
              refine V_sub (lv' := [(0, vR 8 (some v0)), (1, vI v1), (2, vI v2), (3, vI v3), (4, vI (0 : Int32))]) [1, 2, 3, 4, 0] rfl ?_
              exact p_X8_rowsOf_138 C hQ ih N _ _ _ _ _ _ hf
            · have hf := i_t c36 hf
              refine V_goto C 16 dX8_rowsOf_132 (by decide) ?_
              refine V_sub (lv' := [(0, vR 8 (some v0)), (1, vI v1), (2, vI v2), (3, vI v3)]) [0, 1, 2, 3] rfl ?_
              exact ih _ _ _ _ _ hf
          · have hf := i_f c34 hf
            refine V_iinc (lv' := [(3, vI (v3 + (1 : Int32))), (0, vR 8 (some v0)), (1, vI v1), (2, vI v2)]) C dX8_rowsOf_107 3 rfl (congrArg (v3 + ·) (by decide : Int32.ofInt (1) = (1 : Int32))) (by decide) rfl ?_
            refine V_aload_n C dX8_rowsOf_110 rfl 1 rfl ?_
            refine V_iload_n C dX8_rowsOf_111 rfl 0 rfl ?_
            obtain ⟨h37, eh37, hf⟩ := o_b hf
            refine V_callV (as := [vI (v3 + (1 : Int32))]) (st := []) C ml_X8_461 fx8 (ct_X8_keepsAt eh37) rfl ⟨by decide, by decide, by decide, by decide⟩ (Nat.le_of_ble_eq_true rfl) rfl dX8_rowsOf_112 (cs' := 0) (sl' := 0) rfl rfl ?_
            refine V_aload_n C dX8_rowsOf_115 rfl 1 rfl ?_
            obtain ⟨q38, eq38, hf⟩ := o_b hf
            refine V_getR C fl_X8_76 rfl rfl (by decide) eq38 dX8_rowsOf_116 ?_
            refine V_iload_n C dX8_rowsOf_119 rfl 0 rfl ?_
            refine V_iconst (v := (-1 : Int32)) C dX8_rowsOf_120 (by decide) ?_
            obtain ⟨g39, hf⟩ := o_if hf
            obtain ⟨h40, eh40, hf⟩ := o_l hf
            refine V_iast C (vp_g g39) rfl dX8_rowsOf_121 (V_eqH eh40 ?_)
            refine V_goto C 16 dX8_rowsOf_122 (by decide) ?_
            refine V_sub (lv' := [(0, vR 8 (some v0)), (1, vI v1), (2, vI v2), (3, vI (v3 + (1 : Int32)))]) [1, 2, 3, 0] rfl ?_
            exact ih _ _ _ _ _ hf
        · have hf := i_f c22 hf
          refine V_iinc (lv' := [(3, vI (v3 + (-1 : Int32))), (0, vR 8 (some v0)), (1, vI v1), (2, vI v2)]) C dX8_rowsOf_59 3 rfl (congrArg (v3 + ·) (by decide : Int32.ofInt (-1) = (-1 : Int32))) (by decide) rfl ?_
          refine V_goto C 16 dX8_rowsOf_62 (by decide) ?_
          refine V_sub (lv' := [(0, vR 8 (some v0)), (1, vI v1), (2, vI v2), (3, vI (v3 + (-1 : Int32)))]) [1, 2, 3, 0] rfl ?_
          exact ih _ _ _ _ _ hf
def f_X8_rowsOf (N : Nat) (h : Hp) (v0 : Nat) (v1 : Int32) : Option (Int32 × Hp) := Option.bind (f_X8_keepsAt N h v0 (0 : Int32)) (fun h41 => Option.bind (hP h41 v0 40) (fun q42 => if 0 < hL h41 q42 then (lt (sI h41 q42 (0) (-1 : Int32)) (fun h44 => f_X8_rowsOf_16 N N h44 v0 v1 (0 : Int32) (0 : Int32))) else none))
set_option maxHeartbeats 4000000 in
set_option maxRecDepth 100000 in
theorem p_X8_rowsOf {X : XT} {r : Int32} {h' : Hp} (C : CX X cX8_rowsOf "WaterStairModel" 5 (some .int) rmX8_rowsOf) {N : Nat} {h : Hp} {v0 : Nat} {v1 : Int32} (hQ : QX X (some (vI r)) h' rmX8_rowsOf.cells rmX8_rowsOf.slots) (hf : f_X8_rowsOf N h v0 v1 = some ((r, h'))) : V X 0 0 h 0 [(0, vR 8 (some v0)), (1, vI v1)] [] := by
  unfold f_X8_rowsOf at hf
  refine V_iconst (v := (0 : Int32)) C dX8_rowsOf_0 (by decide) ?_
  refine V_istore_n (lv' := [(2, vI (0 : Int32)), (0, vR 8 (some v0)), (1, vI v1)]) C dX8_rowsOf_1 rfl (by decide) rfl ?_
  refine V_iconst (v := (0 : Int32)) C dX8_rowsOf_2 (by decide) ?_
  refine V_istore_n (lv' := [(3, vI (0 : Int32)), (2, vI (0 : Int32)), (0, vR 8 (some v0)), (1, vI v1)]) C dX8_rowsOf_3 rfl (by decide) rfl ?_
  refine V_aload_n C dX8_rowsOf_4 rfl 2 rfl ?_
  refine V_iconst (v := (0 : Int32)) C dX8_rowsOf_5 (by decide) ?_
  obtain ⟨h41, eh41, hf⟩ := o_b hf
  refine V_callV (as := [vI (0 : Int32)]) (st := []) C ml_X8_461 fx8 (ct_X8_keepsAt eh41) rfl ⟨by decide, by decide, by decide, by decide⟩ (Nat.le_of_ble_eq_true rfl) rfl dX8_rowsOf_6 (cs' := 0) (sl' := 0) rfl rfl ?_
  refine V_aload_n C dX8_rowsOf_9 rfl 2 rfl ?_
  obtain ⟨q42, eq42, hf⟩ := o_b hf
  refine V_getR C fl_X8_76 rfl rfl (by decide) eq42 dX8_rowsOf_10 ?_
  refine V_iconst (v := (0 : Int32)) C dX8_rowsOf_13 (by decide) ?_
  refine V_iconst (v := (-1 : Int32)) C dX8_rowsOf_14 (by decide) ?_
  obtain ⟨g43, hf⟩ := o_if hf
  obtain ⟨h44, eh44, hf⟩ := o_l hf
  refine V_iast C (vp_k (by decide) (by decide) g43) (by decide : Int32.toNatClampNeg (0 : Int32) = 0) dX8_rowsOf_15 (V_eqH eh44 ?_)
  refine V_sub (lv' := [(0, vR 8 (some v0)), (1, vI v1), (2, vI (0 : Int32)), (3, vI (0 : Int32))]) [2, 3, 1, 0] rfl ?_
  exact p_X8_rowsOf_16 C hQ N _ _ _ _ _ hf
theorem ct_X8_rowsOf {r : Int32} {h' : Hp} {N : Nat} {h : Hp} {v0 : Nat} {v1 : Int32} (hf : f_X8_rowsOf N h v0 v1 = some ((r, h'))) (l : Launch) (G : GT) : MC l G yX8_rowsOf cX8_rowsOf 5 (some .int) rmX8_rowsOf h [vR 8 (some v0), vI v1] (some (vI r)) h' := MC_of (by decide) rfl (Nat.le_of_ble_eq_true rfl) rfl (fun X C hQ hin => p_X8_rowsOf C hQ hf)
abbrev rmX8_went : Room := { frames := 8, cells := 0, slots := 0, locals := 182 }
def f_X8_went (N : Nat) (h : Hp) (v0 : Nat) (v1 : Int32) (v2 : Int32) : Option (Int32 × Hp) := Option.bind (hP h v0 26) (fun q1 => if 0 < hL h q1 then (if hI h q1 (0) = 0 then (some (((-1 : Int32), h))) else (Option.bind (f_X8_in h (v1.toInt64) (1 : Int64) (3 : Int64)) (fun r4 => if r4 = 0 then (some (((-1 : Int32), h))) else (Option.bind (f_X8_in h (v2.toInt64) (0 : Int64) (((3 : Int32) * v1).toInt64)) (fun r6 => if r6 = 0 then (some (((-1 : Int32), h))) else (b2 (f_X8_rowsOf N h v0 v1) (fun r8 h9 => if v2 = 0 then (some ((r8, h9))) else (if r8 = 0 then (some (((-2 : Int32), h9))) else (Option.bind (hP h9 v0 41) (fun q12 => if 0 ≤ (v2 - (1 : Int32)) / (3 : Int32) ∧ ((v2 - (1 : Int32)) / (3 : Int32)).toNatClampNeg < hL h9 q12 then (lt (hI h9 q12 (((v2 - (1 : Int32)) / (3 : Int32)).toNatClampNeg)) (fun y14 => if (v2 - v2 / (3 : Int32) * (3 : Int32)) = (1 : Int32) then (Option.bind (f_X8_stepBy h9 v0 y14) (fun r19 => some ((r19, h9)))) else (if (v2 - v2 / (3 : Int32) * (3 : Int32)) = (2 : Int32) then (Option.bind (f_X8_downBy h9 v0 y14) (fun r18 => some ((r18, h9)))) else (Option.bind (f_X8_upBy h9 v0 y14) (fun r17 => some ((r17, h9))))))) else none)))))))))) else none)
set_option maxHeartbeats 4000000 in
set_option maxRecDepth 100000 in
theorem p_X8_went {X : XT} {r : Int32} {h' : Hp} (C : CX X cX8_went "WaterStairModel" 5 (some .int) rmX8_went) {N : Nat} {h : Hp} {v0 : Nat} {v1 : Int32} {v2 : Int32} (hQ : QX X (some (vI r)) h' rmX8_went.cells rmX8_went.slots) (hf : f_X8_went N h v0 v1 v2 = some ((r, h'))) : V X 0 0 h 0 [(0, vR 8 (some v0)), (1, vI v1), (2, vI v2)] [] := by
  unfold f_X8_went at hf
  refine V_aload_n C dX8_went_0 rfl 0 rfl ?_
  obtain ⟨q1, eq1, hf⟩ := o_b hf
  refine V_getR C fl_X8_42 rfl rfl (by decide) eq1 dX8_went_1 ?_
  refine V_iconst (v := (0 : Int32)) C dX8_went_4 (by decide) ?_
  obtain ⟨g2, hf⟩ := o_if hf
  refine V_iald C (vp_k (by decide) (by decide) g2) (by decide : Int32.toNatClampNeg (0 : Int32) = 0) dX8_went_5 ?_
  refine V_if_eq C 34 dX8_went_6 (by decide) (fun c3 => ?_) (fun c3 => ?_)
  · have hf := i_t c3 hf
    refine V_iconst (v := (-1 : Int32)) C dX8_went_34 (by decide) ?_
    obtain ⟨hf1, hf2⟩ := Prod.mk.inj (Option.some.inj hf)
    subst hf1
    subst hf2
    exact V_iret C hQ dX8_went_35
  · have hf := i_f c3 hf
    refine V_iload_n C dX8_went_9 rfl 1 rfl ?_
    refine V_i2l C dX8_went_10 ?_
    refine V_lconst (v := (1 : Int64)) C dX8_went_11 (by decide) ?_
    refine V_ldc2 C kl_X8_308 dX8_went_12 ?_
    obtain ⟨r4, er4, hf⟩ := o_b hf
    refine V_callS (as := [vL (v1.toInt64), vL (1 : Int64), vL (3 : Int64)]) (st := []) C ml_X8_127 (ct_X8_in er4) rfl ⟨by decide, by decide, by decide, by decide⟩ (Nat.le_of_ble_eq_true rfl) rfl dX8_went_15 (cs' := 0) (sl' := 0) rfl rfl ?_
    refine V_if_eq C 34 dX8_went_18 (by decide) (fun c5 => ?_) (fun c5 => ?_)
    · have hf := i_t c5 hf
      refine V_iconst (v := (-1 : Int32)) C dX8_went_34 (by decide) ?_
      obtain ⟨hf1, hf2⟩ := Prod.mk.inj (Option.some.inj hf)
      subst hf1
      subst hf2
      exact V_iret C hQ dX8_went_35
    · have hf := i_f c5 hf
      refine V_iload_n C dX8_went_21 rfl 2 rfl ?_
      refine V_i2l C dX8_went_22 ?_
      refine V_lconst (v := (0 : Int64)) C dX8_went_23 (by decide) ?_
      refine V_iconst (v := (3 : Int32)) C dX8_went_24 (by decide) ?_
      refine V_iload_n C dX8_went_25 rfl 1 rfl ?_
      refine V_imul C dX8_went_26 ?_
      refine V_i2l C dX8_went_27 ?_
      obtain ⟨r6, er6, hf⟩ := o_b hf
      refine V_callS (as := [vL (v2.toInt64), vL (0 : Int64), vL (((3 : Int32) * v1).toInt64)]) (st := []) C ml_X8_127 (ct_X8_in er6) rfl ⟨by decide, by decide, by decide, by decide⟩ (Nat.le_of_ble_eq_true rfl) rfl dX8_went_28 (cs' := 0) (sl' := 0) rfl rfl ?_
      refine V_if_ne C 36 dX8_went_31 (by decide) (fun c7 => ?_) (fun c7 => ?_)
      · have hf := i_f c7 hf
        refine V_aload_n C dX8_went_36 rfl 0 rfl ?_
        refine V_iload_n C dX8_went_37 rfl 1 rfl ?_
        obtain ⟨r8, h9, er8, hf⟩ := o_b2 hf
        refine V_callV (as := [vI v1]) (st := []) C ml_X8_470 fx8 (ct_X8_rowsOf er8) rfl ⟨by decide, by decide, by decide, by decide⟩ (Nat.le_of_ble_eq_true rfl) rfl dX8_went_38 (cs' := 0) (sl' := 0) rfl rfl ?_
        refine V_istore_n (lv' := [(3, vI r8), (0, vR 8 (some v0)), (1, vI v1), (2, vI v2)]) C dX8_went_41 rfl (by decide) rfl ?_
        refine V_iload_n C dX8_went_42 rfl 3 rfl ?_
        refine V_if_ne C 48 dX8_went_43 (by decide) (fun c10 => ?_) (fun c10 => ?_)
        · have hf := i_f c10 hf
          refine V_iload_n C dX8_went_48 rfl 0 rfl ?_
          refine V_if_ne C 55 dX8_went_49 (by decide) (fun c11 => ?_) (fun c11 => ?_)
          · have hf := i_f c11 hf
            refine V_aload_n C dX8_went_55 rfl 1 rfl ?_
            obtain ⟨q12, eq12, hf⟩ := o_b hf
            refine V_getR C fl_X8_79 rfl rfl (by decide) eq12 dX8_went_56 ?_
            refine V_iload_n C dX8_went_59 rfl 3 rfl ?_
            refine V_iconst (v := (1 : Int32)) C dX8_went_60 (by decide) ?_
            refine V_isub C dX8_went_61 ?_
            refine V_iconst (v := (3 : Int32)) C dX8_went_62 (by decide) ?_
            refine V_idiv C dX8_went_63 (by decide) ?_
            obtain ⟨g13, hf⟩ := o_if hf
            refine V_iald C (vp_g g13) rfl dX8_went_64 ?_
            obtain ⟨y14, ey14, hf⟩ := o_l hf
            refine V_eqI ey14 ?_
            refine V_istore (lv' := [(4, vI y14), (3, vI r8), (0, vR 8 (some v0)), (1, vI v1), (2, vI v2)]) C dX8_went_65 (by decide) rfl ?_
            refine V_iload_n C dX8_went_67 rfl 4 rfl ?_
            refine V_iconst (v := (3 : Int32)) C dX8_went_68 (by decide) ?_
            refine V_irem C dX8_went_69 (by decide) ?_
            refine V_iconst (v := (1 : Int32)) C dX8_went_70 (by decide) ?_
            refine V_icmp_ne C 83 dX8_went_71 (by decide) (fun c15 => ?_) (fun c15 => ?_)
            · have hf := i_f c15 hf
              refine V_iload_n C dX8_went_83 rfl 4 rfl ?_
              refine V_iconst (v := (3 : Int32)) C dX8_went_84 (by decide) ?_
              refine V_irem C dX8_went_85 (by decide) ?_
              refine V_iconst (v := (2 : Int32)) C dX8_went_86 (by decide) ?_
              refine V_icmp_ne C 99 dX8_went_87 (by decide) (fun c16 => ?_) (fun c16 => ?_)
              · have hf := i_f c16 hf
                refine V_aload_n C dX8_went_99 rfl 2 rfl ?_
                refine V_iload C dX8_went_100 0 rfl ?_
                obtain ⟨r17, er17, hf⟩ := o_b hf
                refine V_callV (as := [vI y14]) (st := []) C ml_X8_374 fx8 (ct_X8_upBy er17) rfl ⟨by decide, by decide, by decide, by decide⟩ (Nat.le_of_ble_eq_true rfl) rfl dX8_went_102 (cs' := 0) (sl' := 0) rfl rfl ?_
                obtain ⟨hf1, hf2⟩ := Prod.mk.inj (Option.some.inj hf)
                subst hf1
                subst hf2
                exact V_iret C hQ dX8_went_105
              · have hf := i_t c16 hf
                refine V_aload_n C dX8_went_90 rfl 2 rfl ?_
                refine V_iload C dX8_went_91 0 rfl ?_
                obtain ⟨r18, er18, hf⟩ := o_b hf
                refine V_callV (as := [vI y14]) (st := []) C ml_X8_371 fx8 (ct_X8_downBy er18) rfl ⟨by decide, by decide, by decide, by decide⟩ (Nat.le_of_ble_eq_true rfl) rfl dX8_went_93 (cs' := 0) (sl' := 0) rfl rfl ?_
                refine V_goto C 105 dX8_went_96 (by decide) ?_
                obtain ⟨hf1, hf2⟩ := Prod.mk.inj (Option.some.inj hf)
                subst hf1
                subst hf2
                exact V_iret C hQ dX8_went_105
            · have hf := i_t c15 hf
              refine V_aload_n C dX8_went_74 rfl 2 rfl ?_
              refine V_iload C dX8_went_75 0 rfl ?_
              obtain ⟨r19, er19, hf⟩ := o_b hf
              refine V_callV (as := [vI y14]) (st := []) C ml_X8_377 fx8 (ct_X8_stepBy er19) rfl ⟨by decide, by decide, by decide, by decide⟩ (Nat.le_of_ble_eq_true rfl) rfl dX8_went_77 (cs' := 0) (sl' := 0) rfl rfl ?_
              refine V_goto C 105 dX8_went_80 (by decide) ?_
              obtain ⟨hf1, hf2⟩ := Prod.mk.inj (Option.some.inj hf)
              subst hf1
              subst hf2
              exact V_iret C hQ dX8_went_105
          · have hf := i_t c11 hf
            refine V_bipush (v := (-2 : Int32)) C dX8_went_52 (by decide) ?_
            obtain ⟨hf1, hf2⟩ := Prod.mk.inj (Option.some.inj hf)
            subst hf1
            subst hf2
            exact V_iret C hQ dX8_went_54
        · have hf := i_t c10 hf
          refine V_iload_n C dX8_went_46 rfl 0 rfl ?_
          obtain ⟨hf1, hf2⟩ := Prod.mk.inj (Option.some.inj hf)
          subst hf1
          subst hf2
          exact V_iret C hQ dX8_went_47
      · have hf := i_t c7 hf
        refine V_iconst (v := (-1 : Int32)) C dX8_went_34 (by decide) ?_
        obtain ⟨hf1, hf2⟩ := Prod.mk.inj (Option.some.inj hf)
        subst hf1
        subst hf2
        exact V_iret C hQ dX8_went_35
theorem ct_X8_went {r : Int32} {h' : Hp} {N : Nat} {h : Hp} {v0 : Nat} {v1 : Int32} {v2 : Int32} (hf : f_X8_went N h v0 v1 v2 = some ((r, h'))) (l : Launch) (G : GT) : MC l G yX8_went cX8_went 5 (some .int) rmX8_went h [vR 8 (some v0), vI v1, vI v2] (some (vI r)) h' := MC_of (by decide) rfl (Nat.le_of_ble_eq_true rfl) rfl (fun X C hQ hin => p_X8_went C hQ hf)
abbrev rmX8_book : Room := { frames := 3, cells := 0, slots := 0, locals := 65 }
def f_X8_book (h : Hp) (v0 : Nat) (v1 : Int32) (v2 : Int32) (v3 : Int32) : Option (Int32 × Hp) := if v1 = (-1 : Int32) then (Option.bind (hP h v0 26) (fun q26 => if 6 < hL h q26 then (lt (sI h q26 (6) (0 : Int32)) (fun h28 => some (((0 : Int32), h28)))) else none)) else (Option.bind (f_X8_isTip h v0 v1 v2 v3) (fun r2 => if r2 = 0 then (some (((-2 : Int32), h))) else (Option.bind (hP h v0 26) (fun q4 => if 6 < hL h q4 then (if (hI h q4 (6)) = (10 : Int32) then (some (((-2 : Int32), h))) else (Option.bind (hP h v0 26) (fun q7 => if 6 < hL h q7 then (lt ((63 : Int32) + ((3 : Int32) * (hI h q7 (6)))) (fun y9 => Option.bind (hP h v0 26) (fun q10 => if 0 ≤ y9 ∧ y9.toNatClampNeg < hL h q10 then (lt (sI h q10 (y9.toNatClampNeg) v1) (fun h12 => Option.bind (hP h12 v0 26) (fun q13 => if 0 ≤ y9 + (1 : Int32) ∧ (y9 + (1 : Int32)).toNatClampNeg < hL h12 q13 then (lt (sI h12 q13 ((y9 + (1 : Int32)).toNatClampNeg) v2) (fun h15 => Option.bind (hP h15 v0 26) (fun q16 => if 0 ≤ y9 + (2 : Int32) ∧ (y9 + (2 : Int32)).toNatClampNeg < hL h15 q16 then (lt (sI h15 q16 ((y9 + (2 : Int32)).toNatClampNeg) v3) (fun h18 => Option.bind (hP h18 v0 26) (fun q19 => if 6 < hL h18 q19 then (lt ((hI h18 q19 (6)) + (1 : Int32)) (fun y21 => if 6 < hL h18 q19 then (lt (sI h18 q19 (6) y21) (fun h23 => Option.bind (hP h23 v0 26) (fun q24 => if 6 < hL h23 q24 then (some ((hI h23 q24 (6), h23))) else none))) else none)) else none))) else none))) else none))) else none))) else none))) else none))))
set_option maxHeartbeats 4000000 in
set_option maxRecDepth 100000 in
theorem p_X8_book {X : XT} {r : Int32} {h' : Hp} (C : CX X cX8_book "WaterStairModel" 5 (some .int) rmX8_book) {h : Hp} {v0 : Nat} {v1 : Int32} {v2 : Int32} {v3 : Int32} (hQ : QX X (some (vI r)) h' rmX8_book.cells rmX8_book.slots) (hf : f_X8_book h v0 v1 v2 v3 = some ((r, h'))) : V X 0 0 h 0 [(0, vR 8 (some v0)), (1, vI v1), (2, vI v2), (3, vI v3)] [] := by
  unfold f_X8_book at hf
  refine V_iload_n C dX8_book_0 rfl 1 rfl ?_
  refine V_iconst (v := (-1 : Int32)) C dX8_book_1 (by decide) ?_
  refine V_icmp_ne C 15 dX8_book_2 (by decide) (fun c1 => ?_) (fun c1 => ?_)
  · have hf := i_f c1 hf
    refine V_aload_n C dX8_book_15 rfl 0 rfl ?_
    refine V_iload_n C dX8_book_16 rfl 1 rfl ?_
    refine V_iload_n C dX8_book_17 rfl 2 rfl ?_
    refine V_iload_n C dX8_book_18 rfl 3 rfl ?_
    obtain ⟨r2, er2, hf⟩ := o_b hf
    refine V_callV (as := [vI v1, vI v2, vI v3]) (st := []) C ml_X8_356 fx8 (ct_X8_isTip er2) rfl ⟨by decide, by decide, by decide, by decide⟩ (Nat.le_of_ble_eq_true rfl) rfl dX8_book_19 (cs' := 0) (sl' := 0) rfl rfl ?_
    refine V_if_eq C 37 dX8_book_22 (by decide) (fun c3 => ?_) (fun c3 => ?_)
    · have hf := i_t c3 hf
      refine V_bipush (v := (-2 : Int32)) C dX8_book_37 (by decide) ?_
      obtain ⟨hf1, hf2⟩ := Prod.mk.inj (Option.some.inj hf)
      subst hf1
      subst hf2
      exact V_iret C hQ dX8_book_39
    · have hf := i_f c3 hf
      refine V_aload_n C dX8_book_25 rfl 0 rfl ?_
      obtain ⟨q4, eq4, hf⟩ := o_b hf
      refine V_getR C fl_X8_42 rfl rfl (by decide) eq4 dX8_book_26 ?_
      refine V_bipush (v := (6 : Int32)) C dX8_book_29 (by decide) ?_
      obtain ⟨g5, hf⟩ := o_if hf
      refine V_iald C (vp_k (by decide) (by decide) g5) (by decide : Int32.toNatClampNeg (6 : Int32) = 6) dX8_book_31 ?_
      refine V_bipush (v := (10 : Int32)) C dX8_book_32 (by decide) ?_
      refine V_icmp_ne C 40 dX8_book_34 (by decide) (fun c6 => ?_) (fun c6 => ?_)
      · have hf := i_f c6 hf
        refine V_bipush (v := (63 : Int32)) C dX8_book_40 (by decide) ?_
        refine V_iconst (v := (3 : Int32)) C dX8_book_42 (by decide) ?_
        refine V_aload_n C dX8_book_43 rfl 0 rfl ?_
        obtain ⟨q7, eq7, hf⟩ := o_b hf
        refine V_getR C fl_X8_42 rfl rfl (by decide) eq7 dX8_book_44 ?_
        refine V_bipush (v := (6 : Int32)) C dX8_book_47 (by decide) ?_
        obtain ⟨g8, hf⟩ := o_if hf
        refine V_iald C (vp_k (by decide) (by decide) g8) (by decide : Int32.toNatClampNeg (6 : Int32) = 6) dX8_book_49 ?_
        refine V_imul C dX8_book_50 ?_
        refine V_iadd C dX8_book_51 ?_
        obtain ⟨y9, ey9, hf⟩ := o_l hf
        refine V_eqI ey9 ?_
        refine V_istore (lv' := [(4, vI y9), (0, vR 8 (some v0)), (1, vI v1), (2, vI v2), (3, vI v3)]) C dX8_book_52 (by decide) rfl ?_
        refine V_aload_n C dX8_book_54 rfl 1 rfl ?_
        obtain ⟨q10, eq10, hf⟩ := o_b hf
        refine V_getR C fl_X8_42 rfl rfl (by decide) eq10 dX8_book_55 ?_
        refine V_iload C dX8_book_58 0 rfl ?_
        refine V_iload_n C dX8_book_60 rfl 2 rfl ?_
        obtain ⟨g11, hf⟩ := o_if hf
        obtain ⟨h12, eh12, hf⟩ := o_l hf
        refine V_iast C (vp_g g11) rfl dX8_book_61 (V_eqH eh12 ?_)
        refine V_aload_n C dX8_book_62 rfl 1 rfl ?_
        obtain ⟨q13, eq13, hf⟩ := o_b hf
        refine V_getR C fl_X8_42 rfl rfl (by decide) eq13 dX8_book_63 ?_
        refine V_iload C dX8_book_66 0 rfl ?_
        refine V_iconst (v := (1 : Int32)) C dX8_book_68 (by decide) ?_
        refine V_iadd C dX8_book_69 ?_
        refine V_iload_n C dX8_book_70 rfl 3 rfl ?_
        obtain ⟨g14, hf⟩ := o_if hf
        obtain ⟨h15, eh15, hf⟩ := o_l hf
        refine V_iast C (vp_g g14) rfl dX8_book_71 (V_eqH eh15 ?_)
        refine V_aload_n C dX8_book_72 rfl 1 rfl ?_
        obtain ⟨q16, eq16, hf⟩ := o_b hf
        refine V_getR C fl_X8_42 rfl rfl (by decide) eq16 dX8_book_73 ?_
        refine V_iload C dX8_book_76 0 rfl ?_
        refine V_iconst (v := (2 : Int32)) C dX8_book_78 (by decide) ?_
        refine V_iadd C dX8_book_79 ?_
        refine V_iload_n C dX8_book_80 rfl 4 rfl ?_
        obtain ⟨g17, hf⟩ := o_if hf
        obtain ⟨h18, eh18, hf⟩ := o_l hf
        refine V_iast C (vp_g g17) rfl dX8_book_81 (V_eqH eh18 ?_)
        refine V_aload_n C dX8_book_82 rfl 1 rfl ?_
        obtain ⟨q19, eq19, hf⟩ := o_b hf
        refine V_getR C fl_X8_42 rfl rfl (by decide) eq19 dX8_book_83 ?_
        refine V_bipush (v := (6 : Int32)) C dX8_book_86 (by decide) ?_
        refine V_dup2 C dX8_book_88 rfl rfl ?_
        obtain ⟨g20, hf⟩ := o_if hf
        refine V_iald C (vp_k (by decide) (by decide) g20) (by decide : Int32.toNatClampNeg (6 : Int32) = 6) dX8_book_89 ?_
        refine V_iconst (v := (1 : Int32)) C dX8_book_90 (by decide) ?_
        refine V_iadd C dX8_book_91 ?_
        obtain ⟨y21, ey21, hf⟩ := o_l hf
        refine V_eqI ey21 ?_
        obtain ⟨g22, hf⟩ := o_if hf
        obtain ⟨h23, eh23, hf⟩ := o_l hf
        refine V_iast C (vp_k (by decide) (by decide) g22) (by decide : Int32.toNatClampNeg (6 : Int32) = 6) dX8_book_92 (V_eqH eh23 ?_)
        refine V_aload_n C dX8_book_93 rfl 1 rfl ?_
        obtain ⟨q24, eq24, hf⟩ := o_b hf
        refine V_getR C fl_X8_42 rfl rfl (by decide) eq24 dX8_book_94 ?_
        refine V_bipush (v := (6 : Int32)) C dX8_book_97 (by decide) ?_
        obtain ⟨g25, hf⟩ := o_if hf
        refine V_iald C (vp_k (by decide) (by decide) g25) (by decide : Int32.toNatClampNeg (6 : Int32) = 6) dX8_book_99 ?_
        obtain ⟨hf1, hf2⟩ := Prod.mk.inj (Option.some.inj hf)
        subst hf1
        subst hf2
        exact V_iret C hQ dX8_book_100
      · have hf := i_t c6 hf
        refine V_bipush (v := (-2 : Int32)) C dX8_book_37 (by decide) ?_
        obtain ⟨hf1, hf2⟩ := Prod.mk.inj (Option.some.inj hf)
        subst hf1
        subst hf2
        exact V_iret C hQ dX8_book_39
  · have hf := i_t c1 hf
    refine V_aload_n C dX8_book_5 rfl 0 rfl ?_
    obtain ⟨q26, eq26, hf⟩ := o_b hf
    refine V_getR C fl_X8_42 rfl rfl (by decide) eq26 dX8_book_6 ?_
    refine V_bipush (v := (6 : Int32)) C dX8_book_9 (by decide) ?_
    refine V_iconst (v := (0 : Int32)) C dX8_book_11 (by decide) ?_
    obtain ⟨g27, hf⟩ := o_if hf
    obtain ⟨h28, eh28, hf⟩ := o_l hf
    refine V_iast C (vp_k (by decide) (by decide) g27) (by decide : Int32.toNatClampNeg (6 : Int32) = 6) dX8_book_12 (V_eqH eh28 ?_)
    refine V_iconst (v := (0 : Int32)) C dX8_book_13 (by decide) ?_
    obtain ⟨hf1, hf2⟩ := Prod.mk.inj (Option.some.inj hf)
    subst hf1
    subst hf2
    exact V_iret C hQ dX8_book_14
theorem ct_X8_book {r : Int32} {h' : Hp} {h : Hp} {v0 : Nat} {v1 : Int32} {v2 : Int32} {v3 : Int32} (hf : f_X8_book h v0 v1 v2 v3 = some ((r, h'))) (l : Launch) (G : GT) : MC l G yX8_book cX8_book 5 (some .int) rmX8_book h [vR 8 (some v0), vI v1, vI v2, vI v3] (some (vI r)) h' := MC_of (by decide) rfl (Nat.le_of_ble_eq_true rfl) rfl (fun X C hQ hin => p_X8_book C hQ hf)
abbrev rmX8_isBooked : Room := { frames := 4, cells := 0, slots := 0, locals := 90 }
def f_X8_isBooked_17 (N : Nat) : Nat → Hp → Nat → Int32 → Option (Int32 × Hp)
  | 0, _, _, _ => none
  | n + 1, h, v0, v3 => Option.bind (hP h v0 26) (fun q1 => if 6 < hL h q1 then (if (hI h q1 (6)) ≤ v3 then (Option.bind (f_X8_isSeen N h v0) (fun r4 => Option.bind (f_X8_putsBack N h v0) (fun h5 => if r4 = 0 ∨ r4 = 1 then (some ((r4, h5))) else none))) else (lt ((63 : Int32) + ((3 : Int32) * v3)) (fun y7 => Option.bind (hP h v0 26) (fun q8 => if 0 ≤ y7 ∧ y7.toNatClampNeg < hL h q8 then (Option.bind (hP h v0 26) (fun q10 => if 0 ≤ y7 + (1 : Int32) ∧ (y7 + (1 : Int32)).toNatClampNeg < hL h q10 then (Option.bind (hP h v0 26) (fun q12 => if 0 ≤ y7 + (2 : Int32) ∧ (y7 + (2 : Int32)).toNatClampNeg < hL h q12 then (b2 (f_X8_does h v0 (hI h q8 (y7.toNatClampNeg)) (hI h q10 ((y7 + (1 : Int32)).toNatClampNeg)) (hI h q12 ((y7 + (2 : Int32)).toNatClampNeg))) (fun r14 h15 => f_X8_isBooked_17 N n h15 v0 (v3 + (1 : Int32)))) else none)) else none)) else none)))) else none)
set_option maxHeartbeats 4000000 in
set_option maxRecDepth 100000 in
theorem p_X8_isBooked_17 {X : XT} {r : Int32} {h' : Hp} (C : CX X cX8_isBooked "WaterStairModel" 5 (some .boolean) rmX8_isBooked) (hQ : QX X (some (vI r)) h' rmX8_isBooked.cells rmX8_isBooked.slots) {N : Nat}  : ∀ (n : Nat) (h : Hp) (v0 : Nat) (v3 : Int32), f_X8_isBooked_17 N n h v0 v3 = some ((r, h')) → V X 0 0 h 17 [(0, vR 8 (some v0)), (3, vI v3)] [] := by
  intro n
  induction n with
  | zero =>
    intro h v0 v3 hf
    have hf : (none : Option (Int32 × Hp)) = some _ := hf
    cases hf
  | succ n ih =>
    intro h v0 v3 hf
    rw [f_X8_isBooked_17] at hf
    refine V_iload_n C dX8_isBooked_17 rfl 1 rfl ?_
    refine V_aload_n C dX8_isBooked_18 rfl 0 rfl ?_
    obtain ⟨q1, eq1, hf⟩ := o_b hf
    refine V_getR C fl_X8_42 rfl rfl (by decide) eq1 dX8_isBooked_19 ?_
    refine V_bipush (v := (6 : Int32)) C dX8_isBooked_22 (by decide) ?_
    obtain ⟨g2, hf⟩ := o_if hf
    refine V_iald C (vp_k (by decide) (by decide) g2) (by decide : Int32.toNatClampNeg (6 : Int32) = 6) dX8_isBooked_24 ?_
    refine V_icmp_ge C 72 dX8_isBooked_25 (by decide) (fun c3 => ?_) (fun c3 => ?_)
    · have hf := i_t c3 hf
      refine V_aload_n C dX8_isBooked_72 rfl 0 rfl ?_
      obtain ⟨r4, er4, hf⟩ := o_b hf
      refine V_callV (as := []) (st := []) C ml_X8_467 fx8 (ct_X8_isSeen er4) rfl ⟨by decide, by decide, by decide, by decide⟩ (Nat.le_of_ble_eq_true rfl) rfl dX8_isBooked_73 (cs' := 0) (sl' := 0) rfl rfl ?_
      refine V_istore_n (lv' := [(3, vI r4), (0, vR 8 (some v0))]) C dX8_isBooked_76 rfl (by decide) rfl ?_
      refine V_aload_n C dX8_isBooked_77 rfl 1 rfl ?_
      obtain ⟨h5, eh5, hf⟩ := o_b hf
      refine V_callV (as := []) (st := []) C ml_X8_403 fx8 (ct_X8_putsBack eh5) rfl ⟨by decide, by decide, by decide, by decide⟩ (Nat.le_of_ble_eq_true rfl) rfl dX8_isBooked_78 (cs' := 0) (sl' := 0) rfl rfl ?_
      refine V_iload_n C dX8_isBooked_81 rfl 0 rfl ?_
      obtain ⟨g6, hf⟩ := o_if hf
      obtain ⟨hf1, hf2⟩ := Prod.mk.inj (Option.some.inj hf)
      subst hf1
      subst hf2
      exact V_zret C (okI_z g6).1 hQ dX8_isBooked_82
    · have hf := i_f c3 hf
      refine V_bipush (v := (63 : Int32)) C dX8_isBooked_28 (by decide) ?_
      refine V_iconst (v := (3 : Int32)) C dX8_isBooked_30 (by decide) ?_
      refine V_iload_n C dX8_isBooked_31 rfl 1 rfl ?_
      refine V_imul C dX8_isBooked_32 ?_
      refine V_iadd C dX8_isBooked_33 ?_
      obtain ⟨y7, ey7, hf⟩ := o_l hf
      refine V_eqI ey7 ?_
      refine V_istore (lv' := [(4, vI y7), (0, vR 8 (some v0)), (3, vI v3)]) C dX8_isBooked_34 (by decide) rfl ?_
      refine V_aload_n C dX8_isBooked_36 rfl 1 rfl ?_
      refine V_aload_n C dX8_isBooked_37 rfl 1 rfl ?_
      obtain ⟨q8, eq8, hf⟩ := o_b hf
      refine V_getR C fl_X8_42 rfl rfl (by decide) eq8 dX8_isBooked_38 ?_
      refine V_iload C dX8_isBooked_41 0 rfl ?_
      obtain ⟨g9, hf⟩ := o_if hf
      refine V_iald C (vp_g g9) rfl dX8_isBooked_43 ?_
      refine V_aload_n C dX8_isBooked_44 rfl 1 rfl ?_
      obtain ⟨q10, eq10, hf⟩ := o_b hf
      refine V_getR C fl_X8_42 rfl rfl (by decide) eq10 dX8_isBooked_45 ?_
      refine V_iload C dX8_isBooked_48 0 rfl ?_
      refine V_iconst (v := (1 : Int32)) C dX8_isBooked_50 (by decide) ?_
      refine V_iadd C dX8_isBooked_51 ?_
      obtain ⟨g11, hf⟩ := o_if hf
      refine V_iald C (vp_g g11) rfl dX8_isBooked_52 ?_
      refine V_aload_n C dX8_isBooked_53 rfl 1 rfl ?_
      obtain ⟨q12, eq12, hf⟩ := o_b hf
      refine V_getR C fl_X8_42 rfl rfl (by decide) eq12 dX8_isBooked_54 ?_
      refine V_iload C dX8_isBooked_57 0 rfl ?_
      refine V_iconst (v := (2 : Int32)) C dX8_isBooked_59 (by decide) ?_
      refine V_iadd C dX8_isBooked_60 ?_
      obtain ⟨g13, hf⟩ := o_if hf
      refine V_iald C (vp_g g13) rfl dX8_isBooked_61 ?_
      obtain ⟨r14, h15, er14, hf⟩ := o_b2 hf
      refine V_callV (as := [vI (hI h q8 (y7.toNatClampNeg)), vI (hI h q10 ((y7 + (1 : Int32)).toNatClampNeg)), vI (hI h q12 ((y7 + (2 : Int32)).toNatClampNeg))]) (st := []) C ml_X8_366 fx8 (ct_X8_does er14) rfl ⟨by decide, by decide, by decide, by decide⟩ (Nat.le_of_ble_eq_true rfl) rfl dX8_isBooked_62 (cs' := 0) (sl' := 0) rfl rfl ?_
      refine V_pop C dX8_isBooked_65 rfl ?_
      refine V_iinc (lv' := [(3, vI (v3 + (1 : Int32))), (4, vI y7), (0, vR 8 (some v0))]) C dX8_isBooked_66 2 rfl (congrArg (v3 + ·) (by decide : Int32.ofInt (1) = (1 : Int32))) (by decide) rfl ?_
      refine V_goto C 17 dX8_isBooked_69 (by decide) ?_
      refine V_sub (lv' := [(0, vR 8 (some v0)), (3, vI (v3 + (1 : Int32)))]) [2, 0] rfl ?_
      exact ih _ _ _ hf
def f_X8_isBooked (N : Nat) (h : Hp) (v0 : Nat) (v1 : Int32) (v2 : Int32) : Option (Int32 × Hp) := Option.bind (hP h v0 26) (fun q16 => if 0 ≤ (25 : Int32) + ((5 : Int32) * v1) ∧ ((25 : Int32) + ((5 : Int32) * v1)).toNatClampNeg < hL h q16 then (lt ((hI h q16 (((25 : Int32) + ((5 : Int32) * v1)).toNatClampNeg)) + v2) (fun y18 => if 0 ≤ (25 : Int32) + ((5 : Int32) * v1) ∧ ((25 : Int32) + ((5 : Int32) * v1)).toNatClampNeg < hL h q16 then (lt (sI h q16 (((25 : Int32) + ((5 : Int32) * v1)).toNatClampNeg) y18) (fun h20 => f_X8_isBooked_17 N N h20 v0 (0 : Int32))) else none)) else none)
set_option maxHeartbeats 4000000 in
set_option maxRecDepth 100000 in
theorem p_X8_isBooked {X : XT} {r : Int32} {h' : Hp} (C : CX X cX8_isBooked "WaterStairModel" 5 (some .boolean) rmX8_isBooked) {N : Nat} {h : Hp} {v0 : Nat} {v1 : Int32} {v2 : Int32} (hQ : QX X (some (vI r)) h' rmX8_isBooked.cells rmX8_isBooked.slots) (hf : f_X8_isBooked N h v0 v1 v2 = some ((r, h'))) : V X 0 0 h 0 [(0, vR 8 (some v0)), (1, vI v1), (2, vI v2)] [] := by
  unfold f_X8_isBooked at hf
  refine V_aload_n C dX8_isBooked_0 rfl 0 rfl ?_
  obtain ⟨q16, eq16, hf⟩ := o_b hf
  refine V_getR C fl_X8_42 rfl rfl (by decide) eq16 dX8_isBooked_1 ?_
  refine V_bipush (v := (25 : Int32)) C dX8_isBooked_4 (by decide) ?_
  refine V_iconst (v := (5 : Int32)) C dX8_isBooked_6 (by decide) ?_
  refine V_iload_n C dX8_isBooked_7 rfl 1 rfl ?_
  refine V_imul C dX8_isBooked_8 ?_
  refine V_iadd C dX8_isBooked_9 ?_
  refine V_dup2 C dX8_isBooked_10 rfl rfl ?_
  obtain ⟨g17, hf⟩ := o_if hf
  refine V_iald C (vp_g g17) rfl dX8_isBooked_11 ?_
  refine V_iload_n C dX8_isBooked_12 rfl 2 rfl ?_
  refine V_iadd C dX8_isBooked_13 ?_
  obtain ⟨y18, ey18, hf⟩ := o_l hf
  refine V_eqI ey18 ?_
  obtain ⟨g19, hf⟩ := o_if hf
  obtain ⟨h20, eh20, hf⟩ := o_l hf
  refine V_iast C (vp_g g19) rfl dX8_isBooked_14 (V_eqH eh20 ?_)
  refine V_iconst (v := (0 : Int32)) C dX8_isBooked_15 (by decide) ?_
  refine V_istore_n (lv' := [(3, vI (0 : Int32)), (0, vR 8 (some v0)), (1, vI v1), (2, vI v2)]) C dX8_isBooked_16 rfl (by decide) rfl ?_
  refine V_sub (lv' := [(0, vR 8 (some v0)), (3, vI (0 : Int32))]) [1, 0] rfl ?_
  exact p_X8_isBooked_17 C hQ N _ _ _ hf
theorem ct_X8_isBooked {r : Int32} {h' : Hp} {N : Nat} {h : Hp} {v0 : Nat} {v1 : Int32} {v2 : Int32} (hf : f_X8_isBooked N h v0 v1 v2 = some ((r, h'))) (l : Launch) (G : GT) : MC l G yX8_isBooked cX8_isBooked 5 (some .boolean) rmX8_isBooked h [vR 8 (some v0), vI v1, vI v2] (some (vI r)) h' := MC_of (by decide) rfl (Nat.le_of_ble_eq_true rfl) rfl (fun X C hQ hin => p_X8_isBooked C hQ hf)
abbrev rmX8_smuggled : Room := { frames := 5, cells := 0, slots := 0, locals := 114 }
def f_X8_smuggled_100 (N : Nat) (s38 : Hp → Nat → Int32 → Int32 → Int32 → Int32 → Int32 → Option (Int32 × Hp)) (s52 : Hp → Nat → Int32 → Int32 → Int32 → Int32 → Int32 → Int32 → Option (Int32 × Hp)) (h : Hp) (v0 : Nat) (v1 : Int32) (v2 : Int32) (v3 : Int32) (v4 : Int32) (v5 : Int32) (v6 : Int32) : Option (Int32 × Hp) := s52 h v0 v1 v2 v3 v4 v5 (v6 + (1 : Int32))
set_option maxHeartbeats 4000000 in
set_option maxRecDepth 100000 in
theorem p_X8_smuggled_100 {X : XT} {r : Int32} {h' : Hp} (C : CX X cX8_smuggled "WaterStairModel" 7 (some .int) rmX8_smuggled) (hQ : QX X (some (vI r)) h' rmX8_smuggled.cells rmX8_smuggled.slots) {N : Nat} {s38 : Hp → Nat → Int32 → Int32 → Int32 → Int32 → Int32 → Option (Int32 × Hp)} {s52 : Hp → Nat → Int32 → Int32 → Int32 → Int32 → Int32 → Int32 → Option (Int32 × Hp)} (S38 : ∀ (h : Hp) (v0 : Nat) (v1 : Int32) (v2 : Int32) (v3 : Int32) (v4 : Int32) (v5 : Int32), s38 h v0 v1 v2 v3 v4 v5 = some ((r, h')) → V X 0 0 h 38 [(0, vR 8 (some v0)), (1, vI v1), (2, vI v2), (3, vI v3), (4, vI v4), (5, vI v5)] []) (S52 : ∀ (h : Hp) (v0 : Nat) (v1 : Int32) (v2 : Int32) (v3 : Int32) (v4 : Int32) (v5 : Int32) (v6 : Int32), s52 h v0 v1 v2 v3 v4 v5 v6 = some ((r, h')) → V X 0 0 h 52 [(0, vR 8 (some v0)), (1, vI v1), (2, vI v2), (3, vI v3), (4, vI v4), (5, vI v5), (6, vI v6)] []) {h : Hp} {v0 : Nat} {v1 : Int32} {v2 : Int32} {v3 : Int32} {v4 : Int32} {v5 : Int32} {v6 : Int32} (hf : f_X8_smuggled_100 N s38 s52 h v0 v1 v2 v3 v4 v5 v6 = some ((r, h'))) : V X 0 0 h 100 [(0, vR 8 (some v0)), (1, vI v1), (2, vI v2), (3, vI v3), (4, vI v4), (5, vI v5), (6, vI v6)] [] := by
  unfold f_X8_smuggled_100 at hf
  refine V_iinc (lv' := [(6, vI (v6 + (1 : Int32))), (0, vR 8 (some v0)), (1, vI v1), (2, vI v2), (3, vI v3), (4, vI v4), (5, vI v5)]) C dX8_smuggled_100 6 rfl (congrArg (v6 + ·) (by decide : Int32.ofInt (1) = (1 : Int32))) (by decide) rfl ?_
  refine V_goto C 52 dX8_smuggled_103 (by decide) ?_
  refine V_sub (lv' := [(0, vR 8 (some v0)), (1, vI v1), (2, vI v2), (3, vI v3), (4, vI v4), (5, vI v5), (6, vI (v6 + (1 : Int32)))]) [1, 2, 3, 4, 5, 6, 0] rfl ?_
  exact S52 _ _ _ _ _ _ _ _ hf
def f_X8_smuggled_95 (N : Nat) (s38 : Hp → Nat → Int32 → Int32 → Int32 → Int32 → Int32 → Option (Int32 × Hp)) (s52 : Hp → Nat → Int32 → Int32 → Int32 → Int32 → Int32 → Int32 → Option (Int32 × Hp)) (h : Hp) (v0 : Nat) (v1 : Int32) (v2 : Int32) (v3 : Int32) (v5 : Int32) (v6 : Int32) (s0_ : Int32) : Option (Int32 × Hp) := f_X8_smuggled_100 N s38 s52 h v0 v1 (v2 + (1 : Int32)) v3 s0_ v5 v6
set_option maxHeartbeats 4000000 in
set_option maxRecDepth 100000 in
theorem p_X8_smuggled_95 {X : XT} {r : Int32} {h' : Hp} (C : CX X cX8_smuggled "WaterStairModel" 7 (some .int) rmX8_smuggled) (hQ : QX X (some (vI r)) h' rmX8_smuggled.cells rmX8_smuggled.slots) {N : Nat} {s38 : Hp → Nat → Int32 → Int32 → Int32 → Int32 → Int32 → Option (Int32 × Hp)} {s52 : Hp → Nat → Int32 → Int32 → Int32 → Int32 → Int32 → Int32 → Option (Int32 × Hp)} (S38 : ∀ (h : Hp) (v0 : Nat) (v1 : Int32) (v2 : Int32) (v3 : Int32) (v4 : Int32) (v5 : Int32), s38 h v0 v1 v2 v3 v4 v5 = some ((r, h')) → V X 0 0 h 38 [(0, vR 8 (some v0)), (1, vI v1), (2, vI v2), (3, vI v3), (4, vI v4), (5, vI v5)] []) (S52 : ∀ (h : Hp) (v0 : Nat) (v1 : Int32) (v2 : Int32) (v3 : Int32) (v4 : Int32) (v5 : Int32) (v6 : Int32), s52 h v0 v1 v2 v3 v4 v5 v6 = some ((r, h')) → V X 0 0 h 52 [(0, vR 8 (some v0)), (1, vI v1), (2, vI v2), (3, vI v3), (4, vI v4), (5, vI v5), (6, vI v6)] []) {h : Hp} {v0 : Nat} {v1 : Int32} {v2 : Int32} {v3 : Int32} {v5 : Int32} {v6 : Int32} {s0_ : Int32} (hf : f_X8_smuggled_95 N s38 s52 h v0 v1 v2 v3 v5 v6 s0_ = some ((r, h'))) : V X 0 0 h 95 [(0, vR 8 (some v0)), (1, vI v1), (2, vI v2), (3, vI v3), (5, vI v5), (6, vI v6)] [vI s0_] := by
  unfold f_X8_smuggled_95 at hf
  refine V_istore (lv' := [(4, vI s0_), (0, vR 8 (some v0)), (1, vI v1), (2, vI v2), (3, vI v3), (5, vI v5), (6, vI v6)]) C dX8_smuggled_95 (by decide) rfl ?_
  refine V_iinc (lv' := [(2, vI (v2 + (1 : Int32))), (4, vI s0_), (0, vR 8 (some v0)), (1, vI v1), (3, vI v3), (5, vI v5), (6, vI v6)]) C dX8_smuggled_97 3 rfl (congrArg (v2 + ·) (by decide : Int32.ofInt (1) = (1 : Int32))) (by decide) rfl ?_
  refine V_sub (lv' := [(0, vR 8 (some v0)), (1, vI v1), (2, vI (v2 + (1 : Int32))), (3, vI v3), (4, vI s0_), (5, vI v5), (6, vI v6)]) [2, 3, 0, 4, 1, 5, 6] rfl ?_
  exact p_X8_smuggled_100 C hQ S38 S52 hf
def f_X8_smuggled_83 (N : Nat) (s38 : Hp → Nat → Int32 → Int32 → Int32 → Int32 → Int32 → Option (Int32 × Hp)) (s52 : Hp → Nat → Int32 → Int32 → Int32 → Int32 → Int32 → Int32 → Option (Int32 × Hp)) (h : Hp) (v0 : Nat) (v1 : Int32) (v2 : Int32) (v4 : Int32) (v5 : Int32) (v6 : Int32) (s0_ : Int32) : Option (Int32 × Hp) := if v2 = 0 then (f_X8_smuggled_95 N s38 s52 h v0 v1 v2 s0_ v5 v6 v6) else (f_X8_smuggled_95 N s38 s52 h v0 v1 v2 s0_ v5 v6 v4)
set_option maxHeartbeats 4000000 in
set_option maxRecDepth 100000 in
theorem p_X8_smuggled_83 {X : XT} {r : Int32} {h' : Hp} (C : CX X cX8_smuggled "WaterStairModel" 7 (some .int) rmX8_smuggled) (hQ : QX X (some (vI r)) h' rmX8_smuggled.cells rmX8_smuggled.slots) {N : Nat} {s38 : Hp → Nat → Int32 → Int32 → Int32 → Int32 → Int32 → Option (Int32 × Hp)} {s52 : Hp → Nat → Int32 → Int32 → Int32 → Int32 → Int32 → Int32 → Option (Int32 × Hp)} (S38 : ∀ (h : Hp) (v0 : Nat) (v1 : Int32) (v2 : Int32) (v3 : Int32) (v4 : Int32) (v5 : Int32), s38 h v0 v1 v2 v3 v4 v5 = some ((r, h')) → V X 0 0 h 38 [(0, vR 8 (some v0)), (1, vI v1), (2, vI v2), (3, vI v3), (4, vI v4), (5, vI v5)] []) (S52 : ∀ (h : Hp) (v0 : Nat) (v1 : Int32) (v2 : Int32) (v3 : Int32) (v4 : Int32) (v5 : Int32) (v6 : Int32), s52 h v0 v1 v2 v3 v4 v5 v6 = some ((r, h')) → V X 0 0 h 52 [(0, vR 8 (some v0)), (1, vI v1), (2, vI v2), (3, vI v3), (4, vI v4), (5, vI v5), (6, vI v6)] []) {h : Hp} {v0 : Nat} {v1 : Int32} {v2 : Int32} {v4 : Int32} {v5 : Int32} {v6 : Int32} {s0_ : Int32} (hf : f_X8_smuggled_83 N s38 s52 h v0 v1 v2 v4 v5 v6 s0_ = some ((r, h'))) : V X 0 0 h 83 [(0, vR 8 (some v0)), (1, vI v1), (2, vI v2), (4, vI v4), (5, vI v5), (6, vI v6)] [vI s0_] := by
  unfold f_X8_smuggled_83 at hf
  refine V_istore_n (lv' := [(3, vI s0_), (0, vR 8 (some v0)), (1, vI v1), (2, vI v2), (4, vI v4), (5, vI v5), (6, vI v6)]) C dX8_smuggled_83 rfl (by decide) rfl ?_
  refine V_iload_n C dX8_smuggled_84 rfl 3 rfl ?_
  refine V_if_ne C 93 dX8_smuggled_85 (by decide) (fun c1 => ?_) (fun c1 => ?_)
  · have hf := i_f c1 hf
    refine V_iload C dX8_smuggled_93 4 rfl ?_
    refine V_sub (lv' := [(0, vR 8 (some v0)), (1, vI v1), (2, vI v2), (3, vI s0_), (5, vI v5), (6, vI v6)]) [1, 2, 3, 0, 5, 6] rfl ?_
    exact p_X8_smuggled_95 C hQ S38 S52 hf
  · have hf := i_t c1 hf
    refine V_iload C dX8_smuggled_88 6 rfl ?_
    refine V_goto C 95 dX8_smuggled_90 (by decide) ?_
    refine V_sub (lv' := [(0, vR 8 (some v0)), (1, vI v1), (2, vI v2), (3, vI s0_), (5, vI v5), (6, vI v6)]) [1, 2, 3, 0, 5, 6] rfl ?_
    exact p_X8_smuggled_95 C hQ S38 S52 hf
def f_X8_smuggled_52 (N : Nat) (s38 : Hp → Nat → Int32 → Int32 → Int32 → Int32 → Int32 → Option (Int32 × Hp)) : Nat → Hp → Nat → Int32 → Int32 → Int32 → Int32 → Int32 → Int32 → Option (Int32 × Hp)
  | 0, _, _, _, _, _, _, _, _ => none
  | n + 1, h, v0, v1, v2, v3, v4, v5, v6 => if (20 : Int32) < v6 then (s38 h v0 v1 v2 v3 v4 (v5 + (1 : Int32))) else (b2 (f_X8_isBooked N h v0 v5 v6) (fun r3 h4 => if r3 = 0 then (f_X8_smuggled_100 N s38 (f_X8_smuggled_52 N s38 n) h4 v0 v1 v2 v3 v4 v5 v6) else (if v2 = 0 then (f_X8_smuggled_83 N s38 (f_X8_smuggled_52 N s38 n) h4 v0 v1 v2 v4 v5 v6 v5) else (f_X8_smuggled_83 N s38 (f_X8_smuggled_52 N s38 n) h4 v0 v1 v2 v4 v5 v6 v3))))
set_option maxHeartbeats 4000000 in
set_option maxRecDepth 100000 in
theorem p_X8_smuggled_52 {X : XT} {r : Int32} {h' : Hp} (C : CX X cX8_smuggled "WaterStairModel" 7 (some .int) rmX8_smuggled) (hQ : QX X (some (vI r)) h' rmX8_smuggled.cells rmX8_smuggled.slots) {N : Nat} {s38 : Hp → Nat → Int32 → Int32 → Int32 → Int32 → Int32 → Option (Int32 × Hp)} (S38 : ∀ (h : Hp) (v0 : Nat) (v1 : Int32) (v2 : Int32) (v3 : Int32) (v4 : Int32) (v5 : Int32), s38 h v0 v1 v2 v3 v4 v5 = some ((r, h')) → V X 0 0 h 38 [(0, vR 8 (some v0)), (1, vI v1), (2, vI v2), (3, vI v3), (4, vI v4), (5, vI v5)] []) : ∀ (n : Nat) (h : Hp) (v0 : Nat) (v1 : Int32) (v2 : Int32) (v3 : Int32) (v4 : Int32) (v5 : Int32) (v6 : Int32), f_X8_smuggled_52 N s38 n h v0 v1 v2 v3 v4 v5 v6 = some ((r, h')) → V X 0 0 h 52 [(0, vR 8 (some v0)), (1, vI v1), (2, vI v2), (3, vI v3), (4, vI v4), (5, vI v5), (6, vI v6)] [] := by
  intro n
  induction n with
  | zero =>
    intro h v0 v1 v2 v3 v4 v5 v6 hf
    have hf : (none : Option (Int32 × Hp)) = some _ := hf
    cases hf
  | succ n ih =>
    intro h v0 v1 v2 v3 v4 v5 v6 hf
    rw [f_X8_smuggled_52] at hf
    refine V_iload C dX8_smuggled_52 6 rfl ?_
    refine V_bipush (v := (20 : Int32)) C dX8_smuggled_54 (by decide) ?_
    refine V_icmp_gt C 106 dX8_smuggled_56 (by decide) (fun c2 => ?_) (fun c2 => ?_)
    · have hf := i_t c2 hf
      refine V_iinc (lv' := [(5, vI (v5 + (1 : Int32))), (0, vR 8 (some v0)), (1, vI v1), (2, vI v2), (3, vI v3), (4, vI v4), (6, vI v6)]) C dX8_smuggled_106 5 rfl (congrArg (v5 + ·) (by decide : Int32.ofInt (1) = (1 : Int32))) (by decide) rfl ?_
      refine V_goto C 38 dX8_smuggled_109 (by decide) ?_
      refine V_sub (lv' := [(0, vR 8 (some v0)), (1, vI v1), (2, vI v2), (3, vI v3), (4, vI v4), (5, vI (v5 + (1 : Int32)))]) [1, 2, 3, 4, 5, 0] rfl ?_
      exact S38 _ _ _ _ _ _ _ hf
    · have hf := i_f c2 hf
      refine V_aload_n C dX8_smuggled_59 rfl 0 rfl ?_
      refine V_iload C dX8_smuggled_60 5 rfl ?_
      refine V_iload C dX8_smuggled_62 6 rfl ?_
      obtain ⟨r3, h4, er3, hf⟩ := o_b2 hf
      refine V_callV (as := [vI v5, vI v6]) (st := []) C ml_X8_473 fx8 (ct_X8_isBooked er3) rfl ⟨by decide, by decide, by decide, by decide⟩ (Nat.le_of_ble_eq_true rfl) rfl dX8_smuggled_64 (cs' := 0) (sl' := 0) rfl rfl ?_
      refine V_if_ne C 73 dX8_smuggled_67 (by decide) (fun c5 => ?_) (fun c5 => ?_)
      · have hf := i_f c5 hf
        refine V_iload_n C dX8_smuggled_73 rfl 2 rfl ?_
        refine V_if_ne C 82 dX8_smuggled_74 (by decide) (fun c6 => ?_) (fun c6 => ?_)
        · have hf := i_f c6 hf
          refine V_iload_n C dX8_smuggled_82 rfl 3 rfl ?_
          refine V_sub (lv' := [(0, vR 8 (some v0)), (1, vI v1), (2, vI v2), (4, vI v4), (5, vI v5), (6, vI v6)]) [0, 1, 2, 4, 5, 6] rfl ?_
          exact p_X8_smuggled_83 C hQ S38 ih hf
        · have hf := i_t c6 hf
          refine V_iload C dX8_smuggled_77 5 rfl ?_
          refine V_goto C 83 dX8_smuggled_79 (by decide) ?_
          refine V_sub (lv' := [(0, vR 8 (some v0)), (1, vI v1), (2, vI v2), (4, vI v4), (5, vI v5), (6, vI v6)]) [0, 1, 2, 4, 5, 6] rfl ?_
          exact p_X8_smuggled_83 C hQ S38 ih hf
      · have hf := i_t c5 hf
        refine V_goto C 100 dX8_smuggled_70 (by decide) ?_
        refine V_sub (lv' := [(0, vR 8 (some v0)), (1, vI v1), (2, vI v2), (3, vI v3), (4, vI v4), (5, vI v5), (6, vI v6)]) [0, 1, 2, 3, 4, 5, 6] rfl ?_
        exact p_X8_smuggled_100 C hQ S38 ih hf
def f_X8_smuggled_38 (N : Nat) : Nat → Hp → Nat → Int32 → Int32 → Int32 → Int32 → Int32 → Option (Int32 × Hp)
  | 0, _, _, _, _, _, _, _ => none
  | n + 1, h, v0, v1, v2, v3, v4, v5 => Option.bind (hP h v0 26) (fun q7 => if 1 < hL h q7 then (if (hI h q7 (1)) ≤ v5 then (if v1 = 0 then (some ((v2, h))) else (if v1 = (1 : Int32) then (some ((v3, h))) else (some ((v4, h))))) else (f_X8_smuggled_52 N (f_X8_smuggled_38 N n) N h v0 v1 v2 v3 v4 v5 (1 : Int32))) else none)
set_option maxHeartbeats 4000000 in
set_option maxRecDepth 100000 in
theorem p_X8_smuggled_38 {X : XT} {r : Int32} {h' : Hp} (C : CX X cX8_smuggled "WaterStairModel" 7 (some .int) rmX8_smuggled) (hQ : QX X (some (vI r)) h' rmX8_smuggled.cells rmX8_smuggled.slots) {N : Nat}  : ∀ (n : Nat) (h : Hp) (v0 : Nat) (v1 : Int32) (v2 : Int32) (v3 : Int32) (v4 : Int32) (v5 : Int32), f_X8_smuggled_38 N n h v0 v1 v2 v3 v4 v5 = some ((r, h')) → V X 0 0 h 38 [(0, vR 8 (some v0)), (1, vI v1), (2, vI v2), (3, vI v3), (4, vI v4), (5, vI v5)] [] := by
  intro n
  induction n with
  | zero =>
    intro h v0 v1 v2 v3 v4 v5 hf
    have hf : (none : Option (Int32 × Hp)) = some _ := hf
    cases hf
  | succ n ih =>
    intro h v0 v1 v2 v3 v4 v5 hf
    rw [f_X8_smuggled_38] at hf
    refine V_iload C dX8_smuggled_38 5 rfl ?_
    refine V_aload_n C dX8_smuggled_40 rfl 0 rfl ?_
    obtain ⟨q7, eq7, hf⟩ := o_b hf
    refine V_getR C fl_X8_42 rfl rfl (by decide) eq7 dX8_smuggled_41 ?_
    refine V_iconst (v := (1 : Int32)) C dX8_smuggled_44 (by decide) ?_
    obtain ⟨g8, hf⟩ := o_if hf
    refine V_iald C (vp_k (by decide) (by decide) g8) (by decide : Int32.toNatClampNeg (1 : Int32) = 1) dX8_smuggled_45 ?_
    refine V_icmp_ge C 112 dX8_smuggled_46 (by decide) (fun c9 => ?_) (fun c9 => ?_)
    · have hf := i_t c9 hf
      refine V_iload_n C dX8_smuggled_112 rfl 1 rfl ?_
      refine V_if_ne C 120 dX8_smuggled_113 (by decide) (fun c10 => ?_) (fun c10 => ?_)
      · have hf := i_f c10 hf
        refine V_iload_n C dX8_smuggled_120 rfl 1 rfl ?_
        refine V_iconst (v := (1 : Int32)) C dX8_smuggled_121 (by decide) ?_
        refine V_icmp_ne C 129 dX8_smuggled_122 (by decide) (fun c11 => ?_) (fun c11 => ?_)
        · have hf := i_f c11 hf
          refine V_iload C dX8_smuggled_129 4 rfl ?_
          obtain ⟨hf1, hf2⟩ := Prod.mk.inj (Option.some.inj hf)
          subst hf1
          subst hf2
          exact V_iret C hQ dX8_smuggled_131
        · have hf := i_t c11 hf
          refine V_iload_n C dX8_smuggled_125 rfl 3 rfl ?_
          refine V_goto C 131 dX8_smuggled_126 (by decide) ?_
          obtain ⟨hf1, hf2⟩ := Prod.mk.inj (Option.some.inj hf)
          subst hf1
          subst hf2
          exact V_iret C hQ dX8_smuggled_131
      · have hf := i_t c10 hf
        refine V_iload_n C dX8_smuggled_116 rfl 2 rfl ?_
        refine V_goto C 131 dX8_smuggled_117 (by decide) ?_
        obtain ⟨hf1, hf2⟩ := Prod.mk.inj (Option.some.inj hf)
        subst hf1
        subst hf2
        exact V_iret C hQ dX8_smuggled_131
    · have hf := i_f c9 hf
      refine V_iconst (v := (1 : Int32)) C dX8_smuggled_49 (by decide) ?_
      refine V_istore (lv' := [(6, vI (1 : Int32)), (0, vR 8 (some v0)), (1, vI v1), (2, vI v2), (3, vI v3), (4, vI v4), (5, vI v5)]) C dX8_smuggled_50 (by decide) rfl ?_
      refine V_sub (lv' := [(0, vR 8 (some v0)), (1, vI v1), (2, vI v2), (3, vI v3), (4, vI v4), (5, vI v5), (6, vI (1 : Int32))]) [1, 2, 3, 4, 5, 6, 0] rfl ?_
      exact p_X8_smuggled_52 C hQ ih N _ _ _ _ _ _ _ _ hf
def f_X8_smuggled (N : Nat) (h : Hp) (v0 : Nat) (v1 : Int32) : Option (Int32 × Hp) := Option.bind (hP h v0 26) (fun q12 => if 0 < hL h q12 then (if hI h q12 (0) = 0 then (some (((-1 : Int32), h))) else (Option.bind (f_X8_in h (v1.toInt64) (0 : Int64) (2 : Int64)) (fun r15 => if r15 = 0 then (some (((-1 : Int32), h))) else (Option.bind (f_X8_keeps N h v0) (fun h17 => f_X8_smuggled_38 N N h17 v0 v1 (0 : Int32) (-2 : Int32) (0 : Int32) (0 : Int32)))))) else none)
set_option maxHeartbeats 4000000 in
set_option maxRecDepth 100000 in
theorem p_X8_smuggled {X : XT} {r : Int32} {h' : Hp} (C : CX X cX8_smuggled "WaterStairModel" 7 (some .int) rmX8_smuggled) {N : Nat} {h : Hp} {v0 : Nat} {v1 : Int32} (hQ : QX X (some (vI r)) h' rmX8_smuggled.cells rmX8_smuggled.slots) (hf : f_X8_smuggled N h v0 v1 = some ((r, h'))) : V X 0 0 h 0 [(0, vR 8 (some v0)), (1, vI v1)] [] := by
  unfold f_X8_smuggled at hf
  refine V_aload_n C dX8_smuggled_0 rfl 0 rfl ?_
  obtain ⟨q12, eq12, hf⟩ := o_b hf
  refine V_getR C fl_X8_42 rfl rfl (by decide) eq12 dX8_smuggled_1 ?_
  refine V_iconst (v := (0 : Int32)) C dX8_smuggled_4 (by decide) ?_
  obtain ⟨g13, hf⟩ := o_if hf
  refine V_iald C (vp_k (by decide) (by decide) g13) (by decide : Int32.toNatClampNeg (0 : Int32) = 0) dX8_smuggled_5 ?_
  refine V_if_eq C 21 dX8_smuggled_6 (by decide) (fun c14 => ?_) (fun c14 => ?_)
  · have hf := i_t c14 hf
    refine V_iconst (v := (-1 : Int32)) C dX8_smuggled_21 (by decide) ?_
    obtain ⟨hf1, hf2⟩ := Prod.mk.inj (Option.some.inj hf)
    subst hf1
    subst hf2
    exact V_iret C hQ dX8_smuggled_22
  · have hf := i_f c14 hf
    refine V_iload_n C dX8_smuggled_9 rfl 1 rfl ?_
    refine V_i2l C dX8_smuggled_10 ?_
    refine V_lconst (v := (0 : Int64)) C dX8_smuggled_11 (by decide) ?_
    refine V_ldc2 C kl_X8_449 dX8_smuggled_12 ?_
    obtain ⟨r15, er15, hf⟩ := o_b hf
    refine V_callS (as := [vL (v1.toInt64), vL (0 : Int64), vL (2 : Int64)]) (st := []) C ml_X8_127 (ct_X8_in er15) rfl ⟨by decide, by decide, by decide, by decide⟩ (Nat.le_of_ble_eq_true rfl) rfl dX8_smuggled_15 (cs' := 0) (sl' := 0) rfl rfl ?_
    refine V_if_ne C 23 dX8_smuggled_18 (by decide) (fun c16 => ?_) (fun c16 => ?_)
    · have hf := i_f c16 hf
      refine V_iconst (v := (0 : Int32)) C dX8_smuggled_23 (by decide) ?_
      refine V_istore_n (lv' := [(2, vI (0 : Int32)), (0, vR 8 (some v0)), (1, vI v1)]) C dX8_smuggled_24 rfl (by decide) rfl ?_
      refine V_bipush (v := (-2 : Int32)) C dX8_smuggled_25 (by decide) ?_
      refine V_istore_n (lv' := [(3, vI (-2 : Int32)), (2, vI (0 : Int32)), (0, vR 8 (some v0)), (1, vI v1)]) C dX8_smuggled_27 rfl (by decide) rfl ?_
      refine V_iconst (v := (0 : Int32)) C dX8_smuggled_28 (by decide) ?_
      refine V_istore (lv' := [(4, vI (0 : Int32)), (3, vI (-2 : Int32)), (2, vI (0 : Int32)), (0, vR 8 (some v0)), (1, vI v1)]) C dX8_smuggled_29 (by decide) rfl ?_
      refine V_aload_n C dX8_smuggled_31 rfl 3 rfl ?_
      obtain ⟨h17, eh17, hf⟩ := o_b hf
      refine V_callV (as := []) (st := []) C ml_X8_397 fx8 (ct_X8_keeps eh17) rfl ⟨by decide, by decide, by decide, by decide⟩ (Nat.le_of_ble_eq_true rfl) rfl dX8_smuggled_32 (cs' := 0) (sl' := 0) rfl rfl ?_
      refine V_iconst (v := (0 : Int32)) C dX8_smuggled_35 (by decide) ?_
      refine V_istore (lv' := [(5, vI (0 : Int32)), (4, vI (0 : Int32)), (3, vI (-2 : Int32)), (2, vI (0 : Int32)), (0, vR 8 (some v0)), (1, vI v1)]) C dX8_smuggled_36 (by decide) rfl ?_
      refine V_sub (lv' := [(0, vR 8 (some v0)), (1, vI v1), (2, vI (0 : Int32)), (3, vI (-2 : Int32)), (4, vI (0 : Int32)), (5, vI (0 : Int32))]) [4, 5, 3, 2, 1, 0] rfl ?_
      exact p_X8_smuggled_38 C hQ N _ _ _ _ _ _ _ hf
    · have hf := i_t c16 hf
      refine V_iconst (v := (-1 : Int32)) C dX8_smuggled_21 (by decide) ?_
      obtain ⟨hf1, hf2⟩ := Prod.mk.inj (Option.some.inj hf)
      subst hf1
      subst hf2
      exact V_iret C hQ dX8_smuggled_22
theorem ct_X8_smuggled {r : Int32} {h' : Hp} {N : Nat} {h : Hp} {v0 : Nat} {v1 : Int32} (hf : f_X8_smuggled N h v0 v1 = some ((r, h'))) (l : Launch) (G : GT) : MC l G yX8_smuggled cX8_smuggled 7 (some .int) rmX8_smuggled h [vR 8 (some v0), vI v1] (some (vI r)) h' := MC_of (by decide) rfl (Nat.le_of_ble_eq_true rfl) rfl (fun X C hQ hin => p_X8_smuggled C hQ hf)
abbrev rmX8_seed : Room := { frames := 0, cells := 0, slots := 0, locals := 0 }
def f_X8_seed (h : Hp) (v0 : Nat) (v1 : Int32) : Option (Int32 × Hp) := if 0 ≤ v1 then (Option.bind (hP h v0 26) (fun q2 => if 7 < hL h q2 then (Option.bind (hP h v0 26) (fun q4 => if 7 < hL h q4 then (lt (sI h q4 (7) v1) (fun h6 => some ((hI h q2 (7), h6)))) else none)) else none)) else (some (((-1 : Int32), h)))
set_option maxHeartbeats 4000000 in
set_option maxRecDepth 100000 in
theorem p_X8_seed {X : XT} {r : Int32} {h' : Hp} (C : CX X cX8_seed "WaterStairModel" 3 (some .int) rmX8_seed) {h : Hp} {v0 : Nat} {v1 : Int32} (hQ : QX X (some (vI r)) h' rmX8_seed.cells rmX8_seed.slots) (hf : f_X8_seed h v0 v1 = some ((r, h'))) : V X 0 0 h 0 [(0, vR 8 (some v0)), (1, vI v1)] [] := by
  unfold f_X8_seed at hf
  refine V_iload_n C dX8_seed_0 rfl 1 rfl ?_
  refine V_if_ge C 6 dX8_seed_1 (by decide) (fun c1 => ?_) (fun c1 => ?_)
  · have hf := i_t c1 hf
    refine V_aload_n C dX8_seed_6 rfl 0 rfl ?_
    obtain ⟨q2, eq2, hf⟩ := o_b hf
    refine V_getR C fl_X8_42 rfl rfl (by decide) eq2 dX8_seed_7 ?_
    refine V_bipush (v := (7 : Int32)) C dX8_seed_10 (by decide) ?_
    obtain ⟨g3, hf⟩ := o_if hf
    refine V_iald C (vp_k (by decide) (by decide) g3) (by decide : Int32.toNatClampNeg (7 : Int32) = 7) dX8_seed_12 ?_
    refine V_istore_n (lv' := [(2, vI (hI h q2 (7))), (0, vR 8 (some v0)), (1, vI v1)]) C dX8_seed_13 rfl (by decide) rfl ?_
    refine V_aload_n C dX8_seed_14 rfl 1 rfl ?_
    obtain ⟨q4, eq4, hf⟩ := o_b hf
    refine V_getR C fl_X8_42 rfl rfl (by decide) eq4 dX8_seed_15 ?_
    refine V_bipush (v := (7 : Int32)) C dX8_seed_18 (by decide) ?_
    refine V_iload_n C dX8_seed_20 rfl 2 rfl ?_
    obtain ⟨g5, hf⟩ := o_if hf
    obtain ⟨h6, eh6, hf⟩ := o_l hf
    refine V_iast C (vp_k (by decide) (by decide) g5) (by decide : Int32.toNatClampNeg (7 : Int32) = 7) dX8_seed_21 (V_eqH eh6 ?_)
    refine V_iload_n C dX8_seed_22 rfl 0 rfl ?_
    obtain ⟨hf1, hf2⟩ := Prod.mk.inj (Option.some.inj hf)
    subst hf1
    subst hf2
    exact V_iret C hQ dX8_seed_23
  · have hf := i_f c1 hf
    refine V_iconst (v := (-1 : Int32)) C dX8_seed_4 (by decide) ?_
    obtain ⟨hf1, hf2⟩ := Prod.mk.inj (Option.some.inj hf)
    subst hf1
    subst hf2
    exact V_iret C hQ dX8_seed_5
theorem ct_X8_seed {r : Int32} {h' : Hp} {h : Hp} {v0 : Nat} {v1 : Int32} (hf : f_X8_seed h v0 v1 = some ((r, h'))) (l : Launch) (G : GT) : MC l G yX8_seed cX8_seed 3 (some .int) rmX8_seed h [vR 8 (some v0), vI v1] (some (vI r)) h' := MC_of (by decide) rfl (Nat.le_of_ble_eq_true rfl) rfl (fun X C hQ hin => p_X8_seed C hQ hf)
abbrev rmX8_seasons : Room := { frames := 8, cells := 0, slots := 0, locals := 181 }
def f_X8_seasons_215 (N : Nat) (s65 : Hp → Nat → Int32 → Int32 → Int32 → Int64 → Int32 → Int32 → Option (Int32 × Hp)) (h : Hp) (v0 : Nat) (v1 : Int32) (v2 : Int32) (v3 : Int32) (v4 : Int64) (v7 : Int32) (s1_ : Int32) (s0_ : Int32) : Option (Int32 × Hp) := Option.bind (f_X8_putsBack N h v0) (fun h1 => s65 h1 v0 v1 v2 v3 v4 (s0_ + s1_) (v7 + (1 : Int32)))
set_option maxHeartbeats 4000000 in
set_option maxRecDepth 100000 in
theorem p_X8_seasons_215 {X : XT} {r : Int32} {h' : Hp} (C : CX X cX8_seasons "WaterStairModel" 9 (some .int) rmX8_seasons) (hQ : QX X (some (vI r)) h' rmX8_seasons.cells rmX8_seasons.slots) {N : Nat} {s65 : Hp → Nat → Int32 → Int32 → Int32 → Int64 → Int32 → Int32 → Option (Int32 × Hp)} (S65 : ∀ (h : Hp) (v0 : Nat) (v1 : Int32) (v2 : Int32) (v3 : Int32) (v4 : Int64) (v6 : Int32) (v7 : Int32), s65 h v0 v1 v2 v3 v4 v6 v7 = some ((r, h')) → V X 0 0 h 65 [(0, vR 8 (some v0)), (1, vI v1), (2, vI v2), (3, vI v3), (4, vL v4), (6, vI v6), (7, vI v7)] []) {h : Hp} {v0 : Nat} {v1 : Int32} {v2 : Int32} {v3 : Int32} {v4 : Int64} {v7 : Int32} {s1_ : Int32} {s0_ : Int32} (hf : f_X8_seasons_215 N s65 h v0 v1 v2 v3 v4 v7 s1_ s0_ = some ((r, h'))) : V X 0 0 h 215 [(0, vR 8 (some v0)), (1, vI v1), (2, vI v2), (3, vI v3), (4, vL v4), (7, vI v7)] [vI s1_, vI s0_] := by
  unfold f_X8_seasons_215 at hf
  refine V_iadd C dX8_seasons_215 ?_
  refine V_istore (lv' := [(6, vI (s0_ + s1_)), (0, vR 8 (some v0)), (1, vI v1), (2, vI v2), (3, vI v3), (4, vL v4), (7, vI v7)]) C dX8_seasons_216 (by decide) rfl ?_
  refine V_aload_n C dX8_seasons_218 rfl 1 rfl ?_
  obtain ⟨h1, eh1, hf⟩ := o_b hf
  refine V_callV (as := []) (st := []) C ml_X8_403 fx8 (ct_X8_putsBack eh1) rfl ⟨by decide, by decide, by decide, by decide⟩ (Nat.le_of_ble_eq_true rfl) rfl dX8_seasons_219 (cs' := 0) (sl' := 0) rfl rfl ?_
  refine V_iinc (lv' := [(7, vI (v7 + (1 : Int32))), (6, vI (s0_ + s1_)), (0, vR 8 (some v0)), (1, vI v1), (2, vI v2), (3, vI v3), (4, vL v4)]) C dX8_seasons_222 6 rfl (congrArg (v7 + ·) (by decide : Int32.ofInt (1) = (1 : Int32))) (by decide) rfl ?_
  refine V_goto C 65 dX8_seasons_225 (by decide) ?_
  refine V_sub (lv' := [(0, vR 8 (some v0)), (1, vI v1), (2, vI v2), (3, vI v3), (4, vL v4), (6, vI (s0_ + s1_)), (7, vI (v7 + (1 : Int32)))]) [2, 3, 4, 5, 6, 1, 0] rfl ?_
  exact S65 _ _ _ _ _ _ _ _ hf
def f_X8_seasons_74 (N : Nat) (s65 : Hp → Nat → Int32 → Int32 → Int32 → Int64 → Int32 → Int32 → Option (Int32 × Hp)) : Nat → Hp → Nat → Int32 → Int32 → Int32 → Int64 → Int32 → Int32 → Int32 → Option (Int32 × Hp)
  | 0, _, _, _, _, _, _, _, _, _ => none
  | n + 1, h, v0, v1, v2, v3, v4, v6, v7, v8 => Option.bind (hP h v0 26) (fun q2 => if 1 < hL h q2 then (if (hI h q2 (1)) ≤ v8 then (b2 (f_X8_runs N h v0 (200 : Int32)) (fun r5 h6 => if v3 = 0 then (Option.bind (f_X8_homeOnes N h6 v0) (fun r12 => Option.bind (f_X8_bits N h6 r12) (fun r13 => f_X8_seasons_215 N s65 h6 v0 v1 v2 v3 v4 v7 r13 v6))) else (Option.bind (hP h6 v0 26) (fun q8 => if 4 < hL h6 q8 then (Option.bind (hP h6 v0 27) (fun q10 => if 4 < hL h6 q10 then (f_X8_seasons_215 N s65 h6 v0 v1 v2 v3 v4 v7 ((hI h6 q8 (4)) - (hI h6 q10 (4))) v6) else none)) else none)))) else (lt (((v4 * (1103515245 : Int64)) + (12345 : Int64)) - ((v4 * (1103515245 : Int64)) + (12345 : Int64)) / (2147483648 : Int64) * (2147483648 : Int64)) (fun y14 => Option.bind (hP h v0 26) (fun q15 => if ¬ v2.toInt64 = 0 then (lt ((1 : Int32) + (((y14 / (65536 : Int64)) - (y14 / (65536 : Int64)) / (v2.toInt64) * (v2.toInt64)).toInt32)) (fun y17 => if 0 ≤ (25 : Int32) + ((5 : Int32) * v8) ∧ ((25 : Int32) + ((5 : Int32) * v8)).toNatClampNeg < hL h q15 then (lt (sI h q15 (((25 : Int32) + ((5 : Int32) * v8)).toNatClampNeg) y17) (fun h19 => lt (((y14 * (1103515245 : Int64)) + (12345 : Int64)) - ((y14 * (1103515245 : Int64)) + (12345 : Int64)) / (2147483648 : Int64) * (2147483648 : Int64)) (fun y20 => Option.bind (hP h19 v0 26) (fun q21 => lt (((y20 / (65536 : Int64)) - (y20 / (65536 : Int64)) / (2 : Int64) * (2 : Int64)).toInt32) (fun y22 => if 0 ≤ ((25 : Int32) + ((5 : Int32) * v8)) + (2 : Int32) ∧ (((25 : Int32) + ((5 : Int32) * v8)) + (2 : Int32)).toNatClampNeg < hL h19 q21 then (lt (sI h19 q21 ((((25 : Int32) + ((5 : Int32) * v8)) + (2 : Int32)).toNatClampNeg) y22) (fun h24 => Option.bind (f_X8_begins h24 v0 v8) (fun h25 => f_X8_seasons_74 N s65 n h25 v0 v1 v2 v3 y20 v6 v7 (v8 + (1 : Int32))))) else none))))) else none)) else none)))) else none)
set_option maxHeartbeats 4000000 in
set_option maxRecDepth 100000 in
theorem p_X8_seasons_74 {X : XT} {r : Int32} {h' : Hp} (C : CX X cX8_seasons "WaterStairModel" 9 (some .int) rmX8_seasons) (hQ : QX X (some (vI r)) h' rmX8_seasons.cells rmX8_seasons.slots) {N : Nat} {s65 : Hp → Nat → Int32 → Int32 → Int32 → Int64 → Int32 → Int32 → Option (Int32 × Hp)} (S65 : ∀ (h : Hp) (v0 : Nat) (v1 : Int32) (v2 : Int32) (v3 : Int32) (v4 : Int64) (v6 : Int32) (v7 : Int32), s65 h v0 v1 v2 v3 v4 v6 v7 = some ((r, h')) → V X 0 0 h 65 [(0, vR 8 (some v0)), (1, vI v1), (2, vI v2), (3, vI v3), (4, vL v4), (6, vI v6), (7, vI v7)] []) : ∀ (n : Nat) (h : Hp) (v0 : Nat) (v1 : Int32) (v2 : Int32) (v3 : Int32) (v4 : Int64) (v6 : Int32) (v7 : Int32) (v8 : Int32), f_X8_seasons_74 N s65 n h v0 v1 v2 v3 v4 v6 v7 v8 = some ((r, h')) → V X 0 0 h 74 [(0, vR 8 (some v0)), (1, vI v1), (2, vI v2), (3, vI v3), (4, vL v4), (6, vI v6), (7, vI v7), (8, vI v8)] [] := by
  intro n
  induction n with
  | zero =>
    intro h v0 v1 v2 v3 v4 v6 v7 v8 hf
    have hf : (none : Option (Int32 × Hp)) = some _ := hf
    cases hf
  | succ n ih =>
    intro h v0 v1 v2 v3 v4 v6 v7 v8 hf
    rw [f_X8_seasons_74] at hf
    refine V_iload C dX8_seasons_74 7 rfl ?_
    refine V_aload_n C dX8_seasons_76 rfl 0 rfl ?_
    obtain ⟨q2, eq2, hf⟩ := o_b hf
    refine V_getR C fl_X8_42 rfl rfl (by decide) eq2 dX8_seasons_77 ?_
    refine V_iconst (v := (1 : Int32)) C dX8_seasons_80 (by decide) ?_
    obtain ⟨g3, hf⟩ := o_if hf
    refine V_iald C (vp_k (by decide) (by decide) g3) (by decide : Int32.toNatClampNeg (1 : Int32) = 1) dX8_seasons_81 ?_
    refine V_icmp_ge C 178 dX8_seasons_82 (by decide) (fun c4 => ?_) (fun c4 => ?_)
    · have hf := i_t c4 hf
      refine V_aload_n C dX8_seasons_178 rfl 0 rfl ?_
      refine V_sipush (v := (200 : Int32)) C dX8_seasons_179 (by decide) ?_
      obtain ⟨r5, h6, er5, hf⟩ := o_b2 hf
      refine V_callV (as := [vI (200 : Int32)]) (st := []) C ml_X8_391 fx8 (ct_X8_runs er5) rfl ⟨by decide, by decide, by decide, by decide⟩ (Nat.le_of_ble_eq_true rfl) rfl dX8_seasons_182 (cs' := 0) (sl' := 0) rfl rfl ?_
      refine V_pop C dX8_seasons_185 rfl ?_
      refine V_iload C dX8_seasons_186 5 rfl ?_
      refine V_iload_n C dX8_seasons_188 rfl 3 rfl ?_
      refine V_if_ne C 202 dX8_seasons_189 (by decide) (fun c7 => ?_) (fun c7 => ?_)
      · have hf := i_f c7 hf
        refine V_aload_n C dX8_seasons_202 rfl 0 rfl ?_
        obtain ⟨q8, eq8, hf⟩ := o_b hf
        refine V_getR C fl_X8_42 rfl rfl (by decide) eq8 dX8_seasons_203 ?_
        refine V_iconst (v := (4 : Int32)) C dX8_seasons_206 (by decide) ?_
        obtain ⟨g9, hf⟩ := o_if hf
        refine V_iald C (vp_k (by decide) (by decide) g9) (by decide : Int32.toNatClampNeg (4 : Int32) = 4) dX8_seasons_207 ?_
        refine V_aload_n C dX8_seasons_208 rfl 0 rfl ?_
        obtain ⟨q10, eq10, hf⟩ := o_b hf
        refine V_getR C fl_X8_45 rfl rfl (by decide) eq10 dX8_seasons_209 ?_
        refine V_iconst (v := (4 : Int32)) C dX8_seasons_212 (by decide) ?_
        obtain ⟨g11, hf⟩ := o_if hf
        refine V_iald C (vp_k (by decide) (by decide) g11) (by decide : Int32.toNatClampNeg (4 : Int32) = 4) dX8_seasons_213 ?_
        refine V_isub C dX8_seasons_214 ?_
        refine V_sub (lv' := [(0, vR 8 (some v0)), (1, vI v1), (2, vI v2), (3, vI v3), (4, vL v4), (7, vI v7)]) [0, 1, 2, 3, 4, 6] rfl ?_
        exact p_X8_seasons_215 C hQ S65 hf
      · have hf := i_t c7 hf
        refine V_aload_n C dX8_seasons_192 rfl 0 rfl ?_
        obtain ⟨r12, er12, hf⟩ := o_b hf
        refine V_callV (as := []) (st := [vI v6]) C ml_X8_394 fx8 (ct_X8_homeOnes er12) rfl ⟨by decide, by decide, by decide, by decide⟩ (Nat.le_of_ble_eq_true rfl) rfl dX8_seasons_193 (cs' := 0) (sl' := 0) rfl rfl ?_
        obtain ⟨r13, er13, hf⟩ := o_b hf
        refine V_callS (as := [vI r12]) (st := [vI v6]) C ml_X8_333 (ct_X8_bits er13) rfl ⟨by decide, by decide, by decide, by decide⟩ (Nat.le_of_ble_eq_true rfl) rfl dX8_seasons_196 (cs' := 0) (sl' := 0) rfl rfl ?_
        refine V_goto C 215 dX8_seasons_199 (by decide) ?_
        refine V_sub (lv' := [(0, vR 8 (some v0)), (1, vI v1), (2, vI v2), (3, vI v3), (4, vL v4), (7, vI v7)]) [0, 1, 2, 3, 4, 6] rfl ?_
        exact p_X8_seasons_215 C hQ S65 hf
    · have hf := i_f c4 hf
      refine V_lload C dX8_seasons_85 4 rfl ?_
      refine V_ldc2 C kl_X8_480 dX8_seasons_87 ?_
      refine V_lmul C dX8_seasons_90 ?_
      refine V_ldc2 C kl_X8_482 dX8_seasons_91 ?_
      refine V_ladd C dX8_seasons_94 ?_
      refine V_ldc2 C kl_X8_484 dX8_seasons_95 ?_
      refine V_lrem C dX8_seasons_98 (by decide) ?_
      obtain ⟨y14, ey14, hf⟩ := o_l hf
      refine V_eqL ey14 ?_
      refine V_lstore (lv' := [(4, vL y14), (0, vR 8 (some v0)), (1, vI v1), (2, vI v2), (3, vI v3), (6, vI v6), (7, vI v7), (8, vI v8)]) C dX8_seasons_99 (by decide) rfl ?_
      refine V_aload_n C dX8_seasons_101 rfl 1 rfl ?_
      obtain ⟨q15, eq15, hf⟩ := o_b hf
      refine V_getR C fl_X8_42 rfl rfl (by decide) eq15 dX8_seasons_102 ?_
      refine V_bipush (v := (25 : Int32)) C dX8_seasons_105 (by decide) ?_
      refine V_iconst (v := (5 : Int32)) C dX8_seasons_107 (by decide) ?_
      refine V_iload C dX8_seasons_108 7 rfl ?_
      refine V_imul C dX8_seasons_110 ?_
      refine V_iadd C dX8_seasons_111 ?_
      refine V_iconst (v := (1 : Int32)) C dX8_seasons_112 (by decide) ?_
      refine V_lload C dX8_seasons_113 0 rfl ?_
      refine V_ldc2 C kl_X8_486 dX8_seasons_115 ?_
      refine V_ldiv C dX8_seasons_118 (by decide) ?_
      refine V_iload_n C dX8_seasons_119 rfl 3 rfl ?_
      refine V_i2l C dX8_seasons_120 ?_
      obtain ⟨g16, hf⟩ := o_if hf
      refine V_lrem C dX8_seasons_121 g16 ?_
      refine V_l2i C dX8_seasons_122 ?_
      refine V_iadd C dX8_seasons_123 ?_
      obtain ⟨y17, ey17, hf⟩ := o_l hf
      refine V_eqI ey17 ?_
      obtain ⟨g18, hf⟩ := o_if hf
      obtain ⟨h19, eh19, hf⟩ := o_l hf
      refine V_iast C (vp_g g18) rfl dX8_seasons_124 (V_eqH eh19 ?_)
      refine V_lload C dX8_seasons_125 0 rfl ?_
      refine V_ldc2 C kl_X8_480 dX8_seasons_127 ?_
      refine V_lmul C dX8_seasons_130 ?_
      refine V_ldc2 C kl_X8_482 dX8_seasons_131 ?_
      refine V_ladd C dX8_seasons_134 ?_
      refine V_ldc2 C kl_X8_484 dX8_seasons_135 ?_
      refine V_lrem C dX8_seasons_138 (by decide) ?_
      obtain ⟨y20, ey20, hf⟩ := o_l hf
      refine V_eqL ey20 ?_
      refine V_lstore (lv' := [(4, vL y20), (0, vR 8 (some v0)), (1, vI v1), (2, vI v2), (3, vI v3), (6, vI v6), (7, vI v7), (8, vI v8)]) C dX8_seasons_139 (by decide) rfl ?_
      refine V_aload_n C dX8_seasons_141 rfl 1 rfl ?_
      obtain ⟨q21, eq21, hf⟩ := o_b hf
      refine V_getR C fl_X8_42 rfl rfl (by decide) eq21 dX8_seasons_142 ?_
      refine V_bipush (v := (25 : Int32)) C dX8_seasons_145 (by decide) ?_
      refine V_iconst (v := (5 : Int32)) C dX8_seasons_147 (by decide) ?_
      refine V_iload C dX8_seasons_148 7 rfl ?_
      refine V_imul C dX8_seasons_150 ?_
      refine V_iadd C dX8_seasons_151 ?_
      refine V_iconst (v := (2 : Int32)) C dX8_seasons_152 (by decide) ?_
      refine V_iadd C dX8_seasons_153 ?_
      refine V_lload C dX8_seasons_154 0 rfl ?_
      refine V_ldc2 C kl_X8_486 dX8_seasons_156 ?_
      refine V_ldiv C dX8_seasons_159 (by decide) ?_
      refine V_ldc2 C kl_X8_449 dX8_seasons_160 ?_
      refine V_lrem C dX8_seasons_163 (by decide) ?_
      refine V_l2i C dX8_seasons_164 ?_
      obtain ⟨y22, ey22, hf⟩ := o_l hf
      refine V_eqI ey22 ?_
      obtain ⟨g23, hf⟩ := o_if hf
      obtain ⟨h24, eh24, hf⟩ := o_l hf
      refine V_iast C (vp_g g23) rfl dX8_seasons_165 (V_eqH eh24 ?_)
      refine V_aload_n C dX8_seasons_166 rfl 1 rfl ?_
      refine V_iload C dX8_seasons_167 7 rfl ?_
      obtain ⟨h25, eh25, hf⟩ := o_b hf
      refine V_callV (as := [vI v8]) (st := []) C ml_X8_274 fx8 (ct_X8_begins eh25) rfl ⟨by decide, by decide, by decide, by decide⟩ (Nat.le_of_ble_eq_true rfl) rfl dX8_seasons_169 (cs' := 0) (sl' := 0) rfl rfl ?_
      refine V_iinc (lv' := [(8, vI (v8 + (1 : Int32))), (4, vL y20), (0, vR 8 (some v0)), (1, vI v1), (2, vI v2), (3, vI v3), (6, vI v6), (7, vI v7)]) C dX8_seasons_172 7 rfl (congrArg (v8 + ·) (by decide : Int32.ofInt (1) = (1 : Int32))) (by decide) rfl ?_
      refine V_goto C 74 dX8_seasons_175 (by decide) ?_
      refine V_sub (lv' := [(0, vR 8 (some v0)), (1, vI v1), (2, vI v2), (3, vI v3), (4, vL y20), (6, vI v6), (7, vI v7), (8, vI (v8 + (1 : Int32)))]) [2, 3, 4, 5, 1, 6, 7, 0] rfl ?_
      exact ih _ _ _ _ _ _ _ _ _ hf
def f_X8_seasons_65 (N : Nat) : Nat → Hp → Nat → Int32 → Int32 → Int32 → Int64 → Int32 → Int32 → Option (Int32 × Hp)
  | 0, _, _, _, _, _, _, _, _ => none
  | n + 1, h, v0, v1, v2, v3, v4, v6, v7 => if v1 ≤ v7 then (some ((v6, h))) else (f_X8_seasons_74 N (f_X8_seasons_65 N n) N h v0 v1 v2 v3 v4 v6 v7 (0 : Int32))
set_option maxHeartbeats 4000000 in
set_option maxRecDepth 100000 in
theorem p_X8_seasons_65 {X : XT} {r : Int32} {h' : Hp} (C : CX X cX8_seasons "WaterStairModel" 9 (some .int) rmX8_seasons) (hQ : QX X (some (vI r)) h' rmX8_seasons.cells rmX8_seasons.slots) {N : Nat}  : ∀ (n : Nat) (h : Hp) (v0 : Nat) (v1 : Int32) (v2 : Int32) (v3 : Int32) (v4 : Int64) (v6 : Int32) (v7 : Int32), f_X8_seasons_65 N n h v0 v1 v2 v3 v4 v6 v7 = some ((r, h')) → V X 0 0 h 65 [(0, vR 8 (some v0)), (1, vI v1), (2, vI v2), (3, vI v3), (4, vL v4), (6, vI v6), (7, vI v7)] [] := by
  intro n
  induction n with
  | zero =>
    intro h v0 v1 v2 v3 v4 v6 v7 hf
    have hf : (none : Option (Int32 × Hp)) = some _ := hf
    cases hf
  | succ n ih =>
    intro h v0 v1 v2 v3 v4 v6 v7 hf
    rw [f_X8_seasons_65] at hf
    refine V_iload C dX8_seasons_65 6 rfl ?_
    refine V_iload_n C dX8_seasons_67 rfl 1 rfl ?_
    refine V_icmp_ge C 228 dX8_seasons_68 (by decide) (fun c26 => ?_) (fun c26 => ?_)
    · have hf := i_t c26 hf
      refine V_iload C dX8_seasons_228 5 rfl ?_
      obtain ⟨hf1, hf2⟩ := Prod.mk.inj (Option.some.inj hf)
      subst hf1
      subst hf2
      exact V_iret C hQ dX8_seasons_230
    · have hf := i_f c26 hf
      refine V_iconst (v := (0 : Int32)) C dX8_seasons_71 (by decide) ?_
      refine V_istore (lv' := [(8, vI (0 : Int32)), (0, vR 8 (some v0)), (1, vI v1), (2, vI v2), (3, vI v3), (4, vL v4), (6, vI v6), (7, vI v7)]) C dX8_seasons_72 (by decide) rfl ?_
      refine V_sub (lv' := [(0, vR 8 (some v0)), (1, vI v1), (2, vI v2), (3, vI v3), (4, vL v4), (6, vI v6), (7, vI v7), (8, vI (0 : Int32))]) [1, 2, 3, 4, 5, 6, 7, 0] rfl ?_
      exact p_X8_seasons_74 C hQ ih N _ _ _ _ _ _ _ _ _ hf
def f_X8_seasons (N : Nat) (h : Hp) (v0 : Nat) (v1 : Int32) (v2 : Int32) (v3 : Int32) : Option (Int32 × Hp) := Option.bind (hP h v0 26) (fun q27 => if 0 < hL h q27 then (if hI h q27 (0) = 0 then (some (((-1 : Int32), h))) else (Option.bind (f_X8_in h (v1.toInt64) (1 : Int64) (20 : Int64)) (fun r30 => if r30 = 0 then (some (((-1 : Int32), h))) else (Option.bind (f_X8_in h (v2.toInt64) (1 : Int64) (99 : Int64)) (fun r32 => if r32 = 0 then (some (((-1 : Int32), h))) else (Option.bind (f_X8_in h (v3.toInt64) (0 : Int64) (1 : Int64)) (fun r34 => if r34 = 0 then (some (((-1 : Int32), h))) else (Option.bind (f_X8_keeps N h v0) (fun h36 => Option.bind (hP h36 v0 26) (fun q37 => if 7 < hL h36 q37 then (f_X8_seasons_65 N N h36 v0 v1 v2 v3 ((hI h36 q37 (7)).toInt64) (0 : Int32) (0 : Int32)) else none)))))))))) else none)
set_option maxHeartbeats 4000000 in
set_option maxRecDepth 100000 in
theorem p_X8_seasons {X : XT} {r : Int32} {h' : Hp} (C : CX X cX8_seasons "WaterStairModel" 9 (some .int) rmX8_seasons) {N : Nat} {h : Hp} {v0 : Nat} {v1 : Int32} {v2 : Int32} {v3 : Int32} (hQ : QX X (some (vI r)) h' rmX8_seasons.cells rmX8_seasons.slots) (hf : f_X8_seasons N h v0 v1 v2 v3 = some ((r, h'))) : V X 0 0 h 0 [(0, vR 8 (some v0)), (1, vI v1), (2, vI v2), (3, vI v3)] [] := by
  unfold f_X8_seasons at hf
  refine V_aload_n C dX8_seasons_0 rfl 0 rfl ?_
  obtain ⟨q27, eq27, hf⟩ := o_b hf
  refine V_getR C fl_X8_42 rfl rfl (by decide) eq27 dX8_seasons_1 ?_
  refine V_iconst (v := (0 : Int32)) C dX8_seasons_4 (by decide) ?_
  obtain ⟨g28, hf⟩ := o_if hf
  refine V_iald C (vp_k (by decide) (by decide) g28) (by decide : Int32.toNatClampNeg (0 : Int32) = 0) dX8_seasons_5 ?_
  refine V_if_eq C 43 dX8_seasons_6 (by decide) (fun c29 => ?_) (fun c29 => ?_)
  · have hf := i_t c29 hf
    refine V_iconst (v := (-1 : Int32)) C dX8_seasons_43 (by decide) ?_
    obtain ⟨hf1, hf2⟩ := Prod.mk.inj (Option.some.inj hf)
    subst hf1
    subst hf2
    exact V_iret C hQ dX8_seasons_44
  · have hf := i_f c29 hf
    refine V_iload_n C dX8_seasons_9 rfl 1 rfl ?_
    refine V_i2l C dX8_seasons_10 ?_
    refine V_lconst (v := (1 : Int64)) C dX8_seasons_11 (by decide) ?_
    refine V_ldc2 C kl_X8_476 dX8_seasons_12 ?_
    obtain ⟨r30, er30, hf⟩ := o_b hf
    refine V_callS (as := [vL (v1.toInt64), vL (1 : Int64), vL (20 : Int64)]) (st := []) C ml_X8_127 (ct_X8_in er30) rfl ⟨by decide, by decide, by decide, by decide⟩ (Nat.le_of_ble_eq_true rfl) rfl dX8_seasons_15 (cs' := 0) (sl' := 0) rfl rfl ?_
    refine V_if_eq C 43 dX8_seasons_18 (by decide) (fun c31 => ?_) (fun c31 => ?_)
    · have hf := i_t c31 hf
      refine V_iconst (v := (-1 : Int32)) C dX8_seasons_43 (by decide) ?_
      obtain ⟨hf1, hf2⟩ := Prod.mk.inj (Option.some.inj hf)
      subst hf1
      subst hf2
      exact V_iret C hQ dX8_seasons_44
    · have hf := i_f c31 hf
      refine V_iload_n C dX8_seasons_21 rfl 2 rfl ?_
      refine V_i2l C dX8_seasons_22 ?_
      refine V_lconst (v := (1 : Int64)) C dX8_seasons_23 (by decide) ?_
      refine V_ldc2 C kl_X8_478 dX8_seasons_24 ?_
      obtain ⟨r32, er32, hf⟩ := o_b hf
      refine V_callS (as := [vL (v2.toInt64), vL (1 : Int64), vL (99 : Int64)]) (st := []) C ml_X8_127 (ct_X8_in er32) rfl ⟨by decide, by decide, by decide, by decide⟩ (Nat.le_of_ble_eq_true rfl) rfl dX8_seasons_27 (cs' := 0) (sl' := 0) rfl rfl ?_
      refine V_if_eq C 43 dX8_seasons_30 (by decide) (fun c33 => ?_) (fun c33 => ?_)
      · have hf := i_t c33 hf
        refine V_iconst (v := (-1 : Int32)) C dX8_seasons_43 (by decide) ?_
        obtain ⟨hf1, hf2⟩ := Prod.mk.inj (Option.some.inj hf)
        subst hf1
        subst hf2
        exact V_iret C hQ dX8_seasons_44
      · have hf := i_f c33 hf
        refine V_iload_n C dX8_seasons_33 rfl 3 rfl ?_
        refine V_i2l C dX8_seasons_34 ?_
        refine V_lconst (v := (0 : Int64)) C dX8_seasons_35 (by decide) ?_
        refine V_lconst (v := (1 : Int64)) C dX8_seasons_36 (by decide) ?_
        obtain ⟨r34, er34, hf⟩ := o_b hf
        refine V_callS (as := [vL (v3.toInt64), vL (0 : Int64), vL (1 : Int64)]) (st := []) C ml_X8_127 (ct_X8_in er34) rfl ⟨by decide, by decide, by decide, by decide⟩ (Nat.le_of_ble_eq_true rfl) rfl dX8_seasons_37 (cs' := 0) (sl' := 0) rfl rfl ?_
        refine V_if_ne C 45 dX8_seasons_40 (by decide) (fun c35 => ?_) (fun c35 => ?_)
        · have hf := i_f c35 hf
          refine V_aload_n C dX8_seasons_45 rfl 0 rfl ?_
          obtain ⟨h36, eh36, hf⟩ := o_b hf
          refine V_callV (as := []) (st := []) C ml_X8_397 fx8 (ct_X8_keeps eh36) rfl ⟨by decide, by decide, by decide, by decide⟩ (Nat.le_of_ble_eq_true rfl) rfl dX8_seasons_46 (cs' := 0) (sl' := 0) rfl rfl ?_
          refine V_aload_n C dX8_seasons_49 rfl 0 rfl ?_
          obtain ⟨q37, eq37, hf⟩ := o_b hf
          refine V_getR C fl_X8_42 rfl rfl (by decide) eq37 dX8_seasons_50 ?_
          refine V_bipush (v := (7 : Int32)) C dX8_seasons_53 (by decide) ?_
          obtain ⟨g38, hf⟩ := o_if hf
          refine V_iald C (vp_k (by decide) (by decide) g38) (by decide : Int32.toNatClampNeg (7 : Int32) = 7) dX8_seasons_55 ?_
          refine V_i2l C dX8_seasons_56 ?_
          refine V_lstore (lv' := [(4, vL ((hI h36 q37 (7)).toInt64)), (0, vR 8 (some v0)), (1, vI v1), (2, vI v2), (3, vI v3)]) C dX8_seasons_57 (by decide) rfl ?_
          refine V_iconst (v := (0 : Int32)) C dX8_seasons_59 (by decide) ?_
          refine V_istore (lv' := [(6, vI (0 : Int32)), (4, vL ((hI h36 q37 (7)).toInt64)), (0, vR 8 (some v0)), (1, vI v1), (2, vI v2), (3, vI v3)]) C dX8_seasons_60 (by decide) rfl ?_
          refine V_iconst (v := (0 : Int32)) C dX8_seasons_62 (by decide) ?_
          refine V_istore (lv' := [(7, vI (0 : Int32)), (6, vI (0 : Int32)), (4, vL ((hI h36 q37 (7)).toInt64)), (0, vR 8 (some v0)), (1, vI v1), (2, vI v2), (3, vI v3)]) C dX8_seasons_63 (by decide) rfl ?_
          refine V_sub (lv' := [(0, vR 8 (some v0)), (1, vI v1), (2, vI v2), (3, vI v3), (4, vL ((hI h36 q37 (7)).toInt64)), (6, vI (0 : Int32)), (7, vI (0 : Int32))]) [3, 4, 5, 6, 2, 1, 0] rfl ?_
          exact p_X8_seasons_65 C hQ N _ _ _ _ _ _ _ _ hf
        · have hf := i_t c35 hf
          refine V_iconst (v := (-1 : Int32)) C dX8_seasons_43 (by decide) ?_
          obtain ⟨hf1, hf2⟩ := Prod.mk.inj (Option.some.inj hf)
          subst hf1
          subst hf2
          exact V_iret C hQ dX8_seasons_44
theorem ct_X8_seasons {r : Int32} {h' : Hp} {N : Nat} {h : Hp} {v0 : Nat} {v1 : Int32} {v2 : Int32} {v3 : Int32} (hf : f_X8_seasons N h v0 v1 v2 v3 = some ((r, h'))) (l : Launch) (G : GT) : MC l G yX8_seasons cX8_seasons 9 (some .int) rmX8_seasons h [vR 8 (some v0), vI v1, vI v2, vI v3] (some (vI r)) h' := MC_of (by decide) rfl (Nat.le_of_ble_eq_true rfl) rfl (fun X C hQ hin => p_X8_seasons C hQ hf)
abbrev rmX8_count : Room := { frames := 3, cells := 0, slots := 0, locals := 65 }
def f_X8_count_183 (N : Nat) (s155 : Hp → Nat → Int32 → Int32 → Option (Int32)) (h : Hp) (v0 : Nat) (v3 : Int32) (s1_ : Int32) (s0_ : Int32) : Option (Int32) := s155 h v0 (s0_ + s1_) (v3 + (1 : Int32))
set_option maxHeartbeats 4000000 in
set_option maxRecDepth 100000 in
theorem p_X8_count_183 {X : XT} {r : Int32} {h : Hp} (C : CX X cX8_count "WaterStairModel" 4 (some .int) rmX8_count) (hQ : QX X (some (vI r)) h rmX8_count.cells rmX8_count.slots) {N : Nat} {s155 : Hp → Nat → Int32 → Int32 → Option (Int32)} (S155 : ∀ (v0 : Nat) (v2 : Int32) (v3 : Int32), s155 h v0 v2 v3 = some r → V X 0 0 h 155 [(0, vR 8 (some v0)), (2, vI v2), (3, vI v3)] [])  {v0 : Nat} {v3 : Int32} {s1_ : Int32} {s0_ : Int32} (hf : f_X8_count_183 N s155 h v0 v3 s1_ s0_ = some r) : V X 0 0 h 183 [(0, vR 8 (some v0)), (3, vI v3)] [vI s1_, vI s0_] := by
  unfold f_X8_count_183 at hf
  refine V_iadd C dX8_count_183 ?_
  refine V_istore_n (lv' := [(2, vI (s0_ + s1_)), (0, vR 8 (some v0)), (3, vI v3)]) C dX8_count_184 rfl (by decide) rfl ?_
  refine V_iinc (lv' := [(3, vI (v3 + (1 : Int32))), (2, vI (s0_ + s1_)), (0, vR 8 (some v0))]) C dX8_count_185 2 rfl (congrArg (v3 + ·) (by decide : Int32.ofInt (1) = (1 : Int32))) (by decide) rfl ?_
  refine V_goto C 155 dX8_count_188 (by decide) ?_
  refine V_sub (lv' := [(0, vR 8 (some v0)), (2, vI (s0_ + s1_)), (3, vI (v3 + (1 : Int32)))]) [2, 1, 0] rfl ?_
  exact S155 _ _ _ hf
def f_X8_count_155 (N : Nat) : Nat → Hp → Nat → Int32 → Int32 → Option (Int32)
  | 0, _, _, _, _ => none
  | n + 1, h, v0, v2, v3 => Option.bind (hP h v0 26) (fun q1 => if 0 < hL h q1 then (if (hI h q1 (0)) ≤ v3 then (some v2) else (Option.bind (hP h v0 26) (fun q4 => if 0 ≤ (55 : Int32) + v3 ∧ ((55 : Int32) + v3).toNatClampNeg < hL h q4 then (if 0 ≤ (hI h q4 (((55 : Int32) + v3).toNatClampNeg)) then (f_X8_count_183 N (f_X8_count_155 N n) h v0 v3 (1 : Int32) v2) else (f_X8_count_183 N (f_X8_count_155 N n) h v0 v3 (0 : Int32) v2)) else none))) else none)
set_option maxHeartbeats 4000000 in
set_option maxRecDepth 100000 in
theorem p_X8_count_155 {X : XT} {r : Int32} {h : Hp} (C : CX X cX8_count "WaterStairModel" 4 (some .int) rmX8_count) (hQ : QX X (some (vI r)) h rmX8_count.cells rmX8_count.slots) {N : Nat}  : ∀ (n : Nat) (v0 : Nat) (v2 : Int32) (v3 : Int32), f_X8_count_155 N n h v0 v2 v3 = some r → V X 0 0 h 155 [(0, vR 8 (some v0)), (2, vI v2), (3, vI v3)] [] := by
  intro n
  induction n with
  | zero =>
    intro v0 v2 v3 hf
    have hf : (none : Option (Int32)) = some _ := hf
    cases hf
  | succ n ih =>
    intro v0 v2 v3 hf
    rw [f_X8_count_155] at hf
    refine V_iload_n C dX8_count_155 rfl 2 rfl ?_
    refine V_aload_n C dX8_count_156 rfl 0 rfl ?_
    obtain ⟨q1, eq1, hf⟩ := o_b hf
    refine V_getR C fl_X8_42 rfl rfl (by decide) eq1 dX8_count_157 ?_
    refine V_iconst (v := (0 : Int32)) C dX8_count_160 (by decide) ?_
    obtain ⟨g2, hf⟩ := o_if hf
    refine V_iald C (vp_k (by decide) (by decide) g2) (by decide : Int32.toNatClampNeg (0 : Int32) = 0) dX8_count_161 ?_
    refine V_icmp_ge C 191 dX8_count_162 (by decide) (fun c3 => ?_) (fun c3 => ?_)
    · have hf := i_t c3 hf
      refine V_iload_n C dX8_count_191 rfl 1 rfl ?_
      have hf := Option.some.inj hf
      subst hf
      exact V_iret C hQ dX8_count_192
    · have hf := i_f c3 hf
      refine V_iload_n C dX8_count_165 rfl 1 rfl ?_
      refine V_aload_n C dX8_count_166 rfl 0 rfl ?_
      obtain ⟨q4, eq4, hf⟩ := o_b hf
      refine V_getR C fl_X8_42 rfl rfl (by decide) eq4 dX8_count_167 ?_
      refine V_bipush (v := (55 : Int32)) C dX8_count_170 (by decide) ?_
      refine V_iload_n C dX8_count_172 rfl 2 rfl ?_
      refine V_iadd C dX8_count_173 ?_
      obtain ⟨g5, hf⟩ := o_if hf
      refine V_iald C (vp_g g5) rfl dX8_count_174 ?_
      refine V_if_ge C 182 dX8_count_175 (by decide) (fun c6 => ?_) (fun c6 => ?_)
      · have hf := i_t c6 hf
        refine V_iconst (v := (1 : Int32)) C dX8_count_182 (by decide) ?_
        refine V_sub (lv' := [(0, vR 8 (some v0)), (3, vI v3)]) [0, 2] rfl ?_
        exact p_X8_count_183 C hQ ih hf
      · have hf := i_f c6 hf
        refine V_iconst (v := (0 : Int32)) C dX8_count_178 (by decide) ?_
        refine V_goto C 183 dX8_count_179 (by decide) ?_
        refine V_sub (lv' := [(0, vR 8 (some v0)), (3, vI v3)]) [0, 2] rfl ?_
        exact p_X8_count_183 C hQ ih hf
def f_X8_count_92 (N : Nat) : Nat → Hp → Nat → Int32 → Int32 → Option (Int32)
  | 0, _, _, _, _ => none
  | n + 1, h, v0, v2, v3 => Option.bind (hP h v0 26) (fun q7 => if 0 < hL h q7 then (if (hI h q7 (0)) ≤ v3 then (some v2) else (Option.bind (f_X8_waterOf h v0 v3) (fun r10 => f_X8_count_92 N n h v0 (v2 + r10) (v3 + (1 : Int32))))) else none)
set_option maxHeartbeats 4000000 in
set_option maxRecDepth 100000 in
theorem p_X8_count_92 {X : XT} {r : Int32} {h : Hp} (C : CX X cX8_count "WaterStairModel" 4 (some .int) rmX8_count) (hQ : QX X (some (vI r)) h rmX8_count.cells rmX8_count.slots) {N : Nat}  : ∀ (n : Nat) (v0 : Nat) (v2 : Int32) (v3 : Int32), f_X8_count_92 N n h v0 v2 v3 = some r → V X 0 0 h 92 [(0, vR 8 (some v0)), (2, vI v2), (3, vI v3)] [] := by
  intro n
  induction n with
  | zero =>
    intro v0 v2 v3 hf
    have hf : (none : Option (Int32)) = some _ := hf
    cases hf
  | succ n ih =>
    intro v0 v2 v3 hf
    rw [f_X8_count_92] at hf
    refine V_iload_n C dX8_count_92 rfl 2 rfl ?_
    refine V_aload_n C dX8_count_93 rfl 0 rfl ?_
    obtain ⟨q7, eq7, hf⟩ := o_b hf
    refine V_getR C fl_X8_42 rfl rfl (by decide) eq7 dX8_count_94 ?_
    refine V_iconst (v := (0 : Int32)) C dX8_count_97 (by decide) ?_
    obtain ⟨g8, hf⟩ := o_if hf
    refine V_iald C (vp_k (by decide) (by decide) g8) (by decide : Int32.toNatClampNeg (0 : Int32) = 0) dX8_count_98 ?_
    refine V_icmp_ge C 116 dX8_count_99 (by decide) (fun c9 => ?_) (fun c9 => ?_)
    · have hf := i_t c9 hf
      refine V_iload_n C dX8_count_116 rfl 1 rfl ?_
      have hf := Option.some.inj hf
      subst hf
      exact V_iret C hQ dX8_count_117
    · have hf := i_f c9 hf
      refine V_iload_n C dX8_count_102 rfl 1 rfl ?_
      refine V_aload_n C dX8_count_103 rfl 0 rfl ?_
      refine V_iload_n C dX8_count_104 rfl 2 rfl ?_
      obtain ⟨r10, er10, hf⟩ := o_b hf
      refine V_callV (as := [vI v3]) (st := [vI v2]) C ml_X8_330 fx8 (ct_X8_waterOf er10) rfl ⟨by decide, by decide, by decide, by decide⟩ (Nat.le_of_ble_eq_true rfl) rfl dX8_count_105 (cs' := 0) (sl' := 0) rfl rfl ?_
      refine V_iadd C dX8_count_108 ?_
      refine V_istore_n (lv' := [(2, vI (v2 + r10)), (0, vR 8 (some v0)), (3, vI v3)]) C dX8_count_109 rfl (by decide) rfl ?_
      refine V_iinc (lv' := [(3, vI (v3 + (1 : Int32))), (2, vI (v2 + r10)), (0, vR 8 (some v0))]) C dX8_count_110 2 rfl (congrArg (v3 + ·) (by decide : Int32.ofInt (1) = (1 : Int32))) (by decide) rfl ?_
      refine V_goto C 92 dX8_count_113 (by decide) ?_
      refine V_sub (lv' := [(0, vR 8 (some v0)), (2, vI (v2 + r10)), (3, vI (v3 + (1 : Int32)))]) [2, 1, 0] rfl ?_
      exact ih _ _ _ hf
def f_X8_count (N : Nat) (h : Hp) (v0 : Nat) (v1 : Int32) : Option (Int32) := if v1 = (0 : Int32) then (Option.bind (hP h v0 26) (fun q12 => if 0 ≤ v1 ∧ v1.toNatClampNeg < hL h q12 then (some (hI h q12 (v1.toNatClampNeg))) else none)) else if v1 = (1 : Int32) then (Option.bind (hP h v0 26) (fun q15 => if 0 ≤ v1 ∧ v1.toNatClampNeg < hL h q15 then (some (hI h q15 (v1.toNatClampNeg))) else none)) else if v1 = (2 : Int32) then (Option.bind (f_X8_homeOnes N h v0) (fun r18 => Option.bind (f_X8_bits N h r18) (fun r19 => some r19))) else if v1 = (3 : Int32) then (Option.bind (hP h v0 26) (fun q21 => if 3 < hL h q21 then (some (hI h q21 (3))) else none)) else if v1 = (4 : Int32) then (f_X8_count_92 N N h v0 (0 : Int32) (0 : Int32)) else if v1 = (5 : Int32) then (Option.bind (hP h v0 26) (fun q25 => if 4 < hL h q25 then (some (hI h q25 (4))) else none)) else if v1 = (6 : Int32) then (some (hI h v0 2)) else if v1 = (7 : Int32) then (Option.bind (hP h v0 26) (fun q29 => if 8 < hL h q29 then (some (hI h q29 (8))) else none)) else if v1 = (8 : Int32) then (Option.bind (hP h v0 26) (fun q32 => if 2 < hL h q32 then (some (hI h q32 (2))) else none)) else if v1 = (9 : Int32) then (Option.bind (hP h v0 26) (fun q35 => if 6 < hL h q35 then (some (hI h q35 (6))) else none)) else if v1 = (10 : Int32) then (f_X8_count_155 N N h v0 (0 : Int32) (0 : Int32)) else if v1 = (11 : Int32) then (Option.bind (hP h v0 26) (fun q39 => if 7 < hL h q39 then (some (hI h q39 (7))) else none)) else if v1 = (12 : Int32) then (some (hI h v0 1)) else (some (-1 : Int32))
set_option maxHeartbeats 4000000 in
set_option maxRecDepth 100000 in
theorem p_X8_count {X : XT} {r : Int32} (C : CX X cX8_count "WaterStairModel" 4 (some .int) rmX8_count) {N : Nat} {h : Hp} {v0 : Nat} {v1 : Int32} (hQ : QX X (some (vI r)) h rmX8_count.cells rmX8_count.slots) (hf : f_X8_count N h v0 v1 = some r) : V X 0 0 h 0 [(0, vR 8 (some v0)), (1, vI v1)] [] := by
  unfold f_X8_count at hf
  refine V_iconst (v := (0 : Int32)) C dX8_count_0 (by decide) ?_
  refine V_istore_n (lv' := [(2, vI (0 : Int32)), (0, vR 8 (some v0)), (1, vI v1)]) C dX8_count_1 rfl (by decide) rfl ?_
  refine V_iload_n C dX8_count_2 rfl 2 rfl ?_
  by_cases c11 : v1 = (0 : Int32)
  · have hf := i_t c11 hf
    refine V_tabIn (off := 65) C 68 dX8_count_3 (by rw [c11]; decide) (by rw [c11]; decide) (by rw [c11]; decide) (by decide) ?_
    refine V_aload_n C dX8_count_68 rfl 1 rfl ?_
    obtain ⟨q12, eq12, hf⟩ := o_b hf
    refine V_getR C fl_X8_42 rfl rfl (by decide) eq12 dX8_count_69 ?_
    refine V_iload_n C dX8_count_72 rfl 2 rfl ?_
    obtain ⟨g13, hf⟩ := o_if hf
    refine V_iald C (vp_g g13) rfl dX8_count_73 ?_
    have hf := Option.some.inj hf
    subst hf
    exact V_iret C hQ dX8_count_74
  have hf := i_f c11 hf
  by_cases c14 : v1 = (1 : Int32)
  · have hf := i_t c14 hf
    refine V_tabIn (off := 65) C 68 dX8_count_3 (by rw [c14]; decide) (by rw [c14]; decide) (by rw [c14]; decide) (by decide) ?_
    refine V_aload_n C dX8_count_68 rfl 1 rfl ?_
    obtain ⟨q15, eq15, hf⟩ := o_b hf
    refine V_getR C fl_X8_42 rfl rfl (by decide) eq15 dX8_count_69 ?_
    refine V_iload_n C dX8_count_72 rfl 2 rfl ?_
    obtain ⟨g16, hf⟩ := o_if hf
    refine V_iald C (vp_g g16) rfl dX8_count_73 ?_
    have hf := Option.some.inj hf
    subst hf
    exact V_iret C hQ dX8_count_74
  have hf := i_f c14 hf
  by_cases c17 : v1 = (2 : Int32)
  · have hf := i_t c17 hf
    refine V_tabIn (off := 72) C 75 dX8_count_3 (by rw [c17]; decide) (by rw [c17]; decide) (by rw [c17]; decide) (by decide) ?_
    refine V_aload_n C dX8_count_75 rfl 1 rfl ?_
    obtain ⟨r18, er18, hf⟩ := o_b hf
    refine V_callV (as := []) (st := []) C ml_X8_394 fx8 (ct_X8_homeOnes er18) rfl ⟨by decide, by decide, by decide, by decide⟩ (Nat.le_of_ble_eq_true rfl) rfl dX8_count_76 (cs' := 0) (sl' := 0) rfl rfl ?_
    obtain ⟨r19, er19, hf⟩ := o_b hf
    refine V_callS (as := [vI r18]) (st := []) C ml_X8_333 (ct_X8_bits er19) rfl ⟨by decide, by decide, by decide, by decide⟩ (Nat.le_of_ble_eq_true rfl) rfl dX8_count_79 (cs' := 0) (sl' := 0) rfl rfl ?_
    have hf := Option.some.inj hf
    subst hf
    exact V_iret C hQ dX8_count_82
  have hf := i_f c17 hf
  by_cases c20 : v1 = (3 : Int32)
  · have hf := i_t c20 hf
    refine V_tabIn (off := 80) C 83 dX8_count_3 (by rw [c20]; decide) (by rw [c20]; decide) (by rw [c20]; decide) (by decide) ?_
    refine V_aload_n C dX8_count_83 rfl 1 rfl ?_
    obtain ⟨q21, eq21, hf⟩ := o_b hf
    refine V_getR C fl_X8_42 rfl rfl (by decide) eq21 dX8_count_84 ?_
    refine V_iconst (v := (3 : Int32)) C dX8_count_87 (by decide) ?_
    obtain ⟨g22, hf⟩ := o_if hf
    refine V_iald C (vp_k (by decide) (by decide) g22) (by decide : Int32.toNatClampNeg (3 : Int32) = 3) dX8_count_88 ?_
    have hf := Option.some.inj hf
    subst hf
    exact V_iret C hQ dX8_count_89
  have hf := i_f c20 hf
  by_cases c23 : v1 = (4 : Int32)
  · have hf := i_t c23 hf
    refine V_tabIn (off := 87) C 90 dX8_count_3 (by rw [c23]; decide) (by rw [c23]; decide) (by rw [c23]; decide) (by decide) ?_
    refine V_iconst (v := (0 : Int32)) C dX8_count_90 (by decide) ?_
    refine V_istore_n (lv' := [(3, vI (0 : Int32)), (2, vI (0 : Int32)), (0, vR 8 (some v0)), (1, vI v1)]) C dX8_count_91 rfl (by decide) rfl ?_
    refine V_sub (lv' := [(0, vR 8 (some v0)), (2, vI (0 : Int32)), (3, vI (0 : Int32))]) [2, 1, 0] rfl ?_
    exact p_X8_count_92 C hQ N _ _ _ hf
  have hf := i_f c23 hf
  by_cases c24 : v1 = (5 : Int32)
  · have hf := i_t c24 hf
    refine V_tabIn (off := 115) C 118 dX8_count_3 (by rw [c24]; decide) (by rw [c24]; decide) (by rw [c24]; decide) (by decide) ?_
    refine V_aload_n C dX8_count_118 rfl 1 rfl ?_
    obtain ⟨q25, eq25, hf⟩ := o_b hf
    refine V_getR C fl_X8_42 rfl rfl (by decide) eq25 dX8_count_119 ?_
    refine V_iconst (v := (4 : Int32)) C dX8_count_122 (by decide) ?_
    obtain ⟨g26, hf⟩ := o_if hf
    refine V_iald C (vp_k (by decide) (by decide) g26) (by decide : Int32.toNatClampNeg (4 : Int32) = 4) dX8_count_123 ?_
    have hf := Option.some.inj hf
    subst hf
    exact V_iret C hQ dX8_count_124
  have hf := i_f c24 hf
  by_cases c27 : v1 = (6 : Int32)
  · have hf := i_t c27 hf
    refine V_tabIn (off := 122) C 125 dX8_count_3 (by rw [c27]; decide) (by rw [c27]; decide) (by rw [c27]; decide) (by decide) ?_
    refine V_aload_n C dX8_count_125 rfl 1 rfl ?_
    refine V_getI C fl_X8_268 rfl dX8_count_126 ?_
    have hf := Option.some.inj hf
    subst hf
    exact V_iret C hQ dX8_count_129
  have hf := i_f c27 hf
  by_cases c28 : v1 = (7 : Int32)
  · have hf := i_t c28 hf
    refine V_tabIn (off := 127) C 130 dX8_count_3 (by rw [c28]; decide) (by rw [c28]; decide) (by rw [c28]; decide) (by decide) ?_
    refine V_aload_n C dX8_count_130 rfl 1 rfl ?_
    obtain ⟨q29, eq29, hf⟩ := o_b hf
    refine V_getR C fl_X8_42 rfl rfl (by decide) eq29 dX8_count_131 ?_
    refine V_bipush (v := (8 : Int32)) C dX8_count_134 (by decide) ?_
    obtain ⟨g30, hf⟩ := o_if hf
    refine V_iald C (vp_k (by decide) (by decide) g30) (by decide : Int32.toNatClampNeg (8 : Int32) = 8) dX8_count_136 ?_
    have hf := Option.some.inj hf
    subst hf
    exact V_iret C hQ dX8_count_137
  have hf := i_f c28 hf
  by_cases c31 : v1 = (8 : Int32)
  · have hf := i_t c31 hf
    refine V_tabIn (off := 135) C 138 dX8_count_3 (by rw [c31]; decide) (by rw [c31]; decide) (by rw [c31]; decide) (by decide) ?_
    refine V_aload_n C dX8_count_138 rfl 1 rfl ?_
    obtain ⟨q32, eq32, hf⟩ := o_b hf
    refine V_getR C fl_X8_42 rfl rfl (by decide) eq32 dX8_count_139 ?_
    refine V_iconst (v := (2 : Int32)) C dX8_count_142 (by decide) ?_
    obtain ⟨g33, hf⟩ := o_if hf
    refine V_iald C (vp_k (by decide) (by decide) g33) (by decide : Int32.toNatClampNeg (2 : Int32) = 2) dX8_count_143 ?_
    have hf := Option.some.inj hf
    subst hf
    exact V_iret C hQ dX8_count_144
  have hf := i_f c31 hf
  by_cases c34 : v1 = (9 : Int32)
  · have hf := i_t c34 hf
    refine V_tabIn (off := 142) C 145 dX8_count_3 (by rw [c34]; decide) (by rw [c34]; decide) (by rw [c34]; decide) (by decide) ?_
    refine V_aload_n C dX8_count_145 rfl 1 rfl ?_
    obtain ⟨q35, eq35, hf⟩ := o_b hf
    refine V_getR C fl_X8_42 rfl rfl (by decide) eq35 dX8_count_146 ?_
    refine V_bipush (v := (6 : Int32)) C dX8_count_149 (by decide) ?_
    obtain ⟨g36, hf⟩ := o_if hf
    refine V_iald C (vp_k (by decide) (by decide) g36) (by decide : Int32.toNatClampNeg (6 : Int32) = 6) dX8_count_151 ?_
    have hf := Option.some.inj hf
    subst hf
    exact V_iret C hQ dX8_count_152
  have hf := i_f c34 hf
  by_cases c37 : v1 = (10 : Int32)
  · have hf := i_t c37 hf
    refine V_tabIn (off := 150) C 153 dX8_count_3 (by rw [c37]; decide) (by rw [c37]; decide) (by rw [c37]; decide) (by decide) ?_
    refine V_iconst (v := (0 : Int32)) C dX8_count_153 (by decide) ?_
    refine V_istore_n (lv' := [(3, vI (0 : Int32)), (2, vI (0 : Int32)), (0, vR 8 (some v0)), (1, vI v1)]) C dX8_count_154 rfl (by decide) rfl ?_
    refine V_sub (lv' := [(0, vR 8 (some v0)), (2, vI (0 : Int32)), (3, vI (0 : Int32))]) [2, 1, 0] rfl ?_
    exact p_X8_count_155 C hQ N _ _ _ hf
  have hf := i_f c37 hf
  by_cases c38 : v1 = (11 : Int32)
  · have hf := i_t c38 hf
    refine V_tabIn (off := 190) C 193 dX8_count_3 (by rw [c38]; decide) (by rw [c38]; decide) (by rw [c38]; decide) (by decide) ?_
    refine V_aload_n C dX8_count_193 rfl 1 rfl ?_
    obtain ⟨q39, eq39, hf⟩ := o_b hf
    refine V_getR C fl_X8_42 rfl rfl (by decide) eq39 dX8_count_194 ?_
    refine V_bipush (v := (7 : Int32)) C dX8_count_197 (by decide) ?_
    obtain ⟨g40, hf⟩ := o_if hf
    refine V_iald C (vp_k (by decide) (by decide) g40) (by decide : Int32.toNatClampNeg (7 : Int32) = 7) dX8_count_199 ?_
    have hf := Option.some.inj hf
    subst hf
    exact V_iret C hQ dX8_count_200
  have hf := i_f c38 hf
  by_cases c41 : v1 = (12 : Int32)
  · have hf := i_t c41 hf
    refine V_tabIn (off := 198) C 201 dX8_count_3 (by rw [c41]; decide) (by rw [c41]; decide) (by rw [c41]; decide) (by decide) ?_
    refine V_aload_n C dX8_count_201 rfl 1 rfl ?_
    refine V_getI C fl_X8_88 rfl dX8_count_202 ?_
    have hf := Option.some.inj hf
    subst hf
    exact V_iret C hQ dX8_count_205
  have hf := i_f c41 hf
  refine V_tabOut C 206 dX8_count_3 (tab_o (fun z z1 z2 => ?_)) (by decide) ?_
  · rcases (show z = 0 ∨ z = 1 ∨ z = 2 ∨ z = 3 ∨ z = 4 ∨ z = 5 ∨ z = 6 ∨ z = 7 ∨ z = 8 ∨ z = 9 ∨ z = 10 ∨ z = 11 ∨ z = 12 by omega) with rfl | rfl | rfl | rfl | rfl | rfl | rfl | rfl | rfl | rfl | rfl | rfl | rfl
    · exact tab_n c11 (by decide)
    · exact tab_n c14 (by decide)
    · exact tab_n c17 (by decide)
    · exact tab_n c20 (by decide)
    · exact tab_n c23 (by decide)
    · exact tab_n c24 (by decide)
    · exact tab_n c27 (by decide)
    · exact tab_n c28 (by decide)
    · exact tab_n c31 (by decide)
    · exact tab_n c34 (by decide)
    · exact tab_n c37 (by decide)
    · exact tab_n c38 (by decide)
    · exact tab_n c41 (by decide)
  refine V_iconst (v := (-1 : Int32)) C dX8_count_206 (by decide) ?_
  have hf := Option.some.inj hf
  subst hf
  exact V_iret C hQ dX8_count_207
theorem ct_X8_count {r : Int32} {N : Nat} {h : Hp} {v0 : Nat} {v1 : Int32} (hf : f_X8_count N h v0 v1 = some r) (l : Launch) (G : GT) : MC l G yX8_count cX8_count 4 (some .int) rmX8_count h [vR 8 (some v0), vI v1] (some (vI r)) h := MC_of (by decide) rfl (Nat.le_of_ble_eq_true rfl) rfl (fun X C hQ hin => p_X8_count C hQ hf)
abbrev rmX8_image : Room := { frames := 1, cells := 0, slots := 0, locals := 25 }
def f_X8_image_23 (N : Nat) : Nat → Hp → Nat → Int32 → Int32 → Option (Int32 × Hp)
  | 0, _, _, _, _ => none
  | n + 1, h, v0, v1, v2 => if (93 : Int32) ≤ v2 then (Option.bind (hP h v0 26) (fun q2 => if 3 < hL h q2 then (some ((hI h q2 (3), h))) else none)) else (Option.bind (hP h v0 42) (fun q4 => Option.bind (hP h v0 26) (fun q5 => if 0 ≤ v2 ∧ v2.toNatClampNeg < hL h q5 then (lt (hI h q5 (v2.toNatClampNeg)) (fun y7 => if 0 ≤ ((93 : Int32) * v1) + v2 ∧ (((93 : Int32) * v1) + v2).toNatClampNeg < hL h q4 then (lt (sI h q4 ((((93 : Int32) * v1) + v2).toNatClampNeg) y7) (fun h9 => f_X8_image_23 N n h9 v0 v1 (v2 + (1 : Int32)))) else none)) else none)))
set_option maxHeartbeats 4000000 in
set_option maxRecDepth 100000 in
theorem p_X8_image_23 {X : XT} {r : Int32} {h' : Hp} (C : CX X cX8_image "WaterStairModel" 3 (some .int) rmX8_image) (hQ : QX X (some (vI r)) h' rmX8_image.cells rmX8_image.slots) {N : Nat}  : ∀ (n : Nat) (h : Hp) (v0 : Nat) (v1 : Int32) (v2 : Int32), f_X8_image_23 N n h v0 v1 v2 = some ((r, h')) → V X 0 0 h 23 [(0, vR 8 (some v0)), (1, vI v1), (2, vI v2)] [] := by
  intro n
  induction n with
  | zero =>
    intro h v0 v1 v2 hf
    have hf : (none : Option (Int32 × Hp)) = some _ := hf
    cases hf
  | succ n ih =>
    intro h v0 v1 v2 hf
    rw [f_X8_image_23] at hf
    refine V_iload_n C dX8_image_23 rfl 2 rfl ?_
    refine V_bipush (v := (93 : Int32)) C dX8_image_24 (by decide) ?_
    refine V_icmp_ge C 52 dX8_image_26 (by decide) (fun c1 => ?_) (fun c1 => ?_)
    · have hf := i_t c1 hf
      refine V_aload_n C dX8_image_52 rfl 0 rfl ?_
      obtain ⟨q2, eq2, hf⟩ := o_b hf
      refine V_getR C fl_X8_42 rfl rfl (by decide) eq2 dX8_image_53 ?_
      refine V_iconst (v := (3 : Int32)) C dX8_image_56 (by decide) ?_
      obtain ⟨g3, hf⟩ := o_if hf
      refine V_iald C (vp_k (by decide) (by decide) g3) (by decide : Int32.toNatClampNeg (3 : Int32) = 3) dX8_image_57 ?_
      obtain ⟨hf1, hf2⟩ := Prod.mk.inj (Option.some.inj hf)
      subst hf1
      subst hf2
      exact V_iret C hQ dX8_image_58
    · have hf := i_f c1 hf
      refine V_aload_n C dX8_image_29 rfl 0 rfl ?_
      obtain ⟨q4, eq4, hf⟩ := o_b hf
      refine V_getR C fl_X8_82 rfl rfl (by decide) eq4 dX8_image_30 ?_
      refine V_bipush (v := (93 : Int32)) C dX8_image_33 (by decide) ?_
      refine V_iload_n C dX8_image_35 rfl 1 rfl ?_
      refine V_imul C dX8_image_36 ?_
      refine V_iload_n C dX8_image_37 rfl 2 rfl ?_
      refine V_iadd C dX8_image_38 ?_
      refine V_aload_n C dX8_image_39 rfl 0 rfl ?_
      obtain ⟨q5, eq5, hf⟩ := o_b hf
      refine V_getR C fl_X8_42 rfl rfl (by decide) eq5 dX8_image_40 ?_
      refine V_iload_n C dX8_image_43 rfl 2 rfl ?_
      obtain ⟨g6, hf⟩ := o_if hf
      refine V_iald C (vp_g g6) rfl dX8_image_44 ?_
      obtain ⟨y7, ey7, hf⟩ := o_l hf
      refine V_eqI ey7 ?_
      obtain ⟨g8, hf⟩ := o_if hf
      obtain ⟨h9, eh9, hf⟩ := o_l hf
      refine V_iast C (vp_g g8) rfl dX8_image_45 (V_eqH eh9 ?_)
      refine V_iinc (lv' := [(2, vI (v2 + (1 : Int32))), (0, vR 8 (some v0)), (1, vI v1)]) C dX8_image_46 2 rfl (congrArg (v2 + ·) (by decide : Int32.ofInt (1) = (1 : Int32))) (by decide) rfl ?_
      refine V_goto C 23 dX8_image_49 (by decide) ?_
      refine V_sub (lv' := [(0, vR 8 (some v0)), (1, vI v1), (2, vI (v2 + (1 : Int32)))]) [1, 2, 0] rfl ?_
      exact ih _ _ _ _ hf
def f_X8_image (N : Nat) (h : Hp) (v0 : Nat) (v1 : Int32) : Option (Int32 × Hp) := Option.bind (f_X8_in h (v1.toInt64) (0 : Int64) (3 : Int64)) (fun r10 => if r10 = 0 then (some (((-1 : Int32), h))) else (Option.bind (hP h v0 43) (fun q12 => if 0 ≤ v1 ∧ v1.toNatClampNeg < hL h q12 then (lt (sI h q12 (v1.toNatClampNeg) (1 : Int32)) (fun h14 => f_X8_image_23 N N h14 v0 v1 (0 : Int32))) else none)))
set_option maxHeartbeats 4000000 in
set_option maxRecDepth 100000 in
theorem p_X8_image {X : XT} {r : Int32} {h' : Hp} (C : CX X cX8_image "WaterStairModel" 3 (some .int) rmX8_image) {N : Nat} {h : Hp} {v0 : Nat} {v1 : Int32} (hQ : QX X (some (vI r)) h' rmX8_image.cells rmX8_image.slots) (hf : f_X8_image N h v0 v1 = some ((r, h'))) : V X 0 0 h 0 [(0, vR 8 (some v0)), (1, vI v1)] [] := by
  unfold f_X8_image at hf
  refine V_iload_n C dX8_image_0 rfl 1 rfl ?_
  refine V_i2l C dX8_image_1 ?_
  refine V_lconst (v := (0 : Int64)) C dX8_image_2 (by decide) ?_
  refine V_ldc2 C kl_X8_308 dX8_image_3 ?_
  obtain ⟨r10, er10, hf⟩ := o_b hf
  refine V_callS (as := [vL (v1.toInt64), vL (0 : Int64), vL (3 : Int64)]) (st := []) C ml_X8_127 (ct_X8_in er10) rfl ⟨by decide, by decide, by decide, by decide⟩ (Nat.le_of_ble_eq_true rfl) rfl dX8_image_6 (cs' := 0) (sl' := 0) rfl rfl ?_
  refine V_if_ne C 14 dX8_image_9 (by decide) (fun c11 => ?_) (fun c11 => ?_)
  · have hf := i_f c11 hf
    refine V_aload_n C dX8_image_14 rfl 0 rfl ?_
    obtain ⟨q12, eq12, hf⟩ := o_b hf
    refine V_getR C fl_X8_85 rfl rfl (by decide) eq12 dX8_image_15 ?_
    refine V_iload_n C dX8_image_18 rfl 1 rfl ?_
    refine V_iconst (v := (1 : Int32)) C dX8_image_19 (by decide) ?_
    obtain ⟨g13, hf⟩ := o_if hf
    obtain ⟨h14, eh14, hf⟩ := o_l hf
    refine V_zast C (Or.inr rfl) (vp_g g13) rfl dX8_image_20 (V_eqH eh14 ?_)
    refine V_iconst (v := (0 : Int32)) C dX8_image_21 (by decide) ?_
    refine V_istore_n (lv' := [(2, vI (0 : Int32)), (0, vR 8 (some v0)), (1, vI v1)]) C dX8_image_22 rfl (by decide) rfl ?_
    refine V_sub (lv' := [(0, vR 8 (some v0)), (1, vI v1), (2, vI (0 : Int32))]) [1, 2, 0] rfl ?_
    exact p_X8_image_23 C hQ N _ _ _ _ hf
  · have hf := i_t c11 hf
    refine V_iconst (v := (-1 : Int32)) C dX8_image_12 (by decide) ?_
    obtain ⟨hf1, hf2⟩ := Prod.mk.inj (Option.some.inj hf)
    subst hf1
    subst hf2
    exact V_iret C hQ dX8_image_13
theorem ct_X8_image {r : Int32} {h' : Hp} {N : Nat} {h : Hp} {v0 : Nat} {v1 : Int32} (hf : f_X8_image N h v0 v1 = some ((r, h'))) (l : Launch) (G : GT) : MC l G yX8_image cX8_image 3 (some .int) rmX8_image h [vR 8 (some v0), vI v1] (some (vI r)) h' := MC_of (by decide) rfl (Nat.le_of_ble_eq_true rfl) rfl (fun X C hQ hin => p_X8_image C hQ hf)
abbrev rmX8_back : Room := { frames := 1, cells := 0, slots := 0, locals := 25 }
def f_X8_back_25 (N : Nat) : Nat → Hp → Nat → Int32 → Int32 → Option (Int32 × Hp)
  | 0, _, _, _, _ => none
  | n + 1, h, v0, v1, v2 => if (93 : Int32) ≤ v2 then (Option.bind (hP h v0 26) (fun q2 => if 3 < hL h q2 then (some ((hI h q2 (3), h))) else none)) else (Option.bind (hP h v0 26) (fun q4 => Option.bind (hP h v0 42) (fun q5 => if 0 ≤ ((93 : Int32) * v1) + v2 ∧ (((93 : Int32) * v1) + v2).toNatClampNeg < hL h q5 then (lt (hI h q5 ((((93 : Int32) * v1) + v2).toNatClampNeg)) (fun y7 => if 0 ≤ v2 ∧ v2.toNatClampNeg < hL h q4 then (lt (sI h q4 (v2.toNatClampNeg) y7) (fun h9 => f_X8_back_25 N n h9 v0 v1 (v2 + (1 : Int32)))) else none)) else none)))
set_option maxHeartbeats 4000000 in
set_option maxRecDepth 100000 in
theorem p_X8_back_25 {X : XT} {r : Int32} {h' : Hp} (C : CX X cX8_back "WaterStairModel" 3 (some .int) rmX8_back) (hQ : QX X (some (vI r)) h' rmX8_back.cells rmX8_back.slots) {N : Nat}  : ∀ (n : Nat) (h : Hp) (v0 : Nat) (v1 : Int32) (v2 : Int32), f_X8_back_25 N n h v0 v1 v2 = some ((r, h')) → V X 0 0 h 25 [(0, vR 8 (some v0)), (1, vI v1), (2, vI v2)] [] := by
  intro n
  induction n with
  | zero =>
    intro h v0 v1 v2 hf
    have hf : (none : Option (Int32 × Hp)) = some _ := hf
    cases hf
  | succ n ih =>
    intro h v0 v1 v2 hf
    rw [f_X8_back_25] at hf
    refine V_iload_n C dX8_back_25 rfl 2 rfl ?_
    refine V_bipush (v := (93 : Int32)) C dX8_back_26 (by decide) ?_
    refine V_icmp_ge C 54 dX8_back_28 (by decide) (fun c1 => ?_) (fun c1 => ?_)
    · have hf := i_t c1 hf
      refine V_aload_n C dX8_back_54 rfl 0 rfl ?_
      obtain ⟨q2, eq2, hf⟩ := o_b hf
      refine V_getR C fl_X8_42 rfl rfl (by decide) eq2 dX8_back_55 ?_
      refine V_iconst (v := (3 : Int32)) C dX8_back_58 (by decide) ?_
      obtain ⟨g3, hf⟩ := o_if hf
      refine V_iald C (vp_k (by decide) (by decide) g3) (by decide : Int32.toNatClampNeg (3 : Int32) = 3) dX8_back_59 ?_
      obtain ⟨hf1, hf2⟩ := Prod.mk.inj (Option.some.inj hf)
      subst hf1
      subst hf2
      exact V_iret C hQ dX8_back_60
    · have hf := i_f c1 hf
      refine V_aload_n C dX8_back_31 rfl 0 rfl ?_
      obtain ⟨q4, eq4, hf⟩ := o_b hf
      refine V_getR C fl_X8_42 rfl rfl (by decide) eq4 dX8_back_32 ?_
      refine V_iload_n C dX8_back_35 rfl 2 rfl ?_
      refine V_aload_n C dX8_back_36 rfl 0 rfl ?_
      obtain ⟨q5, eq5, hf⟩ := o_b hf
      refine V_getR C fl_X8_82 rfl rfl (by decide) eq5 dX8_back_37 ?_
      refine V_bipush (v := (93 : Int32)) C dX8_back_40 (by decide) ?_
      refine V_iload_n C dX8_back_42 rfl 1 rfl ?_
      refine V_imul C dX8_back_43 ?_
      refine V_iload_n C dX8_back_44 rfl 2 rfl ?_
      refine V_iadd C dX8_back_45 ?_
      obtain ⟨g6, hf⟩ := o_if hf
      refine V_iald C (vp_g g6) rfl dX8_back_46 ?_
      obtain ⟨y7, ey7, hf⟩ := o_l hf
      refine V_eqI ey7 ?_
      obtain ⟨g8, hf⟩ := o_if hf
      obtain ⟨h9, eh9, hf⟩ := o_l hf
      refine V_iast C (vp_g g8) rfl dX8_back_47 (V_eqH eh9 ?_)
      refine V_iinc (lv' := [(2, vI (v2 + (1 : Int32))), (0, vR 8 (some v0)), (1, vI v1)]) C dX8_back_48 2 rfl (congrArg (v2 + ·) (by decide : Int32.ofInt (1) = (1 : Int32))) (by decide) rfl ?_
      refine V_goto C 25 dX8_back_51 (by decide) ?_
      refine V_sub (lv' := [(0, vR 8 (some v0)), (1, vI v1), (2, vI (v2 + (1 : Int32)))]) [1, 2, 0] rfl ?_
      exact ih _ _ _ _ hf
def f_X8_back (N : Nat) (h : Hp) (v0 : Nat) (v1 : Int32) : Option (Int32 × Hp) := Option.bind (f_X8_in h (v1.toInt64) (0 : Int64) (3 : Int64)) (fun r10 => if r10 = 0 then (some (((-1 : Int32), h))) else (Option.bind (hP h v0 43) (fun q12 => if 0 ≤ v1 ∧ v1.toNatClampNeg < hL h q12 then (if hI h q12 (v1.toNatClampNeg) = 0 then (some (((-1 : Int32), h))) else (f_X8_back_25 N N h v0 v1 (0 : Int32))) else none)))
set_option maxHeartbeats 4000000 in
set_option maxRecDepth 100000 in
theorem p_X8_back {X : XT} {r : Int32} {h' : Hp} (C : CX X cX8_back "WaterStairModel" 3 (some .int) rmX8_back) {N : Nat} {h : Hp} {v0 : Nat} {v1 : Int32} (hQ : QX X (some (vI r)) h' rmX8_back.cells rmX8_back.slots) (hf : f_X8_back N h v0 v1 = some ((r, h'))) : V X 0 0 h 0 [(0, vR 8 (some v0)), (1, vI v1)] [] := by
  unfold f_X8_back at hf
  refine V_iload_n C dX8_back_0 rfl 1 rfl ?_
  refine V_i2l C dX8_back_1 ?_
  refine V_lconst (v := (0 : Int64)) C dX8_back_2 (by decide) ?_
  refine V_ldc2 C kl_X8_308 dX8_back_3 ?_
  obtain ⟨r10, er10, hf⟩ := o_b hf
  refine V_callS (as := [vL (v1.toInt64), vL (0 : Int64), vL (3 : Int64)]) (st := []) C ml_X8_127 (ct_X8_in er10) rfl ⟨by decide, by decide, by decide, by decide⟩ (Nat.le_of_ble_eq_true rfl) rfl dX8_back_6 (cs' := 0) (sl' := 0) rfl rfl ?_
  refine V_if_eq C 21 dX8_back_9 (by decide) (fun c11 => ?_) (fun c11 => ?_)
  · have hf := i_t c11 hf
    refine V_iconst (v := (-1 : Int32)) C dX8_back_21 (by decide) ?_
    obtain ⟨hf1, hf2⟩ := Prod.mk.inj (Option.some.inj hf)
    subst hf1
    subst hf2
    exact V_iret C hQ dX8_back_22
  · have hf := i_f c11 hf
    refine V_aload_n C dX8_back_12 rfl 0 rfl ?_
    obtain ⟨q12, eq12, hf⟩ := o_b hf
    refine V_getR C fl_X8_85 rfl rfl (by decide) eq12 dX8_back_13 ?_
    refine V_iload_n C dX8_back_16 rfl 1 rfl ?_
    obtain ⟨g13, hf⟩ := o_if hf
    refine V_zald C (vp_g g13) rfl dX8_back_17 ?_
    refine V_if_ne C 23 dX8_back_18 (by decide) (fun c14 => ?_) (fun c14 => ?_)
    · have hf := i_f c14 hf
      refine V_iconst (v := (0 : Int32)) C dX8_back_23 (by decide) ?_
      refine V_istore_n (lv' := [(2, vI (0 : Int32)), (0, vR 8 (some v0)), (1, vI v1)]) C dX8_back_24 rfl (by decide) rfl ?_
      refine V_sub (lv' := [(0, vR 8 (some v0)), (1, vI v1), (2, vI (0 : Int32))]) [1, 2, 0] rfl ?_
      exact p_X8_back_25 C hQ N _ _ _ _ hf
    · have hf := i_t c14 hf
      refine V_iconst (v := (-1 : Int32)) C dX8_back_21 (by decide) ?_
      obtain ⟨hf1, hf2⟩ := Prod.mk.inj (Option.some.inj hf)
      subst hf1
      subst hf2
      exact V_iret C hQ dX8_back_22
theorem ct_X8_back {r : Int32} {h' : Hp} {N : Nat} {h : Hp} {v0 : Nat} {v1 : Int32} (hf : f_X8_back N h v0 v1 = some ((r, h'))) (l : Launch) (G : GT) : MC l G yX8_back cX8_back 3 (some .int) rmX8_back h [vR 8 (some v0), vI v1] (some (vI r)) h' := MC_of (by decide) rfl (Nat.le_of_ble_eq_true rfl) rfl (fun X C hQ hin => p_X8_back C hQ hf)
