/-! ===== the law from its entry: the world of the start ===== -/
def h00 : Hp := (0, fun _ => 0, fun _ _ => 0, fun _ _ => 0, fun _ _ => none, fun _ => 0)
def strT (i : Nat) : Term := match strO[i]? with
  | some q => .string q.1 q.2.1
  | none => .arg 0
def strX : List Nat := [27, 36, 44, 55, 68, 79, 91, 151, 164]
def strN : List Nat := [0, 43, 53, 65, 75, 86, 145, 157, 171]
def flat0 : List Cond := flatC (Jvm.Cond.and given_1 narrow_1)
set_option maxRecDepth 100000 in
theorem sx_ex : ∀ i, i < 9 → flat0[strX.getD i 0]? = some (Cond.exactly (strT i) "java/lang/String") := by decide +kernel
set_option maxRecDepth 100000 in
theorem sx_co : ∀ i, i < 9 → flat0[strX.getD i 0 + 1]? = some (Cond.eq (.field (strT i) "java/lang/String" "coder" "B") (.int 0)) := by decide +kernel
set_option maxRecDepth 100000 in
theorem sx_ar : ∀ i, i < 9 → flat0[strX.getD i 0 + 2]? = some (Cond.arrayOf (.field (strT i) "java/lang/String" "value" "[B") .byte) := by decide +kernel
set_option maxRecDepth 100000 in
theorem sx_le : ∀ i, i < 9 → flat0[strX.getD i 0 + 3]? = some (Cond.eq (.length (.field (strT i) "java/lang/String" "value" "[B")) (.int (Int32.ofNat (strL.getD i 0)))) := by decide +kernel
set_option maxRecDepth 100000 in
theorem sx_el : ∀ i, i < 9 → ∀ j, j < strL.getD i 0 → flat0[strX.getD i 0 + 4 + j]? = some (Cond.eq (.elem (.field (strT i) "java/lang/String" "value" "[B") (.int (Int32.ofNat j))) (.int ((strB.getD i []).getD j 0))) := by decide +kernel
set_option maxRecDepth 100000 in
theorem sx_ne : ∀ j, j < 9 → ∀ i, i < j → flat0[strN.getD j 0 + i]? = some (Cond.not (Cond.eq (strT i) (strT j))) := by decide +kernel
set_option maxRecDepth 100000 in
theorem sx_rf : (strO.map fun q => Cond.stringRef q.1 q.2.1 q.2.2) = ([379, 449, 454, 467, 496, 508, 526, 556, 557] : List Nat).filterMap (fun i => tables_1[i]?) := by decide +kernel
theorem arr_of {s : State} {ty : FieldType} {args : Array Value} (h : (Cond.arrayClass ty).before args s = true) : ∃ c, s.vm.findClass ("[" ++ ty.toString) = some c ∧ ArrOfT s c ty := by
  obtain ⟨c, k, m, a, b, d⟩ := Cond.arrayClass_spec h
  exact ⟨c, a, fun N z => ⟨(fun k h => by cases h), k, b, m, d⟩⟩
theorem arr_ob {s : State} {n : String} (h : AOv (.object n) s) : ∃ c, ArrOfT s c (.object n) ∧ va_RA s c (.object n) := by
  obtain ⟨comp, c, k, f1, f2, f3, f4, f5⟩ := Cond.arrayOver_spec h
  exact ⟨c, fun N z => ⟨(fun k h => by cases h), k, f3, comp, f4⟩, k, comp, f3, f4, f1, f5⟩
theorem arr_ar {s : State} {t : FieldType} (h : AOv (.array t) s) : ∃ c, ArrOfT s c (.array t) ∧ va_RA s c (.array t) := by
  obtain ⟨comp, c, k, f1, f3, f4, f5⟩ := Cond.arrayOver_specA h
  exact ⟨c, fun N z => ⟨(fun k h => by cases h), k, f3, comp, f4⟩, f5⟩
set_option maxHeartbeats 4000000 in
set_option maxRecDepth 100000 in
theorem start_G {p : Program} {s : State} {m : MethodId} {meth : Method} {c : Code} {b L : Nat} {xs : Nat → Int32} (C0 : lw_At p s m meth c b L xs) : ∃ G : GT, gB G = s.heap.size ∧ gS G 9 = b ∧ va_K (gD G) vwCl (tys G) s ∧ SK G s s.heap := by
  obtain ⟨hx, hb, hr, hml, hown, hts, hX, hbl, hlocks, hgv⟩ := C0
  have hT : ∀ w ∈ TT, w.before #[Value.ref b] s = true := fun w hw => hts w (List.mem_filter.mp hw).1
  have hs : ∀ w ∈ flat0, w.before #[Value.ref b] s = true := flat_of_before _ hgv
  have hg : ∀ {i : Nat} {w : Cond}, flat0[i]? = some w → w.before #[Value.ref b] s = true := fun h => hs _ (List.mem_of_getElem? h)
  have hA : ∀ a : Nat, a < s.heap.size → ¬ (fun q : Nat => s.heap.size ≤ q) a := fun a h => Nat.not_le.mpr h
  obtain ⟨c0, i0, k0⟩ := u_known (C := RX0) (T := TX0) (N := 8) (n := 8) hT inX0 (hT (.instantiable "WaterStair$Dusk" 8) (tt_2 (List.mem_of_getElem? (i := 21) rfl) rfl))
  obtain ⟨c1, i1, k1⟩ := u_known (C := RX1) (T := TX1) (N := 3) (n := 3) hT inX1 (hT (.instantiable "WaterStair$Rule" 3) (tt_3 (List.mem_of_getElem? (i := 81) rfl) rfl))
  obtain ⟨c2, i2, k2⟩ := u_known (C := RX2) (T := TX2) (N := 4) (n := 4) hT inX2 (hT (.instantiable "WaterStair$RuleText" 4) (tt_1 (List.mem_of_getElem? (i := 186) rfl) rfl))
  obtain ⟨c3, i3, k3⟩ := u_known (C := RX3) (T := TX3) (N := 16) (n := 16) hT inX3 (hT (.instantiable "WaterStair$Search" 16) (tt_1 (List.mem_of_getElem? (i := 205) rfl) rfl))
  obtain ⟨c4, i4, k4⟩ := u_known (C := RX4) (T := TX4) (N := 4) (n := 4) hT inX4 (hT (.instantiable "WaterStair$StairText" 4) (tt_1 (List.mem_of_getElem? (i := 167) rfl) rfl))
  obtain ⟨c5, i5, k5⟩ := u_known (C := RX5) (T := TX5) (N := 19) (n := 19) hT inX5 (hT (.instantiable "WaterStair$State" 19) (tt_1 (List.mem_of_getElem? (i := 64) rfl) rfl))
  obtain ⟨c6, i6, k6⟩ := u_known (C := RX6) (T := TX6) (N := 7) (n := 7) hT inX6 (hT (.instantiable "WaterStair$Tape" 7) (tt_1 (List.mem_of_getElem? (i := 27) rfl) rfl))
  obtain ⟨c7, i7, k7⟩ := u_known (C := RX7) (T := TX7) (N := 10) (n := 10) hT inX7 (hT (.instantiable "WaterStair" 10) (tt_1 (List.mem_of_getElem? (i := 19) rfl) rfl))
  obtain ⟨c8, i8, k8⟩ := u_known (C := RX8) (T := TX8) (N := 44) (n := 44) hT inX8 (hT (.instantiable "WaterStairModel" 44) (tt_5 (List.mem_of_getElem? (i := 33) rfl) rfl))
  obtain ⟨a9, ra9, oa9⟩ := arr_of (hT (.arrayClass .byte) kA9)
  obtain ⟨a10, ra10, oa10⟩ := arr_of (hT (.arrayClass .int) kA10)
  obtain ⟨a11, ra11, oa11⟩ := arr_of (hT (.arrayClass .long) kA11)
  obtain ⟨a12, ra12, oa12⟩ := arr_of (hT (.arrayClass .boolean) kA12)
  have ao1 : AOv (.object "WaterStair$Rule") s := ao_of (hts _ (List.mem_append_right _ (List.mem_append_left _ (List.mem_of_getElem? (i := 165) rfl))))
  have ao2 : AOv (.object "WaterStair$State") s := ao_of (hts _ (List.mem_append_right _ (List.mem_append_left _ (List.mem_of_getElem? (i := 163) rfl))))
  have ao3 : AOv (.array .int) s := ao_of (hts _ (List.mem_append_right _ (List.mem_append_right _ (List.mem_append_left _ (List.mem_of_getElem? (i := 27) rfl)))))
  obtain ⟨a13, oa13, ra13⟩ := arr_ob ao1
  obtain ⟨a14, oa14, ra14⟩ := arr_ob ao2
  obtain ⟨a15, oa15, ra15⟩ := arr_ar ao3
  obtain ⟨adK, adV, hVS, hVe⟩ := vk_Sof (args := #[Value.ref b]) (s := s) (N := 9) (tm := strT) (len := strL) (byt := strB) (A := fun q : Nat => s.heap.size ≤ q) (by decide) (fun i hi => hg (sx_ex i hi)) (fun i hi => hg (sx_co i hi)) (fun i hi => hg (sx_ar i hi)) (fun i hi => hg (sx_le i hi)) (fun i hi j hj => hg (sx_el i hi j hj)) (fun i j hi hj hn => by
    rcases Nat.lt_or_ge i j with h1 | h1
    · exact Or.inl (hg (sx_ne j hj i h1))
    · exact Or.inr (hg (sx_ne i hi j (by omega)))) hA
  have hcs : (Term.static "java/lang/String" "COMPACT_STRINGS" "Z").eval #[Value.ref b] s none [] s = some (.int 1) := va_eqi (hg (i := 4) rfl)
  have hZ1 : va_Z "java/lang/String" "COMPACT_STRINGS" "Z" (.int 1) (fun q : Nat => s.heap.size ≤ q) s s.heap := va_Zof (hts _ (List.mem_append_right _ (List.mem_append_right _ (List.mem_append_left _ (List.mem_of_getElem? (i := 157) rfl))))) (hT _ (tt_1 (List.mem_of_getElem? (i := 10) rfl) rfl)) hcs hA
  have hZ2 : va_Zq "jdk/internal/util/Preconditions" "SIOOBE_FORMATTER" "Ljava/util/function/BiFunction;" (fun q : Nat => s.heap.size ≤ q) s s.heap := va_Zqof (hts _ (List.mem_append_right _ (List.mem_append_right _ (List.mem_append_left _ (List.mem_of_getElem? (i := 173) rfl))))) (hT _ (tt_1 (List.mem_of_getElem? (i := 12) rfl) rfl)) (hg (i := 5) rfl) hA
  obtain ⟨gf, hZ3⟩ : ∃ gf : Option Nat, va_Z "jdk/internal/util/Preconditions" "SIOOBE_FORMATTER" "Ljava/util/function/BiFunction;" (va_rf gf) (fun q : Nat => s.heap.size ≤ q) s s.heap := by
    rcases hZ2 with h | ⟨t, h⟩
    · exact ⟨none, h⟩
    · exact ⟨some t, h⟩
  refine ⟨((fun k => ([c0, c1, c2, c3, c4, c5, c6, c7, c8] : List ClassId).getD k 0, fun k => ([i0, i1, i2, i3, i4, i5, i6, i7, i8] : List (Nat → Nat)).getD k (fun _ => 0)), (fun k => ([a9, a10, a11, a12, a13, a14, a15] : List ClassId).getD (k - 9) 0), s.heap.size, (fun i => if i = 9 then b else adK i), adV, gf), rfl, rfl, ⟨?_, ?_⟩, ⟨⟨⟨?_, ?_⟩, hZ1, hZ3⟩, ?_, ?_, ao1, ao2, ao3, ?_⟩⟩
  · intro k q hq
    match k, hq with
    | 0, hq => cases hq; exact k0
    | 1, hq => cases hq; exact k1
    | 2, hq => cases hq; exact k2
    | 3, hq => cases hq; exact k3
    | 4, hq => cases hq; exact k4
    | 5, hq => cases hq; exact k5
    | 6, hq => cases hq; exact k6
    | 7, hq => cases hq; exact k7
    | 8, hq => cases hq; exact k8
    | k + 9, hq => simp [vwCl] at hq
  · intro k q hq
    match k, hq with
    | 0, hq => cases hq; exact ⟨oa9, ra9⟩
    | 1, hq => cases hq; exact ⟨oa10, ra10⟩
    | 2, hq => cases hq; exact ⟨oa11, ra11⟩
    | 3, hq => cases hq; exact ⟨oa12, ra12⟩
    | 4, hq => cases hq; exact ⟨oa13, ra13⟩
    | 5, hq => cases hq; exact ⟨oa14, ra14⟩
    | 6, hq => cases hq; exact ⟨oa15, ra15⟩
    | k + 7, hq => simp at hq
  · intro i hi
    have h1 := hVS.1 i hi
    show va_O "java/lang/String" (if i = 9 then b else adK i) _ _ _ ∧ va_OF _ _ _ _ (if i = 9 then b else adK i) _ _ _ ∧ va_OF _ _ _ _ (if i = 9 then b else adK i) _ _ _ ∧ _
    rw [if_neg (by omega)]
    exact h1
  · intro i j hi hj he
    have he : (if i = 9 then b else adK i) = (if j = 9 then b else adK j) := he
    rw [if_neg (by omega), if_neg (by omega)] at he
    exact hVS.2 i j hi hj he
  · intro i q hq
    have hi : i < 9 := (List.getElem?_eq_some_iff.mp hq).1
    have hm : Cond.stringRef q.1 q.2.1 q.2.2 ∈ tables_1 := tt_sub _ sx_rf _ (List.mem_map.mpr ⟨q, List.mem_of_getElem? hq, rfl⟩)
    have he := hVe i hi
    have e1 : strT i = .string q.1 q.2.1 := by unfold strT; rw [hq]
    rw [e1] at he
    show vk_R _ _ _ (if i = 9 then b else adK i) s
    rw [if_neg (by omega)]
    exact vk_R.of (hts _ (List.mem_append_right _ hm)) he
  · intro w hw
    rcases List.mem_cons.mp hw with rfl | hw
    · exact va_Nw.of rfl (hts _ (List.mem_append_right _ (List.mem_append_left _ (List.mem_of_getElem? (i := 28) rfl))))
    · rw [List.mem_singleton.mp hw]
      exact va_Nw.of rfl (hts _ (List.mem_append_right _ (List.mem_append_left _ (List.mem_of_getElem? (i := 65) rfl))))
  · exact va_Nw.of rfl (hts _ (List.mem_append_right _ (List.mem_append_right _ (List.mem_append_right _ (List.mem_append_left _ (List.mem_of_getElem? (i := 90) rfl))))))
set_option maxHeartbeats 4000000 in
/-- YOUR PART: from the entry, for every script of at most 3072 ints, the law comes to its end with true -/
theorem start_of {p : Program} {e : Env} {s : State} {m : MethodId} {below : List Frame} {meth : Method} {c : Code} (l : Launch) {b L : Nat} {xs : Nat → Int32} (hpm : ∃ N, f_L_law N xs L h00 = some 1) (C0 : lw_At p s m meth c b L xs) : W p l e room_1 s m #[Value.ref b] below meth c s.heap [] 0 0 (lw_Z below #[Value.ref b] s) (entryFrame m ([Value.ref b] : List Value).toArray 4) := by
  obtain ⟨G, g1, g2, hKv, hsk⟩ := start_G C0
  obtain ⟨hx, hb, hr, hml, hown, hts, hX, hbl, hlocks, hgv⟩ := id C0
  have hT : ∀ w ∈ TT, w.before #[Value.ref b] s = true := fun w hw => hts w (List.mem_filter.mp hw).1
  obtain ⟨N, hN⟩ := hpm
  have hl := lv_entry ([.ref b]) (n := 4) (Nat.le_of_ble_eq_true rfl)
  rw [lg_entry_eq]
  generalize (lg_sl ([.ref b]) ++ List.replicate (4 - (lg_sl ([.ref b])).length) Slot.unset).toArray = ls at hl ⊢
  have hl : lv_has ls 4 [(0, .ref b)] := hl
  have e9 : cv G (vR 19 (some 0)) = .ref b := by rw [← g2]; rfl
  refine p_L_law (X := (p, l, e, room_1, s, m, #[Value.ref b], below, meth, c, lw_Z below #[Value.ref b] s, G, 4, h00)) (b := b) (L := L) (xs := xs) ⟨hX, hbl, by rw [g1]; exact hbl, g2⟩ ⟨rfl, rfl, by rw [g1]; exact Nat.le_refl _⟩ ⟨hx, hb, hml, hown, hT, hKv, rfl, rfl, hr, hlocks, by rw [g1]; exact Nat.le_refl _, hsk⟩ hN s.heap [] ls (ext_rf _) ⟨by rw [g1]; rfl, fun v k w hv => absurd hv (Nat.not_lt_zero v), fun k q hk => ?_⟩ va_S.rf ?_ (fun q hq => ?_) (fun q hq => absurd hq List.not_mem_nil)
  · have h1 : (hw G h00) = [] := rfl
    rw [h1] at hk
    simp at hk
  · show lv_has ls 4 [(0, cv G (vR 19 (some 0)))]
    rw [e9]
    exact hl
  · rw [List.mem_singleton.mp hq]
    exact ty_x (by decide) (by decide)
