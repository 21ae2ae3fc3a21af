/-! ===== pure heaps: how many cells, their kinds, ints, longs, references, lengths ===== -/
abbrev Hp : Type := Nat × (Nat → Nat) × (Nat → Nat → Int32) × (Nat → Nat → Int64) × (Nat → Nat → Option Nat) × (Nat → Nat)
def hN (h : Hp) : Nat := h.1
def hK (h : Hp) : Nat → Nat := h.2.1
def hI (h : Hp) : Nat → Nat → Int32 := h.2.2.1
def hJ (h : Hp) : Nat → Nat → Int64 := h.2.2.2.1
def hP (h : Hp) : Nat → Nat → Option Nat := h.2.2.2.2.1
def hL (h : Hp) : Nat → Nat := h.2.2.2.2.2
def sI (h : Hp) (v k : Nat) (x : Int32) : Hp := (hN h, hK h, fun a j => if a = v ∧ j = k then x else hI h a j, hJ h, hP h, hL h)
def sJ (h : Hp) (v k : Nat) (x : Int64) : Hp := (hN h, hK h, hI h, fun a j => if a = v ∧ j = k then x else hJ h a j, hP h, hL h)
def sP (h : Hp) (v k : Nat) (x : Option Nat) : Hp := (hN h, hK h, hI h, hJ h, fun a j => if a = v ∧ j = k then x else hP h a j, hL h)
/-- ints of one array copied into another (or the same) -/
def sC (h : Hp) (a0 a1 sp dp n : Nat) : Hp := (hN h, hK h, fun a j => if a = a1 then va_cpy (hI h a0) (hI h a1) sp dp n j else hI h a j, hJ h, hP h, hL h)
/-- a new cell of kind c, of length z -/
def nO (h : Hp) (c z : Nat) : Hp := (hN h + 1, fun a => if a = hN h then c else hK h a, fun a j => if a = hN h then 0 else hI h a j, fun a j => if a = hN h then 0 else hJ h a j, fun a j => if a = hN h then none else hP h a j, fun a => if a = hN h then z else hL h a)
abbrev GT : Type := va_G × (Nat → ClassId) × Nat × (Nat → Nat) × (Nat → Nat) × Option Nat
def gD (G : GT) : va_G := G.1
def gC (G : GT) : Nat → ClassId := G.2.1
def gB (G : GT) : Nat := G.2.2.1
def gS (G : GT) : Nat → Nat := G.2.2.2.1
def gV (G : GT) : Nat → Nat := G.2.2.2.2.1
def gF (G : GT) : Option Nat := G.2.2.2.2.2
def gA (G : GT) : Nat → Prop := fun q => gB G ≤ q
abbrev PV : Type := Int32 ⊕ (Int64 ⊕ (Nat × Option Nat))
abbrev vI (x : Int32) : PV := .inl x
abbrev vL (x : Int64) : PV := .inr (.inl x)
abbrev vR (k : Nat) (o : Option Nat) : PV := .inr (.inr (k, o))
/-- a reference: 16 a constant text, 17 its bytes, 18 what makes an index's exception, 19 the law's script; else a cell -/
def cR (G : GT) (k : Nat) (o : Option Nat) : Value := if k = 16 then .ref (gS G (o.getD 0)) else if k = 17 then .ref (gV G (o.getD 0)) else if k = 18 then va_rf (gF G) else if k = 19 then .ref (gS G 9) else va_rf (o.map (gB G + ·))
theorem cR_or (G : GT) (k : Nat) (o : Option Nat) : (∃ x, cR G k o = .ref x) ∨ cR G k o = .null := by
  unfold cR
  split
  · exact Or.inl ⟨_, rfl⟩
  · split
    · exact Or.inl ⟨_, rfl⟩
    · split
      · cases gF G
        · exact Or.inr rfl
        · exact Or.inl ⟨_, rfl⟩
      · split
        · exact Or.inl ⟨_, rfl⟩
        · cases o
          · exact Or.inr rfl
          · exact Or.inl ⟨_, rfl⟩
def cv (G : GT) (v : PV) : Value := match v with
  | .inl x => .int x
  | .inr (.inl x) => .long x
  | .inr (.inr q) => cR G q.1 q.2
def tyo (h : Hp) (v : PV) : Prop := match v with
  | .inl _ => True
  | .inr (.inl _) => True
  | .inr (.inr q) => ∀ w, q.2 = some w → (16 ≤ q.1 ∧ w < 9) ∨ (q.1 < 16 ∧ w < hN h ∧ hK h w = q.1)
def ext (h0 h : Hp) : Prop := hN h0 ≤ hN h ∧ ∀ v, v < hN h0 → hK h v = hK h0 v
def fT (c k : Nat) : FieldType := match c with
  | 0 => tyX0 k
  | 1 => tyX1 k
  | 2 => tyX2 k
  | 3 => tyX3 k
  | 4 => tyX4 k
  | 5 => tyX5 k
  | 6 => tyX6 k
  | 7 => tyX7 k
  | _ => tyX8 k
def fN (c : Nat) : Nat := match c with
  | 0 => 8
  | 1 => 3
  | 2 => 4
  | 3 => 16
  | 4 => 4
  | 5 => 19
  | 6 => 7
  | 7 => 10
  | _ => 44
/-- the kind of what a place of a cell refers to -/
def xk (c k : Nat) : Nat := match c with
  | 0 => ([5, 15, 10, 10, 0, 0, 0, 0] : List Nat).getD k 0
  | 1 => ([10, 11, 11] : List Nat).getD k 0
  | 2 => ([6, 10, 0, 0] : List Nat).getD k 0
  | 3 => ([5, 10, 10, 11, 11, 10, 10, 10, 10, 10, 10, 10, 0, 0, 0, 0] : List Nat).getD k 0
  | 4 => ([6, 5, 0, 0] : List Nat).getD k 0
  | 5 => ([0, 0, 0, 0, 0, 0, 0, 0, 10, 10, 10, 10, 10, 10, 10, 10, 10, 10, 10] : List Nat).getD k 0
  | 6 => ([9, 0, 0, 0, 0, 0, 0] : List Nat).getD k 0
  | 7 => ([6, 5, 5, 14, 13, 0, 4, 2, 3, 0] : List Nat).getD k 0
  | 8 => ([9, 0, 0, 10, 10, 10, 10, 0, 0, 0, 0, 0, 10, 10, 0, 0, 0, 0, 0, 0, 0, 10, 0, 11, 0, 11, 10, 10, 10, 10, 10, 10, 12, 10, 10, 10, 0, 0, 0, 10, 10, 10, 10, 12] : List Nat).getD k 0
  | 13 => 1
  | 14 => 5
  | 15 => 10
  | _ => 0
def fv (G : GT) (h : Hp) (v k : Nat) (t : FieldType) : Value := match t with
  | .object _ => va_rf ((hP h v k).map (gB G + ·))
  | .array _ => va_rf ((hP h v k).map (gB G + ·))
  | _ => .int (hI h v k)
def hcell (G : GT) (h : Hp) (v : Nat) : va_E :=
  if hK h v < 9 then .inr (hK h v, (List.range (fN (hK h v))).map (fun k => fv G h v k (fT (hK h v) k)))
  else if hK h v = 11 then .inl (gC G (hK h v), hL h v, .inr (.inl (hJ h v)))
  else if hK h v < 13 then .inl (gC G (hK h v), hL h v, .inl (hI h v))
  else .inl (gC G (hK h v), hL h v, .inr (.inr (.inr (.inr (fun i => (hP h v i).map (gB G + ·))))))
def hw (G : GT) (h : Hp) : va_W := (List.range (hN h)).map (fun v => (gB G + v, hcell G h v))
def TH (h : Hp) : Prop := ∀ v k w, v < hN h → hP h v k = some w → w < hN h ∧ hK h w = xk (hK h v) k
def Pic (G : GT) (h : Hp) (H : Heap) : Prop := H.size = gB G + hN h ∧ TH h ∧ va_P (gD G) vwCl (hw G h) H
abbrev tys (G : GT) : List (ClassId × FieldType) := [(gC G 9, .byte), (gC G 10, .int), (gC G 11, .long), (gC G 12, .boolean), (gC G 13, .object "WaterStair$Rule"), (gC G 14, .object "WaterStair$State"), (gC G 15, .array .int)]
theorem hw_get {G : GT} {h : Hp} {v : Nat} (hv : v < hN h) : (hw G h)[v]? = some (gB G + v, hcell G h v) := by
  simp [hw, List.getElem?_map, List.getElem?_range hv]
theorem hw_D (G : GT) (h : Hp) : va_D (gA G) (hw G h) := by
  have key : ∀ (k : Nat) (q : Nat × va_E), (hw G h)[k]? = some q → q.1 = gB G + k := by
    intro k q hk
    by_cases hl : k < hN h
    · rw [hw_get hl] at hk
      cases hk
      rfl
    · rw [List.getElem?_eq_none (by simp [hw]; omega)] at hk
      cases hk
  refine ⟨fun i j p q hi hj he => ?_, fun k q hk => ?_⟩
  · have h1 := key i p hi
    have h2 := key j q hj
    omega
  · show gB G ≤ q.1
    rw [key k q hk]
    omega
theorem hw_set {G : GT} {h h1 : Hp} {v : Nat} (hn : hN h1 = hN h) (ho : ∀ u, u ≠ v → hcell G h1 u = hcell G h u) : (hw G h).set v (gB G + v, hcell G h1 v) = hw G h1 := by
  apply List.ext_getElem?
  intro i
  rw [List.getElem?_set]
  by_cases hi : i < hN h
  · rw [hw_get (show i < hN h1 by omega)]
    by_cases e : v = i
    · subst e
      simp [hw, hi]
    · rw [if_neg e, hw_get hi, ho i (fun z => e z.symm)]
  · have e1 : (hw G h1)[i]? = none := List.getElem?_eq_none (by simp [hw]; omega)
    have e2 : (hw G h)[i]? = none := List.getElem?_eq_none (by simp [hw]; omega)
    rw [e1, e2]
    by_cases e : v = i
    · subst e
      simp [hw, hi]
    · rw [if_neg e]
theorem hw_push {G : GT} {h h1 : Hp} (hn : hN h1 = hN h + 1) (ho : ∀ u, u < hN h → hcell G h1 u = hcell G h u) : hw G h ++ [(gB G + hN h, hcell G h1 (hN h))] = hw G h1 := by
  unfold hw
  rw [hn, List.range_succ, List.map_append]
  congr 1
  apply List.map_congr_left
  intro a ha
  rw [ho a (List.mem_range.mp ha)]
theorem hc_obj {G : GT} {h : Hp} {v c : Nat} (hk : hK h v = c) (hc : c < 9) : hcell G h v = .inr (c, (List.range (fN c)).map (fun k => fv G h v k (fT c k))) := by
  subst hk
  unfold hcell
  rw [if_pos hc]
theorem hc_long {G : GT} {h : Hp} {v : Nat} (hk : hK h v = 11) : hcell G h v = .inl (gC G 11, hL h v, .inr (.inl (hJ h v))) := by
  unfold hcell
  rw [hk, if_neg (by decide), if_pos rfl]
theorem hc_int {G : GT} {h : Hp} {v c : Nat} (hk : hK h v = c) (h9 : ¬ c < 9) (h11 : ¬ c = 11) (h13 : c < 13) : hcell G h v = .inl (gC G c, hL h v, .inl (hI h v)) := by
  subst hk
  unfold hcell
  rw [if_neg h9, if_neg h11, if_pos h13]
theorem hc_ref {G : GT} {h : Hp} {v c : Nat} (hk : hK h v = c) (h13 : ¬ c < 13) : hcell G h v = .inl (gC G c, hL h v, .inr (.inr (.inr (.inr (fun i => (hP h v i).map (gB G + ·)))))) := by
  subst hk
  unfold hcell
  rw [if_neg (by omega), if_neg (by omega), if_neg h13]
/-- cells look at no more than their own rows -/
theorem hc_cong {G : GT} {h h1 : Hp} {u : Nat} (hk : hK h1 u = hK h u) (hi : hI h1 u = hI h u) (hj : hJ h1 u = hJ h u) (hp : hP h1 u = hP h u) (hl : hL h1 u = hL h u) : hcell G h1 u = hcell G h u := by
  unfold hcell fv
  rw [hk, hi, hj, hp, hl]
theorem ext_rf (h : Hp) : ext h h := ⟨Nat.le_refl _, fun _ _ => rfl⟩
theorem ext_tr {h0 h1 h2 : Hp} (a : ext h0 h1) (b : ext h1 h2) : ext h0 h2 := ⟨Nat.le_trans a.1 b.1, fun v hv => (b.2 v (Nat.lt_of_lt_of_le hv a.1)).trans (a.2 v hv)⟩
theorem ext_nO (h : Hp) (c z : Nat) : ext h (nO h c z) := ⟨Nat.le_succ _, fun v hv => by show (if v = hN h then c else hK h v) = _; rw [if_neg (by omega)]⟩
theorem tyo_ext {h h1 : Hp} (a : ext h h1) {v : PV} (t : tyo h v) : tyo h1 v := by
  rcases v with x | x | q
  · trivial
  · trivial
  · intro w hw
    rcases t w hw with t | t
    · exact Or.inl t
    · exact Or.inr ⟨t.1, Nat.lt_of_lt_of_le t.2.1 a.1, (a.2 w t.2.1).trans t.2.2⟩
theorem tys_ext {h h1 : Hp} (a : ext h h1) {l : List PV} (t : ∀ q ∈ l, tyo h q) : ∀ q ∈ l, tyo h1 q := fun q hq => tyo_ext a (t q hq)
theorem tyl_ext {h h1 : Hp} (a : ext h h1) {l : List (Nat × PV)} (t : ∀ q ∈ l, tyo h q.2) : ∀ q ∈ l, tyo h1 q.2 := fun q hq => tyo_ext a (t q hq)
theorem ty_1 {h : Hp} {v : PV} {l : List PV} (t : ∀ q ∈ v :: l, tyo h q) : ∀ q ∈ l, tyo h q := fun q hq => t q (List.mem_cons_of_mem _ hq)
theorem ty_2 {h : Hp} {v w : PV} {l : List PV} (t : ∀ q ∈ v :: w :: l, tyo h q) : ∀ q ∈ l, tyo h q := ty_1 (ty_1 t)
theorem ty_3 {h : Hp} {v w x : PV} {l : List PV} (t : ∀ q ∈ v :: w :: x :: l, tyo h q) : ∀ q ∈ l, tyo h q := ty_1 (ty_2 t)
theorem ty_c {h : Hp} {v : PV} {l : List PV} (a : tyo h v) (t : ∀ q ∈ l, tyo h q) : ∀ q ∈ v :: l, tyo h q := fun q hq => (List.mem_cons.mp hq).elim (fun e => e ▸ a) (fun h => t q h)
theorem ty_h {h : Hp} {v : PV} {l : List PV} (t : ∀ q ∈ v :: l, tyo h q) : tyo h v := t v List.mem_cons_self
/-- what a typed reference says of its place -/
theorem ty_r {h : Hp} {k w : Nat} (hk : k < 16) (t : tyo h (vR k (some w))) : w < hN h ∧ hK h w = k := by
  rcases t w rfl with t | t
  · exact absurd t.1 (by omega)
  · exact t.2
theorem ty_w {h : Hp} {k w : Nat} (hk : k < 16) (a : w < hN h) (b : hK h w = k) : tyo h (vR k (some w)) := fun w' e => by
  cases e
  exact Or.inr ⟨hk, a, b⟩
theorem cR_s {G : GT} {k w : Nat} (hk : k < 16) : cR G k (some w) = .ref (gB G + w) := by
  unfold cR
  rw [if_neg (by omega), if_neg (by omega), if_neg (by omega), if_neg (by omega)]
  rfl
theorem cR_n {G : GT} {k : Nat} (hk : k < 16) : cR G k none = .null := by
  unfold cR
  rw [if_neg (by omega), if_neg (by omega), if_neg (by omega), if_neg (by omega)]
  rfl
/-- the Strings of the class: whose constants, their numbers, their bytes -/
def strO : List (String × Nat × String) := [("WaterStair$StairText", 57, "level"), ("WaterStair$StairText", 69, "lag"), ("WaterStair$StairText", 74, "barge"), ("WaterStair$StairText", 79, "broken"), ("WaterStair$RuleText", 66, "bar"), ("WaterStair$RuleText", 80, "not"), ("WaterStair$RuleText", 114, "step down up need water below here there wide tips"), ("WaterStair$RuleText", 75, "or"), ("WaterStair$RuleText", 77, "and")]
def strL : List Nat := [5, 3, 5, 6, 3, 3, 50, 2, 3]
def strB : List (List Int32) := [[108, 101, 118, 101, 108], [108, 97, 103], [98, 97, 114, 103, 101], [98, 114, 111, 107, 101, 110], [98, 97, 114], [110, 111, 116], [115, 116, 101, 112, 32, 100, 111, 119, 110, 32, 117, 112, 32, 110, 101, 101, 100, 32, 119, 97, 116, 101, 114, 32, 98, 101, 108, 111, 119, 32, 104, 101, 114, 101, 32, 116, 104, 101, 114, 101, 32, 119, 105, 100, 101, 32, 116, 105, 112, 115], [111, 114], [97, 110, 100]]
/-- the links to nest mates' constructors -/
def nests : List Cond := [.methodLinkNest "WaterStair" 9 ⟨"WaterStair$Tape", "<init>", "()V"⟩ "WaterStair", .methodLinkNest "WaterStair" 18 ⟨"WaterStair$State", "<init>", "()V"⟩ "WaterStair"]
theorem ne_warm {w : Cond} (hw : w ∈ nests) {s U : State} (hW : s.WarmedH U.vm) (h : va_Nw w s) : va_Nw w U := by
  rcases List.mem_cons.mp hw with rfl | hw
  · exact va_Nw.warmM hW h
  · rw [List.mem_singleton.mp hw] at h ⊢
    exact va_Nw.warmM hW h
theorem ne_same {w : Cond} (hw : w ∈ nests) {s U : State} (hv : s.vm = U.vm) (h : va_Nw w s) : va_Nw w U := by
  rcases List.mem_cons.mp hw with rfl | hw
  · exact va_Nw.same rfl hv h
  · rw [List.mem_singleton.mp hw] at h ⊢
    exact va_Nw.same rfl hv h
def AOv (ty : FieldType) (U : State) : Prop := (Cond.arrayOver ty).before #[] U = true
theorem ao_same {ty : FieldType} {s U : State} (hv : s.vm = U.vm) (h : AOv ty s) : AOv ty U := by
  unfold AOv Cond.before Cond.holds at h ⊢
  simp only [Cond.value] at h ⊢
  rw [← hv]
  exact h
theorem ao_warm {ty : FieldType} {s U : State} (hW : s.WarmedH U.vm) (h : AOv ty s) : AOv ty U := by
  have h1 : AOv ty (s.setVm U.vm) := by
    unfold AOv
    rw [Cond.arrayOver_setVmC hW.alike]
    exact h
  exact ao_same rfl h1
theorem ao_of {ty : FieldType} {A : Array Value} {U : State} (h : (Cond.arrayOver ty).before A U = true) : AOv ty U := by
  unfold AOv Cond.before Cond.holds at *
  simp only [Cond.value] at *
  exact h
theorem ao_use {ty : FieldType} {A : Array Value} {U : State} (h : AOv ty U) : (Cond.arrayOver ty).before A U = true := by
  unfold AOv Cond.before Cond.holds at *
  simp only [Cond.value] at *
  exact h
/-- what the tables say beside the plain words: constants of text, nest mates, classes of arrays -/
def SW (G : GT) (U : State) : Prop := (∀ i q, strO[i]? = some q → vk_R q.1 q.2.1 q.2.2 (gS G i) U) ∧ (∀ w ∈ nests, va_Nw w U) ∧ AOv (.object "WaterStair$Rule") U ∧ AOv (.object "WaterStair$State") U ∧ AOv (.array .int) U ∧ va_Nw (.castable "[I" "java/lang/Cloneable") U
theorem SW_warm {G : GT} {s U : State} (hW : s.WarmedH U.vm) (h : SW G s) : SW G U := ⟨fun i q hq => (h.1 i q hq).warm hW, fun w hw => ne_warm hw hW (h.2.1 w hw), ao_warm hW h.2.2.1, ao_warm hW h.2.2.2.1, ao_warm hW h.2.2.2.2.1, va_Nw.warmC hW h.2.2.2.2.2⟩
theorem SW_same {G : GT} {s U : State} (hv : s.vm = U.vm) (h : SW G s) : SW G U := ⟨fun i q hq => (h.1 i q hq).same hv.symm, fun w hw => ne_same hw hv (h.2.1 w hw), ao_same hv h.2.2.1, ao_same hv h.2.2.2.1, ao_same hv h.2.2.2.2.1, va_Nw.same rfl hv h.2.2.2.2.2⟩
/-- what lies in the heap below: constant texts, two statics -/
def SH (G : GT) (U : State) (H : Heap) : Prop := vk_S 9 strL strB (gS G) (gV G) (gA G) U H ∧ va_Z "java/lang/String" "COMPACT_STRINGS" "Z" (.int 1) (gA G) U H ∧ va_Z "jdk/internal/util/Preconditions" "SIOOBE_FORMATTER" "Ljava/util/function/BiFunction;" (va_rf (gF G)) (gA G) U H
theorem SH_moved {G : GT} {u U : State} {H : Heap} (hv : u.vm.Alike U.vm) (h : SH G u H) : SH G U H := ⟨h.1.moved hv, h.2.1.moved hv, h.2.2.moved hv⟩
theorem SH_kept {G : GT} {U : State} {H H1 : Heap} (h : SH G U H) (hq : ∀ a : Nat, a < H.size → ¬ gA G a → H1[a]? = H[a]?) : SH G U H1 := ⟨h.1.kept hq, h.2.1.kept hq, h.2.2.kept hq⟩
def SK (G : GT) (U : State) (H : Heap) : Prop := SH G U H ∧ SW G U
/-- the world: a machine whose heap is a pure one from gB on -/
def Wd (G : GT) (h : Hp) (U : State) : Prop := va_K (gD G) vwCl (tys G) U ∧ Pic G h U.heap ∧ SK G U U.heap
abbrev XT : Type := Program × Launch × Env × Room × State × MethodId × Array Value × List Frame × Method × Code × (State → Prop) × GT × Nat × Hp
/-- from any heap that is this pure one, and any locals and stack that are these, the machine comes to its end -/
def V (X : XT) (cs sl : Nat) (h : Hp) (pc : Nat) (lv : List (Nat × PV)) (st : List PV) : Prop := match X with
  | (p, l, e, R, s, m, args, below, meth, c, Q, G, nL, h0) => ∀ (H : Heap) (locs : List Loc) (ls : Array Slot), ext h0 h → Pic G h H → va_S (gA G) s.heap H locs → lv_has ls nL (lv.map (fun q => (q.1, cv G q.2))) → (∀ q ∈ lv, tyo h q.2) → (∀ q ∈ st, tyo h q) → W p l e R s m args below meth c H locs cs sl Q (F0 m pc ls (st.map (cv G)))
/-- what a walk of a method knows of its machine -/
def CX (X : XT) (cc : ByteArray) (own : String) (nL' : Nat) (ret : Option FieldType) (rm : Room) : Prop := match X with
  | (p, l, e, R, s, m, args, below, meth, c, Q, G, nL, h0) => p.tables.exec = Jvm.exec ∧ c.code = cc ∧ c.maxLocals = nL ∧ s.vm.findClass own = some m.cls ∧ (∀ w ∈ TT, w.before args s = true) ∧ va_K (gD G) vwCl (tys G) s ∧ nL = nL' ∧ R = rm ∧ meth.sig.returnType = ret ∧ meth.locks = false ∧ gB G ≤ s.heap.size ∧ SK G s s.heap
