/-! ===== texts: the class's stair, clause for clause ===== -/
abbrev ZS : Type := SA × Bool × Bool × XT0
def zLev (t : TY) (n : Nat) (α : SA) (lg bk : Bool) (x : XT0) : ZS := (lvX α (xV t n 0 999 (xA t n x)) (xV t n 1 8 (xN t n 0 999 (xA t n x))), lg, bk, xN t n 1 8 (xN t n 0 999 (xA t n x)))
def zLag (t : TY) (n : Nat) (α : SA) (bk : Bool) (x : XT0) : ZS := (c1 α 0 2 (xV t n 0 20 (xA t n x)), true, bk, xN t n 0 20 (xA t n x))
def zBrk (t : TY) (n : Nat) (α : SA) (lg : Bool) (x : XT0) : ZS := (c1 α 3 (xV t n 0 (nI (lvl α - 2)) (xA t n x)).toNatClampNeg 0, lg, true, xN t n 0 (nI (lvl α - 2)) (xA t n x))
def zBar2 (t : TY) (n : Nat) (α : SA) (lg bk : Bool) (x1 : XT0) (v1 : Int32) : ZS := (bgY α v1 (xV t n 0 1 x1) (xV t n 0 1 (xN t n 0 1 x1)) (xV t n 0 999 (xN t n 0 1 (xN t n 0 1 x1))), lg, bk, xN t n 0 999 (xN t n 0 1 (xN t n 0 1 x1)))
def zBar (t : TY) (n : Nat) (α : SA) (lg bk : Bool) (x : XT0) : ZS := zBar2 t n α lg bk (xN t n 1 99 (xA t n x)) (xV t n 1 99 (xA t n x))
def zCl (t : TY) (n : Nat) (m : Bool) (α : SA) (lg bk : Bool) (x : XT0) : ZS :=
  if xW t n 0 x = true then (if m = true ∧ bgs α = 0 ∧ bk = false ∧ lvl α < 8 then zLev t n α lg bk x else (α, lg, bk, xF 4 x))
  else if xW t n 1 x = true then (if m = true ∧ lg = false then zLag t n α bk x else (α, lg, bk, xF 4 x))
  else if xW t n 2 x = true then (if m = true ∧ 2 ≤ lvl α ∧ bgs α < 6 then zBar t n α lg bk x else (α, lg, bk, xF 4 x))
  else if xW t n 3 x = true then (if m = true ∧ 2 ≤ lvl α then zBrk t n α lg x else (α, lg, bk, xF 4 x))
  else (α, lg, bk, xF 0 x)
def DZ (t : TY) (n : Nat) (h : Hp) (z : ZS) : Prop := DC t n h z.1 z.2.1 z.2.2.1 z.2.2.2
theorem d_fail {n k : Nat} {t : TY} {h : Hp} {α : SA} {lg bk : Bool} {x : XT0} (hk : k ≤ 4) (D : DC t n h α lg bk x) : ∃ h', f_X6_fail h 1 (nI k) = some h' ∧ DC t n h' α lg bk (xF k x) ∧ Fr PSC h h' := by
  obtain ⟨A, Dm0, d2, d3, T⟩ := D
  obtain ⟨h', i1, i2, i3⟩ := g_fail hk T
  exact ⟨h', i1, ⟨Fr_Ac i3 (fun a j h1 h2 z => by unfold PT at z; omega) A, Dm0, by rw [i3.2.2.2 29 2 (fun z => by unfold PT at z; omega)]; exact d2, by rw [i3.2.2.2 29 3 (fun z => by unfold PT at z; omega)]; exact d3, i2⟩, PT_SC i3⟩
theorem d_adv {N n : Nat} {t : TY} {h : Hp} {α : SA} {lg bk : Bool} {x : XT0} (hN : 5000 ≤ N) (D : DC t n h α lg bk x) : ∃ h', f_X6_advance N h 1 = some h' ∧ DC t n h' α lg bk (xA t n x) ∧ Fr PSC h h' := by
  obtain ⟨A, Dm0, d2, d3, T⟩ := D
  obtain ⟨h', i1, i2, i3⟩ := g_adv hN T
  exact ⟨h', i1, ⟨Fr_Ac i3 (fun a j h1 h2 z => by unfold PT at z; omega) A, Dm0, by rw [i3.2.2.2 29 2 (fun z => by unfold PT at z; omega)]; exact d2, by rw [i3.2.2.2 29 3 (fun z => by unfold PT at z; omega)]; exact d3, i2⟩, PT_SC i3⟩
theorem c_cl {N n : Nat} {t : TY} {h : Hp} {α : SA} {lg bk : Bool} {x : XT0} (m : Bool) (hN : 5000 ≤ N) (D : DC t n h α lg bk x) : ∃ h', f_X4_readClause N h 29 (b2i m) = some h' ∧ DZ t n h' (zCl t n m α lg bk x) ∧ Fr PSC h h' := by
  have D' := D
  obtain ⟨A, Dm0, d2, d3, T⟩ := D
  have H := TX_S T
  have hl8 := Dm0.2.2.2.1
  have hb6 := Dm0.2.2.2.2.1
  have z0 : hI h 15 0 = nI (lvl α) := by rw [ac_0 A (by decide)]; exact Dm0.1
  have z1 : hI h 15 1 = nI (bgs α) := by rw [ac_0 A (by decide)]; exact Dm0.2.1
  obtain ⟨hf, f1, f2, f3⟩ := d_fail (k := 4) (by decide) D'
  have f1' : f_X6_fail h 1 4 = some hf := f1
  obtain ⟨hg, g1, g2, g3⟩ := d_fail (k := 0) (by decide) D'
  have g1' : f_X6_fail h 1 0 = some hg := g1
  have e16 : f_X4_readClause N h 29 (b2i m) = f_X4_readClause_16 N h 29 (b2i m) (b2i (decide (2 ≤ lvl α))) := by
    unfold f_X4_readClause
    rw [pp_29_1 H, bs, z0]
    by_cases c : lvl α < 2
    · rw [if_pos (show nI (lvl α) < 2 from nI_lt (b := 2) c (by decide)), decide_eq_false (by omega)]; rfl
    · rw [if_neg (show ¬ nI (lvl α) < 2 from nI_nlt (b := 2) (by omega) (by omega)), decide_eq_true (by omega)]; rfl
  have n78 : f_X4_readClause_77 N h 29 = some hf := by
    unfold f_X4_readClause_77 f_X4_readClause_78 f_X4_readLevel
    rw [if_pos rfl, pp_29_0 H, bs, f1', bs, bs]
  have n112 : f_X4_readClause_112 N h 29 = some hf := by
    unfold f_X4_readClause_112 f_X4_readClause_113 f_X4_readLag
    rw [if_pos rfl, pp_29_0 H, bs, f1', bs, bs]
  have n156 : f_X4_readClause_156 N h 29 = some hf := by
    unfold f_X4_readClause_156 f_X4_readClause_157 f_X4_readBarge
    rw [if_pos rfl, pp_29_0 H, bs, f1', bs, bs]
  have n188 : f_X4_readClause_188 N h 29 = some hf := by
    unfold f_X4_readClause_188 f_X4_readClause_189 f_X4_readBroken
    rw [if_pos rfl, pp_29_0 H, bs, f1', bs, bs]
  have no : ∃ h', some hf = some h' ∧ DZ t n h' (α, lg, bk, xF 4 x) ∧ Fr PSC h h' := ⟨hf, rfl, f2, f3⟩
  rw [e16]
  unfold f_X4_readClause_16 zCl
  rw [pp_29_0 H, bs, g_word hN (by decide) T, bs]
  by_cases w0 : xW t n 0 x = true
  · rw [if_pos w0, w0, if_neg (by decide), pp_29_1 H, bs, z1]
    have e50 : f_X4_readClause_50 N h 29 (b2i m) = some hf := by
      unfold f_X4_readClause_50 f_X4_readClause_51
      rw [n78]
      by_cases c : b2i m = 0
      · rw [if_pos c]
      · rw [if_neg c, if_pos rfl]
    by_cases cb : bgs α = 0
    · rw [if_pos (show nI (bgs α) = 0 by rw [cb]; rfl), d3]
      by_cases ck : bk = false
      · rw [if_pos (b2i_0.mpr ck)]
        unfold f_X4_readClause_51
        by_cases cm : m = true
        · rw [if_neg (show ¬ b2i m = 0 by rw [cm]; decide), if_neg (by decide), pp_29_1 H, bs, z0]
          by_cases cl : lvl α < 8
          · rw [if_neg (show ¬ (8 : Int32) ≤ nI (lvl α) from nI_ge (b := 8) (by omega) (by decide)), if_pos ⟨cm, cb, ck, cl⟩]
            obtain ⟨h', i1, i2, i3⟩ := c_lev hN D' cl
            unfold f_X4_readClause_78
            rw [i1, bs]
            exact ⟨h', rfl, i2, i3⟩
          · rw [if_pos (show (8 : Int32) ≤ nI (lvl α) from nI_le (a := 8) (by omega) (by omega)), if_neg (fun z => cl z.2.2.2), n78]
            exact no
        · rw [if_pos (b2i_0.mpr (Bool.eq_false_iff.mpr cm)), if_neg (fun z => cm z.1), n78]
          exact no
      · rw [if_neg (fun z => ck (b2i_0.mp z)), e50, if_neg (fun z => ck z.2.2.1)]
        exact no
    · rw [if_neg (show ¬ nI (bgs α) = 0 from fun z => cb ((nI_eq (b := 0) (by omega) (by decide)).mp z)), e50, if_neg (fun z => cb z.2.1)]
      exact no
  · rw [if_neg w0, Bool.eq_false_iff.mpr w0, if_pos (show b2i false = 0 by decide), bs, g_word hN (by decide) T, bs]
    by_cases w1 : xW t n 1 x = true
    · rw [if_pos w1, w1, if_neg (by decide), d2]
      by_cases cm : m = true
      · rw [if_neg (show ¬ b2i m = 0 by rw [cm]; decide)]
        by_cases cl : lg = false
        · rw [if_pos (b2i_0.mpr cl), if_pos ⟨cm, cl⟩]
          obtain ⟨h', i1, i2, i3⟩ := c_lag hN D'
          unfold f_X4_readClause_113
          rw [i1, bs]
          exact ⟨h', rfl, i2, i3⟩
        · rw [if_neg (fun z => cl (b2i_0.mp z)), if_neg (fun z => cl z.2), n112]
          exact no
      · rw [if_pos (b2i_0.mpr (Bool.eq_false_iff.mpr cm)), if_neg (fun z => cm z.1), n112]
        exact no
    · rw [if_neg w1, Bool.eq_false_iff.mpr w1, if_pos (show b2i false = 0 by decide), bs, g_word hN (by decide) T, bs]
      by_cases w2 : xW t n 2 x = true
      · rw [if_pos w2, w2, if_neg (by decide)]
        by_cases cm : m = true
        · rw [if_neg (show ¬ b2i m = 0 by rw [cm]; decide)]
          by_cases cl : 2 ≤ lvl α
          · rw [decide_eq_true cl, if_neg (by decide), pp_29_1 H, bs, z1]
            by_cases cb : bgs α < 6
            · rw [if_neg (show ¬ (6 : Int32) ≤ nI (bgs α) from nI_ge (b := 6) (by omega) (by decide)), if_pos ⟨cm, cl, cb⟩]
              obtain ⟨h', i1, i2, i3⟩ := c_bar hN D' cb rfl rfl rfl rfl rfl rfl rfl rfl
              unfold f_X4_readClause_157
              rw [i1, bs]
              exact ⟨h', rfl, i2, i3⟩
            · rw [if_pos (show (6 : Int32) ≤ nI (bgs α) from nI_le (a := 6) (by omega) (by omega)), if_neg (fun z => cb z.2.2), n156]
              exact no
          · rw [decide_eq_false cl, if_pos (show b2i false = 0 by decide), if_neg (fun z => cl z.2.1), n156]
            exact no
        · rw [if_pos (b2i_0.mpr (Bool.eq_false_iff.mpr cm)), if_neg (fun z => cm z.1), n156]
          exact no
      · rw [if_neg w2, Bool.eq_false_iff.mpr w2, if_pos (show b2i false = 0 by decide), bs, g_word hN (by decide) T, bs]
        by_cases w3 : xW t n 3 x = true
        · rw [if_pos w3, w3, if_neg (by decide)]
          by_cases cm : m = true
          · rw [if_neg (show ¬ b2i m = 0 by rw [cm]; decide)]
            by_cases cl : 2 ≤ lvl α
            · rw [decide_eq_true cl, if_neg (by decide), if_pos ⟨cm, cl⟩]
              obtain ⟨h', i1, i2, i3⟩ := c_brk hN D' cl
              unfold f_X4_readClause_189
              rw [i1, bs]
              exact ⟨h', rfl, i2, i3⟩
            · rw [decide_eq_false cl, if_pos (show b2i false = 0 by decide), if_neg (fun z => cl z.2), n188]
              exact no
          · rw [if_pos (b2i_0.mpr (Bool.eq_false_iff.mpr cm)), if_neg (fun z => cm z.1), n188]
            exact no
        · rw [if_neg w3, Bool.eq_false_iff.mpr w3, if_pos (show b2i false = 0 by decide), bs, g1', bs]
          exact ⟨hg, rfl, g2, g3⟩
/-- clause after clause -/
def zNx (t : TY) (n : Nat) (x : XT0) : XT0 := xA t n (if xK t n x = 59 then x else xF 0 x)
def zLp (t : TY) (n : Nat) : Nat → SA → Bool → Bool → XT0 → ZS
  | 0, α, lg, bk, x => (α, lg, bk, x)
  | f + 1, α, lg, bk, x => if xE x = 0 then (if xK t n (zCl t n (decide (0 < f)) α lg bk x).2.2.2 = 256 then zCl t n (decide (0 < f)) α lg bk x else zLp t n f (zCl t n (decide (0 < f)) α lg bk x).1 (zCl t n (decide (0 < f)) α lg bk x).2.1 (zCl t n (decide (0 < f)) α lg bk x).2.2.1 (zNx t n (zCl t n (decide (0 < f)) α lg bk x).2.2.2)) else (α, lg, bk, x)
theorem c_lp {N n : Nat} {t : TY} (hN : 5000 ≤ N) : ∀ (f c k : Nat) (h : Hp) (α : SA) (lg bk : Bool) (x : XT0), f + c = 33 → f < k → DC t n h α lg bk x → ∃ h', f_X4_readStair_26 N k h 29 (nI c) = f_X4_readStair_106 N h' 29 ∧ DZ t n h' (zLp t n f α lg bk x) ∧ Fr PSC h h' := by
  intro f
  induction f with
  | zero =>
    intro c k h α lg bk x hc hk D
    obtain ⟨k, rfl⟩ : ∃ j, k = j + 1 := ⟨k - 1, by omega⟩
    rw [f_X4_readStair_26, if_pos (show (32 : Int32) < nI c from nI_lt (a := 32) (by omega) (by omega))]
    exact ⟨h, rfl, D, Fr_refl h⟩
  | succ f ih =>
    intro c k h α lg bk x hc hk D
    obtain ⟨k, rfl⟩ : ∃ j, k = j + 1 := ⟨k - 1, by omega⟩
    have T := D.2.2.2.2
    have H := TX_S T
    rw [f_X4_readStair_26, if_neg (show ¬ (32 : Int32) < nI c from nI_nlt (a := 32) (by omega) (by decide)), pp_29_0 H, bs, TX_e T, zLp]
    by_cases c0 : ¬ xE x = 0
    · rw [if_neg c0, if_neg c0]
      exact ⟨h, rfl, D, Fr_refl h⟩
    · replace c0 : xE x = 0 := Decidable.not_not.mp c0
      rw [if_pos c0, if_pos c0]
      obtain ⟨h1, i1, D1, F1⟩ := c_cl (decide (0 < f)) hN D
      have e54 : ∀ s26, f_X4_readStair_54 N s26 h 29 (nI c) (b2i (decide (0 < f))) 29 = (if xK t n (zCl t n (decide (0 < f)) α lg bk x).2.2.2 = 256 then f_X4_readStair_106 N h1 29 else if xK t n (zCl t n (decide (0 < f)) α lg bk x).2.2.2 = 59 then f_X4_readStair_93 N s26 h1 29 (nI c) else Option.bind (f_X6_fail h1 1 0) (fun h15 => f_X4_readStair_93 N s26 h15 29 (nI c))) := by
        intro s26
        unfold f_X4_readStair_54
        rw [i1, bs, pp_29_0 (TX_S D1.2.2.2.2), bs, TX_k D1.2.2.2.2, bs, TX_k D1.2.2.2.2, bs]
      have e : (if (32 : Int32) ≤ nI c then f_X4_readStair_54 N (f_X4_readStair_26 N k) h 29 (nI c) 0 29 else f_X4_readStair_54 N (f_X4_readStair_26 N k) h 29 (nI c) 1 29) = f_X4_readStair_54 N (f_X4_readStair_26 N k) h 29 (nI c) (b2i (decide (0 < f))) 29 := by
        by_cases c32 : 32 ≤ c
        · rw [if_pos (show (32 : Int32) ≤ nI c from nI_le (a := 32) c32 (by omega)), decide_eq_false (by omega)]; rfl
        · rw [if_neg (show ¬ (32 : Int32) ≤ nI c from nI_ge (b := 32) (by omega) (by decide)), decide_eq_true (by omega)]; rfl
      rw [e, e54]
      generalize zCl t n (decide (0 < f)) α lg bk x = z at D1 ⊢
      by_cases k256 : xK t n z.2.2.2 = 256
      · rw [if_pos k256, if_pos k256]
        exact ⟨h1, rfl, D1, F1⟩
      · rw [if_neg k256, if_neg k256]
        have go : ∀ (h2 : Hp) (x2 : XT0), DC t n h2 z.1 z.2.1 z.2.2.1 x2 → Fr PSC h h2 → ∃ h', f_X4_readStair_93 N (f_X4_readStair_26 N k) h2 29 (nI c) = f_X4_readStair_106 N h' 29 ∧ DZ t n h' (zLp t n f z.1 z.2.1 z.2.2.1 (xA t n x2)) ∧ Fr PSC h h' := by
          intro h2 x2 D2 F2
          obtain ⟨h3, i3, D3, F3⟩ := d_adv hN D2
          unfold f_X4_readStair_93
          rw [pp_29_0 (TX_S D2.2.2.2.2), bs, i3, bs, nI_1]
          obtain ⟨h4, i4, D4, F4⟩ := ih (c + 1) k h3 _ _ _ _ (by omega) (by omega) D3
          exact ⟨h4, i4, D4, Fr_trans F2 (Fr_trans F3 F4)⟩
        unfold zNx
        by_cases k59 : xK t n z.2.2.2 = 59
        · rw [if_pos k59, if_pos k59]
          exact go h1 _ D1 F1
        · rw [if_neg k59, if_neg k59]
          obtain ⟨h2, i2, D2, F2⟩ := d_fail (k := 0) (by decide) D1
          have i2' : f_X6_fail h1 1 0 = some h2 := i2
          rw [i2', bs]
          exact go h2 _ D2 (Fr_trans F1 F2)
def zEd (z : ZS) : XT0 := if 2 ≤ lvl z.1 then z.2.2.2 else xF 0 z.2.2.2
theorem c_106 {N n : Nat} {t : TY} {h : Hp} {z : ZS} (D : DZ t n h z) : ∃ h', f_X4_readStair_106 N h 29 = some (xE (zEd z), h') ∧ DC t n h' z.1 z.2.1 z.2.2.1 (zEd z) ∧ Fr PSC h h' := by
  have D' : DC t n h z.1 z.2.1 z.2.2.1 z.2.2.2 := D
  obtain ⟨A, Dm0, d2, d3, T⟩ := D
  have H := TX_S T
  have hl8 := Dm0.2.2.2.1
  have z0 : hI h 15 0 = nI (lvl z.1) := by rw [ac_0 A (by decide)]; exact Dm0.1
  unfold f_X4_readStair_106 zEd
  rw [pp_29_1 H, bs, z0]
  by_cases c : 2 ≤ lvl z.1
  · rw [if_pos (show (2 : Int32) ≤ nI (lvl z.1) from nI_le (a := 2) c (by omega)), if_pos c, pp_29_0 H, bs, TX_e T]
    exact ⟨h, rfl, D', Fr_refl h⟩
  · rw [if_neg (show ¬ (2 : Int32) ≤ nI (lvl z.1) from nI_ge (b := 2) (by omega) (by decide)), if_neg c, pp_29_0 H, bs]
    obtain ⟨h2, i2, D2, F2⟩ := d_fail (k := 0) (by decide) D'
    have i2' : f_X6_fail h 1 0 = some h2 := i2
    rw [i2', bs, pp_29_0 (TX_S D2.2.2.2.2), bs, TX_e D2.2.2.2.2]
    exact ⟨h2, rfl, D2, F2⟩
/-- the draft, cleared -/
def clr (α : SA) : SA := fun k i => if k = 0 then (if i < 5 ∨ i = 7 then 0 else α 0 i) else if k = 3 then 1 else if k = 4 then -1 else α k i
theorem c_clear {N : Nat} {h : Hp} {α : SA} (hN : 5000 ≤ N) (A : Ac h 15 α) : ∃ h', f_X5_clear N h 15 = some h' ∧ Ac h' 15 (clr α) ∧ Fr (PS 15) h h' := by
  unfold f_X5_clear
  rw [lts, lts, lts, lts, lts, lts]
  have s0 : ∀ (g : Hp) (i : Nat) (v : Int32), Fr (PS 15) g (sI g 15 i v) := fun g i v => Fr_sI _ _ _ _ ⟨by decide, by decide⟩
  have F1 : Fr (PS 15) h (sI (sI (sI (sI (sI (sI h 15 0 0) 15 1 0) 15 2 0) 15 3 0) 15 4 0) 15 7 0) := Fr_trans (s0 _ _ _) (Fr_trans (s0 _ _ _) (Fr_trans (s0 _ _ _) (Fr_trans (s0 _ _ _) (Fr_trans (s0 _ _ _) (s0 _ _ _)))))
  have q1 : ∀ i, i < 8 → hI (sI (sI (sI (sI (sI (sI h 15 0 0) 15 1 0) 15 2 0) 15 3 0) 15 4 0) 15 7 0) 15 i = if i < 5 ∨ i = 7 then 0 else hI h 15 i := by
    intro i hi
    rw [hI_sI, hI_sI, hI_sI, hI_sI, hI_sI, hI_sI]
    obtain rfl | rfl | rfl | rfl | rfl | rfl | rfl | rfl : i = 0 ∨ i = 1 ∨ i = 2 ∨ i = 3 ∨ i = 4 ∨ i = 5 ∨ i = 6 ∨ i = 7 := by omega
    all_goals simp
  have o1 : ∀ a j, a ≠ 15 → hI (sI (sI (sI (sI (sI (sI h 15 0 0) 15 1 0) 15 2 0) 15 3 0) 15 4 0) 15 7 0) a j = hI h a j := by
    intro a j ha
    rw [hI_sI, if_neg (fun z => ha z.1), hI_sI, if_neg (fun z => ha z.1), hI_sI, if_neg (fun z => ha z.1), hI_sI, if_neg (fun z => ha z.1), hI_sI, if_neg (fun z => ha z.1), hI_sI, if_neg (fun z => ha z.1)]
  generalize sI (sI (sI (sI (sI (sI h 15 0 0) 15 1 0) 15 2 0) 15 3 0) 15 4 0) 15 7 0 = h1 at F1 q1 o1 ⊢
  have I1 : isSt h1 15 := Fr_isSt F1 A.1
  have p10 : hP h1 15 10 = some 18 := I1.1 2 (by decide)
  have l18 : hL h1 18 = 8 := I1.2.1 2 (by decide)
  obtain ⟨h2, e2, v2, F2⟩ := c_fill (N := N) (v := 1) (by decide) (by omega) l18
  have F12 : Fr (PS 15) h1 h2 := Fr_mono F2 (fun a j z => ⟨by omega, by omega⟩)
  have I2 : isSt h2 15 := Fr_isSt F12 I1
  have p11 : hP h2 15 11 = some 19 := I2.1 3 (by decide)
  have l19 : hL h2 19 = 8 := I2.2.1 3 (by decide)
  obtain ⟨h3, e3, v3, F3⟩ := c_fill (N := N) (v := -1) (by decide) (by omega) l19
  have F23 : Fr (PS 15) h2 h3 := Fr_mono F3 (fun a j z => ⟨by omega, by omega⟩)
  rw [p10, bs, e2, bs, p11, bs, e3, bs]
  refine ⟨h3, rfl, ⟨Fr_isSt F23 I2, fun k i hk hi => ?_⟩, Fr_trans F1 (Fr_trans F12 F23)⟩
  unfold clr
  by_cases k0 : k = 0
  · subst k0
    rw [if_pos rfl, F3.2.2.2 _ _ (by omega), F2.2.2.2 _ _ (by omega), Nat.add_zero, q1 i hi, ← A.2 0 i (by decide) hi]
  · rw [if_neg k0]
    by_cases k3 : k = 3
    · subst k3
      rw [if_pos rfl, F3.2.2.2 _ _ (by omega)]
      exact v2 i hi
    · rw [if_neg k3]
      by_cases k4 : k = 4
      · subst k4
        rw [if_pos rfl]
        exact v3 i hi
      · rw [if_neg k4, F3.2.2.2 _ _ (by omega), F2.2.2.2 _ _ (by omega), o1 _ _ (by omega)]
        exact A.2 k i hk hi
theorem clr_dm (α : SA) : Dm (clr α) ∧ lvl (clr α) = 0 ∧ bgs (clr α) = 0 := by
  have l : lvl (clr α) = 0 := rfl
  have b : bgs (clr α) = 0 := rfl
  have k : bks (clr α) = 0 := rfl
  refine ⟨⟨?_, ?_, ?_, by omega, by omega, by omega⟩, l, b⟩
  · rw [l]; rfl
  · rw [b]; rfl
  · rw [k]; rfl
theorem c_read {N n : Nat} {t : TY} {h : Hp} {α : SA} (hN : 5000 ≤ N) (H : SHP h) (A : Ac h 15 α) (e2 : hI h 2 = t) (e1 : hI h 1 1 = nI n) (hn : n ≤ 400) : ∃ h', f_X4_readStair N h 29 = some (xE (zEd (zLp t n 33 (clr α) false false (.inr (skp t n 0)))), h') ∧ Ac h' 15 (zLp t n 33 (clr α) false false (.inr (skp t n 0))).1 ∧ Dm (zLp t n 33 (clr α) false false (.inr (skp t n 0))).1 ∧ Fr PSC h h' := by
  unfold f_X4_readStair
  obtain ⟨h1, i1, A1, F1⟩ := c_clear hN A
  rw [pp_29_1 H, bs, i1, bs, lts, lts]
  have F2 : Fr (fun a _ => a = 29) h1 (sI (sI h1 29 2 0) 29 3 0) := Fr_trans (Fr_sI _ _ _ _ rfl) (Fr_sI _ _ _ _ rfl)
  have q2 : hI (sI (sI h1 29 2 0) 29 3 0) 29 2 = b2i false := by rw [hI_sI, if_neg (by omega), hI_sI, if_pos ⟨rfl, rfl⟩]; rfl
  have q3 : hI (sI (sI h1 29 2 0) 29 3 0) 29 3 = b2i false := by rw [hI_sI, if_pos ⟨rfl, rfl⟩]; rfl
  generalize sI (sI h1 29 2 0) 29 3 0 = h2 at F2 q2 q3 ⊢
  have H2 := Fr_SHP F2 (Fr_SHP F1 H)
  have A2 := Fr_Ac F2 (fun a j h1 h2 z => by omega) A1
  have r2 : hI h2 2 = t := by rw [Fr_row F2 (fun j z => by omega), Fr_row F1 (fun j z => by unfold PS at z; omega)]; exact e2
  have r1 : hI h2 1 1 = nI n := by rw [F2.2.2.2 1 1 (by omega), F1.2.2.2 1 1 (fun z => by unfold PS at z; omega)]; exact e1
  obtain ⟨h3, i3, T3, F3⟩ := c_begin_t (N := N) hN H2 r2 r1 hn
  rw [pp_29_0 H2, bs, i3, bs]
  have D3 : DC t n h3 (clr α) false false (.inr (skp t n 0)) := ⟨Fr_Ac F3 (fun a j h1 h2 z => by unfold PT at z; omega) A2, (clr_dm α).1, by rw [F3.2.2.2 29 2 (fun z => by unfold PT at z; omega)]; exact q2, by rw [F3.2.2.2 29 3 (fun z => by unfold PT at z; omega)]; exact q3, T3⟩
  obtain ⟨h4, i4, D4, F4⟩ := c_lp (N := N) hN 33 0 N h3 _ _ _ _ (by omega) (by omega) D3
  have i4' : f_X4_readStair_26 N N h3 29 0 = f_X4_readStair_106 N h4 29 := i4
  obtain ⟨h5, i5, D5, F5⟩ := c_106 (N := N) D4
  rw [i4', i5]
  exact ⟨h5, rfl, D5.1, D5.2.1, Fr_trans (Fr_mono F1 (fun a j z => Or.inr (Or.inl (by unfold PS at z; omega)))) (Fr_trans (Fr_mono F2 (fun a j z => Or.inr (Or.inr z))) (Fr_trans (PT_SC F3) (Fr_trans F4 F5)))⟩
