/-! ===== the tape: feed and end ===== -/
theorem by_by (x : Int32) : x.toInt8.toInt32.toInt8.toInt32 = x.toInt8.toInt32 := by simp
/-- a byte comes behind n in the row r, whose length stands at place 1 of the cell c -/
def wr (h : Hp) (r c n : Nat) (x : Int32) : Hp := pR (pR h r (upd (hI h r) n x)) c (upd (hI h c) 1 (nI (n + 1)))
def wrs (h : Hp) (r c : Nat) : Nat → List Int32 → Hp
  | _, [] => h
  | n, x :: l => wrs (wr h r c n x) r c (n + 1) l
def putL (f : Nat → Int32) (n : Nat) (l : List Int32) : Nat → Int32 := fun i => if n ≤ i ∧ i < n + l.length then l.getD (i - n) 0 else f i
theorem putL_nil (f : Nat → Int32) (n : Nat) : putL f n [] = f := funext fun i => if_neg (fun z => by simp at z; omega)
theorem putL_cons (f : Nat → Int32) (n : Nat) (x : Int32) (l : List Int32) : putL (upd f n x) (n + 1) l = putL f n (x :: l) := by
  funext i
  unfold putL
  by_cases h1 : n + 1 ≤ i ∧ i < n + 1 + l.length
  · rw [if_pos h1, if_pos ⟨by omega, by simp; omega⟩, show i - n = (i - (n + 1)) + 1 by omega]
    rfl
  · rw [if_neg h1]
    by_cases h2 : i = n
    · subst h2
      rw [upd_s, if_pos ⟨Nat.le_refl _, by simp⟩, Nat.sub_self]
      rfl
    · rw [upd_o _ _ h2, if_neg (fun z => h1 ⟨by omega, by have := z.2; simp at this; omega⟩)]
theorem wrs_eq {r c : Nat} (hrc : r ≠ c) : ∀ (l : List Int32) (h : Hp) (n : Nat), hI h c 1 = nI n → wrs h r c n l = pR (pR h r (putL (hI h r) n l)) c (upd (hI h c) 1 (nI (n + l.length)))
  | [], h, n, hn => by
    rw [putL_nil, pR_self]
    show h = _
    rw [show upd (hI h c) 1 (nI (n + ([] : List Int32).length)) = hI h c from funext fun j => by
      by_cases hj : j = 1
      · subst hj; rw [upd_s]; exact hn.symm
      · rw [upd_o _ _ hj], pR_self]
  | x :: l, h, n, hn => by
    show wrs (wr h r c n x) r c (n + 1) l = _
    have e1 : hI (wr h r c n x) c 1 = nI (n + 1) := by unfold wr; rw [hI_pR_s, upd_s]
    rw [wrs_eq hrc l _ _ e1]
    have e2 : hI (wr h r c n x) r = upd (hI h r) n x := by unfold wr; rw [hI_pR_o _ _ _ hrc, hI_pR_s]
    have e3 : hI (wr h r c n x) c = upd (hI h c) 1 (nI (n + 1)) := by unfold wr; rw [hI_pR_s]
    rw [e2, e3, putL_cons]
    unfold wr
    rw [pR_comm _ _ _ hrc.symm, pR_pR, pR_pR]
    congr 1
    funext j
    by_cases hj : j = 1
    · subst hj
      rw [upd_s, upd_s]
      congr 1
      simp
      omega
    · rw [upd_o _ _ hj, upd_o _ _ hj, upd_o _ _ hj]
def bb (a v : Int32) : Int32 := (a >>> (v &&& 31)).toInt8.toInt32
def b4 (a : Int32) : List Int32 := [bb a 24, bb a 16, bb a 8, bb a 0]
theorem lt400 {n : Nat} (h : n < 400) : ¬ (400 : Int32) ≤ nI n := by
  have := nI_ge h (by decide : 400 < 2 ^ 31)
  exact this
theorem ap_1 {h : Hp} (H : SHP h) {N k n : Nat} {a v : Int32} (hn : hI h 1 1 = nI n) (hlt : n < 400) (hv : ¬ v < 0) : f_X6_append_3 N (k + 1) h 1 a v = f_X6_append_3 N k (wr h 2 1 n (bb a v)) 1 a (v + (-8)) := by
  rw [f_X6_append_3, if_neg hv, hn, if_neg (lt400 hlt), pp_1_0 H, bs, lts, ll_2 H, if_inI hlt (by omega), lts, lts, nI_clamp (by omega), by_by, sI_pR, sI_pR]
  have e1 : hI (pR h 2 (upd (hI h 2) n (a >>> (v &&& 31)).toInt8.toInt32)) 1 = hI h 1 := hI_pR_o _ _ _ (by decide)
  rw [e1, hn, nI_1]
  rfl
theorem fo_1 {h : Hp} (H : SHP h) {N k n : Nat} {a v : Int32} (hn : hI h 51 1 = nI n) (hlt : n < 400) (hv : ¬ v < 0) : f_X8_four_3 N (k + 1) h 51 a v = f_X8_four_3 N k (wr h 52 51 n (bb a v)) 51 a (v + (-8)) := by
  rw [f_X8_four_3, if_neg hv, hn, pp_51_0 H, bs, lts, ll_52 H, if_inI hlt (by omega), lts, lts, nI_clamp (by omega), by_by, sI_pR, sI_pR]
  have e1 : hI (pR h 52 (upd (hI h 52) n (a >>> (v &&& 31)).toInt8.toInt32)) 51 = hI h 51 := hI_pR_o _ _ _ (by decide)
  rw [e1, hn, nI_1]
  rfl
theorem wr_len (h : Hp) (r c n : Nat) (x : Int32) : hI (wr h r c n x) c 1 = nI (n + 1) := by unfold wr; rw [hI_pR_s, upd_s]
theorem wrs_len : ∀ (l : List Int32) (h : Hp) (r c n : Nat), hI h c 1 = nI n → hI (wrs h r c n l) c 1 = nI (n + l.length)
  | [], _, _, _, _, hn => hn
  | x :: l, h, r, c, n, _ => by
    show hI (wrs (wr h r c n x) r c (n + 1) l) c 1 = _
    rw [wrs_len l _ r c (n + 1) (wr_len h r c n x)]
    congr 1
    simp
    omega
theorem wrs_SHP : ∀ (l : List Int32) {h : Hp} (r c n : Nat), SHP h → SHP (wrs h r c n l)
  | [], _, _, _, _, H => H
  | _ :: l, _, r, c, n, H => wrs_SHP l r c (n + 1) H
theorem wrs_app (r c : Nat) : ∀ (l m : List Int32) (h : Hp) (n : Nat), wrs h r c n (l ++ m) = wrs (wrs h r c n l) r c (n + l.length) m
  | [], _, _, _ => rfl
  | x :: l, m, h, n => by
    show wrs (wr h r c n x) r c (n + 1) (l ++ m) = wrs (wrs (wr h r c n x) r c (n + 1) l) r c (n + (l.length + 1)) m
    rw [wrs_app r c l m, show n + (l.length + 1) = n + 1 + l.length by omega]
theorem ap_4 {h : Hp} (H : SHP h) {N n : Nat} {a : Int32} (hN : 5 ≤ N) (hn : hI h 1 1 = nI n) (hlt : n + 4 ≤ 400) : f_X6_append N h 1 a = some (wrs h 2 1 n (b4 a)) := by
  obtain ⟨k, rfl⟩ : ∃ k, N = k + 5 := ⟨N - 5, by omega⟩
  show f_X6_append_3 (k + 5) (k + 4 + 1) h 1 a 24 = _
  rw [ap_1 H hn (by omega) (by decide), show (24 : Int32) + (-8) = 16 by decide]
  rw [ap_1 (k := k + 3) (h := wr h 2 1 n (bb a 24)) H (wr_len ..) (by omega) (by decide), show (16 : Int32) + (-8) = 8 by decide]
  rw [ap_1 (k := k + 2) (h := wr (wr h 2 1 n (bb a 24)) 2 1 (n + 1) (bb a 16)) H (wr_len ..) (by omega) (by decide), show (8 : Int32) + (-8) = 0 by decide]
  rw [ap_1 (k := k + 1) (h := wr (wr (wr h 2 1 n (bb a 24)) 2 1 (n + 1) (bb a 16)) 2 1 (n + 1 + 1) (bb a 8)) H (wr_len ..) (by omega) (by decide), show (0 : Int32) + (-8) = -8 by decide]
  rw [f_X6_append_3, if_pos (by decide)]
  rfl
theorem fo_4 {h : Hp} (H : SHP h) {N n : Nat} {a : Int32} (hN : 5 ≤ N) (hn : hI h 51 1 = nI n) (hlt : n + 4 ≤ 400) : f_X8_four N h 51 a = some (wrs h 52 51 n (b4 a)) := by
  obtain ⟨k, rfl⟩ : ∃ k, N = k + 5 := ⟨N - 5, by omega⟩
  show f_X8_four_3 (k + 5) (k + 4 + 1) h 51 a 24 = _
  rw [fo_1 H hn (by omega) (by decide), show (24 : Int32) + (-8) = 16 by decide]
  rw [fo_1 (k := k + 3) (h := wr h 52 51 n (bb a 24)) H (wr_len ..) (by omega) (by decide), show (16 : Int32) + (-8) = 8 by decide]
  rw [fo_1 (k := k + 2) (h := wr (wr h 52 51 n (bb a 24)) 52 51 (n + 1) (bb a 16)) H (wr_len ..) (by omega) (by decide), show (8 : Int32) + (-8) = 0 by decide]
  rw [fo_1 (k := k + 1) (h := wr (wr (wr h 52 51 n (bb a 24)) 52 51 (n + 1) (bb a 16)) 52 51 (n + 1 + 1) (bb a 8)) H (wr_len ..) (by omega) (by decide), show (0 : Int32) + (-8) = -8 by decide]
  rw [f_X8_four_3, if_pos (by decide)]
  rfl
def b20 (a b c d e : Int32) : List Int32 := b4 a ++ (b4 b ++ (b4 c ++ (b4 d ++ b4 e)))
theorem feed_c {h : Hp} (H : SHP h) {N n : Nat} {a b c d e : Int32} (hN : 5 ≤ N) (hn : hI h 1 1 = nI n) (hlt : n ≤ 400) : f_X7_feed N h 0 a b c d e = if n ≤ 380 then some (nI (n + 20), wrs h 2 1 n (b20 a b c d e)) else some (-1, h) := by
  unfold f_X7_feed
  rw [pp_0_0 H, bs, hn, show (380 : Int32) = nI 380 from rfl]
  by_cases h1 : n ≤ 380
  · rw [if_pos h1, if_pos (show nI n ≤ nI 380 from nI_le h1 (by decide)), bs, ap_4 H hN hn (by omega), bs]
    have l4 : ∀ a, (b4 a).length = 4 := fun _ => rfl
    have H1 := wrs_SHP (b4 a) 2 1 n H
    have n1 := wrs_len (b4 a) h 2 1 n hn
    rw [pp_0_0 H1, bs, ap_4 H1 hN n1 (by rw [l4]; omega), bs]
    have H2 := wrs_SHP (b4 b) 2 1 (n + (b4 a).length) H1
    have n2 := wrs_len (b4 b) _ 2 1 _ n1
    rw [pp_0_0 H2, bs, ap_4 H2 hN n2 (by simp only [l4]; omega), bs]
    have H3 := wrs_SHP (b4 c) 2 1 (n + (b4 a).length + (b4 b).length) H2
    have n3 := wrs_len (b4 c) _ 2 1 _ n2
    rw [pp_0_0 H3, bs, ap_4 H3 hN n3 (by simp only [l4]; omega), bs]
    have H4 := wrs_SHP (b4 d) 2 1 (n + (b4 a).length + (b4 b).length + (b4 c).length) H3
    have n4 := wrs_len (b4 d) _ 2 1 _ n3
    rw [pp_0_0 H4, bs, ap_4 H4 hN n4 (by simp only [l4]; omega), bs]
    have H5 := wrs_SHP (b4 e) 2 1 (n + (b4 a).length + (b4 b).length + (b4 c).length + (b4 d).length) H4
    have n5 := wrs_len (b4 e) _ 2 1 _ n4
    rw [pp_0_0 H5, bs, n5]
    unfold b20
    rw [wrs_app, wrs_app, wrs_app, wrs_app]
    rfl
  · rw [if_neg h1, if_neg (show ¬ nI n ≤ nI 380 from fun z => h1 ((nI_leI (by omega) (by decide)).mp z))]
theorem feed_m {h : Hp} (H : SHP h) {N n : Nat} {a b c d e : Int32} (hN : 5 ≤ N) (hn : hI h 51 1 = nI n) (hlt : n ≤ 400) : f_X8_feed N h 51 a b c d e = if n ≤ 380 then some (nI (n + 20), wrs h 52 51 n (b20 a b c d e)) else some (-1, h) := by
  unfold f_X8_feed
  rw [hn, show (20 : Int32) = nI 20 from rfl, nI_add, show (400 : Int32) = nI 400 from rfl]
  by_cases h1 : n ≤ 380
  · rw [if_pos h1, if_pos (nI_le (by omega) (by decide)), fo_4 H hN hn (by omega), bs]
    have l4 : ∀ a, (b4 a).length = 4 := fun _ => rfl
    have H1 := wrs_SHP (b4 a) 52 51 n H
    have n1 := wrs_len (b4 a) h 52 51 n hn
    rw [fo_4 H1 hN n1 (by rw [l4]; omega), bs]
    have H2 := wrs_SHP (b4 b) 52 51 (n + (b4 a).length) H1
    have n2 := wrs_len (b4 b) _ 52 51 _ n1
    rw [fo_4 H2 hN n2 (by simp only [l4]; omega), bs]
    have H3 := wrs_SHP (b4 c) 52 51 (n + (b4 a).length + (b4 b).length) H2
    have n3 := wrs_len (b4 c) _ 52 51 _ n2
    rw [fo_4 H3 hN n3 (by simp only [l4]; omega), bs]
    have H4 := wrs_SHP (b4 d) 52 51 (n + (b4 a).length + (b4 b).length + (b4 c).length) H3
    have n4 := wrs_len (b4 d) _ 52 51 _ n3
    rw [fo_4 H4 hN n4 (by simp only [l4]; omega), bs]
    have H5 := wrs_SHP (b4 e) 52 51 (n + (b4 a).length + (b4 b).length + (b4 c).length + (b4 d).length) H4
    have n5 := wrs_len (b4 e) _ 52 51 _ n4
    rw [n5]
    unfold b20
    rw [wrs_app, wrs_app, wrs_app, wrs_app]
    rfl
  · rw [if_neg h1, if_neg (fun z => h1 (by have := (nI_leI (by omega) (by decide)).mp z; omega))]
/-- both tapes hold the same bytes -/
def TAPE (h : Hp) : Prop := ∃ n, n ≤ 400 ∧ hI h 1 1 = nI n ∧ hI h 51 1 = nI n ∧ (∀ i, i < n → hI h 2 i = hI h 52 i) ∧ ∀ i, i < n → (hI h 2 i).toInt8.toInt32 = hI h 2 i
