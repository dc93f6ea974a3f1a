/-! the component's minors as pure functions, and its walks to them -/
def mt_m2 (w : Nat → Int32) (a b c d : Nat) : Int32 := w (4 * a + c) * w (4 * b + d) - w (4 * a + d) * w (4 * b + c)
def mt_m3 (w : Nat → Int32) (a b c d e f : Nat) : Int32 := w (4 * a + d) * mt_m2 w b c e f - w (4 * a + e) * mt_m2 w b c d f + w (4 * a + f) * mt_m2 w b c d e
def mt_i0 (r : Nat) : Nat := if r = 0 then 1 else 0
def mt_i1 (r : Nat) : Nat := if 1 < r then 1 else 2
def mt_i2 (r : Nat) : Nat := if 2 < r then 2 else 3
def mt_u3 (w : Nat → Int32) (r c : Nat) : Int32 := mt_m3 w (mt_i0 r) (mt_i1 r) (mt_i2 r) (mt_i0 c) (mt_i1 c) (mt_i2 c)
def mt_s3 (w : Nat → Int32) (r c : Nat) : Int32 := if (r + c) % 2 = 0 then mt_u3 w r c else -mt_u3 w r c
def mt_det (w : Nat → Int32) : Int32 := 0 + w 0 * mt_s3 w 0 0 + w 1 * mt_s3 w 0 1 + w 2 * mt_s3 w 0 2 + w 3 * mt_s3 w 0 3
theorem mt_i0l (r : Nat) : mt_i0 r < 4 := by unfold mt_i0; split <;> omega
theorem mt_i1l (r : Nat) : mt_i1 r < 4 := by unfold mt_i1; split <;> omega
theorem mt_i2l (r : Nat) : mt_i2 r < 4 := by unfold mt_i2; split <;> omega
theorem mt_if0 (P : Int32 → Prop) {r : Nat} (hr : r < 4) (h : P (nI (mt_i0 r))) : (nI r = 0 → P 1) ∧ (¬ nI r = 0 → P 0) := by
  unfold mt_i0 at h
  by_cases e : r = 0
  · rw [if_pos e] at h; exact br_t (by rw [e]; rfl) h
  · rw [if_neg e] at h; exact br_f (nI_ne0 (by omega) (by omega)) h
theorem mt_if1 (P : Int32 → Prop) {r : Nat} (hr : r < 4) (h : P (nI (mt_i1 r))) : (1 < nI r → P 1) ∧ (¬ 1 < nI r → P 2) := by
  unfold mt_i1 at h
  by_cases e : 1 < r
  · rw [if_pos e] at h; exact br_t (nI_lt (a := 1) e (by omega)) h
  · rw [if_neg e] at h; exact br_f (nI_nlt (b := r) (a := 1) (by omega) (by omega)) h
theorem mt_if2 (P : Int32 → Prop) {r : Nat} (hr : r < 4) (h : P (nI (mt_i2 r))) : (2 < nI r → P 2) ∧ (¬ 2 < nI r → P 3) := by
  unfold mt_i2 at h
  by_cases e : 2 < r
  · rw [if_pos e] at h; exact br_t (nI_lt (a := 2) e (by omega)) h
  · rw [if_neg e] at h; exact br_f (nI_nlt (b := r) (a := 2) (by omega) (by omega)) h
theorem mt_par {r c : Nat} (hr : r < 4) (hc : c < 4) : (nI r + nI c) - (nI r + nI c) / 2 * 2 = nI ((r + c) % 2) := by
  rw [nI_add]
  exact pk_rem (d := 2) (by omega) (by decide) (by decide)
theorem mt_sg (P : Int32 → Prop) {r c : Nat} {m : Int32} (hr : r < 4) (hc : c < 4) (h : P (if (r + c) % 2 = 0 then m else -m)) : ((nI r + nI c) - (nI r + nI c) / 2 * 2 = 0 → P m) ∧ (¬ (nI r + nI c) - (nI r + nI c) / 2 * 2 = 0 → P (-m)) := by
  rw [mt_par hr hc]
  by_cases e : (r + c) % 2 = 0
  · rw [if_pos e] at h; exact br_t (by rw [e]; rfl) h
  · rw [if_neg e] at h; exact br_f (nI_ne0 (by omega) (by omega)) h
theorem mt_n2 : ¬ (2 : Int32) = 0 := by decide

/-! over table -/
theorem mt_table2 {post : Int32 → Prop} {t s p q : Nat → Int32} {a b c d : Nat} (ha : a < 4) (hb : b < 4) (hc : c < 4) (hd : d < 4) (h : post (mt_m2 t a b c d)) : wpX_minorOfTwo__table post (t, s, p, q) (nI a) (nI b) (nI c) (nI d) := by
  unfold wpX_minorOfTwo__table
  dsimp only
  rw [mt_ix, mt_ix, mt_ix, mt_ix, nI_clamp (n := 4 * a + c) (by omega), nI_clamp (n := 4 * b + d) (by omega), nI_clamp (n := 4 * a + d) (by omega), nI_clamp (n := 4 * b + c) (by omega)]
  exact ⟨vp_in_nI (by omega) (by decide), vp_in_nI (by omega) (by decide), vp_in_nI (by omega) (by decide), vp_in_nI (by omega) (by decide), h⟩
theorem mt_table3 {post : Int32 → Prop} {t s p q : Nat → Int32} {a b c d e f : Nat} (ha : a < 4) (hb : b < 4) (hc : c < 4) (hd : d < 4) (he : e < 4) (hf : f < 4) (h : post (mt_m3 t a b c d e f)) : wpX_minorOfThree__table post (t, s, p, q) (nI a) (nI b) (nI c) (nI d) (nI e) (nI f) := by
  unfold wpX_minorOfThree__table
  dsimp only
  refine mt_table2 hb hc he hf (mt_table2 hb hc hd hf (mt_table2 hb hc hd he ?_))
  rw [mt_ix, mt_ix, mt_ix, nI_clamp (n := 4 * a + d) (by omega), nI_clamp (n := 4 * a + e) (by omega), nI_clamp (n := 4 * a + f) (by omega)]
  exact ⟨vp_in_nI (by omega) (by decide), vp_in_nI (by omega) (by decide), vp_in_nI (by omega) (by decide), h⟩
theorem mt_tables {post : Int32 → Prop} {t s p q : Nat → Int32} {r c : Nat} (hr : r < 4) (hc : c < 4) (h : post (mt_s3 t r c)) : wpX_signedMinor__table post (t, s, p, q) (nI r) (nI c) := by
  refine mt_if0 (fun z => wX_signedMinor__table_9 post (nI r) (nI c) z t s p q) hr ?_
  refine mt_if1 (fun z => wX_signedMinor__table_20 post (nI r) (nI c) (nI (mt_i0 r)) z t s p q) hr ?_
  refine mt_if2 (fun z => wX_signedMinor__table_32 post (nI r) (nI c) (nI (mt_i0 r)) (nI (mt_i1 r)) z t s p q) hr ?_
  refine mt_if0 (fun z => wX_signedMinor__table_43 post (nI r) (nI c) (nI (mt_i0 r)) (nI (mt_i1 r)) (nI (mt_i2 r)) z t s p q) hc ?_
  refine mt_if1 (fun z => wX_signedMinor__table_55 post (nI r) (nI c) (nI (mt_i0 r)) (nI (mt_i1 r)) (nI (mt_i2 r)) (nI (mt_i0 c)) z t s p q) hc ?_
  refine mt_if2 (fun z => wX_signedMinor__table_67 post (nI r) (nI c) (nI (mt_i0 r)) (nI (mt_i1 r)) (nI (mt_i2 r)) (nI (mt_i0 c)) (nI (mt_i1 c)) z t s p q) hc ?_
  unfold wX_signedMinor__table_67
  exact mt_table3 (mt_i0l r) (mt_i1l r) (mt_i2l r) (mt_i0l c) (mt_i1l c) (mt_i2l c) ⟨mt_n2, mt_sg post hr hc h⟩
theorem mt_tabled1 {post : Int32 → Prop} {t s p q : Nat → Int32} {n : Nat} {x : Int32} (j : Nat) (hj : j < 4) (h : wX_fullDeterminant__table_4 post t s p q n (x + t j * mt_s3 t 0 j) (nI (j + 1))) : wX_fullDeterminant__table_4 post t s p q (n + 1) x (nI j) :=
  br_f (mt_4lt hj) ⟨vp_in_nI (by omega) (by decide), mt_tables (r := 0) (by decide) hj (nm_r (by rw [nI_clamp (n := j) (by omega)]) (nm_r (nI_1 j) h))⟩
theorem mt_tabled {post : Int32 → Prop} {t s p q : Nat → Int32} (h : post (mt_det t)) : wpX_fullDeterminant__table post (t, s, p, q) := by
  unfold wpX_fullDeterminant__table
  dsimp only
  refine ⟨5, mt_tabled1 0 (by decide) (mt_tabled1 1 (by decide) (mt_tabled1 2 (by decide) (mt_tabled1 3 (by decide) ?_)))⟩
  exact br_t mt_4ge h

/-! over shifted -/
theorem mt_shifted2 {post : Int32 → Prop} {t s p q : Nat → Int32} {a b c d : Nat} (ha : a < 4) (hb : b < 4) (hc : c < 4) (hd : d < 4) (h : post (mt_m2 s a b c d)) : wpX_minorOfTwo__shifted post (t, s, p, q) (nI a) (nI b) (nI c) (nI d) := by
  unfold wpX_minorOfTwo__shifted
  dsimp only
  rw [mt_ix, mt_ix, mt_ix, mt_ix, nI_clamp (n := 4 * a + c) (by omega), nI_clamp (n := 4 * b + d) (by omega), nI_clamp (n := 4 * a + d) (by omega), nI_clamp (n := 4 * b + c) (by omega)]
  exact ⟨vp_in_nI (by omega) (by decide), vp_in_nI (by omega) (by decide), vp_in_nI (by omega) (by decide), vp_in_nI (by omega) (by decide), h⟩
theorem mt_shifted3 {post : Int32 → Prop} {t s p q : Nat → Int32} {a b c d e f : Nat} (ha : a < 4) (hb : b < 4) (hc : c < 4) (hd : d < 4) (he : e < 4) (hf : f < 4) (h : post (mt_m3 s a b c d e f)) : wpX_minorOfThree__shifted post (t, s, p, q) (nI a) (nI b) (nI c) (nI d) (nI e) (nI f) := by
  unfold wpX_minorOfThree__shifted
  dsimp only
  refine mt_shifted2 hb hc he hf (mt_shifted2 hb hc hd hf (mt_shifted2 hb hc hd he ?_))
  rw [mt_ix, mt_ix, mt_ix, nI_clamp (n := 4 * a + d) (by omega), nI_clamp (n := 4 * a + e) (by omega), nI_clamp (n := 4 * a + f) (by omega)]
  exact ⟨vp_in_nI (by omega) (by decide), vp_in_nI (by omega) (by decide), vp_in_nI (by omega) (by decide), h⟩
theorem mt_shifteds {post : Int32 → Prop} {t s p q : Nat → Int32} {r c : Nat} (hr : r < 4) (hc : c < 4) (h : post (mt_s3 s r c)) : wpX_signedMinor__shifted post (t, s, p, q) (nI r) (nI c) := by
  refine mt_if0 (fun z => wX_signedMinor__shifted_9 post (nI r) (nI c) z t s p q) hr ?_
  refine mt_if1 (fun z => wX_signedMinor__shifted_20 post (nI r) (nI c) (nI (mt_i0 r)) z t s p q) hr ?_
  refine mt_if2 (fun z => wX_signedMinor__shifted_32 post (nI r) (nI c) (nI (mt_i0 r)) (nI (mt_i1 r)) z t s p q) hr ?_
  refine mt_if0 (fun z => wX_signedMinor__shifted_43 post (nI r) (nI c) (nI (mt_i0 r)) (nI (mt_i1 r)) (nI (mt_i2 r)) z t s p q) hc ?_
  refine mt_if1 (fun z => wX_signedMinor__shifted_55 post (nI r) (nI c) (nI (mt_i0 r)) (nI (mt_i1 r)) (nI (mt_i2 r)) (nI (mt_i0 c)) z t s p q) hc ?_
  refine mt_if2 (fun z => wX_signedMinor__shifted_67 post (nI r) (nI c) (nI (mt_i0 r)) (nI (mt_i1 r)) (nI (mt_i2 r)) (nI (mt_i0 c)) (nI (mt_i1 c)) z t s p q) hc ?_
  unfold wX_signedMinor__shifted_67
  exact mt_shifted3 (mt_i0l r) (mt_i1l r) (mt_i2l r) (mt_i0l c) (mt_i1l c) (mt_i2l c) ⟨mt_n2, mt_sg post hr hc h⟩
theorem mt_shiftedd1 {post : Int32 → Prop} {t s p q : Nat → Int32} {n : Nat} {x : Int32} (j : Nat) (hj : j < 4) (h : wX_fullDeterminant__shifted_4 post t s p q n (x + s j * mt_s3 s 0 j) (nI (j + 1))) : wX_fullDeterminant__shifted_4 post t s p q (n + 1) x (nI j) :=
  br_f (mt_4lt hj) ⟨vp_in_nI (by omega) (by decide), mt_shifteds (r := 0) (by decide) hj (nm_r (by rw [nI_clamp (n := j) (by omega)]) (nm_r (nI_1 j) h))⟩
theorem mt_shiftedd {post : Int32 → Prop} {t s p q : Nat → Int32} (h : post (mt_det s)) : wpX_fullDeterminant__shifted post (t, s, p, q) := by
  unfold wpX_fullDeterminant__shifted
  dsimp only
  refine ⟨5, mt_shiftedd1 0 (by decide) (mt_shiftedd1 1 (by decide) (mt_shiftedd1 2 (by decide) (mt_shiftedd1 3 (by decide) ?_)))⟩
  exact br_t mt_4ge h

/-! the sums over the table -/
def mt_e3 (w : Nat → Int32) : Int32 := 0 + mt_s3 w 0 0 + mt_s3 w 1 1 + mt_s3 w 2 2 + mt_s3 w 3 3
def mt_e2 (w : Nat → Int32) : Int32 := 0 + mt_m2 w 0 1 0 1 + mt_m2 w 0 2 0 2 + mt_m2 w 0 3 0 3 + mt_m2 w 1 2 1 2 + mt_m2 w 1 3 1 3 + mt_m2 w 2 3 2 3
def mt_e1 (w : Nat → Int32) : Int32 := 0 + w 0 + w 5 + w 10 + w 15
theorem mt_e3X1 {post : Int32 → Prop} {t s p q : Nat → Int32} {n : Nat} {x : Int32} (j : Nat) (hj : j < 4) (h : wX_sumOfDiagonalThrees_4 post t s p q n (x + mt_s3 t j j) (nI (j + 1))) : wX_sumOfDiagonalThrees_4 post t s p q (n + 1) x (nI j) :=
  br_f (mt_4lt hj) (mt_tables hj hj (nm_e (nm_r (nI_1 j) h)))
theorem mt_e3X {post : Int32 → Prop} {t s p q : Nat → Int32} (h : post (mt_e3 t)) : wpX_sumOfDiagonalThrees post (t, s, p, q) := by
  unfold wpX_sumOfDiagonalThrees
  dsimp only
  refine ⟨5, mt_e3X1 0 (by decide) (mt_e3X1 1 (by decide) (mt_e3X1 2 (by decide) (mt_e3X1 3 (by decide) ?_)))⟩
  exact br_t mt_4ge h
theorem mt_e2X1 {post : Int32 → Prop} {J : Int32 → Int32 → Prop} {t s p q : Nat → Int32} {n : Nat} {x : Int32} (i j : Nat) (hi : i < 4) (hj : j < 4) (h : wX_sumOfDiagonalTwos_13 post J (nI i) t s p q n (x + mt_m2 t i j i j) (nI (j + 1))) : wX_sumOfDiagonalTwos_13 post J (nI i) t s p q (n + 1) x (nI j) :=
  br_f (mt_4lt hj) (mt_table2 hi hj hi hj (nm_e (nm_r (nI_1 j) h)))
theorem mt_e2X2 {post : Int32 → Prop} {J : Int32 → Int32 → Prop} {t s p q : Nat → Int32} {n : Nat} {x : Int32} (i : Nat) (h : J x (nI (i + 1))) : wX_sumOfDiagonalTwos_13 post J (nI i) t s p q (n + 1) x (nI 4) :=
  br_t mt_4ge (nm_r (nI_1 i) h)
theorem mt_e2X3 {post : Int32 → Prop} {t s p q : Nat → Int32} {n : Nat} {x : Int32} (i : Nat) (hi : i < 4) (h : wX_sumOfDiagonalTwos_13 post (wX_sumOfDiagonalTwos_4 post t s p q n) (nI i) t s p q 5 x (nI (i + 1))) : wX_sumOfDiagonalTwos_4 post t s p q (n + 1) x (nI i) :=
  br_f (mt_4lt hi) (nm_r (nI_1 i) ⟨5, h⟩)
theorem mt_e2X {post : Int32 → Prop} {t s p q : Nat → Int32} (h : post (mt_e2 t)) : wpX_sumOfDiagonalTwos post (t, s, p, q) := by
  unfold wpX_sumOfDiagonalTwos
  dsimp only
  refine ⟨5, mt_e2X3 0 (by decide) (mt_e2X1 0 1 (by decide) (by decide) (mt_e2X1 0 2 (by decide) (by decide) (mt_e2X1 0 3 (by decide) (by decide) (mt_e2X2 0 ?_))))⟩
  refine mt_e2X3 1 (by decide) (mt_e2X1 1 2 (by decide) (by decide) (mt_e2X1 1 3 (by decide) (by decide) (mt_e2X2 1 ?_)))
  refine mt_e2X3 2 (by decide) (mt_e2X1 2 3 (by decide) (by decide) (mt_e2X2 2 ?_))
  refine mt_e2X3 3 (by decide) (mt_e2X2 3 ?_)
  exact br_t mt_4ge h

theorem mt_tablet1 {post : Int32 → Prop} {t s p q : Nat → Int32} {n : Nat} {x : Int32} (j : Nat) (hj : j < 4) (h : wX_diagonalSum__table_4 post t s p q n (x + t (5 * j)) (nI (j + 1))) : wX_diagonalSum__table_4 post t s p q (n + 1) x (nI j) := by
  have e : (4 : Int32) * nI j + nI j = nI (5 * j) := by rw [mt_ix]; exact congrArg nI (by omega)
  refine br_f (mt_4lt hj) ?_
  rw [e, nI_clamp (n := 5 * j) (by omega)]
  exact ⟨vp_in_nI (by omega) (by decide), nm_e (nm_r (nI_1 j) h)⟩
theorem mt_tablet {post : Int32 → Prop} {t s p q : Nat → Int32} (h : post (mt_e1 t)) : wpX_diagonalSum__table post (t, s, p, q) := by
  unfold wpX_diagonalSum__table
  dsimp only
  refine ⟨5, mt_tablet1 0 (by decide) (mt_tablet1 1 (by decide) (mt_tablet1 2 (by decide) (mt_tablet1 3 (by decide) ?_)))⟩
  exact br_t mt_4ge h

theorem mt_powert1 {post : Int32 → Prop} {t s p q : Nat → Int32} {n : Nat} {x : Int32} (j : Nat) (hj : j < 4) (h : wX_diagonalSum__power_4 post t s p q n (x + p (5 * j)) (nI (j + 1))) : wX_diagonalSum__power_4 post t s p q (n + 1) x (nI j) := by
  have e : (4 : Int32) * nI j + nI j = nI (5 * j) := by rw [mt_ix]; exact congrArg nI (by omega)
  refine br_f (mt_4lt hj) ?_
  rw [e, nI_clamp (n := 5 * j) (by omega)]
  exact ⟨vp_in_nI (by omega) (by decide), nm_e (nm_r (nI_1 j) h)⟩
theorem mt_powert {post : Int32 → Prop} {t s p q : Nat → Int32} (h : post (mt_e1 p)) : wpX_diagonalSum__power post (t, s, p, q) := by
  unfold wpX_diagonalSum__power
  dsimp only
  refine ⟨5, mt_powert1 0 (by decide) (mt_powert1 1 (by decide) (mt_powert1 2 (by decide) (mt_powert1 3 (by decide) ?_)))⟩
  exact br_t mt_4ge h

/-! the shifted table, on each side -/
def mt_sh (t : Nat → Int32) (x : Int32) (j : Nat) : Int32 := if j % 5 = 0 then t j - x else t j
theorem mt_td2 {post : SX → Prop} {t p q : Nat → Int32} {x : Int32} (h : ∀ s, (∀ j, j < 16 → s j = mt_sh t x j) → post (t, s, p, q)) : ∀ (d i : Nat) (s : Nat → Int32), i + d = 4 → (∀ j, j < 16 → s j = if j < 5 * i then mt_sh t x j else t j) → wX_takeOffDiagonal_28 post x (d + 1) (nI i) t s p q := by
  intro d
  induction d with
  | zero =>
    intro i s hi hs
    cases (hi : i = 4)
    exact br_t mt_4ge (h s (fun j hj => by rw [hs j hj, if_pos (show j < 5 * 4 by omega)]))
  | succ d ih =>
    intro i s hi hs
    have e : (4 : Int32) * nI i + nI i = nI (5 * i) := by rw [mt_ix]; exact congrArg nI (by omega)
    refine br_f (mt_4lt (by omega)) ?_
    rw [e, nI_clamp (n := 5 * i) (by omega)]
    have ii := vp_in_nI (n := 5 * i) (N := 16) (by omega) (by decide)
    refine ⟨ii, ii, nm_e (nm_r (nI_1 i) (ih (i + 1) _ (by omega) ?_))⟩
    intro j hj
    by_cases ej : j = 5 * i
    · subst ej
      rw [pk_us, hs _ hj, if_neg (by omega), if_pos (by omega)]
      unfold mt_sh
      rw [if_pos (by omega)]
    · rw [pk_un ej, hs j hj]
      by_cases g : j < 5 * i
      · rw [if_pos g, if_pos (by omega)]
      · rw [if_neg g]
        by_cases g2 : j < 5 * (i + 1)
        · rw [if_pos g2]; unfold mt_sh; rw [if_neg (by omega)]
        · rw [if_neg g2]
theorem mt_td1 {post : SX → Prop} {t p q : Nat → Int32} {x : Int32} (h : ∀ s, (∀ j, j < 16 → s j = mt_sh t x j) → post (t, s, p, q)) : ∀ (d i : Nat) (s : Nat → Int32), i + d = 16 → (∀ j, j < i → s j = t j) → wX_takeOffDiagonal_2 post x (d + 1) (nI i) t s p q := by
  intro d
  induction d with
  | zero =>
    intro i s hi hs
    cases (hi : i = 16)
    exact br_t mt_16ge ⟨5, mt_td2 h 4 0 s rfl (fun j hj => by rw [if_neg (by omega), hs j hj])⟩
  | succ d ih =>
    intro i s hi hs
    have ii := vp_in_nI (n := i) (N := 16) (by omega) (by decide)
    refine br_f (mt_16lt (by omega)) ⟨ii, ii, nm_e (nm_r (nI_1 i) (ih (i + 1) _ (by omega) ?_))⟩
    intro j hj
    rw [nI_clamp (n := i) (by omega)]
    by_cases ej : j = i
    · subst ej; rw [pk_us]
    · rw [pk_un ej]; exact hs j (by omega)
theorem mt_td {post : SX → Prop} {t s p q : Nat → Int32} {x : Int32} (h : ∀ s, (∀ j, j < 16 → s j = mt_sh t x j) → post (t, s, p, q)) : wpX_takeOffDiagonal post (t, s, p, q) x := by
  unfold wpX_takeOffDiagonal
  dsimp only
  exact ⟨17, mt_td1 h 16 0 s rfl (fun j hj => absurd hj (Nat.not_lt_zero j))⟩
theorem mt_rem5 {i : Nat} (h : i < 16) : nI i - nI i / 5 * 5 = nI (i % 5) := pk_rem (d := 5) (by omega) (by decide) (by decide)
theorem mt_n5 : ¬ (5 : Int32) = 0 := by decide
theorem mt_ld1 {post : SY → Prop} {t p q z : Nat → Int32} {x : Int32} (h : ∀ w, (∀ j, j < 16 → w j = mt_sh t x j) → post (t, p, w, q, z)) : ∀ (d i : Nat) (w : Nat → Int32), i + d = 16 → (∀ j, j < i → w j = mt_sh t x j) → wY_load_2 post x (d + 1) (nI i) t p w q z := by
  intro d
  induction d with
  | zero =>
    intro i w hi hs
    cases (hi : i = 16)
    exact br_t mt_16ge (h w hs)
  | succ d ih =>
    intro i w hi hs
    have ii := vp_in_nI (n := i) (N := 16) (by omega) (by decide)
    refine br_f (mt_16lt (by omega)) ?_
    rw [mt_rem5 (i := i) (by omega), nI_clamp (n := i) (by omega)]
    refine ⟨ii, mt_n5, ?_⟩
    by_cases e : i % 5 = 0
    · refine br_t (by rw [e]; rfl) ⟨ii, nm_e (nm_r (nI_1 i) (ih (i + 1) _ (by omega) ?_))⟩
      intro j hj
      by_cases ej : j = i
      · subst ej; rw [pk_us]; unfold mt_sh; rw [if_pos e]
      · rw [pk_un ej]; exact hs j (by omega)
    · refine br_f (nI_ne0 (by omega) (by omega)) ⟨ii, nm_e (nm_r (nI_1 i) (ih (i + 1) _ (by omega) ?_))⟩
      intro j hj
      by_cases ej : j = i
      · subst ej; rw [pk_us]; unfold mt_sh; rw [if_neg e, Int32.sub_zero]
      · rw [pk_un ej]; exact hs j (by omega)
theorem mt_ld {post : SY → Prop} {t p w q z : Nat → Int32} {x : Int32} (h : ∀ w, (∀ j, j < 16 → w j = mt_sh t x j) → post (t, p, w, q, z)) : wpY_load post (t, p, w, q, z) x := by
  unfold wpY_load
  dsimp only
  exact ⟨17, mt_ld1 h 16 0 w rfl (fun j hj => absurd hj (Nat.not_lt_zero j))⟩
theorem mt_sh0 (t : Nat → Int32) (j : Nat) : mt_sh t 0 j = t j := by
  unfold mt_sh
  split
  · exact Int32.sub_zero _
  · rfl
/-! what lies beyond the sixteenth place does not count -/
theorem mt_c2 {w v : Nat → Int32} (h : ∀ j, j < 16 → w j = v j) {a b c d : Nat} (ha : a < 4) (hb : b < 4) (hc : c < 4) (hd : d < 4) : mt_m2 w a b c d = mt_m2 v a b c d := by
  unfold mt_m2
  rw [h (4 * a + c) (by omega), h (4 * b + d) (by omega), h (4 * a + d) (by omega), h (4 * b + c) (by omega)]
theorem mt_c3 {w v : Nat → Int32} (h : ∀ j, j < 16 → w j = v j) {a b c d e f : Nat} (ha : a < 4) (hb : b < 4) (hc : c < 4) (hd : d < 4) (he : e < 4) (hf : f < 4) : mt_m3 w a b c d e f = mt_m3 v a b c d e f := by
  unfold mt_m3
  rw [h (4 * a + d) (by omega), h (4 * a + e) (by omega), h (4 * a + f) (by omega), mt_c2 h hb hc he hf, mt_c2 h hb hc hd hf, mt_c2 h hb hc hd he]
theorem mt_cu {w v : Nat → Int32} (h : ∀ j, j < 16 → w j = v j) (r c : Nat) : mt_u3 w r c = mt_u3 v r c :=
  mt_c3 h (mt_i0l r) (mt_i1l r) (mt_i2l r) (mt_i0l c) (mt_i1l c) (mt_i2l c)
theorem mt_cs {w v : Nat → Int32} (h : ∀ j, j < 16 → w j = v j) (r c : Nat) : mt_s3 w r c = mt_s3 v r c := by
  unfold mt_s3
  rw [mt_cu h]
theorem mt_cd {w v : Nat → Int32} (h : ∀ j, j < 16 → w j = v j) : mt_det w = mt_det v := by
  unfold mt_det
  rw [mt_cs h, mt_cs h, mt_cs h, mt_cs h, h 0 (by decide), h 1 (by decide), h 2 (by decide), h 3 (by decide)]
