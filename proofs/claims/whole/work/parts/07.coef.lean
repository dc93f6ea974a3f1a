/-! the reference's coefficient and valueAt as pure functions -/
def mt_tm (a e : Int32) (f : Nat → Int32) : Nat → Int32
  | 0 => 0 - a * f 0
  | k + 1 => e * f k - a * f (k + 1)
def mt_st (s : Int32) : Nat → Int32
  | 0 => s
  | _ + 1 => 0
theorem mt_tmc {f g : Nat → Int32} (a e : Int32) (h : ∀ j, j < 5 → f j = g j) : ∀ j, j < 5 → mt_tm a e f j = mt_tm a e g j := by
  intro j hj
  cases j with
  | zero => show 0 - a * f 0 = 0 - a * g 0; rw [h 0 hj]
  | succ j => show e * f j - a * f (j + 1) = e * g j - a * g (j + 1); rw [h j (by omega), h (j + 1) hj]
theorem mt_tm1 {post : SY → Prop} {a e : Int32} {t p w q z : Nat → Int32} {n : Nat} (m : Nat) (hm : m < 4) (he : e = 0 ∨ e = 1) (h : wY_times_2 post a e n (nI m) t p w (upd q (m + 1) (e * q m - a * q (m + 1))) z) : wY_times_2 post a e (n + 1) (nI (m + 1)) t p w q z := by
  have i1 := vp_in_nI (n := m + 1) (N := 5) (by omega) (by decide)
  refine br_f (nI_pos (by omega)) ?_
  unfold wY_times_25 wY_times_26
  rw [nI_pred, nI_clamp (n := m + 1) (by omega), nI_clamp (n := m) (by omega)]
  rcases he with rfl | rfl
  · exact br_t rfl ⟨i1, i1, nm_r (by rw [Int32.zero_mul]) (nm_r (pk_m1 m) h)⟩
  · exact br_f mt_n0 (br_f (nI_nle (by omega) (by omega)) ⟨vp_in_nI (by omega) (by decide), i1, i1, nm_r (by rw [Int32.one_mul]) (nm_r (pk_m1 m) h)⟩)
theorem mt_tm0 {post : SY → Prop} {a e : Int32} {t p w q z : Nat → Int32} {n : Nat} (he : e = 0 ∨ e = 1) (h : post (t, p, w, upd q 0 (0 - a * q 0), z)) : wY_times_2 post a e (n + 2) (nI 0) t p w q z := by
  have i1 := vp_in_nI (n := 0) (N := 5) (by omega) (by decide)
  refine br_f (nI_pos (by omega)) ?_
  unfold wY_times_25 wY_times_26
  rw [nI_clamp (n := 0) (by omega)]
  have g : wY_times_2 post a e (n + 1) (nI 0 + -1) t p w (upd q 0 (0 - a * q 0)) z := br_t (by decide) h
  rcases he with rfl | rfl
  · exact br_t rfl ⟨i1, i1, nm_e (nm_e g)⟩
  · exact br_f mt_n0 (br_t (by decide) ⟨i1, i1, nm_e (nm_e g)⟩)
theorem mt_tmY {post : SY → Prop} {a e : Int32} {t p w q z : Nat → Int32} (he : e = 0 ∨ e = 1) (h : ∀ q', (∀ j, j < 5 → q' j = mt_tm a e q j) → post (t, p, w, q', z)) : wpY_times post (t, p, w, q, z) a e := by
  unfold wpY_times
  dsimp only
  refine ⟨6, mt_tm1 3 (by decide) he (mt_tm1 2 (by decide) he (mt_tm1 1 (by decide) he (mt_tm1 0 (by decide) he (mt_tm0 (n := 0) he (h _ ?_)))))⟩
  intro j hj
  match j, hj with
  | 0, _ => rfl
  | 1, _ => rfl
  | 2, _ => rfl
  | 3, _ => rfl
  | 4, _ => rfl
def mt_va (t : Nat → Int32) (way : Int32) (i : Nat) : Int32 := t (4 * i + (mt_cl way (nI i)).toNatClampNeg)
def mt_dg (way : Int32) (i : Nat) : Int32 := if mt_cl way (nI i) = nI i then 1 else 0
def mt_fp (t : Nat → Int32) (way : Int32) : Nat → Nat → Int32
  | 0 => mt_st (mt_sgw way 15)
  | i + 1 => mt_tm (mt_va t way i) (mt_dg way i) (mt_fp t way i)
theorem mt_cf1 {post : Int32 → SY → Prop} {J : Int32 → Int32 → (Nat → Int32) → (Nat → Int32) → (Nat → Int32) → (Nat → Int32) → (Nat → Int32) → Prop} {t p w z : Nat → Int32} {way x2 : Int32} {k c : Nat} (hk : k < 5) (h : ∀ q, J (x2 + mt_fp t way 4 k) (nI (c + 1)) t p w q z) : ∀ (d i : Nat) (q : Nat → Int32), i + d = 4 → (∀ j, j < 5 → q j = mt_fp t way i j) → wY_coefficient_69 post J (nI k) x2 (nI c) way (d + 1) (nI i) t p w q z := by
  intro d
  induction d with
  | zero =>
    intro i q hi hq
    cases (hi : i = 4)
    exact br_t mt_4ge ⟨vp_in_nI hk (by decide), nm_r (e' := x2 + mt_fp t way 4 k) (by rw [nI_clamp (n := k) (by omega), hq k hk]) (nm_r (nI_1 c) (h q))⟩
  | succ d ih =>
    intro i q hi hq
    refine br_f (mt_4lt (by omega)) (mt_clY ?_)
    have ev : mt_va t way i = t (4 * i + (mt_cl way (nI i)).toNatClampNeg) := rfl
    have ed : mt_dg way i = if mt_cl way (nI i) = nI i then 1 else 0 := rfl
    obtain ⟨m, hm, em⟩ := mt_clN way (nI i)
    rw [em] at ev ed
    rw [nI_clamp (n := m) (by omega)] at ev
    rw [em, mt_iy, nI_clamp (n := 4 * i + m) (by omega)]
    unfold wY_coefficient_110
    refine ⟨vp_in_nI (by omega) (by decide), ?_⟩
    by_cases e : nI m = nI i
    · rw [if_pos e] at ed
      refine br_t e (mt_tmY (Or.inr rfl) (fun q' hq' => nm_r (nI_1 i) (ih (i + 1) q' (by omega) ?_)))
      intro j hj
      rw [hq' j hj, mt_tmc _ _ hq j hj]
      show _ = mt_tm (mt_va t way i) (mt_dg way i) (mt_fp t way i) j
      rw [ev, ed]
    · rw [if_neg e] at ed
      refine br_f e (mt_tmY (Or.inl rfl) (fun q' hq' => nm_r (nI_1 i) (ih (i + 1) q' (by omega) ?_)))
      intro j hj
      rw [hq' j hj, mt_tmc _ _ hq j hj]
      show _ = mt_tm (mt_va t way i) (mt_dg way i) (mt_fp t way i) j
      rw [ev, ed]
theorem mt_cf2 {post : Int32 → SY → Prop} {J : Int32 → Int32 → (Nat → Int32) → (Nat → Int32) → (Nat → Int32) → (Nat → Int32) → (Nat → Int32) → Prop} {t p w z : Nat → Int32} {way x2 : Int32} {k c : Nat} (hk : k < 5) (h : ∀ q, J (x2 + mt_fp t way 4 k) (nI (c + 1)) t p w q z) : ∀ (d i : Nat) (q : Nat → Int32), i + d = 5 → (∀ j, j < i → q j = 0) → wY_coefficient_32 post J (nI k) x2 (nI c) way (d + 1) (nI i) t p w q z := by
  intro d
  induction d with
  | zero =>
    intro i q hi hq
    cases (hi : i = 5)
    refine br_t (by decide) (mt_sgY (nm_e ⟨5, mt_cf1 hk h 4 0 _ rfl ?_⟩))
    intro j hj
    cases j with
    | zero => rfl
    | succ j => rw [pk_un (by omega)]; exact hq (j + 1) hj
  | succ d ih =>
    intro i q hi hq
    refine br_f (nI_ge (b := 5) (by omega) (by decide)) ⟨vp_in_nI (by omega) (by decide), nm_e (nm_r (nI_1 i) (ih (i + 1) _ (by omega) ?_))⟩
    intro j hj
    rw [nI_clamp (n := i) (by omega)]
    by_cases ej : j = i
    · subst ej; rw [pk_us]
    · rw [pk_un ej]; exact hq j (by omega)
def mt_cf (t : Nat → Int32) (k : Nat) : Nat → Int32
  | 0 => 0
  | c + 1 => mt_cf t k c + mt_fp t (mt_way c) 4 k
theorem mt_cf3 {post : Int32 → SY → Prop} {t p w z : Nat → Int32} {k : Nat} (hk : k < 5) (hz : ∀ j, j < 24 → z j = mt_way j) (h : ∀ q, post (mt_cf t k 24) (t, p, w, q, z)) : ∀ (d c : Nat) (q : Nat → Int32), c + d = 24 → wY_coefficient_15 post (nI k) (d + 1) (mt_cf t k c) (nI c) t p w q z := by
  intro d
  induction d with
  | zero =>
    intro c q hc
    cases (hc : c = 24)
    exact br_t (by decide) (h q)
  | succ d ih =>
    intro c q hc
    exact br_f (nI_ge (b := 24) (by omega) (by decide)) ⟨vp_in_nI (by omega) (by decide), nm_r (e' := mt_way c) (by rw [nI_clamp (n := c) (by omega)]; exact hz c (by omega)) ⟨6, mt_cf2 hk (fun q' => ih (c + 1) q' (by omega)) 5 0 q rfl (fun j hj => absurd hj (Nat.not_lt_zero j))⟩⟩
theorem mt_cfY {post : Int32 → SY → Prop} {t p w q z : Nat → Int32} {k : Nat} (hk : k < 5) (hz : ∀ j, j < 24 → z j = mt_way j) (h : ∀ q, post (mt_cf t k 24) (t, p, w, q, z)) : wpY_coefficient post (t, p, w, q, z) (nI k) := by
  unfold wpY_coefficient
  dsimp only
  exact br_f (nI_pos (by omega)) (br_t (nI_le (b := 4) (by omega) (by decide)) ⟨25, mt_cf3 hk hz h 24 0 q rfl⟩)
/-! valueAt's Horner loop -/
theorem mt_va1 {post : Int32 → SY → Prop} {t p w q z : Nat → Int32} {x y : Int32} {n : Nat} (m : Nat) (hm : m < 4) (hz : ∀ j, j < 24 → z j = mt_way j) (h : ∀ q, wY_valueAt_21 post x n (y * x + mt_cf t (m + 1) 24) (nI m) t p w q z) : wY_valueAt_21 post x (n + 1) y (nI (m + 1)) t p w q z :=
  br_f (nI_pos (by omega)) (mt_cfY (by omega) hz (fun q' => nm_e (nm_r (pk_m1 m) (h q'))))
theorem mt_va0 {post : Int32 → SY → Prop} {t p w q z : Nat → Int32} {x y : Int32} {n : Nat} (hz : ∀ j, j < 24 → z j = mt_way j) (h : ∀ q, post (y * x + mt_cf t 0 24) (t, p, w, q, z)) : wY_valueAt_21 post x (n + 2) y (nI 0) t p w q z :=
  br_f (nI_pos (by omega)) (mt_cfY (k := 0) (by omega) hz (fun q' => nm_e (nm_e (br_t (by decide) (h q')))))
def mt_ho (t : Nat → Int32) (x : Int32) : Int32 := ((((0 * x + mt_cf t 4 24) * x + mt_cf t 3 24) * x + mt_cf t 2 24) * x + mt_cf t 1 24) * x + mt_cf t 0 24
theorem mt_hoY {post : Int32 → SY → Prop} {t p w q z : Nat → Int32} {x : Int32} (hz : ∀ j, j < 24 → z j = mt_way j) (h : ∀ q, post (mt_ho t x) (t, p, w, q, z)) : wY_valueAt_21 post x 6 0 (nI 4) t p w q z :=
  mt_va1 3 (by decide) hz (fun _ => mt_va1 2 (by decide) hz (fun _ => mt_va1 1 (by decide) hz (fun _ => mt_va1 0 (by decide) hz (fun _ => mt_va0 (n := 0) hz h))))
/-! closed form of one way's polynomial -/
def mt_k (s a0 d0 a1 d1 a2 d2 a3 d3 : Int32) : Nat → Int32
  | 0 => s * a0 * a1 * a2 * a3
  | 1 => -(s * (d0 * a1 * a2 * a3 + a0 * d1 * a2 * a3 + a0 * a1 * d2 * a3 + a0 * a1 * a2 * d3))
  | 2 => s * (d0 * d1 * a2 * a3 + d0 * a1 * d2 * a3 + d0 * a1 * a2 * d3 + a0 * d1 * d2 * a3 + a0 * d1 * a2 * d3 + a0 * a1 * d2 * d3)
  | 3 => -(s * (d0 * d1 * d2 * a3 + d0 * d1 * a2 * d3 + d0 * a1 * d2 * d3 + a0 * d1 * d2 * d3))
  | _ => s * d0 * d1 * d2 * d3
theorem mt_kE (s a0 d0 a1 d1 a2 d2 a3 d3 : Int32) : ∀ k, k < 5 → mt_tm a3 d3 (mt_tm a2 d2 (mt_tm a1 d1 (mt_tm a0 d0 (mt_st s)))) k = mt_k s a0 d0 a1 d1 a2 d2 a3 d3 k := by
  intro k hk
  match k, hk with
  | 0, _ => simp only [mt_tm, mt_st, mt_k]; grind
  | 1, _ => simp only [mt_tm, mt_st, mt_k]; grind
  | 2, _ => simp only [mt_tm, mt_st, mt_k]; grind
  | 3, _ => simp only [mt_tm, mt_st, mt_k]; grind
  | 4, _ => simp only [mt_tm, mt_st, mt_k]; grind
def mt_en (way : Int32) : Int32 × (Nat × Int32) × (Nat × Int32) × (Nat × Int32) × (Nat × Int32) := (mt_sgw way 15, (4 * 0 + (mt_cl way (nI 0)).toNatClampNeg, mt_dg way 0), (4 * 1 + (mt_cl way (nI 1)).toNatClampNeg, mt_dg way 1), (4 * 2 + (mt_cl way (nI 2)).toNatClampNeg, mt_dg way 2), (4 * 3 + (mt_cl way (nI 3)).toNatClampNeg, mt_dg way 3))
def mt_kv (t : Nat → Int32) (k : Nat) (e : Int32 × (Nat × Int32) × (Nat × Int32) × (Nat × Int32) × (Nat × Int32)) : Int32 := mt_k e.1 (t e.2.1.1) e.2.1.2 (t e.2.2.1.1) e.2.2.1.2 (t e.2.2.2.1.1) e.2.2.2.1.2 (t e.2.2.2.2.1) e.2.2.2.2.2 k
theorem mt_fpE (t : Nat → Int32) (way : Int32) {k : Nat} (hk : k < 5) : mt_fp t way 4 k = mt_kv t k (mt_en way) := mt_kE _ _ _ _ _ _ _ _ _ k hk
def mt_wl : Nat → List (Int32 × (Nat × Int32) × (Nat × Int32) × (Nat × Int32) × (Nat × Int32))
  | 0 => []
  | c + 1 => mt_wl c ++ [mt_en (mt_way c)]
theorem mt_cfL (t : Nat → Int32) {k : Nat} (hk : k < 5) : ∀ c, mt_cf t k c = (mt_wl c).foldl (fun s e => s + mt_kv t k e) 0 := by
  intro c
  induction c with
  | zero => rfl
  | succ c ih =>
    show mt_cf t k c + mt_fp t (mt_way c) 4 k = _
    rw [ih, mt_fpE t _ hk]
    show _ = (mt_wl c ++ [mt_en (mt_way c)]).foldl (fun s e => s + mt_kv t k e) 0
    rw [List.foldl_append]
    rfl
theorem mt_wlE : mt_wl 24 = [(1, (3, 0), (6, 0), (9, 0), (12, 0)), (-1, (2, 0), (7, 0), (9, 0), (12, 0)), (-1, (3, 0), (5, 1), (10, 1), (12, 0)), (1, (1, 0), (7, 0), (10, 1), (12, 0)), (1, (2, 0), (5, 1), (11, 0), (12, 0)), (-1, (1, 0), (6, 0), (11, 0), (12, 0)), (-1, (3, 0), (6, 0), (8, 0), (13, 0)), (1, (2, 0), (7, 0), (8, 0), (13, 0)), (1, (3, 0), (4, 0), (10, 1), (13, 0)), (-1, (0, 1), (7, 0), (10, 1), (13, 0)), (-1, (2, 0), (4, 0), (11, 0), (13, 0)), (1, (0, 1), (6, 0), (11, 0), (13, 0)), (1, (3, 0), (5, 1), (8, 0), (14, 0)), (-1, (1, 0), (7, 0), (8, 0), (14, 0)), (-1, (3, 0), (4, 0), (9, 0), (14, 0)), (1, (0, 1), (7, 0), (9, 0), (14, 0)), (1, (1, 0), (4, 0), (11, 0), (14, 0)), (-1, (0, 1), (5, 1), (11, 0), (14, 0)), (-1, (2, 0), (5, 1), (8, 0), (15, 1)), (1, (1, 0), (6, 0), (8, 0), (15, 1)), (1, (2, 0), (4, 0), (9, 0), (15, 1)), (-1, (0, 1), (6, 0), (9, 0), (15, 1)), (-1, (1, 0), (4, 0), (10, 1), (15, 1)), (1, (0, 1), (5, 1), (10, 1), (15, 1))] := by decide +kernel
