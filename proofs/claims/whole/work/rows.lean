section
theorem pk_us {f : Nat → Int32} {k : Nat} {x : Int32} : upd f k x k = x := if_pos rfl
theorem pk_un {f : Nat → Int32} {k j : Nat} {x : Int32} (h : j ≠ k) : upd f k x j = f j := if_neg h
theorem pk_sub {a b : Nat} (h : b ≤ a) : nI a - nI b = nI (a - b) := by
  obtain ⟨c, rfl⟩ : ∃ c, a = c + b := ⟨a - b, by omega⟩
  rw [← nI_add, Int32.add_sub_cancel, Nat.add_sub_cancel]
theorem pk_m1 (n : Nat) : nI (n + 1) + (-1) = nI n := by
  rw [← nI_1, Int32.add_assoc, show (1 : Int32) + (-1) = 0 from rfl, Int32.add_zero]
theorem pk_mul (a b : Nat) : nI a * nI b = nI (a * b) := (Int32.ofNat_mul a b).symm
theorem pk_div {a d : Nat} (ha : a < 2 ^ 31) (h0 : 0 < d) (hd : d < 2 ^ 31) : nI a / nI d = nI (a / d) := by
  apply Int32.toInt_inj.mp
  rw [lg_idiv_nonneg (by rw [nI_toInt ha]; omega) (by rw [nI_toInt hd]; omega), nI_toInt ha, nI_toInt hd, nI_toInt (Nat.lt_of_le_of_lt (Nat.div_le_self a d) ha)]
  first | rfl | exact (Int.natCast_ediv _ _).symm
theorem pk_rem {a d : Nat} (ha : a < 2 ^ 31) (h0 : 0 < d) (hd : d < 2 ^ 31) : nI a - nI a / nI d * nI d = nI (a % d) := by
  rw [pk_div ha h0 hd, pk_mul, pk_sub (Nat.div_mul_le_self a d)]
  exact congrArg nI (by have := Nat.div_add_mod' a d; omega)
theorem pk_ix (x : Int32) {n : Nat} (hn : n < 2 ^ 31) : x < 0 ∨ nI n ≤ x ∨ ∃ j : Nat, j < n ∧ x = nI j := by
  by_cases h : x < 0
  · exact Or.inl h
  · obtain ⟨j, hj, rfl⟩ := nI_of h
    by_cases h2 : j < n
    · exact Or.inr (Or.inr ⟨j, h2, rfl⟩)
    · exact Or.inr (Or.inl (nI_le (by omega) hj))
theorem pk_in {x : Int32} (n N : Nat) (h : n < N) (hx : x = nI n := by rfl) (hN : N < 2 ^ 31 := by omega) : vp_in x N := by
  subst hx
  exact vp_in_nI h hN
theorem pk_cl {x : Int32} (n : Nat) (hx : x = nI n := by rfl) (h : n < 2 ^ 31 := by omega) : x.toNatClampNeg = n := by
  subst hx
  exact nI_clamp h
theorem pk_tn {n : Nat} (h : n < 2 ^ 32) : (nI n).toBitVec.toNat = n := Nat.mod_eq_of_lt h
theorem pk_and (x : Int32) {m : Int32} (k : Nat) (hm : m.toBitVec.toNat = 2 ^ k - 1) : x &&& m = nI (x.toBitVec.toNat % 2 ^ k) := by
  apply Int32.toBitVec_inj.mp
  apply BitVec.eq_of_toNat_eq
  rw [Int32.toBitVec_and, BitVec.toNat_and, hm, Nat.and_two_pow_sub_one_eq_mod]
  show _ = (BitVec.ofNat 32 _).toNat
  rw [BitVec.toNat_ofNat]
  exact (Nat.mod_eq_of_lt (Nat.lt_of_le_of_lt (Nat.mod_le _ _) x.toBitVec.isLt)).symm
theorem pk_andE (x : Int32) {m : Int32} (k : Nat) (hm : m.toBitVec.toNat = 2 ^ k - 1) : ∃ j : Nat, j < 2 ^ k ∧ x &&& m = nI j := ⟨_, Nat.mod_lt _ (Nat.two_pow_pos k), pk_and x k hm⟩
theorem pk_shl (a s : Int32) (k : Nat) (hs : (s.toBitVec.smod 32).toNat = k) : (a <<< s).toBitVec.toNat = a.toBitVec.toNat * 2 ^ k % 2 ^ 32 := by
  show (a.toBitVec <<< (s.toBitVec.smod 32).toNat).toNat = _
  rw [hs, BitVec.toNat_shiftLeft, Nat.shiftLeft_eq]
theorem pk_shr (a s : Int32) (k : Nat) (hs : (s.toBitVec.smod 32).toNat = k) : (a >>> s).toInt = a.toInt >>> k := by
  show (a.toBitVec.sshiftRight (s.toBitVec.smod 32).toNat).toInt = _
  rw [hs, BitVec.toInt_sshiftRight]
  rfl
theorem pk_shrN {n : Nat} (h : n < 2 ^ 31) (s : Int32) (k : Nat) (hs : (s.toBitVec.smod 32).toNat = k) : nI n >>> s = nI (n / 2 ^ k) := by
  apply Int32.toInt_inj.mp
  have h2 : n / 2 ^ k ≤ n := Nat.div_le_self _ _
  rw [pk_shr _ _ k hs, nI_toInt h, nI_toInt (by omega), Int.shiftRight_eq_div_pow]
  rfl
/-! own: indices, places, bounds, the ways -/
theorem mt_ix (a b : Nat) : (4 : Int32) * nI a + nI b = nI (4 * a + b) := by
  show nI 4 * nI a + nI b = _
  rw [pk_mul, nI_add]
theorem mt_iy (a b : Nat) : nI a * (4 : Int32) + nI b = nI (4 * a + b) := by
  show nI a * nI 4 + nI b = _
  rw [pk_mul, nI_add, Nat.mul_comm]
theorem mt_4ge : (4 : Int32) ≤ nI 4 := by decide
theorem mt_16ge : (16 : Int32) ≤ nI 16 := by decide
theorem mt_4lt {i : Nat} (h : i < 4) : ¬ (4 : Int32) ≤ nI i := nI_ge (b := 4) h (by decide)
theorem mt_16lt {i : Nat} (h : i < 16) : ¬ (16 : Int32) ≤ nI i := nI_ge (b := 16) h (by decide)
theorem mt_n0 : ¬ (1 : Int32) = 0 := by decide
def mt_way (j : Nat) : Int32 := nI ([27, 30, 39, 45, 54, 57, 75, 78, 99, 108, 114, 120, 135, 141, 147, 156, 177, 180, 198, 201, 210, 216, 225, 228].getD j 0)
/-- the tables are one function; the reference's ways are the fixed twenty-four; the other arrays are free -/
def i_Rel (_ : Nat) (u : SX) (v : SY) : Prop := u.1 = v.1 ∧ ∀ j, j < 24 → v.2.2.2.2 j = mt_way j
theorem i_up {k : Nat} {u : SX} {v : SY} (h : i_Rel k u v) : i_Rel (k + 4) u v := h
theorem mt_place (a b : Int32) : ((∀ post : Int32 → Prop, post 0 → wpX_isPlace post a b) ∧ (∀ (post : Int32 → Prop) (u : SY), post 1 → wpY_badPlace post u a b)) ∨ ∃ i j : Nat, i < 4 ∧ j < 4 ∧ a = nI i ∧ b = nI j ∧ (∀ post : Int32 → Prop, post 1 → wpX_isPlace post a b) ∧ (∀ (post : Int32 → Prop) (u : SY), post 0 → wpY_badPlace post u a b) := by
  unfold wpX_isPlace wpY_badPlace
  dsimp only
  rcases pk_ix a (n := 4) (by decide) with h | h | ⟨i, hi, rfl⟩
  · exact Or.inl ⟨fun post hp => br_t h hp, fun post u hp => br_t h hp⟩
  · have h' : (4 : Int32) ≤ a := h
    have h0 : ¬ a < 0 := Int32.not_lt.mpr (Int32.le_trans (by decide) h')
    have h3 : (3 : Int32) < a := Int32.lt_of_lt_of_le (by decide) h'
    exact Or.inl ⟨fun post hp => br_f h0 (br_t h' hp), fun post u hp => br_f h0 (br_t h3 hp)⟩
  · have h0 : ¬ nI i < 0 := nI_pos (by omega)
    have h4 : ¬ (4 : Int32) ≤ nI i := mt_4lt hi
    have h3 : ¬ (3 : Int32) < nI i := nI_nlt (a := 3) (by omega) (by decide)
    rcases pk_ix b (n := 4) (by decide) with g | g | ⟨j, hj, rfl⟩
    · exact Or.inl ⟨fun post hp => br_f h0 (br_f h4 (br_t g hp)), fun post u hp => br_f h0 (br_f h3 (br_t g hp))⟩
    · have g' : (4 : Int32) ≤ b := g
      have g0 : ¬ b < 0 := Int32.not_lt.mpr (Int32.le_trans (by decide) g')
      have g3 : ¬ b ≤ 3 := Int32.not_le.mpr (Int32.lt_of_lt_of_le (by decide) g')
      exact Or.inl ⟨fun post hp => br_f h0 (br_f h4 (br_f g0 (br_t g' hp))), fun post u hp => br_f h0 (br_f h3 (br_f g0 (br_f g3 hp)))⟩
    · have g0 : ¬ nI j < 0 := nI_pos (by omega)
      have g4 : ¬ (4 : Int32) ≤ nI j := mt_4lt hj
      have g3 : nI j ≤ 3 := nI_le (b := 3) (by omega) (by decide)
      exact Or.inr ⟨i, j, hi, hj, rfl, rfl, fun post hp => br_f h0 (br_f h4 (br_f g0 (br_f g4 hp))), fun post u hp => br_f h0 (br_f h3 (br_f g0 (br_t g3 hp)))⟩
theorem mt_within (p m : Int32) : ((∀ post : Int32 → Prop, post 0 → wpX_isWithin post p m) ∧ (∀ A B : Prop, A → (p < -m → A) ∧ (¬ p < -m → ((p ≤ m → B) ∧ (¬ p ≤ m → A))))) ∨ ((¬ p < -m ∧ p ≤ m) ∧ (∀ post : Int32 → Prop, post 1 → wpX_isWithin post p m) ∧ (∀ A B : Prop, B → (p < -m → A) ∧ (¬ p < -m → ((p ≤ m → B) ∧ (¬ p ≤ m → A))))) := by
  unfold wpX_isWithin
  by_cases h : p < -m
  · exact Or.inl ⟨fun post hp => br_t h hp, fun A B a => br_t h a⟩
  · by_cases g : m < p
    · exact Or.inl ⟨fun post hp => br_f h (br_t g hp), fun A B a => br_f h (br_f (Int32.not_le.mpr g) a)⟩
    · exact Or.inr ⟨⟨h, Int32.not_lt.mp g⟩, fun post hp => br_f h (br_f g hp), fun A B b => br_f h (br_t (Int32.not_lt.mp g) b)⟩
/-! exchange, on each side -/
def mt_ex (t : Nat → Int32) (a b : Nat) : Nat → Int32 := upd (upd t a (t b)) b (t a)
theorem mt_exX {post : SX → Prop} {t s p q : Nat → Int32} (a b : Nat) {x y : Int32} (hx : x = nI a) (hy : y = nI b) (ha : a < 16) (hb : b < 16) (h : post (mt_ex t a b, s, p, q)) : wpX_exchange post (t, s, p, q) x y := by
  subst hx hy
  unfold wpX_exchange
  dsimp only
  have ia := vp_in_nI (N := 16) ha (by decide)
  have ib := vp_in_nI (N := 16) hb (by decide)
  rw [nI_clamp (n := a) (by omega), nI_clamp (n := b) (by omega)]
  exact ⟨ia, nm_e ⟨ib, ia, nm_e ⟨ib, nm_e h⟩⟩⟩
theorem mt_exY {post : SY → Prop} {t p w q z : Nat → Int32} (a b : Nat) {x y : Int32} (hx : x = nI a) (hy : y = nI b) (ha : a < 16) (hb : b < 16) (h : post (mt_ex t a b, p, w, q, z)) : wpY_exchange post (t, p, w, q, z) x y := by
  subst hx hy
  unfold wpY_exchange
  dsimp only
  have ia := vp_in_nI (N := 16) ha (by decide)
  have ib := vp_in_nI (N := 16) hb (by decide)
  rw [nI_clamp (n := a) (by omega), nI_clamp (n := b) (by omega)]
  exact ⟨ia, nm_e ⟨ib, ia, nm_e ⟨ib, nm_e h⟩⟩⟩
end
section
/-! set, entry, negate, relabel, flip, the constructors -/
theorem i_vc_set {k : Nat} {u : SX} {v : SY} (I : i_Rel k u v) (hk : k + 4 ≤ 2048) (v1 : Int32) (v2 : Int32) (v3 : Int32) : wpX_set (fun r u' => wpY_set (fun r' v' => r' = r ∧ i_Rel (k + 4) u' v') v v1 v2 v3) u v1 v2 v3 := by
  obtain ⟨t, s, p, q⟩ := u
  obtain ⟨t', p', w', q', z'⟩ := v
  obtain ⟨e, hw⟩ := I
  cases (e : t = t')
  unfold wpX_set wpY_set
  dsimp only
  rcases mt_place v1 v2 with ⟨hx, hy⟩ | ⟨i, j, hi, hj, rfl, rfl, hx, hy⟩
  · exact hx _ (br_t rfl (hy _ _ (br_f mt_n0 ⟨rfl, rfl, hw⟩)))
  · refine hx _ (br_f mt_n0 ?_)
    rw [mt_ix, mt_iy, nI_clamp (n := 4 * i + j) (by omega)]
    rcases mt_within v3 9 with ⟨gx, gy⟩ | ⟨_, gx, gy⟩
    · exact gx _ (br_t rfl (hy _ _ (br_t rfl (gy _ _ ⟨rfl, rfl, hw⟩))))
    · have ii := vp_in_nI (n := 4 * i + j) (N := 16) (by omega) (by decide)
      exact gx _ (br_f mt_n0 ⟨ii, nm_e (hy _ _ (br_t rfl (gy _ _ ⟨ii, nm_e ⟨rfl, rfl, hw⟩⟩)))⟩)
theorem i_vc_entry {k : Nat} {u : SX} {v : SY} (I : i_Rel k u v) (hk : k + 4 ≤ 2048) (v1 : Int32) (v2 : Int32) : wpX_entry (fun r => wpY_entry (fun r' => r' = r ∧ i_Rel (k + 4) u v) v v1 v2) u v1 v2 := by
  obtain ⟨t, s, p, q⟩ := u
  obtain ⟨t', p', w', q', z'⟩ := v
  obtain ⟨e, hw⟩ := I
  cases (e : t = t')
  unfold wpX_entry wpY_entry
  dsimp only
  rcases mt_place v1 v2 with ⟨hx, hy⟩ | ⟨i, j, hi, hj, rfl, rfl, hx, hy⟩
  · exact hx _ (br_t rfl (hy _ _ (br_f mt_n0 ⟨rfl, rfl, hw⟩)))
  · refine hx _ (br_f mt_n0 ?_)
    rw [mt_ix, mt_iy, nI_clamp (n := 4 * i + j) (by omega)]
    have ii := vp_in_nI (n := 4 * i + j) (N := 16) (by omega) (by decide)
    exact ⟨ii, hy _ _ (br_t rfl ⟨ii, rfl, rfl, hw⟩)⟩
/-! negate -/
def mt_ng (t : Nat → Int32) : Nat → (Nat → Int32)
  | 0 => t
  | i + 1 => upd (mt_ng t i) i (-(mt_ng t i i))
theorem mt_ngX {post : SX → Prop} {t s p q : Nat → Int32} (h : post (mt_ng t 16, s, p, q)) : ∀ d i : Nat, i + d = 16 → wX_negate_2 post (d + 1) (nI i) (mt_ng t i) s p q := by
  intro d
  induction d with
  | zero =>
    intro i hi
    cases (hi : i = 16)
    exact br_t mt_16ge h
  | succ d ih =>
    intro i hi
    have ii := vp_in_nI (n := i) (N := 16) (by omega) (by decide)
    exact br_f (mt_16lt (by omega)) ⟨ii, ii, nm_r (e' := mt_ng t (i + 1)) (by rw [nI_clamp (n := i) (by omega)]; rfl) (nm_r (nI_1 i) (ih (i + 1) (by omega)))⟩
theorem mt_ngY {post : SY → Prop} {t p w q z : Nat → Int32} (h : post (mt_ng t 16, p, w, q, z)) : ∀ d i : Nat, i + d = 16 → wY_negate_2 post (d + 1) (nI i) (mt_ng t i) p w q z := by
  intro d
  induction d with
  | zero =>
    intro i hi
    cases (hi : i = 16)
    exact br_t mt_16ge h
  | succ d ih =>
    intro i hi
    have ii := vp_in_nI (n := i) (N := 16) (by omega) (by decide)
    exact br_f (mt_16lt (by omega)) ⟨ii, ii, nm_r (e' := mt_ng t (i + 1)) (by rw [nI_clamp (n := i) (by omega)]; rfl) (nm_r (nI_1 i) (ih (i + 1) (by omega)))⟩
theorem i_vc_negate {k : Nat} {u : SX} {v : SY} (I : i_Rel k u v) (hk : k + 4 ≤ 2048) : wpX_negate (fun u' => wpY_negate (fun v' => i_Rel (k + 4) u' v') v) u := by
  obtain ⟨t, s, p, q⟩ := u
  obtain ⟨t', p', w', q', z'⟩ := v
  obtain ⟨e, hw⟩ := I
  cases (e : t = t')
  unfold wpX_negate wpY_negate
  dsimp only
  refine ⟨17, mt_ngX ?_ 16 0 rfl⟩
  refine ⟨17, mt_ngY ?_ 16 0 rfl⟩
  exact ⟨rfl, hw⟩
/-! relabel -/
def mt_ra (t : Nat → Int32) (a b : Nat) : Nat → (Nat → Int32)
  | 0 => t
  | i + 1 => mt_ex (mt_ra t a b i) (4 * a + i) (4 * b + i)
def mt_rb (t : Nat → Int32) (a b : Nat) : Nat → (Nat → Int32)
  | 0 => t
  | i + 1 => mt_ex (mt_rb t a b i) (4 * i + a) (4 * i + b)
theorem mt_rbX {post : Int32 → SX → Prop} {t s p q : Nat → Int32} {a b : Nat} (ha : a < 4) (hb : b < 4) (h : post 0 (mt_rb t a b 4, s, p, q)) : ∀ d i : Nat, i + d = 4 → wX_relabel_39 post (nI a) (nI b) (d + 1) (nI i) (mt_rb t a b i) s p q := by
  intro d
  induction d with
  | zero =>
    intro i hi
    cases (hi : i = 4)
    exact br_t mt_4ge h
  | succ d ih =>
    intro i hi
    exact br_f (mt_4lt (by omega)) (mt_exX (4 * i + a) (4 * i + b) (mt_ix i a) (mt_ix i b) (by omega) (by omega) (nm_r (nI_1 i) (ih (i + 1) (by omega))))
theorem mt_raX {post : Int32 → SX → Prop} {t s p q : Nat → Int32} {a b : Nat} (ha : a < 4) (hb : b < 4) (h : post 0 (mt_rb (mt_ra t a b 4) a b 4, s, p, q)) : ∀ d i : Nat, i + d = 4 → wX_relabel_12 post (nI a) (nI b) (d + 1) (nI i) (mt_ra t a b i) s p q := by
  intro d
  induction d with
  | zero =>
    intro i hi
    cases (hi : i = 4)
    exact br_t mt_4ge ⟨5, mt_rbX ha hb h 4 0 rfl⟩
  | succ d ih =>
    intro i hi
    exact br_f (mt_4lt (by omega)) (mt_exX (4 * a + i) (4 * b + i) (mt_ix a i) (mt_ix b i) (by omega) (by omega) (nm_r (nI_1 i) (ih (i + 1) (by omega))))
theorem mt_rbY {post : Int32 → SY → Prop} {t p w q z : Nat → Int32} {a b : Nat} (ha : a < 4) (hb : b < 4) (h : post 0 (mt_rb t a b 4, p, w, q, z)) : ∀ d i : Nat, i + d = 4 → wY_relabel_40 post (nI a) (nI b) (d + 1) (nI i) (mt_rb t a b i) p w q z := by
  intro d
  induction d with
  | zero =>
    intro i hi
    cases (hi : i = 4)
    exact br_t mt_4ge h
  | succ d ih =>
    intro i hi
    exact br_f (mt_4lt (by omega)) (mt_exY (4 * i + a) (4 * i + b) (mt_iy i a) (mt_iy i b) (by omega) (by omega) (nm_r (nI_1 i) (ih (i + 1) (by omega))))
theorem mt_raY {post : Int32 → SY → Prop} {t p w q z : Nat → Int32} {a b : Nat} (ha : a < 4) (hb : b < 4) (h : post 0 (mt_rb (mt_ra t a b 4) a b 4, p, w, q, z)) : ∀ d i : Nat, i + d = 4 → wY_relabel_13 post (nI a) (nI b) (d + 1) (nI i) (mt_ra t a b i) p w q z := by
  intro d
  induction d with
  | zero =>
    intro i hi
    cases (hi : i = 4)
    exact br_t mt_4ge ⟨5, mt_rbY ha hb h 4 0 rfl⟩
  | succ d ih =>
    intro i hi
    exact br_f (mt_4lt (by omega)) (mt_exY (4 * a + i) (4 * b + i) (mt_iy a i) (mt_iy b i) (by omega) (by omega) (nm_r (nI_1 i) (ih (i + 1) (by omega))))
theorem i_vc_relabel {k : Nat} {u : SX} {v : SY} (I : i_Rel k u v) (hk : k + 4 ≤ 2048) (v1 : Int32) (v2 : Int32) : wpX_relabel (fun r u' => wpY_relabel (fun r' v' => r' = r ∧ i_Rel (k + 4) u' v') v v1 v2) u v1 v2 := by
  obtain ⟨t, s, p, q⟩ := u
  obtain ⟨t', p', w', q', z'⟩ := v
  obtain ⟨e, hw⟩ := I
  cases (e : t = t')
  unfold wpX_relabel wpY_relabel
  dsimp only
  rcases mt_place v1 v2 with ⟨hx, hy⟩ | ⟨i, j, hi, hj, rfl, rfl, hx, hy⟩
  · exact hx _ (br_t rfl (hy _ _ (br_f mt_n0 ⟨rfl, rfl, hw⟩)))
  · refine hx _ (br_f mt_n0 ⟨5, mt_raX hi hj ?_ 4 0 rfl⟩)
    refine hy _ _ (br_t rfl ⟨5, mt_raY hi hj ?_ 4 0 rfl⟩)
    exact ⟨rfl, rfl, hw⟩
/-! flip: each side's six exchanges -/
theorem mt_fX1 {post : SX → Prop} {J : Int32 → (Nat → Int32) → (Nat → Int32) → (Nat → Int32) → (Nat → Int32) → Prop} {t s p q : Nat → Int32} {n : Nat} (i j : Nat) (hi : i < 4) (hj : j < 4) (h : wX_flip_11 post J (nI i) n (nI (j + 1)) (mt_ex t (4 * i + j) (4 * j + i)) s p q) : wX_flip_11 post J (nI i) (n + 1) (nI j) t s p q :=
  br_f (mt_4lt hj) (mt_exX (4 * i + j) (4 * j + i) (mt_ix i j) (mt_ix j i) (by omega) (by omega) (nm_r (nI_1 j) h))
theorem mt_fX2 {post : SX → Prop} {J : Int32 → (Nat → Int32) → (Nat → Int32) → (Nat → Int32) → (Nat → Int32) → Prop} {t s p q : Nat → Int32} {n : Nat} (i : Nat) (h : J (nI (i + 1)) t s p q) : wX_flip_11 post J (nI i) (n + 1) (nI 4) t s p q :=
  br_t mt_4ge (nm_r (nI_1 i) h)
theorem mt_fX3 {post : SX → Prop} {t s p q : Nat → Int32} {n : Nat} (i : Nat) (hi : i < 4) (h : wX_flip_11 post (wX_flip_2 post n) (nI i) 5 (nI (i + 1)) t s p q) : wX_flip_2 post (n + 1) (nI i) t s p q :=
  br_f (mt_4lt hi) (nm_r (nI_1 i) ⟨5, h⟩)
theorem mt_fX {post : SX → Prop} {t s p q : Nat → Int32} (h : post (mt_ex (mt_ex (mt_ex (mt_ex (mt_ex (mt_ex t 1 4) 2 8) 3 12) 6 9) 7 13) 11 14, s, p, q)) : wX_flip_2 post 5 (nI 0) t s p q := by
  refine mt_fX3 0 (by decide) (mt_fX1 0 1 (by decide) (by decide) (mt_fX1 0 2 (by decide) (by decide) (mt_fX1 0 3 (by decide) (by decide) (mt_fX2 0 ?_))))
  refine mt_fX3 1 (by decide) (mt_fX1 1 2 (by decide) (by decide) (mt_fX1 1 3 (by decide) (by decide) (mt_fX2 1 ?_)))
  refine mt_fX3 2 (by decide) (mt_fX1 2 3 (by decide) (by decide) (mt_fX2 2 ?_))
  refine mt_fX3 3 (by decide) (mt_fX2 3 ?_)
  exact br_t mt_4ge h
theorem mt_fY1 {post : SY → Prop} {J : Int32 → (Nat → Int32) → (Nat → Int32) → (Nat → Int32) → (Nat → Int32) → (Nat → Int32) → Prop} {t p w q z : Nat → Int32} {n : Nat} (i j : Nat) (hi : i < 4) (hj : j < i) (h : wY_flip_9 post J (nI i) n (nI (j + 1)) (mt_ex t (4 * i + j) (4 * j + i)) p w q z) : wY_flip_9 post J (nI i) (n + 1) (nI j) t p w q z :=
  br_f (nI_ge hj (by omega)) (mt_exY (4 * i + j) (4 * j + i) (mt_iy i j) (mt_iy j i) (by omega) (by omega) (nm_r (nI_1 j) h))
theorem mt_fY2 {post : SY → Prop} {J : Int32 → (Nat → Int32) → (Nat → Int32) → (Nat → Int32) → (Nat → Int32) → (Nat → Int32) → Prop} {t p w q z : Nat → Int32} {n : Nat} (i : Nat) (hi : i < 4) (h : J (nI (i + 1)) t p w q z) : wY_flip_9 post J (nI i) (n + 1) (nI i) t p w q z :=
  br_t (nI_le (Nat.le_refl i) (by omega)) (nm_r (nI_1 i) h)
theorem mt_fY3 {post : SY → Prop} {t p w q z : Nat → Int32} {n : Nat} (i : Nat) (hi : i < 4) (h : wY_flip_9 post (wY_flip_2 post n) (nI i) 5 (nI 0) t p w q z) : wY_flip_2 post (n + 1) (nI i) t p w q z :=
  br_f (mt_4lt hi) ⟨5, h⟩
theorem mt_fY {post : SY → Prop} {t p w q z : Nat → Int32} (h : post (mt_ex (mt_ex (mt_ex (mt_ex (mt_ex (mt_ex t 4 1) 8 2) 9 6) 12 3) 13 7) 14 11, p, w, q, z)) : wY_flip_2 post 5 (nI 0) t p w q z := by
  refine mt_fY3 0 (by decide) (mt_fY2 0 (by decide) ?_)
  refine mt_fY3 1 (by decide) (mt_fY1 1 0 (by decide) (by decide) (mt_fY2 1 (by decide) ?_))
  refine mt_fY3 2 (by decide) (mt_fY1 2 0 (by decide) (by decide) (mt_fY1 2 1 (by decide) (by decide) (mt_fY2 2 (by decide) ?_)))
  refine mt_fY3 3 (by decide) (mt_fY1 3 0 (by decide) (by decide) (mt_fY1 3 1 (by decide) (by decide) (mt_fY1 3 2 (by decide) (by decide) (mt_fY2 3 (by decide) ?_))))
  exact br_t mt_4ge h
theorem mt_exc (t : Nat → Int32) (a b : Nat) : mt_ex t a b = mt_ex t b a := by
  funext j
  unfold mt_ex upd
  by_cases h1 : j = a
  · by_cases h2 : j = b
    · subst h1; subst h2; simp
    · rw [if_neg h2, if_pos h1, if_pos h1]
  · by_cases h2 : j = b
    · rw [if_pos h2, if_neg h1, if_pos h2]
    · rw [if_neg h2, if_neg h1, if_neg h1, if_neg h2]
theorem mt_exx (t : Nat → Int32) (a b c d : Nat) (h1 : a ≠ c) (h2 : a ≠ d) (h3 : b ≠ c) (h4 : b ≠ d) : mt_ex (mt_ex t a b) c d = mt_ex (mt_ex t c d) a b := by
  funext j
  unfold mt_ex upd
  simp only [if_neg h1, if_neg h2, if_neg h3, if_neg h4, if_neg (Ne.symm h1), if_neg (Ne.symm h2), if_neg (Ne.symm h3), if_neg (Ne.symm h4)]
  by_cases e1 : j = a
  · subst e1; simp only [if_neg h1, if_neg h2]
  · by_cases e2 : j = b
    · subst e2; simp only [if_neg h3, if_neg h4]
    · simp only [if_neg e1, if_neg e2]
theorem mt_flip (t : Nat → Int32) : mt_ex (mt_ex (mt_ex (mt_ex (mt_ex (mt_ex t 4 1) 8 2) 9 6) 12 3) 13 7) 14 11 = mt_ex (mt_ex (mt_ex (mt_ex (mt_ex (mt_ex t 1 4) 2 8) 3 12) 6 9) 7 13) 11 14 := by
  rw [mt_exc t 4 1, mt_exc _ 8 2, mt_exc _ 9 6, mt_exc _ 12 3, mt_exc _ 13 7, mt_exc _ 14 11, mt_exx _ 6 9 3 12 (by decide) (by decide) (by decide) (by decide)]
theorem i_vc_flip {k : Nat} {u : SX} {v : SY} (I : i_Rel k u v) (hk : k + 4 ≤ 2048) : wpX_flip (fun u' => wpY_flip (fun v' => i_Rel (k + 4) u' v') v) u := by
  obtain ⟨t, s, p, q⟩ := u
  obtain ⟨t', p', w', q', z'⟩ := v
  obtain ⟨e, hw⟩ := I
  cases (e : t = t')
  unfold wpX_flip wpY_flip
  dsimp only
  refine ⟨5, mt_fX ?_⟩
  refine ⟨5, mt_fY ?_⟩
  exact ⟨(mt_flip t).symm, hw⟩
/-! the constructors -/
def mt_cl (w r : Int32) : Int32 := (w >>> ((2 * r) &&& 31)) &&& 3
theorem mt_clY {post : Int32 → Prop} {t p w q z : Nat → Int32} {x y : Int32} (h : post (mt_cl x y)) : wpY_column post (t, p, w, q, z) x y := h
def mt_cm (w : Int32) : Int32 := ((((1 : Int32) <<< (mt_cl w 0 &&& 31)) ||| ((1 : Int32) <<< (mt_cl w 1 &&& 31))) ||| ((1 : Int32) <<< (mt_cl w 2 &&& 31))) ||| ((1 : Int32) <<< (mt_cl w 3 &&& 31))
theorem mt_iwY {post : Int32 → Prop} {t p w q z : Nat → Int32} {x : Int32} (h1 : mt_cm x = 15 → post 1) (h0 : ¬ mt_cm x = 15 → post 0) : wpY_isWay post (t, p, w, q, z) x := by
  unfold wpY_isWay
  dsimp only
  refine mt_clY (mt_clY (mt_clY (mt_clY (nm_e ?_))))
  exact ⟨h1, h0⟩
def mt_cn : Nat → Nat
  | 0 => 0
  | c + 1 => if mt_cm (nI c) = 15 then mt_cn c + 1 else mt_cn c
theorem mt_cn1 : ∀ c, c < 256 → mt_cm (nI c) = 15 → mt_way (mt_cn c) = nI c ∧ mt_cn c < 24 := by decide +kernel
theorem mt_cn2 : mt_cn 256 = 24 := by decide +kernel
theorem mt_inY {post : SY → Prop} {t p w q : Nat → Int32} (h : ∀ z, (∀ j, j < 24 → z j = mt_way j) → post (t, p, w, q, z)) : ∀ (d c : Nat) (z : Nat → Int32), c + d = 256 → (∀ j, j < mt_cn c → z j = mt_way j) → wY_init_47 post (d + 1) (nI (mt_cn c)) (nI c) t p w q z := by
  intro d
  induction d with
  | zero =>
    intro c z hc hz
    cases (hc : c = 256)
    rw [mt_cn2] at hz
    exact br_t (by decide) (h z hz)
  | succ d ih =>
    intro c z hc hz
    refine br_f (nI_ge (b := 256) (by omega) (by decide)) (mt_iwY (fun e => ?_) (fun e => ?_))
    · obtain ⟨g1, g2⟩ := mt_cn1 c (by omega) e
      have en : mt_cn (c + 1) = mt_cn c + 1 := if_pos e
      refine br_f mt_n0 (br_f (nI_ge (b := 24) g2 (by decide)) ⟨vp_in_nI g2 (by decide), nm_e (nm_r (e' := nI (mt_cn (c + 1))) (by rw [en]; exact nI_1 _) (nm_r (nI_1 c) (ih (c + 1) _ (by omega) ?_)))⟩)
      intro j hj
      rw [nI_clamp (n := mt_cn c) (by omega)]
      rw [en] at hj
      by_cases ej : j = mt_cn c
      · subst ej; rw [pk_us]; exact g1.symm
      · rw [pk_un ej]; exact hz j (by omega)
    · have en : mt_cn (c + 1) = mt_cn c := if_neg e
      exact br_t rfl (nm_r (nI_1 c) (by have := ih (c + 1) z (by omega) (by rw [en]; exact hz); rw [en] at this; exact this))
theorem i_vc0 : wpX_init (fun u => wpY_init (fun v => i_Rel 0 u v)) := by
  unfold wpX_init wpY_init
  exact ⟨257, mt_inY (fun z hz => ⟨rfl, hz⟩) 256 0 _ rfl (fun j hj => absurd hj (Nat.not_lt_zero j))⟩
end
section
/-! the component's minors as pure functions, and its walks to them -/
def mt_m2 (w : Nat → Int32) (a b c d : Nat) : Int32 := w (4 * a + c) * w (4 * b + d) - w (4 * a + d) * w (4 * b + c)
def mt_m3 (w : Nat → Int32) (a b c d e f : Nat) : Int32 := w (4 * a + d) * mt_m2 w b c e f - w (4 * a + e) * mt_m2 w b c d f + w (4 * a + f) * mt_m2 w b c d e
def mt_i0 (r : Nat) : Nat := if r = 0 then 1 else 0
def mt_i1 (r : Nat) : Nat := if 1 < r then 1 else 2
def mt_i2 (r : Nat) : Nat := if 2 < r then 2 else 3
def mt_u3 (w : Nat → Int32) (r c : Nat) : Int32 := mt_m3 w (mt_i0 r) (mt_i1 r) (mt_i2 r) (mt_i0 c) (mt_i1 c) (mt_i2 c)
def mt_s3 (w : Nat → Int32) (r c : Nat) : Int32 := if (r + c) % 2 = 0 then mt_u3 w r c else -mt_u3 w r c
def mt_det (w : Nat → Int32) : Int32 := 0 + w 0 * mt_s3 w 0 0 + w 1 * mt_s3 w 0 1 + w 2 * mt_s3 w 0 2 + w 3 * mt_s3 w 0 3
theorem mt_i0l (r : Nat) : mt_i0 r < 4 := by unfold mt_i0; split <;> omega
theorem mt_i1l (r : Nat) : mt_i1 r < 4 := by unfold mt_i1; split <;> omega
theorem mt_i2l (r : Nat) : mt_i2 r < 4 := by unfold mt_i2; split <;> omega
theorem mt_if0 (P : Int32 → Prop) {r : Nat} (hr : r < 4) (h : P (nI (mt_i0 r))) : (nI r = 0 → P 1) ∧ (¬ nI r = 0 → P 0) := by
  unfold mt_i0 at h
  by_cases e : r = 0
  · rw [if_pos e] at h; exact br_t (by rw [e]; rfl) h
  · rw [if_neg e] at h; exact br_f (nI_ne0 (by omega) (by omega)) h
theorem mt_if1 (P : Int32 → Prop) {r : Nat} (hr : r < 4) (h : P (nI (mt_i1 r))) : (1 < nI r → P 1) ∧ (¬ 1 < nI r → P 2) := by
  unfold mt_i1 at h
  by_cases e : 1 < r
  · rw [if_pos e] at h; exact br_t (nI_lt (a := 1) e (by omega)) h
  · rw [if_neg e] at h; exact br_f (nI_nlt (b := r) (a := 1) (by omega) (by omega)) h
theorem mt_if2 (P : Int32 → Prop) {r : Nat} (hr : r < 4) (h : P (nI (mt_i2 r))) : (2 < nI r → P 2) ∧ (¬ 2 < nI r → P 3) := by
  unfold mt_i2 at h
  by_cases e : 2 < r
  · rw [if_pos e] at h; exact br_t (nI_lt (a := 2) e (by omega)) h
  · rw [if_neg e] at h; exact br_f (nI_nlt (b := r) (a := 2) (by omega) (by omega)) h
theorem mt_par {r c : Nat} (hr : r < 4) (hc : c < 4) : (nI r + nI c) - (nI r + nI c) / 2 * 2 = nI ((r + c) % 2) := by
  rw [nI_add]
  exact pk_rem (d := 2) (by omega) (by decide) (by decide)
theorem mt_sg (P : Int32 → Prop) {r c : Nat} {m : Int32} (hr : r < 4) (hc : c < 4) (h : P (if (r + c) % 2 = 0 then m else -m)) : ((nI r + nI c) - (nI r + nI c) / 2 * 2 = 0 → P m) ∧ (¬ (nI r + nI c) - (nI r + nI c) / 2 * 2 = 0 → P (-m)) := by
  rw [mt_par hr hc]
  by_cases e : (r + c) % 2 = 0
  · rw [if_pos e] at h; exact br_t (by rw [e]; rfl) h
  · rw [if_neg e] at h; exact br_f (nI_ne0 (by omega) (by omega)) h
theorem mt_n2 : ¬ (2 : Int32) = 0 := by decide

/-! over table -/
theorem mt_table2 {post : Int32 → Prop} {t s p q : Nat → Int32} {a b c d : Nat} (ha : a < 4) (hb : b < 4) (hc : c < 4) (hd : d < 4) (h : post (mt_m2 t a b c d)) : wpX_minorOfTwo__table post (t, s, p, q) (nI a) (nI b) (nI c) (nI d) := by
  unfold wpX_minorOfTwo__table
  dsimp only
  rw [mt_ix, mt_ix, mt_ix, mt_ix, nI_clamp (n := 4 * a + c) (by omega), nI_clamp (n := 4 * b + d) (by omega), nI_clamp (n := 4 * a + d) (by omega), nI_clamp (n := 4 * b + c) (by omega)]
  exact ⟨vp_in_nI (by omega) (by decide), vp_in_nI (by omega) (by decide), vp_in_nI (by omega) (by decide), vp_in_nI (by omega) (by decide), h⟩
theorem mt_table3 {post : Int32 → Prop} {t s p q : Nat → Int32} {a b c d e f : Nat} (ha : a < 4) (hb : b < 4) (hc : c < 4) (hd : d < 4) (he : e < 4) (hf : f < 4) (h : post (mt_m3 t a b c d e f)) : wpX_minorOfThree__table post (t, s, p, q) (nI a) (nI b) (nI c) (nI d) (nI e) (nI f) := by
  unfold wpX_minorOfThree__table
  dsimp only
  refine mt_table2 hb hc he hf (mt_table2 hb hc hd hf (mt_table2 hb hc hd he ?_))
  rw [mt_ix, mt_ix, mt_ix, nI_clamp (n := 4 * a + d) (by omega), nI_clamp (n := 4 * a + e) (by omega), nI_clamp (n := 4 * a + f) (by omega)]
  exact ⟨vp_in_nI (by omega) (by decide), vp_in_nI (by omega) (by decide), vp_in_nI (by omega) (by decide), h⟩
theorem mt_tables {post : Int32 → Prop} {t s p q : Nat → Int32} {r c : Nat} (hr : r < 4) (hc : c < 4) (h : post (mt_s3 t r c)) : wpX_signedMinor__table post (t, s, p, q) (nI r) (nI c) := by
  refine mt_if0 (fun z => wX_signedMinor__table_9 post (nI r) (nI c) z t s p q) hr ?_
  refine mt_if1 (fun z => wX_signedMinor__table_20 post (nI r) (nI c) (nI (mt_i0 r)) z t s p q) hr ?_
  refine mt_if2 (fun z => wX_signedMinor__table_32 post (nI r) (nI c) (nI (mt_i0 r)) (nI (mt_i1 r)) z t s p q) hr ?_
  refine mt_if0 (fun z => wX_signedMinor__table_43 post (nI r) (nI c) (nI (mt_i0 r)) (nI (mt_i1 r)) (nI (mt_i2 r)) z t s p q) hc ?_
  refine mt_if1 (fun z => wX_signedMinor__table_55 post (nI r) (nI c) (nI (mt_i0 r)) (nI (mt_i1 r)) (nI (mt_i2 r)) (nI (mt_i0 c)) z t s p q) hc ?_
  refine mt_if2 (fun z => wX_signedMinor__table_67 post (nI r) (nI c) (nI (mt_i0 r)) (nI (mt_i1 r)) (nI (mt_i2 r)) (nI (mt_i0 c)) (nI (mt_i1 c)) z t s p q) hc ?_
  unfold wX_signedMinor__table_67
  exact mt_table3 (mt_i0l r) (mt_i1l r) (mt_i2l r) (mt_i0l c) (mt_i1l c) (mt_i2l c) ⟨mt_n2, mt_sg post hr hc h⟩
theorem mt_tabled1 {post : Int32 → Prop} {t s p q : Nat → Int32} {n : Nat} {x : Int32} (j : Nat) (hj : j < 4) (h : wX_fullDeterminant__table_4 post t s p q n (x + t j * mt_s3 t 0 j) (nI (j + 1))) : wX_fullDeterminant__table_4 post t s p q (n + 1) x (nI j) :=
  br_f (mt_4lt hj) ⟨vp_in_nI (by omega) (by decide), mt_tables (r := 0) (by decide) hj (nm_r (by rw [nI_clamp (n := j) (by omega)]) (nm_r (nI_1 j) h))⟩
theorem mt_tabled {post : Int32 → Prop} {t s p q : Nat → Int32} (h : post (mt_det t)) : wpX_fullDeterminant__table post (t, s, p, q) := by
  unfold wpX_fullDeterminant__table
  dsimp only
  refine ⟨5, mt_tabled1 0 (by decide) (mt_tabled1 1 (by decide) (mt_tabled1 2 (by decide) (mt_tabled1 3 (by decide) ?_)))⟩
  exact br_t mt_4ge h

/-! over shifted -/
theorem mt_shifted2 {post : Int32 → Prop} {t s p q : Nat → Int32} {a b c d : Nat} (ha : a < 4) (hb : b < 4) (hc : c < 4) (hd : d < 4) (h : post (mt_m2 s a b c d)) : wpX_minorOfTwo__shifted post (t, s, p, q) (nI a) (nI b) (nI c) (nI d) := by
  unfold wpX_minorOfTwo__shifted
  dsimp only
  rw [mt_ix, mt_ix, mt_ix, mt_ix, nI_clamp (n := 4 * a + c) (by omega), nI_clamp (n := 4 * b + d) (by omega), nI_clamp (n := 4 * a + d) (by omega), nI_clamp (n := 4 * b + c) (by omega)]
  exact ⟨vp_in_nI (by omega) (by decide), vp_in_nI (by omega) (by decide), vp_in_nI (by omega) (by decide), vp_in_nI (by omega) (by decide), h⟩
theorem mt_shifted3 {post : Int32 → Prop} {t s p q : Nat → Int32} {a b c d e f : Nat} (ha : a < 4) (hb : b < 4) (hc : c < 4) (hd : d < 4) (he : e < 4) (hf : f < 4) (h : post (mt_m3 s a b c d e f)) : wpX_minorOfThree__shifted post (t, s, p, q) (nI a) (nI b) (nI c) (nI d) (nI e) (nI f) := by
  unfold wpX_minorOfThree__shifted
  dsimp only
  refine mt_shifted2 hb hc he hf (mt_shifted2 hb hc hd hf (mt_shifted2 hb hc hd he ?_))
  rw [mt_ix, mt_ix, mt_ix, nI_clamp (n := 4 * a + d) (by omega), nI_clamp (n := 4 * a + e) (by omega), nI_clamp (n := 4 * a + f) (by omega)]
  exact ⟨vp_in_nI (by omega) (by decide), vp_in_nI (by omega) (by decide), vp_in_nI (by omega) (by decide), h⟩
theorem mt_shifteds {post : Int32 → Prop} {t s p q : Nat → Int32} {r c : Nat} (hr : r < 4) (hc : c < 4) (h : post (mt_s3 s r c)) : wpX_signedMinor__shifted post (t, s, p, q) (nI r) (nI c) := by
  refine mt_if0 (fun z => wX_signedMinor__shifted_9 post (nI r) (nI c) z t s p q) hr ?_
  refine mt_if1 (fun z => wX_signedMinor__shifted_20 post (nI r) (nI c) (nI (mt_i0 r)) z t s p q) hr ?_
  refine mt_if2 (fun z => wX_signedMinor__shifted_32 post (nI r) (nI c) (nI (mt_i0 r)) (nI (mt_i1 r)) z t s p q) hr ?_
  refine mt_if0 (fun z => wX_signedMinor__shifted_43 post (nI r) (nI c) (nI (mt_i0 r)) (nI (mt_i1 r)) (nI (mt_i2 r)) z t s p q) hc ?_
  refine mt_if1 (fun z => wX_signedMinor__shifted_55 post (nI r) (nI c) (nI (mt_i0 r)) (nI (mt_i1 r)) (nI (mt_i2 r)) (nI (mt_i0 c)) z t s p q) hc ?_
  refine mt_if2 (fun z => wX_signedMinor__shifted_67 post (nI r) (nI c) (nI (mt_i0 r)) (nI (mt_i1 r)) (nI (mt_i2 r)) (nI (mt_i0 c)) (nI (mt_i1 c)) z t s p q) hc ?_
  unfold wX_signedMinor__shifted_67
  exact mt_shifted3 (mt_i0l r) (mt_i1l r) (mt_i2l r) (mt_i0l c) (mt_i1l c) (mt_i2l c) ⟨mt_n2, mt_sg post hr hc h⟩
theorem mt_shiftedd1 {post : Int32 → Prop} {t s p q : Nat → Int32} {n : Nat} {x : Int32} (j : Nat) (hj : j < 4) (h : wX_fullDeterminant__shifted_4 post t s p q n (x + s j * mt_s3 s 0 j) (nI (j + 1))) : wX_fullDeterminant__shifted_4 post t s p q (n + 1) x (nI j) :=
  br_f (mt_4lt hj) ⟨vp_in_nI (by omega) (by decide), mt_shifteds (r := 0) (by decide) hj (nm_r (by rw [nI_clamp (n := j) (by omega)]) (nm_r (nI_1 j) h))⟩
theorem mt_shiftedd {post : Int32 → Prop} {t s p q : Nat → Int32} (h : post (mt_det s)) : wpX_fullDeterminant__shifted post (t, s, p, q) := by
  unfold wpX_fullDeterminant__shifted
  dsimp only
  refine ⟨5, mt_shiftedd1 0 (by decide) (mt_shiftedd1 1 (by decide) (mt_shiftedd1 2 (by decide) (mt_shiftedd1 3 (by decide) ?_)))⟩
  exact br_t mt_4ge h

/-! the sums over the table -/
def mt_e3 (w : Nat → Int32) : Int32 := 0 + mt_s3 w 0 0 + mt_s3 w 1 1 + mt_s3 w 2 2 + mt_s3 w 3 3
def mt_e2 (w : Nat → Int32) : Int32 := 0 + mt_m2 w 0 1 0 1 + mt_m2 w 0 2 0 2 + mt_m2 w 0 3 0 3 + mt_m2 w 1 2 1 2 + mt_m2 w 1 3 1 3 + mt_m2 w 2 3 2 3
def mt_e1 (w : Nat → Int32) : Int32 := 0 + w 0 + w 5 + w 10 + w 15
theorem mt_e3X1 {post : Int32 → Prop} {t s p q : Nat → Int32} {n : Nat} {x : Int32} (j : Nat) (hj : j < 4) (h : wX_sumOfDiagonalThrees_4 post t s p q n (x + mt_s3 t j j) (nI (j + 1))) : wX_sumOfDiagonalThrees_4 post t s p q (n + 1) x (nI j) :=
  br_f (mt_4lt hj) (mt_tables hj hj (nm_e (nm_r (nI_1 j) h)))
theorem mt_e3X {post : Int32 → Prop} {t s p q : Nat → Int32} (h : post (mt_e3 t)) : wpX_sumOfDiagonalThrees post (t, s, p, q) := by
  unfold wpX_sumOfDiagonalThrees
  dsimp only
  refine ⟨5, mt_e3X1 0 (by decide) (mt_e3X1 1 (by decide) (mt_e3X1 2 (by decide) (mt_e3X1 3 (by decide) ?_)))⟩
  exact br_t mt_4ge h
theorem mt_e2X1 {post : Int32 → Prop} {J : Int32 → Int32 → Prop} {t s p q : Nat → Int32} {n : Nat} {x : Int32} (i j : Nat) (hi : i < 4) (hj : j < 4) (h : wX_sumOfDiagonalTwos_13 post J (nI i) t s p q n (x + mt_m2 t i j i j) (nI (j + 1))) : wX_sumOfDiagonalTwos_13 post J (nI i) t s p q (n + 1) x (nI j) :=
  br_f (mt_4lt hj) (mt_table2 hi hj hi hj (nm_e (nm_r (nI_1 j) h)))
theorem mt_e2X2 {post : Int32 → Prop} {J : Int32 → Int32 → Prop} {t s p q : Nat → Int32} {n : Nat} {x : Int32} (i : Nat) (h : J x (nI (i + 1))) : wX_sumOfDiagonalTwos_13 post J (nI i) t s p q (n + 1) x (nI 4) :=
  br_t mt_4ge (nm_r (nI_1 i) h)
theorem mt_e2X3 {post : Int32 → Prop} {t s p q : Nat → Int32} {n : Nat} {x : Int32} (i : Nat) (hi : i < 4) (h : wX_sumOfDiagonalTwos_13 post (wX_sumOfDiagonalTwos_4 post t s p q n) (nI i) t s p q 5 x (nI (i + 1))) : wX_sumOfDiagonalTwos_4 post t s p q (n + 1) x (nI i) :=
  br_f (mt_4lt hi) (nm_r (nI_1 i) ⟨5, h⟩)
theorem mt_e2X {post : Int32 → Prop} {t s p q : Nat → Int32} (h : post (mt_e2 t)) : wpX_sumOfDiagonalTwos post (t, s, p, q) := by
  unfold wpX_sumOfDiagonalTwos
  dsimp only
  refine ⟨5, mt_e2X3 0 (by decide) (mt_e2X1 0 1 (by decide) (by decide) (mt_e2X1 0 2 (by decide) (by decide) (mt_e2X1 0 3 (by decide) (by decide) (mt_e2X2 0 ?_))))⟩
  refine mt_e2X3 1 (by decide) (mt_e2X1 1 2 (by decide) (by decide) (mt_e2X1 1 3 (by decide) (by decide) (mt_e2X2 1 ?_)))
  refine mt_e2X3 2 (by decide) (mt_e2X1 2 3 (by decide) (by decide) (mt_e2X2 2 ?_))
  refine mt_e2X3 3 (by decide) (mt_e2X2 3 ?_)
  exact br_t mt_4ge h

theorem mt_tablet1 {post : Int32 → Prop} {t s p q : Nat → Int32} {n : Nat} {x : Int32} (j : Nat) (hj : j < 4) (h : wX_diagonalSum__table_4 post t s p q n (x + t (5 * j)) (nI (j + 1))) : wX_diagonalSum__table_4 post t s p q (n + 1) x (nI j) := by
  have e : (4 : Int32) * nI j + nI j = nI (5 * j) := by rw [mt_ix]; exact congrArg nI (by omega)
  refine br_f (mt_4lt hj) ?_
  rw [e, nI_clamp (n := 5 * j) (by omega)]
  exact ⟨vp_in_nI (by omega) (by decide), nm_e (nm_r (nI_1 j) h)⟩
theorem mt_tablet {post : Int32 → Prop} {t s p q : Nat → Int32} (h : post (mt_e1 t)) : wpX_diagonalSum__table post (t, s, p, q) := by
  unfold wpX_diagonalSum__table
  dsimp only
  refine ⟨5, mt_tablet1 0 (by decide) (mt_tablet1 1 (by decide) (mt_tablet1 2 (by decide) (mt_tablet1 3 (by decide) ?_)))⟩
  exact br_t mt_4ge h

theorem mt_powert1 {post : Int32 → Prop} {t s p q : Nat → Int32} {n : Nat} {x : Int32} (j : Nat) (hj : j < 4) (h : wX_diagonalSum__power_4 post t s p q n (x + p (5 * j)) (nI (j + 1))) : wX_diagonalSum__power_4 post t s p q (n + 1) x (nI j) := by
  have e : (4 : Int32) * nI j + nI j = nI (5 * j) := by rw [mt_ix]; exact congrArg nI (by omega)
  refine br_f (mt_4lt hj) ?_
  rw [e, nI_clamp (n := 5 * j) (by omega)]
  exact ⟨vp_in_nI (by omega) (by decide), nm_e (nm_r (nI_1 j) h)⟩
theorem mt_powert {post : Int32 → Prop} {t s p q : Nat → Int32} (h : post (mt_e1 p)) : wpX_diagonalSum__power post (t, s, p, q) := by
  unfold wpX_diagonalSum__power
  dsimp only
  refine ⟨5, mt_powert1 0 (by decide) (mt_powert1 1 (by decide) (mt_powert1 2 (by decide) (mt_powert1 3 (by decide) ?_)))⟩
  exact br_t mt_4ge h

/-! the shifted table, on each side -/
def mt_sh (t : Nat → Int32) (x : Int32) (j : Nat) : Int32 := if j % 5 = 0 then t j - x else t j
theorem mt_td2 {post : SX → Prop} {t p q : Nat → Int32} {x : Int32} (h : ∀ s, (∀ j, j < 16 → s j = mt_sh t x j) → post (t, s, p, q)) : ∀ (d i : Nat) (s : Nat → Int32), i + d = 4 → (∀ j, j < 16 → s j = if j < 5 * i then mt_sh t x j else t j) → wX_takeOffDiagonal_28 post x (d + 1) (nI i) t s p q := by
  intro d
  induction d with
  | zero =>
    intro i s hi hs
    cases (hi : i = 4)
    exact br_t mt_4ge (h s (fun j hj => by rw [hs j hj, if_pos (show j < 5 * 4 by omega)]))
  | succ d ih =>
    intro i s hi hs
    have e : (4 : Int32) * nI i + nI i = nI (5 * i) := by rw [mt_ix]; exact congrArg nI (by omega)
    refine br_f (mt_4lt (by omega)) ?_
    rw [e, nI_clamp (n := 5 * i) (by omega)]
    have ii := vp_in_nI (n := 5 * i) (N := 16) (by omega) (by decide)
    refine ⟨ii, ii, nm_e (nm_r (nI_1 i) (ih (i + 1) _ (by omega) ?_))⟩
    intro j hj
    by_cases ej : j = 5 * i
    · subst ej
      rw [pk_us, hs _ hj, if_neg (by omega), if_pos (by omega)]
      unfold mt_sh
      rw [if_pos (by omega)]
    · rw [pk_un ej, hs j hj]
      by_cases g : j < 5 * i
      · rw [if_pos g, if_pos (by omega)]
      · rw [if_neg g]
        by_cases g2 : j < 5 * (i + 1)
        · rw [if_pos g2]; unfold mt_sh; rw [if_neg (by omega)]
        · rw [if_neg g2]
theorem mt_td1 {post : SX → Prop} {t p q : Nat → Int32} {x : Int32} (h : ∀ s, (∀ j, j < 16 → s j = mt_sh t x j) → post (t, s, p, q)) : ∀ (d i : Nat) (s : Nat → Int32), i + d = 16 → (∀ j, j < i → s j = t j) → wX_takeOffDiagonal_2 post x (d + 1) (nI i) t s p q := by
  intro d
  induction d with
  | zero =>
    intro i s hi hs
    cases (hi : i = 16)
    exact br_t mt_16ge ⟨5, mt_td2 h 4 0 s rfl (fun j hj => by rw [if_neg (by omega), hs j hj])⟩
  | succ d ih =>
    intro i s hi hs
    have ii := vp_in_nI (n := i) (N := 16) (by omega) (by decide)
    refine br_f (mt_16lt (by omega)) ⟨ii, ii, nm_e (nm_r (nI_1 i) (ih (i + 1) _ (by omega) ?_))⟩
    intro j hj
    rw [nI_clamp (n := i) (by omega)]
    by_cases ej : j = i
    · subst ej; rw [pk_us]
    · rw [pk_un ej]; exact hs j (by omega)
theorem mt_td {post : SX → Prop} {t s p q : Nat → Int32} {x : Int32} (h : ∀ s, (∀ j, j < 16 → s j = mt_sh t x j) → post (t, s, p, q)) : wpX_takeOffDiagonal post (t, s, p, q) x := by
  unfold wpX_takeOffDiagonal
  dsimp only
  exact ⟨17, mt_td1 h 16 0 s rfl (fun j hj => absurd hj (Nat.not_lt_zero j))⟩
theorem mt_rem5 {i : Nat} (h : i < 16) : nI i - nI i / 5 * 5 = nI (i % 5) := pk_rem (d := 5) (by omega) (by decide) (by decide)
theorem mt_n5 : ¬ (5 : Int32) = 0 := by decide
theorem mt_ld1 {post : SY → Prop} {t p q z : Nat → Int32} {x : Int32} (h : ∀ w, (∀ j, j < 16 → w j = mt_sh t x j) → post (t, p, w, q, z)) : ∀ (d i : Nat) (w : Nat → Int32), i + d = 16 → (∀ j, j < i → w j = mt_sh t x j) → wY_load_2 post x (d + 1) (nI i) t p w q z := by
  intro d
  induction d with
  | zero =>
    intro i w hi hs
    cases (hi : i = 16)
    exact br_t mt_16ge (h w hs)
  | succ d ih =>
    intro i w hi hs
    have ii := vp_in_nI (n := i) (N := 16) (by omega) (by decide)
    refine br_f (mt_16lt (by omega)) ?_
    rw [mt_rem5 (i := i) (by omega), nI_clamp (n := i) (by omega)]
    refine ⟨ii, mt_n5, ?_⟩
    by_cases e : i % 5 = 0
    · refine br_t (by rw [e]; rfl) ⟨ii, nm_e (nm_r (nI_1 i) (ih (i + 1) _ (by omega) ?_))⟩
      intro j hj
      by_cases ej : j = i
      · subst ej; rw [pk_us]; unfold mt_sh; rw [if_pos e]
      · rw [pk_un ej]; exact hs j (by omega)
    · refine br_f (nI_ne0 (by omega) (by omega)) ⟨ii, nm_e (nm_r (nI_1 i) (ih (i + 1) _ (by omega) ?_))⟩
      intro j hj
      by_cases ej : j = i
      · subst ej; rw [pk_us]; unfold mt_sh; rw [if_neg e, Int32.sub_zero]
      · rw [pk_un ej]; exact hs j (by omega)
theorem mt_ld {post : SY → Prop} {t p w q z : Nat → Int32} {x : Int32} (h : ∀ w, (∀ j, j < 16 → w j = mt_sh t x j) → post (t, p, w, q, z)) : wpY_load post (t, p, w, q, z) x := by
  unfold wpY_load
  dsimp only
  exact ⟨17, mt_ld1 h 16 0 w rfl (fun j hj => absurd hj (Nat.not_lt_zero j))⟩
theorem mt_sh0 (t : Nat → Int32) (j : Nat) : mt_sh t 0 j = t j := by
  unfold mt_sh
  split
  · exact Int32.sub_zero _
  · rfl
/-! what lies beyond the sixteenth place does not count -/
theorem mt_c2 {w v : Nat → Int32} (h : ∀ j, j < 16 → w j = v j) {a b c d : Nat} (ha : a < 4) (hb : b < 4) (hc : c < 4) (hd : d < 4) : mt_m2 w a b c d = mt_m2 v a b c d := by
  unfold mt_m2
  rw [h (4 * a + c) (by omega), h (4 * b + d) (by omega), h (4 * a + d) (by omega), h (4 * b + c) (by omega)]
theorem mt_c3 {w v : Nat → Int32} (h : ∀ j, j < 16 → w j = v j) {a b c d e f : Nat} (ha : a < 4) (hb : b < 4) (hc : c < 4) (hd : d < 4) (he : e < 4) (hf : f < 4) : mt_m3 w a b c d e f = mt_m3 v a b c d e f := by
  unfold mt_m3
  rw [h (4 * a + d) (by omega), h (4 * a + e) (by omega), h (4 * a + f) (by omega), mt_c2 h hb hc he hf, mt_c2 h hb hc hd hf, mt_c2 h hb hc hd he]
theorem mt_cu {w v : Nat → Int32} (h : ∀ j, j < 16 → w j = v j) (r c : Nat) : mt_u3 w r c = mt_u3 v r c :=
  mt_c3 h (mt_i0l r) (mt_i1l r) (mt_i2l r) (mt_i0l c) (mt_i1l c) (mt_i2l c)
theorem mt_cs {w v : Nat → Int32} (h : ∀ j, j < 16 → w j = v j) (r c : Nat) : mt_s3 w r c = mt_s3 v r c := by
  unfold mt_s3
  rw [mt_cu h]
theorem mt_cd {w v : Nat → Int32} (h : ∀ j, j < 16 → w j = v j) : mt_det w = mt_det v := by
  unfold mt_det
  rw [mt_cs h, mt_cs h, mt_cs h, mt_cs h, h 0 (by decide), h 1 (by decide), h 2 (by decide), h 3 (by decide)]
end
section
/-! the reference's sign, keeps and minor: pure pictures and the walks to them -/
def mt_bit (m r : Int32) : Bool := decide (((m >>> (r &&& 31)) &&& 1) = 1)
theorem mt_clN (w r : Int32) : ∃ m : Nat, m < 4 ∧ mt_cl w r = nI m := pk_andE _ 2 (by decide)
/-- one pair of rows -/
def mt_sgs (way rows : Int32) (i j : Nat) (s : Int32) : Int32 := if mt_bit rows (nI i) = true ∧ mt_bit rows (nI j) = true ∧ ¬ mt_cl way (nI i) ≤ mt_cl way (nI j) then -s else s
def mt_sgw (way rows : Int32) : Int32 := mt_sgs way rows 2 3 (mt_sgs way rows 1 3 (mt_sgs way rows 1 2 (mt_sgs way rows 0 3 (mt_sgs way rows 0 2 (mt_sgs way rows 0 1 1)))))
theorem mt_sg1 {post : Int32 → Prop} {J : Int32 → Int32 → Prop} {t p w q z : Nat → Int32} {way rows x : Int32} {n : Nat} (i j : Nat) (hj : j < 4) (h : wY_signWithin_17 post J way rows (nI i) t p w q z n (mt_sgs way rows i j x) (nI (j + 1))) : wY_signWithin_17 post J way rows (nI i) t p w q z (n + 1) x (nI j) := by
  refine br_f (mt_4lt hj) ?_
  unfold mt_sgs mt_bit at h
  by_cases e1 : ((rows >>> (nI i &&& 31)) &&& 1) = 1
  · refine br_t e1 ?_
    by_cases e2 : ((rows >>> (nI j &&& 31)) &&& 1) = 1
    · refine br_t e2 ?_
      refine br_f (by decide) (mt_clY (mt_clY ?_))
      by_cases e3 : mt_cl way (nI i) ≤ mt_cl way (nI j)
      · rw [if_neg (fun g => g.2.2 e3)] at h
        exact br_t e3 (nm_r (nI_1 j) h)
      · rw [if_pos ⟨decide_eq_true e1, decide_eq_true e2, e3⟩] at h
        exact br_f e3 (nm_e (nm_r (nI_1 j) h))
    · rw [if_neg (fun g => e2 (of_decide_eq_true g.2.1))] at h
      exact br_f e2 (br_t rfl (nm_r (nI_1 j) h))
  · rw [if_neg (fun g => e1 (of_decide_eq_true g.1))] at h
    exact br_f e1 (br_t rfl (nm_r (nI_1 j) h))
theorem mt_sg2 {post : Int32 → Prop} {J : Int32 → Int32 → Prop} {t p w q z : Nat → Int32} {way rows x : Int32} {n : Nat} (i : Nat) (h : J x (nI (i + 1))) : wY_signWithin_17 post J way rows (nI i) t p w q z (n + 1) x (nI 4) :=
  br_t mt_4ge (nm_r (nI_1 i) h)
theorem mt_sg3 {post : Int32 → Prop} {t p w q z : Nat → Int32} {way rows x : Int32} {n : Nat} (i : Nat) (hi : i < 4) (h : wY_signWithin_17 post (wY_signWithin_5 post way rows t p w q z n) way rows (nI i) t p w q z 5 x (nI (i + 1))) : wY_signWithin_5 post way rows t p w q z (n + 1) x (nI i) :=
  br_f (mt_4lt hi) (nm_r (nI_1 i) ⟨5, h⟩)
theorem mt_sgY {post : Int32 → Prop} {t p w q z : Nat → Int32} {way rows : Int32} (h : post (mt_sgw way rows)) : wpY_signWithin post (t, p, w, q, z) way rows := by
  unfold wpY_signWithin
  dsimp only
  refine ⟨5, mt_sg3 0 (by decide) (mt_sg1 0 1 (by decide) (mt_sg1 0 2 (by decide) (mt_sg1 0 3 (by decide) (mt_sg2 0 ?_))))⟩
  refine mt_sg3 1 (by decide) (mt_sg1 1 2 (by decide) (mt_sg1 1 3 (by decide) (mt_sg2 1 ?_)))
  refine mt_sg3 2 (by decide) (mt_sg1 2 3 (by decide) (mt_sg2 2 ?_))
  refine mt_sg3 3 (by decide) (mt_sg2 3 ?_)
  exact br_t mt_4ge h
/-- is the way kept, from row i on -/
def mt_kp (way rows cols : Int32) : Nat → Nat → Int32 → Bool
  | 0, _, _ => true
  | d + 1, i, last =>
    if mt_bit rows (nI i) = mt_bit cols (mt_cl way (nI i)) then
      (if mt_bit rows (nI i) = true then mt_kp way rows cols d (i + 1) last
       else if last ≤ mt_cl way (nI i) then mt_kp way rows cols d (i + 1) (mt_cl way (nI i)) else false)
    else false
def mt_b01 (b : Bool) : Int32 := if b = true then 1 else 0
theorem mt_kp1 {post : Int32 → Prop} {t p w q z : Nat → Int32} {way rows cols : Int32} : ∀ (d i : Nat) (last : Int32), i + d = 4 → post (mt_b01 (mt_kp way rows cols d i last)) → wY_keeps_6 post way rows cols t p w q z (d + 1) last (nI i) := by
  intro d
  induction d with
  | zero =>
    intro i last hi h
    cases (hi : i = 4)
    exact br_t mt_4ge h
  | succ d ih =>
    intro i last hi h
    refine br_f (mt_4lt (by omega)) (mt_clY ?_)
    unfold mt_kp at h
    by_cases e1 : ((rows >>> (nI i &&& 31)) &&& 1) = 1
    · have b1 : mt_bit rows (nI i) = true := decide_eq_true e1
      rw [b1] at h
      refine br_t e1 ?_
      by_cases e2 : ((cols >>> (mt_cl way (nI i) &&& 31)) &&& 1) = 1
      · have b2 : mt_bit cols (mt_cl way (nI i)) = true := decide_eq_true e2
        rw [b2, if_pos rfl, if_pos rfl] at h
        exact br_t e2 (br_t rfl (br_f (by decide) (br_f (by decide) (nm_r (nI_1 i) (ih (i + 1) last (by omega) h)))))
      · have b2 : mt_bit cols (mt_cl way (nI i)) = false := decide_eq_false e2
        rw [b2, if_neg (by decide)] at h
        exact br_f e2 (br_f (by decide) h)
    · have b1 : mt_bit rows (nI i) = false := decide_eq_false e1
      rw [b1] at h
      refine br_f e1 ?_
      by_cases e2 : ((cols >>> (mt_cl way (nI i) &&& 31)) &&& 1) = 1
      · have b2 : mt_bit cols (mt_cl way (nI i)) = true := decide_eq_true e2
        rw [b2, if_neg (by decide)] at h
        exact br_t e2 (br_f (by decide) h)
      · have b2 : mt_bit cols (mt_cl way (nI i)) = false := decide_eq_false e2
        rw [b2, if_pos rfl, if_neg (by decide)] at h
        refine br_f e2 (br_t rfl (br_t rfl ?_))
        by_cases e3 : last ≤ mt_cl way (nI i)
        · rw [if_pos e3] at h
          exact br_t e3 (br_t rfl (nm_r (nI_1 i) (ih (i + 1) _ (by omega) h)))
        · rw [if_neg e3] at h
          exact br_f e3 h
theorem mt_kpY {post : Int32 → Prop} {t p w q z : Nat → Int32} {way rows cols : Int32} (h : post (mt_b01 (mt_kp way rows cols 4 0 (-1)))) : wpY_keeps post (t, p, w, q, z) way rows cols := by
  unfold wpY_keeps
  dsimp only
  exact ⟨5, mt_kp1 4 0 (-1) rfl h⟩
/-- the places of a way within the rows, from row i on -/
def mt_il (way rows : Int32) : Nat → Nat → List Nat
  | 0, _ => []
  | d + 1, i => if mt_bit rows (nI i) = true then (4 * i + (mt_cl way (nI i)).toNatClampNeg) :: mt_il way rows d (i + 1) else mt_il way rows d (i + 1)
def mt_pf (w : Nat → Int32) (x : Int32) (l : List Nat) : Int32 := l.foldl (fun p j => p * w j) x
theorem mt_mn1 {post : Int32 → Prop} {J : Int32 → Int32 → Prop} {t p w q z : Nat → Int32} {way rows cols x3 : Int32} {k : Nat} : ∀ (d i : Nat) (x : Int32), i + d = 4 → J (x3 + mt_pf w x (mt_il way rows d i)) (nI (k + 1)) → wY_minor_44 post J rows cols x3 (nI k) way t p w q z (d + 1) x (nI i) := by
  intro d
  induction d with
  | zero =>
    intro i x hi h
    cases (hi : i = 4)
    exact br_t mt_4ge (nm_e (nm_r (nI_1 k) h))
  | succ d ih =>
    intro i x hi h
    refine br_f (mt_4lt (by omega)) ?_
    unfold mt_il at h
    by_cases e1 : ((rows >>> (nI i &&& 31)) &&& 1) = 1
    · rw [if_pos (show mt_bit rows (nI i) = true from decide_eq_true e1)] at h
      refine br_t e1 (mt_clY ?_)
      obtain ⟨m, hm, em⟩ := mt_clN way (nI i)
      rw [em, nI_clamp (n := m) (by omega)] at h
      rw [em, mt_iy, nI_clamp (n := 4 * i + m) (by omega)]
      exact ⟨vp_in_nI (by omega) (by decide), nm_e (nm_r (nI_1 i) (ih (i + 1) _ (by omega) h))⟩
    · rw [if_neg (show ¬ mt_bit rows (nI i) = true from fun g => e1 (of_decide_eq_true g))] at h
      exact br_f e1 (nm_r (nI_1 i) (ih (i + 1) x (by omega) h))
def mt_mn (w : Nat → Int32) (rows cols : Int32) : Nat → Int32
  | 0 => 0
  | k + 1 => if mt_kp (mt_way k) rows cols 4 0 (-1) = true then mt_mn w rows cols k + mt_pf w (mt_sgw (mt_way k) rows) (mt_il (mt_way k) rows 4 0) else mt_mn w rows cols k
theorem mt_mn2 {post : Int32 → Prop} {t p w q z : Nat → Int32} {rows cols : Int32} (hz : ∀ j, j < 24 → z j = mt_way j) (h : post (mt_mn w rows cols 24)) : ∀ d k : Nat, k + d = 24 → wY_minor_5 post rows cols t p w q z (d + 1) (mt_mn w rows cols k) (nI k) := by
  intro d
  induction d with
  | zero =>
    intro k hk
    cases (hk : k = 24)
    exact br_t (by decide) h
  | succ d ih =>
    intro k hk
    have g := ih (k + 1) (by omega)
    refine br_f (nI_ge (b := 24) (by omega) (by decide)) ⟨vp_in_nI (by omega) (by decide), nm_r (e' := mt_way k) (by rw [nI_clamp (n := k) (by omega)]; exact hz k (by omega)) (mt_kpY ?_)⟩
    unfold mt_mn at g
    by_cases e : mt_kp (mt_way k) rows cols 4 0 (-1) = true
    · rw [if_pos e] at g
      rw [e]
      exact br_f (by decide) (mt_sgY ⟨5, mt_mn1 4 0 _ rfl g⟩)
    · rw [if_neg e] at g
      rw [Bool.eq_false_iff.mpr e]
      exact br_t rfl (nm_r (nI_1 k) g)
theorem mt_mnY {post : Int32 → Prop} {t p w q z : Nat → Int32} {rows cols : Int32} (hz : ∀ j, j < 24 → z j = mt_way j) (h : post (mt_mn w rows cols 24)) : wpY_minor post (t, p, w, q, z) rows cols := by
  unfold wpY_minor
  dsimp only
  exact ⟨25, mt_mn2 hz h 24 0 rfl⟩
/-- the kept ways as a closed list -/
def mt_ls (rows cols : Int32) : Nat → List (Int32 × List Nat)
  | 0 => []
  | k + 1 => if mt_kp (mt_way k) rows cols 4 0 (-1) = true then mt_ls rows cols k ++ [(mt_sgw (mt_way k) rows, mt_il (mt_way k) rows 4 0)] else mt_ls rows cols k
def mt_lf (w : Nat → Int32) (l : List (Int32 × List Nat)) : Int32 := l.foldl (fun s e => s + mt_pf w e.1 e.2) 0
theorem mt_mnL (w : Nat → Int32) (rows cols : Int32) : ∀ k, mt_mn w rows cols k = mt_lf w (mt_ls rows cols k) := by
  intro k
  induction k with
  | zero => rfl
  | succ k ih =>
    unfold mt_mn mt_ls
    by_cases e : mt_kp (mt_way k) rows cols 4 0 (-1) = true
    · rw [if_pos e, if_pos e, ih]
      unfold mt_lf
      rw [List.foldl_append]
      rfl
    · rw [if_neg e, if_neg e, ih]
/-! the closed lists -/
theorem mt_t1 : ∀ r, r < 4 → ∀ c, c < 4 → mt_ls (nI (2 ^ r)) (nI (2 ^ c)) 24 = [(1, [4 * r + c])] := by decide +kernel
theorem mt_t2f : ∀ a b c d : Fin 4, a.val < b.val → c.val < d.val → mt_ls (nI (2 ^ a.val + 2 ^ b.val)) (nI (2 ^ c.val + 2 ^ d.val)) 24 = [(-1, [4 * a.val + d.val, 4 * b.val + c.val]), (1, [4 * a.val + c.val, 4 * b.val + d.val])] := by decide +kernel
theorem mt_t2 {a b c d : Nat} (ha : a < b) (hb : b < 4) (hc : c < d) (hd : d < 4) : mt_ls (nI (2 ^ a + 2 ^ b)) (nI (2 ^ c + 2 ^ d)) 24 = [(-1, [4 * a + d, 4 * b + c]), (1, [4 * a + c, 4 * b + d])] := mt_t2f ⟨a, by omega⟩ ⟨b, hb⟩ ⟨c, by omega⟩ ⟨d, hd⟩ ha hc
theorem mt_t3 : ∀ r, r < 4 → ∀ c, c < 4 → mt_ls (nI (15 - 2 ^ r)) (nI (15 - 2 ^ c)) 24 = [(-1, [4 * mt_i0 r + mt_i2 c, 4 * mt_i1 r + mt_i1 c, 4 * mt_i2 r + mt_i0 c]), (1, [4 * mt_i0 r + mt_i1 c, 4 * mt_i1 r + mt_i2 c, 4 * mt_i2 r + mt_i0 c]), (1, [4 * mt_i0 r + mt_i2 c, 4 * mt_i1 r + mt_i0 c, 4 * mt_i2 r + mt_i1 c]), (-1, [4 * mt_i0 r + mt_i0 c, 4 * mt_i1 r + mt_i2 c, 4 * mt_i2 r + mt_i1 c]), (-1, [4 * mt_i0 r + mt_i1 c, 4 * mt_i1 r + mt_i0 c, 4 * mt_i2 r + mt_i2 c]), (1, [4 * mt_i0 r + mt_i0 c, 4 * mt_i1 r + mt_i1 c, 4 * mt_i2 r + mt_i2 c])] := by decide +kernel
theorem mt_t4 : mt_ls 15 15 24 = [(1, [3, 6, 9, 12]), (-1, [2, 7, 9, 12]), (-1, [3, 5, 10, 12]), (1, [1, 7, 10, 12]), (1, [2, 5, 11, 12]), (-1, [1, 6, 11, 12]), (-1, [3, 6, 8, 13]), (1, [2, 7, 8, 13]), (1, [3, 4, 10, 13]), (-1, [0, 7, 10, 13]), (-1, [2, 4, 11, 13]), (1, [0, 6, 11, 13]), (1, [3, 5, 8, 14]), (-1, [1, 7, 8, 14]), (-1, [3, 4, 9, 14]), (1, [0, 7, 9, 14]), (1, [1, 4, 11, 14]), (-1, [0, 5, 11, 14]), (-1, [2, 5, 8, 15]), (1, [1, 6, 8, 15]), (1, [2, 4, 9, 15]), (-1, [0, 6, 9, 15]), (-1, [1, 4, 10, 15]), (1, [0, 5, 10, 15])] := by decide +kernel
end
section
/-! the minors of the reference are the component's -/
theorem mt_r2 (a b c d : Int32) : 0 + -1 * b * c + 1 * a * d = a * d - b * c := by grind
theorem mt_r3 (a b c d e f g h i : Int32) : 0 + -1 * c * e * g + 1 * b * f * g + 1 * c * d * h + -1 * a * f * h + -1 * b * d * i + 1 * a * e * i = a * (e * i - f * h) - b * (d * i - f * g) + c * (d * h - e * g) := by grind
theorem mt_r4 (x0 x1 x2 x3 x4 x5 x6 x7 x8 x9 x10 x11 x12 x13 x14 x15 : Int32) : 0 + 1 * x3 * x6 * x9 * x12 + -1 * x2 * x7 * x9 * x12 + -1 * x3 * x5 * x10 * x12 + 1 * x1 * x7 * x10 * x12 + 1 * x2 * x5 * x11 * x12 + -1 * x1 * x6 * x11 * x12 + -1 * x3 * x6 * x8 * x13 + 1 * x2 * x7 * x8 * x13 + 1 * x3 * x4 * x10 * x13 + -1 * x0 * x7 * x10 * x13 + -1 * x2 * x4 * x11 * x13 + 1 * x0 * x6 * x11 * x13 + 1 * x3 * x5 * x8 * x14 + -1 * x1 * x7 * x8 * x14 + -1 * x3 * x4 * x9 * x14 + 1 * x0 * x7 * x9 * x14 + 1 * x1 * x4 * x11 * x14 + -1 * x0 * x5 * x11 * x14 + -1 * x2 * x5 * x8 * x15 + 1 * x1 * x6 * x8 * x15 + 1 * x2 * x4 * x9 * x15 + -1 * x0 * x6 * x9 * x15 + -1 * x1 * x4 * x10 * x15 + 1 * x0 * x5 * x10 * x15 = 0 + x0 * (x5 * (x10 * x15 - x11 * x14) - x6 * (x9 * x15 - x11 * x13) + x7 * (x9 * x14 - x10 * x13)) + x1 * -(x4 * (x10 * x15 - x11 * x14) - x6 * (x8 * x15 - x11 * x12) + x7 * (x8 * x14 - x10 * x12)) + x2 * (x4 * (x9 * x15 - x11 * x13) - x5 * (x8 * x15 - x11 * x12) + x7 * (x8 * x13 - x9 * x12)) + x3 * -(x4 * (x9 * x14 - x10 * x13) - x5 * (x8 * x14 - x10 * x12) + x6 * (x8 * x13 - x9 * x12)) := by grind
theorem mt_M1 (w : Nat → Int32) {r c : Nat} (hr : r < 4) (hc : c < 4) : mt_mn w (nI (2 ^ r)) (nI (2 ^ c)) 24 = w (4 * r + c) := by
  rw [mt_mnL, mt_t1 r hr c hc]
  show 0 + 1 * w (4 * r + c) = _
  rw [Int32.zero_add, Int32.one_mul]
theorem mt_M2 (w : Nat → Int32) {a b c d : Nat} (ha : a < b) (hb : b < 4) (hc : c < d) (hd : d < 4) : mt_mn w (nI (2 ^ a + 2 ^ b)) (nI (2 ^ c + 2 ^ d)) 24 = mt_m2 w a b c d := by
  rw [mt_mnL, mt_t2 ha hb hc hd]
  exact mt_r2 _ _ _ _
theorem mt_M3 (w : Nat → Int32) {r c : Nat} (hr : r < 4) (hc : c < 4) : mt_mn w (nI (15 - 2 ^ r)) (nI (15 - 2 ^ c)) 24 = mt_u3 w r c := by
  rw [mt_mnL, mt_t3 r hr c hc]
  exact mt_r3 _ _ _ _ _ _ _ _ _
theorem mt_detE (w : Nat → Int32) : mt_det w = 0 + w 0 * (w 5 * (w 10 * w 15 - w 11 * w 14) - w 6 * (w 9 * w 15 - w 11 * w 13) + w 7 * (w 9 * w 14 - w 10 * w 13)) + w 1 * -(w 4 * (w 10 * w 15 - w 11 * w 14) - w 6 * (w 8 * w 15 - w 11 * w 12) + w 7 * (w 8 * w 14 - w 10 * w 12)) + w 2 * (w 4 * (w 9 * w 15 - w 11 * w 13) - w 5 * (w 8 * w 15 - w 11 * w 12) + w 7 * (w 8 * w 13 - w 9 * w 12)) + w 3 * -(w 4 * (w 9 * w 14 - w 10 * w 13) - w 5 * (w 8 * w 14 - w 10 * w 12) + w 6 * (w 8 * w 13 - w 9 * w 12)) := rfl
theorem mt_M4 (w : Nat → Int32) : mt_mn w 15 15 24 = mt_det w := by
  rw [mt_mnL, mt_t4, mt_detE]
  exact mt_r4 (w 0) (w 1) (w 2) (w 3) (w 4) (w 5) (w 6) (w 7) (w 8) (w 9) (w 10) (w 11) (w 12) (w 13) (w 14) (w 15)
theorem i_vc_determinant {k : Nat} {u : SX} {v : SY} (I : i_Rel k u v) (hk : k + 4 ≤ 2048) : wpX_determinant (fun r => wpY_determinant (fun r' v' => r' = r ∧ i_Rel (k + 4) u v') v) u := by
  obtain ⟨t, s, p, q⟩ := u
  obtain ⟨t', p', w', q', z'⟩ := v
  obtain ⟨e, hw⟩ := I
  cases (e : t = t')
  unfold wpX_determinant wpY_determinant
  dsimp only
  refine mt_tabled (mt_ld (fun w hl => ?_))
  refine mt_mnY hw ?_
  exact ⟨by rw [mt_M4]; exact mt_cd (fun j hj => (hl j hj).trans (mt_sh0 t j)), rfl, hw⟩
theorem mt_msk : ∀ r, r < 4 → (15 : Int32) &&& (((1 : Int32) <<< (nI r &&& 31)) ^^^ (-1)) = nI (15 - 2 ^ r) := by decide
theorem i_vc_cofactor {k : Nat} {u : SX} {v : SY} (I : i_Rel k u v) (hk : k + 4 ≤ 2048) (v1 : Int32) (v2 : Int32) : wpX_cofactor (fun r => wpY_cofactor (fun r' v' => r' = r ∧ i_Rel (k + 4) u v') v v1 v2) u v1 v2 := by
  obtain ⟨t, s, p, q⟩ := u
  obtain ⟨t', p', w', q', z'⟩ := v
  obtain ⟨e, hw⟩ := I
  cases (e : t = t')
  unfold wpX_cofactor wpY_cofactor
  dsimp only
  rcases mt_place v1 v2 with ⟨hx, hy⟩ | ⟨i, j, hi, hj, rfl, rfl, hx, hy⟩
  · exact hx _ (br_t rfl (hy _ _ (br_f mt_n0 ⟨rfl, rfl, hw⟩)))
  · refine hx _ (br_f mt_n0 (mt_tables hi hj (hy _ _ (br_t rfl (mt_ld (fun w hl => ?_))))))
    rw [mt_msk i hi, mt_msk j hj]
    refine mt_mnY hw ⟨mt_n2, ?_⟩
    rw [mt_M3 w hi hj, mt_cu (v := t) (fun j hj => by rw [hl j hj, mt_sh0])]
    exact mt_sg (fun m => m = mt_s3 t i j ∧ i_Rel (k + 4) (t, s, p, q) (t, p', w, q', z')) hi hj ⟨rfl, rfl, hw⟩
end
section
/-! powers -/
def mt_rc (P T : Nat → Int32) (r c : Nat) : Int32 := 0 + P (4 * r + 0) * T (4 * 0 + c) + P (4 * r + 1) * T (4 * 1 + c) + P (4 * r + 2) * T (4 * 2 + c) + P (4 * r + 3) * T (4 * 3 + c)
def mt_mu (P T : Nat → Int32) (i : Nat) : Int32 := mt_rc P T (i / 4) (i % 4)
def mt_pw (T : Nat → Int32) : Nat → Nat → Int32
  | 0 => fun i => if i % 5 = 0 then 1 else 0
  | n + 1 => mt_mu (mt_pw T n) T
theorem mt_muc {P Q T : Nat → Int32} (h : ∀ j, j < 16 → P j = Q j) {i : Nat} (hi : i < 16) : mt_mu P T i = mt_mu Q T i := by
  unfold mt_mu mt_rc
  rw [h _ (show 4 * (i / 4) + 0 < 16 by omega), h _ (show 4 * (i / 4) + 1 < 16 by omega), h _ (show 4 * (i / 4) + 2 < 16 by omega), h _ (show 4 * (i / 4) + 3 < 16 by omega)]
theorem mt_rcX1 {post : Int32 → Prop} {t s p q : Nat → Int32} {n : Nat} {x : Int32} {r c : Nat} (hr : r < 4) (hc : c < 4) (j : Nat) (hj : j < 4) (h : wX_rowTimesColumn_5 post (nI r) (nI c) t s p q n (x + p (4 * r + j) * t (4 * j + c)) (nI (j + 1))) : wX_rowTimesColumn_5 post (nI r) (nI c) t s p q (n + 1) x (nI j) := by
  refine br_f (mt_4lt hj) ?_
  rw [mt_ix, mt_ix, nI_clamp (n := 4 * r + j) (by omega), nI_clamp (n := 4 * j + c) (by omega)]
  exact ⟨vp_in_nI (by omega) (by decide), vp_in_nI (by omega) (by decide), nm_e (nm_r (nI_1 j) h)⟩
theorem mt_rcX {post : Int32 → Prop} {t s p q : Nat → Int32} {r c : Nat} (hr : r < 4) (hc : c < 4) (h : post (mt_rc p t r c)) : wpX_rowTimesColumn post (t, s, p, q) (nI r) (nI c) := by
  unfold wpX_rowTimesColumn
  dsimp only
  refine ⟨5, mt_rcX1 hr hc 0 (by decide) (mt_rcX1 hr hc 1 (by decide) (mt_rcX1 hr hc 2 (by decide) (mt_rcX1 hr hc 3 (by decide) ?_)))⟩
  exact br_t mt_4ge h
/-! the component's multiplication -/
theorem mt_mX3 {post : SX → Prop} {t s q f : Nat → Int32} (hq : ∀ j, j < 16 → q j = f j) (h : ∀ p, (∀ j, j < 16 → p j = f j) → post (t, s, p, q)) : ∀ (d i : Nat) (p : Nat → Int32), i + d = 16 → (∀ j, j < i → p j = f j) → wX_multiplyPowerByTable_44 post (d + 1) (nI i) t s p q := by
  intro d
  induction d with
  | zero =>
    intro i p hi hp
    cases (hi : i = 16)
    exact br_t mt_16ge (h p hp)
  | succ d ih =>
    intro i p hi hp
    have ii := vp_in_nI (n := i) (N := 16) (by omega) (by decide)
    refine br_f (mt_16lt (by omega)) ⟨ii, ii, nm_e (nm_r (nI_1 i) (ih (i + 1) _ (by omega) ?_))⟩
    intro j hj
    rw [nI_clamp (n := i) (by omega)]
    by_cases ej : j = i
    · subst ej; rw [pk_us]; exact hq j (by omega)
    · rw [pk_un ej]; exact hp j (by omega)
theorem mt_mX2 {post : SX → Prop} {J : Int32 → (Nat → Int32) → (Nat → Int32) → (Nat → Int32) → (Nat → Int32) → Prop} {t s p : Nat → Int32} {r : Nat} (hr : r < 4) (h : ∀ q, (∀ j, j < 4 * (r + 1) → q j = mt_mu p t j) → J (nI (r + 1)) t s p q) : ∀ (d c : Nat) (q : Nat → Int32), c + d = 4 → (∀ j, j < 4 * r + c → q j = mt_mu p t j) → wX_multiplyPowerByTable_9 post J (nI r) (d + 1) (nI c) t s p q := by
  intro d
  induction d with
  | zero =>
    intro c q hc hq
    cases (hc : c = 4)
    exact br_t mt_4ge (nm_r (nI_1 r) (h q (fun j hj => hq j (by omega))))
  | succ d ih =>
    intro c q hc hq
    refine br_f (mt_4lt (by omega)) (mt_rcX hr (by omega) ?_)
    rw [mt_ix, nI_clamp (n := 4 * r + c) (by omega)]
    refine ⟨vp_in_nI (by omega) (by decide), nm_e (nm_r (nI_1 c) (ih (c + 1) _ (by omega) ?_))⟩
    intro j hj
    by_cases ej : j = 4 * r + c
    · rw [ej, pk_us]
      unfold mt_mu
      rw [show (4 * r + c) / 4 = r by omega, show (4 * r + c) % 4 = c by omega]
    · rw [pk_un ej]; exact hq j (by omega)
theorem mt_mX1 {post : SX → Prop} {t s p : Nat → Int32} (h : ∀ p' q', (∀ j, j < 16 → p' j = mt_mu p t j) → post (t, s, p', q')) : ∀ (d r : Nat) (q : Nat → Int32), r + d = 4 → (∀ j, j < 4 * r → q j = mt_mu p t j) → wX_multiplyPowerByTable_2 post (d + 1) (nI r) t s p q := by
  intro d
  induction d with
  | zero =>
    intro r q hr hq
    cases (hr : r = 4)
    exact br_t mt_4ge ⟨17, mt_mX3 hq (fun p' hp => h p' q hp) 16 0 p rfl (fun j hj => absurd hj (Nat.not_lt_zero j))⟩
  | succ d ih =>
    intro r q hr hq
    exact br_f (mt_4lt (by omega)) ⟨5, mt_mX2 (by omega) (fun q' hq' => ih (r + 1) q' (by omega) hq') 4 0 q rfl hq⟩
theorem mt_mX {post : SX → Prop} {t s p q : Nat → Int32} (h : ∀ p' q', (∀ j, j < 16 → p' j = mt_mu p t j) → post (t, s, p', q')) : wpX_multiplyPowerByTable post (t, s, p, q) := by
  unfold wpX_multiplyPowerByTable
  dsimp only
  exact ⟨5, mt_mX1 h 4 0 q rfl (fun j hj => absurd hj (by omega))⟩
/-! the component's raise -/
theorem mt_rX3 {post : SX → Prop} {t s : Nat → Int32} {n : Nat} (hn : n < 2 ^ 31) (h : ∀ p q, (∀ j, j < 16 → p j = mt_pw t n j) → post (t, s, p, q)) : ∀ (d i : Nat) (p q : Nat → Int32), i + d = n → (∀ j, j < 16 → p j = mt_pw t i j) → wX_raise_47 post (nI n) (d + 1) (nI i) t s p q := by
  intro d
  induction d with
  | zero =>
    intro i p q hi hp
    cases (hi : i = n)
    exact br_t (nI_le (Nat.le_refl i) hn) (h p q hp)
  | succ d ih =>
    intro i p q hi hp
    refine br_f (nI_ge (by omega) hn) (mt_mX (fun p' q' hp' => nm_r (nI_1 i) (ih (i + 1) p' q' (by omega) ?_)))
    intro j hj
    rw [hp' j hj]
    exact mt_muc hp hj
theorem mt_rX2 {post : SX → Prop} {t s q : Nat → Int32} {x : Int32} (h : ∀ p, (∀ j, j < 16 → p j = mt_pw t 0 j) → ∃ n, wX_raise_47 post x n 0 t s p q) : ∀ (d i : Nat) (p : Nat → Int32), i + d = 4 → (∀ j, j < 16 → p j = if j < 5 * i ∧ j % 5 = 0 then 1 else 0) → wX_raise_23 post x (d + 1) (nI i) t s p q := by
  intro d
  induction d with
  | zero =>
    intro i p hi hp
    cases (hi : i = 4)
    refine br_t mt_4ge (h p (fun j hj => ?_))
    rw [hp j hj]
    show _ = if j % 5 = 0 then (1 : Int32) else 0
    by_cases e : j % 5 = 0
    · rw [if_pos e, if_pos ⟨show j < 5 * 4 by omega, e⟩]
    · rw [if_neg e, if_neg (fun g => e g.2)]
  | succ d ih =>
    intro i p hi hp
    have e : (4 : Int32) * nI i + nI i = nI (5 * i) := by rw [mt_ix]; exact congrArg nI (by omega)
    refine br_f (mt_4lt (by omega)) ?_
    rw [e, nI_clamp (n := 5 * i) (by omega)]
    refine ⟨vp_in_nI (by omega) (by decide), nm_e (nm_r (nI_1 i) (ih (i + 1) _ (by omega) ?_))⟩
    intro j hj
    by_cases ej : j = 5 * i
    · subst ej
      rw [pk_us, if_pos ⟨by omega, by omega⟩]
    · rw [pk_un ej, hp j hj]
      by_cases g : j < 5 * i ∧ j % 5 = 0
      · rw [if_pos g, if_pos ⟨by omega, g.2⟩]
      · rw [if_neg g, if_neg (fun g2 => g ⟨by omega, g2.2⟩)]
theorem mt_rX1 {post : SX → Prop} {t s q : Nat → Int32} {x : Int32} (h : ∀ p, (∀ j, j < 16 → p j = mt_pw t 0 j) → ∃ n, wX_raise_47 post x n 0 t s p q) : ∀ (d i : Nat) (p : Nat → Int32), i + d = 16 → (∀ j, j < i → p j = 0) → wX_raise_2 post x (d + 1) (nI i) t s p q := by
  intro d
  induction d with
  | zero =>
    intro i p hi hp
    cases (hi : i = 16)
    exact br_t mt_16ge ⟨5, mt_rX2 h 4 0 p rfl (fun j hj => by rw [hp j hj, if_neg (fun g => absurd g.1 (by omega))])⟩
  | succ d ih =>
    intro i p hi hp
    refine br_f (mt_16lt (by omega)) ⟨vp_in_nI (by omega) (by decide), nm_e (nm_r (nI_1 i) (ih (i + 1) _ (by omega) ?_))⟩
    intro j hj
    rw [nI_clamp (n := i) (by omega)]
    by_cases ej : j = i
    · subst ej; rw [pk_us]
    · rw [pk_un ej]; exact hp j (by omega)
theorem mt_rX {post : SX → Prop} {t s p q : Nat → Int32} {n : Nat} (hn : n < 2 ^ 31) (h : ∀ p q, (∀ j, j < 16 → p j = mt_pw t n j) → post (t, s, p, q)) : wpX_raise post (t, s, p, q) (nI n) := by
  unfold wpX_raise
  dsimp only
  exact ⟨17, mt_rX1 (fun p' hp' => ⟨n + 1, mt_rX3 hn h n 0 p' q (by omega) hp'⟩) 16 0 p rfl (fun j hj => absurd hj (Nat.not_lt_zero j))⟩
/-! the reference's multiplication -/
theorem mt_mY3 {post : SY → Prop} {t w q z f : Nat → Int32} (hw : ∀ j, j < 16 → w j = f j) (h : ∀ p, (∀ j, j < 16 → p j = f j) → post (t, p, w, q, z)) : ∀ (d i : Nat) (p : Nat → Int32), i + d = 16 → (∀ j, j < i → p j = f j) → wY_multiply_66 post (d + 1) (nI i) t p w q z := by
  intro d
  induction d with
  | zero =>
    intro i p hi hp
    cases (hi : i = 16)
    exact br_t mt_16ge (h p hp)
  | succ d ih =>
    intro i p hi hp
    have ii := vp_in_nI (n := i) (N := 16) (by omega) (by decide)
    refine br_f (mt_16lt (by omega)) ⟨ii, ii, nm_e (nm_r (nI_1 i) (ih (i + 1) _ (by omega) ?_))⟩
    intro j hj
    rw [nI_clamp (n := i) (by omega)]
    by_cases ej : j = i
    · subst ej; rw [pk_us]; exact hw j (by omega)
    · rw [pk_un ej]; exact hp j (by omega)
theorem mt_n4 : ¬ (4 : Int32) = 0 := by decide
theorem mt_mY2 {post : SY → Prop} {J : Int32 → (Nat → Int32) → (Nat → Int32) → (Nat → Int32) → (Nat → Int32) → (Nat → Int32) → Prop} {t p w q z : Nat → Int32} {i n : Nat} {x : Int32} (hi : i < 16) (j : Nat) (hj : j < 4) (h : wY_multiply_12 post J (nI i) t p w q z n (x + p (4 * (i / 4) + j) * t (4 * j + i % 4)) (nI (j + 1))) : wY_multiply_12 post J (nI i) t p w q z (n + 1) x (nI j) := by
  refine br_f (mt_4lt hj) ?_
  have e1 : nI i / 4 = nI (i / 4) := pk_div (d := 4) (by omega) (by decide) (by decide)
  have e2 : nI i - nI i / 4 * 4 = nI (i % 4) := pk_rem (d := 4) (by omega) (by decide) (by decide)
  rw [e2, e1, mt_iy, mt_iy, nI_clamp (n := 4 * (i / 4) + j) (by omega), nI_clamp (n := 4 * j + i % 4) (by omega)]
  exact ⟨mt_n4, vp_in_nI (by omega) (by decide), mt_n4, vp_in_nI (by omega) (by decide), nm_e (nm_r (nI_1 j) h)⟩
theorem mt_mY1 {post : SY → Prop} {t p q z : Nat → Int32} (h : ∀ p' w', (∀ j, j < 16 → p' j = mt_mu p t j) → post (t, p', w', q, z)) : ∀ (d i : Nat) (w : Nat → Int32), i + d = 16 → (∀ j, j < i → w j = mt_mu p t j) → wY_multiply_2 post (d + 1) (nI i) t p w q z := by
  intro d
  induction d with
  | zero =>
    intro i w hi hw
    cases (hi : i = 16)
    exact br_t mt_16ge ⟨17, mt_mY3 hw (fun p' hp => h p' w hp) 16 0 p rfl (fun j hj => absurd hj (Nat.not_lt_zero j))⟩
  | succ d ih =>
    intro i w hi hw
    have i16 : i < 16 := by omega
    refine br_f (mt_16lt i16) ⟨5, mt_mY2 i16 0 (by decide) (mt_mY2 i16 1 (by decide) (mt_mY2 i16 2 (by decide) (mt_mY2 i16 3 (by decide) ?_)))⟩
    refine br_t mt_4ge ⟨vp_in_nI i16 (by decide), nm_e (nm_r (nI_1 i) (ih (i + 1) _ (by omega) ?_))⟩
    intro j hj
    rw [nI_clamp (n := i) (by omega)]
    by_cases ej : j = i
    · subst ej; rw [pk_us]; rfl
    · rw [pk_un ej]; exact hw j (by omega)
theorem mt_mY {post : SY → Prop} {t p w q z : Nat → Int32} (h : ∀ p' w', (∀ j, j < 16 → p' j = mt_mu p t j) → post (t, p', w', q, z)) : wpY_multiply post (t, p, w, q, z) := by
  unfold wpY_multiply
  dsimp only
  exact ⟨17, mt_mY1 h 16 0 w rfl (fun j hj => absurd hj (Nat.not_lt_zero j))⟩
/-! the reference's raise -/
theorem mt_rY2 {post : SY → Prop} {t q z : Nat → Int32} {n : Nat} (hn : n < 2 ^ 31) (h : ∀ p w, (∀ j, j < 16 → p j = mt_pw t n j) → post (t, p, w, q, z)) : ∀ (d i : Nat) (p w : Nat → Int32), i + d = n → (∀ j, j < 16 → p j = mt_pw t i j) → wY_raise_33 post (nI n) (d + 1) (nI i) t p w q z := by
  intro d
  induction d with
  | zero =>
    intro i p w hi hp
    cases (hi : i = n)
    exact br_t (nI_le (Nat.le_refl i) hn) (h p w hp)
  | succ d ih =>
    intro i p w hi hp
    refine br_f (nI_ge (by omega) hn) (mt_mY (fun p' w' hp' => nm_r (nI_1 i) (ih (i + 1) p' w' (by omega) ?_)))
    intro j hj
    rw [hp' j hj]
    exact mt_muc hp hj
theorem mt_rY1 {post : SY → Prop} {t w q z : Nat → Int32} {x : Int32} (h : ∀ p, (∀ j, j < 16 → p j = mt_pw t 0 j) → ∃ n, wY_raise_33 post x n 0 t p w q z) : ∀ (d i : Nat) (p : Nat → Int32), i + d = 16 → (∀ j, j < i → p j = mt_pw t 0 j) → wY_raise_2 post x (d + 1) (nI i) t p w q z := by
  intro d
  induction d with
  | zero =>
    intro i p hi hp
    cases (hi : i = 16)
    exact br_t mt_16ge (h p hp)
  | succ d ih =>
    intro i p hi hp
    refine br_f (mt_16lt (by omega)) ⟨mt_n5, ?_⟩
    rw [mt_rem5 (i := i) (by omega), nI_clamp (n := i) (by omega)]
    have ii := vp_in_nI (n := i) (N := 16) (by omega) (by decide)
    by_cases e : i % 5 = 0
    · refine br_t (by rw [e]; rfl) ⟨ii, nm_e (nm_r (nI_1 i) (ih (i + 1) _ (by omega) ?_))⟩
      intro j hj
      by_cases ej : j = i
      · subst ej; rw [pk_us]; exact (if_pos e).symm
      · rw [pk_un ej]; exact hp j (by omega)
    · refine br_f (nI_ne0 (by omega) (by omega)) ⟨ii, nm_e (nm_r (nI_1 i) (ih (i + 1) _ (by omega) ?_))⟩
      intro j hj
      by_cases ej : j = i
      · subst ej; rw [pk_us]; exact (if_neg e).symm
      · rw [pk_un ej]; exact hp j (by omega)
theorem mt_rY {post : SY → Prop} {t p w q z : Nat → Int32} {n : Nat} (hn : n < 2 ^ 31) (h : ∀ p w, (∀ j, j < 16 → p j = mt_pw t n j) → post (t, p, w, q, z)) : wpY_raise post (t, p, w, q, z) (nI n) := by
  unfold wpY_raise
  dsimp only
  exact ⟨17, mt_rY1 (fun p' hp' => ⟨n + 1, mt_rY2 hn h n 0 p' w (by omega) hp'⟩) 16 0 p rfl (fun j hj => absurd hj (Nat.not_lt_zero j))⟩
/-! powerTrace, powerEntry -/
theorem mt_pwr (p : Int32) : ((∀ post : Int32 → Prop, post 0 → wpX_isPower post p) ∧ (∀ A B : Prop, A → (p < 0 → A) ∧ (¬ p < 0 → ((p ≤ 60 → B) ∧ (¬ p ≤ 60 → A))))) ∨ ∃ n : Nat, n < 2 ^ 31 ∧ p = nI n ∧ (∀ post : Int32 → Prop, post 1 → wpX_isPower post p) ∧ (∀ A B : Prop, B → (p < 0 → A) ∧ (¬ p < 0 → ((p ≤ 60 → B) ∧ (¬ p ≤ 60 → A)))) := by
  unfold wpX_isPower
  by_cases h : p < 0
  · exact Or.inl ⟨fun post hp => br_t h hp, fun A B a => br_t h a⟩
  · by_cases g : 60 < p
    · exact Or.inl ⟨fun post hp => br_f h (br_t g hp), fun A B a => br_f h (br_f (Int32.not_le.mpr g) a)⟩
    · obtain ⟨n, hn, e⟩ := nI_of h
      exact Or.inr ⟨n, hn, e, fun post hp => br_f h (br_f g hp), fun A B b => br_f h (br_t (Int32.not_lt.mp g) b)⟩
theorem i_vc_powerTrace {k : Nat} {u : SX} {v : SY} (I : i_Rel k u v) (hk : k + 4 ≤ 2048) (v1 : Int32) : wpX_powerTrace (fun r u' => wpY_powerTrace (fun r' v' => r' = r ∧ i_Rel (k + 4) u' v') v v1) u v1 := by
  obtain ⟨t, s, p, q⟩ := u
  obtain ⟨t', p', w', q', z'⟩ := v
  obtain ⟨e, hw⟩ := I
  cases (e : t = t')
  unfold wpX_powerTrace wpY_powerTrace
  dsimp only
  rcases mt_pwr v1 with ⟨hx, hy⟩ | ⟨n, hn, rfl, hx, hy⟩
  · exact hx _ (br_t rfl (hy _ _ ⟨rfl, rfl, hw⟩))
  · refine hx _ (br_f mt_n0 (mt_rX hn (fun p1 q1 h1 => mt_powert (hy _ _ (mt_rY hn (fun p2 w2 h2 => ?_))))))
    refine ⟨?_, rfl, hw⟩
    unfold mt_e1
    dsimp only
    rw [h1 0 (by decide), h1 5 (by decide), h1 10 (by decide), h1 15 (by decide), h2 0 (by decide), h2 5 (by decide), h2 10 (by decide), h2 15 (by decide), Int32.zero_add]
theorem i_vc_powerEntry {k : Nat} {u : SX} {v : SY} (I : i_Rel k u v) (hk : k + 4 ≤ 2048) (v1 : Int32) (v2 : Int32) (v3 : Int32) : wpX_powerEntry (fun r u' => wpY_powerEntry (fun r' v' => r' = r ∧ i_Rel (k + 4) u' v') v v1 v2 v3) u v1 v2 v3 := by
  obtain ⟨t, s, p, q⟩ := u
  obtain ⟨t', p', w', q', z'⟩ := v
  obtain ⟨e, hw⟩ := I
  cases (e : t = t')
  unfold wpX_powerEntry wpY_powerEntry
  dsimp only
  rcases mt_place v1 v2 with ⟨hx, hy⟩ | ⟨i, j, hi, hj, rfl, rfl, hx, hy⟩
  · exact hx _ (br_t rfl (hy _ _ (br_f mt_n0 ⟨rfl, rfl, hw⟩)))
  · refine hx _ (br_f mt_n0 ?_)
    rw [mt_ix, mt_iy, nI_clamp (n := 4 * i + j) (by omega)]
    rcases mt_pwr v3 with ⟨gx, gy⟩ | ⟨n, hn, rfl, gx, gy⟩
    · exact gx _ (br_t rfl (hy _ _ (br_t rfl (gy _ _ ⟨rfl, rfl, hw⟩))))
    · have ii := vp_in_nI (n := 4 * i + j) (N := 16) (by omega) (by decide)
      refine gx _ (br_f mt_n0 (mt_rX hn (fun p1 q1 h1 => ⟨ii, hy _ _ (br_t rfl (gy _ _ (mt_rY hn (fun p2 w2 h2 => ⟨ii, ?_, rfl, hw⟩))))⟩)))
      exact (h2 _ (by omega)).trans (h1 _ (by omega)).symm
/-! all zero -/
def mt_az (f : Nat → Int32) : Nat → Nat → Int32
  | 0, _ => 1
  | d + 1, i => if f i = 0 then mt_az f d (i + 1) else 0
theorem mt_az01 (f : Nat → Int32) : ∀ d i : Nat, mt_az f d i = 1 ∨ mt_az f d i = 0 := by
  intro d
  induction d with
  | zero => intro i; exact Or.inl rfl
  | succ d ih =>
    intro i
    unfold mt_az
    by_cases e : f i = 0
    · rw [if_pos e]; exact ih (i + 1)
    · rw [if_neg e]; exact Or.inr rfl
theorem mt_azc {f g : Nat → Int32} (h : ∀ j, j < 16 → f j = g j) : ∀ d i : Nat, i + d = 16 → mt_az f d i = mt_az g d i := by
  intro d
  induction d with
  | zero => intro i _; rfl
  | succ d ih =>
    intro i hi
    unfold mt_az
    rw [h i (by omega), ih (i + 1) (by omega)]
theorem mt_azpower1 {post : Int32 → Prop} {t s p q : Nat → Int32} : ∀ d i : Nat, i + d = 16 → post (mt_az p d i) → wX_isAllZero__power_2 post t s p q (d + 1) (nI i) := by
  intro d
  induction d with
  | zero =>
    intro i hi h
    cases (hi : i = 16)
    exact br_t mt_16ge h
  | succ d ih =>
    intro i hi h
    unfold mt_az at h
    refine br_f (mt_16lt (by omega)) ⟨vp_in_nI (by omega) (by decide), ?_⟩
    rw [nI_clamp (n := i) (by omega)]
    by_cases e : p i = 0
    · rw [if_pos e] at h
      exact br_t e (nm_r (nI_1 i) (ih (i + 1) (by omega) h))
    · rw [if_neg e] at h
      exact br_f e h
theorem mt_azpower {post : Int32 → Prop} {t s p q : Nat → Int32} (h : post (mt_az p 16 0)) : wpX_isAllZero__power post (t, s, p, q) := by
  unfold wpX_isAllZero__power
  dsimp only
  exact ⟨17, mt_azpower1 16 0 rfl h⟩
theorem mt_azshifted1 {post : Int32 → Prop} {t s p q : Nat → Int32} : ∀ d i : Nat, i + d = 16 → post (mt_az s d i) → wX_isAllZero__shifted_2 post t s p q (d + 1) (nI i) := by
  intro d
  induction d with
  | zero =>
    intro i hi h
    cases (hi : i = 16)
    exact br_t mt_16ge h
  | succ d ih =>
    intro i hi h
    unfold mt_az at h
    refine br_f (mt_16lt (by omega)) ⟨vp_in_nI (by omega) (by decide), ?_⟩
    rw [nI_clamp (n := i) (by omega)]
    by_cases e : s i = 0
    · rw [if_pos e] at h
      exact br_t e (nm_r (nI_1 i) (ih (i + 1) (by omega) h))
    · rw [if_neg e] at h
      exact br_f e h
theorem mt_azshifted {post : Int32 → Prop} {t s p q : Nat → Int32} (h : post (mt_az s 16 0)) : wpX_isAllZero__shifted post (t, s, p, q) := by
  unfold wpX_isAllZero__shifted
  dsimp only
  exact ⟨17, mt_azshifted1 16 0 rfl h⟩
theorem mt_azY {post : Int32 → SY → Prop} {t p w q z : Nat → Int32} : ∀ d i : Nat, i + d = 16 → post (mt_az p d i) (t, p, w, q, z) → wY_vanishes_7 post t p w q z (d + 1) (nI i) := by
  intro d
  induction d with
  | zero =>
    intro i hi h
    cases (hi : i = 16)
    exact br_t mt_16ge h
  | succ d ih =>
    intro i hi h
    unfold mt_az at h
    refine br_f (mt_16lt (by omega)) ⟨vp_in_nI (by omega) (by decide), ?_⟩
    rw [nI_clamp (n := i) (by omega)]
    by_cases e : p i = 0
    · rw [if_pos e] at h
      exact br_t e (nm_r (nI_1 i) (ih (i + 1) (by omega) h))
    · rw [if_neg e] at h
      exact br_f e h
theorem i_vc_vanishes {k : Nat} {u : SX} {v : SY} (I : i_Rel k u v) (hk : k + 4 ≤ 2048) : wpX_vanishes (fun r u' => wpY_vanishes (fun r' v' => r' = r ∧ i_Rel (k + 4) u' v') v) u := by
  obtain ⟨t, s, p, q⟩ := u
  obtain ⟨t', p', w', q', z'⟩ := v
  obtain ⟨e, hw⟩ := I
  cases (e : t = t')
  unfold wpX_vanishes wpY_vanishes
  dsimp only
  refine mt_rX (n := 4) (by decide) (fun p1 q1 h1 => mt_azpower ⟨?_, mt_rY (n := 4) (by decide) (fun p2 w2 h2 => ⟨17, mt_azY 16 0 rfl ⟨?_, rfl, hw⟩⟩)⟩)
  · rcases mt_az01 p1 16 0 with g | g <;> rw [g] <;> rfl
  · exact mt_azc (fun j hj => (h2 j hj).trans (h1 j hj).symm) 16 0 rfl
end
section
/-! the reference's coefficient and valueAt as pure functions -/
def mt_tm (a e : Int32) (f : Nat → Int32) : Nat → Int32
  | 0 => 0 - a * f 0
  | k + 1 => e * f k - a * f (k + 1)
def mt_st (s : Int32) : Nat → Int32
  | 0 => s
  | _ + 1 => 0
theorem mt_tmc {f g : Nat → Int32} (a e : Int32) (h : ∀ j, j < 5 → f j = g j) : ∀ j, j < 5 → mt_tm a e f j = mt_tm a e g j := by
  intro j hj
  cases j with
  | zero => show 0 - a * f 0 = 0 - a * g 0; rw [h 0 hj]
  | succ j => show e * f j - a * f (j + 1) = e * g j - a * g (j + 1); rw [h j (by omega), h (j + 1) hj]
theorem mt_tm1 {post : SY → Prop} {a e : Int32} {t p w q z : Nat → Int32} {n : Nat} (m : Nat) (hm : m < 4) (he : e = 0 ∨ e = 1) (h : wY_times_2 post a e n (nI m) t p w (upd q (m + 1) (e * q m - a * q (m + 1))) z) : wY_times_2 post a e (n + 1) (nI (m + 1)) t p w q z := by
  have i1 := vp_in_nI (n := m + 1) (N := 5) (by omega) (by decide)
  refine br_f (nI_pos (by omega)) ?_
  unfold wY_times_25 wY_times_26
  rw [nI_pred, nI_clamp (n := m + 1) (by omega), nI_clamp (n := m) (by omega)]
  rcases he with rfl | rfl
  · exact br_t rfl ⟨i1, i1, nm_r (by rw [Int32.zero_mul]) (nm_r (pk_m1 m) h)⟩
  · exact br_f mt_n0 (br_f (nI_nle (by omega) (by omega)) ⟨vp_in_nI (by omega) (by decide), i1, i1, nm_r (by rw [Int32.one_mul]) (nm_r (pk_m1 m) h)⟩)
theorem mt_tm0 {post : SY → Prop} {a e : Int32} {t p w q z : Nat → Int32} {n : Nat} (he : e = 0 ∨ e = 1) (h : post (t, p, w, upd q 0 (0 - a * q 0), z)) : wY_times_2 post a e (n + 2) (nI 0) t p w q z := by
  have i1 := vp_in_nI (n := 0) (N := 5) (by omega) (by decide)
  refine br_f (nI_pos (by omega)) ?_
  unfold wY_times_25 wY_times_26
  rw [nI_clamp (n := 0) (by omega)]
  have g : wY_times_2 post a e (n + 1) (nI 0 + -1) t p w (upd q 0 (0 - a * q 0)) z := br_t (by decide) h
  rcases he with rfl | rfl
  · exact br_t rfl ⟨i1, i1, nm_e (nm_e g)⟩
  · exact br_f mt_n0 (br_t (by decide) ⟨i1, i1, nm_e (nm_e g)⟩)
theorem mt_tmY {post : SY → Prop} {a e : Int32} {t p w q z : Nat → Int32} (he : e = 0 ∨ e = 1) (h : ∀ q', (∀ j, j < 5 → q' j = mt_tm a e q j) → post (t, p, w, q', z)) : wpY_times post (t, p, w, q, z) a e := by
  unfold wpY_times
  dsimp only
  refine ⟨6, mt_tm1 3 (by decide) he (mt_tm1 2 (by decide) he (mt_tm1 1 (by decide) he (mt_tm1 0 (by decide) he (mt_tm0 (n := 0) he (h _ ?_)))))⟩
  intro j hj
  match j, hj with
  | 0, _ => rfl
  | 1, _ => rfl
  | 2, _ => rfl
  | 3, _ => rfl
  | 4, _ => rfl
def mt_va (t : Nat → Int32) (way : Int32) (i : Nat) : Int32 := t (4 * i + (mt_cl way (nI i)).toNatClampNeg)
def mt_dg (way : Int32) (i : Nat) : Int32 := if mt_cl way (nI i) = nI i then 1 else 0
def mt_fp (t : Nat → Int32) (way : Int32) : Nat → Nat → Int32
  | 0 => mt_st (mt_sgw way 15)
  | i + 1 => mt_tm (mt_va t way i) (mt_dg way i) (mt_fp t way i)
theorem mt_cf1 {post : Int32 → SY → Prop} {J : Int32 → Int32 → (Nat → Int32) → (Nat → Int32) → (Nat → Int32) → (Nat → Int32) → (Nat → Int32) → Prop} {t p w z : Nat → Int32} {way x2 : Int32} {k c : Nat} (hk : k < 5) (h : ∀ q, J (x2 + mt_fp t way 4 k) (nI (c + 1)) t p w q z) : ∀ (d i : Nat) (q : Nat → Int32), i + d = 4 → (∀ j, j < 5 → q j = mt_fp t way i j) → wY_coefficient_69 post J (nI k) x2 (nI c) way (d + 1) (nI i) t p w q z := by
  intro d
  induction d with
  | zero =>
    intro i q hi hq
    cases (hi : i = 4)
    exact br_t mt_4ge ⟨vp_in_nI hk (by decide), nm_r (e' := x2 + mt_fp t way 4 k) (by rw [nI_clamp (n := k) (by omega), hq k hk]) (nm_r (nI_1 c) (h q))⟩
  | succ d ih =>
    intro i q hi hq
    refine br_f (mt_4lt (by omega)) (mt_clY ?_)
    have ev : mt_va t way i = t (4 * i + (mt_cl way (nI i)).toNatClampNeg) := rfl
    have ed : mt_dg way i = if mt_cl way (nI i) = nI i then 1 else 0 := rfl
    obtain ⟨m, hm, em⟩ := mt_clN way (nI i)
    rw [em] at ev ed
    rw [nI_clamp (n := m) (by omega)] at ev
    rw [em, mt_iy, nI_clamp (n := 4 * i + m) (by omega)]
    unfold wY_coefficient_110
    refine ⟨vp_in_nI (by omega) (by decide), ?_⟩
    by_cases e : nI m = nI i
    · rw [if_pos e] at ed
      refine br_t e (mt_tmY (Or.inr rfl) (fun q' hq' => nm_r (nI_1 i) (ih (i + 1) q' (by omega) ?_)))
      intro j hj
      rw [hq' j hj, mt_tmc _ _ hq j hj]
      show _ = mt_tm (mt_va t way i) (mt_dg way i) (mt_fp t way i) j
      rw [ev, ed]
    · rw [if_neg e] at ed
      refine br_f e (mt_tmY (Or.inl rfl) (fun q' hq' => nm_r (nI_1 i) (ih (i + 1) q' (by omega) ?_)))
      intro j hj
      rw [hq' j hj, mt_tmc _ _ hq j hj]
      show _ = mt_tm (mt_va t way i) (mt_dg way i) (mt_fp t way i) j
      rw [ev, ed]
theorem mt_cf2 {post : Int32 → SY → Prop} {J : Int32 → Int32 → (Nat → Int32) → (Nat → Int32) → (Nat → Int32) → (Nat → Int32) → (Nat → Int32) → Prop} {t p w z : Nat → Int32} {way x2 : Int32} {k c : Nat} (hk : k < 5) (h : ∀ q, J (x2 + mt_fp t way 4 k) (nI (c + 1)) t p w q z) : ∀ (d i : Nat) (q : Nat → Int32), i + d = 5 → (∀ j, j < i → q j = 0) → wY_coefficient_32 post J (nI k) x2 (nI c) way (d + 1) (nI i) t p w q z := by
  intro d
  induction d with
  | zero =>
    intro i q hi hq
    cases (hi : i = 5)
    refine br_t (by decide) (mt_sgY (nm_e ⟨5, mt_cf1 hk h 4 0 _ rfl ?_⟩))
    intro j hj
    cases j with
    | zero => rfl
    | succ j => rw [pk_un (by omega)]; exact hq (j + 1) hj
  | succ d ih =>
    intro i q hi hq
    refine br_f (nI_ge (b := 5) (by omega) (by decide)) ⟨vp_in_nI (by omega) (by decide), nm_e (nm_r (nI_1 i) (ih (i + 1) _ (by omega) ?_))⟩
    intro j hj
    rw [nI_clamp (n := i) (by omega)]
    by_cases ej : j = i
    · subst ej; rw [pk_us]
    · rw [pk_un ej]; exact hq j (by omega)
def mt_cf (t : Nat → Int32) (k : Nat) : Nat → Int32
  | 0 => 0
  | c + 1 => mt_cf t k c + mt_fp t (mt_way c) 4 k
theorem mt_cf3 {post : Int32 → SY → Prop} {t p w z : Nat → Int32} {k : Nat} (hk : k < 5) (hz : ∀ j, j < 24 → z j = mt_way j) (h : ∀ q, post (mt_cf t k 24) (t, p, w, q, z)) : ∀ (d c : Nat) (q : Nat → Int32), c + d = 24 → wY_coefficient_15 post (nI k) (d + 1) (mt_cf t k c) (nI c) t p w q z := by
  intro d
  induction d with
  | zero =>
    intro c q hc
    cases (hc : c = 24)
    exact br_t (by decide) (h q)
  | succ d ih =>
    intro c q hc
    exact br_f (nI_ge (b := 24) (by omega) (by decide)) ⟨vp_in_nI (by omega) (by decide), nm_r (e' := mt_way c) (by rw [nI_clamp (n := c) (by omega)]; exact hz c (by omega)) ⟨6, mt_cf2 hk (fun q' => ih (c + 1) q' (by omega)) 5 0 q rfl (fun j hj => absurd hj (Nat.not_lt_zero j))⟩⟩
theorem mt_cfY {post : Int32 → SY → Prop} {t p w q z : Nat → Int32} {k : Nat} (hk : k < 5) (hz : ∀ j, j < 24 → z j = mt_way j) (h : ∀ q, post (mt_cf t k 24) (t, p, w, q, z)) : wpY_coefficient post (t, p, w, q, z) (nI k) := by
  unfold wpY_coefficient
  dsimp only
  exact br_f (nI_pos (by omega)) (br_t (nI_le (b := 4) (by omega) (by decide)) ⟨25, mt_cf3 hk hz h 24 0 q rfl⟩)
/-! valueAt's Horner loop -/
theorem mt_va1 {post : Int32 → SY → Prop} {t p w q z : Nat → Int32} {x y : Int32} {n : Nat} (m : Nat) (hm : m < 4) (hz : ∀ j, j < 24 → z j = mt_way j) (h : ∀ q, wY_valueAt_21 post x n (y * x + mt_cf t (m + 1) 24) (nI m) t p w q z) : wY_valueAt_21 post x (n + 1) y (nI (m + 1)) t p w q z :=
  br_f (nI_pos (by omega)) (mt_cfY (by omega) hz (fun q' => nm_e (nm_r (pk_m1 m) (h q'))))
theorem mt_va0 {post : Int32 → SY → Prop} {t p w q z : Nat → Int32} {x y : Int32} {n : Nat} (hz : ∀ j, j < 24 → z j = mt_way j) (h : ∀ q, post (y * x + mt_cf t 0 24) (t, p, w, q, z)) : wY_valueAt_21 post x (n + 2) y (nI 0) t p w q z :=
  br_f (nI_pos (by omega)) (mt_cfY (k := 0) (by omega) hz (fun q' => nm_e (nm_e (br_t (by decide) (h q')))))
def mt_ho (t : Nat → Int32) (x : Int32) : Int32 := ((((0 * x + mt_cf t 4 24) * x + mt_cf t 3 24) * x + mt_cf t 2 24) * x + mt_cf t 1 24) * x + mt_cf t 0 24
theorem mt_hoY {post : Int32 → SY → Prop} {t p w q z : Nat → Int32} {x : Int32} (hz : ∀ j, j < 24 → z j = mt_way j) (h : ∀ q, post (mt_ho t x) (t, p, w, q, z)) : wY_valueAt_21 post x 6 0 (nI 4) t p w q z :=
  mt_va1 3 (by decide) hz (fun _ => mt_va1 2 (by decide) hz (fun _ => mt_va1 1 (by decide) hz (fun _ => mt_va1 0 (by decide) hz (fun _ => mt_va0 (n := 0) hz h))))
/-! closed form of one way's polynomial -/
def mt_k (s a0 d0 a1 d1 a2 d2 a3 d3 : Int32) : Nat → Int32
  | 0 => s * a0 * a1 * a2 * a3
  | 1 => -(s * (d0 * a1 * a2 * a3 + a0 * d1 * a2 * a3 + a0 * a1 * d2 * a3 + a0 * a1 * a2 * d3))
  | 2 => s * (d0 * d1 * a2 * a3 + d0 * a1 * d2 * a3 + d0 * a1 * a2 * d3 + a0 * d1 * d2 * a3 + a0 * d1 * a2 * d3 + a0 * a1 * d2 * d3)
  | 3 => -(s * (d0 * d1 * d2 * a3 + d0 * d1 * a2 * d3 + d0 * a1 * d2 * d3 + a0 * d1 * d2 * d3))
  | _ => s * d0 * d1 * d2 * d3
theorem mt_kE (s a0 d0 a1 d1 a2 d2 a3 d3 : Int32) : ∀ k, k < 5 → mt_tm a3 d3 (mt_tm a2 d2 (mt_tm a1 d1 (mt_tm a0 d0 (mt_st s)))) k = mt_k s a0 d0 a1 d1 a2 d2 a3 d3 k := by
  intro k hk
  match k, hk with
  | 0, _ => simp only [mt_tm, mt_st, mt_k]; grind
  | 1, _ => simp only [mt_tm, mt_st, mt_k]; grind
  | 2, _ => simp only [mt_tm, mt_st, mt_k]; grind
  | 3, _ => simp only [mt_tm, mt_st, mt_k]; grind
  | 4, _ => simp only [mt_tm, mt_st, mt_k]; grind
def mt_en (way : Int32) : Int32 × (Nat × Int32) × (Nat × Int32) × (Nat × Int32) × (Nat × Int32) := (mt_sgw way 15, (4 * 0 + (mt_cl way (nI 0)).toNatClampNeg, mt_dg way 0), (4 * 1 + (mt_cl way (nI 1)).toNatClampNeg, mt_dg way 1), (4 * 2 + (mt_cl way (nI 2)).toNatClampNeg, mt_dg way 2), (4 * 3 + (mt_cl way (nI 3)).toNatClampNeg, mt_dg way 3))
def mt_kv (t : Nat → Int32) (k : Nat) (e : Int32 × (Nat × Int32) × (Nat × Int32) × (Nat × Int32) × (Nat × Int32)) : Int32 := mt_k e.1 (t e.2.1.1) e.2.1.2 (t e.2.2.1.1) e.2.2.1.2 (t e.2.2.2.1.1) e.2.2.2.1.2 (t e.2.2.2.2.1) e.2.2.2.2.2 k
theorem mt_fpE (t : Nat → Int32) (way : Int32) {k : Nat} (hk : k < 5) : mt_fp t way 4 k = mt_kv t k (mt_en way) := mt_kE _ _ _ _ _ _ _ _ _ k hk
def mt_wl : Nat → List (Int32 × (Nat × Int32) × (Nat × Int32) × (Nat × Int32) × (Nat × Int32))
  | 0 => []
  | c + 1 => mt_wl c ++ [mt_en (mt_way c)]
theorem mt_cfL (t : Nat → Int32) {k : Nat} (hk : k < 5) : ∀ c, mt_cf t k c = (mt_wl c).foldl (fun s e => s + mt_kv t k e) 0 := by
  intro c
  induction c with
  | zero => rfl
  | succ c ih =>
    show mt_cf t k c + mt_fp t (mt_way c) 4 k = _
    rw [ih, mt_fpE t _ hk]
    show _ = (mt_wl c ++ [mt_en (mt_way c)]).foldl (fun s e => s + mt_kv t k e) 0
    rw [List.foldl_append]
    rfl
theorem mt_wlE : mt_wl 24 = [(1, (3, 0), (6, 0), (9, 0), (12, 0)), (-1, (2, 0), (7, 0), (9, 0), (12, 0)), (-1, (3, 0), (5, 1), (10, 1), (12, 0)), (1, (1, 0), (7, 0), (10, 1), (12, 0)), (1, (2, 0), (5, 1), (11, 0), (12, 0)), (-1, (1, 0), (6, 0), (11, 0), (12, 0)), (-1, (3, 0), (6, 0), (8, 0), (13, 0)), (1, (2, 0), (7, 0), (8, 0), (13, 0)), (1, (3, 0), (4, 0), (10, 1), (13, 0)), (-1, (0, 1), (7, 0), (10, 1), (13, 0)), (-1, (2, 0), (4, 0), (11, 0), (13, 0)), (1, (0, 1), (6, 0), (11, 0), (13, 0)), (1, (3, 0), (5, 1), (8, 0), (14, 0)), (-1, (1, 0), (7, 0), (8, 0), (14, 0)), (-1, (3, 0), (4, 0), (9, 0), (14, 0)), (1, (0, 1), (7, 0), (9, 0), (14, 0)), (1, (1, 0), (4, 0), (11, 0), (14, 0)), (-1, (0, 1), (5, 1), (11, 0), (14, 0)), (-1, (2, 0), (5, 1), (8, 0), (15, 1)), (1, (1, 0), (6, 0), (8, 0), (15, 1)), (1, (2, 0), (4, 0), (9, 0), (15, 1)), (-1, (0, 1), (6, 0), (9, 0), (15, 1)), (-1, (1, 0), (4, 0), (10, 1), (15, 1)), (1, (0, 1), (5, 1), (10, 1), (15, 1))] := by decide +kernel
end
section
/-! the coefficients are the component's sums -/
theorem mt_q1 (x0 x1 x2 x3 x4 x5 x6 x7 x8 x9 x10 x11 x12 x13 x14 x15 : Int32) : 0 + -(1 * (0 * x6 * x9 * x12 + x3 * 0 * x9 * x12 + x3 * x6 * 0 * x12 + x3 * x6 * x9 * 0)) + -(-1 * (0 * x7 * x9 * x12 + x2 * 0 * x9 * x12 + x2 * x7 * 0 * x12 + x2 * x7 * x9 * 0)) + -(-1 * (0 * x5 * x10 * x12 + x3 * 1 * x10 * x12 + x3 * x5 * 1 * x12 + x3 * x5 * x10 * 0)) + -(1 * (0 * x7 * x10 * x12 + x1 * 0 * x10 * x12 + x1 * x7 * 1 * x12 + x1 * x7 * x10 * 0)) + -(1 * (0 * x5 * x11 * x12 + x2 * 1 * x11 * x12 + x2 * x5 * 0 * x12 + x2 * x5 * x11 * 0)) + -(-1 * (0 * x6 * x11 * x12 + x1 * 0 * x11 * x12 + x1 * x6 * 0 * x12 + x1 * x6 * x11 * 0)) + -(-1 * (0 * x6 * x8 * x13 + x3 * 0 * x8 * x13 + x3 * x6 * 0 * x13 + x3 * x6 * x8 * 0)) + -(1 * (0 * x7 * x8 * x13 + x2 * 0 * x8 * x13 + x2 * x7 * 0 * x13 + x2 * x7 * x8 * 0)) + -(1 * (0 * x4 * x10 * x13 + x3 * 0 * x10 * x13 + x3 * x4 * 1 * x13 + x3 * x4 * x10 * 0)) + -(-1 * (1 * x7 * x10 * x13 + x0 * 0 * x10 * x13 + x0 * x7 * 1 * x13 + x0 * x7 * x10 * 0)) + -(-1 * (0 * x4 * x11 * x13 + x2 * 0 * x11 * x13 + x2 * x4 * 0 * x13 + x2 * x4 * x11 * 0)) + -(1 * (1 * x6 * x11 * x13 + x0 * 0 * x11 * x13 + x0 * x6 * 0 * x13 + x0 * x6 * x11 * 0)) + -(1 * (0 * x5 * x8 * x14 + x3 * 1 * x8 * x14 + x3 * x5 * 0 * x14 + x3 * x5 * x8 * 0)) + -(-1 * (0 * x7 * x8 * x14 + x1 * 0 * x8 * x14 + x1 * x7 * 0 * x14 + x1 * x7 * x8 * 0)) + -(-1 * (0 * x4 * x9 * x14 + x3 * 0 * x9 * x14 + x3 * x4 * 0 * x14 + x3 * x4 * x9 * 0)) + -(1 * (1 * x7 * x9 * x14 + x0 * 0 * x9 * x14 + x0 * x7 * 0 * x14 + x0 * x7 * x9 * 0)) + -(1 * (0 * x4 * x11 * x14 + x1 * 0 * x11 * x14 + x1 * x4 * 0 * x14 + x1 * x4 * x11 * 0)) + -(-1 * (1 * x5 * x11 * x14 + x0 * 1 * x11 * x14 + x0 * x5 * 0 * x14 + x0 * x5 * x11 * 0)) + -(-1 * (0 * x5 * x8 * x15 + x2 * 1 * x8 * x15 + x2 * x5 * 0 * x15 + x2 * x5 * x8 * 1)) + -(1 * (0 * x6 * x8 * x15 + x1 * 0 * x8 * x15 + x1 * x6 * 0 * x15 + x1 * x6 * x8 * 1)) + -(1 * (0 * x4 * x9 * x15 + x2 * 0 * x9 * x15 + x2 * x4 * 0 * x15 + x2 * x4 * x9 * 1)) + -(-1 * (1 * x6 * x9 * x15 + x0 * 0 * x9 * x15 + x0 * x6 * 0 * x15 + x0 * x6 * x9 * 1)) + -(-1 * (0 * x4 * x10 * x15 + x1 * 0 * x10 * x15 + x1 * x4 * 1 * x15 + x1 * x4 * x10 * 1)) + -(1 * (1 * x5 * x10 * x15 + x0 * 1 * x10 * x15 + x0 * x5 * 1 * x15 + x0 * x5 * x10 * 1)) = -(0 + (x5 * (x10 * x15 - x11 * x14) - x6 * (x9 * x15 - x11 * x13) + x7 * (x9 * x14 - x10 * x13)) + (x0 * (x10 * x15 - x11 * x14) - x2 * (x8 * x15 - x11 * x12) + x3 * (x8 * x14 - x10 * x12)) + (x0 * (x5 * x15 - x7 * x13) - x1 * (x4 * x15 - x7 * x12) + x3 * (x4 * x13 - x5 * x12)) + (x0 * (x5 * x10 - x6 * x9) - x1 * (x4 * x10 - x6 * x8) + x2 * (x4 * x9 - x5 * x8))) := by grind
theorem mt_q2 (x0 x1 x2 x3 x4 x5 x6 x7 x8 x9 x10 x11 x12 x13 x14 x15 : Int32) : 0 + 1 * (0 * 0 * x9 * x12 + 0 * x6 * 0 * x12 + 0 * x6 * x9 * 0 + x3 * 0 * 0 * x12 + x3 * 0 * x9 * 0 + x3 * x6 * 0 * 0) + -1 * (0 * 0 * x9 * x12 + 0 * x7 * 0 * x12 + 0 * x7 * x9 * 0 + x2 * 0 * 0 * x12 + x2 * 0 * x9 * 0 + x2 * x7 * 0 * 0) + -1 * (0 * 1 * x10 * x12 + 0 * x5 * 1 * x12 + 0 * x5 * x10 * 0 + x3 * 1 * 1 * x12 + x3 * 1 * x10 * 0 + x3 * x5 * 1 * 0) + 1 * (0 * 0 * x10 * x12 + 0 * x7 * 1 * x12 + 0 * x7 * x10 * 0 + x1 * 0 * 1 * x12 + x1 * 0 * x10 * 0 + x1 * x7 * 1 * 0) + 1 * (0 * 1 * x11 * x12 + 0 * x5 * 0 * x12 + 0 * x5 * x11 * 0 + x2 * 1 * 0 * x12 + x2 * 1 * x11 * 0 + x2 * x5 * 0 * 0) + -1 * (0 * 0 * x11 * x12 + 0 * x6 * 0 * x12 + 0 * x6 * x11 * 0 + x1 * 0 * 0 * x12 + x1 * 0 * x11 * 0 + x1 * x6 * 0 * 0) + -1 * (0 * 0 * x8 * x13 + 0 * x6 * 0 * x13 + 0 * x6 * x8 * 0 + x3 * 0 * 0 * x13 + x3 * 0 * x8 * 0 + x3 * x6 * 0 * 0) + 1 * (0 * 0 * x8 * x13 + 0 * x7 * 0 * x13 + 0 * x7 * x8 * 0 + x2 * 0 * 0 * x13 + x2 * 0 * x8 * 0 + x2 * x7 * 0 * 0) + 1 * (0 * 0 * x10 * x13 + 0 * x4 * 1 * x13 + 0 * x4 * x10 * 0 + x3 * 0 * 1 * x13 + x3 * 0 * x10 * 0 + x3 * x4 * 1 * 0) + -1 * (1 * 0 * x10 * x13 + 1 * x7 * 1 * x13 + 1 * x7 * x10 * 0 + x0 * 0 * 1 * x13 + x0 * 0 * x10 * 0 + x0 * x7 * 1 * 0) + -1 * (0 * 0 * x11 * x13 + 0 * x4 * 0 * x13 + 0 * x4 * x11 * 0 + x2 * 0 * 0 * x13 + x2 * 0 * x11 * 0 + x2 * x4 * 0 * 0) + 1 * (1 * 0 * x11 * x13 + 1 * x6 * 0 * x13 + 1 * x6 * x11 * 0 + x0 * 0 * 0 * x13 + x0 * 0 * x11 * 0 + x0 * x6 * 0 * 0) + 1 * (0 * 1 * x8 * x14 + 0 * x5 * 0 * x14 + 0 * x5 * x8 * 0 + x3 * 1 * 0 * x14 + x3 * 1 * x8 * 0 + x3 * x5 * 0 * 0) + -1 * (0 * 0 * x8 * x14 + 0 * x7 * 0 * x14 + 0 * x7 * x8 * 0 + x1 * 0 * 0 * x14 + x1 * 0 * x8 * 0 + x1 * x7 * 0 * 0) + -1 * (0 * 0 * x9 * x14 + 0 * x4 * 0 * x14 + 0 * x4 * x9 * 0 + x3 * 0 * 0 * x14 + x3 * 0 * x9 * 0 + x3 * x4 * 0 * 0) + 1 * (1 * 0 * x9 * x14 + 1 * x7 * 0 * x14 + 1 * x7 * x9 * 0 + x0 * 0 * 0 * x14 + x0 * 0 * x9 * 0 + x0 * x7 * 0 * 0) + 1 * (0 * 0 * x11 * x14 + 0 * x4 * 0 * x14 + 0 * x4 * x11 * 0 + x1 * 0 * 0 * x14 + x1 * 0 * x11 * 0 + x1 * x4 * 0 * 0) + -1 * (1 * 1 * x11 * x14 + 1 * x5 * 0 * x14 + 1 * x5 * x11 * 0 + x0 * 1 * 0 * x14 + x0 * 1 * x11 * 0 + x0 * x5 * 0 * 0) + -1 * (0 * 1 * x8 * x15 + 0 * x5 * 0 * x15 + 0 * x5 * x8 * 1 + x2 * 1 * 0 * x15 + x2 * 1 * x8 * 1 + x2 * x5 * 0 * 1) + 1 * (0 * 0 * x8 * x15 + 0 * x6 * 0 * x15 + 0 * x6 * x8 * 1 + x1 * 0 * 0 * x15 + x1 * 0 * x8 * 1 + x1 * x6 * 0 * 1) + 1 * (0 * 0 * x9 * x15 + 0 * x4 * 0 * x15 + 0 * x4 * x9 * 1 + x2 * 0 * 0 * x15 + x2 * 0 * x9 * 1 + x2 * x4 * 0 * 1) + -1 * (1 * 0 * x9 * x15 + 1 * x6 * 0 * x15 + 1 * x6 * x9 * 1 + x0 * 0 * 0 * x15 + x0 * 0 * x9 * 1 + x0 * x6 * 0 * 1) + -1 * (0 * 0 * x10 * x15 + 0 * x4 * 1 * x15 + 0 * x4 * x10 * 1 + x1 * 0 * 1 * x15 + x1 * 0 * x10 * 1 + x1 * x4 * 1 * 1) + 1 * (1 * 1 * x10 * x15 + 1 * x5 * 1 * x15 + 1 * x5 * x10 * 1 + x0 * 1 * 1 * x15 + x0 * 1 * x10 * 1 + x0 * x5 * 1 * 1) = 0 + (x0 * x5 - x1 * x4) + (x0 * x10 - x2 * x8) + (x0 * x15 - x3 * x12) + (x5 * x10 - x6 * x9) + (x5 * x15 - x7 * x13) + (x10 * x15 - x11 * x14) := by grind
theorem mt_q3 (x0 x1 x2 x3 x4 x5 x6 x7 x8 x9 x10 x11 x12 x13 x14 x15 : Int32) : 0 + -(1 * (0 * 0 * 0 * x12 + 0 * 0 * x9 * 0 + 0 * x6 * 0 * 0 + x3 * 0 * 0 * 0)) + -(-1 * (0 * 0 * 0 * x12 + 0 * 0 * x9 * 0 + 0 * x7 * 0 * 0 + x2 * 0 * 0 * 0)) + -(-1 * (0 * 1 * 1 * x12 + 0 * 1 * x10 * 0 + 0 * x5 * 1 * 0 + x3 * 1 * 1 * 0)) + -(1 * (0 * 0 * 1 * x12 + 0 * 0 * x10 * 0 + 0 * x7 * 1 * 0 + x1 * 0 * 1 * 0)) + -(1 * (0 * 1 * 0 * x12 + 0 * 1 * x11 * 0 + 0 * x5 * 0 * 0 + x2 * 1 * 0 * 0)) + -(-1 * (0 * 0 * 0 * x12 + 0 * 0 * x11 * 0 + 0 * x6 * 0 * 0 + x1 * 0 * 0 * 0)) + -(-1 * (0 * 0 * 0 * x13 + 0 * 0 * x8 * 0 + 0 * x6 * 0 * 0 + x3 * 0 * 0 * 0)) + -(1 * (0 * 0 * 0 * x13 + 0 * 0 * x8 * 0 + 0 * x7 * 0 * 0 + x2 * 0 * 0 * 0)) + -(1 * (0 * 0 * 1 * x13 + 0 * 0 * x10 * 0 + 0 * x4 * 1 * 0 + x3 * 0 * 1 * 0)) + -(-1 * (1 * 0 * 1 * x13 + 1 * 0 * x10 * 0 + 1 * x7 * 1 * 0 + x0 * 0 * 1 * 0)) + -(-1 * (0 * 0 * 0 * x13 + 0 * 0 * x11 * 0 + 0 * x4 * 0 * 0 + x2 * 0 * 0 * 0)) + -(1 * (1 * 0 * 0 * x13 + 1 * 0 * x11 * 0 + 1 * x6 * 0 * 0 + x0 * 0 * 0 * 0)) + -(1 * (0 * 1 * 0 * x14 + 0 * 1 * x8 * 0 + 0 * x5 * 0 * 0 + x3 * 1 * 0 * 0)) + -(-1 * (0 * 0 * 0 * x14 + 0 * 0 * x8 * 0 + 0 * x7 * 0 * 0 + x1 * 0 * 0 * 0)) + -(-1 * (0 * 0 * 0 * x14 + 0 * 0 * x9 * 0 + 0 * x4 * 0 * 0 + x3 * 0 * 0 * 0)) + -(1 * (1 * 0 * 0 * x14 + 1 * 0 * x9 * 0 + 1 * x7 * 0 * 0 + x0 * 0 * 0 * 0)) + -(1 * (0 * 0 * 0 * x14 + 0 * 0 * x11 * 0 + 0 * x4 * 0 * 0 + x1 * 0 * 0 * 0)) + -(-1 * (1 * 1 * 0 * x14 + 1 * 1 * x11 * 0 + 1 * x5 * 0 * 0 + x0 * 1 * 0 * 0)) + -(-1 * (0 * 1 * 0 * x15 + 0 * 1 * x8 * 1 + 0 * x5 * 0 * 1 + x2 * 1 * 0 * 1)) + -(1 * (0 * 0 * 0 * x15 + 0 * 0 * x8 * 1 + 0 * x6 * 0 * 1 + x1 * 0 * 0 * 1)) + -(1 * (0 * 0 * 0 * x15 + 0 * 0 * x9 * 1 + 0 * x4 * 0 * 1 + x2 * 0 * 0 * 1)) + -(-1 * (1 * 0 * 0 * x15 + 1 * 0 * x9 * 1 + 1 * x6 * 0 * 1 + x0 * 0 * 0 * 1)) + -(-1 * (0 * 0 * 1 * x15 + 0 * 0 * x10 * 1 + 0 * x4 * 1 * 1 + x1 * 0 * 1 * 1)) + -(1 * (1 * 1 * 1 * x15 + 1 * 1 * x10 * 1 + 1 * x5 * 1 * 1 + x0 * 1 * 1 * 1)) = -(0 + x0 + x5 + x10 + x15) := by grind
theorem mt_q4 : 0 + 1 * 0 * 0 * 0 * 0 + -1 * 0 * 0 * 0 * 0 + -1 * 0 * 1 * 1 * 0 + 1 * 0 * 0 * 1 * 0 + 1 * 0 * 1 * 0 * 0 + -1 * 0 * 0 * 0 * 0 + -1 * 0 * 0 * 0 * 0 + 1 * 0 * 0 * 0 * 0 + 1 * 0 * 0 * 1 * 0 + -1 * 1 * 0 * 1 * 0 + -1 * 0 * 0 * 0 * 0 + 1 * 1 * 0 * 0 * 0 + 1 * 0 * 1 * 0 * 0 + -1 * 0 * 0 * 0 * 0 + -1 * 0 * 0 * 0 * 0 + 1 * 1 * 0 * 0 * 0 + 1 * 0 * 0 * 0 * 0 + -1 * 1 * 1 * 0 * 0 + -1 * 0 * 1 * 0 * 1 + 1 * 0 * 0 * 0 * 1 + 1 * 0 * 0 * 0 * 1 + -1 * 1 * 0 * 0 * 1 + -1 * 0 * 0 * 1 * 1 + 1 * 1 * 1 * 1 * 1 = (1 : Int32) := by decide
theorem mt_e3E (w : Nat → Int32) : mt_e3 w = 0 + (w 5 * (w 10 * w 15 - w 11 * w 14) - w 6 * (w 9 * w 15 - w 11 * w 13) + w 7 * (w 9 * w 14 - w 10 * w 13)) + (w 0 * (w 10 * w 15 - w 11 * w 14) - w 2 * (w 8 * w 15 - w 11 * w 12) + w 3 * (w 8 * w 14 - w 10 * w 12)) + (w 0 * (w 5 * w 15 - w 7 * w 13) - w 1 * (w 4 * w 15 - w 7 * w 12) + w 3 * (w 4 * w 13 - w 5 * w 12)) + (w 0 * (w 5 * w 10 - w 6 * w 9) - w 1 * (w 4 * w 10 - w 6 * w 8) + w 2 * (w 4 * w 9 - w 5 * w 8)) := rfl
theorem mt_e2E (w : Nat → Int32) : mt_e2 w = 0 + (w 0 * w 5 - w 1 * w 4) + (w 0 * w 10 - w 2 * w 8) + (w 0 * w 15 - w 3 * w 12) + (w 5 * w 10 - w 6 * w 9) + (w 5 * w 15 - w 7 * w 13) + (w 10 * w 15 - w 11 * w 14) := rfl
theorem mt_c0 (w : Nat → Int32) : mt_cf w 0 24 = mt_det w := by
  rw [mt_cfL w (by decide), mt_wlE, mt_detE]
  exact mt_r4 (w 0) (w 1) (w 2) (w 3) (w 4) (w 5) (w 6) (w 7) (w 8) (w 9) (w 10) (w 11) (w 12) (w 13) (w 14) (w 15)
theorem mt_c1 (w : Nat → Int32) : mt_cf w 1 24 = -mt_e3 w := by
  rw [mt_cfL w (by decide), mt_wlE, mt_e3E]
  exact mt_q1 (w 0) (w 1) (w 2) (w 3) (w 4) (w 5) (w 6) (w 7) (w 8) (w 9) (w 10) (w 11) (w 12) (w 13) (w 14) (w 15)
theorem mt_c2' (w : Nat → Int32) : mt_cf w 2 24 = mt_e2 w := by
  rw [mt_cfL w (by decide), mt_wlE, mt_e2E]
  exact mt_q2 (w 0) (w 1) (w 2) (w 3) (w 4) (w 5) (w 6) (w 7) (w 8) (w 9) (w 10) (w 11) (w 12) (w 13) (w 14) (w 15)
theorem mt_c3' (w : Nat → Int32) : mt_cf w 3 24 = -mt_e1 w := by
  rw [mt_cfL w (by decide), mt_wlE]
  exact mt_q3 (w 0) (w 1) (w 2) (w 3) (w 4) (w 5) (w 6) (w 7) (w 8) (w 9) (w 10) (w 11) (w 12) (w 13) (w 14) (w 15)
theorem mt_c4 (w : Nat → Int32) : mt_cf w 4 24 = 1 := by
  rw [mt_cfL w (by decide), mt_wlE]
  exact mt_q4
theorem mt_qh (x0 x1 x2 x3 x4 x5 x6 x7 x8 x9 x10 x11 x12 x13 x14 x15 y : Int32) : ((((0 * y + 1) * y + -(0 + x0 + x5 + x10 + x15)) * y + (0 + (x0 * x5 - x1 * x4) + (x0 * x10 - x2 * x8) + (x0 * x15 - x3 * x12) + (x5 * x10 - x6 * x9) + (x5 * x15 - x7 * x13) + (x10 * x15 - x11 * x14))) * y + -(0 + (x5 * (x10 * x15 - x11 * x14) - x6 * (x9 * x15 - x11 * x13) + x7 * (x9 * x14 - x10 * x13)) + (x0 * (x10 * x15 - x11 * x14) - x2 * (x8 * x15 - x11 * x12) + x3 * (x8 * x14 - x10 * x12)) + (x0 * (x5 * x15 - x7 * x13) - x1 * (x4 * x15 - x7 * x12) + x3 * (x4 * x13 - x5 * x12)) + (x0 * (x5 * x10 - x6 * x9) - x1 * (x4 * x10 - x6 * x8) + x2 * (x4 * x9 - x5 * x8)))) * y + (0 + x0 * (x5 * (x10 * x15 - x11 * x14) - x6 * (x9 * x15 - x11 * x13) + x7 * (x9 * x14 - x10 * x13)) + x1 * -(x4 * (x10 * x15 - x11 * x14) - x6 * (x8 * x15 - x11 * x12) + x7 * (x8 * x14 - x10 * x12)) + x2 * (x4 * (x9 * x15 - x11 * x13) - x5 * (x8 * x15 - x11 * x12) + x7 * (x8 * x13 - x9 * x12)) + x3 * -(x4 * (x9 * x14 - x10 * x13) - x5 * (x8 * x14 - x10 * x12) + x6 * (x8 * x13 - x9 * x12))) = 0 + (x0 - y) * ((x5 - y) * ((x10 - y) * (x15 - y) - x11 * x14) - x6 * (x9 * (x15 - y) - x11 * x13) + x7 * (x9 * x14 - (x10 - y) * x13)) + x1 * -(x4 * ((x10 - y) * (x15 - y) - x11 * x14) - x6 * (x8 * (x15 - y) - x11 * x12) + x7 * (x8 * x14 - (x10 - y) * x12)) + x2 * (x4 * (x9 * (x15 - y) - x11 * x13) - (x5 - y) * (x8 * (x15 - y) - x11 * x12) + x7 * (x8 * x13 - x9 * x12)) + x3 * -(x4 * (x9 * x14 - (x10 - y) * x13) - (x5 - y) * (x8 * x14 - (x10 - y) * x12) + x6 * (x8 * x13 - x9 * x12)) := by grind
theorem mt_hoE (w : Nat → Int32) (y : Int32) : mt_ho w y = mt_det (mt_sh w y) := by
  unfold mt_ho
  rw [mt_c0, mt_c1, mt_c2', mt_c3', mt_c4, mt_e3E, mt_e2E, mt_detE, mt_detE]
  exact mt_qh (w 0) (w 1) (w 2) (w 3) (w 4) (w 5) (w 6) (w 7) (w 8) (w 9) (w 10) (w 11) (w 12) (w 13) (w 14) (w 15) y
theorem i_vc_coefficient {k : Nat} {u : SX} {v : SY} (I : i_Rel k u v) (hk : k + 4 ≤ 2048) (v1 : Int32) : wpX_coefficient (fun r => wpY_coefficient (fun r' v' => r' = r ∧ i_Rel (k + 4) u v') v v1) u v1 := by
  obtain ⟨t, s, p, q⟩ := u
  obtain ⟨t', p', w', q', z'⟩ := v
  obtain ⟨e, hw⟩ := I
  cases (e : t = t')
  unfold wpX_coefficient
  dsimp only
  by_cases h0 : v1 < 0
  · refine br_t h0 ?_
    unfold wpY_coefficient
    exact br_t h0 ⟨rfl, rfl, hw⟩
  · refine br_f h0 ?_
    by_cases h4 : 4 < v1
    · refine br_t h4 ?_
      unfold wpY_coefficient
      exact br_f h0 (br_f (Int32.not_le.mpr h4) ⟨rfl, rfl, hw⟩)
    · refine br_f h4 ?_
      obtain ⟨m, hm, rfl⟩ := nI_of2 (M := 4) (n := 4) (by decide) h0 (Int32.not_lt.mp h4)
      match m, hm with
      | 0, _ => exact br_t rfl (mt_tabled (mt_cfY (k := 0) (by decide) hw (fun q1 => ⟨mt_c0 t, rfl, hw⟩)))
      | 1, _ => exact br_f (by decide) (br_t rfl (mt_e3X (mt_cfY (k := 1) (by decide) hw (fun q1 => ⟨mt_c1 t, rfl, hw⟩))))
      | 2, _ => exact br_f (by decide) (br_f (by decide) (br_t rfl (mt_e2X (mt_cfY (k := 2) (by decide) hw (fun q1 => ⟨mt_c2' t, rfl, hw⟩)))))
      | 3, _ => exact br_f (by decide) (br_f (by decide) (br_f (by decide) (br_t rfl (mt_tablet (mt_cfY (k := 3) (by decide) hw (fun q1 => ⟨mt_c3' t, rfl, hw⟩))))))
      | 4, _ => exact br_f (by decide) (br_f (by decide) (br_f (by decide) (br_f (by decide) (br_t rfl (mt_cfY (k := 4) (by decide) hw (fun q1 => ⟨mt_c4 t, rfl, hw⟩))))))
theorem i_vc_valueAt {k : Nat} {u : SX} {v : SY} (I : i_Rel k u v) (hk : k + 4 ≤ 2048) (v1 : Int32) : wpX_valueAt (fun r u' => wpY_valueAt (fun r' v' => r' = r ∧ i_Rel (k + 4) u' v') v v1) u v1 := by
  obtain ⟨t, s, p, q⟩ := u
  obtain ⟨t', p', w', q', z'⟩ := v
  obtain ⟨e, hw⟩ := I
  cases (e : t = t')
  unfold wpX_valueAt wpY_valueAt
  dsimp only
  rcases mt_within v1 1000 with ⟨gx, gy⟩ | ⟨_, gx, gy⟩
  · exact gx _ (br_t rfl (gy _ _ ⟨rfl, rfl, hw⟩))
  · refine gx _ (br_f mt_n0 (mt_td (fun s1 h1 => mt_shiftedd (gy _ _ ⟨6, mt_hoY hw (fun q1 => ⟨?_, rfl, hw⟩)⟩))))
    rw [mt_hoE]
    exact (mt_cd h1).symm
/-! roots -/
def mt_ro (t : Nat → Int32) : Nat → Nat → Int32 → Int32
  | 0, _, c => c
  | d + 1, i, c => mt_ro t d (i + 1) (if mt_det (mt_sh t (nI i + -36)) = 0 then c + 1 else c)
theorem mt_r36 : ∀ i, i < 73 → ¬ (36 : Int32) < nI i + -36 := by decide +kernel
theorem mt_r1 (i : Nat) : nI i + -36 + 1 = nI (i + 1) + -36 := by rw [← nI_1]; grind
theorem mt_roX {post : Int32 → SX → Prop} {t p q : Nat → Int32} : ∀ (d i : Nat) (c : Int32) (s : Nat → Int32), i + d = 73 → (∀ s, post (mt_ro t d i c) (t, s, p, q)) → wX_roots_5 post (d + 1) c (nI i + -36) t s p q := by
  intro d
  induction d with
  | zero =>
    intro i c s hi h
    cases (hi : i = 73)
    exact br_t (by decide) (h s)
  | succ d ih =>
    intro i c s hi h
    refine br_f (mt_r36 i (by omega)) (mt_td (fun s1 h1 => mt_shiftedd ?_))
    rw [mt_cd h1]
    unfold mt_ro at h
    by_cases e : mt_det (mt_sh t (nI i + -36)) = 0
    · rw [if_pos e] at h
      exact br_t e (nm_e (nm_r (mt_r1 i) (ih (i + 1) _ s1 (by omega) h)))
    · rw [if_neg e] at h
      exact br_f e (nm_r (mt_r1 i) (ih (i + 1) _ s1 (by omega) h))
theorem mt_roY {post : Int32 → SY → Prop} {t p q z : Nat → Int32} (hz : ∀ j, j < 24 → z j = mt_way j) : ∀ (d i : Nat) (c : Int32) (w : Nat → Int32), i + d = 73 → (∀ w, post (mt_ro t d i c) (t, p, w, q, z)) → wY_roots_5 post (d + 1) c (nI i + -36) t p w q z := by
  intro d
  induction d with
  | zero =>
    intro i c w hi h
    cases (hi : i = 73)
    exact br_t (by decide) (h w)
  | succ d ih =>
    intro i c w hi h
    refine br_f (mt_r36 i (by omega)) (mt_ld (fun w1 h1 => mt_mnY hz ?_))
    rw [mt_M4, mt_cd h1]
    unfold mt_ro at h
    by_cases e : mt_det (mt_sh t (nI i + -36)) = 0
    · rw [if_pos e] at h
      exact br_t e (nm_e (nm_r (mt_r1 i) (ih (i + 1) _ w1 (by omega) h)))
    · rw [if_neg e] at h
      exact br_f e (nm_r (mt_r1 i) (ih (i + 1) _ w1 (by omega) h))
theorem i_vc_roots {k : Nat} {u : SX} {v : SY} (I : i_Rel k u v) (hk : k + 4 ≤ 2048) : wpX_roots (fun r u' => wpY_roots (fun r' v' => r' = r ∧ i_Rel (k + 4) u' v') v) u := by
  obtain ⟨t, s, p, q⟩ := u
  obtain ⟨t', p', w', q', z'⟩ := v
  obtain ⟨e, hw⟩ := I
  cases (e : t = t')
  unfold wpX_roots wpY_roots
  dsimp only
  have e0 : (-36 : Int32) = nI 0 + -36 := by decide
  rw [e0]
  exact ⟨74, mt_roX 73 0 0 s rfl (fun s1 => ⟨74, mt_roY hw 73 0 0 w' rfl (fun w1 => ⟨rfl, rfl, hw⟩)⟩)⟩
end
section
/-! rankAt: the component's searches -/
theorem mt_h31 {post : Int32 → Prop} {J : Int32 → Prop} {t s p q : Nat → Int32} {r : Nat} (hr : r < 4) (h1 : ∀ c, c < 4 → mt_s3 s r c ≠ 0 → post 1) (h0 : (∀ c, c < 4 → mt_s3 s r c = 0) → J (nI (r + 1))) : ∀ d c : Nat, c + d = 4 → (∀ j, j < c → mt_s3 s r j = 0) → wX_someThreeIsNotZero_9 post J (nI r) t s p q (d + 1) (nI c) := by
  intro d
  induction d with
  | zero =>
    intro c hc hz
    cases (hc : c = 4)
    exact br_t mt_4ge (nm_r (nI_1 r) (h0 hz))
  | succ d ih =>
    intro c hc hz
    refine br_f (mt_4lt (by omega)) (mt_shifteds hr (by omega) ?_)
    by_cases e : mt_s3 s r c = 0
    · exact br_t e (nm_r (nI_1 c) (ih (c + 1) (by omega) (lt_s hz e)))
    · exact br_f e (h1 c (by omega) e)
theorem mt_h32 {post : Int32 → Prop} {t s p q : Nat → Int32} (h1 : ∀ r c, r < 4 → c < 4 → mt_s3 s r c ≠ 0 → post 1) (h0 : (∀ r, r < 4 → ∀ c, c < 4 → mt_s3 s r c = 0) → post 0) : ∀ d r : Nat, r + d = 4 → (∀ i, i < r → ∀ c, c < 4 → mt_s3 s i c = 0) → wX_someThreeIsNotZero_2 post t s p q (d + 1) (nI r) := by
  intro d
  induction d with
  | zero =>
    intro r hr hz
    cases (hr : r = 4)
    exact br_t mt_4ge (h0 hz)
  | succ d ih =>
    intro r hr hz
    exact br_f (mt_4lt (by omega)) ⟨5, mt_h31 (by omega) (fun c hc => h1 r c (by omega) hc) (fun g => ih (r + 1) (by omega) (lt_s hz g)) 4 0 rfl lt_0⟩
theorem mt_h3 {post : Int32 → Prop} {t s p q : Nat → Int32} (h1 : ∀ r c, r < 4 → c < 4 → mt_s3 s r c ≠ 0 → post 1) (h0 : (∀ r, r < 4 → ∀ c, c < 4 → mt_s3 s r c = 0) → post 0) : wpX_someThreeIsNotZero post (t, s, p, q) := by
  unfold wpX_someThreeIsNotZero
  dsimp only
  exact ⟨5, mt_h32 h1 h0 4 0 rfl lt_0⟩
theorem mt_h21 {post : Int32 → Prop} {J : Int32 → Prop} {t s p q : Nat → Int32} {a b c : Nat} (ha : a < 4) (hb : b < 4) (hc : c < 4) (h1 : ∀ d, c < d → d < 4 → mt_m2 s a b c d ≠ 0 → post 1) (h0 : (∀ d, d < 4 → c < d → mt_m2 s a b c d = 0) → J (nI (c + 1))) : ∀ n d : Nat, d + n = 4 → c < d → (∀ j, j < d → c < j → mt_m2 s a b c j = 0) → wX_someTwoInRowsIsNotZero_12 post J (nI a) (nI b) (nI c) t s p q (n + 1) (nI d) := by
  intro n
  induction n with
  | zero =>
    intro d hd _ hz
    cases (hd : d = 4)
    exact br_t mt_4ge (nm_r (nI_1 c) (h0 hz))
  | succ n ih =>
    intro d hd hcd hz
    refine br_f (mt_4lt (by omega)) (mt_shifted2 ha hb hc (by omega) ?_)
    by_cases e : mt_m2 s a b c d = 0
    · exact br_t e (nm_r (nI_1 d) (ih (d + 1) (by omega) (by omega) (lt_s hz (fun _ => e))))
    · exact br_f e (h1 d hcd (by omega) e)
theorem mt_h22 {post : Int32 → Prop} {t s p q : Nat → Int32} {a b : Nat} (ha : a < 4) (hb : b < 4) (h1 : ∀ c d, c < d → d < 4 → mt_m2 s a b c d ≠ 0 → post 1) (h0 : (∀ c, c < 4 → ∀ d, d < 4 → c < d → mt_m2 s a b c d = 0) → post 0) : ∀ n c : Nat, c + n = 4 → (∀ j, j < c → ∀ d, d < 4 → j < d → mt_m2 s a b j d = 0) → wX_someTwoInRowsIsNotZero_2 post (nI a) (nI b) t s p q (n + 1) (nI c) := by
  intro n
  induction n with
  | zero =>
    intro c hc hz
    cases (hc : c = 4)
    exact br_t mt_4ge (h0 hz)
  | succ n ih =>
    intro c hc hz
    exact br_f (mt_4lt (by omega)) (nm_r (nI_1 c) ⟨n + 1, mt_h21 ha hb (by omega) (fun d => h1 c d) (fun g => ih (c + 1) (by omega) (lt_s hz g)) n (c + 1) (by omega) (by omega) (fun j h2 h3 => absurd h3 (by omega))⟩)
theorem mt_h23 {post : Int32 → Prop} {t s p q : Nat → Int32} {a b : Nat} (ha : a < 4) (hb : b < 4) (h1 : ∀ c d, c < d → d < 4 → mt_m2 s a b c d ≠ 0 → post 1) (h0 : (∀ c, c < 4 → ∀ d, d < 4 → c < d → mt_m2 s a b c d = 0) → post 0) : wpX_someTwoInRowsIsNotZero post (t, s, p, q) (nI a) (nI b) := by
  unfold wpX_someTwoInRowsIsNotZero
  dsimp only
  exact ⟨5, mt_h22 ha hb h1 h0 4 0 rfl lt_0⟩
theorem mt_h24 {post : Int32 → Prop} {J : Int32 → Prop} {t s p q : Nat → Int32} {a : Nat} (ha : a < 4) (h1 : ∀ b c d, a < b → b < 4 → c < d → d < 4 → mt_m2 s a b c d ≠ 0 → post 1) (h0 : (∀ b, b < 4 → a < b → ∀ c, c < 4 → ∀ d, d < 4 → c < d → mt_m2 s a b c d = 0) → J (nI (a + 1))) : ∀ n b : Nat, b + n = 4 → a < b → (∀ j, j < b → a < j → ∀ c, c < 4 → ∀ d, d < 4 → c < d → mt_m2 s a j c d = 0) → wX_someTwoIsNotZero_11 post J (nI a) t s p q (n + 1) (nI b) := by
  intro n
  induction n with
  | zero =>
    intro b hb _ hz
    cases (hb : b = 4)
    exact br_t mt_4ge (nm_r (nI_1 a) (h0 hz))
  | succ n ih =>
    intro b hb hab hz
    refine br_f (mt_4lt (by omega)) (mt_h23 ha (by omega) (fun c d hc hd e => ?_) (fun g => ?_))
    · exact br_f mt_n0 (h1 b c d hab (by omega) hc hd e)
    · exact br_t rfl (nm_r (nI_1 b) (ih (b + 1) (by omega) (by omega) (lt_s hz (fun _ => g))))
theorem mt_h25 {post : Int32 → Prop} {t s p q : Nat → Int32} (h1 : ∀ a b c d, a < b → b < 4 → c < d → d < 4 → mt_m2 s a b c d ≠ 0 → post 1) (h0 : (∀ a, a < 4 → ∀ b, b < 4 → a < b → ∀ c, c < 4 → ∀ d, d < 4 → c < d → mt_m2 s a b c d = 0) → post 0) : ∀ n a : Nat, a + n = 4 → (∀ i, i < a → ∀ b, b < 4 → i < b → ∀ c, c < 4 → ∀ d, d < 4 → c < d → mt_m2 s i b c d = 0) → wX_someTwoIsNotZero_2 post t s p q (n + 1) (nI a) := by
  intro n
  induction n with
  | zero =>
    intro a ha hz
    cases (ha : a = 4)
    exact br_t mt_4ge (h0 hz)
  | succ n ih =>
    intro a ha hz
    exact br_f (mt_4lt (by omega)) (nm_r (nI_1 a) ⟨n + 1, mt_h24 (by omega) (fun b c d => h1 a b c d) (fun g => ih (a + 1) (by omega) (lt_s hz g)) n (a + 1) (by omega) (by omega) (fun j h2 h3 => absurd h3 (by omega))⟩)
theorem mt_h2 {post : Int32 → Prop} {t s p q : Nat → Int32} (h1 : ∀ a b c d, a < b → b < 4 → c < d → d < 4 → mt_m2 s a b c d ≠ 0 → post 1) (h0 : (∀ a, a < 4 → ∀ b, b < 4 → a < b → ∀ c, c < 4 → ∀ d, d < 4 → c < d → mt_m2 s a b c d = 0) → post 0) : wpX_someTwoIsNotZero post (t, s, p, q) := by
  unfold wpX_someTwoIsNotZero
  dsimp only
  exact ⟨5, mt_h25 h1 h0 4 0 rfl lt_0⟩
/-! the reference's search -/
def mt_sz (m : Nat) : Nat := m % 2 + m / 2 % 2 + m / 4 % 2 + m / 8 % 2
theorem mt_szI : ∀ m, m < 16 → (((nI m &&& 1) + ((nI m >>> ((1 : Int32) &&& 31)) &&& 1)) + ((nI m >>> ((2 : Int32) &&& 31)) &&& 1)) + ((nI m >>> ((3 : Int32) &&& 31)) &&& 1) = nI (mt_sz m) := by decide +kernel
theorem mt_sz4 (m : Nat) : mt_sz m ≤ 4 := by unfold mt_sz; omega
theorem mt_szY {post : Int32 → Prop} {t p w q z : Nat → Int32} {m : Nat} (hm : m < 16) (h : post (nI (mt_sz m))) : wpY_size post (t, p, w, q, z) (nI m) := by
  unfold wpY_size
  dsimp only
  rw [mt_szI m hm]
  exact h
theorem mt_lo : ∀ b, b < 256 → nI b &&& 15 = nI (b % 16) := by decide +kernel
theorem mt_hi : ∀ b, b < 256 → nI b >>> ((4 : Int32) &&& 31) = nI (b / 16) := by decide +kernel
def mt_N (w : Nat → Int32) (b : Nat) : Prop := mt_sz (b % 16) = mt_sz (b / 16) ∧ ¬ mt_mn w (nI (b % 16)) (nI (b / 16)) 24 = 0
def mt_rs (w : Nat → Int32) (b r : Nat) : Nat := if mt_sz (b % 16) = mt_sz (b / 16) ∧ r < mt_sz (b % 16) ∧ ¬ mt_mn w (nI (b % 16)) (nI (b / 16)) 24 = 0 then mt_sz (b % 16) else r
def mt_rk (w : Nat → Int32) : Nat → Nat → Nat → Nat
  | 0, _, r => r
  | d + 1, b, r => mt_rk w d (b + 1) (mt_rs w b r)
theorem mt_rkY {post : Int32 → SY → Prop} {t p w q z : Nat → Int32} (hz : ∀ j, j < 24 → z j = mt_way j) : ∀ d b r : Nat, b + d = 256 → r ≤ 4 → post (nI (mt_rk w d b r)) (t, p, w, q, z) → wY_rankAt_24 post t p w q z (d + 1) (nI r) (nI b) := by
  intro d
  induction d with
  | zero =>
    intro b r hb hr h
    cases (hb : b = 256)
    exact br_t (by decide) h
  | succ d ih =>
    intro b r hb hr h
    have b16 : b % 16 < 16 := by omega
    have c16 : b / 16 < 16 := by omega
    have s1 := mt_sz4 (b % 16)
    have s2 := mt_sz4 (b / 16)
    unfold mt_rk mt_rs at h
    refine br_f (nI_ge (b := 256) (by omega) (by decide)) (nm_r (mt_lo b (by omega)) (nm_r (mt_hi b (by omega)) (mt_szY b16 (mt_szY c16 ?_))))
    by_cases e1 : mt_sz (b % 16) = mt_sz (b / 16)
    · refine br_t (by rw [e1]) (mt_szY b16 ?_)
      by_cases e2 : r < mt_sz (b % 16)
      · refine br_f (nI_ge e2 (by omega)) (mt_mnY hz ?_)
        by_cases e3 : mt_mn w (nI (b % 16)) (nI (b / 16)) 24 = 0
        · rw [if_neg (fun g => g.2.2 e3)] at h
          exact br_t e3 (nm_r (nI_1 b) (ih (b + 1) r (by omega) hr h))
        · rw [if_pos ⟨e1, e2, e3⟩] at h
          exact br_f e3 (mt_szY b16 (nm_r (nI_1 b) (ih (b + 1) _ (by omega) s1 h)))
      · rw [if_neg (fun g => e2 g.2.1)] at h
        exact br_t (nI_le (by omega) (by omega)) (nm_r (nI_1 b) (ih (b + 1) r (by omega) hr h))
    · rw [if_neg (fun g => e1 g.1)] at h
      exact br_f (fun g => e1 ((nI_eq (by omega) (by omega)).mp g)) (nm_r (nI_1 b) (ih (b + 1) r (by omega) hr h))
theorem mt_rs1 (w : Nat → Int32) (b r : Nat) : mt_rs w b r = r ∨ (mt_N w b ∧ mt_rs w b r = mt_sz (b % 16)) := by
  unfold mt_rs
  by_cases e : mt_sz (b % 16) = mt_sz (b / 16) ∧ r < mt_sz (b % 16) ∧ ¬ mt_mn w (nI (b % 16)) (nI (b / 16)) 24 = 0
  · rw [if_pos e]; exact Or.inr ⟨⟨e.1, e.2.2⟩, rfl⟩
  · rw [if_neg e]; exact Or.inl rfl
theorem mt_rs2 (w : Nat → Int32) (b r : Nat) : r ≤ mt_rs w b r ∧ (mt_N w b → mt_sz (b % 16) ≤ mt_rs w b r) := by
  unfold mt_rs
  by_cases e : mt_sz (b % 16) = mt_sz (b / 16) ∧ r < mt_sz (b % 16) ∧ ¬ mt_mn w (nI (b % 16)) (nI (b / 16)) 24 = 0
  · rw [if_pos e]; exact ⟨Nat.le_of_lt e.2.1, fun _ => Nat.le_refl _⟩
  · rw [if_neg e]
    refine ⟨Nat.le_refl _, fun n => ?_⟩
    by_cases g : r < mt_sz (b % 16)
    · exact absurd ⟨n.1, g, n.2⟩ e
    · omega
theorem mt_rk1 (w : Nat → Int32) : ∀ d b r : Nat, mt_rk w d b r = r ∨ ∃ c, b ≤ c ∧ c < b + d ∧ mt_N w c ∧ mt_rk w d b r = mt_sz (c % 16) := by
  intro d
  induction d with
  | zero => intro b r; exact Or.inl rfl
  | succ d ih =>
    intro b r
    unfold mt_rk
    rcases ih (b + 1) (mt_rs w b r) with h | ⟨c, h1, h2, h3, h4⟩
    · rw [h]
      rcases mt_rs1 w b r with g | ⟨g, g2⟩
      · exact Or.inl g
      · exact Or.inr ⟨b, Nat.le_refl _, by omega, g, g2⟩
    · exact Or.inr ⟨c, by omega, by omega, h3, h4⟩
theorem mt_rk2 (w : Nat → Int32) : ∀ d b r : Nat, r ≤ mt_rk w d b r ∧ ∀ c, b ≤ c → c < b + d → mt_N w c → mt_sz (c % 16) ≤ mt_rk w d b r := by
  intro d
  induction d with
  | zero => intro b r; exact ⟨Nat.le_refl _, fun c h1 h2 => absurd h1 (by omega)⟩
  | succ d ih =>
    intro b r
    unfold mt_rk
    obtain ⟨h1, h2⟩ := ih (b + 1) (mt_rs w b r)
    obtain ⟨g1, g2⟩ := mt_rs2 w b r
    refine ⟨Nat.le_trans g1 h1, fun c c1 c2 n => ?_⟩
    by_cases e : c = b
    · subst e; exact Nat.le_trans (g2 n) h1
    · exact h2 c (by omega) (by omega) n
/-! masks by their size -/
theorem mt_z4 : ∀ m, m < 16 → mt_sz m = 4 → m = 15 := by decide
theorem mt_z3 : ∀ m, m < 16 → mt_sz m = 3 → ∃ r, r < 4 ∧ m = 15 - 2 ^ r := by decide
theorem mt_z2 : ∀ m, m < 16 → mt_sz m = 2 → ∃ b, b < 4 ∧ ∃ a, a < b ∧ m = 2 ^ a + 2 ^ b := by decide
theorem mt_z1 : ∀ m, m < 16 → mt_sz m = 1 → ∃ r, r < 4 ∧ m = 2 ^ r := by decide
theorem mt_y3 : ∀ r, r < 4 → mt_sz (15 - 2 ^ r) = 3 ∧ 15 - 2 ^ r < 16 ∧ 0 < 15 - 2 ^ r := by decide
theorem mt_y2 : ∀ b, b < 4 → ∀ a, a < b → mt_sz (2 ^ a + 2 ^ b) = 2 ∧ 2 ^ a + 2 ^ b < 16 ∧ 0 < 2 ^ a + 2 ^ b := by decide
theorem mt_y1 : ∀ r, r < 4 → mt_sz (2 ^ r) = 1 ∧ 2 ^ r < 16 ∧ 0 < 2 ^ r := by decide
theorem mt_NN (w : Nat → Int32) {x y : Nat} (hx : x < 16) (hy : y < 16) (h : mt_sz x = mt_sz y) (hn : ¬ mt_mn w (nI x) (nI y) 24 = 0) : mt_N w (16 * y + x) := by
  unfold mt_N
  rw [show (16 * y + x) % 16 = x by omega, show (16 * y + x) / 16 = y by omega]
  exact ⟨h, hn⟩
def mt_R (w : Nat → Int32) : Nat := mt_rk w 255 1 0
theorem mt_Rge (w : Nat → Int32) {x y : Nat} (hx : x < 16) (hx0 : 0 < x) (hy : y < 16) (h : mt_sz x = mt_sz y) (hn : ¬ mt_mn w (nI x) (nI y) 24 = 0) : mt_sz x ≤ mt_R w := by
  have g := (mt_rk2 w 255 1 0).2 (16 * y + x) (by omega) (by omega) (mt_NN w hx hy h hn)
  rw [show (16 * y + x) % 16 = x by omega] at g
  exact g
theorem mt_Ris (w : Nat → Int32) : mt_R w = 0 ∨ ∃ x y, x < 16 ∧ y < 16 ∧ mt_sz x = mt_R w ∧ mt_sz y = mt_R w ∧ ¬ mt_mn w (nI x) (nI y) 24 = 0 := by
  rcases mt_rk1 w 255 1 0 with h | ⟨c, h1, h2, h3, h4⟩
  · exact Or.inl h
  · exact Or.inr ⟨c % 16, c / 16, by omega, by omega, h4.symm, h3.1.symm.trans h4.symm, h3.2⟩
theorem mt_Rle (w : Nat → Int32) : mt_R w ≤ 4 := by
  rcases mt_Ris w with h | ⟨x, y, _, _, h, _, _⟩
  · omega
  · rw [← h]; exact mt_sz4 x
theorem mt_R4 {w : Nat → Int32} (h : mt_det w = 0) : mt_R w ≠ 4 := by
  intro e
  rcases mt_Ris w with g | ⟨x, y, hx, hy, ex, ey, hn⟩
  · omega
  · rw [mt_z4 x hx (ex.trans e), mt_z4 y hy (ey.trans e)] at hn
    exact hn ((mt_M4 w).trans h)
theorem mt_R3 {w : Nat → Int32} (h : ∀ r, r < 4 → ∀ c, c < 4 → mt_s3 w r c = 0) : mt_R w ≠ 3 := by
  intro e
  rcases mt_Ris w with g | ⟨x, y, hx, hy, ex, ey, hn⟩
  · omega
  · obtain ⟨r, hr, er⟩ := mt_z3 x hx (ex.trans e)
    obtain ⟨c, hc, ec⟩ := mt_z3 y hy (ey.trans e)
    rw [er, ec, mt_M3 w hr hc] at hn
    have g := h r hr c hc
    unfold mt_s3 at g
    by_cases o : (r + c) % 2 = 0
    · rw [if_pos o] at g; exact hn g
    · rw [if_neg o] at g; exact hn (by grind)
theorem mt_R2 {w : Nat → Int32} (h : ∀ a, a < 4 → ∀ b, b < 4 → a < b → ∀ c, c < 4 → ∀ d, d < 4 → c < d → mt_m2 w a b c d = 0) : mt_R w ≠ 2 := by
  intro e
  rcases mt_Ris w with g | ⟨x, y, hx, hy, ex, ey, hn⟩
  · omega
  · obtain ⟨b, hb, a, ha, er⟩ := mt_z2 x hx (ex.trans e)
    obtain ⟨d, hd, c, hc, ec⟩ := mt_z2 y hy (ey.trans e)
    rw [er, ec, mt_M2 w ha hb hc hd] at hn
    exact hn (h a (by omega) b hb ha c (by omega) d hd hc)
theorem mt_R1 {w : Nat → Int32} (h : ∀ j, j < 16 → w j = 0) : mt_R w ≠ 1 := by
  intro e
  rcases mt_Ris w with g | ⟨x, y, hx, hy, ex, ey, hn⟩
  · omega
  · obtain ⟨r, hr, er⟩ := mt_z1 x hx (ex.trans e)
    obtain ⟨c, hc, ec⟩ := mt_z1 y hy (ey.trans e)
    rw [er, ec, mt_M1 w hr hc] at hn
    exact hn (h _ (by omega))
theorem mt_G4 {w : Nat → Int32} (h : ¬ mt_det w = 0) : 4 ≤ mt_R w := mt_Rge w (x := 15) (y := 15) (by decide) (by decide) (by decide) rfl (fun g => h ((mt_M4 w).symm.trans g))
theorem mt_G3 {w : Nat → Int32} {r c : Nat} (hr : r < 4) (hc : c < 4) (h : mt_s3 w r c ≠ 0) : 3 ≤ mt_R w := by
  obtain ⟨x1, x2, x3⟩ := mt_y3 r hr
  obtain ⟨y1, y2, y3⟩ := mt_y3 c hc
  have g := mt_Rge w x2 x3 y2 (x1.trans y1.symm) (by
    rw [mt_M3 w hr hc]
    intro g
    apply h
    unfold mt_s3
    rw [g]
    split
    · rfl
    · decide)
  omega
theorem mt_G2 {w : Nat → Int32} {a b c d : Nat} (ha : a < b) (hb : b < 4) (hc : c < d) (hd : d < 4) (h : mt_m2 w a b c d ≠ 0) : 2 ≤ mt_R w := by
  obtain ⟨x1, x2, x3⟩ := mt_y2 b hb a ha
  obtain ⟨y1, y2, y3⟩ := mt_y2 d hd c hc
  have g := mt_Rge w x2 x3 y2 (x1.trans y1.symm) (by rw [mt_M2 w ha hb hc hd]; exact h)
  omega
theorem mt_G1 {w : Nat → Int32} {j : Nat} (hj : j < 16) (h : ¬ w j = 0) : 1 ≤ mt_R w := by
  obtain ⟨x1, x2, x3⟩ := mt_y1 (j / 4) (by omega)
  obtain ⟨y1, y2, y3⟩ := mt_y1 (j % 4) (by omega)
  have g := mt_Rge w x2 x3 y2 (x1.trans y1.symm) (by rw [mt_M1 w (by omega) (by omega), show 4 * (j / 4) + j % 4 = j by omega]; exact h)
  omega
theorem mt_azE (f : Nat → Int32) : ∀ d i : Nat, i + d = 16 → (mt_az f d i = 1 → ∀ j, j < 16 → i ≤ j → f j = 0) ∧ (mt_az f d i = 0 → ∃ j, j < 16 ∧ ¬ f j = 0) := by
  intro d
  induction d with
  | zero => intro i hi; exact ⟨fun _ j h1 h2 => absurd h1 (by omega), fun h => absurd (show (1 : Int32) = 0 from h) mt_n0⟩
  | succ d ih =>
    intro i hi
    unfold mt_az
    by_cases e : f i = 0
    · rw [if_pos e]
      obtain ⟨h1, h2⟩ := ih (i + 1) (by omega)
      refine ⟨fun g j j1 j2 => ?_, h2⟩
      by_cases ej : j = i
      · rw [ej]; exact e
      · exact h1 g j j1 (by omega)
    · rw [if_neg e]
      exact ⟨fun g => absurd g (by decide), fun _ => ⟨i, by omega, e⟩⟩
theorem i_vc_rankAt {k : Nat} {u : SX} {v : SY} (I : i_Rel k u v) (hk : k + 4 ≤ 2048) (v1 : Int32) : wpX_rankAt (fun r u' => wpY_rankAt (fun r' v' => r' = r ∧ i_Rel (k + 4) u' v') v v1) u v1 := by
  obtain ⟨t, s, p, q⟩ := u
  obtain ⟨t', p', w', q', z'⟩ := v
  obtain ⟨e, hw⟩ := I
  cases (e : t = t')
  unfold wpX_rankAt wpY_rankAt
  dsimp only
  rcases mt_within v1 40 with ⟨gx, gy⟩ | ⟨_, gx, gy⟩
  · exact gx _ (br_t rfl (gy _ _ ⟨rfl, rfl, hw⟩))
  · refine gx _ (br_f mt_n0 (mt_td (fun s1 h1 => ?_)))
    have key : ∀ (n : Nat), (∀ w1 : Nat → Int32, (∀ j, j < 16 → s1 j = w1 j) → mt_R w1 = n) → (v1 < -40 → (-3 : Int32) = nI n ∧ i_Rel (k + 4) (t, s1, p, q) (t, p', w', q', z')) ∧ (¬ v1 < -40 → ((v1 ≤ 40 → wpY_load (fun u => match u with | (a, b, c, d, e) => (∃ n24 : Nat, wY_rankAt_24 (fun r' v' => r' = nI n ∧ i_Rel (k + 4) (t, s1, p, q) v') a b c d e n24 0 1)) (t, p', w', q', z') v1) ∧ (¬ v1 ≤ 40 → (-3 : Int32) = nI n ∧ i_Rel (k + 4) (t, s1, p, q) (t, p', w', q', z')))) := by
      intro n hn
      refine gy _ _ (mt_ld (fun w1 h2 => ⟨256, mt_rkY hw 255 1 0 rfl (by decide) ⟨?_, rfl, hw⟩⟩))
      exact congrArg nI (hn w1 (fun j hj => (h1 j hj).trans (h2 j hj).symm))
    refine mt_shiftedd ?_
    by_cases e4 : mt_det s1 = 0
    · refine br_t e4 (mt_h3 (fun r c hr hc e3 => br_f mt_n0 (key 3 (fun w1 g => ?_))) (fun e3 => br_t rfl (mt_h2 (fun a b c d ha hb hc hd e2 => br_f mt_n0 (key 2 (fun w1 g => ?_))) (fun e2 => br_t rfl (mt_azshifted ?_)))))
      · have a1 := mt_Rle w1
        have a2 := mt_R4 (w := w1) ((mt_cd g).symm.trans e4)
        have a3 := mt_G3 (w := w1) hr hc (by rw [← mt_cs g]; exact e3)
        omega
      · have a1 := mt_Rle w1
        have a2 := mt_R4 (w := w1) ((mt_cd g).symm.trans e4)
        have a3 := mt_R3 (w := w1) (fun r hr c hc => (mt_cs g r c).symm.trans (e3 r hr c hc))
        have a4 := mt_G2 (w := w1) ha hb hc hd (by rw [← mt_c2 g (by omega) hb (by omega) hd]; exact e2)
        omega
      · have f4 : ∀ w1 : Nat → Int32, (∀ j, j < 16 → s1 j = w1 j) → mt_R w1 ≤ 1 := by
          intro w1 g
          have a1 := mt_Rle w1
          have a2 := mt_R4 (w := w1) ((mt_cd g).symm.trans e4)
          have a3 := mt_R3 (w := w1) (fun r hr c hc => (mt_cs g r c).symm.trans (e3 r hr c hc))
          have a4 := mt_R2 (w := w1) (fun a ha b hb hab c hc d hd hcd => (mt_c2 g ha hb hc hd).symm.trans (e2 a ha b hb hab c hc d hd hcd))
          omega
        obtain ⟨z1, z0⟩ := mt_azE s1 16 0 rfl
        rcases mt_az01 s1 16 0 with e1 | e1
        · rw [e1]
          refine br_f mt_n0 (key 0 (fun w1 g => ?_))
          have a1 := f4 w1 g
          have a2 := mt_R1 (w := w1) (fun j hj => (g j hj).symm.trans (z1 e1 j hj (by omega)))
          omega
        · rw [e1]
          refine br_t rfl (key 1 (fun w1 g => ?_))
          have a1 := f4 w1 g
          obtain ⟨j, hj, ej⟩ := z0 e1
          have a2 := mt_G1 (w := w1) hj (by rw [← g j hj]; exact ej)
          omega
    · refine br_f e4 (key 4 (fun w1 g => ?_))
      have a1 := mt_Rle w1
      have a2 := mt_G4 (w := w1) (fun z => e4 ((mt_cd g).trans z))
      omega
end
