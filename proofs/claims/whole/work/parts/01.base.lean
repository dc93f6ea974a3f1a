theorem pk_us {f : Nat → Int32} {k : Nat} {x : Int32} : upd f k x k = x := if_pos rfl
theorem pk_un {f : Nat → Int32} {k j : Nat} {x : Int32} (h : j ≠ k) : upd f k x j = f j := if_neg h
theorem pk_sub {a b : Nat} (h : b ≤ a) : nI a - nI b = nI (a - b) := by
  obtain ⟨c, rfl⟩ : ∃ c, a = c + b := ⟨a - b, by omega⟩
  rw [← nI_add, Int32.add_sub_cancel, Nat.add_sub_cancel]
theorem pk_m1 (n : Nat) : nI (n + 1) + (-1) = nI n := by
  rw [← nI_1, Int32.add_assoc, show (1 : Int32) + (-1) = 0 from rfl, Int32.add_zero]
theorem pk_mul (a b : Nat) : nI a * nI b = nI (a * b) := (Int32.ofNat_mul a b).symm
theorem pk_div {a d : Nat} (ha : a < 2 ^ 31) (h0 : 0 < d) (hd : d < 2 ^ 31) : nI a / nI d = nI (a / d) := by
  apply Int32.toInt_inj.mp
  rw [lg_idiv_nonneg (by rw [nI_toInt ha]; omega) (by rw [nI_toInt hd]; omega), nI_toInt ha, nI_toInt hd, nI_toInt (Nat.lt_of_le_of_lt (Nat.div_le_self a d) ha)]
  first | rfl | exact (Int.natCast_ediv _ _).symm
theorem pk_rem {a d : Nat} (ha : a < 2 ^ 31) (h0 : 0 < d) (hd : d < 2 ^ 31) : nI a - nI a / nI d * nI d = nI (a % d) := by
  rw [pk_div ha h0 hd, pk_mul, pk_sub (Nat.div_mul_le_self a d)]
  exact congrArg nI (by have := Nat.div_add_mod' a d; omega)
theorem pk_ix (x : Int32) {n : Nat} (hn : n < 2 ^ 31) : x < 0 ∨ nI n ≤ x ∨ ∃ j : Nat, j < n ∧ x = nI j := by
  by_cases h : x < 0
  · exact Or.inl h
  · obtain ⟨j, hj, rfl⟩ := nI_of h
    by_cases h2 : j < n
    · exact Or.inr (Or.inr ⟨j, h2, rfl⟩)
    · exact Or.inr (Or.inl (nI_le (by omega) hj))
theorem pk_in {x : Int32} (n N : Nat) (h : n < N) (hx : x = nI n := by rfl) (hN : N < 2 ^ 31 := by omega) : vp_in x N := by
  subst hx
  exact vp_in_nI h hN
theorem pk_cl {x : Int32} (n : Nat) (hx : x = nI n := by rfl) (h : n < 2 ^ 31 := by omega) : x.toNatClampNeg = n := by
  subst hx
  exact nI_clamp h
theorem pk_tn {n : Nat} (h : n < 2 ^ 32) : (nI n).toBitVec.toNat = n := Nat.mod_eq_of_lt h
theorem pk_and (x : Int32) {m : Int32} (k : Nat) (hm : m.toBitVec.toNat = 2 ^ k - 1) : x &&& m = nI (x.toBitVec.toNat % 2 ^ k) := by
  apply Int32.toBitVec_inj.mp
  apply BitVec.eq_of_toNat_eq
  rw [Int32.toBitVec_and, BitVec.toNat_and, hm, Nat.and_two_pow_sub_one_eq_mod]
  show _ = (BitVec.ofNat 32 _).toNat
  rw [BitVec.toNat_ofNat]
  exact (Nat.mod_eq_of_lt (Nat.lt_of_le_of_lt (Nat.mod_le _ _) x.toBitVec.isLt)).symm
theorem pk_andE (x : Int32) {m : Int32} (k : Nat) (hm : m.toBitVec.toNat = 2 ^ k - 1) : ∃ j : Nat, j < 2 ^ k ∧ x &&& m = nI j := ⟨_, Nat.mod_lt _ (Nat.two_pow_pos k), pk_and x k hm⟩
theorem pk_shl (a s : Int32) (k : Nat) (hs : (s.toBitVec.smod 32).toNat = k) : (a <<< s).toBitVec.toNat = a.toBitVec.toNat * 2 ^ k % 2 ^ 32 := by
  show (a.toBitVec <<< (s.toBitVec.smod 32).toNat).toNat = _
  rw [hs, BitVec.toNat_shiftLeft, Nat.shiftLeft_eq]
theorem pk_shr (a s : Int32) (k : Nat) (hs : (s.toBitVec.smod 32).toNat = k) : (a >>> s).toInt = a.toInt >>> k := by
  show (a.toBitVec.sshiftRight (s.toBitVec.smod 32).toNat).toInt = _
  rw [hs, BitVec.toInt_sshiftRight]
  rfl
theorem pk_shrN {n : Nat} (h : n < 2 ^ 31) (s : Int32) (k : Nat) (hs : (s.toBitVec.smod 32).toNat = k) : nI n >>> s = nI (n / 2 ^ k) := by
  apply Int32.toInt_inj.mp
  have h2 : n / 2 ^ k ≤ n := Nat.div_le_self _ _
  rw [pk_shr _ _ k hs, nI_toInt h, nI_toInt (by omega), Int.shiftRight_eq_div_pow]
  rfl
/-! own: indices, places, bounds, the ways -/
theorem mt_ix (a b : Nat) : (4 : Int32) * nI a + nI b = nI (4 * a + b) := by
  show nI 4 * nI a + nI b = _
  rw [pk_mul, nI_add]
theorem mt_iy (a b : Nat) : nI a * (4 : Int32) + nI b = nI (4 * a + b) := by
  show nI a * nI 4 + nI b = _
  rw [pk_mul, nI_add, Nat.mul_comm]
theorem mt_4ge : (4 : Int32) ≤ nI 4 := by decide
theorem mt_16ge : (16 : Int32) ≤ nI 16 := by decide
theorem mt_4lt {i : Nat} (h : i < 4) : ¬ (4 : Int32) ≤ nI i := nI_ge (b := 4) h (by decide)
theorem mt_16lt {i : Nat} (h : i < 16) : ¬ (16 : Int32) ≤ nI i := nI_ge (b := 16) h (by decide)
theorem mt_n0 : ¬ (1 : Int32) = 0 := by decide
def mt_way (j : Nat) : Int32 := nI ([27, 30, 39, 45, 54, 57, 75, 78, 99, 108, 114, 120, 135, 141, 147, 156, 177, 180, 198, 201, 210, 216, 225, 228].getD j 0)
/-- the tables are one function; the reference's ways are the fixed twenty-four; the other arrays are free -/
def i_Rel (_ : Nat) (u : SX) (v : SY) : Prop := u.1 = v.1 ∧ ∀ j, j < 24 → v.2.2.2.2 j = mt_way j
theorem i_up {k : Nat} {u : SX} {v : SY} (h : i_Rel k u v) : i_Rel (k + 4) u v := h
theorem mt_place (a b : Int32) : ((∀ post : Int32 → Prop, post 0 → wpX_isPlace post a b) ∧ (∀ (post : Int32 → Prop) (u : SY), post 1 → wpY_badPlace post u a b)) ∨ ∃ i j : Nat, i < 4 ∧ j < 4 ∧ a = nI i ∧ b = nI j ∧ (∀ post : Int32 → Prop, post 1 → wpX_isPlace post a b) ∧ (∀ (post : Int32 → Prop) (u : SY), post 0 → wpY_badPlace post u a b) := by
  unfold wpX_isPlace wpY_badPlace
  dsimp only
  rcases pk_ix a (n := 4) (by decide) with h | h | ⟨i, hi, rfl⟩
  · exact Or.inl ⟨fun post hp => br_t h hp, fun post u hp => br_t h hp⟩
  · have h' : (4 : Int32) ≤ a := h
    have h0 : ¬ a < 0 := Int32.not_lt.mpr (Int32.le_trans (by decide) h')
    have h3 : (3 : Int32) < a := Int32.lt_of_lt_of_le (by decide) h'
    exact Or.inl ⟨fun post hp => br_f h0 (br_t h' hp), fun post u hp => br_f h0 (br_t h3 hp)⟩
  · have h0 : ¬ nI i < 0 := nI_pos (by omega)
    have h4 : ¬ (4 : Int32) ≤ nI i := mt_4lt hi
    have h3 : ¬ (3 : Int32) < nI i := nI_nlt (a := 3) (by omega) (by decide)
    rcases pk_ix b (n := 4) (by decide) with g | g | ⟨j, hj, rfl⟩
    · exact Or.inl ⟨fun post hp => br_f h0 (br_f h4 (br_t g hp)), fun post u hp => br_f h0 (br_f h3 (br_t g hp))⟩
    · have g' : (4 : Int32) ≤ b := g
      have g0 : ¬ b < 0 := Int32.not_lt.mpr (Int32.le_trans (by decide) g')
      have g3 : ¬ b ≤ 3 := Int32.not_le.mpr (Int32.lt_of_lt_of_le (by decide) g')
      exact Or.inl ⟨fun post hp => br_f h0 (br_f h4 (br_f g0 (br_t g' hp))), fun post u hp => br_f h0 (br_f h3 (br_f g0 (br_f g3 hp)))⟩
    · have g0 : ¬ nI j < 0 := nI_pos (by omega)
      have g4 : ¬ (4 : Int32) ≤ nI j := mt_4lt hj
      have g3 : nI j ≤ 3 := nI_le (b := 3) (by omega) (by decide)
      exact Or.inr ⟨i, j, hi, hj, rfl, rfl, fun post hp => br_f h0 (br_f h4 (br_f g0 (br_f g4 hp))), fun post u hp => br_f h0 (br_f h3 (br_f g0 (br_t g3 hp)))⟩
theorem mt_within (p m : Int32) : ((∀ post : Int32 → Prop, post 0 → wpX_isWithin post p m) ∧ (∀ A B : Prop, A → (p < -m → A) ∧ (¬ p < -m → ((p ≤ m → B) ∧ (¬ p ≤ m → A))))) ∨ ((¬ p < -m ∧ p ≤ m) ∧ (∀ post : Int32 → Prop, post 1 → wpX_isWithin post p m) ∧ (∀ A B : Prop, B → (p < -m → A) ∧ (¬ p < -m → ((p ≤ m → B) ∧ (¬ p ≤ m → A))))) := by
  unfold wpX_isWithin
  by_cases h : p < -m
  · exact Or.inl ⟨fun post hp => br_t h hp, fun A B a => br_t h a⟩
  · by_cases g : m < p
    · exact Or.inl ⟨fun post hp => br_f h (br_t g hp), fun A B a => br_f h (br_f (Int32.not_le.mpr g) a)⟩
    · exact Or.inr ⟨⟨h, Int32.not_lt.mp g⟩, fun post hp => br_f h (br_f g hp), fun A B b => br_f h (br_t (Int32.not_lt.mp g) b)⟩
/-! exchange, on each side -/
def mt_ex (t : Nat → Int32) (a b : Nat) : Nat → Int32 := upd (upd t a (t b)) b (t a)
theorem mt_exX {post : SX → Prop} {t s p q : Nat → Int32} (a b : Nat) {x y : Int32} (hx : x = nI a) (hy : y = nI b) (ha : a < 16) (hb : b < 16) (h : post (mt_ex t a b, s, p, q)) : wpX_exchange post (t, s, p, q) x y := by
  subst hx hy
  unfold wpX_exchange
  dsimp only
  have ia := vp_in_nI (N := 16) ha (by decide)
  have ib := vp_in_nI (N := 16) hb (by decide)
  rw [nI_clamp (n := a) (by omega), nI_clamp (n := b) (by omega)]
  exact ⟨ia, nm_e ⟨ib, ia, nm_e ⟨ib, nm_e h⟩⟩⟩
theorem mt_exY {post : SY → Prop} {t p w q z : Nat → Int32} (a b : Nat) {x y : Int32} (hx : x = nI a) (hy : y = nI b) (ha : a < 16) (hb : b < 16) (h : post (mt_ex t a b, p, w, q, z)) : wpY_exchange post (t, p, w, q, z) x y := by
  subst hx hy
  unfold wpY_exchange
  dsimp only
  have ia := vp_in_nI (N := 16) ha (by decide)
  have ib := vp_in_nI (N := 16) hb (by decide)
  rw [nI_clamp (n := a) (by omega), nI_clamp (n := b) (by omega)]
  exact ⟨ia, nm_e ⟨ib, ia, nm_e ⟨ib, nm_e h⟩⟩⟩
