/-! rankAt: the component's searches -/
theorem mt_h31 {post : Int32 → Prop} {J : Int32 → Prop} {t s p q : Nat → Int32} {r : Nat} (hr : r < 4) (h1 : ∀ c, c < 4 → mt_s3 s r c ≠ 0 → post 1) (h0 : (∀ c, c < 4 → mt_s3 s r c = 0) → J (nI (r + 1))) : ∀ d c : Nat, c + d = 4 → (∀ j, j < c → mt_s3 s r j = 0) → wX_someThreeIsNotZero_9 post J (nI r) t s p q (d + 1) (nI c) := by
  intro d
  induction d with
  | zero =>
    intro c hc hz
    cases (hc : c = 4)
    exact br_t mt_4ge (nm_r (nI_1 r) (h0 hz))
  | succ d ih =>
    intro c hc hz
    refine br_f (mt_4lt (by omega)) (mt_shifteds hr (by omega) ?_)
    by_cases e : mt_s3 s r c = 0
    · exact br_t e (nm_r (nI_1 c) (ih (c + 1) (by omega) (lt_s hz e)))
    · exact br_f e (h1 c (by omega) e)
theorem mt_h32 {post : Int32 → Prop} {t s p q : Nat → Int32} (h1 : ∀ r c, r < 4 → c < 4 → mt_s3 s r c ≠ 0 → post 1) (h0 : (∀ r, r < 4 → ∀ c, c < 4 → mt_s3 s r c = 0) → post 0) : ∀ d r : Nat, r + d = 4 → (∀ i, i < r → ∀ c, c < 4 → mt_s3 s i c = 0) → wX_someThreeIsNotZero_2 post t s p q (d + 1) (nI r) := by
  intro d
  induction d with
  | zero =>
    intro r hr hz
    cases (hr : r = 4)
    exact br_t mt_4ge (h0 hz)
  | succ d ih =>
    intro r hr hz
    exact br_f (mt_4lt (by omega)) ⟨5, mt_h31 (by omega) (fun c hc => h1 r c (by omega) hc) (fun g => ih (r + 1) (by omega) (lt_s hz g)) 4 0 rfl lt_0⟩
theorem mt_h3 {post : Int32 → Prop} {t s p q : Nat → Int32} (h1 : ∀ r c, r < 4 → c < 4 → mt_s3 s r c ≠ 0 → post 1) (h0 : (∀ r, r < 4 → ∀ c, c < 4 → mt_s3 s r c = 0) → post 0) : wpX_someThreeIsNotZero post (t, s, p, q) := by
  unfold wpX_someThreeIsNotZero
  dsimp only
  exact ⟨5, mt_h32 h1 h0 4 0 rfl lt_0⟩
theorem mt_h21 {post : Int32 → Prop} {J : Int32 → Prop} {t s p q : Nat → Int32} {a b c : Nat} (ha : a < 4) (hb : b < 4) (hc : c < 4) (h1 : ∀ d, c < d → d < 4 → mt_m2 s a b c d ≠ 0 → post 1) (h0 : (∀ d, d < 4 → c < d → mt_m2 s a b c d = 0) → J (nI (c + 1))) : ∀ n d : Nat, d + n = 4 → c < d → (∀ j, j < d → c < j → mt_m2 s a b c j = 0) → wX_someTwoInRowsIsNotZero_12 post J (nI a) (nI b) (nI c) t s p q (n + 1) (nI d) := by
  intro n
  induction n with
  | zero =>
    intro d hd _ hz
    cases (hd : d = 4)
    exact br_t mt_4ge (nm_r (nI_1 c) (h0 hz))
  | succ n ih =>
    intro d hd hcd hz
    refine br_f (mt_4lt (by omega)) (mt_shifted2 ha hb hc (by omega) ?_)
    by_cases e : mt_m2 s a b c d = 0
    · exact br_t e (nm_r (nI_1 d) (ih (d + 1) (by omega) (by omega) (lt_s hz (fun _ => e))))
    · exact br_f e (h1 d hcd (by omega) e)
theorem mt_h22 {post : Int32 → Prop} {t s p q : Nat → Int32} {a b : Nat} (ha : a < 4) (hb : b < 4) (h1 : ∀ c d, c < d → d < 4 → mt_m2 s a b c d ≠ 0 → post 1) (h0 : (∀ c, c < 4 → ∀ d, d < 4 → c < d → mt_m2 s a b c d = 0) → post 0) : ∀ n c : Nat, c + n = 4 → (∀ j, j < c → ∀ d, d < 4 → j < d → mt_m2 s a b j d = 0) → wX_someTwoInRowsIsNotZero_2 post (nI a) (nI b) t s p q (n + 1) (nI c) := by
  intro n
  induction n with
  | zero =>
    intro c hc hz
    cases (hc : c = 4)
    exact br_t mt_4ge (h0 hz)
  | succ n ih =>
    intro c hc hz
    exact br_f (mt_4lt (by omega)) (nm_r (nI_1 c) ⟨n + 1, mt_h21 ha hb (by omega) (fun d => h1 c d) (fun g => ih (c + 1) (by omega) (lt_s hz g)) n (c + 1) (by omega) (by omega) (fun j h2 h3 => absurd h3 (by omega))⟩)
theorem mt_h23 {post : Int32 → Prop} {t s p q : Nat → Int32} {a b : Nat} (ha : a < 4) (hb : b < 4) (h1 : ∀ c d, c < d → d < 4 → mt_m2 s a b c d ≠ 0 → post 1) (h0 : (∀ c, c < 4 → ∀ d, d < 4 → c < d → mt_m2 s a b c d = 0) → post 0) : wpX_someTwoInRowsIsNotZero post (t, s, p, q) (nI a) (nI b) := by
  unfold wpX_someTwoInRowsIsNotZero
  dsimp only
  exact ⟨5, mt_h22 ha hb h1 h0 4 0 rfl lt_0⟩
theorem mt_h24 {post : Int32 → Prop} {J : Int32 → Prop} {t s p q : Nat → Int32} {a : Nat} (ha : a < 4) (h1 : ∀ b c d, a < b → b < 4 → c < d → d < 4 → mt_m2 s a b c d ≠ 0 → post 1) (h0 : (∀ b, b < 4 → a < b → ∀ c, c < 4 → ∀ d, d < 4 → c < d → mt_m2 s a b c d = 0) → J (nI (a + 1))) : ∀ n b : Nat, b + n = 4 → a < b → (∀ j, j < b → a < j → ∀ c, c < 4 → ∀ d, d < 4 → c < d → mt_m2 s a j c d = 0) → wX_someTwoIsNotZero_11 post J (nI a) t s p q (n + 1) (nI b) := by
  intro n
  induction n with
  | zero =>
    intro b hb _ hz
    cases (hb : b = 4)
    exact br_t mt_4ge (nm_r (nI_1 a) (h0 hz))
  | succ n ih =>
    intro b hb hab hz
    refine br_f (mt_4lt (by omega)) (mt_h23 ha (by omega) (fun c d hc hd e => ?_) (fun g => ?_))
    · exact br_f mt_n0 (h1 b c d hab (by omega) hc hd e)
    · exact br_t rfl (nm_r (nI_1 b) (ih (b + 1) (by omega) (by omega) (lt_s hz (fun _ => g))))
theorem mt_h25 {post : Int32 → Prop} {t s p q : Nat → Int32} (h1 : ∀ a b c d, a < b → b < 4 → c < d → d < 4 → mt_m2 s a b c d ≠ 0 → post 1) (h0 : (∀ a, a < 4 → ∀ b, b < 4 → a < b → ∀ c, c < 4 → ∀ d, d < 4 → c < d → mt_m2 s a b c d = 0) → post 0) : ∀ n a : Nat, a + n = 4 → (∀ i, i < a → ∀ b, b < 4 → i < b → ∀ c, c < 4 → ∀ d, d < 4 → c < d → mt_m2 s i b c d = 0) → wX_someTwoIsNotZero_2 post t s p q (n + 1) (nI a) := by
  intro n
  induction n with
  | zero =>
    intro a ha hz
    cases (ha : a = 4)
    exact br_t mt_4ge (h0 hz)
  | succ n ih =>
    intro a ha hz
    exact br_f (mt_4lt (by omega)) (nm_r (nI_1 a) ⟨n + 1, mt_h24 (by omega) (fun b c d => h1 a b c d) (fun g => ih (a + 1) (by omega) (lt_s hz g)) n (a + 1) (by omega) (by omega) (fun j h2 h3 => absurd h3 (by omega))⟩)
theorem mt_h2 {post : Int32 → Prop} {t s p q : Nat → Int32} (h1 : ∀ a b c d, a < b → b < 4 → c < d → d < 4 → mt_m2 s a b c d ≠ 0 → post 1) (h0 : (∀ a, a < 4 → ∀ b, b < 4 → a < b → ∀ c, c < 4 → ∀ d, d < 4 → c < d → mt_m2 s a b c d = 0) → post 0) : wpX_someTwoIsNotZero post (t, s, p, q) := by
  unfold wpX_someTwoIsNotZero
  dsimp only
  exact ⟨5, mt_h25 h1 h0 4 0 rfl lt_0⟩
/-! the reference's search -/
def mt_sz (m : Nat) : Nat := m % 2 + m / 2 % 2 + m / 4 % 2 + m / 8 % 2
theorem mt_szI : ∀ m, m < 16 → (((nI m &&& 1) + ((nI m >>> ((1 : Int32) &&& 31)) &&& 1)) + ((nI m >>> ((2 : Int32) &&& 31)) &&& 1)) + ((nI m >>> ((3 : Int32) &&& 31)) &&& 1) = nI (mt_sz m) := by decide +kernel
theorem mt_sz4 (m : Nat) : mt_sz m ≤ 4 := by unfold mt_sz; omega
theorem mt_szY {post : Int32 → Prop} {t p w q z : Nat → Int32} {m : Nat} (hm : m < 16) (h : post (nI (mt_sz m))) : wpY_size post (t, p, w, q, z) (nI m) := by
  unfold wpY_size
  dsimp only
  rw [mt_szI m hm]
  exact h
theorem mt_lo : ∀ b, b < 256 → nI b &&& 15 = nI (b % 16) := by decide +kernel
theorem mt_hi : ∀ b, b < 256 → nI b >>> ((4 : Int32) &&& 31) = nI (b / 16) := by decide +kernel
def mt_N (w : Nat → Int32) (b : Nat) : Prop := mt_sz (b % 16) = mt_sz (b / 16) ∧ ¬ mt_mn w (nI (b % 16)) (nI (b / 16)) 24 = 0
def mt_rs (w : Nat → Int32) (b r : Nat) : Nat := if mt_sz (b % 16) = mt_sz (b / 16) ∧ r < mt_sz (b % 16) ∧ ¬ mt_mn w (nI (b % 16)) (nI (b / 16)) 24 = 0 then mt_sz (b % 16) else r
def mt_rk (w : Nat → Int32) : Nat → Nat → Nat → Nat
  | 0, _, r => r
  | d + 1, b, r => mt_rk w d (b + 1) (mt_rs w b r)
theorem mt_rkY {post : Int32 → SY → Prop} {t p w q z : Nat → Int32} (hz : ∀ j, j < 24 → z j = mt_way j) : ∀ d b r : Nat, b + d = 256 → r ≤ 4 → post (nI (mt_rk w d b r)) (t, p, w, q, z) → wY_rankAt_24 post t p w q z (d + 1) (nI r) (nI b) := by
  intro d
  induction d with
  | zero =>
    intro b r hb hr h
    cases (hb : b = 256)
    exact br_t (by decide) h
  | succ d ih =>
    intro b r hb hr h
    have b16 : b % 16 < 16 := by omega
    have c16 : b / 16 < 16 := by omega
    have s1 := mt_sz4 (b % 16)
    have s2 := mt_sz4 (b / 16)
    unfold mt_rk mt_rs at h
    refine br_f (nI_ge (b := 256) (by omega) (by decide)) (nm_r (mt_lo b (by omega)) (nm_r (mt_hi b (by omega)) (mt_szY b16 (mt_szY c16 ?_))))
    by_cases e1 : mt_sz (b % 16) = mt_sz (b / 16)
    · refine br_t (by rw [e1]) (mt_szY b16 ?_)
      by_cases e2 : r < mt_sz (b % 16)
      · refine br_f (nI_ge e2 (by omega)) (mt_mnY hz ?_)
        by_cases e3 : mt_mn w (nI (b % 16)) (nI (b / 16)) 24 = 0
        · rw [if_neg (fun g => g.2.2 e3)] at h
          exact br_t e3 (nm_r (nI_1 b) (ih (b + 1) r (by omega) hr h))
        · rw [if_pos ⟨e1, e2, e3⟩] at h
          exact br_f e3 (mt_szY b16 (nm_r (nI_1 b) (ih (b + 1) _ (by omega) s1 h)))
      · rw [if_neg (fun g => e2 g.2.1)] at h
        exact br_t (nI_le (by omega) (by omega)) (nm_r (nI_1 b) (ih (b + 1) r (by omega) hr h))
    · rw [if_neg (fun g => e1 g.1)] at h
      exact br_f (fun g => e1 ((nI_eq (by omega) (by omega)).mp g)) (nm_r (nI_1 b) (ih (b + 1) r (by omega) hr h))
theorem mt_rs1 (w : Nat → Int32) (b r : Nat) : mt_rs w b r = r ∨ (mt_N w b ∧ mt_rs w b r = mt_sz (b % 16)) := by
  unfold mt_rs
  by_cases e : mt_sz (b % 16) = mt_sz (b / 16) ∧ r < mt_sz (b % 16) ∧ ¬ mt_mn w (nI (b % 16)) (nI (b / 16)) 24 = 0
  · rw [if_pos e]; exact Or.inr ⟨⟨e.1, e.2.2⟩, rfl⟩
  · rw [if_neg e]; exact Or.inl rfl
theorem mt_rs2 (w : Nat → Int32) (b r : Nat) : r ≤ mt_rs w b r ∧ (mt_N w b → mt_sz (b % 16) ≤ mt_rs w b r) := by
  unfold mt_rs
  by_cases e : mt_sz (b % 16) = mt_sz (b / 16) ∧ r < mt_sz (b % 16) ∧ ¬ mt_mn w (nI (b % 16)) (nI (b / 16)) 24 = 0
  · rw [if_pos e]; exact ⟨Nat.le_of_lt e.2.1, fun _ => Nat.le_refl _⟩
  · rw [if_neg e]
    refine ⟨Nat.le_refl _, fun n => ?_⟩
    by_cases g : r < mt_sz (b % 16)
    · exact absurd ⟨n.1, g, n.2⟩ e
    · omega
theorem mt_rk1 (w : Nat → Int32) : ∀ d b r : Nat, mt_rk w d b r = r ∨ ∃ c, b ≤ c ∧ c < b + d ∧ mt_N w c ∧ mt_rk w d b r = mt_sz (c % 16) := by
  intro d
  induction d with
  | zero => intro b r; exact Or.inl rfl
  | succ d ih =>
    intro b r
    unfold mt_rk
    rcases ih (b + 1) (mt_rs w b r) with h | ⟨c, h1, h2, h3, h4⟩
    · rw [h]
      rcases mt_rs1 w b r with g | ⟨g, g2⟩
      · exact Or.inl g
      · exact Or.inr ⟨b, Nat.le_refl _, by omega, g, g2⟩
    · exact Or.inr ⟨c, by omega, by omega, h3, h4⟩
theorem mt_rk2 (w : Nat → Int32) : ∀ d b r : Nat, r ≤ mt_rk w d b r ∧ ∀ c, b ≤ c → c < b + d → mt_N w c → mt_sz (c % 16) ≤ mt_rk w d b r := by
  intro d
  induction d with
  | zero => intro b r; exact ⟨Nat.le_refl _, fun c h1 h2 => absurd h1 (by omega)⟩
  | succ d ih =>
    intro b r
    unfold mt_rk
    obtain ⟨h1, h2⟩ := ih (b + 1) (mt_rs w b r)
    obtain ⟨g1, g2⟩ := mt_rs2 w b r
    refine ⟨Nat.le_trans g1 h1, fun c c1 c2 n => ?_⟩
    by_cases e : c = b
    · subst e; exact Nat.le_trans (g2 n) h1
    · exact h2 c (by omega) (by omega) n
/-! masks by their size -/
theorem mt_z4 : ∀ m, m < 16 → mt_sz m = 4 → m = 15 := by decide
theorem mt_z3 : ∀ m, m < 16 → mt_sz m = 3 → ∃ r, r < 4 ∧ m = 15 - 2 ^ r := by decide
theorem mt_z2 : ∀ m, m < 16 → mt_sz m = 2 → ∃ b, b < 4 ∧ ∃ a, a < b ∧ m = 2 ^ a + 2 ^ b := by decide
theorem mt_z1 : ∀ m, m < 16 → mt_sz m = 1 → ∃ r, r < 4 ∧ m = 2 ^ r := by decide
theorem mt_y3 : ∀ r, r < 4 → mt_sz (15 - 2 ^ r) = 3 ∧ 15 - 2 ^ r < 16 ∧ 0 < 15 - 2 ^ r := by decide
theorem mt_y2 : ∀ b, b < 4 → ∀ a, a < b → mt_sz (2 ^ a + 2 ^ b) = 2 ∧ 2 ^ a + 2 ^ b < 16 ∧ 0 < 2 ^ a + 2 ^ b := by decide
theorem mt_y1 : ∀ r, r < 4 → mt_sz (2 ^ r) = 1 ∧ 2 ^ r < 16 ∧ 0 < 2 ^ r := by decide
theorem mt_NN (w : Nat → Int32) {x y : Nat} (hx : x < 16) (hy : y < 16) (h : mt_sz x = mt_sz y) (hn : ¬ mt_mn w (nI x) (nI y) 24 = 0) : mt_N w (16 * y + x) := by
  unfold mt_N
  rw [show (16 * y + x) % 16 = x by omega, show (16 * y + x) / 16 = y by omega]
  exact ⟨h, hn⟩
def mt_R (w : Nat → Int32) : Nat := mt_rk w 255 1 0
theorem mt_Rge (w : Nat → Int32) {x y : Nat} (hx : x < 16) (hx0 : 0 < x) (hy : y < 16) (h : mt_sz x = mt_sz y) (hn : ¬ mt_mn w (nI x) (nI y) 24 = 0) : mt_sz x ≤ mt_R w := by
  have g := (mt_rk2 w 255 1 0).2 (16 * y + x) (by omega) (by omega) (mt_NN w hx hy h hn)
  rw [show (16 * y + x) % 16 = x by omega] at g
  exact g
theorem mt_Ris (w : Nat → Int32) : mt_R w = 0 ∨ ∃ x y, x < 16 ∧ y < 16 ∧ mt_sz x = mt_R w ∧ mt_sz y = mt_R w ∧ ¬ mt_mn w (nI x) (nI y) 24 = 0 := by
  rcases mt_rk1 w 255 1 0 with h | ⟨c, h1, h2, h3, h4⟩
  · exact Or.inl h
  · exact Or.inr ⟨c % 16, c / 16, by omega, by omega, h4.symm, h3.1.symm.trans h4.symm, h3.2⟩
theorem mt_Rle (w : Nat → Int32) : mt_R w ≤ 4 := by
  rcases mt_Ris w with h | ⟨x, y, _, _, h, _, _⟩
  · omega
  · rw [← h]; exact mt_sz4 x
theorem mt_R4 {w : Nat → Int32} (h : mt_det w = 0) : mt_R w ≠ 4 := by
  intro e
  rcases mt_Ris w with g | ⟨x, y, hx, hy, ex, ey, hn⟩
  · omega
  · rw [mt_z4 x hx (ex.trans e), mt_z4 y hy (ey.trans e)] at hn
    exact hn ((mt_M4 w).trans h)
theorem mt_R3 {w : Nat → Int32} (h : ∀ r, r < 4 → ∀ c, c < 4 → mt_s3 w r c = 0) : mt_R w ≠ 3 := by
  intro e
  rcases mt_Ris w with g | ⟨x, y, hx, hy, ex, ey, hn⟩
  · omega
  · obtain ⟨r, hr, er⟩ := mt_z3 x hx (ex.trans e)
    obtain ⟨c, hc, ec⟩ := mt_z3 y hy (ey.trans e)
    rw [er, ec, mt_M3 w hr hc] at hn
    have g := h r hr c hc
    unfold mt_s3 at g
    by_cases o : (r + c) % 2 = 0
    · rw [if_pos o] at g; exact hn g
    · rw [if_neg o] at g; exact hn (by grind)
theorem mt_R2 {w : Nat → Int32} (h : ∀ a, a < 4 → ∀ b, b < 4 → a < b → ∀ c, c < 4 → ∀ d, d < 4 → c < d → mt_m2 w a b c d = 0) : mt_R w ≠ 2 := by
  intro e
  rcases mt_Ris w with g | ⟨x, y, hx, hy, ex, ey, hn⟩
  · omega
  · obtain ⟨b, hb, a, ha, er⟩ := mt_z2 x hx (ex.trans e)
    obtain ⟨d, hd, c, hc, ec⟩ := mt_z2 y hy (ey.trans e)
    rw [er, ec, mt_M2 w ha hb hc hd] at hn
    exact hn (h a (by omega) b hb ha c (by omega) d hd hc)
theorem mt_R1 {w : Nat → Int32} (h : ∀ j, j < 16 → w j = 0) : mt_R w ≠ 1 := by
  intro e
  rcases mt_Ris w with g | ⟨x, y, hx, hy, ex, ey, hn⟩
  · omega
  · obtain ⟨r, hr, er⟩ := mt_z1 x hx (ex.trans e)
    obtain ⟨c, hc, ec⟩ := mt_z1 y hy (ey.trans e)
    rw [er, ec, mt_M1 w hr hc] at hn
    exact hn (h _ (by omega))
theorem mt_G4 {w : Nat → Int32} (h : ¬ mt_det w = 0) : 4 ≤ mt_R w := mt_Rge w (x := 15) (y := 15) (by decide) (by decide) (by decide) rfl (fun g => h ((mt_M4 w).symm.trans g))
theorem mt_G3 {w : Nat → Int32} {r c : Nat} (hr : r < 4) (hc : c < 4) (h : mt_s3 w r c ≠ 0) : 3 ≤ mt_R w := by
  obtain ⟨x1, x2, x3⟩ := mt_y3 r hr
  obtain ⟨y1, y2, y3⟩ := mt_y3 c hc
  have g := mt_Rge w x2 x3 y2 (x1.trans y1.symm) (by
    rw [mt_M3 w hr hc]
    intro g
    apply h
    unfold mt_s3
    rw [g]
    split
    · rfl
    · decide)
  omega
theorem mt_G2 {w : Nat → Int32} {a b c d : Nat} (ha : a < b) (hb : b < 4) (hc : c < d) (hd : d < 4) (h : mt_m2 w a b c d ≠ 0) : 2 ≤ mt_R w := by
  obtain ⟨x1, x2, x3⟩ := mt_y2 b hb a ha
  obtain ⟨y1, y2, y3⟩ := mt_y2 d hd c hc
  have g := mt_Rge w x2 x3 y2 (x1.trans y1.symm) (by rw [mt_M2 w ha hb hc hd]; exact h)
  omega
theorem mt_G1 {w : Nat → Int32} {j : Nat} (hj : j < 16) (h : ¬ w j = 0) : 1 ≤ mt_R w := by
  obtain ⟨x1, x2, x3⟩ := mt_y1 (j / 4) (by omega)
  obtain ⟨y1, y2, y3⟩ := mt_y1 (j % 4) (by omega)
  have g := mt_Rge w x2 x3 y2 (x1.trans y1.symm) (by rw [mt_M1 w (by omega) (by omega), show 4 * (j / 4) + j % 4 = j by omega]; exact h)
  omega
theorem mt_azE (f : Nat → Int32) : ∀ d i : Nat, i + d = 16 → (mt_az f d i = 1 → ∀ j, j < 16 → i ≤ j → f j = 0) ∧ (mt_az f d i = 0 → ∃ j, j < 16 ∧ ¬ f j = 0) := by
  intro d
  induction d with
  | zero => intro i hi; exact ⟨fun _ j h1 h2 => absurd h1 (by omega), fun h => absurd (show (1 : Int32) = 0 from h) mt_n0⟩
  | succ d ih =>
    intro i hi
    unfold mt_az
    by_cases e : f i = 0
    · rw [if_pos e]
      obtain ⟨h1, h2⟩ := ih (i + 1) (by omega)
      refine ⟨fun g j j1 j2 => ?_, h2⟩
      by_cases ej : j = i
      · rw [ej]; exact e
      · exact h1 g j j1 (by omega)
    · rw [if_neg e]
      exact ⟨fun g => absurd g (by decide), fun _ => ⟨i, by omega, e⟩⟩
theorem i_vc_rankAt {k : Nat} {u : SX} {v : SY} (I : i_Rel k u v) (hk : k + 4 ≤ 2048) (v1 : Int32) : wpX_rankAt (fun r u' => wpY_rankAt (fun r' v' => r' = r ∧ i_Rel (k + 4) u' v') v v1) u v1 := by
  obtain ⟨t, s, p, q⟩ := u
  obtain ⟨t', p', w', q', z'⟩ := v
  obtain ⟨e, hw⟩ := I
  cases (e : t = t')
  unfold wpX_rankAt wpY_rankAt
  dsimp only
  rcases mt_within v1 40 with ⟨gx, gy⟩ | ⟨_, gx, gy⟩
  · exact gx _ (br_t rfl (gy _ _ ⟨rfl, rfl, hw⟩))
  · refine gx _ (br_f mt_n0 (mt_td (fun s1 h1 => ?_)))
    have key : ∀ (n : Nat), (∀ w1 : Nat → Int32, (∀ j, j < 16 → s1 j = w1 j) → mt_R w1 = n) → (v1 < -40 → (-3 : Int32) = nI n ∧ i_Rel (k + 4) (t, s1, p, q) (t, p', w', q', z')) ∧ (¬ v1 < -40 → ((v1 ≤ 40 → wpY_load (fun u => match u with | (a, b, c, d, e) => (∃ n24 : Nat, wY_rankAt_24 (fun r' v' => r' = nI n ∧ i_Rel (k + 4) (t, s1, p, q) v') a b c d e n24 0 1)) (t, p', w', q', z') v1) ∧ (¬ v1 ≤ 40 → (-3 : Int32) = nI n ∧ i_Rel (k + 4) (t, s1, p, q) (t, p', w', q', z')))) := by
      intro n hn
      refine gy _ _ (mt_ld (fun w1 h2 => ⟨256, mt_rkY hw 255 1 0 rfl (by decide) ⟨?_, rfl, hw⟩⟩))
      exact congrArg nI (hn w1 (fun j hj => (h1 j hj).trans (h2 j hj).symm))
    refine mt_shiftedd ?_
    by_cases e4 : mt_det s1 = 0
    · refine br_t e4 (mt_h3 (fun r c hr hc e3 => br_f mt_n0 (key 3 (fun w1 g => ?_))) (fun e3 => br_t rfl (mt_h2 (fun a b c d ha hb hc hd e2 => br_f mt_n0 (key 2 (fun w1 g => ?_))) (fun e2 => br_t rfl (mt_azshifted ?_)))))
      · have a1 := mt_Rle w1
        have a2 := mt_R4 (w := w1) ((mt_cd g).symm.trans e4)
        have a3 := mt_G3 (w := w1) hr hc (by rw [← mt_cs g]; exact e3)
        omega
      · have a1 := mt_Rle w1
        have a2 := mt_R4 (w := w1) ((mt_cd g).symm.trans e4)
        have a3 := mt_R3 (w := w1) (fun r hr c hc => (mt_cs g r c).symm.trans (e3 r hr c hc))
        have a4 := mt_G2 (w := w1) ha hb hc hd (by rw [← mt_c2 g (by omega) hb (by omega) hd]; exact e2)
        omega
      · have f4 : ∀ w1 : Nat → Int32, (∀ j, j < 16 → s1 j = w1 j) → mt_R w1 ≤ 1 := by
          intro w1 g
          have a1 := mt_Rle w1
          have a2 := mt_R4 (w := w1) ((mt_cd g).symm.trans e4)
          have a3 := mt_R3 (w := w1) (fun r hr c hc => (mt_cs g r c).symm.trans (e3 r hr c hc))
          have a4 := mt_R2 (w := w1) (fun a ha b hb hab c hc d hd hcd => (mt_c2 g ha hb hc hd).symm.trans (e2 a ha b hb hab c hc d hd hcd))
          omega
        obtain ⟨z1, z0⟩ := mt_azE s1 16 0 rfl
        rcases mt_az01 s1 16 0 with e1 | e1
        · rw [e1]
          refine br_f mt_n0 (key 0 (fun w1 g => ?_))
          have a1 := f4 w1 g
          have a2 := mt_R1 (w := w1) (fun j hj => (g j hj).symm.trans (z1 e1 j hj (by omega)))
          omega
        · rw [e1]
          refine br_t rfl (key 1 (fun w1 g => ?_))
          have a1 := f4 w1 g
          obtain ⟨j, hj, ej⟩ := z0 e1
          have a2 := mt_G1 (w := w1) hj (by rw [← g j hj]; exact ej)
          omega
    · refine br_f e4 (key 4 (fun w1 g => ?_))
      have a1 := mt_Rle w1
      have a2 := mt_G4 (w := w1) (fun z => e4 ((mt_cd g).trans z))
      omega
