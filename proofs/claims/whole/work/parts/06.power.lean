/-! powers -/
def mt_rc (P T : Nat → Int32) (r c : Nat) : Int32 := 0 + P (4 * r + 0) * T (4 * 0 + c) + P (4 * r + 1) * T (4 * 1 + c) + P (4 * r + 2) * T (4 * 2 + c) + P (4 * r + 3) * T (4 * 3 + c)
def mt_mu (P T : Nat → Int32) (i : Nat) : Int32 := mt_rc P T (i / 4) (i % 4)
def mt_pw (T : Nat → Int32) : Nat → Nat → Int32
  | 0 => fun i => if i % 5 = 0 then 1 else 0
  | n + 1 => mt_mu (mt_pw T n) T
theorem mt_muc {P Q T : Nat → Int32} (h : ∀ j, j < 16 → P j = Q j) {i : Nat} (hi : i < 16) : mt_mu P T i = mt_mu Q T i := by
  unfold mt_mu mt_rc
  rw [h _ (show 4 * (i / 4) + 0 < 16 by omega), h _ (show 4 * (i / 4) + 1 < 16 by omega), h _ (show 4 * (i / 4) + 2 < 16 by omega), h _ (show 4 * (i / 4) + 3 < 16 by omega)]
theorem mt_rcX1 {post : Int32 → Prop} {t s p q : Nat → Int32} {n : Nat} {x : Int32} {r c : Nat} (hr : r < 4) (hc : c < 4) (j : Nat) (hj : j < 4) (h : wX_rowTimesColumn_5 post (nI r) (nI c) t s p q n (x + p (4 * r + j) * t (4 * j + c)) (nI (j + 1))) : wX_rowTimesColumn_5 post (nI r) (nI c) t s p q (n + 1) x (nI j) := by
  refine br_f (mt_4lt hj) ?_
  rw [mt_ix, mt_ix, nI_clamp (n := 4 * r + j) (by omega), nI_clamp (n := 4 * j + c) (by omega)]
  exact ⟨vp_in_nI (by omega) (by decide), vp_in_nI (by omega) (by decide), nm_e (nm_r (nI_1 j) h)⟩
theorem mt_rcX {post : Int32 → Prop} {t s p q : Nat → Int32} {r c : Nat} (hr : r < 4) (hc : c < 4) (h : post (mt_rc p t r c)) : wpX_rowTimesColumn post (t, s, p, q) (nI r) (nI c) := by
  unfold wpX_rowTimesColumn
  dsimp only
  refine ⟨5, mt_rcX1 hr hc 0 (by decide) (mt_rcX1 hr hc 1 (by decide) (mt_rcX1 hr hc 2 (by decide) (mt_rcX1 hr hc 3 (by decide) ?_)))⟩
  exact br_t mt_4ge h
/-! the component's multiplication -/
theorem mt_mX3 {post : SX → Prop} {t s q f : Nat → Int32} (hq : ∀ j, j < 16 → q j = f j) (h : ∀ p, (∀ j, j < 16 → p j = f j) → post (t, s, p, q)) : ∀ (d i : Nat) (p : Nat → Int32), i + d = 16 → (∀ j, j < i → p j = f j) → wX_multiplyPowerByTable_44 post (d + 1) (nI i) t s p q := by
  intro d
  induction d with
  | zero =>
    intro i p hi hp
    cases (hi : i = 16)
    exact br_t mt_16ge (h p hp)
  | succ d ih =>
    intro i p hi hp
    have ii := vp_in_nI (n := i) (N := 16) (by omega) (by decide)
    refine br_f (mt_16lt (by omega)) ⟨ii, ii, nm_e (nm_r (nI_1 i) (ih (i + 1) _ (by omega) ?_))⟩
    intro j hj
    rw [nI_clamp (n := i) (by omega)]
    by_cases ej : j = i
    · subst ej; rw [pk_us]; exact hq j (by omega)
    · rw [pk_un ej]; exact hp j (by omega)
theorem mt_mX2 {post : SX → Prop} {J : Int32 → (Nat → Int32) → (Nat → Int32) → (Nat → Int32) → (Nat → Int32) → Prop} {t s p : Nat → Int32} {r : Nat} (hr : r < 4) (h : ∀ q, (∀ j, j < 4 * (r + 1) → q j = mt_mu p t j) → J (nI (r + 1)) t s p q) : ∀ (d c : Nat) (q : Nat → Int32), c + d = 4 → (∀ j, j < 4 * r + c → q j = mt_mu p t j) → wX_multiplyPowerByTable_9 post J (nI r) (d + 1) (nI c) t s p q := by
  intro d
  induction d with
  | zero =>
    intro c q hc hq
    cases (hc : c = 4)
    exact br_t mt_4ge (nm_r (nI_1 r) (h q (fun j hj => hq j (by omega))))
  | succ d ih =>
    intro c q hc hq
    refine br_f (mt_4lt (by omega)) (mt_rcX hr (by omega) ?_)
    rw [mt_ix, nI_clamp (n := 4 * r + c) (by omega)]
    refine ⟨vp_in_nI (by omega) (by decide), nm_e (nm_r (nI_1 c) (ih (c + 1) _ (by omega) ?_))⟩
    intro j hj
    by_cases ej : j = 4 * r + c
    · rw [ej, pk_us]
      unfold mt_mu
      rw [show (4 * r + c) / 4 = r by omega, show (4 * r + c) % 4 = c by omega]
    · rw [pk_un ej]; exact hq j (by omega)
theorem mt_mX1 {post : SX → Prop} {t s p : Nat → Int32} (h : ∀ p' q', (∀ j, j < 16 → p' j = mt_mu p t j) → post (t, s, p', q')) : ∀ (d r : Nat) (q : Nat → Int32), r + d = 4 → (∀ j, j < 4 * r → q j = mt_mu p t j) → wX_multiplyPowerByTable_2 post (d + 1) (nI r) t s p q := by
  intro d
  induction d with
  | zero =>
    intro r q hr hq
    cases (hr : r = 4)
    exact br_t mt_4ge ⟨17, mt_mX3 hq (fun p' hp => h p' q hp) 16 0 p rfl (fun j hj => absurd hj (Nat.not_lt_zero j))⟩
  | succ d ih =>
    intro r q hr hq
    exact br_f (mt_4lt (by omega)) ⟨5, mt_mX2 (by omega) (fun q' hq' => ih (r + 1) q' (by omega) hq') 4 0 q rfl hq⟩
theorem mt_mX {post : SX → Prop} {t s p q : Nat → Int32} (h : ∀ p' q', (∀ j, j < 16 → p' j = mt_mu p t j) → post (t, s, p', q')) : wpX_multiplyPowerByTable post (t, s, p, q) := by
  unfold wpX_multiplyPowerByTable
  dsimp only
  exact ⟨5, mt_mX1 h 4 0 q rfl (fun j hj => absurd hj (by omega))⟩
/-! the component's raise -/
theorem mt_rX3 {post : SX → Prop} {t s : Nat → Int32} {n : Nat} (hn : n < 2 ^ 31) (h : ∀ p q, (∀ j, j < 16 → p j = mt_pw t n j) → post (t, s, p, q)) : ∀ (d i : Nat) (p q : Nat → Int32), i + d = n → (∀ j, j < 16 → p j = mt_pw t i j) → wX_raise_47 post (nI n) (d + 1) (nI i) t s p q := by
  intro d
  induction d with
  | zero =>
    intro i p q hi hp
    cases (hi : i = n)
    exact br_t (nI_le (Nat.le_refl i) hn) (h p q hp)
  | succ d ih =>
    intro i p q hi hp
    refine br_f (nI_ge (by omega) hn) (mt_mX (fun p' q' hp' => nm_r (nI_1 i) (ih (i + 1) p' q' (by omega) ?_)))
    intro j hj
    rw [hp' j hj]
    exact mt_muc hp hj
theorem mt_rX2 {post : SX → Prop} {t s q : Nat → Int32} {x : Int32} (h : ∀ p, (∀ j, j < 16 → p j = mt_pw t 0 j) → ∃ n, wX_raise_47 post x n 0 t s p q) : ∀ (d i : Nat) (p : Nat → Int32), i + d = 4 → (∀ j, j < 16 → p j = if j < 5 * i ∧ j % 5 = 0 then 1 else 0) → wX_raise_23 post x (d + 1) (nI i) t s p q := by
  intro d
  induction d with
  | zero =>
    intro i p hi hp
    cases (hi : i = 4)
    refine br_t mt_4ge (h p (fun j hj => ?_))
    rw [hp j hj]
    show _ = if j % 5 = 0 then (1 : Int32) else 0
    by_cases e : j % 5 = 0
    · rw [if_pos e, if_pos ⟨show j < 5 * 4 by omega, e⟩]
    · rw [if_neg e, if_neg (fun g => e g.2)]
  | succ d ih =>
    intro i p hi hp
    have e : (4 : Int32) * nI i + nI i = nI (5 * i) := by rw [mt_ix]; exact congrArg nI (by omega)
    refine br_f (mt_4lt (by omega)) ?_
    rw [e, nI_clamp (n := 5 * i) (by omega)]
    refine ⟨vp_in_nI (by omega) (by decide), nm_e (nm_r (nI_1 i) (ih (i + 1) _ (by omega) ?_))⟩
    intro j hj
    by_cases ej : j = 5 * i
    · subst ej
      rw [pk_us, if_pos ⟨by omega, by omega⟩]
    · rw [pk_un ej, hp j hj]
      by_cases g : j < 5 * i ∧ j % 5 = 0
      · rw [if_pos g, if_pos ⟨by omega, g.2⟩]
      · rw [if_neg g, if_neg (fun g2 => g ⟨by omega, g2.2⟩)]
theorem mt_rX1 {post : SX → Prop} {t s q : Nat → Int32} {x : Int32} (h : ∀ p, (∀ j, j < 16 → p j = mt_pw t 0 j) → ∃ n, wX_raise_47 post x n 0 t s p q) : ∀ (d i : Nat) (p : Nat → Int32), i + d = 16 → (∀ j, j < i → p j = 0) → wX_raise_2 post x (d + 1) (nI i) t s p q := by
  intro d
  induction d with
  | zero =>
    intro i p hi hp
    cases (hi : i = 16)
    exact br_t mt_16ge ⟨5, mt_rX2 h 4 0 p rfl (fun j hj => by rw [hp j hj, if_neg (fun g => absurd g.1 (by omega))])⟩
  | succ d ih =>
    intro i p hi hp
    refine br_f (mt_16lt (by omega)) ⟨vp_in_nI (by omega) (by decide), nm_e (nm_r (nI_1 i) (ih (i + 1) _ (by omega) ?_))⟩
    intro j hj
    rw [nI_clamp (n := i) (by omega)]
    by_cases ej : j = i
    · subst ej; rw [pk_us]
    · rw [pk_un ej]; exact hp j (by omega)
theorem mt_rX {post : SX → Prop} {t s p q : Nat → Int32} {n : Nat} (hn : n < 2 ^ 31) (h : ∀ p q, (∀ j, j < 16 → p j = mt_pw t n j) → post (t, s, p, q)) : wpX_raise post (t, s, p, q) (nI n) := by
  unfold wpX_raise
  dsimp only
  exact ⟨17, mt_rX1 (fun p' hp' => ⟨n + 1, mt_rX3 hn h n 0 p' q (by omega) hp'⟩) 16 0 p rfl (fun j hj => absurd hj (Nat.not_lt_zero j))⟩
/-! the reference's multiplication -/
theorem mt_mY3 {post : SY → Prop} {t w q z f : Nat → Int32} (hw : ∀ j, j < 16 → w j = f j) (h : ∀ p, (∀ j, j < 16 → p j = f j) → post (t, p, w, q, z)) : ∀ (d i : Nat) (p : Nat → Int32), i + d = 16 → (∀ j, j < i → p j = f j) → wY_multiply_66 post (d + 1) (nI i) t p w q z := by
  intro d
  induction d with
  | zero =>
    intro i p hi hp
    cases (hi : i = 16)
    exact br_t mt_16ge (h p hp)
  | succ d ih =>
    intro i p hi hp
    have ii := vp_in_nI (n := i) (N := 16) (by omega) (by decide)
    refine br_f (mt_16lt (by omega)) ⟨ii, ii, nm_e (nm_r (nI_1 i) (ih (i + 1) _ (by omega) ?_))⟩
    intro j hj
    rw [nI_clamp (n := i) (by omega)]
    by_cases ej : j = i
    · subst ej; rw [pk_us]; exact hw j (by omega)
    · rw [pk_un ej]; exact hp j (by omega)
theorem mt_n4 : ¬ (4 : Int32) = 0 := by decide
theorem mt_mY2 {post : SY → Prop} {J : Int32 → (Nat → Int32) → (Nat → Int32) → (Nat → Int32) → (Nat → Int32) → (Nat → Int32) → Prop} {t p w q z : Nat → Int32} {i n : Nat} {x : Int32} (hi : i < 16) (j : Nat) (hj : j < 4) (h : wY_multiply_12 post J (nI i) t p w q z n (x + p (4 * (i / 4) + j) * t (4 * j + i % 4)) (nI (j + 1))) : wY_multiply_12 post J (nI i) t p w q z (n + 1) x (nI j) := by
  refine br_f (mt_4lt hj) ?_
  have e1 : nI i / 4 = nI (i / 4) := pk_div (d := 4) (by omega) (by decide) (by decide)
  have e2 : nI i - nI i / 4 * 4 = nI (i % 4) := pk_rem (d := 4) (by omega) (by decide) (by decide)
  rw [e2, e1, mt_iy, mt_iy, nI_clamp (n := 4 * (i / 4) + j) (by omega), nI_clamp (n := 4 * j + i % 4) (by omega)]
  exact ⟨mt_n4, vp_in_nI (by omega) (by decide), mt_n4, vp_in_nI (by omega) (by decide), nm_e (nm_r (nI_1 j) h)⟩
theorem mt_mY1 {post : SY → Prop} {t p q z : Nat → Int32} (h : ∀ p' w', (∀ j, j < 16 → p' j = mt_mu p t j) → post (t, p', w', q, z)) : ∀ (d i : Nat) (w : Nat → Int32), i + d = 16 → (∀ j, j < i → w j = mt_mu p t j) → wY_multiply_2 post (d + 1) (nI i) t p w q z := by
  intro d
  induction d with
  | zero =>
    intro i w hi hw
    cases (hi : i = 16)
    exact br_t mt_16ge ⟨17, mt_mY3 hw (fun p' hp => h p' w hp) 16 0 p rfl (fun j hj => absurd hj (Nat.not_lt_zero j))⟩
  | succ d ih =>
    intro i w hi hw
    have i16 : i < 16 := by omega
    refine br_f (mt_16lt i16) ⟨5, mt_mY2 i16 0 (by decide) (mt_mY2 i16 1 (by decide) (mt_mY2 i16 2 (by decide) (mt_mY2 i16 3 (by decide) ?_)))⟩
    refine br_t mt_4ge ⟨vp_in_nI i16 (by decide), nm_e (nm_r (nI_1 i) (ih (i + 1) _ (by omega) ?_))⟩
    intro j hj
    rw [nI_clamp (n := i) (by omega)]
    by_cases ej : j = i
    · subst ej; rw [pk_us]; rfl
    · rw [pk_un ej]; exact hw j (by omega)
theorem mt_mY {post : SY → Prop} {t p w q z : Nat → Int32} (h : ∀ p' w', (∀ j, j < 16 → p' j = mt_mu p t j) → post (t, p', w', q, z)) : wpY_multiply post (t, p, w, q, z) := by
  unfold wpY_multiply
  dsimp only
  exact ⟨17, mt_mY1 h 16 0 w rfl (fun j hj => absurd hj (Nat.not_lt_zero j))⟩
/-! the reference's raise -/
theorem mt_rY2 {post : SY → Prop} {t q z : Nat → Int32} {n : Nat} (hn : n < 2 ^ 31) (h : ∀ p w, (∀ j, j < 16 → p j = mt_pw t n j) → post (t, p, w, q, z)) : ∀ (d i : Nat) (p w : Nat → Int32), i + d = n → (∀ j, j < 16 → p j = mt_pw t i j) → wY_raise_33 post (nI n) (d + 1) (nI i) t p w q z := by
  intro d
  induction d with
  | zero =>
    intro i p w hi hp
    cases (hi : i = n)
    exact br_t (nI_le (Nat.le_refl i) hn) (h p w hp)
  | succ d ih =>
    intro i p w hi hp
    refine br_f (nI_ge (by omega) hn) (mt_mY (fun p' w' hp' => nm_r (nI_1 i) (ih (i + 1) p' w' (by omega) ?_)))
    intro j hj
    rw [hp' j hj]
    exact mt_muc hp hj
theorem mt_rY1 {post : SY → Prop} {t w q z : Nat → Int32} {x : Int32} (h : ∀ p, (∀ j, j < 16 → p j = mt_pw t 0 j) → ∃ n, wY_raise_33 post x n 0 t p w q z) : ∀ (d i : Nat) (p : Nat → Int32), i + d = 16 → (∀ j, j < i → p j = mt_pw t 0 j) → wY_raise_2 post x (d + 1) (nI i) t p w q z := by
  intro d
  induction d with
  | zero =>
    intro i p hi hp
    cases (hi : i = 16)
    exact br_t mt_16ge (h p hp)
  | succ d ih =>
    intro i p hi hp
    refine br_f (mt_16lt (by omega)) ⟨mt_n5, ?_⟩
    rw [mt_rem5 (i := i) (by omega), nI_clamp (n := i) (by omega)]
    have ii := vp_in_nI (n := i) (N := 16) (by omega) (by decide)
    by_cases e : i % 5 = 0
    · refine br_t (by rw [e]; rfl) ⟨ii, nm_e (nm_r (nI_1 i) (ih (i + 1) _ (by omega) ?_))⟩
      intro j hj
      by_cases ej : j = i
      · subst ej; rw [pk_us]; exact (if_pos e).symm
      · rw [pk_un ej]; exact hp j (by omega)
    · refine br_f (nI_ne0 (by omega) (by omega)) ⟨ii, nm_e (nm_r (nI_1 i) (ih (i + 1) _ (by omega) ?_))⟩
      intro j hj
      by_cases ej : j = i
      · subst ej; rw [pk_us]; exact (if_neg e).symm
      · rw [pk_un ej]; exact hp j (by omega)
theorem mt_rY {post : SY → Prop} {t p w q z : Nat → Int32} {n : Nat} (hn : n < 2 ^ 31) (h : ∀ p w, (∀ j, j < 16 → p j = mt_pw t n j) → post (t, p, w, q, z)) : wpY_raise post (t, p, w, q, z) (nI n) := by
  unfold wpY_raise
  dsimp only
  exact ⟨17, mt_rY1 (fun p' hp' => ⟨n + 1, mt_rY2 hn h n 0 p' w (by omega) hp'⟩) 16 0 p rfl (fun j hj => absurd hj (Nat.not_lt_zero j))⟩
/-! powerTrace, powerEntry -/
theorem mt_pwr (p : Int32) : ((∀ post : Int32 → Prop, post 0 → wpX_isPower post p) ∧ (∀ A B : Prop, A → (p < 0 → A) ∧ (¬ p < 0 → ((p ≤ 60 → B) ∧ (¬ p ≤ 60 → A))))) ∨ ∃ n : Nat, n < 2 ^ 31 ∧ p = nI n ∧ (∀ post : Int32 → Prop, post 1 → wpX_isPower post p) ∧ (∀ A B : Prop, B → (p < 0 → A) ∧ (¬ p < 0 → ((p ≤ 60 → B) ∧ (¬ p ≤ 60 → A)))) := by
  unfold wpX_isPower
  by_cases h : p < 0
  · exact Or.inl ⟨fun post hp => br_t h hp, fun A B a => br_t h a⟩
  · by_cases g : 60 < p
    · exact Or.inl ⟨fun post hp => br_f h (br_t g hp), fun A B a => br_f h (br_f (Int32.not_le.mpr g) a)⟩
    · obtain ⟨n, hn, e⟩ := nI_of h
      exact Or.inr ⟨n, hn, e, fun post hp => br_f h (br_f g hp), fun A B b => br_f h (br_t (Int32.not_lt.mp g) b)⟩
theorem i_vc_powerTrace {k : Nat} {u : SX} {v : SY} (I : i_Rel k u v) (hk : k + 4 ≤ 2048) (v1 : Int32) : wpX_powerTrace (fun r u' => wpY_powerTrace (fun r' v' => r' = r ∧ i_Rel (k + 4) u' v') v v1) u v1 := by
  obtain ⟨t, s, p, q⟩ := u
  obtain ⟨t', p', w', q', z'⟩ := v
  obtain ⟨e, hw⟩ := I
  cases (e : t = t')
  unfold wpX_powerTrace wpY_powerTrace
  dsimp only
  rcases mt_pwr v1 with ⟨hx, hy⟩ | ⟨n, hn, rfl, hx, hy⟩
  · exact hx _ (br_t rfl (hy _ _ ⟨rfl, rfl, hw⟩))
  · refine hx _ (br_f mt_n0 (mt_rX hn (fun p1 q1 h1 => mt_powert (hy _ _ (mt_rY hn (fun p2 w2 h2 => ?_))))))
    refine ⟨?_, rfl, hw⟩
    unfold mt_e1
    dsimp only
    rw [h1 0 (by decide), h1 5 (by decide), h1 10 (by decide), h1 15 (by decide), h2 0 (by decide), h2 5 (by decide), h2 10 (by decide), h2 15 (by decide), Int32.zero_add]
theorem i_vc_powerEntry {k : Nat} {u : SX} {v : SY} (I : i_Rel k u v) (hk : k + 4 ≤ 2048) (v1 : Int32) (v2 : Int32) (v3 : Int32) : wpX_powerEntry (fun r u' => wpY_powerEntry (fun r' v' => r' = r ∧ i_Rel (k + 4) u' v') v v1 v2 v3) u v1 v2 v3 := by
  obtain ⟨t, s, p, q⟩ := u
  obtain ⟨t', p', w', q', z'⟩ := v
  obtain ⟨e, hw⟩ := I
  cases (e : t = t')
  unfold wpX_powerEntry wpY_powerEntry
  dsimp only
  rcases mt_place v1 v2 with ⟨hx, hy⟩ | ⟨i, j, hi, hj, rfl, rfl, hx, hy⟩
  · exact hx _ (br_t rfl (hy _ _ (br_f mt_n0 ⟨rfl, rfl, hw⟩)))
  · refine hx _ (br_f mt_n0 ?_)
    rw [mt_ix, mt_iy, nI_clamp (n := 4 * i + j) (by omega)]
    rcases mt_pwr v3 with ⟨gx, gy⟩ | ⟨n, hn, rfl, gx, gy⟩
    · exact gx _ (br_t rfl (hy _ _ (br_t rfl (gy _ _ ⟨rfl, rfl, hw⟩))))
    · have ii := vp_in_nI (n := 4 * i + j) (N := 16) (by omega) (by decide)
      refine gx _ (br_f mt_n0 (mt_rX hn (fun p1 q1 h1 => ⟨ii, hy _ _ (br_t rfl (gy _ _ (mt_rY hn (fun p2 w2 h2 => ⟨ii, ?_, rfl, hw⟩))))⟩)))
      exact (h2 _ (by omega)).trans (h1 _ (by omega)).symm
/-! all zero -/
def mt_az (f : Nat → Int32) : Nat → Nat → Int32
  | 0, _ => 1
  | d + 1, i => if f i = 0 then mt_az f d (i + 1) else 0
theorem mt_az01 (f : Nat → Int32) : ∀ d i : Nat, mt_az f d i = 1 ∨ mt_az f d i = 0 := by
  intro d
  induction d with
  | zero => intro i; exact Or.inl rfl
  | succ d ih =>
    intro i
    unfold mt_az
    by_cases e : f i = 0
    · rw [if_pos e]; exact ih (i + 1)
    · rw [if_neg e]; exact Or.inr rfl
theorem mt_azc {f g : Nat → Int32} (h : ∀ j, j < 16 → f j = g j) : ∀ d i : Nat, i + d = 16 → mt_az f d i = mt_az g d i := by
  intro d
  induction d with
  | zero => intro i _; rfl
  | succ d ih =>
    intro i hi
    unfold mt_az
    rw [h i (by omega), ih (i + 1) (by omega)]
theorem mt_azpower1 {post : Int32 → Prop} {t s p q : Nat → Int32} : ∀ d i : Nat, i + d = 16 → post (mt_az p d i) → wX_isAllZero__power_2 post t s p q (d + 1) (nI i) := by
  intro d
  induction d with
  | zero =>
    intro i hi h
    cases (hi : i = 16)
    exact br_t mt_16ge h
  | succ d ih =>
    intro i hi h
    unfold mt_az at h
    refine br_f (mt_16lt (by omega)) ⟨vp_in_nI (by omega) (by decide), ?_⟩
    rw [nI_clamp (n := i) (by omega)]
    by_cases e : p i = 0
    · rw [if_pos e] at h
      exact br_t e (nm_r (nI_1 i) (ih (i + 1) (by omega) h))
    · rw [if_neg e] at h
      exact br_f e h
theorem mt_azpower {post : Int32 → Prop} {t s p q : Nat → Int32} (h : post (mt_az p 16 0)) : wpX_isAllZero__power post (t, s, p, q) := by
  unfold wpX_isAllZero__power
  dsimp only
  exact ⟨17, mt_azpower1 16 0 rfl h⟩
theorem mt_azshifted1 {post : Int32 → Prop} {t s p q : Nat → Int32} : ∀ d i : Nat, i + d = 16 → post (mt_az s d i) → wX_isAllZero__shifted_2 post t s p q (d + 1) (nI i) := by
  intro d
  induction d with
  | zero =>
    intro i hi h
    cases (hi : i = 16)
    exact br_t mt_16ge h
  | succ d ih =>
    intro i hi h
    unfold mt_az at h
    refine br_f (mt_16lt (by omega)) ⟨vp_in_nI (by omega) (by decide), ?_⟩
    rw [nI_clamp (n := i) (by omega)]
    by_cases e : s i = 0
    · rw [if_pos e] at h
      exact br_t e (nm_r (nI_1 i) (ih (i + 1) (by omega) h))
    · rw [if_neg e] at h
      exact br_f e h
theorem mt_azshifted {post : Int32 → Prop} {t s p q : Nat → Int32} (h : post (mt_az s 16 0)) : wpX_isAllZero__shifted post (t, s, p, q) := by
  unfold wpX_isAllZero__shifted
  dsimp only
  exact ⟨17, mt_azshifted1 16 0 rfl h⟩
theorem mt_azY {post : Int32 → SY → Prop} {t p w q z : Nat → Int32} : ∀ d i : Nat, i + d = 16 → post (mt_az p d i) (t, p, w, q, z) → wY_vanishes_7 post t p w q z (d + 1) (nI i) := by
  intro d
  induction d with
  | zero =>
    intro i hi h
    cases (hi : i = 16)
    exact br_t mt_16ge h
  | succ d ih =>
    intro i hi h
    unfold mt_az at h
    refine br_f (mt_16lt (by omega)) ⟨vp_in_nI (by omega) (by decide), ?_⟩
    rw [nI_clamp (n := i) (by omega)]
    by_cases e : p i = 0
    · rw [if_pos e] at h
      exact br_t e (nm_r (nI_1 i) (ih (i + 1) (by omega) h))
    · rw [if_neg e] at h
      exact br_f e h
theorem i_vc_vanishes {k : Nat} {u : SX} {v : SY} (I : i_Rel k u v) (hk : k + 4 ≤ 2048) : wpX_vanishes (fun r u' => wpY_vanishes (fun r' v' => r' = r ∧ i_Rel (k + 4) u' v') v) u := by
  obtain ⟨t, s, p, q⟩ := u
  obtain ⟨t', p', w', q', z'⟩ := v
  obtain ⟨e, hw⟩ := I
  cases (e : t = t')
  unfold wpX_vanishes wpY_vanishes
  dsimp only
  refine mt_rX (n := 4) (by decide) (fun p1 q1 h1 => mt_azpower ⟨?_, mt_rY (n := 4) (by decide) (fun p2 w2 h2 => ⟨17, mt_azY 16 0 rfl ⟨?_, rfl, hw⟩⟩)⟩)
  · rcases mt_az01 p1 16 0 with g | g <;> rw [g] <;> rfl
  · exact mt_azc (fun j hj => (h2 j hj).trans (h1 j hj).symm) 16 0 rfl
