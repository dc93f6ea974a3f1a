/-! the reference's sign, keeps and minor: pure pictures and the walks to them -/
def mt_bit (m r : Int32) : Bool := decide (((m >>> (r &&& 31)) &&& 1) = 1)
theorem mt_clN (w r : Int32) : ∃ m : Nat, m < 4 ∧ mt_cl w r = nI m := pk_andE _ 2 (by decide)
/-- one pair of rows -/
def mt_sgs (way rows : Int32) (i j : Nat) (s : Int32) : Int32 := if mt_bit rows (nI i) = true ∧ mt_bit rows (nI j) = true ∧ ¬ mt_cl way (nI i) ≤ mt_cl way (nI j) then -s else s
def mt_sgw (way rows : Int32) : Int32 := mt_sgs way rows 2 3 (mt_sgs way rows 1 3 (mt_sgs way rows 1 2 (mt_sgs way rows 0 3 (mt_sgs way rows 0 2 (mt_sgs way rows 0 1 1)))))
theorem mt_sg1 {post : Int32 → Prop} {J : Int32 → Int32 → Prop} {t p w q z : Nat → Int32} {way rows x : Int32} {n : Nat} (i j : Nat) (hj : j < 4) (h : wY_signWithin_17 post J way rows (nI i) t p w q z n (mt_sgs way rows i j x) (nI (j + 1))) : wY_signWithin_17 post J way rows (nI i) t p w q z (n + 1) x (nI j) := by
  refine br_f (mt_4lt hj) ?_
  unfold mt_sgs mt_bit at h
  by_cases e1 : ((rows >>> (nI i &&& 31)) &&& 1) = 1
  · refine br_t e1 ?_
    by_cases e2 : ((rows >>> (nI j &&& 31)) &&& 1) = 1
    · refine br_t e2 ?_
      refine br_f (by decide) (mt_clY (mt_clY ?_))
      by_cases e3 : mt_cl way (nI i) ≤ mt_cl way (nI j)
      · rw [if_neg (fun g => g.2.2 e3)] at h
        exact br_t e3 (nm_r (nI_1 j) h)
      · rw [if_pos ⟨decide_eq_true e1, decide_eq_true e2, e3⟩] at h
        exact br_f e3 (nm_e (nm_r (nI_1 j) h))
    · rw [if_neg (fun g => e2 (of_decide_eq_true g.2.1))] at h
      exact br_f e2 (br_t rfl (nm_r (nI_1 j) h))
  · rw [if_neg (fun g => e1 (of_decide_eq_true g.1))] at h
    exact br_f e1 (br_t rfl (nm_r (nI_1 j) h))
theorem mt_sg2 {post : Int32 → Prop} {J : Int32 → Int32 → Prop} {t p w q z : Nat → Int32} {way rows x : Int32} {n : Nat} (i : Nat) (h : J x (nI (i + 1))) : wY_signWithin_17 post J way rows (nI i) t p w q z (n + 1) x (nI 4) :=
  br_t mt_4ge (nm_r (nI_1 i) h)
theorem mt_sg3 {post : Int32 → Prop} {t p w q z : Nat → Int32} {way rows x : Int32} {n : Nat} (i : Nat) (hi : i < 4) (h : wY_signWithin_17 post (wY_signWithin_5 post way rows t p w q z n) way rows (nI i) t p w q z 5 x (nI (i + 1))) : wY_signWithin_5 post way rows t p w q z (n + 1) x (nI i) :=
  br_f (mt_4lt hi) (nm_r (nI_1 i) ⟨5, h⟩)
theorem mt_sgY {post : Int32 → Prop} {t p w q z : Nat → Int32} {way rows : Int32} (h : post (mt_sgw way rows)) : wpY_signWithin post (t, p, w, q, z) way rows := by
  unfold wpY_signWithin
  dsimp only
  refine ⟨5, mt_sg3 0 (by decide) (mt_sg1 0 1 (by decide) (mt_sg1 0 2 (by decide) (mt_sg1 0 3 (by decide) (mt_sg2 0 ?_))))⟩
  refine mt_sg3 1 (by decide) (mt_sg1 1 2 (by decide) (mt_sg1 1 3 (by decide) (mt_sg2 1 ?_)))
  refine mt_sg3 2 (by decide) (mt_sg1 2 3 (by decide) (mt_sg2 2 ?_))
  refine mt_sg3 3 (by decide) (mt_sg2 3 ?_)
  exact br_t mt_4ge h
/-- is the way kept, from row i on -/
def mt_kp (way rows cols : Int32) : Nat → Nat → Int32 → Bool
  | 0, _, _ => true
  | d + 1, i, last =>
    if mt_bit rows (nI i) = mt_bit cols (mt_cl way (nI i)) then
      (if mt_bit rows (nI i) = true then mt_kp way rows cols d (i + 1) last
       else if last ≤ mt_cl way (nI i) then mt_kp way rows cols d (i + 1) (mt_cl way (nI i)) else false)
    else false
def mt_b01 (b : Bool) : Int32 := if b = true then 1 else 0
theorem mt_kp1 {post : Int32 → Prop} {t p w q z : Nat → Int32} {way rows cols : Int32} : ∀ (d i : Nat) (last : Int32), i + d = 4 → post (mt_b01 (mt_kp way rows cols d i last)) → wY_keeps_6 post way rows cols t p w q z (d + 1) last (nI i) := by
  intro d
  induction d with
  | zero =>
    intro i last hi h
    cases (hi : i = 4)
    exact br_t mt_4ge h
  | succ d ih =>
    intro i last hi h
    refine br_f (mt_4lt (by omega)) (mt_clY ?_)
    unfold mt_kp at h
    by_cases e1 : ((rows >>> (nI i &&& 31)) &&& 1) = 1
    · have b1 : mt_bit rows (nI i) = true := decide_eq_true e1
      rw [b1] at h
      refine br_t e1 ?_
      by_cases e2 : ((cols >>> (mt_cl way (nI i) &&& 31)) &&& 1) = 1
      · have b2 : mt_bit cols (mt_cl way (nI i)) = true := decide_eq_true e2
        rw [b2, if_pos rfl, if_pos rfl] at h
        exact br_t e2 (br_t rfl (br_f (by decide) (br_f (by decide) (nm_r (nI_1 i) (ih (i + 1) last (by omega) h)))))
      · have b2 : mt_bit cols (mt_cl way (nI i)) = false := decide_eq_false e2
        rw [b2, if_neg (by decide)] at h
        exact br_f e2 (br_f (by decide) h)
    · have b1 : mt_bit rows (nI i) = false := decide_eq_false e1
      rw [b1] at h
      refine br_f e1 ?_
      by_cases e2 : ((cols >>> (mt_cl way (nI i) &&& 31)) &&& 1) = 1
      · have b2 : mt_bit cols (mt_cl way (nI i)) = true := decide_eq_true e2
        rw [b2, if_neg (by decide)] at h
        exact br_t e2 (br_f (by decide) h)
      · have b2 : mt_bit cols (mt_cl way (nI i)) = false := decide_eq_false e2
        rw [b2, if_pos rfl, if_neg (by decide)] at h
        refine br_f e2 (br_t rfl (br_t rfl ?_))
        by_cases e3 : last ≤ mt_cl way (nI i)
        · rw [if_pos e3] at h
          exact br_t e3 (br_t rfl (nm_r (nI_1 i) (ih (i + 1) _ (by omega) h)))
        · rw [if_neg e3] at h
          exact br_f e3 h
theorem mt_kpY {post : Int32 → Prop} {t p w q z : Nat → Int32} {way rows cols : Int32} (h : post (mt_b01 (mt_kp way rows cols 4 0 (-1)))) : wpY_keeps post (t, p, w, q, z) way rows cols := by
  unfold wpY_keeps
  dsimp only
  exact ⟨5, mt_kp1 4 0 (-1) rfl h⟩
/-- the places of a way within the rows, from row i on -/
def mt_il (way rows : Int32) : Nat → Nat → List Nat
  | 0, _ => []
  | d + 1, i => if mt_bit rows (nI i) = true then (4 * i + (mt_cl way (nI i)).toNatClampNeg) :: mt_il way rows d (i + 1) else mt_il way rows d (i + 1)
def mt_pf (w : Nat → Int32) (x : Int32) (l : List Nat) : Int32 := l.foldl (fun p j => p * w j) x
theorem mt_mn1 {post : Int32 → Prop} {J : Int32 → Int32 → Prop} {t p w q z : Nat → Int32} {way rows cols x3 : Int32} {k : Nat} : ∀ (d i : Nat) (x : Int32), i + d = 4 → J (x3 + mt_pf w x (mt_il way rows d i)) (nI (k + 1)) → wY_minor_44 post J rows cols x3 (nI k) way t p w q z (d + 1) x (nI i) := by
  intro d
  induction d with
  | zero =>
    intro i x hi h
    cases (hi : i = 4)
    exact br_t mt_4ge (nm_e (nm_r (nI_1 k) h))
  | succ d ih =>
    intro i x hi h
    refine br_f (mt_4lt (by omega)) ?_
    unfold mt_il at h
    by_cases e1 : ((rows >>> (nI i &&& 31)) &&& 1) = 1
    · rw [if_pos (show mt_bit rows (nI i) = true from decide_eq_true e1)] at h
      refine br_t e1 (mt_clY ?_)
      obtain ⟨m, hm, em⟩ := mt_clN way (nI i)
      rw [em, nI_clamp (n := m) (by omega)] at h
      rw [em, mt_iy, nI_clamp (n := 4 * i + m) (by omega)]
      exact ⟨vp_in_nI (by omega) (by decide), nm_e (nm_r (nI_1 i) (ih (i + 1) _ (by omega) h))⟩
    · rw [if_neg (show ¬ mt_bit rows (nI i) = true from fun g => e1 (of_decide_eq_true g))] at h
      exact br_f e1 (nm_r (nI_1 i) (ih (i + 1) x (by omega) h))
def mt_mn (w : Nat → Int32) (rows cols : Int32) : Nat → Int32
  | 0 => 0
  | k + 1 => if mt_kp (mt_way k) rows cols 4 0 (-1) = true then mt_mn w rows cols k + mt_pf w (mt_sgw (mt_way k) rows) (mt_il (mt_way k) rows 4 0) else mt_mn w rows cols k
theorem mt_mn2 {post : Int32 → Prop} {t p w q z : Nat → Int32} {rows cols : Int32} (hz : ∀ j, j < 24 → z j = mt_way j) (h : post (mt_mn w rows cols 24)) : ∀ d k : Nat, k + d = 24 → wY_minor_5 post rows cols t p w q z (d + 1) (mt_mn w rows cols k) (nI k) := by
  intro d
  induction d with
  | zero =>
    intro k hk
    cases (hk : k = 24)
    exact br_t (by decide) h
  | succ d ih =>
    intro k hk
    have g := ih (k + 1) (by omega)
    refine br_f (nI_ge (b := 24) (by omega) (by decide)) ⟨vp_in_nI (by omega) (by decide), nm_r (e' := mt_way k) (by rw [nI_clamp (n := k) (by omega)]; exact hz k (by omega)) (mt_kpY ?_)⟩
    unfold mt_mn at g
    by_cases e : mt_kp (mt_way k) rows cols 4 0 (-1) = true
    · rw [if_pos e] at g
      rw [e]
      exact br_f (by decide) (mt_sgY ⟨5, mt_mn1 4 0 _ rfl g⟩)
    · rw [if_neg e] at g
      rw [Bool.eq_false_iff.mpr e]
      exact br_t rfl (nm_r (nI_1 k) g)
theorem mt_mnY {post : Int32 → Prop} {t p w q z : Nat → Int32} {rows cols : Int32} (hz : ∀ j, j < 24 → z j = mt_way j) (h : post (mt_mn w rows cols 24)) : wpY_minor post (t, p, w, q, z) rows cols := by
  unfold wpY_minor
  dsimp only
  exact ⟨25, mt_mn2 hz h 24 0 rfl⟩
/-- the kept ways as a closed list -/
def mt_ls (rows cols : Int32) : Nat → List (Int32 × List Nat)
  | 0 => []
  | k + 1 => if mt_kp (mt_way k) rows cols 4 0 (-1) = true then mt_ls rows cols k ++ [(mt_sgw (mt_way k) rows, mt_il (mt_way k) rows 4 0)] else mt_ls rows cols k
def mt_lf (w : Nat → Int32) (l : List (Int32 × List Nat)) : Int32 := l.foldl (fun s e => s + mt_pf w e.1 e.2) 0
theorem mt_mnL (w : Nat → Int32) (rows cols : Int32) : ∀ k, mt_mn w rows cols k = mt_lf w (mt_ls rows cols k) := by
  intro k
  induction k with
  | zero => rfl
  | succ k ih =>
    unfold mt_mn mt_ls
    by_cases e : mt_kp (mt_way k) rows cols 4 0 (-1) = true
    · rw [if_pos e, if_pos e, ih]
      unfold mt_lf
      rw [List.foldl_append]
      rfl
    · rw [if_neg e, if_neg e, ih]
/-! the closed lists -/
theorem mt_t1 : ∀ r, r < 4 → ∀ c, c < 4 → mt_ls (nI (2 ^ r)) (nI (2 ^ c)) 24 = [(1, [4 * r + c])] := by decide +kernel
theorem mt_t2f : ∀ a b c d : Fin 4, a.val < b.val → c.val < d.val → mt_ls (nI (2 ^ a.val + 2 ^ b.val)) (nI (2 ^ c.val + 2 ^ d.val)) 24 = [(-1, [4 * a.val + d.val, 4 * b.val + c.val]), (1, [4 * a.val + c.val, 4 * b.val + d.val])] := by decide +kernel
theorem mt_t2 {a b c d : Nat} (ha : a < b) (hb : b < 4) (hc : c < d) (hd : d < 4) : mt_ls (nI (2 ^ a + 2 ^ b)) (nI (2 ^ c + 2 ^ d)) 24 = [(-1, [4 * a + d, 4 * b + c]), (1, [4 * a + c, 4 * b + d])] := mt_t2f ⟨a, by omega⟩ ⟨b, hb⟩ ⟨c, by omega⟩ ⟨d, hd⟩ ha hc
theorem mt_t3 : ∀ r, r < 4 → ∀ c, c < 4 → mt_ls (nI (15 - 2 ^ r)) (nI (15 - 2 ^ c)) 24 = [(-1, [4 * mt_i0 r + mt_i2 c, 4 * mt_i1 r + mt_i1 c, 4 * mt_i2 r + mt_i0 c]), (1, [4 * mt_i0 r + mt_i1 c, 4 * mt_i1 r + mt_i2 c, 4 * mt_i2 r + mt_i0 c]), (1, [4 * mt_i0 r + mt_i2 c, 4 * mt_i1 r + mt_i0 c, 4 * mt_i2 r + mt_i1 c]), (-1, [4 * mt_i0 r + mt_i0 c, 4 * mt_i1 r + mt_i2 c, 4 * mt_i2 r + mt_i1 c]), (-1, [4 * mt_i0 r + mt_i1 c, 4 * mt_i1 r + mt_i0 c, 4 * mt_i2 r + mt_i2 c]), (1, [4 * mt_i0 r + mt_i0 c, 4 * mt_i1 r + mt_i1 c, 4 * mt_i2 r + mt_i2 c])] := by decide +kernel
theorem mt_t4 : mt_ls 15 15 24 = [(1, [3, 6, 9, 12]), (-1, [2, 7, 9, 12]), (-1, [3, 5, 10, 12]), (1, [1, 7, 10, 12]), (1, [2, 5, 11, 12]), (-1, [1, 6, 11, 12]), (-1, [3, 6, 8, 13]), (1, [2, 7, 8, 13]), (1, [3, 4, 10, 13]), (-1, [0, 7, 10, 13]), (-1, [2, 4, 11, 13]), (1, [0, 6, 11, 13]), (1, [3, 5, 8, 14]), (-1, [1, 7, 8, 14]), (-1, [3, 4, 9, 14]), (1, [0, 7, 9, 14]), (1, [1, 4, 11, 14]), (-1, [0, 5, 11, 14]), (-1, [2, 5, 8, 15]), (1, [1, 6, 8, 15]), (1, [2, 4, 9, 15]), (-1, [0, 6, 9, 15]), (-1, [1, 4, 10, 15]), (1, [0, 5, 10, 15])] := by decide +kernel
