/-! the minors of the reference are the component's -/
theorem mt_r2 (a b c d : Int32) : 0 + -1 * b * c + 1 * a * d = a * d - b * c := by grind
theorem mt_r3 (a b c d e f g h i : Int32) : 0 + -1 * c * e * g + 1 * b * f * g + 1 * c * d * h + -1 * a * f * h + -1 * b * d * i + 1 * a * e * i = a * (e * i - f * h) - b * (d * i - f * g) + c * (d * h - e * g) := by grind
theorem mt_r4 (x0 x1 x2 x3 x4 x5 x6 x7 x8 x9 x10 x11 x12 x13 x14 x15 : Int32) : 0 + 1 * x3 * x6 * x9 * x12 + -1 * x2 * x7 * x9 * x12 + -1 * x3 * x5 * x10 * x12 + 1 * x1 * x7 * x10 * x12 + 1 * x2 * x5 * x11 * x12 + -1 * x1 * x6 * x11 * x12 + -1 * x3 * x6 * x8 * x13 + 1 * x2 * x7 * x8 * x13 + 1 * x3 * x4 * x10 * x13 + -1 * x0 * x7 * x10 * x13 + -1 * x2 * x4 * x11 * x13 + 1 * x0 * x6 * x11 * x13 + 1 * x3 * x5 * x8 * x14 + -1 * x1 * x7 * x8 * x14 + -1 * x3 * x4 * x9 * x14 + 1 * x0 * x7 * x9 * x14 + 1 * x1 * x4 * x11 * x14 + -1 * x0 * x5 * x11 * x14 + -1 * x2 * x5 * x8 * x15 + 1 * x1 * x6 * x8 * x15 + 1 * x2 * x4 * x9 * x15 + -1 * x0 * x6 * x9 * x15 + -1 * x1 * x4 * x10 * x15 + 1 * x0 * x5 * x10 * x15 = 0 + x0 * (x5 * (x10 * x15 - x11 * x14) - x6 * (x9 * x15 - x11 * x13) + x7 * (x9 * x14 - x10 * x13)) + x1 * -(x4 * (x10 * x15 - x11 * x14) - x6 * (x8 * x15 - x11 * x12) + x7 * (x8 * x14 - x10 * x12)) + x2 * (x4 * (x9 * x15 - x11 * x13) - x5 * (x8 * x15 - x11 * x12) + x7 * (x8 * x13 - x9 * x12)) + x3 * -(x4 * (x9 * x14 - x10 * x13) - x5 * (x8 * x14 - x10 * x12) + x6 * (x8 * x13 - x9 * x12)) := by grind
theorem mt_M1 (w : Nat → Int32) {r c : Nat} (hr : r < 4) (hc : c < 4) : mt_mn w (nI (2 ^ r)) (nI (2 ^ c)) 24 = w (4 * r + c) := by
  rw [mt_mnL, mt_t1 r hr c hc]
  show 0 + 1 * w (4 * r + c) = _
  rw [Int32.zero_add, Int32.one_mul]
theorem mt_M2 (w : Nat → Int32) {a b c d : Nat} (ha : a < b) (hb : b < 4) (hc : c < d) (hd : d < 4) : mt_mn w (nI (2 ^ a + 2 ^ b)) (nI (2 ^ c + 2 ^ d)) 24 = mt_m2 w a b c d := by
  rw [mt_mnL, mt_t2 ha hb hc hd]
  exact mt_r2 _ _ _ _
theorem mt_M3 (w : Nat → Int32) {r c : Nat} (hr : r < 4) (hc : c < 4) : mt_mn w (nI (15 - 2 ^ r)) (nI (15 - 2 ^ c)) 24 = mt_u3 w r c := by
  rw [mt_mnL, mt_t3 r hr c hc]
  exact mt_r3 _ _ _ _ _ _ _ _ _
theorem mt_detE (w : Nat → Int32) : mt_det w = 0 + w 0 * (w 5 * (w 10 * w 15 - w 11 * w 14) - w 6 * (w 9 * w 15 - w 11 * w 13) + w 7 * (w 9 * w 14 - w 10 * w 13)) + w 1 * -(w 4 * (w 10 * w 15 - w 11 * w 14) - w 6 * (w 8 * w 15 - w 11 * w 12) + w 7 * (w 8 * w 14 - w 10 * w 12)) + w 2 * (w 4 * (w 9 * w 15 - w 11 * w 13) - w 5 * (w 8 * w 15 - w 11 * w 12) + w 7 * (w 8 * w 13 - w 9 * w 12)) + w 3 * -(w 4 * (w 9 * w 14 - w 10 * w 13) - w 5 * (w 8 * w 14 - w 10 * w 12) + w 6 * (w 8 * w 13 - w 9 * w 12)) := rfl
theorem mt_M4 (w : Nat → Int32) : mt_mn w 15 15 24 = mt_det w := by
  rw [mt_mnL, mt_t4, mt_detE]
  exact mt_r4 (w 0) (w 1) (w 2) (w 3) (w 4) (w 5) (w 6) (w 7) (w 8) (w 9) (w 10) (w 11) (w 12) (w 13) (w 14) (w 15)
theorem i_vc_determinant {k : Nat} {u : SX} {v : SY} (I : i_Rel k u v) (hk : k + 4 ≤ 2048) : wpX_determinant (fun r => wpY_determinant (fun r' v' => r' = r ∧ i_Rel (k + 4) u v') v) u := by
  obtain ⟨t, s, p, q⟩ := u
  obtain ⟨t', p', w', q', z'⟩ := v
  obtain ⟨e, hw⟩ := I
  cases (e : t = t')
  unfold wpX_determinant wpY_determinant
  dsimp only
  refine mt_tabled (mt_ld (fun w hl => ?_))
  refine mt_mnY hw ?_
  exact ⟨by rw [mt_M4]; exact mt_cd (fun j hj => (hl j hj).trans (mt_sh0 t j)), rfl, hw⟩
theorem mt_msk : ∀ r, r < 4 → (15 : Int32) &&& (((1 : Int32) <<< (nI r &&& 31)) ^^^ (-1)) = nI (15 - 2 ^ r) := by decide
theorem i_vc_cofactor {k : Nat} {u : SX} {v : SY} (I : i_Rel k u v) (hk : k + 4 ≤ 2048) (v1 : Int32) (v2 : Int32) : wpX_cofactor (fun r => wpY_cofactor (fun r' v' => r' = r ∧ i_Rel (k + 4) u v') v v1 v2) u v1 v2 := by
  obtain ⟨t, s, p, q⟩ := u
  obtain ⟨t', p', w', q', z'⟩ := v
  obtain ⟨e, hw⟩ := I
  cases (e : t = t')
  unfold wpX_cofactor wpY_cofactor
  dsimp only
  rcases mt_place v1 v2 with ⟨hx, hy⟩ | ⟨i, j, hi, hj, rfl, rfl, hx, hy⟩
  · exact hx _ (br_t rfl (hy _ _ (br_f mt_n0 ⟨rfl, rfl, hw⟩)))
  · refine hx _ (br_f mt_n0 (mt_tables hi hj (hy _ _ (br_t rfl (mt_ld (fun w hl => ?_))))))
    rw [mt_msk i hi, mt_msk j hj]
    refine mt_mnY hw ⟨mt_n2, ?_⟩
    rw [mt_M3 w hi hj, mt_cu (v := t) (fun j hj => by rw [hl j hj, mt_sh0])]
    exact mt_sg (fun m => m = mt_s3 t i j ∧ i_Rel (k + 4) (t, s, p, q) (t, p', w, q', z')) hi hj ⟨rfl, rfl, hw⟩
