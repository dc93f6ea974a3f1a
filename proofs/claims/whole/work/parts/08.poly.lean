/-! the coefficients are the component's sums -/
theorem mt_q1 (x0 x1 x2 x3 x4 x5 x6 x7 x8 x9 x10 x11 x12 x13 x14 x15 : Int32) : 0 + -(1 * (0 * x6 * x9 * x12 + x3 * 0 * x9 * x12 + x3 * x6 * 0 * x12 + x3 * x6 * x9 * 0)) + -(-1 * (0 * x7 * x9 * x12 + x2 * 0 * x9 * x12 + x2 * x7 * 0 * x12 + x2 * x7 * x9 * 0)) + -(-1 * (0 * x5 * x10 * x12 + x3 * 1 * x10 * x12 + x3 * x5 * 1 * x12 + x3 * x5 * x10 * 0)) + -(1 * (0 * x7 * x10 * x12 + x1 * 0 * x10 * x12 + x1 * x7 * 1 * x12 + x1 * x7 * x10 * 0)) + -(1 * (0 * x5 * x11 * x12 + x2 * 1 * x11 * x12 + x2 * x5 * 0 * x12 + x2 * x5 * x11 * 0)) + -(-1 * (0 * x6 * x11 * x12 + x1 * 0 * x11 * x12 + x1 * x6 * 0 * x12 + x1 * x6 * x11 * 0)) + -(-1 * (0 * x6 * x8 * x13 + x3 * 0 * x8 * x13 + x3 * x6 * 0 * x13 + x3 * x6 * x8 * 0)) + -(1 * (0 * x7 * x8 * x13 + x2 * 0 * x8 * x13 + x2 * x7 * 0 * x13 + x2 * x7 * x8 * 0)) + -(1 * (0 * x4 * x10 * x13 + x3 * 0 * x10 * x13 + x3 * x4 * 1 * x13 + x3 * x4 * x10 * 0)) + -(-1 * (1 * x7 * x10 * x13 + x0 * 0 * x10 * x13 + x0 * x7 * 1 * x13 + x0 * x7 * x10 * 0)) + -(-1 * (0 * x4 * x11 * x13 + x2 * 0 * x11 * x13 + x2 * x4 * 0 * x13 + x2 * x4 * x11 * 0)) + -(1 * (1 * x6 * x11 * x13 + x0 * 0 * x11 * x13 + x0 * x6 * 0 * x13 + x0 * x6 * x11 * 0)) + -(1 * (0 * x5 * x8 * x14 + x3 * 1 * x8 * x14 + x3 * x5 * 0 * x14 + x3 * x5 * x8 * 0)) + -(-1 * (0 * x7 * x8 * x14 + x1 * 0 * x8 * x14 + x1 * x7 * 0 * x14 + x1 * x7 * x8 * 0)) + -(-1 * (0 * x4 * x9 * x14 + x3 * 0 * x9 * x14 + x3 * x4 * 0 * x14 + x3 * x4 * x9 * 0)) + -(1 * (1 * x7 * x9 * x14 + x0 * 0 * x9 * x14 + x0 * x7 * 0 * x14 + x0 * x7 * x9 * 0)) + -(1 * (0 * x4 * x11 * x14 + x1 * 0 * x11 * x14 + x1 * x4 * 0 * x14 + x1 * x4 * x11 * 0)) + -(-1 * (1 * x5 * x11 * x14 + x0 * 1 * x11 * x14 + x0 * x5 * 0 * x14 + x0 * x5 * x11 * 0)) + -(-1 * (0 * x5 * x8 * x15 + x2 * 1 * x8 * x15 + x2 * x5 * 0 * x15 + x2 * x5 * x8 * 1)) + -(1 * (0 * x6 * x8 * x15 + x1 * 0 * x8 * x15 + x1 * x6 * 0 * x15 + x1 * x6 * x8 * 1)) + -(1 * (0 * x4 * x9 * x15 + x2 * 0 * x9 * x15 + x2 * x4 * 0 * x15 + x2 * x4 * x9 * 1)) + -(-1 * (1 * x6 * x9 * x15 + x0 * 0 * x9 * x15 + x0 * x6 * 0 * x15 + x0 * x6 * x9 * 1)) + -(-1 * (0 * x4 * x10 * x15 + x1 * 0 * x10 * x15 + x1 * x4 * 1 * x15 + x1 * x4 * x10 * 1)) + -(1 * (1 * x5 * x10 * x15 + x0 * 1 * x10 * x15 + x0 * x5 * 1 * x15 + x0 * x5 * x10 * 1)) = -(0 + (x5 * (x10 * x15 - x11 * x14) - x6 * (x9 * x15 - x11 * x13) + x7 * (x9 * x14 - x10 * x13)) + (x0 * (x10 * x15 - x11 * x14) - x2 * (x8 * x15 - x11 * x12) + x3 * (x8 * x14 - x10 * x12)) + (x0 * (x5 * x15 - x7 * x13) - x1 * (x4 * x15 - x7 * x12) + x3 * (x4 * x13 - x5 * x12)) + (x0 * (x5 * x10 - x6 * x9) - x1 * (x4 * x10 - x6 * x8) + x2 * (x4 * x9 - x5 * x8))) := by grind
theorem mt_q2 (x0 x1 x2 x3 x4 x5 x6 x7 x8 x9 x10 x11 x12 x13 x14 x15 : Int32) : 0 + 1 * (0 * 0 * x9 * x12 + 0 * x6 * 0 * x12 + 0 * x6 * x9 * 0 + x3 * 0 * 0 * x12 + x3 * 0 * x9 * 0 + x3 * x6 * 0 * 0) + -1 * (0 * 0 * x9 * x12 + 0 * x7 * 0 * x12 + 0 * x7 * x9 * 0 + x2 * 0 * 0 * x12 + x2 * 0 * x9 * 0 + x2 * x7 * 0 * 0) + -1 * (0 * 1 * x10 * x12 + 0 * x5 * 1 * x12 + 0 * x5 * x10 * 0 + x3 * 1 * 1 * x12 + x3 * 1 * x10 * 0 + x3 * x5 * 1 * 0) + 1 * (0 * 0 * x10 * x12 + 0 * x7 * 1 * x12 + 0 * x7 * x10 * 0 + x1 * 0 * 1 * x12 + x1 * 0 * x10 * 0 + x1 * x7 * 1 * 0) + 1 * (0 * 1 * x11 * x12 + 0 * x5 * 0 * x12 + 0 * x5 * x11 * 0 + x2 * 1 * 0 * x12 + x2 * 1 * x11 * 0 + x2 * x5 * 0 * 0) + -1 * (0 * 0 * x11 * x12 + 0 * x6 * 0 * x12 + 0 * x6 * x11 * 0 + x1 * 0 * 0 * x12 + x1 * 0 * x11 * 0 + x1 * x6 * 0 * 0) + -1 * (0 * 0 * x8 * x13 + 0 * x6 * 0 * x13 + 0 * x6 * x8 * 0 + x3 * 0 * 0 * x13 + x3 * 0 * x8 * 0 + x3 * x6 * 0 * 0) + 1 * (0 * 0 * x8 * x13 + 0 * x7 * 0 * x13 + 0 * x7 * x8 * 0 + x2 * 0 * 0 * x13 + x2 * 0 * x8 * 0 + x2 * x7 * 0 * 0) + 1 * (0 * 0 * x10 * x13 + 0 * x4 * 1 * x13 + 0 * x4 * x10 * 0 + x3 * 0 * 1 * x13 + x3 * 0 * x10 * 0 + x3 * x4 * 1 * 0) + -1 * (1 * 0 * x10 * x13 + 1 * x7 * 1 * x13 + 1 * x7 * x10 * 0 + x0 * 0 * 1 * x13 + x0 * 0 * x10 * 0 + x0 * x7 * 1 * 0) + -1 * (0 * 0 * x11 * x13 + 0 * x4 * 0 * x13 + 0 * x4 * x11 * 0 + x2 * 0 * 0 * x13 + x2 * 0 * x11 * 0 + x2 * x4 * 0 * 0) + 1 * (1 * 0 * x11 * x13 + 1 * x6 * 0 * x13 + 1 * x6 * x11 * 0 + x0 * 0 * 0 * x13 + x0 * 0 * x11 * 0 + x0 * x6 * 0 * 0) + 1 * (0 * 1 * x8 * x14 + 0 * x5 * 0 * x14 + 0 * x5 * x8 * 0 + x3 * 1 * 0 * x14 + x3 * 1 * x8 * 0 + x3 * x5 * 0 * 0) + -1 * (0 * 0 * x8 * x14 + 0 * x7 * 0 * x14 + 0 * x7 * x8 * 0 + x1 * 0 * 0 * x14 + x1 * 0 * x8 * 0 + x1 * x7 * 0 * 0) + -1 * (0 * 0 * x9 * x14 + 0 * x4 * 0 * x14 + 0 * x4 * x9 * 0 + x3 * 0 * 0 * x14 + x3 * 0 * x9 * 0 + x3 * x4 * 0 * 0) + 1 * (1 * 0 * x9 * x14 + 1 * x7 * 0 * x14 + 1 * x7 * x9 * 0 + x0 * 0 * 0 * x14 + x0 * 0 * x9 * 0 + x0 * x7 * 0 * 0) + 1 * (0 * 0 * x11 * x14 + 0 * x4 * 0 * x14 + 0 * x4 * x11 * 0 + x1 * 0 * 0 * x14 + x1 * 0 * x11 * 0 + x1 * x4 * 0 * 0) + -1 * (1 * 1 * x11 * x14 + 1 * x5 * 0 * x14 + 1 * x5 * x11 * 0 + x0 * 1 * 0 * x14 + x0 * 1 * x11 * 0 + x0 * x5 * 0 * 0) + -1 * (0 * 1 * x8 * x15 + 0 * x5 * 0 * x15 + 0 * x5 * x8 * 1 + x2 * 1 * 0 * x15 + x2 * 1 * x8 * 1 + x2 * x5 * 0 * 1) + 1 * (0 * 0 * x8 * x15 + 0 * x6 * 0 * x15 + 0 * x6 * x8 * 1 + x1 * 0 * 0 * x15 + x1 * 0 * x8 * 1 + x1 * x6 * 0 * 1) + 1 * (0 * 0 * x9 * x15 + 0 * x4 * 0 * x15 + 0 * x4 * x9 * 1 + x2 * 0 * 0 * x15 + x2 * 0 * x9 * 1 + x2 * x4 * 0 * 1) + -1 * (1 * 0 * x9 * x15 + 1 * x6 * 0 * x15 + 1 * x6 * x9 * 1 + x0 * 0 * 0 * x15 + x0 * 0 * x9 * 1 + x0 * x6 * 0 * 1) + -1 * (0 * 0 * x10 * x15 + 0 * x4 * 1 * x15 + 0 * x4 * x10 * 1 + x1 * 0 * 1 * x15 + x1 * 0 * x10 * 1 + x1 * x4 * 1 * 1) + 1 * (1 * 1 * x10 * x15 + 1 * x5 * 1 * x15 + 1 * x5 * x10 * 1 + x0 * 1 * 1 * x15 + x0 * 1 * x10 * 1 + x0 * x5 * 1 * 1) = 0 + (x0 * x5 - x1 * x4) + (x0 * x10 - x2 * x8) + (x0 * x15 - x3 * x12) + (x5 * x10 - x6 * x9) + (x5 * x15 - x7 * x13) + (x10 * x15 - x11 * x14) := by grind
theorem mt_q3 (x0 x1 x2 x3 x4 x5 x6 x7 x8 x9 x10 x11 x12 x13 x14 x15 : Int32) : 0 + -(1 * (0 * 0 * 0 * x12 + 0 * 0 * x9 * 0 + 0 * x6 * 0 * 0 + x3 * 0 * 0 * 0)) + -(-1 * (0 * 0 * 0 * x12 + 0 * 0 * x9 * 0 + 0 * x7 * 0 * 0 + x2 * 0 * 0 * 0)) + -(-1 * (0 * 1 * 1 * x12 + 0 * 1 * x10 * 0 + 0 * x5 * 1 * 0 + x3 * 1 * 1 * 0)) + -(1 * (0 * 0 * 1 * x12 + 0 * 0 * x10 * 0 + 0 * x7 * 1 * 0 + x1 * 0 * 1 * 0)) + -(1 * (0 * 1 * 0 * x12 + 0 * 1 * x11 * 0 + 0 * x5 * 0 * 0 + x2 * 1 * 0 * 0)) + -(-1 * (0 * 0 * 0 * x12 + 0 * 0 * x11 * 0 + 0 * x6 * 0 * 0 + x1 * 0 * 0 * 0)) + -(-1 * (0 * 0 * 0 * x13 + 0 * 0 * x8 * 0 + 0 * x6 * 0 * 0 + x3 * 0 * 0 * 0)) + -(1 * (0 * 0 * 0 * x13 + 0 * 0 * x8 * 0 + 0 * x7 * 0 * 0 + x2 * 0 * 0 * 0)) + -(1 * (0 * 0 * 1 * x13 + 0 * 0 * x10 * 0 + 0 * x4 * 1 * 0 + x3 * 0 * 1 * 0)) + -(-1 * (1 * 0 * 1 * x13 + 1 * 0 * x10 * 0 + 1 * x7 * 1 * 0 + x0 * 0 * 1 * 0)) + -(-1 * (0 * 0 * 0 * x13 + 0 * 0 * x11 * 0 + 0 * x4 * 0 * 0 + x2 * 0 * 0 * 0)) + -(1 * (1 * 0 * 0 * x13 + 1 * 0 * x11 * 0 + 1 * x6 * 0 * 0 + x0 * 0 * 0 * 0)) + -(1 * (0 * 1 * 0 * x14 + 0 * 1 * x8 * 0 + 0 * x5 * 0 * 0 + x3 * 1 * 0 * 0)) + -(-1 * (0 * 0 * 0 * x14 + 0 * 0 * x8 * 0 + 0 * x7 * 0 * 0 + x1 * 0 * 0 * 0)) + -(-1 * (0 * 0 * 0 * x14 + 0 * 0 * x9 * 0 + 0 * x4 * 0 * 0 + x3 * 0 * 0 * 0)) + -(1 * (1 * 0 * 0 * x14 + 1 * 0 * x9 * 0 + 1 * x7 * 0 * 0 + x0 * 0 * 0 * 0)) + -(1 * (0 * 0 * 0 * x14 + 0 * 0 * x11 * 0 + 0 * x4 * 0 * 0 + x1 * 0 * 0 * 0)) + -(-1 * (1 * 1 * 0 * x14 + 1 * 1 * x11 * 0 + 1 * x5 * 0 * 0 + x0 * 1 * 0 * 0)) + -(-1 * (0 * 1 * 0 * x15 + 0 * 1 * x8 * 1 + 0 * x5 * 0 * 1 + x2 * 1 * 0 * 1)) + -(1 * (0 * 0 * 0 * x15 + 0 * 0 * x8 * 1 + 0 * x6 * 0 * 1 + x1 * 0 * 0 * 1)) + -(1 * (0 * 0 * 0 * x15 + 0 * 0 * x9 * 1 + 0 * x4 * 0 * 1 + x2 * 0 * 0 * 1)) + -(-1 * (1 * 0 * 0 * x15 + 1 * 0 * x9 * 1 + 1 * x6 * 0 * 1 + x0 * 0 * 0 * 1)) + -(-1 * (0 * 0 * 1 * x15 + 0 * 0 * x10 * 1 + 0 * x4 * 1 * 1 + x1 * 0 * 1 * 1)) + -(1 * (1 * 1 * 1 * x15 + 1 * 1 * x10 * 1 + 1 * x5 * 1 * 1 + x0 * 1 * 1 * 1)) = -(0 + x0 + x5 + x10 + x15) := by grind
theorem mt_q4 : 0 + 1 * 0 * 0 * 0 * 0 + -1 * 0 * 0 * 0 * 0 + -1 * 0 * 1 * 1 * 0 + 1 * 0 * 0 * 1 * 0 + 1 * 0 * 1 * 0 * 0 + -1 * 0 * 0 * 0 * 0 + -1 * 0 * 0 * 0 * 0 + 1 * 0 * 0 * 0 * 0 + 1 * 0 * 0 * 1 * 0 + -1 * 1 * 0 * 1 * 0 + -1 * 0 * 0 * 0 * 0 + 1 * 1 * 0 * 0 * 0 + 1 * 0 * 1 * 0 * 0 + -1 * 0 * 0 * 0 * 0 + -1 * 0 * 0 * 0 * 0 + 1 * 1 * 0 * 0 * 0 + 1 * 0 * 0 * 0 * 0 + -1 * 1 * 1 * 0 * 0 + -1 * 0 * 1 * 0 * 1 + 1 * 0 * 0 * 0 * 1 + 1 * 0 * 0 * 0 * 1 + -1 * 1 * 0 * 0 * 1 + -1 * 0 * 0 * 1 * 1 + 1 * 1 * 1 * 1 * 1 = (1 : Int32) := by decide
theorem mt_e3E (w : Nat → Int32) : mt_e3 w = 0 + (w 5 * (w 10 * w 15 - w 11 * w 14) - w 6 * (w 9 * w 15 - w 11 * w 13) + w 7 * (w 9 * w 14 - w 10 * w 13)) + (w 0 * (w 10 * w 15 - w 11 * w 14) - w 2 * (w 8 * w 15 - w 11 * w 12) + w 3 * (w 8 * w 14 - w 10 * w 12)) + (w 0 * (w 5 * w 15 - w 7 * w 13) - w 1 * (w 4 * w 15 - w 7 * w 12) + w 3 * (w 4 * w 13 - w 5 * w 12)) + (w 0 * (w 5 * w 10 - w 6 * w 9) - w 1 * (w 4 * w 10 - w 6 * w 8) + w 2 * (w 4 * w 9 - w 5 * w 8)) := rfl
theorem mt_e2E (w : Nat → Int32) : mt_e2 w = 0 + (w 0 * w 5 - w 1 * w 4) + (w 0 * w 10 - w 2 * w 8) + (w 0 * w 15 - w 3 * w 12) + (w 5 * w 10 - w 6 * w 9) + (w 5 * w 15 - w 7 * w 13) + (w 10 * w 15 - w 11 * w 14) := rfl
theorem mt_c0 (w : Nat → Int32) : mt_cf w 0 24 = mt_det w := by
  rw [mt_cfL w (by decide), mt_wlE, mt_detE]
  exact mt_r4 (w 0) (w 1) (w 2) (w 3) (w 4) (w 5) (w 6) (w 7) (w 8) (w 9) (w 10) (w 11) (w 12) (w 13) (w 14) (w 15)
theorem mt_c1 (w : Nat → Int32) : mt_cf w 1 24 = -mt_e3 w := by
  rw [mt_cfL w (by decide), mt_wlE, mt_e3E]
  exact mt_q1 (w 0) (w 1) (w 2) (w 3) (w 4) (w 5) (w 6) (w 7) (w 8) (w 9) (w 10) (w 11) (w 12) (w 13) (w 14) (w 15)
theorem mt_c2' (w : Nat → Int32) : mt_cf w 2 24 = mt_e2 w := by
  rw [mt_cfL w (by decide), mt_wlE, mt_e2E]
  exact mt_q2 (w 0) (w 1) (w 2) (w 3) (w 4) (w 5) (w 6) (w 7) (w 8) (w 9) (w 10) (w 11) (w 12) (w 13) (w 14) (w 15)
theorem mt_c3' (w : Nat → Int32) : mt_cf w 3 24 = -mt_e1 w := by
  rw [mt_cfL w (by decide), mt_wlE]
  exact mt_q3 (w 0) (w 1) (w 2) (w 3) (w 4) (w 5) (w 6) (w 7) (w 8) (w 9) (w 10) (w 11) (w 12) (w 13) (w 14) (w 15)
theorem mt_c4 (w : Nat → Int32) : mt_cf w 4 24 = 1 := by
  rw [mt_cfL w (by decide), mt_wlE]
  exact mt_q4
theorem mt_qh (x0 x1 x2 x3 x4 x5 x6 x7 x8 x9 x10 x11 x12 x13 x14 x15 y : Int32) : ((((0 * y + 1) * y + -(0 + x0 + x5 + x10 + x15)) * y + (0 + (x0 * x5 - x1 * x4) + (x0 * x10 - x2 * x8) + (x0 * x15 - x3 * x12) + (x5 * x10 - x6 * x9) + (x5 * x15 - x7 * x13) + (x10 * x15 - x11 * x14))) * y + -(0 + (x5 * (x10 * x15 - x11 * x14) - x6 * (x9 * x15 - x11 * x13) + x7 * (x9 * x14 - x10 * x13)) + (x0 * (x10 * x15 - x11 * x14) - x2 * (x8 * x15 - x11 * x12) + x3 * (x8 * x14 - x10 * x12)) + (x0 * (x5 * x15 - x7 * x13) - x1 * (x4 * x15 - x7 * x12) + x3 * (x4 * x13 - x5 * x12)) + (x0 * (x5 * x10 - x6 * x9) - x1 * (x4 * x10 - x6 * x8) + x2 * (x4 * x9 - x5 * x8)))) * y + (0 + x0 * (x5 * (x10 * x15 - x11 * x14) - x6 * (x9 * x15 - x11 * x13) + x7 * (x9 * x14 - x10 * x13)) + x1 * -(x4 * (x10 * x15 - x11 * x14) - x6 * (x8 * x15 - x11 * x12) + x7 * (x8 * x14 - x10 * x12)) + x2 * (x4 * (x9 * x15 - x11 * x13) - x5 * (x8 * x15 - x11 * x12) + x7 * (x8 * x13 - x9 * x12)) + x3 * -(x4 * (x9 * x14 - x10 * x13) - x5 * (x8 * x14 - x10 * x12) + x6 * (x8 * x13 - x9 * x12))) = 0 + (x0 - y) * ((x5 - y) * ((x10 - y) * (x15 - y) - x11 * x14) - x6 * (x9 * (x15 - y) - x11 * x13) + x7 * (x9 * x14 - (x10 - y) * x13)) + x1 * -(x4 * ((x10 - y) * (x15 - y) - x11 * x14) - x6 * (x8 * (x15 - y) - x11 * x12) + x7 * (x8 * x14 - (x10 - y) * x12)) + x2 * (x4 * (x9 * (x15 - y) - x11 * x13) - (x5 - y) * (x8 * (x15 - y) - x11 * x12) + x7 * (x8 * x13 - x9 * x12)) + x3 * -(x4 * (x9 * x14 - (x10 - y) * x13) - (x5 - y) * (x8 * x14 - (x10 - y) * x12) + x6 * (x8 * x13 - x9 * x12)) := by grind
theorem mt_hoE (w : Nat → Int32) (y : Int32) : mt_ho w y = mt_det (mt_sh w y) := by
  unfold mt_ho
  rw [mt_c0, mt_c1, mt_c2', mt_c3', mt_c4, mt_e3E, mt_e2E, mt_detE, mt_detE]
  exact mt_qh (w 0) (w 1) (w 2) (w 3) (w 4) (w 5) (w 6) (w 7) (w 8) (w 9) (w 10) (w 11) (w 12) (w 13) (w 14) (w 15) y
theorem i_vc_coefficient {k : Nat} {u : SX} {v : SY} (I : i_Rel k u v) (hk : k + 4 ≤ 2048) (v1 : Int32) : wpX_coefficient (fun r => wpY_coefficient (fun r' v' => r' = r ∧ i_Rel (k + 4) u v') v v1) u v1 := by
  obtain ⟨t, s, p, q⟩ := u
  obtain ⟨t', p', w', q', z'⟩ := v
  obtain ⟨e, hw⟩ := I
  cases (e : t = t')
  unfold wpX_coefficient
  dsimp only
  by_cases h0 : v1 < 0
  · refine br_t h0 ?_
    unfold wpY_coefficient
    exact br_t h0 ⟨rfl, rfl, hw⟩
  · refine br_f h0 ?_
    by_cases h4 : 4 < v1
    · refine br_t h4 ?_
      unfold wpY_coefficient
      exact br_f h0 (br_f (Int32.not_le.mpr h4) ⟨rfl, rfl, hw⟩)
    · refine br_f h4 ?_
      obtain ⟨m, hm, rfl⟩ := nI_of2 (M := 4) (n := 4) (by decide) h0 (Int32.not_lt.mp h4)
      match m, hm with
      | 0, _ => exact br_t rfl (mt_tabled (mt_cfY (k := 0) (by decide) hw (fun q1 => ⟨mt_c0 t, rfl, hw⟩)))
      | 1, _ => exact br_f (by decide) (br_t rfl (mt_e3X (mt_cfY (k := 1) (by decide) hw (fun q1 => ⟨mt_c1 t, rfl, hw⟩))))
      | 2, _ => exact br_f (by decide) (br_f (by decide) (br_t rfl (mt_e2X (mt_cfY (k := 2) (by decide) hw (fun q1 => ⟨mt_c2' t, rfl, hw⟩)))))
      | 3, _ => exact br_f (by decide) (br_f (by decide) (br_f (by decide) (br_t rfl (mt_tablet (mt_cfY (k := 3) (by decide) hw (fun q1 => ⟨mt_c3' t, rfl, hw⟩))))))
      | 4, _ => exact br_f (by decide) (br_f (by decide) (br_f (by decide) (br_f (by decide) (br_t rfl (mt_cfY (k := 4) (by decide) hw (fun q1 => ⟨mt_c4 t, rfl, hw⟩))))))
theorem i_vc_valueAt {k : Nat} {u : SX} {v : SY} (I : i_Rel k u v) (hk : k + 4 ≤ 2048) (v1 : Int32) : wpX_valueAt (fun r u' => wpY_valueAt (fun r' v' => r' = r ∧ i_Rel (k + 4) u' v') v v1) u v1 := by
  obtain ⟨t, s, p, q⟩ := u
  obtain ⟨t', p', w', q', z'⟩ := v
  obtain ⟨e, hw⟩ := I
  cases (e : t = t')
  unfold wpX_valueAt wpY_valueAt
  dsimp only
  rcases mt_within v1 1000 with ⟨gx, gy⟩ | ⟨_, gx, gy⟩
  · exact gx _ (br_t rfl (gy _ _ ⟨rfl, rfl, hw⟩))
  · refine gx _ (br_f mt_n0 (mt_td (fun s1 h1 => mt_shiftedd (gy _ _ ⟨6, mt_hoY hw (fun q1 => ⟨?_, rfl, hw⟩)⟩))))
    rw [mt_hoE]
    exact (mt_cd h1).symm
/-! roots -/
def mt_ro (t : Nat → Int32) : Nat → Nat → Int32 → Int32
  | 0, _, c => c
  | d + 1, i, c => mt_ro t d (i + 1) (if mt_det (mt_sh t (nI i + -36)) = 0 then c + 1 else c)
theorem mt_r36 : ∀ i, i < 73 → ¬ (36 : Int32) < nI i + -36 := by decide +kernel
theorem mt_r1 (i : Nat) : nI i + -36 + 1 = nI (i + 1) + -36 := by rw [← nI_1]; grind
theorem mt_roX {post : Int32 → SX → Prop} {t p q : Nat → Int32} : ∀ (d i : Nat) (c : Int32) (s : Nat → Int32), i + d = 73 → (∀ s, post (mt_ro t d i c) (t, s, p, q)) → wX_roots_5 post (d + 1) c (nI i + -36) t s p q := by
  intro d
  induction d with
  | zero =>
    intro i c s hi h
    cases (hi : i = 73)
    exact br_t (by decide) (h s)
  | succ d ih =>
    intro i c s hi h
    refine br_f (mt_r36 i (by omega)) (mt_td (fun s1 h1 => mt_shiftedd ?_))
    rw [mt_cd h1]
    unfold mt_ro at h
    by_cases e : mt_det (mt_sh t (nI i + -36)) = 0
    · rw [if_pos e] at h
      exact br_t e (nm_e (nm_r (mt_r1 i) (ih (i + 1) _ s1 (by omega) h)))
    · rw [if_neg e] at h
      exact br_f e (nm_r (mt_r1 i) (ih (i + 1) _ s1 (by omega) h))
theorem mt_roY {post : Int32 → SY → Prop} {t p q z : Nat → Int32} (hz : ∀ j, j < 24 → z j = mt_way j) : ∀ (d i : Nat) (c : Int32) (w : Nat → Int32), i + d = 73 → (∀ w, post (mt_ro t d i c) (t, p, w, q, z)) → wY_roots_5 post (d + 1) c (nI i + -36) t p w q z := by
  intro d
  induction d with
  | zero =>
    intro i c w hi h
    cases (hi : i = 73)
    exact br_t (by decide) (h w)
  | succ d ih =>
    intro i c w hi h
    refine br_f (mt_r36 i (by omega)) (mt_ld (fun w1 h1 => mt_mnY hz ?_))
    rw [mt_M4, mt_cd h1]
    unfold mt_ro at h
    by_cases e : mt_det (mt_sh t (nI i + -36)) = 0
    · rw [if_pos e] at h
      exact br_t e (nm_e (nm_r (mt_r1 i) (ih (i + 1) _ w1 (by omega) h)))
    · rw [if_neg e] at h
      exact br_f e (nm_r (mt_r1 i) (ih (i + 1) _ w1 (by omega) h))
theorem i_vc_roots {k : Nat} {u : SX} {v : SY} (I : i_Rel k u v) (hk : k + 4 ≤ 2048) : wpX_roots (fun r u' => wpY_roots (fun r' v' => r' = r ∧ i_Rel (k + 4) u' v') v) u := by
  obtain ⟨t, s, p, q⟩ := u
  obtain ⟨t', p', w', q', z'⟩ := v
  obtain ⟨e, hw⟩ := I
  cases (e : t = t')
  unfold wpX_roots wpY_roots
  dsimp only
  have e0 : (-36 : Int32) = nI 0 + -36 := by decide
  rw [e0]
  exact ⟨74, mt_roX 73 0 0 s rfl (fun s1 => ⟨74, mt_roY hw 73 0 0 w' rfl (fun w1 => ⟨rfl, rfl, hw⟩)⟩)⟩
