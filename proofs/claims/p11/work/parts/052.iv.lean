theorem iv_wide {x a b c d : Int} (h : a ≤ x ∧ x ≤ b) (h1 : c ≤ a) (h2 : b ≤ d) : c ≤ x ∧ x ≤ d := ⟨Int.le_trans h1 h.1, Int.le_trans h.2 h2⟩
theorem iv_eq {x y a b : Int} (h : a ≤ x ∧ x ≤ b) (e : y = x) : a ≤ y ∧ y ≤ b := by subst e; exact h
theorem iv_add {x y z a b c d : Int} (hx : a ≤ x ∧ x ≤ b) (hy : c ≤ y ∧ y ≤ d) (e : z = x + y) : a + c ≤ z ∧ z ≤ b + d := by subst e; exact ⟨Int.add_le_add hx.1 hy.1, Int.add_le_add hx.2 hy.2⟩
theorem iv_sub {x y z a b c d : Int} (hx : a ≤ x ∧ x ≤ b) (hy : c ≤ y ∧ y ≤ d) (e : z = x - y) : a - d ≤ z ∧ z ≤ b - c := by subst e; exact ⟨Int.sub_le_sub hx.1 hy.2, Int.sub_le_sub hx.2 hy.1⟩
theorem fb_addIv {x y : Int32} {a b c d : Int} (hx : a ≤ x.toInt ∧ x.toInt ≤ b) (hy : c ≤ y.toInt ∧ y.toInt ≤ d) (h1 : -2147483648 ≤ a + c) (h2 : b + d < 2147483648) : (x + y).toInt = x.toInt + y.toInt := fb_addI (Int.le_trans h1 (Int.add_le_add hx.1 hy.1)) (Int.lt_of_le_of_lt (Int.add_le_add hx.2 hy.2) h2)
theorem fb_subIv {x y : Int32} {a b c d : Int} (hx : a ≤ x.toInt ∧ x.toInt ≤ b) (hy : c ≤ y.toInt ∧ y.toInt ≤ d) (h1 : -2147483648 ≤ a - d) (h2 : b - c < 2147483648) : (x - y).toInt = x.toInt - y.toInt := fb_subI (Int.le_trans h1 (Int.sub_le_sub hx.1 hy.2)) (Int.lt_of_le_of_lt (Int.sub_le_sub hx.2 hy.1) h2)
theorem fb_addLv {x y : Int64} {a b c d : Int} (hx : a ≤ x.toInt ∧ x.toInt ≤ b) (hy : c ≤ y.toInt ∧ y.toInt ≤ d) (h1 : -9223372036854775808 ≤ a + c) (h2 : b + d < 9223372036854775808) : (x + y).toInt = x.toInt + y.toInt := fb_addL (Int.le_trans h1 (Int.add_le_add hx.1 hy.1)) (Int.lt_of_le_of_lt (Int.add_le_add hx.2 hy.2) h2)
theorem fb_subLv {x y : Int64} {a b c d : Int} (hx : a ≤ x.toInt ∧ x.toInt ≤ b) (hy : c ≤ y.toInt ∧ y.toInt ≤ d) (h1 : -9223372036854775808 ≤ a - d) (h2 : b - c < 9223372036854775808) : (x - y).toInt = x.toInt - y.toInt := fb_subL (Int.le_trans h1 (Int.sub_le_sub hx.1 hy.2)) (Int.lt_of_le_of_lt (Int.sub_le_sub hx.2 hy.1) h2)
theorem iv_mul {x z a b c : Int} (hx : a ≤ x ∧ x ≤ b) (hc : 0 ≤ c) (e : z = x * c) : a * c ≤ z ∧ z ≤ b * c := by subst e; exact ⟨Int.mul_le_mul_of_nonneg_right hx.1 hc, Int.mul_le_mul_of_nonneg_right hx.2 hc⟩
theorem iv_mulr {x z a b c : Int} (hx : a ≤ x ∧ x ≤ b) (hc : 0 ≤ c) (e : z = c * x) : a * c ≤ z ∧ z ≤ b * c := iv_mul hx hc (by rw [e, Int.mul_comm])
theorem fb_mulIv {x y : Int32} {a b c : Int} (hx : a ≤ x.toInt ∧ x.toInt ≤ b) (hy : y.toInt = c) (hc : 0 ≤ c) (h1 : -2147483648 ≤ a * c) (h2 : b * c < 2147483648) : (x * y).toInt = x.toInt * y.toInt := by
  subst hy
  exact fb_mulI (Int.le_trans h1 (Int.mul_le_mul_of_nonneg_right hx.1 hc)) (Int.lt_of_le_of_lt (Int.mul_le_mul_of_nonneg_right hx.2 hc) h2)
theorem fb_mulIvr {x y : Int32} {a b c : Int} (hx : a ≤ x.toInt ∧ x.toInt ≤ b) (hy : y.toInt = c) (hc : 0 ≤ c) (h1 : -2147483648 ≤ a * c) (h2 : b * c < 2147483648) : (y * x).toInt = y.toInt * x.toInt := by rw [Int32.mul_comm, fb_mulIv hx hy hc h1 h2, Int.mul_comm]
theorem fb_mulLv {x y : Int64} {a b c : Int} (hx : a ≤ x.toInt ∧ x.toInt ≤ b) (hy : y.toInt = c) (hc : 0 ≤ c) (h1 : -9223372036854775808 ≤ a * c) (h2 : b * c < 9223372036854775808) : (x * y).toInt = x.toInt * y.toInt := by
  subst hy
  exact fb_mulL (Int.le_trans h1 (Int.mul_le_mul_of_nonneg_right hx.1 hc)) (Int.lt_of_le_of_lt (Int.mul_le_mul_of_nonneg_right hx.2 hc) h2)
theorem fb_mulLvr {x y : Int64} {a b c : Int} (hx : a ≤ x.toInt ∧ x.toInt ≤ b) (hy : y.toInt = c) (hc : 0 ≤ c) (h1 : -9223372036854775808 ≤ a * c) (h2 : b * c < 9223372036854775808) : (y * x).toInt = y.toInt * x.toInt := by rw [Int64.mul_comm, fb_mulLv hx hy hc h1 h2, Int.mul_comm]
