theorem upd_at {f : Nat → Int32} {k : Nat} {x : Int32} : upd f k x k = x := if_pos rfl
theorem upd_ne {f : Nat → Int32} {k j : Nat} {x : Int32} (h : j ≠ k) : upd f k x j = f j := if_neg h
theorem ci_updL {f f2 : Nat → Int64} {k : Nat} {x : Int64} {lo hi : Int} (h : ∀ j : Nat, lo ≤ Int64.toInt (f j) ∧ Int64.toInt (f j) ≤ hi) (hx : lo ≤ x.toInt ∧ x.toInt ≤ hi) (e : vp_updL f k x = f2) : ∀ j : Nat, lo ≤ Int64.toInt (f2 j) ∧ Int64.toInt (f2 j) ≤ hi := by
  intro j
  rw [← e]
  unfold vp_updL
  split
  · exact hx
  · exact h j
theorem nnL (x : Int64) (h : x.toBitVec.toNat < 9223372036854775808) : x.toInt = (x.toBitVec.toNat : Int) := by
  show x.toBitVec.toInt = _
  rw [BitVec.toInt_eq_toNat_of_lt (by omega)]
theorem nnL2 (x : Int64) (h : 0 ≤ x.toInt) : x.toInt = (x.toBitVec.toNat : Int) := by
  have h9 : 0 ≤ x.toBitVec.toInt := h
  have h2 := x.toBitVec.isLt
  show x.toBitVec.toInt = _
  rw [BitVec.toInt_eq_toNat_cond] at h9 ⊢
  split at h9 <;> split <;> omega
theorem and_255L (x : Int64) : 0 ≤ (x &&& 255).toInt ∧ (x &&& 255).toInt ≤ 255 := by
  have h : (x &&& 255).toBitVec.toNat ≤ 255 := by
    rw [Int64.toBitVec_and, BitVec.toNat_and]
    exact Nat.and_le_right
  have h2 := nnL (x &&& 255) (by omega)
  omega
theorem shlL (a s : Int64) (k : Nat) (hs : (s.toBitVec.smod 64).toNat = k) : (a <<< s).toBitVec.toNat = a.toBitVec.toNat * 2 ^ k % 2 ^ 64 := by
  show (a.toBitVec <<< (s.toBitVec.smod 64).toNat).toNat = _
  rw [hs, BitVec.toNat_shiftLeft, Nat.shiftLeft_eq]
theorem shl_8L {x : Int64} (h0 : 0 ≤ x.toInt) (h1 : x.toInt < 18014398509481984) : (x <<< (Int32.toInt64 8 &&& 63)).toInt = x.toInt * 256 := by
  have e := nnL2 x h0
  have h2 := shlL x (Int32.toInt64 8 &&& 63) 8 (by decide)
  have h3 := nnL (x <<< (Int32.toInt64 8 &&& 63)) (by rw [h2]; omega)
  rw [h3, h2, e]
  omega
theorem or_8L {a b : Int64} (h0 : 0 ≤ a.toInt) (hm : a.toInt % 256 = 0) (hb0 : 0 ≤ b.toInt) (hb1 : b.toInt < 256) : (a ||| b).toInt = a.toInt + b.toInt := by
  have ea := nnL2 a h0
  have eb := nnL2 b hb0
  have ha := fb_rngL a
  obtain ⟨k, hk⟩ : ∃ k : Nat, a.toBitVec.toNat = 2 ^ 8 * k := ⟨a.toBitVec.toNat / 256, by omega⟩
  have h1 : (a ||| b).toBitVec.toNat = a.toBitVec.toNat + b.toBitVec.toNat := by
    rw [Int64.toBitVec_or, BitVec.toNat_or, hk]
    exact (Nat.two_pow_add_eq_or_of_lt (by omega) k).symm
  have h2 := nnL (a ||| b) (by rw [h1]; omega)
  rw [h2, h1, ea, eb]
  omega
theorem shrL (a s : Int64) (k : Nat) (hs : (s.toBitVec.smod 64).toNat = k) : (a >>> s).toInt = a.toInt >>> k := by
  show (a.toBitVec.sshiftRight (s.toBitVec.smod 64).toNat).toInt = _
  rw [hs, BitVec.toInt_sshiftRight]
  rfl
theorem shr_16L (a : Int64) : (a >>> (Int32.toInt64 16 &&& 63)).toInt = a.toInt / 65536 := by
  rw [shrL a _ 16 (by decide), Int.shiftRight_eq_div_pow]
  rfl
theorem shr_1L (a : Int64) : (a >>> (Int32.toInt64 1 &&& 63)).toInt = a.toInt / 2 := by
  rw [shrL a _ 1 (by decide), Int.shiftRight_eq_div_pow]
  rfl
theorem tm_facts (a b : Int) (hb : 0 < b) : (0 ≤ a → 0 ≤ a.tmod b) ∧ (a ≤ 0 → a.tmod b ≤ 0) ∧ -b < a.tmod b ∧ a.tmod b < b := by
  have h1 := Int.tmod_lt_of_pos a hb
  have h2 := Int.tmod_lt_of_pos (-a) hb
  rw [Int.neg_tmod] at h2
  refine ⟨fun h => Int.tmod_nonneg b h, fun h => ?_, by omega, h1⟩
  have h3 := Int.tmod_nonneg b (a := -a) (by omega)
  rw [Int.neg_tmod] at h3
  omega
theorem td_facts (a b : Int) (hb : 0 < b) : (0 ≤ a → 0 ≤ a.tdiv b ∧ a.tdiv b ≤ a) ∧ (a ≤ 0 → a.tdiv b ≤ 0 ∧ a ≤ a.tdiv b) := by
  refine ⟨fun h => ⟨Int.tdiv_nonneg h (by omega), Int.tdiv_le_self b h⟩, fun h => ?_⟩
  have h1 := Int.tdiv_nonneg (a := -a) (b := b) (by omega) (by omega)
  have h2 := Int.tdiv_le_self (a := -a) b (by omega)
  rw [Int.neg_tdiv] at h1 h2
  omega
theorem rem32 (a b : Int32) (hb : 0 < b.toInt) : (a - a / b * b).toInt = a.toInt.tmod b.toInt := by
  have hr := fb_rng a
  have e := Int.mul_tdiv_add_tmod a.toInt b.toInt
  have ht := tm_facts a.toInt b.toInt hb
  have hd := td_facts a.toInt b.toInt hb
  have q1 : 0 ≤ a.toInt → 0 ≤ b.toInt * a.toInt.tdiv b.toInt := fun h => Int.mul_nonneg (by omega) (hd.1 h).1
  have q2 : a.toInt ≤ 0 → b.toInt * a.toInt.tdiv b.toInt ≤ 0 := fun h => by
    have h9 := Int.mul_nonneg (a := b.toInt) (b := -a.toInt.tdiv b.toInt) (by omega) (by have := (hd.2 h).1; omega)
    rw [Int.mul_neg] at h9
    omega
  have h1 : (a / b).toInt = a.toInt.tdiv b.toInt := by rw [Int32.toInt_div, fb_bmod (by omega) (by omega)]
  have e2 : (a / b).toInt * b.toInt = b.toInt * a.toInt.tdiv b.toInt := by rw [h1, Int.mul_comm]
  have h2 : (a / b * b).toInt = (a / b).toInt * b.toInt := fb_mulI (by rw [e2]; omega) (by rw [e2]; omega)
  rw [fb_subI (by rw [h2, e2]; omega) (by rw [h2, e2]; omega), h2, e2]
  omega
theorem rem64 (a b : Int64) (hb : 0 < b.toInt) : (a - a / b * b).toInt = a.toInt.tmod b.toInt := by
  have hr := fb_rngL a
  have e := Int.mul_tdiv_add_tmod a.toInt b.toInt
  have ht := tm_facts a.toInt b.toInt hb
  have hd := td_facts a.toInt b.toInt hb
  have q1 : 0 ≤ a.toInt → 0 ≤ b.toInt * a.toInt.tdiv b.toInt := fun h => Int.mul_nonneg (by omega) (hd.1 h).1
  have q2 : a.toInt ≤ 0 → b.toInt * a.toInt.tdiv b.toInt ≤ 0 := fun h => by
    have h9 := Int.mul_nonneg (a := b.toInt) (b := -a.toInt.tdiv b.toInt) (by omega) (by have := (hd.2 h).1; omega)
    rw [Int.mul_neg] at h9
    omega
  have h1 : (a / b).toInt = a.toInt.tdiv b.toInt := by rw [Int64.toInt_div, fb_bmodL (by omega) (by omega)]
  have e2 : (a / b).toInt * b.toInt = b.toInt * a.toInt.tdiv b.toInt := by rw [h1, Int.mul_comm]
  have h2 : (a / b * b).toInt = (a / b).toInt * b.toInt := fb_mulL (by rw [e2]; omega) (by rw [e2]; omega)
  rw [fb_subL (by rw [h2, e2]; omega) (by rw [h2, e2]; omega), h2, e2]
  omega
theorem rem_vv (a : Int32) {b : Int32} (hb : 0 < b.toInt) : (0 ≤ a.toInt → 0 ≤ (a - a / b * b).toInt) ∧ -b.toInt < (a - a / b * b).toInt ∧ (a - a / b * b).toInt < b.toInt := by
  rw [rem32 a b hb]
  have h := tm_facts a.toInt b.toInt hb
  exact ⟨h.1, h.2.2.1, h.2.2.2⟩
theorem rem_vvL (a : Int64) {b : Int64} (hb : 0 < b.toInt) : (0 ≤ a.toInt → 0 ≤ (a - a / b * b).toInt) ∧ -b.toInt < (a - a / b * b).toInt ∧ (a - a / b * b).toInt < b.toInt := by
  rw [rem64 a b hb]
  have h := tm_facts a.toInt b.toInt hb
  exact ⟨h.1, h.2.2.1, h.2.2.2⟩
theorem rem_pn (a : Int32) {n : Nat} (h0 : 0 < n) (h1 : n < 2 ^ 31) : (0 ≤ a.toInt → (a - a / nI n * nI n).toInt = a.toInt % n) ∧ (a.toInt < 0 → (a - a / nI n * nI n).toInt ≤ 0) := by
  refine ⟨fun h => rem_nn h h0 h1, fun h => ?_⟩
  rw [rem32 a (nI n) (by rw [nI_toInt h1]; omega)]
  exact (tm_facts a.toInt (nI n).toInt (by rw [nI_toInt h1]; omega)).2.1 (by omega)
/-! numbers on the tape -/
def B8 (f : Nat → Int32) (a : Int) : Int := Int64.toInt (Int32.toInt64 (f a.toNat) &&& 255)
theorem b8_of {f : Nat → Int32} {i zz : Int32} {zl zm : Int64} {a : Int} (e1 : f (Int32.toNatClampNeg i) = zz) (e2 : Int32.toInt64 zz = zl) (e3 : zl &&& 255 = zm) (h : Int32.toInt i = a) : B8 f a = Int64.toInt zm := by
  subst e1 e2 e3 h
  rfl
def OFF (f : Nat → Int32) (a w k : Int) : Int := if w = 1 then B8 f (a + 1 * k) else if w = 2 then B8 f (a + 2 * k) * 256 + B8 f (a + 2 * k + 1) else if w = 3 then (B8 f (a + 3 * k) * 256 + B8 f (a + 3 * k + 1)) * 256 + B8 f (a + 3 * k + 2) else ((B8 f (a + 4 * k) * 256 + B8 f (a + 4 * k + 1)) * 256 + B8 f (a + 4 * k + 2)) * 256 + B8 f (a + 4 * k + 3)
theorem off_1 {f : Nat → Int32} {a w k : Int} (h : w = 1) : OFF f a w k = B8 f (a + 1 * k) := by subst h; rfl
theorem off_2 {f : Nat → Int32} {a w k : Int} (h : w = 2) : OFF f a w k = B8 f (a + 2 * k) * 256 + B8 f (a + 2 * k + 1) := by subst h; rfl
theorem off_3 {f : Nat → Int32} {a w k : Int} (h : w = 3) : OFF f a w k = (B8 f (a + 3 * k) * 256 + B8 f (a + 3 * k + 1)) * 256 + B8 f (a + 3 * k + 2) := by subst h; rfl
theorem off_4 {f : Nat → Int32} {a w k : Int} (h : w = 4) : OFF f a w k = ((B8 f (a + 4 * k) * 256 + B8 f (a + 4 * k + 1)) * 256 + B8 f (a + 4 * k + 2)) * 256 + B8 f (a + 4 * k + 3) := by subst h; rfl
theorem offk_1 {f : Nat → Int32} {a k t r : Int} (h : t = a + 1 * k) (hp : r = B8 f t) : OFF f a 1 k = r := by subst h hp; rfl
theorem offk_2 {f : Nat → Int32} {a k t r : Int} (h : t = a + 2 * k) (hp : r = B8 f t * 256 + B8 f (t + 1)) : OFF f a 2 k = r := by subst h hp; rfl
theorem offk_3 {f : Nat → Int32} {a k t r : Int} (h : t = a + 3 * k) (hp : r = (B8 f t * 256 + B8 f (t + 1)) * 256 + B8 f (t + 2)) : OFF f a 3 k = r := by subst h hp; rfl
theorem offk_4 {f : Nat → Int32} {a k t r : Int} (h : t = a + 4 * k) (hp : r = ((B8 f t * 256 + B8 f (t + 1)) * 256 + B8 f (t + 2)) * 256 + B8 f (t + 3)) : OFF f a 4 k = r := by subst h hp; rfl
def MON (f : Nat → Int32) (a w k : Int) : Prop := ∀ j : Int, 0 ≤ j → j + 1 < k → OFF f a w j ≤ OFF f a w (j + 1)
theorem mon_0 {f : Nat → Int32} {a w k : Int} (h : k ≤ 1) : MON f a w k := fun j h0 h1 => by omega
theorem mon_step {f : Nat → Int32} {a w k k2 : Int} (h : MON f a w k) (e : k2 = k + 1) (hs : k = 0 ∨ OFF f a w (k - 1) ≤ OFF f a w k) : MON f a w k2 := by
  intro j h0 h1
  by_cases hj : j + 1 < k
  · exact h j h0 hj
  · have e2 : j + 1 = k := by omega
    have e3 : j = k - 1 := by omega
    rcases hs with hs | hs
    · omega
    · rw [e2, e3]
      exact hs
def IX (f : Nat → Int32) (a w n d t : Int) : Prop := 1 ≤ w ∧ w ≤ 4 ∧ 1 ≤ n ∧ 0 ≤ a ∧ a + w * (n + 1) = d + 1 ∧ d + 1 ≤ t ∧ OFF f a w 0 = 1 ∧ (∀ j : Int, 0 ≤ j → j < n → OFF f a w j ≤ OFF f a w (j + 1)) ∧ d + OFF f a w n ≤ t
theorem ix_lin {f : Nat → Int32} {a w n d t : Int} (h : IX f a w n d t) : OFF f a w 0 = 1 ∧ 0 ≤ a ∧ a ≤ t ∧ 1 ≤ d ∧ d + 1 ≤ t ∧ 1 ≤ n ∧ n ≤ t ∧ 1 ≤ w ∧ w ≤ 4 := by
  obtain ⟨h1, h2, h3, h4, h5, h6, h7, _, _⟩ := h
  have h8 : w = 1 ∨ w = 2 ∨ w = 3 ∨ w = 4 := by omega
  rcases h8 with rfl | rfl | rfl | rfl <;> exact ⟨h7, by omega, by omega, by omega, by omega, by omega, by omega, by omega, by omega⟩
theorem ix_up {f : Nat → Int32} {a w n d t : Int} (h : IX f a w n d t) : ∀ (m : Nat) (k : Int), 0 ≤ k → k + m = n → OFF f a w k ≤ OFF f a w n := by
  intro m
  induction m with
  | zero => intro k _ e; rw [show k = n by omega]; exact Int.le_refl _
  | succ m ih =>
    intro k h0 e
    have h1 := h.2.2.2.2.2.2.2.1 k h0 (by omega)
    have h2 := ih (k + 1) (by omega) (by omega)
    omega
theorem ix_dn {f : Nat → Int32} {a w n d t : Int} (h : IX f a w n d t) : ∀ (m : Nat), (m : Int) ≤ n → 1 ≤ OFF f a w m := by
  intro m
  induction m with
  | zero => intro _; have h1 := h.2.2.2.2.2.2.1; show 1 ≤ OFF f a w 0; omega
  | succ m ih =>
    intro e
    have h1 := h.2.2.2.2.2.2.2.1 (m : Int) (by omega) (by omega)
    have h2 := ih (by omega)
    show 1 ≤ OFF f a w ((m : Int) + 1)
    omega
theorem ix_at {f : Nat → Int32} {a w n d t k : Int} (h : IX f a w n d t) (h0 : 0 ≤ k) (h1 : k < n) : 1 ≤ OFF f a w k ∧ OFF f a w k ≤ OFF f a w (k + 1) ∧ d + OFF f a w (k + 1) ≤ t := by
  have h2 := ix_dn h k.toNat (by omega)
  rw [show ((k.toNat : Nat) : Int) = k by omega] at h2
  have h3 := h.2.2.2.2.2.2.2.1 k h0 h1
  have h4 := ix_up h (n - (k + 1)).toNat (k + 1) (by omega) (by omega)
  have h5 := h.2.2.2.2.2.2.2.2
  exact ⟨h2, h3, by omega⟩
theorem ix_01 {f : Nat → Int32} {a w n d t : Int} (h : IX f a w n d t) : OFF f a w 0 = 1 ∧ 1 ≤ OFF f a w 1 ∧ d + OFF f a w 1 ≤ t := by
  have h1 := ix_at h (k := 0) (by omega) (by have := h.2.2.1; omega)
  have h2 : OFF f a w (0 + 1) = OFF f a w 1 := rfl
  have h3 := h.2.2.2.2.2.2.1
  omega

