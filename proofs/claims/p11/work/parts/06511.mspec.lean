/-! the reference's bytes as the same function (p5) -/
theorem ext_255 (x : Int32) : Int64.toInt (Int32.toInt64 x &&& 255) = Int32.toInt (x &&& 255) := by
  have h1 : (Int32.toInt64 x &&& 255).toBitVec = (x &&& 255).toBitVec.setWidth 64 := by
    rw [Int64.toBitVec_and, Int32.toBitVec_and, Int32.toBitVec_toInt64]
    apply BitVec.eq_of_getLsbD_eq
    intro i hi
    have hm : ∀ i < 64, 8 ≤ i → (255 : Int64).toBitVec.getLsbD i = false := by decide
    have hm2 : ∀ i < 32, (255 : Int64).toBitVec.getLsbD i = (255 : Int32).toBitVec.getLsbD i := by decide
    rw [BitVec.getLsbD_and, BitVec.getLsbD_setWidth, BitVec.getLsbD_and, BitVec.getLsbD_signExtend]
    by_cases h8 : i < 32
    · rw [hm2 i h8, if_pos h8]
      simp [hi]
    · rw [hm i hi (by omega)]
      have h9 : (255 : Int32).toBitVec.getLsbD i = false := BitVec.getLsbD_of_ge _ _ (by omega)
      rw [h9]
      simp
  have h2 := and_255 x
  have h3 := and_255L (Int32.toInt64 x)
  have h4 : (Int32.toInt64 x &&& 255).toBitVec.toNat = (x &&& 255).toBitVec.toNat := by
    rw [h1, BitVec.toNat_setWidth]
    have := (x &&& 255).toBitVec.isLt
    exact Nat.mod_eq_of_lt (by omega)
  have h5 := nnL2 _ h3.1
  rw [h5, h4]
  have h6 : 0 ≤ (x &&& 255).toBitVec.toInt := h2.1
  show _ = (x &&& 255).toBitVec.toInt
  rw [BitVec.toInt_eq_toNat_cond] at h6 ⊢
  have h7 := (x &&& 255).toBitVec.isLt
  split at h6 <;> split <;> omega
theorem b8_gb {f : Nat → Int32} {n a : Int} (h0 : 0 ≤ a) (h1 : a < n) : GB f n a = B8 f a := by rw [gb_in h0 h1]; exact (ext_255 _).symm
theorem num_k1 {f : Nat → Int32} {n p : Int} (h0 : 0 ≤ p) (h1 : p + 1 ≤ n) : NUM (GB f n) p 1 = B8 f p := by
  show 0 * 256 + GB f n (p + (0 : Nat)) = _
  rw [show p + ((0 : Nat) : Int) = p by omega, b8_gb h0 (by omega)]
  omega
theorem num_k2 {f : Nat → Int32} {n p : Int} (h0 : 0 ≤ p) (h1 : p + 2 ≤ n) : NUM (GB f n) p 2 = B8 f p * 256 + B8 f (p + 1) := by
  show NUM (GB f n) p 1 * 256 + GB f n (p + (1 : Nat)) = _
  rw [num_k1 h0 (by omega), show p + ((1 : Nat) : Int) = p + 1 by omega, b8_gb (by omega) (by omega)]
theorem num_k3 {f : Nat → Int32} {n p : Int} (h0 : 0 ≤ p) (h1 : p + 3 ≤ n) : NUM (GB f n) p 3 = (B8 f p * 256 + B8 f (p + 1)) * 256 + B8 f (p + 2) := by
  show NUM (GB f n) p 2 * 256 + GB f n (p + (2 : Nat)) = _
  rw [num_k2 h0 (by omega), show p + ((2 : Nat) : Int) = p + 2 by omega, b8_gb (by omega) (by omega)]
theorem num_k4 {f : Nat → Int32} {n p : Int} (h0 : 0 ≤ p) (h1 : p + 4 ≤ n) : NUM (GB f n) p 4 = ((B8 f p * 256 + B8 f (p + 1)) * 256 + B8 f (p + 2)) * 256 + B8 f (p + 3) := by
  show NUM (GB f n) p 3 * 256 + GB f n (p + (3 : Nat)) = _
  rw [num_k3 h0 (by omega), show p + ((3 : Nat) : Int) = p + 3 by omega, b8_gb (by omega) (by omega)]
