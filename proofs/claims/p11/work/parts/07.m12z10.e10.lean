/-! both machines do the same (p8 to p11) -/
def I32 (v : Int64) : Prop := -2147483648 ≤ Int64.toInt v ∧ Int64.toInt v ≤ 2147483647
def BYG (g : List Int) : Prop := ∀ x ∈ g, 0 ≤ x ∧ x ≤ 255
def FRK (c : FR8) : Prop := 0 ≤ c.2 ∧ c.2 ≤ c.1.length ∧ BYG c.1
def TBY (tab : Int → Option (List Int)) : Prop := ∀ (k : Int) (g : List Int), tab k = some g → BYG g
def GDS (s : M8) : Prop := (∀ v ∈ s.p, I32 v) ∧ (∀ j : Nat, I32 (s.q j)) ∧ FRK s.c ∧ (∀ c ∈ s.w, FRK c) ∧ (s.p.length : Int) ≤ 48 ∧ 0 ≤ s.wh.2
theorem i32_0 : I32 0 := by unfold I32; decide
/-- bytes -/
theorem tkb_f {c : FR8} (h : FRK c) : FRK (TKB c).2 ∧ ((TKB c).1 = -1 ∨ (0 ≤ (TKB c).1 ∧ (TKB c).1 ≤ 255)) ∧ (c.2 < c.1.length → 0 ≤ (TKB c).1 ∧ (TKB c).2 = (c.1, c.2 + 1)) ∧ (¬ (c.2 < c.1.length) → (TKB c).1 = -1 ∧ (TKB c).2 = c) := by
  obtain ⟨h0, h1, h2⟩ := h
  unfold TKB
  by_cases hc : c.2 < c.1.length
  · rw [if_pos hc]
    have hb : 0 ≤ c.1.getD c.2.toNat 0 ∧ c.1.getD c.2.toNat 0 ≤ 255 := by
      have hl : c.2.toNat < c.1.length := by omega
      rw [List.getD_eq_getElem?_getD, List.getElem?_eq_getElem hl]
      exact h2 _ (List.getElem_mem hl)
    exact ⟨⟨by show 0 ≤ c.2 + 1; omega, by show c.2 + 1 ≤ (c.1.length : Int); omega, h2⟩, Or.inr hb, fun _ => ⟨hb.1, rfl⟩, fun h => absurd hc h⟩
  · rw [if_neg hc]
    exact ⟨⟨h0, h1, h2⟩, Or.inl rfl, fun h => absurd h hc, fun _ => ⟨rfl, rfl⟩⟩
theorem tks_f : ∀ (n : Nat) (c : FR8) (a : Int32), FRK c → FRK (TKS n c a).2.1 ∧ ((TKS n c a).2.2 = 0 ∨ (TKS n c a).2.2 = 7)
  | 0, c, a, h => ⟨h, Or.inl rfl⟩
  | n + 1, c, a, h => by
    show FRK (if (TKB c).1 = -1 then _ else _ : Int32 × FR8 × Int).2.1 ∧ _
    obtain ⟨t1, t2, _⟩ := tkb_f h
    by_cases hc : (TKB c).1 = -1
    · have e : TKS (n + 1) c a = (a, (TKB c).2, 7) := if_pos hc
      rw [e, if_pos hc]
      exact ⟨t1, Or.inr rfl⟩
    · have e : TKS (n + 1) c a = TKS n (TKB c).2 ((a <<< (8 &&& 31)) ||| Int32.ofInt (TKB c).1) := if_neg hc
      rw [e, if_neg hc]
      exact tks_f n _ _ t1
theorem itk_m : ∀ (n : Nat) (c : FR8), FRK c → ITK n c = if (n : Int) ≤ c.1.length - c.2 then ((c.1, c.2 + n), 0) else ((c.1, (c.1.length : Int)), 7)
  | 0, c, h => by
    obtain ⟨h0, h1, h2⟩ := h
    rw [if_pos (by omega)]
    show (c, (0 : Int)) = ((c.1, c.2 + ((0 : Nat) : Int)), 0)
    rw [show c.2 + ((0 : Nat) : Int) = c.2 by omega]
  | n + 1, c, h => by
    obtain ⟨t1, t2, t3, t4⟩ := tkb_f h
    obtain ⟨h0, h1, h2⟩ := h
    show (if (TKB c).1 = -1 then ((TKB c).2, 7) else ITK n (TKB c).2) = _
    by_cases hc : c.2 < c.1.length
    · obtain ⟨a, b⟩ := t3 hc
      rw [if_neg (by omega), itk_m n _ t1, b]
      show (if (n : Int) ≤ c.1.length - (c.2 + 1) then ((c.1, c.2 + 1 + n), (0 : Int)) else ((c.1, (c.1.length : Int)), 7)) = _
      by_cases hn : ((n + 1 : Nat) : Int) ≤ c.1.length - c.2
      · rw [if_pos (by omega), if_pos hn, show c.2 + 1 + (n : Int) = c.2 + ((n + 1 : Nat) : Int) by omega]
      · rw [if_neg (by omega), if_neg hn]
    · obtain ⟨a, b⟩ := t4 hc
      rw [if_pos a, b, if_neg (by omega)]
      have : c.2 = c.1.length := by omega
      rw [← this]
theorem prd_0 {p : List Int64} {wa : Int} : 0 ≤ PRD p wa := by
  unfold PRD SHA
  split
  · rename_i h
    have := h.1
    unfold ODD at this
    omega
  · omega
theorem hrf_eq {F : F8} {op : Int} {s : M8} (G : GDS s) (ho : op = 19 ∨ op = 20) : HRF s (MSR F.nm F.df s.p s.wh s.c) = HLF s (HMS F.nm F.df F.lim s.c.1.length s.p op (s.wh, s.c.2, s.o, s.ov)) := by
  obtain ⟨_, _, g3, _, _, g6⟩ := G
  unfold HMS
  rw [if_pos ho]
  unfold HRF HLF MSR MSK
  have hp := prd_0 (p := s.p) (wa := s.wh.1.1)
  by_cases hc : PRD s.p s.wh.1.1 % 2 = 0
  · rw [if_pos hc, if_pos hc, itk_m _ _ g3]
    have ek : ((((s.wh.2 + PRD s.p s.wh.1.1 / 2 + 7) / 8).toNat : Nat) : Int) = (s.wh.2 + PRD s.p s.wh.1.1 / 2 + 7) / 8 := by omega
    rw [ek]
    by_cases hk : (s.wh.2 + PRD s.p s.wh.1.1 / 2 + 7) / 8 ≤ s.c.1.length - s.c.2
    · rw [if_pos hk, if_pos hk, if_pos hk]
    · rw [if_neg hk, if_neg hk, if_neg hk]
  · rw [if_neg hc, if_neg hc]
/-- the root -/
theorem or_add {x y i a : Nat} (hx : x = 2 ^ i * a) (hy : y < 2 ^ i) (hs : x + y < 2 ^ 64) : Int64.ofNat x ||| Int64.ofNat y = Int64.ofNat (x + y) := by
  apply Int64.toBitVec_inj.mp
  rw [Int64.toBitVec_or]
  show BitVec.ofNat 64 x ||| BitVec.ofNat 64 y = BitVec.ofNat 64 (x + y)
  apply BitVec.eq_of_toNat_eq
  rw [BitVec.toNat_or, BitVec.toNat_ofNat, BitVec.toNat_ofNat, BitVec.toNat_ofNat, Nat.mod_eq_of_lt (by omega), Nat.mod_eq_of_lt (by omega), Nat.mod_eq_of_lt hs, hx]
  exact (Nat.two_pow_add_eq_or_of_lt hy a).symm
theorem bit_k : ∀ k : Nat, k < 24 → (1 : Int64) <<< (Int32.toInt64 (Int32.ofInt (23 - (k : Int))) &&& 63) = Int64.ofNat (2 ^ (23 - k)) := by decide
theorem rtc_s {v : Int64} {k : Nat} (hk : k < 24) {a : Nat} (h : RTC v k = Int64.ofNat (2 ^ (24 - k) * a)) (ha : 2 ^ (24 - k) * a < 2 ^ 24) : RTC v k ||| (1 : Int64) <<< (Int32.toInt64 (Int32.ofInt (23 - (k : Int))) &&& 63) = RTC v k + Int64.ofNat (2 ^ (23 - k)) ∧ RTC v k + Int64.ofNat (2 ^ (23 - k)) = Int64.ofNat (2 ^ (24 - (k + 1)) * (2 * a + 1)) ∧ 2 ^ (24 - (k + 1)) * (2 * a + 1) < 2 ^ 24 := by
  have e : 2 ^ (24 - k) = 2 * 2 ^ (23 - k) := by rw [show 24 - k = (23 - k) + 1 by omega, Nat.pow_succ]; omega
  have e2 : 2 ^ (24 - (k + 1)) * (2 * a + 1) = 2 ^ (24 - k) * a + 2 ^ (23 - k) := by
    rw [show 24 - (k + 1) = 23 - k by omega, Nat.mul_add, Nat.mul_one, e, Nat.mul_comm 2 (2 ^ (23 - k)), Nat.mul_assoc]
  have hp : 2 ^ (23 - k) < 2 ^ (24 - k) := by have := Nat.two_pow_pos (23 - k); omega
  have hlt : 2 ^ (24 - k) * a + 2 ^ (23 - k) < 2 ^ 24 := by
    have h24 : 2 ^ 24 = 2 ^ (24 - k) * 2 ^ k := by rw [← Nat.pow_add]; congr 1; omega
    have : a < 2 ^ k := by
      rw [h24] at ha
      exact Nat.lt_of_mul_lt_mul_left ha
    have : 2 ^ (24 - k) * (a + 1) ≤ 2 ^ (24 - k) * 2 ^ k := Nat.mul_le_mul_left _ this
    rw [Nat.mul_add, Nat.mul_one] at this
    omega
  rw [bit_k k hk, h]
  refine ⟨?_, ?_, by omega⟩
  · rw [or_add (i := 24 - k) (a := a) rfl hp (by omega), Int64.ofNat_add]
  · rw [e2, Int64.ofNat_add]
theorem rtc_n (v : Int64) : ∀ k : Nat, k ≤ 24 → ∃ a : Nat, RTC v k = Int64.ofNat (2 ^ (24 - k) * a) ∧ 2 ^ (24 - k) * a < 2 ^ 24
  | 0, _ => ⟨0, rfl, by decide⟩
  | k + 1, hk => by
    obtain ⟨a, h1, h2⟩ := rtc_n v k (by omega)
    obtain ⟨s1, s2, s3⟩ := rtc_s (by omega) h1 h2
    show ∃ b : Nat, (if Int64.toInt ((RTC v k ||| (1 : Int64) <<< (Int32.toInt64 (Int32.ofInt (23 - (k : Int))) &&& 63)) * (RTC v k ||| (1 : Int64) <<< (Int32.toInt64 (Int32.ofInt (23 - (k : Int))) &&& 63))) ≤ Int64.toInt v then RTC v k ||| (1 : Int64) <<< (Int32.toInt64 (Int32.ofInt (23 - (k : Int))) &&& 63) else RTC v k) = Int64.ofNat (2 ^ (24 - (k + 1)) * b) ∧ _
    rw [s1]
    split
    · exact ⟨2 * a + 1, s2, s3⟩
    · refine ⟨2 * a, ?_, ?_⟩
      · rw [h1]
        congr 1
        rw [show 24 - k = (24 - (k + 1)) + 1 by omega, Nat.pow_succ, Nat.mul_assoc]
      · rw [show 24 - k = (24 - (k + 1)) + 1 by omega, Nat.pow_succ, Nat.mul_assoc] at h2
        exact h2
theorem rtx_c (v : Int64) : ∀ e : Nat, e ≤ 24 → RTX v e (RTC v (24 - e)) = RTC v 24
  | 0, _ => rfl
  | e + 1, he => by
    obtain ⟨a, h1, h2⟩ := rtc_n v (24 - (e + 1)) (by omega)
    obtain ⟨s1, s2, s3⟩ := rtc_s (v := v) (k := 24 - (e + 1)) (by omega) h1 h2
    have ee : 23 - (24 - (e + 1)) = e := by omega
    rw [ee] at s1
    have ih := rtx_c v e (by omega)
    rw [show 24 - e = (24 - (e + 1)) + 1 by omega] at ih
    rw [← ih]
    show RTX v e (if Int64.toInt ((RTC v (24 - (e + 1)) + Int64.ofNat (2 ^ e)) * (RTC v (24 - (e + 1)) + Int64.ofNat (2 ^ e))) ≤ Int64.toInt v then RTC v (24 - (e + 1)) + Int64.ofNat (2 ^ e) else RTC v (24 - (e + 1))) = RTX v e (if Int64.toInt ((RTC v (24 - (e + 1)) ||| (1 : Int64) <<< (Int32.toInt64 (Int32.ofInt (23 - ((24 - (e + 1) : Nat) : Int))) &&& 63)) * (RTC v (24 - (e + 1)) ||| (1 : Int64) <<< (Int32.toInt64 (Int32.ofInt (23 - ((24 - (e + 1) : Nat) : Int))) &&& 63))) ≤ Int64.toInt v then RTC v (24 - (e + 1)) ||| (1 : Int64) <<< (Int32.toInt64 (Int32.ofInt (23 - ((24 - (e + 1) : Nat) : Int))) &&& 63) else RTC v (24 - (e + 1)))
    rw [s1]
theorem rtx_d {v : Int64} {e : Nat} {z : Int} (hz : Int64.toInt ((0 + Int64.ofNat (2 ^ e)) * (0 + Int64.ofNat (2 ^ e))) = z) (h : Int64.toInt v < z) : RTX v (e + 1) 0 = RTX v e 0 := by
  show RTX v e (if Int64.toInt ((0 + Int64.ofNat (2 ^ e)) * (0 + Int64.ofNat (2 ^ e))) ≤ Int64.toInt v then _ else 0) = _
  rw [hz, if_neg (by omega)]
theorem rtx_rtc {v : Int64} (h : Int64.toInt v < 281474976710656) : RTX v 32 0 = RTC v 24 := by
  rw [rtx_d (z := 4611686018427387904) (by decide) (by omega), rtx_d (z := 1152921504606846976) (by decide) (by omega), rtx_d (z := 288230376151711744) (by decide) (by omega), rtx_d (z := 72057594037927936) (by decide) (by omega), rtx_d (z := 18014398509481984) (by decide) (by omega), rtx_d (z := 4503599627370496) (by decide) (by omega), rtx_d (z := 1125899906842624) (by decide) (by omega), rtx_d (z := 281474976710656) (by decide) (by omega)]
  exact rtx_c v 24 (by omega)
theorem rtc_i (v : Int64) : I32 (RTC v 24) := by
  obtain ⟨a, h1, h2⟩ := rtc_n v 24 (by omega)
  unfold I32
  rw [h1, Int64.toInt_ofNat_of_lt (by omega)]
  omega
theorem bel_i {p : List Int64} {d : Int} (h : ∀ v ∈ p, I32 v) : I32 (BEL p d) := by
  unfold BEL NG
  split
  · rename_i hc
    have hl : ((p.length : Int) - 1 - d).toNat < p.length := by omega
    rw [List.getD_eq_getElem?_getD, List.getElem?_eq_getElem hl]
    exact h _ (List.getElem_mem hl)
  · exact i32_0
theorem rcr_eq {m : Int} {p : List Int64} {q : Nat → Int64} (h : ∀ v ∈ p, I32 v) : RCR m 26 p q = RCK m 26 p q := by
  unfold RCR RCK
  rw [if_pos rfl, show NED 26 = 1 by decide, if_neg (show ¬ ((1 : Int) = -1) by decide)]
  by_cases hl : (p.length : Int) < 1
  · rw [if_pos hl, if_pos hl]
  · rw [if_neg hl, if_neg hl, if_pos rfl]
    have e9 : RK1 m 26 p q = if Int64.toInt (BEL p 0) < 0 then ((p, q), 9) else LFT q (PSH m (DRP p 1) (RTC (BEL p 0 * 65536) 24)) := by
      unfold RK1
      rw [if_neg (show ¬ ((26 : Int) = 5) by decide), if_neg (show ¬ ((26 : Int) = 9) by decide), if_neg (show ¬ ((26 : Int) = 14) by decide), if_neg (show ¬ ((26 : Int) = 18) by decide), if_neg (show ¬ ((26 : Int) = 21) by decide), if_pos (show (26 : Int) = 26 from rfl)]
    rw [e9]
    by_cases hc : Int64.toInt (BEL p 0) < 0
    · rw [if_pos hc, if_pos hc]
    · rw [if_neg hc, if_neg hc, rtx_rtc]
      obtain ⟨b1, b2⟩ := bel_i (d := 0) h
      have e : Int64.toInt (BEL p 0 * 65536) = Int64.toInt (BEL p 0) * 65536 := fb_mulL (by show -9223372036854775808 ≤ Int64.toInt (BEL p 0) * 65536; omega) (by show Int64.toInt (BEL p 0) * 65536 < 9223372036854775808; omega)
      rw [e]
      omega
theorem cpr_eq {F : F8} {op : Int} {s : M8} (G : GDS s) : CPR F op s = COP F op s := by
  unfold CPR
  by_cases h1 : op = 19 ∨ op = 20
  · rw [if_pos h1, hrf_eq G h1]
    unfold COP
    rw [if_neg (by omega), if_neg (by omega), if_neg (by omega), if_neg (by omega), if_pos (by unfold MTW; omega)]
  · rw [if_neg h1]
    by_cases h2 : op = 282
    · rw [if_pos h2, rcr_eq G.1]
      unfold COP
      rw [if_neg (by omega), if_neg (by omega), if_neg (by omega), if_pos (by unfold FLX; omega), h2]
      rfl
    · rw [if_neg h2]
