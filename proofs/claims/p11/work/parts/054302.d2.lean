/-! roll, and arithmetic by two NUMBERS (p8 to p11) -/
theorem rem_in {a b : Int64} (hb : 1 ≤ Int64.toInt b) : Int64.toInt (a - a / b * b) = (Int64.toInt a).tmod (Int64.toInt b) := by
  have ra := fb_rngL a
  have rb := fb_rngL b
  have e := Int.mul_tdiv_add_tmod (Int64.toInt a) (Int64.toInt b)
  have hm : (Int64.toInt a < 0 → -(Int64.toInt b) < (Int64.toInt a).tmod (Int64.toInt b) ∧ (Int64.toInt a).tmod (Int64.toInt b) ≤ 0) ∧ (0 ≤ Int64.toInt a → 0 ≤ (Int64.toInt a).tmod (Int64.toInt b) ∧ (Int64.toInt a).tmod (Int64.toInt b) < Int64.toInt b) := by
    constructor
    · intro h
      have h1 := Int.tmod_nonneg (a := -Int64.toInt a) (Int64.toInt b) (by omega)
      have h2 := Int.tmod_lt_of_pos (-Int64.toInt a) (show 0 < Int64.toInt b by omega)
      rw [Int.neg_tmod] at h1 h2
      omega
    · intro h
      exact ⟨Int.tmod_nonneg _ h, Int.tmod_lt_of_pos _ (by omega)⟩
  have hA : (Int64.toInt a).tmod (Int64.toInt b) ≤ Int64.toInt a ∨ Int64.toInt a < 0 := by
    by_cases h : Int64.toInt a < 0
    · exact Or.inr h
    · refine Or.inl ?_
      have h1 : 0 ≤ (Int64.toInt a).tdiv (Int64.toInt b) := Int.tdiv_nonneg (by omega) (by omega)
      have h2 := Int.mul_nonneg (show 0 ≤ Int64.toInt b by omega) h1
      omega
  have hB : Int64.toInt a ≤ (Int64.toInt a).tmod (Int64.toInt b) ∨ 0 ≤ Int64.toInt a := by
    by_cases h : 0 ≤ Int64.toInt a
    · exact Or.inr h
    · refine Or.inl ?_
      have h1 : 0 ≤ (-Int64.toInt a).tdiv (Int64.toInt b) := Int.tdiv_nonneg (by omega) (by omega)
      have h2 := Int.mul_nonneg (show 0 ≤ Int64.toInt b by omega) h1
      rw [Int.neg_tdiv, Int.mul_neg] at h2
      omega
  have hd : -9223372036854775808 ≤ (Int64.toInt a).tdiv (Int64.toInt b) ∧ (Int64.toInt a).tdiv (Int64.toInt b) < 9223372036854775808 := by
    have key : ∀ d : Int, 0 ≤ d → d ≤ Int64.toInt b * d := fun d h => by
      have := Int.mul_le_mul_of_nonneg_right hb h
      omega
    by_cases h : 0 ≤ (Int64.toInt a).tdiv (Int64.toInt b)
    · have := key _ h
      have h3 := hm
      by_cases h4 : Int64.toInt a < 0
      · have := hm.1 h4; omega
      · have := hm.2 (by omega); omega
    · have h1 := key (-(Int64.toInt a).tdiv (Int64.toInt b)) (by omega)
      rw [Int.mul_neg] at h1
      by_cases h4 : Int64.toInt a < 0
      · have := hm.1 h4; omega
      · have := hm.2 (by omega); omega
  have t1 : Int64.toInt (a / b) = (Int64.toInt a).tdiv (Int64.toInt b) := by
    rw [Int64.toInt_div]
    exact fb_bmodL hd.1 hd.2
  have e2 : (Int64.toInt a).tdiv (Int64.toInt b) * Int64.toInt b = Int64.toInt b * (Int64.toInt a).tdiv (Int64.toInt b) := Int.mul_comm _ _
  have t2 : Int64.toInt (a / b * b) = Int64.toInt (a / b) * Int64.toInt b := fb_mulL (by rw [t1, e2]; by_cases h4 : Int64.toInt a < 0; have := hm.1 h4; omega; have := hm.2 (by omega); omega) (by rw [t1, e2]; by_cases h4 : Int64.toInt a < 0; have := hm.1 h4; omega; have := hm.2 (by omega); omega)
  rw [fb_subL (by rw [t2, t1, e2]; by_cases h4 : Int64.toInt a < 0; have := hm.1 h4; omega; have := hm.2 (by omega); omega) (by rw [t2, t1, e2]; by_cases h4 : Int64.toInt a < 0; have := hm.1 h4; omega; have := hm.2 (by omega); omega), t2, t1, e2]
  omega
theorem xor_neg {a b : Int64} (hb : 0 ≤ Int64.toInt b) : Int64.toInt (a ^^^ b) < 0 ↔ Int64.toInt a < 0 := by
  have k : ∀ x : Int64, Int64.toInt x < 0 ↔ x.toBitVec.msb = true := fun x => by
    show x.toBitVec.toInt < 0 ↔ _
    rw [BitVec.toInt_neg_iff, BitVec.msb_eq_decide, decide_eq_true_iff]
    omega
  have hb2 : b.toBitVec.msb = false := by
    cases h : b.toBitVec.msb with
    | false => rfl
    | true => have := (k b).mpr h; omega
  rw [k, k, Int64.toBitVec_xor, BitVec.msb_xor, hb2, Bool.xor_false]
theorem flm_pf {x y m z r : Int64} (hy : 1 ≤ Int64.toInt y) (e1 : x - x / y * y = m) (e2 : x ^^^ y = z) (h : (0 ≤ Int64.toInt z ∧ r = m) ∨ (Int64.toInt z < 0 ∧ Int64.toInt m = 0 ∧ r = m) ∨ (Int64.toInt z < 0 ∧ ¬ (Int64.toInt m = 0) ∧ m + y = r)) : Int64.toInt r = Int64.toInt x % Int64.toInt y := by
  have t := rem_in (a := x) hy
  rw [e1] at t
  have hz := xor_neg (a := x) (b := y) (by omega)
  rw [e2] at hz
  have e := Int.mul_tdiv_add_tmod (Int64.toInt x) (Int64.toInt y)
  have q := Int.emod_emod_of_dvd (Int64.toInt x) (Int.dvd_refl (Int64.toInt y))
  have f : Int64.toInt x % Int64.toInt y = (Int64.toInt x).tmod (Int64.toInt y) % Int64.toInt y := by
    conv => lhs; rw [← e]
    rw [Int.add_comm, Int.add_mul_emod_self_left]
  rw [f, ← t]
  have ry := fb_rngL y
  by_cases hx : Int64.toInt x < 0
  · have h1 := Int.tmod_nonneg (a := -Int64.toInt x) (Int64.toInt y) (by omega)
    have h2 := Int.tmod_lt_of_pos (-Int64.toInt x) (show 0 < Int64.toInt y by omega)
    rw [Int.neg_tmod, ← t] at h1 h2
    rcases h with ⟨h3, _⟩ | ⟨_, h3, h4⟩ | ⟨_, h3, h4⟩
    · have := hz.mpr hx; omega
    · rw [h4, h3]; simp
    · rw [← h4, fb_addL (by omega) (by omega)]
      rw [← Int.add_emod_right (Int64.toInt m) (Int64.toInt y), Int.emod_eq_of_lt (by omega) (by omega)]
  · have h1 := Int.tmod_nonneg (a := Int64.toInt x) (Int64.toInt y) (by omega)
    have h2 := Int.tmod_lt_of_pos (Int64.toInt x) (show 0 < Int64.toInt y by omega)
    rw [← t] at h1 h2
    rcases h with ⟨_, h4⟩ | ⟨h3, _⟩ | ⟨h3, _⟩
    · rw [h4, Int.emod_eq_of_lt h1 h2]
    · exact absurd (hz.mp h3) hx
    · exact absurd (hz.mp h3) hx
theorem flm_r {x y m z r : Int64} (hy : 1 ≤ Int64.toInt y) (e1 : x - x / y * y = m) (e2 : x ^^^ y = z) (h : (0 ≤ Int64.toInt z ∧ r = m) ∨ (Int64.toInt z < 0 ∧ Int64.toInt m = 0 ∧ r = m) ∨ (Int64.toInt z < 0 ∧ ¬ (Int64.toInt m = 0) ∧ m + y = r)) : 0 ≤ Int64.toInt r ∧ Int64.toInt r < Int64.toInt y := by
  rw [flm_pf hy e1 e2 h]
  exact ⟨Int.emod_nonneg _ (by omega), Int.emod_lt_of_pos _ (by omega)⟩
/-! a stretch turned round -/
def RVF (f : Nat → Int64) (a b : Int) (i : Nat) : Int64 := if a ≤ i ∧ (i : Int) < b then f (a + b - 1 - i).toNat else f i
def TRI (f0 f : Nat → Int64) (a b lo hi : Int) : Prop := lo + hi = a + b - 1 ∧ (a ≤ lo ∧ (lo = a ∨ (lo ≤ b ∧ a ≤ hi))) ∧ ∀ i : Nat, f i = if (a ≤ i ∧ (i : Int) < lo) ∨ (hi < i ∧ (i : Int) < b) then f0 (a + b - 1 - i).toNat else f0 i
theorem tri_0 {f : Nat → Int64} {a b hi : Int} (h : hi = b - 1) : TRI f f a b a hi := ⟨by omega, ⟨Int.le_refl _, Or.inl rfl⟩, fun i => by rw [if_neg (by omega)]⟩
theorem tri_step {f0 f g f2 : Nat → Int64} {a b lo hi lo2 hi2 : Int} {x y : Int32} {u v : Int64} (h : TRI f0 f a b lo hi) (h0 : 0 ≤ a) (hl : lo < hi) (hx : Int32.toInt x = lo) (hy : Int32.toInt y = hi) (e1 : f (Int32.toNatClampNeg x) = u) (e2 : f (Int32.toNatClampNeg y) = v) (e3 : vp_updL f (Int32.toNatClampNeg x) v = g) (e4 : vp_updL g (Int32.toNatClampNeg y) u = f2) (hl2 : lo2 = lo + 1) (hh2 : hi2 = hi - 1) : TRI f0 f2 a b lo2 hi2 := by
  obtain ⟨t1, t2, t3⟩ := h
  have c1 : Int32.toNatClampNeg x = lo.toNat := by show (Int32.toInt x).toNat = _; rw [hx]
  have c2 : Int32.toNatClampNeg y = hi.toNat := by show (Int32.toInt y).toNat = _; rw [hy]
  rw [c1] at e1 e3
  rw [c2] at e2 e4
  refine ⟨by omega, by omega, fun i => ?_⟩
  rw [← e4, updL_eq, ← e3, updL_eq]
  by_cases hi1 : i = hi.toNat
  · rw [if_pos hi1, ← e1, t3, if_neg (by omega), if_pos (by omega)]
    congr 1
    omega
  · rw [if_neg hi1]
    by_cases hl1 : i = lo.toNat
    · rw [if_pos hl1, ← e2, t3, if_neg (by omega), if_pos (by omega)]
      congr 1
      omega
    · rw [if_neg hl1, t3]
      by_cases hc : (a ≤ i ∧ (i : Int) < lo) ∨ (hi < i ∧ (i : Int) < b)
      · rw [if_pos hc, if_pos (by omega)]
      · rw [if_neg hc, if_neg (by omega)]
theorem tri_end {f0 f : Nat → Int64} {a b lo hi : Int} (h : TRI f0 f a b lo hi) (h0 : 0 ≤ a) (hl : hi ≤ lo) : f = RVF f0 a b := by
  obtain ⟨t1, t2, t3⟩ := h
  funext i
  rw [t3 i]
  unfold RVF
  by_cases hc : (a ≤ i ∧ (i : Int) < lo) ∨ (hi < i ∧ (i : Int) < b)
  · by_cases hd : a ≤ i ∧ (i : Int) < b
    · rw [if_pos hc, if_pos hd]
    · rw [if_pos hc, if_neg hd]
      congr 1
      omega
  · by_cases hd : a ≤ i ∧ (i : Int) < b
    · rw [if_neg hc, if_pos hd]
      congr 1
      omega
    · rw [if_neg hc, if_neg hd]
/-- the uppermost n go up j places -/
def ROT (p : List Int64) (n j : Nat) : List Int64 := (List.range p.length).map fun i => if p.length - n ≤ i then (if i < p.length - n + j then p.getD (i + n - j) 0 else p.getD (i - j) 0) else p.getD i 0
theorem rot_pa {f : Nat → Int64} {n a s : Int} (h0 : 0 ≤ a) (h1 : a ≤ s) (h2 : s ≤ n) : PA (RVF (RVF (RVF f a n) a s) s n) n = ROT (PA f n) (n - a).toNat (s - a).toNat := by
  unfold ROT
  rw [pa_len]
  show (List.range n.toNat).map _ = _
  refine List.map_congr_left (fun i hi => ?_)
  have hi2 := List.mem_range.mp hi
  have g : ∀ k : Nat, k < n.toNat → (PA f n).getD k 0 = f k := fun k hk => by rw [List.getD_eq_getElem?_getD, pa_at hk]; rfl
  by_cases c1 : n.toNat - (n - a).toNat ≤ i
  · rw [if_pos c1]
    by_cases c2 : i < n.toNat - (n - a).toNat + (s - a).toNat
    · rw [if_pos c2, g _ (by omega)]
      unfold RVF
      rw [if_neg (by omega), if_pos (by omega), if_pos (by omega)]
      congr 1
      omega
    · rw [if_neg c2, g _ (by omega)]
      unfold RVF
      rw [if_pos (by omega), if_neg (by omega), if_pos (by omega)]
      congr 1
      omega
  · rw [if_neg c1, g _ (by omega)]
    unfold RVF
    rw [if_neg (by omega), if_neg (by omega), if_neg (by omega)]
def ROL (m : Int) (p : List Int64) (q : Nat → Int64) (n up : Int) : PQ := if n < 0 then ((p, q), 9) else if (p.length : Int) - 2 < n then ((p, q), 2) else if n = 0 then ((DRP p 2, q), 0) else ((ROT (DRP p 2) n.toNat (up % n).toNat, q), 0)
theorem rol_9 {m n up r : Int} {p p2 : List Int64} {q : Nat → Int64} (h : n < 0) (hr : r = 9) : REQ p2 q r (ROL m p q n up) := by
  unfold ROL
  rw [if_pos h]
  exact req_f hr (by decide)
theorem rol_2 {f f1 : Nat → Int64} {k k1 m n up r : Int} {q : Nat → Int64} (h0 : 0 ≤ k) (h : 0 ≤ n) (h2 : k - 2 < n) (hr : r = 2) : REQ (PA f1 k1) q r (ROL m (PA f k) q n up) := by
  unfold ROL
  rw [if_neg (by omega), if_pos (by rw [pa_len]; omega)]
  exact req_f hr (by decide)
theorem rol_0 {f : Nat → Int64} {k k1 m n up r : Int} {q : Nat → Int64} (h0 : 0 ≤ k) (h : n = 0) (h2 : 2 ≤ k) (hk : k1 = k - 2) (hr : r = 0) : REQ (PA f k1) q r (ROL m (PA f k) q n up) := by
  unfold ROL
  rw [if_neg (by omega), if_neg (by rw [pa_len]; omega), if_pos h]
  exact ⟨hr, fun _ => ⟨drp_pa h0 (by omega), fun _ _ => rfl⟩⟩
theorem rol_n {f f1 f2 f3 : Nat → Int64} {k k1 m n up r a s : Int} {q : Nat → Int64} (h0 : 0 ≤ k) (h : 0 < n) (h2 : n ≤ k - 2) (hk : k1 = k - 2) (ha : a = k1 - n) (hs : s = a + up % n) (e1 : f1 = RVF f a k1) (e2 : f2 = RVF f1 a s) (e3 : f3 = RVF f2 s k1) (hr : r = 0) : REQ (PA f3 k1) q r (ROL m (PA f k) q n up) := by
  have u0 := Int.emod_nonneg up (show n ≠ 0 by omega)
  have u1 := Int.emod_lt_of_pos up h
  unfold ROL
  rw [if_neg (by omega), if_neg (by rw [pa_len]; omega), if_neg (by omega)]
  refine ⟨hr, fun _ => ⟨?_, fun _ _ => rfl⟩⟩
  show PA f3 k1 = ROT (DRP (PA f k) 2) n.toNat (up % n).toNat
  rw [e3, e2, e1, rot_pa (by omega) (by omega) (by omega), ← drp_pa (f := f) (n := k) (n1 := k1) (k := 2) h0 (by omega)]
  congr 1
  · omega
  · omega
def KEP (p : List Int64) (q : Nat → Int64) (v : Int64) (a : Int) : PQ := if a < 0 ∨ 32 ≤ a then ((p, q), 9) else ((DRP p 2, fun j => if j = a.toNat then v else q j), 0)
theorem kep_n {a r : Int} {p p2 : List Int64} {q q2 : Nat → Int64} {v : Int64} (h : a < 0 ∨ 32 ≤ a) (hr : r = 9) : REQ p2 q2 r (KEP p q v a) := by
  unfold KEP
  rw [if_pos h]
  exact req_f hr (by decide)
theorem kep_y {a r : Int} {p p2 : List Int64} {q q2 : Nat → Int64} {v : Int64} {x : Int32} (h0 : 0 ≤ a) (h1 : a < 32) (e : vp_updL q (Int32.toNatClampNeg x) v = q2) (hx : Int32.toInt x = a) (hp : p2 = DRP p 2) (hr : r = 0) : REQ p2 q2 r (KEP p q v a) := by
  have hc : Int32.toNatClampNeg x = a.toNat := by show (Int32.toInt x).toNat = _; rw [hx]
  rw [hc] at e
  unfold KEP
  rw [if_neg (by omega)]
  exact ⟨hr, fun _ => ⟨hp, fun j _ => by rw [← e]; rfl⟩⟩
def RK2 (m op : Int) (p : List Int64) (q : Nat → Int64) : PQ :=
  if op = 3 then LFT q (PSH m (DRP p 2) (TRU (¬ (BEL p 1 = 0) ∧ ¬ (BEL p 0 = 0))))
  else if op = 4 then LFT q (PSH m (DRP p 2) (TRU (¬ (BEL p 1 = 0) ∨ ¬ (BEL p 0 = 0))))
  else if op = 10 then LFT q (PSH m (DRP p 2) (LOWL (BEL p 1 + BEL p 0)))
  else if op = 11 then LFT q (PSH m (DRP p 2) (LOWL (BEL p 1 - BEL p 0)))
  else if op = 12 then (if BEL p 0 = 0 then ((p, q), 9) else LFT q (PSH m (DRP p 2) (LOWL (BEL p 1 * 65536 / BEL p 0))))
  else if op = 15 then LFT q (PSH m (DRP p 2) (TRU (BEL p 1 = BEL p 0)))
  else if op = 20 then KEP p q (BEL p 1) (WHL p 0)
  else if op = 24 then LFT q (PSH m (DRP p 2) (LOWL (BEL p 1 * BEL p 0 / 65536)))
  else if op = 28 then (if ((DRP p 2).length : Int) < m then LFT q (PSH m (DRP p 2 ++ [BEL p 0]) (BEL p 1)) else ((p, q), 3))
  else ROL m p q (WHL p 1) (WHL p 0)
theorem tru_y {c : Prop} [Decidable c] {v : Int64} (h : c) (e : v = 65536) : TRU c = v := by unfold TRU; rw [if_pos h, e]
theorem tru_n {c : Prop} [Decidable c] {v : Int64} (h : ¬ c) (e : v = 0) : TRU c = v := by unfold TRU; rw [if_neg h, e]
theorem rk_t {m op r : Int} {p p2 : List Int64} {q : Nat → Int64} {a b v : Int64} (ha : a = BEL p 1) (hb : b = BEL p 0) (h : (op = 3 ∧ TRU (¬ (a = 0) ∧ ¬ (b = 0)) = v) ∨ (op = 4 ∧ TRU (¬ (a = 0) ∨ ¬ (b = 0)) = v) ∨ (op = 15 ∧ TRU (a = b) = v)) (P : PEQ p2 r (PSH m (DRP p 2) v)) : REQ p2 q r (RK2 m op p q) := by
  unfold RK2
  rw [← ha, ← hb]
  rcases h with ⟨ho, h⟩ | ⟨ho, h⟩ | ⟨ho, h⟩
  · rw [if_pos ho, h]; exact req_l P
  · rw [if_neg (by omega), if_pos ho, h]; exact req_l P
  · rw [if_neg (by omega), if_neg (by omega), if_neg (by omega), if_neg (by omega), if_neg (by omega), if_pos ho, h]; exact req_l P
theorem rk_v {m op r : Int} {p p2 : List Int64} {q : Nat → Int64} {a b c v : Int64} {w : Int32} (ha : a = BEL p 1) (hb : b = BEL p 0) (h : (op = 10 ∧ a + b = c) ∨ (op = 11 ∧ a - b = c) ∨ (op = 12 ∧ ¬ (b = 0) ∧ ∃ d, a * 65536 = d ∧ d / b = c) ∨ (op = 24 ∧ ∃ d, a * b = d ∧ d / 65536 = c)) (e1 : Int64.toInt32 c = w) (e2 : Int32.toInt64 w = v) (P : PEQ p2 r (PSH m (DRP p 2) v)) : REQ p2 q r (RK2 m op p q) := by
  have el : LOWL c = v := by unfold LOWL; rw [e1, e2]
  unfold RK2
  rw [← ha, ← hb]
  rcases h with ⟨ho, h⟩ | ⟨ho, h⟩ | ⟨ho, h1, d, h2, h3⟩ | ⟨ho, d, h2, h3⟩
  · rw [if_neg (by omega), if_neg (by omega), if_pos ho, h, el]; exact req_l P
  · rw [if_neg (by omega), if_neg (by omega), if_neg (by omega), if_pos ho, h, el]; exact req_l P
  · rw [if_neg (by omega), if_neg (by omega), if_neg (by omega), if_neg (by omega), if_pos ho, if_neg h1, h2, h3, el]; exact req_l P
  · rw [if_neg (by omega), if_neg (by omega), if_neg (by omega), if_neg (by omega), if_neg (by omega), if_neg (by omega), if_neg (by omega), if_pos ho, h2, h3, el]; exact req_l P
theorem rk_12n {m op r : Int} {p p2 : List Int64} {q : Nat → Int64} {b : Int64} (ho : op = 12) (hb : b = BEL p 0) (h : b = 0) (hr : r = 9) : REQ p2 q r (RK2 m op p q) := by
  unfold RK2
  rw [if_neg (by omega), if_neg (by omega), if_neg (by omega), if_neg (by omega), if_pos ho, if_pos (by rw [← hb]; exact h)]
  exact req_f hr (by decide)
theorem rk_20 {m op r a : Int} {p p2 : List Int64} {q q2 : Nat → Int64} {t v : Int64} (ho : op = 20) (hv : v = BEL p 1) (ht : t = BEL p 0 >>> 16) (ha : a = Int64.toInt t) (h : REQ p2 q2 r (KEP p q v a)) : REQ p2 q2 r (RK2 m op p q) := by
  unfold RK2
  rw [if_neg (by omega), if_neg (by omega), if_neg (by omega), if_neg (by omega), if_neg (by omega), if_neg (by omega), if_pos ho]
  subst ha ht hv
  exact h
theorem rk_28 {m op r r1 : Int} {p p1 p2 : List Int64} {q : Nat → Int64} {a b : Int64} (ho : op = 28) (ha : a = BEL p 1) (hb : b = BEL p 0) (R : PEQ p1 r1 (PSH m (DRP p 2) b)) (P : PEQ p2 r (PSH m p1 a)) (h1 : ¬ (r1 = 0) → r = 3) : REQ p2 q r (RK2 m op p q) := by
  unfold RK2
  rw [if_neg (by omega), if_neg (by omega), if_neg (by omega), if_neg (by omega), if_neg (by omega), if_neg (by omega), if_neg (by omega), if_neg (by omega), if_pos ho, ← ha, ← hb]
  by_cases hc : ((DRP p 2).length : Int) < m
  · have e : PSH m (DRP p 2) b = (DRP p 2 ++ [b], 0) := if_pos hc
    rw [e] at R
    have e2 : p1 = DRP p 2 ++ [b] := R.2 R.1
    rw [if_pos hc, ← e2]
    exact req_l P
  · have e : PSH m (DRP p 2) b = (DRP p 2, 3) := if_neg hc
    rw [e] at R
    have e3 : r1 = 3 := R.1
    rw [if_neg hc]
    exact req_f (h1 (by omega)) (by decide)
theorem rk_30 {m op r n up : Int} {p p2 : List Int64} {q q2 : Nat → Int64} {t u : Int64} (ho : ¬ (op = 3 ∨ op = 4 ∨ op = 10 ∨ op = 11 ∨ op = 12 ∨ op = 15 ∨ op = 20 ∨ op = 24 ∨ op = 28)) (ht : t = BEL p 1 >>> 16) (hu : u = BEL p 0 >>> 16) (en : n = Int64.toInt t) (eu : up = Int64.toInt u) (h : REQ p2 q2 r (ROL m p q n up)) : REQ p2 q2 r (RK2 m op p q) := by
  unfold RK2
  rw [if_neg (by omega), if_neg (by omega), if_neg (by omega), if_neg (by omega), if_neg (by omega), if_neg (by omega), if_neg (by omega), if_neg (by omega), if_neg (by omega)]
  subst en eu ht hu
  exact h
/-- how many NUMBERS an operator of arithmetic wants; -1: it is none -/
def NED (op : Int) : Int := if op = 5 ∨ op = 9 ∨ op = 14 ∨ op = 18 ∨ op = 21 ∨ op = 26 ∨ op = 27 ∨ op = 29 then 1 else if op = 3 ∨ op = 4 ∨ op = 10 ∨ op = 11 ∨ op = 12 ∨ op = 15 ∨ op = 20 ∨ op = 24 ∨ op = 28 ∨ op = 30 then 2 else if op = 22 then 4 else -1
def RCK (m op : Int) (p : List Int64) (q : Nat → Int64) : PQ :=
  if NED op = -1 then ((p, q), 1) else if (p.length : Int) < NED op then ((p, q), 2)
  else if NED op = 1 then RK1 m op p q else if NED op = 2 then RK2 m op p q
  else LFT q (PSH m (DRP p 4) (if Int64.toInt (BEL p 1) ≤ Int64.toInt (BEL p 0) then BEL p 3 else BEL p 2))
theorem rck_1 {m op r : Int} {p p2 : List Int64} {q q2 : Nat → Int64} {n : Int} (h : n = NED op) (hn : n = -1) (hr : r = 1) : REQ p2 q2 r (RCK m op p q) := by
  unfold RCK
  rw [if_pos (by omega)]
  exact req_f hr (by decide)
theorem rck_2 {f f1 : Nat → Int64} {k k1 m op r n : Int} {q q2 : Nat → Int64} (h : n = NED op) (hn : ¬ (n = -1)) (h0 : 0 ≤ k) (hk : k < n) (hr : r = 2) : REQ (PA f1 k1) q2 r (RCK m op (PA f k) q) := by
  unfold RCK
  rw [if_neg (by omega), if_pos (by rw [pa_len]; omega)]
  exact req_f hr (by decide)
theorem rck_k1 {f f1 : Nat → Int64} {k k1 m op r n : Int} {q q2 : Nat → Int64} (h : n = NED op) (hn : n = 1) (h0 : 0 ≤ k) (hk : n ≤ k) (P : REQ (PA f1 k1) q2 r (RK1 m op (PA f k) q)) : REQ (PA f1 k1) q2 r (RCK m op (PA f k) q) := by
  unfold RCK
  rw [if_neg (by omega), if_neg (by rw [pa_len]; omega), if_pos (by omega)]
  exact P
theorem rck_k2 {f f1 : Nat → Int64} {k k1 m op r n : Int} {q q2 : Nat → Int64} (h : n = NED op) (hn : n = 2) (h0 : 0 ≤ k) (hk : n ≤ k) (P : REQ (PA f1 k1) q2 r (RK2 m op (PA f k) q)) : REQ (PA f1 k1) q2 r (RCK m op (PA f k) q) := by
  unfold RCK
  rw [if_neg (by omega), if_neg (by rw [pa_len]; omega), if_neg (by omega), if_pos (by omega)]
  exact P
theorem rck_k4 {f f1 : Nat → Int64} {k k1 m op r n : Int} {q : Nat → Int64} {a b v : Int64} (h : n = NED op) (hn : n = 4) (h0 : 0 ≤ k) (hk : n ≤ k) (ha : a = BEL (PA f k) 1) (hb : b = BEL (PA f k) 0) (hv : (Int64.toInt a ≤ Int64.toInt b ∧ v = BEL (PA f k) 3) ∨ (¬ (Int64.toInt a ≤ Int64.toInt b) ∧ v = BEL (PA f k) 2)) (P : PEQ (PA f1 k1) r (PSH m (DRP (PA f k) 4) v)) : REQ (PA f1 k1) q r (RCK m op (PA f k) q) := by
  unfold RCK
  rw [if_neg (by omega), if_neg (by rw [pa_len]; omega), if_neg (by omega), if_neg (by omega), ← ha, ← hb]
  have e : (if Int64.toInt a ≤ Int64.toInt b then BEL (PA f k) 3 else BEL (PA f k) 2) = v := by
    rcases hv with ⟨h1, h2⟩ | ⟨h1, h2⟩
    · rw [if_pos h1, h2]
    · rw [if_neg h1, h2]
  rw [e]
  exact req_l P
theorem eqL {a b : Int64} (h : Int64.toInt a = Int64.toInt b) : a = b := Int64.toInt_inj.mp h
theorem neL {a b : Int64} (h : ¬ (Int64.toInt a = Int64.toInt b)) : ¬ (a = b) := fun h9 => h (by rw [h9])
theorem drp_len {f : Nat → Int64} {n k : Int} (h0 : 0 ≤ n) (h1 : 0 ≤ k) (h2 : k ≤ n) : ((DRP (PA f n) k).length : Int) = n - k := by
  unfold DRP
  rw [List.length_take, pa_len]
  omega
theorem drp_l {f : Nat → Int64} {n n1 k : Int} (h0 : 0 ≤ n) (h : (k ≤ 0 ∧ n1 = n) ∨ (0 < k ∧ k < n ∧ n1 = n - k) ∨ (0 < k ∧ n ≤ k ∧ n1 = 0)) : ((DRP (PA f n) k).length : Int) ≤ n1 := by
  rw [← drp_pa (f := f) h0 h, pa_len]
  omega
theorem rk28_3 {m r r1 : Int} {f1 f2 : Nat → Int64} {n1 n2 : Int} {p : List Int64} {a b : Int64} (R : PEQ (PA f1 n1) r1 (PSH m p b)) (P : PEQ (PA f2 n2) r (PSH m (PA f1 n1) a)) (hf : (p.length : Int) ≤ n1) (h : ¬ (r1 = 0)) : r = 3 := by
  have h1 : ¬ ((p.length : Int) < m) := fun h9 => by
    have e : PSH m p b = (p ++ [b], 0) := if_pos h9
    rw [e] at R
    exact h R.1
  have e : PSH m (PA f1 n1) a = (PA f1 n1, 3) := if_neg (by rw [pa_len]; omega)
  rw [e] at P
  exact P.1
