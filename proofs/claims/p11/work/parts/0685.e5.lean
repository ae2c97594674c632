/-! the reference's arithmetic (p8 to p11) -/
theorem bel_at {f : Nat → Int64} {n d : Int} (h0 : 0 ≤ d) (h1 : d < n) : BEL (PA f n) d = f (n - 1 - d).toNat := by
  unfold BEL NG
  rw [pa_len, if_pos (by omega), List.getD_eq_getElem?_getD, pa_at (by omega)]
  rw [show ((n.toNat : Int) - 1 - d).toNat = (n - 1 - d).toNat by omega]
  rfl
theorem bel_r {f : Nat → Int64} {n d : Int} {x : Int32} {z : Int64} (e : f (Int32.toNatClampNeg x) = z) (hx : Int32.toInt x = n - 1 - d) (h0 : 0 ≤ d) (h1 : d < n) : z = BEL (PA f n) d := bel_pa (ngv (n := n) e hx (by omega) (by omega)) (by omega) rfl
theorem bel_d {f : Nat → Int64} {n n1 d : Int} {z : Int64} (h : z = BEL (PA f n1) 0) (hn : n1 = n - d) (h0 : 1 ≤ n1) (hd : 0 ≤ d) : z = BEL (PA f n) d := by
  rw [h, bel_at (by omega) (by omega), bel_at (by omega) (by omega)]
  congr 1
  omega
theorem psh_d {f : Nat → Int64} {n n1 k m r : Int} {p2 : List Int64} {v : Int64} (P : PEQ p2 r (PSH m (PA f n1) v)) (h0 : 0 ≤ n) (hn : n1 = n - k) (hk : 0 ≤ k) (h1 : k ≤ n) : PEQ p2 r (PSH m (DRP (PA f n) k) v) := peq_e P (drp_pa h0 (by omega))
theorem psh_dead {f : Nat → Int64} {n m r : Int} {p2 : List Int64} {v : Int64} (P : PEQ p2 r (PSH m (PA f n) v)) (h0 : 0 ≤ n) (h : n < m) (hr : ¬ (r = 0)) : False := by
  have h1 := P.1
  unfold PSH at h1
  rw [if_pos (by rw [pa_len]; omega)] at h1
  exact hr h1
theorem rk_27r {f g : Nat → Int64} {n n1 n2 m op r r1 : Int} {p2 : List Int64} {q : Nat → Int64} {t : Int64} (ht : t = BEL (PA f n) 0) (R : PEQ (PA g n2) r1 (PSH m (PA f n1) t)) (P : PEQ p2 r (PSH m (PA g n2) t)) (ho : op = 27) (h1 : r1 = 0) (hn : n1 = n - 1) (h0 : 1 ≤ n) (hm : n ≤ m) : REQ p2 q r (RK1 m op (PA f n) q) := by
  refine rk_27 ho ht (peq_e P ?_)
  rw [R.2 h1]
  unfold PSH
  rw [if_pos (by rw [pa_len]; omega)]
  show PA f n1 ++ [t] = _
  have : PA f n = PA f n1 ++ [f n1.toNat] := by
    unfold PA
    rw [show n.toNat = n1.toNat + 1 by omega, List.range_succ, List.map_append]
    rfl
  rw [this, ht, bel_at (by decide) (by omega)]
  congr 3
  omega
theorem lwl {c v : Int64} (h : v = LOWL c) : Int32.toInt64 (Int64.toInt32 c) = v := h.symm
theorem low_of {v z : Int64} {w : Int32} (e1 : Int64.toInt32 v = w) (e2 : Int32.toInt64 w = z) : z = LOWL v := by unfold LOWL; rw [e1, e2]
theorem abr {t a : Int64} (h : (Int64.toInt t < 0 ∧ -t = a) ∨ (¬ (Int64.toInt t < 0) ∧ a = t)) : a = ABL t := by
  unfold ABL
  rcases h with ⟨h, e⟩ | ⟨h, e⟩
  · rw [if_pos h, e]
  · rw [if_neg h, e]
theorem rk_9r {m op r : Int} {p p2 : List Int64} {q : Nat → Int64} {t a v : Int64} (ha : a = ABL t) (hl : v = LOWL a) (ht : t = BEL p 0) (h : PEQ p2 r (PSH m (DRP p 1) v)) (ho : op = 9) : REQ p2 q r (RK1 m op p q) := rk_9 ho ht ha rfl (lwl hl) h
/-- its root -/
def BIT : Nat → Int
  | 0 => 0
  | e + 1 => ((2 ^ e : Nat) : Int)
def RTI (v r : Int64) (b : Int) : Prop := ∃ e : Nat, e ≤ 32 ∧ RTX v 32 0 = RTX v e r ∧ b = BIT e
theorem rti_0 {v : Int64} {b : Int} (h : b = 2147483648) : RTI v 0 b := ⟨32, Nat.le_refl _, rfl, by rw [h]; rfl⟩
theorem rti_e {v r : Int64} {b : Int} (h : RTI v r b) (hb : b ≤ 0) : r = RTX v 32 0 := by
  obtain ⟨e, _, h1, h2⟩ := h
  cases e with
  | zero => rw [h1]; rfl
  | succ e =>
    exfalso
    have : 0 < 2 ^ e := Nat.two_pow_pos e
    have h3 : b = ((2 ^ e : Nat) : Int) := h2
    omega
theorem rti_s {v r t m r2 : Int64} {z : Int64} {b2 : Int} (h : RTI v r (Int64.toInt z)) (hz : 0 < Int64.toInt z) (e1 : r + z = t) (e2 : t * t = m) (hb : b2 = Int64.toInt z / 2) (hr : (Int64.toInt m ≤ Int64.toInt v ∧ r2 = t) ∨ (¬ (Int64.toInt m ≤ Int64.toInt v) ∧ r2 = r)) : RTI v r2 b2 := by
  obtain ⟨e, h0, h1, h2⟩ := h
  cases e with
  | zero => have h3 : Int64.toInt z = 0 := h2; omega
  | succ e =>
    have h3 : Int64.toInt z = ((2 ^ e : Nat) : Int) := h2
    have hlt : 2 ^ e ≤ 2 ^ 31 := Nat.pow_le_pow_right (by decide) (by omega)
    have ez : z = Int64.ofNat (2 ^ e) := by
      apply Int64.toInt_inj.mp
      rw [h3, Int64.toInt_ofNat_of_lt (by omega)]
    refine ⟨e, by omega, ?_, ?_⟩
    · rw [h1]
      show RTX v e (if Int64.toInt ((r + Int64.ofNat (2 ^ e)) * (r + Int64.ofNat (2 ^ e))) ≤ Int64.toInt v then r + Int64.ofNat (2 ^ e) else r) = _
      rw [← ez, e1, e2]
      rcases hr with ⟨h, h5⟩ | ⟨h, h5⟩
      · rw [if_pos h, h5]
      · rw [if_neg h, h5]
    · rw [hb, h3]
      cases e with
      | zero => rfl
      | succ e =>
        show ((2 ^ (e + 1) : Nat) : Int) / 2 = ((2 ^ e : Nat) : Int)
        rw [Nat.pow_succ]
        omega
theorem rk_26r {m r : Int} {f g : Nat → Int64} {n n1 : Int} {q : Nat → Int64} {t a v : Int64} (ht : t = BEL (PA f n) 0) (ea : t * 65536 = a) (ev : v = RTX a 32 0) (P : PEQ (PA g n1) r (PSH m (DRP (PA f n) 1) v)) (h : ¬ (Int64.toInt t < 0)) (h0 : 1 ≤ n) : REQ (PA g n1) q r (RCR m 26 (PA f n) q) := by
  unfold RCR
  rw [if_pos rfl, if_neg (by rw [pa_len]; omega), ← ht, if_neg h, ea, ← ev]
  exact req_l P
theorem rk_26s {m r : Int} {f : Nat → Int64} {n : Int} {p : List Int64} {q : Nat → Int64} {t : Int64} (ht : t = BEL (PA f n) 0) (h : Int64.toInt t < 0) (h0 : 1 ≤ n) (hr : r = 9) : REQ p q r (RCR m 26 (PA f n) q) := by
  unfold RCR
  rw [if_pos rfl, if_neg (by rw [pa_len]; omega), ← ht, if_pos h]
  exact req_f hr (by decide)
theorem rk_26t {m r : Int} {f : Nat → Int64} {n : Int} {p : List Int64} {q : Nat → Int64} (h0 : n < 1) (hr : r = 2) : REQ p q r (RCR m 26 (PA f n) q) := by
  unfold RCR
  rw [if_pos rfl, if_pos (by rw [pa_len]; omega)]
  exact req_f hr (by decide)
theorem whr {p : List Int64} {d : Int} {z w : Int64} (h : z = BEL p d) (e : w = z >>> 16) : w = BEL p d >>> 16 := by rw [e, h]
/-- a roll, the reference's way -/
theorem rem_inI {a b : Int32} (hb : 1 ≤ Int32.toInt b) : Int32.toInt (a - a / b * b) = (Int32.toInt a).tmod (Int32.toInt b) := by
  have ra := fb_rng a
  have rb := fb_rng b
  have e := Int.mul_tdiv_add_tmod (Int32.toInt a) (Int32.toInt b)
  have hm : (Int32.toInt a < 0 → -(Int32.toInt b) < (Int32.toInt a).tmod (Int32.toInt b) ∧ (Int32.toInt a).tmod (Int32.toInt b) ≤ 0) ∧ (0 ≤ Int32.toInt a → 0 ≤ (Int32.toInt a).tmod (Int32.toInt b) ∧ (Int32.toInt a).tmod (Int32.toInt b) < Int32.toInt b) := by
    constructor
    · intro h
      have h1 := Int.tmod_nonneg (a := -Int32.toInt a) (Int32.toInt b) (by omega)
      have h2 := Int.tmod_lt_of_pos (-Int32.toInt a) (show 0 < Int32.toInt b by omega)
      rw [Int.neg_tmod] at h1 h2
      omega
    · intro h
      exact ⟨Int.tmod_nonneg _ h, Int.tmod_lt_of_pos _ (by omega)⟩
  have hA : (Int32.toInt a).tmod (Int32.toInt b) ≤ Int32.toInt a ∨ Int32.toInt a < 0 := by
    by_cases h : Int32.toInt a < 0
    · exact Or.inr h
    · refine Or.inl ?_
      have h1 : 0 ≤ (Int32.toInt a).tdiv (Int32.toInt b) := Int.tdiv_nonneg (by omega) (by omega)
      have h2 := Int.mul_nonneg (show 0 ≤ Int32.toInt b by omega) h1
      omega
  have hB : Int32.toInt a ≤ (Int32.toInt a).tmod (Int32.toInt b) ∨ 0 ≤ Int32.toInt a := by
    by_cases h : 0 ≤ Int32.toInt a
    · exact Or.inr h
    · refine Or.inl ?_
      have h1 : 0 ≤ (-Int32.toInt a).tdiv (Int32.toInt b) := Int.tdiv_nonneg (by omega) (by omega)
      have h2 := Int.mul_nonneg (show 0 ≤ Int32.toInt b by omega) h1
      rw [Int.neg_tdiv, Int.mul_neg] at h2
      omega
  have hd : -2147483648 ≤ (Int32.toInt a).tdiv (Int32.toInt b) ∧ (Int32.toInt a).tdiv (Int32.toInt b) < 2147483648 := by
    have key : ∀ d : Int, 0 ≤ d → d ≤ Int32.toInt b * d := fun d h => by
      have := Int.mul_le_mul_of_nonneg_right hb h
      omega
    by_cases h : 0 ≤ (Int32.toInt a).tdiv (Int32.toInt b)
    · have := key _ h
      have h3 := hm
      by_cases h4 : Int32.toInt a < 0
      · have := hm.1 h4; omega
      · have := hm.2 (by omega); omega
    · have h1 := key (-(Int32.toInt a).tdiv (Int32.toInt b)) (by omega)
      rw [Int.mul_neg] at h1
      by_cases h4 : Int32.toInt a < 0
      · have := hm.1 h4; omega
      · have := hm.2 (by omega); omega
  have t1 : Int32.toInt (a / b) = (Int32.toInt a).tdiv (Int32.toInt b) := by
    rw [Int32.toInt_div]
    exact fb_bmod hd.1 hd.2
  have e2 : (Int32.toInt a).tdiv (Int32.toInt b) * Int32.toInt b = Int32.toInt b * (Int32.toInt a).tdiv (Int32.toInt b) := Int.mul_comm _ _
  have t2 : Int32.toInt (a / b * b) = Int32.toInt (a / b) * Int32.toInt b := fb_mulI (by rw [t1, e2]; by_cases h4 : Int32.toInt a < 0; have := hm.1 h4; omega; have := hm.2 (by omega); omega) (by rw [t1, e2]; by_cases h4 : Int32.toInt a < 0; have := hm.1 h4; omega; have := hm.2 (by omega); omega)
  rw [fb_subI (by rw [t2, t1, e2]; by_cases h4 : Int32.toInt a < 0; have := hm.1 h4; omega; have := hm.2 (by omega); omega) (by rw [t2, t1, e2]; by_cases h4 : Int32.toInt a < 0; have := hm.1 h4; omega; have := hm.2 (by omega); omega), t2, t1, e2]
  omega
theorem mod_fl {x y a s r : Int64} (e3 : s - s / y * y = r) (e2 : a + y = s) (e1 : x - x / y * y = a) (hy : 1 ≤ Int64.toInt y) (hs : Int64.toInt s = Int64.toInt a + Int64.toInt y) (h0 : 0 ≤ Int64.toInt s) : Int64.toInt r = Int64.toInt x % Int64.toInt y := by
  have h1 := rem_in (a := x) hy
  have h2 := rem_in (a := s) hy
  rw [e1] at h1
  rw [e3] at h2
  rw [h2, Int.tmod_eq_emod_of_nonneg h0, hs, h1, Int.add_emod_right]
  rw [Int.tmod_eq_emod]
  split
  · rw [show ((0 : Nat) : Int) = 0 from rfl, Int.sub_zero]
    exact Int.emod_emod_of_dvd _ (Int.dvd_refl _)
  · rw [show (((Int64.toInt y).natAbs : Nat) : Int) = Int64.toInt y by omega, Int.sub_emod_right]
    exact Int.emod_emod_of_dvd _ (Int.dvd_refl _)
theorem rmd {a b z : Int32} (e : a - a / b * b = z) (hb : 1 ≤ Int32.toInt b) (h0 : 0 ≤ Int32.toInt a) (h1 : Int32.toInt a < 2 * Int32.toInt b) : (Int32.toInt a < Int32.toInt b ∧ Int32.toInt z = Int32.toInt a) ∨ (Int32.toInt b ≤ Int32.toInt a ∧ Int32.toInt z = Int32.toInt a - Int32.toInt b) := by
  have h := rem_inI (a := a) hb
  rw [e, Int.tmod_eq_emod_of_nonneg h0] at h
  by_cases hc : Int32.toInt a < Int32.toInt b
  · rw [Int.emod_eq_of_lt h0 hc] at h
    exact Or.inl ⟨hc, h⟩
  · rw [← Int.sub_emod_right, Int.emod_eq_of_lt (by omega) (by omega)] at h
    exact Or.inr ⟨by omega, h⟩
def RL1 (f g : Nat → Int64) (b m u k : Int) : Prop := ∀ j : Int, 0 ≤ j → j < k → g (if j + u < m then j + u else j + u - m).toNat = f (b + j).toNat
theorem rl1_0 {f g : Nat → Int64} {b m u k : Int} (h : k = 0) : RL1 f g b m u k := fun j h0 h1 => by omega
theorem rl1_s {f g g2 : Nat → Int64} {b m u k k2 : Int} {x y : Int32} {z : Int64} (h : RL1 f g b m u k) (e1 : f (Int32.toNatClampNeg y) = z) (e2 : vp_updL g (Int32.toNatClampNeg x) z = g2) (hy : Int32.toInt y = b + k) (hx : (k + u < m ∧ Int32.toInt x = k + u) ∨ (m ≤ k + u ∧ Int32.toInt x = k + u - m)) (h0 : 0 ≤ k) (hk : k < m) (hu : 0 ≤ u ∧ u < m) (hb : 0 ≤ b) (e : k2 = k + 1) : RL1 f g2 b m u k2 := by
  intro j h1 h2
  have hc : Int32.toNatClampNeg x = (Int32.toInt x).toNat := rfl
  have hd : Int32.toNatClampNeg y = (b + k).toNat := by show (Int32.toInt y).toNat = _; rw [hy]
  rw [hd] at e1
  rw [← e2, updL_eq, hc]
  by_cases hj : j = k
  · subst hj
    rw [if_pos (by split <;> omega), e1]
  · rw [if_neg (by split <;> omega)]
    exact h j h1 (by omega)
def RL2 (f0 f g : Nat → Int64) (b k : Int) : Prop := ∀ i : Nat, f i = if b ≤ i ∧ (i : Int) < b + k then g ((i : Int) - b).toNat else f0 i
theorem rl2_0 {f g : Nat → Int64} {b k : Int} (h : k = 0) : RL2 f f g b k := fun i => by rw [if_neg (by omega)]
theorem rl2_s {f0 f f2 g : Nat → Int64} {b k k2 : Int} {x y : Int32} {z : Int64} (h : RL2 f0 f g b k) (e1 : g (Int32.toNatClampNeg y) = z) (e2 : vp_updL f (Int32.toNatClampNeg x) z = f2) (hy : Int32.toInt y = k) (hx : Int32.toInt x = b + k) (h0 : 0 ≤ k) (hb : 0 ≤ b) (e : k2 = k + 1) : RL2 f0 f2 g b k2 := by
  intro i
  have hc : Int32.toNatClampNeg x = (b + k).toNat := by show (Int32.toInt x).toNat = _; rw [hx]
  have hd : Int32.toNatClampNeg y = k.toNat := by show (Int32.toInt y).toNat = _; rw [hy]
  rw [hd] at e1
  rw [← e2, updL_eq, hc]
  by_cases hi : i = (b + k).toNat
  · rw [if_pos hi, if_pos (by omega), ← e1]
    congr 1
    omega
  · rw [if_neg hi, h i]
    by_cases hj : b ≤ i ∧ (i : Int) < b + k
    · rw [if_pos hj, if_pos (by omega)]
    · rw [if_neg hj, if_neg (by omega)]
theorem rol_r {f0 f g : Nat → Int64} {k k1 m n up r b u c d : Int} {q : Nat → Int64} (h1 : RL1 f0 g b n u c) (h2 : RL2 f0 f g b d) (hu : u = up % n) (hc : c = n) (hd : d = n) (h0 : 0 < n) (h : n ≤ k - 2) (hk : k1 = k - 2) (hb : b = k1 - n) (hr : r = 0) : REQ (PA f k1) q r (ROL m (PA f0 k) q n up) := by
  subst hr
  rw [hc] at h1
  rw [hd] at h2
  unfold ROL
  rw [if_neg (by omega), if_neg (by rw [pa_len]; omega), if_neg (by omega)]
  refine ⟨rfl, fun _ => ⟨?_, fun _ _ => rfl⟩⟩
  show PA f k1 = ROT (DRP (PA f0 k) 2) n.toNat (up % n).toNat
  rw [← drp_pa (f := f0) (n := k) (n1 := k1) (k := 2) (by omega) (by omega), ← hu]
  have hu0 : 0 ≤ u := by rw [hu]; exact Int.emod_nonneg _ (by omega)
  have hu1 : u < n := by rw [hu]; exact Int.emod_lt_of_pos _ h0
  unfold ROT
  rw [pa_len]
  unfold PA
  refine List.map_congr_left (fun i hi => ?_)
  have hi2 := List.mem_range.mp hi
  have ga : ∀ j : Nat, j < k1.toNat → ((List.range k1.toNat).map f0).getD j 0 = f0 j := fun j hj => by
    rw [List.getD_eq_getElem?_getD, List.getElem?_map, List.getElem?_range hj]
    rfl
  rw [h2 i]
  by_cases hj : b ≤ i ∧ (i : Int) < b + n
  · rw [if_pos hj, if_pos (by omega)]
    by_cases hw : i < k1.toNat - n.toNat + u.toNat
    · have := h1 ((i : Int) - b - u + n) (by omega) (by omega)
      rw [if_neg (by omega), show ((i : Int) - b - u + n + u - n).toNat = ((i : Int) - b).toNat by omega] at this
      rw [if_pos hw, ga _ (by omega), this]
      congr 1
      omega
    · have := h1 ((i : Int) - b - u) (by omega) (by omega)
      rw [if_pos (by omega), show ((i : Int) - b - u + u).toNat = ((i : Int) - b).toNat by omega] at this
      rw [if_neg hw, ga _ (by omega), this]
      congr 1
      omega
  · rw [if_neg hj, if_neg (by omega), ga _ hi2]
theorem rol_r2 {f0 f g : Nat → Int64} {k k1 m n up r b u c d m1 y w : Int} {q : Nat → Int64} (h1 : RL1 f0 g b m1 u c) (h2 : RL2 f0 f g b d) (hq : w = up % y) (hw : u = w) (hy : y = n) (hm : m1 = n) (hc : c = n) (hd : d = n) (h0 : 0 < n) (h : n ≤ k - 2) (hk : k1 = k - 2) (hb : b = k1 - n) (hr : r = 0) : REQ (PA f k1) q r (ROL m (PA f0 k) q n up) := by
  subst hm hy
  exact rol_r h1 h2 (hw.trans hq) hc hd h0 h hk hb hr
