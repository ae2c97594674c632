/-! the reference's draw (p8 to p11) -/
theorem isbn {r : Int} {P : Prop} (h : ISB r P) (hr : r = 0) : ¬ P := by
  rcases h with h | h
  · exact absurd (h.1.symm.trans hr) (by decide)
  · exact h.2
theorem isby {r : Int} {P : Prop} (h : ISB r P) (hr : r = 1) : P := by
  rcases h with h | h
  · exact h.2
  · exact absurd (h.1.symm.trans hr) (by decide)
theorem and255 (z : Int32) : 0 ≤ Int32.toInt (z &&& 255) ∧ Int32.toInt (z &&& 255) ≤ 255 := and_255 z
theorem mpx_b {st sz pl : Nat → Int32} {s k : Int} : BYG (MPX st sz pl s k) := by
  intro x hx
  unfold MPX at hx
  obtain ⟨i, _, e⟩ := List.mem_map.mp hx
  rw [← e]
  exact and255 _
theorem tby_m {fam s : Int} {m st sz pl : Nat → Int32} : TBY (MTB fam m st sz pl s) := by
  intro k g h
  unfold MTB at h
  by_cases hc : 0 ≤ fam ∧ 0 ≤ s ∧ s < 3 ∧ 0 ≤ k ∧ k < Int32.toInt (m s.toNat) ∧ 0 ≤ Int32.toInt (sz (1600 * s + k).toNat)
  · rw [if_pos hc] at h
    rw [← Option.some.inj h]
    exact mpx_b
  · rw [if_neg hc] at h
    exact absurd h (by intro h9; cases h9)
theorem frk_0 {g : List Int} (h : BYG g) : FRK (g, 0) := ⟨Int.le_refl _, by show (0 : Int) ≤ (g.length : Int); omega, h⟩
theorem m8r_c {fam k : Int} {m st sz pl os oo oa os1 oo1 oa1 : Nat → Int32} {x y z a b : Int32} (h : THR fam m sz 0 k) (e1 : upd os (Int32.toNatClampNeg x) a = os1) (e2 : upd oo (Int32.toNatClampNeg y) b = oo1) (e3 : upd oa (Int32.toNatClampNeg z) 0 = oa1) (hx : Int32.toInt x = 0) (hy : Int32.toInt y = 0) (hz : Int32.toInt z = 0) (ha : Int32.toInt a = 0) (hb : Int32.toInt b = k) : MCU st sz pl os1 oo1 oa1 0 = (LTP (MTB fam m st sz pl 0) k, 0) := by
  have c1 : Int32.toNatClampNeg x = 0 := by show (Int32.toInt x).toNat = _; rw [hx]; rfl
  have c2 : Int32.toNatClampNeg y = 0 := by show (Int32.toInt y).toNat = _; rw [hy]; rfl
  have c3 : Int32.toNatClampNeg z = 0 := by show (Int32.toInt z).toNat = _; rw [hz]; rfl
  rw [c1] at e1
  rw [c2] at e2
  rw [c3] at e3
  unfold MCU LTP
  rw [← e1, ← e2, ← e3, upd_eq, upd_eq, upd_eq, if_pos rfl, if_pos rfl, if_pos rfl, ha, hb]
  have : MTB fam m st sz pl 0 k = some (MPX st sz pl 0 k) := if_pos h
  rw [this]
  rfl
theorem ltp_b {fam k : Int} {m st sz pl : Nat → Int32} : BYG (LTP (MTB fam m st sz pl 0) k) := by
  unfold LTP
  cases h : MTB fam m st sz pl 0 k with
  | none => intro x hx; exact absurd hx List.not_mem_nil
  | some g => exact tby_m k g h
/-- the start of a run -/
theorem rrv_0 {F : F8} {fam k f s : Int} {m st sz pl os oo oa kd : Nat → Int32} {nb pi q : Nat → Int64} {wh : WH} {x y : Int64} {u ov n j d : Int} (hc : MCU st sz pl os oo oa d.toNat = (LTP (MTB fam m st sz pl 0) k, 0)) (hq : ZRO q 32) (hwh : wh = ((0, 0), 0)) (hx : x = 0) (hy : y = 0) (hu : u = 0) (ho : ov = 0) (hn : n = 0) (hj : j = 0) (hd : d = 0) (hf : f = 0) (hs : s = 0) : RRV F (M8.mk ((0, 0), 0) ([], 0, 0, 0) 0 [] (NQ nofL) (LTP (MTB fam m st sz pl 0) k, 0) []) f (M8.mk wh (PTS kd nb n, x, y, u) ov (PA pi j) (NQ q) (MCU st sz pl os oo oa d.toNat) (MCW st sz pl os oo oa d)) s := by
  subst hx hy hu ho hn hj hd hf hs hwh
  have e : M8.mk ((0, 0), 0) (PTS kd nb 0, 0, 0, 0) 0 (PA pi 0) (NQ q) (MCU st sz pl os oo oa (0 : Int).toNat) (MCW st sz pl os oo oa 0) = M8.mk ((0, 0), 0) ([], 0, 0, 0) 0 [] (NQ nofL) (LTP (MTB fam m st sz pl 0) k, 0) [] := by
    rw [hc, zro_q hq]
    rfl
  rw [e]
  refine Or.inl ⟨rfl, ⟨fun v hv => absurd hv List.not_mem_nil, fun j => ?_, frk_0 ltp_b, fun v hv => absurd hv List.not_mem_nil, (by show (0 : Int) ≤ 48; decide), Int.le_refl _⟩, rfl⟩
  show I32 (NQ nofL j)
  unfold NQ nofL
  split <;> exact i32_0
theorem rrv_e {F : F8} {s0 : M8} {f k : Int} {wa ht u ov : Int} {wd x y : Int64} {P : PRT2} {p : List Int64} {q : Nat → Int64} {c : FR8} {w : List FR8} (R : RRV F s0 f (M8.mk ((wa, wd), ht) (P, x, y, u) ov p q c w) k) (h : ¬ (f = 0) ∨ ¬ (ov = 0)) : ((P, k, ht, c.2, wd) : DW) = (DWC (RUN F 3001 s0 0)).1 := by
  rcases R with ⟨a, _, b⟩ | ⟨a, b⟩
  · have ho : ¬ (ov = 0) := h.resolve_left (fun h9 => h9 a)
    have e : RUN F (3001 - k).toNat (M8.mk ((wa, wd), ht) (P, x, y, u) ov p q c w) k = (M8.mk ((wa, wd), ht) (P, x, y, u) ov p q c w, 0, k) := by
      cases (3001 - k).toNat with
      | zero => rfl
      | succ n => exact if_pos ho
    rw [b, e]
    rfl
  · rw [← b]
theorem rr9_0 {tl : Int → Option (List Int)} {lim m9 : Int} {fam k f s : Int} {m st sz pl os oo oa kd : Nat → Int32} {nb pi g : Nat → Int64} {wd x y : Int64} {u ov n j d fl a : Int} {K : KP} (hc : MCU st sz pl os oo oa d.toNat = (LTP (MTB fam m st sz pl 0) k, 0)) (hwd : wd = 0) (hx : x = 0) (hy : y = 0) (hu : u = 0) (ho : ov = 0) (hn : n = 0) (hj : j = 0) (hd : d = 0) (hf : f = 0) (hs : s = 0) (hfl : fl = 0) (ha : a = 0) : RR9 tl lim m9 (T8.mk 0 ([], 0, 0, 0) 0 [] (LTP (MTB fam m st sz pl 0) k, 0) [] 0 K []) f (T8.mk wd (PTS kd nb n, x, y, u) ov (PA pi j) (MCU st sz pl os oo oa d.toNat) (MCW st sz pl os oo oa d) fl K (PA g a)) s := by
  subst hx hy hu ho hn hj hd hf hs hwd hfl ha
  have e : T8.mk 0 (PTS kd nb 0, 0, 0, 0) 0 (PA pi 0) (MCU st sz pl os oo oa (0 : Int).toNat) (MCW st sz pl os oo oa 0) 0 K (PA g 0) = T8.mk 0 ([], 0, 0, 0) 0 [] (LTP (MTB fam m st sz pl 0) k, 0) [] 0 K [] := by
    rw [hc]
    rfl
  rw [e]
  exact Or.inl ⟨rfl, ⟨frk_0 ltp_b, fun v hv => absurd hv List.not_mem_nil⟩, rfl⟩
theorem rr9_e {tl tt : Int → Option (List Int)} {lim f k k0 : Int} {u ov fl ht : Int} {wd x y : Int64} {P : PRT2} {p b : List Int64} {c : FR8} {w : List FR8} {kp K : KP} (R : RR9 tl lim 24 (T8.mk 0 ([], 0, 0, 0) 0 [] (LTP tt k0, 0) [] 0 K []) f (T8.mk wd (P, x, y, u) ov p c w fl kp b) k) (h : ¬ (f = 0) ∨ ¬ (ov = 0)) (hh : ht = 0) : ((P, k, ht, c.2, wd) : DW) = (DR9 tl tt k0 lim).1 := by
  have e0 : DW9 (RN9 tl lim 24 3001 (T8.mk 0 ([], 0, 0, 0) 0 [] (LTP tt k0, 0) [] 0 K []) 0) = DR9 tl tt k0 lim := sim_run 3001 _ _ 0 ⟨rfl, rfl, rfl, rfl, rfl, rfl, rfl, rfl, Or.inl rfl⟩
  rw [← e0, hh]
  rcases R with ⟨a, _, b9⟩ | ⟨a, b9⟩
  · have ho : ¬ (ov = 0) := h.resolve_left (fun h9 => h9 a)
    have e : RN9 tl lim 24 (3001 - k).toNat (T8.mk wd (P, x, y, u) ov p c w fl kp b) k = (T8.mk wd (P, x, y, u) ov p c w fl kp b, 0, k) := by
      cases (3001 - k).toNat with
      | zero => rfl
      | succ n => exact if_pos ho
    rw [b9, e]
    rfl
  · exact b9
theorem rr9_k {tl : Int → Option (List Int)} {lim m : Int} {s0 s1 : T8} {f : Int} {t : T8} {k : Int} (R : RR9 tl lim m s0 f t k) (e : s0 = s1) : RR9 tl lim m s1 f t k := e ▸ R
theorem zro_r {f : Nat → Int64} {i : Int} (h : ZRO f i) (hi : 32 ≤ i) : ZRO f 32 := fun j hj => h j (by omega)
