/-! the reference's numbers and calls (p8 to p11) -/
theorem rks_y {n : Nat} {c c1 : FR8} {a a1 a2 r : Int32} (h : ((Int32.toInt r, c1) : Int × FR8) = TKB c) (hr : 0 ≤ Int32.toInt r) (e1 : a <<< (8 &&& 31) = a1) (e2 : a1 ||| r = a2) : TKS (n + 1) c a = TKS n c1 a2 := by
  show (if (TKB c).1 = -1 then _ else TKS n (TKB c).2 ((a <<< (8 &&& 31)) ||| Int32.ofInt (TKB c).1)) = _
  rw [← h]
  rw [if_neg (by show ¬ (Int32.toInt r = -1); omega)]
  show TKS n c1 ((a <<< (8 &&& 31)) ||| Int32.ofInt (Int32.toInt r)) = _
  rw [Int32.ofInt_toInt, e1, e2]
theorem rks_n {n : Nat} {c c1 : FR8} {a : Int32} {r : Int} (h : ((r, c1) : Int × FR8) = TKB c) (hr : r = -1) : TKS (n + 1) c a = (a, c1, 7) := by
  show (if (TKB c).1 = -1 then (a, (TKB c).2, 7) else _) = _
  rw [← h, if_pos hr]
theorem rkn_7 {fam m x r : Int} {p p1 : List Int64} {c c1 : FR8} {k : Nat} {a : Int32} (hk : (BHN x).toNat = k) (h : TKS k c 0 = (a, c1, 7)) (hr : r = 7) : NEQ p1 c1 r (TKN fam m x (p, c)) := by
  unfold TKN
  show NEQ p1 c1 r (if (TKS (BHN x).toNat c 0).2.2 = 0 then _ else ((p, (TKS (BHN x).toNat c 0).2.1), 7))
  rw [hk, h, if_neg (by show ¬ ((7 : Int) = 0); decide)]
  exact ⟨hr, rfl, fun h => absurd (hr.symm.trans h) (by decide)⟩
theorem rkn_v {fam m x r : Int} {p p1 : List Int64} {c c1 : FR8} {k : Nat} {a : Int32} {v : Int64} (hk : (BHN x).toNat = k) (h : TKS k c 0 = (a, c1, 0)) (hv : v = NUMV fam x a) (P : PEQ p1 r (PSH m p v)) : NEQ p1 c1 r (TKN fam m x (p, c)) := by
  unfold TKN
  show NEQ p1 c1 r (if (TKS (BHN x).toNat c 0).2.2 = 0 then (((PSH m p (NUMV fam x (TKS (BHN x).toNat c 0).1)).1, (TKS (BHN x).toNat c 0).2.1), (PSH m p (NUMV fam x (TKS (BHN x).toNat c 0).1)).2) else _)
  rw [hk, h, if_pos rfl]
  show NEQ p1 c1 r (((PSH m p (NUMV fam x a)).1, c1), (PSH m p (NUMV fam x a)).2)
  rw [← hv]
  exact ⟨P.1, rfl, P.2⟩
theorem rumv_f {x : Int} {a : Int32} {v : Int64} (hx : x = 255) (e : Int32.toInt64 a = v) : v = NUMV 0 x a := by
  unfold NUMV; rw [if_pos hx, if_pos rfl, e]
theorem rumv_1 {x : Int} {a : Int32} {v w : Int64} (hx : x = 255) (e2 : w * 65536 = v) (e : Int32.toInt64 a = w) : v = NUMV 1 x a := by
  unfold NUMV; rw [if_pos hx, if_neg (by decide), e, e2]
theorem rumv_w {fam x k : Int} {a z : Int32} {v w : Int64} (hx : ¬ (x = 255)) (e2 : w * 65536 = v) (e : Int32.toInt64 z = w) (hk : Int32.toInt z = k) (h : k = WHN x (Int32.toInt a)) : v = NUMV fam x a := by
  unfold NUMV; rw [if_neg hx, ← h, ← hk, Int32.ofInt_toInt, e, e2]
theorem rhn_28 {x k b : Int} (hx : x = 28) (h : k = s16 b) : k = WHN x b := by unfold WHN; rw [if_pos hx, h]
theorem rhn_b {x k b : Int} (hx : ¬ (x = 28)) (h : (x ≤ 246 ∧ k = x - 139) ∨ (246 < x ∧ x ≤ 250 ∧ k = (x - 247) * 256 + b + 108) ∨ (250 < x ∧ k = -(x - 251) * 256 - b - 108)) : k = WHN x b := by
  unfold WHN
  rw [if_neg hx]
  split
  · omega
  · split <;> omega
theorem rbhn_of {x : Int} {k : Nat} (h : (x = 28 ∧ k = 2) ∨ (x = 255 ∧ k = 4) ∨ (247 ≤ x ∧ ¬ (x = 255) ∧ k = 1) ∨ (x < 247 ∧ ¬ (x = 28) ∧ k = 0)) : (BHN x).toNat = k := by
  unfold BHN
  split
  · omega
  · split
    · omega
    · split <;> omega
theorem or_0 {r z : Int32} (e : 0 ||| r = z) : Int32.toInt z = Int32.toInt r := by rw [← e]; congr 1; exact Int32.zero_or
theorem mcw_c {st sz pl os oo oa oa1 oa2 : Nat → Int32} {d : Int} (h2 : MCW st sz pl os oo oa2 d = MCW st sz pl os oo oa1 d) (h1 : MCW st sz pl os oo oa1 d = MCW st sz pl os oo oa d) : MCW st sz pl os oo oa2 d = MCW st sz pl os oo oa d := h2.trans h1
/-- the reference's table of programs -/
def MTB (fam : Int) (m st sz pl : Nat → Int32) (s k : Int) : Option (List Int) := if 0 ≤ fam ∧ 0 ≤ s ∧ s < 3 ∧ 0 ≤ k ∧ k < Int32.toInt (m s.toNat) ∧ 0 ≤ Int32.toInt (sz (1600 * s + k).toNat) then some (MPX st sz pl s k) else none
theorem mtb_o {fam s k : Int} {m st sz pl : Nat → Int32} (C : ∀ j : Nat, 0 ≤ Int32.toInt (m j) ∧ Int32.toInt (m j) ≤ 1600) (h : k < 0 ∨ 10000 < k) : MTB fam m st sz pl s k = none := by
  have := C s.toNat
  exact if_neg (by omega)
theorem mtb_n {fam s k k2 r : Int} {m st sz pl : Nat → Int32} (h : ISB r (THR fam m sz s k2)) (hr : r = 0) (hk : k2 = k) : MTB fam m st sz pl s k = none := by
  subst hk
  rcases h with h | h
  · exact absurd (h.1.symm.trans hr) (by decide)
  · exact if_neg h.2
theorem mtb_y {fam s k k2 r : Int} {m st sz pl : Nat → Int32} (h : ISB r (THR fam m sz s k2)) (hr : r = 1) (hk : k2 = k) : MTB fam m st sz pl s k = some (MPX st sz pl s k) := by
  subst hk
  rcases h with h | h
  · exact if_pos h.2
  · exact absurd (h.1.symm.trans hr) (by decide)
def CL1 (tab : Int → Option (List Int)) (k : Int) (s : CK) : CK × Int := match tab k with
  | none => (s, 4)
  | some g => if 10 ≤ s.2.2.length then (s, 5) else ((s.1, (g, 0), s.2.2 ++ [s.2.1]), 0)
theorem cl1_4 {tab : Int → Option (List Int)} {k r : Int} {p p1 : List Int64} {c : FR8} {w w1 : List FR8} (h : tab k = none) (hr : r = 4) : KEQ p1 c w1 r (CL1 tab k (p, c, w)) := by
  unfold CL1
  rw [h]
  exact ⟨hr, rfl, fun h => absurd (hr.symm.trans h) (by decide)⟩
theorem cl1_5 {tab : Int → Option (List Int)} {k r : Int} {p p1 : List Int64} {c : FR8} {w w1 : List FR8} {g : List Int} (h : tab k = some g) (hw : 10 ≤ w.length) (hr : r = 5) : KEQ p1 c w1 r (CL1 tab k (p, c, w)) := by
  unfold CL1
  rw [h]
  show KEQ p1 c w1 r (if 10 ≤ w.length then ((p, c, w), 5) else _)
  rw [if_pos hw]
  exact ⟨hr, rfl, fun h => absurd (hr.symm.trans h) (by decide)⟩
theorem cl1_0 {tab : Int → Option (List Int)} {k r : Int} {p : List Int64} {c c1 : FR8} {w w1 : List FR8} {g : List Int} (h : tab k = some g) (hw : w.length < 10) (hr : r = 0) (hc : c1 = (g, 0)) (h1 : w1 = w ++ [c]) : KEQ p c1 w1 r (CL1 tab k (p, c, w)) := by
  unfold CL1
  rw [h]
  show KEQ p c1 w1 r (if 10 ≤ w.length then _ else ((p, (g, 0), w ++ [c]), 0))
  rw [if_neg (by omega)]
  exact ⟨hr, hc, fun _ => ⟨rfl, h1⟩⟩
theorem rll_1 {tab : Int → Option (List Int)} {b k r n n1 : Int} {f : Nat → Int64} {c c1 : FR8} {w w1 : List FR8} {x : Int32} {v t : Int64} (K : ∀ p : List Int64, KEQ p c1 w1 r (CL1 tab k (p, c, w))) (e : f (Int32.toNatClampNeg x) = v) (ev : t = v >>> 16) (hx : Int32.toInt x = n1) (h0 : 1 ≤ n) (hn : n1 = n - 1) (hk : k = Int64.toInt t + b) : KEQ (PA f n1) c1 w1 r (CLL tab b (PA f n, c, w)) := by
  have e1 : WHL (PA f n) 0 = Int64.toInt t := by
    unfold WHL BEL
    rw [ev, ng_pa (n := n) (i := ((PA f n).length : Int) - 1 - 0) e (by rw [hx, pa_len]; omega) (by rw [pa_len]; omega) (by rw [pa_len]; omega)]
  have e2 : PA f n1 = DRP (PA f n) 1 := drp_pa (by omega) (by omega)
  have K1 := K (PA f n1)
  unfold CLL
  show KEQ _ c1 w1 r (if (PA f n).length < 1 then _ else match tab (WHL (PA f n) 0 + b) with | none => ((PA f n, c, w), 4) | some g => if 10 ≤ w.length then ((PA f n, c, w), 5) else ((DRP (PA f n) 1, (g, 0), w ++ [c]), 0))
  rw [if_neg (by rw [pa_len]; omega), e1, ← hk, ← e2]
  unfold CL1 at K1
  cases ht : tab k with
  | none => rw [ht] at K1; exact ⟨K1.1, K1.2.1, fun h => absurd (show (4 : Int) = 0 from K1.1.symm.trans h) (by decide)⟩
  | some g =>
    rw [ht] at K1
    have K2 : KEQ (PA f n1) c1 w1 r (if 10 ≤ w.length then ((PA f n1, c, w), 5) else ((PA f n1, (g, 0), w ++ [c]), 0)) := K1
    show KEQ _ c1 w1 r (if 10 ≤ w.length then ((PA f n, c, w), 5) else ((PA f n1, (g, 0), w ++ [c]), 0))
    by_cases hw : 10 ≤ w.length
    · rw [if_pos hw] at K2 ⊢; exact ⟨K2.1, K2.2.1, fun h => absurd (show (5 : Int) = 0 from K2.1.symm.trans h) (by decide)⟩
    · rw [if_neg hw] at K2 ⊢; exact K2
theorem rll_2 {tab : Int → Option (List Int)} {b r n n1 : Int} {f : Nat → Int64} {c : FR8} {w w1 : List FR8} (h : n < 1) (hr : r = 2) : KEQ (PA f n1) c w1 r (CLL tab b (PA f n, c, w)) := by
  unfold CLL
  rw [if_pos (by show (PA f n).length < 1; rw [pa_len]; omega)]
  exact ⟨hr, rfl, fun h => absurd (hr.symm.trans h) (by decide)⟩
theorem mcu_up {st sz pl os oo oa os1 oo1 oa1 : Nat → Int32} {d1 s k : Int} {x a b : Int32} (e1 : upd os (Int32.toNatClampNeg x) a = os1) (e2 : upd oo (Int32.toNatClampNeg x) b = oo1) (e3 : upd oa (Int32.toNatClampNeg x) 0 = oa1) (hx : Int32.toInt x = d1) (hs : Int32.toInt a = s) (hk : Int32.toInt b = k) : MCU st sz pl os1 oo1 oa1 d1.toNat = (MPX st sz pl s k, 0) := by
  have hc : Int32.toNatClampNeg x = d1.toNat := by show (Int32.toInt x).toNat = _; rw [hx]
  rw [hc] at e1 e2 e3
  unfold MCU
  rw [← e1, ← e2, ← e3, upd_eq, upd_eq, upd_eq, if_pos rfl, if_pos rfl, if_pos rfl, hs, hk]
  rfl
theorem mcw_up {st sz pl os oo oa os1 oo1 oa1 : Nat → Int32} {d d1 : Int} {x a b : Int32} (e1 : upd os (Int32.toNatClampNeg x) a = os1) (e2 : upd oo (Int32.toNatClampNeg x) b = oo1) (e3 : upd oa (Int32.toNatClampNeg x) 0 = oa1) (hx : Int32.toInt x = d1) (hd : d1 = d + 1) (h0 : 0 ≤ d) : MCW st sz pl os1 oo1 oa1 d1 = MCW st sz pl os oo oa d ++ [MCU st sz pl os oo oa d.toNat] := by
  have hc : Int32.toNatClampNeg x = d1.toNat := by show (Int32.toInt x).toNat = _; rw [hx]
  rw [hc] at e1 e2 e3
  unfold MCW
  rw [show d1.toNat = d.toNat + 1 by omega, List.range_succ, List.map_append]
  congr 1
  · refine List.map_congr_left (fun i hi => ?_)
    have := List.mem_range.mp hi
    unfold MCU
    rw [← e1, ← e2, ← e3, upd_eq, upd_eq, upd_eq, if_neg (by omega), if_neg (by omega), if_neg (by omega)]
  · show [MCU st sz pl os1 oo1 oa1 d.toNat] = _
    unfold MCU
    rw [← e1, ← e2, ← e3, upd_eq, upd_eq, upd_eq, if_neg (by omega), if_neg (by omega), if_neg (by omega)]
theorem mrt_n {st sz pl os oo oa : Nat → Int32} {d r : Int} {p : List Int64} (h : d = 0) (hr : r = 1) : KEQ p (MCU st sz pl os oo oa d.toNat) (MCW st sz pl os oo oa d) r (RTN (p, MCU st sz pl os oo oa d.toNat, MCW st sz pl os oo oa d)) := by
  unfold RTN
  rw [if_pos (by show (MCW st sz pl os oo oa d).length < 1; rw [mcw_len]; omega)]
  exact ⟨hr, rfl, fun h => absurd (hr.symm.trans h) (by decide)⟩
theorem mrt_y {st sz pl os oo oa : Nat → Int32} {d d1 r : Int} {p : List Int64} (h : 1 ≤ d) (hd : d1 = d - 1) (hr : r = 0) : KEQ p (MCU st sz pl os oo oa d1.toNat) (MCW st sz pl os oo oa d1) r (RTN (p, MCU st sz pl os oo oa d.toNat, MCW st sz pl os oo oa d)) := by
  have e : MCW st sz pl os oo oa d = MCW st sz pl os oo oa d1 ++ [MCU st sz pl os oo oa d1.toNat] := by
    unfold MCW
    rw [show d.toNat = d1.toNat + 1 by omega, List.range_succ, List.map_append]
    rfl
  unfold RTN
  rw [if_neg (by show ¬ ((MCW st sz pl os oo oa d).length < 1); rw [mcw_len]; omega)]
  show KEQ _ _ _ r ((p, (MCW st sz pl os oo oa d).getLastD _, (MCW st sz pl os oo oa d).dropLast), 0)
  rw [e, List.dropLast_concat]
  refine ⟨hr, ?_, fun _ => ⟨rfl, rfl⟩⟩
  show _ = List.getLastD _ _
  rw [List.getLastD_eq_getLast?, List.getLast?_append]
  rfl
theorem dwn {v t : Int64} (e : v >>> (Int32.toInt64 16 &&& 63) = t) : t = v >>> 16 := e.symm
theorem num_28 {a b x z s : Int32} (e3 : (Int32.toInt16 z).toInt32 = s) (e1 : a <<< ((8 : Int32) &&& 31) = x) (e2 : x ||| b = z) (ha : 0 ≤ a.toInt ∧ a.toInt ≤ 255) (hb : 0 ≤ b.toInt ∧ b.toInt ≤ 255) : s.toInt = s16 z.toInt := by
  have ea := nnI2 a ha.1
  have eb := nnI2 b hb.1
  have h1 := shlI a ((8 : Int32) &&& 31) 8 (by decide)
  rw [e1] at h1
  have h2 := orI (a := x) (b := b) 8 a.toBitVec.toNat (by rw [h1]; omega) (by omega)
  rw [e2] at h2
  have h3 := nnI z (by omega)
  exact s16_of e3 (by omega) (by omega)
theorem bia_r {m : Nat → Int32} {x z : Int32} {k t : Int} (e : m (Int32.toNatClampNeg x) = z) (h : (Int32.toInt z < 1240 ∧ k = t + 107) ∨ (1240 ≤ Int32.toInt z ∧ Int32.toInt z < 33900 ∧ k = t + 1131) ∨ (33900 ≤ Int32.toInt z ∧ k = t + 32768)) : k = t + BIA (Int32.toInt (m (Int32.toNatClampNeg x))) := by
  rw [e]
  unfold BIA
  split
  · omega
  · split <;> omega
