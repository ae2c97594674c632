/-! flexes and other subroutines of Type 1 (p8 to p11) -/
def POB (b : List Int64) (v : Int64) : List Int64 := if b.length < 24 then b ++ [v] else b
theorem pob_y {f f1 : Nat → Int64} {n n1 : Int} {x : Int32} {v : Int64} (e : vp_updL f (Int32.toNatClampNeg x) v = f1) (hx : Int32.toInt x = n) (h0 : 0 ≤ n) (h : n < 24) (hn : n1 = n + 1) : PA f1 n1 = POB (PA f n) v := by
  unfold POB
  rw [if_pos (by rw [pa_len]; omega)]
  exact pa_push e hx h0 hn
theorem pob_n {f : Nat → Int64} {n : Int} {v : Int64} (h : 24 ≤ n) : PA f n = POB (PA f n) v := by
  unfold POB
  rw [if_neg (by rw [pa_len]; omega)]
def PAB (p : List Int64) : Nat → List Int64 → List Int64
  | 0, b => b
  | k + 1, b => PAB p k (POB b (BEL p k))
theorem pab_s {p b b0 b1 : List Int64} {d d1 n : Int} {v : Int64} (L : PAB p n.toNat b0 = PAB p (d + 1).toNat b) (hv : v = BEL p d) (h : b1 = POB b v) (h0 : 0 ≤ d) (hd : d1 = d - 1) : PAB p n.toNat b0 = PAB p (d1 + 1).toNat b1 := by
  rw [L, show (d + 1).toNat = (d1 + 1).toNat + 1 by omega, h, hv]
  show PAB p _ (POB b (BEL p _)) = _
  rw [show (((d1 + 1).toNat : Nat) : Int) = d by omega]
theorem pab_0 {p b : List Int64} {d n : Int} (hd : d = n - 1) : PAB p n.toNat b = PAB p (d + 1).toNat b := by rw [hd, Int.sub_add_cancel]
theorem pab_e {p b b0 : List Int64} {d n : Int} (L : PAB p n.toNat b0 = PAB p (d + 1).toNat b) (h : d < 0) : b = PAB p n.toNat b0 := by
  rw [L, show (d + 1).toNat = 0 by omega]; rfl
/-- the points that are kept -/
abbrev KP := List (Int64 × Int64)
def KPS (kx ky : Nat → Int64) (n : Int) : KP := (List.range n.toNat).map fun i => (kx i, ky i)
theorem kps_len {kx ky : Nat → Int64} {n : Int} : (KPS kx ky n).length = n.toNat := by unfold KPS; rw [List.length_map, List.length_range]
theorem kps_push {kx ky kx1 ky1 : Nat → Int64} {n n1 : Int} {z : Int32} {x y : Int64} (e1 : vp_updL kx (Int32.toNatClampNeg z) x = kx1) (e2 : vp_updL ky (Int32.toNatClampNeg z) y = ky1) (hz : Int32.toInt z = n) (h0 : 0 ≤ n) (hn : n1 = n + 1) : KPS kx1 ky1 n1 = KPS kx ky n ++ [(x, y)] := by
  have hc : Int32.toNatClampNeg z = n.toNat := by show (Int32.toInt z).toNat = _; rw [hz]
  rw [hc] at e1 e2
  unfold KPS
  rw [show n1.toNat = n.toNat + 1 by omega, List.range_succ, List.map_append]
  congr 1
  · refine List.map_congr_left (fun i hi => ?_)
    have := List.mem_range.mp hi
    rw [← e1, ← e2, updL_eq, updL_eq, if_neg (by omega), if_neg (by omega)]
  · show [(kx1 n.toNat, ky1 n.toNat)] = [(x, y)]
    rw [← e1, ← e2, updL_eq, updL_eq, if_pos rfl, if_pos rfl]
def KPP (fl : Int) (x y : Int64) (k : KP) : KP × Int := if fl = 0 ∨ 7 ≤ k.length then (k, 9) else (k ++ [(x, y)], 0)
/-- as told; behind a fault it doesn't count -/
def PKQ (k : KP) (r : Int) (q : KP × Int) : Prop := r = q.2 ∧ (r = 0 → k = q.1)
theorem kpp_n {fl r n : Int} {x y : Int64} {kx ky : Nat → Int64} {k1 : KP} (h0 : 0 ≤ n) (h : fl = 0 ∨ 7 ≤ n) (hr : r = 9) : PKQ k1 r (KPP fl x y (KPS kx ky n)) := by
  unfold KPP
  rw [if_pos (by rw [kps_len]; omega)]
  exact ⟨hr, fun h => absurd (hr.symm.trans h) (by decide)⟩
theorem kpp_y {fl r n : Int} {x y : Int64} {kx ky : Nat → Int64} {k1 : KP} (h0 : 0 ≤ n) (h1 : ¬ (fl = 0)) (h : n < 7) (hr : r = 0) (e : k1 = KPS kx ky n ++ [(x, y)]) : PKQ k1 r (KPP fl x y (KPS kx ky n)) := by
  unfold KPP
  rw [if_neg (by rw [kps_len]; omega)]
  exact ⟨hr, fun _ => e⟩
def KX (k : KP) (i : Int) : Int64 := (k.getD i.toNat (0, 0)).1
def KY (k : KP) (i : Int) : Int64 := (k.getD i.toNat (0, 0)).2
theorem kx_of {kx ky : Nat → Int64} {n i : Int} {z : Int32} {v : Int64} (e : kx (Int32.toNatClampNeg z) = v) (hz : Int32.toInt z = i) (h0 : 0 ≤ i) (h : i < n) : v = KX (KPS kx ky n) i := by
  have hc : Int32.toNatClampNeg z = i.toNat := by show (Int32.toInt z).toNat = _; rw [hz]
  rw [hc] at e
  unfold KX KPS
  rw [List.getD_eq_getElem?_getD, List.getElem?_map, List.getElem?_range (by omega), ← e]
  rfl
theorem ky_of {kx ky : Nat → Int64} {n i : Int} {z : Int32} {v : Int64} (e : ky (Int32.toNatClampNeg z) = v) (hz : Int32.toInt z = i) (h0 : 0 ≤ i) (h : i < n) : v = KY (KPS kx ky n) i := by
  have hc : Int32.toNatClampNeg z = i.toNat := by show (Int32.toInt z).toNat = _; rw [hz]
  rw [hc] at e
  unfold KY KPS
  rw [List.getD_eq_getElem?_getD, List.getElem?_map, List.getElem?_range (by omega), ← e]
  rfl
/-- one curve of a flex -/
def FCV (lim : Int) (k : KP) (j : Nat) (o : OU) : OU × Int := CVP lim (KX k (3 * j + 1) - o.2.1) (KY k (3 * j + 1) - o.2.2.1) (KX k (3 * j + 2) - KX k (3 * j + 1)) (KY k (3 * j + 2) - KY k (3 * j + 1)) (KX k (3 * j + 3) - KX k (3 * j + 2)) (KY k (3 * j + 3) - KY k (3 * j + 2)) o
/-- popped from what was put by -/
abbrev PB := List Int64 × List Int64
def POP9 (m : Int) (s : PB) : PB × Int := if s.2.length < 1 then (s, 9) else (((PSH m s.1 (s.2.getLastD 0)).1, s.2.dropLast), (PSH m s.1 (s.2.getLastD 0)).2)
def BEQ (p b : List Int64) (r : Int) (q : PB × Int) : Prop := r = q.2 ∧ (r = 0 → p = q.1.1 ∧ b = q.1.2)
theorem pa_last {f : Nat → Int64} {n n1 : Int} {z : Int32} {v : Int64} (e : f (Int32.toNatClampNeg z) = v) (hz : Int32.toInt z = n1) (h0 : 0 ≤ n1) (hn : n = n1 + 1) : PA f n = PA f n1 ++ [v] := by
  have hc : Int32.toNatClampNeg z = n1.toNat := by show (Int32.toInt z).toNat = _; rw [hz]
  rw [hc] at e
  unfold PA
  rw [show n.toNat = n1.toNat + 1 by omega, List.range_succ, List.map_append]
  congr 1
  show [f n1.toNat] = [v]
  rw [e]
theorem pop_n {m r n : Int} {p p1 b1 : List Int64} {f : Nat → Int64} (h : n < 1) (hr : r = 9) : BEQ p1 b1 r (POP9 m (p, PA f n)) := by
  unfold POP9
  rw [if_pos (by show (PA f n).length < 1; rw [pa_len]; omega)]
  exact ⟨hr, fun h => absurd (hr.symm.trans h) (by decide)⟩
theorem pop_y {m r n n1 n2 : Int} {p p1 : List Int64} {f : Nat → Int64} {v : Int64} (h : 1 ≤ n) (e : PA f n = PA f n1 ++ [v]) (P : PEQ p1 r (PSH m p v)) (hb : r = 0 → n2 = n1) : BEQ p1 (PA f n2) r (POP9 m (p, PA f n)) := by
  unfold POP9
  rw [if_neg (by show ¬ ((PA f n).length < 1); rw [pa_len]; omega)]
  show BEQ _ _ _ (((PSH m p ((PA f n).getLastD 0)).1, (PA f n).dropLast), (PSH m p ((PA f n).getLastD 0)).2)
  rw [e, List.getLastD_concat, List.dropLast_concat]
  exact ⟨P.1, fun h => ⟨P.2 h, by rw [hb h]⟩⟩
theorem fcv_s {lim n : Int} {kx ky : Nat → Int64} {o : OU} {p p2 : PRT2} {x y x2 y2 : Int64} {u r u2 r2 : Int} {k k2 : Nat} {d1 e1 d2 e2 d3 e3 a1 a2 a3 a4 a5 b1 b2 b3 b4 b5 : Int64} {z1 z2 z3 z4 z5 v1 v2 v3 v4 v5 : Int32} (h : OEQ p x y u r (ITP (FCV lim (KPS kx ky n)) k o)) (hr : r = 0) (C : OEQ p2 x2 y2 u2 r2 (CVP lim d1 e1 d2 e2 d3 e3 (p, x, y, u)))
    (s1 : a1 - x = d1) (t1 : b1 - y = e1) (s2 : a2 - a3 = d2) (t2 : b2 - b3 = e2) (s3 : a4 - a5 = d3) (t3 : b4 - b5 = e3)
    (g1 : kx (Int32.toNatClampNeg z1) = a1) (g2 : kx (Int32.toNatClampNeg z2) = a2) (g3 : kx (Int32.toNatClampNeg z3) = a3) (g4 : kx (Int32.toNatClampNeg z4) = a4) (g5 : kx (Int32.toNatClampNeg z5) = a5)
    (l1 : ky (Int32.toNatClampNeg v1) = b1) (l2 : ky (Int32.toNatClampNeg v2) = b2) (l3 : ky (Int32.toNatClampNeg v3) = b3) (l4 : ky (Int32.toNatClampNeg v4) = b4) (l5 : ky (Int32.toNatClampNeg v5) = b5)
    (hz : Int32.toInt z1 = 3 * k + 1 ∧ Int32.toInt z2 = 3 * k + 2 ∧ Int32.toInt z3 = 3 * k + 1 ∧ Int32.toInt z4 = 3 * k + 3 ∧ Int32.toInt z5 = 3 * k + 2) (hv : Int32.toInt v1 = 3 * k + 1 ∧ Int32.toInt v2 = 3 * k + 2 ∧ Int32.toInt v3 = 3 * k + 1 ∧ Int32.toInt v4 = 3 * k + 3 ∧ Int32.toInt v5 = 3 * k + 2) (hn : 3 * (k : Int) + 3 < n) (e : k2 = k + 1) : OEQ p2 x2 y2 u2 r2 (ITP (FCV lim (KPS kx ky n)) k2 o) := by
  refine itp_s h hr ?_ e
  obtain ⟨m1, m2, m3, m4, m5⟩ := hz
  obtain ⟨q1, q2, q3, q4, q5⟩ := hv
  unfold FCV
  rw [← kx_of (ky := ky) (n := n) g1 m1 (by omega) (by omega), ← kx_of (ky := ky) (n := n) g2 m2 (by omega) (by omega), ← kx_of (ky := ky) (n := n) g4 m4 (by omega) (by omega), ← ky_of (kx := kx) (n := n) l1 q1 (by omega) (by omega), ← ky_of (kx := kx) (n := n) l2 q2 (by omega) (by omega), ← ky_of (kx := kx) (n := n) l4 q4 (by omega) (by omega)]
  have f3 : a3 = a1 := by rw [kx_of (ky := ky) (n := n) g1 m1 (by omega) (by omega), kx_of (ky := ky) (n := n) g3 m3 (by omega) (by omega)]
  have f5 : a5 = a2 := by rw [kx_of (ky := ky) (n := n) g2 m2 (by omega) (by omega), kx_of (ky := ky) (n := n) g5 m5 (by omega) (by omega)]
  have j3 : b3 = b1 := by rw [ky_of (kx := kx) (n := n) l1 q1 (by omega) (by omega), ky_of (kx := kx) (n := n) l3 q3 (by omega) (by omega)]
  have j5 : b5 = b2 := by rw [ky_of (kx := kx) (n := n) l2 q2 (by omega) (by omega), ky_of (kx := kx) (n := n) l5 q5 (by omega) (by omega)]
  subst f3 f5 j3 j5
  show OEQ p2 x2 y2 u2 r2 (CVP lim (a3 - x) (b3 - y) (a5 - a3) (b5 - b3) (a4 - a5) (b4 - b5) (p, x, y, u))
  rw [s1, t1, s2, t2, s3, t3]
  exact C
/-- a flex's end -/
def EFO (lim fl : Int) (k : KP) (o : OU) : OU × Int := if fl = 0 ∨ ¬ (k.length = 7) then (o, 9) else ITP (FCV lim k) 2 o
theorem efo_n {lim fl n r u : Int} {kx ky : Nat → Int64} {P : PRT2} {x y : Int64} (h0 : 0 ≤ n) (h : fl = 0 ∨ ¬ (n = 7)) (hr : r = 9) : OEQ P x y u r (EFO lim fl (KPS kx ky n) (P, x, y, u)) := by
  unfold EFO
  rw [if_pos (by rw [kps_len]; omega)]
  exact ⟨hr, rfl, fun h => absurd (hr.symm.trans h) (by decide)⟩
theorem efo_y {lim fl n r u1 : Int} {kx ky : Nat → Int64} {P1 : PRT2} {x1 y1 : Int64} {o : OU} (h1 : ¬ (fl = 0)) (hn : n = 7) (I : OEQ P1 x1 y1 u1 r (ITP (FCV lim (KPS kx ky n)) 2 o)) : OEQ P1 x1 y1 u1 r (EFO lim fl (KPS kx ky n) o) := by
  unfold EFO
  rw [if_neg (by rw [kps_len]; omega)]
  exact I
theorem pob_2 {p b b1 b2 : List Int64} {u v : Int64} (hu : u = BEL p 0) (hv : v = BEL p 1) (h1 : b1 = POB b u) (h2 : b2 = POB b1 v) : b2 = POB (POB b (BEL p 0)) (BEL p 1) := by rw [h2, h1, hu, hv]
