/-! operators of Type 1, the reference's (p8 to p11) -/
/-- its points: two NUMBERS each -/
def MKP (fl : Nat → Int64) (n : Int) : KP := KPS (fun i => fl (2 * i)) (fun i => fl (2 * i + 1)) n
theorem xad (x a : Int64) : x + (a - x) = a := by
  apply Int64.toBitVec_inj.mp
  simp only [Int64.toBitVec_sub, Int64.toBitVec_add]
  bv_omega
theorem mkx {fl : Nat → Int64} {n i : Int} {z : Int32} {v : Int64} (e : fl (Int32.toNatClampNeg z) = v) (hz : Int32.toInt z = 2 * i) (h0 : 0 ≤ i) (h : i < n) : KX (MKP fl n) i = v := by
  have hc : Int32.toNatClampNeg z = 2 * i.toNat := by show (Int32.toInt z).toNat = _; rw [hz]; omega
  rw [hc] at e
  unfold KX MKP KPS
  rw [List.getD_eq_getElem?_getD, List.getElem?_map, List.getElem?_range (by omega)]
  exact e
theorem mky {fl : Nat → Int64} {n i : Int} {z : Int32} {v : Int64} (e : fl (Int32.toNatClampNeg z) = v) (hz : Int32.toInt z = 2 * i + 1) (h0 : 0 ≤ i) (h : i < n) : KY (MKP fl n) i = v := by
  have hc : Int32.toNatClampNeg z = 2 * i.toNat + 1 := by show (Int32.toInt z).toNat = _; rw [hz]; omega
  rw [hc] at e
  unfold KY MKP KPS
  rw [List.getD_eq_getElem?_getD, List.getElem?_map, List.getElem?_range (by omega)]
  exact e
theorem fcr_ok {kd kd1 : Nat → Int32} {nb g1 g2 g3 : Nat → Int64} {n n1 lim op r o1 : Int} {x y x1 y1 x2 y2 x3 y3 : Int64} {v : Int32} {K : KP} {j : Nat} (A : kd1 = upd kd n.toNat v) (hv : Int32.toInt v = 2) (B1 : g1 = PNT nb n1 0 x1 y1) (B2 : g2 = PNT g1 n1 1 x2 y2) (B3 : g3 = PNT g2 n1 2 x3 y3) (k1 : KX K (3 * j + 1) = x1) (l1 : KY K (3 * j + 1) = y1) (k2 : KX K (3 * j + 2) = x2) (l2 : KY K (3 * j + 2) = y2) (k3 : KX K (3 * j + 3) = x3) (l3 : KY K (3 * j + 3) = y3) (h0 : 0 ≤ n) (hn : n < lim) (hm : n1 = n + 1) (hr : r = 0) (ho : o1 = 1) : OEQ (PTS kd1 g3 n1) x3 y3 o1 r (FCV lim K j (PTS kd nb n, x, y, op)) := by
  unfold FCV
  show OEQ _ _ _ _ _ (CVP lim (KX K (3 * j + 1) - x) (KY K (3 * j + 1) - y) (KX K (3 * j + 2) - KX K (3 * j + 1)) (KY K (3 * j + 2) - KY K (3 * j + 1)) (KX K (3 * j + 3) - KX K (3 * j + 2)) (KY K (3 * j + 3) - KY K (3 * j + 2)) (PTS kd nb n, x, y, op))
  rw [k1, l1, k2, l2, k3, l3]
  exact cvr_ok A hv B1 B2 B3 (xad _ _) (xad _ _) (xad _ _) (xad _ _) (xad _ _) (xad _ _) h0 hn hm hr ho
theorem fcr_no {p p1 : PRT2} {lim op r o1 : Int} {x y z w : Int64} {K : KP} {j : Nat} (e : p1 = p) (h : lim ≤ (p.length : Int)) (hr : r = 6) : OEQ p1 z w o1 r (FCV lim K j (p, x, y, op)) := by
  unfold FCV
  exact cvp_no e h hr
theorem efr_1 {lim fl n r u1 : Int} {f : Nat → Int64} {P1 : PRT2} {x1 y1 : Int64} {o : OU} (I : OEQ P1 x1 y1 u1 r (FCV lim (MKP f n) 0 o)) (h1 : ¬ (fl = 0)) (hn : n = 7) (hr : ¬ (r = 0)) : OEQ P1 x1 y1 u1 r (EFO lim fl (MKP f n) o) := by
  refine efo_y h1 hn ?_
  show OEQ P1 x1 y1 u1 r (SQ (SQ (o, 0) (FCV lim (MKP f n) 0)) (FCV lim (MKP f n) 1))
  exact oeq_stop (oeq_go (p := o.1) (x := o.2.1) (y := o.2.2.1) (o := o.2.2.2) (r := 0) oeq_0 rfl I) hr
theorem efr_2 {lim fl n r r2 u1 u2 : Int} {f : Nat → Int64} {P1 P2 : PRT2} {x1 y1 x2 y2 : Int64} {o : OU} (I : OEQ P1 x1 y1 u1 r (FCV lim (MKP f n) 0 o)) (J : OEQ P2 x2 y2 u2 r2 (FCV lim (MKP f n) 1 (P1, x1, y1, u1))) (h1 : ¬ (fl = 0)) (hn : n = 7) (hr : r = 0) : OEQ P2 x2 y2 u2 r2 (EFO lim fl (MKP f n) o) := by
  refine efo_y h1 hn ?_
  show OEQ P2 x2 y2 u2 r2 (SQ (SQ (o, 0) (FCV lim (MKP f n) 0)) (FCV lim (MKP f n) 1))
  exact oeq_go (oeq_go (p := o.1) (x := o.2.1) (y := o.2.2.1) (o := o.2.2.2) (r := 0) oeq_0 rfl I) hr J
theorem efr_n {lim fl n r u u1 : Int} {f : Nat → Int64} {P : PRT2} {x y x1 y1 : Int64} (h0 : 0 ≤ n) (h : fl = 0 ∨ ¬ (n = 7)) (hr : r = 9) : OEQ P x1 y1 u1 r (EFO lim fl (MKP f n) (P, x, y, u)) := by
  have := efo_n (lim := lim) (P := P) (x := x) (y := y) (u := u) (kx := fun i => f (2 * i)) (ky := fun i => f (2 * i + 1)) h0 h hr
  exact ⟨this.1, this.2.1, fun h9 => absurd (hr.symm.trans h9) (by decide)⟩
theorem pa2 {f f1 f2 : Nat → Int64} {i j : Int32} {a b : Int64} {n : Int} (e1 : vp_updL f (Int32.toNatClampNeg i) a = f1) (e2 : vp_updL f1 (Int32.toNatClampNeg j) b = f2) (hi : Int32.toInt i = 0) (hj : Int32.toInt j = 1) (hn : n = 2) : PA f2 n = [a, b] := by
  have h1 : Int32.toNatClampNeg i = 0 := by show (Int32.toInt i).toNat = _; rw [hi]; rfl
  have h2 : Int32.toNatClampNeg j = 1 := by show (Int32.toInt j).toNat = _; rw [hj]; rfl
  rw [h1] at e1
  rw [h2] at e2
  subst hn
  show [f2 0, f2 1] = _
  rw [← e2, ← e1, updL_eq, updL_eq, updL_eq, updL_eq, if_neg (by decide), if_pos rfl, if_pos rfl]
theorem pa1 {f f1 : Nat → Int64} {i : Int32} {a : Int64} {n : Int} (e1 : vp_updL f (Int32.toNatClampNeg i) a = f1) (hi : Int32.toInt i = 0) (hn : n = 1) : PA f1 n = [a] := by
  have h1 : Int32.toNatClampNeg i = 0 := by show (Int32.toInt i).toNat = _; rw [hi]; rfl
  rw [h1] at e1
  subst hn
  show [f1 0] = _
  rw [← e1, updL_eq, if_pos rfl]
theorem mkp_push {f f1 f2 : Nat → Int64} {n n1 : Int} {i j : Int32} {x y : Int64} (e1 : vp_updL f (Int32.toNatClampNeg i) x = f1) (e2 : vp_updL f1 (Int32.toNatClampNeg j) y = f2) (hi : Int32.toInt i = 2 * n) (hj : Int32.toInt j = 2 * n + 1) (h0 : 0 ≤ n) (hn : n1 = n + 1) : MKP f2 n1 = MKP f n ++ [(x, y)] := by
  have h1 : Int32.toNatClampNeg i = 2 * n.toNat := by show (Int32.toInt i).toNat = _; rw [hi]; omega
  have h2 : Int32.toNatClampNeg j = 2 * n.toNat + 1 := by show (Int32.toInt j).toNat = _; rw [hj]; omega
  rw [h1] at e1
  rw [h2] at e2
  unfold MKP KPS
  rw [show n1.toNat = n.toNat + 1 by omega, List.range_succ, List.map_append]
  congr 1
  · refine List.map_congr_left (fun k hk => ?_)
    have := List.mem_range.mp hk
    show (f2 (2 * k), f2 (2 * k + 1)) = (f (2 * k), f (2 * k + 1))
    rw [← e2, ← e1, updL_eq, updL_eq, updL_eq, updL_eq, if_neg (by omega), if_neg (by omega), if_neg (by omega), if_neg (by omega)]
  · show [(f2 (2 * n.toNat), f2 (2 * n.toNat + 1))] = _
    rw [← e2, ← e1, updL_eq, updL_eq, updL_eq, if_neg (by omega), if_pos rfl, if_pos rfl]
theorem mkp_z {f : Nat → Int64} {n : Int} (h : n = 0) : MKP f n = [] := by subst h; rfl
/-- so many put by: the reference keeps them as they lie -/
def BYI (f g : Nat → Int64) (b k : Int) : Prop := ∀ j : Int, 0 ≤ j → j < k → g j.toNat = f (b + j).toNat
theorem byi_0 {f g : Nat → Int64} {b k : Int} (h : k = 0) : BYI f g b k := fun j h0 h1 => by omega
theorem byi_s {f g g2 : Nat → Int64} {b k k2 : Int} {x y : Int32} {z : Int64} (h : BYI f g b k) (e1 : f (Int32.toNatClampNeg y) = z) (e2 : vp_updL g (Int32.toNatClampNeg x) z = g2) (hy : Int32.toInt y = b + k) (hx : Int32.toInt x = k) (h0 : 0 ≤ k) (e : k2 = k + 1) : BYI f g2 b k2 := by
  intro j h1 h2
  have hc : Int32.toNatClampNeg x = k.toNat := by show (Int32.toInt x).toNat = _; rw [hx]
  have hd : Int32.toNatClampNeg y = (b + k).toNat := by show (Int32.toInt y).toNat = _; rw [hy]
  rw [hd] at e1
  rw [← e2, updL_eq, hc]
  by_cases hj : j = k
  · subst hj
    rw [if_pos rfl, e1]
  · rw [if_neg (by omega)]
    exact h j h1 (by omega)
theorem pab_eq {f : Nat → Int64} {n : Int} : ∀ (k : Nat) (b : List Int64), (k : Int) ≤ n → b.length + k ≤ 24 → PAB (PA f n) k b = b ++ (List.range k).map (fun i : Nat => f (n - k + i).toNat)
  | 0, b, _, _ => by show b = b ++ []; rw [List.append_nil]
  | k + 1, b, h, hb => by
    show PAB (PA f n) k (POB b (BEL (PA f n) k)) = _
    unfold POB
    rw [if_pos (by omega), pab_eq k _ (by omega) (by rw [List.length_append]; show b.length + 1 + k ≤ 24; omega), bel_at (by omega) (by omega)]
    rw [List.range_succ_eq_map, List.map_cons, List.append_assoc]
    congr 1
    show f (n - 1 - k).toNat :: _ = _
    congr 1
    · congr 1
      omega
    · rw [List.map_map]
      refine List.map_congr_left (fun i _ => ?_)
      show f _ = f _
      congr 1
      show (n - (k : Int) + (i : Int)).toNat = (n - ((k + 1 : Nat) : Int) + ((i + 1 : Nat) : Int)).toNat
      omega
theorem byi_e {f g : Nat → Int64} {n k b c : Int} (h : BYI f g b c) (hc : c = k) (hb : b = n - k) (h0 : 0 ≤ k) (h1 : k ≤ n) (h2 : k ≤ 24) : PA g k = PAB (PA f n) k.toNat [] := by
  subst hc
  rw [pab_eq c.toNat [] (by omega) (by show 0 + c.toNat ≤ 24; omega)]
  show PA g c = (List.range c.toNat).map _
  unfold PA
  refine List.map_congr_left (fun i hi => ?_)
  have := List.mem_range.mp hi
  have e := h (i : Int) (by omega) (by omega)
  rw [show ((i : Int)).toNat = i by omega] at e
  rw [e]
  congr 1
  omega
theorem tb9_ne {a c : Int} (h : ¬ ((a = 0 ∧ c = 3) ∨ (a = 3 ∧ c = 1) ∨ (¬ (a = 0) ∧ ¬ (a = 3) ∧ c = 0))) : ¬ (c = TB9 a) := by
  unfold TB9
  split
  · omega
  · split <;> omega
theorem drp_2 {f : Nat → Int64} {n : Int} (h : 2 ≤ n) : PA f (n - 2) = DRP (PA f n) 2 := drp_pa (by omega) (by omega)
/-- what wants a certain count of NUMBERS -/
def PK9 (lim fl : Int) (p : List Int64) (op : Int) (s : WO) : WO × Int := if WN9 op = -1 then (s, 1) else if ¬ ((p.length : Int) = WN9 op) then (s, 2) else PT9 lim fl p op s
theorem pk_1 {lim fl op r u u1 ov ov1 : Int} {p : List Int64} {wd x y x1 y1 : Int64} {P : PRT2} (h : -1 = WN9 op) (hr : r = 1) : WEQ wd P x1 y1 u1 ov1 r (PK9 lim fl p op (wd, (P, x, y, u), ov)) := by
  unfold PK9
  rw [if_pos h.symm]
  exact ⟨hr, rfl, rfl, fun h9 => absurd (hr.symm.trans h9) (by decide)⟩
theorem pk_2 {lim fl op r u u1 ov ov1 n k : Int} {f : Nat → Int64} {wd x y x1 y1 : Int64} {P : PRT2} (h : k = WN9 op) (hk : 0 ≤ k) (h0 : 0 ≤ n) (hn : ¬ (n = k)) (hr : r = 2) : WEQ wd P x1 y1 u1 ov1 r (PK9 lim fl (PA f n) op (wd, (P, x, y, u), ov)) := by
  unfold PK9
  rw [if_neg (by omega), if_pos (by rw [pa_len]; omega)]
  exact ⟨hr, rfl, rfl, fun h9 => absurd (hr.symm.trans h9) (by decide)⟩
theorem pk_w {lim fl op r u u1 ov ov1 n k : Int} {f : Nat → Int64} {wd wd1 x y x1 y1 : Int64} {P P1 : PRT2} (W : WEQ wd1 P1 x1 y1 u1 ov1 r (PT9 lim fl (PA f n) op (wd, (P, x, y, u), ov))) (h : k = WN9 op) (hk : 0 ≤ k) (hn : n = k) : WEQ wd1 P1 x1 y1 u1 ov1 r (PK9 lim fl (PA f n) op (wd, (P, x, y, u), ov)) := by
  unfold PK9
  rw [if_neg (by omega), if_neg (by rw [pa_len]; omega)]
  exact W
theorem pt_8 {lim fl op u u1 r ov : Int} {f : Nat → Int64} {n : Int} {wd x y x1 y1 g0 g1 g2 g3 g4 g5 : Int64} {P P1 : PRT2} (C : OEQ P1 x1 y1 u1 r (CVP lim g0 g1 g2 g3 g4 g5 (P, x, y, u))) (ho : op = 8) (G0 : g0 = NG (PA f n) 0) (G1 : g1 = NG (PA f n) 1) (G2 : g2 = NG (PA f n) 2) (G3 : g3 = NG (PA f n) 3) (G4 : g4 = NG (PA f n) 4) (G5 : g5 = NG (PA f n) 5) : WEQ wd P1 x1 y1 u1 ov r (PT9 lim fl (PA f n) op (wd, (P, x, y, u), ov)) := by
  unfold PT9
  rw [if_neg (by omega), if_neg (by omega), if_neg (by omega), if_neg (by omega), if_pos ho]
  refine weq_o ?_
  subst G0 G1 G2 G3 G4 G5
  exact oeq_go oeq_0 rfl C
theorem pt_30 {lim fl op u u1 r ov : Int} {f : Nat → Int64} {n : Int} {wd x y x1 y1 g0 g1 g2 g3 : Int64} {P P1 : PRT2} (C : OEQ P1 x1 y1 u1 r (CVP lim 0 g0 g1 g2 g3 0 (P, x, y, u))) (ho : op = 30) (hn : n = 4) (G0 : g0 = NG (PA f n) 0) (G1 : g1 = NG (PA f n) 1) (G2 : g2 = NG (PA f n) 2) (G3 : g3 = NG (PA f n) 3) : WEQ wd P1 x1 y1 u1 ov r (PT9 lim fl (PA f n) op (wd, (P, x, y, u), ov)) := by
  unfold PT9
  rw [if_neg (by omega), if_neg (by omega), if_neg (by omega), if_neg (by omega), if_neg (by omega), if_neg (by omega), if_neg (by omega), if_neg (by omega), if_pos ho]
  refine weq_o ?_
  subst G0 G1 G2 G3 hn
  refine asko_y (by rw [pa_len]; omega) ?_
  show OEQ P1 x1 y1 u1 r (ITP (TCF lim (PA f 4) 0) ((PA f 4).length / 4) _)
  rw [pa_len]
  exact oeq_go oeq_0 rfl C
theorem pt_31 {lim fl op u u1 r ov : Int} {f : Nat → Int64} {n : Int} {wd x y x1 y1 g0 g1 g2 g3 : Int64} {P P1 : PRT2} (C : OEQ P1 x1 y1 u1 r (CVP lim g0 0 g1 g2 0 g3 (P, x, y, u))) (ho : op = 31) (hn : n = 4) (G0 : g0 = NG (PA f n) 0) (G1 : g1 = NG (PA f n) 1) (G2 : g2 = NG (PA f n) 2) (G3 : g3 = NG (PA f n) 3) : WEQ wd P1 x1 y1 u1 ov r (PT9 lim fl (PA f n) op (wd, (P, x, y, u), ov)) := by
  unfold PT9
  rw [if_neg (by omega), if_neg (by omega), if_neg (by omega), if_neg (by omega), if_neg (by omega), if_neg (by omega), if_neg (by omega), if_neg (by omega), if_neg (by omega), if_pos ho]
  refine weq_o ?_
  subst G0 G1 G2 G3 hn
  refine asko_y (by rw [pa_len]; omega) ?_
  show OEQ P1 x1 y1 u1 r (ITP (TCF lim (PA f 4) 1) ((PA f 4).length / 4) _)
  rw [pa_len]
  exact oeq_go oeq_0 rfl C
/-- the reference's pop asks first whether the PILE is full -/
def POPR (m : Int) (s : PB) : PB × Int := if ¬ ((s.1.length : Int) < m) then (s, 3) else POP9 m s
def OPR (tl : Int → Option (List Int)) (lim m op : Int) (s : T8) : T8 × Int := if op = 273 then TB8 s (POPR m (s.p, s.b)) else OP9 tl lim m op s
theorem opr_c {tl : Int → Option (List Int)} {lim m op : Int} {s : T8} (h : ¬ (op = 273)) : OPR tl lim m op s = OP9 tl lim m op s := by unfold OPR; rw [if_neg h]
theorem popr_3 {m r n k : Int} {f g : Nat → Int64} {p1 b1 : List Int64} (h : m ≤ n) (h0 : 0 ≤ n) (hr : r = 3) : BEQ p1 b1 r (POPR m (PA f n, PA g k)) := by
  unfold POPR
  rw [if_pos (by show ¬ (((PA f n).length : Int) < m); rw [pa_len]; omega)]
  exact ⟨hr, fun h => absurd (hr.symm.trans h) (by decide)⟩
theorem popr_y {m r n k : Int} {f g : Nat → Int64} {p1 b1 : List Int64} (B : BEQ p1 b1 r (POP9 m (PA f n, PA g k))) (h : n < m) (h0 : 0 ≤ n) : BEQ p1 b1 r (POPR m (PA f n, PA g k)) := by
  unfold POPR
  rw [if_neg (by show ¬ ¬ (((PA f n).length : Int) < m); rw [pa_len]; omega)]
  exact B
theorem opr_b {tl : Int → Option (List Int)} {lim m op r : Int} {wd : Int64} {o : OU} {ov fl : Int} {p p1 : List Int64} {c : FR8} {w : List FR8} {k : KP} {b b1 : List Int64} (B : BEQ p1 b1 r (POPR m (p, b))) (ho : op = 273) : TQ9 (T8.mk wd o ov p1 c w fl k b1) r (OPR tl lim m op (T8.mk wd o ov p c w fl k b)) := by
  unfold OPR
  rw [if_pos ho]
  refine ⟨B.1, rfl, rfl, rfl, fun h => ?_⟩
  obtain ⟨e1, e2⟩ := B.2 h
  show T8.mk _ _ _ _ _ _ _ _ _ = T8.mk wd o ov (POPR m (p, b)).1.1 c w fl k (POPR m (p, b)).1.2
  rw [e1, e2]
theorem opr_10 {tl : Int → Option (List Int)} {lim m op r : Int} {wd : Int64} {o : OU} {ov fl : Int} {p p1 : List Int64} {c c1 : FR8} {w w1 : List FR8} {k : KP} {b : List Int64} (K : KEQ p1 c1 w1 r (CLL tl 0 (p, c, w))) (ho : op = 10) : TQ9 (T8.mk wd o ov p1 c1 w1 fl k b) r (OPR tl lim m op (T8.mk wd o ov p c w fl k b)) := by
  rw [opr_c (by omega)]
  exact op9_10 ho rfl K
theorem opr_11 {tl : Int → Option (List Int)} {lim m op r : Int} {wd : Int64} {o : OU} {ov fl : Int} {p p1 : List Int64} {c c1 : FR8} {w w1 : List FR8} {k : KP} {b : List Int64} (K : KEQ p1 c1 w1 r (RTN (p, c, w))) (ho : op = 11) : TQ9 (T8.mk wd o ov p1 c1 w1 fl k b) r (OPR tl lim m op (T8.mk wd o ov p c w fl k b)) := by
  rw [opr_c (by omega)]
  exact op9_11 ho K
theorem opr_d {tl : Int → Option (List Int)} {lim m op r : Int} {wd : Int64} {o : OU} {ov fl : Int} {p p1 : List Int64} {c : FR8} {w : List FR8} {k : KP} {b : List Int64} (P : PEQ p1 r (DVD m p)) (ho : op = 268) : TQ9 (T8.mk wd o ov p1 c w fl k b) r (OPR tl lim m op (T8.mk wd o ov p c w fl k b)) := by
  rw [opr_c (by omega)]
  exact op9_d ho P
theorem opr_x {tl : Int → Option (List Int)} {lim m op r : Int} {wd : Int64} {o o1 : OU} {ov fl fl1 : Int} {p p1 : List Int64} {c : FR8} {w : List FR8} {k k1 : KP} {b b1 : List Int64} (X : XEQ (O9S.mk p1 fl1 k1 b1 o1) r (CO9 lim (O9S.mk p fl k b o))) (ho : op = 272) : TQ9 (T8.mk wd o1 ov p1 c w fl1 k1 b1) r (OPR tl lim m op (T8.mk wd o ov p c w fl k b)) := by
  rw [opr_c (by omega)]
  exact op9_c ho X
theorem opr_w {tl : Int → Option (List Int)} {lim m op r n n1 : Int} {f g : Nat → Int64} {wd wd1 : Int64} {P P1 : PRT2} {x y x1 y1 : Int64} {u u1 ov ov1 fl : Int} {c : FR8} {w : List FR8} {k : KP} {b : List Int64} (W : WEQ wd1 P1 x1 y1 u1 ov1 r (PK9 lim fl (PA f n) op (wd, (P, x, y, u), ov))) (h : ¬ (op = 10) ∧ ¬ (op = 11) ∧ ¬ (op = 268) ∧ ¬ (op = 272) ∧ ¬ (op = 273)) (h0 : 0 ≤ n) (hz : r = 0 → n1 = 0) : TQ9 (T8.mk wd1 (P1, x1, y1, u1) ov1 (PA g n1) c w fl k b) r (OPR tl lim m op (T8.mk wd (P, x, y, u) ov (PA f n) c w fl k b)) := by
  rw [opr_c h.2.2.2.2]
  unfold PK9 at W
  by_cases h1 : WN9 op = -1
  · rw [if_pos h1] at W
    exact op9_1 h h1.symm rfl W.1 W.2.1 rfl W.2.2.1
  · rw [if_neg h1] at W
    by_cases h2 : ¬ (((PA f n).length : Int) = WN9 op)
    · rw [if_pos h2] at W
      have h3 := h2
      rw [pa_len] at h3
      exact op9_2 h rfl h1 h0 (by omega) W.1 W.2.1 rfl W.2.2.1
    · rw [if_neg h2] at W
      have h3 := h2
      rw [pa_len] at h3
      by_cases hr : r = 0
      · exact op9_w h rfl h1 h0 (by omega) (hz hr) W
      · have Z := op9_w (tl := tl) (m := m) (g := g) (n1 := 0) (c := c) (w := w) (k := k) (b := b) h rfl h1 h0 (by omega) rfl W
        exact ⟨Z.1, Z.2.1, Z.2.2.1, Z.2.2.2.1, fun h9 => absurd h9 hr⟩
theorem dvr_ok {f f1 : Nat → Int64} {n n1 m r : Int} {i j : Int32} {z u a b : Int64} (e : vp_updL f (Int32.toNatClampNeg j) b = f1) (eb : a / z = b) (ea : u * 65536 = a) (eu : f (Int32.toNatClampNeg j) = u) (ez : f (Int32.toNatClampNeg i) = z) (hi : Int32.toInt i = n - 1) (hj : Int32.toInt j = n - 2) (h : 2 ≤ n) (hm : n ≤ m) (hz : ¬ (Int64.toInt z = 0)) (hn : n1 = n - 1) (hr : r = 0) : PEQ (PA f1 n1) r (DVD m (PA f n)) := by
  refine dvd_ok (by omega) h (bel_r ez (by omega) (by decide) (by omega)) hz (bel_r eu (by omega) (by decide) (by omega)) ea eb ?_
  refine peq_e ?_ (drp_pa (n1 := n - 2) (by omega) (by omega))
  exact psh_ok e hj (by omega) (by omega) (by omega) hr
theorem fx_by {f g g1 g2 : Nat → Int64} {n m : Int} {i1 i2 j0 j1 : Int32} {a b : Int64} (e4 : vp_updL g1 (Int32.toNatClampNeg j1) a = g2) (e3 : vp_updL g (Int32.toNatClampNeg j0) b = g1) (e1 : f (Int32.toNatClampNeg i1) = a) (e2 : f (Int32.toNatClampNeg i2) = b) (hj0 : Int32.toInt j0 = 0) (hj1 : Int32.toInt j1 = 1) (h1 : Int32.toInt i1 = n + 1) (h2 : Int32.toInt i2 = n + 2) (hm : m = 2) : PA g2 m = [f (n + 2).toNat, f (n + 1).toNat] := by
  have k1 : Int32.toNatClampNeg i1 = (n + 1).toNat := by show (Int32.toInt i1).toNat = _; rw [h1]
  have k2 : Int32.toNatClampNeg i2 = (n + 2).toNat := by show (Int32.toInt i2).toNat = _; rw [h2]
  rw [pa2 e3 e4 hj0 hj1 hm, ← e1, ← e2, k1, k2]
theorem fx_b2 {f : Nat → Int64} {n n1 : Int} {b : List Int64} (h : b = [f (n1 + 2).toNat, f (n1 + 1).toNat]) (hn : n1 = n - 5) (h5 : 5 ≤ n) : b = POB (POB [] (BEL (PA f (n - 2)) 0)) (BEL (PA f (n - 2)) 1) := by
  rw [h, bel_at (by decide) (by omega), bel_at (by decide) (by omega)]
  show [f (n1 + 2).toNat, f (n1 + 1).toNat] = [f (n - 2 - 1 - 0).toNat, f (n - 2 - 1 - 1).toNat]
  rw [show (n1 + 2).toNat = (n - 2 - 1 - 0).toNat by omega, show (n1 + 1).toNat = (n - 2 - 1 - 1).toNat by omega]
theorem byi_c {f g : Nat → Int64} {n k1 c b0 c0 : Int} (h : BYI f g b0 c0) (h1 : k1 = c) (hc : c0 = c) (hb : b0 = n - 2 - c) (h0 : 0 ≤ c) (h2 : c ≤ n - 2) (h3 : c ≤ 24) : PA g k1 = PAB (PA f (n - 2)) c.toNat [] := by
  subst h1
  exact byi_e h hc hb h0 h2 h3
