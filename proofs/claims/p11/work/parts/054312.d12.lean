/-! one operator of Type 1 (p8 to p11) -/
abbrev T8 := Int64 × OU × Int × List Int64 × FR8 × List FR8 × Int × KP × List Int64
abbrev T8.mk (wd : Int64) (o : OU) (ov : Int) (p : List Int64) (c : FR8) (w : List FR8) (fl : Int) (k : KP) (b : List Int64) : T8 := (wd, o, ov, p, c, w, fl, k, b)
abbrev T8.wd (s : T8) : Int64 := s.1
abbrev T8.o (s : T8) : OU := s.2.1
abbrev T8.ov (s : T8) : Int := s.2.2.1
abbrev T8.p (s : T8) : List Int64 := s.2.2.2.1
abbrev T8.c (s : T8) : FR8 := s.2.2.2.2.1
abbrev T8.w (s : T8) : List FR8 := s.2.2.2.2.2.1
abbrev T8.fl (s : T8) : Int := s.2.2.2.2.2.2.1
abbrev T8.k (s : T8) : KP := s.2.2.2.2.2.2.2.1
abbrev T8.b (s : T8) : List Int64 := s.2.2.2.2.2.2.2.2
def TK9 (s : T8) (k : CK × Int) : T8 × Int := ((T8.mk s.wd s.o s.ov k.1.1 k.1.2.1 k.1.2.2 s.fl s.k s.b), k.2)
def TD9 (s : T8) (k : List Int64 × Int) : T8 × Int := ((T8.mk s.wd s.o s.ov k.1 s.c s.w s.fl s.k s.b), k.2)
def TC9 (s : T8) (k : O9S × Int) : T8 × Int := ((T8.mk s.wd k.1.o s.ov k.1.p s.c s.w k.1.fl k.1.k k.1.b), k.2)
def TB8 (s : T8) (k : PB × Int) : T8 × Int := ((T8.mk s.wd s.o s.ov k.1.1 s.c s.w s.fl s.k k.1.2), k.2)
def TW9 (s : T8) (k : WO × Int) : T8 × Int := ((T8.mk k.1.1 k.1.2.1 k.1.2.2 [] s.c s.w s.fl s.k s.b), k.2)
def OP9 (tl : Int → Option (List Int)) (lim m op : Int) (s : T8) : T8 × Int :=
  if op = 10 then TK9 s (CLL tl 0 (s.p, s.c, s.w)) else if op = 11 then TK9 s (RTN (s.p, s.c, s.w)) else if op = 268 then TD9 s (DVD m s.p)
  else if op = 272 then TC9 s (CO9 lim ⟨s.p, s.fl, s.k, s.b, s.o⟩) else if op = 273 then TB8 s (POP9 m (s.p, s.b))
  else if WN9 op = -1 then (s, 1) else if ¬ ((s.p.length : Int) = WN9 op) then (s, 2) else TW9 s (PT9 lim s.fl s.p op (s.wd, s.o, s.ov))
/-- as told; behind a fault the WIDTH, the program's place and the PARTS count -/
def TQ9 (t : T8) (r : Int) (Q : T8 × Int) : Prop := r = Q.2 ∧ t.wd = Q.1.wd ∧ t.c = Q.1.c ∧ t.o.1 = Q.1.o.1 ∧ (r = 0 → t = Q.1)
theorem tq_k {wd : Int64} {o : OU} {ov r fl : Int} {p p1 : List Int64} {c c1 : FR8} {w w1 : List FR8} {k : KP} {b : List Int64} {q : CK × Int} (K : KEQ p1 c1 w1 r q) : TQ9 ⟨wd, o, ov, p1, c1, w1, fl, k, b⟩ r (TK9 ⟨wd, o, ov, p, c, w, fl, k, b⟩ q) := by
  obtain ⟨k1, k2, k3⟩ := K
  refine ⟨k1, rfl, k2, rfl, fun h => ?_⟩
  obtain ⟨e1, e2⟩ := k3 h
  show T8.mk _ _ _ _ _ _ _ _ _ = T8.mk wd o ov q.1.1 q.1.2.1 q.1.2.2 fl k b
  rw [e1, e2, k2]
theorem op9_10 {tl : Int → Option (List Int)} {lim m op r a : Int} {wd : Int64} {o : OU} {ov fl : Int} {p p1 : List Int64} {c c1 : FR8} {w w1 : List FR8} {k : KP} {b : List Int64} (ho : op = 10) (ha : a = 0) (K : KEQ p1 c1 w1 r (CLL tl a (p, c, w))) : TQ9 ⟨wd, o, ov, p1, c1, w1, fl, k, b⟩ r (OP9 tl lim m op ⟨wd, o, ov, p, c, w, fl, k, b⟩) := by
  unfold OP9
  subst ha
  rw [if_pos ho]
  exact tq_k K
theorem op9_11 {tl : Int → Option (List Int)} {lim m op r : Int} {wd : Int64} {o : OU} {ov fl : Int} {p p1 : List Int64} {c c1 : FR8} {w w1 : List FR8} {k : KP} {b : List Int64} (ho : op = 11) (K : KEQ p1 c1 w1 r (RTN (p, c, w))) : TQ9 ⟨wd, o, ov, p1, c1, w1, fl, k, b⟩ r (OP9 tl lim m op ⟨wd, o, ov, p, c, w, fl, k, b⟩) := by
  unfold OP9
  rw [if_neg (by omega), if_pos ho]
  exact tq_k K
theorem op9_d {tl : Int → Option (List Int)} {lim m op r : Int} {wd : Int64} {o : OU} {ov fl : Int} {p p1 : List Int64} {c : FR8} {w : List FR8} {k : KP} {b : List Int64} (ho : op = 268) (P : PEQ p1 r (DVD m p)) : TQ9 ⟨wd, o, ov, p1, c, w, fl, k, b⟩ r (OP9 tl lim m op ⟨wd, o, ov, p, c, w, fl, k, b⟩) := by
  unfold OP9
  rw [if_neg (by omega), if_neg (by omega), if_pos ho]
  refine ⟨P.1, rfl, rfl, rfl, fun h => ?_⟩
  show T8.mk _ _ _ _ _ _ _ _ _ = T8.mk wd o ov (DVD m p).1 c w fl k b
  rw [P.2 h]
theorem op9_c {tl : Int → Option (List Int)} {lim m op r : Int} {wd : Int64} {o o1 : OU} {ov fl fl1 : Int} {p p1 : List Int64} {c : FR8} {w : List FR8} {k k1 : KP} {b b1 : List Int64} (ho : op = 272) (X : XEQ ⟨p1, fl1, k1, b1, o1⟩ r (CO9 lim ⟨p, fl, k, b, o⟩)) : TQ9 ⟨wd, o1, ov, p1, c, w, fl1, k1, b1⟩ r (OP9 tl lim m op ⟨wd, o, ov, p, c, w, fl, k, b⟩) := by
  unfold OP9
  rw [if_neg (by omega), if_neg (by omega), if_neg (by omega), if_pos ho]
  obtain ⟨x1, x2, x3⟩ := X
  refine ⟨x1, rfl, rfl, x2, fun h => ?_⟩
  have e := x3 h
  show T8.mk _ _ _ _ _ _ _ _ _ = T8.mk wd (CO9 lim ⟨p, fl, k, b, o⟩).1.o ov (CO9 lim ⟨p, fl, k, b, o⟩).1.p c w (CO9 lim ⟨p, fl, k, b, o⟩).1.fl (CO9 lim ⟨p, fl, k, b, o⟩).1.k (CO9 lim ⟨p, fl, k, b, o⟩).1.b
  rw [← e]
theorem op9_b {tl : Int → Option (List Int)} {lim m op r : Int} {wd : Int64} {o : OU} {ov fl : Int} {p p1 : List Int64} {c : FR8} {w : List FR8} {k : KP} {b b1 : List Int64} (ho : op = 273) (B : BEQ p1 b1 r (POP9 m (p, b))) : TQ9 ⟨wd, o, ov, p1, c, w, fl, k, b1⟩ r (OP9 tl lim m op ⟨wd, o, ov, p, c, w, fl, k, b⟩) := by
  unfold OP9
  rw [if_neg (by omega), if_neg (by omega), if_neg (by omega), if_neg (by omega), if_pos ho]
  refine ⟨B.1, rfl, rfl, rfl, fun h => ?_⟩
  obtain ⟨e1, e2⟩ := B.2 h
  show T8.mk _ _ _ _ _ _ _ _ _ = T8.mk wd o ov (POP9 m (p, b)).1.1 c w fl k (POP9 m (p, b)).1.2
  rw [e1, e2]
theorem op9_1 {tl : Int → Option (List Int)} {lim m op r v : Int} {s t : T8} (h : ¬ (op = 10) ∧ ¬ (op = 11) ∧ ¬ (op = 268) ∧ ¬ (op = 272) ∧ ¬ (op = 273)) (hv : v = WN9 op) (hw : v = -1) (hr : r = 1) (e1 : t.wd = s.wd) (e2 : t.c = s.c) (e3 : t.o.1 = s.o.1) : TQ9 t r (OP9 tl lim m op s) := by
  unfold OP9
  rw [if_neg h.1, if_neg h.2.1, if_neg h.2.2.1, if_neg h.2.2.2.1, if_neg h.2.2.2.2, if_pos (by omega)]
  exact ⟨hr, e1, e2, e3, fun h => absurd (hr.symm.trans h) (by decide)⟩
theorem op9_2 {tl : Int → Option (List Int)} {lim m op r v n : Int} {f : Nat → Int64} {wd : Int64} {o : OU} {ov fl : Int} {c : FR8} {w : List FR8} {k : KP} {b : List Int64} {t : T8} (h : ¬ (op = 10) ∧ ¬ (op = 11) ∧ ¬ (op = 268) ∧ ¬ (op = 272) ∧ ¬ (op = 273)) (hv : v = WN9 op) (hw : ¬ (v = -1)) (h0 : 0 ≤ n) (hn : ¬ (n = v)) (hr : r = 2) (e1 : t.wd = wd) (e2 : t.c = c) (e3 : t.o.1 = o.1) : TQ9 t r (OP9 tl lim m op ⟨wd, o, ov, PA f n, c, w, fl, k, b⟩) := by
  unfold OP9
  rw [if_neg h.1, if_neg h.2.1, if_neg h.2.2.1, if_neg h.2.2.2.1, if_neg h.2.2.2.2, if_neg (by omega), if_pos (by show ¬ (((PA f n).length : Int) = WN9 op); rw [pa_len]; omega)]
  exact ⟨hr, e1, e2, e3, fun h => absurd (hr.symm.trans h) (by decide)⟩
theorem op9_w {tl : Int → Option (List Int)} {lim m op r v n n1 : Int} {f g : Nat → Int64} {wd wd1 : Int64} {P P1 : PRT2} {x y x1 y1 : Int64} {u u1 ov ov1 fl : Int} {c : FR8} {w : List FR8} {k : KP} {b : List Int64} (h : ¬ (op = 10) ∧ ¬ (op = 11) ∧ ¬ (op = 268) ∧ ¬ (op = 272) ∧ ¬ (op = 273)) (hv : v = WN9 op) (hw : ¬ (v = -1)) (h0 : 0 ≤ n) (hn : n = v) (hz : n1 = 0) (W : WEQ wd1 P1 x1 y1 u1 ov1 r (PT9 lim fl (PA f n) op (wd, (P, x, y, u), ov))) : TQ9 ⟨wd1, (P1, x1, y1, u1), ov1, PA g n1, c, w, fl, k, b⟩ r (OP9 tl lim m op ⟨wd, (P, x, y, u), ov, PA f n, c, w, fl, k, b⟩) := by
  unfold OP9
  rw [if_neg h.1, if_neg h.2.1, if_neg h.2.2.1, if_neg h.2.2.2.1, if_neg h.2.2.2.2, if_neg (by omega), if_neg (by show ¬ ¬ (((PA f n).length : Int) = WN9 op); rw [pa_len]; omega)]
  obtain ⟨w1, w2, w3, w4⟩ := W
  refine ⟨w1, w2, rfl, w3, fun h => ?_⟩
  obtain ⟨a1, a2, a3, a4⟩ := w4 h
  show T8.mk _ _ _ _ _ _ _ _ _ = T8.mk _ _ _ [] c w fl k b
  rw [w2, w3, a1, a2, a3, a4, hz]
  rfl
