/-! other subroutines of Type 1 (p8 to p11) -/
def TB9 (n : Int) : Int := if n = 0 then 3 else if n = 3 then 1 else 0
theorem tb9_of {n r : Int} (h : (n = 0 ∧ r = 3) ∨ (n = 3 ∧ r = 1) ∨ (¬ (n = 0) ∧ ¬ (n = 3) ∧ r = 0)) : r = TB9 n := by
  unfold TB9
  split
  · omega
  · split <;> omega
/-- PILE, whether a flex is on, the points kept, what is put by, the outline -/
abbrev O9S := List Int64 × Int × KP × List Int64 × OU
abbrev O9S.mk (p : List Int64) (fl : Int) (k : KP) (b : List Int64) (o : OU) : O9S := (p, fl, k, b, o)
abbrev O9S.p (s : O9S) : List Int64 := s.1
abbrev O9S.fl (s : O9S) : Int := s.2.1
abbrev O9S.k (s : O9S) : KP := s.2.2.1
abbrev O9S.b (s : O9S) : List Int64 := s.2.2.2.1
abbrev O9S.o (s : O9S) : OU := s.2.2.2.2
def CO9 (lim : Int) (s : O9S) : O9S × Int :=
  if s.p.length < 2 then (s, 2) else if WHL s.p 1 < 0 then (s, 9) else if (s.p.length : Int) - 2 < WHL s.p 1 then (s, 2)
  else if WHL s.p 0 < 0 ∨ 3 < WHL s.p 0 then ((O9S.mk (DRP (DRP s.p 2) (WHL s.p 1)) s.fl s.k (PAB (DRP s.p 2) (WHL s.p 1).toNat []) s.o), 0)
  else if ¬ (WHL s.p 1 = TB9 (WHL s.p 0)) then (s, 9)
  else if WHL s.p 0 = 0 then ((O9S.mk (DRP (DRP s.p 2) (WHL s.p 1)) 0 s.k (POB (POB [] (BEL (DRP s.p 2) 0)) (BEL (DRP s.p 2) 1)) ((EFO lim s.fl s.k s.o).1)), (EFO lim s.fl s.k s.o).2)
  else if WHL s.p 0 = 1 then ((O9S.mk (DRP (DRP s.p 2) (WHL s.p 1)) 1 [] [] s.o), 0)
  else if WHL s.p 0 = 2 then ((O9S.mk (DRP (DRP s.p 2) (WHL s.p 1)) s.fl ((KPP s.fl s.o.2.1 s.o.2.2.1 s.k).1) [] s.o), (KPP s.fl s.o.2.1 s.o.2.2.1 s.k).2)
  else ((O9S.mk (DRP (DRP s.p 2) (WHL s.p 1)) s.fl s.k (POB [] 196608) s.o), 0)
/-- as told; behind a fault the PARTS count -/
def XEQ (t : O9S) (r : Int) (Q : O9S × Int) : Prop := r = Q.2 ∧ t.o.1 = Q.1.o.1 ∧ (r = 0 → t = Q.1)
theorem xeq_f {t s : O9S} {r k : Int} (hr : r = k) (hk : ¬ (k = 0)) (h : t.o.1 = s.o.1) : XEQ t r (s, k) := ⟨hr, h, fun h => absurd (hr.symm.trans h) hk⟩
theorem whl_v {z : Int64} {p : List Int64} {d : Int} (h : z = BEL p d >>> 16) : WHL p d = Int64.toInt z := by unfold WHL; rw [h]
theorem coq_2 {lim n r fl : Int} {f : Nat → Int64} {k : KP} {b : List Int64} {o : OU} {t : O9S} (h : n < 2) (hr : r = 2) (ht : t.o.1 = o.1) : XEQ t r (CO9 lim ⟨PA f n, fl, k, b, o⟩) := by
  unfold CO9
  rw [if_pos (by show (PA f n).length < 2; rw [pa_len]; omega)]
  exact xeq_f hr (by decide) ht
theorem coq_9 {lim n r fl : Int} {f : Nat → Int64} {k : KP} {b : List Int64} {o : OU} {t : O9S} {z : Int64} (h : 2 ≤ n) (hz : z = BEL (PA f n) 1 >>> 16) (h1 : Int64.toInt z < 0) (hr : r = 9) (ht : t.o.1 = o.1) : XEQ t r (CO9 lim ⟨PA f n, fl, k, b, o⟩) := by
  unfold CO9
  rw [if_neg (by show ¬ ((PA f n).length < 2); rw [pa_len]; omega)]
  show XEQ t r (if WHL (PA f n) 1 < 0 then _ else _)
  rw [whl_v hz, if_pos h1]
  exact xeq_f hr (by decide) ht
theorem coq_22 {lim n r fl : Int} {f : Nat → Int64} {k : KP} {b : List Int64} {o : OU} {t : O9S} {z : Int64} (h : 2 ≤ n) (hz : z = BEL (PA f n) 1 >>> 16) (h1 : ¬ (Int64.toInt z < 0)) (h2 : n - 2 < Int64.toInt z) (hr : r = 2) (ht : t.o.1 = o.1) : XEQ t r (CO9 lim ⟨PA f n, fl, k, b, o⟩) := by
  unfold CO9
  rw [if_neg (by show ¬ ((PA f n).length < 2); rw [pa_len]; omega)]
  show XEQ t r (if WHL (PA f n) 1 < 0 then _ else if ((PA f n).length : Int) - 2 < WHL (PA f n) 1 then _ else _)
  rw [whl_v hz, if_neg h1, if_pos (by rw [pa_len]; omega)]
  exact xeq_f hr (by decide) ht
/-- what is behind the count's tests -/
def CO8 (lim a c : Int) (p : List Int64) (s : O9S) : O9S × Int :=
  if a < 0 ∨ 3 < a then ((O9S.mk (DRP p c) s.fl s.k (PAB p c.toNat []) s.o), 0) else if ¬ (c = TB9 a) then (s, 9)
  else if a = 0 then ((O9S.mk (DRP p c) 0 s.k (POB (POB [] (BEL p 0)) (BEL p 1)) ((EFO lim s.fl s.k s.o).1)), (EFO lim s.fl s.k s.o).2)
  else if a = 1 then ((O9S.mk (DRP p c) 1 [] [] s.o), 0)
  else if a = 2 then ((O9S.mk (DRP p c) s.fl ((KPP s.fl s.o.2.1 s.o.2.2.1 s.k).1) [] s.o), (KPP s.fl s.o.2.1 s.o.2.2.1 s.k).2)
  else ((O9S.mk (DRP p c) s.fl s.k (POB [] 196608) s.o), 0)
theorem coq_go {lim n n1 r fl : Int} {f : Nat → Int64} {k : KP} {b : List Int64} {o : OU} {t : O9S} {z y : Int64} (h : 2 ≤ n) (hz : z = BEL (PA f n) 1 >>> 16) (hy : y = BEL (PA f n) 0 >>> 16) (h1 : ¬ (Int64.toInt z < 0)) (h2 : ¬ (n - 2 < Int64.toInt z)) (e : PA f n1 = DRP (PA f n) 2) (X : XEQ t r (CO8 lim (Int64.toInt y) (Int64.toInt z) (PA f n1) ⟨PA f n, fl, k, b, o⟩)) : XEQ t r (CO9 lim ⟨PA f n, fl, k, b, o⟩) := by
  unfold CO9
  rw [if_neg (by show ¬ ((PA f n).length < 2); rw [pa_len]; omega)]
  show XEQ t r (if WHL (PA f n) 1 < 0 then _ else if ((PA f n).length : Int) - 2 < WHL (PA f n) 1 then _ else if WHL (PA f n) 0 < 0 ∨ 3 < WHL (PA f n) 0 then _ else _)
  rw [whl_v hz, whl_v hy, if_neg h1, if_neg (by rw [pa_len]; omega)]
  show XEQ t r (if Int64.toInt y < 0 ∨ 3 < Int64.toInt y then _ else _)
  unfold CO8 at X
  rw [e] at X
  exact X
theorem c8_a {lim a c r fl n : Int} {p p1 p0 b0 b1 b2 : List Int64} {k : KP} {o : OU} (h : a < 0 ∨ 3 < a) (hr : r = 0) (hp : p1 = DRP p c) (hn : n = c) (h2 : b2 = []) (hb : b1 = PAB p n.toNat b2) : XEQ ⟨p1, fl, k, b1, o⟩ r (CO8 lim a c p ⟨p0, fl, k, b0, o⟩) := by
  unfold CO8
  rw [if_pos h]
  subst hn h2
  exact ⟨hr, rfl, fun _ => by rw [hp, hb]⟩
theorem c8_9 {lim a c r fl q v : Int} {p p0 b0 : List Int64} {k : KP} {o : OU} {t : O9S} (h : ¬ (a < 0 ∨ 3 < a)) (hv : v = TB9 q) (hq : q = a) (hc : ¬ (c = v)) (hr : r = 9) (ht : t.o.1 = o.1) : XEQ t r (CO8 lim a c p ⟨p0, fl, k, b0, o⟩) := by
  unfold CO8
  rw [if_neg h, if_pos (by rw [← hq, ← hv]; exact hc)]
  exact xeq_f hr (by decide) ht
theorem c8_0 {lim a c r fl fl1 q v u u1 n : Int} {p p1 p0 b0 b1 b2 : List Int64} {k : KP} {P P1 : PRT2} {x y x1 y1 : Int64} (hv : v = TB9 q) (hq : q = a) (hc : c = v) (ha : a = 0) (O : OEQ P1 x1 y1 u1 r (EFO lim fl k (P, x, y, u))) (h2 : b2 = []) (B : CND (r = 0) (fl1 = 0 ∧ b1 = POB (POB b2 (BEL p 0)) (BEL p 1))) (hp : p1 = DRP p n) (hn : n = c) : XEQ ⟨p1, fl1, k, b1, (P1, x1, y1, u1)⟩ r (CO8 lim a c p ⟨p0, fl, k, b0, (P, x, y, u)⟩) := by
  unfold CO8
  subst h2
  rw [if_neg (by omega), if_neg (by rw [← hq, ← hv]; exact fun h => h hc), if_pos ha]
  obtain ⟨o1, o2, o3⟩ := O
  refine ⟨o1, o2, fun h => ?_⟩
  obtain ⟨g1, g2, g3⟩ := o3 h
  obtain ⟨f1, f2⟩ := B h
  show O9S.mk _ _ _ _ _ = O9S.mk _ _ _ _ _
  rw [hp, hn, f1, f2, o2, g1, g2, g3]
theorem c8_1 {lim a c r fl fl1 q v n : Int} {p p1 p0 b0 b1 : List Int64} {k k1 : KP} {o : OU} (hv : v = TB9 q) (hq : q = a) (hc : c = v) (ha : a = 1) (hr : r = 0) (hf : fl1 = 1) (hk : k1 = []) (hb : b1 = []) (hp : p1 = DRP p n) (hn : n = c) : XEQ ⟨p1, fl1, k1, b1, o⟩ r (CO8 lim a c p ⟨p0, fl, k, b0, o⟩) := by
  unfold CO8
  rw [if_neg (by omega), if_neg (by rw [← hq, ← hv]; exact fun h => h hc), if_neg (by omega), if_pos ha]
  refine ⟨hr, rfl, fun _ => ?_⟩
  show O9S.mk _ _ _ _ _ = O9S.mk _ _ _ _ _
  rw [hp, hn, hf, hk, hb]
theorem c8_2 {lim a c r fl q v u n : Int} {p p1 p0 b0 b1 : List Int64} {k k1 : KP} {P : PRT2} {x y : Int64} (hv : v = TB9 q) (hq : q = a) (hc : c = v) (ha : a = 2) (K : PKQ k1 r (KPP fl x y k)) (hb : b1 = []) (hp : p1 = DRP p n) (hn : n = c) : XEQ ⟨p1, fl, k1, b1, (P, x, y, u)⟩ r (CO8 lim a c p ⟨p0, fl, k, b0, (P, x, y, u)⟩) := by
  unfold CO8
  rw [if_neg (by omega), if_neg (by rw [← hq, ← hv]; exact fun h => h hc), if_neg (by omega), if_neg (by omega), if_pos ha]
  refine ⟨K.1, rfl, fun h => ?_⟩
  show O9S.mk _ _ _ _ _ = O9S.mk _ _ _ _ _
  rw [hp, hn, K.2 h, hb]
theorem c8_3 {lim a c r fl q v n : Int} {p p1 p0 b0 b1 b9 : List Int64} {k : KP} {o : OU} (hv : v = TB9 q) (hq : q = a) (hc : c = v) (h : ¬ (a < 0 ∨ 3 < a)) (h0 : ¬ (a = 0)) (h1 : ¬ (a = 1)) (h2 : ¬ (a = 2)) (hr : r = 0) (h9 : b9 = []) (hb : b1 = POB b9 196608) (hp : p1 = DRP p n) (hn : n = c) : XEQ ⟨p1, fl, k, b1, o⟩ r (CO8 lim a c p ⟨p0, fl, k, b0, o⟩) := by
  unfold CO8
  rw [if_neg h, if_neg (by rw [← hq, ← hv]; exact fun h => h hc), if_neg h0, if_neg h1, if_neg h2]
  refine ⟨hr, rfl, fun _ => ?_⟩
  show O9S.mk _ _ _ _ _ = O9S.mk _ _ _ _ _
  rw [hp, hn, hb, h9]
theorem pa_z {f : Nat → Int64} {n : Int} (h : n = 0) : PA f n = [] := by subst h; rfl
theorem kps_z {kx ky : Nat → Int64} {n : Int} (h : n = 0) : KPS kx ky n = [] := by subst h; rfl
