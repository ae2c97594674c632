/-! a run of Type 1 (p8 to p11) -/
def RN9 (tl : Int → Option (List Int)) (lim m : Int) : Nat → T8 → Int → T8 × Int × Int
  | 0, s, k => (s, 0, k)
  | n + 1, s, k => if ¬ (s.ov = 0) then (s, 0, k)
      else if (TOP 1 m k (s.p, s.c)).2 < 0 then ((T8.mk s.wd s.o s.ov s.p ((TOP 1 m k (s.p, s.c)).1.2) s.w s.fl s.k s.b), -(TOP 1 m k (s.p, s.c)).2, k)
      else if (OP9 tl lim m (TOP 1 m k (s.p, s.c)).2 (T8.mk s.wd s.o s.ov ((TOP 1 m k (s.p, s.c)).1.1) ((TOP 1 m k (s.p, s.c)).1.2) s.w s.fl s.k s.b)).2 = 0 then RN9 tl lim m n (OP9 tl lim m (TOP 1 m k (s.p, s.c)).2 (T8.mk s.wd s.o s.ov ((TOP 1 m k (s.p, s.c)).1.1) ((TOP 1 m k (s.p, s.c)).1.2) s.w s.fl s.k s.b)).1 (k + 1)
      else ((OP9 tl lim m (TOP 1 m k (s.p, s.c)).2 (T8.mk s.wd s.o s.ov ((TOP 1 m k (s.p, s.c)).1.1) ((TOP 1 m k (s.p, s.c)).1.2) s.w s.fl s.k s.b)).1, (OP9 tl lim m (TOP 1 m k (s.p, s.c)).2 (T8.mk s.wd s.o s.ov ((TOP 1 m k (s.p, s.c)).1.1) ((TOP 1 m k (s.p, s.c)).1.2) s.w s.fl s.k s.b)).2, k)
def VI9 (t : T8) (f k : Int) (Q : T8 × Int × Int) : Prop := f = Q.2.1 ∧ k = Q.2.2 ∧ t.wd = Q.1.wd ∧ t.c = Q.1.c ∧ t.o.1 = Q.1.o.1
def RI9 (tl : Int → Option (List Int)) (lim m : Int) (s0 : T8) (i f : Int) (t : T8) (k : Int) : Prop := (f = 0 ∧ RN9 tl lim m 3001 s0 0 = RN9 tl lim m (3001 - i).toNat t k) ∨ (¬ (f = 0) ∧ VI9 t f k (RN9 tl lim m 3001 s0 0))
theorem ri9_0 {tl : Int → Option (List Int)} {lim m : Int} {s0 t : T8} {i f k : Int} (hi : i = 0) (hf : f = 0) (hk : k = 0) (h : t = s0) : RI9 tl lim m s0 i f t k := by
  subst hi hf hk h
  exact Or.inl ⟨rfl, rfl⟩
theorem ri9_go {tl : Int → Option (List Int)} {lim m : Int} {s0 t : T8} {i f k : Int} (R : RI9 tl lim m s0 i f t k) (hf : f = 0) : RN9 tl lim m 3001 s0 0 = RN9 tl lim m (3001 - i).toNat t k := R.elim And.right fun h => absurd hf h.1
theorem ri9_f {tl : Int → Option (List Int)} {lim m m1 : Int} {s0 : T8} {i i1 f f1 k r : Int} {wd : Int64} {o : OU} {ov fl : Int} {p p1 : List Int64} {c c1 : FR8} {w : List FR8} {kp : KP} {b : List Int64} (R : RI9 tl lim m s0 i f ⟨wd, o, ov, p, c, w, fl, kp, b⟩ k) (hf : f = 0) (hi : i ≤ 3000) (ho : ov = 0) (hm : m1 = m) (T : TEQ p1 c1 r (TOP 1 m1 k (p, c))) (hr : r < 0) (h1 : f1 = -r) : RI9 tl lim m s0 i1 f1 ⟨wd, o, ov, p1, c1, w, fl, kp, b⟩ k := by
  have e := ri9_go R hf
  rw [show (3001 - i).toNat = (3000 - i).toNat + 1 by omega] at e
  subst hm
  obtain ⟨t1, t2, t3⟩ := T
  refine Or.inr ⟨by omega, ?_⟩
  rw [e]
  show VI9 _ _ _ (if ¬ (ov = 0) then _ else if (TOP 1 m1 k (p, c)).2 < 0 then ((⟨wd, o, ov, p, (TOP 1 m1 k (p, c)).1.2, w, fl, kp, b⟩ : T8), -(TOP 1 m1 k (p, c)).2, k) else _)
  rw [if_neg (fun h => h ho), if_pos (by rw [← t1]; exact hr), ← t1, ← t2]
  exact ⟨h1, rfl, rfl, rfl, rfl⟩
theorem ri9_o {tl : Int → Option (List Int)} {lim m m1 m2 : Int} {s0 : T8} {i i1 f k k1 r op : Int} {wd : Int64} {o : OU} {ov fl : Int} {p p1 : List Int64} {c c1 : FR8} {w : List FR8} {kp : KP} {b : List Int64} {t : T8} (R : RI9 tl lim m s0 i f ⟨wd, o, ov, p, c, w, fl, kp, b⟩ k) (hf : f = 0) (hi : i ≤ 3000) (ho : ov = 0) (hm : m1 = m) (T : TEQ p1 c1 op (TOP 1 m1 k (p, c))) (hp : 0 ≤ op) (hm2 : m2 = m) (M : TQ9 t r (OP9 tl lim m2 op ⟨wd, o, ov, p1, c1, w, fl, kp, b⟩)) (h1 : i1 = i + 1) (hk : (r = 0 ∧ k1 = k + 1) ∨ (¬ (r = 0) ∧ k1 = k)) : RI9 tl lim m s0 i1 r t k1 := by
  have e := ri9_go R hf
  rw [show (3001 - i).toNat = (3001 - i1).toNat + 1 by omega] at e
  subst hm
  subst hm2
  obtain ⟨t1, t2, t3⟩ := T
  have e2 := t3 hp
  have e3 : RN9 tl lim m2 3001 s0 0 = if (OP9 tl lim m2 op ⟨wd, o, ov, p1, c1, w, fl, kp, b⟩).2 = 0 then RN9 tl lim m2 (3001 - i1).toNat (OP9 tl lim m2 op ⟨wd, o, ov, p1, c1, w, fl, kp, b⟩).1 (k + 1) else ((OP9 tl lim m2 op ⟨wd, o, ov, p1, c1, w, fl, kp, b⟩).1, (OP9 tl lim m2 op ⟨wd, o, ov, p1, c1, w, fl, kp, b⟩).2, k) := by
    rw [e]
    show (if ¬ (ov = 0) then _ else if (TOP 1 m2 k (p, c)).2 < 0 then _ else if (OP9 tl lim m2 (TOP 1 m2 k (p, c)).2 ⟨wd, o, ov, (TOP 1 m2 k (p, c)).1.1, (TOP 1 m2 k (p, c)).1.2, w, fl, kp, b⟩).2 = 0 then RN9 tl lim m2 (3001 - i1).toNat (OP9 tl lim m2 (TOP 1 m2 k (p, c)).2 ⟨wd, o, ov, (TOP 1 m2 k (p, c)).1.1, (TOP 1 m2 k (p, c)).1.2, w, fl, kp, b⟩).1 (k + 1) else _) = _
    rw [if_neg (fun h => h ho), if_neg (by rw [← t1]; omega), ← t1, ← t2, ← e2]
  obtain ⟨m1, m2, m3, m4, m5⟩ := M
  by_cases hr : r = 0
  · refine Or.inl ⟨hr, ?_⟩
    rw [e3, if_pos (by rw [← m1]; exact hr), ← m5 hr]
    rw [show k1 = k + 1 by omega]
  · refine Or.inr ⟨hr, ?_⟩
    rw [e3, if_neg (by rw [← m1]; exact hr)]
    exact ⟨m1, by show k1 = k; omega, m2, m3, m4⟩
theorem ri9_e {tl : Int → Option (List Int)} {lim m : Int} {s0 t : T8} {i f k : Int} (R : RI9 tl lim m s0 i f t k) (h : ¬ (f = 0) ∨ 3001 ≤ i ∨ ¬ (t.ov = 0)) : VI9 t f k (RN9 tl lim m 3001 s0 0) := by
  rcases R with ⟨a, b⟩ | ⟨a, b⟩
  · have e : RN9 tl lim m (3001 - i).toNat t k = (t, 0, k) := by
      rcases h with h | h | h
      · exact absurd a h
      · rw [show (3001 - i).toNat = 0 by omega]; rfl
      · cases hn : (3001 - i).toNat with
        | zero => rfl
        | succ n => show (if ¬ (t.ov = 0) then _ else _) = _; rw [if_pos h]
    rw [b, e]
    exact ⟨a, rfl, rfl, rfl, rfl⟩
  · exact b
theorem t8_0 {wd : Int64} {o : OU} {ov fl : Int} {f g kx ky : Nat → Int64} {n d j a : Int} {c c1 : FR8} {β : Int → Int} {cb cf cp : Nat → Int32} (hn : n = 0) (hc : c = c1) (hd : d = 0) (hj : j = 0) (ha : a = 0) : T8.mk wd o ov (PA f n) c (CLR β cb cf cp d) fl (KPS kx ky j) (PA g a) = T8.mk wd o ov [] c1 [] fl [] [] := by
  subst hn hd hc hj ha
  rfl
