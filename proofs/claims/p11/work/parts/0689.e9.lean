/-! the reference's step, Type 1 (p8 to p11) -/
def SS9 (tl : Int → Option (List Int)) (lim m : Int) (s : T8) (k : Int) : T8 × Int × Int :=
  if (TKB s.c).1 = -1 then (T8.mk s.wd s.o s.ov s.p (TKB s.c).2 s.w s.fl s.k s.b, 7, k)
  else if ISN 1 (TKB s.c).1 then (T8.mk s.wd s.o s.ov (TKN 1 m (TKB s.c).1 (s.p, (TKB s.c).2)).1.1 (TKN 1 m (TKB s.c).1 (s.p, (TKB s.c).2)).1.2 s.w s.fl s.k s.b, (TKN 1 m (TKB s.c).1 (s.p, (TKB s.c).2)).2, k)
  else if k = 3000 then (T8.mk s.wd s.o s.ov s.p (TKB s.c).2 s.w s.fl s.k s.b, 8, k)
  else if (TKB s.c).1 = 12 then
    (if (TKB (TKB s.c).2).1 = -1 then (T8.mk s.wd s.o s.ov s.p (TKB (TKB s.c).2).2 s.w s.fl s.k s.b, 7, k)
     else ((OPR tl lim m (256 + (TKB (TKB s.c).2).1) (T8.mk s.wd s.o s.ov s.p (TKB (TKB s.c).2).2 s.w s.fl s.k s.b)).1, (OPR tl lim m (256 + (TKB (TKB s.c).2).1) (T8.mk s.wd s.o s.ov s.p (TKB (TKB s.c).2).2 s.w s.fl s.k s.b)).2, if (OPR tl lim m (256 + (TKB (TKB s.c).2).1) (T8.mk s.wd s.o s.ov s.p (TKB (TKB s.c).2).2 s.w s.fl s.k s.b)).2 = 0 then k + 1 else k))
  else ((OPR tl lim m (TKB s.c).1 (T8.mk s.wd s.o s.ov s.p (TKB s.c).2 s.w s.fl s.k s.b)).1, (OPR tl lim m (TKB s.c).1 (T8.mk s.wd s.o s.ov s.p (TKB s.c).2 s.w s.fl s.k s.b)).2, if (OPR tl lim m (TKB s.c).1 (T8.mk s.wd s.o s.ov s.p (TKB s.c).2 s.w s.fl s.k s.b)).2 = 0 then k + 1 else k)
def ST9 (t : T8) (f k : Int) (Q : T8 × Int × Int) : Prop := f = Q.2.1 ∧ k = Q.2.2 ∧ t.wd = Q.1.wd ∧ t.c = Q.1.c ∧ t.o.1 = Q.1.o.1 ∧ (f = 0 → t = Q.1)
theorem ss9_e {tl : Int → Option (List Int)} {lim m : Int} {f k k1 r : Int} {wd : Int64} {o : OU} {ov : Int} {p : List Int64} {fl : Int} {kp : KP} {b9 : List Int64} {c c1 : FR8} {w w1 : List FR8} (T : ((r, c1) : Int × FR8) = TKB c) (hw : w1 = w) (hr : r = -1) (hf : f = 7) (hk : k1 = k) : ST9 (T8.mk wd o ov p c1 w1 fl kp b9) f k1 (SS9 tl lim m (T8.mk wd o ov p c w fl kp b9) k) := by
  unfold SS9
  show ST9 _ _ _ (if (TKB c).1 = -1 then (T8.mk wd o ov p (TKB c).2 w fl kp b9, 7, k) else _)
  rw [← T, if_pos hr, hw]
  exact ⟨hf, hk, rfl, rfl, rfl, fun _ => rfl⟩
theorem ss9_n {tl : Int → Option (List Int)} {lim m : Int} {f k k1 r : Int} {wd : Int64} {o : OU} {ov : Int} {p p2 : List Int64} {fl : Int} {kp : KP} {b9 : List Int64} {c c1 c2 : FR8} {w w1 w2 : List FR8} (T : ((r, c1) : Int × FR8) = TKB c) (hw : w1 = w) (N : NEQ p2 c2 f (TKN 1 m r (p, c1))) (hw2 : w2 = w1) (hr : 0 ≤ r) (hn : 32 ≤ r) (hk : k1 = k) : ST9 (T8.mk wd o ov p2 c2 w2 fl kp b9) f k1 (SS9 tl lim m (T8.mk wd o ov p c w fl kp b9) k) := by
  unfold SS9
  show ST9 _ _ _ (if (TKB c).1 = -1 then _ else if ISN 1 (TKB c).1 then (T8.mk wd o ov (TKN 1 m (TKB c).1 (p, (TKB c).2)).1.1 (TKN 1 m (TKB c).1 (p, (TKB c).2)).1.2 w fl kp b9, (TKN 1 m (TKB c).1 (p, (TKB c).2)).2, k) else _)
  rw [← T, if_neg (by show ¬ (r = -1); omega), if_pos (by show 32 ≤ r ∨ (1 = 0 ∧ r = 28); omega), hw2, hw]
  obtain ⟨n1, n2, n3⟩ := N
  refine ⟨n1, hk, rfl, n2, rfl, fun h => ?_⟩
  show T8.mk _ _ _ _ _ _ _ _ _ = T8.mk _ _ _ _ _ _ _ _ _
  rw [n3 h, n2]
theorem ss9_8 {tl : Int → Option (List Int)} {lim m : Int} {f k k1 r : Int} {wd : Int64} {o : OU} {ov : Int} {p : List Int64} {fl : Int} {kp : KP} {b9 : List Int64} {c c1 : FR8} {w w1 : List FR8} (T : ((r, c1) : Int × FR8) = TKB c) (hw : w1 = w) (hr : 0 ≤ r) (hn : ¬ (32 ≤ r)) (h8 : k = 3000) (hf : f = 8) (hk : k1 = k) : ST9 (T8.mk wd o ov p c1 w1 fl kp b9) f k1 (SS9 tl lim m (T8.mk wd o ov p c w fl kp b9) k) := by
  unfold SS9
  show ST9 _ _ _ (if (TKB c).1 = -1 then _ else if ISN 1 (TKB c).1 then _ else if k = 3000 then (T8.mk wd o ov p (TKB c).2 w fl kp b9, 8, k) else _)
  rw [← T, if_neg (by show ¬ (r = -1); omega), if_neg (by show ¬ (32 ≤ r ∨ (1 = 0 ∧ r = 28)); omega), if_pos h8, hw]
  exact ⟨hf, hk, rfl, rfl, rfl, fun _ => rfl⟩
theorem ss9_f {tl : Int → Option (List Int)} {lim m : Int} {f k k1 r r2 : Int} {wd : Int64} {o : OU} {ov : Int} {p : List Int64} {fl : Int} {kp : KP} {b9 : List Int64} {c c1 c2 : FR8} {w w1 w2 : List FR8} (T : ((r, c1) : Int × FR8) = TKB c) (hw : w1 = w) (T2 : ((r2, c2) : Int × FR8) = TKB c1) (hw2 : w2 = w1) (hr : r = 12) (h8 : ¬ (k = 3000)) (hr2 : r2 = -1) (hf : f = 7) (hk : k1 = k) : ST9 (T8.mk wd o ov p c2 w2 fl kp b9) f k1 (SS9 tl lim m (T8.mk wd o ov p c w fl kp b9) k) := by
  unfold SS9
  show ST9 _ _ _ (if (TKB c).1 = -1 then _ else if ISN 1 (TKB c).1 then _ else if k = 3000 then _ else if (TKB c).1 = 12 then (if (TKB (TKB c).2).1 = -1 then (T8.mk wd o ov p (TKB (TKB c).2).2 w fl kp b9, 7, k) else _) else _)
  rw [← T, if_neg (by show ¬ (r = -1); omega), if_neg (by show ¬ (32 ≤ r ∨ (1 = 0 ∧ r = 28)); omega), if_neg h8, if_pos hr]
  show ST9 _ _ _ (if (TKB c1).1 = -1 then (T8.mk wd o ov p (TKB c1).2 w fl kp b9, 7, k) else _)
  rw [← T2, if_pos hr2, hw2, hw]
  exact ⟨hf, hk, rfl, rfl, rfl, fun _ => rfl⟩
theorem st9_m {t : T8} {f k k1 : Int} {Q : T8 × Int} (M : TQ9 t f Q) (hk : (f = 0 ∧ k1 = k + 1) ∨ (¬ (f = 0) ∧ k1 = k)) : ST9 t f k1 (Q.1, Q.2, if Q.2 = 0 then k + 1 else k) := by
  obtain ⟨m1, m2, m3, m4, m5⟩ := M
  refine ⟨m1, ?_, m2, m3, m4, m5⟩
  show k1 = if Q.2 = 0 then k + 1 else k
  rw [← m1]
  rcases hk with ⟨h1, h2⟩ | ⟨h1, h2⟩
  · rw [if_pos h1, h2]
  · rw [if_neg h1, h2]
theorem ss9_2 {tl : Int → Option (List Int)} {lim m : Int} {f k k1 r r2 b : Int} {wd : Int64} {o : OU} {ov : Int} {p : List Int64} {fl : Int} {kp : KP} {b9 : List Int64} {c c1 c2 : FR8} {w w1 w2 : List FR8} {t : T8} (T : ((r, c1) : Int × FR8) = TKB c) (hw : w1 = w) (T2 : ((r2, c2) : Int × FR8) = TKB c1) (hw2 : w2 = w1) (M : TQ9 t f (OPR tl lim m b (T8.mk wd o ov p c2 w2 fl kp b9))) (hb : b = 256 + r2) (hr : r = 12) (h8 : ¬ (k = 3000)) (hr2 : 0 ≤ r2) (hk : (f = 0 ∧ k1 = k + 1) ∨ (¬ (f = 0) ∧ k1 = k)) : ST9 t f k1 (SS9 tl lim m (T8.mk wd o ov p c w fl kp b9) k) := by
  unfold SS9
  show ST9 _ _ _ (if (TKB c).1 = -1 then _ else if ISN 1 (TKB c).1 then _ else if k = 3000 then _ else if (TKB c).1 = 12 then (if (TKB (TKB c).2).1 = -1 then _ else ((OPR tl lim m (256 + (TKB (TKB c).2).1) (T8.mk wd o ov p (TKB (TKB c).2).2 w fl kp b9)).1, (OPR tl lim m (256 + (TKB (TKB c).2).1) (T8.mk wd o ov p (TKB (TKB c).2).2 w fl kp b9)).2, if (OPR tl lim m (256 + (TKB (TKB c).2).1) (T8.mk wd o ov p (TKB (TKB c).2).2 w fl kp b9)).2 = 0 then k + 1 else k)) else _)
  rw [← T, if_neg (by show ¬ (r = -1); omega), if_neg (by show ¬ (32 ≤ r ∨ (1 = 0 ∧ r = 28)); omega), if_neg h8, if_pos hr]
  show ST9 _ _ _ (if (TKB c1).1 = -1 then _ else ((OPR tl lim m (256 + (TKB c1).1) (T8.mk wd o ov p (TKB c1).2 w fl kp b9)).1, (OPR tl lim m (256 + (TKB c1).1) (T8.mk wd o ov p (TKB c1).2 w fl kp b9)).2, if (OPR tl lim m (256 + (TKB c1).1) (T8.mk wd o ov p (TKB c1).2 w fl kp b9)).2 = 0 then k + 1 else k))
  rw [← T2, if_neg (by show ¬ (r2 = -1); omega)]
  rw [hw2, hw, hb] at M
  exact st9_m M hk
theorem ss9_1 {tl : Int → Option (List Int)} {lim m : Int} {f k k1 r : Int} {wd : Int64} {o : OU} {ov : Int} {p : List Int64} {fl : Int} {kp : KP} {b9 : List Int64} {c c1 : FR8} {w w1 : List FR8} {t : T8} (T : ((r, c1) : Int × FR8) = TKB c) (hw : w1 = w) (M : TQ9 t f (OPR tl lim m r (T8.mk wd o ov p c1 w1 fl kp b9))) (hr : 0 ≤ r) (hn : ¬ (32 ≤ r)) (h12 : ¬ (r = 12)) (h8 : ¬ (k = 3000)) (hk : (f = 0 ∧ k1 = k + 1) ∨ (¬ (f = 0) ∧ k1 = k)) : ST9 t f k1 (SS9 tl lim m (T8.mk wd o ov p c w fl kp b9) k) := by
  unfold SS9
  show ST9 _ _ _ (if (TKB c).1 = -1 then _ else if ISN 1 (TKB c).1 then _ else if k = 3000 then _ else if (TKB c).1 = 12 then _ else ((OPR tl lim m (TKB c).1 (T8.mk wd o ov p (TKB c).2 w fl kp b9)).1, (OPR tl lim m (TKB c).1 (T8.mk wd o ov p (TKB c).2 w fl kp b9)).2, if (OPR tl lim m (TKB c).1 (T8.mk wd o ov p (TKB c).2 w fl kp b9)).2 = 0 then k + 1 else k))
  rw [← T, if_neg (by show ¬ (r = -1); omega), if_neg (by show ¬ (32 ≤ r ∨ (1 = 0 ∧ r = 28)); omega), if_neg h8, if_neg h12]
  rw [hw] at M
  exact st9_m M hk
theorem pat_w {P : PRT2} {i k w : Int} (h : w < 0 ∨ 1 < w ∨ k < 0) : PAT P i k w = 0 := by
  unfold PAT
  exact if_neg (by omega)
theorem oat {f : Nat → Int32} {x r : Int32} (e : f (Int32.toNatClampNeg x) = r) : Int32.toInt r = Int32.toInt (f (Int32.toInt x).toNat) := by rw [← e]; rfl
