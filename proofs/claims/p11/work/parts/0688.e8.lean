/-! the reference's step (p8 to p11) -/
def SSR (F : F8) (s : M8) (k : Int) : M8 × Int × Int :=
  if (TKB s.c).1 = -1 then (M8.mk s.wh s.o s.ov s.p s.q (TKB s.c).2 s.w, 7, k)
  else if ISN 0 (TKB s.c).1 then (M8.mk s.wh s.o s.ov (TKN 0 F.m (TKB s.c).1 (s.p, (TKB s.c).2)).1.1 s.q (TKN 0 F.m (TKB s.c).1 (s.p, (TKB s.c).2)).1.2 s.w, (TKN 0 F.m (TKB s.c).1 (s.p, (TKB s.c).2)).2, k)
  else if k = 3000 then (M8.mk s.wh s.o s.ov s.p s.q (TKB s.c).2 s.w, 8, k)
  else if (TKB s.c).1 = 12 then
    (if (TKB (TKB s.c).2).1 = -1 then (M8.mk s.wh s.o s.ov s.p s.q (TKB (TKB s.c).2).2 s.w, 7, k)
     else ((CPR F (256 + (TKB (TKB s.c).2).1) (M8.mk s.wh s.o s.ov s.p s.q (TKB (TKB s.c).2).2 s.w)).1, (CPR F (256 + (TKB (TKB s.c).2).1) (M8.mk s.wh s.o s.ov s.p s.q (TKB (TKB s.c).2).2 s.w)).2, if (CPR F (256 + (TKB (TKB s.c).2).1) (M8.mk s.wh s.o s.ov s.p s.q (TKB (TKB s.c).2).2 s.w)).2 = 0 then k + 1 else k))
  else ((CPR F (TKB s.c).1 (M8.mk s.wh s.o s.ov s.p s.q (TKB s.c).2 s.w)).1, (CPR F (TKB s.c).1 (M8.mk s.wh s.o s.ov s.p s.q (TKB s.c).2 s.w)).2, if (CPR F (TKB s.c).1 (M8.mk s.wh s.o s.ov s.p s.q (TKB s.c).2 s.w)).2 = 0 then k + 1 else k)
def STQ (t : M8) (f k : Int) (Q : M8 × Int × Int) : Prop := f = Q.2.1 ∧ k = Q.2.2 ∧ t.wh = Q.1.wh ∧ t.c = Q.1.c ∧ t.o.1 = Q.1.o.1 ∧ (f = 0 → t = Q.1)
theorem ssr_e {F : F8} {f k k1 r : Int} {wh : WH} {o : OU} {ov : Int} {p : List Int64} {q : Nat → Int64} {c c1 : FR8} {w w1 : List FR8} (T : ((r, c1) : Int × FR8) = TKB c) (hw : w1 = w) (hr : r = -1) (hf : f = 7) (hk : k1 = k) : STQ (M8.mk wh o ov p q c1 w1) f k1 (SSR F (M8.mk wh o ov p q c w) k) := by
  unfold SSR
  show STQ _ _ _ (if (TKB c).1 = -1 then (M8.mk wh o ov p q (TKB c).2 w, 7, k) else _)
  rw [← T, if_pos hr, hw]
  exact ⟨hf, hk, rfl, rfl, rfl, fun _ => rfl⟩
theorem ssr_n {F : F8} {f k k1 r : Int} {wh : WH} {o : OU} {ov : Int} {p p2 : List Int64} {q : Nat → Int64} {c c1 c2 : FR8} {w w1 w2 : List FR8} (T : ((r, c1) : Int × FR8) = TKB c) (hw : w1 = w) (N : NEQ p2 c2 f (TKN 0 F.m r (p, c1))) (hw2 : w2 = w1) (hr : 0 ≤ r) (hn : 32 ≤ r ∨ r = 28) (hk : k1 = k) : STQ (M8.mk wh o ov p2 q c2 w2) f k1 (SSR F (M8.mk wh o ov p q c w) k) := by
  unfold SSR
  show STQ _ _ _ (if (TKB c).1 = -1 then _ else if ISN 0 (TKB c).1 then (M8.mk wh o ov (TKN 0 F.m (TKB c).1 (p, (TKB c).2)).1.1 q (TKN 0 F.m (TKB c).1 (p, (TKB c).2)).1.2 w, (TKN 0 F.m (TKB c).1 (p, (TKB c).2)).2, k) else _)
  rw [← T, if_neg (by show ¬ (r = -1); omega), if_pos (by show 32 ≤ r ∨ (0 = 0 ∧ r = 28); omega), hw2, hw]
  obtain ⟨n1, n2, n3⟩ := N
  refine ⟨n1, hk, rfl, n2, rfl, fun h => ?_⟩
  show M8.mk _ _ _ _ _ _ _ = M8.mk _ _ _ _ _ _ _
  rw [n3 h, n2]
theorem ssr_8 {F : F8} {f k k1 r : Int} {wh : WH} {o : OU} {ov : Int} {p : List Int64} {q : Nat → Int64} {c c1 : FR8} {w w1 : List FR8} (T : ((r, c1) : Int × FR8) = TKB c) (hw : w1 = w) (hr : 0 ≤ r) (hn : ¬ (32 ≤ r ∨ r = 28)) (h8 : k = 3000) (hf : f = 8) (hk : k1 = k) : STQ (M8.mk wh o ov p q c1 w1) f k1 (SSR F (M8.mk wh o ov p q c w) k) := by
  unfold SSR
  show STQ _ _ _ (if (TKB c).1 = -1 then _ else if ISN 0 (TKB c).1 then _ else if k = 3000 then (M8.mk wh o ov p q (TKB c).2 w, 8, k) else _)
  rw [← T, if_neg (by show ¬ (r = -1); omega), if_neg (by show ¬ (32 ≤ r ∨ (0 = 0 ∧ r = 28)); omega), if_pos h8, hw]
  exact ⟨hf, hk, rfl, rfl, rfl, fun _ => rfl⟩
theorem ssr_f {F : F8} {f k k1 r r2 : Int} {wh : WH} {o : OU} {ov : Int} {p : List Int64} {q : Nat → Int64} {c c1 c2 : FR8} {w w1 w2 : List FR8} (T : ((r, c1) : Int × FR8) = TKB c) (hw : w1 = w) (T2 : ((r2, c2) : Int × FR8) = TKB c1) (hw2 : w2 = w1) (hr : r = 12) (h8 : ¬ (k = 3000)) (hr2 : r2 = -1) (hf : f = 7) (hk : k1 = k) : STQ (M8.mk wh o ov p q c2 w2) f k1 (SSR F (M8.mk wh o ov p q c w) k) := by
  unfold SSR
  show STQ _ _ _ (if (TKB c).1 = -1 then _ else if ISN 0 (TKB c).1 then _ else if k = 3000 then _ else if (TKB c).1 = 12 then (if (TKB (TKB c).2).1 = -1 then (M8.mk wh o ov p q (TKB (TKB c).2).2 w, 7, k) else _) else _)
  rw [← T, if_neg (by show ¬ (r = -1); omega), if_neg (by show ¬ (32 ≤ r ∨ (0 = 0 ∧ r = 28)); omega), if_neg h8, if_pos hr]
  show STQ _ _ _ (if (TKB c1).1 = -1 then (M8.mk wh o ov p q (TKB c1).2 w, 7, k) else _)
  rw [← T2, if_pos hr2, hw2, hw]
  exact ⟨hf, hk, rfl, rfl, rfl, fun _ => rfl⟩
theorem stq_m {t : M8} {f k k1 : Int} {Q : M8 × Int} (M : MEQ t f Q) (hk : (f = 0 ∧ k1 = k + 1) ∨ (¬ (f = 0) ∧ k1 = k)) : STQ t f k1 (Q.1, Q.2, if Q.2 = 0 then k + 1 else k) := by
  obtain ⟨m1, m2, m3, m4, m5⟩ := M
  refine ⟨m1, ?_, m2, m3, m4, m5⟩
  show k1 = if Q.2 = 0 then k + 1 else k
  rw [← m1]
  rcases hk with ⟨h1, h2⟩ | ⟨h1, h2⟩
  · rw [if_pos h1, h2]
  · rw [if_neg h1, h2]
theorem ssr_2 {F : F8} {f k k1 r r2 b : Int} {wh : WH} {o : OU} {ov : Int} {p : List Int64} {q : Nat → Int64} {c c1 c2 : FR8} {w w1 w2 : List FR8} {t : M8} (T : ((r, c1) : Int × FR8) = TKB c) (hw : w1 = w) (T2 : ((r2, c2) : Int × FR8) = TKB c1) (hw2 : w2 = w1) (M : MEQ t f (CPR F b (M8.mk wh o ov p q c2 w2))) (hb : b = 256 + r2) (hr : r = 12) (h8 : ¬ (k = 3000)) (hr2 : 0 ≤ r2) (hk : (f = 0 ∧ k1 = k + 1) ∨ (¬ (f = 0) ∧ k1 = k)) : STQ t f k1 (SSR F (M8.mk wh o ov p q c w) k) := by
  unfold SSR
  show STQ _ _ _ (if (TKB c).1 = -1 then _ else if ISN 0 (TKB c).1 then _ else if k = 3000 then _ else if (TKB c).1 = 12 then (if (TKB (TKB c).2).1 = -1 then _ else ((CPR F (256 + (TKB (TKB c).2).1) (M8.mk wh o ov p q (TKB (TKB c).2).2 w)).1, (CPR F (256 + (TKB (TKB c).2).1) (M8.mk wh o ov p q (TKB (TKB c).2).2 w)).2, if (CPR F (256 + (TKB (TKB c).2).1) (M8.mk wh o ov p q (TKB (TKB c).2).2 w)).2 = 0 then k + 1 else k)) else _)
  rw [← T, if_neg (by show ¬ (r = -1); omega), if_neg (by show ¬ (32 ≤ r ∨ (0 = 0 ∧ r = 28)); omega), if_neg h8, if_pos hr]
  show STQ _ _ _ (if (TKB c1).1 = -1 then _ else ((CPR F (256 + (TKB c1).1) (M8.mk wh o ov p q (TKB c1).2 w)).1, (CPR F (256 + (TKB c1).1) (M8.mk wh o ov p q (TKB c1).2 w)).2, if (CPR F (256 + (TKB c1).1) (M8.mk wh o ov p q (TKB c1).2 w)).2 = 0 then k + 1 else k))
  rw [← T2, if_neg (by show ¬ (r2 = -1); omega)]
  rw [hw2, hw, hb] at M
  exact stq_m M hk
theorem ssr_1 {F : F8} {f k k1 r : Int} {wh : WH} {o : OU} {ov : Int} {p : List Int64} {q : Nat → Int64} {c c1 : FR8} {w w1 : List FR8} {t : M8} (T : ((r, c1) : Int × FR8) = TKB c) (hw : w1 = w) (M : MEQ t f (CPR F r (M8.mk wh o ov p q c1 w1))) (hr : 0 ≤ r) (hn : ¬ (32 ≤ r ∨ r = 28)) (h12 : ¬ (r = 12)) (h8 : ¬ (k = 3000)) (hk : (f = 0 ∧ k1 = k + 1) ∨ (¬ (f = 0) ∧ k1 = k)) : STQ t f k1 (SSR F (M8.mk wh o ov p q c w) k) := by
  unfold SSR
  show STQ _ _ _ (if (TKB c).1 = -1 then _ else if ISN 0 (TKB c).1 then _ else if k = 3000 then _ else if (TKB c).1 = 12 then _ else ((CPR F (TKB c).1 (M8.mk wh o ov p q (TKB c).2 w)).1, (CPR F (TKB c).1 (M8.mk wh o ov p q (TKB c).2 w)).2, if (CPR F (TKB c).1 (M8.mk wh o ov p q (TKB c).2 w)).2 = 0 then k + 1 else k))
  rw [← T, if_neg (by show ¬ (r = -1); omega), if_neg (by show ¬ (32 ≤ r ∨ (0 = 0 ∧ r = 28)); omega), if_neg h8, if_neg h12]
  rw [hw] at M
  exact stq_m M hk
