/-! the next operator of a program (p8 to p11) -/
abbrev ISN (fam b : Int) : Prop := 32 ≤ b ∨ (fam = 0 ∧ b = 28)
def ISF (fam b r : Int) : Prop := (ISN fam b ∧ r = 1) ∨ (¬ ISN fam b ∧ r = 0)
theorem isf_1 {fam b r : Int} (h : ISF fam b r) (hr : ¬ (r = 0)) : ISN fam b := h.elim And.left fun h => absurd h.2 hr
theorem isf_0 {fam b r : Int} (h : ISF fam b r) (hr : r = 0) : ¬ ISN fam b := h.elim (fun h => absurd (hr.symm.trans h.2) (by decide)) And.left
theorem isn_29 {fam b : Int} (h : ISN fam b) : ¬ (b = 29) := by unfold ISN at h; omega
theorem isn_f {fam b : Int} (h : ISN fam b) : ¬ (b = -1) := by unfold ISN at h; omega
def TOB (fam m st : Int) : Nat → Int → NP → NP × Int
  | 0, _, s => (s, -3)
  | n + 1, b, s => if ISN fam b then (if (TKN fam m b s).2 = 0 then TOB fam m st n (TKB (TKN fam m b s).1.2).1 ((TKN fam m b s).1.1, (TKB (TKN fam m b s).1.2).2) else ((TKN fam m b s).1, -(TKN fam m b s).2))
      else if b = -1 then (s, -7) else if 3000 ≤ st then (s, -8) else if b = 12 then (if (TKB s.2).1 = -1 then ((s.1, (TKB s.2).2), -7) else ((s.1, (TKB s.2).2), 256 + (TKB s.2).1)) else (s, b)
def TOP (fam m st : Int) (s : NP) : NP × Int := TOB fam m st 50 (TKB s.2).1 (s.1, (TKB s.2).2)
/-- behind a fault (below 0) the program counts -/
def TEQ (p : List Int64) (c : FR8) (r : Int) (q : NP × Int) : Prop := r = q.2 ∧ c = q.1.2 ∧ (0 ≤ r → p = q.1.1)
theorem top_0 {fam m st b i : Int} {p : List Int64} {c c1 : FR8} (B : ((b, c1) : Int × FR8) = TKB c) (hi : i = 0) : TOP fam m st (p, c) = TOB fam m st (50 - i).toNat b (p, c1) := by
  subst hi
  unfold TOP
  show TOB fam m st 50 (TKB c).1 (p, (TKB c).2) = _
  rw [← B]
  rfl
theorem tob_s {fam m st i i1 b b1 r : Int} {p p1 : List Int64} {c c1 c2 : FR8} (h : ISN fam b) (N : NEQ p1 c1 r (TKN fam m b (p, c))) (hr : r = 0) (B : ((b1, c2) : Int × FR8) = TKB c1) (hi : i ≤ 48) (h1 : i1 = i + 1) : TOB fam m st (50 - i).toNat b (p, c) = TOB fam m st (50 - i1).toNat b1 (p1, c2) := by
  rw [show (50 - i).toNat = (50 - i1).toNat + 1 by omega]
  obtain ⟨n1, n2, n3⟩ := N
  have e : TKN fam m b (p, c) = ((p1, c1), 0) := by
    rw [n3 hr, n2, ← hr, n1]
  show (if ISN fam b then (if (TKN fam m b (p, c)).2 = 0 then TOB fam m st _ (TKB (TKN fam m b (p, c)).1.2).1 ((TKN fam m b (p, c)).1.1, (TKB (TKN fam m b (p, c)).1.2).2) else _) else _) = _
  rw [if_pos h, e, if_pos rfl]
  show TOB fam m st _ (TKB c1).1 (p1, (TKB c1).2) = _
  rw [← B]
theorem tob_f {fam m st i b r r1 : Int} {p p1 p2 : List Int64} {c c1 : FR8} {q : NP × Int} (L : q = TOB fam m st (50 - i).toNat b (p, c)) (h : ISN fam b) (N : NEQ p1 c1 r (TKN fam m b (p, c))) (hr : 0 < r) (hi : i ≤ 48) (h1 : r1 = -r) : TEQ p2 c1 r1 q := by
  rw [L, show (50 - i).toNat = (49 - i).toNat + 1 by omega]
  obtain ⟨n1, n2, n3⟩ := N
  show TEQ p2 c1 r1 (if ISN fam b then (if (TKN fam m b (p, c)).2 = 0 then _ else ((TKN fam m b (p, c)).1, -(TKN fam m b (p, c)).2)) else _)
  rw [if_pos h, if_neg (by rw [← n1]; omega), ← n1]
  exact ⟨h1, n2, fun h => absurd h (by omega)⟩
theorem tob_n {fam m st i b r : Int} {p p1 : List Int64} {c c1 : FR8} {q : NP × Int} (L : q = TOB fam m st (50 - i).toNat b (p, c)) (h : ¬ ISN fam b) (hi : i ≤ 49) (T : TEQ p1 c1 r (if b = -1 then ((p, c), -7) else if 3000 ≤ st then ((p, c), -8) else if b = 12 then (if (TKB c).1 = -1 then ((p, (TKB c).2), -7) else ((p, (TKB c).2), 256 + (TKB c).1)) else ((p, c), b))) : TEQ p1 c1 r q := by
  rw [L, show (50 - i).toNat = (49 - i).toNat + 1 by omega]
  show TEQ p1 c1 r (if ISN fam b then _ else if b = -1 then ((p, c), -7) else if 3000 ≤ st then ((p, c), -8) else if b = 12 then (if (TKB c).1 = -1 then ((p, (TKB c).2), -7) else ((p, (TKB c).2), 256 + (TKB c).1)) else ((p, c), b))
  rw [if_neg h]
  exact T
theorem tot_7 {st b r : Int} {p p1 : List Int64} {c : FR8} (h : b = -1) (hr : r = -7) : TEQ p1 c r (if b = -1 then ((p, c), -7) else if 3000 ≤ st then ((p, c), -8) else if b = 12 then (if (TKB c).1 = -1 then ((p, (TKB c).2), -7) else ((p, (TKB c).2), 256 + (TKB c).1)) else ((p, c), b)) := by
  rw [if_pos h]; exact ⟨hr, rfl, fun h => absurd h (by omega)⟩
theorem tot_8 {st b r : Int} {p p1 : List Int64} {c : FR8} (h : ¬ (b = -1)) (hs : 3000 ≤ st) (hr : r = -8) : TEQ p1 c r (if b = -1 then ((p, c), -7) else if 3000 ≤ st then ((p, c), -8) else if b = 12 then (if (TKB c).1 = -1 then ((p, (TKB c).2), -7) else ((p, (TKB c).2), 256 + (TKB c).1)) else ((p, c), b)) := by
  rw [if_neg h, if_pos hs]; exact ⟨hr, rfl, fun h => absurd h (by omega)⟩
theorem tot_1 {st b r : Int} {p : List Int64} {c : FR8} (h : ¬ (b = -1)) (hs : ¬ (3000 ≤ st)) (h2 : ¬ (b = 12)) (hr : r = b) : TEQ p c r (if b = -1 then ((p, c), -7) else if 3000 ≤ st then ((p, c), -8) else if b = 12 then (if (TKB c).1 = -1 then ((p, (TKB c).2), -7) else ((p, (TKB c).2), 256 + (TKB c).1)) else ((p, c), b)) := by
  rw [if_neg h, if_neg hs, if_neg h2]; exact ⟨hr, rfl, fun _ => rfl⟩
theorem tot_e {st b r d : Int} {p p1 : List Int64} {c c1 : FR8} (h : ¬ (b = -1)) (hs : ¬ (3000 ≤ st)) (h2 : b = 12) (B : ((d, c1) : Int × FR8) = TKB c) (hd : d = -1) (hr : r = -7) : TEQ p1 c1 r (if b = -1 then ((p, c), -7) else if 3000 ≤ st then ((p, c), -8) else if b = 12 then (if (TKB c).1 = -1 then ((p, (TKB c).2), -7) else ((p, (TKB c).2), 256 + (TKB c).1)) else ((p, c), b)) := by
  rw [if_neg h, if_neg hs, if_pos h2, ← B, if_pos hd]; exact ⟨hr, rfl, fun h => absurd h (by omega)⟩
theorem tot_2 {st b r d : Int} {p : List Int64} {c c1 : FR8} (h : ¬ (b = -1)) (hs : ¬ (3000 ≤ st)) (h2 : b = 12) (B : ((d, c1) : Int × FR8) = TKB c) (hd : ¬ (d = -1)) (hr : r = 256 + d) : TEQ p c1 r (if b = -1 then ((p, c), -7) else if 3000 ≤ st then ((p, c), -8) else if b = 12 then (if (TKB c).1 = -1 then ((p, (TKB c).2), -7) else ((p, (TKB c).2), 256 + (TKB c).1)) else ((p, c), b)) := by
  rw [if_neg h, if_neg hs, if_pos h2, ← B, if_neg hd]; exact ⟨hr, rfl, fun _ => rfl⟩
