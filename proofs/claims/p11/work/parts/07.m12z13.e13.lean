/-! Type 1: both machines do the same (p8 to p11) -/
/-- points that are kept count only where a flex is on -/
def SIM (s t : T8) : Prop := s.wd = t.wd ∧ s.o = t.o ∧ s.ov = t.ov ∧ s.p = t.p ∧ s.c = t.c ∧ s.w = t.w ∧ s.fl = t.fl ∧ s.b = t.b ∧ (s.fl = 0 ∨ s.k = t.k)
def SOQ (A B : T8 × Int) : Prop := A.2 = B.2 ∧ A.1.wd = B.1.wd ∧ A.1.c = B.1.c ∧ A.1.o.1 = B.1.o.1 ∧ (A.2 = 0 → SIM A.1 B.1)
def XOQ (A B : O9S × Int) : Prop := A.2 = B.2 ∧ A.1.o.1 = B.1.o.1 ∧ (A.2 = 0 → A.1.p = B.1.p ∧ A.1.fl = B.1.fl ∧ A.1.b = B.1.b ∧ A.1.o = B.1.o ∧ (A.1.fl = 0 ∨ A.1.k = B.1.k))
theorem soq_i {c : Prop} [Decidable c] {A B A1 B1 : T8 × Int} (h : c → SOQ A A1) (g : ¬ c → SOQ B B1) : SOQ (if c then A else B) (if c then A1 else B1) := by
  by_cases hc : c
  · rw [if_pos hc, if_pos hc]; exact h hc
  · rw [if_neg hc, if_neg hc]; exact g hc
theorem xoq_i {c : Prop} [Decidable c] {A B A1 B1 : O9S × Int} (h : c → XOQ A A1) (g : ¬ c → XOQ B B1) : XOQ (if c then A else B) (if c then A1 else B1) := by
  by_cases hc : c
  · rw [if_pos hc, if_pos hc]; exact h hc
  · rw [if_neg hc, if_neg hc]; exact g hc
theorem xoq_f {A B : O9S} {k : Int} (h : ¬ (k = 0)) (e : A.o.1 = B.o.1) : XOQ (A, k) (B, k) := ⟨rfl, e, fun h9 => absurd h9 h⟩
theorem efo_0 {lim : Int} {k : KP} {o : OU} : EFO lim 0 k o = (o, 9) := by unfold EFO; rw [if_pos (Or.inl rfl)]
theorem kpp_0 {x y : Int64} {k : KP} : KPP 0 x y k = (k, 9) := by unfold KPP; rw [if_pos (Or.inl rfl)]
theorem xoq_c {lim : Int} {p b : List Int64} {k1 k2 : KP} {o : OU} : XOQ (CO9 lim (O9S.mk p 0 k1 b o)) (CO9 lim (O9S.mk p 0 k2 b o)) := by
  show XOQ (if p.length < 2 then (O9S.mk p 0 k1 b o, 2) else if WHL p 1 < 0 then (O9S.mk p 0 k1 b o, 9) else if (p.length : Int) - 2 < WHL p 1 then (O9S.mk p 0 k1 b o, 2) else if WHL p 0 < 0 ∨ 3 < WHL p 0 then (O9S.mk (DRP (DRP p 2) (WHL p 1)) 0 k1 (PAB (DRP p 2) (WHL p 1).toNat []) o, 0) else if ¬ (WHL p 1 = TB9 (WHL p 0)) then (O9S.mk p 0 k1 b o, 9) else if WHL p 0 = 0 then (O9S.mk (DRP (DRP p 2) (WHL p 1)) 0 k1 (POB (POB [] (BEL (DRP p 2) 0)) (BEL (DRP p 2) 1)) (EFO lim 0 k1 o).1, (EFO lim 0 k1 o).2) else if WHL p 0 = 1 then (O9S.mk (DRP (DRP p 2) (WHL p 1)) 1 [] [] o, 0) else if WHL p 0 = 2 then (O9S.mk (DRP (DRP p 2) (WHL p 1)) 0 (KPP 0 o.2.1 o.2.2.1 k1).1 [] o, (KPP 0 o.2.1 o.2.2.1 k1).2) else (O9S.mk (DRP (DRP p 2) (WHL p 1)) 0 k1 (POB [] 196608) o, 0)) (if p.length < 2 then (O9S.mk p 0 k2 b o, 2) else if WHL p 1 < 0 then (O9S.mk p 0 k2 b o, 9) else if (p.length : Int) - 2 < WHL p 1 then (O9S.mk p 0 k2 b o, 2) else if WHL p 0 < 0 ∨ 3 < WHL p 0 then (O9S.mk (DRP (DRP p 2) (WHL p 1)) 0 k2 (PAB (DRP p 2) (WHL p 1).toNat []) o, 0) else if ¬ (WHL p 1 = TB9 (WHL p 0)) then (O9S.mk p 0 k2 b o, 9) else if WHL p 0 = 0 then (O9S.mk (DRP (DRP p 2) (WHL p 1)) 0 k2 (POB (POB [] (BEL (DRP p 2) 0)) (BEL (DRP p 2) 1)) (EFO lim 0 k2 o).1, (EFO lim 0 k2 o).2) else if WHL p 0 = 1 then (O9S.mk (DRP (DRP p 2) (WHL p 1)) 1 [] [] o, 0) else if WHL p 0 = 2 then (O9S.mk (DRP (DRP p 2) (WHL p 1)) 0 (KPP 0 o.2.1 o.2.2.1 k2).1 [] o, (KPP 0 o.2.1 o.2.2.1 k2).2) else (O9S.mk (DRP (DRP p 2) (WHL p 1)) 0 k2 (POB [] 196608) o, 0))
  rw [efo_0, efo_0, kpp_0, kpp_0]
  have N2 : ¬ ((2 : Int) = 0) := by decide
  have N9 : ¬ ((9 : Int) = 0) := by decide
  exact xoq_i (fun _ => xoq_f N2 rfl) fun _ => xoq_i (fun _ => xoq_f N9 rfl) fun _ => xoq_i (fun _ => xoq_f N2 rfl) fun _ => xoq_i (fun _ => ⟨rfl, rfl, fun _ => ⟨rfl, rfl, rfl, rfl, Or.inl rfl⟩⟩) fun _ => xoq_i (fun _ => xoq_f N9 rfl) fun _ => xoq_i (fun _ => xoq_f N9 rfl) fun _ => xoq_i (fun _ => ⟨rfl, rfl, fun _ => ⟨rfl, rfl, rfl, rfl, Or.inr rfl⟩⟩) fun _ => xoq_i (fun _ => xoq_f N9 rfl) fun _ => ⟨rfl, rfl, fun _ => ⟨rfl, rfl, rfl, rfl, Or.inl rfl⟩⟩
theorem soq_0 {tl : Int → Option (List Int)} {lim m op : Int} {wd : Int64} {o : OU} {ov : Int} {p : List Int64} {c : FR8} {w : List FR8} {k1 k2 : KP} {b : List Int64} : SOQ (OP9 tl lim m op (T8.mk wd o ov p c w 0 k1 b)) (OP9 tl lim m op (T8.mk wd o ov p c w 0 k2 b)) := by
  show SOQ (if op = 10 then TK9 (T8.mk wd o ov p c w 0 k1 b) (CLL tl 0 (p, c, w)) else if op = 11 then TK9 (T8.mk wd o ov p c w 0 k1 b) (RTN (p, c, w)) else if op = 268 then TD9 (T8.mk wd o ov p c w 0 k1 b) (DVD m p) else if op = 272 then TC9 (T8.mk wd o ov p c w 0 k1 b) (CO9 lim (O9S.mk p 0 k1 b o)) else if op = 273 then TB8 (T8.mk wd o ov p c w 0 k1 b) (POP9 m (p, b)) else if WN9 op = -1 then (T8.mk wd o ov p c w 0 k1 b, 1) else if ¬ ((p.length : Int) = WN9 op) then (T8.mk wd o ov p c w 0 k1 b, 2) else TW9 (T8.mk wd o ov p c w 0 k1 b) (PT9 lim 0 p op (wd, o, ov))) (if op = 10 then TK9 (T8.mk wd o ov p c w 0 k2 b) (CLL tl 0 (p, c, w)) else if op = 11 then TK9 (T8.mk wd o ov p c w 0 k2 b) (RTN (p, c, w)) else if op = 268 then TD9 (T8.mk wd o ov p c w 0 k2 b) (DVD m p) else if op = 272 then TC9 (T8.mk wd o ov p c w 0 k2 b) (CO9 lim (O9S.mk p 0 k2 b o)) else if op = 273 then TB8 (T8.mk wd o ov p c w 0 k2 b) (POP9 m (p, b)) else if WN9 op = -1 then (T8.mk wd o ov p c w 0 k2 b, 1) else if ¬ ((p.length : Int) = WN9 op) then (T8.mk wd o ov p c w 0 k2 b, 2) else TW9 (T8.mk wd o ov p c w 0 k2 b) (PT9 lim 0 p op (wd, o, ov)))
  have sm : ∀ {wd : Int64} {o : OU} {ov : Int} {p : List Int64} {c : FR8} {w : List FR8} {b : List Int64}, SIM (T8.mk wd o ov p c w 0 k1 b) (T8.mk wd o ov p c w 0 k2 b) := fun {_ _ _ _ _ _ _} => ⟨rfl, rfl, rfl, rfl, rfl, rfl, rfl, rfl, Or.inl rfl⟩
  refine soq_i (fun _ => ⟨rfl, rfl, rfl, rfl, fun _ => sm⟩) fun _ => soq_i (fun _ => ⟨rfl, rfl, rfl, rfl, fun _ => sm⟩) fun _ => soq_i (fun _ => ⟨rfl, rfl, rfl, rfl, fun _ => sm⟩) fun _ => soq_i (fun _ => ?_) fun _ => soq_i (fun _ => ⟨rfl, rfl, rfl, rfl, fun _ => sm⟩) fun _ => soq_i (fun _ => ⟨rfl, rfl, rfl, rfl, fun _ => sm⟩) fun _ => soq_i (fun _ => ⟨rfl, rfl, rfl, rfl, fun _ => sm⟩) fun _ => ⟨rfl, rfl, rfl, rfl, fun _ => sm⟩
  obtain ⟨x1, x2, x3⟩ := xoq_c (lim := lim) (p := p) (b := b) (k1 := k1) (k2 := k2) (o := o)
  refine ⟨x1, rfl, rfl, x2, fun h => ?_⟩
  obtain ⟨a1, a2, a3, a4, a5⟩ := x3 h
  exact ⟨rfl, a4, rfl, a1, rfl, rfl, a2, a3, a5⟩
theorem soq_s {tl : Int → Option (List Int)} {lim m op : Int} {s t : T8} (h : SIM s t) : SOQ (OP9 tl lim m op s) (OP9 tl lim m op t) := by
  obtain ⟨wd, o, ov, p, c, w, fl, k1, b⟩ := s
  obtain ⟨wd2, o2, ov2, p2, c2, w2, fl2, k2, b2⟩ := t
  obtain ⟨h1, h2, h3, h4, h5, h6, h7, h8, h9⟩ := h
  change wd = wd2 at h1
  change o = o2 at h2
  change ov = ov2 at h3
  change p = p2 at h4
  change c = c2 at h5
  change w = w2 at h6
  change fl = fl2 at h7
  change b = b2 at h8
  change fl = 0 ∨ k1 = k2 at h9
  subst h1 h2 h3 h4 h5 h6 h7 h8
  rcases h9 with h9 | h9
  · subst h9
    exact soq_0
  · subst h9
    exact ⟨rfl, rfl, rfl, rfl, fun _ => ⟨rfl, rfl, rfl, rfl, rfl, rfl, rfl, rfl, Or.inr rfl⟩⟩
theorem rn9_f {tl : Int → Option (List Int)} {lim m : Int} {n : Nat} {s : T8} {k f : Int} {q : NP} (ho : s.ov = 0) (h : TOP 1 m k (s.p, s.c) = (q, -f)) (hf : 0 < f) : RN9 tl lim m (n + 1) s k = (T8.mk s.wd s.o s.ov s.p q.2 s.w s.fl s.k s.b, f, k) := by
  show (if ¬ (s.ov = 0) then _ else if (TOP 1 m k (s.p, s.c)).2 < 0 then (T8.mk s.wd s.o s.ov s.p (TOP 1 m k (s.p, s.c)).1.2 s.w s.fl s.k s.b, -(TOP 1 m k (s.p, s.c)).2, k) else _) = _
  rw [if_neg (fun h9 => h9 ho), h, if_pos (by show -f < 0; omega)]
  show (T8.mk s.wd s.o s.ov s.p q.2 s.w s.fl s.k s.b, - -f, k) = _
  rw [Int.neg_neg]
theorem rn9_o {tl : Int → Option (List Int)} {lim m : Int} {n : Nat} {s : T8} {k op : Int} {q : NP} (ho : s.ov = 0) (h : TOP 1 m k (s.p, s.c) = (q, op)) (hp : 0 ≤ op) : RN9 tl lim m (n + 1) s k = if (OP9 tl lim m op (T8.mk s.wd s.o s.ov q.1 q.2 s.w s.fl s.k s.b)).2 = 0 then RN9 tl lim m n (OP9 tl lim m op (T8.mk s.wd s.o s.ov q.1 q.2 s.w s.fl s.k s.b)).1 (k + 1) else ((OP9 tl lim m op (T8.mk s.wd s.o s.ov q.1 q.2 s.w s.fl s.k s.b)).1, (OP9 tl lim m op (T8.mk s.wd s.o s.ov q.1 q.2 s.w s.fl s.k s.b)).2, k) := by
  show (if ¬ (s.ov = 0) then _ else if (TOP 1 m k (s.p, s.c)).2 < 0 then _ else if (OP9 tl lim m (TOP 1 m k (s.p, s.c)).2 (T8.mk s.wd s.o s.ov (TOP 1 m k (s.p, s.c)).1.1 (TOP 1 m k (s.p, s.c)).1.2 s.w s.fl s.k s.b)).2 = 0 then RN9 tl lim m n (OP9 tl lim m (TOP 1 m k (s.p, s.c)).2 (T8.mk s.wd s.o s.ov (TOP 1 m k (s.p, s.c)).1.1 (TOP 1 m k (s.p, s.c)).1.2 s.w s.fl s.k s.b)).1 (k + 1) else ((OP9 tl lim m (TOP 1 m k (s.p, s.c)).2 (T8.mk s.wd s.o s.ov (TOP 1 m k (s.p, s.c)).1.1 (TOP 1 m k (s.p, s.c)).1.2 s.w s.fl s.k s.b)).1, (OP9 tl lim m (TOP 1 m k (s.p, s.c)).2 (T8.mk s.wd s.o s.ov (TOP 1 m k (s.p, s.c)).1.1 (TOP 1 m k (s.p, s.c)).1.2 s.w s.fl s.k s.b)).2, k)) = _
  rw [if_neg (fun h9 => h9 ho), h, if_neg (by show ¬ (op < 0); omega)]
theorem sim_run {tl : Int → Option (List Int)} {lim m : Int} : ∀ (n : Nat) (s t : T8) (k : Int), SIM s t → DW9 (RN9 tl lim m n s k) = DW9 (RN9 tl lim m n t k)
  | 0, s, t, k, h => by
    obtain ⟨h1, h2, _, _, h5, _⟩ := h
    show ((s.o.1, k, 0, s.c.2, s.wd), (0 : Int)) = ((t.o.1, k, 0, t.c.2, t.wd), 0)
    rw [h1, h2, h5]
  | n + 1, s, t, k, h => by
    have hh := h
    obtain ⟨h1, h2, h3, h4, h5, h6, h7, h8, h9⟩ := h
    by_cases ho : s.ov = 0
    · by_cases hp : (TOP 1 m k (s.p, s.c)).2 < 0
      · have a := rn9_f (tl := tl) (lim := lim) (m := m) (n := n) (s := s) (k := k) (q := (TOP 1 m k (s.p, s.c)).1) (f := -(TOP 1 m k (s.p, s.c)).2) ho (by rw [Int.neg_neg]) (by omega)
        have b := rn9_f (tl := tl) (lim := lim) (m := m) (n := n) (s := t) (k := k) (q := (TOP 1 m k (s.p, s.c)).1) (f := -(TOP 1 m k (s.p, s.c)).2) (h3.symm.trans ho) (by rw [Int.neg_neg, ← h4, ← h5]) (by omega)
        rw [a, b]
        show ((s.o.1, k, 0, (TOP 1 m k (s.p, s.c)).1.2.2, s.wd), _) = ((t.o.1, k, 0, (TOP 1 m k (s.p, s.c)).1.2.2, t.wd), _)
        rw [h1, h2]
      · have a := rn9_o (tl := tl) (lim := lim) (m := m) (n := n) (s := s) (k := k) (q := (TOP 1 m k (s.p, s.c)).1) (op := (TOP 1 m k (s.p, s.c)).2) ho rfl (by omega)
        have b := rn9_o (tl := tl) (lim := lim) (m := m) (n := n) (s := t) (k := k) (q := (TOP 1 m k (s.p, s.c)).1) (op := (TOP 1 m k (s.p, s.c)).2) (h3.symm.trans ho) (by rw [← h4, ← h5]) (by omega)
        rw [a, b]
        obtain ⟨q1, q2, q3, q4, q5⟩ := soq_s (tl := tl) (lim := lim) (m := m) (op := (TOP 1 m k (s.p, s.c)).2) (s := T8.mk s.wd s.o s.ov (TOP 1 m k (s.p, s.c)).1.1 (TOP 1 m k (s.p, s.c)).1.2 s.w s.fl s.k s.b) (t := T8.mk t.wd t.o t.ov (TOP 1 m k (s.p, s.c)).1.1 (TOP 1 m k (s.p, s.c)).1.2 t.w t.fl t.k t.b) ⟨h1, h2, h3, rfl, rfl, h6, h7, h8, h9⟩
        by_cases hz : (OP9 tl lim m (TOP 1 m k (s.p, s.c)).2 (T8.mk s.wd s.o s.ov (TOP 1 m k (s.p, s.c)).1.1 (TOP 1 m k (s.p, s.c)).1.2 s.w s.fl s.k s.b)).2 = 0
        · rw [if_pos hz, if_pos (by rw [← q1]; exact hz)]
          exact sim_run n _ _ _ (q5 hz)
        · rw [if_neg hz, if_neg (by rw [← q1]; exact hz)]
          unfold DW9
          rw [q1, q2, q3, q4]
    · have a : RN9 tl lim m (n + 1) s k = (s, 0, k) := if_pos ho
      have b : RN9 tl lim m (n + 1) t k = (t, 0, k) := if_pos (fun h => ho (h3.trans h))
      rw [a, b]
      show ((s.o.1, k, 0, s.c.2, s.wd), (0 : Int)) = ((t.o.1, k, 0, t.c.2, t.wd), 0)
      rw [h1, h2, h5]
def GD9 (s : T8) : Prop := FRK s.c ∧ ∀ c ∈ s.w, FRK c
theorem gd9_op {tl : Int → Option (List Int)} {lim m op : Int} {s : T8} (G : GD9 s) (hl : TBY tl) (h : (OP9 tl lim m op s).2 = 0) : GD9 (OP9 tl lim m op s).1 := by
  obtain ⟨g3, g4⟩ := G
  unfold OP9 at h ⊢
  by_cases h1 : op = 10
  · rw [if_pos h1] at h ⊢
    exact ckg_c (b := 0) (p := s.p) hl g3 g4 h
  rw [if_neg h1] at h ⊢
  by_cases h2 : op = 11
  · rw [if_pos h2] at h ⊢
    exact ckg_r (p := s.p) g3 g4 h
  rw [if_neg h2]
  split
  · exact ⟨g3, g4⟩
  · split
    · exact ⟨g3, g4⟩
    · split
      · exact ⟨g3, g4⟩
      · split
        · exact ⟨g3, g4⟩
        · split
          · exact ⟨g3, g4⟩
          · exact ⟨g3, g4⟩
/-- the reference's pop: another fault, else the same -/
def ORQ (A B : T8 × Int) : Prop := (A.2 = 0 ↔ B.2 = 0) ∧ A.1.wd = B.1.wd ∧ A.1.c = B.1.c ∧ A.1.o.1 = B.1.o.1 ∧ (A.2 = 0 → A.1 = B.1)
theorem orq_p {tl : Int → Option (List Int)} {lim m op : Int} {s : T8} : ORQ (OPR tl lim m op s) (OP9 tl lim m op s) := by
  by_cases h : op = 273
  · have e : OP9 tl lim m op s = TB8 s (POP9 m (s.p, s.b)) := by
      unfold OP9
      rw [if_neg (by omega), if_neg (by omega), if_neg (by omega), if_neg (by omega), if_pos h]
    rw [e]
    unfold OPR
    rw [if_pos h]
    unfold POPR
    by_cases hf : ¬ (((s.p, s.b).1.length : Int) < m)
    · rw [if_pos hf]
      have hn : ¬ ((POP9 m (s.p, s.b)).2 = 0) := by
        unfold POP9
        split
        · show ¬ ((9 : Int) = 0); decide
        · show ¬ ((PSH m s.p _).2 = 0)
          unfold PSH
          rw [if_neg hf]
          show ¬ ((3 : Int) = 0); decide
      exact ⟨⟨fun h9 => absurd (show (3 : Int) = 0 from h9) (by decide), fun h9 => absurd h9 hn⟩, rfl, rfl, rfl, fun h9 => absurd (show (3 : Int) = 0 from h9) (by decide)⟩
    · rw [if_neg hf]
      exact ⟨Iff.rfl, rfl, rfl, rfl, fun _ => rfl⟩
  · rw [opr_c h]
    exact ⟨Iff.rfl, rfl, rfl, rfl, fun _ => rfl⟩
theorem rn9_n {tl : Int → Option (List Int)} {lim m : Int} {n : Nat} {s t : T8} {k : Int} (h : TOP 1 m k (s.p, s.c) = TOP 1 m k (t.p, t.c)) (ho : s.ov = 0) (e1 : t.wd = s.wd) (e2 : t.o = s.o) (e3 : t.ov = s.ov) (e5 : t.w = s.w) (e6 : t.fl = s.fl) (e7 : t.k = s.k) (e8 : t.b = s.b) : DW9 (RN9 tl lim m (n + 1) s k) = DW9 (RN9 tl lim m (n + 1) t k) := by
  by_cases hp : (TOP 1 m k (s.p, s.c)).2 < 0
  · have a := rn9_f (tl := tl) (lim := lim) (m := m) (n := n) (s := s) (k := k) (q := (TOP 1 m k (s.p, s.c)).1) (f := -(TOP 1 m k (s.p, s.c)).2) ho (by rw [Int.neg_neg]) (by omega)
    have b := rn9_f (tl := tl) (lim := lim) (m := m) (n := n) (s := t) (k := k) (q := (TOP 1 m k (s.p, s.c)).1) (f := -(TOP 1 m k (s.p, s.c)).2) (e3.trans ho) (by rw [Int.neg_neg, ← h]) (by omega)
    rw [a, b]
    show ((s.o.1, k, 0, (TOP 1 m k (s.p, s.c)).1.2.2, s.wd), _) = ((t.o.1, k, 0, _, t.wd), _)
    rw [e1, e2]
  · have a := rn9_o (tl := tl) (lim := lim) (m := m) (n := n) (s := s) (k := k) (q := (TOP 1 m k (s.p, s.c)).1) (op := (TOP 1 m k (s.p, s.c)).2) ho rfl (by omega)
    have b := rn9_o (tl := tl) (lim := lim) (m := m) (n := n) (s := t) (k := k) (q := (TOP 1 m k (s.p, s.c)).1) (op := (TOP 1 m k (s.p, s.c)).2) (e3.trans ho) (by rw [← h]) (by omega)
    rw [a, b, e1, e2, e3, e5, e6, e7, e8]
def RR9 (tl : Int → Option (List Int)) (lim m : Int) (s0 : T8) (f : Int) (t : T8) (k : Int) : Prop := (f = 0 ∧ GD9 t ∧ DW9 (RN9 tl lim m 3001 s0 0) = DW9 (RN9 tl lim m (3001 - k).toNat t k)) ∨ (¬ (f = 0) ∧ ((t.o.1, k, 0, t.c.2, t.wd) : DW) = (DW9 (RN9 tl lim m 3001 s0 0)).1)
theorem rr9_s {tl : Int → Option (List Int)} {lim m : Int} {s0 s t : T8} {f0 f k k1 : Int} (R : RR9 tl lim m s0 f0 s k) (S : ST9 t f k1 (SS9 tl lim m s k)) (h0 : f0 = 0) (hm : m = 24) (hl : TBY tl) (ho : s.ov = 0) (hk : 0 ≤ k ∧ k ≤ 3000) : RR9 tl lim m s0 f t k1 := by
  obtain ⟨_, G, R⟩ := R.resolve_right (fun h => h.1 h0)
  rw [show (3001 - k).toNat = (3000 - k).toNat + 1 by omega] at R
  obtain ⟨g3, g4⟩ := G
  obtain ⟨t1, t2, t3, t4⟩ := tkb_f g3
  unfold SS9 at S
  have flt : ∀ {u : T8} {q : NP} {f1 : Int}, ST9 t f k1 (u, f1, k) → TOP 1 m k (s.p, s.c) = (q, -f1) → 0 < f1 → u.o.1 = s.o.1 → u.wd = s.wd → u.c = q.2 → RR9 tl lim m s0 f t k1 := by
    intro u q f1 h6 h1 h2 h3 h4 h5
    obtain ⟨s1, s2, s3, s4, s5, _⟩ := h6
    have h7 : f = f1 := s1
    have h8 : k1 = k := s2
    refine Or.inr ⟨by omega, ?_⟩
    rw [R, rn9_f ho h1 h2]
    unfold DW9
    show (t.o.1, k1, (0 : Int), t.c.2, t.wd) = (s.o.1, k, 0, q.2.2, s.wd)
    rw [s3, s4, s5, h8]
    show (u.o.1, k, (0 : Int), u.c.2, u.wd) = _
    rw [h3, h4, h5]
  have opr : ∀ {op : Int} {c : FR8}, TOP 1 m k (s.p, s.c) = ((s.p, c), op) → 0 ≤ op → FRK c → ST9 t f k1 ((OPR tl lim m op (T8.mk s.wd s.o s.ov s.p c s.w s.fl s.k s.b)).1, (OPR tl lim m op (T8.mk s.wd s.o s.ov s.p c s.w s.fl s.k s.b)).2, if (OPR tl lim m op (T8.mk s.wd s.o s.ov s.p c s.w s.fl s.k s.b)).2 = 0 then k + 1 else k) → RR9 tl lim m s0 f t k1 := by
    intro op c h1 h2 h3 h4
    have G' : GD9 (T8.mk s.wd s.o s.ov s.p c s.w s.fl s.k s.b) := ⟨h3, g4⟩
    obtain ⟨o1, o2, o3, o4, o5⟩ := orq_p (tl := tl) (lim := lim) (m := m) (op := op) (s := T8.mk s.wd s.o s.ov s.p c s.w s.fl s.k s.b)
    obtain ⟨s1, s2, s3, s4, s5, s6⟩ := h4
    have e := rn9_o (tl := tl) (lim := lim) (n := (3000 - k).toNat) ho h1 h2
    by_cases hz : (OPR tl lim m op (T8.mk s.wd s.o s.ov s.p c s.w s.fl s.k s.b)).2 = 0
    · have hz2 := o1.mp hz
      have hf : f = 0 := s1.trans hz
      have et : t = (OP9 tl lim m op (T8.mk s.wd s.o s.ov s.p c s.w s.fl s.k s.b)).1 := (s6 hf).trans (o5 hz)
      refine Or.inl ⟨hf, ?_, ?_⟩
      · rw [et]
        exact gd9_op G' hl hz2
      · have hk1 : k1 = k + 1 := by
          have h9 : k1 = if (OPR tl lim m op (T8.mk s.wd s.o s.ov s.p c s.w s.fl s.k s.b)).2 = 0 then k + 1 else k := s2
          rw [if_pos hz] at h9
          exact h9
        rw [R, e, if_pos hz2, et, hk1, show (3001 - (k + 1)).toNat = (3000 - k).toNat by omega]
    · have hz2 : ¬ ((OP9 tl lim m op (T8.mk s.wd s.o s.ov s.p c s.w s.fl s.k s.b)).2 = 0) := fun h9 => hz (o1.mpr h9)
      refine Or.inr ⟨fun h9 => hz (s1.symm.trans h9), ?_⟩
      have hk1 : k1 = k := by
        have h9 : k1 = if (OPR tl lim m op (T8.mk s.wd s.o s.ov s.p c s.w s.fl s.k s.b)).2 = 0 then k + 1 else k := s2
        rw [if_neg hz] at h9
        exact h9
      rw [R, e, if_neg hz2]
      unfold DW9
      rw [s3, s4, s5, hk1]
      show ((OPR tl lim m op (T8.mk s.wd s.o s.ov s.p c s.w s.fl s.k s.b)).1.o.1, k, (0 : Int), (OPR tl lim m op (T8.mk s.wd s.o s.ov s.p c s.w s.fl s.k s.b)).1.c.2, (OPR tl lim m op (T8.mk s.wd s.o s.ov s.p c s.w s.fl s.k s.b)).1.wd) = _
      rw [o2, o3, o4]
  by_cases b1 : (TKB s.c).1 = -1
  · rw [if_pos b1] at S
    exact flt S (top_e b1) (by decide) rfl rfl rfl
  rw [if_neg b1] at S
  by_cases b2 : ISN 1 (TKB s.c).1
  · rw [if_pos b2] at S
    by_cases b3 : (TKN 1 m (TKB s.c).1 (s.p, (TKB s.c).2)).2 = 0
    · have hf : f = 0 := S.1.trans b3
      have hk1 : k1 = k := S.2.1
      have et := S.2.2.2.2.2 hf
      refine Or.inl ⟨hf, ?_, ?_⟩
      · rw [et]
        exact ⟨tkn_c t1, g4⟩
      · rw [R, hk1, et, show (3001 - k).toNat = (3000 - k).toNat + 1 by omega]
        exact rn9_n (top_n (by omega) b2 b3) ho rfl rfl rfl rfl rfl rfl rfl
    · have hn := tkn_n (fam := 1) (m := m) (x := (TKB s.c).1) (s := (s.p, (TKB s.c).2))
      exact flt S (top_f b2 b3) (by omega) rfl rfl rfl
  rw [if_neg b2] at S
  by_cases b4 : k = 3000
  · rw [if_pos b4] at S
    exact flt S (top_8 b2 b1 (by omega)) (by decide) rfl rfl rfl
  rw [if_neg b4] at S
  have k3 : ¬ (3000 ≤ k) := by omega
  by_cases b5 : (TKB s.c).1 = 12
  · rw [if_pos b5] at S
    obtain ⟨u1, u2, _⟩ := tkb_f t1
    have e := top_2 (fam := 1) (m := m) (st := k) (p := s.p) k3 b5
    by_cases b6 : (TKB (TKB s.c).2).1 = -1
    · rw [if_pos b6] at S e
      exact flt S e (by decide) rfl rfl rfl
    · rw [if_neg b6] at S e
      exact opr e (by omega) u1 S
  · rw [if_neg b5] at S
    exact opr (top_1 b2 b1 k3 b5) (by omega) t1 S
