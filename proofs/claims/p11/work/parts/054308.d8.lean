/-! one operator of CFF (p8 to p11) -/
/-- where a run is: WIDTH and hints, the outline, whether it is over, the PILE, the places, the program that is run, those that wait -/
abbrev M8 := WH × OU × Int × List Int64 × (Nat → Int64) × FR8 × List FR8
abbrev M8.mk (wh : WH) (o : OU) (ov : Int) (p : List Int64) (q : Nat → Int64) (c : FR8) (w : List FR8) : M8 := (wh, o, ov, p, q, c, w)
abbrev M8.wh (s : M8) : WH := s.1
abbrev M8.o (s : M8) : OU := s.2.1
abbrev M8.ov (s : M8) : Int := s.2.2.1
abbrev M8.p (s : M8) : List Int64 := s.2.2.2.1
abbrev M8.q (s : M8) : Nat → Int64 := s.2.2.2.2.1
abbrev M8.c (s : M8) : FR8 := s.2.2.2.2.2.1
abbrev M8.w (s : M8) : List FR8 := s.2.2.2.2.2.2
/-- what a run has of its font -/
abbrev F8 := (Int → Option (List Int)) × (Int → Option (List Int)) × Int × Int × Int64 × Int64 × Int × Int
abbrev F8.mk (tl : Int → Option (List Int)) (tg : Int → Option (List Int)) (nl : Int) (ng : Int) (nm : Int64) (df : Int64) (lim : Int) (m : Int) : F8 := (tl, tg, nl, ng, nm, df, lim, m)
abbrev F8.tl (s : F8) : Int → Option (List Int) := s.1
abbrev F8.tg (s : F8) : Int → Option (List Int) := s.2.1
abbrev F8.nl (s : F8) : Int := s.2.2.1
abbrev F8.ng (s : F8) : Int := s.2.2.2.1
abbrev F8.nm (s : F8) : Int64 := s.2.2.2.2.1
abbrev F8.df (s : F8) : Int64 := s.2.2.2.2.2.1
abbrev F8.lim (s : F8) : Int := s.2.2.2.2.2.2.1
abbrev F8.m (s : F8) : Int := s.2.2.2.2.2.2.2
def NQ (f : Nat → Int64) : Nat → Int64 := fun j => if j < 32 then f j else 0
theorem nq_lt {f : Nat → Int64} {j : Nat} (h : j < 32) : NQ f j = f j := if_pos h
theorem nq_ext {f g : Nat → Int64} (h : ∀ j : Nat, j < 32 → f j = g j) : NQ f = NQ g := by
  funext j
  unfold NQ
  by_cases hj : j < 32
  · rw [if_pos hj, if_pos hj, h j hj]
  · rw [if_neg hj, if_neg hj]
theorem nq_nq {f : Nat → Int64} : NQ (NQ f) = NQ f := nq_ext (fun j hj => nq_lt hj)
def BIA (n : Int) : Int := if n < 1240 then 107 else if n < 33900 then 1131 else 32768
def KLF (s : M8) (k : CK × Int) : M8 × Int := ((M8.mk s.wh s.o s.ov k.1.1 s.q k.1.2.1 k.1.2.2), k.2)
def RLF (s : M8) (k : PQ) : M8 × Int := ((M8.mk s.wh s.o s.ov k.1.1 (NQ k.1.2) s.c s.w), k.2)
def HLF (s : M8) (k : CS × Int) : M8 × Int := ((M8.mk k.1.1 k.1.2.2.1 k.1.2.2.2 [] s.q (s.c.1, k.1.2.1) s.w), k.2)
def OLF (s : M8) (k : OU × Int) : M8 × Int := ((M8.mk s.wh k.1 s.ov [] s.q s.c s.w), k.2)
abbrev FLX (op : Int) : Prop := 290 ≤ op ∧ op ≤ 293
def COP (F : F8) (op : Int) (s : M8) : M8 × Int :=
  if op = 10 then KLF s (CLL F.tl (BIA F.nl) (s.p, s.c, s.w)) else if op = 29 then KLF s (CLL F.tg (BIA F.ng) (s.p, s.c, s.w)) else if op = 11 then KLF s (RTN (s.p, s.c, s.w))
  else if 256 ≤ op ∧ ¬ FLX op then RLF s (RCK F.m (op - 256) s.p s.q)
  else if MTW op then HLF s (HMS F.nm F.df F.lim s.c.1.length s.p op (s.wh, s.c.2, s.o, s.ov)) else OLF s (LAC F.lim s.p op s.o)
/-- as told; behind a fault the WIDTH, hints, the program's place and the PARTS count -/
def MEQ (t : M8) (r : Int) (Q : M8 × Int) : Prop := r = Q.2 ∧ t.wh = Q.1.wh ∧ t.c = Q.1.c ∧ t.o.1 = Q.1.o.1 ∧ (r = 0 → t = Q.1)
theorem meq_k {wh : WH} {o : OU} {ov r : Int} {p p1 : List Int64} {q : Nat → Int64} {c c1 : FR8} {w w1 : List FR8} {k : CK × Int} (K : KEQ p1 c1 w1 r k) : MEQ ⟨wh, o, ov, p1, q, c1, w1⟩ r (KLF ⟨wh, o, ov, p, q, c, w⟩ k) := by
  obtain ⟨k1, k2, k3⟩ := K
  refine ⟨k1, rfl, k2, rfl, fun h => ?_⟩
  obtain ⟨a, b⟩ := k3 h
  show M8.mk _ _ _ _ _ _ _ = M8.mk wh o ov k.1.1 q k.1.2.1 k.1.2.2
  rw [a, b, k2]
theorem cop_10 {F : F8} {op n r b : Int} {wh : WH} {o : OU} {ov : Int} {p p1 : List Int64} {q : Nat → Int64} {c c1 : FR8} {w w1 : List FR8} {tl : Int → Option (List Int)} (ho : op = 10) (ht : F.tl = tl) (hn : F.nl = n) (hb : b = BIA n) (K : KEQ p1 c1 w1 r (CLL tl b (p, c, w))) : MEQ ⟨wh, o, ov, p1, q, c1, w1⟩ r (COP F op ⟨wh, o, ov, p, q, c, w⟩) := by
  unfold COP
  rw [if_pos ho, ht, hn, ← hb]
  exact meq_k K
theorem cop_29 {F : F8} {op n r b : Int} {wh : WH} {o : OU} {ov : Int} {p p1 : List Int64} {q : Nat → Int64} {c c1 : FR8} {w w1 : List FR8} {tl : Int → Option (List Int)} (ho : op = 29) (ht : F.tg = tl) (hn : F.ng = n) (hb : b = BIA n) (K : KEQ p1 c1 w1 r (CLL tl b (p, c, w))) : MEQ ⟨wh, o, ov, p1, q, c1, w1⟩ r (COP F op ⟨wh, o, ov, p, q, c, w⟩) := by
  unfold COP
  rw [if_neg (by omega), if_pos ho, ht, hn, ← hb]
  exact meq_k K
theorem cop_11 {F : F8} {op r : Int} {wh : WH} {o : OU} {ov : Int} {p p1 : List Int64} {q : Nat → Int64} {c c1 : FR8} {w w1 : List FR8} (ho : op = 11) (K : KEQ p1 c1 w1 r (RTN (p, c, w))) : MEQ ⟨wh, o, ov, p1, q, c1, w1⟩ r (COP F op ⟨wh, o, ov, p, q, c, w⟩) := by
  unfold COP
  rw [if_neg (by omega), if_neg (by omega), if_pos ho]
  exact meq_k K
/-- arithmetic sees no more than 32 places -/
theorem psh_q {m : Int} {p : List Int64} {v : Int64} {q q2 : Nat → Int64} : (LFT q (PSH m p v)).1.1 = (LFT q2 (PSH m p v)).1.1 ∧ (LFT q (PSH m p v)).2 = (LFT q2 (PSH m p v)).2 := ⟨rfl, rfl⟩
def SMQ (a b : PQ) : Prop := a.1.1 = b.1.1 ∧ a.2 = b.2 ∧ NQ a.1.2 = NQ b.1.2
theorem smq_l {q : Nat → Int64} {r : List Int64 × Int} : SMQ (LFT q r) (LFT (NQ q) r) := ⟨rfl, rfl, nq_nq.symm⟩
theorem smq_p {q : Nat → Int64} {p : List Int64} {r : Int} : SMQ ((p, q), r) ((p, NQ q), r) := ⟨rfl, rfl, nq_nq.symm⟩
theorem smq_i {c : Prop} [Decidable c] {a b a1 b1 : PQ} (h : SMQ a a1) (g : ¬ c → SMQ b b1) : SMQ (if c then a else b) (if c then a1 else b1) := by
  by_cases hc : c
  · rw [if_pos hc, if_pos hc]; exact h
  · rw [if_neg hc, if_neg hc]; exact g hc
theorem smq_1 {m op : Int} {p : List Int64} {q : Nat → Int64} : SMQ (RK1 m op p q) (RK1 m op p (NQ q)) := by
  unfold RK1
  refine smq_i smq_l fun _ => smq_i smq_l fun _ => smq_i smq_l fun _ => smq_i smq_p fun _ => smq_i (smq_i smq_p fun h => ?_) fun _ => smq_i (smq_i smq_p fun _ => smq_l) fun _ => smq_i smq_l fun _ => smq_i smq_p fun _ => smq_l
  rw [nq_lt (show (WHL p 0).toNat < 32 by omega)]
  exact smq_l
theorem smq_2 {m op : Int} {p : List Int64} {q : Nat → Int64} : SMQ (RK2 m op p q) (RK2 m op p (NQ q)) := by
  unfold RK2
  refine smq_i smq_l fun _ => smq_i smq_l fun _ => smq_i smq_l fun _ => smq_i smq_l fun _ => smq_i (smq_i smq_p fun _ => smq_l) fun _ => smq_i smq_l fun _ => smq_i ?_ fun _ => smq_i smq_l fun _ => smq_i (smq_i smq_l fun _ => smq_p) fun _ => ?_
  · unfold KEP
    refine smq_i smq_p fun _ => ⟨rfl, rfl, nq_ext fun j hj => ?_⟩
    show (if j = _ then _ else q j) = (if j = _ then _ else NQ q j)
    rw [nq_lt hj]
  · unfold ROL
    exact smq_i smq_p fun _ => smq_i smq_p fun _ => smq_i smq_p fun _ => smq_p
theorem smq_r {m op : Int} {p : List Int64} {q : Nat → Int64} : SMQ (RCK m op p q) (RCK m op p (NQ q)) := by
  unfold RCK
  exact smq_i smq_p fun _ => smq_i smq_p fun _ => smq_i smq_1 fun _ => smq_i smq_2 fun _ => smq_l
theorem cop_r {F : F8} {op r k m : Int} {wh : WH} {o : OU} {ov : Int} {p p1 : List Int64} {q q1 : Nat → Int64} {c : FR8} {w : List FR8} (ho : 256 ≤ op) (hf : ¬ FLX op) (hm : F.m = m) (hk : k = op - 256) (R : REQ p1 q1 r (RCK m k p q)) : MEQ ⟨wh, o, ov, p1, NQ q1, c, w⟩ r (COP F op ⟨wh, o, ov, p, NQ q, c, w⟩) := by
  unfold COP
  rw [if_neg (by omega), if_neg (by omega), if_neg (by omega), if_pos ⟨ho, hf⟩, hm, ← hk]
  obtain ⟨r1, r2⟩ := R
  obtain ⟨s1, s2, s3⟩ := smq_r (m := m) (op := k) (p := p) (q := q)
  refine ⟨r1.trans s2, rfl, rfl, rfl, fun h => ?_⟩
  obtain ⟨a, b⟩ := r2 h
  show M8.mk _ _ _ _ _ _ _ = M8.mk wh o ov (RCK m k p (NQ q)).1.1 (NQ (RCK m k p (NQ q)).1.2) c w
  rw [← s1, ← s3, a, nq_ext b]
theorem cop_h {F : F8} {op r lim st st1 b f : Int} {nm df : Int64} {wh wh1 : WH} {x y x1 y1 : Int64} {u u1 ov ov1 : Int} {P P1 : PRT2} {p : List Int64} {q : Nat → Int64} {β : Int → Int} {w : List FR8} {g : Nat → Int64} {n : Int} (ho : MTW op) (h1 : F.nm = nm) (h2 : F.df = df) (h3 : F.lim = lim) (hb : b ≤ f) (hn : n = 0) (C : CEQ wh1 st1 P1 x1 y1 u1 ov1 r (HMS nm df lim (f - b) p op (wh, st, (P, x, y, u), ov))) : MEQ ⟨wh1, (P1, x1, y1, u1), ov1, PA g n, q, (PRGL β b f, st1), w⟩ r (COP F op ⟨wh, (P, x, y, u), ov, p, q, (PRGL β b f, st), w⟩) := by
  unfold COP
  have hx := ho
  unfold MTW at hx
  rw [if_neg (by omega), if_neg (by omega), if_neg (by omega), if_neg (by omega), if_pos ho, h1, h2, h3]
  have e : ((PRGL β b f).length : Int) = f - b := by rw [prgl_len]; omega
  show MEQ _ r (HLF _ (HMS nm df lim ((PRGL β b f).length : Int) p op (wh, st, (P, x, y, u), ov)))
  rw [e]
  obtain ⟨c1, c2, c3, c4, c5⟩ := C
  refine ⟨c1, c2, ?_, c4, fun h => ?_⟩
  · show ((PRGL β b f, st1) : FR8) = (PRGL β b f, _)
    rw [c3]
  · obtain ⟨d1, d2, d3, d4⟩ := c5 h
    show M8.mk _ _ _ _ _ _ _ = M8.mk _ _ _ [] q (PRGL β b f, _) w
    rw [c2, c3, c4, d1, d2, d3, d4, hn]
    rfl
theorem cop_o {F : F8} {op r lim : Int} {wh : WH} {x y x1 y1 : Int64} {u u1 ov : Int} {P P1 : PRT2} {p : List Int64} {q : Nat → Int64} {c : FR8} {w : List FR8} {g : Nat → Int64} {n : Int} (h10 : ¬ (op = 10)) (h29 : ¬ (op = 29)) (h11 : ¬ (op = 11)) (hf : ¬ (256 ≤ op) ∨ FLX op) (ho : ¬ MTW op) (h3 : F.lim = lim) (hn : n = 0) (C : OEQ P1 x1 y1 u1 r (LAC lim p op (P, x, y, u))) : MEQ ⟨wh, (P1, x1, y1, u1), ov, PA g n, q, c, w⟩ r (COP F op ⟨wh, (P, x, y, u), ov, p, q, c, w⟩) := by
  unfold COP
  rw [if_neg h10, if_neg h29, if_neg h11, if_neg (fun h => hf.elim (fun g => g h.1) (fun g => h.2 g)), if_neg ho, h3]
  obtain ⟨c1, c2, c3⟩ := C
  refine ⟨c1, rfl, rfl, c2, fun h => ?_⟩
  obtain ⟨d1, d2, d3⟩ := c3 h
  show M8.mk _ _ _ _ _ _ _ = M8.mk wh _ ov [] q c w
  rw [c2, d1, d2, d3, hn]
  rfl
def FLF (op r : Int) : Prop := (FLX op ∧ r = 1) ∨ (¬ FLX op ∧ r = 0)
def MTF (op r : Int) : Prop := (MTW op ∧ r = 1) ∨ (¬ MTW op ∧ r = 0)
theorem flf_1 {op r : Int} (h : FLF op r) (hr : ¬ (r = 0)) : FLX op := h.elim And.left fun h => absurd h.2 hr
theorem flf_0 {op r : Int} (h : FLF op r) (hr : r = 0) : ¬ FLX op := h.elim (fun h => absurd (hr.symm.trans h.2) (by decide)) And.left
theorem mtf_1 {op r : Int} (h : MTF op r) (hr : ¬ (r = 0)) : MTW op := h.elim And.left fun h => absurd h.2 hr
theorem mtf_0 {op r : Int} (h : MTF op r) (hr : r = 0) : ¬ MTW op := h.elim (fun h => absurd (hr.symm.trans h.2) (by decide)) And.left
theorem bia_of {n r : Int} (h : (n < 1240 ∧ r = 107) ∨ (1240 ≤ n ∧ n < 33900 ∧ r = 1131) ∨ (33900 ≤ n ∧ r = 32768)) : r = BIA n := by
  unfold BIA
  split
  · omega
  · split <;> omega
