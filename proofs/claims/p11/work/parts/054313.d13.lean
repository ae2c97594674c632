/-! a run (p8 to p11) -/
def ZRO (f : Nat → Int64) (i : Int) : Prop := ∀ j : Nat, (j : Int) < i → f j = 0
theorem zro_0 {f : Nat → Int64} {i : Int} (h : i ≤ 0) : ZRO f i := fun j hj => absurd hj (by omega)
theorem zro_s {f f1 : Nat → Int64} {i i1 : Int} {x : Int32} (h : ZRO f i) (e : vp_updL f (Int32.toNatClampNeg x) 0 = f1) (hx : Int32.toInt x = i) (h0 : 0 ≤ i) (hi : i1 = i + 1) : ZRO f1 i1 := by
  intro j hj
  have hc : Int32.toNatClampNeg x = i.toNat := by show (Int32.toInt x).toNat = _; rw [hx]
  rw [← e, updL_eq, hc]
  by_cases hq : j = i.toNat
  · rw [if_pos hq]
  · rw [if_neg hq]; exact h j (by omega)
theorem zro_le {f : Nat → Int64} {i k : Int} (h : ZRO f i) (hk : k ≤ i) : ZRO f k := fun j hj => h j (by omega)
theorem zro_q {f : Nat → Int64} (h : ZRO f 32) : NQ f = NQ nofL := nq_ext fun j hj => h j (by omega)
/-- turns of a run: the next operator, and what it does -/
def RUN (F : F8) : Nat → M8 → Int → M8 × Int × Int
  | 0, s, k => (s, 0, k)
  | n + 1, s, k => if ¬ (s.ov = 0) then (s, 0, k)
      else if (TOP 0 F.m k (s.p, s.c)).2 < 0 then ((M8.mk s.wh s.o s.ov s.p s.q ((TOP 0 F.m k (s.p, s.c)).1.2) s.w), -(TOP 0 F.m k (s.p, s.c)).2, k)
      else if (COP F (TOP 0 F.m k (s.p, s.c)).2 (M8.mk s.wh s.o s.ov ((TOP 0 F.m k (s.p, s.c)).1.1) s.q ((TOP 0 F.m k (s.p, s.c)).1.2) s.w)).2 = 0 then RUN F n (COP F (TOP 0 F.m k (s.p, s.c)).2 (M8.mk s.wh s.o s.ov ((TOP 0 F.m k (s.p, s.c)).1.1) s.q ((TOP 0 F.m k (s.p, s.c)).1.2) s.w)).1 (k + 1)
      else ((COP F (TOP 0 F.m k (s.p, s.c)).2 (M8.mk s.wh s.o s.ov ((TOP 0 F.m k (s.p, s.c)).1.1) s.q ((TOP 0 F.m k (s.p, s.c)).1.2) s.w)).1, (COP F (TOP 0 F.m k (s.p, s.c)).2 (M8.mk s.wh s.o s.ov ((TOP 0 F.m k (s.p, s.c)).1.1) s.q ((TOP 0 F.m k (s.p, s.c)).1.2) s.w)).2, k)
/-- what a run leaves to be told -/
def VIS (t : M8) (f k : Int) (Q : M8 × Int × Int) : Prop := f = Q.2.1 ∧ k = Q.2.2 ∧ t.wh = Q.1.wh ∧ t.c = Q.1.c ∧ t.o.1 = Q.1.o.1
def RIV (F : F8) (s0 : M8) (i f : Int) (t : M8) (k : Int) : Prop := (f = 0 ∧ RUN F 3001 s0 0 = RUN F (3001 - i).toNat t k) ∨ (¬ (f = 0) ∧ VIS t f k (RUN F 3001 s0 0))
theorem riv_0 {F : F8} {s0 t : M8} {i f k : Int} (hi : i = 0) (hf : f = 0) (hk : k = 0) (h : t = s0) : RIV F s0 i f t k := by
  subst hi hf hk h
  exact Or.inl ⟨rfl, rfl⟩
theorem riv_go {F : F8} {s0 t : M8} {i f k : Int} (R : RIV F s0 i f t k) (hf : f = 0) : RUN F 3001 s0 0 = RUN F (3001 - i).toNat t k := R.elim And.right fun h => absurd hf h.1
theorem riv_f {F : F8} {s0 : M8} {i i1 f f1 k r m : Int} {wh : WH} {o : OU} {ov : Int} {p p1 : List Int64} {q : Nat → Int64} {c c1 : FR8} {w : List FR8} (R : RIV F s0 i f ⟨wh, o, ov, p, q, c, w⟩ k) (hf : f = 0) (hi : i ≤ 3000) (ho : ov = 0) (hm : m = F.m) (T : TEQ p1 c1 r (TOP 0 m k (p, c))) (hr : r < 0) (h1 : f1 = -r) : RIV F s0 i1 f1 ⟨wh, o, ov, p1, q, c1, w⟩ k := by
  have e := riv_go R hf
  rw [show (3001 - i).toNat = (3000 - i).toNat + 1 by omega] at e
  subst hm
  obtain ⟨t1, t2, t3⟩ := T
  refine Or.inr ⟨by omega, ?_⟩
  rw [e]
  show VIS _ _ _ (if ¬ (ov = 0) then _ else if (TOP 0 F.m k (p, c)).2 < 0 then ((⟨wh, o, ov, p, q, (TOP 0 F.m k (p, c)).1.2, w⟩ : M8), -(TOP 0 F.m k (p, c)).2, k) else _)
  rw [if_neg (fun h => h ho), if_pos (by rw [← t1]; exact hr), ← t1, ← t2]
  exact ⟨h1, rfl, rfl, rfl, rfl⟩
theorem riv_o {F F1 : F8} {s0 : M8} {i i1 f k k1 r op m : Int} {wh : WH} {o : OU} {ov : Int} {p p1 : List Int64} {q : Nat → Int64} {c c1 : FR8} {w : List FR8} {t : M8} (R : RIV F s0 i f ⟨wh, o, ov, p, q, c, w⟩ k) (hf : f = 0) (hi : i ≤ 3000) (ho : ov = 0) (hm : m = F.m) (T : TEQ p1 c1 op (TOP 0 m k (p, c))) (hp : 0 ≤ op) (hF : F1 = F) (M : MEQ t r (COP F1 op ⟨wh, o, ov, p1, q, c1, w⟩)) (h1 : i1 = i + 1) (hk : (r = 0 ∧ k1 = k + 1) ∨ (¬ (r = 0) ∧ k1 = k)) : RIV F s0 i1 r t k1 := by
  have e := riv_go R hf
  rw [show (3001 - i).toNat = (3001 - i1).toNat + 1 by omega] at e
  subst hm hF
  obtain ⟨t1, t2, t3⟩ := T
  have e2 := t3 hp
  have e3 : RUN F1 3001 s0 0 = if (COP F1 op ⟨wh, o, ov, p1, q, c1, w⟩).2 = 0 then RUN F1 (3001 - i1).toNat (COP F1 op ⟨wh, o, ov, p1, q, c1, w⟩).1 (k + 1) else ((COP F1 op ⟨wh, o, ov, p1, q, c1, w⟩).1, (COP F1 op ⟨wh, o, ov, p1, q, c1, w⟩).2, k) := by
    rw [e]
    show (if ¬ (ov = 0) then _ else if (TOP 0 F1.m k (p, c)).2 < 0 then _ else if (COP F1 (TOP 0 F1.m k (p, c)).2 ⟨wh, o, ov, (TOP 0 F1.m k (p, c)).1.1, q, (TOP 0 F1.m k (p, c)).1.2, w⟩).2 = 0 then RUN F1 (3001 - i1).toNat (COP F1 (TOP 0 F1.m k (p, c)).2 ⟨wh, o, ov, (TOP 0 F1.m k (p, c)).1.1, q, (TOP 0 F1.m k (p, c)).1.2, w⟩).1 (k + 1) else _) = _
    rw [if_neg (fun h => h ho), if_neg (by rw [← t1]; omega), ← t1, ← t2, ← e2]
  obtain ⟨m1, m2, m3, m4, m5⟩ := M
  by_cases hr : r = 0
  · refine Or.inl ⟨hr, ?_⟩
    rw [e3, if_pos (by rw [← m1]; exact hr), ← m5 hr]
    rw [show k1 = k + 1 by omega]
  · refine Or.inr ⟨hr, ?_⟩
    rw [e3, if_neg (by rw [← m1]; exact hr)]
    exact ⟨m1, by show k1 = k; omega, m2, m3, m4⟩
theorem riv_e {F : F8} {s0 t : M8} {i f k : Int} (R : RIV F s0 i f t k) (h : ¬ (f = 0) ∨ 3001 ≤ i ∨ ¬ (t.ov = 0)) : VIS t f k (RUN F 3001 s0 0) := by
  rcases R with ⟨a, b⟩ | ⟨a, b⟩
  · have e : RUN F (3001 - i).toNat t k = (t, 0, k) := by
      rcases h with h | h | h
      · exact absurd a h
      · rw [show (3001 - i).toNat = 0 by omega]; rfl
      · cases hn : (3001 - i).toNat with
        | zero => rfl
        | succ n => show (if ¬ (t.ov = 0) then _ else _) = _; rw [if_pos h]
    rw [b, e]
    exact ⟨a, rfl, rfl, rfl, rfl⟩
  · exact b
theorem f8_m {a b : Int → Option (List Int)} {c d g m m1 : Int} {e f : Int64} (h : m1 = m) : F8.mk a b c d e f g m1 = F8.mk a b c d e f g m := by rw [h]
/-- a letter's program -/
def LTP (tab : Int → Option (List Int)) (k : Int) : List Int := (tab k).getD []
theorem ltp_0 {β : Int → Int} {len ob oa cap k a b : Int} {bg fi : Nat → Int32} (h : HASP len ob bg cap k) (ea : EQP a (BEGE β len ob oa bg k)) (eb : EQP b (FINE β len ob oa fi k)) : ((PRGL β a b, a - a) : FR8) = (LTP (CTB β len ob oa bg fi cap) k, 0) := by
  unfold LTP
  rw [ctb_y h]
  exact cur_0 ea eb
theorem m8_0 {wh : WH} {o : OU} {ov : Int} {f q : Nat → Int64} {n d : Int} {c c1 : FR8} {β : Int → Int} {cb cf cp : Nat → Int32} (hn : n = 0) (hq : ZRO q 32) (hc : c = c1) (hd : d = 0) : M8.mk wh o ov (PA f n) (NQ q) c (CLR β cb cf cp d) = M8.mk wh o ov [] (NQ nofL) c1 [] := by
  subst hn hd hc
  rw [zro_q hq]
  rfl
