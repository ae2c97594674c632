/-! step by step, or operator by operator (p8 to p11) -/
theorem tkn_d {fam m x : Int} {s : NP} (h : (TKN fam m x s).2 = 0) : (s.1.length : Int) < m ∧ (TKN fam m x s).1.1 = s.1 ++ [NUMV fam x (TKS (BHN x).toNat s.2 0).1] ∧ (TKS (BHN x).toNat s.2 0).2.2 = 0 := by
  unfold TKN at h ⊢
  by_cases h1 : (TKS (BHN x).toNat s.2 0).2.2 = 0
  · rw [if_pos h1] at h ⊢
    unfold PSH at h ⊢
    by_cases h2 : (s.1.length : Int) < m
    · rw [if_pos h2]; exact ⟨h2, rfl, h1⟩
    · rw [if_neg h2] at h
      exact absurd (show (3 : Int) = 0 from h) (by decide)
  · rw [if_neg h1] at h
    exact absurd (show (7 : Int) = 0 from h) (by decide)
theorem tkn_n {fam m x : Int} {s : NP} : 0 ≤ (TKN fam m x s).2 := by
  unfold TKN PSH
  split
  · split
    · exact Int.le_refl _
    · show (0 : Int) ≤ 3; decide
  · show (0 : Int) ≤ 7; decide
theorem tkn_c {fam m x : Int} {p : List Int64} {c : FR8} (h : FRK c) : FRK (TKN fam m x (p, c)).1.2 := by
  unfold TKN
  split
  · exact (tks_f _ c 0 h).1
  · exact (tks_f _ c 0 h).1
theorem tob_fu {fam m st : Int} : ∀ (n : Nat) (b : Int) (s : NP), m < ((n + 1 + s.1.length : Nat) : Int) → TOB fam m st (n + 1) b s = TOB fam m st (n + 2) b s
  | 0, b, s, h => by
    show (if ISN fam b then (if (TKN fam m b s).2 = 0 then TOB fam m st 0 _ _ else _) else _) = (if ISN fam b then (if (TKN fam m b s).2 = 0 then TOB fam m st 1 _ _ else _) else _)
    by_cases h1 : ISN fam b
    · rw [if_pos h1, if_pos h1]
      by_cases h2 : (TKN fam m b s).2 = 0
      · have := (tkn_d h2).1
        exfalso
        omega
      · rw [if_neg h2, if_neg h2]
    · rw [if_neg h1, if_neg h1]
  | n + 1, b, s, h => by
    show (if ISN fam b then (if (TKN fam m b s).2 = 0 then TOB fam m st (n + 1) (TKB (TKN fam m b s).1.2).1 ((TKN fam m b s).1.1, (TKB (TKN fam m b s).1.2).2) else _) else _) = (if ISN fam b then (if (TKN fam m b s).2 = 0 then TOB fam m st (n + 2) (TKB (TKN fam m b s).1.2).1 ((TKN fam m b s).1.1, (TKB (TKN fam m b s).1.2).2) else _) else _)
    by_cases h1 : ISN fam b
    · rw [if_pos h1, if_pos h1]
      by_cases h2 : (TKN fam m b s).2 = 0
      · rw [if_pos h2, if_pos h2]
        refine tob_fu n _ _ ?_
        rw [show ((TKN fam m b s).1.1, (TKB (TKN fam m b s).1.2).2).1 = s.1 ++ [NUMV fam b (TKS (BHN b).toNat s.2 0).1] from (tkn_d h2).2.1, List.length_append]
        show m < ((n + 1 + (s.1.length + 1) : Nat) : Int)
        omega
      · rw [if_neg h2, if_neg h2]
    · rw [if_neg h1, if_neg h1]
/-- the next operator, one byte or number taken -/
theorem top_n {fam m st : Int} {p : List Int64} {c : FR8} (hm : m ≤ 48) (h1 : ISN fam (TKB c).1) (h2 : (TKN fam m (TKB c).1 (p, (TKB c).2)).2 = 0) : TOP fam m st (p, c) = TOP fam m st (TKN fam m (TKB c).1 (p, (TKB c).2)).1 := by
  show (if ISN fam (TKB c).1 then (if (TKN fam m (TKB c).1 (p, (TKB c).2)).2 = 0 then TOB fam m st 49 (TKB (TKN fam m (TKB c).1 (p, (TKB c).2)).1.2).1 ((TKN fam m (TKB c).1 (p, (TKB c).2)).1.1, (TKB (TKN fam m (TKB c).1 (p, (TKB c).2)).1.2).2) else _) else _) = _
  rw [if_pos h1, if_pos h2]
  exact tob_fu 48 _ _ (by omega)
theorem top_f {fam m st : Int} {p : List Int64} {c : FR8} (h1 : ISN fam (TKB c).1) (h2 : ¬ ((TKN fam m (TKB c).1 (p, (TKB c).2)).2 = 0)) : TOP fam m st (p, c) = ((TKN fam m (TKB c).1 (p, (TKB c).2)).1, -(TKN fam m (TKB c).1 (p, (TKB c).2)).2) := by
  show (if ISN fam (TKB c).1 then (if (TKN fam m (TKB c).1 (p, (TKB c).2)).2 = 0 then _ else ((TKN fam m (TKB c).1 (p, (TKB c).2)).1, -(TKN fam m (TKB c).1 (p, (TKB c).2)).2)) else _) = _
  rw [if_pos h1, if_neg h2]
theorem top_e {fam m st : Int} {p : List Int64} {c : FR8} (h : (TKB c).1 = -1) : TOP fam m st (p, c) = ((p, (TKB c).2), -7) := by
  show (if ISN fam (TKB c).1 then _ else if (TKB c).1 = -1 then ((p, (TKB c).2), -7) else _) = _
  rw [if_neg (by rw [h]; unfold ISN; omega), if_pos h]
theorem top_8 {fam m st : Int} {p : List Int64} {c : FR8} (h1 : ¬ ISN fam (TKB c).1) (h : ¬ ((TKB c).1 = -1)) (h8 : 3000 ≤ st) : TOP fam m st (p, c) = ((p, (TKB c).2), -8) := by
  show (if ISN fam (TKB c).1 then _ else if (TKB c).1 = -1 then _ else if 3000 ≤ st then ((p, (TKB c).2), -8) else _) = _
  rw [if_neg h1, if_neg h, if_pos h8]
theorem top_1 {fam m st : Int} {p : List Int64} {c : FR8} (h1 : ¬ ISN fam (TKB c).1) (h : ¬ ((TKB c).1 = -1)) (h8 : ¬ (3000 ≤ st)) (h2 : ¬ ((TKB c).1 = 12)) : TOP fam m st (p, c) = ((p, (TKB c).2), (TKB c).1) := by
  show (if ISN fam (TKB c).1 then _ else if (TKB c).1 = -1 then _ else if 3000 ≤ st then _ else if (TKB c).1 = 12 then _ else ((p, (TKB c).2), (TKB c).1)) = _
  rw [if_neg h1, if_neg h, if_neg h8, if_neg h2]
theorem top_2 {fam m st : Int} {p : List Int64} {c : FR8} (h8 : ¬ (3000 ≤ st)) (h2 : (TKB c).1 = 12) : TOP fam m st (p, c) = if (TKB (TKB c).2).1 = -1 then ((p, (TKB (TKB c).2).2), -7) else ((p, (TKB (TKB c).2).2), 256 + (TKB (TKB c).2).1) := by
  show (if ISN fam (TKB c).1 then _ else if (TKB c).1 = -1 then _ else if 3000 ≤ st then _ else if (TKB c).1 = 12 then (if (TKB (TKB c).2).1 = -1 then ((p, (TKB (TKB c).2).2), -7) else ((p, (TKB (TKB c).2).2), 256 + (TKB (TKB c).2).1)) else _) = _
  rw [if_neg (by rw [h2]; unfold ISN; omega), if_neg (by omega), if_neg h8, if_pos h2]
/-- NUMBERS of CFF are 32 bits wide -/
theorem tks_1 {c : FR8} (h : FRK c) (h2 : (TKS 1 c 0).2.2 = 0) : 0 ≤ Int32.toInt (TKS 1 c 0).1 ∧ Int32.toInt (TKS 1 c 0).1 ≤ 255 := by
  have e : TKS 1 c 0 = (if (TKB c).1 = -1 then ((0 : Int32), (TKB c).2, (7 : Int)) else ((((0 : Int32) <<< (8 &&& 31)) ||| Int32.ofInt (TKB c).1), (TKB c).2, (0 : Int))) := rfl
  rw [e] at h2 ⊢
  by_cases hc : (TKB c).1 = -1
  · rw [if_pos hc] at h2
    exact absurd (show (7 : Int) = 0 from h2) (by decide)
  · rw [if_neg hc]
    show 0 ≤ Int32.toInt (((0 : Int32) <<< (8 &&& 31)) ||| Int32.ofInt (TKB c).1) ∧ Int32.toInt (((0 : Int32) <<< (8 &&& 31)) ||| Int32.ofInt (TKB c).1) ≤ 255
    rw [show ((0 : Int32) <<< (8 &&& 31)) = 0 by decide, or_0 (r := Int32.ofInt (TKB c).1) rfl]
    have := (tkb_f h).2.1
    rw [Int32.toInt_ofInt_of_le (by omega) (by omega)]
    omega
theorem or_28 {a b x z : Int32} (e1 : a <<< ((8 : Int32) &&& 31) = x) (e2 : x ||| b = z) (ha : 0 ≤ a.toInt ∧ a.toInt ≤ 255) (hb : 0 ≤ b.toInt ∧ b.toInt ≤ 255) : 0 ≤ z.toInt ∧ z.toInt ≤ 65535 := by
  have ea := nnI2 a ha.1
  have eb := nnI2 b hb.1
  have h1 := shlI a ((8 : Int32) &&& 31) 8 (by decide)
  rw [e1] at h1
  have h2 := orI (a := x) (b := b) 8 a.toBitVec.toNat (by rw [h1]; omega) (by omega)
  rw [e2] at h2
  have h3 := nnI z (by omega)
  omega
theorem tks_q {n : Nat} {c : FR8} {a : Int32} (h : (TKS (n + 1) c a).2.2 = 0) : ¬ ((TKB c).1 = -1) ∧ TKS (n + 1) c a = TKS n (TKB c).2 ((a <<< (8 &&& 31)) ||| Int32.ofInt (TKB c).1) := by
  have e : TKS (n + 1) c a = (if (TKB c).1 = -1 then (a, (TKB c).2, (7 : Int)) else TKS n (TKB c).2 ((a <<< (8 &&& 31)) ||| Int32.ofInt (TKB c).1)) := rfl
  by_cases hc : (TKB c).1 = -1
  · rw [e, if_pos hc] at h
    exact absurd (show (7 : Int) = 0 from h) (by decide)
  · exact ⟨hc, by rw [e, if_neg hc]⟩
theorem tks_2 {c : FR8} (h : FRK c) (h2 : (TKS 2 c 0).2.2 = 0) : 0 ≤ Int32.toInt (TKS 2 c 0).1 ∧ Int32.toInt (TKS 2 c 0).1 ≤ 65535 := by
  obtain ⟨a1, a2⟩ := tks_q h2
  rw [a2] at h2 ⊢
  obtain ⟨b1, b2⟩ := tks_q h2
  rw [b2]
  obtain ⟨f1, f2, _⟩ := tkb_f h
  obtain ⟨f3, f4, _⟩ := tkb_f f1
  refine or_28 rfl rfl ?_ ?_
  · rw [show ((0 : Int32) <<< (8 &&& 31)) = 0 by decide, or_0 (r := Int32.ofInt (TKB c).1) rfl, Int32.toInt_ofInt_of_le (by omega) (by omega)]
    omega
  · rw [Int32.toInt_ofInt_of_le (by omega) (by omega)]
    omega
theorem numv_i {x : Int} {c : FR8} (h : FRK c) (hx : 0 ≤ x ∧ x ≤ 255) (h2 : (TKS (BHN x).toNat c 0).2.2 = 0) (hn : ISN 0 x) : I32 (NUMV 0 x (TKS (BHN x).toNat c 0).1) := by
  unfold NUMV
  by_cases h1 : x = 255
  · rw [if_pos h1, if_pos rfl]
    unfold I32
    rw [Int32.toInt_toInt64]
    have := fb_rng (TKS (BHN x).toNat c 0).1
    omega
  · rw [if_neg h1]
    have hw : -32768 ≤ WHN x (Int32.toInt (TKS (BHN x).toNat c 0).1) ∧ WHN x (Int32.toInt (TKS (BHN x).toNat c 0).1) ≤ 32767 := by
      unfold WHN
      unfold ISN at hn
      by_cases h3 : x = 28
      · rw [if_pos h3]
        have eb : (BHN x).toNat = 2 := rbhn_of (Or.inl ⟨h3, rfl⟩)
        rw [eb] at h2 ⊢
        have := tks_2 h h2
        unfold s16
        split <;> omega
      · rw [if_neg h3]
        by_cases h4 : x ≤ 246
        · rw [if_pos h4]; omega
        · rw [if_neg h4]
          have eb : (BHN x).toNat = 1 := rbhn_of (Or.inr (Or.inr (Or.inl ⟨by omega, h1, rfl⟩)))
          rw [eb] at h2 ⊢
          have := tks_1 h h2
          split <;> omega
    unfold I32
    have e1 : Int32.toInt (Int32.ofInt (WHN x (Int32.toInt (TKS (BHN x).toNat c 0).1))) = WHN x (Int32.toInt (TKS (BHN x).toNat c 0).1) := Int32.toInt_ofInt_of_le (by omega) (by omega)
    have e2 : Int64.toInt (Int32.toInt64 (Int32.ofInt (WHN x (Int32.toInt (TKS (BHN x).toNat c 0).1))) * 65536) = Int64.toInt (Int32.toInt64 (Int32.ofInt (WHN x (Int32.toInt (TKS (BHN x).toNat c 0).1)))) * 65536 := fb_mulL (by rw [Int32.toInt_toInt64, e1]; show -9223372036854775808 ≤ WHN x (Int32.toInt (TKS (BHN x).toNat c 0).1) * 65536; omega) (by rw [Int32.toInt_toInt64, e1]; show WHN x (Int32.toInt (TKS (BHN x).toNat c 0).1) * 65536 < 9223372036854775808; omega)
    rw [e2, Int32.toInt_toInt64, e1]
    omega
/-- a turn of RUN, by what the next operator is -/
theorem run_f {F : F8} {n : Nat} {s : M8} {k f : Int} {q : NP} (ho : s.ov = 0) (h : TOP 0 F.m k (s.p, s.c) = (q, -f)) (hf : 0 < f) : RUN F (n + 1) s k = (M8.mk s.wh s.o s.ov s.p s.q q.2 s.w, f, k) := by
  show (if ¬ (s.ov = 0) then _ else if (TOP 0 F.m k (s.p, s.c)).2 < 0 then (M8.mk s.wh s.o s.ov s.p s.q (TOP 0 F.m k (s.p, s.c)).1.2 s.w, -(TOP 0 F.m k (s.p, s.c)).2, k) else _) = _
  rw [if_neg (fun h9 => h9 ho), h, if_pos (by show -f < 0; omega)]
  show (M8.mk s.wh s.o s.ov s.p s.q q.2 s.w, - -f, k) = _
  rw [Int.neg_neg]
theorem run_o {F : F8} {n : Nat} {s : M8} {k op : Int} {q : NP} (ho : s.ov = 0) (h : TOP 0 F.m k (s.p, s.c) = (q, op)) (hp : 0 ≤ op) : RUN F (n + 1) s k = if (COP F op (M8.mk s.wh s.o s.ov q.1 s.q q.2 s.w)).2 = 0 then RUN F n (COP F op (M8.mk s.wh s.o s.ov q.1 s.q q.2 s.w)).1 (k + 1) else ((COP F op (M8.mk s.wh s.o s.ov q.1 s.q q.2 s.w)).1, (COP F op (M8.mk s.wh s.o s.ov q.1 s.q q.2 s.w)).2, k) := by
  show (if ¬ (s.ov = 0) then _ else if (TOP 0 F.m k (s.p, s.c)).2 < 0 then _ else if (COP F (TOP 0 F.m k (s.p, s.c)).2 (M8.mk s.wh s.o s.ov (TOP 0 F.m k (s.p, s.c)).1.1 s.q (TOP 0 F.m k (s.p, s.c)).1.2 s.w)).2 = 0 then RUN F n (COP F (TOP 0 F.m k (s.p, s.c)).2 (M8.mk s.wh s.o s.ov (TOP 0 F.m k (s.p, s.c)).1.1 s.q (TOP 0 F.m k (s.p, s.c)).1.2 s.w)).1 (k + 1) else ((COP F (TOP 0 F.m k (s.p, s.c)).2 (M8.mk s.wh s.o s.ov (TOP 0 F.m k (s.p, s.c)).1.1 s.q (TOP 0 F.m k (s.p, s.c)).1.2 s.w)).1, (COP F (TOP 0 F.m k (s.p, s.c)).2 (M8.mk s.wh s.o s.ov (TOP 0 F.m k (s.p, s.c)).1.1 s.q (TOP 0 F.m k (s.p, s.c)).1.2 s.w)).2, k)) = _
  rw [if_neg (fun h9 => h9 ho), h, if_neg (by show ¬ (op < 0); omega)]
theorem run_n {F : F8} {n : Nat} {s t : M8} {k : Int} (h : TOP 0 F.m k (s.p, s.c) = TOP 0 F.m k (t.p, t.c)) (ho : s.ov = 0) (e1 : t.wh = s.wh) (e2 : t.o = s.o) (e3 : t.ov = s.ov) (e4 : t.q = s.q) (e5 : t.w = s.w) : DWC (RUN F (n + 1) s k) = DWC (RUN F (n + 1) t k) := by
  by_cases hp : (TOP 0 F.m k (s.p, s.c)).2 < 0
  · have a := run_f (F := F) (n := n) (s := s) (k := k) (q := (TOP 0 F.m k (s.p, s.c)).1) (f := -(TOP 0 F.m k (s.p, s.c)).2) ho (by rw [Int.neg_neg]) (by omega)
    have b := run_f (F := F) (n := n) (s := t) (k := k) (q := (TOP 0 F.m k (s.p, s.c)).1) (f := -(TOP 0 F.m k (s.p, s.c)).2) (e3.trans ho) (by rw [Int.neg_neg, ← h]) (by omega)
    rw [a, b]
    show ((s.o.1, k, s.wh.2, (TOP 0 F.m k (s.p, s.c)).1.2.2, s.wh.1.2), _) = ((t.o.1, k, t.wh.2, _, t.wh.1.2), _)
    rw [e1, e2]
  · have a := run_o (F := F) (n := n) (s := s) (k := k) (q := (TOP 0 F.m k (s.p, s.c)).1) (op := (TOP 0 F.m k (s.p, s.c)).2) ho rfl (by omega)
    have b := run_o (F := F) (n := n) (s := t) (k := k) (q := (TOP 0 F.m k (s.p, s.c)).1) (op := (TOP 0 F.m k (s.p, s.c)).2) (e3.trans ho) (by rw [← h]) (by omega)
    rw [a, b, e1, e2, e3, e4, e5]
/-- told of a run, by its turns -/
def RRV (F : F8) (s0 : M8) (f : Int) (t : M8) (k : Int) : Prop := (f = 0 ∧ GDS t ∧ DWC (RUN F 3001 s0 0) = DWC (RUN F (3001 - k).toNat t k)) ∨ (¬ (f = 0) ∧ (((t.o.1, k, t.wh.2, t.c.2, t.wh.1.2), f) : DW × Int) = DWC (RUN F 3001 s0 0))
theorem dwc_v {t : M8} {f k : Int} {Q : M8 × Int × Int} (S : STQ t f k Q) : (((t.o.1, k, t.wh.2, t.c.2, t.wh.1.2), f) : DW × Int) = DWC Q := by
  obtain ⟨s1, s2, s3, s4, s5, _⟩ := S
  unfold DWC
  rw [← s1, ← s2, ← s3, ← s4, ← s5]
theorem rrv_s {F : F8} {s0 s t : M8} {f0 f k k1 : Int} (R : RRV F s0 f0 s k) (S : STQ t f k1 (SSR F s k)) (h0 : f0 = 0) (hm : F.m = 48) (hl : TBY F.tl) (hg : TBY F.tg) (ho : s.ov = 0) (hk : 0 ≤ k ∧ k ≤ 3000) : RRV F s0 f t k1 := by
  obtain ⟨_, G, R⟩ := R.resolve_right (fun h => h.1 h0)
  rw [show (3001 - k).toNat = (3000 - k).toNat + 1 by omega] at R
  obtain ⟨g1, g2, g3, g4, g5, g6⟩ := G
  obtain ⟨t1, t2, t3, t4⟩ := tkb_f g3
  unfold SSR at S
  -- a turn that ends in a fault
  have flt : ∀ {u : M8} {q : NP} {f1 : Int}, STQ t f k1 (u, f1, k) → TOP 0 F.m k (s.p, s.c) = (q, -f1) → 0 < f1 → u.o.1 = s.o.1 → u.wh = s.wh → u.c = q.2 → RRV F s0 f t k1 := by
    intro u q f1 h6 h1 h2 h3 h4 h5
    have e := dwc_v h6
    refine Or.inr ⟨by have := h6.1; show ¬ (f = 0); have h7 : f = f1 := this; omega, ?_⟩
    rw [e, R, run_f ho h1 h2]
    unfold DWC
    show ((u.o.1, k, u.wh.2, u.c.2, u.wh.1.2), f1) = ((s.o.1, k, s.wh.2, q.2.2, s.wh.1.2), f1)
    rw [h3, h4, h5]
  -- an operator
  have opr : ∀ {op : Int} {c : FR8}, TOP 0 F.m k (s.p, s.c) = ((s.p, c), op) → 0 ≤ op → FRK c → STQ t f k1 ((CPR F op (M8.mk s.wh s.o s.ov s.p s.q c s.w)).1, (CPR F op (M8.mk s.wh s.o s.ov s.p s.q c s.w)).2, if (CPR F op (M8.mk s.wh s.o s.ov s.p s.q c s.w)).2 = 0 then k + 1 else k) → RRV F s0 f t k1 := by
    intro op c h1 h2 h3 h4
    have G' : GDS (M8.mk s.wh s.o s.ov s.p s.q c s.w) := ⟨g1, g2, h3, g4, g5, g6⟩
    rw [cpr_eq G'] at h4
    have e := run_o (n := (3000 - k).toNat) ho h1 h2
    by_cases hz : (COP F op (M8.mk s.wh s.o s.ov s.p s.q c s.w)).2 = 0
    · rw [if_pos hz] at h4
      have hf : f = 0 := h4.1.trans hz
      refine Or.inl ⟨hf, ?_, ?_⟩
      · rw [h4.2.2.2.2.2 hf]
        exact gds_cop G' hl hg hm hz
      · have hk1 : k1 = k + 1 := h4.2.1
        rw [R, e, if_pos hz, h4.2.2.2.2.2 hf, hk1, show (3001 - (k + 1)).toNat = (3000 - k).toNat by omega]
    · rw [if_neg hz] at h4
      refine Or.inr ⟨fun h9 => hz (h4.1.symm.trans h9), ?_⟩
      rw [dwc_v h4, R, e, if_neg hz]
  by_cases b1 : (TKB s.c).1 = -1
  · rw [if_pos b1] at S
    exact flt S (top_e b1) (by decide) rfl rfl rfl
  rw [if_neg b1] at S
  by_cases b2 : ISN 0 (TKB s.c).1
  · rw [if_pos b2] at S
    by_cases b3 : (TKN 0 F.m (TKB s.c).1 (s.p, (TKB s.c).2)).2 = 0
    · have hf : f = 0 := S.1.trans b3
      have hk1 : k1 = k := S.2.1
      have et := S.2.2.2.2.2 hf
      obtain ⟨d1, d2, d3⟩ := tkn_d b3
      refine Or.inl ⟨hf, ?_, ?_⟩
      · rw [et]
        refine ⟨?_, g2, tkn_c t1, g4, ?_, g6⟩
        · show ∀ v ∈ (TKN 0 F.m (TKB s.c).1 (s.p, (TKB s.c).2)).1.1, I32 v
          rw [d2]
          intro v hv
          rcases List.mem_append.mp hv with h9 | h9
          · exact g1 v h9
          · rw [List.mem_singleton.mp h9]
            exact numv_i t1 (by omega) d3 b2
        · show ((TKN 0 F.m (TKB s.c).1 (s.p, (TKB s.c).2)).1.1.length : Int) ≤ 48
          rw [d2, List.length_append]
          rw [hm] at d1
          show ((s.p.length + 1 : Nat) : Int) ≤ 48
          have d4 : (s.p.length : Int) < 48 := d1
          omega
      · rw [R, hk1, et, show (3001 - k).toNat = (3000 - k).toNat + 1 by omega]
        exact run_n (top_n (by omega) b2 b3) ho rfl rfl rfl rfl rfl
    · have hn := tkn_n (fam := 0) (m := F.m) (x := (TKB s.c).1) (s := (s.p, (TKB s.c).2))
      exact flt S (top_f b2 b3) (by omega) rfl rfl rfl
  rw [if_neg b2] at S
  by_cases b4 : k = 3000
  · rw [if_pos b4] at S
    exact flt S (top_8 b2 b1 (by omega)) (by decide) rfl rfl rfl
  rw [if_neg b4] at S
  have k3 : ¬ (3000 ≤ k) := by omega
  by_cases b5 : (TKB s.c).1 = 12
  · rw [if_pos b5] at S
    obtain ⟨u1, u2, _⟩ := tkb_f t1
    have e := top_2 (fam := 0) (m := F.m) (st := k) (p := s.p) k3 b5
    by_cases b6 : (TKB (TKB s.c).2).1 = -1
    · rw [if_pos b6] at S e
      exact flt S e (by decide) rfl rfl rfl
    · rw [if_neg b6] at S e
      exact opr e (by omega) u1 S
  · rw [if_neg b5] at S
    exact opr (top_1 b2 b1 k3 b5) (by omega) t1 S
