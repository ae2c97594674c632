/-! the font of the Compact Font Format, as the reference reads it (p5) -/
theorem b1_ok {β : Int → Int} {n p r q f0 f1 k : Int} (t : SEQ f0 f1 (NUMO β n n p 1) (fun v => v = r ∧ q = p + 1)) (h1 : f1 = 0) (e : p = k) : β k = r := by
  subst e
  rw [← byt_numo] at t
  rcases t with ⟨_, h⟩ | ⟨_, _, v, h2, h3, _⟩ | ⟨_, h, _⟩
  · exact absurd h1 h
  · unfold BYT at h2
    by_cases hc : 0 ≤ p ∧ p < n ∧ p < n
    · rw [if_pos hc] at h2
      rw [← h3]; exact Option.some.inj h2
    · rw [if_neg hc] at h2
      exact absurd h2 (by simp)
  · exact absurd h1 h
theorem b1_in {β : Int → Int} {n p r q f0 f1 : Int} (t : SEQ f0 f1 (NUMO β n n p 1) (fun v => v = r ∧ q = p + 1)) (h1 : f1 = 0) : p < n := by
  rw [← byt_numo] at t
  rcases t with ⟨_, h⟩ | ⟨_, _, v, h2, _⟩ | ⟨_, h, _⟩
  · exact absurd h1 h
  · unfold BYT at h2
    by_cases hc : 0 ≤ p ∧ p < n ∧ p < n
    · exact hc.2.1
    · rw [if_neg hc] at h2
      exact absurd h2 (by simp)
  · exact absurd h1 h
theorem b1_fail {β : Int → Int} {n p f0 f1 : Int} {Q : Int → Prop} (t : SEQ f0 f1 (NUMO β n n p 1) Q) (h0 : f0 = 0) (h1 : ¬ (f1 = 0)) (hp : 0 ≤ p) : n ≤ p := by
  rw [← byt_numo] at t
  rcases t with ⟨h, _⟩ | ⟨_, h, _⟩ | ⟨_, _, h2⟩
  · exact absurd h0 h
  · exact absurd h h1
  · unfold BYT at h2
    by_cases hc : 0 ≤ p ∧ p < n ∧ p < n
    · rw [if_pos hc] at h2
      exact absurd h2 (by simp)
    · omega
theorem hdr_n {β : Int → Int} {n f : Int} {R : Int → Prop} (h : ¬ (4 ≤ n ∧ β 0 = 1 ∧ 4 ≤ β 2 ∧ 1 ≤ β 3 ∧ β 3 ≤ 4)) (hf : ¬ (f = 0)) : SEQ 0 f (HDR β n) R := seq0_no hf (if_neg h)
theorem hdr_y {β : Int → Int} {n f p : Int} (h : 4 ≤ n ∧ β 0 = 1 ∧ 4 ≤ β 2 ∧ 1 ≤ β 3 ∧ β 3 ≤ 4) (hf : f = 0) (e : β 2 = p) : SEQ 0 f (HDR β n) (fun v => v = p) := seq0_ok _ hf (if_pos h) e
theorem mtop_x {β : Int → Int} {n p e f0 fd f : Int} {S : SLO} {R : SLO → Prop} (hn : e ≤ n) (D : SEQ f0 fd (DIC β p e) (fun s => s = S)) (h : ¬ (fd = 0) ∨ ¬ TOPOK S) (hf : ¬ (f = 0)) : SEQ f0 f (TOPO β n p e) R := by
  have eT : TOPO β n p e = (DIC β p e).bind fun S => if TOPOK S then some S else none := by
    unfold TOPO DICB
    rw [if_neg (by omega)]
  rw [eT]
  rcases D with ⟨d0, _⟩ | ⟨d0, d1, v, d2, d3⟩ | ⟨d0, d1, d2⟩
  · exact Or.inl ⟨d0, hf⟩
  · refine Or.inr (Or.inr ⟨d0, hf, ?_⟩)
    rw [d2, Option.bind_some, d3, if_neg (by rcases h with h | h; exact absurd d1 h; exact h)]
  · refine Or.inr (Or.inr ⟨d0, hf, ?_⟩)
    rw [d2]
    rfl
theorem mtop_y {β : Int → Int} {n p e f0 fd : Int} {S : SLO} (hn : e ≤ n) (D : SEQ f0 fd (DIC β p e) (fun s => s = S)) (h : TOPOK S) : SEQ f0 fd (TOPO β n p e) (fun s => s = S) := by
  have eT : TOPO β n p e = (DIC β p e).bind fun S => if TOPOK S then some S else none := by
    unfold TOPO DICB
    rw [if_neg (by omega)]
  rw [eT]
  refine seq_bind D id (fun v _ hv => ?_)
  rw [hv, if_pos h]
  exact seq_some _
theorem ntop_a {h w : Nat → Int32} {a b : Nat → Int64} (e : Int32.toInt (h (Int32.toNatClampNeg 17)) = -1) : ¬ TOPOK (SM h a b w) := by
  intro t
  have h1 : (SM h a b w 17).1 = 1 := t.1
  rw [sm_1 (Or.inl rfl), if_pos (c := Int32.toInt (h (Int.toNat 17)) = -1) e] at h1
  exact absurd h1 (by decide)
theorem ntop_17 {h w : Nat → Int32} {a b : Nat → Int64} {r : Int} (M : MTO r (Int32.toInt (h (Int32.toNatClampNeg 17))) (Int32.toInt (w (Int32.toNatClampNeg 17))) 1) (hr : r = 0) : ¬ TOPOK (SM h a b w) := by
  intro t
  have h1 : FIT (SM h a b w) 17 1 := Or.inr t.1
  have := (fit_m (h := h) (w := w) (a := a) (b := b) (Or.inl rfl) (Or.inl rfl) M rfl rfl).mpr h1
  omega
theorem ntop_18 {h w : Nat → Int32} {a b : Nat → Int64} {r : Int} (M : MTO r (Int32.toInt (h (Int32.toNatClampNeg 18))) (Int32.toInt (w (Int32.toNatClampNeg 18))) 2) (hr : r = 0) : ¬ TOPOK (SM h a b w) := by
  intro t
  have := (fit_m (h := h) (w := w) (a := a) (b := b) (Or.inr (Or.inl rfl)) (Or.inr rfl) M rfl rfl).mpr t.2.1
  omega
theorem ntop_262 {h w : Nat → Int32} {a b : Nat → Int64} {r : Int} (M : MTO r (Int32.toInt (h (Int32.toNatClampNeg 262))) (Int32.toInt (w (Int32.toNatClampNeg 262))) 1) (hr : r = 0) : ¬ TOPOK (SM h a b w) := by
  intro t
  have := (fit_m (h := h) (w := w) (a := a) (b := b) (Or.inr (Or.inr (Or.inl rfl))) (Or.inl rfl) M rfl rfl).mpr t.2.2.1
  omega
theorem ntop_b {h w : Nat → Int32} {a b : Nat → Int64} {r : Int} (M : MTO r (Int32.toInt (h (Int32.toNatClampNeg 262))) (Int32.toInt (w (Int32.toNatClampNeg 262))) 1) (hr : r = 1) (e1 : Int32.toInt (h (Int32.toNatClampNeg 262)) = 1) (e2 : ¬ (Int64.toInt (a (Int32.toNatClampNeg 262)) = 2)) : ¬ TOPOK (SM h a b w) := by
  intro t
  have h1 := sm_m1 (h := h) (w := w) (a := a) (b := b) (Or.inr (Or.inr (Or.inl rfl))) M (Or.inl rfl) hr
  have h2 := sm_one (h := h) (w := w) (a := a) (b := b) (Or.inr (Or.inr (Or.inl rfl))) (Or.inl rfl) M hr (fun h9 => by have h8 : Int32.toInt (h (Int32.toNatClampNeg 262)) = -1 := h9; omega)
  exact e2 (h2.symm.trans (t.2.2.2 (h1.trans e1)))
theorem ytop {h w : Nat → Int32} {a b : Nat → Int64} {r1 r2 r3 : Int} (h17 : ¬ (Int32.toInt (h (Int32.toNatClampNeg 17)) = -1)) (M1 : MTO r1 (Int32.toInt (h (Int32.toNatClampNeg 17))) (Int32.toInt (w (Int32.toNatClampNeg 17))) 1) (k1 : r1 = 1) (M2 : MTO r2 (Int32.toInt (h (Int32.toNatClampNeg 18))) (Int32.toInt (w (Int32.toNatClampNeg 18))) 2) (k2 : r2 = 1) (M3 : MTO r3 (Int32.toInt (h (Int32.toNatClampNeg 262))) (Int32.toInt (w (Int32.toNatClampNeg 262))) 1) (k3 : r3 = 1) (h262 : Int32.toInt (h (Int32.toNatClampNeg 262)) = 1 → Int64.toInt (a (Int32.toNatClampNeg 262)) = 2) : TOPOK (SM h a b w) := by
  refine ⟨?_, (fit_m (Or.inr (Or.inl rfl)) (Or.inr rfl) M2 rfl rfl).mp k2, (fit_m (Or.inr (Or.inr (Or.inl rfl))) (Or.inl rfl) M3 rfl rfl).mp k3, fun t => ?_⟩
  · have h1 := sm_m1 (h := h) (w := w) (a := a) (b := b) (Or.inl rfl) M1 (Or.inl rfl) k1
    rw [h1]
    unfold MTO at M1
    show Int32.toInt (h (Int32.toNatClampNeg 17)) = 1
    omega
  · have h1 := sm_m1 (h := h) (w := w) (a := a) (b := b) (Or.inr (Or.inr (Or.inl rfl))) M3 (Or.inl rfl) k3
    have e1 : Int32.toInt (h (Int32.toNatClampNeg 262)) = 1 := h1.symm.trans t
    have h2 := sm_one (h := h) (w := w) (a := a) (b := b) (Or.inr (Or.inr (Or.inl rfl))) (Or.inl rfl) M3 k3 (fun h9 => by have h8 : Int32.toInt (h (Int32.toNatClampNeg 262)) = -1 := h9; omega)
    exact h2.trans (h262 e1)
theorem m17 {h w : Nat → Int32} {a b : Nat → Int64} {r p : Int} (M1 : MTO r (Int32.toInt (h (Int32.toNatClampNeg 17))) (Int32.toInt (w (Int32.toNatClampNeg 17))) 1) (k1 : r = 1) (h17 : ¬ (Int32.toInt (h (Int32.toNatClampNeg 17)) = -1)) (e : p = Int64.toInt (a (Int32.toNatClampNeg 17))) : p = (SM h a b w 17).2.1 := e.trans (sm_one (Or.inl rfl) (Or.inl rfl) M1 k1 h17).symm
theorem m18_0 {h w : Nat → Int32} {a b : Nat → Int64} {r : Int} (M : MTO r (Int32.toInt (h (Int32.toNatClampNeg 18))) (Int32.toInt (w (Int32.toNatClampNeg 18))) 2) (k : r = 1) (e : ¬ (Int32.toInt (h (Int32.toNatClampNeg 18)) = 2)) : (SM h a b w 18).1 = -1 := by
  rw [sm_m1 (Or.inr (Or.inl rfl)) M (Or.inr rfl) k]
  unfold MTO at M
  show Int32.toInt (h (Int32.toNatClampNeg 18)) = -1
  omega
theorem m18_n {h w : Nat → Int32} {a b : Nat → Int64} {r : Int} (M : MTO r (Int32.toInt (h (Int32.toNatClampNeg 18))) (Int32.toInt (w (Int32.toNatClampNeg 18))) 2) (k : r = 1) (e : Int32.toInt (h (Int32.toNatClampNeg 18)) = 2) : ¬ ((SM h a b w 18).1 = -1) := by
  rw [sm_m1 (Or.inr (Or.inl rfl)) M (Or.inr rfl) k]
  show ¬ (Int32.toInt (h (Int32.toNatClampNeg 18)) = -1)
  omega
theorem m18_p {β : Int → Int} {h w : Nat → Int32} {a b : Nat → Int64} {r n x y f0 f1 : Int} {R : Int × Int × Int → Prop} (M : MTO r (Int32.toInt (h (Int32.toNatClampNeg 18))) (Int32.toInt (w (Int32.toNatClampNeg 18))) 2) (k : r = 1) (e : Int32.toInt (h (Int32.toNatClampNeg 18)) = 2) (ex : x = Int64.toInt (b (Int32.toNatClampNeg 18))) (ey : y = Int64.toInt (a (Int32.toNatClampNeg 18))) (Q : SEQ f0 f1 (PRIV β n x y) R) : SEQ f0 f1 (PRIV β n (SM h a b w 18).2.2 (SM h a b w 18).2.1) R := by
  have h8 : ¬ (Int32.toInt (h (Int.toNat 18)) = -1) := fun h9 => by have h7 : Int32.toInt (h (Int32.toNatClampNeg 18)) = -1 := h9; omega
  rw [sm_one (Or.inr (Or.inl rfl)) (Or.inr rfl) M k h8, sm_two (Or.inr (Or.inl rfl)) M k h8]
  rw [ex, ey] at Q
  exact Q
theorem cff_n0 {β : Int → Int} {n f : Int} {P : Int → Prop} {R : Int × Int × Int × Int × Int → Prop} (H : SEQ 0 f (HDR β n) P) (hf : ¬ (f = 0)) : SEQ 0 f (CFF β n) R := seq0_stop H hf hf
theorem cff_n1 {β : Int → Int} {n fh f ph ic1 p1 ob1 oa1 ja1 : Int} {R : Int × Int × Int × Int × Int → Prop} (H : SEQ 0 fh (HDR β n) (fun v => v = ph)) (I1 : SEQ fh f (IDX β n ph 1 1) (IXR ic1 p1 ob1 oa1 ja1 ph)) (hf : ¬ (f = 0)) : SEQ 0 f (CFF β n) R :=
  seq0_no hf (seq0_non (cff_pf (Z := fun _ => (0, 0, 0)) (p17 := 0) (ll := 0) (lo := 0) (lg := 0) (dw := 0) (nw := 0) (p2 := 0) (ic2 := 0) (ob2 := 0) (oa2 := 0) (ja2 := 0) (ic3 := 0) (p3 := 0) (ob3 := 0) (oa3 := 0) (ja3 := 0) (ic4 := 0) (p4 := 0) (ob4 := 0) (oa4 := 0) (ja4 := 0) (ic5 := 0) (p5 := 0) (ob5 := 0) (oa5 := 0) (ja5 := 0) H I1 (seq_old hf hf) (seq_old hf hf) (seq_old hf hf) (seq_old hf hf) (seq_old hf hf) (fun h => absurd h hf) (fun h => absurd h hf) (fun h => absurd h hf) (Or.inl ⟨hf, hf⟩)) hf)
theorem cff_n2 {β : Int → Int} {n fh f1 f ph ic1 p1 ob1 oa1 ja1 ic2 p2 ob2 oa2 ja2 : Int} {R : Int × Int × Int × Int × Int → Prop} (H : SEQ 0 fh (HDR β n) (fun v => v = ph)) (I1 : SEQ fh f1 (IDX β n ph 1 1) (IXR ic1 p1 ob1 oa1 ja1 ph)) (I2 : SEQ f1 f (IDX β n p1 1 1) (IXR ic2 p2 ob2 oa2 ja2 p1)) (hf : ¬ (f = 0)) : SEQ 0 f (CFF β n) R :=
  seq0_no hf (seq0_non (cff_pf (Z := fun _ => (0, 0, 0)) (p17 := 0) (ll := 0) (lo := 0) (lg := 0) (dw := 0) (nw := 0) (ic3 := 0) (p3 := 0) (ob3 := 0) (oa3 := 0) (ja3 := 0) (ic4 := 0) (p4 := 0) (ob4 := 0) (oa4 := 0) (ja4 := 0) (ic5 := 0) (p5 := 0) (ob5 := 0) (oa5 := 0) (ja5 := 0) H I1 I2 (seq_old hf hf) (seq_old hf hf) (seq_old hf hf) (seq_old hf hf) (fun h => absurd h hf) (fun h => absurd h hf) (fun h => absurd h hf) (Or.inl ⟨hf, hf⟩)) hf)
theorem cff_n3 {β : Int → Int} {n fh f1 f2 f ph ic1 p1 ob1 oa1 ja1 ic2 p2 ob2 oa2 ja2 ic3 p3 ob3 oa3 ja3 : Int} {R : Int × Int × Int × Int × Int → Prop} (H : SEQ 0 fh (HDR β n) (fun v => v = ph)) (I1 : SEQ fh f1 (IDX β n ph 1 1) (IXR ic1 p1 ob1 oa1 ja1 ph)) (I2 : SEQ f1 f2 (IDX β n p1 1 1) (IXR ic2 p2 ob2 oa2 ja2 p1)) (I3 : SEQ f2 f (IDX β n p2 0 65535) (IXR ic3 p3 ob3 oa3 ja3 p2)) (hf : ¬ (f = 0)) : SEQ 0 f (CFF β n) R :=
  seq0_no hf (seq0_non (cff_pf (Z := fun _ => (0, 0, 0)) (p17 := 0) (ll := 0) (lo := 0) (lg := 0) (dw := 0) (nw := 0) (ic4 := 0) (p4 := 0) (ob4 := 0) (oa4 := 0) (ja4 := 0) (ic5 := 0) (p5 := 0) (ob5 := 0) (oa5 := 0) (ja5 := 0) H I1 I2 I3 (seq_old hf hf) (seq_old hf hf) (seq_old hf hf) (fun h => absurd h hf) (fun h => absurd h hf) (fun h => absurd h hf) (Or.inl ⟨hf, hf⟩)) hf)
theorem cff_n4 {β : Int → Int} {n fh f1 f2 f3 f ph ic1 p1 ob1 oa1 ja1 ic2 p2 ob2 oa2 ja2 ic3 p3 ob3 oa3 ja3 ic4 p4 ob4 oa4 ja4 : Int} {R : Int × Int × Int × Int × Int → Prop} (H : SEQ 0 fh (HDR β n) (fun v => v = ph)) (I1 : SEQ fh f1 (IDX β n ph 1 1) (IXR ic1 p1 ob1 oa1 ja1 ph)) (I2 : SEQ f1 f2 (IDX β n p1 1 1) (IXR ic2 p2 ob2 oa2 ja2 p1)) (I3 : SEQ f2 f3 (IDX β n p2 0 65535) (IXR ic3 p3 ob3 oa3 ja3 p2)) (I4 : SEQ f3 f (IDX β n p3 0 65535) (IXR ic4 p4 ob4 oa4 ja4 p3)) (hf : ¬ (f = 0)) : SEQ 0 f (CFF β n) R :=
  seq0_no hf (seq0_non (cff_pf (Z := fun _ => (0, 0, 0)) (p17 := 0) (ll := 0) (lo := 0) (lg := 0) (dw := 0) (nw := 0) (ic5 := 0) (p5 := 0) (ob5 := 0) (oa5 := 0) (ja5 := 0) H I1 I2 I3 I4 (seq_old hf hf) (seq_old hf hf) (fun h => absurd h hf) (fun h => absurd h hf) (fun h => absurd h hf) (Or.inl ⟨hf, hf⟩)) hf)
theorem cff_n5 {β : Int → Int} {n fh f1 f2 f3 f4 f ph ic1 p1 ob1 oa1 ja1 ic2 p2 ob2 oa2 ja2 ic3 p3 ob3 oa3 ja3 ic4 p4 ob4 oa4 ja4 : Int} {R : Int × Int × Int × Int × Int → Prop} (H : SEQ 0 fh (HDR β n) (fun v => v = ph)) (I1 : SEQ fh f1 (IDX β n ph 1 1) (IXR ic1 p1 ob1 oa1 ja1 ph)) (I2 : SEQ f1 f2 (IDX β n p1 1 1) (IXR ic2 p2 ob2 oa2 ja2 p1)) (I3 : SEQ f2 f3 (IDX β n p2 0 65535) (IXR ic3 p3 ob3 oa3 ja3 p2)) (I4 : SEQ f3 f4 (IDX β n p3 0 65535) (IXR ic4 p4 ob4 oa4 ja4 p3)) (T : SEQ f4 f (TOPO β n ja2 p2) (fun S => S = fun _ => (0, 0, 0))) (hf : ¬ (f = 0)) : SEQ 0 f (CFF β n) R :=
  seq0_no hf (seq0_non (cff_pf (Z := fun _ => (0, 0, 0)) (p17 := 0) (ll := 0) (lo := 0) (lg := ic4) (dw := 0) (nw := 0) (ic5 := 0) (p5 := 0) (ob5 := 0) (oa5 := 0) (ja5 := 0) H I1 I2 I3 I4 T (seq_old hf hf) (fun h => absurd h hf) (fun h => absurd h hf) (fun _ => rfl) (Or.inl ⟨hf, hf⟩)) hf)
theorem mtop_e {β : Int → Int} {n p e p2 e2 f0 f : Int} {R : SLO → Prop} (h : SEQ f0 f (TOPO β n p e) R) (h1 : p = p2) (h2 : e = e2) : SEQ f0 f (TOPO β n p2 e2) R := by
  subst h1 h2
  exact h
theorem mny_at {f f2 : Nat → Int32} {v : Int32} {k : Nat} (e : f2 = upd f k v) : f2 k = v := by rw [e, upd_at]
theorem mny_ne {f f2 : Nat → Int32} {v : Int32} {k j : Nat} (e : f2 = upd f k v) (h : j ≠ k) : f2 j = f j := by rw [e, upd_ne h]
theorem iso19 : (19 : Int) = 17 ∨ (19 : Int) = 18 ∨ (19 : Int) = 262 ∨ (19 : Int) = 19 ∨ (19 : Int) = 20 ∨ (19 : Int) = 21 := by decide
theorem iso20 : (20 : Int) = 17 ∨ (20 : Int) = 18 ∨ (20 : Int) = 262 ∨ (20 : Int) = 19 ∨ (20 : Int) = 20 ∨ (20 : Int) = 21 := by decide
theorem iso21 : (21 : Int) = 17 ∨ (21 : Int) = 18 ∨ (21 : Int) = 262 ∨ (21 : Int) = 19 ∨ (21 : Int) = 20 ∨ (21 : Int) = 21 := by decide
theorem yfit {h w : Nat → Int32} {a b : Nat → Int64} {o r : Int} (M : MTO r (Int32.toInt (h o.toNat)) (Int32.toInt (w o.toNat)) 1) (k : r = 1) (ho : o = 17 ∨ o = 18 ∨ o = 262 ∨ o = 19 ∨ o = 20 ∨ o = 21) : FIT (SM h a b w) o 1 := (fit_m ho (Or.inl rfl) M rfl rfl).mp k
theorem nfit_1 {h w : Nat → Int32} {a b : Nat → Int64} {r : Int} (M : MTO r (Int32.toInt (h (Int32.toNatClampNeg 19))) (Int32.toInt (w (Int32.toNatClampNeg 19))) 1) (k : r = 0) : ¬ (FIT (SM h a b w) 19 1 ∧ FIT (SM h a b w) 20 1 ∧ FIT (SM h a b w) 21 1) := fun t => by
  have := (fit_m (h := h) (w := w) (a := a) (b := b) iso19 (Or.inl rfl) M rfl rfl).mpr t.1
  omega
theorem nfit_2 {h w : Nat → Int32} {a b : Nat → Int64} {r : Int} (M : MTO r (Int32.toInt (h (Int32.toNatClampNeg 20))) (Int32.toInt (w (Int32.toNatClampNeg 20))) 1) (k : r = 0) : ¬ (FIT (SM h a b w) 19 1 ∧ FIT (SM h a b w) 20 1 ∧ FIT (SM h a b w) 21 1) := fun t => by
  have := (fit_m (h := h) (w := w) (a := a) (b := b) iso20 (Or.inl rfl) M rfl rfl).mpr t.2.1
  omega
theorem nfit_3 {h w : Nat → Int32} {a b : Nat → Int64} {r : Int} (M : MTO r (Int32.toInt (h (Int32.toNatClampNeg 21))) (Int32.toInt (w (Int32.toNatClampNeg 21))) 1) (k : r = 0) : ¬ (FIT (SM h a b w) 19 1 ∧ FIT (SM h a b w) 20 1 ∧ FIT (SM h a b w) 21 1) := fun t => by
  have := (fit_m (h := h) (w := w) (a := a) (b := b) iso21 (Or.inl rfl) M rfl rfl).mpr t.2.2
  omega
theorem m_no {h w : Nat → Int32} {a b : Nat → Int64} {o r : Int} (M : MTO r (Int32.toInt (h o.toNat)) (Int32.toInt (w o.toNat)) 1) (k : r = 1) (e : ¬ (Int32.toInt (h o.toNat) = 1)) (ho : o = 17 ∨ o = 18 ∨ o = 262 ∨ o = 19 ∨ o = 20 ∨ o = 21) : (SM h a b w o).1 = -1 := by
  rw [sm_m1 ho M (Or.inl rfl) k]
  unfold MTO at M
  omega
theorem m_ys {h w : Nat → Int32} {a b : Nat → Int64} {o r : Int} (M : MTO r (Int32.toInt (h o.toNat)) (Int32.toInt (w o.toNat)) 1) (k : r = 1) (e : Int32.toInt (h o.toNat) = 1) (ho : o = 17 ∨ o = 18 ∨ o = 262 ∨ o = 19 ∨ o = 20 ∨ o = 21) : ¬ ((SM h a b w o).1 = -1) := by
  rw [sm_m1 ho M (Or.inl rfl) k]
  omega
theorem m_pl {h w : Nat → Int32} {a b : Nat → Int64} {o r p q : Int} (M : MTO r (Int32.toInt (h o.toNat)) (Int32.toInt (w o.toNat)) 1) (k : r = 1) (e : Int32.toInt (h o.toNat) = 1) (ho : o = 17 ∨ o = 18 ∨ o = 262 ∨ o = 19 ∨ o = 20 ∨ o = 21) (ep : q = p + Int64.toInt (a o.toNat)) : q = p + (SM h a b w o).2.1 := by
  rw [sm_one ho (Or.inl rfl) M k (by omega)]
  exact ep
theorem m_us {h w : Nat → Int32} {a b : Nat → Int64} {o r u : Int} (M : MTO r (Int32.toInt (h o.toNat)) (Int32.toInt (w o.toNat)) 1) (k : r = 1) (ho : o = 17 ∨ o = 18 ∨ o = 262 ∨ o = 19 ∨ o = 20 ∨ o = 21) (e : (Int32.toInt (h o.toNat) = 1 ∧ u = Int64.toInt (a o.toNat)) ∨ (¬ (Int32.toInt (h o.toNat) = 1) ∧ u = 0)) : u = if (SM h a b w o).1 = 1 then (SM h a b w o).2.1 else 0 := by
  rw [sm_m1 ho M (Or.inl rfl) k]
  rcases e with ⟨e1, e2⟩ | ⟨e1, e2⟩
  · rw [if_pos e1, sm_one ho (Or.inl rfl) M k (by omega), e2]
  · rw [if_neg e1, e2]
def MAO (r ob at1 ah off : Int) : Prop := r = 0 ∨ ob = 0 ∨ at1 = ah + off
theorem mix_1 {f : Nat → Int32} {r ob at1 ah a w : Int} (h : MAO r ob at1 ah (OFF f a w ob)) (hr : r = 1) (ho : ob = 1) : at1 = ah + OFF f a w (1 : Int) := by
  subst ho
  rcases h with h | h | h
  · omega
  · omega
  · exact h
theorem seq_f {α : Type} {f0 f1 g : Int} {o : Option α} {P : α → Prop} (h : SEQ f0 f1 o P) (e : f0 = g) : SEQ g f1 o P := e ▸ h
theorem m_us20 {h w : Nat → Int32} {a b : Nat → Int64} {r u : Int} (M : MTO r (Int32.toInt (h (Int32.toNatClampNeg 20))) (Int32.toInt (w (Int32.toNatClampNeg 20))) 1) (k : r = 1) (e : ((Int32.toInt (h (Int32.toNatClampNeg 20))) = 1 ∧ u = (Int64.toInt (a (Int32.toNatClampNeg 20)))) ∨ (¬ ((Int32.toInt (h (Int32.toNatClampNeg 20))) = 1) ∧ u = 0)) : u = if (SM h a b w 20).1 = 1 then (SM h a b w 20).2.1 else 0 := m_us M k iso20 e
theorem m_us21 {h w : Nat → Int32} {a b : Nat → Int64} {r u : Int} (M : MTO r (Int32.toInt (h (Int32.toNatClampNeg 21))) (Int32.toInt (w (Int32.toNatClampNeg 21))) 1) (k : r = 1) (e : ((Int32.toInt (h (Int32.toNatClampNeg 21))) = 1 ∧ u = (Int64.toInt (a (Int32.toNatClampNeg 21)))) ∨ (¬ ((Int32.toInt (h (Int32.toNatClampNeg 21))) = 1) ∧ u = 0)) : u = if (SM h a b w 21).1 = 1 then (SM h a b w 21).2.1 else 0 := m_us M k iso21 e
theorem m_no19 {h w : Nat → Int32} {a b : Nat → Int64} {r : Int} (M : MTO r (Int32.toInt (h (Int32.toNatClampNeg 19))) (Int32.toInt (w (Int32.toNatClampNeg 19))) 1) (k : r = 1) (e : ¬ ((Int32.toInt (h (Int32.toNatClampNeg 19))) = 1)) : (SM h a b w 19).1 = -1 := m_no M k e iso19
theorem m_ys19 {h w : Nat → Int32} {a b : Nat → Int64} {r : Int} (M : MTO r (Int32.toInt (h (Int32.toNatClampNeg 19))) (Int32.toInt (w (Int32.toNatClampNeg 19))) 1) (k : r = 1) (e : (Int32.toInt (h (Int32.toNatClampNeg 19))) = 1) : ¬ ((SM h a b w 19).1 = -1) := m_ys M k e iso19
theorem m_pl19 {h w : Nat → Int32} {a b : Nat → Int64} {r p q : Int} (M : MTO r (Int32.toInt (h (Int32.toNatClampNeg 19))) (Int32.toInt (w (Int32.toNatClampNeg 19))) 1) (k : r = 1) (e : (Int32.toInt (h (Int32.toNatClampNeg 19))) = 1) (ep : q = p + (Int64.toInt (a (Int32.toNatClampNeg 19)))) : q = p + (SM h a b w 19).2.1 := m_pl M k e iso19 ep
theorem mtop_2 {β : Int → Int} {n p e f0 fd f1 f2 p1 ic2 p2 ob2 oa2 ja2 : Int} {S : SLO} (I2 : SEQ f1 f2 (IDX β n p1 1 1) (IXR ic2 p2 ob2 oa2 ja2 p1)) (D : SEQ f0 fd (DIC β p e) (fun s => s = S)) (h1 : p = ja2) (h2 : e = p2) (hn : e ≤ n) (h : TOPOK S) : SEQ f0 fd (TOPO β n ja2 p2) (fun s => s = S) := by
  subst h1 h2
  exact mtop_y hn D h
