/-! the reference's lines and curves (p8 to p11) -/
theorem ngv {f : Nat → Int64} {n i : Int} {x : Int32} {z : Int64} (e : f (Int32.toNatClampNeg x) = z) (hx : Int32.toInt x = i) (h0 : 0 ≤ i) (h1 : i < n) : z = NG (PA f n) i := (ng_pa e hx h0 h1).symm
/-- a part's k-th point -/
def PNT (nb : Nat → Int64) (n k : Int) (x y : Int64) : Nat → Int64 := vp_updL (vp_updL nb (6 * (n - 1) + 2 * k).toNat x) (6 * (n - 1) + 2 * k + 1).toNat y
theorem pnt_of {nb f1 f2 : Nat → Int64} {n k : Int} {x y : Int64} {i j : Int32} (e1 : vp_updL nb (Int32.toNatClampNeg i) x = f1) (e2 : vp_updL f1 (Int32.toNatClampNeg j) y = f2) (hi : Int32.toInt i = 6 * (n - 1) + 2 * k) (hj : Int32.toInt j = 6 * (n - 1) + 2 * k + 1) : f2 = PNT nb n k x y := by
  have h1 : Int32.toNatClampNeg i = (6 * (n - 1) + 2 * k).toNat := by show (Int32.toInt i).toNat = _; rw [hi]
  have h2 : Int32.toNatClampNeg j = (6 * (n - 1) + 2 * k + 1).toNat := by show (Int32.toInt j).toNat = _; rw [hj]
  unfold PNT
  rw [← e2, ← e1, h1, h2]
theorem pnt_lo {nb : Nat → Int64} {n k : Int} {x y : Int64} {i : Nat} (hk : 0 ≤ k) (hi : i < 6 * (n - 1).toNat) : PNT nb n k x y i = nb i := by
  unfold PNT
  rw [updL_eq, updL_eq, if_neg (by omega), if_neg (by omega)]
theorem pnt_x {nb : Nat → Int64} {n k : Int} {x y : Int64} {i : Nat} (hi : (i : Int) = 6 * (n - 1) + 2 * k) : PNT nb n k x y i = x := by
  unfold PNT
  rw [updL_eq, updL_eq, if_neg (by omega), if_pos (by omega)]
theorem pnt_y {nb : Nat → Int64} {n k : Int} {x y : Int64} {i : Nat} (hi : (i : Int) = 6 * (n - 1) + 2 * k + 1) : PNT nb n k x y i = y := by
  unfold PNT
  rw [updL_eq, if_pos (by omega)]
theorem pnt_n {nb : Nat → Int64} {n k : Int} {x y : Int64} {i : Nat} (h0 : 1 ≤ n) (hk : 0 ≤ k) (h : ¬ ((i : Int) = 6 * (n - 1) + 2 * k)) (h1 : ¬ ((i : Int) = 6 * (n - 1) + 2 * k + 1)) : PNT nb n k x y i = nb i := by
  unfold PNT
  rw [updL_eq, updL_eq, if_neg (by omega), if_neg (by omega)]
theorem ar1 {kd kd1 : Nat → Int32} {nb nb1 : Nat → Int64} {n n1 k : Int} {v : Int32} {z w : Int64} (A : kd1 = upd kd n.toNat v) (hv : Int32.toInt v = k) (B : nb1 = PNT nb n1 0 z w) (hm : n1 = n + 1) (h0 : 0 ≤ n) : ADA kd nb n z w k kd1 nb1 := by
  subst A B
  refine ⟨fun i hi => ?_, fun i hi => ?_, ?_, ?_, ?_⟩
  · rw [upd_eq, if_neg (by omega)]
  · exact pnt_lo (by decide) (by omega)
  · rw [upd_eq, if_pos rfl, hv]
  · exact pnt_x (by omega)
  · exact pnt_y (by omega)
theorem lnr_ok {kd kd1 : Nat → Int32} {nb nb1 : Nat → Int64} {n n1 lim op r o1 : Int} {x y dx dy z w : Int64} {v : Int32} (A : kd1 = upd kd n.toNat v) (hv : Int32.toInt v = 1) (B : nb1 = PNT nb n1 0 z w) (e1 : x + dx = z) (e2 : y + dy = w) (h0 : 0 ≤ n) (hn : n < lim) (hm : n1 = n + 1) (hr : r = 0) (ho : o1 = 1) : OEQ (PTS kd1 nb1 n1) z w o1 r (LNP lim dx dy (PTS kd nb n, x, y, op)) := lnp_ok (fun _ => ar1 A hv B hm h0) hr e1 e2 h0 hn hm ho
theorem mvr_ok {kd kd1 : Nat → Int32} {nb nb1 : Nat → Int64} {n n1 lim op r o1 : Int} {x y dx dy z w : Int64} {v : Int32} (A : kd1 = upd kd n.toNat v) (hv : Int32.toInt v = 0) (B : nb1 = PNT nb n1 0 z w) (e1 : x + dx = z) (e2 : y + dy = w) (h0 : 0 ≤ n) (hn : n < lim) (hm : n1 = n + 1) (hr : r = 0) (ho : o1 = 0) : OEQ (PTS kd1 nb1 n1) z w o1 r (MVP lim dx dy (PTS kd nb n, x, y, op)) := mvp_ok (fun _ => ar1 A hv B hm h0) hr e1 e2 h0 hn hm ho
theorem clr_ok {kd kd1 : Nat → Int32} {nb : Nat → Int64} {n n1 lim op r : Int} {x y : Int64} {v : Int32} (A : kd1 = upd kd n.toNat v) (hv : Int32.toInt v = 3) (h0 : 0 ≤ n) (hn : n < lim) (hm : n1 = n + 1) (hr : r = 0) : OEQ (PTS kd1 nb n1) x y op r (CLP lim (PTS kd nb n, x, y, op)) := by
  subst A hr
  unfold CLP
  rw [if_pos (by show ((PTS kd nb n).length : Int) < lim; rw [pts_len]; omega)]
  refine ⟨rfl, ?_, fun _ => ⟨rfl, rfl, rfl⟩⟩
  exact pts_add (k := 3) h0 hm (fun i hi => by rw [upd_eq, if_neg (by omega)]) (fun _ _ => rfl) (by rw [upd_eq, if_pos rfl, hv]) (by rw [if_pos rfl])
theorem cvr_ok {kd kd1 : Nat → Int32} {nb g1 g2 g3 : Nat → Int64} {n n1 lim op r o1 : Int} {x y a b c d e f x1 y1 x2 y2 x3 y3 : Int64} {v : Int32} (A : kd1 = upd kd n.toNat v) (hv : Int32.toInt v = 2) (B1 : g1 = PNT nb n1 0 x1 y1) (B2 : g2 = PNT g1 n1 1 x2 y2) (B3 : g3 = PNT g2 n1 2 x3 y3) (e1 : x + a = x1) (e2 : y + b = y1) (e3 : x1 + c = x2) (e4 : y1 + d = y2) (e5 : x2 + e = x3) (e6 : y2 + f = y3) (h0 : 0 ≤ n) (hn : n < lim) (hm : n1 = n + 1) (hr : r = 0) (ho : o1 = 1) : OEQ (PTS kd1 g3 n1) x3 y3 o1 r (CVP lim a b c d e f (PTS kd nb n, x, y, op)) := by
  subst A hr ho e1 e2
  subst e3 e4
  subst e5 e6
  unfold CVP
  rw [if_pos (by show ((PTS kd nb n).length : Int) < lim; rw [pts_len]; omega)]
  refine ⟨rfl, ?_, fun _ => ⟨rfl, rfl, rfl⟩⟩
  have N2 : ∀ i : Nat, g3 i = PNT (PNT (PNT nb n1 0 (x + a) (y + b)) n1 1 (x + a + c) (y + b + d)) n1 2 (x + a + c + e) (y + b + d + f) i := fun i => by rw [B3, B2, B1]
  refine pts_add (k := 2) h0 hm (fun i hi => by rw [upd_eq, if_neg (by omega)]) (fun i hi => ?_) (by rw [upd_eq, if_pos rfl, hv]) ?_
  · rw [N2, pnt_lo (by decide) (by omega), pnt_lo (by decide) (by omega), pnt_lo (by decide) (by omega)]
  · rw [if_neg (by decide), if_pos rfl, N2, N2, N2, N2, N2, N2]
    show [x + a, y + b, x + a + c, y + b + d, x + a + c + e, y + b + d + f] = _
    rw [pnt_x (k := 2) (i := 6 * n.toNat + 4) (by omega), pnt_y (k := 2) (i := 6 * n.toNat + 5) (by omega)]
    rw [pnt_n (k := 2) (i := 6 * n.toNat + 2) (by omega) (by decide) (by omega) (by omega), pnt_n (k := 2) (i := 6 * n.toNat + 3) (by omega) (by decide) (by omega) (by omega), pnt_n (k := 2) (i := 6 * n.toNat) (by omega) (by decide) (by omega) (by omega), pnt_n (k := 2) (i := 6 * n.toNat + 1) (by omega) (by decide) (by omega) (by omega)]
    rw [pnt_x (k := 1) (i := 6 * n.toNat + 2) (by omega), pnt_y (k := 1) (i := 6 * n.toNat + 3) (by omega)]
    rw [pnt_n (k := 1) (i := 6 * n.toNat) (by omega) (by decide) (by omega) (by omega), pnt_n (k := 1) (i := 6 * n.toNat + 1) (by omega) (by decide) (by omega) (by omega)]
    rw [pnt_x (k := 0) (i := 6 * n.toNat) (by omega), pnt_y (k := 0) (i := 6 * n.toNat + 1) (by omega)]
/-- lines by pairs from a place up to another, curves by sixes -/
def PRS (lim : Int) (p : List Int64) (a b : Int) : OU → OU × Int := ASKO (2 ≤ b - a ∧ (b - a) % 2 = 0) (ITP (PRF lim p a) ((b - a) / 2).toNat)
def SXS (lim : Int) (p : List Int64) (a b : Int) : OU → OU × Int := ASKO (6 ≤ b - a ∧ (b - a) % 6 = 0) (ITP (SIXF lim p a) ((b - a) / 6).toNat)
theorem asko_u {c : Prop} [Decidable c] {k : OU → OU × Int} {o : OU} {p : PRT2} {x y : Int64} {u r : Int} (hc : c) (h : OEQ p x y u r (ASKO c k o)) : OEQ p x y u r (k o) := by unfold ASKO at h; rw [if_pos hc] at h; exact h
theorem sq_r {q : OU × Int} {s : Nat → OU → OU × Int} {p : PRT2} {x y : Int64} {u r : Int} (h : OEQ p x y u r q) : OEQ p x y u r (SQ q (ITP s 0)) := by
  unfold SQ
  split
  · rename_i h0
    obtain ⟨a, b, c⟩ := h
    exact ⟨a.trans h0, b, fun h => c h⟩
  · exact h
theorem psx_0 {lim : Int} {pl : List Int64} {n a b : Int} {q : PRT2} {x y x1 y1 : Int64} {u u1 r : Int} {p : PRT2} (C : OEQ p x1 y1 u1 r (PRS lim pl a b (q, x, y, u))) (ha : a = 0) (hb : b = n) (hl : (pl.length : Int) = n) : OEQ p x1 y1 u1 r (PSX lim pl 0 (q, x, y, u)) := by
  subst ha hb
  unfold PSX
  unfold PRS at C
  rw [hl]
  by_cases h : 2 ≤ b - 0 ∧ (b - 0) % 2 = 0
  · exact asko_y h (sq_r (asko_u h C))
  · unfold ASKO at C
    rw [if_neg h] at C
    exact asko_n h C.2.1 C.1
theorem spx_0 {lim : Int} {pl : List Int64} {n a b : Int} {q : PRT2} {x y x1 y1 : Int64} {u u1 r : Int} {p : PRT2} (C : OEQ p x1 y1 u1 r (SXS lim pl a b (q, x, y, u))) (ha : a = 0) (hb : b = n) (hl : (pl.length : Int) = n) : OEQ p x1 y1 u1 r (SPX lim pl 0 (q, x, y, u)) := by
  subst ha hb
  unfold SPX
  unfold SXS at C
  rw [hl]
  by_cases h : 6 ≤ b - 0 ∧ (b - 0) % 6 = 0
  · exact asko_y h (sq_r (asko_u h C))
  · unfold ASKO at C
    rw [if_neg h] at C
    exact asko_n h C.2.1 C.1
theorem prs_u {lim : Int} {pl : List Int64} {a b a2 : Int} {k : Nat} {o : OU} {x1 y1 : Int64} {u1 r : Int} {p : PRT2} (C : OEQ p x1 y1 u1 r (PRS lim pl a b o)) (h : 2 ≤ b - a ∧ (b - a) % 2 = 0) (ha : a = a2) (hk : ((b - a) / 2).toNat = k) : OEQ p x1 y1 u1 r (ITP (PRF lim pl a2) k o) := by
  subst ha hk
  exact asko_u h C
theorem sxs_u {lim : Int} {pl : List Int64} {a b a2 : Int} {k : Nat} {o : OU} {x1 y1 : Int64} {u1 r : Int} {p : PRT2} (C : OEQ p x1 y1 u1 r (SXS lim pl a b o)) (h : 6 ≤ b - a ∧ (b - a) % 6 = 0) (ha : a = a2) (hk : ((b - a) / 6).toNat = k) : OEQ p x1 y1 u1 r (ITP (SIXF lim pl a2) k o) := by
  subst ha hk
  exact asko_u h C
theorem palen {f : Nat → Int64} {n m : Int} (h0 : 0 ≤ n) (e : n = m) : ((PA f n).length : Int) = m := by rw [pa_len]; omega
theorem xss (X S : Int64) : X - (X + S) = -S := by
  apply Int64.toBitVec_inj.mp
  simp only [Int64.toBitVec_sub, Int64.toBitVec_add, Int64.toBitVec_neg]
  bv_omega
/-- a flex that goes back: the reference's way -/
theorem hf1_r {lim : Int} {f : Nat → Int64} {n : Int} {o : OU} {p p2 : PRT2} {x y x2 y2 : Int64} {u r u2 r2 : Int} {g0 g1 g2 g3 g4 g5 g6 g7 g8 a c : Int64} (G0 : g0 = NG (PA f n) 0) (G1 : g1 = NG (PA f n) 1) (G2 : g2 = NG (PA f n) 2) (G3 : g3 = NG (PA f n) 3) (G4 : g4 = NG (PA f n) 4) (C : OEQ p x y u r (CVP lim g0 g1 g2 g3 g4 0 o)) (hr : r = 0) (G5 : g5 = NG (PA f n) 5) (G6 : g6 = NG (PA f n) 6) (G7 : g7 = NG (PA f n) 7) (G8 : g8 = NG (PA f n) 8) (C2 : OEQ p2 x2 y2 u2 r2 (CVP lim g5 0 g6 g7 g8 c (p, x, y, u))) (ea : y + g7 = a) (ec : o.2.2.1 - a = c) : OEQ p2 x2 y2 u2 r2 (HF1 lim (PA f n) o) := by
  have hy : y = o.2.2.1 + g1 + g3 := by
    obtain ⟨c1, c2, c3⟩ := C
    obtain ⟨d1, d2, d3⟩ := c3 hr
    rw [hr] at c1
    unfold CVP at c1 d2
    by_cases hl : (o.1.length : Int) < lim
    · rw [if_pos hl] at d2
      rw [d2]
      show o.2.2.1 + g1 + g3 + 0 = _
      exact Int64.add_zero _
    · rw [if_neg hl] at c1
      exact absurd (show (0 : Int) = 6 from c1) (by decide)
  refine hf1_2 G0 G1 G2 G3 G4 C hr G5 G6 G7 G8 rfl rfl ?_ C2
  rw [← ec, ← ea, hy]
  rw [Int64.add_assoc (o.2.2.1) g1 g3, Int64.add_assoc (o.2.2.1) (g1 + g3) g7, xss]
theorem sid_r {p : List Int64} {a : Int} {k : Nat} {s : Int64} (h : (a + 4 * (k : Int) = 1 ∧ s = NG p 0) ∨ (¬ (a + 4 * (k : Int) = 1) ∧ s = 0)) (ha : 0 ≤ a ∧ a ≤ 1) : SID p a k = s := by
  unfold SID
  rcases h with ⟨h1, h2⟩ | ⟨h1, h2⟩
  · rw [if_pos (by omega), h2]
  · rw [if_neg (by omega), h2]
theorem flr {p : List Int64} {sx sy ax ay : Int64} (hx : sx = SUM p 0 5) (hy : sy = SUM p 1 5) (ex : (Int64.toInt sx < 0 ∧ -sx = ax) ∨ (¬ (Int64.toInt sx < 0) ∧ ax = sx)) (ey : (Int64.toInt sy < 0 ∧ -sy = ay) ∨ (¬ (Int64.toInt sy < 0) ∧ ay = sy)) : ABL (SUM p 0 5) = ax ∧ ABL (SUM p 1 5) = ay := by
  rw [← hx, ← hy]
  unfold ABL
  refine ⟨?_, ?_⟩
  · rcases ex with ⟨h, e⟩ | ⟨h, e⟩
    · rw [if_pos h, e]
    · rw [if_neg h, e]
  · rcases ey with ⟨h, e⟩ | ⟨h, e⟩
    · rw [if_pos h, e]
    · rw [if_neg h, e]
theorem fla_1 {p : List Int64} {ax ay : Int64} (h : ABL (SUM p 0 5) = ax ∧ ABL (SUM p 1 5) = ay) (hl : Int64.toInt ay < Int64.toInt ax) : FLA p = true := by unfold FLA; rw [h.1, h.2]; exact decide_eq_true hl
theorem fla_0 {p : List Int64} {ax ay : Int64} (h : ABL (SUM p 0 5) = ax ∧ ABL (SUM p 1 5) = ay) (hl : ¬ (Int64.toInt ay < Int64.toInt ax)) : FLA p = false := by unfold FLA; rw [h.1, h.2]; exact decide_eq_false hl
theorem cv_xy {lim : Int} {o : OU} {p : PRT2} {x y a b c d e f : Int64} {u r : Int} (C : OEQ p x y u r (CVP lim a b c d e f o)) (hr : r = 0) : x = o.2.1 + a + c + e ∧ y = o.2.2.1 + b + d + f := by
  obtain ⟨c1, c2, c3⟩ := C
  obtain ⟨d1, d2, d3⟩ := c3 hr
  rw [hr] at c1
  unfold CVP at c1 d1 d2
  by_cases hl : (o.1.length : Int) < lim
  · rw [if_pos hl] at d1 d2
    exact ⟨d1, d2⟩
  · rw [if_neg hl] at c1
    exact absurd (show (0 : Int) = 6 from c1) (by decide)
theorem sum5 {p : List Int64} {a : Int} : SUM p a 5 = NG p a + NG p (a + 2) + NG p (a + 4) + NG p (a + 6) + NG p (a + 8) := by
  show 0 + NG p (a + 2 * (0 : Nat)) + NG p (a + 2 * (1 : Nat)) + NG p (a + 2 * (2 : Nat)) + NG p (a + 2 * (3 : Nat)) + NG p (a + 2 * (4 : Nat)) = _
  rw [Int64.zero_add]
  rw [show a + 2 * ((0 : Nat) : Int) = a by omega, show a + 2 * ((1 : Nat) : Int) = a + 2 by omega, show a + 2 * ((2 : Nat) : Int) = a + 4 by omega, show a + 2 * ((3 : Nat) : Int) = a + 6 by omega, show a + 2 * ((4 : Nat) : Int) = a + 8 by omega]
theorem bck {X x g0 g2 g4 g6 g8 a b c S : Int64} (hx : x = X + g0 + g2 + g4) (e1 : x + g6 = a) (e2 : a + g8 = b) (e3 : X - b = c) (hs : S = g0 + g2 + g4 + g6 + g8) : c = -S := by
  rw [← e3, ← e2, ← e1, hx, hs]
  rw [Int64.add_assoc X g0 g2, Int64.add_assoc X (g0 + g2) g4, Int64.add_assoc X (g0 + g2 + g4) g6, Int64.add_assoc X (g0 + g2 + g4 + g6) g8, xss]
theorem fxr_1 {lim : Int} {f : Nat → Int64} {n : Int} {o : OU} {p : PRT2} {x y : Int64} {u r : Int} {g0 g1 g2 g3 g4 g5 : Int64} (C : OEQ p x y u r (CVP lim g0 g1 g2 g3 g4 g5 o)) (hr : ¬ (r = 0)) (G0 : g0 = NG (PA f n) 0) (G1 : g1 = NG (PA f n) 1) (G2 : g2 = NG (PA f n) 2) (G3 : g3 = NG (PA f n) 3) (G4 : g4 = NG (PA f n) 4) (G5 : g5 = NG (PA f n) 5) : OEQ p x y u r (FX1 lim (PA f n) o) := by
  refine fx1_1 (k := 1) ?_ rfl hr
  show OEQ p x y u r (SQ (o, 0) (SIXF lim (PA f n) 0 0))
  subst G0 G1 G2 G3 G4 G5
  exact oeq_go oeq_0 rfl C
theorem fxr_2 {lim : Int} {f : Nat → Int64} {n : Int} {o : OU} {p p2 : PRT2} {x y x2 y2 : Int64} {u r u2 r2 : Int} {g0 g1 g2 g3 g4 g5 g6 g7 g8 g9 ga ax ay e2 f2 px py qx qy : Int64} (C : OEQ p x y u r (CVP lim g0 g1 g2 g3 g4 g5 o)) (C2 : OEQ p2 x2 y2 u2 r2 (CVP lim g6 g7 g8 g9 e2 f2 (p, x, y, u))) (hr : r = 0) (G0 : g0 = NG (PA f n) 0) (G1 : g1 = NG (PA f n) 1) (G2 : g2 = NG (PA f n) 2) (G3 : g3 = NG (PA f n) 3) (G4 : g4 = NG (PA f n) 4) (G5 : g5 = NG (PA f n) 5) (G6 : g6 = NG (PA f n) 6) (G7 : g7 = NG (PA f n) 7) (G8 : g8 = NG (PA f n) 8) (G9 : g9 = NG (PA f n) 9) (GA : ga = NG (PA f n) 10) (h : ABL (SUM (PA f n) 0 5) = ax ∧ ABL (SUM (PA f n) 1 5) = ay) (k1 : x + g6 = qx) (k2 : qx + g8 = px) (k3 : y + g7 = qy) (k4 : qy + g9 = py) (he : (Int64.toInt ay < Int64.toInt ax ∧ e2 = ga ∧ o.2.2.1 - py = f2) ∨ (¬ (Int64.toInt ay < Int64.toInt ax) ∧ o.2.1 - px = e2 ∧ f2 = ga)) : OEQ p2 x2 y2 u2 r2 (FX1 lim (PA f n) o) := by
  obtain ⟨hx, hy⟩ := cv_xy C hr
  have s0 : SUM (PA f n) 0 5 = g0 + g2 + g4 + g6 + g8 := by rw [sum5, G0, G2, G4, G6, G8]; rfl
  have s1 : SUM (PA f n) 1 5 = g1 + g3 + g5 + g7 + g9 := by rw [sum5, G1, G3, G5, G7, G9]; rfl
  refine fx1_2 (k := 1) (p := p) (x := x) (y := y) (u := u) (r := r) ?_ rfl hr G6 G7 G8 G9 ?_ C2
  · show OEQ p x y u r (SQ (o, 0) (SIXF lim (PA f n) 0 0))
    subst G0 G1 G2 G3 G4 G5
    exact oeq_go oeq_0 rfl C
  · rcases he with ⟨h1, h2, h3⟩ | ⟨h1, h2, h3⟩
    · exact Or.inl ⟨fla_1 h h1, h2.trans GA, bck hy k3 k4 h3 s1⟩
    · exact Or.inr ⟨fla_0 h h1, bck hx k1 k2 h2 s0, h3.trans GA⟩
theorem tlv_c {lim a b : Int} {pl : List Int64} {o : OU} {p : PRT2} {x y : Int64} {u r : Int} (C : OEQ p x y u r (TLV lim pl a o)) (e : a = b) : OEQ p x y u r (TLV lim pl b o) := e ▸ C
theorem tcv_c {lim a b : Int} {pl : List Int64} {o : OU} {p : PRT2} {x y : Int64} {u r : Int} (C : OEQ p x y u r (TCV lim pl a o)) (e : a = b) : OEQ p x y u r (TCV lim pl b o) := e ▸ C
theorem scv_c {lim a b : Int} {pl : List Int64} {o : OU} {p : PRT2} {x y : Int64} {u r : Int} (C : OEQ p x y u r (SCV lim pl a o)) (e : a = b) : OEQ p x y u r (SCV lim pl b o) := e ▸ C
theorem sum_r {p : List Int64} {a i : Int} {k k2 : Nat} {s g s2 : Int64} (h : s = SUM p a k) (e : s + g = s2) (G : g = NG p i) (hi : i = a + 2 * k) (hk : k2 = k + 1) : s2 = SUM p a k2 := sum_s h G hi e hk
