/-! a run: the PILE as a list, the outline as a list of PARTS (p8 to p11) -/
def PA (f : Nat → Int64) (n : Int) : List Int64 := (List.range n.toNat).map f
theorem pa_len {f : Nat → Int64} {n : Int} : (PA f n).length = n.toNat := by unfold PA; rw [List.length_map, List.length_range]
theorem pa_at {f : Nat → Int64} {n : Int} {i : Nat} (h : i < n.toNat) : (PA f n)[i]? = some (f i) := by
  unfold PA
  rw [List.getElem?_map, List.getElem?_range h]
  rfl
theorem pa_ext {f g : Nat → Int64} {n m : Int} (hn : n.toNat = m.toNat) (h : ∀ i : Nat, i < n.toNat → f i = g i) : PA f n = PA g m := by
  unfold PA
  rw [← hn]
  exact List.map_congr_left (fun i hi => h i (List.mem_range.mp hi))
theorem pa_0 {f : Nat → Int64} {n : Int} (h : n.toNat = 0) : PA f n = [] := by unfold PA; rw [h]; rfl
theorem updL_eq (f : Nat → Int64) (k j : Nat) (x : Int64) : vp_updL f k x j = if j = k then x else f j := rfl
theorem pa_push {f f1 : Nat → Int64} {n m : Int} {x : Int32} {v : Int64} (e : vp_updL f (Int32.toNatClampNeg x) v = f1) (hx : Int32.toInt x = n) (h0 : 0 ≤ n) (hm : m = n + 1) : PA f1 m = PA f n ++ [v] := by
  have hc : Int32.toNatClampNeg x = n.toNat := by show (Int32.toInt x).toNat = _; rw [hx]
  rw [hc] at e
  unfold PA
  rw [show m.toNat = n.toNat + 1 by omega, List.range_succ, List.map_append]
  congr 1
  · refine List.map_congr_left (fun i hi => ?_)
    have := List.mem_range.mp hi
    rw [← e, updL_eq, if_neg (by omega)]
  · show [f1 n.toNat] = [v]
    rw [← e, updL_eq, if_pos rfl]
theorem pa_take {f : Nat → Int64} {n m : Int} (h : m ≤ n) (h0 : 0 ≤ m) : PA f m = (PA f n).take m.toNat := by
  unfold PA
  rw [← List.map_take, List.take_range, show min m.toNat n.toNat = m.toNat by omega]
/-- the i-th NUMBER, 0 without -/
def NG (p : List Int64) (i : Int) : Int64 := if 0 ≤ i ∧ i < p.length then p.getD i.toNat 0 else 0
theorem ng_pa {f : Nat → Int64} {n i : Int} {x : Int32} {z : Int64} (e : f (Int32.toNatClampNeg x) = z) (hx : Int32.toInt x = i) (h0 : 0 ≤ i) (h1 : i < n) : NG (PA f n) i = z := by
  have hc : Int32.toNatClampNeg x = i.toNat := by show (Int32.toInt x).toNat = _; rw [hx]
  rw [hc] at e
  unfold NG
  rw [if_pos ⟨h0, by rw [pa_len]; omega⟩, List.getD_eq_getElem?_getD, pa_at (by omega)]
  exact e
theorem ng_out {p : List Int64} {i : Int} (h : i < 0 ∨ (p.length : Int) ≤ i) : NG p i = 0 := if_neg (by omega)
abbrev PRT2 := List (Int × List Int64)
/-- the outline: PARTS, the POINT, whether a line or curve came since the last MOVE -/
abbrev OU := PRT2 × Int64 × Int64 × Int
def PTS (kd : Nat → Int32) (nb : Nat → Int64) (n : Int) : PRT2 := (List.range n.toNat).map fun i => (Int32.toInt (kd i), if Int32.toInt (kd i) = 3 then [] else if Int32.toInt (kd i) = 2 then [nb (6 * i), nb (6 * i + 1), nb (6 * i + 2), nb (6 * i + 3), nb (6 * i + 4), nb (6 * i + 5)] else [nb (6 * i), nb (6 * i + 1)])
theorem pts_len {kd : Nat → Int32} {nb : Nat → Int64} {n : Int} : (PTS kd nb n).length = n.toNat := by unfold PTS; rw [List.length_map, List.length_range]
theorem pts_0 {kd : Nat → Int32} {nb : Nat → Int64} {n : Int} (h : n = 0) : PTS kd nb n = [] := by subst h; rfl
theorem pts_ext {kd kd1 : Nat → Int32} {nb nb1 : Nat → Int64} {n : Int} (hk : ∀ i : Nat, i < n.toNat → kd1 i = kd i) (hn : ∀ i : Nat, i < 6 * n.toNat → nb1 i = nb i) : PTS kd1 nb1 n = PTS kd nb n := by
  unfold PTS
  refine List.map_congr_left (fun i hi => ?_)
  have := List.mem_range.mp hi
  rw [hk i this, hn (6 * i) (by omega), hn (6 * i + 1) (by omega), hn (6 * i + 2) (by omega), hn (6 * i + 3) (by omega), hn (6 * i + 4) (by omega), hn (6 * i + 5) (by omega)]
theorem pts_add {kd kd1 : Nat → Int32} {nb nb1 : Nat → Int64} {n m k : Int} {q : List Int64} (h0 : 0 ≤ n) (hm : m = n + 1) (hk : ∀ i : Nat, i < n.toNat → kd1 i = kd i) (hn : ∀ i : Nat, i < 6 * n.toNat → nb1 i = nb i) (hk1 : Int32.toInt (kd1 n.toNat) = k) (hq : q = if k = 3 then [] else if k = 2 then [nb1 (6 * n.toNat), nb1 (6 * n.toNat + 1), nb1 (6 * n.toNat + 2), nb1 (6 * n.toNat + 3), nb1 (6 * n.toNat + 4), nb1 (6 * n.toNat + 5)] else [nb1 (6 * n.toNat), nb1 (6 * n.toNat + 1)]) : PTS kd1 nb1 m = PTS kd nb n ++ [(k, q)] := by
  rw [← pts_ext hk hn, hq, ← hk1]
  unfold PTS
  rw [show m.toNat = n.toNat + 1 by omega, List.range_succ, List.map_append]
  rfl
/-! what draws -/
def SQ (r : OU × Int) (k : OU → OU × Int) : OU × Int := if r.2 = 0 then k r.1 else r
def ADP (lim : Int) (p : PRT2) : Bool := decide ((p.length : Int) < lim)
def MVP (lim : Int) (dx dy : Int64) (o : OU) : OU × Int := if (o.1.length : Int) < lim then ((o.1 ++ [(0, [o.2.1 + dx, o.2.2.1 + dy])], o.2.1 + dx, o.2.2.1 + dy, 0), 0) else (o, 6)
def LNP (lim : Int) (dx dy : Int64) (o : OU) : OU × Int := if (o.1.length : Int) < lim then ((o.1 ++ [(1, [o.2.1 + dx, o.2.2.1 + dy])], o.2.1 + dx, o.2.2.1 + dy, 1), 0) else (o, 6)
def CVP (lim : Int) (a b c d e f : Int64) (o : OU) : OU × Int := if (o.1.length : Int) < lim then ((o.1 ++ [(2, [o.2.1 + a, o.2.2.1 + b, o.2.1 + a + c, o.2.2.1 + b + d, o.2.1 + a + c + e, o.2.2.1 + b + d + f])], o.2.1 + a + c + e, o.2.2.1 + b + d + f, 1), 0) else (o, 6)
def CLP (lim : Int) (o : OU) : OU × Int := if (o.1.length : Int) < lim then ((o.1 ++ [(3, [])], o.2), 0) else (o, 6)
def CLO (lim : Int) (o : OU) : OU × Int := if o.2.2.2 = 1 then CLP lim o else (o, 0)
/-- an outline and a fault, as told; behind a fault the PARTS alone count -/
def OEQ (p : PRT2) (x y : Int64) (o r : Int) (q : OU × Int) : Prop := r = q.2 ∧ p = q.1.1 ∧ (r = 0 → x = q.1.2.1 ∧ y = q.1.2.2.1 ∧ o = q.1.2.2.2)
theorem oeq_0 {p : PRT2} {x y : Int64} {o : Int} : OEQ p x y o 0 ((p, x, y, o), 0) := ⟨rfl, rfl, fun _ => ⟨rfl, rfl, rfl⟩⟩
theorem oeq_go {p p2 : PRT2} {x y x2 y2 : Int64} {o r o2 r2 : Int} {q : OU × Int} {k : OU → OU × Int} (h : OEQ p x y o r q) (hr : r = 0) (h2 : OEQ p2 x2 y2 o2 r2 (k (p, x, y, o))) : OEQ p2 x2 y2 o2 r2 (SQ q k) := by
  obtain ⟨h1, h3, h4⟩ := h
  obtain ⟨e1, e2, e3⟩ := h4 hr
  have e : q.1 = (p, x, y, o) := by
    rw [h3, e1, e2, e3]
  unfold SQ
  rw [if_pos (by omega), e]
  exact h2
theorem oeq_stop {p : PRT2} {x y : Int64} {o r : Int} {q : OU × Int} {k : OU → OU × Int} (h : OEQ p x y o r q) (hr : ¬ (r = 0)) : OEQ p x y o r (SQ q k) := by
  unfold SQ
  rw [if_neg (by have := h.1; omega)]
  exact h
theorem oeq_r {p : PRT2} {x y : Int64} {o r r2 : Int} {q : OU × Int} (h : OEQ p x y o r q) (e : r2 = r) : OEQ p x y o r2 q := e ▸ h
/-- so many of them in a row -/
def ITP (s : Nat → OU → OU × Int) : Nat → OU → OU × Int
  | 0, o => (o, 0)
  | k + 1, o => SQ (ITP s k o) (s k)
theorem itp_stop {s : Nat → OU → OU × Int} {o : OU} {p : PRT2} {x y : Int64} {u r : Int} {k : Nat} (h : OEQ p x y u r (ITP s k o)) (hr : ¬ (r = 0)) : ∀ m : Nat, OEQ p x y u r (ITP s (k + m) o) := by
  intro m
  induction m with
  | zero => exact h
  | succ m ih => exact oeq_stop ih hr
theorem itp_at {s : Nat → OU → OU × Int} {o : OU} {p : PRT2} {x y : Int64} {u r : Int} {k m : Nat} (h : OEQ p x y u r (ITP s k o)) (hk : (r = 0 ∧ k = m) ∨ (¬ (r = 0) ∧ k ≤ m)) : OEQ p x y u r (ITP s m o) := by
  rcases hk with ⟨_, h2⟩ | ⟨h1, h2⟩
  · rw [← h2]; exact h
  · have := itp_stop h h1 (m - k)
    rw [show k + (m - k) = m by omega] at this
    exact this
theorem itp_s {s : Nat → OU → OU × Int} {o : OU} {p p2 : PRT2} {x y x2 y2 : Int64} {u r u2 r2 : Int} {k k2 : Nat} (h : OEQ p x y u r (ITP s k o)) (hr : r = 0) (h2 : OEQ p2 x2 y2 u2 r2 (s k (p, x, y, u))) (e : k2 = k + 1) : OEQ p2 x2 y2 u2 r2 (ITP s k2 o) := by
  subst e
  exact oeq_go h hr h2
/-! a PART added, as arrays -/
theorem byte_k {k : Int} {x w : Int32} (h : Int32.toInt x = k) (h0 : 0 ≤ k) (h3 : k ≤ 3) (e : (Int32.toInt8 x).toInt32 = w) : Int32.toInt (vp_nar .byte w) = k := by
  have h1 : (Int32.toInt8 x).toInt32 = x := fb_byte (by omega) (by omega)
  rw [← e, h1, vp_nar_byte, h1]
  exact h
def ADA (kd : Nat → Int32) (nb : Nat → Int64) (n : Int) (x y : Int64) (k : Int) (kd1 : Nat → Int32) (nb1 : Nat → Int64) : Prop := (∀ i : Nat, i < n.toNat → kd1 i = kd i) ∧ (∀ i : Nat, i < 6 * n.toNat → nb1 i = nb i) ∧ Int32.toInt (kd1 n.toNat) = k ∧ nb1 (6 * n.toNat) = x ∧ nb1 (6 * n.toNat + 1) = y
theorem ada_pf {kd kd1 : Nat → Int32} {nb nb1 nb2 : Nat → Int64} {n k : Int} {x y : Int64} {i a b kk w : Int32} (e1 : (Int32.toInt8 kk).toInt32 = w) (e2 : upd kd (Int32.toNatClampNeg i) (vp_nar .byte w) = kd1) (e3 : vp_updL nb (Int32.toNatClampNeg a) x = nb1) (e4 : vp_updL nb1 (Int32.toNatClampNeg b) y = nb2) (hi : Int32.toInt i = n) (ha : Int32.toInt a = n * 6) (hb : Int32.toInt b = n * 6 + 1) (h0 : 0 ≤ n) (hk : Int32.toInt kk = k) (hk0 : 0 ≤ k) (hk3 : k ≤ 3) : ADA kd nb n x y k kd1 nb2 := by
  have c1 : Int32.toNatClampNeg i = n.toNat := by show (Int32.toInt i).toNat = _; rw [hi]
  have c2 : Int32.toNatClampNeg a = 6 * n.toNat := by show (Int32.toInt a).toNat = _; omega
  have c3 : Int32.toNatClampNeg b = 6 * n.toNat + 1 := by show (Int32.toInt b).toNat = _; omega
  rw [c1] at e2
  rw [c2] at e3
  rw [c3] at e4
  refine ⟨fun j hj => ?_, fun j hj => ?_, ?_, ?_, ?_⟩
  · rw [← e2, upd_eq, if_neg (by omega)]
  · rw [← e4, updL_eq, if_neg (by omega), ← e3, updL_eq, if_neg (by omega)]
  · rw [← e2, upd_eq, if_pos rfl]
    exact byte_k hk hk0 hk3 e1
  · rw [← e4, updL_eq, if_neg (by omega), ← e3, updL_eq, if_pos rfl]
  · rw [← e4, updL_eq, if_pos rfl]
theorem mvp_ok {kd kd1 : Nat → Int32} {nb nb1 : Nat → Int64} {n n1 lim op r o1 : Int} {x y dx dy z w : Int64} (h : CND (r = 0) (ADA kd nb n z w 0 kd1 nb1)) (hr : r = 0) (e1 : x + dx = z) (e2 : y + dy = w) (h0 : 0 ≤ n) (hn : n < lim) (hm : n1 = n + 1) (ho : o1 = 0) : OEQ (PTS kd1 nb1 n1) z w o1 r (MVP lim dx dy (PTS kd nb n, x, y, op)) := by
  obtain ⟨a1, a2, a3, a4, a5⟩ := h hr
  unfold MVP
  rw [if_pos (by show ((PTS kd nb n).length : Int) < lim; rw [pts_len]; omega)]
  subst hr ho e1 e2
  refine ⟨rfl, ?_, fun _ => ⟨rfl, rfl, rfl⟩⟩
  exact pts_add h0 hm a1 a2 a3 (by rw [if_neg (by decide), if_neg (by decide), a4, a5])
theorem lnp_ok {kd kd1 : Nat → Int32} {nb nb1 : Nat → Int64} {n n1 lim op r o1 : Int} {x y dx dy z w : Int64} (h : CND (r = 0) (ADA kd nb n z w 1 kd1 nb1)) (hr : r = 0) (e1 : x + dx = z) (e2 : y + dy = w) (h0 : 0 ≤ n) (hn : n < lim) (hm : n1 = n + 1) (ho : o1 = 1) : OEQ (PTS kd1 nb1 n1) z w o1 r (LNP lim dx dy (PTS kd nb n, x, y, op)) := by
  obtain ⟨a1, a2, a3, a4, a5⟩ := h hr
  unfold LNP
  rw [if_pos (by show ((PTS kd nb n).length : Int) < lim; rw [pts_len]; omega)]
  subst hr ho e1 e2
  refine ⟨rfl, ?_, fun _ => ⟨rfl, rfl, rfl⟩⟩
  exact pts_add h0 hm a1 a2 a3 (by rw [if_neg (by decide), if_neg (by decide), a4, a5])
theorem clp_ok {kd kd1 : Nat → Int32} {nb nb1 : Nat → Int64} {n n1 lim op r : Int} {x y : Int64} (h : CND (r = 0) (ADA kd nb n x y 3 kd1 nb1)) (hr : r = 0) (h0 : 0 ≤ n) (hn : n < lim) (hm : n1 = n + 1) : OEQ (PTS kd1 nb1 n1) x y op r (CLP lim (PTS kd nb n, x, y, op)) := by
  obtain ⟨a1, a2, a3, a4, a5⟩ := h hr
  unfold CLP
  rw [if_pos (by show ((PTS kd nb n).length : Int) < lim; rw [pts_len]; omega)]
  subst hr
  exact ⟨rfl, pts_add h0 hm a1 a2 a3 (by rw [if_pos rfl]), fun _ => ⟨rfl, rfl, rfl⟩⟩
theorem add_no {kd kd1 : Nat → Int32} {nb nb1 : Nat → Int64} {n n1 : Int} (hk : kd1 = kd) (hn : nb1 = nb) (hm : n1 = n) : PTS kd1 nb1 n1 = PTS kd nb n := by subst hk hn hm; rfl
theorem mvp_no {p p1 : PRT2} {lim op r o1 : Int} {x y dx dy z w : Int64} (e : p1 = p) (h : lim ≤ (p.length : Int)) (hr : r = 6) : OEQ p1 z w o1 r (MVP lim dx dy (p, x, y, op)) := by
  unfold MVP
  rw [if_neg (by show ¬ ((p.length : Int) < lim); omega)]
  exact ⟨hr, e, fun h9 => by omega⟩
theorem lnp_no {p p1 : PRT2} {lim op r o1 : Int} {x y dx dy z w : Int64} (e : p1 = p) (h : lim ≤ (p.length : Int)) (hr : r = 6) : OEQ p1 z w o1 r (LNP lim dx dy (p, x, y, op)) := by
  unfold LNP
  rw [if_neg (by show ¬ ((p.length : Int) < lim); omega)]
  exact ⟨hr, e, fun h9 => by omega⟩
theorem cvp_no {p p1 : PRT2} {lim op r o1 : Int} {x y a b c d e f z w : Int64} (e9 : p1 = p) (h : lim ≤ (p.length : Int)) (hr : r = 6) : OEQ p1 z w o1 r (CVP lim a b c d e f (p, x, y, op)) := by
  unfold CVP
  rw [if_neg (by show ¬ ((p.length : Int) < lim); omega)]
  exact ⟨hr, e9, fun h9 => by omega⟩
theorem clp_no {p p1 : PRT2} {lim op r o1 : Int} {x y z w : Int64} (e : p1 = p) (h : lim ≤ (p.length : Int)) (hr : r = 6) : OEQ p1 z w o1 r (CLP lim (p, x, y, op)) := by
  unfold CLP
  rw [if_neg (by show ¬ ((p.length : Int) < lim); omega)]
  exact ⟨hr, e, fun h9 => by omega⟩
theorem ptl {kd : Nat → Int32} {nb : Nat → Int64} {n lim : Int} (h : lim ≤ n) (h0 : 0 ≤ n) : lim ≤ ((PTS kd nb n).length : Int) := by rw [pts_len]; omega
theorem cvp_ok {kd kd1 : Nat → Int32} {nb nb1 g2 g3 g4 g5 : Nat → Int64} {n n1 lim op r o1 r9 : Int} {x y a b c d e f x1 y1 x2 y2 ce df x3 y3 : Int64} {i2 i3 i4 i5 : Int32} (h : CND (r9 = 0) (ADA kd nb n x1 y1 2 kd1 nb1)) (hr9 : r9 = 0) (hr : r = 0) (e1 : x + a = x1) (e2 : y + b = y1) (e3 : x1 + c = x2) (s2 : vp_updL nb1 (Int32.toNatClampNeg i2) x2 = g2) (e4 : y1 + d = y2) (s3 : vp_updL g2 (Int32.toNatClampNeg i3) y2 = g3) (e5 : c + e = ce) (e6 : x1 + ce = x3) (e7 : d + f = df) (e8 : y1 + df = y3) (s4 : vp_updL g3 (Int32.toNatClampNeg i4) x3 = g4) (s5 : vp_updL g4 (Int32.toNatClampNeg i5) y3 = g5) (hi2 : Int32.toInt i2 = n * 6 + 2) (hi3 : Int32.toInt i3 = n * 6 + 3) (hi4 : Int32.toInt i4 = n * 6 + 4) (hi5 : Int32.toInt i5 = n * 6 + 5) (h0 : 0 ≤ n) (hn : n < lim) (hm : n1 = n + 1) (ho : o1 = 1) : OEQ (PTS kd1 g5 n1) x3 y3 o1 r (CVP lim a b c d e f (PTS kd nb n, x, y, op)) := by
  obtain ⟨a1, a2, a3, a4, a5⟩ := h hr9
  have c2 : Int32.toNatClampNeg i2 = 6 * n.toNat + 2 := by show (Int32.toInt i2).toNat = _; omega
  have c3 : Int32.toNatClampNeg i3 = 6 * n.toNat + 3 := by show (Int32.toInt i3).toNat = _; omega
  have c4 : Int32.toNatClampNeg i4 = 6 * n.toNat + 4 := by show (Int32.toInt i4).toNat = _; omega
  have c5 : Int32.toNatClampNeg i5 = 6 * n.toNat + 5 := by show (Int32.toInt i5).toNat = _; omega
  rw [c2] at s2
  rw [c3] at s3
  rw [c4] at s4
  rw [c5] at s5
  have ux : x3 = x + a + c + e := by rw [← e6, ← e5, ← e1, Int64.add_assoc, Int64.add_assoc, Int64.add_assoc]
  have uy : y3 = y + b + d + f := by rw [← e8, ← e7, ← e2, Int64.add_assoc, Int64.add_assoc, Int64.add_assoc]
  have g : ∀ j : Nat, g5 j = if j = 6 * n.toNat + 5 then y3 else if j = 6 * n.toNat + 4 then x3 else if j = 6 * n.toNat + 3 then y2 else if j = 6 * n.toNat + 2 then x2 else nb1 j := fun j => by rw [← s5, updL_eq, ← s4, updL_eq, ← s3, updL_eq, ← s2, updL_eq]
  unfold CVP
  rw [if_pos (by show ((PTS kd nb n).length : Int) < lim; rw [pts_len]; omega)]
  refine ⟨hr, ?_, fun _ => ⟨ux, uy, ho⟩⟩
  refine pts_add h0 hm a1 (fun j hj => ?_) a3 ?_
  · rw [g j, if_neg (by omega), if_neg (by omega), if_neg (by omega), if_neg (by omega)]
    exact a2 j hj
  · rw [if_neg (by decide), if_pos rfl]
    rw [g (6 * n.toNat), if_neg (by omega), if_neg (by omega), if_neg (by omega), if_neg (by omega), g (6 * n.toNat + 1), if_neg (by omega), if_neg (by omega), if_neg (by omega), if_neg (by omega), g (6 * n.toNat + 2), if_neg (by omega), if_neg (by omega), if_neg (by omega), if_pos rfl, g (6 * n.toNat + 3), if_neg (by omega), if_neg (by omega), if_pos rfl, g (6 * n.toNat + 4), if_neg (by omega), if_pos rfl, g (6 * n.toNat + 5), if_pos rfl, a4, a5, ← e3, ← e4, ux, uy, ← e1, ← e2]
theorem clo_y {p p1 : PRT2} {lim op r o1 : Int} {x y x1 y1 : Int64} (h : OEQ p1 x1 y1 o1 r (CLP lim (p, x, y, op))) (ho : op = 1) : OEQ p1 x1 y1 o1 r (CLO lim (p, x, y, op)) := by
  unfold CLO
  rw [if_pos (show op = 1 from ho)]
  exact h
theorem clo_n {p : PRT2} {lim op r : Int} {x y : Int64} (ho : ¬ (op = 1)) (hr : r = 0) : OEQ p x y op r (CLO lim (p, x, y, op)) := by
  unfold CLO
  rw [if_neg (show ¬ (op = 1) from ho)]
  subst hr
  exact oeq_0
/-! the PILE's own work -/
def PSH (m : Int) (p : List Int64) (v : Int64) : List Int64 × Int := if (p.length : Int) < m then (p ++ [v], 0) else (p, 3)
def DRP (p : List Int64) (k : Int) : List Int64 := p.take (p.length - k.toNat)
def BEL (p : List Int64) (d : Int) : Int64 := NG p (p.length - 1 - d)
/-- a PILE and a fault, as told; behind a fault the PILE counts nothing -/
def PEQ (p : List Int64) (r : Int) (q : List Int64 × Int) : Prop := r = q.2 ∧ (r = 0 → p = q.1)
theorem psh_ok {f f1 : Nat → Int64} {n n1 m r : Int} {x : Int32} {v : Int64} (e : vp_updL f (Int32.toNatClampNeg x) v = f1) (hx : Int32.toInt x = n) (h0 : 0 ≤ n) (hn : n1 = n + 1) (hm : n < m) (hr : r = 0) : PEQ (PA f1 n1) r (PSH m (PA f n) v) := by
  unfold PSH
  rw [if_pos (by rw [pa_len]; omega)]
  exact ⟨hr, fun _ => pa_push e hx h0 hn⟩
theorem psh_no {f f1 : Nat → Int64} {n n1 m r : Int} {v : Int64} (h0 : 0 ≤ n) (hm : m ≤ n) (hr : r = 3) : PEQ (PA f1 n1) r (PSH m (PA f n) v) := by
  unfold PSH
  rw [if_neg (by rw [pa_len]; omega)]
  exact ⟨hr, fun h9 => by omega⟩
theorem drp_pa {f : Nat → Int64} {n n1 k : Int} (h0 : 0 ≤ n) (h : (k ≤ 0 ∧ n1 = n) ∨ (0 < k ∧ k < n ∧ n1 = n - k) ∨ (0 < k ∧ n ≤ k ∧ n1 = 0)) : PA f n1 = DRP (PA f n) k := by
  unfold DRP
  rw [pa_len, pa_take (n := n) (m := n1) (by omega) (by omega)]
  congr 1
  omega
theorem bel_pa {f : Nat → Int64} {n d y : Int} {z : Int64} (h : z = NG (PA f n) y) (h0 : 0 ≤ n) (e : y = n - 1 - d) : z = BEL (PA f n) d := by
  unfold BEL
  rw [h, e, pa_len, show ((n.toNat : Nat) : Int) = n by omega]
theorem peq_e {p p2 : List Int64} {m r : Int} {v : Int64} {q : List Int64} (h : PEQ p r (PSH m p2 v)) (e : p2 = q) : PEQ p r (PSH m q v) := e ▸ h
def DVD (m : Int) (p : List Int64) : List Int64 × Int := if (p.length : Int) < 2 then (p, 2) else if BEL p 0 = 0 then (p, 9) else PSH m (DRP p 2) (BEL p 1 * 65536 / BEL p 0)
theorem dvd_2 {f f1 : Nat → Int64} {n n1 m r : Int} (h0 : 0 ≤ n) (h : n < 2) (hr : r = 2) : PEQ (PA f1 n1) r (DVD m (PA f n)) := by
  unfold DVD
  rw [if_pos (by rw [pa_len]; omega)]
  exact ⟨hr, fun h9 => by omega⟩
theorem dvd_9 {f f1 : Nat → Int64} {n n1 m r : Int} {z : Int64} (h0 : 0 ≤ n) (h : 2 ≤ n) (e : z = BEL (PA f n) 0) (hz : Int64.toInt z = 0) (hr : r = 9) : PEQ (PA f1 n1) r (DVD m (PA f n)) := by
  unfold DVD
  rw [if_neg (by rw [pa_len]; omega), if_pos (by rw [← e]; exact Int64.toInt_inj.mp hz)]
  exact ⟨hr, fun h9 => by omega⟩
theorem dvd_ok {f f1 : Nat → Int64} {n n1 m r : Int} {z u a b : Int64} (h0 : 0 ≤ n) (h : 2 ≤ n) (e : z = BEL (PA f n) 0) (hz : ¬ (Int64.toInt z = 0)) (eu : u = BEL (PA f n) 1) (ea : u * 65536 = a) (eb : a / z = b) (P : PEQ (PA f1 n1) r (PSH m (DRP (PA f n) 2) b)) : PEQ (PA f1 n1) r (DVD m (PA f n)) := by
  unfold DVD
  rw [if_neg (by rw [pa_len]; omega), if_neg (by rw [← e]; exact fun h9 => hz (by rw [h9]; rfl)), ← e, ← eu, ea, eb]
  exact P
theorem ng_o {f : Nat → Int64} {n i : Int} (h : i < 0 ∨ n ≤ i) (h0 : 0 ≤ n) : NG (PA f n) i = 0 := ng_out (by rw [pa_len]; omega)
theorem l0 {z : Int64} (h : Int64.toInt z = 0) : z = 0 := Int64.toInt_inj.mp h
theorem whb_pf {p : List Int64} {d : Int} {z w : Int64} (h : z = BEL p d) (e : z >>> (Int32.toInt64 16 &&& 63) = w) : w = BEL p d >>> 16 := by
  rw [← e, h]
  rfl
def nofL : Nat → Int64 := fun _ => 0
/-! arithmetic -/
def TRU (c : Prop) [Decidable c] : Int64 := if c then 65536 else 0
def LOWL (v : Int64) : Int64 := Int32.toInt64 (Int64.toInt32 v)
def ABL (v : Int64) : Int64 := if Int64.toInt v < 0 then -v else v
/-- CharstringPress's root: so many bits tried from the 23rd downwards -/
def RTC (v : Int64) : Nat → Int64
  | 0 => 0
  | k + 1 => if Int64.toInt ((RTC v k ||| (1 : Int64) <<< (Int32.toInt64 (Int32.ofInt (23 - k)) &&& 63)) * (RTC v k ||| (1 : Int64) <<< (Int32.toInt64 (Int32.ofInt (23 - k)) &&& 63))) ≤ Int64.toInt v then RTC v k ||| (1 : Int64) <<< (Int32.toInt64 (Int32.ofInt (23 - k)) &&& 63) else RTC v k
def RTL (v : Int64) (r : Int64) (b : Int) : Prop := r = RTC v (23 - b).toNat
theorem rtl_0 {v : Int64} : RTL v 0 23 := rfl
theorem rtl_step {v r t m r2 s : Int64} {b : Int32} {b2 : Int} (h : RTL v r (Int32.toInt b)) (h0 : 0 ≤ Int32.toInt b) (h1 : Int32.toInt b ≤ 23) (e1 : (1 : Int64) <<< (Int32.toInt64 b &&& 63) = s) (e2 : r ||| s = t) (e3 : t * t = m) (hb : b2 = Int32.toInt b - 1) (hr : (Int64.toInt m ≤ Int64.toInt v ∧ r2 = t) ∨ (¬ (Int64.toInt m ≤ Int64.toInt v) ∧ r2 = r)) : RTL v r2 b2 := by
  unfold RTL at h ⊢
  have eb : Int32.ofInt (23 - ((23 - Int32.toInt b).toNat : Int)) = b := by
    rw [show (23 - ((23 - Int32.toInt b).toNat : Int)) = Int32.toInt b by omega]
    exact fb_asI b
  rw [show (23 - b2).toNat = (23 - Int32.toInt b).toNat + 1 by omega]
  show r2 = if Int64.toInt ((RTC v _ ||| (1 : Int64) <<< (Int32.toInt64 (Int32.ofInt (23 - ((23 - Int32.toInt b).toNat : Int))) &&& 63)) * (RTC v _ ||| (1 : Int64) <<< (Int32.toInt64 (Int32.ofInt (23 - ((23 - Int32.toInt b).toNat : Int))) &&& 63))) ≤ Int64.toInt v then RTC v _ ||| (1 : Int64) <<< (Int32.toInt64 (Int32.ofInt (23 - ((23 - Int32.toInt b).toNat : Int))) &&& 63) else RTC v _
  rw [eb, ← h, e1, e2, e3]
  rcases hr with ⟨h2, h3⟩ | ⟨h2, h3⟩
  · rw [if_pos h2, h3]
  · rw [if_neg h2, h3]
theorem rtl_end {v r : Int64} {b : Int} (h : RTL v r b) (hb : b = -1) : r = RTC v 24 := by subst hb; exact h
/-- a PILE, the places and a fault -/
abbrev PQ := (List Int64 × (Nat → Int64)) × Int
def LFT (q : Nat → Int64) (r : List Int64 × Int) : PQ := ((r.1, q), r.2)
def WHL (p : List Int64) (d : Int) : Int := Int64.toInt (BEL p d >>> 16)
def REQ (p : List Int64) (q : Nat → Int64) (r : Int) (R : PQ) : Prop := r = R.2 ∧ (r = 0 → p = R.1.1 ∧ ∀ j : Nat, j < 32 → q j = R.1.2 j)
def RK1 (m op : Int) (p : List Int64) (q : Nat → Int64) : PQ :=
  if op = 5 then LFT q (PSH m (DRP p 1) (TRU (BEL p 0 = 0)))
  else if op = 9 then LFT q (PSH m (DRP p 1) (LOWL (ABL (BEL p 0))))
  else if op = 14 then LFT q (PSH m (DRP p 1) (LOWL (-(BEL p 0))))
  else if op = 18 then ((DRP p 1, q), 0)
  else if op = 21 then (if WHL p 0 < 0 ∨ 32 ≤ WHL p 0 then ((p, q), 9) else LFT q (PSH m (DRP p 1) (q (WHL p 0).toNat)))
  else if op = 26 then (if Int64.toInt (BEL p 0) < 0 then ((p, q), 9) else LFT q (PSH m (DRP p 1) (RTC (BEL p 0 * 65536) 24)))
  else if op = 27 then LFT q (PSH m p (BEL p 0))
  else (if (p.length : Int) - 1 ≤ WHL p 0 ∨ (p.length : Int) ≤ 1 then ((p, q), 9) else LFT q (PSH m (DRP p 1) (BEL p (if WHL p 0 < 0 then 1 else WHL p 0 + 1))))
theorem req_l {p p2 : List Int64} {q : Nat → Int64} {m r : Int} {v : Int64} (h : PEQ p r (PSH m p2 v)) : REQ p q r (LFT q (PSH m p2 v)) := ⟨h.1, fun h0 => ⟨h.2 h0, fun _ _ => rfl⟩⟩
theorem req_f {p p2 : List Int64} {q q2 : Nat → Int64} {r k : Int} (hr : r = k) (hk : ¬ (k = 0)) : REQ p q r ((p2, q2), k) := ⟨hr, fun h => absurd (hr.symm.trans h) hk⟩
theorem rk_5 {m op r : Int} {p p2 : List Int64} {q : Nat → Int64} {t v : Int64} (ho : op = 5) (ht : t = BEL p 0) (hv : (t = 0 ∧ v = 65536) ∨ (¬ (t = 0) ∧ v = 0)) (h : PEQ p2 r (PSH m (DRP p 1) v)) : REQ p2 q r (RK1 m op p q) := by
  unfold RK1
  rw [if_pos ho]
  have e : TRU (BEL p 0 = 0) = v := by
    unfold TRU
    rw [← ht]
    rcases hv with ⟨h1, h2⟩ | ⟨h1, h2⟩
    · rw [if_pos h1, h2]
    · rw [if_neg h1, h2]
  rw [e]
  exact req_l h
theorem rk_9 {m op r : Int} {p p2 : List Int64} {q : Nat → Int64} {t a v : Int64} {w : Int32} (ho : op = 9) (ht : t = BEL p 0) (ha : a = ABL t) (e1 : Int64.toInt32 a = w) (e2 : Int32.toInt64 w = v) (h : PEQ p2 r (PSH m (DRP p 1) v)) : REQ p2 q r (RK1 m op p q) := by
  unfold RK1
  rw [if_neg (by omega), if_pos ho]
  unfold LOWL
  rw [← ht, ← ha, e1, e2]
  exact req_l h
theorem rk_14 {m op r : Int} {p p2 : List Int64} {q : Nat → Int64} {t a v : Int64} {w : Int32} (ho : op = 14) (ht : t = BEL p 0) (ha : -t = a) (e1 : Int64.toInt32 a = w) (e2 : Int32.toInt64 w = v) (h : PEQ p2 r (PSH m (DRP p 1) v)) : REQ p2 q r (RK1 m op p q) := by
  unfold RK1
  rw [if_neg (by omega), if_neg (by omega), if_pos ho]
  unfold LOWL
  rw [← ht, ha, e1, e2]
  exact req_l h
theorem rk_18 {m op r : Int} {p p2 : List Int64} {q : Nat → Int64} (ho : op = 18) (hr : r = 0) (h : p2 = DRP p 1) : REQ p2 q r (RK1 m op p q) := by
  unfold RK1
  rw [if_neg (by omega), if_neg (by omega), if_neg (by omega), if_pos ho]
  exact ⟨hr, fun _ => ⟨h, fun _ _ => rfl⟩⟩
def FCH (m : Int) (p : List Int64) (q : Nat → Int64) (a : Int) : PQ := if a < 0 ∨ 32 ≤ a then ((p, q), 9) else LFT q (PSH m (DRP p 1) (q a.toNat))
theorem rk_21 {m op r a : Int} {p p2 : List Int64} {q : Nat → Int64} {t : Int64} (ho : op = 21) (ht : t = BEL p 0 >>> 16) (ha : a = Int64.toInt t) (h : REQ p2 q r (FCH m p q a)) : REQ p2 q r (RK1 m op p q) := by
  unfold RK1
  rw [if_neg (by omega), if_neg (by omega), if_neg (by omega), if_neg (by omega), if_pos ho]
  subst ha ht
  exact h
theorem rk_26n {m op r : Int} {p p2 : List Int64} {q : Nat → Int64} {t : Int64} (ho : op = 26) (ht : t = BEL p 0) (h : Int64.toInt t < 0) (hr : r = 9) : REQ p2 q r (RK1 m op p q) := by
  unfold RK1
  rw [if_neg (by omega), if_neg (by omega), if_neg (by omega), if_neg (by omega), if_neg (by omega), if_pos ho, if_pos (by rw [← ht]; exact h)]
  exact req_f hr (by decide)
theorem rk_26y {m op r : Int} {p p2 : List Int64} {q : Nat → Int64} {t a v : Int64} (ho : op = 26) (ht : t = BEL p 0) (h : ¬ (Int64.toInt t < 0)) (ea : t * 65536 = a) (ev : v = RTC a 24) (P : PEQ p2 r (PSH m (DRP p 1) v)) : REQ p2 q r (RK1 m op p q) := by
  unfold RK1
  rw [if_neg (by omega), if_neg (by omega), if_neg (by omega), if_neg (by omega), if_neg (by omega), if_pos ho, if_neg (by rw [← ht]; exact h), ← ht, ea, ← ev]
  exact req_l P
theorem rk_27 {m op r : Int} {p p2 : List Int64} {q : Nat → Int64} {t : Int64} (ho : op = 27) (ht : t = BEL p 0) (P : PEQ p2 r (PSH m p t)) : REQ p2 q r (RK1 m op p q) := by
  unfold RK1
  rw [if_neg (by omega), if_neg (by omega), if_neg (by omega), if_neg (by omega), if_neg (by omega), if_neg (by omega), if_pos ho, ← ht]
  exact req_l P
def PCK (m : Int) (p : List Int64) (q : Nat → Int64) (a : Int) : PQ := if (p.length : Int) - 1 ≤ a ∨ (p.length : Int) ≤ 1 then ((p, q), 9) else LFT q (PSH m (DRP p 1) (BEL p (if a < 0 then 1 else a + 1)))
theorem rk_29 {m op r a : Int} {p p2 : List Int64} {q : Nat → Int64} {t : Int64} (ho : ¬ (op = 5 ∨ op = 9 ∨ op = 14 ∨ op = 18 ∨ op = 21 ∨ op = 26 ∨ op = 27)) (ht : t = BEL p 0 >>> 16) (ha : a = Int64.toInt t) (h : REQ p2 q r (PCK m p q a)) : REQ p2 q r (RK1 m op p q) := by
  unfold RK1
  rw [if_neg (by omega), if_neg (by omega), if_neg (by omega), if_neg (by omega), if_neg (by omega), if_neg (by omega), if_neg (by omega)]
  subst ha ht
  exact h
theorem clamp_48 {y z1 z2 : Int64} {z3 : Int32} (e1 : (if (48 : Int64) < y then (48 : Int64) else y) = z1) (e2 : (if z1 < (0 : Int64) then (0 : Int64) else z1) = z2) (e3 : Int64.toInt32 z2 = z3) : (Int64.toInt y < 0 ∧ Int32.toInt z3 = 0) ∨ (0 ≤ Int64.toInt y ∧ Int64.toInt y ≤ 48 ∧ Int32.toInt z3 = Int64.toInt y) ∨ (48 < Int64.toInt y ∧ Int32.toInt z3 = 48) := by
  have h48 : Int64.toInt (48 : Int64) = 48 := rfl
  have h00 : Int64.toInt (0 : Int64) = 0 := rfl
  have a1 : (48 : Int64) < y ↔ 48 < Int64.toInt y := by rw [Int64.lt_iff_toInt_lt, h48]
  by_cases c1 : (48 : Int64) < y
  · rw [if_pos c1] at e1
    rw [← e1, if_neg (by decide)] at e2
    rw [← e2] at e3
    exact Or.inr (Or.inr ⟨a1.mp c1, by rw [← e3]; rfl⟩)
  · rw [if_neg c1] at e1
    have a2 : ¬ (48 < Int64.toInt y) := fun h9 => c1 (a1.mpr h9)
    have a3 : y < (0 : Int64) ↔ Int64.toInt y < 0 := by rw [Int64.lt_iff_toInt_lt, h00]
    by_cases c2 : y < (0 : Int64)
    · rw [← e1, if_pos c2] at e2
      rw [← e2] at e3
      exact Or.inl ⟨a3.mp c2, by rw [← e3]; rfl⟩
    · rw [← e1, if_neg c2] at e2
      have a4 : ¬ (Int64.toInt y < 0) := fun h9 => c2 (a3.mpr h9)
      exact Or.inr (Or.inl ⟨by omega, by omega, by rw [← e3, ← e2]; exact l2i_in (by omega) (by omega)⟩)
theorem fch_n {m a r : Int} {p p2 : List Int64} {q : Nat → Int64} (h : a < 0 ∨ 32 ≤ a) (hr : r = 9) : REQ p2 q r (FCH m p q a) := by
  unfold FCH
  rw [if_pos h]
  exact req_f hr (by decide)
theorem fch_y {m a r : Int} {p p2 : List Int64} {q : Nat → Int64} {v : Int64} {x : Int32} (h0 : 0 ≤ a) (h1 : a < 32) (e : q (Int32.toNatClampNeg x) = v) (hx : Int32.toInt x = a) (P : PEQ p2 r (PSH m (DRP p 1) v)) : REQ p2 q r (FCH m p q a) := by
  have hc : Int32.toNatClampNeg x = a.toNat := by show (Int32.toInt x).toNat = _; rw [hx]
  rw [hc] at e
  unfold FCH
  rw [if_neg (by omega), e]
  exact req_l P
theorem pck_n {f f1 : Nat → Int64} {n n1 m a r : Int} {q : Nat → Int64} (h0 : 0 ≤ n) (h : n - 1 ≤ a ∨ n ≤ 1) (hr : r = 9) : REQ (PA f1 n1) q r (PCK m (PA f n) q a) := by
  unfold PCK
  rw [if_pos (by rw [pa_len]; omega)]
  exact req_f hr (by decide)
theorem pck_y {f f1 : Nat → Int64} {n n1 m a r d : Int} {q : Nat → Int64} {v : Int64} (h0 : 0 ≤ n) (h : a < n - 1) (h2 : 1 < n) (e : v = BEL (PA f n) d) (hd : (a < 0 ∧ d = 1) ∨ (0 ≤ a ∧ d = a + 1)) (P : PEQ (PA f1 n1) r (PSH m (DRP (PA f n) 1) v)) : REQ (PA f1 n1) q r (PCK m (PA f n) q a) := by
  unfold PCK
  rw [if_neg (by rw [pa_len]; omega)]
  have ed : (if a < 0 then 1 else a + 1) = d := by split <;> omega
  rw [ed, ← e]
  exact req_l P
theorem abl_pf {t a : Int64} (e : (if (0 : Int64) < t then t else -t) = a) : a = ABL t := by
  have h00 : Int64.toInt (0 : Int64) = 0 := rfl
  have a1 : (0 : Int64) < t ↔ 0 < Int64.toInt t := by rw [Int64.lt_iff_toInt_lt, h00]
  unfold ABL
  by_cases c : (0 : Int64) < t
  · rw [if_pos c] at e
    have := a1.mp c
    rw [if_neg (by omega), e]
  · rw [if_neg c] at e
    by_cases d : Int64.toInt t < 0
    · rw [if_pos d, e]
    · have h2 : Int64.toInt t = 0 := by
        have : ¬ (0 < Int64.toInt t) := fun h9 => c (a1.mpr h9)
        omega
      have h3 : t = 0 := Int64.toInt_inj.mp h2
      rw [if_neg d, ← e, h3]
      rfl
def TRV (a : Int) (r : Int64) : Prop := (a = 1 ∧ r = 65536) ∨ (a = 0 ∧ r = 0)
theorem trv_1 {a : Int} {r : Int64} (h : TRV a r) (ha : a = 1) : r = 65536 := by
  rcases h with ⟨_, h⟩ | ⟨h, _⟩
  · exact h
  · omega
theorem trv_0 {a : Int} {r : Int64} (h : TRV a r) (ha : a = 0) : r = 0 := by
  rcases h with ⟨h, _⟩ | ⟨_, h⟩
  · omega
  · exact h
theorem n0 {z : Int64} (h : ¬ (Int64.toInt z = 0)) : ¬ (z = 0) := fun h9 => h (by rw [h9]; rfl)
