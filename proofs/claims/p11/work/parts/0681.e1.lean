/-! the reference's programs within programs (p8 to p11) -/
def MPX (st sz pl : Nat → Int32) (s k : Int) : List Int := (List.range (Int32.toInt (sz (1600 * s + k).toNat)).toNat).map fun i : Nat => Int32.toInt (pl (Int32.toInt (st (1600 * s + k).toNat) + i).toNat &&& 255)
/-- the program at a depth, and its place -/
def MCU (st sz pl os oo oa : Nat → Int32) (d : Nat) : FR8 := (MPX st sz pl (Int32.toInt (os d)) (Int32.toInt (oo d)), Int32.toInt (oa d))
/-- those that wait -/
def MCW (st sz pl os oo oa : Nat → Int32) (d : Int) : List FR8 := (List.range d.toNat).map (MCU st sz pl os oo oa)
theorem mpx_len {st sz pl : Nat → Int32} {s k : Int} : (MPX st sz pl s k).length = (Int32.toInt (sz (1600 * s + k).toNat)).toNat := by unfold MPX; rw [List.length_map, List.length_range]
theorem mpx_get {st sz pl : Nat → Int32} {s k : Int} {i : Nat} (h : (i : Int) < Int32.toInt (sz (1600 * s + k).toNat)) : (MPX st sz pl s k).getD i 0 = Int32.toInt (pl (Int32.toInt (st (1600 * s + k).toNat) + i).toNat &&& 255) := by
  unfold MPX
  rw [List.getD_eq_getElem?_getD, List.getElem?_map, List.getElem?_range (by omega)]
  rfl
theorem mcw_len {st sz pl os oo oa : Nat → Int32} {d : Int} : (MCW st sz pl os oo oa d).length = d.toNat := by unfold MCW; rw [List.length_map, List.length_range]
theorem mcw_at {st sz pl os oo oa oa1 : Nat → Int32} {d : Int} {x z : Int32} (e : upd oa (Int32.toNatClampNeg x) z = oa1) (hx : Int32.toInt x = d) : MCW st sz pl os oo oa1 d = MCW st sz pl os oo oa d := by
  have hc : Int32.toNatClampNeg x = d.toNat := by show (Int32.toInt x).toNat = _; rw [hx]
  rw [hc] at e
  unfold MCW
  refine List.map_congr_left (fun i hi => ?_)
  have := List.mem_range.mp hi
  unfold MCU
  rw [← e, upd_eq, if_neg (by omega)]
/-- the reference's take: a byte, or none -/
theorem mtk_n {st sz pl os oo oa : Nat → Int32} {d : Nat} {r n : Int} (hn : n = Int32.toInt (sz (1600 * Int32.toInt (os d) + Int32.toInt (oo d)).toNat)) (h : n ≤ Int32.toInt (oa d)) (h0 : 0 ≤ Int32.toInt (oa d)) (hr : r = -1) : ((r, MCU st sz pl os oo oa d) : Int × FR8) = TKB (MCU st sz pl os oo oa d) := by
  unfold TKB
  rw [if_neg (by show ¬ (Int32.toInt (oa d) < ((MPX st sz pl _ _).length : Int)); rw [mpx_len]; omega), hr]
theorem mtk_y {st sz pl os oo oa oa1 : Nat → Int32} {d : Nat} {r n p : Int} (hn : n = Int32.toInt (sz (1600 * Int32.toInt (os d) + Int32.toInt (oo d)).toNat)) (h : Int32.toInt (oa d) < n) (h0 : 0 ≤ Int32.toInt (oa d)) (ho : Int32.toInt (oa1 d) = Int32.toInt (oa d) + 1) (hp : p = Int32.toInt (st (1600 * Int32.toInt (os d) + Int32.toInt (oo d)).toNat) + Int32.toInt (oa d)) (hr : r = Int32.toInt (pl p.toNat &&& 255)) : ((r, MCU st sz pl os oo oa1 d) : Int × FR8) = TKB (MCU st sz pl os oo oa d) := by
  unfold TKB
  rw [if_pos (by show Int32.toInt (oa d) < ((MPX st sz pl _ _).length : Int); rw [mpx_len]; omega)]
  show (r, (MPX st sz pl _ _, Int32.toInt (oa1 d))) = ((MPX st sz pl (Int32.toInt (os d)) (Int32.toInt (oo d))).getD (Int32.toInt (oa d)).toNat 0, (MPX st sz pl _ _, Int32.toInt (oa d) + 1))
  rw [mpx_get (by omega), ho, hr, hp]
  rw [show (((Int32.toInt (oa d)).toNat : Nat) : Int) = Int32.toInt (oa d) by omega]
theorem msz_of {sz os oo : Nat → Int32} {x a b z v : Int32} (e1 : os (Int32.toNatClampNeg x) = a) (e2 : oo (Int32.toNatClampNeg x) = b) (e3 : sz (Int32.toNatClampNeg z) = v) (hz : Int32.toInt z = 1600 * Int32.toInt a + Int32.toInt b) : Int32.toInt v = Int32.toInt (sz (1600 * Int32.toInt (os (Int32.toInt x).toNat) + Int32.toInt (oo (Int32.toInt x).toNat)).toNat) := by
  have h1 : os (Int32.toInt x).toNat = a := e1
  have h2 : oo (Int32.toInt x).toNat = b := e2
  have h3 : sz (Int32.toInt z).toNat = v := e3
  rw [h1, h2, ← hz, h3]
theorem mtk_0 {st sz pl os oo oa : Nat → Int32} {x p : Int32} {r n : Int} (e : oa (Int32.toNatClampNeg x) = p) (hn : n = Int32.toInt (sz (1600 * Int32.toInt (os (Int32.toInt x).toNat) + Int32.toInt (oo (Int32.toInt x).toNat)).toNat)) (h : n ≤ Int32.toInt p) (h0 : 0 ≤ Int32.toInt p) (hr : r = -1) : ((r, MCU st sz pl os oo oa (Int32.toInt x).toNat) : Int × FR8) = TKB (MCU st sz pl os oo oa (Int32.toInt x).toNat) := by
  have h1 : oa (Int32.toInt x).toNat = p := e
  exact mtk_n hn (by rw [h1]; exact h) (by rw [h1]; exact h0) hr
theorem mtk_1 {st sz pl os oo oa oa1 : Nat → Int32} {x p p1 p2 a b z s q v r : Int32} {n : Int} (e : oa (Int32.toNatClampNeg x) = p) (hn : n = Int32.toInt (sz (1600 * Int32.toInt (os (Int32.toInt x).toNat) + Int32.toInt (oo (Int32.toInt x).toNat)).toNat)) (eu : upd oa (Int32.toNatClampNeg x) p1 = oa1) (e1 : os (Int32.toNatClampNeg x) = a) (e2 : oo (Int32.toNatClampNeg x) = b) (e3 : st (Int32.toNatClampNeg z) = s) (e4 : pl (Int32.toNatClampNeg q) = v) (e5 : v &&& 255 = r) (e6 : oa1 (Int32.toNatClampNeg x) = p2) (h : Int32.toInt p < n) (h0 : 0 ≤ Int32.toInt p) (hp : Int32.toInt p1 = Int32.toInt p + 1) (hz : Int32.toInt z = 1600 * Int32.toInt a + Int32.toInt b) (hq : Int32.toInt q = Int32.toInt s + Int32.toInt p2 - 1) : ((Int32.toInt r, MCU st sz pl os oo oa1 (Int32.toInt x).toNat) : Int × FR8) = TKB (MCU st sz pl os oo oa (Int32.toInt x).toNat) := by
  have g1 : oa (Int32.toInt x).toNat = p := e
  have g2 : os (Int32.toInt x).toNat = a := e1
  have g3 : oo (Int32.toInt x).toNat = b := e2
  have g4 : st (Int32.toInt z).toNat = s := e3
  have g5 : pl (Int32.toInt q).toNat = v := e4
  have g6 : oa1 (Int32.toInt x).toNat = p1 := by rw [← eu]; show upd oa (Int32.toInt x).toNat p1 (Int32.toInt x).toNat = _; rw [upd_eq, if_pos rfl]
  have g7 : p2 = p1 := by rw [← e6]; exact g6
  refine mtk_y (p := Int32.toInt q) hn (by rw [g1]; exact h) (by rw [g1]; exact h0) (by rw [g6, g1]; exact hp) ?_ (by rw [g5, e5])
  rw [g2, g3, ← hz, g4, g1, hq, g7, hp]
  omega
