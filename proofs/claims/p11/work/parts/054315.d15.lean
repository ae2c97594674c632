/-! a draw, as it is told (p8 to p11) -/
/-- PARTS, steps, hints, bytes done, WIDTH -/
abbrev DW := PRT2 × Int × Int × Int × Int64
def DWC (Q : M8 × Int × Int) : DW × Int := ((Q.1.o.1, Q.2.2, Q.1.wh.2, Q.1.c.2, Q.1.wh.1.2), Q.2.1)
def DW9 (Q : T8 × Int × Int) : DW × Int := ((Q.1.o.1, Q.2.2, 0, Q.1.c.2, Q.1.wd), Q.2.1)
def DRC (tl tg tt : Int → Option (List Int)) (nl ng : Int) (nm df : Int64) (k lim : Int) : DW × Int := DWC (RUN ⟨tl, tg, nl, ng, nm, df, lim, 48⟩ 3001 ⟨((0, 0), 0), ([], 0, 0, 0), 0, [], NQ nofL, (LTP tt k, 0), []⟩ 0)
def DR9 (tl tt : Int → Option (List Int)) (k lim : Int) : DW × Int := DW9 (RN9 tl lim 24 3001 ⟨0, ([], 0, 0, 0), 0, [], (LTP tt k, 0), [], 0, [], []⟩ 0)
theorem drc_of {tl tg tt : Int → Option (List Int)} {nl ng k lim lim1 n u f s : Int} {nm df wd x1 y1 x0 y0 : Int64} {wa ht u1 ov c : Int} {P : PRT2} {kd : Nat → Int32} {nb : Nat → Int64} {p : List Int64} {q : Nat → Int64} {g : List Int} {w : List FR8} (V : VIS ⟨((wa, wd), ht), (P, x1, y1, u1), ov, p, q, (g, c), w⟩ f s (RUN ⟨tl, tg, nl, ng, nm, df, lim1, 48⟩ 3001 ⟨((0, 0), 0), (PTS kd nb n, x0, y0, u), 0, [], NQ nofL, (LTP tt k, 0), []⟩ 0)) (hl : lim1 = lim) (hn : n = 0) (hx : x0 = 0) (hy : y0 = 0) (hu : u = 0) : (((P, s, ht, c, wd), f) : DW × Int) = DRC tl tg tt nl ng nm df k lim := by
  subst hl hn hx hy hu
  obtain ⟨v1, v2, v3, v4, v5⟩ := V
  unfold DRC DWC
  show _ = ((_, _, _, _, _), _)
  have e : PTS kd nb 0 = [] := rfl
  rw [e] at v1 v2 v3 v4 v5
  have a1 : ((wa, wd), ht) = (RUN ⟨tl, tg, nl, ng, nm, df, lim1, 48⟩ 3001 ⟨((0, 0), 0), ([], 0, 0, 0), 0, [], NQ nofL, (LTP tt k, 0), []⟩ 0).1.wh := v3
  have a2 : (g, c) = (RUN ⟨tl, tg, nl, ng, nm, df, lim1, 48⟩ 3001 ⟨((0, 0), 0), ([], 0, 0, 0), 0, [], NQ nofL, (LTP tt k, 0), []⟩ 0).1.c := v4
  have a3 : P = (RUN ⟨tl, tg, nl, ng, nm, df, lim1, 48⟩ 3001 ⟨((0, 0), 0), ([], 0, 0, 0), 0, [], NQ nofL, (LTP tt k, 0), []⟩ 0).1.o.1 := v5
  rw [← a1, ← a2, ← a3, ← v1, ← v2]
theorem dr9_of {tl tt : Int → Option (List Int)} {k lim lim1 n u f s : Int} {wd x1 y1 x0 y0 : Int64} {u1 ov c fl ht : Int} {P : PRT2} {kd : Nat → Int32} {nb : Nat → Int64} {p b : List Int64} {kp : KP} {g : List Int} {w : List FR8} (V : VI9 ⟨wd, (P, x1, y1, u1), ov, p, (g, c), w, fl, kp, b⟩ f s (RN9 tl lim1 24 3001 ⟨0, (PTS kd nb n, x0, y0, u), 0, [], (LTP tt k, 0), [], 0, [], []⟩ 0)) (hl : lim1 = lim) (hn : n = 0) (hx : x0 = 0) (hy : y0 = 0) (hu : u = 0) (hh : ht = 0) : (((P, s, ht, c, wd), f) : DW × Int) = DR9 tl tt k lim := by
  subst hl hn hx hy hu hh
  obtain ⟨v1, v2, v3, v4, v5⟩ := V
  unfold DR9 DW9
  show _ = ((_, _, _, _, _), _)
  have e : PTS kd nb 0 = [] := rfl
  rw [e] at v1 v2 v3 v4 v5
  have a1 : wd = (RN9 tl lim1 24 3001 ⟨0, ([], 0, 0, 0), 0, [], (LTP tt k, 0), [], 0, [], []⟩ 0).1.wd := v3
  have a2 : (g, c) = (RN9 tl lim1 24 3001 ⟨0, ([], 0, 0, 0), 0, [], (LTP tt k, 0), [], 0, [], []⟩ 0).1.c := v4
  have a3 : P = (RN9 tl lim1 24 3001 ⟨0, ([], 0, 0, 0), 0, [], (LTP tt k, 0), [], 0, [], []⟩ 0).1.o.1 := v5
  rw [← a1, ← a2, ← a3, ← v1, ← v2]
def DRN (w n s h b r : Int) : Prop := (w = 0 ∧ r = n) ∨ (w = 1 ∧ r = s) ∨ (w = 2 ∧ r = h) ∨ (w = 3 ∧ r = b) ∨ ((w < 0 ∨ 3 < w) ∧ r = -1)
def PRK (P : PRT2) (i : Int) : Int := if 0 ≤ i ∧ i < (P.length : Int) then (P.getD i.toNat (0, [])).1 else -1
def PAL (P : PRT2) (i : Int) : List Int64 := (P.getD i.toNat (0, [])).2
def PAT (P : PRT2) (i k w : Int) : Int64 := if ¬ (PRK P i = -1) ∧ 0 ≤ i ∧ i < (P.length : Int) ∧ 0 ≤ w ∧ w ≤ 1 ∧ 0 ≤ k ∧ 2 * k + w < ((PAL P i).length : Int) then (PAL P i).getD (2 * k + w).toNat 0 else 0
theorem pts_at {kd : Nat → Int32} {nb : Nat → Int64} {n i : Int} (h0 : 0 ≤ i) (h : i < n) : (PTS kd nb n).getD i.toNat (0, []) = (Int32.toInt (kd i.toNat), if Int32.toInt (kd i.toNat) = 3 then [] else if Int32.toInt (kd i.toNat) = 2 then [nb (6 * i.toNat), nb (6 * i.toNat + 1), nb (6 * i.toNat + 2), nb (6 * i.toNat + 3), nb (6 * i.toNat + 4), nb (6 * i.toNat + 5)] else [nb (6 * i.toNat), nb (6 * i.toNat + 1)]) := by
  unfold PTS
  rw [List.getD_eq_getElem?_getD, List.getElem?_map, List.getElem?_range (by omega)]
  rfl
theorem prk_y {kd : Nat → Int32} {nb : Nat → Int64} {n i : Int} {x r : Int32} (h0 : 0 ≤ i) (h : i < n) (hx : Int32.toInt x = i) (e : kd (Int32.toNatClampNeg x) = r) : Int32.toInt r = PRK (PTS kd nb n) i := by
  have hc : Int32.toNatClampNeg x = i.toNat := by show (Int32.toInt x).toNat = _; rw [hx]
  rw [hc] at e
  unfold PRK
  rw [if_pos ⟨h0, by rw [pts_len]; omega⟩, pts_at h0 h, e]
theorem prk_n {kd : Nat → Int32} {nb : Nat → Int64} {n i r : Int} (h : i < 0 ∨ n ≤ i) (hr : r = -1) : r = PRK (PTS kd nb n) i := by
  unfold PRK
  rw [if_neg (by rw [pts_len]; omega), hr]
theorem pat_k {kd : Nat → Int32} {nb : Nat → Int64} {n i k w r : Int} (hr : r = PRK (PTS kd nb n) i) (h : r = -1 ∨ r = 3 ∨ w < 0 ∨ 1 < w ∨ k < 0 ∨ (r = 2 ∧ 2 < k) ∨ (¬ (r = 2) ∧ 0 < k)) : PAT (PTS kd nb n) i k w = 0 := by
  unfold PAT
  by_cases hi : 0 ≤ i ∧ i < n
  · have e : r = Int32.toInt (kd i.toNat) := by rw [hr]; unfold PRK; rw [if_pos ⟨hi.1, by rw [pts_len]; omega⟩, pts_at hi.1 hi.2]
    refine if_neg (fun hc => ?_)
    obtain ⟨c0, _, _, c3, c4, c5, c6⟩ := hc
    rw [← hr] at c0
    unfold PAL at c6
    rw [pts_at hi.1 hi.2] at c6
    rw [← e] at c6
    by_cases h3 : r = 3
    · rw [if_pos h3] at c6
      have : ((0 : Nat) : Int) = 0 := rfl
      have c7 : 2 * k + w < 0 := c6
      omega
    · rw [if_neg h3] at c6
      by_cases h4 : r = 2
      · rw [if_pos h4] at c6
        have c7 : 2 * k + w < 6 := c6
        omega
      · rw [if_neg h4] at c6
        have c7 : 2 * k + w < 2 := c6
        omega
  · exact if_neg (fun hc => hi ⟨hc.2.1, by have := hc.2.2.1; rw [pts_len] at this; omega⟩)
theorem pat_v {kd : Nat → Int32} {nb : Nat → Int64} {n i k w r : Int} {z : Int32} {v : Int64} (hr : r = PRK (PTS kd nb n) i) (h1 : ¬ (r = -1)) (h3 : ¬ (r = 3)) (hw : 0 ≤ w ∧ w ≤ 1) (hk : 0 ≤ k) (h : (r = 2 ∧ k ≤ 2) ∨ (¬ (r = 2) ∧ k ≤ 0)) (e : nb (Int32.toNatClampNeg z) = v) (hz : Int32.toInt z = 6 * i + 2 * k + w) : v = PAT (PTS kd nb n) i k w := by
  have hc : Int32.toNatClampNeg z = (6 * i + 2 * k + w).toNat := by show (Int32.toInt z).toNat = _; rw [hz]
  rw [hc] at e
  have hi : 0 ≤ i ∧ i < n := by
    refine Decidable.byContradiction fun hn => h1 ?_
    rw [hr]; unfold PRK; rw [if_neg (by rw [pts_len]; omega)]
  have e2 : r = Int32.toInt (kd i.toNat) := by rw [hr]; unfold PRK; rw [if_pos ⟨hi.1, by rw [pts_len]; omega⟩, pts_at hi.1 hi.2]
  have el : PAL (PTS kd nb n) i = if r = 2 then [nb (6 * i.toNat), nb (6 * i.toNat + 1), nb (6 * i.toNat + 2), nb (6 * i.toNat + 3), nb (6 * i.toNat + 4), nb (6 * i.toNat + 5)] else [nb (6 * i.toNat), nb (6 * i.toNat + 1)] := by
    unfold PAL; rw [pts_at hi.1 hi.2, ← e2]; show (if r = 3 then _ else _) = _; rw [if_neg h3]
  unfold PAT
  have hh : 0 ≤ i ∧ i < ((PTS kd nb n).length : Int) := ⟨hi.1, by rw [pts_len]; omega⟩
  rcases h with ⟨ha, hb⟩ | ⟨ha, hb⟩
  · rw [el, if_pos ha, if_pos ⟨by rw [← hr]; exact h1, hh.1, hh.2, hw.1, hw.2, hk, by show 2 * k + w < 6; omega⟩]
    have : (2 * k + w).toNat = 0 ∨ (2 * k + w).toNat = 1 ∨ (2 * k + w).toNat = 2 ∨ (2 * k + w).toNat = 3 ∨ (2 * k + w).toNat = 4 ∨ (2 * k + w).toNat = 5 := by omega
    rcases this with q | q | q | q | q | q <;> rw [q, ← e] <;> (first | (show _ = nb (6 * i.toNat); congr 1; omega) | (show _ = nb (6 * i.toNat + 1); congr 1; omega) | (show _ = nb (6 * i.toNat + 2); congr 1; omega) | (show _ = nb (6 * i.toNat + 3); congr 1; omega) | (show _ = nb (6 * i.toNat + 4); congr 1; omega) | (show _ = nb (6 * i.toNat + 5); congr 1; omega))
  · rw [el, if_neg ha, if_pos ⟨by rw [← hr]; exact h1, hh.1, hh.2, hw.1, hw.2, hk, by show 2 * k + w < 2; omega⟩]
    have : (2 * k + w).toNat = 0 ∨ (2 * k + w).toNat = 1 := by omega
    rcases this with q | q <;> rw [q, ← e] <;> (first | (show _ = nb (6 * i.toNat); congr 1; omega) | (show _ = nb (6 * i.toNat + 1); congr 1; omega))
