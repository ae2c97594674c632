/-! an INDEX's objects as the class finds them; where the programs of a CFF font are (p6) -/
/-- an array that is never looked at -/
def nof : Nat → Int32 := fun _ => 0
def OBJ (β : Int → Int) (len ob oa k : Int) : Int := oa + (len + 1) * ob + NUM β (oa + k * ob) ob.toNat - 1
def ORG (oa k ob : Int) : Prop := 0 ≤ oa ∧ oa ≤ 1500 ∧ 0 ≤ k ∧ k ≤ 65536 ∧ 1 ≤ ob ∧ ob ≤ 4
theorem org_m {oa k ob : Int} (h : ORG oa k ob) : 0 ≤ k * ob ∧ k * ob ≤ 262144 := by
  obtain ⟨_, _, h1, h2, h3, h4⟩ := h
  rcases (show ob = 1 ∨ ob = 2 ∨ ob = 3 ∨ ob = 4 by omega) with h | h | h | h <;> subst h <;> omega
def OBL (β : Int → Int) (oa k ob : Int) (x : Int32) (i : Int) : Prop := x = Int32.ofInt (NUM β (oa + k * ob) i.toNat)
theorem obl_0 {β : Int → Int} {oa k ob : Int} : OBL β oa k ob 0 0 := rfl
theorem obl_step {β : Int → Int} {oa k ob z17 z18 z19 z2 z16 z21 i r : Int32} {i2 y : Int} (h : CND (ORG (Int32.toInt oa) (Int32.toInt k) (Int32.toInt ob)) (OBL β (Int32.toInt oa) (Int32.toInt k) (Int32.toInt ob) z2 (Int32.toInt i))) (e1 : k * ob = z17) (e2 : oa + z17 = z18) (e3 : z18 + i = z19) (e4 : z2 * 256 = z16) (e5 : z16 + r = z21) (hr : Int32.toInt r = β y) (hy : y = Int32.toInt z19) (h0 : 0 ≤ Int32.toInt i) (h1 : Int32.toInt i < Int32.toInt ob) (hi : i2 = Int32.toInt i + 1) : CND (ORG (Int32.toInt oa) (Int32.toInt k) (Int32.toInt ob)) (OBL β (Int32.toInt oa) (Int32.toInt k) (Int32.toInt ob) z21 i2) := by
  intro R
  have m := org_m R
  have h9 := h R
  obtain ⟨r1, r2, r3, r4, r5, r6⟩ := R
  have t1 : Int32.toInt z17 = Int32.toInt k * Int32.toInt ob := by rw [← e1]; exact fb_mulI (by omega) (by omega)
  have t2 : Int32.toInt z18 = Int32.toInt oa + Int32.toInt z17 := by rw [← e2]; exact fb_addI (by omega) (by omega)
  have t3 : Int32.toInt z19 = Int32.toInt z18 + Int32.toInt i := by rw [← e3]; exact fb_addI (by omega) (by omega)
  unfold OBL at h9 ⊢
  rw [show i2.toNat = (Int32.toInt i).toNat + 1 by omega]
  show z21 = Int32.ofInt (NUM β _ (Int32.toInt i).toNat * 256 + β (Int32.toInt oa + Int32.toInt k * Int32.toInt ob + ((Int32.toInt i).toNat : Int)))
  rw [show Int32.toInt oa + Int32.toInt k * Int32.toInt ob + ((Int32.toInt i).toNat : Int) = y by omega, ← hr, Int32.ofInt_add, Int32.ofInt_mul, ← h9, Int32.ofInt_toInt, ← e5, ← e4]
  rfl
theorem obl_end {β : Int → Int} {oa k ob len z10 z11 z12 z13 z14 x : Int32} {i : Int} (h : CND (ORG (Int32.toInt oa) (Int32.toInt k) (Int32.toInt ob)) (OBL β (Int32.toInt oa) (Int32.toInt k) (Int32.toInt ob) x i)) (e1 : len + 1 = z10) (e2 : z10 * ob = z11) (e3 : oa + z11 = z12) (e4 : z12 + x = z13) (e5 : z13 - 1 = z14) (hi : 1 ≤ Int32.toInt ob → i = Int32.toInt ob) : CND (ORG (Int32.toInt oa) (Int32.toInt k) (Int32.toInt ob)) (z14 = Int32.ofInt (OBJ β (Int32.toInt len) (Int32.toInt ob) (Int32.toInt oa) (Int32.toInt k))) := by
  intro R
  have h9 := h R
  unfold OBL at h9
  have r5 := R.2.2.2.2.1
  rw [hi r5] at h9
  unfold OBJ
  rw [Int32.ofInt_sub, Int32.ofInt_add, Int32.ofInt_add, Int32.ofInt_mul, Int32.ofInt_add, ← h9, Int32.ofInt_toInt, Int32.ofInt_toInt, Int32.ofInt_toInt, ← e5, ← e4, ← e3, ← e2, ← e1]
  rfl
/-- whether a shelf has a program, where it begins, where it ends -/
def HASP (len ob : Int) (bg : Nat → Int32) (cap k : Int) : Prop := 0 ≤ k ∧ k < len ∧ (0 < ob ∨ (k < cap ∧ ¬ (Int32.toInt (bg k.toNat) = -1)))
def BEGE (β : Int → Int) (len ob oa : Int) (bg : Nat → Int32) (k : Int) : Int := if 0 < ob then OBJ β len ob oa k else Int32.toInt (bg k.toNat)
def FINE (β : Int → Int) (len ob oa : Int) (fi : Nat → Int32) (k : Int) : Int := if 0 < ob then OBJ β len ob oa (k + 1) else Int32.toInt (fi k.toNat)
/-- what the reckoning of places wants -/
def VALK (β : Int → Int) (len ob oa : Int) (bg fi : Nat → Int32) (k : Int) : Prop := (ob ≤ 0 ∨ (ORG oa k ob ∧ k < 65536)) ∧ 0 ≤ BEGE β len ob oa bg k ∧ BEGE β len ob oa bg k ≤ FINE β len ob oa fi k ∧ FINE β len ob oa fi k ≤ 1500
def CCO (β : Int → Int) (len ob oa : Int) (bg fi : Nat → Int32) (cap k i r : Int) : Prop := (HASP len ob bg cap k ∧ 0 ≤ i ∧ i < FINE β len ob oa fi k - BEGE β len ob oa bg k ∧ r = β (BEGE β len ob oa bg k + i)) ∨ (¬ (HASP len ob bg cap k ∧ 0 ≤ i ∧ i < FINE β len ob oa fi k - BEGE β len ob oa bg k) ∧ r = -1)
theorem cco_no {β : Int → Int} {len ob oa cap k i r : Int} {bg fi : Nat → Int32} (h : ¬ HASP len ob bg cap k ∨ i < 0) (hr : r = -1) : CCO β len ob oa bg fi cap k i r := Or.inr ⟨fun h9 => by rcases h with h | h; exact h h9.1; omega, hr⟩
theorem hasp_y1 {len ob cap k : Int} {bg : Nat → Int32} (h0 : 0 ≤ k) (h1 : k < len) (h2 : 0 < ob) : HASP len ob bg cap k := ⟨h0, h1, Or.inl h2⟩
theorem hasp_y2 {len ob cap k : Int} {bg : Nat → Int32} {x z : Int32} (h0 : 0 ≤ k) (h1 : k < len) (h2 : k < cap) (e : bg (Int32.toNatClampNeg x) = z) (hx : Int32.toInt x = k) (hz : ¬ (Int32.toInt z = -1)) : HASP len ob bg cap k := ⟨h0, h1, Or.inr ⟨h2, by rw [← hx]; intro h9; apply hz; rw [← e]; exact h9⟩⟩
theorem hasp_n1 {len ob cap k : Int} {bg : Nat → Int32} (h : k < 0 ∨ len ≤ k ∨ (¬ (0 < ob) ∧ cap ≤ k)) : ¬ HASP len ob bg cap k := fun ⟨h0, h1, h2⟩ => by
  rcases h2 with h2 | ⟨h2, _⟩ <;> omega
theorem hasp_n2 {len ob cap k : Int} {bg : Nat → Int32} {x z : Int32} (h : ¬ (0 < ob)) (e : bg (Int32.toNatClampNeg x) = z) (hx : Int32.toInt x = k) (hz : Int32.toInt z = -1) : ¬ HASP len ob bg cap k := fun ⟨h0, h1, h2⟩ => by
  rcases h2 with h2 | ⟨_, h2⟩
  · exact h h2
  · apply h2
    rw [← hx]
    have e2 : bg (Int32.toInt x).toNat = z := e
    rw [e2]
    exact hz
def HSB (r : Int) (P : Prop) : Prop := (r = 1 ∧ P) ∨ (r = 0 ∧ ¬ P)
/-! where a CFF font's programs are -/
def PRX (β : Int → Int) (n p z : Int) : Option (Int × Int) := (DIC β p (p + z)).bind fun S => if (S 19).1 = -1 then some (0, 0) else (IDX β n (p + (S 19).2.1) 0 65535).bind fun i => some (i.2.1, p + (S 19).2.1 + 3)
def CFX (β : Int → Int) (n : Int) : Option ((Int × Int) × (Int × Int) × (Int × Int)) :=
  (HDR β n).bind fun h => (IDX β n h 1 1).bind fun i1 => (IDX β n i1.2.2 1 1).bind fun i2 => (IDX β n i2.2.2 0 65535).bind fun i3 => (IDX β n i3.2.2 0 65535).bind fun i4 =>
    (DIC β (i1.2.2 + 3 + i2.2.1 * 2) i2.2.2).bind fun S => (IDX β n (S 17).2.1 1 40).bind fun i5 =>
      (if (S 18).1 = -1 then some (0, 0) else PRX β n (S 18).2.2 (S 18).2.1).bind fun q => some ((i5.2.1, (S 17).2.1 + 3), q, (i4.2.1, i3.2.2 + 3))
theorem seq_v {α : Type} {f0 f1 : Int} {o : Option α} {P : α → Prop} (h : SEQ f0 f1 o P) (h1 : f1 = 0) : ∃ v, o = some v ∧ P v := by
  rcases h with ⟨_, h2⟩ | ⟨_, _, h2⟩ | ⟨_, h2, _⟩
  · exact absurd h1 h2
  · exact h2
  · exact absurd h1 h2
theorem dicb_some {β : Int → Int} {n p e : Int} {S : SLO} (h : DICB β n p e = some S) : DIC β p e = some S := by
  unfold DICB at h
  split at h
  · exact absurd h (by simp)
  · exact h
/-- a shelf told by an INDEX: nothing, or its width and place -/
def SHD (c ob oa : Int) (d : Int × Int) : Prop := c = 0 ∨ (ob = d.1 ∧ oa = d.2)
theorem shd_of {β : Int → Int} {n p l m ic pl ob oa ja c ob1 oa1 : Int} {v : Int × Int × Int} (h : IDX β n p l m = some v) (x : IXR ic pl ob oa ja p v) (hc : c = ic) (h1 : ic = 0 ∨ (ob1 = ob ∧ oa1 = oa)) : SHD c ob1 oa1 (v.2.1, p + 3) := by
  rcases x.2.2 with h2 | ⟨h2, h3, _⟩
  · exact Or.inl (by omega)
  · rcases h1 with h1 | ⟨h1, h4⟩
    · exact Or.inl (by omega)
    · exact Or.inr ⟨by rw [h1]; exact h2.symm, by rw [h4]; exact h3⟩
def PVC (β : Int → Int) (n p z c ob oa : Int) : Prop := ∃ d, PRX β n p z = some d ∧ SHD c ob oa d
theorem pvc_0 {β : Int → Int} {n p z e c ob oa fd fb : Int} {m f s : Nat → Int32} (D : SEQ fb fd (DICB β n p e) (fun S => S = SC m f s)) (hd : fd = 0) (he : e = p + z) (h3 : Int32.toInt (m (Int32.toNatClampNeg 3)) = -1) (hc : c = 0) : PVC β n p z c ob oa := by
  obtain ⟨S, d1, d2⟩ := seq_v D hd
  have d3 := dicb_some d1
  refine ⟨(0, 0), ?_, Or.inl hc⟩
  unfold PRX
  rw [← he, d3, Option.bind_some, if_pos]
  rw [d2, sc_1 (Or.inr (Or.inr (Or.inr (Or.inl rfl))))]
  exact h3
theorem pvc_1 {β : Int → Int} {n p z e q c ob oa fd fb fi f1 ic pl ob2 oa2 ja : Int} {m f s : Nat → Int32} (D : SEQ fb fd (DICB β n p e) (fun S => S = SC m f s)) (hd : fd = 0) (he : e = p + z) (h3 : ¬ (Int32.toInt (m (Int32.toNatClampNeg 3)) = -1)) (I : SEQ fi f1 (IDX β n q 0 65535) (IXR ic pl ob2 oa2 ja q)) (h1 : f1 = 0) (hq : q = p + Int32.toInt (f (Int32.toNatClampNeg 3))) (hc : c = ic) (ho : ic = 0 ∨ (ob = ob2 ∧ oa = oa2)) : PVC β n p z c ob oa := by
  obtain ⟨S, d1, d2⟩ := seq_v D hd
  obtain ⟨v, i1, i2⟩ := seq_v I h1
  have d3 := dicb_some d1
  have k1 : (S 19).1 = Int32.toInt (m (Int32.toNatClampNeg 3)) := by rw [d2]; exact sc_1 (Or.inr (Or.inr (Or.inr (Or.inl rfl))))
  have l1 : (S 19).2.1 = Int32.toInt (f (Int32.toNatClampNeg 3)) := by
    rw [d2, sc_21 (Or.inr (Or.inr (Or.inr (Or.inl rfl))))]
    exact if_neg h3
  refine ⟨(v.2.1, q + 3), ?_, shd_of i1 i2 hc ho⟩
  unfold PRX
  rw [← he, d3, Option.bind_some, if_neg (by rw [k1]; exact h3), l1, ← hq, i1, Option.bind_some]
def CFC (β : Int → Int) (n ll wl ol lo wo oo lg wg og : Int) : Prop := ∃ d, CFX β n = some d ∧ SHD ll wl ol d.1 ∧ SHD lo wo oo d.2.1 ∧ SHD lg wg og d.2.2
theorem cfc_pf {β : Int → Int} {n f0 fh f1 f2 f3 f4 f5 f6 ph ic1 p1 ob1 oa1 ja1 ic2 p2 ob2 oa2 ja2 ic3 p3 ob3 oa3 ja3 ic4 p4 ob4 oa4 ja4 ic5 p5 ob5 oa5 ja5 p17 ll lo lg wl ol wo oo wg og : Int} {Z : SLO} (H : SEQ f0 fh (HDR β n) (fun v => v = ph)) (I1 : SEQ fh f1 (IDX β n ph 1 1) (IXR ic1 p1 ob1 oa1 ja1 ph)) (I2 : SEQ f1 f2 (IDX β n p1 1 1) (IXR ic2 p2 ob2 oa2 ja2 p1)) (I3 : SEQ f2 f3 (IDX β n p2 0 65535) (IXR ic3 p3 ob3 oa3 ja3 p2)) (I4 : SEQ f3 f4 (IDX β n p3 0 65535) (IXR ic4 p4 ob4 oa4 ja4 p3)) (T : SEQ f4 f5 (TOPO β n ja2 p2) (fun S => S = Z)) (I5 : SEQ f5 f6 (IDX β n p17 1 40) (IXR ic5 p5 ob5 oa5 ja5 p17)) (e17 : p17 = (Z 17).2.1) (hf : f6 = 0) (hl : ll = ic5) (h5 : ic5 = 0 ∨ (wl = ob5 ∧ ol = oa5)) (hg : lg = ic4) (h4 : ic4 = 0 ∨ (wg = ob4 ∧ og = oa4))
    (hP : ((Z 18).1 = -1 ∧ lo = 0) ∨ (¬ ((Z 18).1 = -1) ∧ PVC β n (Z 18).2.2 (Z 18).2.1 lo wo oo)) : CFC β n ll wl ol lo wo oo lg wg og := by
  have k5 : f5 = 0 := by
    by_cases h : f5 = 0
    · exact h
    · exact absurd hf (seq_keep I5 h)
  have k4 : f4 = 0 := by
    by_cases h : f4 = 0
    · exact h
    · exact absurd k5 (seq_keep T h)
  have k3 : f3 = 0 := by
    by_cases h : f3 = 0
    · exact h
    · exact absurd k4 (seq_keep I4 h)
  have k2 : f2 = 0 := by
    by_cases h : f2 = 0
    · exact h
    · exact absurd k3 (seq_keep I3 h)
  have k1 : f1 = 0 := by
    by_cases h : f1 = 0
    · exact h
    · exact absurd k2 (seq_keep I2 h)
  have kh : fh = 0 := by
    by_cases h : fh = 0
    · exact h
    · exact absurd k1 (seq_keep I1 h)
  obtain ⟨v, v1, v2⟩ := seq_v H kh
  obtain ⟨i1, a1, b1⟩ := seq_v I1 k1
  obtain ⟨i2, a2, b2⟩ := seq_v I2 k2
  obtain ⟨i3, a3, b3⟩ := seq_v I3 k3
  obtain ⟨i4, a4, b4⟩ := seq_v I4 k4
  obtain ⟨S, t1, t2⟩ := seq_v T k5
  obtain ⟨i5, a5, b5⟩ := seq_v I5 hf
  subst v2 t2
  have r2 := idx_rng a2
  have e2 : ic2 = 1 := by have := b2.1; omega
  have ej : ja2 = p1 + 3 + i2.2.1 * 2 := by
    rcases b2.2.2 with h9 | ⟨h7, _, h9⟩
    · omega
    · rw [h9, e2, h7]
      rfl
  have t3 : DIC β ja2 p2 = some S := by
    unfold TOPO at t1
    cases hD : DICB β n ja2 p2 with
    | none => rw [hD] at t1; exact absurd t1 (by simp)
    | some S2 =>
      rw [hD, Option.bind_some] at t1
      split at t1
      · rw [← Option.some.inj t1]
        exact dicb_some hD
      · exact absurd t1 (by simp)
  have eC : CFX β n = (if (S 18).1 = -1 then some (0, 0) else PRX β n (S 18).2.2 (S 18).2.1).bind fun q => some ((i5.2.1, p17 + 3), q, (i4.2.1, p3 + 3)) := by
    unfold CFX
    rw [v1, Option.bind_some, a1, Option.bind_some, b1.2.1, a2, Option.bind_some, b2.2.1, a3, Option.bind_some, b3.2.1, a4, Option.bind_some, ← ej, t3, Option.bind_some, ← e17, a5, Option.bind_some]
  have sl := shd_of a5 b5 hl h5
  have sg := shd_of a4 b4 hg h4
  rcases hP with ⟨q1, q2⟩ | ⟨q1, d, q2, q3⟩
  · refine ⟨((i5.2.1, p17 + 3), (0, 0), (i4.2.1, p3 + 3)), ?_, sl, Or.inl q2, sg⟩
    rw [eC, if_pos q1]
    rfl
  · refine ⟨((i5.2.1, p17 + 3), d, (i4.2.1, p3 + 3)), ?_, sl, q3, sg⟩
    rw [eC, if_neg q1, q2]
    rfl
theorem cfc_t {f1 tf : Nat → Int32} {n1 T F ll wl ol lo wo oo lg wg og : Int} {c : Prop} (S : CND c (SHF f1 n1 tf T F)) (hc : c) (eF : F = 0) (en : n1 = T) (h : CFC (GB f1 n1) n1 ll wl ol lo wo oo lg wg og) : CFC (GB tf T) T ll wl ol lo wo oo lg wg og ∧ GB f1 n1 = GB tf T := by
  subst en
  rw [shf_0 (S hc) eF] at h
  exact ⟨h, shf_0 (S hc) eF⟩
def SHW (f ic oa ob oa1 ob1 : Int) : Prop := ¬ (f = 0) ∨ ic ≤ 0 ∨ (oa1 = oa ∧ ob1 = ob)
def IXO (f ic oa n ob : Int) : Prop := ¬ (f = 0) ∨ ic = 0 ∨ (0 ≤ oa ∧ oa ≤ n ∧ 1 ≤ ob ∧ ob ≤ 4)
/-! code, as the class answers -/
theorem hsb_1 {r : Int} {P : Prop} (h : HSB r P) (hr : ¬ (r = 0)) : P := by
  rcases h with ⟨_, h⟩ | ⟨h, _⟩
  · exact h
  · exact absurd h hr
theorem hsb_0 {r : Int} {P : Prop} (h : HSB r P) (hr : r = 0) : ¬ P := by
  rcases h with ⟨h, _⟩ | ⟨_, h⟩
  · omega
  · exact h
theorem hsb_k {r len ob cap k k2 : Int} {bg : Nat → Int32} (h : HSB r (HASP len ob bg cap k)) (e : k = k2) : HSB r (HASP len ob bg cap k2) := e ▸ h
def BOK (β : Int → Int) (len ob oa : Int) (bg : Nat → Int32) (cap k : Int) : Prop := HASP len ob bg cap k ∧ (ob ≤ 0 ∨ (ORG oa k ob ∧ k < 65536)) ∧ 0 ≤ BEGE β len ob oa bg k ∧ BEGE β len ob oa bg k ≤ 1500
def FOK (β : Int → Int) (len ob oa : Int) (bg fi : Nat → Int32) (cap k : Int) : Prop := HASP len ob bg cap k ∧ (ob ≤ 0 ∨ (ORG oa k ob ∧ k < 65536)) ∧ 0 ≤ FINE β len ob oa fi k ∧ FINE β len ob oa fi k ≤ 1500
theorem beg_o {β : Int → Int} {len ob oa cap k : Int} {bg : Nat → Int32} {r : Int32} (h : CND (ORG oa k ob) (r = Int32.ofInt (OBJ β len ob oa k))) (ho : 0 < ob) : CND (BOK β len ob oa bg cap k) (Int32.toInt r = BEGE β len ob oa bg k) := by
  intro b
  obtain ⟨_, b1, b2, b3⟩ := b
  unfold BEGE at b2 b3 ⊢
  rw [if_pos ho] at b2 b3 ⊢
  rw [h (by rcases b1 with b1 | b1; omega; exact b1.1)]
  exact fb_ofI (by omega) (by omega)
theorem beg_b {β : Int → Int} {len ob oa cap : Int} {bg : Nat → Int32} {k r : Int32} (e : bg (Int32.toNatClampNeg k) = r) (ho : ¬ (0 < ob)) : CND (BOK β len ob oa bg cap (Int32.toInt k)) (Int32.toInt r = BEGE β len ob oa bg (Int32.toInt k)) := by
  intro _
  unfold BEGE
  rw [if_neg ho, ← e]
  rfl
theorem beg_n {β : Int → Int} {len ob oa cap k s : Int} {bg : Nat → Int32} {P : Prop} (h : HSB s (HASP len ob bg cap k)) (hs : s = 0) : CND (BOK β len ob oa bg cap k) P := fun b => absurd b.1 (hsb_0 h hs)
theorem fin_o {β : Int → Int} {len ob oa cap : Int} {bg fi : Nat → Int32} {k z r : Int32} (h : CND (ORG oa (Int32.toInt z) ob) (r = Int32.ofInt (OBJ β len ob oa (Int32.toInt z)))) (ez : k + 1 = z) (ho : 0 < ob) : CND (FOK β len ob oa bg fi cap (Int32.toInt k)) (Int32.toInt r = FINE β len ob oa fi (Int32.toInt k)) := by
  intro b
  obtain ⟨_, b1, b2, b3⟩ := b
  unfold FINE at b2 b3 ⊢
  rw [if_pos ho] at b2 b3 ⊢
  rcases b1 with b1 | ⟨b1, b4⟩
  · omega
  · have h1 : Int32.toInt (1 : Int32) = 1 := rfl
    have t : Int32.toInt z = Int32.toInt k + 1 := by
      rw [← ez, fb_addI (by have := b1.2.2.1; omega) (by omega), h1]
    rw [t] at h
    rw [h ⟨b1.1, b1.2.1, by have := b1.2.2.1; omega, by omega, b1.2.2.2.2⟩]
    exact fb_ofI (by omega) (by omega)
theorem fin_b {β : Int → Int} {len ob oa cap : Int} {bg fi : Nat → Int32} {k r : Int32} (e : fi (Int32.toNatClampNeg k) = r) (ho : ¬ (0 < ob)) : CND (FOK β len ob oa bg fi cap (Int32.toInt k)) (Int32.toInt r = FINE β len ob oa fi (Int32.toInt k)) := by
  intro _
  unfold FINE
  rw [if_neg ho, ← e]
  rfl
theorem fin_n {β : Int → Int} {len ob oa cap k s : Int} {bg fi : Nat → Int32} {P : Prop} (h : HSB s (HASP len ob bg cap k)) (hs : s = 0) : CND (FOK β len ob oa bg fi cap k) P := fun b => absurd b.1 (hsb_0 h hs)
theorem val_b {β : Int → Int} {len ob oa cap k : Int} {bg fi : Nat → Int32} (h : HASP len ob bg cap k) (V : HASP len ob bg cap k → VALK β len ob oa bg fi k) : BOK β len ob oa bg cap k := ⟨h, (V h).1, (V h).2.1, by have := V h; have := this.2.2; omega⟩
theorem val_f {β : Int → Int} {len ob oa cap k : Int} {bg fi : Nat → Int32} (h : HASP len ob bg cap k) (V : HASP len ob bg cap k → VALK β len ob oa bg fi k) : FOK β len ob oa bg fi cap k := ⟨h, (V h).1, by have := V h; have := this.2; omega, (V h).2.2.2⟩
theorem cco_ge {β : Int → Int} {len ob oa cap k i r : Int} {bg fi : Nat → Int32} {a b d : Int32} (h : HASP len ob bg cap k) (V : HASP len ob bg cap k → VALK β len ob oa bg fi k) (F : CND (FOK β len ob oa bg fi cap k) (Int32.toInt a = FINE β len ob oa fi k)) (B : CND (BOK β len ob oa bg cap k) (Int32.toInt b = BEGE β len ob oa bg k)) (e : a - b = d) (hi : Int32.toInt d ≤ i) (hr : r = -1) : CCO β len ob oa bg fi cap k i r := by
  have f := F (val_f h V)
  have b9 := B (val_b h V)
  have v := (V h).2
  have t : Int32.toInt d = Int32.toInt a - Int32.toInt b := by rw [← e]; exact fb_subI (by omega) (by omega)
  exact Or.inr ⟨fun h9 => by have := h9.2.2; omega, hr⟩
theorem cco_get {β : Int → Int} {len ob oa cap k y r : Int} {bg fi : Nat → Int32} {a b b2 d i x : Int32} (h : HASP len ob bg cap k) (V : HASP len ob bg cap k → VALK β len ob oa bg fi k) (F : CND (FOK β len ob oa bg fi cap k) (Int32.toInt a = FINE β len ob oa fi k)) (B : CND (BOK β len ob oa bg cap k) (Int32.toInt b = BEGE β len ob oa bg k)) (e : a - b = d) (h0 : 0 ≤ Int32.toInt i) (hi : Int32.toInt i < Int32.toInt d) (B2 : CND (BOK β len ob oa bg cap k) (Int32.toInt b2 = BEGE β len ob oa bg k)) (e2 : b2 + i = x) (hg : r = β y) (hy : y = Int32.toInt x) : CCO β len ob oa bg fi cap k (Int32.toInt i) r := by
  have f := F (val_f h V)
  have b9 := B (val_b h V)
  have b8 := B2 (val_b h V)
  have v := (V h).2
  have t : Int32.toInt d = Int32.toInt a - Int32.toInt b := by rw [← e]; exact fb_subI (by omega) (by omega)
  have t2 : Int32.toInt x = Int32.toInt b2 + Int32.toInt i := by rw [← e2]; exact fb_addI (by omega) (by omega)
  refine Or.inl ⟨h, h0, by omega, ?_⟩
  rw [hg, hy, t2, b8]
theorem shw_l {y : Int64} {z : Int32} (e : Int64.toInt32 y = z) (h : 0 ≤ Int64.toInt y ∧ Int64.toInt y ≤ 1500) : Int32.toInt z = Int64.toInt y := by rw [← e]; exact l2i_in (by omega) (by omega)
theorem shw_pf {f ic oa ob oa1 ob1 l m ja f0 n : Int} (h : CND (0 ≤ oa ∧ oa ≤ 1500) (SHW f ic oa ob oa1 ob1)) (o : IXO f ic oa n ob) (N : IXN f0 f l m ic ja) (hf : f = 0) (hn : n ≤ 1500 := by omega) (hl : 0 ≤ l := by omega) : ic = 0 ∨ (ob1 = ob ∧ oa1 = oa) := by
  rcases o with o | o | ⟨o1, o2, _⟩
  · exact absurd hf o
  · exact Or.inl o
  · rcases h ⟨o1, by omega⟩ with h | h | ⟨h1, h2⟩
    · exact absurd hf h
    · unfold IXN at N
      omega
    · exact Or.inr ⟨h2, h1⟩
theorem seq_k0 {α : Type} {f0 f1 : Int} {o : Option α} {P : α → Prop} (h : SEQ f0 f1 o P) (h1 : f1 = 0) : f0 = 0 := by
  by_cases h0 : f0 = 0
  · exact h0
  · exact absurd h1 (seq_keep h h0)
theorem pvc_e {β : Int → Int} {n a b c d lo wo oo : Int} (h : PVC β n a b lo wo oo) (e1 : a = c) (e2 : b = d) : PVC β n c d lo wo oo := by subst e1 e2; exact h
