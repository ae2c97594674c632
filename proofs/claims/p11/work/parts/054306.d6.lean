/-! programs within programs (p8 to p11) -/
def PRGL (β : Int → Int) (b e : Int) : List Int := (List.range (e - b).toNat).map fun i : Nat => β (b + i)
/-- a program and how many bytes of it are done -/
abbrev FR8 := List Int × Int
def CLR (β : Int → Int) (cb cf cp : Nat → Int32) (d : Int) : List FR8 := (List.range d.toNat).map fun i => (PRGL β (Int32.toInt (cb i)) (Int32.toInt (cf i)), Int32.toInt (cp i) - Int32.toInt (cb i))
theorem clr_len {β : Int → Int} {cb cf cp : Nat → Int32} {d : Int} : (CLR β cb cf cp d).length = d.toNat := by unfold CLR; rw [List.length_map, List.length_range]
theorem clr_push {β : Int → Int} {cb cf cp cb1 cf1 cp1 : Nat → Int32} {d d1 : Int} {x b f p : Int32} (e1 : upd cb (Int32.toNatClampNeg x) b = cb1) (e2 : upd cf (Int32.toNatClampNeg x) f = cf1) (e3 : upd cp (Int32.toNatClampNeg x) p = cp1) (hx : Int32.toInt x = d) (h0 : 0 ≤ d) (hd : d1 = d + 1) : CLR β cb1 cf1 cp1 d1 = CLR β cb cf cp d ++ [(PRGL β (Int32.toInt b) (Int32.toInt f), Int32.toInt p - Int32.toInt b)] := by
  have hc : Int32.toNatClampNeg x = d.toNat := by show (Int32.toInt x).toNat = _; rw [hx]
  rw [hc] at e1 e2 e3
  unfold CLR
  rw [show d1.toNat = d.toNat + 1 by omega, List.range_succ, List.map_append]
  congr 1
  · refine List.map_congr_left (fun i hi => ?_)
    have := List.mem_range.mp hi
    rw [← e1, ← e2, ← e3, upd_eq, upd_eq, upd_eq, if_neg (by omega), if_neg (by omega), if_neg (by omega)]
  · show [(PRGL β (Int32.toInt (cb1 d.toNat)) (Int32.toInt (cf1 d.toNat)), Int32.toInt (cp1 d.toNat) - Int32.toInt (cb1 d.toNat))] = _
    rw [← e1, ← e2, ← e3, upd_eq, upd_eq, upd_eq, if_pos rfl, if_pos rfl, if_pos rfl]
theorem clr_pop {β : Int → Int} {cb cf cp : Nat → Int32} {d d1 : Int} {x b f p : Int32} (e1 : cb (Int32.toNatClampNeg x) = b) (e2 : cf (Int32.toNatClampNeg x) = f) (e3 : cp (Int32.toNatClampNeg x) = p) (hx : Int32.toInt x = d1) (h0 : 0 ≤ d1) (hd : d = d1 + 1) : CLR β cb cf cp d = CLR β cb cf cp d1 ++ [(PRGL β (Int32.toInt b) (Int32.toInt f), Int32.toInt p - Int32.toInt b)] := by
  have hc : Int32.toNatClampNeg x = d1.toNat := by show (Int32.toInt x).toNat = _; rw [hx]
  rw [hc] at e1 e2 e3
  unfold CLR
  rw [show d.toNat = d1.toNat + 1 by omega, List.range_succ, List.map_append]
  congr 1
  show [(PRGL β (Int32.toInt (cb d1.toNat)) (Int32.toInt (cf d1.toNat)), Int32.toInt (cp d1.toNat) - Int32.toInt (cb d1.toNat))] = _
  rw [e1, e2, e3]
/-- the programs of a sort -/
def CTB (β : Int → Int) (len ob oa : Int) (bg fi : Nat → Int32) (cap k : Int) : Option (List Int) := if 0 ≤ k ∧ k < len ∧ (0 < ob ∨ (k < cap ∧ ¬ (Int32.toInt (bg k.toNat) = -1))) then some (PRGL β (BEGE β len ob oa bg k) (FINE β len ob oa fi k)) else none
theorem ctb_y {β : Int → Int} {len ob oa cap k : Int} {bg fi : Nat → Int32} (h : HASP len ob bg cap k) : CTB β len ob oa bg fi cap k = some (PRGL β (BEGE β len ob oa bg k) (FINE β len ob oa fi k)) := if_pos h
theorem ctb_n {β : Int → Int} {len ob oa cap k : Int} {bg fi : Nat → Int32} (h : ¬ HASP len ob bg cap k) : CTB β len ob oa bg fi cap k = none := if_neg h
def VLF (β : Int → Int) (len ob oa : Int) (bg fi : Nat → Int32) (cap : Int) : Prop := ∀ k, HASP len ob bg cap k → VALK β len ob oa bg fi k
theorem vlf_b {β : Int → Int} {len ob oa cap k k0 : Int} {bg fi : Nat → Int32} {r : Int32} (V : VLF β len ob oa bg fi cap) (h : HASP len ob bg cap k0) (hk : k = k0) (B : CND (BOK β len ob oa bg cap k) (Int32.toInt r = BEGE β len ob oa bg k)) : (0 ≤ Int32.toInt r ∧ Int32.toInt r ≤ 1500) ∧ EQP (Int32.toInt r) (BEGE β len ob oa bg k0) := by
  subst hk
  have e := B (val_b h (V k))
  have v := (V k h).2
  exact ⟨by omega, e⟩
theorem vlf_f {β : Int → Int} {len ob oa cap k k0 : Int} {bg fi : Nat → Int32} {r : Int32} (V : VLF β len ob oa bg fi cap) (h : HASP len ob bg cap k0) (hk : k = k0) (F : CND (FOK β len ob oa bg fi cap k) (Int32.toInt r = FINE β len ob oa fi k)) : (0 ≤ Int32.toInt r ∧ Int32.toInt r ≤ 1500) ∧ EQP (Int32.toInt r) (FINE β len ob oa fi k0) := by
  subst hk
  have e := F (val_f h (V k))
  have v := (V k h).2
  exact ⟨by omega, e⟩
theorem vlf_o {β : Int → Int} {len ob oa cap k a b : Int} {bg fi : Nat → Int32} (V : VLF β len ob oa bg fi cap) (h : HASP len ob bg cap k) (ea : EQP a (BEGE β len ob oa bg k)) (eb : EQP b (FINE β len ob oa fi k)) : a ≤ b := by
  have v := (V k h).2.2.1
  unfold EQP at ea eb
  omega
/-- a PILE, the program that is run, those that wait, and a fault; behind a fault the program counts -/
abbrev CK := List Int64 × FR8 × List FR8
def KEQ (p : List Int64) (c : FR8) (w : List FR8) (r : Int) (q : CK × Int) : Prop := r = q.2 ∧ c = q.1.2.1 ∧ (r = 0 → p = q.1.1 ∧ w = q.1.2.2)
def CLL (tab : Int → Option (List Int)) (bias : Int) (s : CK) : CK × Int := if s.1.length < 1 then (s, 2) else match tab (WHL s.1 0 + bias) with
  | none => (s, 4)
  | some g => if 10 ≤ s.2.2.length then (s, 5) else ((DRP s.1 1, (g, 0), s.2.2 ++ [s.2.1]), 0)
def RTN (s : CK) : CK × Int := if s.2.2.length < 1 then (s, 1) else ((s.1, s.2.2.getLastD s.2.1, s.2.2.dropLast), 0)
theorem keq_f {p p1 : List Int64} {c c1 : FR8} {w w1 : List FR8} {r k : Int} (hr : r = k) (hk : ¬ (k = 0)) (e : c1 = c) : KEQ p1 c1 w1 r ((p, c, w), k) := ⟨hr, e, fun h => absurd (hr.symm.trans h) hk⟩
theorem cll_2 {f f1 : Nat → Int64} {n n1 r bias : Int} {tab : Int → Option (List Int)} {c c1 : FR8} {w w1 : List FR8} (h0 : 0 ≤ n) (h : n < 1) (hr : r = 2) (e : c1 = c) : KEQ (PA f1 n1) c1 w1 r (CLL tab bias (PA f n, c, w)) := by
  unfold CLL
  rw [if_pos (by show (PA f n).length < 1; rw [pa_len]; omega)]
  exact keq_f hr (by decide) e
theorem cll_4 {f f1 : Nat → Int64} {n n1 r bias k : Int} {tab : Int → Option (List Int)} {c c1 : FR8} {w w1 : List FR8} (h0 : 0 ≤ n) (h : 1 ≤ n) (hk : WHL (PA f n) 0 + bias = k) (ht : tab k = none) (hr : r = 4) (e : c1 = c) : KEQ (PA f1 n1) c1 w1 r (CLL tab bias (PA f n, c, w)) := by
  unfold CLL
  rw [if_neg (by show ¬ ((PA f n).length < 1); rw [pa_len]; omega)]
  show KEQ _ _ _ _ (match tab (WHL (PA f n) 0 + bias) with | none => _ | some g => _)
  rw [hk, ht]
  exact keq_f hr (by decide) e
theorem cll_5 {β : Int → Int} {cb cf cp : Nat → Int32} {f f1 : Nat → Int64} {n n1 r bias k d : Int} {tab : Int → Option (List Int)} {g : List Int} {c c1 : FR8} {w1 : List FR8} (h0 : 0 ≤ n) (h : 1 ≤ n) (hk : WHL (PA f n) 0 + bias = k) (ht : tab k = some g) (hd : 10 ≤ d) (hr : r = 5) (e : c1 = c) : KEQ (PA f1 n1) c1 w1 r (CLL tab bias (PA f n, c, CLR β cb cf cp d)) := by
  unfold CLL
  rw [if_neg (by show ¬ ((PA f n).length < 1); rw [pa_len]; omega)]
  show KEQ _ _ _ _ (match tab (WHL (PA f n) 0 + bias) with | none => _ | some g => if 10 ≤ (CLR β cb cf cp d).length then _ else _)
  rw [hk, ht]
  show KEQ _ _ _ _ (if 10 ≤ (CLR β cb cf cp d).length then _ else _)
  rw [if_pos (by rw [clr_len]; omega)]
  exact keq_f hr (by decide) e
theorem cll_0 {β : Int → Int} {cb cf cp cb1 cf1 cp1 : Nat → Int32} {f : Nat → Int64} {n n1 r bias k d d1 : Int} {tab : Int → Option (List Int)} {g : List Int} {c c1 : FR8} (h0 : 0 ≤ n) (h : 1 ≤ n) (hk : WHL (PA f n) 0 + bias = k) (ht : tab k = some g) (hd0 : 0 ≤ d) (hd : d < 10) (hr : r = 0) (hn : n1 = n - 1) (ec : c1 = (g, 0)) (ew : CLR β cb1 cf1 cp1 d1 = CLR β cb cf cp d ++ [c]) : KEQ (PA f n1) c1 (CLR β cb1 cf1 cp1 d1) r (CLL tab bias (PA f n, c, CLR β cb cf cp d)) := by
  unfold CLL
  rw [if_neg (by show ¬ ((PA f n).length < 1); rw [pa_len]; omega)]
  show KEQ _ _ _ _ (match tab (WHL (PA f n) 0 + bias) with | none => _ | some g => if 10 ≤ (CLR β cb cf cp d).length then _ else ((DRP (PA f n) 1, (g, 0), CLR β cb cf cp d ++ [c]), (0 : Int)))
  rw [hk, ht]
  show KEQ _ _ _ _ (if 10 ≤ (CLR β cb cf cp d).length then _ else ((DRP (PA f n) 1, (g, 0), CLR β cb cf cp d ++ [c]), (0 : Int)))
  rw [if_neg (by rw [clr_len]; omega)]
  exact ⟨hr, ec, fun _ => ⟨drp_pa h0 (by omega), ew⟩⟩
theorem rtn_1 {β : Int → Int} {cb cf cp : Nat → Int32} {p p1 : List Int64} {d r : Int} {c c1 : FR8} {w1 : List FR8} (h : d < 1) (hr : r = 1) (e : c1 = c) : KEQ p1 c1 w1 r (RTN (p, c, CLR β cb cf cp d)) := by
  unfold RTN
  rw [if_pos (by show (CLR β cb cf cp d).length < 1; rw [clr_len]; omega)]
  exact keq_f hr (by decide) e
theorem rtn_0 {β : Int → Int} {cb cf cp : Nat → Int32} {p : List Int64} {d d1 r : Int} {c c1 : FR8} (h : CLR β cb cf cp d = CLR β cb cf cp d1 ++ [c1]) (h1 : 1 ≤ d) (hr : r = 0) : KEQ p c1 (CLR β cb cf cp d1) r (RTN (p, c, CLR β cb cf cp d)) := by
  unfold RTN
  rw [if_neg (by show ¬ ((CLR β cb cf cp d).length < 1); rw [clr_len]; omega)]
  refine ⟨hr, ?_, fun _ => ⟨rfl, ?_⟩⟩
  · show c1 = (CLR β cb cf cp d).getLastD c
    rw [h, List.getLastD_concat]
  · show _ = (CLR β cb cf cp d).dropLast
    rw [h, List.dropLast_concat]
theorem shr16 (x : Int64) : Int64.toInt (x >>> 16) = Int64.toInt x / 65536 := by
  show (BitVec.sshiftRight' x.toBitVec ((16 : Int64).toBitVec.smod 64)).toInt = x.toBitVec.toInt / 65536
  have e : (16 : Int64).toBitVec.smod 64 = 16#64 := by decide
  rw [e]
  show (BitVec.sshiftRight x.toBitVec 16).toInt = _
  rw [BitVec.toInt_sshiftRight, Int.shiftRight_eq_div_pow]
  rfl
theorem whl_rng {z : Int64} {p : List Int64} {d : Int} (h : z = BEL p d >>> 16) : -140737488355328 ≤ Int64.toInt z ∧ Int64.toInt z ≤ 140737488355328 := by
  rw [h, shr16]
  have := fb_rngL (BEL p d)
  omega
theorem whl_k {z : Int64} {p : List Int64} {b k : Int} (h : z = BEL p 0 >>> 16) (e : k = Int64.toInt z + b) : WHL p 0 + b = k := by unfold WHL; rw [← h, e]
theorem cur_0 {β : Int → Int} {a b x y : Int} (ea : EQP a x) (eb : EQP b y) : ((PRGL β a b, a - a) : FR8) = (PRGL β x y, 0) := by
  unfold EQP at ea eb
  rw [ea, eb, Int.sub_self]
/-- those that wait are each within their program -/
def CRD (cb cf cp : Nat → Int32) (d : Int) : Prop := ∀ i : Nat, (i : Int) < d → Int32.toInt (cb i) ≤ Int32.toInt (cp i) ∧ Int32.toInt (cp i) ≤ Int32.toInt (cf i)
theorem crd_0 {cb cf cp : Nat → Int32} {d : Int} (h : d ≤ 0) : CRD cb cf cp d := fun i hi => absurd hi (by omega)
theorem crd_le {cb cf cp : Nat → Int32} {d d1 : Int} (h : CRD cb cf cp d) (hd : d1 ≤ d) : CRD cb cf cp d1 := fun i hi => h i (by omega)
theorem crd_push {cb cf cp cb1 cf1 cp1 : Nat → Int32} {d d1 : Int} {x b f p : Int32} (h : CRD cb cf cp d) (e1 : upd cb (Int32.toNatClampNeg x) b = cb1) (e2 : upd cf (Int32.toNatClampNeg x) f = cf1) (e3 : upd cp (Int32.toNatClampNeg x) p = cp1) (hx : Int32.toInt x = d) (h0 : 0 ≤ d) (hd : d1 = d + 1) (o1 : Int32.toInt b ≤ Int32.toInt p) (o2 : Int32.toInt p ≤ Int32.toInt f) : CRD cb1 cf1 cp1 d1 := by
  have hc : Int32.toNatClampNeg x = d.toNat := by show (Int32.toInt x).toNat = _; rw [hx]
  rw [hc] at e1 e2 e3
  intro i hi
  rw [← e1, ← e2, ← e3, upd_eq, upd_eq, upd_eq]
  by_cases hq : i = d.toNat
  · rw [if_pos hq, if_pos hq, if_pos hq]; exact ⟨o1, o2⟩
  · rw [if_neg hq, if_neg hq, if_neg hq]; exact h i (by omega)
theorem crd_pop {cb cf cp : Nat → Int32} {d d1 : Int} {x b f p : Int32} (h : CRD cb cf cp d) (e1 : cb (Int32.toNatClampNeg x) = b) (e2 : cf (Int32.toNatClampNeg x) = f) (e3 : cp (Int32.toNatClampNeg x) = p) (hx : Int32.toInt x = d1) (h0 : 0 ≤ d1) (hd : d = d1 + 1) : Int32.toInt b ≤ Int32.toInt p ∧ Int32.toInt p ≤ Int32.toInt f := by
  have hc : Int32.toNatClampNeg x = d1.toNat := by show (Int32.toInt x).toNat = _; rw [hx]
  have := h d1.toNat (by omega)
  rw [← hc, e1, e2, e3] at this
  exact this
/-- the next byte of a program, -1 where it is over -/
def TKB (c : FR8) : Int × FR8 := if c.2 < c.1.length then (c.1.getD c.2.toNat 0, (c.1, c.2 + 1)) else (-1, c)
theorem prgl_len {β : Int → Int} {b e : Int} : (PRGL β b e).length = (e - b).toNat := by unfold PRGL; rw [List.length_map, List.length_range]
theorem prgl_get {β : Int → Int} {b e : Int} {i : Nat} (h : (i : Int) < e - b) : (PRGL β b e).getD i 0 = β (b + i) := by
  unfold PRGL
  rw [List.getD_eq_getElem?_getD, List.getElem?_map, List.getElem?_range (by omega)]
  rfl
theorem tkb_n {β : Int → Int} {b f p p1 r : Int} (h1 : b ≤ p) (h : f ≤ p) (hr : r = -1) (hp : p1 = p) : ((r, (PRGL β b f, p1 - b)) : Int × FR8) = TKB (PRGL β b f, p - b) := by
  subst hr hp
  unfold TKB
  rw [if_neg (by show ¬ (p1 - b < ((PRGL β b f).length : Int)); rw [prgl_len]; omega)]
theorem tkb_y {β : Int → Int} {b f p p1 r q : Int} (h1 : b ≤ p) (h : p < f) (hr : r = β q) (hq : q = p) (hp : p1 = p + 1) : ((r, (PRGL β b f, p1 - b)) : Int × FR8) = TKB (PRGL β b f, p - b) := by
  subst hr hp hq
  unfold TKB
  rw [if_pos (by show q - b < ((PRGL β b f).length : Int); rw [prgl_len]; omega)]
  have e : (PRGL β b f).getD (q - b).toNat 0 = β q := by rw [prgl_get (by omega)]; congr 1; omega
  show _ = ((PRGL β b f).getD (q - b).toNat 0, (PRGL β b f, q - b + 1))
  rw [e]
  congr 2
  omega

theorem nat32 {a : Int32} (h : 0 ≤ Int32.toInt a) : a.toBitVec.toNat = (Int32.toInt a).toNat := by
  have e : Int32.toInt a = a.toBitVec.toInt := rfl
  rw [e] at h ⊢
  rw [BitVec.toInt_eq_toNat_cond] at h ⊢
  have := a.toBitVec.isLt
  split at h <;> split <;> omega
theorem shl8 {a b z y : Int32} (e1 : a <<< (8 &&& 31) = z) (e2 : z ||| b = y) (h : 0 ≤ Int32.toInt a) (h1 : Int32.toInt a ≤ 255) (g : 0 ≤ Int32.toInt b) (g1 : Int32.toInt b ≤ 255) : Int32.toInt y = 256 * Int32.toInt a + Int32.toInt b := by
  have ha := nat32 h
  have hb := nat32 g
  have hy : y.toBitVec = (a.toBitVec <<< 8) ||| b.toBitVec := by rw [← e2, ← e1]; rfl
  have hn : y.toBitVec.toNat = 256 * a.toBitVec.toNat + b.toBitVec.toNat := by
    rw [hy, BitVec.toNat_or, BitVec.toNat_shiftLeft]
    have q : a.toBitVec.toNat <<< 8 % 2 ^ 32 = a.toBitVec.toNat <<< 8 := Nat.mod_eq_of_lt (by rw [Nat.shiftLeft_eq]; omega)
    rw [q, ← Nat.shiftLeft_add_eq_or_of_lt (by omega : b.toBitVec.toNat < 2 ^ 8), Nat.shiftLeft_eq]
    omega
  show y.toBitVec.toInt = _
  rw [BitVec.toInt_eq_toNat_cond, if_pos (by omega), hn]
  omega
/-- bytes behind a number's first -/
def TKS : Nat → FR8 → Int32 → Int32 × FR8 × Int
  | 0, c, a => (a, c, 0)
  | n + 1, c, a => if (TKB c).1 = -1 then (a, (TKB c).2, 7) else TKS n (TKB c).2 ((a <<< (8 &&& 31)) ||| Int32.ofInt (TKB c).1)
theorem tks_0 {i k : Int} {c : FR8} {a : Int32} (hk : k ≤ i) : TKS (k - i).toNat c a = (a, c, 0) := by
  rw [show (k - i).toNat = 0 by omega]; rfl
theorem tks_n {r i k : Int} {c c1 : FR8} {a : Int32} (h : ((r, c1) : Int × FR8) = TKB c) (hr : r = -1) (hk : i < k) : TKS (k - i).toNat c a = (a, c1, 7) := by
  rw [show (k - i).toNat = (k - i - 1).toNat + 1 by omega]
  show (if (TKB c).1 = -1 then (a, (TKB c).2, 7) else TKS _ (TKB c).2 ((a <<< (8 &&& 31)) ||| Int32.ofInt (TKB c).1)) = _
  rw [← h, if_pos hr]
theorem tks_s {i i1 k : Int} {c c1 : FR8} {a b z y : Int32} (h : ((Int32.toInt b, c1) : Int × FR8) = TKB c) (hr : ¬ (Int32.toInt b = -1)) (hk : i < k) (hi : i1 = i + 1) (e1 : a <<< (8 &&& 31) = z) (e2 : z ||| b = y) : TKS (k - i).toNat c a = TKS (k - i1).toNat c1 y := by
  rw [show (k - i).toNat = (k - i1).toNat + 1 by omega]
  show (if (TKB c).1 = -1 then (a, (TKB c).2, 7) else TKS _ (TKB c).2 ((a <<< (8 &&& 31)) ||| Int32.ofInt (TKB c).1)) = _
  rw [← h, if_neg hr]
  show TKS _ c1 ((a <<< (8 &&& 31)) ||| Int32.ofInt (Int32.toInt b)) = _
  rw [Int32.ofInt_toInt, e1, e2]
/-- few bytes tell no more than 65535 -/
def FEW (k i : Int) (a : Int32) : Prop := 2 < k ∨ (0 ≤ Int32.toInt a ∧ Int32.toInt a ≤ 65535 ∧ (i ≤ 1 → Int32.toInt a ≤ 255) ∧ (i ≤ 0 → Int32.toInt a = 0))
theorem few_0 {k : Int} : FEW k 0 0 := Or.inr ⟨by decide, by decide, fun _ => by decide, fun _ => by decide⟩
theorem few_s {k i i1 : Int} {a b z y : Int32} (h : FEW k i a) (e1 : a <<< (8 &&& 31) = z) (e2 : z ||| b = y) (h0 : 0 ≤ i) (hk : i < k) (hi : i1 = i + 1) (g : 0 ≤ Int32.toInt b) (g1 : Int32.toInt b ≤ 255) : FEW k i1 y := by
  by_cases hq : 2 < k
  · exact Or.inl hq
  · rcases h with h | ⟨a1, a2, a3, a4⟩
    · exact absurd h hq
    · have e := shl8 e1 e2 a1 (a3 (by omega)) g g1
      have := a3 (by omega)
      refine Or.inr ⟨by omega, by omega, fun h => ?_, fun h => ?_⟩
      · have := a4 (by omega); omega
      · omega
theorem few_w {k i : Int} {a : Int32} (h : FEW k i a) (hk : k ≤ 2) : 0 ≤ Int32.toInt a ∧ Int32.toInt a ≤ 65535 := by
  rcases h with h | ⟨a1, a2, _, _⟩
  · omega
  · exact ⟨a1, a2⟩
def WHN (x b : Int) : Int := if x = 28 then s16 b else if x ≤ 246 then x - 139 else if x ≤ 250 then (x - 247) * 256 + b + 108 else -(x - 251) * 256 - b - 108
theorem who_whn {x b r : Int} (h : WHO x b r) (h9 : ¬ (x = 29)) : r = WHN x b := by
  unfold WHN
  rcases h with ⟨a, e⟩ | ⟨a, e⟩ | ⟨a, a1, a2, e⟩ | ⟨a, a1, e⟩ | ⟨a, e⟩
  · rw [if_pos a, e]
  · exact absurd a h9
  · rw [if_neg a, if_pos a2, e]
  · rw [if_neg (by omega), if_neg (by omega), if_pos a1, e]
  · rw [if_neg (by omega), if_neg (by omega), if_neg (by omega), e]
def BHN (x : Int) : Int := if x = 28 then 2 else if x = 255 then 4 else if 247 ≤ x then 1 else 0
theorem bb_bhn {x r : Int} (h : BB x r) (h9 : ¬ (x = 29)) : r = BHN x := by
  unfold BHN
  unfold BB at h
  split
  · omega
  · split
    · omega
    · split <;> omega
/-- what a number tells -/
def NUMV (fam x : Int) (b : Int32) : Int64 := if x = 255 then (if fam = 0 then Int32.toInt64 b else Int32.toInt64 b * 65536) else Int32.toInt64 (Int32.ofInt (WHN x (Int32.toInt b))) * 65536
abbrev NP := List Int64 × FR8
def TKN (fam m x : Int) (s : NP) : NP × Int := if (TKS (BHN x).toNat s.2 0).2.2 = 0 then (((PSH m s.1 (NUMV fam x (TKS (BHN x).toNat s.2 0).1)).1, (TKS (BHN x).toNat s.2 0).2.1), (PSH m s.1 (NUMV fam x (TKS (BHN x).toNat s.2 0).1)).2) else ((s.1, (TKS (BHN x).toNat s.2 0).2.1), 7)
/-- behind a fault the program counts, the PILE doesn't -/
def NEQ (p : List Int64) (c : FR8) (r : Int) (q : NP × Int) : Prop := r = q.2 ∧ c = q.1.2 ∧ (r = 0 → p = q.1.1)
theorem tkn_7 {fam m x r k : Int} {p p1 : List Int64} {c c0 c1 : FR8} {a : Int32} {N : Nat} (hk : k = BHN x) (L : TKS k.toNat c0 0 = TKS N c a) (e : TKS N c a = (a, c1, 7)) (hr : r = 7) : NEQ p1 c1 r (TKN fam m x (p, c0)) := by
  have h := L.trans e
  rw [hk] at h
  unfold TKN
  show NEQ p1 c1 r (if (TKS (BHN x).toNat c0 0).2.2 = 0 then _ else ((p, (TKS (BHN x).toNat c0 0).2.1), (7 : Int)))
  rw [h, if_neg (by show ¬ ((7 : Int) = 0); decide)]
  exact ⟨hr, rfl, fun h => absurd (hr.symm.trans h) (by decide)⟩
theorem tkn_0 {fam m x r k : Int} {p p1 : List Int64} {c c0 : FR8} {a : Int32} {v : Int64} {N : Nat} (hk : k = BHN x) (L : TKS k.toNat c0 0 = TKS N c a) (e : TKS N c a = (a, c, 0)) (hv : v = NUMV fam x a) (P : PEQ p1 r (PSH m p v)) : NEQ p1 c r (TKN fam m x (p, c0)) := by
  have h := L.trans e
  rw [hk] at h
  unfold TKN
  show NEQ p1 c r (if (TKS (BHN x).toNat c0 0).2.2 = 0 then (((PSH m p (NUMV fam x (TKS (BHN x).toNat c0 0).1)).1, (TKS (BHN x).toNat c0 0).2.1), (PSH m p (NUMV fam x (TKS (BHN x).toNat c0 0).1)).2) else _)
  rw [h, if_pos rfl]
  show NEQ p1 c r (((PSH m p (NUMV fam x a)).1, c), (PSH m p (NUMV fam x a)).2)
  rw [← hv]
  exact ⟨P.1, rfl, P.2⟩
theorem numv_w {fam x : Int} {a r : Int32} {z v : Int64} (h : WHO x (Int32.toInt a) (Int32.toInt r)) (h9 : ¬ (x = 29)) (h5 : ¬ (x = 255)) (e1 : Int32.toInt64 r = z) (e2 : z * 65536 = v) : v = NUMV fam x a := by
  unfold NUMV
  rw [if_neg h5, ← who_whn h h9, Int32.ofInt_toInt, e1, e2]
theorem numv_0 {fam x : Int} {a : Int32} {v : Int64} (h5 : x = 255) (hf : fam = 0) (e : v = Int32.toInt64 a) : v = NUMV fam x a := by
  unfold NUMV
  rw [if_pos h5, if_pos hf, e]
theorem numv_1 {fam x : Int} {a : Int32} {v : Int64} (h5 : x = 255) (hf : fam = 1) (e : v = Int32.toInt64 a * 65536) : v = NUMV fam x a := by
  unfold NUMV
  rw [if_pos h5, if_neg (by omega), e]
theorem tks_e {k i : Int} {c : FR8} {a : Int32} (h : i = 0) : TKS k.toNat c a = TKS (k - i).toNat c a := by rw [h, Int.sub_zero]
theorem bb_le {x r : Int} (h : BB x r) (h9 : ¬ (x = 29)) (h5 : ¬ (x = 255)) : r ≤ 2 := by unfold BB at h; omega
theorem lng_1 {a : Int32} {z v : Int64} (e1 : Int32.toInt64 a = z) (e2 : z * 65536 = v) : v = Int32.toInt64 a * 65536 := by rw [e1, e2]
