/-! one operator of CFF, the reference's (p8 to p11) -/
theorem cpr_c {F : F8} {op : Int} {s : M8} (h : ¬ (op = 19 ∨ op = 20)) (h2 : ¬ (op = 282)) : CPR F op s = COP F op s := by unfold CPR; rw [if_neg h, if_neg h2]
theorem hlf_q {wh wh1 : WH} {x y x1 y1 : Int64} {u u1 ov ov1 r : Int} {P P1 : PRT2} {p p1 : List Int64} {q : Nat → Int64} {c : FR8} {w : List FR8} {Q : CS × Int} (C : CEQ wh1 c.2 P1 x1 y1 u1 ov1 r Q) (hp : r = 0 → p1 = []) : MEQ (M8.mk wh1 (P1, x1, y1, u1) ov1 p1 q c w) r (HLF (M8.mk wh (P, x, y, u) ov p q c w) Q) := by
  obtain ⟨c1, c2, c3, c4, c5⟩ := C
  refine ⟨c1, c2, ?_, c4, fun h => ?_⟩
  · show c = (c.1, _)
    rw [← c3]
  · obtain ⟨d1, d2, d3, d4⟩ := c5 h
    show M8.mk _ _ _ _ _ _ _ = M8.mk _ _ _ [] q (c.1, _) w
    rw [c2, ← c3, c4, d1, d2, d3, d4, hp h]
theorem cop_hr {F : F8} {op r : Int} {wh wh1 : WH} {x y x1 y1 : Int64} {u u1 ov ov1 : Int} {P P1 : PRT2} {p p1 : List Int64} {q : Nat → Int64} {c : FR8} {w : List FR8} (ho : MTW op) (C : CEQ wh1 c.2 P1 x1 y1 u1 ov1 r (HMS F.nm F.df F.lim c.1.length p op (wh, c.2, (P, x, y, u), ov))) (hp : r = 0 → p1 = []) : MEQ (M8.mk wh1 (P1, x1, y1, u1) ov1 p1 q c w) r (COP F op (M8.mk wh (P, x, y, u) ov p q c w)) := by
  unfold COP
  have hx := ho
  unfold MTW at hx
  rw [if_neg (by omega), if_neg (by omega), if_neg (by omega), if_neg (by omega), if_pos ho]
  exact hlf_q C hp
theorem cpr_s {F : F8} {op r : Int} {wh wh1 : WH} {x y : Int64} {u ov : Int} {P : PRT2} {p p1 : List Int64} {q : Nat → Int64} {c : FR8} {w : List FR8} (S : ((wh1, r) : WH × Int) = STM F.nm F.df p wh) (ho : op = 1 ∨ op = 3 ∨ op = 18 ∨ op = 23) (hp : r = 0 → p1 = []) : MEQ (M8.mk wh1 (P, x, y, u) ov p1 q c w) r (CPR F op (M8.mk wh (P, x, y, u) ov p q c w)) := by
  rw [cpr_c (by omega) (by omega)]
  exact cop_hr (by unfold MTW; omega) (hms_s (by omega) S) hp
theorem cpr_m {F : F8} {op r : Int} {wh wh1 : WH} {o : OU} {ov : Int} {p p1 : List Int64} {q : Nat → Int64} {c c1 : FR8} {w w1 : List FR8} (S : (((wh1, c1), r) : (WH × FR8) × Int) = MSR F.nm F.df p wh c) (hw : w1 = w) (ho : op = 19 ∨ op = 20) (hp : r = 0 → p1 = []) : MEQ (M8.mk wh1 o ov p1 q c1 w1) r (CPR F op (M8.mk wh o ov p q c w)) := by
  unfold CPR
  rw [if_pos ho]
  show MEQ _ r (HRF _ (MSR F.nm F.df p wh c))
  rw [← S, hw]
  refine ⟨rfl, rfl, rfl, rfl, fun h => ?_⟩
  show M8.mk _ _ _ _ _ _ _ = M8.mk _ _ _ [] _ _ _
  rw [hp h]
theorem cpr_v {F : F8} {op r a wa wa1 ht : Int} {wd wd1 : Int64} {x y x1 y1 : Int64} {u u1 ov : Int} {P P1 : PRT2} {p p1 : List Int64} {q : Nat → Int64} {c : FR8} {w : List FR8} (W : ((wa1, wd1) : Int × Int64) = MVW F.nm F.df p a (wa, wd)) (O : OEQ P1 x1 y1 u1 r (MVO F.lim p a wa (P, x, y, u))) (ha : a = op) (ho : op = 4 ∨ op = 21 ∨ op = 22) (hp : r = 0 → p1 = []) : MEQ (M8.mk ((wa1, wd1), ht) (P1, x1, y1, u1) ov p1 q c w) r (CPR F op (M8.mk ((wa, wd), ht) (P, x, y, u) ov p q c w)) := by
  subst ha
  rw [cpr_c (by omega) (by omega)]
  exact cop_hr (by unfold MTW; omega) (hms_v ho W O) hp
theorem cpr_e {F : F8} {op r wa wa1 ht : Int} {wd wd1 : Int64} {x y x1 y1 : Int64} {u u1 ov ov1 : Int} {P P1 : PRT2} {p p1 : List Int64} {q : Nat → Int64} {c : FR8} {w : List FR8} (W : ((wa1, wd1) : Int × Int64) = ENW F.nm F.df p (wa, wd)) (O : OEQ P1 x1 y1 u1 r (ENO F.lim p wa (P, x, y, u))) (hv : (r = 0 ∧ ov1 = 1) ∨ (¬ (r = 0) ∧ ov1 = ov)) (ho : op = 14) (hp : r = 0 → p1 = []) : MEQ (M8.mk ((wa1, wd1), ht) (P1, x1, y1, u1) ov1 p1 q c w) r (CPR F op (M8.mk ((wa, wd), ht) (P, x, y, u) ov p q c w)) := by
  rw [cpr_c (by omega) (by omega)]
  exact cop_hr (by unfold MTW; omega) (hms_e ho W O hv) hp
theorem cpr_10 {F : F8} {op r : Int} {wh : WH} {o : OU} {ov : Int} {p p1 : List Int64} {q : Nat → Int64} {c c1 : FR8} {w w1 : List FR8} (K : KEQ p1 c1 w1 r (CLL F.tl (BIA F.nl) (p, c, w))) (ho : op = 10) : MEQ (M8.mk wh o ov p1 q c1 w1) r (CPR F op (M8.mk wh o ov p q c w)) := by
  rw [cpr_c (by omega) (by omega)]
  exact cop_10 ho rfl rfl rfl K
theorem cpr_29 {F : F8} {op r : Int} {wh : WH} {o : OU} {ov : Int} {p p1 : List Int64} {q : Nat → Int64} {c c1 : FR8} {w w1 : List FR8} (K : KEQ p1 c1 w1 r (CLL F.tg (BIA F.ng) (p, c, w))) (ho : op = 29) : MEQ (M8.mk wh o ov p1 q c1 w1) r (CPR F op (M8.mk wh o ov p q c w)) := by
  rw [cpr_c (by omega) (by omega)]
  exact cop_29 ho rfl rfl rfl K
theorem cpr_11 {F : F8} {op r : Int} {wh : WH} {o : OU} {ov : Int} {p : List Int64} {q : Nat → Int64} {c c1 : FR8} {w w1 : List FR8} (K : KEQ p c1 w1 r (RTN (p, c, w))) (ho : op = 11) : MEQ (M8.mk wh o ov p q c1 w1) r (CPR F op (M8.mk wh o ov p q c w)) := by
  rw [cpr_c (by omega) (by omega)]
  exact cop_11 ho K
theorem cpr_r {F : F8} {op r k : Int} {wh : WH} {o : OU} {ov : Int} {p p1 : List Int64} {q q1 : Nat → Int64} {c : FR8} {w : List FR8} (R : REQ p1 q1 r (RCK F.m k p q)) (hk : k = op - 256) (ho : 256 ≤ op) (hf : ¬ (290 ≤ op)) (h2 : ¬ (op = 282)) : MEQ (M8.mk wh o ov p1 (NQ q1) c w) r (CPR F op (M8.mk wh o ov p (NQ q) c w)) := by
  rw [cpr_c (by omega) h2]
  exact cop_r ho (by unfold FLX; omega) rfl hk R
theorem smq_26 {m : Int} {p : List Int64} {q : Nat → Int64} : SMQ (RCR m 26 p q) (RCR m 26 p (NQ q)) := by
  unfold RCR
  rw [if_pos rfl, if_pos rfl]
  exact smq_i smq_p fun _ => smq_i smq_p fun _ => smq_l
theorem cpr_26 {F : F8} {op r : Int} {wh : WH} {o : OU} {ov : Int} {p p1 : List Int64} {q q1 : Nat → Int64} {c : FR8} {w : List FR8} (R : REQ p1 q1 r (RCR F.m 26 p q)) (ho : op = 282) : MEQ (M8.mk wh o ov p1 (NQ q1) c w) r (CPR F op (M8.mk wh o ov p (NQ q) c w)) := by
  unfold CPR
  rw [if_neg (by omega), if_pos ho]
  show MEQ _ r (RLF _ (RCR F.m 26 p (NQ q)))
  obtain ⟨r1, r2⟩ := R
  obtain ⟨s1, s2, s3⟩ := smq_26 (m := F.m) (p := p) (q := q)
  refine ⟨r1.trans s2, rfl, rfl, rfl, fun h => ?_⟩
  obtain ⟨a, b⟩ := r2 h
  show M8.mk _ _ _ _ _ _ _ = M8.mk wh o ov (RCR F.m 26 p (NQ q)).1.1 (NQ (RCR F.m 26 p (NQ q)).1.2) c w
  rw [← s1, ← s3, a, nq_ext b]
/-- operators that the reference knows by name -/
def KNW (op : Int) : Prop := op = 1 ∨ op = 3 ∨ op = 18 ∨ op = 23 ∨ op = 19 ∨ op = 20 ∨ op = 21 ∨ op = 22 ∨ op = 4 ∨ op = 14 ∨ op = 10 ∨ op = 29 ∨ op = 11 ∨ op = 259 ∨ op = 260 ∨ op = 261 ∨ op = 265 ∨ op = 266 ∨ op = 267 ∨ op = 268 ∨ op = 270 ∨ op = 271 ∨ op = 274 ∨ op = 276 ∨ op = 277 ∨ op = 278 ∨ op = 280 ∨ op = 282 ∨ op = 283 ∨ op = 284 ∨ op = 285 ∨ op = 286
theorem cpr_o {F : F8} {op r : Int} {wh : WH} {x y x1 y1 : Int64} {u u1 ov : Int} {P P1 : PRT2} {p p1 : List Int64} {q : Nat → Int64} {c : FR8} {w : List FR8} (C : OEQ P1 x1 y1 u1 r (LAC F.lim p op (P, x, y, u))) (hk : ¬ KNW op) (hp : r = 0 → p1 = []) : MEQ (M8.mk wh (P1, x1, y1, u1) ov p1 q c w) r (CPR F op (M8.mk wh (P, x, y, u) ov p q c w)) := by
  unfold KNW at hk
  rw [cpr_c (by omega) (by omega)]
  by_cases hf : 256 ≤ op ∧ ¬ FLX op
  · have hx := hf.2
    unfold FLX at hx
    unfold COP
    rw [if_neg (by omega), if_neg (by omega), if_neg (by omega), if_pos hf]
    have hn : NED (op - 256) = -1 := by
      unfold NED
      rw [if_neg (by omega), if_neg (by omega), if_neg (by omega)]
    have hl : LAC F.lim p op (P, x, y, u) = ((P, x, y, u), 1) := by
      unfold LAC
      rw [if_neg (by omega), if_neg (by omega), if_neg (by omega), if_neg (by omega), if_neg (by omega), if_neg (by omega), if_neg (by omega), if_neg (by omega), if_neg (by omega), if_neg (by omega), if_neg (by omega), if_neg (by omega), if_neg (by omega), if_neg (by omega)]
    rw [hl] at C
    have hr : RCK F.m (op - 256) p q = ((p, q), 1) := by unfold RCK; rw [if_pos hn]
    show MEQ _ r (RLF _ (RCK F.m (op - 256) p q))
    rw [hr]
    exact ⟨C.1, rfl, rfl, C.2.1, fun h => absurd (show (1 : Int) = 0 from C.1.symm.trans h) (by decide)⟩
  · unfold COP
    have hm : ¬ MTW op := by unfold MTW; omega
    rw [if_neg (by omega), if_neg (by omega), if_neg (by omega), if_neg hf, if_neg hm]
    obtain ⟨c1, c2, c3⟩ := C
    refine ⟨c1, rfl, rfl, c2, fun h => ?_⟩
    obtain ⟨d1, d2, d3⟩ := c3 h
    show M8.mk _ _ _ _ _ _ _ = M8.mk wh _ ov [] q c w
    rw [c2, d1, d2, d3, hp h]
