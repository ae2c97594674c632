/-! operators of Type 1 (p8 to p11) -/
def WN9 (op : Int) : Int := if op = 9 ∨ op = 14 ∨ op = 256 then 0 else if op = 4 ∨ op = 6 ∨ op = 7 ∨ op = 22 then 1 else if op = 1 ∨ op = 3 ∨ op = 5 ∨ op = 13 ∨ op = 21 ∨ op = 289 then 2 else if op = 30 ∨ op = 31 ∨ op = 263 then 4 else if op = 8 ∨ op = 257 ∨ op = 258 then 6 else -1
theorem wn9_of {op r : Int} (h : (r = 0 ∧ (op = 9 ∨ op = 14 ∨ op = 256)) ∨ (r = 1 ∧ (op = 4 ∨ op = 6 ∨ op = 7 ∨ op = 22)) ∨ (r = 2 ∧ (op = 1 ∨ op = 3 ∨ op = 5 ∨ op = 13 ∨ op = 21 ∨ op = 289)) ∨ (r = 4 ∧ (op = 30 ∨ op = 31 ∨ op = 263)) ∨ (r = 6 ∧ (op = 8 ∨ op = 257 ∨ op = 258)) ∨ (r = -1 ∧ ¬ (op = 9 ∨ op = 14 ∨ op = 256) ∧ ¬ (op = 4 ∨ op = 6 ∨ op = 7 ∨ op = 22) ∧ ¬ (op = 1 ∨ op = 3 ∨ op = 5 ∨ op = 13 ∨ op = 21 ∨ op = 289) ∧ ¬ (op = 30 ∨ op = 31 ∨ op = 263) ∧ ¬ (op = 8 ∨ op = 257 ∨ op = 258))) : r = WN9 op := by
  unfold WN9
  rcases h with ⟨h, g⟩ | ⟨h, g⟩ | ⟨h, g⟩ | ⟨h, g⟩ | ⟨h, g⟩ | ⟨h, g1, g2, g3, g4, g5⟩
  · rw [if_pos g, h]
  · rw [if_neg (by omega), if_pos g, h]
  · rw [if_neg (by omega), if_neg (by omega), if_pos g, h]
  · rw [if_neg (by omega), if_neg (by omega), if_neg (by omega), if_pos g, h]
  · rw [if_neg (by omega), if_neg (by omega), if_neg (by omega), if_neg (by omega), if_pos g, h]
  · rw [if_neg g1, if_neg g2, if_neg g3, if_neg g4, if_neg g5, h]
def GTO (x y : Int64) (o : OU) : OU := (o.1, x, y, o.2.2.2)
/-- a move: where a flex is on, a point only -/
def MV9 (lim fl : Int) (dx dy : Int64) (o : OU) : OU × Int := if fl = 0 then MVP lim dx dy o else (GTO (o.2.1 + dx) (o.2.2.1 + dy) o, 0)
theorem mv9_y {lim fl r u u1 : Int} {dx dy x y x1 y1 : Int64} {P P1 : PRT2} (h : fl = 0) (M : OEQ P1 x1 y1 u1 r (MVP lim dx dy (P, x, y, u))) : OEQ P1 x1 y1 u1 r (MV9 lim fl dx dy (P, x, y, u)) := by
  unfold MV9; rw [if_pos h]; exact M
theorem mv9_n {lim fl r u : Int} {dx dy x y x1 y1 : Int64} {P : PRT2} (h : ¬ (fl = 0)) (ex : x1 = x + dx) (ey : y1 = y + dy) (hr : r = 0) : OEQ P x1 y1 u r (MV9 lim fl dx dy (P, x, y, u)) := by
  unfold MV9; rw [if_neg h]; exact ⟨hr, rfl, fun _ => ⟨ex, ey, rfl⟩⟩
/-- WIDTH, outline, whether it is over -/
abbrev WO := Int64 × OU × Int
def OL9 (s : WO) (k : OU × Int) : WO × Int := ((s.1, k.1, s.2.2), k.2)
def PN9 (p : List Int64) (op : Int) (s : WO) : WO :=
  if op = 13 then (NG p 1, GTO (NG p 0) 0 s.2.1, s.2.2) else if op = 263 then (NG p 2, GTO (NG p 0) (NG p 1) s.2.1, s.2.2)
  else if op = 289 then (s.1, GTO (NG p 0) (NG p 1) s.2.1, s.2.2) else if op = 14 then (s.1, s.2.1, 1) else s
def PT9 (lim fl : Int) (p : List Int64) (op : Int) (s : WO) : WO × Int :=
  if op = 4 then OL9 s (MV9 lim fl 0 (NG p 0) s.2.1) else if op = 5 then OL9 s (LNP lim (NG p 0) (NG p 1) s.2.1) else if op = 6 then OL9 s (LNP lim (NG p 0) 0 s.2.1) else if op = 7 then OL9 s (LNP lim 0 (NG p 0) s.2.1)
  else if op = 8 then OL9 s (ITP (SIXF lim p 0) 1 s.2.1) else if op = 9 then OL9 s (CLP lim s.2.1) else if op = 21 then OL9 s (MV9 lim fl (NG p 0) (NG p 1) s.2.1) else if op = 22 then OL9 s (MV9 lim fl (NG p 0) 0 s.2.1)
  else if op = 30 then OL9 s (TCV lim p 0 s.2.1) else if op = 31 then OL9 s (TCV lim p 1 s.2.1) else (PN9 p op s, 0)
/-- as told; behind a fault the WIDTH and the PARTS count -/
def WEQ (wd : Int64) (P : PRT2) (x y : Int64) (u ov r : Int) (q : WO × Int) : Prop := r = q.2 ∧ wd = q.1.1 ∧ P = q.1.2.1.1 ∧ (r = 0 → x = q.1.2.1.2.1 ∧ y = q.1.2.1.2.2.1 ∧ u = q.1.2.1.2.2.2 ∧ ov = q.1.2.2)
theorem weq_o {wd x y x1 y1 : Int64} {P P1 : PRT2} {u u1 ov r : Int} {k : OU × Int} (O : OEQ P1 x1 y1 u1 r k) : WEQ wd P1 x1 y1 u1 ov r (OL9 (wd, (P, x, y, u), ov) k) := by
  obtain ⟨o1, o2, o3⟩ := O
  exact ⟨o1, rfl, o2, fun h => ⟨(o3 h).1, (o3 h).2.1, (o3 h).2.2, rfl⟩⟩
theorem pt9_o {lim fl op u u1 r ov : Int} {p : List Int64} {wd x y x1 y1 a b : Int64} {P P1 : PRT2} {k : OU × Int} (O : OEQ P1 x1 y1 u1 r k) (ha : a = NG p 0) (hb : b = NG p 1)
    (h : (op = 4 ∧ k = MV9 lim fl 0 a (P, x, y, u)) ∨ (op = 5 ∧ k = LNP lim a b (P, x, y, u)) ∨ (op = 6 ∧ k = LNP lim a 0 (P, x, y, u)) ∨ (op = 7 ∧ k = LNP lim 0 a (P, x, y, u)) ∨ (op = 8 ∧ k = ITP (SIXF lim p 0) 1 (P, x, y, u)) ∨ (op = 9 ∧ k = CLP lim (P, x, y, u)) ∨ (op = 21 ∧ k = MV9 lim fl a b (P, x, y, u)) ∨ (op = 22 ∧ k = MV9 lim fl a 0 (P, x, y, u)) ∨ (op = 30 ∧ k = TCV lim p 0 (P, x, y, u)) ∨ (op = 31 ∧ k = TCV lim p 1 (P, x, y, u))) : WEQ wd P1 x1 y1 u1 ov r (PT9 lim fl p op (wd, (P, x, y, u), ov)) := by
  subst ha hb
  have e : PT9 lim fl p op (wd, (P, x, y, u), ov) = OL9 (wd, (P, x, y, u), ov) k := by
    unfold PT9
    rcases h with ⟨h, g⟩ | ⟨h, g⟩ | ⟨h, g⟩ | ⟨h, g⟩ | ⟨h, g⟩ | ⟨h, g⟩ | ⟨h, g⟩ | ⟨h, g⟩ | ⟨h, g⟩ | ⟨h, g⟩ <;> subst h <;> rw [g] <;> rfl
  rw [e]
  exact weq_o O
theorem pn9_o {lim fl op u u1 r ov ov1 : Int} {p : List Int64} {wd wd1 x y x1 y1 : Int64} {P P1 : PRT2} (h : ¬ (op = 4 ∨ op = 5 ∨ op = 6 ∨ op = 7 ∨ op = 8 ∨ op = 9 ∨ op = 21 ∨ op = 22 ∨ op = 30 ∨ op = 31)) (hr : r = 0) (e : ((wd1, (P1, x1, y1, u1), ov1) : WO) = PN9 p op (wd, (P, x, y, u), ov)) : WEQ wd1 P1 x1 y1 u1 ov1 r (PT9 lim fl p op (wd, (P, x, y, u), ov)) := by
  unfold PT9
  rw [if_neg (by omega), if_neg (by omega), if_neg (by omega), if_neg (by omega), if_neg (by omega), if_neg (by omega), if_neg (by omega), if_neg (by omega), if_neg (by omega), if_neg (by omega), ← e]
  exact ⟨hr, rfl, rfl, fun _ => ⟨rfl, rfl, rfl, rfl⟩⟩
theorem pn_13 {op u ov : Int} {p : List Int64} {wd wd1 x y x1 y1 a : Int64} {P : PRT2} (h : op = 13) (hw : wd1 = NG p 1) (ha : a = NG p 0) (ex : x1 = a) (ey : y1 = 0) : ((wd1, (P, x1, y1, u), ov) : WO) = PN9 p op (wd, (P, x, y, u), ov) := by
  subst hw ex ey ha h; rfl
theorem pn_263 {op u ov : Int} {p : List Int64} {wd wd1 x y x1 y1 a b : Int64} {P : PRT2} (h : op = 263) (hw : wd1 = NG p 2) (ha : a = NG p 0) (hb : b = NG p 1) (ex : x1 = a) (ey : y1 = b) : ((wd1, (P, x1, y1, u), ov) : WO) = PN9 p op (wd, (P, x, y, u), ov) := by
  subst hw ex ey ha hb h; rfl
theorem pn_289 {op u ov : Int} {p : List Int64} {wd x y x1 y1 a b : Int64} {P : PRT2} (h : op = 289) (ha : a = NG p 0) (hb : b = NG p 1) (ex : x1 = a) (ey : y1 = b) : ((wd, (P, x1, y1, u), ov) : WO) = PN9 p op (wd, (P, x, y, u), ov) := by
  subst ex ey ha hb h; rfl
theorem pn_14 {op u ov ov1 : Int} {p : List Int64} {wd x y : Int64} {P : PRT2} (h : op = 14) (ho : ov1 = 1) : ((wd, (P, x, y, u), ov1) : WO) = PN9 p op (wd, (P, x, y, u), ov) := by
  subst h ho; rfl
theorem pn_no {op u ov : Int} {p : List Int64} {wd x y : Int64} {P : PRT2} (h : ¬ (op = 13 ∨ op = 263 ∨ op = 289 ∨ op = 14)) : ((wd, (P, x, y, u), ov) : WO) = PN9 p op (wd, (P, x, y, u), ov) := by
  unfold PN9
  rw [if_neg (by omega), if_neg (by omega), if_neg (by omega), if_neg (by omega)]
