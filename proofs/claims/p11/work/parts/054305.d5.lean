/-! operators of CFF that tell hints, move or end (p8 to p11) -/
/-- WIDTH and hints, how many bytes are done, the outline, whether it is over -/
abbrev CS := WH × Int × OU × Int
/-- as told; behind a fault the WIDTH, hints, bytes and PARTS count -/
def CEQ (w : WH) (st : Int) (p : PRT2) (x y : Int64) (o ov r : Int) (q : CS × Int) : Prop := r = q.2 ∧ w = q.1.1 ∧ st = q.1.2.1 ∧ p = q.1.2.2.1.1 ∧ (r = 0 → x = q.1.2.2.1.2.1 ∧ y = q.1.2.2.1.2.2.1 ∧ o = q.1.2.2.1.2.2.2 ∧ ov = q.1.2.2.2)
def HMS (nm df : Int64) (lim sz : Int) (p : List Int64) (op : Int) (s : CS) : CS × Int :=
  if op = 19 ∨ op = 20 then (((MSK nm df p s.1 s.2.1 sz).1.1, (MSK nm df p s.1 s.2.1 sz).1.2, s.2.2), (MSK nm df p s.1 s.2.1 sz).2)
  else if op = 4 ∨ op = 21 ∨ op = 22 then (((MVW nm df p op s.1.1, s.1.2), s.2.1, (MVO lim p op s.1.1.1 s.2.2.1).1, s.2.2.2), (MVO lim p op s.1.1.1 s.2.2.1).2)
  else if op = 14 then (((ENW nm df p s.1.1, s.1.2), s.2.1, (ENO lim p s.1.1.1 s.2.2.1).1, if (ENO lim p s.1.1.1 s.2.2.1).2 = 0 then 1 else s.2.2.2), (ENO lim p s.1.1.1 s.2.2.1).2)
  else (((STM nm df p s.1).1, s.2), (STM nm df p s.1).2)
theorem hms_m {nm df : Int64} {lim sz op st st1 r ov : Int} {p : List Int64} {w w1 : WH} {q : PRT2} {x y : Int64} {u : Int} (ho : op = 19 ∨ op = 20) (h : (((w1, st1), r) : (WH × Int) × Int) = MSK nm df p w st sz) : CEQ w1 st1 q x y u ov r (HMS nm df lim sz p op (w, st, (q, x, y, u), ov)) := by
  unfold HMS
  rw [if_pos ho, ← h]
  exact ⟨rfl, rfl, rfl, rfl, fun _ => ⟨rfl, rfl, rfl, rfl⟩⟩
theorem hms_s {nm df : Int64} {lim sz op st r ov : Int} {p : List Int64} {w w1 : WH} {q : PRT2} {x y : Int64} {u : Int} (ho : ¬ (op = 19 ∨ op = 20 ∨ op = 4 ∨ op = 21 ∨ op = 22 ∨ op = 14)) (h : ((w1, r) : WH × Int) = STM nm df p w) : CEQ w1 st q x y u ov r (HMS nm df lim sz p op (w, st, (q, x, y, u), ov)) := by
  unfold HMS
  rw [if_neg (by omega), if_neg (by omega), if_neg (by omega), ← h]
  exact ⟨rfl, rfl, rfl, rfl, fun _ => ⟨rfl, rfl, rfl, rfl⟩⟩
theorem hms_v {nm df wd wd1 : Int64} {lim sz op st r ov wa wa1 ht : Int} {p : List Int64} {q q1 : PRT2} {x y x1 y1 : Int64} {u u1 : Int} (ho : op = 4 ∨ op = 21 ∨ op = 22) (h : ((wa1, wd1) : Int × Int64) = MVW nm df p op (wa, wd)) (O : OEQ q1 x1 y1 u1 r (MVO lim p op wa (q, x, y, u))) : CEQ ((wa1, wd1), ht) st q1 x1 y1 u1 ov r (HMS nm df lim sz p op (((wa, wd), ht), st, (q, x, y, u), ov)) := by
  unfold HMS
  rw [if_neg (by omega), if_pos ho]
  obtain ⟨o1, o2, o3⟩ := O
  refine ⟨o1, ?_, rfl, o2, fun h0 => ⟨(o3 h0).1, (o3 h0).2.1, (o3 h0).2.2, rfl⟩⟩
  show _ = (MVW nm df p op (wa, wd), ht)
  rw [← h]
theorem hms_e {nm df wd wd1 : Int64} {lim sz op st r ov ov1 wa wa1 ht : Int} {p : List Int64} {q q1 : PRT2} {x y x1 y1 : Int64} {u u1 : Int} (ho : op = 14) (h : ((wa1, wd1) : Int × Int64) = ENW nm df p (wa, wd)) (O : OEQ q1 x1 y1 u1 r (ENO lim p wa (q, x, y, u))) (hv : (r = 0 ∧ ov1 = 1) ∨ (¬ (r = 0) ∧ ov1 = ov)) : CEQ ((wa1, wd1), ht) st q1 x1 y1 u1 ov1 r (HMS nm df lim sz p op (((wa, wd), ht), st, (q, x, y, u), ov)) := by
  unfold HMS
  rw [if_neg (by omega), if_neg (by omega), if_pos ho]
  obtain ⟨o1, o2, o3⟩ := O
  refine ⟨o1, ?_, rfl, o2, fun h0 => ⟨(o3 h0).1, (o3 h0).2.1, (o3 h0).2.2, ?_⟩⟩
  · show _ = (ENW nm df p (wa, wd), ht)
    rw [← h]
  · show ov1 = if (ENO lim p wa (q, x, y, u)).2 = 0 then 1 else ov
    rw [← o1, if_pos h0]
    omega
abbrev MTW (op : Int) : Prop := op = 1 ∨ op = 3 ∨ op = 4 ∨ op = 14 ∨ op = 18 ∨ op = 19 ∨ op = 20 ∨ op = 21 ∨ op = 22 ∨ op = 23
