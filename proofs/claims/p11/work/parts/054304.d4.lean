/-! the WIDTH, hints and moves of CFF (p8 to p11) -/
/-- NOMINAL and DEFAULT, FIXED -/
def NMF (x : Int32) : Int64 := Int32.toInt64 x * 65536
def SHA (c : Prop) [Decidable c] (wa : Int) : Int := if c ∧ wa = 0 then 1 else 0
/-- the WIDTH told: whether an operator could have told it, and what it is -/
def TWD (nm df : Int64) (p : List Int64) (sh : Int) (w : Int × Int64) : Int × Int64 := if w.1 = 1 then w else (1, if sh = 1 then nm + NG p 0 else df)
theorem sha_1 {c : Prop} [Decidable c] {wa r a : Int} (ha : a = 1 ↔ c) (h : (a = 1 ∧ wa = 0 ∧ r = 1) ∨ (¬ (a = 1 ∧ wa = 0) ∧ r = 0)) : r = SHA c wa := by
  unfold SHA
  rcases h with ⟨h1, h2, h3⟩ | ⟨h1, h2⟩
  · rw [if_pos ⟨ha.mp h1, h2⟩, h3]
  · rw [if_neg (fun h9 => h1 ⟨ha.mpr h9.1, h9.2⟩), h2]
theorem twd_n {nm df wd : Int64} {p : List Int64} {sh wa : Int} (h : wa = 1) : ((wa, wd) : Int × Int64) = TWD nm df p sh (wa, wd) := by
  unfold TWD
  rw [if_pos h]
theorem twd_1 {nm df wd a v g : Int64} {p : List Int64} {sh wa wa1 i : Int} {x : Int32} {z : Int64} (h : ¬ (wa = 1)) (hs : sh = 1) (e1 : Int32.toInt64 x = z) (e2 : z * 65536 = a) (G : g = NG p i) (hi : i = 0) (e3 : a + g = v) (hn : nm = NMF x) (hw : wa1 = 1) : ((wa1, v) : Int × Int64) = TWD nm df p sh (wa, wd) := by
  unfold TWD
  rw [if_neg h, if_pos hs, hn, hw]
  unfold NMF
  rw [e1, e2, ← e3, G, hi]
theorem twd_0 {nm df wd a : Int64} {p : List Int64} {sh wa wa1 : Int} {x : Int32} {z : Int64} (h : ¬ (wa = 1)) (hs : ¬ (sh = 1)) (e1 : Int32.toInt64 x = z) (e2 : z * 65536 = a) (hd : df = NMF x) (hw : wa1 = 1) : ((wa1, a) : Int × Int64) = TWD nm df p sh (wa, wd) := by
  unfold TWD
  rw [if_neg h, if_neg hs, hd, hw]
  unfold NMF
  rw [e1, e2]
/-- WIDTH told or not, hints -/
abbrev WH := (Int × Int64) × Int
abbrev ODD (p : List Int64) : Prop := p.length % 2 = 1
def PRD (p : List Int64) (wa : Int) : Int := p.length - SHA (ODD p) wa
def STM (nm df : Int64) (p : List Int64) (w : WH) : WH × Int := if 2 ≤ PRD p w.1.1 ∧ PRD p w.1.1 % 2 = 0 then ((TWD nm df p (SHA (ODD p) w.1.1) w.1, w.2 + PRD p w.1.1 / 2), 0) else (w, 2)
theorem stm_n {nm df wd : Int64} {f : Nat → Int64} {n wa ht s r : Int} (h0 : 0 ≤ n) (hs : s = SHA (ODD (PA f n)) wa) (h : n - s < 2 ∨ ¬ ((n - s) % 2 = 0)) (hr : r = 2) : ((((wa, wd), ht), r) : WH × Int) = STM nm df (PA f n) ((wa, wd), ht) := by
  unfold STM
  have e : PRD (PA f n) wa = n - s := by unfold PRD; rw [← hs, pa_len]; omega
  rw [if_neg (by show ¬ (2 ≤ PRD (PA f n) wa ∧ PRD (PA f n) wa % 2 = 0); rw [e]; omega), hr]
theorem stm_y {nm df wd wd1 : Int64} {f : Nat → Int64} {n wa wa1 ht ht1 s r : Int} (h0 : 0 ≤ n) (hs : s = SHA (ODD (PA f n)) wa) (h : 2 ≤ n - s ∧ (n - s) % 2 = 0) (T : ((wa1, wd1) : Int × Int64) = TWD nm df (PA f n) s (wa, wd)) (hh : ht1 = ht + (n - s) / 2) (hr : r = 0) : ((((wa1, wd1), ht1), r) : WH × Int) = STM nm df (PA f n) ((wa, wd), ht) := by
  unfold STM
  have e : PRD (PA f n) wa = n - s := by unfold PRD; rw [← hs, pa_len]; omega
  rw [if_pos (by show 2 ≤ PRD (PA f n) wa ∧ PRD (PA f n) wa % 2 = 0; rw [e]; exact h), hr]
  show _ = ((TWD nm df (PA f n) (SHA (ODD (PA f n)) wa) (wa, wd), ht + PRD (PA f n) wa / 2), (0 : Int))
  rw [← hs, ← T, e, hh]
theorem odd_pa {f : Nat → Int64} {n a : Int} (h0 : 0 ≤ n) (h : (a = 1 ∧ n % 2 = 1) ∨ (a = 0 ∧ ¬ (n % 2 = 1))) : a = 1 ↔ ODD (PA f n) := by
  unfold ODD
  rw [pa_len]
  omega
/-- masks: hints too, then so many bytes; st: how many bytes are done of how many -/
def MSK (nm df : Int64) (p : List Int64) (w : WH) (st sz : Int) : (WH × Int) × Int := if PRD p w.1.1 % 2 = 0 then (((TWD nm df p (SHA (ODD p) w.1.1) w.1, w.2 + PRD p w.1.1 / 2), if (w.2 + PRD p w.1.1 / 2 + 7) / 8 ≤ sz - st then st + (w.2 + PRD p w.1.1 / 2 + 7) / 8 else sz), if (w.2 + PRD p w.1.1 / 2 + 7) / 8 ≤ sz - st then 0 else 7) else ((w, st), 2)
theorem msk_n {nm df wd : Int64} {f : Nat → Int64} {n wa ht s r st sz : Int} (h0 : 0 ≤ n) (hs : s = SHA (ODD (PA f n)) wa) (h : ¬ ((n - s) % 2 = 0)) (hr : r = 2) : (((((wa, wd), ht), st), r) : (WH × Int) × Int) = MSK nm df (PA f n) ((wa, wd), ht) st sz := by
  unfold MSK
  have e : PRD (PA f n) wa = n - s := by unfold PRD; rw [← hs, pa_len]; omega
  rw [if_neg (by show ¬ (PRD (PA f n) wa % 2 = 0); rw [e]; omega), hr]
theorem msk_y {nm df wd wd1 : Int64} {f : Nat → Int64} {n wa wa1 ht ht1 s r st st1 sz : Int} (h0 : 0 ≤ n) (hs : s = SHA (ODD (PA f n)) wa) (h : (n - s) % 2 = 0) (T : ((wa1, wd1) : Int × Int64) = TWD nm df (PA f n) s (wa, wd)) (hh : ht1 = ht + (n - s) / 2) (hr : ((ht1 + 7) / 8 ≤ sz - st ∧ st1 = st + (ht1 + 7) / 8 ∧ r = 0) ∨ (¬ ((ht1 + 7) / 8 ≤ sz - st) ∧ st1 = sz ∧ r = 7)) : (((((wa1, wd1), ht1), st1), r) : (WH × Int) × Int) = MSK nm df (PA f n) ((wa, wd), ht) st sz := by
  unfold MSK
  have e : PRD (PA f n) wa = n - s := by unfold PRD; rw [← hs, pa_len]; omega
  rw [if_pos (by show PRD (PA f n) wa % 2 = 0; rw [e]; exact h)]
  show _ = (((TWD nm df (PA f n) (SHA (ODD (PA f n)) wa) (wa, wd), ht + PRD (PA f n) wa / 2), if (ht + PRD (PA f n) wa / 2 + 7) / 8 ≤ sz - st then st + (ht + PRD (PA f n) wa / 2 + 7) / 8 else sz), if (ht + PRD (PA f n) wa / 2 + 7) / 8 ≤ sz - st then (0 : Int) else 7)
  rw [← hs, ← T, e, ← hh]
  rcases hr with ⟨h1, h2, h3⟩ | ⟨h1, h2, h3⟩
  · rw [if_pos h1, if_pos h1, h2, h3]
  · rw [if_neg h1, if_neg h1, h2, h3]
theorem hin {h q z : Int32} {k : Int} (e : h + q = z) (hk : Int32.toInt q = k) (h0 : -1000000 ≤ Int32.toInt h ∧ Int32.toInt h ≤ 1000000 ∧ 0 ≤ k ∧ k ≤ 48) : Int32.toInt z = Int32.toInt h + k := by
  rw [← e, fb_addI (by omega) (by omega), hk]
/-! moves, the end -/
def WNT2 (op : Int) : Nat := if op = 21 then 2 else 1
def MSH (p : List Int64) (op wa : Int) : Int := SHA (p.length = WNT2 op + 1) wa
abbrev MOK (p : List Int64) (op wa : Int) : Prop := (p.length : Int) - MSH p op wa = WNT2 op
def MVW (nm df : Int64) (p : List Int64) (op : Int) (w : Int × Int64) : Int × Int64 := if MOK p op w.1 then TWD nm df p (MSH p op w.1) w else w
def MDX (p : List Int64) (op sh : Int) : Int64 := if op = 21 ∨ op = 22 then NG p sh else 0
def MDY (p : List Int64) (op sh : Int) : Int64 := if op = 21 then NG p (sh + 1) else if op = 22 then 0 else NG p sh
def MVO (lim : Int) (p : List Int64) (op wa : Int) : OU → OU × Int := ASKO (MOK p op wa) (fun o => SQ (CLO lim o) (MVP lim (MDX p op (MSH p op wa)) (MDY p op (MSH p op wa))))
theorem msh_pa {f : Nat → Int64} {n op wa s a k : Int} (h0 : 0 ≤ n) (hk : (op = 21 ∧ k = 2) ∨ (¬ (op = 21) ∧ k = 1)) (ha : (a = 1 ∧ n = k + 1) ∨ (a = 0 ∧ ¬ (n = k + 1))) (h : (a = 1 ∧ wa = 0 ∧ s = 1) ∨ (¬ (a = 1 ∧ wa = 0) ∧ s = 0)) : s = MSH (PA f n) op wa := by
  unfold MSH
  refine sha_1 (a := a) ?_ h
  have e : (WNT2 op : Int) = k := by
    unfold WNT2
    rcases hk with ⟨h1, h2⟩ | ⟨h1, h2⟩
    · rw [if_pos h1, h2]; rfl
    · rw [if_neg h1, h2]; rfl
  rw [pa_len]
  omega
theorem mok_pa {f : Nat → Int64} {n op wa s k : Int} (h0 : 0 ≤ n) (hk : (op = 21 ∧ k = 2) ∨ (¬ (op = 21) ∧ k = 1)) (hs : s = MSH (PA f n) op wa) : MOK (PA f n) op wa ↔ n - s = k := by
  unfold MOK
  have e : (WNT2 op : Int) = k := by
    unfold WNT2
    rcases hk with ⟨h1, h2⟩ | ⟨h1, h2⟩
    · rw [if_pos h1, h2]; rfl
    · rw [if_neg h1, h2]; rfl
  rw [← hs, pa_len, e]
  omega
theorem mvw_n {nm df wd : Int64} {p : List Int64} {op wa : Int} (h : ¬ MOK p op wa) : ((wa, wd) : Int × Int64) = MVW nm df p op (wa, wd) := by unfold MVW; rw [if_neg h]
theorem mvw_y {nm df wd wd1 : Int64} {p : List Int64} {op wa wa1 s : Int} (h : MOK p op wa) (hs : s = MSH p op wa) (T : ((wa1, wd1) : Int × Int64) = TWD nm df p s (wa, wd)) : ((wa1, wd1) : Int × Int64) = MVW nm df p op (wa, wd) := by
  unfold MVW
  rw [if_pos h, T, hs]
theorem mvo_c {lim op wa r : Int} {p : List Int64} {o : OU} {q : PRT2} {x y : Int64} {u : Int} (h : MOK p op wa) (C : OEQ q x y u r (CLO lim o)) (hr : ¬ (r = 0)) : OEQ q x y u r (MVO lim p op wa o) := asko_y h (oeq_stop C hr)
theorem mvo_y {lim op wa r r2 s i j : Int} {p : List Int64} {o : OU} {q q2 : PRT2} {x y x2 y2 dx dy : Int64} {u u2 : Int} (h : MOK p op wa) (hs : s = MSH p op wa) (C : OEQ q x y u r (CLO lim o)) (hr : r = 0) (hd : (op = 21 ∧ dx = NG p i ∧ i = s ∧ dy = NG p j ∧ j = s + 1) ∨ (op = 22 ∧ dx = NG p i ∧ i = s ∧ dy = 0) ∨ (¬ (op = 21) ∧ ¬ (op = 22) ∧ dx = 0 ∧ dy = NG p i ∧ i = s)) (M : OEQ q2 x2 y2 u2 r2 (MVP lim dx dy (q, x, y, u))) : OEQ q2 x2 y2 u2 r2 (MVO lim p op wa o) := by
  refine asko_y h (oeq_go C hr ?_)
  have e1 : MDX p op (MSH p op wa) = dx := by
    unfold MDX
    rw [← hs]
    rcases hd with ⟨h1, h2, h3, _⟩ | ⟨h1, h2, h3, _⟩ | ⟨h1, h2, h3, _⟩
    · rw [if_pos (Or.inl h1), h2, h3]
    · rw [if_pos (Or.inr h1), h2, h3]
    · rw [if_neg (by omega), h3]
  have e2 : MDY p op (MSH p op wa) = dy := by
    unfold MDY
    rw [← hs]
    rcases hd with ⟨h1, _, _, h4, h5⟩ | ⟨h1, _, _, h4⟩ | ⟨h1, h2, _, h4, h5⟩
    · rw [if_pos h1, h4, h5]
    · rw [if_neg (by omega), if_pos h1, h4]
    · rw [if_neg h1, if_neg h2, h4, h5]
  rw [e1, e2]
  exact M
def ESH (p : List Int64) (wa : Int) : Int := SHA (p.length = 1) wa
abbrev EOK (p : List Int64) (wa : Int) : Prop := (p.length : Int) = ESH p wa
def ENW (nm df : Int64) (p : List Int64) (w : Int × Int64) : Int × Int64 := if EOK p w.1 then TWD nm df p (ESH p w.1) w else w
def ENO (lim : Int) (p : List Int64) (wa : Int) : OU → OU × Int := ASKO (EOK p wa) (CLO lim)
theorem esh_pa {f : Nat → Int64} {n wa s a : Int} (h0 : 0 ≤ n) (ha : (a = 1 ∧ n = 1) ∨ (a = 0 ∧ ¬ (n = 1))) (h : (a = 1 ∧ wa = 0 ∧ s = 1) ∨ (¬ (a = 1 ∧ wa = 0) ∧ s = 0)) : s = ESH (PA f n) wa := by
  unfold ESH
  refine sha_1 (a := a) ?_ h
  rw [pa_len]
  omega
theorem eok_pa {f : Nat → Int64} {n wa s : Int} (h0 : 0 ≤ n) (hs : s = ESH (PA f n) wa) : EOK (PA f n) wa ↔ n = s := by
  unfold EOK
  rw [← hs, pa_len]
  omega
theorem enw_n {nm df wd : Int64} {p : List Int64} {wa : Int} (h : ¬ EOK p wa) : ((wa, wd) : Int × Int64) = ENW nm df p (wa, wd) := by unfold ENW; rw [if_neg h]
theorem enw_y {nm df wd wd1 : Int64} {p : List Int64} {wa wa1 s : Int} (h : EOK p wa) (hs : s = ESH p wa) (T : ((wa1, wd1) : Int × Int64) = TWD nm df p s (wa, wd)) : ((wa1, wd1) : Int × Int64) = ENW nm df p (wa, wd) := by
  unfold ENW
  rw [if_pos h, T, hs]
