/-! the reference's WIDTH, hints, moves, end (p8 to p11) -/
theorem twr_1 {nm df wd a v g : Int64} {p : List Int64} {sh wa wa1 i : Int} {x : Int32} {z : Int64} (e3 : g + a = v) (e2 : z * 65536 = a) (e1 : Int32.toInt64 x = z) (G : g = NG p i) (h : ¬ (wa = 1)) (hs : sh = 1) (hi : i = 0) (hn : nm = NMF x) (hw : wa1 = 1) : ((wa1, v) : Int × Int64) = TWD nm df p sh (wa, wd) := twd_1 h hs e1 e2 G hi ((Int64.add_comm a g).trans e3) hn hw
theorem stm_nr {nm df wd : Int64} {f : Nat → Int64} {n wa ht r : Int} (h0 : 0 ≤ n) (h : n < 2 ∨ (n % 2 = 1 ∧ (¬ (wa = 0) ∨ n < 3))) (hr : r = 2) : ((((wa, wd), ht), r) : WH × Int) = STM nm df (PA f n) ((wa, wd), ht) := by
  have ho : ODD (PA f n) ↔ n % 2 = 1 := by show (PA f n).length % 2 = 1 ↔ _; rw [pa_len]; omega
  by_cases hc : ODD (PA f n) ∧ wa = 0
  · have := ho.mp hc.1
    exact stm_n (s := 1) h0 (by unfold SHA; rw [if_pos hc]) (by omega) hr
  · refine stm_n (s := 0) h0 (by unfold SHA; rw [if_neg hc]) ?_ hr
    rcases h with h | h
    · exact Or.inl (by omega)
    · exact Or.inr (by omega)
theorem msk_nr {nm df wd : Int64} {f : Nat → Int64} {n wa ht : Int} (h0 : 0 ≤ n) (h : n % 2 = 1 ∧ ¬ (wa = 0)) : ¬ (PRD (PA f n) wa % 2 = 0) := by
  unfold PRD SHA
  rw [if_neg (fun hc => h.2 hc.2), pa_len]
  omega
theorem prd_y {f : Nat → Int64} {n wa s : Int} (h0 : 0 ≤ n) (hs : s = SHA (ODD (PA f n)) wa) : PRD (PA f n) wa = n - s := by
  unfold PRD
  rw [← hs, pa_len]
  omega
/-- so many bytes, one by one -/
def ITK : Nat → FR8 → FR8 × Int
  | 0, c => (c, 0)
  | n + 1, c => if (TKB c).1 = -1 then ((TKB c).2, 7) else ITK n (TKB c).2
def MSR (nm df : Int64) (p : List Int64) (w : WH) (c : FR8) : (WH × FR8) × Int := if PRD p w.1.1 % 2 = 0 then (((TWD nm df p (SHA (ODD p) w.1.1) w.1, w.2 + PRD p w.1.1 / 2), (ITK ((w.2 + PRD p w.1.1 / 2 + 7) / 8).toNat c).1), (ITK ((w.2 + PRD p w.1.1 / 2 + 7) / 8).toNat c).2) else ((w, c), 2)
theorem itk_y {k j : Nat} {r : Int} {c c1 : FR8} {Q : FR8 × Int} (h : Q = ITK k c) (T : ((r, c1) : Int × FR8) = TKB c) (hr : 0 ≤ r) (hk : k = j + 1) : Q = ITK j c1 := by
  subst hk
  rw [h]
  show (if (TKB c).1 = -1 then _ else ITK j (TKB c).2) = _
  rw [← T, if_neg (by show ¬ (r = -1); omega)]
theorem itk_n {k : Nat} {r : Int} {c c1 : FR8} {Q : FR8 × Int} (h : Q = ITK k c) (T : ((r, c1) : Int × FR8) = TKB c) (hr : r = -1) (hk : ¬ (k = 0)) : Q = (c1, 7) := by
  obtain ⟨j, rfl⟩ : ∃ j, k = j + 1 := ⟨k - 1, by omega⟩
  rw [h]
  show (if (TKB c).1 = -1 then ((TKB c).2, 7) else _) = _
  rw [← T, if_pos hr]
theorem itk_0 {k : Nat} {c : FR8} {Q : FR8 × Int} (h : Q = ITK k c) (hk : k = 0) : Q = (c, 0) := by rw [h, hk]; rfl
theorem msr_n {nm df wd : Int64} {f : Nat → Int64} {n wa ht r : Int} {c : FR8} (h0 : 0 ≤ n) (h : n % 2 = 1 ∧ ¬ (wa = 0)) (hr : r = 2) : (((((wa, wd), ht), c), r) : (WH × FR8) × Int) = MSR nm df (PA f n) ((wa, wd), ht) c := by
  unfold MSR
  rw [if_neg (msk_nr (nm := 0) (df := 0) (wd := 0) (ht := 0) h0 h), hr]
theorem msr_y {nm df wd wd1 : Int64} {f : Nat → Int64} {n wa wa1 ht ht1 s r : Int} {c c1 : FR8} {k : Nat} (T : ((wa1, wd1) : Int × Int64) = TWD nm df (PA f n) s (wa, wd)) (I : ITK k c = (c1, r)) (h0 : 0 ≤ n) (hs : s = SHA (ODD (PA f n)) wa) (h : (n - s) % 2 = 0) (hh : ht1 = ht + (n - s) / 2) (hk : k = ((ht1 + 7) / 8).toNat) : (((((wa1, wd1), ht1), c1), r) : (WH × FR8) × Int) = MSR nm df (PA f n) ((wa, wd), ht) c := by
  unfold MSR
  show _ = if PRD (PA f n) wa % 2 = 0 then (((TWD nm df (PA f n) (SHA (ODD (PA f n)) wa) (wa, wd), ht + PRD (PA f n) wa / 2), (ITK ((ht + PRD (PA f n) wa / 2 + 7) / 8).toNat c).1), (ITK ((ht + PRD (PA f n) wa / 2 + 7) / 8).toNat c).2) else _
  rw [prd_y h0 hs, if_pos h, ← hh, ← hk, I, ← hs, ← T]
theorem mok_r {f : Nat → Int64} {n op wa k : Int} (h0 : 0 ≤ n) (hk : (op = 21 ∧ k = 2) ∨ (¬ (op = 21) ∧ k = 1)) : MOK (PA f n) op wa ↔ (n = k ∨ (n = k + 1 ∧ wa = 0)) := by
  by_cases hc : n = k + 1 ∧ wa = 0
  · have hs : (1 : Int) = MSH (PA f n) op wa := msh_pa (a := 1) h0 hk (Or.inl ⟨rfl, hc.1⟩) (Or.inl ⟨rfl, hc.2, rfl⟩)
    rw [mok_pa h0 hk hs]
    omega
  · have hs : (0 : Int) = MSH (PA f n) op wa := by
      by_cases h1 : n = k + 1
      · exact msh_pa (a := 1) h0 hk (Or.inl ⟨rfl, h1⟩) (Or.inr ⟨fun h => hc ⟨h1, h.2⟩, rfl⟩)
      · exact msh_pa (a := 0) h0 hk (Or.inr ⟨rfl, h1⟩) (Or.inr ⟨fun h => absurd h.1 (by decide), rfl⟩)
    rw [mok_pa h0 hk hs]
    omega
theorem mvo_r {lim op wa r s i j : Int} {p : List Int64} {o : OU} {q : PRT2} {x y dx dy : Int64} {u : Int} (C : OEQ q x y u r (SQ (CLO lim o) (MVP lim dx dy))) (h : MOK p op wa) (hs : s = MSH p op wa) (hd : (op = 21 ∧ dx = NG p i ∧ i = s ∧ dy = NG p j ∧ j = s + 1) ∨ (op = 22 ∧ dx = NG p i ∧ i = s ∧ dy = 0) ∨ (¬ (op = 21) ∧ ¬ (op = 22) ∧ dx = 0 ∧ dy = NG p i ∧ i = s)) : OEQ q x y u r (MVO lim p op wa o) := by
  have ex : dx = MDX p op s := by
    unfold MDX
    rcases hd with ⟨h1, h2, h3, _⟩ | ⟨h1, h2, h3, _⟩ | ⟨h1, h2, h3, _⟩
    · rw [if_pos (Or.inl h1), h2, h3]
    · rw [if_pos (Or.inr h1), h2, h3]
    · rw [if_neg (fun h => h.elim h1 h2), h3]
  have ey : dy = MDY p op s := by
    unfold MDY
    rcases hd with ⟨h1, _, _, h2, h3⟩ | ⟨h1, _, _, h2⟩ | ⟨h1, h2, _, h3, h4⟩
    · rw [if_pos h1, h2, h3]
    · rw [if_neg (by omega), if_pos h1, h2]
    · rw [if_neg h1, if_neg h2, h3, h4]
  rw [ex, ey, hs] at C
  exact asko_y h C
theorem eok_r {f : Nat → Int64} {n wa : Int} (h0 : 0 ≤ n) : EOK (PA f n) wa ↔ (n = 0 ∨ (n = 1 ∧ wa = 0)) := by
  by_cases hc : n = 1 ∧ wa = 0
  · have hs : (1 : Int) = ESH (PA f n) wa := esh_pa (a := 1) h0 (Or.inl ⟨rfl, hc.1⟩) (Or.inl ⟨rfl, hc.2, rfl⟩)
    rw [eok_pa h0 hs]
    omega
  · have hs : (0 : Int) = ESH (PA f n) wa := by
      by_cases h1 : n = 1
      · exact esh_pa (a := 1) h0 (Or.inl ⟨rfl, h1⟩) (Or.inr ⟨fun h => hc ⟨h1, h.2⟩, rfl⟩)
      · exact esh_pa (a := 0) h0 (Or.inr ⟨rfl, h1⟩) (Or.inr ⟨fun h => absurd h.1 (by decide), rfl⟩)
    rw [eok_pa h0 hs]
    omega
/-- the reference's operator: masks byte by byte, its own root -/
def RTX (v : Int64) : Nat → Int64 → Int64
  | 0, r => r
  | e + 1, r => RTX v e (if Int64.toInt ((r + Int64.ofNat (2 ^ e)) * (r + Int64.ofNat (2 ^ e))) ≤ Int64.toInt v then r + Int64.ofNat (2 ^ e) else r)
def RCR (m op : Int) (p : List Int64) (q : Nat → Int64) : PQ := if op = 26 then (if (p.length : Int) < 1 then ((p, q), 2) else if Int64.toInt (BEL p 0) < 0 then ((p, q), 9) else LFT q (PSH m (DRP p 1) (RTX (BEL p 0 * 65536) 32 0))) else RCK m op p q
def HRF (s : M8) (k : (WH × FR8) × Int) : M8 × Int := ((M8.mk k.1.1 s.o s.ov [] s.q k.1.2 s.w), k.2)
def CPR (F : F8) (op : Int) (s : M8) : M8 × Int :=
  if op = 19 ∨ op = 20 then HRF s (MSR F.nm F.df s.p s.wh s.c) else if op = 282 then RLF s (RCR F.m 26 s.p s.q) else COP F op s
theorem prz {k : Nat} {c c1 : FR8} {a b : Int} (h : ITK k c = (c1, a)) (e : b = a) : ITK k c = (c1, b) := e ▸ h
def MOP (b : Int) : Int := if b = 2 then 21 else b
theorem mop_2 {b : Int} (h : b = 2) : MOP b = 21 := if_pos h
theorem mop_n {b k : Int} (h : ¬ (b = 2)) (e : b = k) : MOP b = k := (if_neg h).trans e
theorem mop_x {b k : Int} (h : ¬ (b = 2)) (e : ¬ (b = k)) : ¬ (MOP b = k) := fun h9 => e ((if_neg h).symm.trans h9)
theorem mop_k {b k : Int} (h : (b = 2 ∧ k = 2) ∨ (¬ (b = 2) ∧ ¬ (b = 21) ∧ k = 1)) : (MOP b = 21 ∧ k = 2) ∨ (¬ (MOP b = 21) ∧ k = 1) := by
  rcases h with ⟨h1, h2⟩ | ⟨h1, h2, h3⟩
  · exact Or.inl ⟨mop_2 h1, h2⟩
  · exact Or.inr ⟨mop_x h1 h2, h3⟩
theorem itk_e {X j : Int} {c : FR8} (h : j = 0) : ITK X.toNat c = ITK (X - j).toNat c := by rw [h, Int.sub_zero]
