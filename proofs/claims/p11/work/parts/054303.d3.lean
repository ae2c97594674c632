/-! lines and curves in a row (p8 to p11) -/
def SIXF (lim : Int) (p : List Int64) (a : Int) (k : Nat) : OU → OU × Int := CVP lim (NG p (a + 6 * k)) (NG p (a + 6 * k + 1)) (NG p (a + 6 * k + 2)) (NG p (a + 6 * k + 3)) (NG p (a + 6 * k + 4)) (NG p (a + 6 * k + 5))
def PRF (lim : Int) (p : List Int64) (a : Int) (k : Nat) : OU → OU × Int := LNP lim (NG p (a + 2 * k)) (NG p (a + 2 * k + 1))
def TLF (lim : Int) (p : List Int64) (ax : Int) (k : Nat) : OU → OU × Int := if (k % 2 = 0 ∧ ax = 1) ∨ (k % 2 = 1 ∧ ¬ (ax = 1)) then LNP lim (NG p k) 0 else LNP lim 0 (NG p k)
def FIF (p : List Int64) (k : Nat) : Int64 := if (4 * k + 5 : Int) = p.length then NG p (4 * k + 4) else 0
def TCF (lim : Int) (p : List Int64) (ax : Int) (k : Nat) : OU → OU × Int := if (k % 2 = 0 ∧ ax = 1) ∨ (k % 2 = 1 ∧ ¬ (ax = 1)) then CVP lim (NG p (4 * k)) 0 (NG p (4 * k + 1)) (NG p (4 * k + 2)) (FIF p k) (NG p (4 * k + 3)) else CVP lim 0 (NG p (4 * k)) (NG p (4 * k + 1)) (NG p (4 * k + 2)) (NG p (4 * k + 3)) (FIF p k)
def SID (p : List Int64) (a : Int) (k : Nat) : Int64 := if k = 0 ∧ a = 1 then NG p 0 else 0
def SCF (lim : Int) (p : List Int64) (ax a : Int) (k : Nat) : OU → OU × Int := if ax = 1 then CVP lim (NG p (a + 4 * k)) (SID p a k) (NG p (a + 4 * k + 1)) (NG p (a + 4 * k + 2)) (NG p (a + 4 * k + 3)) 0 else CVP lim (SID p a k) (NG p (a + 4 * k)) (NG p (a + 4 * k + 1)) (NG p (a + 4 * k + 2)) 0 (NG p (a + 4 * k + 3))
theorem ng_e {p : List Int64} {z : Int64} {i j : Int} (h : z = NG p i) (e : i = j) : NG p j = z := by rw [← e]; exact h.symm
theorem six_s {lim a : Int} {pl : List Int64} {o : OU} {p p2 : PRT2} {x y x2 y2 : Int64} {u r u2 r2 i0 i1 i2 i3 i4 i5 : Int} {k k2 : Nat} {g0 g1 g2 g3 g4 g5 : Int64} (h : OEQ p x y u r (ITP (SIXF lim pl a) k o)) (hr : r = 0) (G0 : g0 = NG pl i0) (G1 : g1 = NG pl i1) (G2 : g2 = NG pl i2) (G3 : g3 = NG pl i3) (G4 : g4 = NG pl i4) (G5 : g5 = NG pl i5) (h0 : i0 = a + 6 * k) (h1 : i1 = a + 6 * k + 1) (h2 : i2 = a + 6 * k + 2) (h3 : i3 = a + 6 * k + 3) (h4 : i4 = a + 6 * k + 4) (h5 : i5 = a + 6 * k + 5) (C : OEQ p2 x2 y2 u2 r2 (CVP lim g0 g1 g2 g3 g4 g5 (p, x, y, u))) (e : k2 = k + 1) : OEQ p2 x2 y2 u2 r2 (ITP (SIXF lim pl a) k2 o) := by
  refine itp_s h hr ?_ e
  unfold SIXF
  rw [ng_e G0 h0, ng_e G1 h1, ng_e G2 h2, ng_e G3 h3, ng_e G4 h4, ng_e G5 h5]
  exact C
theorem prf_s {lim a : Int} {pl : List Int64} {o : OU} {p p2 : PRT2} {x y x2 y2 : Int64} {u r u2 r2 i0 i1 : Int} {k k2 : Nat} {g0 g1 : Int64} (h : OEQ p x y u r (ITP (PRF lim pl a) k o)) (hr : r = 0) (G0 : g0 = NG pl i0) (G1 : g1 = NG pl i1) (h0 : i0 = a + 2 * k) (h1 : i1 = a + 2 * k + 1) (C : OEQ p2 x2 y2 u2 r2 (LNP lim g0 g1 (p, x, y, u))) (e : k2 = k + 1) : OEQ p2 x2 y2 u2 r2 (ITP (PRF lim pl a) k2 o) := by
  refine itp_s h hr ?_ e
  unfold PRF
  rw [ng_e G0 h0, ng_e G1 h1]
  exact C
theorem tlf_x {lim ax : Int} {pl : List Int64} {o : OU} {p p2 : PRT2} {x y x2 y2 : Int64} {u r u2 r2 i0 : Int} {k k2 : Nat} {g0 : Int64} (h : OEQ p x y u r (ITP (TLF lim pl ax) k o)) (hr : r = 0) (G0 : g0 = NG pl i0) (h0 : i0 = k) (hx : (k % 2 = 0 ∧ ax = 1) ∨ (k % 2 = 1 ∧ ¬ (ax = 1))) (C : OEQ p2 x2 y2 u2 r2 (LNP lim g0 0 (p, x, y, u))) (e : k2 = k + 1) : OEQ p2 x2 y2 u2 r2 (ITP (TLF lim pl ax) k2 o) := by
  refine itp_s h hr ?_ e
  unfold TLF
  rw [if_pos hx, ng_e G0 h0]
  exact C
theorem tlf_y {lim ax : Int} {pl : List Int64} {o : OU} {p p2 : PRT2} {x y x2 y2 : Int64} {u r u2 r2 i0 : Int} {k k2 : Nat} {g0 : Int64} (h : OEQ p x y u r (ITP (TLF lim pl ax) k o)) (hr : r = 0) (G0 : g0 = NG pl i0) (h0 : i0 = k) (hx : ¬ ((k % 2 = 0 ∧ ax = 1) ∨ (k % 2 = 1 ∧ ¬ (ax = 1)))) (C : OEQ p2 x2 y2 u2 r2 (LNP lim 0 g0 (p, x, y, u))) (e : k2 = k + 1) : OEQ p2 x2 y2 u2 r2 (ITP (TLF lim pl ax) k2 o) := by
  refine itp_s h hr ?_ e
  unfold TLF
  rw [if_neg hx, ng_e G0 h0]
  exact C
theorem fif_y {f : Nat → Int64} {n i : Int} {k : Nat} {g : Int64} (h0 : 0 ≤ n) (hn : (4 * k + 5 : Int) = n) (G : g = NG (PA f n) i) (hi : i = 4 * k + 4) : FIF (PA f n) k = g := by
  unfold FIF
  rw [if_pos (by rw [pa_len]; omega)]
  exact ng_e G hi
theorem fif_n {f : Nat → Int64} {n : Int} {k : Nat} {g : Int64} (h0 : 0 ≤ n) (hn : ¬ ((4 * k + 5 : Int) = n)) (hg : g = 0) : FIF (PA f n) k = g := by
  unfold FIF
  rw [if_neg (by rw [pa_len]; omega), hg]
theorem tcf_x {lim ax : Int} {pl : List Int64} {o : OU} {p p2 : PRT2} {x y x2 y2 : Int64} {u r u2 r2 i0 i1 i2 i3 : Int} {k k2 : Nat} {g0 g1 g2 g3 f5 : Int64} (h : OEQ p x y u r (ITP (TCF lim pl ax) k o)) (hr : r = 0) (G0 : g0 = NG pl i0) (G1 : g1 = NG pl i1) (G2 : g2 = NG pl i2) (G3 : g3 = NG pl i3) (h0 : i0 = 4 * k) (h1 : i1 = 4 * k + 1) (h2 : i2 = 4 * k + 2) (h3 : i3 = 4 * k + 3) (F : FIF pl k = f5) (hx : (k % 2 = 0 ∧ ax = 1) ∨ (k % 2 = 1 ∧ ¬ (ax = 1))) (C : OEQ p2 x2 y2 u2 r2 (CVP lim g0 0 g1 g2 f5 g3 (p, x, y, u))) (e : k2 = k + 1) : OEQ p2 x2 y2 u2 r2 (ITP (TCF lim pl ax) k2 o) := by
  refine itp_s h hr ?_ e
  unfold TCF
  rw [if_pos hx, ng_e G0 h0, ng_e G1 h1, ng_e G2 h2, ng_e G3 h3, F]
  exact C
theorem tcf_y {lim ax : Int} {pl : List Int64} {o : OU} {p p2 : PRT2} {x y x2 y2 : Int64} {u r u2 r2 i0 i1 i2 i3 : Int} {k k2 : Nat} {g0 g1 g2 g3 f5 : Int64} (h : OEQ p x y u r (ITP (TCF lim pl ax) k o)) (hr : r = 0) (G0 : g0 = NG pl i0) (G1 : g1 = NG pl i1) (G2 : g2 = NG pl i2) (G3 : g3 = NG pl i3) (h0 : i0 = 4 * k) (h1 : i1 = 4 * k + 1) (h2 : i2 = 4 * k + 2) (h3 : i3 = 4 * k + 3) (F : FIF pl k = f5) (hx : ¬ ((k % 2 = 0 ∧ ax = 1) ∨ (k % 2 = 1 ∧ ¬ (ax = 1)))) (C : OEQ p2 x2 y2 u2 r2 (CVP lim 0 g0 g1 g2 g3 f5 (p, x, y, u))) (e : k2 = k + 1) : OEQ p2 x2 y2 u2 r2 (ITP (TCF lim pl ax) k2 o) := by
  refine itp_s h hr ?_ e
  unfold TCF
  rw [if_neg hx, ng_e G0 h0, ng_e G1 h1, ng_e G2 h2, ng_e G3 h3, F]
  exact C
theorem scf_x {lim ax a : Int} {pl : List Int64} {o : OU} {p p2 : PRT2} {x y x2 y2 : Int64} {u r u2 r2 i0 i1 i2 i3 : Int} {k k2 : Nat} {g0 g1 g2 g3 s : Int64} (h : OEQ p x y u r (ITP (SCF lim pl ax a) k o)) (hr : r = 0) (G0 : g0 = NG pl i0) (G1 : g1 = NG pl i1) (G2 : g2 = NG pl i2) (G3 : g3 = NG pl i3) (h0 : i0 = a + 4 * k) (h1 : i1 = a + 4 * k + 1) (h2 : i2 = a + 4 * k + 2) (h3 : i3 = a + 4 * k + 3) (S : SID pl a k = s) (hx : ax = 1) (C : OEQ p2 x2 y2 u2 r2 (CVP lim g0 s g1 g2 g3 0 (p, x, y, u))) (e : k2 = k + 1) : OEQ p2 x2 y2 u2 r2 (ITP (SCF lim pl ax a) k2 o) := by
  refine itp_s h hr ?_ e
  unfold SCF
  rw [if_pos hx, ng_e G0 h0, ng_e G1 h1, ng_e G2 h2, ng_e G3 h3, S]
  exact C
theorem scf_y {lim ax a : Int} {pl : List Int64} {o : OU} {p p2 : PRT2} {x y x2 y2 : Int64} {u r u2 r2 i0 i1 i2 i3 : Int} {k k2 : Nat} {g0 g1 g2 g3 s : Int64} (h : OEQ p x y u r (ITP (SCF lim pl ax a) k o)) (hr : r = 0) (G0 : g0 = NG pl i0) (G1 : g1 = NG pl i1) (G2 : g2 = NG pl i2) (G3 : g3 = NG pl i3) (h0 : i0 = a + 4 * k) (h1 : i1 = a + 4 * k + 1) (h2 : i2 = a + 4 * k + 2) (h3 : i3 = a + 4 * k + 3) (S : SID pl a k = s) (hx : ¬ (ax = 1)) (C : OEQ p2 x2 y2 u2 r2 (CVP lim s g0 g1 g2 0 g3 (p, x, y, u))) (e : k2 = k + 1) : OEQ p2 x2 y2 u2 r2 (ITP (SCF lim pl ax a) k2 o) := by
  refine itp_s h hr ?_ e
  unfold SCF
  rw [if_neg hx, ng_e G0 h0, ng_e G1 h1, ng_e G2 h2, ng_e G3 h3, S]
  exact C
theorem itp_z {s : Nat → OU → OU × Int} {p : PRT2} {x y : Int64} {u r : Int} {k : Nat} (hk : k = 0) (hr : r = 0) : OEQ p x y u r (ITP s k (p, x, y, u)) := by
  subst hk hr
  exact oeq_0
/-- with the count asked ahead -/
def ASKO (c : Prop) [Decidable c] (k : OU → OU × Int) (o : OU) : OU × Int := if c then k o else (o, 2)
theorem asko_y {c : Prop} [Decidable c] {k : OU → OU × Int} {o : OU} {p : PRT2} {x y : Int64} {u r : Int} (hc : c) (h : OEQ p x y u r (k o)) : OEQ p x y u r (ASKO c k o) := by unfold ASKO; rw [if_pos hc]; exact h
theorem asko_n {c : Prop} [Decidable c] {k : OU → OU × Int} {p p1 : PRT2} {x y x1 y1 : Int64} {u u1 r : Int} (hc : ¬ c) (e : p1 = p) (hr : r = 2) : OEQ p1 x1 y1 u1 r (ASKO c k (p, x, y, u)) := by
  unfold ASKO
  rw [if_neg hc]
  exact ⟨hr, e, fun h => by omega⟩
def TCV (lim : Int) (p : List Int64) (ax : Int) : OU → OU × Int := ASKO (4 ≤ p.length ∧ p.length % 4 ≤ 1) (ITP (TCF lim p ax) (p.length / 4))
def TLV (lim : Int) (p : List Int64) (ax : Int) : OU → OU × Int := ASKO (1 ≤ p.length) (ITP (TLF lim p ax) p.length)
def SCV (lim : Int) (p : List Int64) (ax : Int) : OU → OU × Int := ASKO (4 ≤ p.length ∧ p.length % 4 ≤ 1) (ITP (SCF lim p ax (p.length % 4 : Nat)) (p.length / 4))
theorem sid_0 {p : List Int64} {a i : Int} {k : Nat} {s : Int64} (hk : k = 0) (h : (a = 1 ∧ s = NG p i ∧ i = 0) ∨ (¬ (a = 1) ∧ s = 0)) : SID p a k = s := by
  unfold SID
  rcases h with ⟨h1, h2, h3⟩ | ⟨h1, h2⟩
  · rw [if_pos ⟨hk, h1⟩, h2, h3]
  · rw [if_neg (by omega), h2]
theorem sid_n {p : List Int64} {a : Int} {k : Nat} {s : Int64} (hk : ¬ (k = 0)) (hs : s = 0) : SID p a k = s := by
  unfold SID
  rw [if_neg (by omega), hs]
theorem scv_end {lim ax a b : Int} {pl : List Int64} {o : OU} {p : PRT2} {x y : Int64} {u r : Int} {k m : Nat} (h : OEQ p x y u r (ITP (SCF lim pl ax a) k o)) (ea : a = b) (ek : k = m) : OEQ p x y u r (ITP (SCF lim pl ax b) m o) := by
  subst ea ek
  exact h
theorem prf_e {lim a a2 : Int} {pl : List Int64} {o : OU} {p : PRT2} {x y : Int64} {u r : Int} {k k2 : Nat} (h : OEQ p x y u r (ITP (PRF lim pl a) k o)) (ea : a = a2) (ek : k = k2) : OEQ p x y u r (ITP (PRF lim pl a2) k2 o) := by subst ea ek; exact h
theorem six_e {lim a a2 : Int} {pl : List Int64} {o : OU} {p : PRT2} {x y : Int64} {u r : Int} {k k2 : Nat} (h : OEQ p x y u r (ITP (SIXF lim pl a) k o)) (ea : a = a2) (ek : k = k2) : OEQ p x y u r (ITP (SIXF lim pl a2) k2 o) := by subst ea ek; exact h
/-- lines by pairs, then curves by so many NUMBERS; curves by sixes, then lines by so many -/
def PSX (lim : Int) (p : List Int64) (c : Int) : OU → OU × Int := ASKO (2 ≤ (p.length : Int) - c ∧ ((p.length : Int) - c) % 2 = 0) (fun o => SQ (ITP (PRF lim p 0) (((p.length : Int) - c) / 2).toNat o) (ITP (SIXF lim p ((p.length : Int) - c)) (c / 6).toNat))
def SPX (lim : Int) (p : List Int64) (c : Int) : OU → OU × Int := ASKO (6 ≤ (p.length : Int) - c ∧ ((p.length : Int) - c) % 6 = 0) (fun o => SQ (ITP (SIXF lim p 0) (((p.length : Int) - c) / 6).toNat o) (ITP (PRF lim p ((p.length : Int) - c)) (c / 2).toNat))
def HFX (lim : Int) (p : List Int64) (o : OU) : OU × Int := SQ (CVP lim (NG p 0) 0 (NG p 1) (NG p 2) (NG p 3) 0 o) (CVP lim (NG p 4) 0 (NG p 5) (-(NG p 2)) (NG p 6) 0)
def HF1 (lim : Int) (p : List Int64) (o : OU) : OU × Int := SQ (CVP lim (NG p 0) (NG p 1) (NG p 2) (NG p 3) (NG p 4) 0 o) (CVP lim (NG p 5) 0 (NG p 6) (NG p 7) (NG p 8) (-(NG p 1 + NG p 3 + NG p 7)))
def SUM (p : List Int64) (a : Int) : Nat → Int64
  | 0 => 0
  | k + 1 => SUM p a k + NG p (a + 2 * k)
def FLA (p : List Int64) : Bool := decide (Int64.toInt (ABL (SUM p 1 5)) < Int64.toInt (ABL (SUM p 0 5)))
def FX1 (lim : Int) (p : List Int64) (o : OU) : OU × Int := SQ (ITP (SIXF lim p 0) 1 o) (CVP lim (NG p 6) (NG p 7) (NG p 8) (NG p 9) (if FLA p then NG p 10 else -(SUM p 0 5)) (if FLA p then -(SUM p 1 5) else NG p 10))
theorem hfx_1 {lim : Int} {pl : List Int64} {o : OU} {p : PRT2} {x y : Int64} {u r : Int} {g0 g1 g2 g3 : Int64} (G0 : g0 = NG pl 0) (G1 : g1 = NG pl 1) (G2 : g2 = NG pl 2) (G3 : g3 = NG pl 3) (C : OEQ p x y u r (CVP lim g0 0 g1 g2 g3 0 o)) (hr : ¬ (r = 0)) : OEQ p x y u r (HFX lim pl o) := by
  subst G0 G1 G2 G3
  exact oeq_stop C hr
theorem hfx_2 {lim : Int} {pl : List Int64} {o : OU} {p p2 : PRT2} {x y x2 y2 : Int64} {u r u2 r2 : Int} {g0 g1 g2 g3 g4 g5 g6 n2 : Int64} (G0 : g0 = NG pl 0) (G1 : g1 = NG pl 1) (G2 : g2 = NG pl 2) (G3 : g3 = NG pl 3) (C : OEQ p x y u r (CVP lim g0 0 g1 g2 g3 0 o)) (hr : r = 0) (G4 : g4 = NG pl 4) (G5 : g5 = NG pl 5) (G6 : g6 = NG pl 6) (en : -g2 = n2) (C2 : OEQ p2 x2 y2 u2 r2 (CVP lim g4 0 g5 n2 g6 0 (p, x, y, u))) : OEQ p2 x2 y2 u2 r2 (HFX lim pl o) := by
  subst en G0 G1 G2 G3 G4 G5 G6
  exact oeq_go C hr C2
theorem hf1_1 {lim : Int} {pl : List Int64} {o : OU} {p : PRT2} {x y : Int64} {u r : Int} {g0 g1 g2 g3 g4 : Int64} (G0 : g0 = NG pl 0) (G1 : g1 = NG pl 1) (G2 : g2 = NG pl 2) (G3 : g3 = NG pl 3) (G4 : g4 = NG pl 4) (C : OEQ p x y u r (CVP lim g0 g1 g2 g3 g4 0 o)) (hr : ¬ (r = 0)) : OEQ p x y u r (HF1 lim pl o) := by
  subst G0 G1 G2 G3 G4
  exact oeq_stop C hr
theorem hf1_2 {lim : Int} {pl : List Int64} {o : OU} {p p2 : PRT2} {x y x2 y2 : Int64} {u r u2 r2 : Int} {g0 g1 g2 g3 g4 g5 g6 g7 g8 a b c : Int64} (G0 : g0 = NG pl 0) (G1 : g1 = NG pl 1) (G2 : g2 = NG pl 2) (G3 : g3 = NG pl 3) (G4 : g4 = NG pl 4) (C : OEQ p x y u r (CVP lim g0 g1 g2 g3 g4 0 o)) (hr : r = 0) (G5 : g5 = NG pl 5) (G6 : g6 = NG pl 6) (G7 : g7 = NG pl 7) (G8 : g8 = NG pl 8) (ea : g1 + g3 = a) (eb : a + g7 = b) (ec : -b = c) (C2 : OEQ p2 x2 y2 u2 r2 (CVP lim g5 0 g6 g7 g8 c (p, x, y, u))) : OEQ p2 x2 y2 u2 r2 (HF1 lim pl o) := by
  subst ec eb ea G0 G1 G2 G3 G4 G5 G6 G7 G8
  exact oeq_go C hr C2
theorem sum_s {p : List Int64} {a i : Int} {k k2 : Nat} {s g s2 : Int64} (h : s = SUM p a k) (G : g = NG p i) (hi : i = a + 2 * k) (e : s + g = s2) (hk : k2 = k + 1) : s2 = SUM p a k2 := by
  subst hk e
  show s + g = SUM p a k + NG p (a + 2 * k)
  rw [← h, G, hi]
theorem fx1_1 {lim : Int} {pl : List Int64} {o : OU} {p : PRT2} {x y : Int64} {u r : Int} {k : Nat} (C : OEQ p x y u r (ITP (SIXF lim pl 0) k o)) (hk : k = 1) (hr : ¬ (r = 0)) : OEQ p x y u r (FX1 lim pl o) := by
  subst hk
  exact oeq_stop C hr
theorem fx1_2 {lim : Int} {pl : List Int64} {o : OU} {p p2 : PRT2} {x y x2 y2 : Int64} {u r u2 r2 : Int} {k : Nat} {g6 g7 g8 g9 e f : Int64} (C : OEQ p x y u r (ITP (SIXF lim pl 0) k o)) (hk : k = 1) (hr : r = 0) (G6 : g6 = NG pl 6) (G7 : g7 = NG pl 7) (G8 : g8 = NG pl 8) (G9 : g9 = NG pl 9) (he : (FLA pl = true ∧ e = NG pl 10 ∧ f = -(SUM pl 1 5)) ∨ (FLA pl = false ∧ e = -(SUM pl 0 5) ∧ f = NG pl 10)) (C2 : OEQ p2 x2 y2 u2 r2 (CVP lim g6 g7 g8 g9 e f (p, x, y, u))) : OEQ p2 x2 y2 u2 r2 (FX1 lim pl o) := by
  subst hk G6 G7 G8 G9
  refine oeq_go C hr ?_
  rcases he with ⟨h1, h2, h3⟩ | ⟨h1, h2, h3⟩
  · rw [h1, if_pos rfl, if_pos rfl, ← h2, ← h3]
    exact C2
  · rw [h1, if_neg (by decide), if_neg (by decide), ← h2, ← h3]
    exact C2
theorem fla_y {p : List Int64} {sx sy ax ay : Int64} (hx : sx = SUM p 0 5) (hy : sy = SUM p 1 5) (ex : (if (0 : Int64) < sx then sx else -sx) = ax) (ey : (if (0 : Int64) < sy then sy else -sy) = ay) (h : Int64.toInt ay < Int64.toInt ax) : FLA p = true := by
  unfold FLA
  rw [← hx, ← hy, ← abl_pf ex, ← abl_pf ey]
  exact decide_eq_true h
theorem fla_n {p : List Int64} {sx sy ax ay : Int64} (hx : sx = SUM p 0 5) (hy : sy = SUM p 1 5) (ex : (if (0 : Int64) < sx then sx else -sx) = ax) (ey : (if (0 : Int64) < sy then sy else -sy) = ay) (h : ¬ (Int64.toInt ay < Int64.toInt ax)) : FLA p = false := by
  unfold FLA
  rw [← hx, ← hy, ← abl_pf ex, ← abl_pf ey]
  exact decide_eq_false h
/-- an operator that draws, by its number; the count of NUMBERS asked first -/
def LAC (lim : Int) (p : List Int64) (op : Int) : OU → OU × Int :=
  if op = 5 then PSX lim p 0 else if op = 6 then TLV lim p 1 else if op = 7 then TLV lim p 0 else if op = 8 then SPX lim p 0 else if op = 24 then SPX lim p 2 else if op = 25 then PSX lim p 6
  else if op = 26 then SCV lim p 0 else if op = 27 then SCV lim p 1 else if op = 30 then TCV lim p 0 else if op = 31 then TCV lim p 1
  else if op = 290 then ASKO (p.length = 7) (HFX lim p) else if op = 291 then ASKO (p.length = 13) (ITP (SIXF lim p 0) 2) else if op = 292 then ASKO (p.length = 9) (HF1 lim p) else if op = 293 then ASKO (p.length = 11) (FX1 lim p)
  else fun o => (o, 1)
theorem sum_5 {p : List Int64} {a : Int} {k : Nat} {s : Int64} (h : s = SUM p a k) (hk : k = 5) : s = SUM p a 5 := hk ▸ h
theorem ngs {p : List Int64} {a : Int} {s n : Int64} (h : s = SUM p a 5) (e : -s = n) : n = -(SUM p a 5) := by rw [← e, h]
theorem lac_5 {lim op r u : Int} {p : List Int64} {o : OU} {q : PRT2} {x y : Int64} (h : op = 5) (C : OEQ q x y u r ((PSX lim p 0) o)) : OEQ q x y u r (LAC lim p op o) := by
  unfold LAC
  rw [if_pos h]
  exact C
theorem lac_6 {lim op r u : Int} {p : List Int64} {o : OU} {q : PRT2} {x y : Int64} (h : op = 6) (C : OEQ q x y u r ((TLV lim p 1) o)) : OEQ q x y u r (LAC lim p op o) := by
  unfold LAC
  rw [if_neg (by omega), if_pos h]
  exact C
theorem lac_7 {lim op r u : Int} {p : List Int64} {o : OU} {q : PRT2} {x y : Int64} (h : op = 7) (C : OEQ q x y u r ((TLV lim p 0) o)) : OEQ q x y u r (LAC lim p op o) := by
  unfold LAC
  rw [if_neg (by omega), if_neg (by omega), if_pos h]
  exact C
theorem lac_8 {lim op r u : Int} {p : List Int64} {o : OU} {q : PRT2} {x y : Int64} (h : op = 8) (C : OEQ q x y u r ((SPX lim p 0) o)) : OEQ q x y u r (LAC lim p op o) := by
  unfold LAC
  rw [if_neg (by omega), if_neg (by omega), if_neg (by omega), if_pos h]
  exact C
theorem lac_24 {lim op r u : Int} {p : List Int64} {o : OU} {q : PRT2} {x y : Int64} (h : op = 24) (C : OEQ q x y u r ((SPX lim p 2) o)) : OEQ q x y u r (LAC lim p op o) := by
  unfold LAC
  rw [if_neg (by omega), if_neg (by omega), if_neg (by omega), if_neg (by omega), if_pos h]
  exact C
theorem lac_25 {lim op r u : Int} {p : List Int64} {o : OU} {q : PRT2} {x y : Int64} (h : op = 25) (C : OEQ q x y u r ((PSX lim p 6) o)) : OEQ q x y u r (LAC lim p op o) := by
  unfold LAC
  rw [if_neg (by omega), if_neg (by omega), if_neg (by omega), if_neg (by omega), if_neg (by omega), if_pos h]
  exact C
theorem lac_26 {lim op r u : Int} {p : List Int64} {o : OU} {q : PRT2} {x y : Int64} (h : op = 26) (C : OEQ q x y u r ((SCV lim p 0) o)) : OEQ q x y u r (LAC lim p op o) := by
  unfold LAC
  rw [if_neg (by omega), if_neg (by omega), if_neg (by omega), if_neg (by omega), if_neg (by omega), if_neg (by omega), if_pos h]
  exact C
theorem lac_27 {lim op r u : Int} {p : List Int64} {o : OU} {q : PRT2} {x y : Int64} (h : op = 27) (C : OEQ q x y u r ((SCV lim p 1) o)) : OEQ q x y u r (LAC lim p op o) := by
  unfold LAC
  rw [if_neg (by omega), if_neg (by omega), if_neg (by omega), if_neg (by omega), if_neg (by omega), if_neg (by omega), if_neg (by omega), if_pos h]
  exact C
theorem lac_30 {lim op r u : Int} {p : List Int64} {o : OU} {q : PRT2} {x y : Int64} (h : op = 30) (C : OEQ q x y u r ((TCV lim p 0) o)) : OEQ q x y u r (LAC lim p op o) := by
  unfold LAC
  rw [if_neg (by omega), if_neg (by omega), if_neg (by omega), if_neg (by omega), if_neg (by omega), if_neg (by omega), if_neg (by omega), if_neg (by omega), if_pos h]
  exact C
theorem lac_31 {lim op r u : Int} {p : List Int64} {o : OU} {q : PRT2} {x y : Int64} (h : op = 31) (C : OEQ q x y u r ((TCV lim p 1) o)) : OEQ q x y u r (LAC lim p op o) := by
  unfold LAC
  rw [if_neg (by omega), if_neg (by omega), if_neg (by omega), if_neg (by omega), if_neg (by omega), if_neg (by omega), if_neg (by omega), if_neg (by omega), if_neg (by omega), if_pos h]
  exact C
theorem lac_290 {lim op r u : Int} {p : List Int64} {o : OU} {q : PRT2} {x y : Int64} (h : op = 290) (C : OEQ q x y u r ((ASKO (p.length = 7) (HFX lim p)) o)) : OEQ q x y u r (LAC lim p op o) := by
  unfold LAC
  rw [if_neg (by omega), if_neg (by omega), if_neg (by omega), if_neg (by omega), if_neg (by omega), if_neg (by omega), if_neg (by omega), if_neg (by omega), if_neg (by omega), if_neg (by omega), if_pos h]
  exact C
theorem lac_291 {lim op r u : Int} {p : List Int64} {o : OU} {q : PRT2} {x y : Int64} (h : op = 291) (C : OEQ q x y u r ((ASKO (p.length = 13) (ITP (SIXF lim p 0) 2)) o)) : OEQ q x y u r (LAC lim p op o) := by
  unfold LAC
  rw [if_neg (by omega), if_neg (by omega), if_neg (by omega), if_neg (by omega), if_neg (by omega), if_neg (by omega), if_neg (by omega), if_neg (by omega), if_neg (by omega), if_neg (by omega), if_neg (by omega), if_pos h]
  exact C
theorem lac_292 {lim op r u : Int} {p : List Int64} {o : OU} {q : PRT2} {x y : Int64} (h : op = 292) (C : OEQ q x y u r ((ASKO (p.length = 9) (HF1 lim p)) o)) : OEQ q x y u r (LAC lim p op o) := by
  unfold LAC
  rw [if_neg (by omega), if_neg (by omega), if_neg (by omega), if_neg (by omega), if_neg (by omega), if_neg (by omega), if_neg (by omega), if_neg (by omega), if_neg (by omega), if_neg (by omega), if_neg (by omega), if_neg (by omega), if_pos h]
  exact C
theorem lac_293 {lim op r u : Int} {p : List Int64} {o : OU} {q : PRT2} {x y : Int64} (h : op = 293) (C : OEQ q x y u r ((ASKO (p.length = 11) (FX1 lim p)) o)) : OEQ q x y u r (LAC lim p op o) := by
  unfold LAC
  rw [if_neg (by omega), if_neg (by omega), if_neg (by omega), if_neg (by omega), if_neg (by omega), if_neg (by omega), if_neg (by omega), if_neg (by omega), if_neg (by omega), if_neg (by omega), if_neg (by omega), if_neg (by omega), if_neg (by omega), if_pos h]
  exact C
theorem lac_no {lim op r u u1 : Int} {p : List Int64} {q q1 : PRT2} {x y x1 y1 : Int64} (h : ¬ (op = 5 ∨ op = 6 ∨ op = 7 ∨ op = 8 ∨ op = 24 ∨ op = 25 ∨ op = 26 ∨ op = 27 ∨ op = 30 ∨ op = 31 ∨ op = 290 ∨ op = 291 ∨ op = 292 ∨ op = 293)) (e : q1 = q) (hr : r = 1) : OEQ q1 x1 y1 u1 r (LAC lim p op (q, x, y, u)) := by
  unfold LAC
  rw [if_neg (by omega), if_neg (by omega), if_neg (by omega), if_neg (by omega), if_neg (by omega), if_neg (by omega), if_neg (by omega), if_neg (by omega), if_neg (by omega), if_neg (by omega), if_neg (by omega), if_neg (by omega), if_neg (by omega), if_neg (by omega)]
  exact ⟨hr, e, fun h9 => by omega⟩
