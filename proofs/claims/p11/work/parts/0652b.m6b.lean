/-! the programs as the reference keeps them: Type 1 (p6) -/
def PGM (st sz pl : Nat → Int32) (b c P : Int) (G : PGT) : Prop := ∀ k : Int, 0 ≤ k → k < c → (G k = none ∧ Int32.toInt (sz (b + k).toNat) = -1) ∨ (∃ v, G k = some v ∧ 0 ≤ v.1 ∧ Int32.toInt (sz (b + k).toNat) = v.1 ∧ 0 ≤ Int32.toInt (st (b + k).toNat) ∧ Int32.toInt (st (b + k).toNat) + v.1 ≤ P ∧ ∀ i : Int, 0 ≤ i → i < v.1 → Int32.toInt (pl (Int32.toInt (st (b + k).toNat) + i).toNat &&& 255) = v.2 i)
theorem pgm_0 {st sz pl : Nat → Int32} {b c P : Int} {G : PGT} (h : c ≤ 0) : PGM st sz pl b c P G := fun k h0 hk => by omega
theorem pgm_none {st sz pl : Nat → Int32} {b c P : Int} (h : ∀ k : Int, 0 ≤ k → k < c → Int32.toInt (sz (b + k).toNat) = -1) : PGM st sz pl b c P (fun _ => none) := fun k h0 hk => Or.inl ⟨rfl, h k h0 hk⟩
theorem pgm_fr {st sz pl st1 sz1 pl1 : Nat → Int32} {b c P P1 b2 c2 : Int} {G : PGT} (h : PGM st sz pl b c P G) (F : FRM b2 c2 st st1 sz sz1 pl pl1 P P1) (hb : 0 ≤ b) (hd : b + c ≤ b2 ∨ b2 + c2 ≤ b) : PGM st1 sz1 pl1 b c P1 G := by
  intro k h0 hk
  obtain ⟨f1, f2, f3, f4⟩ := F
  rw [f1 (b + k).toNat (by omega), f2 (b + k).toNat (by omega)]
  rcases h k h0 hk with h1 | ⟨v, h1, h2, h3, h4, h5, h6⟩
  · exact Or.inl h1
  · refine Or.inr ⟨v, h1, h2, h3, h4, by omega, fun i hi hv => ?_⟩
    rw [f3 _ (by omega)]
    exact h6 i hi hv
/-- a program taken -/
def MPG (δ : Int → Int) (q m lv x : Int) (st sz pl : Nat → Int32) (P : Int) (st1 sz1 pl1 : Nat → Int32) (P1 : Int) : Prop := ∃ p z : Int32, st1 = upd st x.toNat p ∧ sz1 = upd sz x.toNat z ∧ Int32.toInt p = P ∧ Int32.toInt z = (PBY δ (q - m) m lv).1 ∧ P1 = P + (PBY δ (q - m) m lv).1 ∧ (∀ i : Int, 0 ≤ i → i < (PBY δ (q - m) m lv).1 → Int32.toInt (pl1 (P + i).toNat &&& 255) = (PBY δ (q - m) m lv).2 i) ∧ LOW pl pl1 P
theorem pby_nn {δ : Int → Int} {a m lv : Int} : 0 ≤ (PBY δ a m lv).1 := by
  show 0 ≤ if lv < m then m - lv else 0
  split <;> omega
theorem mpg_frm {δ : Int → Int} {q m lv x P P1 : Int} {st sz pl st1 sz1 pl1 : Nat → Int32} (h : MPG δ q m lv x st sz pl P st1 sz1 pl1 P1) (hx : 0 ≤ x) : FRM x 1 st st1 sz sz1 pl pl1 P P1 := by
  obtain ⟨p, z, e1, e2, e3, e4, e5, e6, e7⟩ := h
  have h9 := pby_nn (δ := δ) (a := q - m) (m := m) (lv := lv)
  refine ⟨fun j hj => ?_, fun j hj => ?_, e7, by omega⟩
  · rw [e1, upd_eq, if_neg (by omega)]
  · rw [e2, upd_eq, if_neg (by omega)]
theorem pgm_put {δ : Int → Int} {q m lv b c c1 k P P1 x : Int} {st sz pl st1 sz1 pl1 : Nat → Int32} {G : PGT} (h : PGM st sz pl b c P G) (M : MPG δ q m lv x st sz pl P st1 sz1 pl1 P1) (hx : x = b + k) (hb : 0 ≤ b) (hk : 0 ≤ k) (hP : 0 ≤ P) (hc : c1 = c ∨ (c1 = c + 1 ∧ k = c)) : PGM st1 sz1 pl1 b c1 P1 (TUP G k (PBY δ (q - m) m lv)) := by
  subst hx
  obtain ⟨p, z, e1, e2, e3, e4, e5, e6, e7⟩ := M
  have h9 := pby_nn (δ := δ) (a := q - m) (m := m) (lv := lv)
  intro j h0 hj
  rw [e1, e2, upd_eq, upd_eq]
  by_cases hjk : j = k
  · subst hjk
    rw [if_pos rfl, if_pos rfl, e3]
    exact Or.inr ⟨PBY δ (q - m) m lv, if_pos rfl, h9, e4, hP, by omega, e6⟩
  · rw [if_neg (by omega), if_neg (by omega)]
    have eG : TUP G k (PBY δ (q - m) m lv) j = G j := if_neg hjk
    rw [eG]
    rcases h j h0 (by omega) with h1 | ⟨v, h1, h2, h3, h4, h5, h6⟩
    · exact Or.inl h1
    · refine Or.inr ⟨v, h1, h2, h3, h4, by omega, fun i hi hv => ?_⟩
      rw [e7 _ (by omega)]
      exact h6 i hi hv
/-! the loop that makes a program plain -/
def MBL (tx : Nat → Int32) (N lv : Int) (pl0 pl : Nat → Int32) (P0 P : Int) (key : Int32) (b : Int) : Prop := key = (dec (fun j => tx (N.toNat + j)) 4330 b.toNat).2 ∧ (0 ≤ key.toInt ∧ key.toInt ≤ 65535) ∧ ((b ≤ lv ∧ P = P0) ∨ (lv < b ∧ P = P0 + (b - lv))) ∧ (∀ t : Int, 0 ≤ t → lv + t < b → pl (P0 + t).toNat &&& 255 = (dec (fun j => tx (N.toNat + j)) 4330 b.toNat).1 (lv + t).toNat &&& 255) ∧ LOW pl0 pl P0
theorem mbl_0 {tx pl : Nat → Int32} {N lv P : Int} (h : 0 ≤ lv) : MBL tx N lv pl pl P P 4330 0 := ⟨rfl, by decide, Or.inl ⟨h, rfl⟩, fun t h0 h1 => by omega, low_0⟩
theorem dec_hi {f : Nat → Int32} {k : Int32} (hk : 0 ≤ k.toInt ∧ k.toInt ≤ 65535) (i j : Nat) (h : i ≤ j) : (dec f k i).1 j = f j := (plain_ind (ft := f) (gt := f) (go := f) (n := 0) (T := i) hk (fun _ _ => rfl) i (Nat.le_refl _)).2.2.2 j h
theorem dec_s1 {f : Nat → Int32} {k : Int32} (i j : Nat) : (dec f k (i + 1)).1 j = if j = i then st8 (((dec f k i).1 i &&& 255) ^^^ ((dec f k i).2 >>> ((8 : Int32) &&& 31))) else (dec f k i).1 j := rfl
theorem mbl_skip {tx pl0 pl : Nat → Int32} {N lv P0 P b b2 : Int} {key key2 c z : Int32} {y : Int32} (h : MBL tx N lv pl0 pl P0 P key b) (hb : b < lv) (h0 : 0 ≤ b) (e1 : tx (Int32.toNatClampNeg y) = z) (e2 : z &&& 255 = c) (hy : Int32.toInt y = N + b) (hN : 0 ≤ N) (hk : key2 = nk c key) (e : b2 = b + 1) : MBL tx N lv pl0 pl P0 P key2 b2 := by
  obtain ⟨h1, h2, h3, h4, h5⟩ := h
  have hc : Int32.toNatClampNeg y = N.toNat + b.toNat := by show (Int32.toInt y).toNat = _; omega
  rw [hc] at e1
  refine ⟨?_, ?_, Or.inl ⟨by omega, by omega⟩, fun t ht hl => by omega, h5⟩
  · rw [show b2.toNat = b.toNat + 1 by omega, hk]
    show nk c key = nk ((dec _ 4330 b.toNat).1 b.toNat &&& 255) (dec _ 4330 b.toNat).2
    rw [dec_hi (by decide) b.toNat b.toNat (Nat.le_refl _), ← h1]
    show nk c key = nk (tx (N.toNat + b.toNat) &&& 255) key
    rw [e1, e2]
  · rw [hk]; exact nk_in _ _
theorem mbl_step {tx pl0 pl pl2 : Nat → Int32} {N lv P0 P P2 b b2 : Int} {key key2 c z r w x y : Int32} (h : MBL tx N lv pl0 pl P0 P key b) (hb : ¬ (b < lv)) (h0 : 0 ≤ b) (hl : 0 ≤ lv) (e1 : tx (Int32.toNatClampNeg y) = z) (e2 : z &&& 255 = c) (hy : Int32.toInt y = N + b) (hN : 0 ≤ N) (hr : r = cs c key) (hk : key2 = nk c key) (e3 : (Int32.toInt8 r).toInt32 = w) (e4 : upd pl (Int32.toNatClampNeg x) (vp_nar .byte w) = pl2) (hx : Int32.toInt x = P) (hP : 0 ≤ P0) (eP : P2 = P + 1) (e : b2 = b + 1) : MBL tx N lv pl0 pl2 P0 P2 key2 b2 := by
  obtain ⟨h1, h2, h3, h4, h5⟩ := h
  have hc : Int32.toNatClampNeg y = N.toNat + b.toNat := by show (Int32.toInt y).toNat = _; omega
  have hd : Int32.toNatClampNeg x = P.toNat := by show (Int32.toInt x).toNat = _; rw [hx]
  rw [hc] at e1
  rw [hd] at e4
  have eP1 : P = P0 + (b - lv) := by omega
  have hf : (dec (fun j => tx (N.toNat + j)) 4330 b.toNat).1 b.toNat &&& 255 = c := by
    rw [dec_hi (by decide) b.toNat b.toNat (Nat.le_refl _)]
    show tx (N.toNat + b.toNat) &&& 255 = c
    rw [e1, e2]
  refine ⟨?_, ?_, Or.inr ⟨by omega, by omega⟩, fun t ht hl2 => ?_, fun j hj => ?_⟩
  · rw [show b2.toNat = b.toNat + 1 by omega, hk]
    show nk c key = nk ((dec _ 4330 b.toNat).1 b.toNat &&& 255) (dec _ 4330 b.toNat).2
    rw [hf, ← h1]
  · rw [hk]; exact nk_in _ _
  · rw [show b2.toNat = b.toNat + 1 by omega, dec_s1, ← e4, upd_eq]
    by_cases h9 : (lv + t).toNat = b.toNat
    · rw [if_pos h9, if_pos (by omega), hf, ← h1, ← e3]
      have e9 := st8_and r
      unfold st8 at e9
      rw [e9, st8_and, hr]
      unfold cs
      rw [and2]
    · rw [if_neg h9, if_neg (by omega)]
      exact h4 t ht (by omega)
  · rw [← e4, upd_eq, if_neg (by omega)]
    exact h5 j hj
def SZI (sz0 sz : Nat → Int32) (x n : Int) : Prop := ∃ z : Int32, sz = upd sz0 x.toNat z ∧ Int32.toInt z = n
theorem szi_0 {sz0 sz : Nat → Int32} {x : Int32} {n : Int} (e : upd sz0 (Int32.toNatClampNeg x) 0 = sz) (hn : n = 0) : SZI sz0 sz (Int32.toInt x) n := ⟨0, by rw [← e]; rfl, by rw [hn]; rfl⟩
theorem szi_step {sz0 sz sz2 : Nat → Int32} {x u v : Int32} {n n2 : Int} (h : SZI sz0 sz (Int32.toInt x) n) (e1 : sz (Int32.toNatClampNeg x) = u) (e3 : upd sz (Int32.toNatClampNeg x) v = sz2) (hv : Int32.toInt v = Int32.toInt u + 1) (hn : n2 = n + 1) : SZI sz0 sz2 (Int32.toInt x) n2 := by
  obtain ⟨z, h1, h2⟩ := h
  refine ⟨v, ?_, ?_⟩
  · rw [← e3, h1]
    funext j
    show upd (upd sz0 (Int32.toInt x).toNat z) (Int32.toInt x).toNat v j = _
    rw [upd_eq, upd_eq, upd_eq]
    by_cases hj : j = (Int32.toInt x).toNat
    · rw [if_pos hj, if_pos hj]
    · rw [if_neg hj, if_neg hj, if_neg hj]
  · have e9 : sz (Int32.toInt x).toNat = u := e1
    rw [h1, upd_eq, if_pos rfl] at e9
    rw [hv, ← e9, h2, hn]
theorem mpg_pf {tx st sz pl st1 sz1 pl1 : Nat → Int32} {ts N q m lv P P1 b : Int} {x p key : Int32} {n : Int} (h : MBL tx N lv pl pl1 P P1 key b) (S : SZI sz sz1 (Int32.toInt x) n) (hn : n = P1 - P) (hm : b = m) (hm0 : 0 ≤ m) (e : upd st (Int32.toNatClampNeg x) p = st1) (hp : Int32.toInt p = P) (hq : q = N + m + 4) (hN : 0 ≤ N) (hs : N + m ≤ ts) (hl : 0 ≤ lv) : MPG (TB tx ts) q m lv (Int32.toInt x) st sz pl P st1 sz1 pl1 P1 := by
  subst hm
  obtain ⟨z, s1, s2⟩ := S
  obtain ⟨h1, h2, h3, h4, h5⟩ := h
  have hz : (PBY (TB tx ts) (q - b) b lv).1 = P1 - P := by
    show (if lv < b then b - lv else 0) = _
    split <;> omega
  refine ⟨p, z, ?_, s1, hp, by rw [hz, s2, hn], by rw [hz]; omega, fun i hi hv => ?_, h5⟩
  · rw [← e]; rfl
  · rw [hz] at hv
    have hlb : lv < b := by omega
    rw [h4 i hi (by omega)]
    show _ = Int32.toInt ((dec (fun j : Nat => Int32.ofInt (TB tx ts (q - b + j))) 4330 b.toNat).1 (lv + i).toNat &&& 255)
    have E : E8 (fun j => tx (N.toNat + j)) (fun j : Nat => Int32.ofInt (TB tx ts (q - b + j))) b.toNat := by
      intro t ht
      show tx (N.toNat + t) &&& 255 = Int32.ofInt (TB tx ts (q - b + t)) &&& 255
      unfold TB
      rw [gb_in (by omega) (by omega), show (q - b + (t : Int) - 4).toNat = N.toNat + t by omega, Int32.ofInt_toInt, and2]
    rw [dec_cg (by decide) E (lv + i).toNat (by omega)]
/-! the settings -/
def FX2 (st sz pl : Nat → Int32) (P : Int) (δ : Int → Int) (N ag nx wf we h c lv : Int) : Prop := 0 ≤ lv ∧ ∃ p G, SETX δ N 4 0 0 4 (fun _ => none) = SETX δ N p h c lv G ∧ PGM st sz pl 1600 c P G ∧ ((ag = 0 ∧ p = nx) ∨ (ag = 1 ∧ WRD δ N p = some (wf, we)))
def FXW (st sz pl : Nat → Int32) (P : Int) (δ : Int → Int) (N a b h c lv : Int) : Prop := 0 ≤ lv ∧ ∃ p G, SETX δ N 4 0 0 4 (fun _ => none) = SETX δ N p h c lv G ∧ PGM st sz pl 1600 c P G ∧ WRD δ N p = some (a, b)
theorem fx2_0 {st sz pl : Nat → Int32} {P : Int} {δ : Int → Int} {N ag nx wf we h c lv : Int} (ha : ag = 0) (hx : nx = 4) (hh : h = 0) (hc : c = 0) (hl : lv = 4) : FX2 st sz pl P δ N ag nx wf we h c lv := by
  subst ha hx hh hc hl
  exact ⟨by omega, 4, _, rfl, pgm_0 (by omega), Or.inl ⟨rfl, rfl⟩⟩
theorem fxw_1 {st sz pl : Nat → Int32} {P : Int} {δ : Int → Int} {N ag nx wf we h c lv : Int} (F : FX2 st sz pl P δ N ag nx wf we h c lv) (ha : ag = 1) : FXW st sz pl P δ N wf we h c lv := by
  obtain ⟨hl, p, G, g1, g2, g3⟩ := F
  rcases g3 with ⟨g3, _⟩ | ⟨_, g3⟩
  · omega
  · exact ⟨hl, p, G, g1, g2, g3⟩
theorem fxw_0 {st sz pl : Nat → Int32} {P : Int} {δ : Int → Int} {N ag nx wf we h c lv a b r : Int} (F : FX2 st sz pl P δ N ag nx wf we h c lv) (ha : ag = 0) (W : BSQ r (WRD δ N nx) (fun w => w = (a, b))) (hr : r = 1) : FXW st sz pl P δ N a b h c lv := by
  obtain ⟨hl, p, G, g1, g2, g3⟩ := F
  rcases g3 with ⟨_, g3⟩ | ⟨g3, _⟩
  · subst g3
    exact ⟨hl, p, G, g1, g2, bsq_som W hr⟩
  · omega
theorem fx_step {st sz pl st2 sz2 pl2 : Nat → Int32} {P P2 : Int} {δ : Int → Int} {N a b h c lv q h2 c2 lv2 ag nx wf we : Int} (F : FXW st sz pl P δ N a b h c lv) (hl : 0 ≤ lv2) (hq : b ≤ q) (hg : (ag = 0 ∧ q = nx) ∨ (ag = 1 ∧ WRD δ N q = some (wf, we))) (S : ∀ G, PGM st sz pl 1600 c P G → ∃ G2, STPX δ N a b h c lv G = some (0, q, h2, c2, lv2, G2) ∧ PGM st2 sz2 pl2 1600 c2 P2 G2) : FX2 st2 sz2 pl2 P2 δ N ag nx wf we h2 c2 lv2 := by
  obtain ⟨_, p, G, g1, g2, g3⟩ := F
  obtain ⟨G2, s1, s2⟩ := S G g2
  have r := wrd_rng g3
  have r1 : p ≤ a := r.1
  have r2 : a < b := r.2.1
  have r3 : b ≤ N := r.2.2
  exact ⟨hl, q, G2, g1.trans (setx_go g3 s1 (by omega) (by omega)), s2, hg⟩
theorem nchars {δ : Int → Int} {a b : Int} {W : List Int} (h : IW δ a b W) (hl : ¬ (W.length = 12)) : ¬ IW δ a b wChars := fun h9 => hl (by have h1 := h.1; have h2 : b - a = ((12 : Nat) : Int) := h9.1; omega)
theorem fx_leniv {st sz pl : Nat → Int32} {P : Int} {δ : Int → Int} {N a b b2 h c lv q s f v nx wf we : Int} (F : FXW st sz pl P δ N a b h c lv) (i : ISB s (IW δ a b wLeniv)) (hs : s = 1) (C : SEQ 0 f (TLD δ N b2) (fun t => t = (v, q))) (hf : f = 0) (e : b2 = b) (hx : q = nx) : FX2 st sz pl P δ N 0 nx wf we h c v := by
  subst e
  have t := seq0_som C hf
  have r1 := tld_rng t
  have r1b : b2 < q := r1.1
  have r2 : 0 ≤ v := cntl_tld t
  have h1 := isb_1 i (by omega)
  refine fx_step F r2 (by omega) (Or.inl ⟨rfl, hx⟩) (fun G g => ⟨G, ?_, g⟩)
  rw [stpx_2 (nchars h1 (by decide)) h1, t]
  rfl
theorem fx_subrs {st sz pl st2 sz2 pl2 : Nat → Int32} {P P2 : Int} {δ : Int → Int} {N a b b2 h c lv q s2 s f c2 nx wf we : Int} (F : FXW st sz pl P δ N a b h c lv) (i2 : ISB s2 (IW δ a b wLeniv)) (h2 : s2 = 0) (i : ISB s (IW δ a b wSubrs)) (hs : s = 1) (C : SEQ 0 f (SUBR δ N b2) (fun t => t = (q, c2))) (hf : f = 0) (e : b2 = b) (hq : b ≤ q) (Z : ∀ k : Int, 0 ≤ k → k < c2 → Int32.toInt (sz2 (1600 + k).toNat) = -1) (hx : q = nx) : FX2 st2 sz2 pl2 P2 δ N 0 nx wf we 1 c2 lv := by
  subst e
  have t := seq0_som C hf
  have h1 := isb_1 i (by omega)
  refine fx_step F F.1 hq (Or.inl ⟨rfl, hx⟩) (fun G g => ⟨fun _ => none, ?_, pgm_none Z⟩)
  rw [stpx_3 (nchars h1 (by decide)) (isb_0 i2 (by omega)) h1, t]
  rfl
theorem locx_a {δ : Int → Int} {N p a b c k rw : Int} (W : BSQ rw (WRD δ N p) (fun w => w = (a, b))) (hw : rw = 1) (i : EQP (CNTL δ b a 0) k) (hk : k = -1) : LOCX δ N p c = some (p, -1, 0) := by
  unfold LOCX
  unfold EQP at i
  rw [bsq_som W hw, Option.bind_some]
  show (if CNTL δ b a 0 = -1 then _ else _) = _
  rw [i, if_pos hk]
theorem locx_p {δ : Int → Int} {N p a b c k m p1 q rw f1 f : Int} (W : BSQ rw (WRD δ N p) (fun w => w = (a, b))) (hw : rw = 1) (i : EQP (CNTL δ b a 0) k) (hk : 0 ≤ k) (h : k < c) (C : SEQ 0 f1 (TLD δ N b) (fun v => v = (m, p1))) (h1 : f1 = 0) (P : SEQ 0 f (PRT δ N p1 m) (fun v => v = q)) (hf : f = 0) : LOCX δ N p c = some (q, k, m) := by
  unfold LOCX
  unfold EQP at i
  rw [bsq_som W hw, Option.bind_some]
  show (if CNTL δ b a 0 = -1 then _ else if CNTL δ b a 0 < c then (PRGX δ N b).bind fun q => some (q.1, CNTL δ b a 0, q.2) else none) = _
  have e : PRGX δ N b = some (q, m) := by
    unfold PRGX
    rw [seq0_som C h1, Option.bind_some]
    have hP := seq0_som P hf
    unfold PRT at hP
    cases hW : WRD δ N p1 with
    | none => rw [hW] at hP; exact absurd hP (by simp)
    | some w =>
      rw [hW, Option.bind_some] at hP
      rw [Option.bind_some]
      split at hP
      · rename_i c1
        split at hP
        · rename_i c2
          rw [if_pos ⟨c1, c2⟩]
          have e9 := Option.some.inj hP
          rw [← e9]
        · exact absurd hP (by simp)
      · exact absurd hP (by simp)
  rw [i, if_neg (by omega), if_pos h, e]
  rfl
theorem fx_dup {st sz pl st2 sz2 pl2 : Nat → Int32} {P P2 : Int} {δ : Int → Int} {N a b b2 h c lv q s2 s3 s k m nx wf we ag : Int} (F : FXW st sz pl P δ N a b h c lv) (i2 : ISB s2 (IW δ a b wLeniv)) (h2 : s2 = 0) (i3 : ISB s3 (IW δ a b wSubrs)) (h3 : s3 = 0) (i : ISB s (IW δ a b wDup)) (hs : s = 1) (hh : h = 1) (C : LOCX δ N b2 c = some (q, k, m)) (e : b2 = b) (hP : 0 ≤ P) (K : (k = -1 ∧ q = b2 ∧ st2 = st ∧ sz2 = sz ∧ pl2 = pl ∧ P2 = P) ∨ (0 ≤ k ∧ MPG δ q m lv (1600 + k) st sz pl P st2 sz2 pl2 P2)) (hg : (ag = 0 ∧ q = nx) ∨ (ag = 1 ∧ WRD δ N q = some (wf, we))) : FX2 st2 sz2 pl2 P2 δ N ag nx wf we h c lv := by
  subst e
  have h1 := isb_1 i (by omega)
  have r := locx_rng C
  have r2 : k = -1 ∨ (b2 ≤ q - m ∧ q ≤ N ∧ 0 ≤ m) := r
  refine fx_step F F.1 (by omega) hg (fun G g => ⟨LGU δ lv G (q, k, m), ?_, ?_⟩)
  · rw [stpx_4 (nchars h1 (by decide)) (isb_0 i2 (by omega)) (isb_0 i3 (by omega)) ⟨h1, hh⟩, C]
    rfl
  · rcases K with ⟨k1, k2, k3, k4, k5, k6⟩ | ⟨k1, k2⟩
    · have eL : LGU δ lv G (q, k, m) = G := if_pos k1
      rw [eL, k3, k4, k5, k6]
      exact g
    · have eL : LGU δ lv G (q, k, m) = TUP G k (PBY δ (q - m) m lv) := if_neg (by show ¬ (k = -1); omega)
      rw [eL]
      exact pgm_put g k2 rfl (by omega) k1 hP (Or.inl rfl)
theorem fx_else {st sz pl : Nat → Int32} {P : Int} {δ : Int → Int} {N a b h c lv q s1 s2 s3 s4 nx wf we : Int} (F : FXW st sz pl P δ N a b h c lv) (i1 : ISB s1 (IW δ a b wChars)) (h1 : s1 = 0) (i2 : ISB s2 (IW δ a b wLeniv)) (h2 : s2 = 0) (i3 : ISB s3 (IW δ a b wSubrs)) (h3 : s3 = 0) (i4 : ISB s4 (IW δ a b wDup)) (h4 : s4 = 0 ∨ ¬ (h = 1)) (e : q = b) (hx : q = nx) : FX2 st sz pl P δ N 0 nx wf we h c lv := by
  subst e
  refine fx_step F F.1 (Int.le_refl _) (Or.inl ⟨rfl, hx⟩) (fun G g => ⟨G, ?_, g⟩)
  refine stpx_5 (isb_0 i1 (by omega)) (isb_0 i2 (by omega)) (isb_0 i3 (by omega)) (fun h9 => ?_)
  rcases h4 with h4 | h4
  · exact isb_0 i4 (by omega) h9.1
  · exact h4 h9.2
def FXD (st sz pl : Nat → Int32) (P : Int) (δ : Int → Int) (N b c lv : Int) : Prop := 0 ≤ lv ∧ ∃ G, SETX δ N 4 0 0 4 (fun _ => none) = some (b, c, lv, G) ∧ PGM st sz pl 1600 c P G
theorem fx_done {st sz pl : Nat → Int32} {P : Int} {δ : Int → Int} {N a b h c lv s : Int} (F : FXW st sz pl P δ N a b h c lv) (i : ISB s (IW δ a b wChars)) (hs : s = 1) : FXD st sz pl P δ N b c lv := by
  obtain ⟨hl, p, G, g1, g2, g3⟩ := F
  exact ⟨hl, G, g1.trans (setx_over g3 (isb_1 i (by omega))), g2⟩
theorem fx2_c {st sz pl : Nat → Int32} {P P2 : Int} {δ : Int → Int} {N ag nx wf we h c lv ag2 nx2 wf2 we2 h2 c2 lv2 : Int} (F : FX2 st sz pl P δ N ag nx wf we h c lv) (e1 : ag = ag2) (e2 : nx = nx2) (e3 : ag2 = 0 ∨ (wf = wf2 ∧ we = we2)) (e4 : h = h2) (e5 : c = c2) (e6 : lv = lv2) (e7 : P = P2) : FX2 st sz pl P2 δ N ag2 nx2 wf2 we2 h2 c2 lv2 := by
  subst e1 e2 e4 e5 e6 e7
  rcases e3 with e3 | ⟨e3, e6⟩
  · obtain ⟨hl, p, G, h1, h2, h3 | h3⟩ := F
    · exact ⟨hl, p, G, h1, h2, Or.inl h3⟩
    · omega
  · subst e3 e6
    exact F
/-! the letters -/
def MLI (st sz pl : Nat → Int32) (P : Int) (δ : Int → Int) (N p0 p k lv : Int) : Prop := ∃ G, LTRX δ N p0 0 lv (fun _ => none) = LTRX δ N p k lv G ∧ PGM st sz pl 0 k P G
theorem mli_0 {st sz pl : Nat → Int32} {P : Int} {δ : Int → Int} {N p k lv : Int} (h : k = 0) : MLI st sz pl P δ N p p k lv := by
  subst h
  exact ⟨_, rfl, pgm_0 (by omega)⟩
theorem letx_m {δ : Int → Int} {N a b k g m p1 z q rc r rw a2 b2 : Int} (hg : g = δ a) (h : g = 47 ∧ 2 ≤ b - a ∧ k < 40) (C : SEQ 0 rc (TLD δ N b) (fun v => v = (m, p1))) (hc : rc = 0) (P : SEQ 0 r (PRT δ N p1 m) (fun v => v = z)) (hr : r = 0) (W : BSQ rw (WRD δ N z) (fun w => w = (a2, b2))) (hw : rw = 1) (e : q = b2) : LETX δ N a b k = some (q, z, m) := by
  unfold LETX
  rw [← hg, if_pos h]
  have hP := seq0_som P hr
  have eP : PRGX δ N b = some (z, m) := by
    unfold PRGX
    rw [seq0_som C hc, Option.bind_some]
    unfold PRT at hP
    cases hW : WRD δ N p1 with
    | none => rw [hW] at hP; exact absurd hP (by simp)
    | some w =>
      rw [hW, Option.bind_some] at hP
      rw [Option.bind_some]
      split at hP
      · rename_i c1
        split at hP
        · rename_i c2
          rw [if_pos ⟨c1, c2⟩]
          have e9 := Option.some.inj hP
          rw [← e9]
        · exact absurd hP (by simp)
      · exact absurd hP (by simp)
  rw [eP, Option.bind_some]
  have hW2 : WRD δ N (z, m).1 = some (a2, b2) := bsq_som W hw
  rw [hW2, Option.bind_some, e]
theorem mli_step {st sz pl st2 sz2 pl2 : Nat → Int32} {P P2 : Int} {δ : Int → Int} {N p0 p k k2 lv a b q z m s rw : Int} (T : MLI st sz pl P δ N p0 p k lv) (W : BSQ rw (WRD δ N p) (fun w => w = (a, b))) (hw : rw = 1) (i : ISB s (IW δ a b wOver)) (hs : s = 0) (L : LETX δ N a b k = some (q, z, m)) (M : MPG δ z m lv k st sz pl P st2 sz2 pl2 P2) (hk : 0 ≤ k) (hP : 0 ≤ P) (ek : k2 = k + 1) : MLI st2 sz2 pl2 P2 δ N p0 q k2 lv := by
  obtain ⟨G, g1, g2⟩ := T
  have w := bsq_som W hw
  have r := wrd_rng w
  have r1 : p ≤ a := r.1
  have r2 : a < b := r.2.1
  have r3 : b ≤ N := r.2.2
  have l := letx_rng L
  have l1 : b < z - m := l.1
  have l2 : z < q := l.2.1
  have l4 : 0 ≤ m := l.2.2.2
  exact ⟨_, g1.trans (ltrx_go w (isb_0 i (by omega)) L (by omega) (by omega) ek), pgm_put g2 M (by omega) (by omega) hk hP (Or.inr ⟨ek, rfl⟩)⟩
def MLE (st sz pl : Nat → Int32) (P : Int) (δ : Int → Int) (N p0 k lv : Int) : Prop := ∃ G, LTRX δ N p0 0 lv (fun _ => none) = some (k, G) ∧ PGM st sz pl 0 k P G
theorem mli_done {st sz pl : Nat → Int32} {P : Int} {δ : Int → Int} {N p0 p k lv a b s rw : Int} (T : MLI st sz pl P δ N p0 p k lv) (W : BSQ rw (WRD δ N p) (fun w => w = (a, b))) (hw : rw = 1) (i : ISB s (IW δ a b wOver)) (hs : s = 1) : MLE st sz pl P δ N p0 k lv := by
  obtain ⟨G, g1, g2⟩ := T
  exact ⟨G, g1.trans (ltrx_over (bsq_som W hw) (isb_1 i (by omega))), g2⟩
/-! the text as a whole -/
theorem stpx_one {β : Int → Int} {n a b h c lv : Int} {G : PGT} {q : Int × Int × Int × Int × Int × PGT} (e : STPX β n a b h c lv G = some q) (hq : q.1 = 1) : q.2.1 = b := by
  have z : ∀ {x : Int × Int × Int × Int × PGT}, some ((0 : Int), x) = some q → False := fun h9 => by
    have h8 := Option.some.inj h9
    rw [← h8] at hq
    exact absurd (show (0 : Int) = 1 from hq) (by decide)
  by_cases h1 : IW β a b wChars
  · rw [stpx_1 h1] at e
    rw [← Option.some.inj e]
  · exfalso
    by_cases h2 : IW β a b wLeniv
    · rw [stpx_2 h1 h2] at e
      cases hT : TLD β n b with
      | none => rw [hT] at e; exact absurd e (by simp)
      | some t => rw [hT, Option.bind_some] at e; exact z e
    · by_cases h3 : IW β a b wSubrs
      · rw [stpx_3 h1 h2 h3] at e
        cases hT : SUBR β n b with
        | none => rw [hT] at e; exact absurd e (by simp)
        | some t => rw [hT, Option.bind_some] at e; exact z e
      · by_cases h4 : IW β a b wDup ∧ h = 1
        · rw [stpx_4 h1 h2 h3 h4] at e
          cases hT : LOCX β n b c with
          | none => rw [hT] at e; exact absurd e (by simp)
          | some t => rw [hT, Option.bind_some] at e; exact z e
        · rw [stpx_5 h1 h2 h3 h4] at e
          exact z e
theorem setx_rng {β : Int → Int} {n : Int} : ∀ (m : Nat) (p h c lv : Int) (G : PGT) (s : Int × Int × Int × PGT), (n - p).toNat ≤ m → SETX β n p h c lv G = some s → p ≤ s.1 := by
  intro m
  induction m with
  | zero =>
    intro p h c lv G s hm e
    cases hW : WRD β n p with
    | none => rw [setx_n hW] at e; exact absurd e (by simp)
    | some w => have := wrd_rng hW; omega
  | succ m ih =>
    intro p h c lv G s hm e
    cases hW : WRD β n p with
    | none => rw [setx_n hW] at e; exact absurd e (by simp)
    | some w =>
      have r := wrd_rng hW
      rw [setx_u hW] at e
      cases hS : STPX β n w.1 w.2 h c lv G with
      | none => rw [hS] at e; exact absurd e (by simp)
      | some q =>
        rw [hS] at e
        have e3 : (if q.1 = 1 then some (q.2.1, q.2.2.2.1, q.2.2.2.2.1, q.2.2.2.2.2) else if p < q.2.1 ∧ p < n then SETX β n q.2.1 q.2.2.1 q.2.2.2.1 q.2.2.2.2.1 q.2.2.2.2.2 else none) = some s := e
        by_cases hq : q.1 = 1
        · rw [if_pos hq] at e3
          have hb := stpx_one hS hq
          rw [← Option.some.inj e3]
          show p ≤ q.2.1
          omega
        · rw [if_neg hq] at e3
          by_cases hp : p < q.2.1 ∧ p < n
          · rw [if_pos hp] at e3
            have := ih _ _ _ _ _ _ (by omega) e3
            omega
          · rw [if_neg hp] at e3
            exact absurd e3 (by simp)
theorem txtx_cg {β δ : Int → Int} {n : Int} (h : ∀ i, 4 ≤ i → β i = δ i) : TXTX β n = TXTX δ n := by
  unfold TXTX
  rw [setx_cg _ 4 0 0 4 _ (Nat.le_refl _) h]
  cases hS : SETX δ n 4 0 0 4 (fun _ => none) with
  | none => rw [bnone, bnone]
  | some s =>
    have r := setx_rng _ 4 0 0 4 _ s (Nat.le_refl _) hS
    rw [Option.bind_some, Option.bind_some, ltsx_cg (fun i hi => h i (by omega))]
theorem dcrx_tb {R : Nat → Int} {n ts : Int} {t t0 : Nat → Int32} (ht : t = (mpl (OI R) 4 t0 55665 n.toNat).1) (h4 : 4 ≤ n) (e : ts = n - 4) : TXTX (DCR R n) n = TXTX (TB t ts) (ts + 4) := by
  rw [show ts + 4 = n by omega]
  refine txtx_cg (fun i hi => ?_)
  unfold DCR TB GB
  by_cases hn : i < n
  · rw [if_pos ⟨by omega, hn⟩, if_pos ⟨by omega, by omega⟩, ht]
    have p := (plain_ind (ft := OI R) (gt := OI R) (go := t0) (n := 4) (T := n.toNat) (k := 55665) (by decide) (fun _ _ => rfl) n.toNat (Nat.le_refl _)).2.2.1 (i - 4).toNat (by omega)
    rw [show 4 + (i - 4).toNat = i.toNat by omega] at p
    have p2 : (dec (fun j => Int32.ofInt (R j)) 55665 n.toNat).1 i.toNat = (mpl (OI R) 4 t0 55665 n.toNat).1 (i - 4).toNat := p
    rw [p2]
  · rw [if_neg (by omega), if_neg (by omega)]
theorem opx_eq {α : Type} {K : (Int → Int) → Int → Option α} {β : Int → Int} {n p hx : Int} (X : RSM p (EXF β n 0)) (h0 : 0 ≤ p) (h4 : ¬ (n - p < 4)) (D : ISB hx (HX4 (SH β p))) : T1F K β n = (if hx = 1 then HX (SH β p) (n - p) else some (n - p, fun j : Nat => SH β p j)).bind fun q => K (DCR q.2 q.1) q.1 := by
  rcases X with ⟨_, h1⟩ | ⟨h1, _⟩
  · unfold T1F
    rw [h1, Option.bind_some, if_neg h4]
    rcases D with ⟨d1, d2⟩ | ⟨d1, d2⟩
    · rw [if_pos d1, if_pos (c := HX4 (fun i => β (i + p))) d2]
      rfl
    · rw [if_neg (c := hx = 1) (by omega), if_neg (c := HX4 (fun i => β (i + p))) d2]
      rfl
  · omega
theorem opx_end {β : Int → Int} {n p hx j N hf m : Int} {t0 t : Nat → Int32} {key : Int32} (X : RSM p (EXF β n 0)) (h0 : 0 ≤ p) (h4 : ¬ (n - p < 4)) (D : ISB hx (HX4 (SH β p))) (M : MOL hx (SH β p) j N hf t0 t key) (hj : j = n - p) (a1 : hf < 0) (a2 : 4 ≤ N) (a4 : m = N - 4) : T1F TXTX β n = TXTX (TB t m) (m + 4) := by
  obtain ⟨R, h1, h2, _⟩ := M
  have e : (if hx = 1 then HX (SH β p) (n - p) else some (n - p, fun j : Nat => SH β p j)) = some (N, R) := by
    by_cases hh : hx = 1
    · rw [if_pos hh]
      obtain ⟨d, u, g1, g2, g3, g4, g5⟩ := rws_h h1 hh
      unfold HX
      rw [← hj, g1, Option.bind_some]
      by_cases od : d % 2 = 1
      · rw [if_pos od] at g3
        have := g5 od
        omega
      · rw [if_neg od] at g3
        rw [if_pos (by show d % 2 = 0; omega), g2]
    · unfold RWS at h1
      rw [if_neg hh] at h1
      have e9 := Option.some.inj h1
      have e1 : ((j.toNat : Nat) : Int) = N := congrArg Prod.fst e9
      have e3 : (fun i : Nat => SH β p i) = R := congrArg (fun q => q.2.2) e9
      rw [if_neg hh, e3, show n - p = N by omega]
  rw [opx_eq X h0 h4 D, e, Option.bind_some]
  exact dcrx_tb h2 a2 a4
def T1M (tf : Nat → Int32) (T ll lo : Int) (st sz pl : Nat → Int32) (P : Int) : Prop := ∃ GL GO, T1F TXTX (GB tf T) T = some (GL, GO) ∧ PGM st sz pl 0 ll P GL ∧ PGM st sz pl 1600 lo P GO
theorem t1m_pf {tf st sz pl st1 sz1 pl1 : Nat → Int32} {T N b b2 c lv rc v p1 r1 p2 r2 p3 r3 p4 k P P1 : Int} {δ : Int → Int} (O : T1F TXTX (GB tf T) T = TXTX δ N) (F : FXD st sz pl P δ N b c lv) (C : SEQ 0 rc (TLD δ N b2) (fun t => t = (v, p1))) (eb : b2 = b) (hc : rc = 0) (E1 : SEQ 0 r1 (EXW δ N p1 wDict) (fun t => t = p2)) (h1 : r1 = 0) (E2 : SEQ 0 r2 (EXW δ N p2 wDup) (fun t => t = p3)) (h2 : r2 = 0) (E3 : SEQ 0 r3 (EXW δ N p3 wBegin) (fun t => t = p4)) (h3 : r3 = 0) (L : MLE st1 sz1 pl1 P1 δ N p4 k lv) (Fr : FRM 0 1600 st st1 sz sz1 pl pl1 P P1) {ll lo : Int} (el : ll = k) (eo : lo = c) (hc6 : c ≤ 1600) : T1M tf T ll lo st1 sz1 pl1 P1 := by
  subst eb el eo
  obtain ⟨hl, GO, s1, s2⟩ := F
  obtain ⟨GL, l1, l2⟩ := L
  refine ⟨GL, GO, ?_, l2, pgm_fr s2 Fr (by omega) (Or.inr (by omega))⟩
  rw [O]
  unfold TXTX
  rw [s1, Option.bind_some]
  show (LTSX δ N b2 lv).bind _ = _
  unfold LTSX
  rw [seq0_som C hc, Option.bind_some, seq0_som E1 h1, Option.bind_some, seq0_som E2 h2, Option.bind_some, seq0_som E3 h3, Option.bind_some, l1]
  rfl
theorem mpg_x {δ : Int → Int} {q m lv x x2 P P1 : Int} {st sz pl st1 sz1 pl1 : Nat → Int32} (h : MPG δ q m lv x st sz pl P st1 sz1 pl1 P1) (e : x = x2) : MPG δ q m lv x2 st sz pl P st1 sz1 pl1 P1 := e ▸ h
theorem frm_tr {b c b2 c2 P P1 P2 : Int} {st st1 st2 sz sz1 sz2 pl pl1 pl2 : Nat → Int32} (h : FRM b c st st1 sz sz1 pl pl1 P P1) (k : FRM b2 c2 st1 st2 sz1 sz2 pl1 pl2 P1 P2) (hb : b ≤ b2) (hc : b2 + c2 ≤ b + c) : FRM b c st st2 sz sz2 pl pl2 P P2 := ⟨fun j hj => (k.1 j (by omega)).trans (h.1 j hj), fun j hj => (k.2.1 j (by omega)).trans (h.2.1 j hj), low_tr h.2.2.1 k.2.2.1 h.2.2.2, by have := h.2.2.2; have := k.2.2.2; omega⟩
def NEG (sz : Nat → Int32) (n : Int) : Prop := ∀ k : Int, 0 ≤ k → k < n → Int32.toInt (sz (1600 + k).toNat) = -1
theorem neg_0 {sz : Nat → Int32} : NEG sz 0 := fun k h0 hk => by omega
theorem neg_step {sz sz2 : Nat → Int32} {x : Int32} {k k2 : Int} (h : NEG sz k) (e : upd sz (Int32.toNatClampNeg x) (-1) = sz2) (hx : Int32.toInt x = 1600 + k) (h0 : 0 ≤ k) (hk : k2 = k + 1) : NEG sz2 k2 := by
  have hc : Int32.toNatClampNeg x = (1600 + k).toNat := by show (Int32.toInt x).toNat = _; rw [hx]
  rw [hc] at e
  intro j hj hjk
  rw [← e, upd_eq]
  by_cases h9 : j = k
  · rw [h9, if_pos rfl]; rfl
  · rw [if_neg (by omega)]
    exact h j hj (by omega)
theorem neg_k {sz : Nat → Int32} {k k2 : Int} (h : NEG sz k) (e : k2 ≤ k) : NEG sz k2 := fun j hj hjk => h j hj (by omega)
