/-! the programs of a font as the class keeps them: Type 1 (p6) -/
def decF (f : Nat → Int32) (k : Int32) (F : Nat) : Nat → (Nat → Int32) × Int32
  | 0 => (f, k)
  | i + 1 => (upd (decF f k F i).1 (F + i) (st8 (((decF f k F i).1 (F + i) &&& 255) ^^^ ((decF f k F i).2 >>> ((8 : Int32) &&& 31)))), nk ((decF f k F i).1 (F + i) &&& 255) (decF f k F i).2)
theorem decF_ind {f : Nat → Int32} {k : Int32} {F : Nat} : ∀ m : Nat, (decF f k F m).2 = (dec (fun j => f (F + j)) k m).2 ∧ (∀ j, (decF f k F m).1 (F + j) = (dec (fun j => f (F + j)) k m).1 j) ∧ (∀ j, j < F → (decF f k F m).1 j = f j) ∧ (∀ j, F + m ≤ j → (decF f k F m).1 j = f j) := by
  intro m
  induction m with
  | zero => exact ⟨rfl, fun j => rfl, fun j _ => rfl, fun j _ => rfl⟩
  | succ m ih =>
    obtain ⟨e1, e2, e3, e4⟩ := ih
    refine ⟨?_, ?_, ?_, ?_⟩
    · show nk _ _ = nk _ _
      rw [e1, e2 m]
    · intro j
      show upd _ (F + m) _ (F + j) = upd _ m _ j
      rw [upd_eq, upd_eq, e1, e2 m]
      by_cases hj : j = m
      · rw [if_pos hj, if_pos (by omega)]
      · rw [if_neg hj, if_neg (by omega)]
        exact e2 j
    · intro j hj
      show upd _ (F + m) _ j = _
      rw [upd_eq, if_neg (by omega)]
      exact e3 j hj
    · intro j hj
      show upd _ (F + m) _ j = _
      rw [upd_eq, if_neg (by omega)]
      exact e4 j (by omega)
theorem decF_0 {f : Nat → Int32} {k : Int32} {F j : Nat} (h : j = 0) : f = (decF f k F j).1 ∧ k = (decF f k F j).2 := by subst h; exact ⟨rfl, rfl⟩
theorem decF_step {f fc f2 : Nat → Int32} {k t zl za zs zc zb r : Int32} {i : Int32} {F j j2 : Nat} (h : fc = (decF f k F j).1 ∧ t = (decF f k F j).2) (hj : Int.toNat (Int32.toInt i) = F + j) (e1 : fc (Int32.toNatClampNeg i) = zl) (e2 : zl &&& 255 = za) (e3 : t >>> ((8 : Int32) &&& 31) = zs) (e4 : za ^^^ zs = zc) (e5 : (Int32.toInt8 zc).toInt32 = zb) (e6 : upd fc (Int32.toNatClampNeg i) (vp_nar .byte zb) = f2) (hr : r = nk za t) (hj2 : j2 = j + 1) : f2 = (decF f k F j2).1 ∧ r = (decF f k F j2).2 := by
  obtain ⟨h1, h2⟩ := h
  have hc : Int32.toNatClampNeg i = F + j := hj
  rw [hc] at e1 e6
  subst hr e6 e5 e4 e3 e2 e1 hj2 h1 h2
  exact ⟨rfl, rfl⟩
theorem decF_end {f fc : Nat → Int32} {k t : Int32} {F j n : Nat} (h : fc = (decF f k F j).1 ∧ t = (decF f k F j).2) (e : j = n) : fc = (decF f k F n).1 := e ▸ h.1
def LOW (f f1 : Nat → Int32) (p : Int) : Prop := ∀ j : Nat, (j : Int) < p → f1 j = f j
theorem low_0 {f : Nat → Int32} {p : Int} : LOW f f p := fun _ _ => rfl
theorem low_tr {f f1 f2 : Nat → Int32} {p q : Int} (h : LOW f f1 p) (k : LOW f1 f2 q) (e : p ≤ q) : LOW f f2 p := fun j hj => (k j (by omega)).trans (h j hj)
theorem low_dec {f f1 : Nat → Int32} {k : Int32} {F m : Nat} {p : Int} (e : f1 = (decF f k F m).1) (hp : p ≤ F) : LOW f f1 p := fun j hj => by rw [e]; exact decF_ind (f := f) (k := k) (F := F) m |>.2.2.1 j (by omega)
def PGC (f : Nat → Int32) (n : Int) (bg fi : Nat → Int32) (c lim : Int) (G : PGT) : Prop := ∀ k : Nat, (k : Int) < c → (G k = none ∧ Int32.toInt (bg k) = -1) ∨ (∃ v, G k = some v ∧ 0 ≤ v.1 ∧ 0 ≤ Int32.toInt (bg k) ∧ Int32.toInt (fi k) = Int32.toInt (bg k) + v.1 ∧ Int32.toInt (fi k) ≤ lim ∧ ∀ i : Int, 0 ≤ i → i < v.1 → GB f n (Int32.toInt (bg k) + i) = v.2 i)
theorem pgc_0 {f bg fi : Nat → Int32} {n c lim : Int} {G : PGT} (h : c ≤ 0) : PGC f n bg fi c lim G := fun k hk => by omega
theorem pgc_le {f bg fi : Nat → Int32} {n c p q : Int} {G : PGT} (h : PGC f n bg fi c p G) (e : p ≤ q) : PGC f n bg fi c q G := fun k hk => by
  rcases h k hk with h1 | ⟨v, h1, h2, h3, h4, h5, h6⟩
  · exact Or.inl h1
  · exact Or.inr ⟨v, h1, h2, h3, h4, by omega, h6⟩
theorem pgc_low {f f1 bg fi : Nat → Int32} {n c p : Int} {G : PGT} (h : PGC f n bg fi c p G) (L : LOW f f1 p) : PGC f1 n bg fi c p G := fun k hk => by
  rcases h k hk with h1 | ⟨v, h1, h2, h3, h4, h5, h6⟩
  · exact Or.inl h1
  · refine Or.inr ⟨v, h1, h2, h3, h4, h5, fun i hi hv => ?_⟩
    rw [← h6 i hi hv]
    unfold GB
    rw [L _ (by omega)]
theorem pgc_fill {f bg fi : Nat → Int32} {n c lim : Int} {m : Nat} (h : ∀ j : Nat, j < m → bg j = -1) (e : c ≤ m) : PGC f n bg fi c lim (fun _ => none) := fun k hk => Or.inl ⟨rfl, by rw [h k (by omega)]; rfl⟩
/-- a program taken: the bytes made plain, where it begins and ends -/
def PGP (f : Nat → Int32) (lv : Int) (f1 : Nat → Int32) (q m b e : Int) : Prop := f1 = (decF f 4330 (Int.toNat (q - m)) (Int.toNat m)).1 ∧ ((q - m + lv ≤ q ∧ b = q - m + lv) ∨ (q < q - m + lv ∧ b = q)) ∧ e = q
theorem pgc_put {f f1 bg fi bg1 fi1 : Nat → Int32} {β : Int → Int} {n c c1 p q m lv b e k : Int} {xb xe : Int32} {G : PGT} (h : PGC f n bg fi c p G) (P : PGP f lv f1 q m b e) (A : ∀ i, p ≤ i → GB f n i = β i) (hF : p ≤ q - m) (hq : q ≤ n) (h0 : 0 ≤ p) (hm : 0 ≤ m) (hlv : 0 ≤ lv) (e1 : bg1 = upd bg (Int.toNat k) xb) (e2 : fi1 = upd fi (Int.toNat k) xe) (hb : Int32.toInt xb = b) (he : Int32.toInt xe = e) (hk : 0 ≤ k) (hc : c1 = c ∨ (c1 = c + 1 ∧ k = c)) : PGC f1 n bg1 fi1 c1 q (TUP G k (PBY β (q - m) m lv)) := by
  obtain ⟨p1, p2, p3⟩ := P
  intro j hj
  have D := decF_ind (f := f) (k := 4330) (F := (q - m).toNat) m.toNat
  rw [e1, e2, upd_eq, upd_eq]
  by_cases hjk : (j : Int) = k
  · rw [if_pos (by omega), if_pos (by omega), hb, he]
    refine Or.inr ⟨PBY β (q - m) m lv, if_pos hjk, ?_, ?_, ?_, ?_, ?_⟩
    · show 0 ≤ if lv < m then m - lv else 0
      split <;> omega
    · omega
    · show e = b + if lv < m then m - lv else 0
      split <;> omega
    · omega
    · intro i hi hv
      have hv2 : i < if lv < m then m - lv else 0 := hv
      have hlm : lv < m := by
        by_cases h9 : lv < m
        · exact h9
        · rw [if_neg h9] at hv2; omega
      rw [if_pos hlm] at hv2
      rw [gb_in (by omega) (by omega), p1, show (b + i).toNat = (q - m).toNat + (lv + i).toNat by omega, D.2.1]
      show _ = Int32.toInt ((dec (fun j : Nat => Int32.ofInt (β (q - m + j))) 4330 m.toNat).1 (lv + i).toNat &&& 255)
      have E : E8 (fun j => f ((q - m).toNat + j)) (fun j : Nat => Int32.ofInt (β (q - m + j))) m.toNat := by
        intro t ht
        show f ((q - m).toNat + t) &&& 255 = Int32.ofInt (β (q - m + t)) &&& 255
        rw [← A (q - m + t) (by omega), gb_in (by omega) (by omega), show (q - m + (t : Int)).toNat = (q - m).toNat + t by omega, Int32.ofInt_toInt, and2]
      rw [dec_cg (by decide) E (lv + i).toNat (by omega)]
  · rw [if_neg (by omega), if_neg (by omega)]
    have hj2 : (j : Int) < c := by omega
    have eG : TUP G k (PBY β (q - m) m lv) j = G j := if_neg hjk
    rw [eG]
    have h9 := pgc_low h (low_dec (f := f) (k := 4330) (m := m.toNat) p1 (p := p) (by omega)) j hj2
    rcases h9 with h1 | ⟨v, h1, h2, h3, h4, h5, h6⟩
    · exact Or.inl h1
    · exact Or.inr ⟨v, h1, h2, h3, h4, by omega, h6⟩
theorem put_k {bg bg1 fi fi1 : Nat → Int32} {x y : Int32} {a b : Nat} (h : bg1 = upd bg a x ∧ fi1 = upd fi a y) (e : a = b) : bg1 = upd bg b x ∧ fi1 = upd fi b y := e ▸ h
theorem prgx_pf {β : Int → Int} {n p c p1 rc rw a b q : Int} (C : SEQ 0 rc (TLD β n p) (fun v => v = (c, p1))) (hc : rc = 0) (W : BSQ rw (WRD β n p1) (fun w => w = (a, b))) (hw : ¬ (rw = 0)) (hs : IW β a b wRd ∨ IW β a b wBar) (hn : b + 1 + c ≤ n) (hq : q = b + 1 + c) : PRGX β n p = some (q, c) := by
  unfold PRGX
  rw [seq0_som C hc, Option.bind_some]
  rcases W with ⟨_, w, w1, w2⟩ | ⟨h1, _⟩
  · subst w2
    have w1b : WRD β n (c, p1).2 = some (a, b) := w1
    rw [w1b, Option.bind_some, if_pos ⟨hs, hn⟩, hq]
  · exact absurd h1 hw
theorem pgp_pf {f f1 : Nat → Int32} {F T q m lv b e : Int} (h : f1 = (decF f 4330 (Int.toNat F) (Int.toNat (T - F))).1) (e1 : F = q - m) (e2 : T = q) (hb : (q - m + lv ≤ q ∧ b = q - m + lv) ∨ (q < q - m + lv ∧ b = q)) (he : e = q) : PGP f lv f1 q m b e := by
  refine ⟨?_, hb, he⟩
  rw [h, e2, e1, show q - (q - m) = m by omega]
/-! the settings' loop -/
def TSI (f0 : Nat → Int32) (n p0 : Int) (fc : Nat → Int32) (p h c lv : Int) (bg fi : Nat → Int32) : Prop := 0 ≤ lv ∧ ∃ G, SETX (GB f0 n) n p0 0 0 4 (fun _ => none) = SETX (GB f0 n) n p h c lv G ∧ PGC fc n bg fi c p G
theorem tsi_0 {f0 : Nat → Int32} {n p h c lv : Int} {bg fi : Nat → Int32} (hh : h = 0) (hc : c = 0) (hl : lv = 4) : TSI f0 n p f0 p h c lv bg fi := by
  subst hh hc hl
  exact ⟨by omega, _, rfl, pgc_0 (by omega)⟩
theorem tsi_w {f0 fc : Nat → Int32} {n p a b rw : Int} (A : AGR fc f0 n p) (W : BSQ rw (WRD (GB fc n) n p) (fun w => w = (a, b))) (hw : ¬ (rw = 0)) : WRD (GB f0 n) n p = some (a, b) ∧ p ≤ a ∧ a < b ∧ b ≤ n := by
  rcases W with ⟨_, w, w1, w2⟩ | ⟨h1, _⟩
  · subst w2
    have r := wrd_rng w1
    rw [wrd_cg A] at w1
    exact ⟨w1, r⟩
  · exact absurd h1 hw
theorem tsi_step {f0 fc f2 : Nat → Int32} {n p0 p a b h c lv q h2 c2 lv2 : Int} {bg fi bg2 fi2 : Nat → Int32} (T : TSI f0 n p0 fc p h c lv bg fi) (A : AGR fc f0 n p) (W : WRD (GB f0 n) n p = some (a, b) ∧ p ≤ a ∧ a < b ∧ b ≤ n) (hl : 0 ≤ lv2) (hq : p < q) (S : ∀ G, PGC fc n bg fi c p G → ∃ G2, STPX (GB fc n) n a b h c lv G = some (0, q, h2, c2, lv2, G2) ∧ STPX (GB fc n) n a b h c lv G = STPX (GB f0 n) n a b h c lv G ∧ PGC f2 n bg2 fi2 c2 q G2) : TSI f0 n p0 f2 q h2 c2 lv2 bg2 fi2 := by
  obtain ⟨_, G, g1, g2⟩ := T
  obtain ⟨G2, s1, s2, s3⟩ := S G g2
  obtain ⟨w1, w2, w3, w4⟩ := W
  refine ⟨hl, G2, ?_, s3⟩
  rw [g1]
  exact setx_go w1 (s2 ▸ s1) hq (by omega)
theorem stpx_a {f0 fc : Nat → Int32} {n p a b h c lv : Int} {G : PGT} (A : AGR fc f0 n p) (ha : p ≤ a) (hb : a < b) : STPX (GB fc n) n a b h c lv G = STPX (GB f0 n) n a b h c lv G := stpx_cg (by omega) (agr_le A ha)
theorem tsi_leniv {f0 fc : Nat → Int32} {n p0 p a b b2 h c lv q s1 s2 f lv2 : Int} {bg fi : Nat → Int32} (T : TSI f0 n p0 fc p h c lv bg fi) (A : AGR fc f0 n p) (W : WRD (GB f0 n) n p = some (a, b) ∧ p ≤ a ∧ a < b ∧ b ≤ n) (i1 : ISB s1 (IW (GB fc n) a b wChars)) (h1 : s1 = 0) (i2 : ISB s2 (IW (GB fc n) a b wLeniv)) (h2 : ¬ (s2 = 0)) (C : SEQ 0 f (TLD (GB fc n) n b2) (fun v => v = (lv2, q))) (e : b2 = b) (hf : f = 0) : TSI f0 n p0 fc q h c lv2 bg fi := by
  subst e
  have t := seq0_som C hf
  have r1 := tld_rng t
  have r1b : b2 < q := r1.1
  have r2 : 0 ≤ lv2 := cntl_tld t
  obtain ⟨w1, w2, w3, w4⟩ := id W
  refine tsi_step T A W r2 (by omega) (fun G g => ⟨G, ?_, stpx_a A w2 w3, pgc_le g (by omega)⟩)
  unfold STPX
  rw [if_neg (isb_0 i1 (by omega)), if_pos (isb_1 i2 h2), t]
  rfl
theorem tsi_subrs {f0 fc : Nat → Int32} {n p0 p a b b2 h c lv q s1 s2 s3 f c2 h9 : Int} {bg fi bg2 fi2 : Nat → Int32} {m : Nat} (T : TSI f0 n p0 fc p h c lv bg fi) (A : AGR fc f0 n p) (W : WRD (GB f0 n) n p = some (a, b) ∧ p ≤ a ∧ a < b ∧ b ≤ n) (i1 : ISB s1 (IW (GB fc n) a b wChars)) (h1 : s1 = 0) (i2 : ISB s2 (IW (GB fc n) a b wLeniv)) (h2 : s2 = 0) (i3 : ISB s3 (IW (GB fc n) a b wSubrs)) (h3 : ¬ (s3 = 0)) (C : SEQ 0 f (SUBR (GB fc n) n b2) (fun v => v = (q, c2))) (e : b2 = b) (hf : f = 0) (hq : p < q) (F : ∀ j : Nat, j < m → bg2 j = -1) (hm : c2 ≤ m) (eh : h9 = 1) : TSI f0 n p0 fc q h9 c2 lv bg2 fi2 := by
  subst e eh
  have t := seq0_som C hf
  obtain ⟨w1, w2, w3, w4⟩ := id W
  refine tsi_step T A W T.1 hq (fun G g => ⟨_, ?_, stpx_a A w2 w3, pgc_fill F hm⟩)
  unfold STPX
  rw [if_neg (isb_0 i1 (by omega)), if_neg (isb_0 i2 (by omega)), if_pos (isb_1 i3 h3), t]
  rfl
/-- a local told, or a word looked at again -/
def LCR (f : Nat → Int32) (n p c lv : Int) (bg fi f1 : Nat → Int32) (q : Int) (bg1 fi1 : Nat → Int32) : Prop := (LOCX (GB f n) n p c = some (q, -1, 0) ∧ q = p ∧ f1 = f ∧ bg1 = bg ∧ fi1 = fi) ∨ (∃ k m b e : Int, ∃ xb xe : Int32, LOCX (GB f n) n p c = some (q, k, m) ∧ 0 ≤ k ∧ PGP f lv f1 q m b e ∧ bg1 = upd bg (Int.toNat k) xb ∧ fi1 = upd fi (Int.toNat k) xe ∧ Int32.toInt xb = b ∧ Int32.toInt xe = e)
theorem lcr_p {f f1 bg fi bg1 fi1 : Nat → Int32} {n p c lv a b b2 k K m q rw : Int} {xb xe : Int32} (W : BSQ rw (WRD (GB f n) n p) (fun w => w = (a, b))) (hw : ¬ (rw = 0)) (i : EQP (CNTL (GB f n) b a 0) k) (hk : ¬ (k = -1)) (h : k < c) (h0 : 0 ≤ k) (P : PRGX (GB f n) n b2 = some (q, m) ∧ PGP f lv f1 q m (Int32.toInt xb) (Int32.toInt xe)) (eb : b2 = b) (Q : bg1 = upd bg (Int.toNat K) xb ∧ fi1 = upd fi (Int.toNat K) xe) (eK : K = k) : LCR f n p c lv bg fi f1 q bg1 fi1 := by
  subst eb eK
  refine Or.inr ⟨K, m, _, _, xb, xe, ?_, h0, P.2, Q.1, Q.2, rfl, rfl⟩
  unfold LOCX
  rcases W with ⟨_, w, w1, w2⟩ | ⟨h1, _⟩
  · subst w2
    unfold EQP at i
    rw [w1, Option.bind_some]
    show (if CNTL (GB f n) b2 a 0 = -1 then _ else if CNTL (GB f n) b2 a 0 < c then (PRGX (GB f n) n b2).bind fun q => some (q.1, CNTL (GB f n) b2 a 0, q.2) else none) = _
    rw [i, if_neg hk, if_pos h, P.1]
    rfl
  · exact absurd h1 hw
theorem lcr_a {f bg fi : Nat → Int32} {n p c lv a b k q rw : Int} (W : BSQ rw (WRD (GB f n) n p) (fun w => w = (a, b))) (hw : ¬ (rw = 0)) (i : EQP (CNTL (GB f n) b a 0) k) (hk : k = -1) (e : q = p) : LCR f n p c lv bg fi f q bg fi := by
  refine Or.inl ⟨?_, e, rfl, rfl, rfl⟩
  unfold LOCX
  rcases W with ⟨_, w, w1, w2⟩ | ⟨h1, _⟩
  · subst w2
    unfold EQP at i
    rw [w1, Option.bind_some]
    show (if CNTL (GB f n) b a 0 = -1 then _ else _) = _
    rw [i, if_pos hk, e]
  · exact absurd h1 hw
theorem tsi_dup {f0 fc f2 : Nat → Int32} {n p0 p a b b2 h c lv q s1 s2 s3 s4 : Int} {bg fi bg2 fi2 : Nat → Int32} (T : TSI f0 n p0 fc p h c lv bg fi) (A : AGR fc f0 n p) (W : WRD (GB f0 n) n p = some (a, b) ∧ p ≤ a ∧ a < b ∧ b ≤ n) (h0 : 0 ≤ p) (i1 : ISB s1 (IW (GB fc n) a b wChars)) (h1 : s1 = 0) (i2 : ISB s2 (IW (GB fc n) a b wLeniv)) (h2 : s2 = 0) (i3 : ISB s3 (IW (GB fc n) a b wSubrs)) (h3 : s3 = 0) (i4 : ISB s4 (IW (GB fc n) a b wDup)) (h4 : ¬ (s4 = 0)) (hh : h = 1) (C : LCR fc n b2 c lv bg fi f2 q bg2 fi2) (e : b2 = b) : TSI f0 n p0 f2 q h c lv bg2 fi2 := by
  subst e
  obtain ⟨w1, w2, w3, w4⟩ := id W
  have hlv := T.1
  rcases C with ⟨t, e0, e1, e2, e3⟩ | ⟨k, m, x, y, xb, xe, t, hk, P, e1, e2, e3, e4⟩
  · subst e1 e2 e3
    refine tsi_step T A W T.1 (by omega) (fun G g => ⟨G, ?_, stpx_a A w2 w3, pgc_le g (by omega)⟩)
    unfold STPX
    rw [if_neg (isb_0 i1 (by omega)), if_neg (isb_0 i2 (by omega)), if_neg (isb_0 i3 (by omega)), if_pos ⟨isb_1 i4 h4, hh⟩, t]
    rfl
  · have r := locx_rng t
    have r2 : k = -1 ∨ (b2 ≤ q - m ∧ q ≤ n ∧ 0 ≤ m) := r
    refine tsi_step T A W T.1 (by omega) (fun G g => ⟨TUP G k (PBY (GB fc n) (q - m) m lv), ?_, stpx_a A w2 w3, pgc_put g P (fun i hi => rfl) (by omega) (by omega) h0 (by omega) hlv e1 e2 e3 e4 hk (Or.inl rfl)⟩)
    unfold STPX
    rw [if_neg (isb_0 i1 (by omega)), if_neg (isb_0 i2 (by omega)), if_neg (isb_0 i3 (by omega)), if_pos ⟨isb_1 i4 h4, hh⟩, t, Option.bind_some]
    have eL : LGU (GB fc n) lv G (q, k, m) = TUP G k (PBY (GB fc n) (q - m) m lv) := if_neg (by show ¬ (k = -1); omega)
    rw [eL]
theorem tsi_else {f0 fc : Nat → Int32} {n p0 p a b h c lv q s1 s2 s3 s4 : Int} {bg fi : Nat → Int32} (T : TSI f0 n p0 fc p h c lv bg fi) (A : AGR fc f0 n p) (W : WRD (GB f0 n) n p = some (a, b) ∧ p ≤ a ∧ a < b ∧ b ≤ n) (i1 : ISB s1 (IW (GB fc n) a b wChars)) (h1 : s1 = 0) (i2 : ISB s2 (IW (GB fc n) a b wLeniv)) (h2 : s2 = 0) (i3 : ISB s3 (IW (GB fc n) a b wSubrs)) (h3 : s3 = 0) (i4 : ISB s4 (IW (GB fc n) a b wDup)) (h4 : s4 = 0 ∨ ¬ (h = 1)) (e : q = b) : TSI f0 n p0 fc q h c lv bg fi := by
  subst e
  obtain ⟨w1, w2, w3, w4⟩ := id W
  refine tsi_step T A W T.1 (by omega) (fun G g => ⟨G, ?_, stpx_a A w2 w3, pgc_le g (by omega)⟩)
  unfold STPX
  rw [if_neg (isb_0 i1 (by omega)), if_neg (isb_0 i2 (by omega)), if_neg (isb_0 i3 (by omega)), if_neg]
  intro h9
  rcases h4 with h4 | h4
  · exact isb_0 i4 (by omega) h9.1
  · exact h4 h9.2
def TSD (f0 : Nat → Int32) (n p0 : Int) (fc : Nat → Int32) (p c lv : Int) (bg fi : Nat → Int32) : Prop := 0 ≤ lv ∧ ∃ G, SETX (GB f0 n) n p0 0 0 4 (fun _ => none) = some (p, c, lv, G) ∧ PGC fc n bg fi c p G
theorem tsi_done {f0 fc : Nat → Int32} {n p0 p a b h c lv q s1 : Int} {bg fi : Nat → Int32} (T : TSI f0 n p0 fc p h c lv bg fi) (A : AGR fc f0 n p) (W : WRD (GB f0 n) n p = some (a, b) ∧ p ≤ a ∧ a < b ∧ b ≤ n) (i1 : ISB s1 (IW (GB fc n) a b wChars)) (h1 : ¬ (s1 = 0)) (e : q = b) : TSD f0 n p0 fc q c lv bg fi := by
  subst e
  obtain ⟨hl, G, g1, g2⟩ := T
  obtain ⟨w1, w2, w3, w4⟩ := W
  refine ⟨hl, G, ?_, pgc_le g2 (by omega)⟩
  rw [g1]
  exact setx_over w1 ((iw_cg (agr_le A w2)).mp (isb_1 i1 h1))
/-! the letters' loop -/
def TLI (f0 : Nat → Int32) (n p0 : Int) (fc : Nat → Int32) (p k lv : Int) (bg fi : Nat → Int32) : Prop := ∃ G, LTSX (GB f0 n) n p0 lv = LTRX (GB f0 n) n p k lv G ∧ PGC fc n bg fi k p G
theorem tli_0 {f0 : Nat → Int32} {n p rc c p1 r1 p2 r2 p3 r3 p4 k lv : Int} {bg fi : Nat → Int32} (C : SEQ 0 rc (TLD (GB f0 n) n p) (fun v => v = (c, p1))) (hc : rc = 0) (E1 : SEQ 0 r1 (EXW (GB f0 n) n p1 wDict) (fun v => v = p2)) (h1 : r1 = 0) (E2 : SEQ 0 r2 (EXW (GB f0 n) n p2 wDup) (fun v => v = p3)) (h2 : r2 = 0) (E3 : SEQ 0 r3 (EXW (GB f0 n) n p3 wBegin) (fun v => v = p4)) (h3 : r3 = 0) (hk : k = 0) : TLI f0 n p f0 p4 k lv bg fi := by
  subst hk
  refine ⟨fun _ => none, ?_, pgc_0 (by omega)⟩
  unfold LTSX
  rw [seq0_som C hc, Option.bind_some, seq0_som E1 h1, Option.bind_some, seq0_som E2 h2, Option.bind_some, seq0_som E3 h3, Option.bind_some]
/-- a letter told -/
def LTC (f : Nat → Int32) (n a b k lv : Int) (bg fi f1 : Nat → Int32) (p1 : Int) (bg1 fi1 : Nat → Int32) : Prop := ∃ z m x y : Int, ∃ xb xe : Int32, LETX (GB f n) n a b k = some (p1, z, m) ∧ PGP f lv f1 z m x y ∧ bg1 = upd bg (Int.toNat k) xb ∧ fi1 = upd fi (Int.toNat k) xe ∧ Int32.toInt xb = x ∧ Int32.toInt xe = y
theorem ltc_pf {f f1 bg fi bg1 fi1 : Nat → Int32} {n a b b2 k g lv z m q rw a2 b3 : Int} {xb xe : Int32} (hg : g = GB f n a) (h : g = 47 ∧ 2 ≤ b - a ∧ k < 40) (P : PRGX (GB f n) n b2 = some (z, m) ∧ PGP f lv f1 z m (Int32.toInt xb) (Int32.toInt xe)) (eb : b2 = b) (A : AGR f1 f n z) (W : BSQ rw (WRD (GB f1 n) n z) (fun w => w = (a2, b3))) (hw : ¬ (rw = 0)) (e2 : q = b3) (Q : bg1 = upd bg (Int.toNat k) xb ∧ fi1 = upd fi (Int.toNat k) xe) : LTC f n a b k lv bg fi f1 q bg1 fi1 := by
  subst eb
  refine ⟨z, m, _, _, xb, xe, ?_, P.2, Q.1, Q.2, rfl, rfl⟩
  unfold LETX
  rw [← hg, if_pos h, P.1, Option.bind_some]
  rcases W with ⟨_, w, w1, w2⟩ | ⟨h1, _⟩
  · subst w2
    rw [wrd_cg A] at w1
    have w1b : WRD (GB f n) n (z, m).1 = some (a2, b3) := w1
    rw [w1b, Option.bind_some, e2]
  · exact absurd h1 hw
theorem tli_step {f0 fc f2 : Nat → Int32} {n p0 p a b k k2 lv q s : Int} {bg fi bg2 fi2 : Nat → Int32} (T : TLI f0 n p0 fc p k lv bg fi) (A : AGR fc f0 n p) (W : WRD (GB f0 n) n p = some (a, b) ∧ p ≤ a ∧ a < b ∧ b ≤ n) (h0 : 0 ≤ p) (i : ISB s (IW (GB fc n) a b wOver)) (hs : s = 0) (C : LTC fc n a b k lv bg fi f2 q bg2 fi2) (hk : 0 ≤ k) (ek : k2 = k + 1) (hlv : 0 ≤ lv) : TLI f0 n p0 f2 q k2 lv bg2 fi2 := by
  obtain ⟨G, g1, g2⟩ := T
  obtain ⟨w1, w2, w3, w4⟩ := W
  obtain ⟨z, m, x, y, xb, xe, t, P, e1, e2, e3, e4⟩ := C
  have r := letx_rng t
  have r1 : b < z - m := r.1
  have r2 : z < q := r.2.1
  have r3 : q ≤ n := r.2.2.1
  have r4 : 0 ≤ m := r.2.2.2
  have t2 := t
  rw [letx_cg (by omega) (agr_le A w2)] at t2
  have i2 : ¬ IW (GB f0 n) a b wOver := fun h9 => isb_0 i (by omega) ((iw_cg (agr_le A w2)).mpr h9)
  refine ⟨TUP G k (PBY (GB f0 n) (z - m) m lv), ?_, ?_⟩
  · rw [g1]
    exact ltrx_go w1 i2 t2 (by omega) (by omega) ek
  · exact pgc_le (pgc_put g2 P (fun i hi => A i hi) (by omega) (by omega) h0 r4 hlv e1 e2 e3 e4 hk (Or.inr ⟨ek, rfl⟩)) (by omega)
def TLE (f0 : Nat → Int32) (n p0 : Int) (fc : Nat → Int32) (k lv : Int) (bg fi : Nat → Int32) : Prop := ∃ G, LTSX (GB f0 n) n p0 lv = some (k, G) ∧ PGC fc n bg fi k n G
theorem tli_done {f0 fc : Nat → Int32} {n p0 p a b k lv s : Int} {bg fi : Nat → Int32} (T : TLI f0 n p0 fc p k lv bg fi) (A : AGR fc f0 n p) (W : WRD (GB f0 n) n p = some (a, b) ∧ p ≤ a ∧ a < b ∧ b ≤ n) (i : ISB s (IW (GB fc n) a b wOver)) (hs : ¬ (s = 0)) : TLE f0 n p0 fc k lv bg fi := by
  obtain ⟨G, g1, g2⟩ := T
  obtain ⟨w1, w2, w3, w4⟩ := W
  refine ⟨G, ?_, pgc_le g2 (by omega)⟩
  rw [g1]
  exact ltrx_over w1 ((iw_cg (agr_le A w2)).mp (isb_1 i hs))
/-! the font as a whole -/
def T1C (tf : Nat → Int32) (T : Int) (f : Nat → Int32) (n k : Int) (bl fl : Nat → Int32) (c : Int) (bo fo : Nat → Int32) : Prop := ∃ GL GO, T1F TXTX (GB tf T) T = some (GL, GO) ∧ PGC f n bl fl k n GL ∧ PGC f n bo fo c n GO
theorem txtx_1 {f3 f4 f5 : Nat → Int32} {n p q c k lv : Int} {bl fl bo fo : Nat → Int32} (S : TSD f3 n p f4 q c lv bo fo) (e : p = 4) (A : AGR f4 f3 n q) (L : TLE f4 n q f5 k lv bl fl) (Z : LOW f4 f5 q) (hq : q ≤ n) : ∃ GL GO, TXTX (GB f3 n) n = some (GL, GO) ∧ PGC f5 n bl fl k n GL ∧ PGC f5 n bo fo c n GO := by
  subst e
  obtain ⟨hl, GO, s1, s2⟩ := S
  obtain ⟨GL, l1, l2⟩ := L
  refine ⟨GL, GO, ?_, l2, pgc_le (pgc_low s2 Z) hq⟩
  unfold TXTX
  rw [s1, Option.bind_some]
  rw [ltsx_cg A] at l1
  show (LTSX (GB f3 n) n q lv).bind _ = _
  rw [l1]
  rfl
theorem t1f_go {α : Type} {K : (Int → Int) → Int → Option α} {f1 tf : Nat → Int32} {n p n1 s : Int} {v : α} (X : RSM p (EXF (GB tf n) n 0)) (h : ¬ (p = -1)) (h4 : ¬ (n - p < 4)) (S : SHF f1 n1 tf n p) (en : n1 = n - p) (D : ISB s (HX4 (GB f1 n1))) (k : ((if s = 1 then HX (GB f1 n1) n1 else some (n1, fun j => GB f1 n1 j)).bind fun q => K (DCR q.2 q.1) q.1) = some v) : T1F K (GB tf n) n = some v := by
  rcases X with ⟨h0, h1⟩ | ⟨h0, _⟩
  · have e4 : HX4 (fun i => GB tf n (i + p)) ↔ HX4 (GB f1 n1) := by
      constructor
      · intro g j hj; rw [S j (by omega)]; exact g j hj
      · intro g j hj
        have := g j hj
        rw [S j (by omega)] at this
        exact this
    have eH : HX (fun i => GB tf n (i + p)) (n - p) = HX (GB f1 n1) n1 := by
      unfold HX
      rw [hxd_cg (β := fun i => GB tf n (i + p)) (δ := GB f1 n1) (fun i hi => (S i hi).symm), en]
    have eF : (fun j : Nat => GB tf n (j + p)) = fun j : Nat => GB f1 n1 j := by
      funext j
      exact (S j (by omega)).symm
    unfold T1F
    rw [h1, Option.bind_some, if_neg h4, eH, eF, ← en]
    rcases D with ⟨d1, d2⟩ | ⟨d1, d2⟩
    · rw [if_pos (e4.mpr d2)]
      rw [if_pos d1] at k
      exact k
    · rw [if_neg (fun h9 => d2 (e4.mp h9))]
      rw [if_neg (by omega)] at k
      exact k
  · exact absurd h0 h
theorem t1c_hx {f1 f2 f3 tf f : Nat → Int32} {T p n1 n2 r s k c : Int} {bl fl bo fo : Nat → Int32} (X : RSM p (EXF (GB tf T) T 0)) (h : ¬ (p = -1)) (h4 : ¬ (T - p < 4)) (S : SHF f1 n1 tf T p) (en : n1 = T - p) (D : ISB s (HX4 (GB f1 n1))) (hs : s = 1) (H : BSQ r (HX (GB f1 n1) n1) (RWB f2 n2)) (hr : ¬ (r = 0)) (e : f3 = (dec f2 55665 (Int.toNat n2)).1) (K : ∃ GL GO, TXTX (GB f3 n2) n2 = some (GL, GO) ∧ PGC f n2 bl fl k n2 GL ∧ PGC f n2 bo fo c n2 GO) : T1C tf T f n2 k bl fl c bo fo := by
  obtain ⟨GL, GO, k1, k2, k3⟩ := K
  refine ⟨GL, GO, t1f_go X h h4 S en D ?_, k2, k3⟩
  rw [if_pos hs]
  rcases H with ⟨_, q, q1, q2⟩ | ⟨h9, _⟩
  · rw [q1, Option.bind_some, ← dcr_of q2 e, q2.1]
    exact k1
  · exact absurd h9 hr
theorem t1c_raw {f1 f3 tf f : Nat → Int32} {T p n1 s k c : Int} {bl fl bo fo : Nat → Int32} (X : RSM p (EXF (GB tf T) T 0)) (h : ¬ (p = -1)) (h4 : ¬ (T - p < 4)) (S : SHF f1 n1 tf T p) (en : n1 = T - p) (D : ISB s (HX4 (GB f1 n1))) (hs : s = 0) (e : f3 = (dec f1 55665 (Int.toNat n1)).1) (K : ∃ GL GO, TXTX (GB f3 n1) n1 = some (GL, GO) ∧ PGC f n1 bl fl k n1 GL ∧ PGC f n1 bo fo c n1 GO) : T1C tf T f n1 k bl fl c bo fo := by
  obtain ⟨GL, GO, k1, k2, k3⟩ := K
  refine ⟨GL, GO, t1f_go X h h4 S en D ?_, k2, k3⟩
  rw [if_neg (by omega), Option.bind_some]
  have hq : RWB f1 n1 (n1, fun j : Nat => GB f1 n1 j) := ⟨rfl, fun j hj => by
    show _ = GB f1 n1 j
    rw [gb_in (by omega) hj]
    rfl⟩
  rw [← dcr_of hq e]
  exact k1
