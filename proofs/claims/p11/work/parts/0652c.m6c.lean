/-! the reference's font kept, code; the law (p6) -/
def RCP (nm : Nat → Int32) (k : Int) (a na : Nat → Int32) : Prop := ∀ s : Int, 0 ≤ s → s < k → ∀ j : Int, 0 ≤ j → j < Int32.toInt (nm s.toNat) → a (1600 * s + j).toNat = na (1600 * s + j).toNat
def RCI (nm : Nat → Int32) (k i : Int) (a na : Nat → Int32) : Prop := RCP nm k a na ∧ ∀ j : Int, 1600 * k ≤ j → j < i → a j.toNat = na j.toNat
theorem rcp_0 {nm a na : Nat → Int32} : RCP nm 0 a na := fun s h0 h1 => by omega
theorem rci_0 {nm a na : Nat → Int32} {k i : Int} (h : RCP nm k a na) (e : i = 1600 * k) : RCI nm k i a na := ⟨h, fun j h0 h1 => by omega⟩
theorem rci_step {nm a a2 na : Nat → Int32} {k i i2 : Int} {x z : Int32} (h : RCI nm k i a na) (e1 : na (Int32.toNatClampNeg x) = z) (e2 : upd a (Int32.toNatClampNeg x) z = a2) (hx : Int32.toInt x = i) (h0 : 1600 * k ≤ i) (hk : 0 ≤ k) (C : ∀ j : Nat, 0 ≤ Int32.toInt (nm j) ∧ Int32.toInt (nm j) ≤ 1600) (e : i2 = i + 1) : RCI nm k i2 a2 na := by
  have hc : Int32.toNatClampNeg x = i.toNat := by show (Int32.toInt x).toNat = _; rw [hx]
  rw [hc] at e1 e2
  refine ⟨fun s h1 h2 j h3 h4 => ?_, fun j h1 h2 => ?_⟩
  · have := C s.toNat
    rw [← e2, upd_eq, if_neg (by omega)]
    exact h.1 s h1 h2 j h3 h4
  · rw [← e2, upd_eq]
    by_cases h9 : j = i
    · rw [h9, if_pos rfl, e1]
    · rw [if_neg (by omega)]
      exact h.2 j h1 (by omega)
theorem rcp_step {nm a na : Nat → Int32} {k k2 i : Int} {x z : Int32} (h : RCI nm k i a na) (e : nm (Int32.toNatClampNeg x) = z) (hx : Int32.toInt x = k) (hi : 1600 * k + Int32.toInt z ≤ i) (hk : k2 = k + 1) : RCP nm k2 a na := by
  have hc : Int32.toNatClampNeg x = k.toNat := by show (Int32.toInt x).toNat = _; rw [hx]
  rw [hc] at e
  intro s h1 h2 j h3 h4
  by_cases h9 : s = k
  · subst h9
    rw [e] at h4
    exact h.2 _ (by omega) (by omega)
  · exact h.1 s h1 (by omega) j h3 h4
def PCP (pl npl : Nat → Int32) (i : Int) : Prop := ∀ j : Int, 0 ≤ j → j < i → pl j.toNat &&& 255 = npl j.toNat &&& 255
theorem pcp_0 {pl npl : Nat → Int32} : PCP pl npl 0 := fun j h0 h1 => by omega
theorem pcp_step {pl pl2 npl : Nat → Int32} {i i2 : Int} {x z : Int32} (h : PCP pl npl i) (e1 : npl (Int32.toNatClampNeg x) = z) (e2 : upd pl (Int32.toNatClampNeg x) (vp_nar .byte z) = pl2) (hx : Int32.toInt x = i) (h0 : 0 ≤ i) (e : i2 = i + 1) : PCP pl2 npl i2 := by
  have hc : Int32.toNatClampNeg x = i.toNat := by show (Int32.toInt x).toNat = _; rw [hx]
  rw [hc] at e1 e2
  intro j h1 h2
  rw [← e2, upd_eq]
  by_cases h9 : j = i
  · rw [h9, if_pos rfl, nar_and, e1]
  · rw [if_neg (by omega)]
    exact h j h1 (by omega)
theorem mso_cp {tf nst nsz npl st sz pl : Nat → Int32} {T cnt b P : Int} {dd : Int × Int} (h : MSO tf T cnt dd b nst nsz npl P) (e1 : ∀ j : Int, 0 ≤ j → j < cnt → st (b + j).toNat = nst (b + j).toNat) (e2 : ∀ j : Int, 0 ≤ j → j < cnt → sz (b + j).toNat = nsz (b + j).toNat) (e3 : PCP pl npl P) : MSO tf T cnt dd b st sz pl P := by
  rcases h with h | ⟨a, h1, h2⟩
  · exact Or.inl h
  · refine Or.inr ⟨a, h1, fun k h0 hk => ?_⟩
    obtain ⟨q1, q2, q3, q4⟩ := h2 k h0 hk
    rw [e1 k h0 hk, e2 k h0 hk]
    refine ⟨q1, q2, q3, fun i hi hn => ?_⟩
    rw [e3 _ (by omega) (by omega)]
    exact q4 i hi hn
theorem pgm_cp {nst nsz npl st sz pl : Nat → Int32} {b c P : Int} {G : PGT} (h : PGM nst nsz npl b c P G) (e1 : ∀ j : Int, 0 ≤ j → j < c → st (b + j).toNat = nst (b + j).toNat) (e2 : ∀ j : Int, 0 ≤ j → j < c → sz (b + j).toNat = nsz (b + j).toNat) (e3 : PCP pl npl P) : PGM st sz pl b c P G := by
  intro k h0 hk
  rw [e1 k h0 hk, e2 k h0 hk]
  rcases h k h0 hk with h1 | ⟨v, h1, h2, h3, h4, h5, h6⟩
  · exact Or.inl h1
  · refine Or.inr ⟨v, h1, h2, h3, h4, h5, fun i hi hv => ?_⟩
    rw [e3 _ (by omega) (by omega)]
    exact h6 i hi hv
theorem rcp_at {nm a na : Nat → Int32} {k s c b : Int} (h : RCP nm k a na) (hk : s < k) (h0 : 0 ≤ s) (ec : c = Int32.toInt (nm s.toNat)) (eb : b = 1600 * s) : ∀ j : Int, 0 ≤ j → j < c → a (b + j).toNat = na (b + j).toNat := by
  subst ec eb
  exact h s h0 hk
abbrev c3 (m : Nat → Int32) (k : Int32) : Int := Int32.toInt (m (Int32.toNatClampNeg k))
theorem cfm_cp {tf m nm nst nsz npl st sz pl : Nat → Int32} {T P k P2 : Int} (h : CFM tf T (Int32.toInt (nm 0)) (Int32.toInt (nm 1)) (Int32.toInt (nm 2)) nst nsz npl P) (C : CPM m nm k) (hk : 3 ≤ k) (R1 : RCP nm k st nst) (R2 : RCP nm k sz nsz) (R3 : PCP pl npl P2) (e : P ≤ P2) : CFM tf T (Int32.toInt (m (Int32.toNatClampNeg 0))) (Int32.toInt (m (Int32.toNatClampNeg 1))) (Int32.toInt (m (Int32.toNatClampNeg 2))) st sz pl P := by
  have R4 : PCP pl npl P := fun j h0 h1 => R3 j h0 (by omega)
  have m0 : m (Int32.toNatClampNeg 0) = nm 0 := C 0 (by omega)
  have m1 : m (Int32.toNatClampNeg 1) = nm 1 := C 1 (by omega)
  have m2 : m (Int32.toNatClampNeg 2) = nm 2 := C 2 (by omega)
  rw [m0, m1, m2]
  obtain ⟨d, h1, h2, h3, h4⟩ := h
  exact ⟨d, h1, mso_cp h2 (rcp_at (s := 0) R1 (by omega) (by omega) rfl rfl) (rcp_at (s := 0) R2 (by omega) (by omega) rfl rfl) R4, mso_cp h3 (rcp_at (s := 1) R1 (by omega) (by omega) rfl rfl) (rcp_at (s := 1) R2 (by omega) (by omega) rfl rfl) R4, mso_cp h4 (rcp_at (s := 2) R1 (by omega) (by omega) rfl rfl) (rcp_at (s := 2) R2 (by omega) (by omega) rfl rfl) R4⟩
theorem t1m_cp {tf m nm nst nsz npl st sz pl : Nat → Int32} {T P k P2 : Int} (h : T1M tf T (Int32.toInt (nm (Int32.toNatClampNeg 0))) (Int32.toInt (nm (Int32.toNatClampNeg 1))) nst nsz npl P) (C : CPM m nm k) (hk : 3 ≤ k) (R1 : RCP nm k st nst) (R2 : RCP nm k sz nsz) (R3 : PCP pl npl P2) (e : P ≤ P2) : T1M tf T (Int32.toInt (m (Int32.toNatClampNeg 0))) (Int32.toInt (m (Int32.toNatClampNeg 1))) st sz pl P := by
  have R4 : PCP pl npl P := fun j h0 h1 => R3 j h0 (by omega)
  have m0 : m (Int32.toNatClampNeg 0) = nm (Int32.toNatClampNeg 0) := C 0 (by omega)
  have m1 : m (Int32.toNatClampNeg 1) = nm (Int32.toNatClampNeg 1) := C 1 (by omega)
  rw [m0, m1]
  obtain ⟨GL, GO, h1, h2, h3⟩ := h
  exact ⟨GL, GO, h1, pgm_cp h2 (rcp_at (s := 0) R1 (by omega) (by omega) rfl rfl) (rcp_at (s := 0) R2 (by omega) (by omega) rfl rfl) R4, pgm_cp h3 (rcp_at (s := 1) R1 (by omega) (by omega) rfl rfl) (rcp_at (s := 1) R2 (by omega) (by omega) rfl rfl) R4⟩
/-! code, as the reference answers -/
def THR (fam : Int) (m sz : Nat → Int32) (s k : Int) : Prop := 0 ≤ fam ∧ 0 ≤ s ∧ s < 3 ∧ 0 ≤ k ∧ k < Int32.toInt (m s.toNat) ∧ 0 ≤ Int32.toInt (sz (1600 * s + k).toNat)
theorem thr_n1 {fam s k r : Int} {m sz : Nat → Int32} (h : fam < 0 ∨ s < 0 ∨ 3 ≤ s ∨ k < 0) (hr : r = 0) : ISB r (THR fam m sz s k) := Or.inr ⟨hr, fun ⟨h1, h2, h3, h4, _⟩ => by omega⟩
theorem thr_n2 {fam k r : Int} {m sz : Nat → Int32} {s z : Int32} (e : m (Int32.toNatClampNeg s) = z) (h : Int32.toInt z ≤ k) (hr : r = 0) : ISB r (THR fam m sz (Int32.toInt s) k) := Or.inr ⟨hr, fun ⟨_, _, _, _, h5, _⟩ => by
  have e2 : m (Int32.toInt s).toNat = z := e
  rw [e2] at h5
  omega⟩
theorem thr_n3 {fam s k r : Int} {m sz : Nat → Int32} {x z : Int32} (e : sz (Int32.toNatClampNeg x) = z) (hx : Int32.toInt x = 1600 * s + k) (h : Int32.toInt z < 0) (hr : r = 0) : ISB r (THR fam m sz s k) := Or.inr ⟨hr, fun ⟨_, _, _, _, _, h5⟩ => by
  have e2 : sz (Int32.toInt x).toNat = z := e
  rw [hx] at e2
  rw [e2] at h5
  omega⟩
theorem thr_y {fam k r : Int} {m sz : Nat → Int32} {s x u z : Int32} (h0 : 0 ≤ fam) (h1 : 0 ≤ Int32.toInt s) (h2 : Int32.toInt s < 3) (h3 : 0 ≤ k) (e1 : m (Int32.toNatClampNeg s) = u) (h4 : k < Int32.toInt u) (e : sz (Int32.toNatClampNeg x) = z) (hx : Int32.toInt x = 1600 * Int32.toInt s + k) (h : 0 ≤ Int32.toInt z) (hr : r = 1) : ISB r (THR fam m sz (Int32.toInt s) k) := by
  have e2 : sz (Int32.toInt x).toNat = z := e
  rw [hx] at e2
  have e3 : m (Int32.toInt s).toNat = u := e1
  exact Or.inl ⟨hr, h0, h1, h2, h3, by rw [e3]; exact h4, by rw [e2]; exact h⟩
def MCO (fam : Int) (m st sz pl : Nat → Int32) (s k i r : Int) : Prop := (THR fam m sz s k ∧ 0 ≤ i ∧ i < Int32.toInt (sz (1600 * s + k).toNat) ∧ r = Int32.toInt (pl (Int32.toInt (st (1600 * s + k).toNat) + i).toNat &&& 255)) ∨ (¬ (THR fam m sz s k ∧ 0 ≤ i ∧ i < Int32.toInt (sz (1600 * s + k).toNat)) ∧ r = -1)
theorem mco_n1 {fam s k i r t : Int} {m st sz pl : Nat → Int32} (h : ISB t (THR fam m sz s k)) (ht : t = 0 ∨ i < 0) (hr : r = -1) : MCO fam m st sz pl s k i r := Or.inr ⟨fun h9 => by
  rcases ht with ht | ht
  · exact isb_0 h (by omega) h9.1
  · omega, hr⟩
theorem mco_n2 {fam s k i r : Int} {m st sz pl : Nat → Int32} {x z : Int32} (e : sz (Int32.toNatClampNeg x) = z) (hx : Int32.toInt x = 1600 * s + k) (h : Int32.toInt z ≤ i) (hr : r = -1) : MCO fam m st sz pl s k i r := Or.inr ⟨fun h9 => by
  have e2 : sz (Int32.toInt x).toNat = z := e
  rw [hx] at e2
  have h8 := h9.2.2
  rw [e2] at h8
  omega, hr⟩
theorem mco_y {fam s k i t : Int} {m st sz pl : Nat → Int32} {x z u v c w : Int32} (h : ISB t (THR fam m sz s k)) (ht : t = 1) (h0 : 0 ≤ i) (e : sz (Int32.toNatClampNeg x) = z) (hx : Int32.toInt x = 1600 * s + k) (h1 : i < Int32.toInt z) (e1 : st (Int32.toNatClampNeg x) = u) (e2 : pl (Int32.toNatClampNeg w) = v) (hw : Int32.toInt w = Int32.toInt u + i) (e3 : v &&& 255 = c) : MCO fam m st sz pl s k i (Int32.toInt c) := by
  have q1 : sz (Int32.toInt x).toNat = z := e
  have q2 : st (Int32.toInt x).toNat = u := e1
  have q3 : pl (Int32.toInt w).toNat = v := e2
  rw [hx] at q1 q2
  rw [hw] at q3
  refine Or.inl ⟨isb_1 h (by omega), h0, by rw [q1]; exact h1, ?_⟩
  rw [q2, q3, e3]
/-! programs alike -/
def SHR (β : Int → Int) (len ob oa : Int) (bg fi : Nat → Int32) (cap cnt : Int) (st sz pl : Nat → Int32) (b : Int) : Prop := len = cnt ∧ ∀ k : Int, 0 ≤ k → k < len → (¬ HASP len ob bg cap k ∧ Int32.toInt (sz (b + k).toNat) < 0) ∨ (HASP len ob bg cap k ∧ VALK β len ob oa bg fi k ∧ 0 ≤ Int32.toInt (sz (b + k).toNat) ∧ FINE β len ob oa fi k = BEGE β len ob oa bg k + Int32.toInt (sz (b + k).toNat) ∧ ∀ i : Int, 0 ≤ i → i < Int32.toInt (sz (b + k).toNat) → β (BEGE β len ob oa bg k + i) = Int32.toInt (pl (Int32.toInt (st (b + k).toNat) + i).toNat &&& 255))
theorem shr_0 {β : Int → Int} {len ob oa cap cnt b : Int} {bg fi st sz pl : Nat → Int32} (h : len = 0) (e : cnt = 0) : SHR β len ob oa bg fi cap cnt st sz pl b := ⟨by omega, fun k h0 hk => by omega⟩
theorem shr_t1 {f bg fi st sz pl : Nat → Int32} {n ob oa cap c c2 P b : Int} {G : PGT} (C : PGC f n bg fi c n G) (M : PGM st sz pl b c2 P G) (ec : c = c2) (ho : ob = 0) (hc : c ≤ cap) (hn : n ≤ 1500) : SHR (GB f n) c ob oa bg fi cap c2 st sz pl b := by
  subst ec
  refine ⟨rfl, fun k h0 hk => ?_⟩
  have C9 := C k.toNat (by omega)
  rw [show ((k.toNat : Nat) : Int) = k by omega] at C9
  rcases C9 with ⟨c1, c2⟩ | ⟨v, c1, c2, c3, c4, c5, c6⟩
  · rcases M k h0 hk with ⟨m1, m2⟩ | ⟨u, m1, _⟩
    · refine Or.inl ⟨fun ⟨_, _, h9⟩ => ?_, by omega⟩
      rcases h9 with h9 | ⟨_, h9⟩
      · omega
      · exact h9 c2
    · rw [c1] at m1; exact absurd m1 (by simp)
  · rcases M k h0 hk with ⟨m1, m2⟩ | ⟨u, m1, m2, m3, m4, m5, m6⟩
    · rw [c1] at m1; exact absurd m1 (by simp)
    · have e : v = u := by rw [c1] at m1; exact Option.some.inj m1
      subst e
      have eB : BEGE (GB f n) c ob oa bg k = Int32.toInt (bg k.toNat) := if_neg (by omega)
      have eF : FINE (GB f n) c ob oa fi k = Int32.toInt (fi k.toNat) := if_neg (by omega)
      refine Or.inr ⟨⟨h0, hk, Or.inr ⟨by omega, by omega⟩⟩, ⟨Or.inl (by omega), ?_, ?_, ?_⟩, by omega, ?_, fun i hi hv => ?_⟩
      · rw [eB]; exact c3
      · rw [eB, eF]; omega
      · rw [eF]; omega
      · rw [eB, eF, m3]; exact c4
      · rw [eB, m6 i hi (by omega)]
        exact c6 i hi (by omega)
theorem shr_ix {tf bg fi st sz pl : Nat → Int32} {T w o cap c c2 P b : Int} {dd : Int × Int} (S : SHD c w o dd) (M : MSO tf T c2 dd b st sz pl P) (ec : c = c2) (h0 : 0 ≤ c) (hT : T ≤ 1500) : SHR (GB tf T) c w o bg fi cap c2 st sz pl b := by
  subst ec
  refine ⟨rfl, fun k hk0 hk => ?_⟩
  rcases S with S | ⟨s1, s2⟩
  · omega
  rcases M with M | ⟨a, x, m⟩
  · omega
  subst s1 s2
  obtain ⟨m1, m2, m3, m4⟩ := m k hk0 hk
  have xa := ix_at x hk0 hk
  obtain ⟨x1, x2, x3, x4, x5, x6, x7, x8, x9⟩ := x
  have hb : ∀ j : Int, 0 ≤ j → j ≤ c → dd.2 + j * dd.1 + dd.1 ≤ T := fun j j0 j1 => by
    have e1 : dd.1 * (c + 1) = dd.1 * j + dd.1 * (c - j) + dd.1 := by
      rw [← Int.mul_add, show j + (c - j) = c by omega, Int.mul_add, Int.mul_one]
    have e2 : 0 ≤ dd.1 * (c - j) := Int.mul_nonneg (by omega) (by omega)
    have e3 : j * dd.1 = dd.1 * j := Int.mul_comm _ _
    omega
  have n1 := num_off (f := tf) (n := T) x1 x2 x4 hk0 (hb k hk0 (by omega))
  have n2 := num_off (f := tf) (n := T) (k := k + 1) x1 x2 x4 (by omega) (hb (k + 1) (by omega) (by omega))
  have ew : (c + 1) * dd.1 = dd.1 * (c + 1) := Int.mul_comm _ _
  have eB : BEGE (GB tf T) c dd.1 dd.2 bg k = a + OFF tf dd.2 dd.1 k := by
    unfold BEGE OBJ
    rw [if_pos (by omega), n1]
    omega
  have eF : FINE (GB tf T) c dd.1 dd.2 fi k = a + OFF tf dd.2 dd.1 (k + 1) := by
    unfold FINE OBJ
    rw [if_pos (by omega), n2]
    omega
  have hcT : c ≤ 1500 := by
    have e1 : c + 1 ≤ dd.1 * (c + 1) := by
      have := Int.mul_le_mul_of_nonneg_right x1 (show 0 ≤ c + 1 by omega)
      omega
    omega
  have ho : 0 ≤ a := by
    have : 0 ≤ dd.1 * (c + 1) := Int.mul_nonneg (by omega) (by omega)
    have e1 : c + 1 ≤ dd.1 * (c + 1) := by
      have := Int.mul_le_mul_of_nonneg_right x1 (show 0 ≤ c + 1 by omega)
      omega
    omega
  have ho2 : dd.2 ≤ 1500 := by
    have : 0 ≤ dd.1 * (c + 1) := Int.mul_nonneg (by omega) (by omega)
    omega
  refine Or.inr ⟨⟨hk0, hk, Or.inl (by omega)⟩, ⟨Or.inr ⟨⟨x4, ho2, hk0, by omega, x1, x2⟩, by omega⟩, ?_, ?_, ?_⟩, by omega, ?_, fun i hi hv => ?_⟩
  · rw [eB]; omega
  · rw [eB, eF]; omega
  · rw [eF]; omega
  · rw [eB, eF, m1]; omega
  · rw [eB, gb_in (by omega) (by omega), m4 i hi (by omega)]
def FRC (fam fam2 : Int) (β : Int → Int) (ll wl ol : Int) (bl fl : Nat → Int32) (lo wo oo : Int) (bo fo : Nat → Int32) (lg wg og : Int) (bg : Nat → Int32) (m st sz pl : Nat → Int32) : Prop := fam = fam2 ∧ ((fam = -1 ∧ ll = 0 ∧ lo = 0 ∧ lg = 0) ∨ (0 ≤ fam ∧ SHR β ll wl ol bl fl 40 (Int32.toInt (m (Int32.toNatClampNeg 0))) st sz pl 0 ∧ SHR β lo wo oo bo fo 200 (Int32.toInt (m (Int32.toNatClampNeg 1))) st sz pl 1600 ∧ SHR β lg wg og bg nof 0 (Int32.toInt (m (Int32.toNatClampNeg 2))) st sz pl 3200))
theorem cco_eq {fam s k i r r2 : Int} {β : Int → Int} {len ob oa cap cnt b : Int} {bg fi m st sz pl : Nat → Int32} (S : SHR β len ob oa bg fi cap cnt st sz pl b) (C : (HASP len ob bg cap k → VALK β len ob oa bg fi k) → CCO β len ob oa bg fi cap k i r) (M : MCO fam m st sz pl s k i r2) (hf : 0 ≤ fam) (h0 : 0 ≤ s) (h3 : s < 3) (ec : cnt = Int32.toInt (m s.toNat)) (eb : b = 1600 * s) : r = r2 := by
  subst eb
  obtain ⟨e1, S⟩ := S
  have V : HASP len ob bg cap k → VALK β len ob oa bg fi k := fun h => by
    rcases S k h.1 h.2.1 with ⟨h9, _⟩ | ⟨_, h9, _⟩
    · exact absurd h h9
    · exact h9
  rcases C V with ⟨c1, c2, c3, c4⟩ | ⟨c1, c2⟩
  · rcases S k c1.1 c1.2.1 with ⟨h9, _⟩ | ⟨_, s1, s2, s3, s4⟩
    · exact absurd c1 h9
    · have t : THR fam m sz s k ∧ 0 ≤ i ∧ i < Int32.toInt (sz (1600 * s + k).toNat) := ⟨⟨hf, h0, h3, c1.1, by have := c1.2.1; omega, s2⟩, c2, by omega⟩
      rcases M with ⟨_, _, _, m4⟩ | ⟨m1, _⟩
      · rw [c4, m4]
        exact s4 i c2 (by omega)
      · exact absurd t m1
  · rcases M with ⟨m1, m2, m3, m4⟩ | ⟨_, m2⟩
    · exfalso
      obtain ⟨_, _, _, t4, t5, t6⟩ := m1
      rcases S k t4 (by omega) with ⟨_, h9⟩ | ⟨s0, s1, s2, s3, s4⟩
      · omega
      · exact c1 ⟨s0, m2, by omega⟩
    · rw [c2, m2]
theorem code_eq {fam fam2 s k i r r2 : Int} {β : Int → Int} {ll wl ol lo wo oo lg wg og : Int} {bl fl bo fo bg m st sz pl : Nat → Int32} (F : FRC fam fam2 β ll wl ol bl fl lo wo oo bo fo lg wg og bg m st sz pl) (C0 : CND (s = 0 ∧ (HASP ll wl bl 40 k → VALK β ll wl ol bl fl k)) (CCO β ll wl ol bl fl 40 k i r)) (C1 : CND (s = 1 ∧ (HASP lo wo bo 200 k → VALK β lo wo oo bo fo k)) (CCO β lo wo oo bo fo 200 k i r)) (C2 : CND (s = 2 ∧ (HASP lg wg bg 0 k → VALK β lg wg og bg nof k)) (CCO β lg wg og bg nof 0 k i r)) (C3 : (0 ≤ s ∧ s ≤ 2) ∨ r = -1) (M : MCO fam2 m st sz pl s k i r2) : r = r2 := by
  obtain ⟨e, F⟩ := F
  subst e
  have hno : (fam = -1 ∨ s < 0 ∨ 3 ≤ s) → r2 = -1 := fun h => by
    rcases M with ⟨m1, _⟩ | ⟨_, m1⟩
    · obtain ⟨t1, t2, t3, _⟩ := m1
      omega
    · exact m1
  by_cases hs : 0 ≤ s ∧ s ≤ 2
  · rcases F with ⟨f1, f2, f3, f4⟩ | ⟨f1, f2, f3, f4⟩
    · rw [hno (Or.inl f1)]
      have z : ∀ {len ob oa cap : Int} {bg fi : Nat → Int32}, len = 0 → ¬ HASP len ob bg cap k := fun h9 h8 => by have := h8.1; have := h8.2.1; omega
      rcases (show s = 0 ∨ s = 1 ∨ s = 2 by omega) with h | h | h
      · rcases C0 ⟨h, fun h9 => absurd h9 (z (oa := 0) (fi := nof) f2)⟩ with ⟨c1, _⟩ | ⟨_, c1⟩
        · exact absurd c1 (z (oa := 0) (fi := nof) f2)
        · exact c1
      · rcases C1 ⟨h, fun h9 => absurd h9 (z (oa := 0) (fi := nof) f3)⟩ with ⟨c1, _⟩ | ⟨_, c1⟩
        · exact absurd c1 (z (oa := 0) (fi := nof) f3)
        · exact c1
      · rcases C2 ⟨h, fun h9 => absurd h9 (z (oa := 0) (fi := nof) f4)⟩ with ⟨c1, _⟩ | ⟨_, c1⟩
        · exact absurd c1 (z (oa := 0) (fi := nof) f4)
        · exact c1
    · rcases (show s = 0 ∨ s = 1 ∨ s = 2 by omega) with h | h | h
      · exact cco_eq f2 (fun V => C0 ⟨h, V⟩) M f1 (by omega) (by omega) (by rw [h]; rfl) (by omega)
      · exact cco_eq f3 (fun V => C1 ⟨h, V⟩) M f1 (by omega) (by omega) (by rw [h]; rfl) (by omega)
      · exact cco_eq f4 (fun V => C2 ⟨h, V⟩) M f1 (by omega) (by omega) (by rw [h]; rfl) (by omega)
  · rw [hno (by omega)]
    rcases C3 with C3 | C3
    · exact absurd C3 hs
    · exact C3
theorem fc_yes {ft gt f1 : Nat → Int32} {v r r2 T U n1 ll lo lg wl ol wo oo wg og dw nw fam fam2 fam0 us us0 no no0 P : Int} {m1 m0 bl fl bo fo bg st sz pl : Nat → Int32} (h8 : E8 ft gt (Int.toNat U)) (hT : T = U)
    (C0 : CND (v = 0) (SEQ 0 r (CFF (GB ft T) T) (fun t => t = (ll, lo, lg, dw, nw)))) (C1 : CND (v = 1) (SEQ 0 r (T1 (GB ft T) T) (fun t => t = (ll, lo))))
    (D0 : CND (v = 0) (SEQ 0 r2 (CFF (GB gt U) U) (fun t => t = ((Int32.toInt (m1 (Int32.toNatClampNeg 0))), (Int32.toInt (m1 (Int32.toNatClampNeg 1))), (Int32.toInt (m1 (Int32.toNatClampNeg 2))), us, no)))) (D1 : CND (v = 1) (SEQ 0 r2 (T1 (GB gt U) U) (fun t => t = ((Int32.toInt (m1 (Int32.toNatClampNeg 0))), (Int32.toInt (m1 (Int32.toNatClampNeg 1)))))))
    (RD : RDM v r2 fam2 fam0 m1 m0 us us0 no no0) (hr : r = 0) (hv : v = 0 ∨ v = 1) (hf : fam = v) (hz : v = 0 ∨ (lg = 0 ∧ dw = 0 ∧ nw = 0))
    (X0 : CND (v = 0 ∧ r = 0) (CFC (GB ft T) T ll wl ol lo wo oo lg wg og ∧ GB f1 n1 = GB ft T)) (X1 : CND (v = 1 ∧ r = 0) (T1C ft T f1 n1 ll bl fl lo bo fo)) (X2 : ¬ (v = 1) ∨ ¬ (r = 0) ∨ (wl = 0 ∧ wo = 0 ∧ ll ≤ 40 ∧ lo ≤ 200))
    (Y0 : CND (v = 0 ∧ r2 = 0) (CFM gt U (Int32.toInt (m1 (Int32.toNatClampNeg 0))) (Int32.toInt (m1 (Int32.toNatClampNeg 1))) (Int32.toInt (m1 (Int32.toNatClampNeg 2))) st sz pl P)) (Y1 : CND (v = 1 ∧ r2 = 0) (T1M gt U (Int32.toInt (m1 (Int32.toNatClampNeg 0))) (Int32.toInt (m1 (Int32.toNatClampNeg 1))) st sz pl P)) (hm : ∀ j : Nat, 0 ≤ Int32.toInt (m1 j) ∧ Int32.toInt (m1 j) ≤ 1600) (hn : n1 ≤ 1500) (hU : U ≤ 1500) : FRC fam fam2 (GB f1 n1) ll wl ol bl fl lo wo oo bo fo lg wg og bg m1 st sz pl := by
  have F := fr_yes h8 hT C0 C1 D0 D1 RD hr hv hf hz
  have hr2 : r2 = 0 := by
    by_cases h9 : r2 = 0
    · exact h9
    · exfalso
      have e : GB ft T = GB gt U := by rw [hT]; exact gb_E8 h8
      rw [e, hT] at C0 C1
      rcases hv with hv | hv
      · rcases seq0_two (C0 hv) (D0 hv) with ⟨_, k, _⟩ | ⟨k, _⟩
        · exact h9 k
        · exact k hr
      · rcases seq0_two (C1 hv) (D1 hv) with ⟨_, k, _⟩ | ⟨k, _⟩
        · exact h9 k
        · exact k hr
  obtain ⟨f1e, f2⟩ := F
  have e : GB ft T = GB gt U := by rw [hT]; exact gb_E8 h8
  have m0n := hm (Int32.toNatClampNeg 0)
  have m1n := hm (Int32.toNatClampNeg 1)
  have m2n := hm (Int32.toNatClampNeg 2)
  rcases f2 with f2 | ⟨a1, a2, a3, _, _⟩
  · omega
  refine ⟨f1e, Or.inr ⟨by omega, ?_⟩⟩
  rcases hv with hv | hv
  · obtain ⟨⟨d, x1, x2, x3, x4⟩, x5⟩ := X0 ⟨hv, hr⟩
    obtain ⟨d2, y1, y2, y3, y4⟩ := Y0 ⟨hv, hr2⟩
    rw [e, hT, y1] at x1
    have ed : d2 = d := Option.some.inj x1
    subst ed
    rw [x5, e]
    exact ⟨shr_ix x2 y2 a1 (by omega) hU, shr_ix x3 y3 a2 (by omega) hU, shr_ix x4 y4 a3 (by omega) hU⟩
  · obtain ⟨GL, GO, x1, x2, x3⟩ := X1 ⟨hv, hr⟩
    obtain ⟨HL, HO, y1, y2, y3⟩ := Y1 ⟨hv, hr2⟩
    rw [e, hT, y1] at x1
    have ed := Option.some.inj x1
    have e1 : HL = GL := congrArg Prod.fst ed
    have e2 : HO = GO := congrArg Prod.snd ed
    subst e1 e2
    exact ⟨shr_t1 x2 y2 a1 (by omega) (by omega) hn, shr_t1 x3 y3 a2 (by omega) (by omega) hn, shr_0 (by omega) (by omega)⟩
theorem fc_no {ft gt : Nat → Int32} {v r r2 T U ll lo lg wl ol wo oo wg og a1 a2 a3 a4 a5 fam fam2 fam0 us us0 no no0 : Int} {β : Int → Int} {m1 m0 bl fl bo fo bg st sz pl st1 sz1 pl1 : Nat → Int32} (h8 : E8 ft gt (Int.toNat U)) (hT : T = U)
    (C0 : CND (v = 0) (SEQ 0 r (CFF (GB ft T) T) (fun t => t = (a1, a2, a3, a4, a5)))) (C1 : CND (v = 1) (SEQ 0 r (T1 (GB ft T) T) (fun t => t = (a1, a2))))
    (D0 : CND (v = 0) (SEQ 0 r2 (CFF (GB gt U) U) (fun t => t = ((Int32.toInt (m1 (Int32.toNatClampNeg 0))), (Int32.toInt (m1 (Int32.toNatClampNeg 1))), (Int32.toInt (m1 (Int32.toNatClampNeg 2))), us, no)))) (D1 : CND (v = 1) (SEQ 0 r2 (T1 (GB gt U) U) (fun t => t = ((Int32.toInt (m1 (Int32.toNatClampNeg 0))), (Int32.toInt (m1 (Int32.toNatClampNeg 1)))))))
    (RD : RDM v r2 fam2 fam0 m1 m0 us us0 no no0) (hr : ¬ (r = 0)) (K : CND (¬ (r2 = 0)) (st1 = st ∧ sz1 = sz ∧ pl1 = pl)) (F : FRC fam fam0 β ll wl ol bl fl lo wo oo bo fo lg wg og bg m0 st sz pl) : FRC fam fam2 β ll wl ol bl fl lo wo oo bo fo lg wg og bg m1 st1 sz1 pl1 := by
  subst hT
  have hB := gb_E8 h8
  rw [hB] at C0 C1
  rcases RD with ⟨q1, q2, _⟩ | ⟨q1, q2, q3, q4, q5⟩
  · rcases q2 with q2 | q2
    · rcases seq0_two (C0 q2) (D0 q2) with ⟨k1, _⟩ | ⟨_, k2⟩
      · exact absurd k1 hr
      · exact absurd q1 k2
    · rcases seq0_two (C1 q2) (D1 q2) with ⟨k1, _⟩ | ⟨_, k2⟩
      · exact absurd k1 hr
      · exact absurd q1 k2
  · obtain ⟨k1, k2, k3⟩ := K q1
    rw [q2, q3, k1, k2, k3]
    exact F
