/-! the programs of a font, told by its bytes (p6): Type 1 -/
abbrev PGT := Int → Option (Int × (Int → Int))
def PBY (β : Int → Int) (a m lv : Int) : Int × (Int → Int) := (if lv < m then m - lv else 0, fun i => Int32.toInt ((dec (fun j : Nat => Int32.ofInt (β (a + j))) 4330 m.toNat).1 (lv + i).toNat &&& 255))
def TUP (G : PGT) (k : Int) (v : Int × (Int → Int)) : PGT := fun j => if j = k then some v else G j
def PRGX (β : Int → Int) (n p : Int) : Option (Int × Int) := (TLD β n p).bind fun c => (WRD β n c.2).bind fun w => if (IW β w.1 w.2 wRd ∨ IW β w.1 w.2 wBar) ∧ w.2 + 1 + c.1 ≤ n then some (w.2 + 1 + c.1, c.1) else none
def LOCX (β : Int → Int) (n b c : Int) : Option (Int × Int × Int) := (WRD β n b).bind fun w => if CNTL β w.2 w.1 0 = -1 then some (b, -1, 0) else if CNTL β w.2 w.1 0 < c then (PRGX β n w.2).bind fun q => some (q.1, CNTL β w.2 w.1 0, q.2) else none
def LGU (β : Int → Int) (lv : Int) (G : PGT) (q : Int × Int × Int) : PGT := if q.2.1 = -1 then G else TUP G q.2.1 (PBY β (q.1 - q.2.2) q.2.2 lv)
/-- one word of the settings: over (1), the place behind, whether locals have been told, how many, LENIV, the locals -/
def STPX (β : Int → Int) (n a b h c lv : Int) (G : PGT) : Option (Int × Int × Int × Int × Int × PGT) :=
  if IW β a b wChars then some (1, b, h, c, lv, G)
  else if IW β a b wLeniv then (TLD β n b).bind fun t => some (0, t.2, h, c, t.1, G)
  else if IW β a b wSubrs then (SUBR β n b).bind fun t => some (0, t.1, 1, t.2, lv, fun _ => none)
  else if IW β a b wDup ∧ h = 1 then (LOCX β n b c).bind fun q => some (0, q.1, h, c, lv, LGU β lv G q)
  else some (0, b, h, c, lv, G)
def SETX (β : Int → Int) (n p h c lv : Int) (G : PGT) : Option (Int × Int × Int × PGT) :=
  match WRD β n p with
  | none => none
  | some w => match STPX β n w.1 w.2 h c lv G with
    | none => none
    | some q => if q.1 = 1 then some (q.2.1, q.2.2.2.1, q.2.2.2.2.1, q.2.2.2.2.2) else if p < q.2.1 ∧ p < n then SETX β n q.2.1 q.2.2.1 q.2.2.2.1 q.2.2.2.2.1 q.2.2.2.2.2 else none
termination_by (n - p).toNat
decreasing_by omega
def LETX (β : Int → Int) (n a b k : Int) : Option (Int × Int × Int) := if β a = 47 ∧ 2 ≤ b - a ∧ k < 40 then (PRGX β n b).bind fun q => (WRD β n q.1).bind fun u => some (u.2, q.1, q.2) else none
def LTRX (β : Int → Int) (n p k lv : Int) (G : PGT) : Option (Int × PGT) :=
  match WRD β n p with
  | none => none
  | some w => if IW β w.1 w.2 wOver then some (k, G)
    else match LETX β n w.1 w.2 k with
      | none => none
      | some q => if p < q.1 ∧ p < n then LTRX β n q.1 (k + 1) lv (TUP G k (PBY β (q.2.1 - q.2.2) q.2.2 lv)) else none
termination_by (n - p).toNat
decreasing_by omega
def LTSX (β : Int → Int) (n p lv : Int) : Option (Int × PGT) := (TLD β n p).bind fun t => (EXW β n t.2 wDict).bind fun q => (EXW β n q wDup).bind fun q => (EXW β n q wBegin).bind fun q => LTRX β n q 0 lv (fun _ => none)
/-- letters, locals of a text -/
def TXTX (β : Int → Int) (n : Int) : Option (PGT × PGT) := (SETX β n 4 0 0 4 (fun _ => none)).bind fun s => (LTSX β n s.1 s.2.2.1).bind fun k => some (k.2, s.2.2.2)
def T1F {α : Type} (K : (Int → Int) → Int → Option α) (β : Int → Int) (n : Int) : Option α := (EXF β n 0).bind fun p => if n - p < 4 then none else (if HX4 (fun i => β (i + p)) then HX (fun i => β (i + p)) (n - p) else some (n - p, fun j => β (j + p))).bind fun q => K (DCR q.2 q.1) q.1
/-! bytes alike from a place on: the same programs -/
theorem pby_cg {β δ : Int → Int} {a m lv : Int} (h : ∀ i, a ≤ i → β i = δ i) : PBY β a m lv = PBY δ a m lv := by
  have e : (fun j : Nat => Int32.ofInt (β (a + j))) = fun j : Nat => Int32.ofInt (δ (a + j)) := by
    funext j
    rw [h (a + j) (by omega)]
  unfold PBY
  rw [e]
theorem cntl_tld {β : Int → Int} {n p : Int} {t : Int × Int} (h : TLD β n p = some t) : 0 ≤ t.1 := by
  unfold TLD at h
  cases hW : WRD β n p with
  | none => rw [hW] at h; exact absurd h (by simp)
  | some w =>
    rw [hW, Option.bind_some] at h
    have hr := cntl_rng (β := β) (b := w.2) _ w.1 0 (rfl : (w.2 - w.1).toNat = _) (by omega)
    split at h
    · exact absurd h (by simp)
    · have e := Option.some.inj h
      rw [← e]
      show 0 ≤ CNTL β w.2 w.1 0
      omega
theorem prgx_rng {β : Int → Int} {n p : Int} {q : Int × Int} (h : PRGX β n p = some q) : p < q.1 - q.2 ∧ q.1 ≤ n ∧ 0 ≤ q.2 ∧ p < q.1 := by
  unfold PRGX at h
  cases hT : TLD β n p with
  | none => rw [hT] at h; exact absurd h (by simp)
  | some t =>
    have r1 := tld_rng hT
    have r3 := cntl_tld hT
    rw [hT, Option.bind_some] at h
    cases hW : WRD β n t.2 with
    | none => rw [hW] at h; exact absurd h (by simp)
    | some w =>
      have r2 := wrd_rng hW
      rw [hW, Option.bind_some] at h
      split at h
      · rename_i hc
        have e := Option.some.inj h
        rw [← e]
        refine ⟨?_, hc.2, r3, ?_⟩
        · show p < w.2 + 1 + t.1 - t.1
          omega
        · show p < w.2 + 1 + t.1
          omega
      · exact absurd h (by simp)
theorem prgx_cg {β δ : Int → Int} {n p : Int} (h : ∀ i, p ≤ i → β i = δ i) : PRGX β n p = PRGX δ n p := by
  unfold PRGX
  rw [tld_cg h]
  cases hT : TLD δ n p with
  | none => rfl
  | some t =>
    have r1 := tld_rng hT
    rw [Option.bind_some, Option.bind_some, wrd_cg (fun i hi => h i (by omega))]
    cases hW : WRD δ n t.2 with
    | none => rfl
    | some w =>
      have r2 := wrd_rng hW
      rw [Option.bind_some, Option.bind_some]
      exact ite_iff (by rw [iw_cg (W := wRd) (fun i hi => h i (by omega)), iw_cg (W := wBar) (fun i hi => h i (by omega))]) _ _
theorem locx_rng {β : Int → Int} {n p c : Int} {q : Int × Int × Int} (h : LOCX β n p c = some q) : q.2.1 = -1 ∨ (p ≤ q.1 - q.2.2 ∧ q.1 ≤ n ∧ 0 ≤ q.2.2) := by
  unfold LOCX at h
  cases hW : WRD β n p with
  | none => rw [hW] at h; exact absurd h (by simp)
  | some w =>
    have r2 := wrd_rng hW
    rw [hW, Option.bind_some] at h
    split at h
    · have e := Option.some.inj h
      rw [← e]
      exact Or.inl rfl
    · split at h
      · cases hP : PRGX β n w.2 with
        | none => rw [hP] at h; exact absurd h (by simp)
        | some v =>
          have r3 := prgx_rng hP
          rw [hP, Option.bind_some] at h
          have e := Option.some.inj h
          rw [← e]
          refine Or.inr ⟨?_, r3.2.1, r3.2.2.1⟩
          show p ≤ v.1 - v.2
          omega
      · exact absurd h (by simp)
theorem locx_cg {β δ : Int → Int} {n p c : Int} (h : ∀ i, p ≤ i → β i = δ i) : LOCX β n p c = LOCX δ n p c := by
  unfold LOCX
  rw [wrd_cg h]
  cases hW : WRD δ n p with
  | none => rfl
  | some w =>
    have r2 := wrd_rng hW
    rw [Option.bind_some, Option.bind_some, cnt_cg _ w.1 0 rfl (fun i hi => h i (by omega)), prgx_cg (fun i hi => h i (by omega))]
theorem lgu_cg {β δ : Int → Int} {lv p n c : Int} {G : PGT} {q : Int × Int × Int} (h : ∀ i, p ≤ i → β i = δ i) (e : LOCX δ n p c = some q) : LGU β lv G q = LGU δ lv G q := by
  unfold LGU
  rcases locx_rng e with h1 | ⟨h1, _⟩
  · rw [if_pos h1, if_pos h1]
  · rw [pby_cg (fun i hi => h i (by omega))]
theorem bnone {α γ : Type} (f : α → Option γ) : (none : Option α).bind f = none := rfl
theorem locl_cg {β δ : Int → Int} {n b k c lv : Int} {G : PGT} (hb : ∀ i, b ≤ i → β i = δ i) : ((LOCX β n b c).bind fun q => some ((0 : Int), q.1, k, c, lv, LGU β lv G q)) = (LOCX δ n b c).bind fun q => some ((0 : Int), q.1, k, c, lv, LGU δ lv G q) := by
  rw [locx_cg hb]
  cases hL : LOCX δ n b c with
  | none => rw [bnone, bnone]
  | some q => rw [Option.bind_some, Option.bind_some, lgu_cg hb hL]
theorem stpx_1 {β : Int → Int} {n a b h c lv : Int} {G : PGT} (h1 : IW β a b wChars) : STPX β n a b h c lv G = some (1, b, h, c, lv, G) := if_pos h1
theorem stpx_2 {β : Int → Int} {n a b h c lv : Int} {G : PGT} (h1 : ¬ IW β a b wChars) (h2 : IW β a b wLeniv) : STPX β n a b h c lv G = (TLD β n b).bind fun t => some (0, t.2, h, c, t.1, G) := (if_neg h1).trans (if_pos h2)
theorem stpx_3 {β : Int → Int} {n a b h c lv : Int} {G : PGT} (h1 : ¬ IW β a b wChars) (h2 : ¬ IW β a b wLeniv) (h3 : IW β a b wSubrs) : STPX β n a b h c lv G = (SUBR β n b).bind fun t => some (0, t.1, 1, t.2, lv, fun _ => none) := (if_neg h1).trans ((if_neg h2).trans (if_pos h3))
theorem stpx_4 {β : Int → Int} {n a b h c lv : Int} {G : PGT} (h1 : ¬ IW β a b wChars) (h2 : ¬ IW β a b wLeniv) (h3 : ¬ IW β a b wSubrs) (h4 : IW β a b wDup ∧ h = 1) : STPX β n a b h c lv G = (LOCX β n b c).bind fun q => some (0, q.1, h, c, lv, LGU β lv G q) := (if_neg h1).trans ((if_neg h2).trans ((if_neg h3).trans (if_pos h4)))
theorem stpx_5 {β : Int → Int} {n a b h c lv : Int} {G : PGT} (h1 : ¬ IW β a b wChars) (h2 : ¬ IW β a b wLeniv) (h3 : ¬ IW β a b wSubrs) (h4 : ¬ (IW β a b wDup ∧ h = 1)) : STPX β n a b h c lv G = some (0, b, h, c, lv, G) := (if_neg h1).trans ((if_neg h2).trans ((if_neg h3).trans (if_neg h4)))
theorem stpx_cg {β δ : Int → Int} {n a b k c lv : Int} {G : PGT} (hab : a ≤ b) (h : ∀ i, a ≤ i → β i = δ i) : STPX β n a b k c lv G = STPX δ n a b k c lv G := by
  have hb : ∀ i, b ≤ i → β i = δ i := fun i hi => h i (by omega)
  have e : ∀ W : List Int, IW β a b W ↔ IW δ a b W := fun W => iw_cg h
  by_cases h1 : IW δ a b wChars
  · exact (stpx_1 ((e _).mpr h1)).trans (stpx_1 h1).symm
  · have k1 : ¬ IW β a b wChars := fun h9 => h1 ((e _).mp h9)
    by_cases h2 : IW δ a b wLeniv
    · rw [stpx_2 k1 ((e _).mpr h2), stpx_2 h1 h2, tld_cg hb]
    · have k2 : ¬ IW β a b wLeniv := fun h9 => h2 ((e _).mp h9)
      by_cases h3 : IW δ a b wSubrs
      · rw [stpx_3 k1 k2 ((e _).mpr h3), stpx_3 h1 h2 h3, subr_cg hb]
      · have k3 : ¬ IW β a b wSubrs := fun h9 => h3 ((e _).mp h9)
        by_cases h4 : IW δ a b wDup ∧ k = 1
        · rw [stpx_4 k1 k2 k3 ⟨(e _).mpr h4.1, h4.2⟩, stpx_4 h1 h2 h3 h4]
          exact locl_cg hb
        · have k4 : ¬ (IW β a b wDup ∧ k = 1) := fun h9 => h4 ⟨(e _).mp h9.1, h9.2⟩
          exact (stpx_5 k1 k2 k3 k4).trans (stpx_5 h1 h2 h3 h4).symm
theorem letx_rng {β : Int → Int} {n a b k : Int} {q : Int × Int × Int} (h : LETX β n a b k = some q) : b < q.2.1 - q.2.2 ∧ q.2.1 < q.1 ∧ q.1 ≤ n ∧ 0 ≤ q.2.2 := by
  unfold LETX at h
  split at h
  · cases hP : PRGX β n b with
    | none => rw [hP] at h; exact absurd h (by simp)
    | some v =>
      have r1 := prgx_rng hP
      rw [hP, Option.bind_some] at h
      cases hW : WRD β n v.1 with
      | none => rw [hW] at h; exact absurd h (by simp)
      | some w =>
        have r2 := wrd_rng hW
        rw [hW, Option.bind_some] at h
        have e := Option.some.inj h
        rw [← e]
        refine ⟨r1.1, ?_, r2.2.2, r1.2.2.1⟩
        show v.1 < w.2
        omega
  · exact absurd h (by simp)
theorem letx_cg {β δ : Int → Int} {n a b k : Int} (hab : a ≤ b) (h : ∀ i, a ≤ i → β i = δ i) : LETX β n a b k = LETX δ n a b k := by
  unfold LETX
  rw [h a (by omega), prgx_cg (fun i hi => h i (by omega))]
  cases hP : PRGX δ n b with
  | none => rfl
  | some v =>
    have r1 := prgx_rng hP
    rw [Option.bind_some, Option.bind_some, wrd_cg (fun i hi => h i (by omega))]
theorem setx_u {β : Int → Int} {n p h c lv : Int} {G : PGT} {w : Int × Int} (hW : WRD β n p = some w) : SETX β n p h c lv G = (match STPX β n w.1 w.2 h c lv G with
    | none => none
    | some q => if q.1 = 1 then some (q.2.1, q.2.2.2.1, q.2.2.2.2.1, q.2.2.2.2.2) else if p < q.2.1 ∧ p < n then SETX β n q.2.1 q.2.2.1 q.2.2.2.1 q.2.2.2.2.1 q.2.2.2.2.2 else none) := by rw [SETX, hW]
theorem setx_n {β : Int → Int} {n p h c lv : Int} {G : PGT} (hW : WRD β n p = none) : SETX β n p h c lv G = none := by rw [SETX, hW]
theorem setx_go {β : Int → Int} {n p a b h c lv q h2 c2 lv2 : Int} {G G2 : PGT} (hW : WRD β n p = some (a, b)) (hS : STPX β n a b h c lv G = some (0, q, h2, c2, lv2, G2)) (hq : p < q) (hn : p < n) : SETX β n p h c lv G = SETX β n q h2 c2 lv2 G2 := by
  rw [setx_u hW]
  show (match STPX β n a b h c lv G with
    | none => none
    | some q => if q.1 = 1 then some (q.2.1, q.2.2.2.1, q.2.2.2.2.1, q.2.2.2.2.2) else if p < q.2.1 ∧ p < n then SETX β n q.2.1 q.2.2.1 q.2.2.2.1 q.2.2.2.2.1 q.2.2.2.2.2 else none) = _
  rw [hS]
  show (if (0 : Int) = 1 then _ else if p < q ∧ p < n then SETX β n q h2 c2 lv2 G2 else none) = _
  rw [if_neg (by decide), if_pos ⟨hq, hn⟩]
theorem setx_over {β : Int → Int} {n p a b h c lv : Int} {G : PGT} (hW : WRD β n p = some (a, b)) (hI : IW β a b wChars) : SETX β n p h c lv G = some (b, c, lv, G) := by
  rw [setx_u hW]
  have hS : STPX β n a b h c lv G = some (1, b, h, c, lv, G) := if_pos hI
  show (match STPX β n a b h c lv G with
    | none => none
    | some q => if q.1 = 1 then some (q.2.1, q.2.2.2.1, q.2.2.2.2.1, q.2.2.2.2.2) else if p < q.2.1 ∧ p < n then SETX β n q.2.1 q.2.2.1 q.2.2.2.1 q.2.2.2.2.1 q.2.2.2.2.2 else none) = _
  rw [hS]
  exact if_pos rfl
theorem ltrx_u {β : Int → Int} {n p k lv : Int} {G : PGT} {w : Int × Int} (hW : WRD β n p = some w) : LTRX β n p k lv G = if IW β w.1 w.2 wOver then some (k, G) else (match LETX β n w.1 w.2 k with
    | none => none
    | some q => if p < q.1 ∧ p < n then LTRX β n q.1 (k + 1) lv (TUP G k (PBY β (q.2.1 - q.2.2) q.2.2 lv)) else none) := by rw [LTRX, hW]
theorem ltrx_n {β : Int → Int} {n p k lv : Int} {G : PGT} (hW : WRD β n p = none) : LTRX β n p k lv G = none := by rw [LTRX, hW]
theorem ltrx_go {β : Int → Int} {n p a b k k2 lv q z m : Int} {G : PGT} (hW : WRD β n p = some (a, b)) (hI : ¬ IW β a b wOver) (hL : LETX β n a b k = some (q, z, m)) (hq : p < q) (hn : p < n) (ek : k2 = k + 1) : LTRX β n p k lv G = LTRX β n q k2 lv (TUP G k (PBY β (z - m) m lv)) := by
  rw [ltrx_u hW, if_neg hI, ek]
  show (match LETX β n a b k with
    | none => none
    | some q => if p < q.1 ∧ p < n then LTRX β n q.1 (k + 1) lv (TUP G k (PBY β (q.2.1 - q.2.2) q.2.2 lv)) else none) = _
  rw [hL]
  exact if_pos ⟨hq, hn⟩
theorem ltrx_over {β : Int → Int} {n p a b k lv : Int} {G : PGT} (hW : WRD β n p = some (a, b)) (hI : IW β a b wOver) : LTRX β n p k lv G = some (k, G) := by rw [ltrx_u hW, if_pos hI]
theorem ltrx_cg {β δ : Int → Int} {n lv : Int} : ∀ (m : Nat) (p k : Int) (G : PGT), (n - p).toNat ≤ m → (∀ i, p ≤ i → β i = δ i) → LTRX β n p k lv G = LTRX δ n p k lv G := by
  intro m
  induction m with
  | zero =>
    intro p k G hm h
    have e : ∀ γ : Int → Int, LTRX γ n p k lv G = none := fun γ => by
      cases hW : WRD γ n p with
      | none => exact ltrx_n hW
      | some w => have := wrd_rng hW; omega
    rw [e, e]
  | succ m ih =>
    intro p k G hm h
    cases hW : WRD δ n p with
    | none =>
      have hW2 : WRD β n p = none := by rw [wrd_cg h]; exact hW
      rw [ltrx_n hW2, ltrx_n hW]
    | some w =>
      have hW2 : WRD β n p = some w := by rw [wrd_cg h]; exact hW
      have r := wrd_rng hW
      rw [ltrx_u hW2, ltrx_u hW, letx_cg (by omega) (fun i hi => h i (by omega)), ite_iff (iw_cg (fun i hi => h i (by omega)))]
      cases hL : LETX δ n w.1 w.2 k with
      | none => rfl
      | some q =>
        have r2 := letx_rng hL
        show (if _ then _ else if p < q.1 ∧ p < n then LTRX β n q.1 (k + 1) lv (TUP G k (PBY β (q.2.1 - q.2.2) q.2.2 lv)) else none) = (if _ then _ else if p < q.1 ∧ p < n then LTRX δ n q.1 (k + 1) lv (TUP G k (PBY δ (q.2.1 - q.2.2) q.2.2 lv)) else none)
        rw [pby_cg (fun i hi => h i (by omega)), ih q.1 (k + 1) _ (by omega) (fun i hi => h i (by omega))]
theorem ltsx_cg {β δ : Int → Int} {n p lv : Int} (h : ∀ i, p ≤ i → β i = δ i) : LTSX β n p lv = LTSX δ n p lv := by
  unfold LTSX
  rw [tld_cg h]
  cases hT : TLD δ n p with
  | none => rfl
  | some t =>
    have r1 := tld_rng hT
    rw [Option.bind_some, Option.bind_some, exw_cg (fun i hi => h i (by omega))]
    cases h1 : EXW δ n t.2 wDict with
    | none => rfl
    | some q1 =>
      have r2 := exw_rng h1
      rw [Option.bind_some, Option.bind_some, exw_cg (fun i hi => h i (by omega))]
      cases h2 : EXW δ n q1 wDup with
      | none => rfl
      | some q2 =>
        have r3 := exw_rng h2
        rw [Option.bind_some, Option.bind_some, exw_cg (fun i hi => h i (by omega))]
        cases h3 : EXW δ n q2 wBegin with
        | none => rfl
        | some q3 =>
          have r4 := exw_rng h3
          rw [Option.bind_some, Option.bind_some, ltrx_cg _ q3 0 _ (Nat.le_refl _) (fun i hi => h i (by omega))]
theorem setx_cg {β δ : Int → Int} {n : Int} : ∀ (m : Nat) (p h c lv : Int) (G : PGT), (n - p).toNat ≤ m → (∀ i, p ≤ i → β i = δ i) → SETX β n p h c lv G = SETX δ n p h c lv G := by
  intro m
  induction m with
  | zero =>
    intro p h c lv G hm hb
    have e : ∀ γ : Int → Int, SETX γ n p h c lv G = none := fun γ => by
      cases hW : WRD γ n p with
      | none => exact setx_n hW
      | some w => have := wrd_rng hW; omega
    rw [e, e]
  | succ m ih =>
    intro p h c lv G hm hb
    cases hW : WRD δ n p with
    | none =>
      have hW2 : WRD β n p = none := by rw [wrd_cg hb]; exact hW
      rw [setx_n hW2, setx_n hW]
    | some w =>
      have hW2 : WRD β n p = some w := by rw [wrd_cg hb]; exact hW
      have r := wrd_rng hW
      rw [setx_u hW2, setx_u hW, stpx_cg (by omega) (fun i hi => hb i (by omega))]
      cases hS : STPX δ n w.1 w.2 h c lv G with
      | none => rfl
      | some q =>
        show (if q.1 = 1 then _ else if p < q.2.1 ∧ p < n then SETX β n q.2.1 q.2.2.1 q.2.2.2.1 q.2.2.2.2.1 q.2.2.2.2.2 else none) = (if q.1 = 1 then _ else if p < q.2.1 ∧ p < n then SETX δ n q.2.1 q.2.2.1 q.2.2.2.1 q.2.2.2.2.1 q.2.2.2.2.2 else none)
        by_cases hq : p < q.2.1 ∧ p < n
        · rw [ih _ _ _ _ _ (by omega) (fun i hi => hb i (by omega))]
        · rw [if_neg hq, if_neg hq]
