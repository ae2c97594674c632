/-! Type 1: what opens the text (p5) -/
def EXF (β : Int → Int) (n p : Int) : Option Int := if p + 6 ≤ n then (if WAT β p wEexec ∧ BL (β (p + 5)) then some (p + 6) else EXF β n (p + 1)) else none
termination_by (n - p).toNat
decreasing_by omega
def RSM (r : Int) (O : Option Int) : Prop := (0 ≤ r ∧ O = some r) ∨ (r = -1 ∧ O = none)
theorem exf_step {β : Int → Int} {n p p2 : Int} {O : Option Int} (h : EQP O (EXF β n p)) (hp : p + 6 ≤ n) (hx : ¬ (WAT β p wEexec ∧ BL (β (p + 5)))) (e : p2 = p + 1) : EQP O (EXF β n p2) := by
  unfold EQP at h ⊢
  rw [h, EXF, if_pos hp, if_neg hx, e]
theorem exf_x1 {β : Int → Int} {p s : Int} (i : ISB s (WAT β p wEexec)) (hs : s = 0) : ¬ (WAT β p wEexec ∧ BL (β (p + 5))) := fun h => isb_0 i (by omega) h.1
theorem exf_x2 {β : Int → Int} {p s c : Int} (i : ISB s (BL c)) (hs : s = 0) (hc : c = β (p + 5)) : ¬ (WAT β p wEexec ∧ BL (β (p + 5))) := fun h => isb_0 i (by omega) (hc ▸ h.2)
theorem exf_no {β : Int → Int} {n p r : Int} {O : Option Int} (h : EQP O (EXF β n p)) (hp : ¬ (p + 6 ≤ n)) (hr : r = -1) : RSM r O := by
  unfold EQP at h
  rw [EXF, if_neg hp] at h
  exact Or.inr ⟨hr, h⟩
theorem exf_yes {β : Int → Int} {n p r s t c : Int} {O : Option Int} (h : EQP O (EXF β n p)) (hp : p + 6 ≤ n) (i : ISB s (WAT β p wEexec)) (hs : ¬ (s = 0)) (j : ISB t (BL c)) (ht : ¬ (t = 0)) (hc : c = β (p + 5)) (hr : r = p + 6) (h0 : 0 ≤ r) : RSM r O := by
  unfold EQP at h
  rw [EXF, if_pos hp, if_pos ⟨isb_1 i hs, hc ▸ isb_1 j ht⟩] at h
  exact Or.inl ⟨h0, by rw [h, hr]⟩
abbrev HX4 (β : Int → Int) : Prop := ∀ j : Nat, j < 4 → ¬ (DGT (β j) = -1)
def DPF (β : Int → Int) (i : Int) : Prop := ∀ j : Nat, j < i.toNat → ¬ (DGT (β j) = -1)
theorem dpf_0 {β : Int → Int} : DPF β 0 := fun j h => absurd h (Nat.not_lt_zero j)
theorem dpf_step {β : Int → Int} {i i2 r c y : Int} (h : DPF β i) (h0 : 0 ≤ i) (e : i2 = i + 1) (hd : EQP r (DGT c)) (hc : c = β y) (hy : y = i) (hr : ¬ (r = -1)) : DPF β i2 := by
  intro j hj
  by_cases h9 : j < i.toNat
  · exact h j h9
  · unfold EQP at hd
    have : (j : Int) = i := by omega
    rw [this, ← hy, ← hc, ← hd]
    exact hr
theorem hx4_yes {β : Int → Int} {i r : Int} (h : DPF β i) (hi : 4 ≤ i) (hr : r = 1) : ISB r (HX4 β) := Or.inl ⟨hr, fun j hj => h j (by omega)⟩
theorem hx4_no {β : Int → Int} {i r d c y : Int} (h0 : 0 ≤ i) (hi : i < 4) (hd : EQP d (DGT c)) (hc : c = β y) (hy : y = i) (hdr : d = -1) (hr : r = 0) : ISB r (HX4 β) := by
  refine Or.inr ⟨hr, fun h => h i.toNat (by omega) ?_⟩
  unfold EQP at hd
  rw [show ((i.toNat : Nat) : Int) = y by omega, ← hc, ← hd]
  exact hdr
def HXD (β : Int → Int) : Nat → Option (Int × Int × (Nat → Int))
  | 0 => some (0, 0, fun _ => 0)
  | k + 1 => (HXD β k).bind fun s => if DGT (β k) = -1 then (if BL (β k) then some s else none) else if s.1 % 2 = 0 then some (s.1 + 1, DGT (β k), s.2.2) else some (s.1 + 1, s.2.1, fun j => if j = (s.1 / 2).toNat then s.2.1 * 16 + DGT (β k) else s.2.2 j)
theorem hxd_none {β : Int → Int} {k : Nat} (h : HXD β k = none) : ∀ m : Nat, HXD β (k + m) = none := by
  intro m
  induction m with
  | zero => exact h
  | succ m ih =>
    show (HXD β (k + m)).bind _ = none
    rw [ih]
    rfl
theorem hxd_cg {β δ : Int → Int} (h : ∀ i, 0 ≤ i → β i = δ i) : ∀ k : Nat, HXD β k = HXD δ k := by
  intro k
  induction k with
  | zero => rfl
  | succ k ih =>
    show (HXD β k).bind _ = (HXD δ k).bind _
    rw [ih, h k (by omega)]
def HX (β : Int → Int) (n : Int) : Option (Int × (Nat → Int)) := (HXD β n.toNat).bind fun s => if s.1 % 2 = 0 then some (s.1 / 2, s.2.2) else none
def HXI (f0 : Nat → Int32) (n : Int) (fc : Nat → Int32) (i d u : Int) : Prop := ∃ R, HXD (GB f0 n) i.toNat = some (d, u, R) ∧ (∀ j : Nat, (j : Int) < d / 2 → Int32.toInt (fc j &&& 255) = R j) ∧ (∀ j : Nat, i ≤ j → fc j = f0 j)
theorem hxi_0 {f0 : Nat → Int32} {n : Int} : HXI f0 n f0 0 0 0 := ⟨fun _ => 0, rfl, fun j h => absurd h (by omega), fun _ _ => rfl⟩
theorem hxi_gb {f0 fc : Nat → Int32} {n i d u : Int} {x z c : Int32} (h : HXI f0 n fc (Int32.toInt x) d u) (h0 : 0 ≤ Int32.toInt x) (hn : Int32.toInt x < n) (e : fc (Int32.toNatClampNeg x) = z) (e2 : z &&& 255 = c) : Int32.toInt c = GB f0 n (Int32.toInt x) := by
  obtain ⟨R, _, _, h3⟩ := h
  have hc : Int32.toNatClampNeg x = (Int32.toInt x).toNat := rfl
  rw [gb_in h0 hn, ← e2, ← e, hc, h3 _ (by omega)]
theorem hxi_a {f0 fc : Nat → Int32} {n i i2 d u c g : Int} (h : HXI f0 n fc i d u) (h0 : 0 ≤ i) (hc : c = GB f0 n i) (hg : EQP g (DGT c)) (hd : g = -1) (b : BL c) (e : i2 = i + 1) : HXI f0 n fc i2 d u := by
  obtain ⟨R, h1, h2, h3⟩ := h
  refine ⟨R, ?_, h2, fun j hj => h3 j (by omega)⟩
  unfold EQP at hg
  rw [show i2.toNat = i.toNat + 1 by omega]
  show (HXD (GB f0 n) i.toNat).bind _ = _
  rw [h1, Option.bind_some, show ((i.toNat : Nat) : Int) = i by omega, ← hc, ← hg, if_pos hd, if_pos b]
theorem hxi_b {f0 fc : Nat → Int32} {n i i2 d d2 u u2 c g : Int} (h : HXI f0 n fc i d u) (h0 : 0 ≤ i) (hd0 : 0 ≤ d) (hc : c = GB f0 n i) (hg : EQP g (DGT c)) (hd : ¬ (g = -1)) (ev : d % 2 = 0) (e : i2 = i + 1) (e2 : d2 = d + 1) (e3 : u2 = g) : HXI f0 n fc i2 d2 u2 := by
  obtain ⟨R, h1, h2, h3⟩ := h
  refine ⟨R, ?_, fun j hj => h2 j (by omega), fun j hj => h3 j (by omega)⟩
  unfold EQP at hg
  rw [show i2.toNat = i.toNat + 1 by omega]
  show (HXD (GB f0 n) i.toNat).bind _ = _
  rw [h1, Option.bind_some, show ((i.toNat : Nat) : Int) = i by omega, ← hc, ← hg, if_neg hd, if_pos ev, e2, e3]
theorem and255_nn {x : Int32} (h : 0 ≤ Int32.toInt x) : Int32.toInt (x &&& 255) = Int32.toInt x % 256 := by
  obtain ⟨j, hj, rfl⟩ := nn_of h
  rw [nI_toInt hj, show (255 : Int32) = nI (2 ^ 8 - 1) from rfl, pk_andN (by omega) 8 (by decide), nI_toInt (by omega)]
  omega
theorem hxi_c {f0 fc f2 : Nat → Int32} {n i i2 d d2 u c g : Int} {w x b : Int32} (h : HXI f0 n fc i d u) (e6 : upd fc (Int32.toNatClampNeg w) (vp_nar .byte b) = f2) (e5 : (Int32.toInt8 x).toInt32 = b) (h0 : 0 ≤ i) (hd0 : 0 ≤ d) (hdi : d ≤ i) (hc : c = GB f0 n i) (hg : EQP g (DGT c)) (hd : ¬ (g = -1)) (od : ¬ (d % 2 = 0)) (e : i2 = i + 1) (e2 : d2 = d + 1) (hw : Int32.toInt w = d / 2) (hx : Int32.toInt x = u * 16 + g) (hx0 : 0 ≤ u * 16 + g) (hx1 : u * 16 + g ≤ 255) : HXI f0 n f2 i2 d2 u := by
  obtain ⟨R, h1, h2, h3⟩ := h
  have ew : Int32.toNatClampNeg w = (d / 2).toNat := by show (Int32.toInt w).toNat = _; rw [hw]
  rw [ew] at e6
  unfold EQP at hg
  refine ⟨fun j => if j = (d / 2).toNat then u * 16 + g else R j, ?_, fun j hj => ?_, fun j hj => ?_⟩
  · rw [show i2.toNat = i.toNat + 1 by omega]
    show (HXD (GB f0 n) i.toNat).bind _ = _
    rw [h1, Option.bind_some, show ((i.toNat : Nat) : Int) = i by omega, ← hc, ← hg, if_neg hd, if_neg od, e2]
  · rw [← e6, upd_eq]
    show _ = if j = (d / 2).toNat then u * 16 + g else R j
    by_cases hj2 : j = (d / 2).toNat
    · rw [if_pos hj2, if_pos hj2, ← e5]
      have e9 := st8_and x
      unfold st8 at e9
      rw [e9, and255_nn (by omega), hx]
      omega
    · rw [if_neg hj2, if_neg hj2]
      exact h2 j (by omega)
  · rw [← e6, upd_eq, if_neg (by omega)]
    exact h3 j (by omega)
theorem hx_bad {f0 fc : Nat → Int32} {n i d u c g s r : Int} {P : Int × (Nat → Int) → Prop} (h : HXI f0 n fc i d u) (h0 : 0 ≤ i) (hn : i < n) (hc : c = GB f0 n i) (hg : EQP g (DGT c)) (hd : g = -1) (b : ISB s (BL c)) (hs : s = 0) (hr : r = 0) : BSQ r (HX (GB f0 n) n) P := by
  obtain ⟨R, h1, _, _⟩ := h
  unfold EQP at hg
  have h2 : HXD (GB f0 n) (i.toNat + 1) = none := by
    show (HXD (GB f0 n) i.toNat).bind _ = _
    rw [h1, Option.bind_some, show ((i.toNat : Nat) : Int) = i by omega, ← hc, ← hg, if_pos hd, if_neg (isb_0 b (by omega))]
  have h3 := hxd_none h2 (n.toNat - (i.toNat + 1))
  rw [show i.toNat + 1 + (n.toNat - (i.toNat + 1)) = n.toNat by omega] at h3
  refine Or.inr ⟨hr, ?_⟩
  unfold HX
  rw [h3]
  rfl
def RWB (f : Nat → Int32) (n : Int) (q : Int × (Nat → Int)) : Prop := q.1 = n ∧ ∀ j : Nat, (j : Int) < n → Int32.toInt (f j &&& 255) = q.2 j
theorem hx_end {f0 fc : Nat → Int32} {n i d u r n1 : Int} (h : HXI f0 n fc i d u) (hi : i = n) (h0 : 0 ≤ i) (e : n1 = d / 2) (hr : (r = 1 ∧ d % 2 = 0) ∨ (r = 0 ∧ ¬ (d % 2 = 0))) : BSQ r (HX (GB f0 n) n) (RWB fc n1) := by
  obtain ⟨R, h1, h2, _⟩ := h
  unfold HX
  rw [← hi, hi, hi] at *
  rw [h1, Option.bind_some]
  rcases hr with ⟨h3, h4⟩ | ⟨h3, h4⟩
  · rw [if_pos h4]
    exact Or.inl ⟨h3, _, rfl, e.symm, fun j hj => h2 j (by omega)⟩
  · rw [if_neg h4]
    exact Or.inr ⟨h3, rfl⟩
def DCR (R : Nat → Int) (N : Int) : Int → Int := GB (dec (fun j => Int32.ofInt (R j)) 55665 N.toNat).1 N
def T1 (β : Int → Int) (n : Int) : Option (Int × Int) := (EXF β n 0).bind fun p => if n - p < 4 then none else (if HX4 (fun i => β (i + p)) then HX (fun i => β (i + p)) (n - p) else some (n - p, fun j => β (j + p))).bind fun q => TXT (DCR q.2 q.1) q.1
theorem dec_cg {f g : Nat → Int32} {k : Int32} {T : Nat} (hk : 0 ≤ k.toInt ∧ k.toInt ≤ 65535) (h : E8 f g T) : E8 (dec f k T).1 (dec g k T).1 T := by
  intro j hj
  have a := plain_E8 (fo := f) (go := f) (n := 0) hk h j (by omega)
  have b := plain_E8 (fo := f) (go := f) (n := 0) hk (fun j _ => rfl : E8 g g T) j (by omega)
  have e1 := cpy_in (f := f) (n := 0) (o := (dec f k T).1) (a := 0) (T - 0) j (by omega)
  have e2 := cpy_in (f := f) (n := 0) (o := (dec g k T).1) (a := 0) (T - 0) j (by omega)
  rw [Nat.zero_add] at e1 e2
  rw [e1, st8_low] at a
  rw [e2, st8_low] at b
  rw [a, b]
theorem rwb_e8 {f : Nat → Int32} {n : Int} {q : Int × (Nat → Int)} (h : RWB f n q) : E8 f (fun j => Int32.ofInt (q.2 j)) n.toNat := by
  intro j hj
  have e := h.2 j (by omega)
  have e2 : Int32.ofInt (q.2 j) = f j &&& 255 := by rw [← e]; exact Int32.ofInt_toInt _
  show f j &&& 255 = Int32.ofInt (q.2 j) &&& 255
  rw [e2, and2]
theorem dcr_of {f f3 : Nat → Int32} {n : Int} {q : Int × (Nat → Int)} (h : RWB f n q) (e : f3 = (dec f 55665 (Int.toNat n)).1) : GB f3 n = DCR q.2 q.1 := by
  unfold DCR
  rw [h.1, e]
  exact gb_E8 (dec_cg (by decide) (rwb_e8 h))
theorem ltr_cg {β δ : Int → Int} {n : Int} : ∀ (m : Nat) (p k : Int), (n - p).toNat ≤ m → (∀ i, p ≤ i → β i = δ i) → LTR β n p k = LTR δ n p k := by
  intro m
  induction m with
  | zero =>
    intro p k hm h
    have e : ∀ γ : Int → Int, LTR γ n p k = none := fun γ => by
      cases hW : WRD γ n p with
      | none => rw [LTR, hW]
      | some w => have := wrd_rng hW; omega
    rw [e, e]
  | succ m ih =>
    intro p k hm h
    cases hW : WRD δ n p with
    | none =>
      have hW2 : WRD β n p = none := by rw [wrd_cg h]; exact hW
      rw [LTR, hW2, LTR, hW]
    | some w =>
      have hW2 : WRD β n p = some w := by rw [wrd_cg h]; exact hW
      have r := wrd_rng hW
      have e1 : LTR β n p k = if IW β w.1 w.2 wOver then (if 0 < k then some k else none) else (match LET β n w.1 w.2 k with
        | none => none
        | some q => if p < q ∧ p < n then LTR β n q (k + 1) else none) := by rw [LTR, hW2]; rfl
      have e2 : LTR δ n p k = if IW δ w.1 w.2 wOver then (if 0 < k then some k else none) else (match LET δ n w.1 w.2 k with
        | none => none
        | some q => if p < q ∧ p < n then LTR δ n q (k + 1) else none) := by rw [LTR, hW]; rfl
      rw [e1, e2, let_cg (by omega) (fun i hi => h i (by omega)), ite_iff (iw_cg (fun i hi => h i (by omega)))]
      cases hL : LET δ n w.1 w.2 k with
      | none => rfl
      | some q =>
        show (if _ then _ else if p < q ∧ p < n then LTR β n q (k + 1) else none) = (if _ then _ else if p < q ∧ p < n then LTR δ n q (k + 1) else none)
        by_cases hq : p < q ∧ p < n
        · rw [ih q (k + 1) (by omega) (fun i hi => h i (by omega))]
        · rw [if_neg hq, if_neg hq]
theorem lts_cg {β δ : Int → Int} {n p : Int} (h : ∀ i, p ≤ i → β i = δ i) : LTS β n p = LTS δ n p := by
  unfold LTS
  rw [tld_cg h]
  cases hT : TLD δ n p with
  | none => rfl
  | some t =>
    have r1 := tld_rng hT
    rw [Option.bind_some, Option.bind_some, exw_cg (fun i hi => h i (by omega))]
    cases h1 : EXW δ n t.2 wDict with
    | none => rfl
    | some q1 =>
      have r2 := exw_rng h1
      rw [Option.bind_some, Option.bind_some, exw_cg (fun i hi => h i (by omega))]
      cases h2 : EXW δ n q1 wDup with
      | none => rfl
      | some q2 =>
        have r3 := exw_rng h2
        rw [Option.bind_some, Option.bind_some, exw_cg (fun i hi => h i (by omega))]
        cases h3 : EXW δ n q2 wBegin with
        | none => rfl
        | some q3 =>
          have r4 := exw_rng h3
          rw [Option.bind_some, Option.bind_some, ltr_cg _ q3 0 (Nat.le_refl _) (fun i hi => h i (by omega))]
theorem txt_0 {β : Int → Int} {n p f : Int} {P R : Int × Int → Prop} (S : SEQ 0 f (SET β n p 0 0) P) (e : p = 4) (hf : ¬ (f = 0)) : SEQ 0 f (TXT β n) R := by
  subst e
  exact seq0_stop S hf hf
theorem txt_1 {f3 f4 : Nat → Int32} {n p f1 f q c k : Int} (S : SEQ 0 f1 (SET (GB f3 n) n p 0 0) (fun v => v = (q, c))) (e : p = 4) (h1 : f1 = 0) (A : AGR f4 f3 n q) (L : SEQ 0 f (LTS (GB f4 n) n q) (fun v => v = k)) : SEQ 0 f (TXT (GB f3 n) n) (fun v => v = (k, c)) := by
  subst e
  refine seq0_go S h1 (fun v _ hv => ?_)
  subst hv
  rw [lts_cg A] at L
  by_cases hf : f = 0
  · exact seq0_go L hf (fun v _ hv => by subst hv; exact seq0_ok _ hf rfl rfl)
  · exact seq0_stop L hf hf
theorem t1_no {β : Int → Int} {n p f : Int} {R : Int × Int → Prop} (X : RSM p (EXF β n 0)) (h : p = -1 ∨ n - p < 4) (hf : ¬ (f = 0)) : SEQ 0 f (T1 β n) R := by
  rcases X with ⟨h0, h1⟩ | ⟨_, h1⟩
  · unfold T1
    rw [h1, Option.bind_some, if_pos (by omega)]
    exact seq0_no hf rfl
  · unfold T1
    rw [h1]
    exact seq0_no hf rfl
theorem t1_go {f1 tf : Nat → Int32} {n p n1 f s : Int} {R : Int × Int → Prop} (X : RSM p (EXF (GB tf n) n 0)) (h : ¬ (p = -1)) (h4 : ¬ (n - p < 4)) (S : SHF f1 n1 tf n p) (en : n1 = n - p) (D : ISB s (HX4 (GB f1 n1))) (k : SEQ 0 f ((if s = 1 then HX (GB f1 n1) n1 else some (n1, fun j => GB f1 n1 j)).bind fun q => TXT (DCR q.2 q.1) q.1) R) : SEQ 0 f (T1 (GB tf n) n) R := by
  rcases X with ⟨h0, h1⟩ | ⟨h0, _⟩
  · have e4 : HX4 (fun i => GB tf n (i + p)) ↔ HX4 (GB f1 n1) := by
      constructor
      · intro g j hj; rw [S j (by omega)]; exact g j hj
      · intro g j hj
        have := g j hj
        rw [S j (by omega)] at this
        exact this
    have eH : HX (fun i => GB tf n (i + p)) (n - p) = HX (GB f1 n1) n1 := by
      unfold HX
      rw [hxd_cg (β := fun i => GB tf n (i + p)) (δ := GB f1 n1) (fun i hi => (S i hi).symm), en]
    have eF : (fun j : Nat => GB tf n (j + p)) = fun j : Nat => GB f1 n1 j := by
      funext j
      exact (S j (by omega)).symm
    unfold T1
    rw [h1, Option.bind_some, if_neg h4, eH, eF, ← en]
    rcases D with ⟨d1, d2⟩ | ⟨d1, d2⟩
    · rw [if_pos (e4.mpr d2)]
      rw [if_pos d1] at k
      exact k
    · rw [if_neg (fun h9 => d2 (e4.mp h9))]
      rw [if_neg (by omega)] at k
      exact k
  · exact absurd h0 h
theorem t1_hx0 {f1 : Nat → Int32} {n1 r f s : Int} {P : Int × (Nat → Int) → Prop} {R : Int × Int → Prop} (hs : s = 1) (H : BSQ r (HX (GB f1 n1) n1) P) (hr : r = 0) (hf : ¬ (f = 0)) : SEQ 0 f ((if s = 1 then HX (GB f1 n1) n1 else some (n1, fun j => GB f1 n1 j)).bind fun q => TXT (DCR q.2 q.1) q.1) R := by
  rw [if_pos hs]
  exact bsq_no H hr hf
theorem t1_hx1 {f1 f2 f3 : Nat → Int32} {n1 n2 r f s : Int} {R : Int × Int → Prop} (hs : s = 1) (H : BSQ r (HX (GB f1 n1) n1) (RWB f2 n2)) (hr : ¬ (r = 0)) (e : f3 = (dec f2 55665 (Int.toNat n2)).1) (K : SEQ 0 f (TXT (GB f3 n2) n2) R) : SEQ 0 f ((if s = 1 then HX (GB f1 n1) n1 else some (n1, fun j => GB f1 n1 j)).bind fun q => TXT (DCR q.2 q.1) q.1) R := by
  rw [if_pos hs]
  refine bsq_yes H hr (fun q hq => ?_)
  rw [← dcr_of hq e, hq.1]
  exact K
theorem t1_raw {f1 f3 : Nat → Int32} {n1 f s : Int} {R : Int × Int → Prop} (hs : s = 0) (e : f3 = (dec f1 55665 (Int.toNat n1)).1) (K : SEQ 0 f (TXT (GB f3 n1) n1) R) : SEQ 0 f ((if s = 1 then HX (GB f1 n1) n1 else some (n1, fun j => GB f1 n1 j)).bind fun q => TXT (DCR q.2 q.1) q.1) R := by
  rw [if_neg (by omega), Option.bind_some]
  have hq : RWB f1 n1 (n1, fun j : Nat => GB f1 n1 j) := ⟨rfl, fun j hj => by
    show _ = GB f1 n1 j
    rw [gb_in (by omega) hj]
    rfl⟩
  rw [← dcr_of hq e]
  exact K
