/-! what opens the text, as the reference does it (p5) -/
theorem mpl_cg {g1 g2 go : Nat → Int32} {n : Nat} {k : Int32} : ∀ j : Nat, (∀ i, i < j → g1 i = g2 i) → mpl g1 n go k j = mpl g2 n go k j := by
  intro j
  induction j with
  | zero => intro _; rfl
  | succ j ih =>
    intro h
    have e := ih (fun i hi => h i (by omega))
    show (if j < n then (mpl g1 n go k j).1 else upd (mpl g1 n go k j).1 (j - n) (st8 (cs (g1 j &&& 255) (mpl g1 n go k j).2)), nk (g1 j &&& 255) (mpl g1 n go k j).2) = (if j < n then (mpl g2 n go k j).1 else upd (mpl g2 n go k j).1 (j - n) (st8 (cs (g2 j &&& 255) (mpl g2 n go k j).2)), nk (g2 j &&& 255) (mpl g2 n go k j).2)
    rw [e, h j (by omega)]
def OI (R : Nat → Int) : Nat → Int32 := fun i => Int32.ofInt (R i)
def RWS (hx : Int) (σ : Int → Int) (j : Nat) : Option (Int × Int × (Nat → Int)) := if hx = 1 then (HXD σ j).bind fun s => some (s.1 / 2, if s.1 % 2 = 1 then s.2.1 else -1, s.2.2) else some (j, -1, fun i => σ i)
def MOL (hx : Int) (σ : Int → Int) (j n hf : Int) (t0 t : Nat → Int32) (key : Int32) : Prop := ∃ R, RWS hx σ j.toNat = some (n, hf, R) ∧ (t = (mpl (OI R) 4 t0 55665 n.toNat).1 ∧ key = (mpl (OI R) 4 t0 55665 n.toNat).2)
theorem dgt_rng (c : Int) : DGT c = -1 ∨ (0 ≤ DGT c ∧ DGT c ≤ 15) := by
  unfold DGT
  (repeat' split) <;> omega
theorem dgt_bl {c : Int} (h : BL c) : DGT c = -1 := by
  have h1 : c = 9 ∨ c = 10 ∨ c = 13 ∨ c = 32 := h
  unfold DGT
  (repeat' split) <;> omega
theorem hxd_u {σ : Int → Int} : ∀ (j : Nat) (s : Int × Int × (Nat → Int)), HXD σ j = some s → 0 ≤ s.1 ∧ (s.1 % 2 = 1 → 0 ≤ s.2.1) := by
  intro j
  induction j with
  | zero =>
    intro s h
    have e := Option.some.inj h
    rw [← e]
    exact ⟨Int.le_refl _, fun h9 => absurd h9 (by decide)⟩
  | succ j ih =>
    intro s h
    cases hk : HXD σ j with
    | none =>
      have h1 : (HXD σ j).bind _ = some s := h
      rw [hk] at h1
      exact absurd h1 (by simp)
    | some q =>
      obtain ⟨i1, i2⟩ := ih q hk
      have h1 : (HXD σ j).bind (fun s => if DGT (σ j) = -1 then (if BL (σ j) then some s else none) else if s.1 % 2 = 0 then some (s.1 + 1, DGT (σ j), s.2.2) else some (s.1 + 1, s.2.1, fun i => if i = (s.1 / 2).toNat then s.2.1 * 16 + DGT (σ j) else s.2.2 i)) = some s := h
      rw [hk, Option.bind_some] at h1
      have hd := dgt_rng (σ j)
      split at h1
      · split at h1
        · rw [← Option.some.inj h1]; exact ⟨i1, i2⟩
        · exact absurd h1 (by simp)
      · split at h1
        · rw [← Option.some.inj h1]
          exact ⟨by show 0 ≤ q.1 + 1; omega, fun _ => by show 0 ≤ DGT (σ j); omega⟩
        · rename_i hne hod
          rw [← Option.some.inj h1]
          exact ⟨by show 0 ≤ q.1 + 1; omega, fun h9 => by have h8 : (q.1 + 1) % 2 = 1 := h9; omega⟩
theorem hxd_s {σ : Int → Int} {j : Nat} {s : Int × Int × (Nat → Int)} (h : HXD σ j = some s) : HXD σ (j + 1) = if DGT (σ j) = -1 then (if BL (σ j) then some s else none) else if s.1 % 2 = 0 then some (s.1 + 1, DGT (σ j), s.2.2) else some (s.1 + 1, s.2.1, fun i => if i = (s.1 / 2).toNat then s.2.1 * 16 + DGT (σ j) else s.2.2 i) := by
  show (HXD σ j).bind _ = _
  rw [h, Option.bind_some]
theorem rws_h {σ : Int → Int} {hx n hf : Int} {j : Nat} {R : Nat → Int} (h : RWS hx σ j = some (n, hf, R)) (hh : hx = 1) : ∃ d u, HXD σ j = some (d, u, R) ∧ n = d / 2 ∧ hf = (if d % 2 = 1 then u else -1) ∧ 0 ≤ d ∧ (d % 2 = 1 → 0 ≤ u) := by
  unfold RWS at h
  rw [if_pos hh] at h
  cases hk : HXD σ j with
  | none => rw [hk] at h; exact absurd h (by simp)
  | some s =>
    rw [hk, Option.bind_some] at h
    have e := Option.some.inj h
    obtain ⟨i1, i2⟩ := hxd_u j s hk
    have e1 : s.1 / 2 = n := congrArg Prod.fst e
    have e2 : (if s.1 % 2 = 1 then s.2.1 else -1) = hf := congrArg (fun q => q.2.1) e
    have e3 : s.2.2 = R := congrArg (fun q => q.2.2) e
    exact ⟨s.1, s.2.1, by rw [← e3], e1.symm, e2.symm, i1, i2⟩
theorem rws_of {σ : Int → Int} {j : Nat} {d u : Int} {R : Nat → Int} (h : HXD σ j = some (d, u, R)) : RWS 1 σ j = some (d / 2, if d % 2 = 1 then u else -1, R) := by
  unfold RWS
  rw [if_pos rfl, h]
  rfl
theorem mol_0 {σ : Int → Int} {hx j : Int} {t : Nat → Int32} (hj : j = 0) : MOL hx σ j 0 (-1) t t 55665 := by
  subst hj
  by_cases hh : hx = 1
  · subst hh
    exact ⟨fun _ => 0, rws_of (d := 0) (u := 0) rfl, rfl, rfl⟩
  · refine ⟨fun i => σ i, ?_, rfl, rfl⟩
    unfold RWS
    rw [if_neg hh]
    rfl
theorem mol_raw {σ : Int → Int} {hx j n hf j2 n2 hf2 : Int} {t0 t t2 : Nat → Int32} {key key2 c x r b os : Int32} (h : MOL hx σ j n hf t0 t key) (hh : hx = 0) (h0 : 0 ≤ j) (ec : x &&& 255 = c) (hc : Int32.toInt c = σ j) (hr : r = cs c key) (hk : key2 = nk c key) (ht : (n < 4 ∧ t2 = t) ∨ (4 ≤ n ∧ (Int32.toInt8 r).toInt32 = b ∧ upd t (Int32.toNatClampNeg os) (vp_nar .byte b) = t2 ∧ Int32.toInt os = n - 4)) (ej : j2 = j + 1) (en : n2 = n + 1) (eh : hf2 = hf) : MOL hx σ j2 n2 hf2 t0 t2 key2 := by
  obtain ⟨R, h1, h2⟩ := h
  unfold RWS at h1
  rw [if_neg (by omega)] at h1
  have e := Option.some.inj h1
  have e1 : ((j.toNat : Nat) : Int) = n := congrArg Prod.fst e
  have e2 : (-1 : Int) = hf := congrArg (fun q => q.2.1) e
  have e3 : (fun i : Nat => σ i) = R := congrArg (fun q => q.2.2) e
  have hn : n.toNat = j.toNat := by omega
  have hcc : c = (OI R n.toNat &&& 255) := by
    have e4 : OI R n.toNat = c := by
      unfold OI
      rw [← e3, hn]
      show Int32.ofInt (σ ((j.toNat : Nat) : Int)) = c
      rw [show ((j.toNat : Nat) : Int) = j by omega, ← hc]
      exact Int32.ofInt_toInt c
    rw [e4, ← ec, and2]
  refine ⟨R, ?_, ?_⟩
  · unfold RWS
    rw [if_neg (by omega), ← e3, en, eh, ← e1, ← e2, show j2.toNat = j.toNat + 1 by omega]
    rfl
  · rcases ht with ⟨h3, h4⟩ | ⟨h3, h4, h5, h6⟩
    · rw [h4]
      exact mpl_skip h2 (by omega) hcc hk (by omega)
    · exact mpl_step h2 (by omega) hcc hr hk h4 h5 (by omega) (by omega)
theorem mol_bl {σ : Int → Int} {hx j n hf j2 c : Int} {t0 t : Nat → Int32} {key : Int32} (h : MOL hx σ j n hf t0 t key) (hh : hx = 1) (h0 : 0 ≤ j) (hc : c = σ j) (b : BL c) (ej : j2 = j + 1) : MOL hx σ j2 n hf t0 t key := by
  obtain ⟨R, h1, h2⟩ := h
  obtain ⟨d, u, g1, g2, g3, g4, g5⟩ := rws_h h1 hh
  refine ⟨R, ?_, h2⟩
  have e := hxd_s g1
  rw [show ((j.toNat : Nat) : Int) = j by omega, ← hc, if_pos (dgt_bl b), if_pos b] at e
  subst hh
  rw [show j2.toNat = j.toNat + 1 by omega, rws_of e, g2, g3]
theorem mol_half {σ : Int → Int} {hx j n hf j2 hf2 c g : Int} {t0 t : Nat → Int32} {key : Int32} (h : MOL hx σ j n hf t0 t key) (hh : hx = 1) (h0 : 0 ≤ j) (hc : c = σ j) (hg : EQP g (DGT c)) (hd : 0 ≤ g) (hf0 : hf < 0) (ej : j2 = j + 1) (eh : hf2 = g) : MOL hx σ j2 n hf2 t0 t key := by
  obtain ⟨R, h1, h2⟩ := h
  obtain ⟨d, u, g1, g2, g3, g4, g5⟩ := rws_h h1 hh
  unfold EQP at hg
  refine ⟨R, ?_, h2⟩
  have ev : d % 2 = 0 := by
    by_cases h9 : d % 2 = 1
    · rw [if_pos h9] at g3
      have := g5 h9
      omega
    · omega
  have e := hxd_s g1
  rw [show ((j.toNat : Nat) : Int) = j by omega, ← hc, ← hg, if_neg (by omega), if_pos ev] at e
  subst hh
  rw [show j2.toNat = j.toNat + 1 by omega, rws_of e, if_pos (by omega), g2, eh, show (d + 1) / 2 = d / 2 by omega]
theorem mol_full {σ : Int → Int} {hx j n hf j2 n2 hf2 c g : Int} {t0 t t2 : Nat → Int32} {key key2 x r b os : Int32} (h : MOL hx σ j n hf t0 t key) (hh : hx = 1) (h0 : 0 ≤ j) (hc : c = σ j) (hg : EQP g (DGT c)) (hd : 0 ≤ g) (hd2 : g ≤ 15) (hf0 : 0 ≤ hf) (hf1 : hf ≤ 15) (hx2 : Int32.toInt x = hf * 16 + g) (hr : r = cs x key) (hk : key2 = nk x key) (ht : (n < 4 ∧ t2 = t) ∨ (4 ≤ n ∧ (Int32.toInt8 r).toInt32 = b ∧ upd t (Int32.toNatClampNeg os) (vp_nar .byte b) = t2 ∧ Int32.toInt os = n - 4)) (ej : j2 = j + 1) (en : n2 = n + 1) (eh : hf2 = -1) : MOL hx σ j2 n2 hf2 t0 t2 key2 := by
  obtain ⟨R, h1, h2⟩ := h
  obtain ⟨d, u, g1, g2, g3, g4, g5⟩ := rws_h h1 hh
  unfold EQP at hg
  have od : d % 2 = 1 := by
    by_cases h9 : d % 2 = 1
    · exact h9
    · rw [if_neg h9] at g3
      omega
  rw [if_pos od] at g3
  have e := hxd_s g1
  rw [show ((j.toNat : Nat) : Int) = j by omega, ← hc, ← hg, if_neg (by omega), if_neg (by omega)] at e
  subst hh
  refine ⟨fun i => if i = (d / 2).toNat then u * 16 + g else R i, ?_, ?_⟩
  · rw [show j2.toNat = j.toNat + 1 by omega, rws_of e, if_neg (by omega), en, eh, g2, show (d + 1) / 2 = d / 2 + 1 by omega]
  · have cg : mpl (OI fun i => if i = (d / 2).toNat then u * 16 + g else R i) 4 t0 55665 n.toNat = mpl (OI R) 4 t0 55665 n.toNat := mpl_cg _ (fun i hi => by
      unfold OI
      show Int32.ofInt (if i = (d / 2).toNat then u * 16 + g else R i) = _
      rw [if_neg (by omega)])
    rw [← cg] at h2
    have hcc : x = (OI (fun i => if i = (d / 2).toNat then u * 16 + g else R i) n.toNat &&& 255) := by
      have e4 : OI (fun i => if i = (d / 2).toNat then u * 16 + g else R i) n.toNat = x := by
        unfold OI
        show Int32.ofInt (if n.toNat = (d / 2).toNat then u * 16 + g else R n.toNat) = x
        rw [if_pos (by rw [g2]), ← g3, ← hx2]
        exact Int32.ofInt_toInt x
      rw [e4]
      apply Int32.toInt_inj.mp
      rw [and255_m]
      omega
    rcases ht with ⟨h3, h4⟩ | ⟨h3, h4, h5, h6⟩
    · rw [h4]
      exact mpl_skip h2 (by omega) hcc hk (by omega)
    · exact mpl_step h2 (by omega) hcc hr hk h4 h5 (by omega) (by omega)
theorem stp_one {β : Int → Int} {n a b h c : Int} {q : Int × Int × Int × Int} (e : STP β n a b h c = some q) (hq : q.1 = 1) : q.2.1 = b := by
  unfold STP at e
  by_cases h1 : IW β a b wChars
  · rw [if_pos h1] at e
    rw [← Option.some.inj e]
  · rw [if_neg h1] at e
    exfalso
    by_cases h2 : IW β a b wLeniv
    · rw [if_pos h2] at e
      cases hT : TLD β n b with
      | none => rw [hT] at e; exact absurd e (by simp)
      | some t => rw [hT, Option.bind_some] at e; rw [← Option.some.inj e] at hq; exact absurd (show (0 : Int) = 1 from hq) (by decide)
    · rw [if_neg h2] at e
      by_cases h3 : IW β a b wSubrs
      · rw [if_pos h3] at e
        cases hT : SUBR β n b with
        | none => rw [hT] at e; exact absurd e (by simp)
        | some t => rw [hT, Option.bind_some] at e; rw [← Option.some.inj e] at hq; exact absurd (show (0 : Int) = 1 from hq) (by decide)
      · rw [if_neg h3] at e
        by_cases h4 : IW β a b wDup ∧ h = 1
        · rw [if_pos h4] at e
          cases hT : LOC β n b c with
          | none => rw [hT] at e; exact absurd e (by simp)
          | some t => rw [hT, Option.bind_some] at e; rw [← Option.some.inj e] at hq; exact absurd (show (0 : Int) = 1 from hq) (by decide)
        · rw [if_neg h4] at e
          rw [← Option.some.inj e] at hq
          exact absurd (show (0 : Int) = 1 from hq) (by decide)
theorem set_rng {β : Int → Int} {n : Int} : ∀ (m : Nat) (p h c : Int) (s : Int × Int), (n - p).toNat ≤ m → SET β n p h c = some s → p ≤ s.1 := by
  intro m
  induction m with
  | zero =>
    intro p h c s hm e
    cases hW : WRD β n p with
    | none => rw [SET, hW] at e; exact absurd e (by simp)
    | some w => have := wrd_rng hW; omega
  | succ m ih =>
    intro p h c s hm e
    cases hW : WRD β n p with
    | none => rw [SET, hW] at e; exact absurd e (by simp)
    | some w =>
      have r := wrd_rng hW
      rw [SET, hW] at e
      have e2 : (match STP β n w.1 w.2 h c with
        | none => none
        | some q => if q.1 = 1 then some (q.2.1, q.2.2.2) else if p < q.2.1 ∧ p < n then SET β n q.2.1 q.2.2.1 q.2.2.2 else none) = some s := e
      cases hS : STP β n w.1 w.2 h c with
      | none => rw [hS] at e2; exact absurd e2 (by simp)
      | some q =>
        rw [hS] at e2
        have e3 : (if q.1 = 1 then some (q.2.1, q.2.2.2) else if p < q.2.1 ∧ p < n then SET β n q.2.1 q.2.2.1 q.2.2.2 else none) = some s := e2
        by_cases hq : q.1 = 1
        · rw [if_pos hq] at e3
          have hb := stp_one hS hq
          rw [← Option.some.inj e3]
          show p ≤ q.2.1
          omega
        · rw [if_neg hq] at e3
          by_cases hp : p < q.2.1 ∧ p < n
          · rw [if_pos hp] at e3
            have := ih _ _ _ _ (by omega) e3
            omega
          · rw [if_neg hp] at e3
            exact absurd e3 (by simp)
theorem set_cg {β δ : Int → Int} {n : Int} : ∀ (m : Nat) (p h c : Int), (n - p).toNat ≤ m → (∀ i, p ≤ i → β i = δ i) → SET β n p h c = SET δ n p h c := by
  intro m
  induction m with
  | zero =>
    intro p h c hm hb
    have e : ∀ γ : Int → Int, SET γ n p h c = none := fun γ => by
      cases hW : WRD γ n p with
      | none => rw [SET, hW]
      | some w => have := wrd_rng hW; omega
    rw [e, e]
  | succ m ih =>
    intro p h c hm hb
    cases hW : WRD δ n p with
    | none =>
      have hW2 : WRD β n p = none := by rw [wrd_cg hb]; exact hW
      rw [SET, hW2, SET, hW]
    | some w =>
      have hW2 : WRD β n p = some w := by rw [wrd_cg hb]; exact hW
      have r := wrd_rng hW
      have e1 : SET β n p h c = (match STP β n w.1 w.2 h c with
        | none => none
        | some q => if q.1 = 1 then some (q.2.1, q.2.2.2) else if p < q.2.1 ∧ p < n then SET β n q.2.1 q.2.2.1 q.2.2.2 else none) := by rw [SET, hW2]; rfl
      have e2 : SET δ n p h c = (match STP δ n w.1 w.2 h c with
        | none => none
        | some q => if q.1 = 1 then some (q.2.1, q.2.2.2) else if p < q.2.1 ∧ p < n then SET δ n q.2.1 q.2.2.1 q.2.2.2 else none) := by rw [SET, hW]; rfl
      rw [e1, e2, stp_cg (by omega) (fun i hi => hb i (by omega))]
      cases hS : STP δ n w.1 w.2 h c with
      | none => rfl
      | some q =>
        show (if q.1 = 1 then _ else if p < q.2.1 ∧ p < n then SET β n q.2.1 q.2.2.1 q.2.2.2 else none) = (if q.1 = 1 then _ else if p < q.2.1 ∧ p < n then SET δ n q.2.1 q.2.2.1 q.2.2.2 else none)
        by_cases hq : p < q.2.1 ∧ p < n
        · rw [ih _ _ _ (by omega) (fun i hi => hb i (by omega))]
        · rw [if_neg hq, if_neg hq]
theorem txt_cg {β δ : Int → Int} {n : Int} (h : ∀ i, 4 ≤ i → β i = δ i) : TXT β n = TXT δ n := by
  unfold TXT
  rw [set_cg _ 4 0 0 (Nat.le_refl _) h]
  cases hS : SET δ n 4 0 0 with
  | none => rfl
  | some s =>
    have r := set_rng _ 4 0 0 s (Nat.le_refl _) hS
    rw [Option.bind_some, Option.bind_some, lts_cg (fun i hi => h i (by omega))]
theorem txt_sm {β : Int → Int} {n : Int} (h : n ≤ 4) : TXT β n = none := by
  unfold TXT
  have e : SET β n 4 0 0 = none := by
    cases hW : WRD β n 4 with
    | none => rw [SET, hW]
    | some w => have := wrd_rng hW; omega
  rw [e]
  rfl
theorem dcr_tb {R : Nat → Int} {n ts : Int} {t t0 : Nat → Int32} (ht : t = (mpl (OI R) 4 t0 55665 n.toNat).1) (h4 : 4 ≤ n) (e : ts = n - 4) : TXT (DCR R n) n = TXT (TB t ts) (ts + 4) := by
  rw [show ts + 4 = n by omega]
  refine txt_cg (fun i hi => ?_)
  unfold DCR TB GB
  by_cases hn : i < n
  · rw [if_pos ⟨by omega, hn⟩, if_pos ⟨by omega, by omega⟩, ht]
    have p := (plain_ind (ft := OI R) (gt := OI R) (go := t0) (n := 4) (T := n.toNat) (k := 55665) (by decide) (fun _ _ => rfl) n.toNat (Nat.le_refl _)).2.2.1 (i - 4).toNat (by omega)
    rw [show 4 + (i - 4).toNat = i.toNat by omega] at p
    have p2 : (dec (fun j => Int32.ofInt (R j)) 55665 n.toNat).1 i.toNat = (mpl (OI R) 4 t0 55665 n.toNat).1 (i - 4).toNat := p
    rw [p2]
  · rw [if_neg (by omega), if_neg (by omega)]
theorem isb_la {s : Int} {δ : Int → Int} {a : Int} {f : Nat → Int32} {n : Nat} {W : List Int} (h : ISB s (WAT δ a (LW f n))) (e : LW f n = W) : ISB s (WAT δ a W) := e ▸ h
theorem dgt_sg {g c : Int} (h : EQP g (DGT c)) (h0 : -128 ≤ c) (h1 : c ≤ 127) : EQP g (DGT (c % 256)) := by
  unfold EQP at h ⊢
  rw [h]
  unfold DGT
  (repeat' split) <;> omega
def SH (β : Int → Int) (p : Int) : Int → Int := fun i => β (i + p)
def HXB (hx : Int) (σ : Int → Int) (k : Int) : Prop := (hx = 1 ∧ DPF σ k) ∨ (hx = 0 ∧ ¬ HX4 σ)
theorem hxb_0 {σ : Int → Int} : HXB 1 σ 0 := Or.inl ⟨rfl, dpf_0⟩
theorem hxb_skip {hx hx2 k k2 : Int} {σ : Int → Int} (h : HXB hx σ k) (h0 : hx = 0) (e : hx2 = 0) : HXB hx2 σ k2 := by
  rcases h with ⟨h1, _⟩ | ⟨_, h1⟩
  · omega
  · exact Or.inr ⟨e, h1⟩
theorem hxb_step {hx hx2 k k2 g c : Int} {β : Int → Int} {p y : Int} (h : HXB hx (SH β p) k) (h1 : ¬ (hx = 0)) (h0 : 0 ≤ k) (h4 : k < 4) (e : k2 = k + 1) (hg : EQP g (DGT c)) (hc : c = β y) (hy : y = k + p) (hx2e : (hx2 = 1 ∧ 0 ≤ g) ∨ (hx2 = 0 ∧ g < 0)) : HXB hx2 (SH β p) k2 := by
  rcases h with ⟨_, h2⟩ | ⟨h2, _⟩
  · have hc2 : c = SH β p k := by unfold SH; rw [← hy]; exact hc
    have hr := dgt_rng c
    have hg2 : g = DGT c := hg
    rcases hx2e with ⟨a1, a2⟩ | ⟨a1, a2⟩
    · exact Or.inl ⟨a1, dpf_step h2 h0 e hg hc2 rfl (by omega)⟩
    · refine Or.inr ⟨a1, fun h9 => h9 k.toNat (by omega) ?_⟩
      rw [show ((k.toNat : Nat) : Int) = k by omega, ← hc2]
      omega
  · exact absurd h2 h1
theorem hxb_end {hx k : Int} {σ : Int → Int} (h : HXB hx σ k) (hk : 4 ≤ k) : ISB hx (HX4 σ) := by
  rcases h with ⟨h1, h2⟩ | ⟨h1, h2⟩
  · exact hx4_yes h2 hk h1
  · exact Or.inr ⟨h1, h2⟩
theorem op_eq {β : Int → Int} {n p hx : Int} (X : RSM p (EXF β n 0)) (h0 : 0 ≤ p) (h4 : ¬ (n - p < 4)) (D : ISB hx (HX4 (SH β p))) : T1 β n = (if hx = 1 then HX (SH β p) (n - p) else some (n - p, fun j : Nat => SH β p j)).bind fun q => TXT (DCR q.2 q.1) q.1 := by
  rcases X with ⟨_, h1⟩ | ⟨h1, _⟩
  · unfold T1
    rw [h1, Option.bind_some, if_neg h4]
    rcases D with ⟨d1, d2⟩ | ⟨d1, d2⟩
    · rw [if_pos d1, if_pos (c := HX4 (fun i => β (i + p))) d2]
      rfl
    · rw [if_neg (c := hx = 1) (by omega), if_neg (c := HX4 (fun i => β (i + p))) d2]
      rfl
  · omega
theorem op_no {β : Int → Int} {n p : Int} (X : RSM p (EXF β n 0)) (h : n - p < 4) {f : Nat → Int32} {m r : Int} (hr : r = 0) : OPS r (T1 β n) f m := by
  refine Or.inr ⟨hr, ?_⟩
  rcases X with ⟨_, h1⟩ | ⟨_, h1⟩
  · unfold T1
    rw [h1, Option.bind_some, if_pos h]
  · unfold T1
    rw [h1]
    rfl
theorem op_none {β : Int → Int} {n q r m : Int} {f : Nat → Int32} (h : EQP (EXF β n 0) (EXF β n q)) (hq : ¬ (q + 6 ≤ n)) (hr : r = 0) : OPS r (T1 β n) f m := by
  have e : EXF β n q = none := by rw [EXF, if_neg hq]
  have h2 : EXF β n 0 = none := Eq.trans h e
  refine Or.inr ⟨hr, ?_⟩
  unfold T1
  rw [h2]
  rfl
theorem op_bad {β : Int → Int} {n p hx j N hf c g s r m : Int} {t0 t f : Nat → Int32} {key : Int32} (X : RSM p (EXF β n 0)) (h0 : 0 ≤ p) (h4 : ¬ (n - p < 4)) (D : ISB hx (HX4 (SH β p))) (M : MOL hx (SH β p) j N hf t0 t key) (hh : hx = 1) (hj : 0 ≤ j) (hjn : j < n - p) (hc : c = SH β p j) (hg : EQP g (DGT c)) (hd : g = -1) (b : ISB s (BL c)) (hs : s = 0) (hr : r = 0) : OPS r (T1 β n) f m := by
  refine Or.inr ⟨hr, ?_⟩
  obtain ⟨R, h1, _⟩ := M
  obtain ⟨d, u, g1, _⟩ := rws_h h1 hh
  unfold EQP at hg
  have e := hxd_s g1
  rw [show ((j.toNat : Nat) : Int) = j by omega, ← hc, ← hg, if_pos hd, if_neg (isb_0 b (by omega))] at e
  have h3 := hxd_none e ((n - p).toNat - (j.toNat + 1))
  rw [show j.toNat + 1 + ((n - p).toNat - (j.toNat + 1)) = (n - p).toNat by omega] at h3
  have h5 : HX (SH β p) (n - p) = none := by unfold HX; rw [h3]; rfl
  rw [op_eq X h0 h4 D, if_pos hh, h5]
  rfl
theorem op_end {β : Int → Int} {n p hx j N hf r m : Int} {t0 t : Nat → Int32} {key : Int32} (X : RSM p (EXF β n 0)) (h0 : 0 ≤ p) (h4 : ¬ (n - p < 4)) (D : ISB hx (HX4 (SH β p))) (M : MOL hx (SH β p) j N hf t0 t key) (hj : j = n - p) (hr : (0 ≤ hf ∧ r = 0) ∨ (hf < 0 ∧ N < 4 ∧ r = 0) ∨ (hf < 0 ∧ 4 ≤ N ∧ r = 1 ∧ m = N - 4)) : OPS r (T1 β n) t m := by
  obtain ⟨R, h1, h2, _⟩ := M
  have e : (if hx = 1 then HX (SH β p) (n - p) else some (n - p, fun j : Nat => SH β p j)) = if hf < 0 then some (N, R) else none := by
    by_cases hh : hx = 1
    · rw [if_pos hh]
      obtain ⟨d, u, g1, g2, g3, g4, g5⟩ := rws_h h1 hh
      unfold HX
      rw [← hj, g1, Option.bind_some]
      by_cases od : d % 2 = 1
      · rw [if_pos od] at g3
        have := g5 od
        rw [if_neg (by show ¬ (d % 2 = 0); omega), if_neg (by omega)]
      · rw [if_neg od] at g3
        rw [if_pos (by show d % 2 = 0; omega), if_pos (by omega), g2]
    · unfold RWS at h1
      rw [if_neg hh] at h1
      have e9 := Option.some.inj h1
      have e1 : ((j.toNat : Nat) : Int) = N := congrArg Prod.fst e9
      have e2 : (-1 : Int) = hf := congrArg (fun q => q.2.1) e9
      have e3 : (fun i : Nat => SH β p i) = R := congrArg (fun q => q.2.2) e9
      rw [if_neg hh, if_pos (by omega), e3, show n - p = N by omega]
  rw [op_eq X h0 h4 D, e]
  rcases hr with ⟨a1, a2⟩ | ⟨a1, a2, a3⟩ | ⟨a1, a2, a3, a4⟩
  · rw [if_neg (by omega)]
    exact Or.inr ⟨a2, rfl⟩
  · rw [if_pos a1, Option.bind_some]
    exact Or.inr ⟨a3, txt_sm (by show N ≤ 4; omega)⟩
  · rw [if_pos a1, Option.bind_some]
    exact Or.inl ⟨a3, dcr_tb h2 a2 a4⟩
theorem sh_at {β : Int → Int} {c y p j : Int} (h : c = β y) (e : y = j + p) : c = SH β p j := by unfold SH; rw [← e]; exact h
