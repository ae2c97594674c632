/-! the class's own DICT: PRIVATE; the font as a whole (p5) -/
theorem priv_g {β : Int → Int} {n p z f0 fa fb fd f1 f2 f3 fe x0 x1 x2 x3 e dw nw lc : Int} {m f s : Nat → Int32} (hA : HID ((0 ≤ p ∧ p ≤ n ∧ fa = f0) ∨ (¬ (0 ≤ p ∧ p ≤ n) ∧ ¬ (fa = 0)))) (W0 : WNT x0 fa fb) (e0 : HID (x0 = 1 ↔ 0 ≤ z)) (he : e = p + z) (D : SEQ fb fd (DICB β n p e) (fun S => S = SC m f s)) (W1 : WNT x1 fd f1) (W2 : WNT x2 f1 f2) (W3 : WNT x3 f2 f3)
    (e1 : HID (x1 = 1 ↔ (Int32.toInt (m (Int32.toNatClampNeg 3)) = -1 ∨ Int32.toInt (m (Int32.toNatClampNeg 3)) = 1))) (e2 : HID (x2 = 1 ↔ (Int32.toInt (m (Int32.toNatClampNeg 4)) = -1 ∨ Int32.toInt (m (Int32.toNatClampNeg 4)) = 1))) (e3 : HID (x3 = 1 ↔ (Int32.toInt (m (Int32.toNatClampNeg 5)) = -1 ∨ Int32.toInt (m (Int32.toNatClampNeg 5)) = 1)))
    (ed : HID ((Int32.toInt (m (Int32.toNatClampNeg 4)) = -1 ∧ dw = 0) ∨ (¬ (Int32.toInt (m (Int32.toNatClampNeg 4)) = -1) ∧ dw = Int32.toInt (f (Int32.toNatClampNeg 4))))) (en : HID ((Int32.toInt (m (Int32.toNatClampNeg 5)) = -1 ∧ nw = 0) ∨ (¬ (Int32.toInt (m (Int32.toNatClampNeg 5)) = -1) ∧ nw = Int32.toInt (f (Int32.toNatClampNeg 5)))))
    (hI : HID ((¬ (f3 = 0) ∧ ¬ (fe = 0)) ∨ (f3 = 0 ∧ Int32.toInt (m (Int32.toNatClampNeg 3)) = -1 ∧ fe = 0 ∧ lc = 0) ∨ (¬ (Int32.toInt (m (Int32.toNatClampNeg 3)) = -1) ∧ SEQ f3 fe (IDX β n (p + Int32.toInt (f (Int32.toNatClampNeg 3))) 0 65535) (fun v => v.1 = lc)))) : SEQ f0 fe (PRIV β n p z) (fun q => q = (lc, dw, nw)) := by
  have kI : ¬ (f3 = 0) → ¬ (fe = 0) := fun h => by
    rcases hI with ⟨_, h1⟩ | ⟨h1, _⟩ | ⟨_, h1⟩
    · exact h1
    · exact absurd h1 h
    · exact seq_keep h1 h
  have kD : ¬ (fd = 0) → ¬ (fe = 0) := fun h => kI (wnt_keep W3 (wnt_keep W2 (wnt_keep W1 h)))
  have kb : ¬ (fb = 0) → ¬ (fe = 0) := fun h => kD (seq_keep D h)
  by_cases hf : f0 = 0
  · by_cases hc : 0 ≤ p ∧ 0 ≤ z ∧ p ≤ n
    · have h1 : fa = 0 := by
        rcases hA with ⟨_, _, h9⟩ | ⟨h9, _⟩
        · rw [h9]; exact hf
        · exact absurd ⟨hc.1, hc.2.2⟩ h9
      have h2 : fb = 0 := (wnt_iff W0).mpr ⟨Iff.mpr e0 hc.2.1, h1⟩
      by_cases hn : p + z ≤ n
      · have eP : PRIV β n p z = (DIC β p (p + z)).bind fun S =>
            if FIT S 19 1 ∧ FIT S 20 1 ∧ FIT S 21 1 then
              (if (S 19).1 = -1 then some (0, if (S 20).1 = 1 then (S 20).2.1 else 0, if (S 21).1 = 1 then (S 21).2.1 else 0)
               else (IDX β n (p + (S 19).2.1) 0 65535).bind fun i => some (i.1, if (S 20).1 = 1 then (S 20).2.1 else 0, if (S 21).1 = 1 then (S 21).2.1 else 0))
            else none := by
          unfold PRIV
          rw [if_pos ⟨hc.1, hc.2.1, hn⟩]
        have eD : DICB β n p e = DIC β p (p + z) := by
          unfold DICB
          rw [if_neg (by omega), he]
        rw [eD] at D
        rw [hf, ← h2, eP]
        refine seq_bind D kD (fun S _ hS => ?_)
        have k1 : (S 19).1 = Int32.toInt (m (Int32.toNatClampNeg 3)) := by rw [hS]; exact sc_1 (Or.inr (Or.inr (Or.inr (Or.inl rfl))))
        have k2 : (S 20).1 = Int32.toInt (m (Int32.toNatClampNeg 4)) := by rw [hS]; exact sc_1 (Or.inr (Or.inr (Or.inr (Or.inr (Or.inl rfl)))))
        have k3 : (S 21).1 = Int32.toInt (m (Int32.toNatClampNeg 5)) := by rw [hS]; exact sc_1 (Or.inr (Or.inr (Or.inr (Or.inr (Or.inr rfl)))))
        have l1 : (S 19).2.1 = if Int32.toInt (m (Int32.toNatClampNeg 3)) = -1 then 0 else Int32.toInt (f (Int32.toNatClampNeg 3)) := by rw [hS]; exact sc_21 (Or.inr (Or.inr (Or.inr (Or.inl rfl))))
        have l2 : (S 20).2.1 = if Int32.toInt (m (Int32.toNatClampNeg 4)) = -1 then 0 else Int32.toInt (f (Int32.toNatClampNeg 4)) := by rw [hS]; exact sc_21 (Or.inr (Or.inr (Or.inr (Or.inr (Or.inl rfl)))))
        have l3 : (S 21).2.1 = if Int32.toInt (m (Int32.toNatClampNeg 5)) = -1 then 0 else Int32.toInt (f (Int32.toNatClampNeg 5)) := by rw [hS]; exact sc_21 (Or.inr (Or.inr (Or.inr (Or.inr (Or.inr rfl)))))
        have ht : (FIT S 19 1 ∧ FIT S 20 1 ∧ FIT S 21 1) ↔ (x1 = 1 ∧ x2 = 1 ∧ x3 = 1) := by
          show (((S 19).1 = -1 ∨ (S 19).1 = 1) ∧ ((S 20).1 = -1 ∨ (S 20).1 = 1) ∧ ((S 21).1 = -1 ∨ (S 21).1 = 1)) ↔ _
          rw [k1, k2, k3]
          have e1 : _ ↔ _ := e1
          have e2 : _ ↔ _ := e2
          have e3 : _ ↔ _ := e3
          rw [e1, e2, e3]
        have q : f3 = 0 ↔ (x3 = 1 ∧ x2 = 1 ∧ x1 = 1 ∧ fd = 0) := by rw [wnt_iff W3, wnt_iff W2, wnt_iff W1]
        by_cases hfd : fd = 0
        · by_cases hT : FIT S 19 1 ∧ FIT S 20 1 ∧ FIT S 21 1
          · rw [if_pos hT]
            obtain ⟨a1, a2, a3⟩ := ht.mp hT
            have h3 : f3 = 0 := q.mpr ⟨a3, a2, a1, hfd⟩
            have ddw : (if (S 20).1 = 1 then (S 20).2.1 else 0) = dw := by
              rw [k2, l2]
              have := Iff.mp e2 a2
              rcases ed with ⟨h8, h9⟩ | ⟨h8, h9⟩
              · rw [if_neg (by omega), h9]
              · rw [if_pos (by omega), if_neg h8, h9]
            have dnw : (if (S 21).1 = 1 then (S 21).2.1 else 0) = nw := by
              rw [k3, l3]
              have := Iff.mp e3 a3
              rcases en with ⟨h8, h9⟩ | ⟨h8, h9⟩
              · rw [if_neg (by omega), h9]
              · rw [if_pos (by omega), if_neg h8, h9]
            rw [ddw, dnw, k1, l1]
            rcases hI with ⟨h9, _⟩ | ⟨_, h8, h9, h7⟩ | ⟨h8, h9⟩
            · exact absurd h3 h9
            · rw [if_pos h8, h7]
              exact seq_ok _ hfd h9 rfl rfl
            · rw [if_neg h8, if_neg h8]
              have e39 : f3 = fd := by rw [h3, hfd]
              rw [e39] at h9
              exact seq_bind h9 id (fun v _ hv => by rw [hv]; exact seq_some _)
          · rw [if_neg hT]
            exact Or.inr (Or.inr ⟨hfd, kI (fun h => by obtain ⟨a3, a2, a1, _⟩ := q.mp h; exact hT (ht.mpr ⟨a1, a2, a3⟩)), rfl⟩)
        · exact Or.inl ⟨hfd, kD hfd⟩
      · have eD : DICB β n p e = none := by
          unfold DICB
          rw [if_pos (by omega)]
        have eP : PRIV β n p z = none := by
          unfold PRIV
          rw [if_neg (by omega)]
        rw [eP]
        refine Or.inr (Or.inr ⟨hf, kD ?_, rfl⟩)
        rw [eD] at D
        rcases D with ⟨d0, _⟩ | ⟨_, _, v, d2, _⟩ | ⟨_, d1, _⟩
        · exact absurd h2 d0
        · exact absurd d2 (by simp)
        · exact d1
    · have eP : PRIV β n p z = none := by
        unfold PRIV
        rw [if_neg (by omega)]
      rw [eP]
      refine Or.inr (Or.inr ⟨hf, kb ?_, rfl⟩)
      intro h
      obtain ⟨h1, h2⟩ := (wnt_iff W0).mp h
      have h3 : 0 ≤ z := Iff.mp e0 h1
      rcases hA with ⟨h4, h5, _⟩ | ⟨_, h9⟩
      · omega
      · exact h9 h2
  · refine Or.inl ⟨hf, kb (wnt_keep W0 ?_)⟩
    rcases hA with ⟨_, _, h9⟩ | ⟨_, h9⟩
    · rw [h9]; exact hf
    · exact h9
theorem priv_end {β : Int → Int} {n p z f0 fa fb fd f1 f2 f3 fe x0 x1 x2 x3 e dw nw lc : Int} {m f s : Nat → Int32} (hA : (0 ≤ p ∧ p ≤ n ∧ fa = f0) ∨ (¬ (0 ≤ p ∧ p ≤ n) ∧ ¬ (fa = 0))) (W0 : WNT x0 fa fb) (e0 : x0 = 1 ↔ 0 ≤ z) (he : e = p + z) (D : SEQ fb fd (DICB β n p e) (fun S => S = SC m f s)) (W1 : WNT x1 fd f1) (W2 : WNT x2 f1 f2) (W3 : WNT x3 f2 f3)
    (e1 : x1 = 1 ↔ (Int32.toInt (m (Int32.toNatClampNeg 3)) = -1 ∨ Int32.toInt (m (Int32.toNatClampNeg 3)) = 1)) (e2 : x2 = 1 ↔ (Int32.toInt (m (Int32.toNatClampNeg 4)) = -1 ∨ Int32.toInt (m (Int32.toNatClampNeg 4)) = 1)) (e3 : x3 = 1 ↔ (Int32.toInt (m (Int32.toNatClampNeg 5)) = -1 ∨ Int32.toInt (m (Int32.toNatClampNeg 5)) = 1))
    (ed : (Int32.toInt (m (Int32.toNatClampNeg 4)) = -1 ∧ dw = 0) ∨ (¬ (Int32.toInt (m (Int32.toNatClampNeg 4)) = -1) ∧ dw = Int32.toInt (f (Int32.toNatClampNeg 4)))) (en : (Int32.toInt (m (Int32.toNatClampNeg 5)) = -1 ∧ nw = 0) ∨ (¬ (Int32.toInt (m (Int32.toNatClampNeg 5)) = -1) ∧ nw = Int32.toInt (f (Int32.toNatClampNeg 5))))
    (hI : (¬ (f3 = 0) ∧ ¬ (fe = 0)) ∨ (f3 = 0 ∧ Int32.toInt (m (Int32.toNatClampNeg 3)) = -1 ∧ fe = 0 ∧ lc = 0) ∨ (¬ (Int32.toInt (m (Int32.toNatClampNeg 3)) = -1) ∧ SEQ f3 fe (IDX β n (p + Int32.toInt (f (Int32.toNatClampNeg 3))) 0 65535) (fun v => v.1 = lc))) : SEQ f0 fe (PRIV β n p z) (fun q => q = (lc, dw, nw)) := priv_g hA W0 e0 he D W1 W2 W3 e1 e2 e3 ed en hI
theorem ixr_len {ic pl ob oa ja p lc f0 f1 : Int} {O : Option (Int × Int × Int)} (h : SEQ f0 f1 O (IXR ic pl ob oa ja p)) (e : f1 = 0 → lc = ic) : SEQ f0 f1 O (fun v => v.1 = lc) := by
  rcases h with h | ⟨h0, h1, v, h2, h3⟩ | h
  · exact Or.inl h
  · exact Or.inr (Or.inl ⟨h0, h1, v, h2, by rw [e h1]; exact h3.1⟩)
  · exact Or.inr (Or.inr h)
theorem idx_rng {β : Int → Int} {n p l m : Int} {v : Int × Int × Int} (h : IDX β n p l m = some v) : l ≤ v.1 ∧ v.1 ≤ m ∧ v.2.2 ≤ n := by
  unfold IDX at h
  split at h
  · rename_i hc
    split at h
    · rename_i hz
      have e := Option.some.inj h
      rw [← e]
      exact ⟨by show l ≤ 0; omega, by show 0 ≤ m; omega, by show p + 2 ≤ n; omega⟩
    · split at h
      · cases ho : OFS β n (β (p + 2)) (NUM β p 2 + 1).toNat (p + 3) 0 1 with
        | none => rw [ho] at h; exact absurd h (by simp)
        | some b =>
          rw [ho, Option.bind_some] at h
          split at h
          · rename_i hn
            have e := Option.some.inj h
            rw [← e]
            exact ⟨hc.2.2.1, hc.2.2.2, hn⟩
          · exact absurd h (by simp)
      · exact absurd h (by simp)
  · exact absurd h (by simp)
theorem cff_pf {β : Int → Int} {n f0 fh f1 f2 f3 f4 f5 f6 f7 ph ic1 p1 ob1 oa1 ja1 ic2 p2 ob2 oa2 ja2 ic3 p3 ob3 oa3 ja3 ic4 p4 ob4 oa4 ja4 ic5 p5 ob5 oa5 ja5 p17 ll lo lg dw nw : Int} {Z : SLO} (H : SEQ f0 fh (HDR β n) (fun v => v = ph)) (I1 : SEQ fh f1 (IDX β n ph 1 1) (IXR ic1 p1 ob1 oa1 ja1 ph)) (I2 : SEQ f1 f2 (IDX β n p1 1 1) (IXR ic2 p2 ob2 oa2 ja2 p1)) (I3 : SEQ f2 f3 (IDX β n p2 0 65535) (IXR ic3 p3 ob3 oa3 ja3 p2)) (I4 : SEQ f3 f4 (IDX β n p3 0 65535) (IXR ic4 p4 ob4 oa4 ja4 p3)) (T : SEQ f4 f5 (TOPO β n ja2 p2) (fun S => S = Z)) (I5 : SEQ f5 f6 (IDX β n p17 1 40) (IXR ic5 p5 ob5 oa5 ja5 p17)) (e17 : f5 = 0 → TOPOK Z → p17 = (Z 17).2.1) (hll : f6 = 0 → ll = ic5) (hlg : f4 = 0 → lg = ic4)
    (hP : (¬ (f6 = 0) ∧ ¬ (f7 = 0)) ∨ (f6 = 0 ∧ (Z 18).1 = -1 ∧ f7 = 0 ∧ lo = 0 ∧ dw = 0 ∧ nw = 0) ∨ (f6 = 0 ∧ ¬ ((Z 18).1 = -1) ∧ SEQ f6 f7 (PRIV β n (Z 18).2.2 (Z 18).2.1) (fun q => q = (lo, dw, nw)))) : SEQ f0 f7 (CFF β n) (fun t => t = (ll, lo, lg, dw, nw)) := by
  have k6 : ¬ (f6 = 0) → ¬ (f7 = 0) := fun h => by
    rcases hP with ⟨_, h1⟩ | ⟨h1, _⟩ | ⟨h1, _⟩
    · exact h1
    · exact absurd h1 h
    · exact absurd h1 h
  have k5 : ¬ (f5 = 0) → ¬ (f7 = 0) := fun h => k6 (seq_keep I5 h)
  have k4 : ¬ (f4 = 0) → ¬ (f7 = 0) := fun h => k5 (seq_keep T h)
  have k3 : ¬ (f3 = 0) → ¬ (f7 = 0) := fun h => k4 (seq_keep I4 h)
  have k2 : ¬ (f2 = 0) → ¬ (f7 = 0) := fun h => k3 (seq_keep I3 h)
  have k1 : ¬ (f1 = 0) → ¬ (f7 = 0) := fun h => k2 (seq_keep I2 h)
  unfold CFF
  refine seq_bind H (fun h => k1 (seq_keep I1 h)) (fun v _ hv => ?_)
  subst hv
  refine seq_bind I1 k1 (fun i1 _ h1 => ?_)
  rw [h1.2.1]
  refine seq_bind I2 k2 (fun i2 g2 h2 => ?_)
  rw [h2.2.1]
  refine seq_bind I3 k3 (fun i3 _ h3 => ?_)
  rw [h3.2.1]
  refine seq_bind I4 k4 (fun i4 _ h4 => ?_)
  have r2 := idx_rng g2
  have e2 : ic2 = 1 := by have := h2.1; omega
  have ej : ja2 = p1 + 3 + i2.2.1 * 2 := by
    rcases h2.2.2 with h9 | ⟨h7, _, h9⟩
    · omega
    · rw [h9, e2, h7]
      rfl
  rw [← ej]
  have hn : p2 ≤ n := by have := h2.2.1; omega
  have eT : TOPO β n ja2 p2 = (DIC β ja2 p2).bind fun S => if TOPOK S then some S else none := by
    unfold TOPO DICB
    rw [if_neg (by omega)]
  rw [eT] at T
  by_cases hf : f4 = 0
  · rw [hlg hf]
    cases hD : DIC β ja2 p2 with
    | none =>
      rw [hD] at T
      rcases T with ⟨t0, _⟩ | ⟨_, _, _, t2, _⟩ | ⟨_, t1, _⟩
      · exact absurd hf t0
      · exact absurd t2 (by simp)
      · exact Or.inr (Or.inr ⟨hf, k5 t1, rfl⟩)
    | some S =>
      rw [hD, Option.bind_some] at T
      rw [Option.bind_some]
      by_cases hT : TOPOK S
      · rw [if_pos hT] at T ⊢
        rcases T with ⟨t0, _⟩ | ⟨_, t1, v, t2, t3⟩ | ⟨_, t1, t2⟩
        · exact absurd hf t0
        · have eS : S = Z := by rw [← t3]; exact Option.some.inj t2
          subst eS
          have e45 : f4 = f5 := by rw [hf, t1]
          rw [e45, ← e17 t1 hT]
          refine seq_bind I5 k6 (fun i5 _ h5 => ?_)
          rcases hP with ⟨q0, q1⟩ | ⟨q0, q1, q2, q3, q4, q5⟩ | ⟨q0, q1, q2⟩
          · exact Or.inl ⟨q0, q1⟩
          · rw [if_pos q1]
            have e9 : ((i5.1, (0 : Int), i4.1, (0 : Int), (0 : Int)) : Int × Int × Int × Int × Int) = (ll, lo, ic4, dw, nw) := by rw [hll q0, h5.1, h4.1, q3, q4, q5]
            exact seq_ok _ q0 q2 rfl e9
          · rw [if_neg q1]
            refine seq_bind q2 id (fun q _ hq => ?_)
            rw [hq, h5.1, ← hll q0, h4.1]
            exact seq_some _
        · exact absurd t2 (by simp)
      · rw [if_neg hT] at T ⊢
        rcases T with ⟨t0, _⟩ | ⟨_, _, v, t2, _⟩ | ⟨_, t1, _⟩
        · exact absurd hf t0
        · exact absurd t2 (by simp)
        · exact Or.inr (Or.inr ⟨hf, k5 t1, rfl⟩)
  · exact Or.inl ⟨hf, k4 hf⟩
def SHF (f : Nat → Int32) (n : Int) (g : Nat → Int32) (m k : Int) : Prop := ∀ i, 0 ≤ i → GB f n i = GB g m (i + k)
theorem shf_pf {f f1 g : Nat → Int32} {n1 T F o : Int} (h : f1 = cpy f (Int.toNat o) g (Int.toNat F) (Int.toNat T - Int.toNat F)) (ho : o = 0) (h0 : 0 ≤ F) (h1 : F ≤ T) (hn : n1 = T - F) : SHF f1 n1 g T F := by
  intro i hi
  unfold GB
  by_cases hc : i < n1
  · rw [if_pos ⟨hi, hc⟩, if_pos (by omega), h, ho]
    have e := cpy_in (f := f) (n := (0 : Int).toNat) (o := g) (a := F.toNat) (T.toNat - F.toNat) i.toNat (by omega)
    rw [show (0 : Int).toNat + i.toNat = i.toNat by omega] at e
    rw [e, st8_low, show F.toNat + i.toNat = (i + F).toNat by omega]
  · rw [if_neg (by omega), if_neg (by omega)]
theorem shf_0 {f g : Nat → Int32} {n m k : Int} (h : SHF f n g m k) (e : k = 0) : GB f n = GB g m := by
  funext i
  by_cases hi : 0 ≤ i
  · have := h i hi
    rw [e, Int.add_zero] at this
    exact this
  · rw [gb_out (Or.inl (by omega)), gb_out (Or.inl (by omega))]
theorem idx_p {β : Int → Int} {n l m a b : Int} (h : a = b) : IDX β n a l m = IDX β n b l m := by rw [h]
theorem priv_e {β : Int → Int} {n a b a2 b2 : Int} (h : a = a2) (h2 : b = b2) : PRIV β n a b = PRIV β n a2 b2 := by rw [h, h2]
theorem sc18_2 {m f s : Nat → Int32} {a : Int} (h : ¬ (Int32.toInt (m (Int32.toNatClampNeg 1)) = -1) ∧ a = Int32.toInt (s (Int32.toNatClampNeg 1))) : a = (SC m f s 18).2.2 := by
  rw [sc_22 (Or.inr (Or.inl rfl))]
  exact h.2.trans (if_neg (c := Int32.toInt (m (SLN 18)) = -1) h.1).symm
theorem sc18_1 {m f s : Nat → Int32} {a : Int} (h : ¬ (Int32.toInt (m (Int32.toNatClampNeg 1)) = -1) ∧ a = Int32.toInt (f (Int32.toNatClampNeg 1))) : a = (SC m f s 18).2.1 := by
  rw [sc_21 (Or.inr (Or.inl rfl))]
  exact h.2.trans (if_neg (c := Int32.toInt (m (SLN 18)) = -1) h.1).symm
theorem sc18_0 {m f s : Nat → Int32} (h : Int32.toInt (m (Int32.toNatClampNeg 1)) = -1) : (SC m f s 18).1 = -1 := (sc_1 (Or.inr (Or.inl rfl))).trans h
theorem sc18_n {m f s : Nat → Int32} (h : ¬ (Int32.toInt (m (Int32.toNatClampNeg 1)) = -1)) : ¬ ((SC m f s 18).1 = -1) := fun h9 => h ((sc_1 (m := m) (f := f) (s := s) (o := 18) (Or.inr (Or.inl rfl))).symm.trans h9)
theorem sc17 {m f s : Nat → Int32} {a : Int} (h : (Int32.toInt (m (Int32.toNatClampNeg 0)) = -1 ∧ a = 0) ∨ (¬ (Int32.toInt (m (Int32.toNatClampNeg 0)) = -1) ∧ a = Int32.toInt (f (Int32.toNatClampNeg 0)))) : a = (SC m f s 17).2.1 := by
  rw [sc_21 (Or.inl rfl)]
  rcases h with ⟨h1, h2⟩ | ⟨h1, h2⟩
  · exact h2.trans (if_pos (c := Int32.toInt (m (SLN 17)) = -1) h1).symm
  · exact h2.trans (if_neg (c := Int32.toInt (m (SLN 17)) = -1) h1).symm
theorem parse_end {f1 tf : Nat → Int32} {n1 T F f0 f7 r : Int} {c : Prop} {P : Int × Int × Int × Int × Int → Prop} (S : CND c (SHF f1 n1 tf T F)) (hc : c) (eF : F = 0) (en : n1 = T) (h : SEQ f0 f7 (CFF (GB f1 n1) n1) P) (e0 : f0 = 0) (e7 : f7 = r) : SEQ 0 r (CFF (GB tf T) T) P := by
  subst e0 e7 en
  rw [shf_0 (S hc) eF] at h
  exact h
