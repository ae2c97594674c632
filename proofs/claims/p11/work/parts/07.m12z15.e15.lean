/-! what the law compares of a draw (p8 to p11) -/
theorem vlf_s {β : Int → Int} {len ob oa cap cnt b : Int} {bg fi st sz pl : Nat → Int32} (S : SHR β len ob oa bg fi cap cnt st sz pl b) : VLF β len ob oa bg fi cap := by
  intro k h
  rcases S.2 k h.1 h.2.1 with a | a
  · exact absurd h a.1
  · exact a.2.1
theorem vlf_z {β : Int → Int} {len ob oa cap : Int} {bg fi : Nat → Int32} (h : len = 0) : VLF β len ob oa bg fi cap := fun k hk => absurd hk.2.1 (by have := hk.1; omega)
theorem vlf_l {fam fam2 : Int} {β : Int → Int} {ll wl ol : Int} {bl fl : Nat → Int32} {lo wo oo : Int} {bo fo : Nat → Int32} {lg wg og : Int} {bg m st sz pl : Nat → Int32} (F : FRC fam fam2 β ll wl ol bl fl lo wo oo bo fo lg wg og bg m st sz pl) : VLF β ll wl ol bl fl 40 := F.2.elim (fun h => vlf_z h.2.1) (fun h => vlf_s h.2.1)
theorem vlf_m {fam fam2 : Int} {β : Int → Int} {ll wl ol : Int} {bl fl : Nat → Int32} {lo wo oo : Int} {bo fo : Nat → Int32} {lg wg og : Int} {bg m st sz pl : Nat → Int32} (F : FRC fam fam2 β ll wl ol bl fl lo wo oo bo fo lg wg og bg m st sz pl) : VLF β lo wo oo bo fo 200 := F.2.elim (fun h => vlf_z h.2.2.1) (fun h => vlf_s h.2.2.1)
theorem vlf_g {fam fam2 : Int} {β : Int → Int} {ll wl ol : Int} {bl fl : Nat → Int32} {lo wo oo : Int} {bo fo : Nat → Int32} {lg wg og : Int} {bg m st sz pl : Nat → Int32} (F : FRC fam fam2 β ll wl ol bl fl lo wo oo bo fo lg wg og bg m st sz pl) : VLF β lg wg og bg nof 0 := F.2.elim (fun h => vlf_z h.2.2.2) (fun h => vlf_s h.2.2.2)
theorem tab_k {β : Int → Int} {len ob oa cap cnt b fam s k : Int} {bg fi m st sz pl : Nat → Int32} (S : SHR β len ob oa bg fi cap cnt st sz pl b) (hf : 0 ≤ fam) (hs : 0 ≤ s ∧ s < 3) (hb : b = 1600 * s) (hc : cnt = Int32.toInt (m s.toNat)) : CTB β len ob oa bg fi cap k = MTB fam m st sz pl s k ∧ (HASP len ob bg cap k ↔ THR fam m sz s k) := by
  obtain ⟨S1, S2⟩ := S
  subst hb
  by_cases hk : 0 ≤ k ∧ k < len
  · rcases S2 k hk.1 hk.2 with ⟨a, z⟩ | ⟨a, v, z, e, y⟩
    · have hn : ¬ THR fam m sz s k := fun h => by
        have := h.2.2.2.2.2
        omega
      refine ⟨?_, ⟨fun h => absurd h a, fun h => absurd h hn⟩⟩
      have c1 : CTB β len ob oa bg fi cap k = none := if_neg a
      have c2 : MTB fam m st sz pl s k = none := if_neg hn
      rw [c1, c2]
    · have hy : THR fam m sz s k := ⟨hf, hs.1, hs.2, hk.1, by omega, z⟩
      refine ⟨?_, ⟨fun _ => hy, fun _ => a⟩⟩
      have c1 : CTB β len ob oa bg fi cap k = some (PRGL β (BEGE β len ob oa bg k) (FINE β len ob oa fi k)) := if_pos a
      have c2 : MTB fam m st sz pl s k = some (MPX st sz pl s k) := if_pos hy
      rw [c1, c2]
      congr 1
      unfold PRGL MPX
      rw [e, show BEGE β len ob oa bg k + Int32.toInt (sz (1600 * s + k).toNat) - BEGE β len ob oa bg k = Int32.toInt (sz (1600 * s + k).toNat) by omega]
      refine List.map_congr_left (fun i hi => ?_)
      have := List.mem_range.mp hi
      exact y (i : Int) (by omega) (by omega)
  · have h1 : ¬ HASP len ob bg cap k := fun h => hk ⟨h.1, h.2.1⟩
    have h2 : ¬ THR fam m sz s k := fun h => hk ⟨h.2.2.2.1, by have := h.2.2.2.2.1; omega⟩
    refine ⟨?_, ⟨fun h => absurd h h1, fun h => absurd h h2⟩⟩
    have c1 : CTB β len ob oa bg fi cap k = none := if_neg h1
    have c2 : MTB fam m st sz pl s k = none := if_neg h2
    rw [c1, c2]
theorem tab_f {β : Int → Int} {len ob oa cap cnt b fam s : Int} {bg fi m st sz pl : Nat → Int32} (S : SHR β len ob oa bg fi cap cnt st sz pl b) (hf : 0 ≤ fam) (hs : 0 ≤ s ∧ s < 3) (hb : b = 1600 * s) (hc : cnt = Int32.toInt (m s.toNat)) : CTB β len ob oa bg fi cap = MTB fam m st sz pl s := funext fun _ => (tab_k S hf hs hb hc).1
/-- the latest draw, told alike -/
def LAT (la : Value) (mc mt : Nat) (P : PRT2) (tc tt : Int × Int × Int × Int64) (hr : Int) (T : DW) : Prop :=
  (la = .null ∧ hr = 0 ∧ P = T.1 ∧ T.2.2.2.2 = 0) ∨ (la = .ref mc ∧ hr = 1 ∧ ((P, tc) : DW) = T) ∨ (la = .ref mt ∧ hr = 1 ∧ ((P, tt) : DW) = T)
theorem lat_d {fam fam2 : Int} {β : Int → Int} {ll wl ol : Int} {bl fl : Nat → Int32} {lo wo oo : Int} {bo fo : Nat → Int32} {lg wg og : Int} {bg m st sz pl : Nat → Int32} {dw nw us no : Int32} {la la1 : Value} {mc mt : Nat} {P P1 : PRT2} {tc tt tc1 tt1 : Int × Int × Int × Int64} {hr hr1 r r2 k lim : Int} {T T1 : DW}
    (F : FRC fam fam2 β ll wl ol bl fl lo wo oo bo fo lg wg og bg m st sz pl) (R : FRL fam ll lo lg (Int32.toInt dw) (Int32.toInt nw) fam2 (Int32.toInt (m (Int32.toNatClampNeg 0))) (Int32.toInt (m (Int32.toNatClampNeg 1))) (Int32.toInt (m (Int32.toNatClampNeg 2))) (Int32.toInt us) (Int32.toInt no))
    (C0 : CND (¬ (HASP ll wl bl 40 k ∧ 0 ≤ lim ∧ lim ≤ 400)) (r = -1 ∧ la1 = la ∧ P1 = P ∧ tc1 = tc ∧ tt1 = tt))
    (C1 : CND ((HASP ll wl bl 40 k ∧ 0 ≤ lim ∧ lim ≤ 400) ∧ fam = 0) (la1 = .ref mc ∧ (((P1, tc1), r) : DW × Int) = DRC (CTB β lo wo oo bo fo 200) (CTB β lg wg og bg nof 0) (CTB β ll wl ol bl fl 40) lo lg (NMF nw) (NMF dw) k lim))
    (C2 : CND ((HASP ll wl bl 40 k ∧ 0 ≤ lim ∧ lim ≤ 400) ∧ ¬ (fam = 0)) (la1 = .ref mt ∧ (((P1, tt1), r) : DW × Int) = DR9 (CTB β lo wo oo bo fo 200) (CTB β ll wl ol bl fl 40) k lim))
    (M0 : CND (¬ (THR fam2 m sz 0 k ∧ 0 ≤ lim ∧ lim ≤ 400)) (r2 = -1 ∧ hr1 = hr ∧ T1 = T))
    (M1 : CND ((THR fam2 m sz 0 k ∧ 0 ≤ lim ∧ lim ≤ 400) ∧ fam2 = 0) (hr1 = 1 ∧ T1 = (DRC (MTB fam2 m st sz pl 1) (MTB fam2 m st sz pl 2) (MTB fam2 m st sz pl 0) (Int32.toInt (m (Int32.toNatClampNeg 1))) (Int32.toInt (m (Int32.toNatClampNeg 2))) (NMF no) (NMF us) k lim).1))
    (M2 : CND ((THR fam2 m sz 0 k ∧ 0 ≤ lim ∧ lim ≤ 400) ∧ ¬ (fam2 = 0)) (hr1 = 1 ∧ T1 = (DR9 (MTB fam2 m st sz pl 1) (MTB fam2 m st sz pl 0) k lim).1))
    (L : LAT la mc mt P tc tt hr T) : LAT la1 mc mt P1 tc1 tt1 hr1 T1 := by
  obtain ⟨ef, F⟩ := F
  subst ef
  rcases F with ⟨f1, f2, f3, f4⟩ | ⟨f0, s0, s1, s2⟩
  · have n1 : ¬ (HASP ll wl bl 40 k ∧ 0 ≤ lim ∧ lim ≤ 400) := fun h => by have a := h.1.1; have b := h.1.2.1; omega
    have n2 : ¬ (THR fam m sz 0 k ∧ 0 ≤ lim ∧ lim ≤ 400) := fun h => by have := h.1.1; omega
    obtain ⟨_, a1, a2, a3, a4⟩ := C0 n1
    obtain ⟨_, b1, b2⟩ := M0 n2
    rw [a1, a2, a3, a4, b1, b2]
    exact L
  · have t0 := tab_f (fam := fam) (s := 0) (m := m) s0 f0 (by decide) rfl rfl
    have t1 := tab_f (fam := fam) (s := 1) (m := m) s1 f0 (by decide) rfl rfl
    have t2 := tab_f (fam := fam) (s := 2) (m := m) s2 f0 (by decide) rfl rfl
    have hk := (tab_k (k := k) (fam := fam) (s := 0) (m := m) s0 f0 (by decide) rfl rfl).2
    obtain ⟨_, rr⟩ := R
    obtain ⟨r1, r2', r3, r4, r5⟩ := rr.resolve_left (by omega)
    have e4 : dw = us := Int32.toInt_inj.mp r4
    have e5 : nw = no := Int32.toInt_inj.mp r5
    rw [t0, t1, t2, r2', r3, e4, e5] at C1
    rw [t0, t1] at C2
    by_cases ok : HASP ll wl bl 40 k ∧ 0 ≤ lim ∧ lim ≤ 400
    · have ok2 : THR fam m sz 0 k ∧ 0 ≤ lim ∧ lim ≤ 400 := ⟨hk.mp ok.1, ok.2⟩
      by_cases hf : fam = 0
      · obtain ⟨a1, a2⟩ := C1 ⟨ok, hf⟩
        obtain ⟨b1, b2⟩ := M1 ⟨ok2, hf⟩
        refine Or.inr (Or.inl ⟨a1, b1, ?_⟩)
        rw [b2, ← a2]
      · obtain ⟨a1, a2⟩ := C2 ⟨ok, hf⟩
        obtain ⟨b1, b2⟩ := M2 ⟨ok2, hf⟩
        refine Or.inr (Or.inr ⟨a1, b1, ?_⟩)
        rw [b2, ← a2]
    · have ok2 : ¬ (THR fam m sz 0 k ∧ 0 ≤ lim ∧ lim ≤ 400) := fun h => ok ⟨hk.mpr h.1, h.2⟩
      obtain ⟨_, a1, a2, a3, a4⟩ := C0 ok
      obtain ⟨_, b1, b2⟩ := M0 ok2
      rw [a1, a2, a3, a4, b1, b2]
      exact L
theorem lat_n {mc mt : Nat} {P : PRT2} {tc tt : Int × Int × Int × Int64} {hr : Int} {T : DW} (L : LAT .null mc mt P tc tt hr T) : hr = 0 ∧ P = T.1 ∧ T.2.2.2.2 = 0 := by
  rcases L with ⟨_, h⟩ | ⟨h, _⟩ | ⟨h, _⟩
  · exact h
  · exact absurd h (by intro h9; cases h9)
  · exact absurd h (by intro h9; cases h9)
theorem lat_p {la : Value} {mc mt : Nat} {P : PRT2} {tc tt : Int × Int × Int × Int64} {hr : Int} {T : DW} (L : LAT la mc mt P tc tt hr T) : P = T.1 := by
  rcases L with ⟨_, _, h, _⟩ | ⟨_, _, h⟩ | ⟨_, _, h⟩
  · exact h
  · rw [← h]
  · rw [← h]
theorem drn_eq {v a b c d a2 b2 c2 d2 r r2 : Int} (h : DRN v a b c d r) (g : DRN v a2 b2 c2 d2 r2) (e : a = a2 ∧ b = b2 ∧ c = c2 ∧ d = d2) : r = r2 := by
  obtain ⟨e1, e2, e3, e4⟩ := e
  subst e1 e2 e3 e4
  unfold DRN at h g
  omega
theorem drn_l {kd kd2 : Nat → Int32} {nb nb2 : Nat → Int64} {n n2 : Int} {t t2 : Int × Int × Int × Int64} {v r r2 : Int} (L : ((PTS kd nb n, t) : DW) = (PTS kd2 nb2 n2, t2)) (h0 : 0 ≤ n) (h1 : 0 ≤ n2) (h : DRN v n t.1 t.2.1 t.2.2.1 r) (g : DRN v n2 t2.1 t2.2.1 t2.2.2.1 r2) : r = r2 := by
  have e1 : PTS kd nb n = PTS kd2 nb2 n2 := congrArg Prod.fst L
  have e2 : t = t2 := congrArg Prod.snd L
  have e3 : (PTS kd nb n).length = (PTS kd2 nb2 n2).length := by rw [e1]
  rw [pts_len, pts_len] at e3
  subst e2
  exact drn_eq h g ⟨by omega, rfl, rfl, rfl⟩
theorem lat_c {mc mt : Nat} {P : PRT2} {tc tt : Int × Int × Int × Int64} {hr : Int} {T : DW} (h : ¬ (mc = mt)) (L : LAT (.ref mc) mc mt P tc tt hr T) : hr = 1 ∧ ((P, tc) : DW) = T := by
  rcases L with ⟨h1, _⟩ | ⟨_, h1⟩ | ⟨h1, _⟩
  · exact absurd h1 (by intro h9; cases h9)
  · exact h1
  · exfalso
    exact h (by injection h1)
theorem lat_t {mc mt : Nat} {P : PRT2} {tc tt : Int × Int × Int × Int64} {hr : Int} {T : DW} (h : ¬ (mc = mt)) (L : LAT (.ref mt) mc mt P tc tt hr T) : hr = 1 ∧ ((P, tt) : DW) = T := by
  rcases L with ⟨h1, _⟩ | ⟨h1, _⟩ | ⟨_, h1⟩
  · exact absurd h1 (by intro h9; cases h9)
  · exfalso
    exact h (by injection h1 with h2; exact h2.symm)
  · exact h1
