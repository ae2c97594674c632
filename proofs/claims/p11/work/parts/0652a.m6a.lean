/-! the programs as the reference keeps them: CFF (p6) -/
theorem num_off {f : Nat → Int32} {n o w k : Int} (h1 : 1 ≤ w) (h4 : w ≤ 4) (h0 : 0 ≤ o) (hk : 0 ≤ k) (hn : o + k * w + w ≤ n) : NUM (GB f n) (o + k * w) w.toNat = OFF f o w k := by
  rcases (show w = 1 ∨ w = 2 ∨ w = 3 ∨ w = 4 by omega) with h | h | h | h <;> subst h
  · rw [show (1 : Int).toNat = 1 from rfl, num_k1 (by omega) (by omega), off_1 rfl, show o + k * 1 = o + 1 * k by omega]
  · rw [show (2 : Int).toNat = 2 from rfl, num_k2 (by omega) (by omega), off_2 rfl, show o + k * 2 = o + 2 * k by omega]
  · rw [show (3 : Int).toNat = 3 from rfl, num_k3 (by omega) (by omega), off_3 rfl, show o + k * 3 = o + 3 * k by omega]
  · rw [show (4 : Int).toNat = 4 from rfl, num_k4 (by omega) (by omega), off_4 rfl, show o + k * 4 = o + 4 * k by omega]
def MGS (tf : Nat → Int32) (o w d b cnt : Int) (st sz pl : Nat → Int32) (P : Int) : Prop := ∀ k : Int, 0 ≤ k → k < cnt → Int32.toInt (sz (b + k).toNat) = OFF tf o w (k + 1) - OFF tf o w k ∧ 0 ≤ Int32.toInt (st (b + k).toNat) ∧ Int32.toInt (st (b + k).toNat) + (OFF tf o w (k + 1) - OFF tf o w k) ≤ P ∧ ∀ i : Int, 0 ≤ i → i < OFF tf o w (k + 1) - OFF tf o w k → pl (Int32.toInt (st (b + k).toNat) + i).toNat &&& 255 = tf (d + OFF tf o w k + i).toNat &&& 255
def KPX (b c : Int) (st st1 : Nat → Int32) : Prop := ∀ j : Nat, (j : Int) < b ∨ b + c ≤ j → st1 j = st j
theorem kpx_0 {b c : Int} {st : Nat → Int32} : KPX b c st st := fun _ _ => rfl
theorem kpx_le {b c c2 : Int} {st st1 : Nat → Int32} (h : KPX b c st st1) (e : c ≤ c2) : KPX b c2 st st1 := fun j hj => h j (by omega)
theorem kpx_tr {b c : Int} {st st1 st2 : Nat → Int32} (h : KPX b c st st1) (k : KPX b c st1 st2) : KPX b c st st2 := fun j hj => (k j hj).trans (h j hj)
/-- a stretch of the tables written, nothing else -/
def FRM (b c : Int) (st st1 sz sz1 pl pl1 : Nat → Int32) (P P1 : Int) : Prop := KPX b c st st1 ∧ KPX b c sz sz1 ∧ LOW pl pl1 P ∧ P ≤ P1
theorem frm_0 {b c P : Int} {st sz pl : Nat → Int32} : FRM b c st st sz sz pl pl P P := ⟨kpx_0, kpx_0, low_0, Int.le_refl _⟩
theorem frm_le {b c c2 P P1 : Int} {st st1 sz sz1 pl pl1 : Nat → Int32} (h : FRM b c st st1 sz sz1 pl pl1 P P1) (e : c ≤ c2) : FRM b c2 st st1 sz sz1 pl pl1 P P1 := ⟨kpx_le h.1 e, kpx_le h.2.1 e, h.2.2⟩
theorem mgs_fr {tf st sz pl st1 sz1 pl1 : Nat → Int32} {o w d b cnt P P1 b2 c2 : Int} (h : MGS tf o w d b cnt st sz pl P) (F : FRM b2 c2 st st1 sz sz1 pl pl1 P P1) (hb : 0 ≤ b) (hd : b + cnt ≤ b2 ∨ b2 + c2 ≤ b) : MGS tf o w d b cnt st1 sz1 pl1 P1 := by
  intro k h0 hk
  obtain ⟨q1, q2, q3, q4⟩ := h k h0 hk
  obtain ⟨f1, f2, f3, f4⟩ := F
  have e1 := f1 (b + k).toNat (by omega)
  have e2 := f2 (b + k).toNat (by omega)
  rw [e1, e2]
  refine ⟨q1, q2, by omega, fun i hi hn => ?_⟩
  rw [f3 _ (by omega)]
  exact q4 i hi hn
def MCP (tf : Nat → Int32) (F : Int) (pl0 pl : Nat → Int32) (P i : Int) : Prop := (∀ j : Int, 0 ≤ j → j < i → pl (P + j).toNat &&& 255 = tf (F + j).toNat &&& 255) ∧ LOW pl0 pl P
theorem mcp_0 {tf pl : Nat → Int32} {F P : Int} : MCP tf F pl pl P 0 := ⟨fun j h0 h1 => by omega, low_0⟩
theorem mcp_step {tf pl0 pl pl2 : Nat → Int32} {F P i i2 : Int} {x y z : Int32} (h : MCP tf F pl0 pl P i) (e1 : upd pl (Int32.toNatClampNeg x) (vp_nar .byte z) = pl2) (e2 : tf (Int32.toNatClampNeg y) = z) (hx : Int32.toInt x = P + i) (hy : Int32.toInt y = F + i) (h0 : 0 ≤ i) (hP : 0 ≤ P) (hi : i2 = i + 1) : MCP tf F pl0 pl2 P i2 := by
  have hc : Int32.toNatClampNeg x = (P + i).toNat := by show (Int32.toInt x).toNat = _; rw [hx]
  have hd : Int32.toNatClampNeg y = (F + i).toNat := by show (Int32.toInt y).toNat = _; rw [hy]
  rw [hc] at e1
  rw [hd] at e2
  refine ⟨fun j hj hk => ?_, fun j hj => ?_⟩
  · rw [← e1, upd_eq]
    by_cases h9 : j = i
    · rw [h9, if_pos rfl, nar_and, e2]
    · rw [if_neg (by omega)]
      exact h.1 j hj (by omega)
  · rw [← e1, upd_eq, if_neg (by omega)]
    exact h.2 j hj
def MGI (tf : Nat → Int32) (o w d b k : Int) (st0 sz0 pl0 : Nat → Int32) (P0 : Int) (st sz pl : Nat → Int32) (P : Int) : Prop := MGS tf o w d b k st sz pl P ∧ FRM b k st0 st sz0 sz pl0 pl P0 P
theorem mgi_0 {tf st sz pl : Nat → Int32} {o w d b P : Int} : MGI tf o w d b 0 st sz pl P st sz pl P := ⟨fun k h0 h1 => by omega, frm_0⟩
theorem mgi_step {tf st0 sz0 pl0 st sz pl st2 sz2 pl2 : Nat → Int32} {o w d b k k2 P0 P P2 F i : Int} {x p z : Int32} (h : MGI tf o w d b k st0 sz0 pl0 P0 st sz pl P) (m : MCP tf F pl pl2 P i) (hi : OFF tf o w (k + 1) - OFF tf o w k ≤ i) (e1 : upd st (Int32.toNatClampNeg x) p = st2) (e2 : upd sz (Int32.toNatClampNeg x) z = sz2) (hx : Int32.toInt x = b + k) (hp : Int32.toInt p = P) (hz : Int32.toInt z = OFF tf o w (k + 1) - OFF tf o w k) (hz0 : 0 ≤ Int32.toInt z) (hF : F = d + OFF tf o w k) (h0 : 0 ≤ k) (hb : 0 ≤ b) (hP : 0 ≤ P) (hP2 : P2 = P + Int32.toInt z) (hk : k2 = k + 1) : MGI tf o w d b k2 st0 sz0 pl0 P0 st2 sz2 pl2 P2 := by
  have hc : Int32.toNatClampNeg x = (b + k).toNat := by show (Int32.toInt x).toNat = _; rw [hx]
  rw [hc] at e1 e2
  obtain ⟨h1, f1, f2, f3, f4⟩ := h
  refine ⟨fun j hj hjk => ?_, ?_, ?_, ?_, by omega⟩
  · rw [← e1, ← e2, upd_eq, upd_eq]
    by_cases h9 : j = k
    · rw [h9, if_pos rfl, if_pos rfl, hp]
      refine ⟨hz, hP, by omega, fun t ht hn => ?_⟩
      rw [m.1 t ht (by omega), hF]
    · rw [if_neg (by omega), if_neg (by omega)]
      obtain ⟨q1, q2, q3, q4⟩ := h1 j hj (by omega)
      refine ⟨q1, q2, by omega, fun t ht hn => ?_⟩
      rw [m.2 _ (by omega)]
      exact q4 t ht hn
  · intro j hj
    rw [← e1, upd_eq, if_neg (by omega)]
    exact f1 j (by omega)
  · intro j hj
    rw [← e2, upd_eq, if_neg (by omega)]
    exact f2 j (by omega)
  · exact low_tr f3 m.2 f4
theorem mgi_k {tf st0 sz0 pl0 st sz pl : Nat → Int32} {o w d b k k2 P0 P : Int} (h : MGI tf o w d b k st0 sz0 pl0 P0 st sz pl P) (e : k = k2) : MGI tf o w d b k2 st0 sz0 pl0 P0 st sz pl P := e ▸ h
/-- the programs of one sort, by an INDEX -/
def MSO (tf : Nat → Int32) (T cnt : Int) (dd : Int × Int) (b : Int) (st sz pl : Nat → Int32) (P : Int) : Prop := cnt = 0 ∨ ∃ a : Int, IX tf dd.2 dd.1 cnt a T ∧ MGS tf dd.2 dd.1 a b cnt st sz pl P
theorem mso_fr {tf st sz pl st1 sz1 pl1 : Nat → Int32} {T cnt b P P1 b2 c2 : Int} {dd : Int × Int} (h : MSO tf T cnt dd b st sz pl P) (F : FRM b2 c2 st st1 sz sz1 pl pl1 P P1) (hb : 0 ≤ b) (hd : b + cnt ≤ b2 ∨ b2 + c2 ≤ b) : MSO tf T cnt dd b st1 sz1 pl1 P1 := by
  rcases h with h | ⟨a, h1, h2⟩
  · exact Or.inl h
  · exact Or.inr ⟨a, h1, mgs_fr h2 F hb hd⟩
theorem mso_of {tf st0 sz0 pl0 st sz pl : Nat → Int32} {T ic pl9 ob oa ah p l m r b P0 P o w d cnt : Int} {v : Int × Int × Int} {β : Int → Int} (h : IDX β T p l m = some v) (x : IXR ic pl9 ob oa (ah + 1) p v) (N : HID (r = 0 ∨ ic = 0 ∨ IX tf oa ob ic ah T)) (hr : ¬ (r = 0)) (M : MGI tf o w d b cnt st0 sz0 pl0 P0 st sz pl P) (e1 : o = oa) (e2 : w = ob) (e3 : d = ah) (e4 : cnt = ic) : MSO tf T cnt (v.2.1, p + 3) b st sz pl P := by
  subst e1 e2 e3 e4
  rcases x.2.2 with h2 | ⟨h2, h3, _⟩
  · exact Or.inl (by omega)
  · rcases N with N | N | N
    · exact absurd N hr
    · exact Or.inl N
    · refine Or.inr ⟨d, ?_, ?_⟩
      · show IX tf (p + 3) v.2.1 cnt d T
        rw [h2, ← h3]
        exact N
      · show MGS tf (p + 3) v.2.1 d b cnt st sz pl P
        rw [h2, ← h3]
        exact M.1
def MPV (tf : Nat → Int32) (T p z cnt : Int) (st sz pl : Nat → Int32) (P : Int) : Prop := ∃ d, PRX (GB tf T) T p z = some d ∧ MSO tf T cnt d 1600 st sz pl P
theorem mso_c {tf st sz pl : Nat → Int32} {T cnt c2 b P : Int} {dd : Int × Int} (h : MSO tf T cnt dd b st sz pl P) (e : c2 = cnt) : MSO tf T c2 dd b st sz pl P := e ▸ h
theorem mpv_0 {tf st sz pl : Nat → Int32} {T p z e f0 fd cnt P : Int} {S : SLO} (D : SEQ f0 fd (DIC (GB tf T) p e) (fun s => s = S)) (hd : fd = 0) (he : e = p + z) (h : (S 19).1 = -1) (hc : cnt = 0) : MPV tf T p z cnt st sz pl P := by
  obtain ⟨S2, d1, d2⟩ := seq_v D hd
  subst d2
  refine ⟨(0, 0), ?_, Or.inl hc⟩
  unfold PRX
  rw [← he, d1, Option.bind_some, if_pos h]
theorem mpv_1 {tf st0 sz0 pl0 st sz pl : Nat → Int32} {T p z e f0 fd fi f1 q ic pl9 ob oa ah r P0 P cnt c2 : Int} {S : SLO} (D : SEQ f0 fd (DIC (GB tf T) p e) (fun s => s = S)) (hd : fd = 0) (he : e = p + z) (h : ¬ ((S 19).1 = -1)) (I : SEQ fi f1 (IDX (GB tf T) T q 0 65535) (IXR ic pl9 ob oa (ah + 1) q)) (h1 : f1 = 0) (hq : q = p + (S 19).2.1) (N : HID (r = 0 ∨ ic = 0 ∨ IX tf oa ob ic ah T)) (hr : ¬ (r = 0)) (M : MGI tf oa ob ah 1600 cnt st0 sz0 pl0 P0 st sz pl P) (e4 : cnt = ic) (e5 : c2 = cnt) : MPV tf T p z c2 st sz pl P := by
  obtain ⟨S2, d1, d2⟩ := seq_v D hd
  obtain ⟨v, i1, i2⟩ := seq_v I h1
  subst d2
  refine ⟨(v.2.1, q + 3), ?_, mso_c (mso_of i1 i2 N hr M rfl rfl rfl e4) e5⟩
  unfold PRX
  rw [← he, d1, Option.bind_some, if_neg h, ← hq, i1, Option.bind_some]
theorem cfx_val {β : Int → Int} {n f0 fh f1 f2 f3 f4 f5 f6 ph ic1 p1 ob1 oa1 ja1 ic2 p2 ob2 oa2 ja2 ic3 p3 ob3 oa3 ja3 ic4 p4 ob4 oa4 ja4 ic5 p5 ob5 oa5 ja5 p17 : Int} {Z : SLO} (H : SEQ f0 fh (HDR β n) (fun v => v = ph)) (I1 : SEQ fh f1 (IDX β n ph 1 1) (IXR ic1 p1 ob1 oa1 ja1 ph)) (I2 : SEQ f1 f2 (IDX β n p1 1 1) (IXR ic2 p2 ob2 oa2 ja2 p1)) (I3 : SEQ f2 f3 (IDX β n p2 0 65535) (IXR ic3 p3 ob3 oa3 ja3 p2)) (I4 : SEQ f3 f4 (IDX β n p3 0 65535) (IXR ic4 p4 ob4 oa4 ja4 p3)) (T : SEQ f4 f5 (TOPO β n ja2 p2) (fun S => S = Z)) (I5 : SEQ f5 f6 (IDX β n p17 1 40) (IXR ic5 p5 ob5 oa5 ja5 p17)) (e17 : p17 = (Z 17).2.1) (hf : f6 = 0) : ∃ v5 v4 : Int × Int × Int, IDX β n p17 1 40 = some v5 ∧ IXR ic5 p5 ob5 oa5 ja5 p17 v5 ∧ IDX β n p3 0 65535 = some v4 ∧ IXR ic4 p4 ob4 oa4 ja4 p3 v4 ∧ CFX β n = (if (Z 18).1 = -1 then some (0, 0) else PRX β n (Z 18).2.2 (Z 18).2.1).bind fun q => some ((v5.2.1, p17 + 3), q, (v4.2.1, p3 + 3)) := by
  have k5 := seq_k0 I5 hf
  have k4 := seq_k0 T k5
  have k3 := seq_k0 I4 k4
  have k2 := seq_k0 I3 k3
  have k1 := seq_k0 I2 k2
  have kh := seq_k0 I1 k1
  obtain ⟨v, v1, v2⟩ := seq_v H kh
  obtain ⟨i1, a1, b1⟩ := seq_v I1 k1
  obtain ⟨i2, a2, b2⟩ := seq_v I2 k2
  obtain ⟨i3, a3, b3⟩ := seq_v I3 k3
  obtain ⟨i4, a4, b4⟩ := seq_v I4 k4
  obtain ⟨S, t1, t2⟩ := seq_v T k5
  obtain ⟨i5, a5, b5⟩ := seq_v I5 hf
  subst v2 t2
  have r2 := idx_rng a2
  have e2 : ic2 = 1 := by have := b2.1; omega
  have ej : ja2 = p1 + 3 + i2.2.1 * 2 := by
    rcases b2.2.2 with h9 | ⟨h7, _, h9⟩
    · omega
    · rw [h9, e2, h7]
      rfl
  have t3 : DIC β ja2 p2 = some S := by
    unfold TOPO at t1
    cases hD : DICB β n ja2 p2 with
    | none => rw [hD] at t1; exact absurd t1 (by simp)
    | some S2 =>
      rw [hD, Option.bind_some] at t1
      split at t1
      · rw [← Option.some.inj t1]
        exact dicb_some hD
      · exact absurd t1 (by simp)
  refine ⟨i5, i4, a5, b5, a4, b4, ?_⟩
  unfold CFX
  rw [v1, Option.bind_some, a1, Option.bind_some, b1.2.1, a2, Option.bind_some, b2.2.1, a3, Option.bind_some, b3.2.1, a4, Option.bind_some, ← ej, t3, Option.bind_some, ← e17, a5, Option.bind_some]
def CFM (tf : Nat → Int32) (T ll lo lg : Int) (st sz pl : Nat → Int32) (P : Int) : Prop := ∃ d, CFX (GB tf T) T = some d ∧ MSO tf T ll d.1 0 st sz pl P ∧ MSO tf T lo d.2.1 1600 st sz pl P ∧ MSO tf T lg d.2.2 3200 st sz pl P
theorem cfm_pf {tf st sz pl : Nat → Int32} {n f0 fh f1 f2 f3 f4 f5 f6 ph ic1 p1 ob1 oa1 ja1 ic2 p2 ob2 oa2 ja2 ic3 p3 ob3 oa3 ja3 ic4 p4 ob4 oa4 ja4 ic5 p5 ob5 oa5 ja5 p17 ll lo lg P : Int} {Z : SLO} (H : SEQ f0 fh (HDR (GB tf n) n) (fun v => v = ph)) (I1 : SEQ fh f1 (IDX (GB tf n) n ph 1 1) (IXR ic1 p1 ob1 oa1 ja1 ph)) (I2 : SEQ f1 f2 (IDX (GB tf n) n p1 1 1) (IXR ic2 p2 ob2 oa2 ja2 p1)) (I3 : SEQ f2 f3 (IDX (GB tf n) n p2 0 65535) (IXR ic3 p3 ob3 oa3 ja3 p2)) (I4 : SEQ f3 f4 (IDX (GB tf n) n p3 0 65535) (IXR ic4 p4 ob4 oa4 ja4 p3)) (T : SEQ f4 f5 (TOPO (GB tf n) n ja2 p2) (fun S => S = Z)) (I5 : SEQ f5 f6 (IDX (GB tf n) n p17 1 40) (IXR ic5 p5 ob5 oa5 ja5 p17)) (e17 : p17 = (Z 17).2.1) (hf : f6 = 0) (hL : ∀ v, IDX (GB tf n) n p17 1 40 = some v → IXR ic5 p5 ob5 oa5 ja5 p17 v → MSO tf n ll (v.2.1, p17 + 3) 0 st sz pl P) (hG : ∀ v, IDX (GB tf n) n p3 0 65535 = some v → IXR ic4 p4 ob4 oa4 ja4 p3 v → MSO tf n lg (v.2.1, p3 + 3) 3200 st sz pl P)
    (hP : ((Z 18).1 = -1 ∧ lo = 0) ∨ (¬ ((Z 18).1 = -1) ∧ MPV tf n (Z 18).2.2 (Z 18).2.1 lo st sz pl P)) : CFM tf n ll lo lg st sz pl P := by
  obtain ⟨v5, v4, a5, b5, a4, b4, eC⟩ := cfx_val H I1 I2 I3 I4 T I5 e17 hf
  rcases hP with ⟨q1, q2⟩ | ⟨q1, d, q2, q3⟩
  · refine ⟨((v5.2.1, p17 + 3), (0, 0), (v4.2.1, p3 + 3)), ?_, hL v5 a5 b5, Or.inl q2, hG v4 a4 b4⟩
    rw [eC, if_pos q1]
    rfl
  · refine ⟨((v5.2.1, p17 + 3), d, (v4.2.1, p3 + 3)), ?_, hL v5 a5 b5, q3, hG v4 a4 b4⟩
    rw [eC, if_neg q1, q2]
    rfl
theorem m18_v {tf : Nat → Int32} {h w : Nat → Int32} {a b : Nat → Int64} {r n x y lo P : Int} {st sz pl : Nat → Int32} (M : MTO r (Int32.toInt (h (Int32.toNatClampNeg 18))) (Int32.toInt (w (Int32.toNatClampNeg 18))) 2) (k : r = 1) (e : Int32.toInt (h (Int32.toNatClampNeg 18)) = 2) (ex : x = Int64.toInt (b (Int32.toNatClampNeg 18))) (ey : y = Int64.toInt (a (Int32.toNatClampNeg 18))) (Q : MPV tf n x y lo st sz pl P) : MPV tf n (SM h a b w 18).2.2 (SM h a b w 18).2.1 lo st sz pl P := by
  have h8 : ¬ (Int32.toInt (h (Int.toNat 18)) = -1) := fun h9 => by have h7 : Int32.toInt (h (Int32.toNatClampNeg 18)) = -1 := h9; omega
  rw [sm_one (Or.inr (Or.inl rfl)) (Or.inr rfl) M k h8, sm_two (Or.inr (Or.inl rfl)) M k h8]
  rw [ex, ey] at Q
  exact Q
