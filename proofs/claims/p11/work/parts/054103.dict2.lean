theorem and15_nn {x z : Int32} (e : x &&& 15 = z) (h : 0 ≤ Int32.toInt x) : Int32.toInt z = Int32.toInt x % 16 := by
  obtain ⟨j, hj, rfl⟩ := nn_of h
  rw [← e, nI_toInt hj, show (15 : Int32) = nI (2 ^ 4 - 1) from rfl, pk_andN (by omega) 4 (by decide), nI_toInt (by omega)]
  omega
def RLX (β : Int → Int) (e o p : Int) : Option Int := if o = 1 then REAL β e p else some p
theorem real_step {β : Int → Int} {n b f0 f f1 f2 p p1 x o o2 c up lo : Int} {O : Option Int} (hb : b ≤ n) (hp : f = 0 → 0 ≤ p) (L : LPQ f0 f O (RLX β b o p) True) (ho1 : o = 1) (T : SEQ f f1 (BYT β n b p) (fun v => v = c ∧ p1 = p + 1)) (W : WNT x f1 f2) (hu : f1 = 0 → up = c / 16) (hl : f1 = 0 → lo = c % 16) (ex : f1 = 0 → (x = 1 ↔ (¬ (up = 13) ∧ (up = 15 ∨ ¬ (lo = 13))))) (eo : f1 = 0 → (o2 = 1 ∧ ¬ (up = 15) ∧ ¬ (lo = 15)) ∨ (¬ (o2 = 1) ∧ (up = 15 ∨ lo = 15))) : LPQ f0 f2 O (RLX β b o2 p1) True := by
  have kp : ¬ (f = 0) → ¬ (f2 = 0) := fun h => wnt_keep W (seq_keep T h)
  rcases L with ⟨l0, l1⟩ | ⟨l0, l1, l2, _⟩ | ⟨l0, l1, l2⟩
  · exact Or.inl ⟨l0, kp l1⟩
  · have l3 : O = REAL β b p := by rw [l2]; unfold RLX; rw [if_pos ho1]
    have hp1 := hp l1
    unfold BYT at T
    rcases T with ⟨t0, _⟩ | ⟨_, t1, v, t2, t3, t4⟩ | ⟨_, t1, t2⟩
    · exact absurd l1 t0
    · by_cases hc : 0 ≤ p ∧ p < n ∧ p < b
      · rw [if_pos hc] at t2
        have ev : β p = c := by rw [← t3]; exact Option.some.inj t2
        have hu1 := hu t1
        have hl1 := hl t1
        have ex1 := ex t1
        have eo1 := eo t1
        rw [REAL, if_pos hc.2.2, ev, ← hu1, ← hl1] at l3
        rcases W with ⟨w0, w1⟩ | ⟨w0, w1⟩
        · have hx := ex1.mp w0
          rw [if_neg (by omega)] at l3
          refine Or.inr (Or.inl ⟨l0, by omega, ?_, trivial⟩)
          rw [l3]
          unfold RLX
          by_cases ho : o2 = 1
          · rw [if_pos ho, if_neg (by omega), t4]
          · rw [if_neg ho, if_pos (by omega), t4]
        · have hx : ¬ (¬ (up = 13) ∧ (up = 15 ∨ ¬ (lo = 13))) := fun h9 => by have := ex1.mpr h9; omega
          rw [if_pos (by omega)] at l3
          exact Or.inr (Or.inr ⟨l0, w1, l3⟩)
      · rw [if_neg hc] at t2
        exact absurd t2 (by simp)
    · by_cases hc : 0 ≤ p ∧ p < n ∧ p < b
      · rw [if_pos hc] at t2
        exact absurd t2 (by simp)
      · rw [REAL, if_neg (by omega)] at l3
        exact Or.inr (Or.inr ⟨l0, wnt_keep W t1, l3⟩)
  · exact Or.inr (Or.inr ⟨l0, kp l1, l2⟩)
theorem real_0 {β : Int → Int} {e p f : Int} : LPQ f f (REAL β e p) (RLX β e 1 p) True := lpq_0 trivial
theorem real_end {β : Int → Int} {e p f0 f o q : Int} (L : LPQ f0 f (REAL β e p) (RLX β e o q) True) (h : f = 0 → ¬ (o = 1)) : SEQ f0 f (REAL β e p) (fun v => v = q) := by
  rcases L with ⟨l0, l1⟩ | ⟨l0, l1, l2, _⟩ | ⟨l0, l1, l2⟩
  · exact Or.inl ⟨l0, l1⟩
  · refine Or.inr (Or.inl ⟨l0, l1, q, ?_, rfl⟩)
    rw [l2]
    unfold RLX
    rw [if_neg (h l1)]
  · exact Or.inr (Or.inr ⟨l0, l1, l2⟩)
theorem s16_of {x z : Int32} (e : (Int32.toInt16 x).toInt32 = z) (h0 : 0 ≤ Int32.toInt x) (h1 : Int32.toInt x ≤ 65535) : Int32.toInt z = s16 (Int32.toInt x) := by
  rw [← e, Int16.toInt_toInt32, Int32.toInt_toInt16]
  unfold s16
  rw [Int.bmod_def]
  split <;> split <;> omega
theorem s32_of {r : Int64} {z : Int32} (e : Int64.toInt32 r = z) (h0 : 0 ≤ Int64.toInt r) (h1 : Int64.toInt r ≤ 4294967295) : Int32.toInt z = s32 (Int64.toInt r) := by
  rw [← e, Int64.toInt_toInt32]
  unfold s32
  rw [Int.bmod_def]
  split <;> split <;> omega
def WHO (x b r : Int) : Prop := (x = 28 ∧ r = s16 b) ∨ (x = 29 ∧ r = b) ∨ (¬ (x = 28) ∧ ¬ (x = 29) ∧ x ≤ 246 ∧ r = x - 139) ∨ (246 < x ∧ x ≤ 250 ∧ r = (x - 247) * 256 + b + 108) ∨ (250 < x ∧ r = -(x - 251) * 256 - b - 108)
theorem dst_bad {β : Int → Int} {n b p f0 fa k a d r : Int} {S : SLO} {P : Int → Prop} {R : Int × Int × Int × Int × Int × SLO → Prop} (hc : b ≤ n ∧ 0 ≤ p ∧ p < b) (T : SEQ f0 fa (BYT β n b p) P) (hf : ¬ (fa = 0)) : SEQ f0 fa (DST β b p k a d r S) R := by
  rcases T with h | ⟨_, h, _⟩ | ⟨_, _, h⟩
  · exact Or.inl h
  · exact absurd h hf
  · rw [byt_ok (by omega)] at h
    exact absurd h (by simp)
theorem byt_get {β : Int → Int} {n b p f0 fa c pa : Int} (hc : b ≤ n ∧ 0 ≤ p ∧ p < b) (T : SEQ f0 fa (BYT β n b p) (fun v => v = c ∧ pa = p + 1)) (hf : fa = 0) : f0 = 0 ∧ β p = c ∧ pa = p + 1 := by
  rcases T with ⟨_, h⟩ | ⟨h0, _, v, h1, h2, h3⟩ | ⟨_, h, _⟩
  · exact absurd hf h
  · rw [byt_ok (by omega)] at h1
    exact ⟨h0, by rw [← h2]; exact Option.some.inj h1, h3⟩
  · exact absurd hf h
theorem dst_op {β : Int → Int} {n b p f0 fa k a d r c pa : Int} {S : SLO} {R : Int × Int × Int × Int × Int × SLO → Prop} (hc : b ≤ n ∧ 0 ≤ p ∧ p < b) (T : SEQ f0 fa (BYT β n b p) (fun v => v = c ∧ pa = p + 1)) (hf : fa = 0) (h1 : c ≤ 21) (h2 : ¬ (c = 12)) (hR : R (pa, 0, 0, 0, 0, TEL S c k a d r)) : SEQ f0 fa (DST β b p k a d r S) R := by
  obtain ⟨e0, e1, e2⟩ := byt_get hc T hf
  refine Or.inr (Or.inl ⟨e0, hf, _, ?_, hR⟩)
  unfold DST
  rw [e1, if_pos h1, if_neg h2, e2]
theorem dst_12 {β : Int → Int} {n b p f0 fa fb k a d r c c2 pa pb : Int} {S : SLO} {R : Int × Int × Int × Int × Int × SLO → Prop} (hc : b ≤ n ∧ 0 ≤ p ∧ p < b) (T : SEQ f0 fa (BYT β n b p) (fun v => v = c ∧ pa = p + 1)) (hf : fa = 0) (h2 : c = 12) (T2 : SEQ fa fb (BYT β n b pa) (fun v => v = c2 ∧ pb = pa + 1)) (hR : fb = 0 → R (pb, 0, 0, 0, 0, TEL S (256 + c2) k a d r)) : SEQ f0 fb (DST β b p k a d r S) R := by
  obtain ⟨e0, e1, e2⟩ := byt_get hc T hf
  have eD : DST β b p k a d r S = if p + 1 < b then some (p + 2, 0, 0, 0, 0, TEL S (256 + β (p + 1)) k a d r) else none := by
    unfold DST
    rw [e1, if_pos (by omega), if_pos h2]
  rcases T2 with ⟨t0, _⟩ | ⟨_, t1, v, t2, t3, t4⟩ | ⟨_, t1, t2⟩
  · exact absurd hf t0
  · unfold BYT at t2
    by_cases h : 0 ≤ pa ∧ pa < n ∧ pa < b
    · rw [if_pos h] at t2
      have ev : β (p + 1) = c2 := by rw [← t3, ← e2]; exact Option.some.inj t2
      refine Or.inr (Or.inl ⟨e0, t1, _, ?_, hR t1⟩)
      rw [eD, if_pos (by omega), ev, show p + 2 = pb by omega]
    · rw [if_neg h] at t2
      exact absurd t2 (by simp)
  · unfold BYT at t2
    by_cases h : 0 ≤ pa ∧ pa < n ∧ pa < b
    · rw [if_pos h] at t2
      exact absurd t2 (by simp)
    · refine Or.inr (Or.inr ⟨e0, t1, ?_⟩)
      rw [eD, if_neg (by omega)]
theorem dst_no {β : Int → Int} {n b p f0 fa fb k a d r c pa : Int} {S : SLO} {R : Int × Int × Int × Int × Int × SLO → Prop} (hc : b ≤ n ∧ 0 ≤ p ∧ p < b) (T : SEQ f0 fa (BYT β n b p) (fun v => v = c ∧ pa = p + 1)) (hf : fa = 0) (h2 : 21 < c) (hk : k = 48 ∨ ¬ ((28 ≤ c ∧ c ≤ 30) ∨ (32 ≤ c ∧ c ≤ 254))) (hg : ¬ (fb = 0)) : SEQ f0 fb (DST β b p k a d r S) R := by
  obtain ⟨e0, e1, e2⟩ := byt_get hc T hf
  refine Or.inr (Or.inr ⟨e0, hg, ?_⟩)
  unfold DST
  rw [e1, if_neg (by omega)]
  by_cases h : k = 48
  · rw [if_pos h]
  · rw [if_neg h]
    unfold OPN
    rw [if_neg (by omega), if_neg (by omega), if_neg (by omega), if_neg (by omega), if_neg (by omega), if_neg (by omega)]
    rfl
theorem dst_real {β : Int → Int} {n b p f0 fa fw fb k a d r c pa pb : Int} {S : SLO} {R : Int × Int × Int × Int × Int × SLO → Prop} (hc : b ≤ n ∧ 0 ≤ p ∧ p < b) (T : SEQ f0 fa (BYT β n b p) (fun v => v = c ∧ pa = p + 1)) (hf : fa = 0) (h2 : c = 30) (hk : ¬ (k = 48)) (hfw : fw = 0) (Q : SEQ fw fb (REAL β b pa) (fun v => v = pb)) (hR : fb = 0 → R (pb, k + 1, if k = 0 then 0 else a, if k = 1 then 0 else d, 1, S)) : SEQ f0 fb (DST β b p k a d r S) R := by
  obtain ⟨e0, e1, e2⟩ := byt_get hc T hf
  have eD : DST β b p k a d r S = (REAL β b pa).bind fun q => some (q, k + 1, if k = 0 then 0 else a, if k = 1 then 0 else d, 1, S) := by
    unfold DST
    rw [e1, if_neg (by omega), if_neg hk]
    unfold OPN
    rw [if_neg (by omega), if_neg (by omega), if_pos h2, ← e2]
    cases REAL β b pa with
    | none => rfl
    | some q => rfl
  rcases Q with ⟨t0, _⟩ | ⟨_, t1, v, t2, t3⟩ | ⟨_, t1, t2⟩
  · exact absurd hfw t0
  · refine Or.inr (Or.inl ⟨e0, t1, _, ?_, hR t1⟩)
    rw [eD, t2, t3]
    rfl
  · refine Or.inr (Or.inr ⟨e0, t1, ?_⟩)
    rw [eD, t2]
    rfl
theorem dst_num {β : Int → Int} {n b p f0 fa fw fb k a d r c pa pb w N Nv V : Int} {S : SLO} {R : Int × Int × Int × Int × Int × SLO → Prop} (hc : b ≤ n ∧ 0 ≤ p ∧ p < b) (T : SEQ f0 fa (BYT β n b p) (fun v => v = c ∧ pa = p + 1)) (hf : fa = 0) (h2 : 28 ≤ c ∧ c ≤ 254) (h3 : ¬ (c = 30) ∧ ¬ (c = 31)) (hk : ¬ (k = 48)) (hw : (c = 28 ∧ w = 2) ∨ (c = 29 ∧ w = 4) ∨ (247 ≤ c ∧ w = 1) ∨ (32 ≤ c ∧ c ≤ 246 ∧ w = 0)) (hfw : fw = 0) (Q : SEQ fw fb (NUMO β n b pa w.toNat) (fun v => v = N ∧ (w < 0 ∨ pb = pa + w))) (hN : fb = 0 → Nv = s32 N) (hB : fb = 0 → 0 ≤ N ∧ (w < 4 → N ≤ 65535)) (hV : fb = 0 → WHO c Nv V) (hR : fb = 0 → R (pb, k + 1, if k = 0 then V else a, if k = 1 then V else d, r, S)) : SEQ f0 fb (DST β b p k a d r S) R := by
  obtain ⟨e0, e1, e2⟩ := byt_get hc T hf
  have eD : DST β b p k a d r S = (OPN β b c pa).bind fun q => some (q.2.1, k + 1, if k = 0 then q.1 else a, if k = 1 then q.1 else d, if q.2.2 = 1 then 1 else r, S) := by
    unfold DST
    rw [e1, if_neg (by omega), if_neg hk, e2]
  have main : (fb = 0 → OPN β b c pa = some (V, pb, 0)) ∧ (¬ (fb = 0) → OPN β b c pa = none) := by
    have ok : fb = 0 → NUMO β n b pa w.toNat = some N ∧ pb = pa + w := fun h => by
      rcases Q with ⟨t0, _⟩ | ⟨_, _, v, t2, t3, t4⟩ | ⟨_, t1, _⟩
      · exact absurd hfw t0
      · exact ⟨by rw [t2, t3], by omega⟩
      · exact absurd h t1
    have no : ¬ (fb = 0) → NUMO β n b pa w.toNat = none := fun h => by
      rcases Q with ⟨t0, _⟩ | ⟨_, t1, _⟩ | ⟨_, _, t2⟩
      · exact absurd hfw t0
      · exact absurd t1 h
      · exact t2
    rcases hw with ⟨rfl, rfl⟩ | ⟨rfl, rfl⟩ | ⟨hw1, rfl⟩ | ⟨hw1, hw2, rfl⟩
    · have eN := numo_eq (β := β) (n := n) (b := b) (p := pa) 1
      constructor
      · intro h
        obtain ⟨o1, o2⟩ := ok h
        have o3 : NUMO β n b pa (1 + 1) = some N := o1
        rw [eN] at o3
        by_cases hh : 0 ≤ pa ∧ pa + (1 + 1 : Nat) ≤ n ∧ pa + (1 + 1 : Nat) ≤ b
        · rw [if_pos hh] at o3
          have eM : NUM β pa 2 = N := Option.some.inj o3
          have hb1 := hB h
          have hv := hV h
          have hn := hN h
          have : V = s16 N := by
            rcases hv with ⟨_, h9⟩ | ⟨h9, _⟩ | ⟨h9, _⟩ | ⟨h9, _⟩ | ⟨h9, _⟩
            · rw [h9, hn]; unfold s32; rw [if_pos (by omega)]
            all_goals omega
          unfold OPN
          rw [if_pos rfl, if_pos (by omega), eM, this, show pa + 2 = pb by omega]
        · rw [if_neg hh] at o3
          exact absurd o3 (by simp)
      · intro h
        have o3 : NUMO β n b pa (1 + 1) = none := no h
        rw [eN] at o3
        by_cases hh : 0 ≤ pa ∧ pa + (1 + 1 : Nat) ≤ n ∧ pa + (1 + 1 : Nat) ≤ b
        · rw [if_pos hh] at o3
          exact absurd o3 (by simp)
        · unfold OPN
          rw [if_pos rfl, if_neg (by omega)]
    · have eN := numo_eq (β := β) (n := n) (b := b) (p := pa) 3
      constructor
      · intro h
        obtain ⟨o1, o2⟩ := ok h
        have o3 : NUMO β n b pa (3 + 1) = some N := o1
        rw [eN] at o3
        by_cases hh : 0 ≤ pa ∧ pa + (3 + 1 : Nat) ≤ n ∧ pa + (3 + 1 : Nat) ≤ b
        · rw [if_pos hh] at o3
          have eM : NUM β pa 4 = N := Option.some.inj o3
          have hv := hV h
          have hn := hN h
          have : V = s32 N := by
            rcases hv with ⟨h9, _⟩ | ⟨_, h9⟩ | ⟨_, h9, _⟩ | ⟨h9, _⟩ | ⟨h9, _⟩
            · omega
            · rw [h9, hn]
            all_goals omega
          unfold OPN
          rw [if_neg (by omega), if_pos rfl, if_pos (by omega), eM, this, show pa + 4 = pb by omega]
        · rw [if_neg hh] at o3
          exact absurd o3 (by simp)
      · intro h
        have o3 : NUMO β n b pa (3 + 1) = none := no h
        rw [eN] at o3
        by_cases hh : 0 ≤ pa ∧ pa + (3 + 1 : Nat) ≤ n ∧ pa + (3 + 1 : Nat) ≤ b
        · rw [if_pos hh] at o3
          exact absurd o3 (by simp)
        · unfold OPN
          rw [if_neg (by omega), if_pos rfl, if_neg (by omega)]
    · constructor
      · intro h
        obtain ⟨o1, o2⟩ := ok h
        have o3 : BYT β n b pa = some N := by rw [byt_numo]; exact o1
        unfold BYT at o3
        by_cases hh : 0 ≤ pa ∧ pa < n ∧ pa < b
        · rw [if_pos hh] at o3
          have eM : β pa = N := Option.some.inj o3
          have hb1 := hB h
          have hv := hV h
          have hn : Nv = N := by rw [hN h]; unfold s32; rw [if_pos (by omega)]
          have hv2 : (c ≤ 250 ∧ V = (c - 247) * 256 + N + 108) ∨ (250 < c ∧ V = -(c - 251) * 256 - N - 108) := by
            rcases hv with ⟨h9, _⟩ | ⟨h9, _⟩ | ⟨_, _, h9, _⟩ | ⟨_, h9, h8⟩ | ⟨h9, h8⟩
            · omega
            · omega
            · omega
            · exact Or.inl ⟨h9, by rw [h8, hn]⟩
            · exact Or.inr ⟨h9, by rw [h8, hn]⟩
          unfold OPN
          rw [if_neg (by omega), if_neg (by omega), if_neg (by omega), if_neg (by omega)]
          rcases hv2 with ⟨h9, h8⟩ | ⟨h9, h8⟩
          · rw [if_pos ⟨hw1, h9⟩, if_pos (by omega), eM, h8, show pa + 1 = pb by omega]
          · rw [if_neg (by omega), if_pos (by omega), if_pos (by omega), eM, h8, show pa + 1 = pb by omega]
        · rw [if_neg hh] at o3
          exact absurd o3 (by simp)
      · intro h
        have o3 : BYT β n b pa = none := by rw [byt_numo]; exact no h
        unfold BYT at o3
        by_cases hh : 0 ≤ pa ∧ pa < n ∧ pa < b
        · rw [if_pos hh] at o3
          exact absurd o3 (by simp)
        · unfold OPN
          rw [if_neg (by omega), if_neg (by omega), if_neg (by omega), if_neg (by omega)]
          by_cases h9 : c ≤ 250
          · rw [if_pos ⟨hw1, h9⟩, if_neg (by omega)]
          · rw [if_neg (by omega), if_pos (by omega), if_neg (by omega)]
    · constructor
      · intro h
        obtain ⟨o1, o2⟩ := ok h
        have hv := hV h
        have hv2 : V = c - 139 := by
          rcases hv with ⟨h9, _⟩ | ⟨h9, _⟩ | ⟨_, _, _, h9⟩ | ⟨h9, _⟩ | ⟨h9, _⟩
          · omega
          · omega
          · exact h9
          all_goals omega
        unfold OPN
        rw [if_neg (by omega), if_neg (by omega), if_neg (by omega), if_pos ⟨hw1, hw2⟩, hv2, show pb = pa by omega]
      · intro h
        have o3 : (some 0 : Option Int) = none := no h
        exact absurd o3 (by simp)
  by_cases h : fb = 0
  · refine Or.inr (Or.inl ⟨e0, h, _, ?_, hR h⟩)
    rw [eD, main.1 h]
    rfl
  · refine Or.inr (Or.inr ⟨e0, h, ?_⟩)
    rw [eD, main.2 h]
    rfl
theorem tup0 {pa p1 k1 r1 o o2 k a d r : Int} {S S1 : SLO} {x y : Int32} (hp : pa = p1) (hk : k1 = 0) (hr : r1 = 0) (hS : S1 = TEL S o k a d r) (ho : o = o2) : ((pa, 0, 0, 0, 0, TEL S o2 k a d r) : Int × Int × Int × Int × Int × SLO) = (p1, k1, NZ k1 0 x, NZ k1 1 y, r1, S1) := by
  subst ho hp hk hr hS
  rfl
theorem tup1 {pb p1 k1 k A1 B1 A B r1 r : Int} {S S1 : SLO} (hp : pb = p1) (hk : k1 = k + 1) (hAB : A1 = A ∧ B1 = B) (hr : r1 = r) (hS : S1 = S) : ((pb, k + 1, A, B, r, S) : Int × Int × Int × Int × Int × SLO) = (p1, k1, A1, B1, r1, S1) := by
  obtain ⟨hA, hB⟩ := hAB
  subst hp hk hA hB hr hS
  rfl
theorem l2i_eq {r : Int64} {z : Int32} (e : Int64.toInt32 r = z) (h0 : 0 ≤ Int64.toInt r) : 65535 < Int64.toInt r ∨ Int32.toInt z = Int64.toInt r := by
  by_cases h : 65535 < Int64.toInt r
  · exact Or.inl h
  · refine Or.inr ?_
    rw [← e]
    exact l2i_in (by omega) (by omega)
def BB (x r : Int) : Prop := (x = 28 ∧ r = 2) ∨ ((x = 29 ∨ x = 255) ∧ r = 4) ∨ (247 ≤ x ∧ ¬ (x = 255) ∧ r = 1) ∨ (x < 247 ∧ ¬ (x = 28) ∧ ¬ (x = 29) ∧ r = 0)
def NBND (k r : Int) : Prop := (2 < k ∨ r ≤ 65535) ∧ (1 < k ∨ r ≤ 255) ∧ (0 < k ∨ r = 0)
def ISOP (x r : Int) : Prop := (r = 1 ∧ ((28 ≤ x ∧ x ≤ 30) ∨ (32 ≤ x ∧ x ≤ 254))) ∨ (r = 0 ∧ ¬ ((28 ≤ x ∧ x ≤ 30) ∨ (32 ≤ x ∧ x ≤ 254)))
theorem isop_1 {x r : Int} (h : ISOP x r) (hr : r = 1) : (28 ≤ x ∧ x ≤ 254) ∧ ¬ (x = 31) := by
  unfold ISOP at h
  omega
theorem isop_0 {x r : Int} (h : ISOP x r) (hr : r = 0) : ¬ ((28 ≤ x ∧ x ≤ 30) ∨ (32 ≤ x ∧ x ≤ 254)) := by
  unfold ISOP at h
  omega
theorem bb_w {c w : Int} (h : BB c w) (h1 : (28 ≤ c ∧ c ≤ 254) ∧ ¬ (c = 31)) (h2 : ¬ (c = 30)) : (c = 28 ∧ w = 2) ∨ (c = 29 ∧ w = 4) ∨ (247 ≤ c ∧ w = 1) ∨ (32 ≤ c ∧ c ≤ 246 ∧ w = 0) := by
  unfold BB at h
  omega
theorem bb_n {c w N : Int} (hn : NBND w N) (h0 : 0 ≤ N) : 0 ≤ N ∧ (w < 4 → w ≤ 2 → N ≤ 65535) := by
  unfold NBND at hn
  omega
theorem bb_B {c w N : Int} (hb : BB c w) (hn : NBND w N) (h0 : 0 ≤ N) : 0 ≤ N ∧ (w < 4 → N ≤ 65535) := by
  unfold NBND at hn
  unfold BB at hb
  omega
theorem who_pre {c w : Int} {r : Int64} {z : Int32} (hb : BB c w) (hn : NBND w (Int64.toInt r)) (e : Int64.toInt32 r = z) (h0 : 0 ≤ Int64.toInt r) (hc : (28 ≤ c ∧ c ≤ 254) ∧ ¬ (c = 31)) : c = 29 ∨ (0 ≤ Int32.toInt z ∧ Int32.toInt z ≤ 65535) := by
  have h1 := l2i_eq e h0
  unfold NBND at hn
  unfold BB at hb
  omega
def DICB (β : Int → Int) (n p e : Int) : Option SLO := if p < e ∧ n < e then none else DIC β p e
theorem dct_0 {β : Int → Int} {e p f : Int} {m g s : Nat → Int32} {x y : Int32} (h : FILLED m (-1) 6) : LPQ f f (DIC β p e) (DCT β e p 0 (NZ 0 0 x) (NZ 0 1 y) 0 (SC m g s)) True := by
  rw [sc_clear h]
  exact lpq_0 trivial
theorem dct_step {β : Int → Int} {e p p1 f0 f f1 k a b r k1 a1 b1 r1 : Int} {S S1 : SLO} {O : Option SLO} (hp : p < e) (hlt : f1 = 0 → p < p1) (L : LPQ f0 f O (DCT β e p k a b r S) True) (T : SEQ f f1 (DST β e p k a b r S) (fun s => s = (p1, k1, a1, b1, r1, S1))) : LPQ f0 f1 O (DCT β e p1 k1 a1 b1 r1 S1) True := by
  rcases L with ⟨l0, l1⟩ | ⟨l0, l1, l2, _⟩ | ⟨l0, l1, l2⟩
  · exact Or.inl ⟨l0, seq_keep T l1⟩
  · rw [DCT, if_neg (by omega)] at l2
    rcases T with ⟨t0, _⟩ | ⟨_, t1, v, t2, t3⟩ | ⟨_, t1, t2⟩
    · exact absurd l1 t0
    · rw [t2, t3] at l2
      have l3 : O = if p < p1 then DCT β e p1 k1 a1 b1 r1 S1 else none := l2
      rw [if_pos (hlt t1)] at l3
      exact Or.inr (Or.inl ⟨l0, t1, l3, trivial⟩)
    · rw [t2] at l2
      exact Or.inr (Or.inr ⟨l0, t1, l2⟩)
  · exact Or.inr (Or.inr ⟨l0, seq_keep T l1, l2⟩)
theorem dict_end {β : Int → Int} {n p e pl f0 fl f1 k a b r x : Int} {S : SLO} (L : CND (e ≤ n ∨ e ≤ p) (LPQ f0 fl (DIC β p e) (DCT β e pl k a b r S) True)) (W : WNT x fl f1) (ex : x = 1 ↔ k = 0) (h0 : fl = 0 → f0 = 0) (h1 : fl = 0 → e ≤ pl) (h2 : fl = 0 → ¬ (p < e ∧ n < e)) : SEQ f0 f1 (DICB β n p e) (fun S9 => S9 = S) := by
  by_cases hf : f0 = 0
  · by_cases hc : p < e ∧ n < e
    · refine Or.inr (Or.inr ⟨hf, wnt_keep W (fun h9 => h2 h9 hc), ?_⟩)
      unfold DICB
      rw [if_pos hc]
    · have eD : DICB β n p e = DIC β p e := by unfold DICB; rw [if_neg hc]
      rw [eD]
      rcases L (by omega) with ⟨l0, _⟩ | ⟨_, l1, l2, _⟩ | ⟨_, l1, l2⟩
      · exact absurd hf l0
      · rw [DCT, if_pos (h1 l1)] at l2
        rcases W with ⟨w0, w1⟩ | ⟨w0, w1⟩
        · rw [if_pos (ex.mp w0)] at l2
          exact Or.inr (Or.inl ⟨hf, by omega, S, l2, rfl⟩)
        · rw [if_neg (fun h9 => by have := ex.mpr h9; omega)] at l2
          exact Or.inr (Or.inr ⟨hf, w1, l2⟩)
      · exact Or.inr (Or.inr ⟨hf, wnt_keep W l1, l2⟩)
  · exact Or.inl ⟨hf, wnt_keep W (fun h9 => hf (h0 h9))⟩
