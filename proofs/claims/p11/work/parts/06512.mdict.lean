/-! the reference's DICTs (p5) -/
theorem nnI (x : Int32) (h : x.toBitVec.toNat < 2147483648) : x.toInt = (x.toBitVec.toNat : Int) := by
  show x.toBitVec.toInt = _
  rw [BitVec.toInt_eq_toNat_of_lt (by omega)]
theorem nnI2 (x : Int32) (h : 0 ≤ x.toInt) : x.toInt = (x.toBitVec.toNat : Int) := by
  have h9 : 0 ≤ x.toBitVec.toInt := h
  have h2 := x.toBitVec.isLt
  show x.toBitVec.toInt = _
  rw [BitVec.toInt_eq_toNat_cond] at h9 ⊢
  split at h9 <;> split <;> omega
theorem shlI (a s : Int32) (k : Nat) (hs : (s.toBitVec.smod 32).toNat = k) : (a <<< s).toBitVec.toNat = a.toBitVec.toNat * 2 ^ k % 2 ^ 32 := by
  show (a.toBitVec <<< (s.toBitVec.smod 32).toNat).toNat = _
  rw [hs, BitVec.toNat_shiftLeft, Nat.shiftLeft_eq]
theorem orI (m : Nat) {a b : Int32} (k : Nat) (ha : a.toBitVec.toNat = 2 ^ m * k) (hb : b.toBitVec.toNat < 2 ^ m) : (a ||| b).toBitVec.toNat = a.toBitVec.toNat + b.toBitVec.toNat := by
  rw [Int32.toBitVec_or, BitVec.toNat_or, ha]
  exact (Nat.two_pow_add_eq_or_of_lt hb k).symm
theorem int_28 {a b x z s : Int32} (ha : 0 ≤ a.toInt ∧ a.toInt ≤ 255) (hb : 0 ≤ b.toInt ∧ b.toInt ≤ 255) (e1 : a <<< ((8 : Int32) &&& 31) = x) (e2 : x ||| b = z) (e3 : (Int32.toInt16 z).toInt32 = s) : s.toInt = s16 (a.toInt * 256 + b.toInt) := by
  have ea := nnI2 a ha.1
  have eb := nnI2 b hb.1
  have h1 := shlI a ((8 : Int32) &&& 31) 8 (by decide)
  rw [e1] at h1
  have h2 := orI (a := x) (b := b) 8 a.toBitVec.toNat (by rw [h1]; omega) (by omega)
  rw [e2] at h2
  have h3 := nnI z (by omega)
  rw [s16_of e3 (by omega) (by omega)]
  rw [show z.toInt = a.toInt * 256 + b.toInt by omega]
theorem int_29 {a b c d x y z u v w : Int32} (ha : 0 ≤ a.toInt ∧ a.toInt ≤ 255) (hb : 0 ≤ b.toInt ∧ b.toInt ≤ 255) (hc : 0 ≤ c.toInt ∧ c.toInt ≤ 255) (hd : 0 ≤ d.toInt ∧ d.toInt ≤ 255) (e1 : a <<< ((24 : Int32) &&& 31) = x) (e2 : b <<< ((16 : Int32) &&& 31) = y) (e3 : x ||| y = z) (e4 : c <<< ((8 : Int32) &&& 31) = u) (e5 : z ||| u = v) (e6 : v ||| d = w) : w.toInt = s32 (((a.toInt * 256 + b.toInt) * 256 + c.toInt) * 256 + d.toInt) := by
  have ea := nnI2 a ha.1
  have eb := nnI2 b hb.1
  have ec := nnI2 c hc.1
  have ed := nnI2 d hd.1
  have h1 := shlI a ((24 : Int32) &&& 31) 24 (by decide)
  have h2 := shlI b ((16 : Int32) &&& 31) 16 (by decide)
  have h4 := shlI c ((8 : Int32) &&& 31) 8 (by decide)
  rw [e1] at h1
  rw [e2] at h2
  rw [e4] at h4
  have h3 := orI (a := x) (b := y) 24 a.toBitVec.toNat (by rw [h1]; omega) (by omega)
  rw [e3] at h3
  have h5 := orI (a := z) (b := u) 16 (a.toBitVec.toNat * 256 + b.toBitVec.toNat) (by rw [h3, h1, h2]; omega) (by omega)
  rw [e5] at h5
  have h6 := orI (a := v) (b := d) 8 ((a.toBitVec.toNat * 256 + b.toBitVec.toNat) * 256 + c.toBitVec.toNat) (by rw [h5, h3, h1, h2, h4]; omega) (by omega)
  rw [e6] at h6
  show w.toBitVec.toInt = _
  unfold s32
  rw [BitVec.toInt_eq_toNat_cond]
  split <;> split <;> omega
theorem opn_of2 {β : Int → Int} {T e p f0 f N V q : Int} (hb : e ≤ T) (hp : 0 ≤ p) (Q : SEQ f0 f (NUMO β T e p 2) (fun v => v = N ∧ q = p + (2 : Nat))) (hV : f = 0 → V = s16 N) : SEQ f0 f (OPN β e 28 p) (fun t => t = (V, q, 0)) := by
  have eN := numo_eq (β := β) (n := T) (b := e) (p := p) 1
  have eO : OPN β e 28 p = if p + 2 ≤ e then some (s16 (NUM β p 2), p + 2, 0) else none := by unfold OPN; rw [if_pos rfl]
  rcases Q with h | ⟨h0, h1, v, h2, h3, h4⟩ | ⟨h0, h1, h2⟩
  · exact Or.inl h
  · rw [eN] at h2
    by_cases hc : 0 ≤ p ∧ p + (1 + 1 : Nat) ≤ T ∧ p + (1 + 1 : Nat) ≤ e
    · rw [if_pos hc] at h2
      have h5 : NUM β p 2 = N := by rw [← h3]; exact Option.some.inj h2
      refine Or.inr (Or.inl ⟨h0, h1, _, ?_, rfl⟩)
      rw [eO, if_pos (by omega), h5, hV h1, show p + 2 = q by omega]
    · rw [if_neg hc] at h2
      exact absurd h2 (by simp)
  · rw [eN] at h2
    by_cases hc : 0 ≤ p ∧ p + (1 + 1 : Nat) ≤ T ∧ p + (1 + 1 : Nat) ≤ e
    · rw [if_pos hc] at h2
      exact absurd h2 (by simp)
    · refine Or.inr (Or.inr ⟨h0, h1, ?_⟩)
      rw [eO, if_neg (by omega)]
theorem opn_of4 {β : Int → Int} {T e p f0 f N V q : Int} (hb : e ≤ T) (hp : 0 ≤ p) (Q : SEQ f0 f (NUMO β T e p 4) (fun v => v = N ∧ q = p + (4 : Nat))) (hV : f = 0 → V = s32 N) : SEQ f0 f (OPN β e 29 p) (fun t => t = (V, q, 0)) := by
  have eN := numo_eq (β := β) (n := T) (b := e) (p := p) 3
  have eO : OPN β e 29 p = if p + 4 ≤ e then some (s32 (NUM β p 4), p + 4, 0) else none := by unfold OPN; rw [if_neg (by decide), if_pos rfl]
  rcases Q with h | ⟨h0, h1, v, h2, h3, h4⟩ | ⟨h0, h1, h2⟩
  · exact Or.inl h
  · rw [eN] at h2
    by_cases hc : 0 ≤ p ∧ p + (3 + 1 : Nat) ≤ T ∧ p + (3 + 1 : Nat) ≤ e
    · rw [if_pos hc] at h2
      have h5 : NUM β p 4 = N := by rw [← h3]; exact Option.some.inj h2
      refine Or.inr (Or.inl ⟨h0, h1, _, ?_, rfl⟩)
      rw [eO, if_pos (by omega), h5, hV h1, show p + 4 = q by omega]
    · rw [if_neg hc] at h2
      exact absurd h2 (by simp)
  · rw [eN] at h2
    by_cases hc : 0 ≤ p ∧ p + (3 + 1 : Nat) ≤ T ∧ p + (3 + 1 : Nat) ≤ e
    · rw [if_pos hc] at h2
      exact absurd h2 (by simp)
    · refine Or.inr (Or.inr ⟨h0, h1, ?_⟩)
      rw [eO, if_neg (by omega)]
theorem opn_of0 {β : Int → Int} {e c p f V q : Int} (hc : 32 ≤ c ∧ c ≤ 246) (hV : V = c - 139) (eq : q = p) : SEQ f f (OPN β e c p) (fun t => t = (V, q, 0)) := by
  have eO : OPN β e c p = some (c - 139, p, 0) := by
    unfold OPN
    rw [if_neg (by omega), if_neg (by omega), if_neg (by omega), if_pos hc]
  rw [eO]
  exact seq_imp (seq_some _) (fun v _ h => by rw [h, hV, eq])
theorem opn_of1 {β : Int → Int} {T e c p f0 f r V q : Int} (hb : e ≤ T) (hp : 0 ≤ p) (hc : 247 ≤ c ∧ c ≤ 254) (Q : SEQ f0 f (BYT β T e p) (fun v => v = r ∧ q = p + 1)) (hV : f = 0 → (c ≤ 250 ∧ V = (c - 247) * 256 + r + 108) ∨ (250 < c ∧ V = -(c - 251) * 256 - r - 108)) : SEQ f0 f (OPN β e c p) (fun t => t = (V, q, 0)) := by
  have eO : OPN β e c p = if p + 1 ≤ e then some (if c ≤ 250 then (c - 247) * 256 + β p + 108 else -(c - 251) * 256 - β p - 108, p + 1, 0) else none := by
    unfold OPN
    rw [if_neg (by omega), if_neg (by omega), if_neg (by omega), if_neg (by omega)]
    by_cases h : c ≤ 250
    · rw [if_pos ⟨hc.1, h⟩, if_pos h]
    · rw [if_neg (by omega), if_pos (by omega), if_neg h]
  rcases Q with h | ⟨h0, h1, v, h2, h3, h4⟩ | ⟨h0, h1, h2⟩
  · exact Or.inl h
  · unfold BYT at h2
    by_cases hx : 0 ≤ p ∧ p < T ∧ p < e
    · rw [if_pos hx] at h2
      have h5 : β p = r := by rw [← h3]; exact Option.some.inj h2
      refine Or.inr (Or.inl ⟨h0, h1, _, ?_, rfl⟩)
      rw [eO, if_pos (by omega), h5, show p + 1 = q by omega]
      rcases hV h1 with ⟨h6, h7⟩ | ⟨h6, h7⟩
      · rw [if_pos h6, h7]
      · rw [if_neg (by omega), h7]
    · rw [if_neg hx] at h2
      exact absurd h2 (by simp)
  · unfold BYT at h2
    by_cases hx : 0 ≤ p ∧ p < T ∧ p < e
    · rw [if_pos hx] at h2
      exact absurd h2 (by simp)
    · refine Or.inr (Or.inr ⟨h0, h1, ?_⟩)
      rw [eO, if_neg (by omega)]
theorem opn_no {β : Int → Int} {e c p f0 f : Int} {R : Int × Int × Int → Prop} (hc : ¬ ((28 ≤ c ∧ c ≤ 30) ∨ (32 ≤ c ∧ c ≤ 254))) (hf : ¬ (f = 0)) : SEQ f0 f (OPN β e c p) R := by
  have eO : OPN β e c p = none := by
    unfold OPN
    rw [if_neg (by omega), if_neg (by omega), if_neg (by omega), if_neg (by omega), if_neg (by omega), if_neg (by omega)]
  by_cases h : f0 = 0
  · exact Or.inr (Or.inr ⟨h, hf, eO⟩)
  · exact Or.inl ⟨h, hf⟩
theorem opn_30 {β : Int → Int} {e p f0 f q V : Int} (Q : SEQ f0 f (REAL β e p) (fun v => v = q)) (hV : V = 0) : SEQ f0 f (OPN β e 30 p) (fun t => t = (V, q, 1)) := by
  have eO : OPN β e 30 p = (REAL β e p).bind fun q => some (0, q, 1) := by
    unfold OPN
    rw [if_neg (by decide), if_neg (by decide), if_pos rfl]
  rw [eO]
  refine seq_bind Q id (fun v _ hv => ?_)
  subst hv hV
  exact seq_some _
theorem opn_c {β : Int → Int} {e c d p f0 f : Int} {R : Int × Int × Int → Prop} (h : SEQ f0 f (OPN β e c p) R) (e9 : c = d) : SEQ f0 f (OPN β e d p) R := e9 ▸ h
theorem dst_opn {β : Int → Int} {n b p f0 fa fb k a d r c pa pb V rl : Int} {S : SLO} {R : Int × Int × Int × Int × Int × SLO → Prop} (hc : b ≤ n ∧ 0 ≤ p ∧ p < b) (T : SEQ f0 fa (BYT β n b p) (fun v => v = c ∧ pa = p + 1)) (hf : fa = 0) (h2 : 21 < c) (hk : ¬ (k = 48)) (Q : SEQ fa fb (OPN β b c pa) (fun q => q = (V, pb, rl))) (hR : fb = 0 → R (pb, k + 1, if k = 0 then V else a, if k = 1 then V else d, if rl = 1 then 1 else r, S)) : SEQ f0 fb (DST β b p k a d r S) R := by
  obtain ⟨e0, e1, e2⟩ := byt_get hc T hf
  have eD : DST β b p k a d r S = (OPN β b c pa).bind fun q => some (q.2.1, k + 1, if k = 0 then q.1 else a, if k = 1 then q.1 else d, if q.2.2 = 1 then 1 else r, S) := by
    unfold DST
    rw [e1, if_neg (by omega), if_neg hk, e2]
  rw [eD]
  rcases Q with ⟨t0, _⟩ | ⟨_, t1, v, t2, t3⟩ | ⟨_, t1, t2⟩
  · exact absurd hf t0
  · subst t3
    refine Or.inr (Or.inl ⟨e0, t1, _, ?_, hR t1⟩)
    rw [t2]
    rfl
  · refine Or.inr (Or.inr ⟨e0, t1, ?_⟩)
    rw [t2]
    rfl
theorem dst_48 {β : Int → Int} {n b p f0 fa fb k a d r c pa : Int} {S : SLO} {R : Int × Int × Int × Int × Int × SLO → Prop} (hc : b ≤ n ∧ 0 ≤ p ∧ p < b) (T : SEQ f0 fa (BYT β n b p) (fun v => v = c ∧ pa = p + 1)) (hf : fa = 0) (h2 : 21 < c) (hk : k = 48) (hg : ¬ (fb = 0)) : SEQ f0 fb (DST β b p k a d r S) R := dst_no hc T hf h2 (Or.inl hk) hg
def NZI (k c x : Int) : Int := if c < k then x else 0
def SM (h : Nat → Int32) (a b : Nat → Int64) (w : Nat → Int32) : SLO := fun o => if o = 17 ∨ o = 18 ∨ o = 262 ∨ o = 19 ∨ o = 20 ∨ o = 21 then (if Int32.toInt (h o.toNat) = -1 then (-1, 0, 0) else (if Int32.toInt (w o.toNat) = 0 then 49 else Int32.toInt (h o.toNat), if 0 < Int32.toInt (h o.toNat) then Int64.toInt (a o.toNat) else 0, if 1 < Int32.toInt (h o.toNat) then Int64.toInt (b o.toNat) else 0)) else (-1, 0, 0)
theorem sm_clear {h w : Nat → Int32} {a b : Nat → Int64} (hf : FILLED h (-1) 300) : SM h a b w = fun _ => (-1, 0, 0) := by
  funext o
  unfold SM
  by_cases ho : o = 17 ∨ o = 18 ∨ o = 262 ∨ o = 19 ∨ o = 20 ∨ o = 21
  · rw [if_pos ho, hf o.toNat (by omega)]
    rfl
  · rw [if_neg ho]
theorem sm_tell {h h2 w w2 : Nat → Int32} {a b a2 b2 : Nat → Int64} {i k v : Int32} {x y : Int64} {o K A B r g : Int} (ho : Int32.toInt i = o) (h0 : 0 ≤ o) (eh : upd h (Int32.toNatClampNeg i) k = h2) (ea : vp_updL a (Int32.toNatClampNeg i) x = a2) (eb : vp_updL b (Int32.toNatClampNeg i) y = b2) (ew : upd w (Int32.toNatClampNeg i) v = w2) (hk : Int32.toInt k = K) (hK : 0 ≤ K) (hv : Int32.toInt v = g) (hg : (g = 1 ∧ r = 0) ∨ (g = 0 ∧ r = 1)) (hA : A = NZI K 0 (Int64.toInt x)) (hB : B = NZI K 1 (Int64.toInt y)) : SM h2 a2 b2 w2 = TEL (SM h a b w) o K A B r := by
  have hi : Int32.toNatClampNeg i = o.toNat := by show (Int32.toInt i).toNat = _; rw [ho]
  rw [hi] at eh ea eb ew
  funext j
  by_cases hj : j = o
  · by_cases hs : o = 17 ∨ o = 18 ∨ o = 262 ∨ o = 19 ∨ o = 20 ∨ o = 21
    · rw [hj, tel_at hs]
      unfold SM
      rw [if_pos hs, ← eh, ← ea, ← eb, ← ew, upd_at, upd_at, hk, hv]
      unfold vp_updL
      rw [if_pos rfl, if_pos rfl, if_neg (by omega), hA, hB]
      unfold NZI
      congr 1
      · rcases hg with ⟨h1, h2⟩ | ⟨h1, h2⟩
        · rw [if_neg (by omega), if_neg (by omega)]
        · rw [if_pos h1, if_pos h2]
      · by_cases h1 : 0 < K
        · rw [if_pos h1, if_pos h1]
          by_cases h2 : 1 < K
          · rw [if_pos h2, if_pos h2]
          · rw [if_neg h2, if_neg h2]
        · rw [if_neg h1, if_neg h1, if_neg (by omega), if_neg (by omega)]
    · rw [hj]
      unfold SM TEL
      rw [if_neg hs, if_neg (fun h9 => hs h9.2)]
      exact (if_neg hs).symm
  · rw [tel_ne hj]
    unfold SM
    by_cases hs : j = 17 ∨ j = 18 ∨ j = 262 ∨ j = 19 ∨ j = 20 ∨ j = 21
    · have hne : j.toNat ≠ o.toNat := by omega
      rw [if_pos hs, if_pos hs, ← eh, ← ea, ← eb, ← ew, upd_ne hne, upd_ne hne]
      unfold vp_updL
      rw [if_neg hne, if_neg hne]
    · rw [if_neg hs, if_neg hs]
theorem sm_skip {S : SLO} {o k a b r : Int} (h : 300 ≤ o) : S = TEL S o k a b r := by
  funext j
  unfold TEL
  rw [if_neg (fun h9 => by omega)]
theorem nzi_add {k k2 x a b a2 b2 V : Int} (h0 : 0 ≤ k) (e : k2 = k + 1) (h1 : (k = 0 ∧ a2 = V) ∨ (¬ (k = 0) ∧ a2 = a)) (h2 : (k = 1 ∧ b2 = V) ∨ (¬ (k = 1) ∧ b2 = b)) : NZI k2 0 a2 = (if k = 0 then V else NZI k 0 a) ∧ NZI k2 1 b2 = (if k = 1 then V else NZI k 1 b) := by
  subst e
  unfold NZI
  constructor
  · rw [if_pos (by omega)]
    rcases h1 with ⟨h3, h4⟩ | ⟨h3, h4⟩
    · rw [if_pos h3, h4]
    · rw [if_neg h3, h4, if_pos (by omega)]
  · rcases h2 with ⟨h3, h4⟩ | ⟨h3, h4⟩
    · rw [if_pos h3, h4, if_pos (by omega)]
    · rw [if_neg h3, h4]
      by_cases h5 : 1 < k
      · rw [if_pos h5, if_pos (by omega)]
      · rw [if_neg h5, if_neg (by omega)]
theorem mct_0 {β : Int → Int} {e p f x y : Int} {h w : Nat → Int32} {a b : Nat → Int64} (hf : FILLED h (-1) 300) : LPQ f f (DIC β p e) (DCT β e p 0 (NZI 0 0 x) (NZI 0 1 y) 0 (SM h a b w)) True := by
  rw [sm_clear hf]
  exact lpq_0 trivial
theorem mct_end {β : Int → Int} {e p pl f0 fl f1 k a b r x : Int} {S : SLO} (L : LPQ f0 fl (DIC β p e) (DCT β e pl k a b r S) True) (W : (k = 0 ∧ f1 = fl) ∨ (¬ (k = 0) ∧ ¬ (f1 = 0))) (h1 : fl = 0 → e ≤ pl) (hx : x = 0) : SEQ f0 f1 (DIC β p e) (fun S9 => S9 = S) := by
  rcases L with ⟨l0, l1⟩ | ⟨l0, l1, l2, _⟩ | ⟨l0, l1, l2⟩
  · refine Or.inl ⟨l0, ?_⟩
    rcases W with ⟨_, w⟩ | ⟨_, w⟩
    · rw [w]; exact l1
    · exact w
  · rw [DCT, if_pos (h1 l1)] at l2
    rcases W with ⟨w0, w1⟩ | ⟨w0, w1⟩
    · rw [if_pos w0] at l2
      exact Or.inr (Or.inl ⟨l0, by rw [w1]; exact l1, S, l2, rfl⟩)
    · rw [if_neg w0] at l2
      exact Or.inr (Or.inr ⟨l0, w1, l2⟩)
  · refine Or.inr (Or.inr ⟨l0, ?_, l2⟩)
    rcases W with ⟨_, w⟩ | ⟨_, w⟩
    · rw [w]; exact l1
    · exact w
theorem lpq_no {α : Type} {f0 f f2 : Int} {O O2 : Option α} {P : Prop} {R : α → Prop} (L : LPQ f0 f O O2 P) (h : ¬ (f = 0)) (h2 : ¬ (f2 = 0)) : SEQ f0 f2 O R := by
  rcases L with ⟨l0, _⟩ | ⟨_, l1, _⟩ | ⟨l0, _, l2⟩
  · exact Or.inl ⟨l0, h2⟩
  · exact absurd l1 h
  · exact Or.inr (Or.inr ⟨l0, h2, l2⟩)
theorem real_00 {β : Int → Int} {e p f o : Int} (h : o = 1) : LPQ f f (REAL β e p) (RLX β e o p) True := by
  subst h
  exact lpq_0 trivial
theorem mreal_bad {β : Int → Int} {n b f0 f f1 f2 p p1 o c : Int} {O : Option Int} {R : Int → Prop} (hb : b ≤ n) (L : LPQ f0 f O (RLX β b o p) True) (ho1 : o = 1) (T : SEQ f f1 (BYT β n b p) (fun v => v = c ∧ p1 = p + 1)) (hp : 0 ≤ p) (hf : ¬ (f2 = 0)) (ex : f1 = 0 → (c / 16 = 13 ∨ (¬ (c / 16 = 15) ∧ c % 16 = 13))) : SEQ f0 f2 O R := by
  rcases L with ⟨l0, _⟩ | ⟨l0, l1, l2, _⟩ | ⟨l0, _, l2⟩
  · exact Or.inl ⟨l0, hf⟩
  · refine Or.inr (Or.inr ⟨l0, hf, ?_⟩)
    rw [l2]
    unfold RLX
    rw [if_pos ho1, REAL]
    rcases T with ⟨t0, _⟩ | ⟨_, t1, v, t2, t3, _⟩ | ⟨_, t1, t2⟩
    · exact absurd l1 t0
    · unfold BYT at t2
      by_cases hc : 0 ≤ p ∧ p < n ∧ p < b
      · rw [if_pos hc] at t2
        have ev : β p = c := by rw [← t3]; exact Option.some.inj t2
        rw [if_pos hc.2.2, ev, if_pos (ex t1)]
      · rw [if_neg hc] at t2
        exact absurd t2 (by simp)
    · unfold BYT at t2
      by_cases hc : 0 ≤ p ∧ p < n ∧ p < b
      · rw [if_pos hc] at t2
        exact absurd t2 (by simp)
      · rw [if_neg (by omega)]
  · exact Or.inr (Or.inr ⟨l0, hf, l2⟩)
theorem opn_30n {β : Int → Int} {e c p f0 f : Int} {P : Int → Prop} {R : Int × Int × Int → Prop} (Q : SEQ f0 f (REAL β e p) P) (hf : ¬ (f = 0)) (hc : 30 = c) : SEQ f0 f (OPN β e c p) R := by
  subst hc
  have eO : OPN β e 30 p = (REAL β e p).bind fun q => some (0, q, 1) := by
    unfold OPN
    rw [if_neg (by decide), if_neg (by decide), if_pos rfl]
  rcases Q with ⟨h0, h1⟩ | ⟨_, h1, _⟩ | ⟨h0, h1, h2⟩
  · exact Or.inl ⟨h0, h1⟩
  · exact absurd h1 hf
  · refine Or.inr (Or.inr ⟨h0, h1, ?_⟩)
    rw [eO, h2]
    rfl
theorem opn_30y {β : Int → Int} {e c p f0 f q V rl : Int} (Q : SEQ f0 f (REAL β e p) (fun v => v = q)) (hV : V = 0) (hr : rl = 1) (hc : 30 = c) : SEQ f0 f (OPN β e c p) (fun t => t = (V, q, rl)) := by
  subst hc hr
  exact opn_30 Q hV
theorem opn_r {β : Int → Int} {e c d p f0 f V q rl : Int} (h : SEQ f0 f (OPN β e c p) (fun t => t = (V, q, 0))) (e9 : c = d) (hr : rl = 0) : SEQ f0 f (OPN β e d p) (fun t => t = (V, q, rl)) := by
  subst e9 hr
  exact h
theorem filled_k {f : Nat → Int32} {v : Int32} {i : Int} (h : FILLED f v i.toNat) (e : 300 ≤ i) : FILLED f v 300 := fun j hj => h j (by omega)
theorem mtup {pb p1 k1 A1 B1 A B r1 r : Int} {S S1 : SLO} (hp : pb = p1) (hAB : A1 = A ∧ B1 = B) (hr : r1 = r) (hS : S1 = S) {K : Int} (hk : k1 = K) : ((pb, K, A, B, r, S) : Int × Int × Int × Int × Int × SLO) = (p1, k1, A1, B1, r1, S1) := by
  obtain ⟨hA, hB⟩ := hAB
  subst hp hk hA hB hr hS
  rfl
theorem mct_no {β : Int → Int} {e p pl f0 fl f1 k a b r : Int} {S : SLO} {P R : _ → Prop} (hp : pl < e) (L : LPQ f0 fl (DIC β p e) (DCT β e pl k a b r S) True) (T : SEQ fl f1 (DST β e pl k a b r S) P) (hf : ¬ (f1 = 0)) : SEQ f0 f1 (DIC β p e) R := by
  rcases L with ⟨l0, _⟩ | ⟨l0, l1, l2, _⟩ | ⟨l0, _, l2⟩
  · exact Or.inl ⟨l0, hf⟩
  · refine Or.inr (Or.inr ⟨l0, hf, ?_⟩)
    rw [DCT, if_neg (by omega)] at l2
    rcases T with ⟨t0, _⟩ | ⟨_, t1, _⟩ | ⟨_, _, t2⟩
    · exact absurd l1 t0
    · exact absurd t1 hf
    · rw [t2] at l2
      exact l2
  · exact Or.inr (Or.inr ⟨l0, hf, l2⟩)
theorem mtup0 {pa p1 o o2 k a d r k1 x y r1 : Int} {S S1 : SLO} (hp : pa = p1) (hS : S1 = TEL S o k a d r) (ho : o = o2 ∧ k1 = 0 ∧ r1 = 0) : ((pa, 0, 0, 0, 0, TEL S o2 k a d r) : Int × Int × Int × Int × Int × SLO) = (p1, k1, NZI k1 0 x, NZI k1 1 y, r1, S1) := by
  obtain ⟨h1, h2, h3⟩ := ho
  subst h1 h2 h3 hp hS
  rfl
theorem nzb {v : Int32} (h0 : 0 ≤ v.toInt) (h1 : v.toInt ≤ 1) : vp_nar .boolean v = v := by rcases z01 h0 h1 with rfl | rfl <;> decide
theorem mr_if {rl x r : Int} (h : (rl = 1 ∧ x = 1) ∨ (¬ (rl = 1) ∧ x = r)) : x = if rl = 1 then 1 else r := by
  rcases h with ⟨h1, h2⟩ | ⟨h1, h2⟩
  · rw [if_pos h1, h2]
  · rw [if_neg h1, h2]
theorem dst_opx {β : Int → Int} {n b p f0 fa fb k a d r c pa : Int} {S : SLO} {P : Int × Int × Int → Prop} {R : Int × Int × Int × Int × Int × SLO → Prop} (hc : b ≤ n ∧ 0 ≤ p ∧ p < b) (T : SEQ f0 fa (BYT β n b p) (fun v => v = c ∧ pa = p + 1)) (hf : fa = 0) (h2 : 21 < c) (Q : SEQ fa fb (OPN β b c pa) P) (hg : ¬ (fb = 0)) : SEQ f0 fb (DST β b p k a d r S) R := by
  obtain ⟨e0, e1, e2⟩ := byt_get hc T hf
  refine Or.inr (Or.inr ⟨e0, hg, ?_⟩)
  unfold DST
  rw [e1, if_neg (by omega)]
  by_cases hk : k = 48
  · rw [if_pos hk]
  · rw [if_neg hk, ← e2]
    rcases Q with ⟨t0, _⟩ | ⟨_, t1, _⟩ | ⟨_, _, t2⟩
    · exact absurd hf t0
    · exact absurd t1 hg
    · rw [t2]
      rfl
theorem opn_iso {β : Int → Int} {e c p f0 f : Int} {P : Int × Int × Int → Prop} (Q : SEQ f0 f (OPN β e c p) P) : ¬ (f = 0) ∨ (28 ≤ c ∧ c ≤ 30) ∨ (32 ≤ c ∧ c ≤ 254) := by
  by_cases hc : (28 ≤ c ∧ c ≤ 30) ∨ (32 ≤ c ∧ c ≤ 254)
  · exact Or.inr hc
  · refine Or.inl (fun h => ?_)
    have eO : OPN β e c p = none := by
      unfold OPN
      rw [if_neg (by omega), if_neg (by omega), if_neg (by omega), if_neg (by omega), if_neg (by omega), if_neg (by omega)]
    rcases Q with ⟨_, h1⟩ | ⟨_, _, v, h1, _⟩ | ⟨_, h1, _⟩
    · exact h1 h
    · rw [eO] at h1
      exact absurd h1 (by simp)
    · exact h1 h
theorem sm_1 {h w : Nat → Int32} {a b : Nat → Int64} {o : Int} (ho : o = 17 ∨ o = 18 ∨ o = 262 ∨ o = 19 ∨ o = 20 ∨ o = 21) : SM h a b w o = if Int32.toInt (h o.toNat) = -1 then (-1, 0, 0) else (if Int32.toInt (w o.toNat) = 0 then 49 else Int32.toInt (h o.toNat), if 0 < Int32.toInt (h o.toNat) then Int64.toInt (a o.toNat) else 0, if 1 < Int32.toInt (h o.toNat) then Int64.toInt (b o.toNat) else 0) := if_pos ho
def MTO (r h w n : Int) : Prop := (r = 1 ∧ (h = -1 ∨ (h = n ∧ ¬ (w = 0)))) ∨ (r = 0 ∧ ¬ (h = -1 ∨ (h = n ∧ ¬ (w = 0))))
theorem fit_m {h w : Nat → Int32} {a b : Nat → Int64} {o n r H W : Int} (ho : o = 17 ∨ o = 18 ∨ o = 262 ∨ o = 19 ∨ o = 20 ∨ o = 21) (hn : n = 1 ∨ n = 2) (M : MTO r H W n) (eH : H = Int32.toInt (h o.toNat)) (eW : W = Int32.toInt (w o.toNat)) : r = 1 ↔ FIT (SM h a b w) o n := by
  show r = 1 ↔ ((SM h a b w o).1 = -1 ∨ (SM h a b w o).1 = n)
  rw [sm_1 ho, ← eH, ← eW]
  unfold MTO at M
  by_cases h1 : H = -1
  · rw [if_pos h1]
    show r = 1 ↔ ((-1 : Int) = -1 ∨ _)
    omega
  · rw [if_neg h1]
    show r = 1 ↔ ((if W = 0 then 49 else H) = -1 ∨ (if W = 0 then 49 else H) = n)
    by_cases h2 : W = 0
    · rw [if_pos h2]; omega
    · rw [if_neg h2]; omega
theorem sm_one {h w : Nat → Int32} {a b : Nat → Int64} {o n r W : Int} (ho : o = 17 ∨ o = 18 ∨ o = 262 ∨ o = 19 ∨ o = 20 ∨ o = 21) (hn : n = 1 ∨ n = 2) (M : MTO r (Int32.toInt (h o.toNat)) W n) (hr : r = 1) (hh : ¬ (Int32.toInt (h o.toNat) = -1)) : (SM h a b w o).2.1 = Int64.toInt (a o.toNat) := by
  rw [sm_1 ho, if_neg hh]
  show (if 0 < Int32.toInt (h o.toNat) then Int64.toInt (a o.toNat) else 0) = _
  unfold MTO at M
  rw [if_pos (by omega)]
theorem sm_two {h w : Nat → Int32} {a b : Nat → Int64} {o r W : Int} (ho : o = 17 ∨ o = 18 ∨ o = 262 ∨ o = 19 ∨ o = 20 ∨ o = 21) (M : MTO r (Int32.toInt (h o.toNat)) W 2) (hr : r = 1) (hh : ¬ (Int32.toInt (h o.toNat) = -1)) : (SM h a b w o).2.2 = Int64.toInt (b o.toNat) := by
  rw [sm_1 ho, if_neg hh]
  show (if 1 < Int32.toInt (h o.toNat) then Int64.toInt (b o.toNat) else 0) = _
  unfold MTO at M
  rw [if_pos (by omega)]
theorem sm_m1 {h w : Nat → Int32} {a b : Nat → Int64} {o n r : Int} (ho : o = 17 ∨ o = 18 ∨ o = 262 ∨ o = 19 ∨ o = 20 ∨ o = 21) (M : MTO r (Int32.toInt (h o.toNat)) (Int32.toInt (w o.toNat)) n) (hn : n = 1 ∨ n = 2) (hr : r = 1) : (SM h a b w o).1 = Int32.toInt (h o.toNat) := by
  rw [sm_1 ho]
  unfold MTO at M
  by_cases h1 : Int32.toInt (h o.toNat) = -1
  · rw [if_pos h1, h1]
  · rw [if_neg h1]
    show (if Int32.toInt (w o.toNat) = 0 then 49 else Int32.toInt (h o.toNat)) = _
    rw [if_neg (by omega)]
/-! the font's own DICT and the font, as the reference reads them -/
theorem mpriv_c {β : Int → Int} {n p z f0 f : Int} {R : Int × Int × Int → Prop} (hc : ¬ (0 ≤ p ∧ 0 ≤ z ∧ p + z ≤ n)) (hf : ¬ (f = 0)) : SEQ f0 f (PRIV β n p z) R := by
  have e : PRIV β n p z = none := by unfold PRIV; rw [if_neg hc]
  by_cases h : f0 = 0
  · exact Or.inr (Or.inr ⟨h, hf, e⟩)
  · exact Or.inl ⟨h, hf⟩
theorem mpriv_x {β : Int → Int} {n p z e f0 fd f r1 r2 r3 : Int} {S : SLO} {R : Int × Int × Int → Prop} (hc : 0 ≤ p ∧ 0 ≤ z ∧ p + z ≤ n) (he : e = p + z) (D : SEQ f0 fd (DIC β p e) (fun s => s = S)) (h : ¬ (fd = 0) ∨ ¬ (FIT S 19 1 ∧ FIT S 20 1 ∧ FIT S 21 1)) (hf : ¬ (f = 0)) : SEQ f0 f (PRIV β n p z) R := by
  subst he
  rcases D with ⟨d0, _⟩ | ⟨d0, d1, v, d2, d3⟩ | ⟨d0, d1, d2⟩
  · exact Or.inl ⟨d0, hf⟩
  · refine Or.inr (Or.inr ⟨d0, hf, ?_⟩)
    unfold PRIV
    rw [if_pos hc, d2, Option.bind_some, d3, if_neg (by rcases h with h | h; exact absurd d1 h; exact h)]
  · refine Or.inr (Or.inr ⟨d0, hf, ?_⟩)
    unfold PRIV
    rw [if_pos hc, d2]
    rfl
theorem mpriv_y {β : Int → Int} {n p z e f0 fd f us nm lc : Int} {S : SLO} (hc : 0 ≤ p ∧ 0 ≤ z ∧ p + z ≤ n) (he : e = p + z) (D : SEQ f0 fd (DIC β p e) (fun s => s = S)) (hd : fd = 0) (h : FIT S 19 1 ∧ FIT S 20 1 ∧ FIT S 21 1) (hu : us = if (S 20).1 = 1 then (S 20).2.1 else 0) (hm : nm = if (S 21).1 = 1 then (S 21).2.1 else 0) (hI : ((S 19).1 = -1 ∧ f = 0 ∧ lc = 0) ∨ (¬ ((S 19).1 = -1) ∧ SEQ fd f (IDX β n (p + (S 19).2.1) 0 65535) (fun v => v.1 = lc))) : SEQ f0 f (PRIV β n p z) (fun q => q = (lc, us, nm)) := by
  subst he
  rcases D with ⟨_, d1⟩ | ⟨d0, d1, v, d2, d3⟩ | ⟨_, d1, _⟩
  · exact absurd hd d1
  · have e : PRIV β n p z = if (S 19).1 = -1 then some (0, us, nm) else (IDX β n (p + (S 19).2.1) 0 65535).bind fun i => some (i.1, us, nm) := by
      unfold PRIV
      rw [if_pos hc, d2, Option.bind_some, d3, if_pos h, ← hu, ← hm]
    rw [e]
    rcases hI with ⟨i1, i2, i3⟩ | ⟨i1, i2⟩
    · rw [if_pos i1, i3]
      exact seq_ok _ d0 i2 rfl rfl
    · rw [if_neg i1]
      have e9 : fd = f0 := by rw [d1, d0]
      rw [e9] at i2
      exact seq_bind i2 id (fun v _ hv => by rw [hv]; exact seq_some _)
  · exact absurd hd d1
