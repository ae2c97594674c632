/-! bytes with their sign (p5) -/
theorem vb_eq (x : Int32) : vp_nar .byte x = (Int32.toInt8 x).toInt32 := rfl
theorem vb_rng (x : Int32) : -128 ≤ Int32.toInt (vp_nar .byte x) ∧ Int32.toInt (vp_nar .byte x) ≤ 127 := by
  rw [vb_eq, Int8.toInt_toInt32]
  have h1 := Int8.le_toInt (Int32.toInt8 x)
  have h2 := Int8.toInt_lt (Int32.toInt8 x)
  omega
theorem and255_m (x : Int32) : Int32.toInt (x &&& 255) = Int32.toInt x % 256 := by
  have h1 := and_255 x
  have h2 : (x &&& 255).toBitVec.toNat = x.toBitVec.toNat % 256 := by
    rw [Int32.toBitVec_and, BitVec.toNat_and]
    show x.toBitVec.toNat &&& 255 = _
    exact Nat.and_two_pow_sub_one_eq_mod x.toBitVec.toNat 8
  have h3 : Int32.toInt (x &&& 255) = ((x &&& 255).toBitVec.toNat : Int) := by
    show (x &&& 255).toBitVec.toInt = _
    rw [BitVec.toInt_eq_toNat_of_lt (by omega)]
  rw [h3, h2]
  show _ = x.toBitVec.toInt % 256
  rw [BitVec.toInt_eq_toNat_cond]
  have := x.toBitVec.isLt
  split <;> omega
def TB (f : Nat → Int32) (m i : Int) : Int := GB f m (i - 4)
theorem tb_at {f : Nat → Int32} {m p : Int} {i z : Int32} (e : f (Int32.toNatClampNeg i) = z) (h : Int32.toInt i + 4 = p) (h0 : 0 ≤ Int32.toInt i) (h1 : Int32.toInt i < m) : Int32.toInt z % 256 = TB f m p := by
  have hc : Int32.toNatClampNeg i = (Int32.toInt i).toNat := rfl
  unfold TB
  rw [show p - 4 = Int32.toInt i by omega, gb_in h0 h1, and255_m, ← e, hc]
theorem gb_sg {f : Nat → Int32} {m p : Int} {i z : Int32} (e : f (Int32.toNatClampNeg i) = z) (h : Int32.toInt i = p) (h0 : 0 ≤ Int32.toInt i) (h1 : Int32.toInt i < m) : Int32.toInt z % 256 = GB f m p := by
  have hc : Int32.toNatClampNeg i = (Int32.toInt i).toNat := rfl
  rw [← h, gb_in h0 h1, and255_m, ← e, hc]
theorem bl_sg {r c : Int} (h : ISB r (BL c)) (h0 : -128 ≤ c) (h1 : c ≤ 127) : ISB r (BL (c % 256)) := by
  rcases h with ⟨h2, h3⟩ | ⟨h2, h3⟩
  · exact Or.inl ⟨h2, by show _ ∨ _ ∨ _ ∨ _; omega⟩
  · refine Or.inr ⟨h2, fun h4 => h3 ?_⟩
    have h5 : c % 256 = 9 ∨ c % 256 = 10 ∨ c % 256 = 13 ∨ c % 256 = 32 := h4
    show _ ∨ _ ∨ _ ∨ _
    omega
theorem cnt_cap {β : Int → Int} {b : Int} : ∀ (m : Nat) (i : Int), (b - i).toNat = m → CNTL β b i 10000 = -1 := by
  intro m
  induction m with
  | zero => intro i hm; rw [cnt_o (by omega), if_neg (by decide)]
  | succ m ih =>
    intro i hm
    rw [cnt_u (by omega)]
    by_cases h : 48 ≤ β i ∧ β i ≤ 57
    · rw [if_pos h, if_neg (by omega)]
      exact ih (i + 1) (by omega)
    · rw [if_neg h]
theorem cnt_big {β : Int → Int} {b a i v c : Int} (h : EQP a (CNTL β b i v)) (hi : i < b) (hc : c = β i) (h1 : 48 ≤ c ∧ c ≤ 57) (hv : ¬ (v * 10 + c - 48 < 10000)) : EQP a (-1) := by
  unfold EQP at h ⊢
  rw [h, cnt_u hi, ← hc, if_pos h1, if_neg hv]
  exact cnt_cap _ (i + 1) rfl
theorem seq_bsq {α : Type} {r f0 f1 : Int} {o : Option α} {P : α → Prop} (h : BSQ r o P) (hf : (r = 1 ∧ f1 = f0) ∨ (r = 0 ∧ ¬ (f1 = 0))) : SEQ f0 f1 o P := by
  by_cases h0 : f0 = 0
  · rcases h with ⟨h1, v, h2, h3⟩ | ⟨h1, h2⟩
    · exact Or.inr (Or.inl ⟨h0, by omega, v, h2, h3⟩)
    · exact Or.inr (Or.inr ⟨h0, by omega, h2⟩)
  · exact Or.inl ⟨h0, by omega⟩
def LW (f : Nat → Int32) (n : Nat) : List Int := (List.range n).map (fun i => Int32.toInt (f i))
def POSW (f : Nat → Int32) (n : Nat) : Prop := ∀ i, i < n → 0 ≤ Int32.toInt (f i) ∧ Int32.toInt (f i) ≤ 127
theorem lw_len {f : Nat → Int32} {n : Nat} : (LW f n).length = n := by unfold LW; rw [List.length_map, List.length_range]
theorem lw_at {f : Nat → Int32} {n i : Nat} (h : i < n) : (LW f n).getD i 0 = Int32.toInt (f i) := by
  unfold LW
  rw [List.getD_eq_getElem?_getD, List.getElem?_map, List.getElem?_range h]
  rfl
def WPS (δ : Int → Int) (a : Int) (f : Nat → Int32) (k : Int) : Prop := ∀ j : Nat, j < k.toNat → δ (a + j) = Int32.toInt (f j)
theorem wps_0 {δ : Int → Int} {a : Int} {f : Nat → Int32} : WPS δ a f 0 := fun j h => absurd h (Nat.not_lt_zero j)
theorem wps_step {δ : Int → Int} {a k k2 c : Int} {f : Nat → Int32} {n : Nat} {x z : Int32} (P : POSW f n) (h : WPS δ a f k) (h0 : 0 ≤ k) (hn : k < n) (e : k2 = k + 1) (hc : c % 256 = δ (a + k)) (r0 : -128 ≤ c) (r1 : c ≤ 127) (ez : f (Int32.toNatClampNeg x) = z) (hx : Int32.toInt x = k) (hz : c = Int32.toInt z) : WPS δ a f k2 := by
  intro j hj
  by_cases h9 : j < k.toNat
  · exact h j h9
  · have hj2 : j = (Int32.toInt x).toNat := by omega
    have hc2 : Int32.toNatClampNeg x = (Int32.toInt x).toNat := rfl
    have p := P j (by omega)
    rw [hj2, ← hc2, ez] at p
    rw [show a + (j : Int) = a + k by omega, ← hc, hj2, ← hc2, ez]
    omega
theorem wps_yes {δ : Int → Int} {a b k r : Int} {f : Nat → Int32} {n : Nat} (h : WPS δ a f k) (hk : (n : Int) ≤ k) (hb : b - a = n) (hr : r = 1) : ISB r (IW δ a b (LW f n)) := by
  refine Or.inl ⟨hr, ?_, fun i hi => ?_⟩
  · rw [lw_len]; exact hb
  · rw [lw_len] at hi
    rw [lw_at hi]
    exact h i (by omega)
theorem wps_no {δ : Int → Int} {a b k c r : Int} {f : Nat → Int32} {n : Nat} {x z : Int32} (P : POSW f n) (h0 : 0 ≤ k) (hn : k < n) (hc : c % 256 = δ (a + k)) (r0 : -128 ≤ c) (r1 : c ≤ 127) (ez : f (Int32.toNatClampNeg x) = z) (hx : Int32.toInt x = k) (hz : ¬ (c = Int32.toInt z)) (hr : r = 0) : ISB r (IW δ a b (LW f n)) := by
  refine Or.inr ⟨hr, fun h => hz ?_⟩
  have h1 := h.2 k.toNat (by rw [lw_len]; omega)
  rw [lw_at (by omega), show a + ((k.toNat : Nat) : Int) = a + k by omega, ← hc] at h1
  have hc2 : Int32.toNatClampNeg x = k.toNat := by show (Int32.toInt x).toNat = _; rw [hx]
  have p := P k.toNat (by omega)
  rw [← hc2, ez] at p h1
  omega
theorem wps_len {δ : Int → Int} {a b r : Int} {f : Nat → Int32} {n : Nat} (hb : ¬ (b - a = n)) (hr : r = 0) : ISB r (IW δ a b (LW f n)) := Or.inr ⟨hr, fun h => hb (by have := h.1; rw [lw_len] at this; exact this)⟩
def PRT (β : Int → Int) (n p c : Int) : Option Int := (WRD β n p).bind fun w => if IW β w.1 w.2 wRd ∨ IW β w.1 w.2 wBar then (if w.2 + 1 + c ≤ n then some (w.2 + 1 + c) else none) else none
theorem prg_prt {β : Int → Int} {n p : Int} : PRG β n p = (TLD β n p).bind fun c => PRT β n c.2 c.1 := rfl
theorem seq_wno {α γ : Type} {r f0 f1 : Int} {o : Option α} {P : α → Prop} {q : α → Option γ} {R : γ → Prop} (h : BSQ r o P) (hr : r = 0) (hf : ¬ (f1 = 0)) : SEQ f0 f1 (o.bind q) R := by
  by_cases h0 : f0 = 0
  · have := bsq_no (f := f1) (q := q) (R := R) h hr hf
    rw [h0]; exact this
  · exact Or.inl ⟨h0, hf⟩
theorem mexw {β : Int → Int} {n p a b r s f0 f1 q : Int} {W : List Int} (h : BSQ r (WRD β n p) (fun w => w = (a, b))) (hr : r = 1) (i : ISB s (IW β a b W)) (hf : (s = 1 ∧ f1 = f0) ∨ (s = 0 ∧ ¬ (f1 = 0))) (e : q = b) : SEQ f0 f1 (EXW β n p W) (fun v => v = q) := by
  by_cases h0 : f0 = 0
  · have := exw_pf (f := f1) h (by omega) i (by omega) e
    rw [h0]; exact this
  · exact Or.inl ⟨h0, by omega⟩
theorem mtld {β : Int → Int} {n p a b r c V f0 f1 q : Int} (h : BSQ r (WRD β n p) (fun w => w = (a, b))) (hr : r = 1) (i : EQP (CNTL β b a 0) c) (hf : (0 ≤ c ∧ f1 = f0 ∧ V = c) ∨ (c = -1 ∧ ¬ (f1 = 0))) (e : q = b) : SEQ f0 f1 (TLD β n p) (fun v => v = (V, q)) := by
  by_cases h0 : f0 = 0
  · have := tld_pf (f := f1) h (by omega) i (by omega) e
    rw [h0]
    exact seq_imp this (fun v h8 h9 => by
      rcases hf with ⟨_, _, h7⟩ | ⟨h7, _⟩
      · rw [h9, h7]
      · exfalso
        rcases this with ⟨k0, _⟩ | ⟨_, k1, u, k2, k3⟩ | ⟨_, _, k2⟩
        · exact k0 rfl
        · omega
        · rw [k2] at h8; exact absurd h8 (by simp))
  · exact Or.inl ⟨h0, by omega⟩
theorem mprt {β : Int → Int} {n p a b r s c f0 f1 q : Int} (h : BSQ r (WRD β n p) (fun w => w = (a, b))) (hr : r = 1) (hs : ISB s (IW β a b wRd ∨ IW β a b wBar)) (hf : (s = 0 ∧ ¬ (f1 = 0)) ∨ (s = 1 ∧ b + 1 + c ≤ n ∧ f1 = f0 ∧ q = b + 1 + c) ∨ (s = 1 ∧ ¬ (b + 1 + c ≤ n) ∧ ¬ (f1 = 0))) : SEQ f0 f1 (PRT β n p c) (fun v => v = q) := by
  by_cases h0 : f0 = 0
  · rw [h0]
    unfold PRT
    refine bsq_yes h (by omega) (fun w hw => ?_)
    subst hw
    rcases hs with ⟨s1, s2⟩ | ⟨s1, s2⟩
    · rw [if_pos s2]
      by_cases hn : b + 1 + c ≤ n
      · rw [if_pos hn]
        exact seq0_ok _ (by omega) rfl (by omega)
      · rw [if_neg hn]
        exact seq0_no (by omega) rfl
    · rw [if_neg s2]
      exact seq0_no (by omega) rfl
  · exact Or.inl ⟨h0, by omega⟩
def MSW (s : Int) (δ : Int → Int) (a b : Int) (f : Nat → Int32) (n : Nat) (k : Int) : Prop := (s = 1 ∧ b - a = n ∧ WPS δ a f k) ∨ (s = 0 ∧ ¬ IW δ a b (LW f n))
theorem msw_0 {s : Int} {δ : Int → Int} {a b : Int} {f : Nat → Int32} {n : Nat} (h : (s = 1 ∧ b - a = n) ∨ (s = 0 ∧ ¬ (b - a = n))) : MSW s δ a b f n 0 := by
  rcases h with ⟨h1, h2⟩ | ⟨h1, h2⟩
  · exact Or.inl ⟨h1, h2, wps_0⟩
  · refine Or.inr ⟨h1, fun h => h2 ?_⟩
    have := h.1
    rw [lw_len] at this
    exact this
theorem msw_step {s s2 : Int} {δ : Int → Int} {a b k k2 c : Int} {f : Nat → Int32} {n : Nat} {x z : Int32} (P : POSW f n) (h : MSW s δ a b f n k) (hs : ¬ (s = 0)) (h0 : 0 ≤ k) (hn : k < n) (e : k2 = k + 1) (hc : c % 256 = δ (a + k)) (r0 : -128 ≤ c) (r1 : c ≤ 127) (ez : f (Int32.toNatClampNeg x) = z) (hx : Int32.toInt x = k) (hz : (s2 = 1 ∧ c = Int32.toInt z) ∨ (s2 = 0 ∧ ¬ (c = Int32.toInt z))) : MSW s2 δ a b f n k2 := by
  rcases h with ⟨h1, h2, h3⟩ | ⟨h1, _⟩
  · rcases hz with ⟨z1, z2⟩ | ⟨z1, z2⟩
    · exact Or.inl ⟨z1, h2, wps_step P h3 h0 hn e hc r0 r1 ez hx z2⟩
    · rcases wps_no (b := b) (r := 0) P h0 hn hc r0 r1 ez hx z2 rfl with ⟨h9, _⟩ | ⟨_, h9⟩
      · exact absurd h9 (by decide)
      · exact Or.inr ⟨z1, h9⟩
  · exact absurd h1 hs
theorem msw_end {s : Int} {δ : Int → Int} {a b k : Int} {f : Nat → Int32} {n : Nat} (h : MSW s δ a b f n k) (hk : s = 0 ∨ (n : Int) ≤ k) : ISB s (IW δ a b (LW f n)) := by
  rcases h with ⟨h1, h2, h3⟩ | ⟨h1, h2⟩
  · exact wps_yes h3 (by omega) h2 h1
  · exact Or.inr ⟨h1, h2⟩
theorem posw_of {f : Nat → Int32} {n : Nat} {W : List Int} (h : LW f n = W) (hd : ∀ x ∈ W, 0 ≤ x ∧ x ≤ 127) : POSW f n := by
  intro i hi
  have h1 := lw_at (f := f) hi
  have h2 := lw_len (f := f) (n := n)
  rw [h] at h1 h2
  rw [← h1]
  have h3 : i < W.length := by omega
  rw [List.getD_eq_getElem?_getD, List.getElem?_eq_getElem h3]
  exact hd _ (List.getElem_mem h3)
theorem isb_l {s : Int} {δ : Int → Int} {a b : Int} {f : Nat → Int32} {n : Nat} {W : List Int} (h : ISB s (IW δ a b (LW f n))) (e : LW f n = W) : ISB s (IW δ a b W) := e ▸ h
theorem exw_l {f0 f1 : Int} {δ : Int → Int} {N p : Int} {f : Nat → Int32} {n : Nat} {W : List Int} {P : Int → Prop} (h : SEQ f0 f1 (EXW δ N p (LW f n)) P) (e : LW f n = W) : SEQ f0 f1 (EXW δ N p W) P := e ▸ h
theorem mlet_no {β : Int → Int} {n a b k c f0 f : Int} {R : Int → Prop} (hc : c % 256 = β a) (r0 : -128 ≤ c) (r1 : c ≤ 127) (h : ¬ (c = 47) ∨ b - a < 2 ∨ ¬ (k < 40)) (hf : ¬ (f = 0)) : SEQ f0 f (LET β n a b k) R := by
  have e : LET β n a b k = none := by
    unfold LET
    rw [← hc, if_neg (by omega)]
  by_cases h0 : f0 = 0
  · exact Or.inr (Or.inr ⟨h0, hf, e⟩)
  · exact Or.inl ⟨h0, hf⟩
theorem mlet_eq {β : Int → Int} {n a b k c : Int} (hc : c % 256 = β a) (h : c = 47 ∧ 2 ≤ b - a ∧ k < 40) : LET β n a b k = (TLD β n b).bind fun t => (PRT β n t.2 t.1).bind fun q => (WRD β n q).bind fun u => some u.2 := by
  unfold LET
  rw [← hc, if_pos (by omega), prg_prt]
  cases TLD β n b with
  | none => rfl
  | some t => rfl
theorem mlet_1 {β : Int → Int} {n a b b2 k c f0 f : Int} {P : Int × Int → Prop} {R : Int → Prop} (hc : c % 256 = β a) (h : c = 47 ∧ 2 ≤ b - a ∧ k < 40) (C : SEQ f0 f (TLD β n b2) P) (e : b2 = b) (hf : ¬ (f = 0)) : SEQ f0 f (LET β n a b k) R := by
  rw [mlet_eq hc h, ← e]
  rcases C with ⟨h0, _⟩ | ⟨_, h1, _⟩ | ⟨h0, _, h2⟩
  · exact Or.inl ⟨h0, hf⟩
  · exact absurd h1 hf
  · rw [h2]; exact Or.inr (Or.inr ⟨h0, hf, rfl⟩)
theorem mlet_2 {β : Int → Int} {n a b b2 k c m p1 f0 f1 f : Int} {P R : Int → Prop} (hc : c % 256 = β a) (h : c = 47 ∧ 2 ≤ b - a ∧ k < 40) (C : SEQ f0 f1 (TLD β n b2) (fun v => v = (m, p1))) (e : b2 = b) (Q : SEQ f1 f (PRT β n p1 m) P) (hf : ¬ (f = 0)) : SEQ f0 f (LET β n a b k) R := by
  rw [mlet_eq hc h, ← e]
  refine seq_bind C (seq_keep Q) (fun v _ hv => ?_)
  subst hv
  rcases Q with ⟨h0, _⟩ | ⟨_, h1, _⟩ | ⟨h0, _, h2⟩
  · exact Or.inl ⟨h0, hf⟩
  · exact absurd h1 hf
  · show SEQ f1 f ((PRT β n p1 m).bind _) R
    rw [h2]; exact Or.inr (Or.inr ⟨h0, hf, rfl⟩)
theorem mlet_3 {β : Int → Int} {n a b b2 k c m p1 p2 q a2 b3 f0 f1 f2 f r : Int} (hc : c % 256 = β a) (h : c = 47 ∧ 2 ≤ b - a ∧ k < 40) (C : SEQ f0 f1 (TLD β n b2) (fun v => v = (m, p1))) (e : b2 = b) (Q : SEQ f1 f2 (PRT β n p1 m) (fun v => v = p2)) (W : BSQ r (WRD β n p2) (fun w => w = (a2, b3))) (hf : (r = 1 ∧ f = f2) ∨ (r = 0 ∧ ¬ (f = 0))) (eq : q = b3) : SEQ f0 f (LET β n a b k) (fun v => v = q) := by
  have kp : ¬ (f2 = 0) → ¬ (f = 0) := fun h9 => by omega
  rw [mlet_eq hc h, ← e]
  refine seq_bind C (fun h9 => kp (seq_keep Q h9)) (fun v _ hv => ?_)
  subst hv
  refine seq_bind Q kp (fun v _ hv => ?_)
  subst hv
  have S := seq_bsq (f0 := f2) (f1 := f) W hf
  refine seq_bind S id (fun w _ hw => ?_)
  subst hw
  rw [eq]
  exact seq_some _
theorem mltr_step {β : Int → Int} {n p a b k k2 q f f2 rw s : Int} {O : Option Int} (L : LPQ 0 f O (LTR β n p k) True) (hf : f = 0) (W : BSQ rw (WRD β n p) (fun w => w = (a, b))) (hw : rw = 1) (i : ISB s (IW β a b wOver)) (hs : s = 0) (S : SEQ 0 f2 (LET β n a b k) (fun v => v = q)) (hq : f2 = 0 → p < q ∧ k2 = k + 1) : LPQ 0 f2 O (LTR β n q k2) True := by
  have l := lpq0 L hf
  rcases W with ⟨_, w, w1, w2⟩ | ⟨h1, _⟩
  · subst w2
    have r := wrd_rng w1
    have r1 : p ≤ a := r.1
    have r2 : a < b := r.2.1
    have r3 : b ≤ n := r.2.2
    rw [LTR, w1] at l
    have l2 : O = if IW β a b wOver then (if 0 < k then some k else none) else (match LET β n a b k with
      | none => none
      | some q => if p < q ∧ p < n then LTR β n q (k + 1) else none) := l
    rw [if_neg (isb_0 i (by omega))] at l2
    rcases S with ⟨s0, _⟩ | ⟨_, s1, v, s2, s3⟩ | ⟨_, s1, s2⟩
    · exact absurd rfl s0
    · subst s3
      rw [s2] at l2
      have l3 : O = if p < v ∧ p < n then LTR β n v (k + 1) else none := l2
      obtain ⟨hq1, hq2⟩ := hq s1
      rw [if_pos ⟨hq1, by omega⟩, ← hq2] at l3
      exact Or.inr (Or.inl ⟨rfl, s1, l3, trivial⟩)
    · rw [s2] at l2
      exact Or.inr (Or.inr ⟨rfl, s1, l2⟩)
  · omega
theorem mltr_none {β : Int → Int} {n p k f f2 rw : Int} {O : Option Int} {P : Int × Int → Prop} {R : Int → Prop} (L : LPQ 0 f O (LTR β n p k) True) (hf : f = 0) (W : BSQ rw (WRD β n p) P) (hw : rw = 0) (h2 : ¬ (f2 = 0)) : SEQ 0 f2 O R := by
  have l := lpq0 L hf
  rcases W with ⟨h1, _⟩ | ⟨_, w1⟩
  · omega
  · rw [LTR, w1] at l
    exact seq0_no h2 l
theorem mltr_done {β : Int → Int} {n p a b k k2 f f2 rw s1 : Int} {O : Option Int} (L : LPQ 0 f O (LTR β n p k) True) (hf : f = 0) (W : BSQ rw (WRD β n p) (fun w => w = (a, b))) (hw : rw = 1) (i1 : ISB s1 (IW β a b wOver)) (h1 : s1 = 1) (h2 : (0 < k ∧ f2 = 0 ∧ k2 = k) ∨ (¬ (0 < k) ∧ ¬ (f2 = 0))) : SEQ 0 f2 O (fun t => t = k2) := by
  have l := lpq0 L hf
  rcases W with ⟨_, w, w1, w2⟩ | ⟨h1, _⟩
  · subst w2
    rw [LTR, w1] at l
    have l2 : O = if IW β a b wOver then (if 0 < k then some k else none) else (match LET β n a b k with
      | none => none
      | some q => if p < q ∧ p < n then LTR β n q (k + 1) else none) := l
    rw [if_pos (isb_1 i1 (by omega))] at l2
    rcases h2 with ⟨h3, h4, h5⟩ | ⟨h3, h4⟩
    · rw [if_pos h3] at l2
      exact seq0_ok _ h4 l2 h5.symm
    · rw [if_neg h3] at l2
      exact seq0_no h4 l2
  · omega
theorem mltr_bad {β : Int → Int} {n p a b k f f2 rw s : Int} {O : Option Int} {P R : Int → Prop} (L : LPQ 0 f O (LTR β n p k) True) (hf : f = 0) (W : BSQ rw (WRD β n p) (fun w => w = (a, b))) (hw : rw = 1) (i : ISB s (IW β a b wOver)) (hs : s = 0) (S : SEQ 0 f2 (LET β n a b k) P) (h2 : ¬ (f2 = 0)) : SEQ 0 f2 O R := by
  have l := lpq0 L hf
  rcases W with ⟨_, w, w1, w2⟩ | ⟨h1, _⟩
  · subst w2
    rw [LTR, w1] at l
    have l2 : O = if IW β a b wOver then (if 0 < k then some k else none) else (match LET β n a b k with
      | none => none
      | some q => if p < q ∧ p < n then LTR β n q (k + 1) else none) := l
    rw [if_neg (isb_0 i (by omega)), seq0_non S h2] at l2
    exact seq0_no h2 l2
  · omega
def KP12 (f0 f1 : Nat → Int32) : Prop := f1 1 = f0 1 ∧ f1 2 = f0 2
theorem kp_0 {f : Nat → Int32} : KP12 f f := ⟨rfl, rfl⟩
theorem kp_step {f0 fc f2 : Nat → Int32} {x : Int32} (h : KP12 f0 fc) (e : upd fc (Int32.toNatClampNeg 0) x = f2) : KP12 f0 f2 := by
  rw [← e]
  exact ⟨(if_neg (by decide)).trans h.1, (if_neg (by decide)).trans h.2⟩
theorem lpq_f {α : Type} {f : Int} {O : Option α} (h : f = 0) : LPQ 0 f O O True := Or.inr (Or.inl ⟨rfl, h, rfl, trivial⟩)
theorem seq_f0 {α : Type} {f0 f1 : Int} {o : Option α} {P : α → Prop} (h : SEQ f0 f1 o P) (e : f0 = 0) : SEQ 0 f1 o P := e ▸ h
theorem wat_l {r : Int} {δ : Int → Int} {a : Int} {f : Nat → Int32} {n : Nat} (h : ISB r (IW δ a (a + n) (LW f n))) : ISB r (WAT δ a (LW f n)) := by
  rcases h with ⟨h1, h2⟩ | ⟨h1, h2⟩
  · exact Or.inl ⟨h1, h2.2⟩
  · exact Or.inr ⟨h1, fun h => h2 ⟨by rw [lw_len]; omega, h⟩⟩
