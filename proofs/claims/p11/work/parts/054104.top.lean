/-! what a DICT has told: the top one, the font's own (p5) -/
theorem sc_1 {m f s : Nat → Int32} {o : Int} (h : o = 17 ∨ o = 18 ∨ o = 262 ∨ o = 19 ∨ o = 20 ∨ o = 21) : (SC m f s o).1 = Int32.toInt (m (SLN o)) := by
  rw [sc_at h]
  split
  · rename_i h9; exact h9.symm
  · rfl
theorem sc_21 {m f s : Nat → Int32} {o : Int} (h : o = 17 ∨ o = 18 ∨ o = 262 ∨ o = 19 ∨ o = 20 ∨ o = 21) : (SC m f s o).2.1 = if Int32.toInt (m (SLN o)) = -1 then 0 else Int32.toInt (f (SLN o)) := by
  rw [sc_at h]
  split <;> rfl
theorem sc_22 {m f s : Nat → Int32} {o : Int} (h : o = 17 ∨ o = 18 ∨ o = 262 ∨ o = 19 ∨ o = 20 ∨ o = 21) : (SC m f s o).2.2 = if Int32.toInt (m (SLN o)) = -1 then 0 else Int32.toInt (s (SLN o)) := by
  rw [sc_at h]
  split <;> rfl
theorem wnt_iff {x f0 f1 : Int} (h : WNT x f0 f1) : f1 = 0 ↔ (x = 1 ∧ f0 = 0) := by
  rcases h with ⟨h1, h2⟩ | ⟨h1, h2⟩ <;> omega
def TOPO (β : Int → Int) (n p e : Int) : Option SLO := (DICB β n p e).bind fun S => if TOPOK S then some S else none
theorem top_pf {β : Int → Int} {n p e f0 fa f1 f2 f3 f4 x1 x2 x3 x4 : Int} {m f s : Nat → Int32} (D : SEQ f0 fa (DICB β n p e) (fun S => S = SC m f s)) (W1 : WNT x1 fa f1) (W2 : WNT x2 f1 f2) (W3 : WNT x3 f2 f3) (W4 : WNT x4 f3 f4)
    (e1 : x1 = 1 ↔ Int32.toInt (m (Int32.toNatClampNeg 0)) = 1) (e2 : x2 = 1 ↔ (Int32.toInt (m (Int32.toNatClampNeg 1)) = -1 ∨ Int32.toInt (m (Int32.toNatClampNeg 1)) = 2)) (e3 : x3 = 1 ↔ (Int32.toInt (m (Int32.toNatClampNeg 2)) = -1 ∨ Int32.toInt (m (Int32.toNatClampNeg 2)) = 1)) (e4 : x4 = 1 ↔ (Int32.toInt (m (Int32.toNatClampNeg 2)) = -1 ∨ Int32.toInt (f (Int32.toNatClampNeg 2)) = 2)) : SEQ f0 f4 (TOPO β n p e) (fun S => S = SC m f s) := by
  refine seq_bind D (fun h => wnt_keep W4 (wnt_keep W3 (wnt_keep W2 (wnt_keep W1 h)))) (fun S _ hS => ?_)
  have k1 : (S 17).1 = Int32.toInt (m (Int32.toNatClampNeg 0)) := by rw [hS]; exact sc_1 (Or.inl rfl)
  have k2 : (S 18).1 = Int32.toInt (m (Int32.toNatClampNeg 1)) := by rw [hS]; exact sc_1 (Or.inr (Or.inl rfl))
  have k3 : (S 262).1 = Int32.toInt (m (Int32.toNatClampNeg 2)) := by rw [hS]; exact sc_1 (Or.inr (Or.inr (Or.inl rfl)))
  have k4 : (S 262).2.1 = if Int32.toInt (m (Int32.toNatClampNeg 2)) = -1 then 0 else Int32.toInt (f (Int32.toNatClampNeg 2)) := by rw [hS]; exact sc_21 (Or.inr (Or.inr (Or.inl rfl)))
  have ht : TOPOK S ↔ (x1 = 1 ∧ x2 = 1 ∧ x3 = 1 ∧ x4 = 1) := by
    show ((S 17).1 = 1 ∧ ((S 18).1 = -1 ∨ (S 18).1 = 2) ∧ ((S 262).1 = -1 ∨ (S 262).1 = 1) ∧ ((S 262).1 = 1 → (S 262).2.1 = 2)) ↔ _
    rw [k1, k2, k3, k4, e1, e2, e3, e4]
    by_cases h9 : Int32.toInt (m (Int32.toNatClampNeg 2)) = -1
    · rw [if_pos h9]; omega
    · rw [if_neg h9]; omega
  have q : f4 = 0 ↔ (x4 = 1 ∧ x3 = 1 ∧ x2 = 1 ∧ x1 = 1 ∧ fa = 0) := by rw [wnt_iff W4, wnt_iff W3, wnt_iff W2, wnt_iff W1]
  by_cases hf : fa = 0
  · by_cases hT : TOPOK S
    · rw [if_pos hT]
      obtain ⟨a1, a2, a3, a4⟩ := ht.mp hT
      exact Or.inr (Or.inl ⟨hf, q.mpr ⟨a4, a3, a2, a1, hf⟩, S, rfl, hS⟩)
    · rw [if_neg hT]
      exact Or.inr (Or.inr ⟨hf, fun h => by obtain ⟨a4, a3, a2, a1, _⟩ := q.mp h; exact hT (ht.mpr ⟨a1, a2, a3, a4⟩), rfl⟩)
  · exact Or.inl ⟨hf, fun h => hf (q.mp h).2.2.2.2⟩
def TOL (r m : Int) : Prop := (r = 1 ∧ ¬ (m = -1)) ∨ (r = 0 ∧ m = -1)
def FTS (r m n : Int) : Prop := (r = 1 ∧ (m = -1 ∨ m = n)) ∨ (r = 0 ∧ ¬ (m = -1) ∧ ¬ (m = n))
def FST (r m f : Int) : Prop := (m = -1 ∧ r = 0) ∨ (¬ (m = -1) ∧ r = f)
def SHV (f ic l0 l1 : Int) : Prop := (f = 0 ∧ 0 < ic ∧ l1 = ic) ∨ ((¬ (f = 0) ∨ ic ≤ 0) ∧ l1 = l0)
def IXN (f0 f1 l m ic ja : Int) : Prop := ¬ (f1 = 0) ∨ (f0 = 0 ∧ l ≤ ic ∧ ic ≤ m ∧ (ic = 0 ∨ 0 ≤ ja))
theorem top_pre {f1 f2 f3 f4 ic ja : Int} {α γ : Type} {o : Option α} {p : Option γ} {P : α → Prop} {Q : γ → Prop} (N : IXN f1 f2 1 1 ic ja) (I3 : SEQ f2 f3 o P) (I4 : SEQ f3 f4 p Q) : ¬ (f4 = 0) ∨ 0 ≤ ja := by
  by_cases h : f2 = 0
  · unfold IXN at N
    omega
  · exact Or.inl (seq_keep I4 (seq_keep I3 h))
