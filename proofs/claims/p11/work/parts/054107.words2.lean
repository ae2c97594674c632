def EQP {α : Type} (a b : α) : Prop := a = b
theorem isb_1 {r : Int} {P : Prop} (h : ISB r P) (hr : ¬ (r = 0)) : P := by
  rcases h with ⟨_, h⟩ | ⟨h, _⟩
  · exact h
  · exact absurd h hr
theorem isb_0 {r : Int} {P : Prop} (h : ISB r P) (hr : ¬ (r = 1)) : ¬ P := by
  rcases h with ⟨h, _⟩ | ⟨_, h⟩
  · exact absurd h hr
  · exact h
theorem isb_and {r : Int} {P Q : Prop} (h : ISB r P) (hq : Q) : ISB r (Q ∧ P) := by
  rcases h with ⟨h1, h2⟩ | ⟨h1, h2⟩
  · exact Or.inl ⟨h1, hq, h2⟩
  · exact Or.inr ⟨h1, fun h9 => h2 h9.2⟩
theorem isb_r {r s : Int} {P : Prop} (h : ISB r P) (e : r = s) : ISB s P := e ▸ h
theorem gb_at {β : Int → Int} {r y p : Int} (h : r = β y) (e : y = p) : r = β p := e ▸ h
def DGT (c : Int) : Int := if 48 ≤ c ∧ c ≤ 57 then c - 48 else if 97 ≤ c ∧ c ≤ 102 then c - 87 else if 65 ≤ c ∧ c ≤ 70 then c - 55 else -1
theorem skb_step {β : Int → Int} {n a p p2 c : Int} (h : EQP a (SKB β n p)) (hp : p < n) (hb : BL c) (hc : c = β p) (e : p2 = p + 1) : EQP a (SKB β n p2) := by
  unfold EQP at h ⊢
  rw [h, SKB, if_pos hp, if_pos (hc ▸ hb), e]
theorem skb_end {β : Int → Int} {n a p : Int} (h : EQP a (SKB β n p)) (hs : n ≤ p ∨ ∃ c, c = β p ∧ ¬ BL c) : EQP a p := by
  unfold EQP at h ⊢
  rw [h, SKB]
  rcases hs with hs | ⟨c, hc, hs⟩
  · rw [if_neg (by omega)]
  · rw [if_neg (c := BL (β p)) (hc ▸ hs)]
    split <;> rfl
theorem skw_step {β : Int → Int} {n a p p2 c : Int} (h : EQP a (SKW β n p)) (hp : p < n) (hb : ¬ BL c) (hc : c = β p) (e : p2 = p + 1) : EQP a (SKW β n p2) := by
  unfold EQP at h ⊢
  rw [h, SKW, if_pos hp, if_neg (hc ▸ hb), e]
theorem skw_end {β : Int → Int} {n a p : Int} (h : EQP a (SKW β n p)) (hs : n ≤ p ∨ ∃ c, c = β p ∧ BL c) : EQP a p := by
  unfold EQP at h ⊢
  rw [h, SKW]
  rcases hs with hs | ⟨c, hc, hs⟩
  · rw [if_neg (by omega)]
  · rw [if_pos (c := BL (β p)) (hc ▸ hs)]
    split <;> rfl
theorem wrd_end {β : Int → Int} {n p0 a b q r : Int} (h1 : EQP (SKB β n p0) a) (h2 : EQP (SKW β n a) q) (e : b = q) (hr : (r = 1 ∧ a < b) ∨ (r = 0 ∧ ¬ (a < b))) : BSQ r (WRD β n p0) (fun w => w = (a, b)) := by
  unfold EQP at h1 h2
  unfold WRD
  rw [h1, h2, ← e]
  rcases hr with ⟨h3, h4⟩ | ⟨h3, h4⟩
  · exact Or.inl ⟨h3, _, if_pos h4, rfl⟩
  · exact Or.inr ⟨h3, if_neg h4⟩
def WPF (β : Int → Int) (a : Int) (W : List Int) (i : Int) : Prop := ∀ j : Nat, j < i.toNat → β (a + j) = W.getD j 0
theorem wpf_0 {β : Int → Int} {a : Int} {W : List Int} : WPF β a W 0 := fun j h => absurd h (Nat.not_lt_zero j)
def CHA (W : List Int) (x r : Int) : Prop := r = W.getD x.toNat 0
theorem wpf_step {β : Int → Int} {a i i2 r s y : Int} {W : List Int} (h : WPF β a W i) (h0 : 0 ≤ i) (e : i2 = i + 1) (hc : r = β y) (hy : y = a + i) (hs : CHA W i s) (hrs : r = s) : WPF β a W i2 := by
  intro j hj
  by_cases h9 : j < i.toNat
  · exact h j h9
  · have : j = i.toNat := by omega
    subst this
    unfold CHA at hs
    rw [show a + (i.toNat : Int) = y by omega, ← hc, hrs, hs]
theorem wat_yes {β : Int → Int} {a i : Int} {W : List Int} (h : WPF β a W i) (hl : (W.length : Int) ≤ i) : ISB 1 (WAT β a W) := Or.inl ⟨rfl, fun j hj => h j (by omega)⟩
theorem wat_no {β : Int → Int} {a i r s y : Int} {W : List Int} (h0 : 0 ≤ i) (hl : i < (W.length : Int)) (hc : r = β y) (hy : y = a + i) (hs : CHA W i s) (hrs : ¬ (r = s)) : ISB 0 (WAT β a W) := by
  refine Or.inr ⟨rfl, fun h => hrs ?_⟩
  have h1 := h i.toNat (by omega)
  unfold CHA at hs
  rw [hs, ← h1, hc, hy, show a + (i.toNat : Int) = a + i by omega]
theorem cnt_step {β : Int → Int} {b a i i2 v v2 c : Int} (h : EQP a (CNTL β b i v)) (hi : i < b) (hc : c = β i) (h1 : 48 ≤ c ∧ c ≤ 57) (hv : (v * 10 + c - 48 < 10000 ∧ v2 = v * 10 + c - 48) ∨ (¬ (v * 10 + c - 48 < 10000) ∧ v2 = 10000)) (e : i2 = i + 1) : EQP a (CNTL β b i2 v2) := by
  unfold EQP at h ⊢
  rw [h, CNTL, if_pos hi, if_pos (by rw [← hc]; exact h1), e, ← hc]
  rcases hv with ⟨h2, h3⟩ | ⟨h2, h3⟩
  · rw [if_pos h2, h3]
  · rw [if_neg h2, h3]
theorem cnt_bad {β : Int → Int} {b a i v c : Int} (h : EQP a (CNTL β b i v)) (hi : i < b) (hc : c = β i) (h1 : ¬ (48 ≤ c ∧ c ≤ 57)) : EQP a (-1) := by
  unfold EQP at h ⊢
  rw [h, CNTL, if_pos hi, if_neg (by rw [← hc]; exact h1)]
theorem cnt_end {β : Int → Int} {b a i v r : Int} (h : EQP a (CNTL β b i v)) (hi : ¬ (i < b)) (hr : (v < 10000 ∧ r = v) ∨ (¬ (v < 10000) ∧ r = -1)) : EQP a r := by
  unfold EQP at h ⊢
  rw [h, CNTL, if_neg hi]
  rcases hr with ⟨h2, h3⟩ | ⟨h2, h3⟩
  · rw [if_pos h2, h3]
  · rw [if_neg h2, h3]
theorem bsq_no {α : Type} {r f : Int} {o : Option α} {P : α → Prop} {γ : Type} {q : α → Option γ} {R : γ → Prop} (h : BSQ r o P) (hr : r = 0) (hf : ¬ (f = 0)) : SEQ 0 f (o.bind q) R := by
  rcases h with ⟨h1, _⟩ | ⟨_, h1⟩
  · omega
  · rw [h1]
    exact Or.inr (Or.inr ⟨rfl, hf, rfl⟩)
theorem bsq_yes {α : Type} {r f : Int} {o : Option α} {P : α → Prop} {γ : Type} {q : α → Option γ} {R : γ → Prop} (h : BSQ r o P) (hr : ¬ (r = 0)) (k : ∀ v, P v → SEQ 0 f (q v) R) : SEQ 0 f (o.bind q) R := by
  rcases h with ⟨_, v, h1, h2⟩ | ⟨h1, _⟩
  · rw [h1]
    exact k v h2
  · omega
theorem seq0_ok {α : Type} {f : Int} {o : Option α} {P : α → Prop} (v : α) (hf : f = 0) (e : o = some v) (h : P v) : SEQ 0 f o P := Or.inr (Or.inl ⟨rfl, hf, v, e, h⟩)
theorem seq0_no {α : Type} {f : Int} {o : Option α} {P : α → Prop} (hf : ¬ (f = 0)) (e : o = none) : SEQ 0 f o P := Or.inr (Or.inr ⟨rfl, hf, e⟩)
theorem exw_pf {β : Int → Int} {n p a b r s f q : Int} {W : List Int} (h : BSQ r (WRD β n p) (fun w => w = (a, b))) (hr : ¬ (r = 0)) (i : ISB s (IW β a b W)) (hf : (s = 1 ∧ f = 0) ∨ (s = 0 ∧ ¬ (f = 0))) (e : q = b) : SEQ 0 f (EXW β n p W) (fun v => v = q) := by
  unfold EXW
  refine bsq_yes h hr (fun w hw => ?_)
  subst hw
  rcases i with ⟨i1, i2⟩ | ⟨i1, i2⟩
  · rw [if_pos i2]
    exact seq0_ok _ (by omega) rfl e.symm
  · rw [if_neg i2]
    exact seq0_no (by omega) rfl
theorem tld_pf {β : Int → Int} {n p a b r c f q : Int} (h : BSQ r (WRD β n p) (fun w => w = (a, b))) (hr : ¬ (r = 0)) (i : EQP (CNTL β b a 0) c) (hf : (¬ (c = -1) ∧ f = 0) ∨ (c = -1 ∧ ¬ (f = 0))) (e : q = b) : SEQ 0 f (TLD β n p) (fun v => v = (c, q)) := by
  unfold TLD
  refine bsq_yes h hr (fun w hw => ?_)
  subst hw
  unfold EQP at i
  rw [i]
  rcases hf with ⟨i1, i2⟩ | ⟨i1, i2⟩
  · rw [if_neg i1]
    exact seq0_ok _ i2 rfl (by rw [e])
  · rw [if_pos i1]
    exact seq0_no i2 rfl
