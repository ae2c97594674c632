/-! Type 1: programs, settings, letters (p5) -/
theorem seq0_go {α γ : Type} {r f : Int} {o : Option α} {P : α → Prop} {q : α → Option γ} {R : γ → Prop} (h : SEQ 0 r o P) (hr : r = 0) (k : ∀ v, o = some v → P v → SEQ 0 f (q v) R) : SEQ 0 f (o.bind q) R := by
  rcases h with ⟨h0, _⟩ | ⟨_, _, v, h1, h2⟩ | ⟨_, h1, _⟩
  · exact absurd rfl h0
  · rw [h1]
    exact k v h1 h2
  · exact absurd hr h1
theorem seq0_stop {α γ : Type} {r f : Int} {o : Option α} {P : α → Prop} {q : α → Option γ} {R : γ → Prop} (h : SEQ 0 r o P) (hr : ¬ (r = 0)) (hf : ¬ (f = 0)) : SEQ 0 f (o.bind q) R := by
  rcases h with ⟨h0, _⟩ | ⟨_, h1, _⟩ | ⟨_, _, h1⟩
  · exact absurd rfl h0
  · exact absurd h1 hr
  · rw [h1]
    exact seq0_no hf rfl
theorem isb_or1 {s : Int} {A B : Prop} (h : ISB s A) (hs : ¬ (s = 0)) : ISB 1 (A ∨ B) := Or.inl ⟨rfl, Or.inl (isb_1 h hs)⟩
theorem isb_or2 {s : Int} {A B : Prop} (h : ISB s B) (hs : ¬ (s = 0)) : ISB 1 (A ∨ B) := Or.inl ⟨rfl, Or.inr (isb_1 h hs)⟩
theorem isb_or0 {s t : Int} {A B : Prop} (h : ISB s A) (hs : s = 0) (k : ISB t B) (ht : t = 0) : ISB 0 (A ∨ B) := Or.inr ⟨rfl, fun h9 => by
  rcases h9 with h9 | h9
  · exact isb_0 h (by omega) h9
  · exact isb_0 k (by omega) h9⟩
theorem prg_w0 {β : Int → Int} {n p c p1 rc rw f : Int} {P : Int × Int → Prop} {R : Int → Prop} (C : SEQ 0 rc (TLD β n p) (fun v => v = (c, p1))) (hc : rc = 0) (W : BSQ rw (WRD β n p1) P) (hw : rw = 0) (hf : ¬ (f = 0)) : SEQ 0 f (PRG β n p) R := by
  unfold PRG
  refine seq0_go C hc (fun v _ hv => ?_)
  subst hv
  exact bsq_no W hw hf
theorem prg_go {β : Int → Int} {n p a b c p1 rc rw s f q : Int} (C : SEQ 0 rc (TLD β n p) (fun v => v = (c, p1))) (hc : rc = 0) (W : BSQ rw (WRD β n p1) (fun w => w = (a, b))) (hw : ¬ (rw = 0)) (hs : ISB s (IW β a b wRd ∨ IW β a b wBar)) (hf : (s = 0 ∧ ¬ (f = 0)) ∨ (s = 1 ∧ b + 1 + c ≤ n ∧ f = 0 ∧ q = b + 1 + c) ∨ (s = 1 ∧ ¬ (b + 1 + c ≤ n) ∧ ¬ (f = 0))) : SEQ 0 f (PRG β n p) (fun v => v = q) := by
  unfold PRG
  refine seq0_go C hc (fun v _ hv => ?_)
  subst hv
  refine bsq_yes W hw (fun w hw => ?_)
  subst hw
  rcases hs with ⟨s1, s2⟩ | ⟨s1, s2⟩
  · rw [if_pos s2]
    by_cases hn : b + 1 + c ≤ n
    · rw [if_pos hn]
      exact seq0_ok _ (by omega) rfl (by omega)
    · rw [if_neg hn]
      exact seq0_no (by omega) rfl
  · rw [if_neg s2]
    exact seq0_no (by omega) rfl
def AGR (f1 f0 : Nat → Int32) (n p : Int) : Prop := ∀ i, p ≤ i → GB f1 n i = GB f0 n i
def KPT (f0 f1 : Nat → Int32) (T : Int) : Prop := ∀ j : Nat, T.toNat ≤ j → f1 j = f0 j
theorem kpt_0 {f : Nat → Int32} {T : Int} : KPT f f T := fun _ _ => rfl
theorem kpt_step {f0 fc f2 : Nat → Int32} {T : Int} {i v : Int32} (h : KPT f0 fc T) (e : upd fc (Int32.toNatClampNeg i) v = f2) (h0 : 0 ≤ Int32.toInt i) (hi : Int32.toInt i < T) : KPT f0 f2 T := by
  intro j hj
  have hc : Int32.toNatClampNeg i = (Int32.toInt i).toNat := rfl
  rw [← e, upd_eq, hc, if_neg (by omega)]
  exact h j hj
theorem agr_refl {f : Nat → Int32} {n p : Int} : AGR f f n p := fun _ _ => rfl
theorem agr_kpt {f0 f1 : Nat → Int32} {n p T : Int} (h : KPT f0 f1 T) (e : T = p) : AGR f1 f0 n p := by
  intro i hi
  unfold GB
  rw [h i.toNat (by omega)]
theorem agr_le {f0 f1 : Nat → Int32} {n p q : Int} (h : AGR f1 f0 n p) (e : p ≤ q) : AGR f1 f0 n q := fun i hi => h i (by omega)
theorem agr_tr {f0 f1 f2 : Nat → Int32} {n p : Int} (h : AGR f2 f1 n p) (k : AGR f1 f0 n p) : AGR f2 f0 n p := fun i hi => (h i hi).trans (k i hi)
theorem skb_u {β : Int → Int} {n p : Int} (h : p < n) : SKB β n p = if BL (β p) then SKB β n (p + 1) else p := by rw [SKB, if_pos h]
theorem skb_o {β : Int → Int} {n p : Int} (h : ¬ (p < n)) : SKB β n p = p := by rw [SKB, if_neg h]
theorem skw_u {β : Int → Int} {n p : Int} (h : p < n) : SKW β n p = if BL (β p) then p else SKW β n (p + 1) := by rw [SKW, if_pos h]
theorem skw_o {β : Int → Int} {n p : Int} (h : ¬ (p < n)) : SKW β n p = p := by rw [SKW, if_neg h]
theorem cnt_u {β : Int → Int} {b i v : Int} (h : i < b) : CNTL β b i v = if 48 ≤ β i ∧ β i ≤ 57 then CNTL β b (i + 1) (if v * 10 + β i - 48 < 10000 then v * 10 + β i - 48 else 10000) else -1 := by rw [CNTL, if_pos h]
theorem cnt_o {β : Int → Int} {b i v : Int} (h : ¬ (i < b)) : CNTL β b i v = if v < 10000 then v else -1 := by rw [CNTL, if_neg h]
theorem skb_cg {β δ : Int → Int} {n : Int} : ∀ (m : Nat) (p : Int), (n - p).toNat = m → (∀ i, p ≤ i → β i = δ i) → SKB β n p = SKB δ n p := by
  intro m
  induction m with
  | zero => intro p hm h; rw [skb_o (β := β) (by omega), skb_o (β := δ) (by omega)]
  | succ m ih =>
    intro p hm h
    rw [skb_u (β := β) (by omega), skb_u (β := δ) (by omega), h p (by omega)]
    rw [ih (p + 1) (by omega) (fun i hi => h i (by omega))]
theorem skw_cg {β δ : Int → Int} {n : Int} : ∀ (m : Nat) (p : Int), (n - p).toNat = m → (∀ i, p ≤ i → β i = δ i) → SKW β n p = SKW δ n p := by
  intro m
  induction m with
  | zero => intro p hm h; rw [skw_o (β := β) (by omega), skw_o (β := δ) (by omega)]
  | succ m ih =>
    intro p hm h
    rw [skw_u (β := β) (by omega), skw_u (β := δ) (by omega), h p (by omega)]
    rw [ih (p + 1) (by omega) (fun i hi => h i (by omega))]
theorem cnt_cg {β δ : Int → Int} {b : Int} : ∀ (m : Nat) (i v : Int), (b - i).toNat = m → (∀ j, i ≤ j → β j = δ j) → CNTL β b i v = CNTL δ b i v := by
  intro m
  induction m with
  | zero => intro i v hm h; rw [cnt_o (β := β) (by omega), cnt_o (β := δ) (by omega)]
  | succ m ih =>
    intro i v hm h
    rw [cnt_u (β := β) (by omega), cnt_u (β := δ) (by omega), h i (by omega)]
    rw [ih (i + 1) _ (by omega) (fun j hj => h j (by omega))]
theorem skb_rng {β : Int → Int} {n : Int} : ∀ (m : Nat) (p : Int), (n - p).toNat = m → p ≤ SKB β n p := by
  intro m
  induction m with
  | zero => intro p hm; rw [SKB, if_neg (by omega)]; exact Int.le_refl _
  | succ m ih =>
    intro p hm
    rw [SKB, if_pos (by omega)]
    split
    · have := ih (p + 1) (by omega); omega
    · exact Int.le_refl _
theorem skw_rng {β : Int → Int} {n : Int} : ∀ (m : Nat) (p : Int), (n - p).toNat = m → p ≤ SKW β n p ∧ (SKW β n p = p ∨ SKW β n p ≤ n) := by
  intro m
  induction m with
  | zero => intro p hm; rw [SKW, if_neg (by omega)]; omega
  | succ m ih =>
    intro p hm
    rw [SKW, if_pos (by omega)]
    split
    · omega
    · have := ih (p + 1) (by omega); omega
theorem wrd_rng {β : Int → Int} {n p : Int} {w : Int × Int} (h : WRD β n p = some w) : p ≤ w.1 ∧ w.1 < w.2 ∧ w.2 ≤ n := by
  unfold WRD at h
  split at h
  · have e := Option.some.inj h
    have h1 := skb_rng (β := β) _ p (rfl : (n - p).toNat = _)
    have h2 := skw_rng (β := β) _ (SKB β n p) (rfl : (n - SKB β n p).toNat = _)
    rw [← e]
    refine ⟨h1, ?_, ?_⟩
    · show SKB β n p < SKW β n (SKB β n p)
      omega
    · show SKW β n (SKB β n p) ≤ n
      omega
  · exact absurd h (by simp)
theorem wrd_cg {β δ : Int → Int} {n p : Int} (h : ∀ i, p ≤ i → β i = δ i) : WRD β n p = WRD δ n p := by
  unfold WRD
  have h1 := skb_rng (β := δ) _ p (rfl : (n - p).toNat = _)
  rw [skb_cg _ p rfl h, skw_cg _ (SKB δ n p) rfl (fun i hi => h i (by omega))]
theorem wat_cg {β δ : Int → Int} {a : Int} {W : List Int} (h : ∀ i, a ≤ i → β i = δ i) : WAT β a W ↔ WAT δ a W := by
  constructor
  · intro k i hi; rw [← h (a + i) (by omega)]; exact k i hi
  · intro k i hi; rw [h (a + i) (by omega)]; exact k i hi
theorem iw_cg {β δ : Int → Int} {a b : Int} {W : List Int} (h : ∀ i, a ≤ i → β i = δ i) : IW β a b W ↔ IW δ a b W := by
  show (b - a = W.length ∧ WAT β a W) ↔ (b - a = W.length ∧ WAT δ a W)
  rw [wat_cg h]
theorem cntl_rng {β : Int → Int} {b : Int} : ∀ (m : Nat) (i v : Int), (b - i).toNat = m → 0 ≤ v → -1 ≤ CNTL β b i v := by
  intro m
  induction m with
  | zero => intro i v hm hv; rw [CNTL, if_neg (by omega)]; split <;> omega
  | succ m ih =>
    intro i v hm hv
    rw [CNTL, if_pos (by omega)]
    split
    · refine ih _ _ (by omega) ?_
      split <;> omega
    · exact Int.le_refl _
theorem ite_iff {α : Type} {P Q : Prop} [Decidable P] [Decidable Q] (h : P ↔ Q) (x y : α) : (if P then x else y) = if Q then x else y := by
  by_cases hp : P
  · rw [if_pos hp, if_pos (h.mp hp)]
  · rw [if_neg hp, if_neg (fun h9 => hp (h.mpr h9))]
theorem tld_cg {β δ : Int → Int} {n p : Int} (h : ∀ i, p ≤ i → β i = δ i) : TLD β n p = TLD δ n p := by
  unfold TLD
  rw [wrd_cg h]
  cases hW : WRD δ n p with
  | none => rfl
  | some w =>
    have := wrd_rng hW
    rw [Option.bind_some, Option.bind_some, cnt_cg _ w.1 0 rfl (fun i hi => h i (by omega))]
theorem tld_rng {β : Int → Int} {n p : Int} {t : Int × Int} (h : TLD β n p = some t) : p < t.2 ∧ t.2 ≤ n := by
  unfold TLD at h
  cases hW : WRD β n p with
  | none => rw [hW] at h; exact absurd h (by simp)
  | some w =>
    have := wrd_rng hW
    rw [hW, Option.bind_some] at h
    split at h
    · exact absurd h (by simp)
    · have e := Option.some.inj h
      rw [← e]
      exact ⟨by show p < w.2; omega, by show w.2 ≤ n; omega⟩
theorem exw_cg {β δ : Int → Int} {n p : Int} {W : List Int} (h : ∀ i, p ≤ i → β i = δ i) : EXW β n p W = EXW δ n p W := by
  unfold EXW
  rw [wrd_cg h]
  cases hW : WRD δ n p with
  | none => rfl
  | some w =>
    have := wrd_rng hW
    rw [Option.bind_some, Option.bind_some]
    exact ite_iff (iw_cg (fun i hi => h i (by omega))) _ _
theorem exw_rng {β : Int → Int} {n p q : Int} {W : List Int} (h : EXW β n p W = some q) : p < q ∧ q ≤ n := by
  unfold EXW at h
  cases hW : WRD β n p with
  | none => rw [hW] at h; exact absurd h (by simp)
  | some w =>
    have := wrd_rng hW
    rw [hW, Option.bind_some] at h
    split at h
    · have e := Option.some.inj h
      omega
    · exact absurd h (by simp)
theorem prg_cg {β δ : Int → Int} {n p : Int} (h : ∀ i, p ≤ i → β i = δ i) : PRG β n p = PRG δ n p := by
  unfold PRG
  rw [tld_cg h]
  cases hT : TLD δ n p with
  | none => rfl
  | some t =>
    have h1 := tld_rng hT
    rw [Option.bind_some, Option.bind_some, wrd_cg (fun i hi => h i (by omega))]
    cases hW : WRD δ n t.2 with
    | none => rfl
    | some w =>
      have h2 := wrd_rng hW
      rw [Option.bind_some, Option.bind_some]
      refine ite_iff ?_ _ _
      rw [iw_cg (fun i hi => h i (by omega)), iw_cg (fun i hi => h i (by omega))]
theorem subr_cg {β δ : Int → Int} {n p : Int} (h : ∀ i, p ≤ i → β i = δ i) : SUBR β n p = SUBR δ n p := by
  unfold SUBR
  rw [tld_cg h]
  cases hT : TLD δ n p with
  | none => rfl
  | some t =>
    have h1 := tld_rng hT
    rw [Option.bind_some, Option.bind_some, exw_cg (fun i hi => h i (by omega))]
theorem loc_cg {β δ : Int → Int} {n p c : Int} (h : ∀ i, p ≤ i → β i = δ i) : LOC β n p c = LOC δ n p c := by
  unfold LOC
  rw [wrd_cg h]
  cases hW : WRD δ n p with
  | none => rfl
  | some w =>
    have := wrd_rng hW
    rw [Option.bind_some, Option.bind_some, cnt_cg _ w.1 0 rfl (fun i hi => h i (by omega)), prg_cg (fun i hi => h i (by omega))]
theorem stp_cg {β δ : Int → Int} {n a b k c : Int} (hab : a ≤ b) (h : ∀ i, a ≤ i → β i = δ i) : STP β n a b k c = STP δ n a b k c := by
  have hb : ∀ i, b ≤ i → β i = δ i := fun i hi => h i (by omega)
  have e1 : IW β a b wChars ↔ IW δ a b wChars := iw_cg h
  have e2 : IW β a b wLeniv ↔ IW δ a b wLeniv := iw_cg h
  have e3 : IW β a b wSubrs ↔ IW δ a b wSubrs := iw_cg h
  have e4 : (IW β a b wDup ∧ k = 1) ↔ (IW δ a b wDup ∧ k = 1) := and_congr_left (fun _ => iw_cg h)
  unfold STP
  rw [tld_cg hb, subr_cg hb, loc_cg hb, ite_iff e4, ite_iff e3, ite_iff e2, ite_iff e1]
theorem let_cg {β δ : Int → Int} {n a b k : Int} (hab : a ≤ b) (h : ∀ i, a ≤ i → β i = δ i) : LET β n a b k = LET δ n a b k := by
  unfold LET
  rw [h a (Int.le_refl _), prg_cg (fun i hi => h i (by omega))]
  by_cases hc : δ a = 47 ∧ 2 ≤ b - a ∧ k < 40
  · rw [if_pos hc, if_pos hc]
    cases hP : PRG δ n b with
    | none => rfl
    | some q =>
      rw [Option.bind_some, Option.bind_some]
      have hq : b ≤ q := by
        unfold PRG at hP
        cases hT : TLD δ n b with
        | none => rw [hT] at hP; exact absurd hP (by simp)
        | some t =>
          have h1 := tld_rng hT
          rw [hT, Option.bind_some] at hP
          cases hW : WRD δ n t.2 with
          | none => rw [hW] at hP; exact absurd hP (by simp)
          | some w =>
            have h2 := wrd_rng hW
            rw [hW, Option.bind_some] at hP
            have h3 : 0 ≤ t.1 := by
              unfold TLD at hT
              cases hX : WRD δ n b with
              | none => rw [hX] at hT; exact absurd hT (by simp)
              | some y =>
                rw [hX, Option.bind_some] at hT
                split at hT
                · exact absurd hT (by simp)
                · have e := Option.some.inj hT
                  rename_i hne
                  rw [← e]
                  show 0 ≤ CNTL δ y.2 y.1 0
                  have := cntl_rng (β := δ) (b := y.2) _ y.1 0 (rfl : (y.2 - y.1).toNat = _) (by omega)
                  omega
            split at hP
            · split at hP
              · have e := Option.some.inj hP
                omega
              · exact absurd hP (by simp)
            · exact absurd hP (by simp)
      rw [wrd_cg (fun i hi => h i (by omega))]
  · rw [if_neg hc, if_neg hc]
