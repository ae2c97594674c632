/-! fonts: what a reading of the tape tells, as functions of its bytes (p5) -/
def GB (f : Nat → Int32) (n i : Int) : Int := if 0 ≤ i ∧ i < n then Int32.toInt (f i.toNat &&& 255) else -1
theorem gb_in {f : Nat → Int32} {n i : Int} (h0 : 0 ≤ i) (h1 : i < n) : GB f n i = Int32.toInt (f i.toNat &&& 255) := if_pos ⟨h0, h1⟩
theorem gb_out {f : Nat → Int32} {n i : Int} (h : i < 0 ∨ n ≤ i) : GB f n i = -1 := if_neg (by omega)
theorem gb_pos {f : Nat → Int32} {n i : Int} (h0 : 0 ≤ i) (h1 : i < n) : 0 ≤ GB f n i ∧ GB f n i ≤ 255 := by rw [gb_in h0 h1]; exact and_255 _
theorem gb_rng (f : Nat → Int32) (n i : Int) : -1 ≤ GB f n i ∧ GB f n i ≤ 255 := by
  unfold GB
  split
  · have := and_255 (f i.toNat); omega
  · omega
theorem gb_E8 {f g : Nat → Int32} {n : Int} (h : E8 f g n.toNat) : GB f n = GB g n := by
  funext i
  unfold GB
  split
  · rename_i h9
    rw [h i.toNat (by omega)]
  · rfl
theorem gb_get {f : Nat → Int32} {n y : Int} {r : Int32} (h : HID ((0 ≤ y ∧ y < n ∧ r = (f (Int.toNat y) &&& 255)) ∨ ((y < 0 ∨ n ≤ y) ∧ r = -1))) : r.toInt = GB f n y := by
  rcases h with ⟨h1, h2, h3⟩ | ⟨h1, h2⟩
  · rw [gb_in h1 h2, h3]
  · rw [gb_out h1, h2]; rfl
def NUM (β : Int → Int) (p : Int) : Nat → Int
  | 0 => 0
  | k + 1 => NUM β p k * 256 + β (p + k)
def HDR (β : Int → Int) (n : Int) : Option Int := if 4 ≤ n ∧ β 0 = 1 ∧ 4 ≤ β 2 ∧ 1 ≤ β 3 ∧ β 3 ≤ 4 then some (β 2) else none
def OFS (β : Int → Int) (n w : Int) : Nat → Int → Int → Int → Option Int
  | 0, _, _, b => some b
  | m + 1, p, k, b => if p + w ≤ n ∧ b ≤ NUM β p w.toNat ∧ (0 < k ∨ NUM β p w.toNat = 1) then OFS β n w m (p + w) (k + 1) (NUM β p w.toNat) else none
def IDX (β : Int → Int) (n p l m : Int) : Option (Int × Int × Int) :=
  if 0 ≤ p ∧ p + 2 ≤ n ∧ l ≤ NUM β p 2 ∧ NUM β p 2 ≤ m then
    if NUM β p 2 = 0 then some (0, 0, p + 2)
    else if p + 3 ≤ n ∧ 1 ≤ β (p + 2) ∧ β (p + 2) ≤ 4 then
      (OFS β n (β (p + 2)) (NUM β p 2 + 1).toNat (p + 3) 0 1).bind fun b => if p + 3 + β (p + 2) * (NUM β p 2 + 1) + b - 1 ≤ n then some (NUM β p 2, β (p + 2), p + 3 + β (p + 2) * (NUM β p 2 + 1) + b - 1) else none
    else none
  else none
def REAL (β : Int → Int) (e p : Int) : Option Int :=
  if p < e then (if β p / 16 = 13 ∨ (¬ (β p / 16 = 15) ∧ β p % 16 = 13) then none else if β p / 16 = 15 ∨ β p % 16 = 15 then some (p + 1) else REAL β e (p + 1)) else none
termination_by (e - p).toNat
decreasing_by omega
def s16 (x : Int) : Int := if x < 32768 then x else x - 65536
def s32 (x : Int) : Int := if x < 2147483648 then x else x - 4294967296
def OPN (β : Int → Int) (e c p : Int) : Option (Int × Int × Int) :=
  if c = 28 then (if p + 2 ≤ e then some (s16 (NUM β p 2), p + 2, 0) else none)
  else if c = 29 then (if p + 4 ≤ e then some (s32 (NUM β p 4), p + 4, 0) else none)
  else if c = 30 then (REAL β e p).bind fun q => some (0, q, 1)
  else if 32 ≤ c ∧ c ≤ 246 then some (c - 139, p, 0)
  else if 247 ≤ c ∧ c ≤ 250 then (if p + 1 ≤ e then some ((c - 247) * 256 + β p + 108, p + 1, 0) else none)
  else if 251 ≤ c ∧ c ≤ 254 then (if p + 1 ≤ e then some (-(c - 251) * 256 - β p - 108, p + 1, 0) else none)
  else none
def ISO (o : Int) : Prop := o = 17 ∨ o = 18 ∨ o = 262 ∨ o = 19 ∨ o = 20 ∨ o = 21
abbrev SLO := Int → Int × Int × Int
def TEL (S : SLO) (o k a b r : Int) : SLO := fun j => if j = o ∧ (o = 17 ∨ o = 18 ∨ o = 262 ∨ o = 19 ∨ o = 20 ∨ o = 21) then (if r = 1 then 49 else k, if 0 < k then a else 0, if 1 < k then b else 0) else S j
def DST (β : Int → Int) (e p k a b r : Int) (S : SLO) : Option (Int × Int × Int × Int × Int × SLO) :=
  if β p ≤ 21 then
    (if β p = 12 then (if p + 1 < e then some (p + 2, 0, 0, 0, 0, TEL S (256 + β (p + 1)) k a b r) else none)
     else some (p + 1, 0, 0, 0, 0, TEL S (β p) k a b r))
  else if k = 48 then none
  else (OPN β e (β p) (p + 1)).bind fun q => some (q.2.1, k + 1, if k = 0 then q.1 else a, if k = 1 then q.1 else b, if q.2.2 = 1 then 1 else r, S)
def DCT (β : Int → Int) (e p k a b r : Int) (S : SLO) : Option SLO :=
  if e ≤ p then (if k = 0 then some S else none)
  else match DST β e p k a b r S with
    | none => none
    | some q => if p < q.1 then DCT β e q.1 q.2.1 q.2.2.1 q.2.2.2.1 q.2.2.2.2.1 q.2.2.2.2.2 else none
termination_by (e - p).toNat
decreasing_by omega
def DIC (β : Int → Int) (p e : Int) : Option SLO := DCT β e p 0 0 0 0 (fun _ => (-1, 0, 0))
abbrev FIT (S : SLO) (o n : Int) : Prop := (S o).1 = -1 ∨ (S o).1 = n
abbrev TOPOK (S : SLO) : Prop := (S 17).1 = 1 ∧ FIT S 18 2 ∧ FIT S 262 1 ∧ ((S 262).1 = 1 → (S 262).2.1 = 2)
def PRIV (β : Int → Int) (n p z : Int) : Option (Int × Int × Int) :=
  if 0 ≤ p ∧ 0 ≤ z ∧ p + z ≤ n then
    (DIC β p (p + z)).bind fun S =>
      if FIT S 19 1 ∧ FIT S 20 1 ∧ FIT S 21 1 then
        (if (S 19).1 = -1 then some (0, if (S 20).1 = 1 then (S 20).2.1 else 0, if (S 21).1 = 1 then (S 21).2.1 else 0)
         else (IDX β n (p + (S 19).2.1) 0 65535).bind fun i => some (i.1, if (S 20).1 = 1 then (S 20).2.1 else 0, if (S 21).1 = 1 then (S 21).2.1 else 0))
      else none
  else none
/-- letters, locals, globals, DEFAULT, NOMINAL -/
def CFF (β : Int → Int) (n : Int) : Option (Int × Int × Int × Int × Int) :=
  (HDR β n).bind fun h => (IDX β n h 1 1).bind fun i1 => (IDX β n i1.2.2 1 1).bind fun i2 => (IDX β n i2.2.2 0 65535).bind fun i3 => (IDX β n i3.2.2 0 65535).bind fun i4 =>
    (DIC β (i1.2.2 + 3 + i2.2.1 * 2) i2.2.2).bind fun S => if TOPOK S then
      (IDX β n (S 17).2.1 1 40).bind fun i5 =>
        if (S 18).1 = -1 then some (i5.1, 0, i4.1, 0, 0)
        else (PRIV β n (S 18).2.2 (S 18).2.1).bind fun q => some (i5.1, q.1, i4.1, q.2.1, q.2.2)
      else none
/-! steps that a fault ends -/
def SEQ {α : Type} (f0 f1 : Int) (o : Option α) (P : α → Prop) : Prop := (¬ (f0 = 0) ∧ ¬ (f1 = 0)) ∨ (f0 = 0 ∧ f1 = 0 ∧ ∃ v, o = some v ∧ P v) ∨ (f0 = 0 ∧ ¬ (f1 = 0) ∧ o = none)
theorem seq_old {α : Type} {f0 f1 : Int} {o : Option α} {P : α → Prop} (h0 : ¬ (f0 = 0)) (h1 : ¬ (f1 = 0)) : SEQ f0 f1 o P := Or.inl ⟨h0, h1⟩
theorem seq_ok {α : Type} {f0 f1 : Int} {o : Option α} {P : α → Prop} (v : α) (h0 : f0 = 0) (h1 : f1 = 0) (e : o = some v) (h : P v) : SEQ f0 f1 o P := Or.inr (Or.inl ⟨h0, h1, v, e, h⟩)
theorem seq_no {α : Type} {f0 f1 : Int} {o : Option α} {P : α → Prop} (h0 : f0 = 0) (h1 : ¬ (f1 = 0)) (e : o = none) : SEQ f0 f1 o P := Or.inr (Or.inr ⟨h0, h1, e⟩)
theorem seq_bind {α β : Type} {f0 f1 f2 : Int} {o : Option α} {P : α → Prop} {q : α → Option β} {R : β → Prop} (h : SEQ f0 f1 o P) (hn : ¬ (f1 = 0) → ¬ (f2 = 0)) (k : ∀ v, o = some v → P v → SEQ f1 f2 (q v) R) : SEQ f0 f2 (o.bind q) R := by
  rcases h with ⟨h0, h1⟩ | ⟨h0, h1, v, e, hv⟩ | ⟨h0, h1, e⟩
  · exact Or.inl ⟨h0, hn h1⟩
  · rw [e]
    rcases k v e hv with ⟨k0, k1⟩ | ⟨k0, k1, u, e2, hu⟩ | ⟨k0, k1, e2⟩
    · exact absurd h1 k0
    · exact Or.inr (Or.inl ⟨h0, k1, u, e2, hu⟩)
    · exact Or.inr (Or.inr ⟨h0, k1, e2⟩)
  · rw [e]
    exact Or.inr (Or.inr ⟨h0, hn h1, rfl⟩)
theorem seq_keep {α : Type} {f0 f1 : Int} {o : Option α} {P : α → Prop} (h : SEQ f0 f1 o P) : ¬ (f0 = 0) → ¬ (f1 = 0) := fun h0 => by
  rcases h with ⟨_, h1⟩ | ⟨h9, _⟩ | ⟨h9, _⟩
  · exact h1
  · exact absurd h9 h0
  · exact absurd h9 h0
theorem seq_imp {α : Type} {f0 f1 : Int} {o : Option α} {P R : α → Prop} (h : SEQ f0 f1 o P) (k : ∀ v, o = some v → P v → R v) : SEQ f0 f1 o R := by
  rcases h with h | ⟨h0, h1, v, e, hv⟩ | h
  · exact Or.inl h
  · exact Or.inr (Or.inl ⟨h0, h1, v, e, k v e hv⟩)
  · exact Or.inr (Or.inr h)
theorem seq_of {α : Type} {f0 f1 : Int} {o o2 : Option α} {P : α → Prop} (h : SEQ f0 f1 o P) (e : o = o2) : SEQ f0 f1 o2 P := e ▸ h
/-- a wish: 1 keeps the fault as it is, 0 makes one -/
def WNT (x f0 f1 : Int) : Prop := (x = 1 ∧ f1 = f0) ∨ (x = 0 ∧ ¬ (f1 = 0))
def ASK (c : Prop) [Decidable c] : Option Unit := if c then some () else none
theorem seq_wnt {x f0 f1 : Int} {c : Prop} [Decidable c] (h : WNT x f0 f1) (hx : x = 1 ↔ c) : SEQ f0 f1 (ASK c) (fun _ => True) := by
  unfold ASK
  by_cases h0 : f0 = 0
  · rcases h with ⟨h1, h2⟩ | ⟨h1, h2⟩
    · rw [if_pos (hx.mp h1)]
      exact Or.inr (Or.inl ⟨h0, by omega, (), rfl, trivial⟩)
    · rw [if_neg (fun h9 => by have := hx.mpr h9; omega)]
      exact Or.inr (Or.inr ⟨h0, h2, rfl⟩)
  · rcases h with ⟨h1, h2⟩ | ⟨h1, h2⟩
    · exact Or.inl ⟨h0, by omega⟩
    · exact Or.inl ⟨h0, h2⟩
def BYT (β : Int → Int) (n b p : Int) : Option Int := if 0 ≤ p ∧ p < n ∧ p < b then some (β p) else none
def NUMO (β : Int → Int) (n b p : Int) : Nat → Option Int
  | 0 => some 0
  | k + 1 => (NUMO β n b p k).bind fun v => (BYT β n b (p + k)).bind fun c => some (v * 256 + c)
theorem byt_ok {β : Int → Int} {n b p : Int} (h : 0 ≤ p ∧ p < n ∧ p < b) : BYT β n b p = some (β p) := if_pos h
theorem byt_no {β : Int → Int} {n b p : Int} (h : ¬ (0 ≤ p ∧ p < n ∧ p < b)) : BYT β n b p = none := if_neg h
theorem gb_ret {f : Nat → Int32} {i zl z : Int32} {a n : Int} (e1 : f (Int32.toNatClampNeg i) = zl) (e2 : zl &&& 255 = z) (h : Int32.toInt i = a) (h0 : 0 ≤ a) (h1 : a < n) : Int32.toInt z = GB f n a := by
  rw [gb_in h0 h1]
  subst e1 e2 h
  rfl
theorem seq_some {α : Type} {f : Int} (v : α) : SEQ f f (some v) (fun u => u = v) := by
  by_cases h : f = 0
  · exact Or.inr (Or.inl ⟨h, h, v, rfl, rfl⟩)
  · exact Or.inl ⟨h, h⟩
theorem num_0 {β : Int → Int} {n b p f : Int} : SEQ f f (NUMO β n b p 0) (fun v => v = 0 ∧ p = p + (0 : Nat)) := seq_imp (seq_some 0) (fun v _ h => ⟨h, by omega⟩)
theorem num_step {β : Int → Int} {n b p p1 p2 f0 f1 f2 N r : Int} {k : Nat} (h : SEQ f0 f1 (NUMO β n b p k) (fun v => v = N ∧ p1 = p + k)) (t : SEQ f1 f2 (BYT β n b p1) (fun v => v = r ∧ p2 = p1 + 1)) : SEQ f0 f2 (NUMO β n b p (k + 1)) (fun v => v = N * 256 + r ∧ p2 = p + (k + 1 : Nat)) := by
  refine seq_bind h (seq_keep t) (fun v _ hv => ?_)
  obtain ⟨hv, hp⟩ := hv
  rw [← hp]
  have e : f2 = 0 → f2 = 0 := id
  refine seq_bind (q := fun c => some (v * 256 + c)) t (fun h9 => h9) (fun c _ hc => ?_)
  obtain ⟨hc, hp2⟩ := hc
  exact seq_imp (seq_some _) (fun u _ hu => ⟨by rw [hu, hv, hc], by omega⟩)
theorem numo_none {β : Int → Int} {n b p : Int} {k : Nat} (h : NUMO β n b p k = none) : ∀ m : Nat, NUMO β n b p (k + m) = none := by
  intro m
  induction m with
  | zero => exact h
  | succ m ih =>
    show (NUMO β n b p (k + m)).bind _ = none
    rw [ih]
    rfl
theorem num_stop {β : Int → Int} {n b p f0 f1 : Int} {k m : Nat} {P Q : Int → Prop} (h : SEQ f0 f1 (NUMO β n b p k) P) (hf : ¬ (f1 = 0)) (hk : k ≤ m) : SEQ f0 f1 (NUMO β n b p m) Q := by
  rcases h with h | ⟨h0, h1, _⟩ | ⟨h0, h1, e⟩
  · exact Or.inl h
  · exact absurd h1 hf
  · refine Or.inr (Or.inr ⟨h0, h1, ?_⟩)
    have e2 := numo_none e (m - k)
    rw [show k + (m - k) = m by omega] at e2
    exact e2
theorem numo_eq {β : Int → Int} {n b p : Int} : ∀ k : Nat, NUMO β n b p (k + 1) = if 0 ≤ p ∧ p + (k + 1 : Nat) ≤ n ∧ p + (k + 1 : Nat) ≤ b then some (NUM β p (k + 1)) else none := by
  intro k
  induction k with
  | zero =>
    show ((some 0 : Option Int).bind fun v => (BYT β n b (p + (0 : Nat))).bind fun c => some (v * 256 + c)) = _
    rw [Option.bind_some]
    unfold BYT
    by_cases h : 0 ≤ p ∧ p + (0 + 1 : Nat) ≤ n ∧ p + (0 + 1 : Nat) ≤ b
    · rw [if_pos h, if_pos (by omega)]
      rfl
    · rw [if_neg h, if_neg (by omega)]
      rfl
  | succ k ih =>
    show ((NUMO β n b p (k + 1)).bind fun v => (BYT β n b (p + (k + 1 : Nat))).bind fun c => some (v * 256 + c)) = _
    rw [ih]
    by_cases h : 0 ≤ p ∧ p + (k + 1 + 1 : Nat) ≤ n ∧ p + (k + 1 + 1 : Nat) ≤ b
    · rw [if_pos h, if_pos (by omega), Option.bind_some, byt_ok (by omega)]
      rfl
    · rw [if_neg h]
      by_cases h2 : 0 ≤ p ∧ p + (k + 1 : Nat) ≤ n ∧ p + (k + 1 : Nat) ≤ b
      · rw [if_pos h2, Option.bind_some, byt_no (by omega)]
        rfl
      · rw [if_neg h2]
        rfl
theorem hdr_pf {β : Int → Int} {n b f0 f1 f2 f3 f4 f5 f6 f7 r1 r2 r3 r4 p1 p2 p3 p4 x1 x2 x3 pe : Int} (hb : n ≤ b) (t1 : SEQ f0 f1 (BYT β n b 0) (fun v => v = r1 ∧ p1 = 0 + 1)) (w1 : WNT x1 f1 f2) (t2 : SEQ f2 f3 (BYT β n b p1) (fun v => v = r2 ∧ p2 = p1 + 1)) (t3 : SEQ f3 f4 (BYT β n b p2) (fun v => v = r3 ∧ p3 = p2 + 1)) (w2 : WNT x2 f4 f5) (t4 : SEQ f5 f6 (BYT β n b p3) (fun v => v = r4 ∧ p4 = p3 + 1)) (w3 : WNT x3 f6 f7)
    (e1 : x1 = 1 ↔ r1 = 1) (e2 : x2 = 1 ↔ 4 ≤ r3) (e3 : x3 = 1 ↔ (1 ≤ r4 ∧ r4 ≤ 4)) (ep : pe = r3) : SEQ f0 f7 (HDR β n) (fun v => v = pe) := by
  have s1 := seq_wnt w1 e1
  have s2 := seq_wnt w2 e2
  have s3 := seq_wnt w3 e3
  have h : SEQ f0 f7 ((BYT β n b 0).bind fun a => (ASK (a = 1)).bind fun _ => (BYT β n b 1).bind fun _ => (BYT β n b 2).bind fun c => (ASK (4 ≤ c)).bind fun _ => (BYT β n b 3).bind fun d => (ASK (1 ≤ d ∧ d ≤ 4)).bind fun _ => some c) (fun v => v = pe) := by
    refine seq_bind t1 (fun h => seq_keep s3 (seq_keep t4 (seq_keep s2 (seq_keep t3 (seq_keep t2 (seq_keep s1 h)))))) (fun a _ ha => ?_)
    obtain ⟨ha, hp1⟩ := ha
    subst ha
    refine seq_bind s1 (fun h => seq_keep s3 (seq_keep t4 (seq_keep s2 (seq_keep t3 (seq_keep t2 h))))) (fun _ _ _ => ?_)
    rw [show (0 : Int) + 1 = 1 from rfl] at hp1
    subst hp1
    refine seq_bind t2 (fun h => seq_keep s3 (seq_keep t4 (seq_keep s2 (seq_keep t3 h)))) (fun _ _ hv => ?_)
    obtain ⟨_, hp2⟩ := hv
    rw [show (1 : Int) + 1 = 2 from rfl] at hp2
    subst hp2
    refine seq_bind t3 (fun h => seq_keep s3 (seq_keep t4 (seq_keep s2 h))) (fun c _ hv => ?_)
    obtain ⟨hc, hp3⟩ := hv
    rw [show (2 : Int) + 1 = 3 from rfl] at hp3
    subst hp3
    subst hc
    refine seq_bind s2 (fun h => seq_keep s3 (seq_keep t4 h)) (fun _ _ _ => ?_)
    refine seq_bind t4 (fun h => seq_keep s3 h) (fun d _ hv => ?_)
    obtain ⟨hd, _⟩ := hv
    subst hd
    refine seq_bind s3 (fun h => h) (fun _ _ _ => ?_)
    exact seq_imp (seq_some _) (fun u _ hu => by rw [hu, ep])
  refine seq_of h ?_
  unfold BYT ASK HDR
  by_cases h4 : 4 ≤ n
  · rw [if_pos (by omega), if_pos (by omega), if_pos (by omega), if_pos (by omega)]
    simp only [Option.bind_some]
    by_cases c1 : β 0 = 1
    · by_cases c2 : 4 ≤ β 2
      · by_cases c3 : 1 ≤ β 3 ∧ β 3 ≤ 4
        · rw [if_pos c1, if_pos c2, if_pos c3, if_pos ⟨h4, c1, c2, c3⟩]
          rfl
        · rw [if_pos c1, if_pos c2, if_neg c3, if_neg (by omega)]
          rfl
      · rw [if_pos c1, if_neg c2]
        rw [if_neg (c := 4 ≤ n ∧ β 0 = 1 ∧ 4 ≤ β 2 ∧ 1 ≤ β 3 ∧ β 3 ≤ 4) (by omega)]
        rfl
    · rw [if_neg c1]
      rw [if_neg (c := 4 ≤ n ∧ β 0 = 1 ∧ 4 ≤ β 2 ∧ 1 ≤ β 3 ∧ β 3 ≤ 4) (by omega)]
      rfl
  · rw [if_neg (c := 4 ≤ n ∧ β 0 = 1 ∧ 4 ≤ β 2 ∧ 1 ≤ β 3 ∧ β 3 ≤ 4) (by omega), if_neg (c := 0 ≤ (3 : Int) ∧ 3 < n ∧ 3 < b) (by omega)]
    simp
theorem num_stepI {β : Int → Int} {n b p p1 p2 f0 f1 f2 N N2 r i i2 : Int} (h : SEQ f0 f1 (NUMO β n b p i.toNat) (fun v => v = N ∧ p1 = p + i)) (t : SEQ f1 f2 (BYT β n b p1) (fun v => v = r ∧ p2 = p1 + 1)) (h0 : 0 ≤ i) (e : i2 = i + 1) (eN : f2 = 0 → N2 = N * 256 + r) : SEQ f0 f2 (NUMO β n b p i2.toNat) (fun v => v = N2 ∧ p2 = p + i2) := by
  have e2 : i2.toNat = i.toNat + 1 := by omega
  rw [e2]
  have h2 := num_step (k := i.toNat) (seq_imp h (fun v _ hv => ⟨hv.1, by have := hv.2; omega⟩)) t
  by_cases hf : f2 = 0
  · exact seq_imp h2 (fun v _ hv => ⟨by rw [hv.1, eN hf], by have := hv.2; omega⟩)
  · exact num_stop h2 hf (Nat.le_refl _)
theorem num_0I {β : Int → Int} {n b p f : Int} : SEQ f f (NUMO β n b p (Int.toNat 0)) (fun v => v = 0 ∧ p = p + 0) := seq_imp (seq_some 0) (fun v _ h => ⟨h, by omega⟩)
theorem num_endI {β : Int → Int} {n b p f0 f1 i k N R p1 : Int} (h : SEQ f0 f1 (NUMO β n b p i.toNat) (fun v => v = N ∧ p1 = p + i)) (hi : i ≤ k ∨ k ≤ 0) (hk : f1 = 0 → R = N ∧ (i = k ∨ (i = 0 ∧ k ≤ 0))) (hz : ¬ (f1 = 0) → i ≤ k ∨ ¬ (f0 = 0)) : SEQ f0 f1 (NUMO β n b p k.toNat) (fun v => v = R ∧ (k < 0 ∨ p1 = p + k)) := by
  by_cases hf : f1 = 0
  · obtain ⟨hk1, hk2⟩ := hk hf
    have e : i.toNat = k.toNat := by omega
    rw [← e]
    exact seq_imp h (fun v _ hv => ⟨by rw [hv.1, hk1], by have := hv.2; omega⟩)
  · rcases hz hf with hz | hz
    · exact num_stop h hf (by omega)
    · exact Or.inl ⟨hz, hf⟩
def LPQ {α : Type} (f0 f : Int) (O O2 : Option α) (P : Prop) : Prop := (¬ (f0 = 0) ∧ ¬ (f = 0)) ∨ (f0 = 0 ∧ f = 0 ∧ O = O2 ∧ P) ∨ (f0 = 0 ∧ ¬ (f = 0) ∧ O = none)
theorem lpq_0 {α : Type} {f : Int} {O : Option α} {P : Prop} (h : P) : LPQ f f O O P := by
  by_cases hf : f = 0
  · exact Or.inr (Or.inl ⟨hf, hf, rfl, h⟩)
  · exact Or.inl ⟨hf, hf⟩
theorem wnt_keep {x f0 f1 : Int} (h : WNT x f0 f1) : ¬ (f0 = 0) → ¬ (f1 = 0) := fun h0 => by
  rcases h with ⟨_, h2⟩ | ⟨_, h2⟩
  · omega
  · exact h2
theorem numo_pos {β : Int → Int} {n b p w : Int} (hw : 1 ≤ w) (hb : n ≤ b) (hp : 0 ≤ p) : NUMO β n b p w.toNat = if p + w ≤ n then some (NUM β p w.toNat) else none := by
  obtain ⟨k, hk⟩ : ∃ k : Nat, w.toNat = k + 1 := ⟨w.toNat - 1, by omega⟩
  have e := numo_eq (β := β) (n := n) (b := b) (p := p) k
  rw [hk, e]
  by_cases h : p + w ≤ n
  · rw [if_pos h, if_pos (by omega)]
  · rw [if_neg h, if_neg (by omega)]
theorem ofs_step {β : Int → Int} {n b w f0 f f1 f2 M M2 p p1 k k2 a o x s : Int} {O : Option Int} (hb : n ≤ b) (hw : f = 0 → 1 ≤ w) (hp : f = 0 → 0 ≤ p) (L : LPQ f0 f O (OFS β n w M.toNat p k a) (p = s + w * k)) (T : SEQ f f1 (NUMO β n b p w.toNat) (fun v => v = o ∧ (w < 0 ∨ p1 = p + w))) (W : WNT x f1 f2) (e : x = 1 ↔ (a ≤ o ∧ (0 < k ∨ o = 1))) (hM : 1 ≤ M) (eM : M2 = M - 1) (ek : k2 = k + 1) : LPQ f0 f2 O (OFS β n w M2.toNat p1 k2 o) (p1 = s + w * k2) := by
  have kp : ¬ (f = 0) → ¬ (f2 = 0) := fun h => wnt_keep W (seq_keep T h)
  rcases L with ⟨l0, l1⟩ | ⟨l0, l1, l2, l3⟩ | ⟨l0, l1, l2⟩
  · exact Or.inl ⟨l0, kp l1⟩
  · have eN : M.toNat = M2.toNat + 1 := by omega
    have e1 : O = if p + w ≤ n ∧ a ≤ NUM β p w.toNat ∧ (0 < k ∨ NUM β p w.toNat = 1) then OFS β n w M2.toNat (p + w) (k + 1) (NUM β p w.toNat) else none := by rw [l2, eN]; rfl
    have hN := numo_pos (β := β) (hw l1) hb (hp l1)
    have hw1 := hw l1
    rcases T with ⟨t0, _⟩ | ⟨_, t1, v, t2, t3, t4⟩ | ⟨_, t1, t2⟩
    · exact absurd l1 t0
    · rw [hN] at t2
      by_cases hc : p + w ≤ n
      · rw [if_pos hc] at t2
        have ev : NUM β p w.toNat = o := by rw [← t3]; exact Option.some.inj t2
        have ep : p1 = p + w := by omega
        rw [ev] at e1
        rcases W with ⟨w0, w1⟩ | ⟨w0, w1⟩
        · have hx := e.mp w0
          rw [if_pos ⟨hc, hx⟩] at e1
          refine Or.inr (Or.inl ⟨l0, by omega, ?_, ?_⟩)
          · rw [e1, ep, ek]
          · rw [ep, l3, ek, Int.mul_add]
            omega
        · rw [if_neg (fun h9 => by have := e.mpr h9.2; omega)] at e1
          exact Or.inr (Or.inr ⟨l0, w1, e1⟩)
      · rw [if_neg hc] at t2
        exact absurd t2 (by simp)
    · rw [hN] at t2
      by_cases hc : p + w ≤ n
      · rw [if_pos hc] at t2
        exact absurd t2 (by simp)
      · rw [if_neg (fun h9 => hc h9.1)] at e1
        exact Or.inr (Or.inr ⟨l0, wnt_keep W t1, e1⟩)
  · exact Or.inr (Or.inr ⟨l0, kp l1, l2⟩)
theorem idx_e1 {β : Int → Int} {n b p l m f0 fa fb r pa ic x : Int} {R : Int × Int × Int → Prop} (hb : n ≤ b) (T : SEQ f0 fa (NUMO β n b p 2) (fun v => v = r ∧ pa = p + 2)) (W : WNT x fa fb) (e : x = 1 ↔ (l ≤ ic ∧ ic ≤ m)) (er : ic = r) (hz : ¬ (fb = 0) ∨ (ic = 0 ∧ R (0, 0, pa))) : SEQ f0 fb (IDX β n p l m) R := by
  have hN := numo_eq (β := β) (n := n) (b := b) (p := p) 1
  rcases T with ⟨t0, t1⟩ | ⟨t0, t1, v, t2, t3, t4⟩ | ⟨t0, t1, t2⟩
  · exact Or.inl ⟨t0, wnt_keep W t1⟩
  · rw [hN] at t2
    by_cases hc : 0 ≤ p ∧ p + (1 + 1 : Nat) ≤ n ∧ p + (1 + 1 : Nat) ≤ b
    · rw [if_pos hc] at t2
      have ev : NUM β p 2 = ic := by rw [er, ← t3]; exact Option.some.inj t2
      rcases W with ⟨w0, w1⟩ | ⟨w0, w1⟩
      · have hx := e.mp w0
        rcases hz with hz | ⟨hz, hR⟩
        · omega
        · refine Or.inr (Or.inl ⟨t0, by omega, (0, 0, pa), ?_, hR⟩)
          unfold IDX
          rw [ev, if_pos ⟨hc.1, by omega, hx⟩, if_pos hz, t4]
      · refine Or.inr (Or.inr ⟨t0, w1, ?_⟩)
        unfold IDX
        rw [ev, if_neg (fun h9 => by have := e.mpr h9.2.2; omega)]
    · rw [if_neg hc] at t2
      exact absurd t2 (by simp)
  · rw [hN] at t2
    by_cases hc : 0 ≤ p ∧ p + (1 + 1 : Nat) ≤ n ∧ p + (1 + 1 : Nat) ≤ b
    · rw [if_pos hc] at t2
      exact absurd t2 (by simp)
    · refine Or.inr (Or.inr ⟨t0, wnt_keep W t1, ?_⟩)
      unfold IDX
      rw [if_neg (by omega)]
theorem idx_end {β : Int → Int} {n b p l m f0 fa fb fc fd fl fe r pa ic x pc ob x2 pl k a pe : Int} {R : Int × Int × Int → Prop} (hb : n ≤ b) (T : SEQ f0 fa (NUMO β n b p 2) (fun v => v = r ∧ pa = p + 2)) (W : WNT x fa fb) (e : x = 1 ↔ (l ≤ ic ∧ ic ≤ m)) (er : ic = r) (hz : ¬ (ic = 0)) (T1 : SEQ fb fc (BYT β n b pa) (fun v => v = ob ∧ pc = pa + 1)) (W2 : WNT x2 fc fd) (e2 : x2 = 1 ↔ (1 ≤ ob ∧ ob ≤ 4))
    (L : LPQ fd fl (OFS β n ob (Int.toNat (ic + 1)) pc 0 1) (OFS β n ob (Int.toNat (ic + 1 - k)) pl k a) (pl = pc + ob * k)) (hk : fl = 0 → k = ic + 1) (h1 : ¬ (fl = 0) → ¬ (fe = 0)) (h2 : fl = 0 → pe = pl + a - 1) (h3 : fl = 0 → (fe = 0 ↔ pe ≤ n)) (hR : fl = 0 → pc = p + 3 → pl = p + 3 + ob * (ic + 1) → R (ic, ob, pe)) : SEQ f0 fe (IDX β n p l m) R := by
  have hN := numo_eq (β := β) (n := n) (b := b) (p := p) 1
  have kd : ¬ (fd = 0) → ¬ (fe = 0) := fun h => by
    rcases L with ⟨_, l1⟩ | ⟨l0, _⟩ | ⟨l0, _⟩
    · exact h1 l1
    · exact absurd l0 h
    · exact absurd l0 h
  have kb : ¬ (fb = 0) → ¬ (fe = 0) := fun h => kd (wnt_keep W2 (seq_keep T1 h))
  rcases T with ⟨t0, t1⟩ | ⟨t0, t1, v, t2, t3, t4⟩ | ⟨t0, t1, t2⟩
  · exact Or.inl ⟨t0, kb (wnt_keep W t1)⟩
  · rw [hN] at t2
    by_cases hc : 0 ≤ p ∧ p + (1 + 1 : Nat) ≤ n ∧ p + (1 + 1 : Nat) ≤ b
    · rw [if_pos hc] at t2
      have ev : NUM β p 2 = ic := by rw [er, ← t3]; exact Option.some.inj t2
      have ea : pa = p + 2 := t4
      rcases W with ⟨w0, w1⟩ | ⟨w0, w1⟩
      · have hx := e.mp w0
        have eI : IDX β n p l m = if p + 3 ≤ n ∧ 1 ≤ β (p + 2) ∧ β (p + 2) ≤ 4 then (OFS β n (β (p + 2)) (ic + 1).toNat (p + 3) 0 1).bind (fun b9 => if p + 3 + β (p + 2) * (ic + 1) + b9 - 1 ≤ n then some (ic, β (p + 2), p + 3 + β (p + 2) * (ic + 1) + b9 - 1) else none) else none := by
          unfold IDX
          rw [ev, if_pos ⟨hc.1, by omega, hx⟩, if_neg hz]
        have hfb : fb = 0 := by omega
        unfold BYT at T1
        rcases T1 with ⟨s0, _⟩ | ⟨_, s1, v1, s2, s3, s4⟩ | ⟨_, s1, s2⟩
        · exact absurd hfb s0
        · by_cases hd : 0 ≤ pa ∧ pa < n ∧ pa < b
          · rw [if_pos hd] at s2
            have eo : β (p + 2) = ob := by rw [← s3, ← ea]; exact Option.some.inj s2
            have ec : pc = p + 3 := by omega
            rw [eo] at eI
            rcases W2 with ⟨u0, u1⟩ | ⟨u0, u1⟩
            · have hy := e2.mp u0
              rw [if_pos ⟨by omega, hy⟩] at eI
              rcases L with ⟨l0, _⟩ | ⟨l0, l1, l2, l3⟩ | ⟨l0, l1, l2⟩
              · exact absurd (by omega) l0
              · have hk1 := hk l1
                have e0 : (ic + 1 - k).toNat = 0 := by omega
                rw [e0] at l2
                have l4 : OFS β n ob (ic + 1).toNat (p + 3) 0 1 = some a := by rw [← ec, l2]; rfl
                have e5 : pl = p + 3 + ob * (ic + 1) := by rw [l3, ec, hk1]
                have e6 := h2 l1
                have e7 := h3 l1
                rw [l4, Option.bind_some] at eI
                by_cases hn : pe ≤ n
                · rw [if_pos (by omega)] at eI
                  refine Or.inr (Or.inl ⟨t0, e7.mpr hn, (ic, ob, pe), ?_, hR l1 ec e5⟩)
                  rw [eI, show p + 3 + ob * (ic + 1) + a - 1 = pe by omega]
                · rw [if_neg (by omega)] at eI
                  exact Or.inr (Or.inr ⟨t0, fun h9 => hn (e7.mp h9), eI⟩)
              · rw [ec] at l2
                rw [l2] at eI
                exact Or.inr (Or.inr ⟨t0, h1 l1, eI⟩)
            · rw [if_neg (fun h9 => by have := e2.mpr h9.2; omega)] at eI
              exact Or.inr (Or.inr ⟨t0, kd u1, eI⟩)
          · rw [if_neg hd] at s2
            exact absurd s2 (by simp)
        · by_cases hd : 0 ≤ pa ∧ pa < n ∧ pa < b
          · rw [if_pos hd] at s2
            exact absurd s2 (by simp)
          · rw [if_neg (by omega)] at eI
            exact Or.inr (Or.inr ⟨t0, kd (wnt_keep W2 s1), eI⟩)
      · refine Or.inr (Or.inr ⟨t0, kb w1, ?_⟩)
        unfold IDX
        rw [ev, if_neg (fun h9 => by have := e.mpr h9.2.2; omega)]
    · rw [if_neg hc] at t2
      exact absurd t2 (by simp)
  · rw [hN] at t2
    by_cases hc : 0 ≤ p ∧ p + (1 + 1 : Nat) ≤ n ∧ p + (1 + 1 : Nat) ≤ b
    · rw [if_pos hc] at t2
      exact absurd t2 (by simp)
    · refine Or.inr (Or.inr ⟨t0, kb (wnt_keep W t1), ?_⟩)
      unfold IDX
      rw [if_neg (by omega)]
def IXR (ic pl ob oa ja p : Int) (v : Int × Int × Int) : Prop := v.1 = ic ∧ v.2.2 = pl ∧ (ic = 0 ∨ (v.2.1 = ob ∧ oa = p + 3 ∧ ja = p + 3 + ob * (ic + 1)))
theorem ixr_0 {ic pl ob oa ja p pa : Int} (h : ic = 0) (e : pl = pa) : IXR ic pl ob oa ja p (0, 0, pa) := ⟨h.symm, e.symm, Or.inl h⟩
theorem ixr_1 {ic pl ob oa ja p : Int} (h1 : oa = p + 3) (h2 : ja = p + 3 + ob * (ic + 1)) : IXR ic pl ob oa ja p (ic, ob, pl) := ⟨rfl, rfl, Or.inr ⟨rfl, h1, h2⟩⟩
theorem ofs_0 {β : Int → Int} {n w ic p f : Int} : LPQ f f (OFS β n w (Int.toNat (ic + 1)) p 0 1) (OFS β n w (Int.toNat (ic + 1 - 0)) p 0 1) (p = p + w * 0) := by
  rw [Int.sub_zero]
  exact lpq_0 (by rw [Int.mul_zero]; omega)
theorem wnt_same {f : Int} (h : ¬ (f = 0)) (c : Prop) [Decidable c] : ∃ x : Int, WNT x f f ∧ (x = 1 ↔ c) := by
  by_cases hc : c
  · exact ⟨1, Or.inl ⟨rfl, rfl⟩, fun _ => hc, fun _ => rfl⟩
  · exact ⟨0, Or.inr ⟨rfl, h⟩, fun h9 => absurd h9 (by decide), fun h9 => absurd h9 hc⟩
theorem byt_numo {β : Int → Int} {n b p : Int} : BYT β n b p = NUMO β n b p 1 := by
  rw [numo_eq 0]
  unfold BYT
  by_cases h : 0 ≤ p ∧ p < n ∧ p < b
  · rw [if_pos h, if_pos (by omega)]
    show some (β p) = some (0 * 256 + β (p + (0 : Nat)))
    rw [show (0 : Int) * 256 + β (p + (0 : Nat)) = β (p + (0 : Nat)) by omega, show p + ((0 : Nat) : Int) = p by omega]
  · rw [if_neg h, if_neg (by omega)]
theorem ridx_1 {β : Int → Int} {n b p l m f0 fa r pa ic : Int} {R : Int × Int × Int → Prop} (hb : n ≤ b) (T : SEQ f0 fa (NUMO β n b p 2) (fun v => v = r ∧ pa = p + 2)) (er : ic = r) (hf : ¬ (fa = 0)) : SEQ f0 fa (IDX β n p l m) R := by
  obtain ⟨x, hx, he⟩ := wnt_same hf (l ≤ ic ∧ ic ≤ m)
  exact idx_e1 hb T hx he er (Or.inl hf)
theorem ridx_2 {β : Int → Int} {n b p l m f0 fa fb r pa ic : Int} {R : Int × Int × Int → Prop} (hb : n ≤ b) (T : SEQ f0 fa (NUMO β n b p 2) (fun v => v = r ∧ pa = p + 2)) (er : ic = r) (hr : ¬ (l ≤ ic ∧ ic ≤ m)) (hf : ¬ (fb = 0)) : SEQ f0 fb (IDX β n p l m) R :=
  idx_e1 (ic := ic) (x := 0) hb T (Or.inr ⟨rfl, hf⟩) ⟨fun h9 => absurd h9 (by decide), fun h9 => absurd h9 hr⟩ er (Or.inl hf)
theorem ridx_3 {β : Int → Int} {n b p l m f0 fa r pa ic : Int} {R : Int × Int × Int → Prop} (hb : n ≤ b) (T : SEQ f0 fa (NUMO β n b p 2) (fun v => v = r ∧ pa = p + 2)) (er : ic = r) (hr : l ≤ ic ∧ ic ≤ m) (hz : ic = 0) (hR : R (0, 0, pa)) : SEQ f0 fa (IDX β n p l m) R :=
  idx_e1 (ic := ic) (x := 1) hb T (Or.inl ⟨rfl, rfl⟩) ⟨fun _ => hr, fun _ => rfl⟩ er (Or.inr ⟨hz, hR⟩)
theorem ridx_4 {β : Int → Int} {n b p l m f0 fa fc r pa ic ob pc : Int} {R : Int × Int × Int → Prop} (hb : n ≤ b) (T : SEQ f0 fa (NUMO β n b p 2) (fun v => v = r ∧ pa = p + 2)) (er : ic = r) (hr : l ≤ ic ∧ ic ≤ m) (hz : ¬ (ic = 0)) (T1 : SEQ fa fc (NUMO β n b pa 1) (fun v => v = ob ∧ pc = pa + 1)) (hf : ¬ (fc = 0)) : SEQ f0 fc (IDX β n p l m) R := by
  obtain ⟨x, hx, he⟩ := wnt_same hf (1 ≤ ob ∧ ob ≤ 4)
  exact idx_end (x := 1) (k := 0) (pl := 0) (a := 0) (pe := 0) hb T (Or.inl ⟨rfl, rfl⟩) ⟨fun _ => hr, fun _ => rfl⟩ er hz (seq_of T1 byt_numo.symm) hx he (Or.inl ⟨hf, hf⟩) (fun h => absurd h hf) id (fun h => absurd h hf) (fun h => absurd h hf) (fun h => absurd h hf)
theorem ridx_5 {β : Int → Int} {n b p l m f0 fa fc fd r pa ic ob pc : Int} {R : Int × Int × Int → Prop} (hb : n ≤ b) (T : SEQ f0 fa (NUMO β n b p 2) (fun v => v = r ∧ pa = p + 2)) (er : ic = r) (hr : l ≤ ic ∧ ic ≤ m) (hz : ¬ (ic = 0)) (T1 : SEQ fa fc (NUMO β n b pa 1) (fun v => v = ob ∧ pc = pa + 1)) (ho : ¬ (1 ≤ ob ∧ ob ≤ 4)) (hf : ¬ (fd = 0)) : SEQ f0 fd (IDX β n p l m) R :=
  idx_end (x := 1) (x2 := 0) (k := 0) (pl := 0) (a := 0) (pe := 0) hb T (Or.inl ⟨rfl, rfl⟩) ⟨fun _ => hr, fun _ => rfl⟩ er hz (seq_of T1 byt_numo.symm) (Or.inr ⟨rfl, hf⟩) ⟨fun h9 => absurd h9 (by decide), fun h9 => absurd h9 ho⟩ (Or.inl ⟨hf, hf⟩) (fun h => absurd h hf) id (fun h => absurd h hf) (fun h => absurd h hf) (fun h => absurd h hf)
theorem ridx_6 {β : Int → Int} {n b p l m f0 fa fc fl r pa ic ob pc : Int} {R : Int × Int × Int → Prop} {Z : Option Int} {P : Prop} (hb : n ≤ b) (T : SEQ f0 fa (NUMO β n b p 2) (fun v => v = r ∧ pa = p + 2)) (er : ic = r) (hr : l ≤ ic ∧ ic ≤ m) (hz : ¬ (ic = 0)) (T1 : SEQ fa fc (NUMO β n b pa 1) (fun v => v = ob ∧ pc = pa + 1)) (ho : 1 ≤ ob ∧ ob ≤ 4) (L : LPQ fc fl (OFS β n ob (Int.toNat (ic + 1)) pc 0 1) Z P) (hf : ¬ (fl = 0)) : SEQ f0 fl (IDX β n p l m) R := by
  have L2 : LPQ fc fl (OFS β n ob (Int.toNat (ic + 1)) pc 0 1) (OFS β n ob (Int.toNat (ic + 1 - 0)) 0 0 0) (0 = pc + ob * 0) := by
    rcases L with h | ⟨_, h, _⟩ | h
    · exact Or.inl h
    · exact absurd h hf
    · exact Or.inr (Or.inr h)
  exact idx_end (x := 1) (x2 := 1) (pe := 0) hb T (Or.inl ⟨rfl, rfl⟩) ⟨fun _ => hr, fun _ => rfl⟩ er hz (seq_of T1 byt_numo.symm) (Or.inl ⟨rfl, rfl⟩) ⟨fun _ => ho, fun _ => rfl⟩ L2 (fun h => absurd h hf) id (fun h => absurd h hf) (fun h => absurd h hf) (fun h => absurd h hf)
theorem ridx_7 {β : Int → Int} {n b p l m f0 fa fc fl fe r pa ic ob pc pl k a pe : Int} {R : Int × Int × Int → Prop} (hb : n ≤ b) (T : SEQ f0 fa (NUMO β n b p 2) (fun v => v = r ∧ pa = p + 2)) (er : ic = r) (hr : l ≤ ic ∧ ic ≤ m) (hz : ¬ (ic = 0)) (T1 : SEQ fa fc (NUMO β n b pa 1) (fun v => v = ob ∧ pc = pa + 1)) (ho : 1 ≤ ob ∧ ob ≤ 4) (L : LPQ fc fl (OFS β n ob (Int.toNat (ic + 1)) pc 0 1) (OFS β n ob (Int.toNat (ic + 1 - k)) pl k a) (pl = pc + ob * k)) (hk : fl = 0 → k = ic + 1) (h1 : ¬ (fl = 0) → ¬ (fe = 0)) (h2 : fl = 0 → pe = pl + a - 1) (h3 : fl = 0 → (fe = 0 ↔ pe ≤ n)) (hR : fl = 0 → pc = p + 3 → pl = p + 3 + ob * (ic + 1) → R (ic, ob, pe)) : SEQ f0 fe (IDX β n p l m) R :=
  idx_end (x := 1) (x2 := 1) hb T (Or.inl ⟨rfl, rfl⟩) ⟨fun _ => hr, fun _ => rfl⟩ er hz (seq_of T1 byt_numo.symm) (Or.inl ⟨rfl, rfl⟩) ⟨fun _ => ho, fun _ => rfl⟩ L hk h1 h2 h3 hR
theorem ofs_bad {β : Int → Int} {n b w f0 f f1 p : Int} {O O2 : Option Int} {P P2 : Prop} {Q : Int → Prop} (hb : n ≤ b) (hw : f = 0 → 1 ≤ w) (hp : f = 0 → 0 ≤ p) {M k a : Int} (L : LPQ f0 f O (OFS β n w M.toNat p k a) P) (hM : 1 ≤ M) (T : SEQ f f1 (NUMO β n b p w.toNat) Q) (hf : ¬ (f1 = 0)) : LPQ f0 f1 O O2 P2 := by
  rcases L with ⟨l0, l1⟩ | ⟨l0, l1, l2, _⟩ | ⟨l0, l1, l2⟩
  · exact Or.inl ⟨l0, hf⟩
  · refine Or.inr (Or.inr ⟨l0, hf, ?_⟩)
    obtain ⟨m, hm⟩ : ∃ m : Nat, M.toNat = m + 1 := ⟨M.toNat - 1, by omega⟩
    rcases T with ⟨t0, _⟩ | ⟨_, t1, _⟩ | ⟨_, _, t2⟩
    · exact absurd l1 t0
    · exact absurd t1 hf
    · rw [numo_pos (hw l1) hb (hp l1)] at t2
      rw [l2, hm]
      by_cases hc : p + w ≤ n
      · rw [if_pos hc] at t2
        exact absurd t2 (by simp)
      · show (if p + w ≤ n ∧ _ then _ else none) = none
        rw [if_neg (fun h9 => hc h9.1)]
  · exact Or.inr (Or.inr ⟨l0, hf, l2⟩)
theorem numo_no {β : Int → Int} {n b p : Int} (k : Nat) (h : ¬ (0 ≤ p ∧ p + (k + 1 : Nat) ≤ n ∧ p + (k + 1 : Nat) ≤ b)) : NUMO β n b p (k + 1) = none := by rw [numo_eq, if_neg h]
theorem numo_ok {β : Int → Int} {n b p : Int} (k : Nat) (h : 0 ≤ p ∧ p + (k + 1 : Nat) ≤ n ∧ p + (k + 1 : Nat) ≤ b) : NUMO β n b p (k + 1) = some (NUM β p (k + 1)) := by rw [numo_eq, if_pos h]
