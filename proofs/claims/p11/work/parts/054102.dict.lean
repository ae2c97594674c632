/-! a DICT's state, as the tables of the reader hold it (p5) -/
def FILLED (f : Nat → Int32) (v : Int32) (n : Nat) : Prop := ∀ j, j < n → f j = v
theorem filled_0 {f : Nat → Int32} {v : Int32} : FILLED f v (Int.toNat 0) := fun j h => absurd h (Nat.not_lt_zero j)
theorem filled_step {f f2 : Nat → Int32} {v i i2 : Int32} (h : FILLED f v (Int.toNat (Int32.toInt i))) (e : upd f (Int32.toNatClampNeg i) v = f2) (h0 : 0 ≤ Int32.toInt i) (ei : Int32.toInt i2 = Int32.toInt i + 1) : FILLED f2 v (Int.toNat (Int32.toInt i2)) := by
  intro j hj
  rw [← e, upd_eq]
  split
  · rfl
  · rename_i hn
    have h9 : Int32.toNatClampNeg i = Int.toNat (Int32.toInt i) := rfl
    rw [h9] at hn
    exact h j (by omega)
def NZ (k c : Int) (x : Int32) : Int := if c < k then Int32.toInt x else 0
def SLOT (o r : Int) : Prop := (o = 17 ∧ r = 0) ∨ (o = 18 ∧ r = 1) ∨ (o = 262 ∧ r = 2) ∨ (o = 19 ∧ r = 3) ∨ (o = 20 ∧ r = 4) ∨ (o = 21 ∧ r = 5) ∨ (¬ (o = 17 ∨ o = 18 ∨ o = 262 ∨ o = 19 ∨ o = 20 ∨ o = 21) ∧ r = -1)
def SLN (o : Int) : Nat := if o = 17 then 0 else if o = 18 then 1 else if o = 262 then 2 else if o = 19 then 3 else if o = 20 then 4 else 5
def SC (m f s : Nat → Int32) : SLO := fun o => if o = 17 ∨ o = 18 ∨ o = 262 ∨ o = 19 ∨ o = 20 ∨ o = 21 then (if Int32.toInt (m (SLN o)) = -1 then (-1, 0, 0) else (Int32.toInt (m (SLN o)), Int32.toInt (f (SLN o)), Int32.toInt (s (SLN o)))) else (-1, 0, 0)
theorem sln_lt (o : Int) : SLN o < 6 := by
  unfold SLN
  repeat' split
  all_goals omega
theorem sc_clear {m f s : Nat → Int32} (h : FILLED m (-1) 6) : SC m f s = fun _ => (-1, 0, 0) := by
  funext o
  unfold SC
  rw [h _ (sln_lt o)]
  split <;> rfl
theorem slot_sln {o r : Int} (h : SLOT o r) (h0 : 0 ≤ r) : r.toNat = SLN o ∧ (o = 17 ∨ o = 18 ∨ o = 262 ∨ o = 19 ∨ o = 20 ∨ o = 21) := by
  rcases h with ⟨rfl, rfl⟩ | ⟨rfl, rfl⟩ | ⟨rfl, rfl⟩ | ⟨rfl, rfl⟩ | ⟨rfl, rfl⟩ | ⟨rfl, rfl⟩ | ⟨_, rfl⟩
  · exact ⟨rfl, by omega⟩
  · exact ⟨rfl, by omega⟩
  · exact ⟨rfl, by omega⟩
  · exact ⟨rfl, by omega⟩
  · exact ⟨rfl, by omega⟩
  · exact ⟨rfl, by omega⟩
  · omega
theorem sln_inj {o j : Int} (h1 : o = 17 ∨ o = 18 ∨ o = 262 ∨ o = 19 ∨ o = 20 ∨ o = 21) (h2 : j = 17 ∨ j = 18 ∨ j = 262 ∨ j = 19 ∨ j = 20 ∨ j = 21) (e : SLN j = SLN o) : j = o := by
  rcases h1 with rfl | rfl | rfl | rfl | rfl | rfl <;> rcases h2 with rfl | rfl | rfl | rfl | rfl | rfl <;> first | rfl | exact absurd e (by decide)
theorem sc_at {m f s : Nat → Int32} {o : Int} (h : o = 17 ∨ o = 18 ∨ o = 262 ∨ o = 19 ∨ o = 20 ∨ o = 21) : SC m f s o = if Int32.toInt (m (SLN o)) = -1 then (-1, 0, 0) else (Int32.toInt (m (SLN o)), Int32.toInt (f (SLN o)), Int32.toInt (s (SLN o))) := if_pos h
theorem sc_off {m f s : Nat → Int32} {o : Int} (h : ¬ (o = 17 ∨ o = 18 ∨ o = 262 ∨ o = 19 ∨ o = 20 ∨ o = 21)) : SC m f s o = (-1, 0, 0) := if_neg h
theorem tel_at {S : SLO} {o k a b r : Int} (h : o = 17 ∨ o = 18 ∨ o = 262 ∨ o = 19 ∨ o = 20 ∨ o = 21) : TEL S o k a b r o = (if r = 1 then 49 else k, if 0 < k then a else 0, if 1 < k then b else 0) := if_pos ⟨rfl, h⟩
theorem tel_ne {S : SLO} {o j k a b r : Int} (h : ¬ (j = o)) : TEL S o k a b r j = S j := if_neg (fun h9 => h h9.1)
theorem sc_tell {m f s m2 f2 s2 fo : Nat → Int32} {sl vm vf vs kk : Int32} {o k r : Int} (hs : SLOT o (Int32.toInt sl)) (h0 : 0 ≤ Int32.toInt sl) (em : upd m (Int32.toNatClampNeg sl) vm = m2) (ef : upd f (Int32.toNatClampNeg sl) vf = f2) (es : upd s (Int32.toNatClampNeg sl) vs = s2) (hk : Int32.toInt kk = k) (hk0 : 0 ≤ k)
    (h1 : (r = 1 ∧ vm = 49) ∨ (¬ (r = 1) ∧ vm = kk)) (h2 : (0 < k ∧ vf = fo 0) ∨ (¬ (0 < k) ∧ vf = 0)) (h3 : (1 < k ∧ vs = fo 1) ∨ (¬ (1 < k) ∧ vs = 0)) : SC m2 f2 s2 = TEL (SC m f s) o k (NZ k 0 (fo 0)) (NZ k 1 (fo 1)) r := by
  obtain ⟨hn, ho⟩ := slot_sln hs h0
  have hc : Int32.toNatClampNeg sl = SLN o := hn
  funext j
  by_cases hj : j = o
  · rw [hj, sc_at ho, tel_at ho, ← em, ← ef, ← es, hc, upd_eq, if_pos rfl, upd_eq, if_pos rfl, upd_eq, if_pos rfl]
    have e1 : Int32.toInt vm = if r = 1 then 49 else k := by
      rcases h1 with ⟨a1, a2⟩ | ⟨a1, a2⟩
      · rw [if_pos a1, a2]; rfl
      · rw [if_neg a1, a2, hk]
    have e2 : Int32.toInt vf = if 0 < k then NZ k 0 (fo 0) else 0 := by
      unfold NZ
      rcases h2 with ⟨a1, a2⟩ | ⟨a1, a2⟩
      · rw [if_pos a1, if_pos a1, a2]
      · rw [if_neg a1, a2]; rfl
    have e3 : Int32.toInt vs = if 1 < k then NZ k 1 (fo 1) else 0 := by
      unfold NZ
      rcases h3 with ⟨a1, a2⟩ | ⟨a1, a2⟩
      · rw [if_pos a1, if_pos a1, a2]
      · rw [if_neg a1, a2]; rfl
    rw [e1, e2, e3, if_neg]
    split <;> omega
  · rw [tel_ne hj]
    by_cases hi : j = 17 ∨ j = 18 ∨ j = 262 ∨ j = 19 ∨ j = 20 ∨ j = 21
    · have hne : SLN j ≠ SLN o := fun h9 => hj (sln_inj ho hi h9)
      rw [sc_at hi, sc_at hi, ← em, ← ef, ← es, hc, upd_eq, if_neg hne, upd_eq, if_neg hne, upd_eq, if_neg hne]
    · rw [sc_off hi, sc_off hi]
theorem sc_skip {m f s : Nat → Int32} {o k a b r sl : Int} (hs : SLOT o sl) (h0 : sl = -1) : SC m f s = TEL (SC m f s) o k a b r := by
  funext j
  unfold TEL
  rcases hs with ⟨_, h⟩ | ⟨_, h⟩ | ⟨_, h⟩ | ⟨_, h⟩ | ⟨_, h⟩ | ⟨_, h⟩ | ⟨h, _⟩
  any_goals omega
  rw [if_neg (fun h9 => h h9.2)]
theorem nz_add {fo fo2 : Nat → Int32} {kk x : Int32} {k k2 : Int} (hk : Int32.toInt kk = k) (h0 : 0 ≤ k) (e : upd fo (Int32.toNatClampNeg kk) x = fo2) (e2 : k2 = k + 1) : NZ k2 0 (fo2 0) = (if k = 0 then Int32.toInt x else NZ k 0 (fo 0)) ∧ NZ k2 1 (fo2 1) = (if k = 1 then Int32.toInt x else NZ k 1 (fo 1)) := by
  have hc : Int32.toNatClampNeg kk = k.toNat := by show (Int32.toInt kk).toNat = _; rw [hk]
  rw [hc] at e
  subst e2
  unfold NZ
  rw [← e, upd_eq, upd_eq]
  constructor
  · rw [if_pos (by omega)]
    by_cases h : k = 0
    · rw [if_pos h, if_pos (by omega)]
    · rw [if_neg h, if_neg (by omega), if_pos (by omega)]
  · by_cases h : k = 1
    · rw [if_pos h, if_pos (by omega), if_pos (by omega)]
    · rw [if_neg h]
      by_cases h2 : 1 < k + 1
      · rw [if_pos h2, if_neg (by omega), if_pos (by omega)]
      · rw [if_neg h2, if_neg (by omega)]
def CND (c P : Prop) : Prop := c → P
