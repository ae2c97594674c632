/-! Type 1: words of a text (p5) -/
abbrev BL (c : Int) : Prop := c = 9 ∨ c = 10 ∨ c = 13 ∨ c = 32
def ISB (r : Int) (P : Prop) : Prop := (r = 1 ∧ P) ∨ (r = 0 ∧ ¬ P)
def BSQ {α : Type} (r : Int) (o : Option α) (P : α → Prop) : Prop := (r = 1 ∧ ∃ v, o = some v ∧ P v) ∨ (r = 0 ∧ o = none)
def SKB (β : Int → Int) (n p : Int) : Int := if p < n then (if BL (β p) then SKB β n (p + 1) else p) else p
termination_by (n - p).toNat
decreasing_by omega
def SKW (β : Int → Int) (n p : Int) : Int := if p < n then (if BL (β p) then p else SKW β n (p + 1)) else p
termination_by (n - p).toNat
decreasing_by omega
def CNTL (β : Int → Int) (b i v : Int) : Int := if i < b then (if 48 ≤ β i ∧ β i ≤ 57 then CNTL β b (i + 1) (if v * 10 + β i - 48 < 10000 then v * 10 + β i - 48 else 10000) else -1) else (if v < 10000 then v else -1)
termination_by (b - i).toNat
decreasing_by omega
def WRD (β : Int → Int) (n p : Int) : Option (Int × Int) := if SKB β n p < SKW β n (SKB β n p) then some (SKB β n p, SKW β n (SKB β n p)) else none
abbrev WAT (β : Int → Int) (a : Int) (w : List Int) : Prop := ∀ i : Nat, i < w.length → β (a + i) = w.getD i 0
abbrev IW (β : Int → Int) (a b : Int) (w : List Int) : Prop := b - a = w.length ∧ WAT β a w
abbrev wEexec : List Int := [101, 101, 120, 101, 99]
abbrev wLeniv : List Int := [47, 108, 101, 110, 73, 86]
abbrev wSubrs : List Int := [47, 83, 117, 98, 114, 115]
abbrev wArray : List Int := [97, 114, 114, 97, 121]
abbrev wDup : List Int := [100, 117, 112]
abbrev wRd : List Int := [82, 68]
abbrev wBar : List Int := [45, 124]
abbrev wChars : List Int := [47, 67, 104, 97, 114, 83, 116, 114, 105, 110, 103, 115]
abbrev wDict : List Int := [100, 105, 99, 116]
abbrev wBegin : List Int := [98, 101, 103, 105, 110]
abbrev wOver : List Int := [101, 110, 100]
def TLD (β : Int → Int) (n p : Int) : Option (Int × Int) := (WRD β n p).bind fun w => if CNTL β w.2 w.1 0 = -1 then none else some (CNTL β w.2 w.1 0, w.2)
def EXW (β : Int → Int) (n p : Int) (W : List Int) : Option Int := (WRD β n p).bind fun w => if IW β w.1 w.2 W then some w.2 else none
def PRG (β : Int → Int) (n p : Int) : Option Int := (TLD β n p).bind fun c => (WRD β n c.2).bind fun w => if IW β w.1 w.2 wRd ∨ IW β w.1 w.2 wBar then (if w.2 + 1 + c.1 ≤ n then some (w.2 + 1 + c.1) else none) else none
def SUBR (β : Int → Int) (n p : Int) : Option (Int × Int) := (TLD β n p).bind fun t => if t.1 ≤ 200 then (EXW β n t.2 wArray).bind fun q => some (q, t.1) else none
def LOC (β : Int → Int) (n b c : Int) : Option Int := (WRD β n b).bind fun w => if CNTL β w.2 w.1 0 = -1 then some b else if CNTL β w.2 w.1 0 < c then PRG β n w.2 else none
/-- one word of the settings: over (1), the place behind, whether locals have been told, how many -/
def STP (β : Int → Int) (n a b h c : Int) : Option (Int × Int × Int × Int) :=
  if IW β a b wChars then some (1, b, h, c)
  else if IW β a b wLeniv then (TLD β n b).bind fun t => some (0, t.2, h, c)
  else if IW β a b wSubrs then (SUBR β n b).bind fun t => some (0, t.1, 1, t.2)
  else if IW β a b wDup ∧ h = 1 then (LOC β n b c).bind fun q => some (0, q, h, c)
  else some (0, b, h, c)
def SET (β : Int → Int) (n p h c : Int) : Option (Int × Int) :=
  match WRD β n p with
  | none => none
  | some w => match STP β n w.1 w.2 h c with
    | none => none
    | some q => if q.1 = 1 then some (q.2.1, q.2.2.2) else if p < q.2.1 ∧ p < n then SET β n q.2.1 q.2.2.1 q.2.2.2 else none
termination_by (n - p).toNat
decreasing_by omega
def LET (β : Int → Int) (n a b k : Int) : Option Int := if β a = 47 ∧ 2 ≤ b - a ∧ k < 40 then (PRG β n b).bind fun q => (WRD β n q).bind fun u => some u.2 else none
def LTR (β : Int → Int) (n p k : Int) : Option Int :=
  match WRD β n p with
  | none => none
  | some w => if IW β w.1 w.2 wOver then (if 0 < k then some k else none)
    else match LET β n w.1 w.2 k with
      | none => none
      | some q => if p < q ∧ p < n then LTR β n q (k + 1) else none
termination_by (n - p).toNat
decreasing_by omega
def LTS (β : Int → Int) (n p : Int) : Option Int := (TLD β n p).bind fun t => (EXW β n t.2 wDict).bind fun q => (EXW β n q wDup).bind fun q => (EXW β n q wBegin).bind fun q => LTR β n q 0
/-- letters, locals of a text -/
def TXT (β : Int → Int) (n : Int) : Option (Int × Int) := (SET β n 4 0 0).bind fun s => (LTS β n s.1).bind fun k => some (k, s.2)
