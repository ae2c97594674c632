/-! the press: read and font, told by the bytes (p5) -/
def RDE (v r : Int) (f1 f2 fa fb : Nat) (lg dw nw fam z : Int) : Prop := (r = 0 ∧ f1 = fb ∧ f2 = fa ∧ (v = 0 ∨ v = 1) ∧ fam = v ∧ (v = 0 ∨ (lg = 0 ∧ dw = 0 ∧ nw = 0))) ∨ (¬ (r = 0) ∧ f1 = fa ∧ f2 = fb)
def FON (fam ll lo lg dw nw what : Int) : Int := if fam = -1 then -1 else if what = 0 then fam else if what = 1 then ll else if what = 2 then lo else if what = 3 then lg else if what = 4 then dw else if what = 5 then nw else -1
