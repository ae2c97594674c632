theorem subr_pf {β : Int → Int} {n p c p1 rc r q : Int} (C : SEQ 0 rc (TLD β n p) (fun v => v = (c, p1))) (hc : rc = 0) (hl : c ≤ 200) (E : SEQ 0 r (EXW β n p1 wArray) (fun v => v = q)) : SEQ 0 r (SUBR β n p) (fun t => t = (q, c)) := by
  unfold SUBR
  refine seq0_go C hc (fun v _ hv => ?_)
  subst hv
  rw [if_pos hl]
  by_cases hr : r = 0
  · exact seq0_go E hr (fun v _ hv => by subst hv; exact seq0_ok _ hr rfl rfl)
  · exact seq0_stop E hr hr
theorem subr_big {β : Int → Int} {n p c p1 rc f : Int} {R : Int × Int → Prop} (C : SEQ 0 rc (TLD β n p) (fun v => v = (c, p1))) (hc : rc = 0) (hl : ¬ (c ≤ 200)) (hf : ¬ (f = 0)) : SEQ 0 f (SUBR β n p) R := by
  unfold SUBR
  refine seq0_go C hc (fun v _ hv => ?_)
  subst hv
  rw [if_neg hl]
  exact seq0_no hf rfl
theorem loc_a {β : Int → Int} {n p a b c k rw f q : Int} (W : BSQ rw (WRD β n p) (fun w => w = (a, b))) (hw : ¬ (rw = 0)) (i : EQP (CNTL β b a 0) k) (hk : k = -1) (hf : f = 0) (e : q = p) : SEQ 0 f (LOC β n p c) (fun v => v = q) := by
  unfold LOC
  refine bsq_yes W hw (fun w hw => ?_)
  subst hw
  unfold EQP at i
  rw [i, if_pos hk]
  exact seq0_ok _ hf rfl e.symm
theorem loc_b {β : Int → Int} {n p a b c k rw f : Int} {R : Int → Prop} (W : BSQ rw (WRD β n p) (fun w => w = (a, b))) (hw : ¬ (rw = 0)) (i : EQP (CNTL β b a 0) k) (hk : ¬ (k = -1)) (h : ¬ (k < c)) (hf : ¬ (f = 0)) : SEQ 0 f (LOC β n p c) R := by
  unfold LOC
  refine bsq_yes W hw (fun w hw => ?_)
  subst hw
  unfold EQP at i
  rw [i, if_neg hk, if_neg h]
  exact seq0_no hf rfl
theorem loc_c {β : Int → Int} {n p a b b2 c k rw f : Int} {R : Int → Prop} (W : BSQ rw (WRD β n p) (fun w => w = (a, b))) (hw : ¬ (rw = 0)) (i : EQP (CNTL β b a 0) k) (hk : ¬ (k = -1)) (h : k < c) (P : SEQ 0 f (PRG β n b2) R) (e : b2 = b) : SEQ 0 f (LOC β n p c) R := by
  unfold LOC
  refine bsq_yes W hw (fun w hw => ?_)
  subst hw
  unfold EQP at i
  rw [i, if_neg hk, if_pos h, ← e]
  exact P
theorem let_no {β : Int → Int} {n a b k g f : Int} {R : Int → Prop} (hg : g = β a) (h : ¬ (g = 47 ∧ 2 ≤ b - a ∧ k < 40)) (hf : ¬ (f = 0)) : SEQ 0 f (LET β n a b k) R := by
  unfold LET
  rw [← hg, if_neg h]
  exact seq0_no hf rfl
theorem let_p0 {β : Int → Int} {n a b b2 k g f : Int} {P R : Int → Prop} (hg : g = β a) (h : g = 47 ∧ 2 ≤ b - a ∧ k < 40) (C : SEQ 0 f (PRG β n b2) P) (e : b2 = b) (hf : ¬ (f = 0)) : SEQ 0 f (LET β n a b k) R := by
  unfold LET
  rw [← hg, if_pos h, ← e]
  exact seq0_stop C hf hf
theorem let_end {f0 f1 : Nat → Int32} {n a b b2 k g f rp rw q q2 a2 b3 : Int} (hg : g = GB f0 n a) (h : g = 47 ∧ 2 ≤ b - a ∧ k < 40) (C : SEQ 0 rp (PRG (GB f0 n) n b2) (fun v => v = q)) (e : b2 = b) (hr : rp = 0) (A : AGR f1 f0 n q) (W : BSQ rw (WRD (GB f1 n) n q) (fun w => w = (a2, b3))) (hf : (rw = 0 ∧ ¬ (f = 0)) ∨ (¬ (rw = 0) ∧ f = 0)) (e2 : q2 = b3) : SEQ 0 f (LET (GB f0 n) n a b k) (fun v => v = q2) := by
  unfold LET
  rw [← hg, if_pos h, ← e]
  refine seq0_go C hr (fun v _ hv => ?_)
  subst hv
  rw [← wrd_cg A]
  rcases hf with ⟨h1, h2⟩ | ⟨h1, h2⟩
  · exact bsq_no W h1 h2
  · exact bsq_yes W h1 (fun w hw => by subst hw; exact seq0_ok _ h2 rfl e2.symm)
theorem stp_done {β : Int → Int} {n a b h c s1 : Int} (i1 : ISB s1 (IW β a b wChars)) (h1 : ¬ (s1 = 0)) : STP β n a b h c = some (1, b, h, c) := by
  unfold STP
  rw [if_pos (isb_1 i1 h1)]
theorem stp_leniv {β : Int → Int} {n a b b2 h c s1 s2 f cc q : Int} (i1 : ISB s1 (IW β a b wChars)) (h1 : s1 = 0) (i2 : ISB s2 (IW β a b wLeniv)) (h2 : ¬ (s2 = 0)) (C : SEQ 0 f (TLD β n b2) (fun v => v = (cc, q))) (e : b2 = b) : SEQ 0 f (STP β n a b h c) (fun v => v = (0, q, h, c)) := by
  unfold STP
  rw [if_neg (isb_0 i1 (by omega)), if_pos (isb_1 i2 h2), ← e]
  by_cases hr : f = 0
  · exact seq0_go C hr (fun v _ hv => by subst hv; exact seq0_ok _ hr rfl rfl)
  · exact seq0_stop C hr hr
theorem stp_subrs {β : Int → Int} {n a b b2 h c s1 s2 s3 f c2 q h9 : Int} (i1 : ISB s1 (IW β a b wChars)) (h1 : s1 = 0) (i2 : ISB s2 (IW β a b wLeniv)) (h2 : s2 = 0) (i3 : ISB s3 (IW β a b wSubrs)) (h3 : ¬ (s3 = 0)) (C : SEQ 0 f (SUBR β n b2) (fun v => v = (q, c2))) (e : b2 = b) (eh : f = 0 → h9 = 1) : SEQ 0 f (STP β n a b h c) (fun v => v = (0, q, h9, c2)) := by
  unfold STP
  rw [if_neg (isb_0 i1 (by omega)), if_neg (isb_0 i2 (by omega)), if_pos (isb_1 i3 h3), ← e]
  by_cases hr : f = 0
  · exact seq0_go C hr (fun v _ hv => by subst hv; exact seq0_ok _ hr rfl (by rw [eh hr]))
  · exact seq0_stop C hr hr
theorem stp_dup {β : Int → Int} {n a b b2 h c s1 s2 s3 s4 f q : Int} (i1 : ISB s1 (IW β a b wChars)) (h1 : s1 = 0) (i2 : ISB s2 (IW β a b wLeniv)) (h2 : s2 = 0) (i3 : ISB s3 (IW β a b wSubrs)) (h3 : s3 = 0) (i4 : ISB s4 (IW β a b wDup)) (h4 : ¬ (s4 = 0)) (hh : h = 1) (C : SEQ 0 f (LOC β n b2 c) (fun v => v = q)) (e : b2 = b) : SEQ 0 f (STP β n a b h c) (fun v => v = (0, q, h, c)) := by
  unfold STP
  rw [if_neg (isb_0 i1 (by omega)), if_neg (isb_0 i2 (by omega)), if_neg (isb_0 i3 (by omega)), if_pos ⟨isb_1 i4 h4, hh⟩, ← e]
  by_cases hr : f = 0
  · exact seq0_go C hr (fun v _ hv => by subst hv; exact seq0_ok _ hr rfl rfl)
  · exact seq0_stop C hr hr
theorem stp_else {β : Int → Int} {n a b h c s1 s2 s3 s4 f q : Int} (i1 : ISB s1 (IW β a b wChars)) (h1 : s1 = 0) (i2 : ISB s2 (IW β a b wLeniv)) (h2 : s2 = 0) (i3 : ISB s3 (IW β a b wSubrs)) (h3 : s3 = 0) (i4 : ISB s4 (IW β a b wDup)) (h4 : s4 = 0 ∨ ¬ (h = 1)) (hf : f = 0) (e : q = b) : SEQ 0 f (STP β n a b h c) (fun v => v = (0, q, h, c)) := by
  unfold STP
  rw [if_neg (isb_0 i1 (by omega)), if_neg (isb_0 i2 (by omega)), if_neg (isb_0 i3 (by omega)), if_neg, e]
  · exact seq0_ok _ hf rfl rfl
  · intro h9
    rcases h4 with h4 | h4
    · exact isb_0 i4 (by omega) h9.1
    · exact h4 h9.2
theorem set_0 {β : Int → Int} {n p h c : Int} (hh : h = 0) (hc : c = 0) : LPQ 0 0 (SET β n p 0 0) (SET β n p h c) True := by
  subst hh hc
  exact lpq_0 trivial
theorem lpq0 {α : Type} {f : Int} {O O2 : Option α} {P : Prop} (L : LPQ 0 f O O2 P) (hf : f = 0) : O = O2 := by
  rcases L with ⟨h, _⟩ | ⟨_, _, h, _⟩ | ⟨_, h, _⟩
  · exact absurd rfl h
  · exact h
  · exact absurd hf h
theorem lpq0_no {α : Type} {f : Int} {O O2 : Option α} {P : Prop} {R : α → Prop} (L : LPQ 0 f O O2 P) (hf : ¬ (f = 0)) : SEQ 0 f O R := by
  rcases L with ⟨h, _⟩ | ⟨_, h, _⟩ | ⟨_, _, h⟩
  · exact absurd rfl h
  · exact absurd h hf
  · exact seq0_no hf h
theorem set_step {f0 fc : Nat → Int32} {n p a b h c h2 c2 q f f2 rw : Int} {O : Option (Int × Int)} (L : LPQ 0 f O (SET (GB f0 n) n p h c) True) (hf : f = 0) (A : AGR fc f0 n p) (W : BSQ rw (WRD (GB fc n) n p) (fun w => w = (a, b))) (hw : ¬ (rw = 0)) (S : SEQ 0 f2 (STP (GB fc n) n a b h c) (fun v => v = (0, q, h2, c2))) (hq : f2 = 0 → p < q) : LPQ 0 f2 O (SET (GB f0 n) n q h2 c2) True := by
  have l := lpq0 L hf
  rcases W with ⟨_, w, w1, w2⟩ | ⟨h1, _⟩
  · subst w2
    have r := wrd_rng w1
    have r1 : p ≤ a := r.1
    have r2 : a < b := r.2.1
    have r3 : b ≤ n := r.2.2
    rw [wrd_cg A] at w1
    rw [stp_cg (by omega) (agr_le A r1)] at S
    rw [SET, w1] at l
    rcases S with ⟨s0, _⟩ | ⟨_, s1, v, s2, s3⟩ | ⟨_, s1, s2⟩
    · exact absurd rfl s0
    · subst s3
      have l2 : O = (match STP (GB f0 n) n a b h c with
        | none => none
        | some q => if q.1 = 1 then some (q.2.1, q.2.2.2) else if p < q.2.1 ∧ p < n then SET (GB f0 n) n q.2.1 q.2.2.1 q.2.2.2 else none) := l
      rw [s2] at l2
      have l3 : O = if (0 : Int) = 1 then some (q, c2) else if p < q ∧ p < n then SET (GB f0 n) n q h2 c2 else none := l2
      rw [if_neg (by decide), if_pos ⟨hq s1, by omega⟩] at l3
      exact Or.inr (Or.inl ⟨rfl, s1, l3, trivial⟩)
    · have l2 : O = (match STP (GB f0 n) n a b h c with
        | none => none
        | some q => if q.1 = 1 then some (q.2.1, q.2.2.2) else if p < q.2.1 ∧ p < n then SET (GB f0 n) n q.2.1 q.2.2.1 q.2.2.2 else none) := l
      rw [s2] at l2
      exact Or.inr (Or.inr ⟨rfl, s1, l2⟩)
  · exact absurd h1 hw
theorem set_none {f0 fc : Nat → Int32} {n p h c f f2 rw : Int} {O : Option (Int × Int)} {P R : Int × Int → Prop} (L : LPQ 0 f O (SET (GB f0 n) n p h c) True) (hf : f = 0) (A : AGR fc f0 n p) (W : BSQ rw (WRD (GB fc n) n p) P) (hw : rw = 0) (h2 : ¬ (f2 = 0)) : SEQ 0 f2 O R := by
  have l := lpq0 L hf
  rcases W with ⟨h1, _⟩ | ⟨_, w1⟩
  · omega
  · rw [wrd_cg A] at w1
    rw [SET, w1] at l
    exact seq0_no h2 l
theorem set_done {f0 fc : Nat → Int32} {n p a b h c q c2 f f2 rw s1 : Int} {O : Option (Int × Int)} (L : LPQ 0 f O (SET (GB f0 n) n p h c) True) (hf : f = 0) (A : AGR fc f0 n p) (W : BSQ rw (WRD (GB fc n) n p) (fun w => w = (a, b))) (hw : ¬ (rw = 0)) (i1 : ISB s1 (IW (GB fc n) a b wChars)) (h1 : ¬ (s1 = 0)) (h2 : f2 = 0) (eq : q = b) (ec : c2 = c) : SEQ 0 f2 O (fun t => t = (q, c2)) := by
  have l := lpq0 L hf
  have s := stp_done (n := n) (h := h) (c := c) i1 h1
  rcases W with ⟨_, w, w1, w2⟩ | ⟨h1, _⟩
  · subst w2
    have r := wrd_rng w1
    have r1 : p ≤ a := r.1
    have r2 : a < b := r.2.1
    rw [wrd_cg A] at w1
    rw [stp_cg (by omega) (agr_le A r1)] at s
    rw [SET, w1] at l
    have l2 : O = (match STP (GB f0 n) n a b h c with
        | none => none
        | some q => if q.1 = 1 then some (q.2.1, q.2.2.2) else if p < q.2.1 ∧ p < n then SET (GB f0 n) n q.2.1 q.2.2.1 q.2.2.2 else none) := l
    rw [s] at l2
    have l3 : O = some (b, c) := l2
    exact seq0_ok _ h2 l3 (by rw [eq, ec])
  · exact absurd h1 hw
theorem ltr_step {f0 fc : Nat → Int32} {n p a b k k2 q f f2 rw s : Int} {O : Option Int} (L : LPQ 0 f O (LTR (GB f0 n) n p k) True) (hf : f = 0) (A : AGR fc f0 n p) (W : BSQ rw (WRD (GB fc n) n p) (fun w => w = (a, b))) (hw : ¬ (rw = 0)) (i : ISB s (IW (GB fc n) a b wOver)) (hs : s = 0) (S : SEQ 0 f2 (LET (GB fc n) n a b k) (fun v => v = q)) (hq : f2 = 0 → p < q ∧ k2 = k + 1) : LPQ 0 f2 O (LTR (GB f0 n) n q k2) True := by
  have l := lpq0 L hf
  rcases W with ⟨_, w, w1, w2⟩ | ⟨h1, _⟩
  · subst w2
    have r := wrd_rng w1
    have r1 : p ≤ a := r.1
    have r2 : a < b := r.2.1
    have r3 : b ≤ n := r.2.2
    rw [wrd_cg A] at w1
    rw [let_cg (by omega) (agr_le A r1)] at S
    have i2 : ¬ IW (GB f0 n) a b wOver := fun h9 => isb_0 i (by omega) ((iw_cg (agr_le A r1)).mpr h9)
    rw [LTR, w1] at l
    have l2 : O = if IW (GB f0 n) a b wOver then (if 0 < k then some k else none) else (match LET (GB f0 n) n a b k with
      | none => none
      | some q => if p < q ∧ p < n then LTR (GB f0 n) n q (k + 1) else none) := l
    rw [if_neg i2] at l2
    rcases S with ⟨s0, _⟩ | ⟨_, s1, v, s2, s3⟩ | ⟨_, s1, s2⟩
    · exact absurd rfl s0
    · subst s3
      rw [s2] at l2
      have l3 : O = if p < v ∧ p < n then LTR (GB f0 n) n v (k + 1) else none := l2
      obtain ⟨hq1, hq2⟩ := hq s1
      rw [if_pos ⟨hq1, by omega⟩, ← hq2] at l3
      exact Or.inr (Or.inl ⟨rfl, s1, l3, trivial⟩)
    · rw [s2] at l2
      exact Or.inr (Or.inr ⟨rfl, s1, l2⟩)
  · exact absurd h1 hw
theorem ltr_none {f0 fc : Nat → Int32} {n p k f f2 rw : Int} {O : Option Int} {P : Int × Int → Prop} {R : Int → Prop} (L : LPQ 0 f O (LTR (GB f0 n) n p k) True) (hf : f = 0) (A : AGR fc f0 n p) (W : BSQ rw (WRD (GB fc n) n p) P) (hw : rw = 0) (h2 : ¬ (f2 = 0)) : SEQ 0 f2 O R := by
  have l := lpq0 L hf
  rcases W with ⟨h1, _⟩ | ⟨_, w1⟩
  · omega
  · rw [wrd_cg A] at w1
    rw [LTR, w1] at l
    exact seq0_no h2 l
theorem ltr_done {f0 fc : Nat → Int32} {n p a b k k2 f f2 rw s1 : Int} {O : Option Int} (L : LPQ 0 f O (LTR (GB f0 n) n p k) True) (hf : f = 0) (A : AGR fc f0 n p) (W : BSQ rw (WRD (GB fc n) n p) (fun w => w = (a, b))) (hw : ¬ (rw = 0)) (i1 : ISB s1 (IW (GB fc n) a b wOver)) (h1 : ¬ (s1 = 0)) (h2 : (0 < k ∧ f2 = 0 ∧ k2 = k) ∨ (¬ (0 < k) ∧ ¬ (f2 = 0))) : SEQ 0 f2 O (fun t => t = k2) := by
  have l := lpq0 L hf
  rcases W with ⟨_, w, w1, w2⟩ | ⟨h1, _⟩
  · subst w2
    have r := wrd_rng w1
    have r1 : p ≤ a := r.1
    rw [wrd_cg A] at w1
    have i2 : IW (GB f0 n) a b wOver := (iw_cg (agr_le A r1)).mp (isb_1 i1 h1)
    rw [LTR, w1] at l
    have l2 : O = if IW (GB f0 n) a b wOver then (if 0 < k then some k else none) else (match LET (GB f0 n) n a b k with
      | none => none
      | some q => if p < q ∧ p < n then LTR (GB f0 n) n q (k + 1) else none) := l
    rw [if_pos i2] at l2
    rcases h2 with ⟨h3, h4, h5⟩ | ⟨h3, h4⟩
    · rw [if_pos h3] at l2
      exact seq0_ok _ h4 l2 h5.symm
    · rw [if_neg h3] at l2
      exact seq0_no h4 l2
  · exact absurd h1 hw
theorem seq0_non {α : Type} {r : Int} {o : Option α} {P : α → Prop} (h : SEQ 0 r o P) (hr : ¬ (r = 0)) : o = none := by
  rcases h with ⟨h0, _⟩ | ⟨_, h1, _⟩ | ⟨_, _, h1⟩
  · exact absurd rfl h0
  · exact absurd h1 hr
  · exact h1
theorem seq0_som {α : Type} {r : Int} {o : Option α} {v : α} (h : SEQ 0 r o (fun u => u = v)) (hr : r = 0) : o = some v := by
  rcases h with ⟨h0, _⟩ | ⟨_, _, u, h1, h2⟩ | ⟨_, h1, _⟩
  · exact absurd rfl h0
  · rw [← h2]; exact h1
  · exact absurd hr h1
theorem lts_1 {β : Int → Int} {n p f : Int} {Z : Option Int} {P : Int × Int → Prop} (C : SEQ 0 f (TLD β n p) P) (hf : ¬ (f = 0)) : LPQ 0 f (LTS β n p) Z True := by
  refine Or.inr (Or.inr ⟨rfl, hf, ?_⟩)
  unfold LTS
  rw [seq0_non C hf]
  rfl
theorem lts_2 {β : Int → Int} {n p rc c p1 f : Int} {Z : Option Int} {P : Int → Prop} (C : SEQ 0 rc (TLD β n p) (fun v => v = (c, p1))) (hc : rc = 0) (E1 : SEQ 0 f (EXW β n p1 wDict) P) (hf : ¬ (f = 0)) : LPQ 0 f (LTS β n p) Z True := by
  refine Or.inr (Or.inr ⟨rfl, hf, ?_⟩)
  unfold LTS
  rw [seq0_som C hc, Option.bind_some, seq0_non E1 hf]
  rfl
theorem lts_3 {β : Int → Int} {n p rc c p1 r1 p2 f : Int} {Z : Option Int} {P : Int → Prop} (C : SEQ 0 rc (TLD β n p) (fun v => v = (c, p1))) (hc : rc = 0) (E1 : SEQ 0 r1 (EXW β n p1 wDict) (fun v => v = p2)) (h1 : r1 = 0) (E2 : SEQ 0 f (EXW β n p2 wDup) P) (hf : ¬ (f = 0)) : LPQ 0 f (LTS β n p) Z True := by
  refine Or.inr (Or.inr ⟨rfl, hf, ?_⟩)
  unfold LTS
  rw [seq0_som C hc, Option.bind_some, seq0_som E1 h1, Option.bind_some, seq0_non E2 hf]
  rfl
theorem lts_4 {β : Int → Int} {n p rc c p1 r1 p2 r2 p3 f p4 k : Int} (C : SEQ 0 rc (TLD β n p) (fun v => v = (c, p1))) (hc : rc = 0) (E1 : SEQ 0 r1 (EXW β n p1 wDict) (fun v => v = p2)) (h1 : r1 = 0) (E2 : SEQ 0 r2 (EXW β n p2 wDup) (fun v => v = p3)) (h2 : r2 = 0) (E3 : SEQ 0 f (EXW β n p3 wBegin) (fun v => v = p4)) (hk : k = 0) : LPQ 0 f (LTS β n p) (LTR β n p4 k) True := by
  have e : LTS β n p = (EXW β n p3 wBegin).bind fun q => LTR β n q 0 := by
    unfold LTS
    rw [seq0_som C hc, Option.bind_some, seq0_som E1 h1, Option.bind_some, seq0_som E2 h2, Option.bind_some]
  by_cases hf : f = 0
  · refine Or.inr (Or.inl ⟨rfl, hf, ?_, trivial⟩)
    rw [e, seq0_som E3 hf, Option.bind_some, hk]
  · refine Or.inr (Or.inr ⟨rfl, hf, ?_⟩)
    rw [e, seq0_non E3 hf]
    rfl
