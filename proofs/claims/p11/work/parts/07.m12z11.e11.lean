/-! what stays as it should in a run (p8 to p11) -/
theorem i32_low {v : Int64} : I32 (LOWL v) := by
  unfold I32 LOWL
  rw [Int32.toInt_toInt64]
  have := fb_rng (Int64.toInt32 v)
  omega
theorem i32_tru {c : Prop} [Decidable c] : I32 (TRU c) := by
  unfold TRU I32
  split <;> decide
theorem drp_i {p : List Int64} {k : Int} (h : ∀ v ∈ p, I32 v) : ∀ v ∈ DRP p k, I32 v := fun v hv => h v (List.mem_of_mem_take hv)
theorem drp_ll {p : List Int64} {k : Int} : (DRP p k).length ≤ p.length := by unfold DRP; rw [List.length_take]; omega
def PQG (R : PQ) : Prop := R.2 = 0 → (∀ v ∈ R.1.1, I32 v) ∧ (∀ j : Nat, I32 (R.1.2 j)) ∧ (R.1.1.length : Int) ≤ 48
theorem pqg_f {p : List Int64} {q : Nat → Int64} {k : Int} (h : ¬ (k = 0)) : PQG ((p, q), k) := fun h9 => absurd h9 h
theorem pqg_l {p : List Int64} {q : Nat → Int64} {v : Int64} (hp : ∀ v ∈ p, I32 v) (hq : ∀ j : Nat, I32 (q j)) (hv : I32 v) : PQG (LFT q (PSH 48 p v)) := by
  intro h
  unfold LFT PSH at h ⊢
  by_cases hl : (p.length : Int) < 48
  · rw [if_pos hl]
    refine ⟨fun x hx => ?_, hq, ?_⟩
    · rcases List.mem_append.mp hx with h1 | h1
      · exact hp x h1
      · rw [List.mem_singleton.mp h1]; exact hv
    · show ((p ++ [v]).length : Int) ≤ 48
      rw [List.length_append]
      show ((p.length + 1 : Nat) : Int) ≤ 48
      omega
  · rw [if_neg hl] at h
    exact absurd (show (3 : Int) = 0 from h) (by decide)
theorem pqg_i {c : Prop} [Decidable c] {a b : PQ} (h : c → PQG a) (g : ¬ c → PQG b) : PQG (if c then a else b) := by
  by_cases hc : c
  · rw [if_pos hc]; exact h hc
  · rw [if_neg hc]; exact g hc
theorem pqg_1 {op : Int} {p : List Int64} {q : Nat → Int64} (hp : ∀ v ∈ p, I32 v) (hq : ∀ j : Nat, I32 (q j)) (hl : (p.length : Int) ≤ 48) : PQG (RK1 48 op p q) := by
  have d1 := drp_i (k := 1) hp
  unfold RK1
  refine pqg_i (fun _ => pqg_l d1 hq i32_tru) fun _ => pqg_i (fun _ => pqg_l d1 hq i32_low) fun _ => pqg_i (fun _ => pqg_l d1 hq i32_low) fun _ => pqg_i (fun _ _ => ⟨d1, hq, ?_⟩) fun _ => pqg_i (fun _ => pqg_i (fun _ => pqg_f (by decide)) fun _ => pqg_l d1 hq (hq _)) fun _ => pqg_i (fun _ => pqg_i (fun _ => pqg_f (by decide)) fun _ => pqg_l d1 hq (rtc_i _)) fun _ => pqg_i (fun _ => pqg_l hp hq (bel_i hp)) fun _ => pqg_i (fun _ => pqg_f (by decide)) fun _ => pqg_l d1 hq (bel_i hp)
  show ((DRP p 1).length : Int) ≤ 48
  have := drp_ll (p := p) (k := 1)
  omega
theorem rot_i {p : List Int64} {n j : Nat} (h : ∀ v ∈ p, I32 v) : ∀ v ∈ ROT p n j, I32 v := by
  have hg : ∀ i : Nat, I32 (p.getD i 0) := fun i => by
    rw [List.getD_eq_getElem?_getD]
    by_cases hi : i < p.length
    · rw [List.getElem?_eq_getElem hi]; exact h _ (List.getElem_mem hi)
    · rw [List.getElem?_eq_none (by omega)]; exact i32_0
  intro v hv
  unfold ROT at hv
  obtain ⟨i, _, e⟩ := List.mem_map.mp hv
  rw [← e]
  split
  · split
    · exact hg _
    · exact hg _
  · exact hg _
theorem pqg_2 {op : Int} {p : List Int64} {q : Nat → Int64} (hp : ∀ v ∈ p, I32 v) (hq : ∀ j : Nat, I32 (q j)) (hl : (p.length : Int) ≤ 48) : PQG (RK2 48 op p q) := by
  have d2 := drp_i (k := 2) hp
  have l2 := drp_ll (p := p) (k := 2)
  unfold RK2
  refine pqg_i (fun _ => pqg_l d2 hq i32_tru) fun _ => pqg_i (fun _ => pqg_l d2 hq i32_tru) fun _ => pqg_i (fun _ => pqg_l d2 hq i32_low) fun _ => pqg_i (fun _ => pqg_l d2 hq i32_low) fun _ => pqg_i (fun _ => pqg_i (fun _ => pqg_f (by decide)) fun _ => pqg_l d2 hq i32_low) fun _ => pqg_i (fun _ => pqg_l d2 hq i32_tru) fun _ => pqg_i (fun _ => ?_) fun _ => pqg_i (fun _ => pqg_l d2 hq i32_low) fun _ => pqg_i (fun _ => pqg_i (fun _ => pqg_l (fun x hx => ?_) hq (bel_i hp)) fun _ => pqg_f (by decide)) fun _ => ?_
  · unfold KEP
    refine pqg_i (fun _ => pqg_f (by decide)) fun _ _ => ⟨d2, fun j => ?_, ?_⟩
    · show I32 (if j = _ then BEL p 1 else q j)
      split
      · exact bel_i hp
      · exact hq j
    · show ((DRP p 2).length : Int) ≤ 48
      omega
  · rcases List.mem_append.mp hx with h1 | h1
    · exact d2 x h1
    · rw [List.mem_singleton.mp h1]; exact bel_i hp
  · unfold ROL
    refine pqg_i (fun _ => pqg_f (by decide)) fun _ => pqg_i (fun _ => pqg_f (by decide)) fun _ => pqg_i (fun _ _ => ⟨d2, hq, ?_⟩) fun _ _ => ⟨rot_i d2, hq, ?_⟩
    · show ((DRP p 2).length : Int) ≤ 48
      omega
    · show ((ROT (DRP p 2) _ _).length : Int) ≤ 48
      unfold ROT
      rw [List.length_map, List.length_range]
      omega
theorem pqg_r {op : Int} {p : List Int64} {q : Nat → Int64} (hp : ∀ v ∈ p, I32 v) (hq : ∀ j : Nat, I32 (q j)) (hl : (p.length : Int) ≤ 48) : PQG (RCK 48 op p q) := by
  unfold RCK
  refine pqg_i (fun _ => pqg_f (by decide)) fun _ => pqg_i (fun _ => pqg_f (by decide)) fun _ => pqg_i (fun _ => pqg_1 hp hq hl) fun _ => pqg_i (fun _ => pqg_2 hp hq hl) fun _ => pqg_l (drp_i hp) hq ?_
  split
  · exact bel_i hp
  · exact bel_i hp
/-- calls -/
def CKG (R : CK × Int) : Prop := R.2 = 0 → FRK R.1.2.1 ∧ ∀ c ∈ R.1.2.2, FRK c
theorem ckg_c {tab : Int → Option (List Int)} {b : Int} {p : List Int64} {c : FR8} {w : List FR8} (ht : TBY tab) (hc : FRK c) (hw : ∀ c ∈ w, FRK c) : CKG (CLL tab b (p, c, w)) := by
  intro h
  unfold CLL at h ⊢
  by_cases h1 : p.length < 1
  · rw [if_pos h1] at h
    exact absurd (show (2 : Int) = 0 from h) (by decide)
  · rw [if_neg h1] at h ⊢
    have h' : ((match tab (WHL p 0 + b) with | none => ((p, c, w), 4) | some g => if 10 ≤ w.length then ((p, c, w), 5) else ((DRP p 1, (g, 0), w ++ [c]), 0)) : CK × Int).2 = 0 := h
    show FRK ((match tab (WHL p 0 + b) with | none => ((p, c, w), 4) | some g => if 10 ≤ w.length then ((p, c, w), 5) else ((DRP p 1, (g, 0), w ++ [c]), 0)) : CK × Int).1.2.1 ∧ ∀ x ∈ ((match tab (WHL p 0 + b) with | none => ((p, c, w), 4) | some g => if 10 ≤ w.length then ((p, c, w), 5) else ((DRP p 1, (g, 0), w ++ [c]), 0)) : CK × Int).1.2.2, FRK x
    cases ht' : tab (WHL p 0 + b) with
    | none => rw [ht'] at h'; exact absurd (show (4 : Int) = 0 from h') (by decide)
    | some g =>
      rw [ht'] at h'
      have h2 : (if 10 ≤ w.length then ((p, c, w), (5 : Int)) else ((DRP p 1, (g, 0), w ++ [c]), 0) : CK × Int).2 = 0 := h'
      show FRK (if 10 ≤ w.length then ((p, c, w), (5 : Int)) else ((DRP p 1, (g, 0), w ++ [c]), 0) : CK × Int).1.2.1 ∧ ∀ x ∈ (if 10 ≤ w.length then ((p, c, w), (5 : Int)) else ((DRP p 1, (g, 0), w ++ [c]), 0) : CK × Int).1.2.2, FRK x
      by_cases h3 : 10 ≤ w.length
      · rw [if_pos h3] at h2
        exact absurd (show (5 : Int) = 0 from h2) (by decide)
      · rw [if_neg h3]
        refine ⟨⟨Int.le_refl _, by show (0 : Int) ≤ (g.length : Int); omega, ht _ _ ht'⟩, fun x hx => ?_⟩
        rcases List.mem_append.mp hx with h4 | h4
        · exact hw x h4
        · rw [List.mem_singleton.mp h4]; exact hc
theorem ckg_r {p : List Int64} {c : FR8} {w : List FR8} (hc : FRK c) (hw : ∀ c ∈ w, FRK c) : CKG (RTN (p, c, w)) := by
  intro h
  unfold RTN at h ⊢
  by_cases h1 : w.length < 1
  · rw [if_pos h1] at h
    exact absurd (show (1 : Int) = 0 from h) (by decide)
  · rw [if_neg h1]
    refine ⟨?_, fun x hx => hw x ((List.dropLast_sublist w).subset hx)⟩
    show FRK (w.getLastD c)
    rw [List.getLastD_eq_getLast?]
    cases hl : w.getLast? with
    | none => exact hc
    | some a => exact hw a (List.mem_of_getLast? hl)
theorem cll_p {tab : Int → Option (List Int)} {b : Int} {p : List Int64} {c : FR8} {w : List FR8} (h : (CLL tab b (p, c, w)).2 = 0) : (CLL tab b (p, c, w)).1.1 = DRP p 1 := by
  unfold CLL at h ⊢
  by_cases h1 : p.length < 1
  · rw [if_pos h1] at h
    exact absurd (show (2 : Int) = 0 from h) (by decide)
  · rw [if_neg h1] at h ⊢
    have h' : ((match tab (WHL p 0 + b) with | none => ((p, c, w), 4) | some g => if 10 ≤ w.length then ((p, c, w), 5) else ((DRP p 1, (g, 0), w ++ [c]), 0)) : CK × Int).2 = 0 := h
    show ((match tab (WHL p 0 + b) with | none => ((p, c, w), 4) | some g => if 10 ≤ w.length then ((p, c, w), 5) else ((DRP p 1, (g, 0), w ++ [c]), 0)) : CK × Int).1.1 = _
    cases ht' : tab (WHL p 0 + b) with
    | none => rw [ht'] at h'; exact absurd (show (4 : Int) = 0 from h') (by decide)
    | some g =>
      rw [ht'] at h'
      have h2 : (if 10 ≤ w.length then ((p, c, w), (5 : Int)) else ((DRP p 1, (g, 0), w ++ [c]), 0) : CK × Int).2 = 0 := h'
      show (if 10 ≤ w.length then ((p, c, w), (5 : Int)) else ((DRP p 1, (g, 0), w ++ [c]), 0) : CK × Int).1.1 = _
      by_cases h3 : 10 ≤ w.length
      · rw [if_pos h3] at h2
        exact absurd (show (5 : Int) = 0 from h2) (by decide)
      · rw [if_neg h3]
theorem rtn_p {p : List Int64} {c : FR8} {w : List FR8} : (RTN (p, c, w)).1.1 = p := by
  unfold RTN
  split <;> rfl
theorem nq_i {q : Nat → Int64} (h : ∀ j : Nat, I32 (q j)) : ∀ j : Nat, I32 (NQ q j) := fun j => by
  unfold NQ
  split
  · exact h j
  · exact i32_0
theorem gds_cop {F : F8} {op : Int} {s : M8} (G : GDS s) (hl : TBY F.tl) (hg : TBY F.tg) (hm : F.m = 48) (h : (COP F op s).2 = 0) : GDS (COP F op s).1 := by
  obtain ⟨g1, g2, g3, g4, g5, g6⟩ := G
  have l1 := drp_ll (p := s.p) (k := 1)
  unfold COP at h ⊢
  by_cases h1 : op = 10
  · rw [if_pos h1] at h ⊢
    obtain ⟨a, b⟩ := ckg_c (b := BIA F.nl) (p := s.p) hl g3 g4 h
    have e := cll_p h
    refine ⟨?_, g2, a, b, ?_, g6⟩
    · show ∀ v ∈ (CLL F.tl (BIA F.nl) (s.p, s.c, s.w)).1.1, I32 v
      rw [e]; exact drp_i g1
    · show ((CLL F.tl (BIA F.nl) (s.p, s.c, s.w)).1.1.length : Int) ≤ 48
      rw [e]; omega
  rw [if_neg h1] at h ⊢
  by_cases h2 : op = 29
  · rw [if_pos h2] at h ⊢
    obtain ⟨a, b⟩ := ckg_c (b := BIA F.ng) (p := s.p) hg g3 g4 h
    have e := cll_p h
    refine ⟨?_, g2, a, b, ?_, g6⟩
    · show ∀ v ∈ (CLL F.tg (BIA F.ng) (s.p, s.c, s.w)).1.1, I32 v
      rw [e]; exact drp_i g1
    · show ((CLL F.tg (BIA F.ng) (s.p, s.c, s.w)).1.1.length : Int) ≤ 48
      rw [e]; omega
  rw [if_neg h2] at h ⊢
  by_cases h3 : op = 11
  · rw [if_pos h3] at h ⊢
    obtain ⟨a, b⟩ := ckg_r (p := s.p) g3 g4 h
    refine ⟨?_, g2, a, b, ?_, g6⟩
    · show ∀ v ∈ (RTN (s.p, s.c, s.w)).1.1, I32 v
      rw [rtn_p]; exact g1
    · show ((RTN (s.p, s.c, s.w)).1.1.length : Int) ≤ 48
      rw [rtn_p]; exact g5
  rw [if_neg h3] at h ⊢
  by_cases h4 : 256 ≤ op ∧ ¬ FLX op
  · rw [if_pos h4, hm] at h ⊢
    obtain ⟨a, b, c⟩ := pqg_r (op := op - 256) g1 g2 g5 h
    exact ⟨a, nq_i b, g3, g4, c, g6⟩
  rw [if_neg h4] at h ⊢
  have n1 : ∀ v ∈ ([] : List Int64), I32 v := fun v hv => absurd hv List.not_mem_nil
  by_cases h5 : MTW op
  · rw [if_pos h5] at h ⊢
    have hp := prd_0 (p := s.p) (wa := s.wh.1.1)
    refine ⟨n1, g2, ?_, g4, (by show (0 : Int) ≤ 48; decide), ?_⟩
    · obtain ⟨k1, k2, k3⟩ := g3
      suffices hs : 0 ≤ (HMS F.nm F.df F.lim s.c.1.length s.p op (s.wh, s.c.2, s.o, s.ov)).1.2.1 ∧ (HMS F.nm F.df F.lim s.c.1.length s.p op (s.wh, s.c.2, s.o, s.ov)).1.2.1 ≤ s.c.1.length from ⟨hs.1, hs.2, k3⟩
      unfold HMS
      split
      · show 0 ≤ (MSK F.nm F.df s.p s.wh s.c.2 s.c.1.length).1.2 ∧ (MSK F.nm F.df s.p s.wh s.c.2 s.c.1.length).1.2 ≤ s.c.1.length
        unfold MSK
        split
        · show 0 ≤ (if (s.wh.2 + PRD s.p s.wh.1.1 / 2 + 7) / 8 ≤ s.c.1.length - s.c.2 then s.c.2 + (s.wh.2 + PRD s.p s.wh.1.1 / 2 + 7) / 8 else (s.c.1.length : Int)) ∧ (if (s.wh.2 + PRD s.p s.wh.1.1 / 2 + 7) / 8 ≤ s.c.1.length - s.c.2 then s.c.2 + (s.wh.2 + PRD s.p s.wh.1.1 / 2 + 7) / 8 else (s.c.1.length : Int)) ≤ s.c.1.length
          split <;> omega
        · exact ⟨k1, k2⟩
      · split
        · exact ⟨k1, k2⟩
        · split
          · exact ⟨k1, k2⟩
          · exact ⟨k1, k2⟩
    · show 0 ≤ (HMS F.nm F.df F.lim s.c.1.length s.p op (s.wh, s.c.2, s.o, s.ov)).1.1.2
      unfold HMS
      split
      · show 0 ≤ (MSK F.nm F.df s.p s.wh s.c.2 s.c.1.length).1.1.2
        unfold MSK
        split
        · show 0 ≤ s.wh.2 + PRD s.p s.wh.1.1 / 2
          omega
        · exact g6
      · split
        · exact g6
        · split
          · exact g6
          · show 0 ≤ (STM F.nm F.df s.p s.wh).1.2
            unfold STM
            split
            · show 0 ≤ s.wh.2 + PRD s.p s.wh.1.1 / 2
              omega
            · exact g6
  · rw [if_neg h5]
    exact ⟨n1, g2, g3, g4, (by show (0 : Int) ≤ 48; decide), g6⟩
