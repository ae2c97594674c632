/-! the reference's settings of Type 1 (p5) -/
def FS2 (O : Option (Int × Int)) (δ : Int → Int) (N ag nx wf we h c : Int) : Prop := ∃ p, O = SET δ N p h c ∧ ((ag = 0 ∧ p = nx) ∨ (ag = 1 ∧ WRD δ N p = some (wf, we)))
theorem fs2_0 {δ : Int → Int} {N nx wf we h c : Int} (e : nx = 4) (hh : h = 0) (hc : c = 0) : FS2 (SET δ N 4 0 0) δ N 0 nx wf we h c := ⟨4, by rw [hh, hc], Or.inl ⟨rfl, e.symm⟩⟩
/-- the word at hand -/
def FSW (O : Option (Int × Int)) (δ : Int → Int) (N a b h c : Int) : Prop := ∃ p, O = SET δ N p h c ∧ WRD δ N p = some (a, b)
theorem fsw_1 {O : Option (Int × Int)} {δ : Int → Int} {N ag nx wf we h c : Int} (F : FS2 O δ N ag nx wf we h c) (h1 : ag = 1) : FSW O δ N wf we h c := by
  obtain ⟨p, e, h9 | h9⟩ := F
  · omega
  · exact ⟨p, e, h9.2⟩
theorem fsw_0 {O : Option (Int × Int)} {δ : Int → Int} {N ag nx wf we h c r a b : Int} (F : FS2 O δ N ag nx wf we h c) (h0 : ag = 0) (W : BSQ r (WRD δ N nx) (fun w => w = (a, b))) (hr : r = 1) : FSW O δ N a b h c := by
  obtain ⟨p, e, h9 | h9⟩ := F
  · rcases W with ⟨_, w, w1, w2⟩ | ⟨w1, _⟩
    · exact ⟨p, e, by rw [h9.2, w1, w2]⟩
    · omega
  · omega
theorem fs2_no {O : Option (Int × Int)} {δ : Int → Int} {N ag nx wf we h c r f : Int} {P R : Int × Int → Prop} (F : FS2 O δ N ag nx wf we h c) (h0 : ag = 0) (W : BSQ r (WRD δ N nx) P) (hr : r = 0) (hf : ¬ (f = 0)) : SEQ 0 f O R := by
  obtain ⟨p, e, h9 | h9⟩ := F
  · rcases W with ⟨w1, _⟩ | ⟨_, w1⟩
    · omega
    · rw [SET, h9.2, w1] at e
      exact seq0_no hf e
  · omega
theorem fsw_step {O : Option (Int × Int)} {δ : Int → Int} {N a b h c q h2 c2 ag nx wf we : Int} (F : FSW O δ N a b h c) (S : STP δ N a b h c = some (0, q, h2, c2)) (hq : b ≤ q) (hg : (ag = 0 ∧ q = nx) ∨ (ag = 1 ∧ WRD δ N q = some (wf, we))) : FS2 O δ N ag nx wf we h2 c2 := by
  obtain ⟨p, e, hW⟩ := F
  have r := wrd_rng hW
  have r1 : p ≤ a := r.1
  have r2 : a < b := r.2.1
  have r3 : b ≤ N := r.2.2
  rw [SET, hW] at e
  have e2 : O = (match STP δ N a b h c with
    | none => none
    | some q => if q.1 = 1 then some (q.2.1, q.2.2.2) else if p < q.2.1 ∧ p < N then SET δ N q.2.1 q.2.2.1 q.2.2.2 else none) := e
  rw [S] at e2
  have e3 : O = if (0 : Int) = 1 then some (q, c2) else if p < q ∧ p < N then SET δ N q h2 c2 else none := e2
  rw [if_neg (by decide), if_pos ⟨by omega, by omega⟩] at e3
  refine ⟨q, e3, ?_⟩
  rcases hg with ⟨g1, g2⟩ | ⟨g1, g2⟩
  · exact Or.inl ⟨g1, g2⟩
  · exact Or.inr ⟨g1, g2⟩
theorem fsw_no {O : Option (Int × Int)} {δ : Int → Int} {N a b h c f : Int} {R : Int × Int → Prop} (F : FSW O δ N a b h c) (S : STP δ N a b h c = none) (hf : ¬ (f = 0)) : SEQ 0 f O R := by
  obtain ⟨p, e, hW⟩ := F
  rw [SET, hW] at e
  have e2 : O = (match STP δ N a b h c with
    | none => none
    | some q => if q.1 = 1 then some (q.2.1, q.2.2.2) else if p < q.2.1 ∧ p < N then SET δ N q.2.1 q.2.2.1 q.2.2.2 else none) := e
  rw [S] at e2
  exact seq0_no hf e2
theorem fsw_done {O : Option (Int × Int)} {δ : Int → Int} {N a b h c : Int} (F : FSW O δ N a b h c) (S : STP δ N a b h c = some (1, b, h, c)) : O = some (b, c) := by
  obtain ⟨p, e, hW⟩ := F
  rw [SET, hW] at e
  have e2 : O = (match STP δ N a b h c with
    | none => none
    | some q => if q.1 = 1 then some (q.2.1, q.2.2.2) else if p < q.2.1 ∧ p < N then SET δ N q.2.1 q.2.2.1 q.2.2.2 else none) := e
  rw [S] at e2
  exact e2
theorem ms_leniv {δ : Int → Int} {N a b b2 h c s f cc q : Int} (i : ISB s (IW δ a b wLeniv)) (hs : s = 1) (C : SEQ 0 f (TLD δ N b2) (fun v => v = (cc, q))) (e : b2 = b) : SEQ 0 f (STP δ N a b h c) (fun v => v = (0, q, h, c)) := by
  have h1 := isb_1 i (by omega)
  have l1 : b - a = 6 := h1.1
  exact stp_leniv (s1 := 0) (Or.inr ⟨rfl, fun h9 => by have l2 : b - a = 12 := h9.1; omega⟩) rfl i (by omega) C e
theorem ms_subrs {δ : Int → Int} {N a b b2 h c s2 s f c2 q h9 : Int} (i2 : ISB s2 (IW δ a b wLeniv)) (h2 : s2 = 0) (i : ISB s (IW δ a b wSubrs)) (hs : s = 1) (C : SEQ 0 f (SUBR δ N b2) (fun v => v = (q, c2))) (e : b2 = b) (eh : f = 0 → h9 = 1) : SEQ 0 f (STP δ N a b h c) (fun v => v = (0, q, h9, c2)) := by
  have h1 := isb_1 i (by omega)
  have l1 : b - a = 6 := h1.1
  exact stp_subrs (s1 := 0) (Or.inr ⟨rfl, fun h8 => by have l2 : b - a = 12 := h8.1; omega⟩) rfl i2 h2 i (by omega) C e eh
theorem ms_dup {δ : Int → Int} {N a b b2 h c s2 s3 s f q : Int} (i2 : ISB s2 (IW δ a b wLeniv)) (h2 : s2 = 0) (i3 : ISB s3 (IW δ a b wSubrs)) (h3 : s3 = 0) (i : ISB s (IW δ a b wDup)) (hs : s = 1) (hh : h = 1) (C : SEQ 0 f (LOC δ N b2 c) (fun v => v = q)) (e : b2 = b) : SEQ 0 f (STP δ N a b h c) (fun v => v = (0, q, h, c)) := by
  have h1 := isb_1 i (by omega)
  have l1 : b - a = 3 := h1.1
  exact stp_dup (s1 := 0) (Or.inr ⟨rfl, fun h8 => by have l2 : b - a = 12 := h8.1; omega⟩) rfl i2 h2 i3 h3 i (by omega) hh C e
theorem mloc_p {δ : Int → Int} {N p a b c k m p1 p2 rw f1 f : Int} (W : BSQ rw (WRD δ N p) (fun w => w = (a, b))) (hw : rw = 1) (i : EQP (CNTL δ b a 0) k) (hk : 0 ≤ k) (h : k < c) (C : SEQ 0 f1 (TLD δ N b) (fun v => v = (m, p1))) (h1 : f1 = 0) (P : SEQ 0 f (PRT δ N p1 m) (fun v => v = p2)) : SEQ 0 f (LOC δ N p c) (fun v => v = p2) := by
  refine loc_c W (by omega) i (by omega) h ?_ rfl
  rw [prg_prt]
  refine seq0_go C h1 (fun v _ hv => ?_)
  subst hv
  exact P
theorem mloc_c {δ : Int → Int} {N p a b c k rw f : Int} {P : Int × Int → Prop} {R : Int → Prop} (W : BSQ rw (WRD δ N p) (fun w => w = (a, b))) (hw : rw = 1) (i : EQP (CNTL δ b a 0) k) (hk : 0 ≤ k) (h : k < c) (C : SEQ 0 f (TLD δ N b) P) (hf : ¬ (f = 0)) : SEQ 0 f (LOC δ N p c) R := by
  refine loc_c W (by omega) i (by omega) h ?_ rfl
  rw [prg_prt]
  exact seq0_stop C hf hf
theorem seq0_e {α : Type} {f : Int} {o o2 : Option α} {P : α → Prop} (h : SEQ 0 f o P) (e : o = o2) : SEQ 0 f o2 P := e ▸ h
def OPS (r : Int) (O : Option (Int × Int)) (f : Nat → Int32) (m : Int) : Prop := (r = 1 ∧ O = TXT (TB f m) (m + 4)) ∨ (r = 0 ∧ O = none)
theorem ops_0 {r f1 : Int} {O : Option (Int × Int)} {f : Nat → Int32} {m : Int} {R : Int × Int → Prop} (h : OPS r O f m) (hr : r = 0) (hf : ¬ (f1 = 0)) : SEQ 0 f1 O R := by
  rcases h with ⟨h1, _⟩ | ⟨_, h1⟩
  · omega
  · exact seq0_no hf h1
theorem ops_1 {r f1 : Int} {O : Option (Int × Int)} {f : Nat → Int32} {m : Int} {R : Int × Int → Prop} (h : OPS r O f m) (hr : r = 1) (k : SEQ 0 f1 (TXT (TB f m) (m + 4)) R) : SEQ 0 f1 O R := by
  rcases h with ⟨_, h1⟩ | ⟨h1, _⟩
  · rw [h1]; exact k
  · omega
theorem txt_no {δ : Int → Int} {N f : Int} {P R : Int × Int → Prop} (h : SEQ 0 f (SET δ N 4 0 0) P) (hf : ¬ (f = 0)) : SEQ 0 f (TXT δ N) R := seq0_stop h hf hf
theorem txt_lts {δ : Int → Int} {N b c kk f : Int} (h : SET δ N 4 0 0 = some (b, c)) (L : SEQ 0 f (LTS δ N b) (fun k => k = kk)) : SEQ 0 f (TXT δ N) (fun t => t = (kk, c)) := by
  unfold TXT
  rw [h, Option.bind_some]
  by_cases hf : f = 0
  · exact seq0_go L hf (fun v _ hv => by subst hv; exact seq0_ok _ hf rfl rfl)
  · exact seq0_stop L hf hf
theorem txt_lno {δ : Int → Int} {N b c f : Int} {P : Int → Prop} {R : Int × Int → Prop} (h : SET δ N 4 0 0 = some (b, c)) (L : SEQ 0 f (LTS δ N b) P) (hf : ¬ (f = 0)) : SEQ 0 f (TXT δ N) R := by
  unfold TXT
  rw [h, Option.bind_some]
  exact seq0_stop L hf hf
theorem fs2_c {O : Option (Int × Int)} {δ : Int → Int} {N ag nx wf we h c ag2 nx2 wf2 we2 h2 c2 : Int} (F : FS2 O δ N ag nx wf we h c) (e1 : ag = ag2) (e2 : nx = nx2) (e3 : ag2 = 0 ∨ (wf = wf2 ∧ we = we2)) (e4 : h = h2) (e5 : c = c2) : FS2 O δ N ag2 nx2 wf2 we2 h2 c2 := by
  subst e1 e2 e4 e5
  rcases e3 with e3 | ⟨e3, e6⟩
  · obtain ⟨p, h1, h2 | h2⟩ := F
    · exact ⟨p, h1, Or.inl h2⟩
    · omega
  · subst e3 e6
    exact F
theorem bsq_som {α : Type} {r : Int} {o : Option α} {v : α} (h : BSQ r o (fun w => w = v)) (hr : r = 1) : o = some v := by
  rcases h with ⟨_, u, h1, h2⟩ | ⟨h1, _⟩
  · rw [← h2]; exact h1
  · omega
theorem lts_seq {δ : Int → Int} {N b f fl k0 p4 kk : Int} (L : LPQ 0 fl (LTS δ N b) (LTR δ N p4 k0) True) (hl : fl = 0) (Q : SEQ 0 f (LTR δ N p4 k0) (fun v => v = kk)) : SEQ 0 f (LTS δ N b) (fun v => v = kk) := by
  rw [lpq0 L hl]
  exact Q
theorem upd_2 {f f2 : Nat → Int32} {x : Int32} (e : upd f (Int32.toNatClampNeg 1) x = f2) : f2 2 = f 2 := by
  rw [← e]
  exact if_neg (by decide)
theorem tld_b {δ : Int → Int} {N b b2 f0 f : Int} {P : Int × Int → Prop} (h : SEQ f0 f (TLD δ N b2) P) (e : b2 = b) : SEQ f0 f (TLD δ N b) P := e ▸ h
theorem bsq_p {δ : Int → Int} {N p q r : Int} {P : Int × Int → Prop} (h : BSQ r (WRD δ N p) P) (e : p = q) : BSQ r (WRD δ N q) P := e ▸ h
theorem lts_b {O : Option (Int × Int)} {b b2 c : Int} (h : O = some (b, c)) (e : b = b2) : O = some (b2, c) := e ▸ h
theorem lpq_w {α : Type} {f : Int} {O O2 O3 : Option α} {P : Prop} (L : LPQ 0 f O O2 P) (hf : ¬ (f = 0)) : LPQ 0 f O O3 P := by
  rcases L with h | ⟨_, h, _⟩ | h
  · exact Or.inl h
  · exact absurd h hf
  · exact Or.inr (Or.inr h)
def CPM (m nm : Nat → Int32) (k : Int) : Prop := ∀ j : Nat, j < k.toNat → m j = nm j
theorem cpm_0 {m nm : Nat → Int32} : CPM m nm 0 := fun j h => absurd h (Nat.not_lt_zero j)
theorem cpm_step {m m2 nm : Nat → Int32} {i z : Int32} {k2 : Int} (h : CPM m nm (Int32.toInt i)) (e : upd m (Int32.toNatClampNeg i) z = m2) (ez : nm (Int32.toNatClampNeg i) = z) (h0 : 0 ≤ Int32.toInt i) (ek : k2 = Int32.toInt i + 1) : CPM m2 nm k2 := by
  intro j hj
  have hc : Int32.toNatClampNeg i = (Int32.toInt i).toNat := rfl
  rw [hc] at e ez
  rw [← e, upd_eq]
  by_cases hj2 : j = (Int32.toInt i).toNat
  · rw [if_pos hj2, hj2, ez]
  · rw [if_neg hj2]
    exact h j (by omega)
theorem rdm_cff {β : Int → Int} {n f k u w r : Int} {m nm : Nat → Int32} (Q : SEQ 0 f (CFF β n) (fun t => t = ((Int32.toInt (nm 0)), (Int32.toInt (nm 1)), (Int32.toInt (nm 2)), u, w))) (hf : f = 0) (C : CPM m nm k) (hk : 3 ≤ k) (hr : r = 0) : SEQ 0 r (CFF β n) (fun t => t = ((Int32.toInt (m (Int32.toNatClampNeg 0))), (Int32.toInt (m (Int32.toNatClampNeg 1))), (Int32.toInt (m (Int32.toNatClampNeg 2))), u, w)) := by
  refine seq0_ok _ hr (seq0_som Q hf) ?_
  have h0 : m (Int32.toNatClampNeg 0) = nm 0 := C 0 (by omega)
  have h1 : m (Int32.toNatClampNeg 1) = nm 1 := C 1 (by omega)
  have h2 : m (Int32.toNatClampNeg 2) = nm 2 := C 2 (by omega)
  rw [h0, h1, h2]
theorem rdm_t1 {β : Int → Int} {n f k r : Int} {m nm : Nat → Int32} (Q : SEQ 0 f (T1 β n) (fun t => t = ((Int32.toInt (nm (Int32.toNatClampNeg 0))), (Int32.toInt (nm (Int32.toNatClampNeg 1)))))) (hf : f = 0) (C : CPM m nm k) (hk : 3 ≤ k) (hr : r = 0) : SEQ 0 r (T1 β n) (fun t => t = ((Int32.toInt (m (Int32.toNatClampNeg 0))), (Int32.toInt (m (Int32.toNatClampNeg 1))))) := by
  refine seq0_ok _ hr (seq0_som Q hf) ?_
  have h0 : m (Int32.toNatClampNeg 0) = nm (Int32.toNatClampNeg 0) := C 0 (by omega)
  have h1 : m (Int32.toNatClampNeg 1) = nm (Int32.toNatClampNeg 1) := C 1 (by omega)
  rw [h0, h1]
theorem rdm_no {α : Type} {f r : Int} {o : Option α} {P R : α → Prop} (Q : SEQ 0 f o P) (hf : ¬ (f = 0)) (hr : ¬ (r = 0)) : SEQ 0 r o R := seq0_no hr (seq0_non Q hf)
def RDM (v r fam1 fam0 : Int) (m1 m0 : Nat → Int32) (us1 us0 no1 no0 : Int) : Prop := (r = 0 ∧ (v = 0 ∨ v = 1) ∧ fam1 = v ∧ (v = 0 ∨ (Int32.toInt (m1 (Int32.toNatClampNeg 2)) = 0 ∧ us1 = 0 ∧ no1 = 0))) ∨ (¬ (r = 0) ∧ fam1 = fam0 ∧ m1 = m0 ∧ us1 = us0 ∧ no1 = no0)
theorem cpm_2 {m nm nz : Nat → Int32} {k : Int} (C : CPM m nm k) (hk : 3 ≤ k) (h : nm 2 = nz 2) (hz : Int32.toInt (nz (Int32.toNatClampNeg 2)) = 0) : Int32.toInt (m (Int32.toNatClampNeg 2)) = 0 := by
  have h2 : m (Int32.toNatClampNeg 2) = nm 2 := C 2 (by omega)
  rw [h2, h]
  exact hz
/-! the law: fonts alike -/
def FRL (fam ll lo lg dw nw fam2 m0 m1 m2 us no : Int) : Prop := fam = fam2 ∧ (fam = -1 ∨ (ll = m0 ∧ lo = m1 ∧ lg = m2 ∧ dw = us ∧ nw = no))
theorem seq0_two {α : Type} {r r2 : Int} {o : Option α} {u v : α} (h : SEQ 0 r o (fun t => t = u)) (k : SEQ 0 r2 o (fun t => t = v)) : (r = 0 ∧ r2 = 0 ∧ u = v) ∨ (¬ (r = 0) ∧ ¬ (r2 = 0)) := by
  by_cases hr : r = 0
  · by_cases hk : r2 = 0
    · have e1 := seq0_som h hr
      have e2 := seq0_som k hk
      rw [e1] at e2
      exact Or.inl ⟨hr, hk, Option.some.inj e2⟩
    · have e1 := seq0_som h hr
      have e2 := seq0_non k hk
      rw [e1] at e2
      exact absurd e2 (by simp)
  · by_cases hk : r2 = 0
    · have e1 := seq0_non h hr
      have e2 := seq0_som k hk
      rw [e1] at e2
      exact absurd e2 (by simp)
    · exact Or.inr ⟨hr, hk⟩
theorem fr_yes {ft gt : Nat → Int32} {v r r2 T U ll lo lg dw nw fam fam2 fam0 us us0 no no0 : Int} {m1 m0 : Nat → Int32} (h8 : E8 ft gt (Int.toNat U)) (hT : T = U)
    (C0 : CND (v = 0) (SEQ 0 r (CFF (GB ft T) T) (fun t => t = (ll, lo, lg, dw, nw)))) (C1 : CND (v = 1) (SEQ 0 r (T1 (GB ft T) T) (fun t => t = (ll, lo))))
    (D0 : CND (v = 0) (SEQ 0 r2 (CFF (GB gt U) U) (fun t => t = ((Int32.toInt (m1 (Int32.toNatClampNeg 0))), (Int32.toInt (m1 (Int32.toNatClampNeg 1))), (Int32.toInt (m1 (Int32.toNatClampNeg 2))), us, no)))) (D1 : CND (v = 1) (SEQ 0 r2 (T1 (GB gt U) U) (fun t => t = ((Int32.toInt (m1 (Int32.toNatClampNeg 0))), (Int32.toInt (m1 (Int32.toNatClampNeg 1)))))))
    (RD : RDM v r2 fam2 fam0 m1 m0 us us0 no no0) (hr : r = 0) (hv : v = 0 ∨ v = 1) (hf : fam = v) (hz : v = 0 ∨ (lg = 0 ∧ dw = 0 ∧ nw = 0)) : FRL fam ll lo lg dw nw fam2 (Int32.toInt (m1 (Int32.toNatClampNeg 0))) (Int32.toInt (m1 (Int32.toNatClampNeg 1))) (Int32.toInt (m1 (Int32.toNatClampNeg 2))) us no := by
  subst hT
  have hB := gb_E8 h8
  rw [hB] at C0 C1
  rcases hv with hv | hv
  · rcases seq0_two (C0 hv) (D0 hv) with ⟨_, k2, k3⟩ | ⟨k1, _⟩
    · rcases RD with ⟨_, _, q3, _⟩ | ⟨q1, _⟩
      · refine ⟨by rw [hf, q3], Or.inr ?_⟩
        have e1 : ll = _ := congrArg Prod.fst k3
        have e2 : lo = _ := congrArg (fun q => q.2.1) k3
        have e3 : lg = _ := congrArg (fun q => q.2.2.1) k3
        have e4 : dw = _ := congrArg (fun q => q.2.2.2.1) k3
        have e5 : nw = _ := congrArg (fun q => q.2.2.2.2) k3
        exact ⟨e1, e2, e3, e4, e5⟩
      · exact absurd k2 q1
    · exact absurd hr k1
  · rcases seq0_two (C1 hv) (D1 hv) with ⟨_, k2, k3⟩ | ⟨k1, _⟩
    · rcases RD with ⟨_, _, q3, q4⟩ | ⟨q1, _⟩
      · refine ⟨by rw [hf, q3], Or.inr ?_⟩
        have e1 : ll = _ := congrArg Prod.fst k3
        have e2 : lo = _ := congrArg (fun q => q.2) k3
        have z1 : lg = 0 ∧ dw = 0 ∧ nw = 0 := hz.resolve_left (by omega)
        have z2 := q4.resolve_left (by omega)
        exact ⟨e1, e2, by rw [z1.1, z2.1], by rw [z1.2.1, z2.2.1], by rw [z1.2.2, z2.2.2]⟩
      · exact absurd k2 q1
    · exact absurd hr k1
theorem fr_no {ft gt : Nat → Int32} {v r r2 T U ll lo lg dw nw a1 a2 a3 a4 a5 fam fam2 fam0 us us0 no no0 : Int} {m1 m0 : Nat → Int32} (h8 : E8 ft gt (Int.toNat U)) (hT : T = U)
    (C0 : CND (v = 0) (SEQ 0 r (CFF (GB ft T) T) (fun t => t = (a1, a2, a3, a4, a5)))) (C1 : CND (v = 1) (SEQ 0 r (T1 (GB ft T) T) (fun t => t = (a1, a2))))
    (D0 : CND (v = 0) (SEQ 0 r2 (CFF (GB gt U) U) (fun t => t = ((Int32.toInt (m1 (Int32.toNatClampNeg 0))), (Int32.toInt (m1 (Int32.toNatClampNeg 1))), (Int32.toInt (m1 (Int32.toNatClampNeg 2))), us, no)))) (D1 : CND (v = 1) (SEQ 0 r2 (T1 (GB gt U) U) (fun t => t = ((Int32.toInt (m1 (Int32.toNatClampNeg 0))), (Int32.toInt (m1 (Int32.toNatClampNeg 1)))))))
    (RD : RDM v r2 fam2 fam0 m1 m0 us us0 no no0) (hr : ¬ (r = 0)) (F : FRL fam ll lo lg dw nw fam0 (Int32.toInt (m0 (Int32.toNatClampNeg 0))) (Int32.toInt (m0 (Int32.toNatClampNeg 1))) (Int32.toInt (m0 (Int32.toNatClampNeg 2))) us0 no0) : FRL fam ll lo lg dw nw fam2 (Int32.toInt (m1 (Int32.toNatClampNeg 0))) (Int32.toInt (m1 (Int32.toNatClampNeg 1))) (Int32.toInt (m1 (Int32.toNatClampNeg 2))) us no := by
  subst hT
  have hB := gb_E8 h8
  rw [hB] at C0 C1
  rcases RD with ⟨q1, q2, _⟩ | ⟨_, q2, q3, q4, q5⟩
  · rcases q2 with q2 | q2
    · rcases seq0_two (C0 q2) (D0 q2) with ⟨k1, _⟩ | ⟨_, k2⟩
      · exact absurd k1 hr
      · exact absurd q1 k2
    · rcases seq0_two (C1 q2) (D1 q2) with ⟨k1, _⟩ | ⟨_, k2⟩
      · exact absurd k1 hr
      · exact absurd q1 k2
  · rw [q2, q3, q4, q5]
    exact F
theorem fon_eq {r1 r2 fam ll lo lg dw nw fam2 m0 m1 m2 us no w : Int} (h1 : EQP r1 (FON fam ll lo lg dw nw w)) (h2 : EQP r2 (FON fam2 m0 m1 m2 us no w)) (F : FRL fam ll lo lg dw nw fam2 m0 m1 m2 us no) : r1 = r2 := by
  unfold EQP at h1 h2
  rw [h1, h2]
  obtain ⟨f1, f2⟩ := F
  unfold FON
  rcases f2 with f2 | ⟨a1, a2, a3, a4, a5⟩
  · rw [if_pos f2, if_pos (by omega)]
  · rw [f1, a1, a2, a3, a4, a5]
