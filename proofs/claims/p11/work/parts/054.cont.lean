theorem bp_b (x : Int32) : x.toInt8.toInt32 &&& 255 = x &&& 255 := by
  apply Int32.toBitVec_inj.mp
  rw [Int32.toBitVec_and, Int32.toBitVec_and, Int8.toBitVec_toInt32, Int32.toBitVec_toInt8]
  apply BitVec.eq_of_getLsbD_eq
  intro i hi
  rw [BitVec.getLsbD_and, BitVec.getLsbD_and]
  have hm : ∀ i < 32, 8 ≤ i → (255 : Int32).toBitVec.getLsbD i = false := by decide
  rcases Nat.lt_or_ge i 8 with z | z
  · rw [BitVec.getLsbD_signExtend, BitVec.getLsbD_signExtend, if_pos z, if_pos hi]
    simp only [z, hi, decide_true, Bool.true_and]
  · rw [hm i hi z]; simp
/-! contents of tape and out: what the loops write, as functions (p14); bp_b is laid ahead of this from the kit's laws -/
/-- a fact that the reckoning tactic does not look into -/
def HID (P : Prop) : Prop := P
def st8 (x : Int32) : Int32 := vp_nar .byte ((Int32.toInt8 x).toInt32)
theorem st8_eq (x : Int32) : st8 x = (Int32.toInt8 x).toInt32 := pk_vb x
theorem st8_and (x : Int32) : st8 x &&& 255 = x &&& 255 := by rw [st8_eq]; exact bp_b x
theorem and2 (x : Int32) : x &&& 255 &&& 255 = x &&& 255 := by rw [Int32.and_assoc]; rfl
theorem st8_low (x : Int32) : st8 (x &&& 255) &&& 255 = x &&& 255 := by rw [st8_and, and2]
theorem nar_and (x : Int32) : vp_nar .byte x &&& 255 = x &&& 255 := by rw [vp_nar_byte]; exact bp_b x
theorem xor_and (a b m : Int32) : (a ^^^ b) &&& m = (a &&& m) ^^^ (b &&& m) := by
  apply Int32.toBitVec_inj.mp
  rw [Int32.toBitVec_and, Int32.toBitVec_xor, Int32.toBitVec_xor, Int32.toBitVec_and, Int32.toBitVec_and]
  apply BitVec.eq_of_getLsbD_eq
  intro i hi
  rw [BitVec.getLsbD_and, BitVec.getLsbD_xor, BitVec.getLsbD_xor, BitVec.getLsbD_and, BitVec.getLsbD_and]
  cases a.toBitVec.getLsbD i <;> cases b.toBitVec.getLsbD i <;> cases m.toBitVec.getLsbD i <;> rfl
theorem shr8_low {t : Int32} (h0 : 0 ≤ t.toInt) (h1 : t.toInt ≤ 65535) : (t >>> ((8 : Int32) &&& 31)) &&& 255 = t >>> ((8 : Int32) &&& 31) := by
  obtain ⟨j, hj, rfl⟩ := nn_of h0
  rw [nI_toInt hj] at h1
  rw [pk_shrN hj _ 8 (by decide), pk_andN (by omega) 8 (by decide)]
  exact congrArg nI (Nat.mod_eq_of_lt (by omega))
def nk (c k : Int32) : Int32 := ((c + k) * 52845 + 22719) &&& 65535
theorem nk_in (c k : Int32) : 0 ≤ (nk c k).toInt ∧ (nk c k).toInt ≤ 65535 := and_65535 _
def cs (p t : Int32) : Int32 := (p ^^^ (t >>> ((8 : Int32) &&& 31))) &&& 255
theorem cs_low {x t : Int32} (h0 : 0 ≤ t.toInt) (h1 : t.toInt ≤ 65535) : cs (x &&& 255) t = (x &&& 255) ^^^ (t >>> ((8 : Int32) &&& 31)) := by
  unfold cs
  rw [xor_and, and2, shr8_low h0 h1]
def wr4 (f : Nat → Int32) (n : Nat) (w : Int32) : Nat → Int32 := upd (upd (upd (upd f n (st8 (w >>> ((24 : Int32) &&& 31)))) (n + 1) (st8 (w >>> ((16 : Int32) &&& 31)))) (n + 2) (st8 (w >>> ((8 : Int32) &&& 31)))) (n + 3) (st8 w)
def cpy (f : Nat → Int32) (n : Nat) (o : Nat → Int32) (a : Nat) : Nat → (Nat → Int32)
  | 0 => f
  | k + 1 => upd (cpy f n o a k) (n + k) (st8 (o (a + k) &&& 255))
def zer (f : Nat → Int32) : Nat → (Nat → Int32)
  | 0 => f
  | k + 1 => upd (zer f k) k (st8 0)
def enc (f : Nat → Int32) (k : Int32) : Nat → (Nat → Int32) × Int32
  | 0 => (f, k)
  | i + 1 => (upd (enc f k i).1 i (st8 (((enc f k i).1 i &&& 255) ^^^ ((enc f k i).2 >>> ((8 : Int32) &&& 31)))), nk (((enc f k i).1 i &&& 255) ^^^ ((enc f k i).2 >>> ((8 : Int32) &&& 31))) (enc f k i).2)
def dec (f : Nat → Int32) (k : Int32) : Nat → (Nat → Int32) × Int32
  | 0 => (f, k)
  | i + 1 => (upd (dec f k i).1 i (st8 (((dec f k i).1 i &&& 255) ^^^ ((dec f k i).2 >>> ((8 : Int32) &&& 31)))), nk ((dec f k i).1 i &&& 255) (dec f k i).2)
def mci (gt : Nat → Int32) (n : Nat) (go : Nat → Int32) (k : Int32) : Nat → (Nat → Int32) × Int32
  | 0 => (go, k)
  | i + 1 => (upd (mci gt n go k i).1 i (st8 (cs (if i < n then 0 else gt (i - n) &&& 255) (mci gt n go k i).2)), nk (cs (if i < n then 0 else gt (i - n) &&& 255) (mci gt n go k i).2) (mci gt n go k i).2)
def mpl (gt : Nat → Int32) (n : Nat) (go : Nat → Int32) (k : Int32) : Nat → (Nat → Int32) × Int32
  | 0 => (go, k)
  | i + 1 => (if i < n then (mpl gt n go k i).1 else upd (mpl gt n go k i).1 (i - n) (st8 (cs (gt i &&& 255) (mpl gt n go k i).2)), nk (gt i &&& 255) (mpl gt n go k i).2)
def mbk (gt : Nat → Int32) (T : Nat) (go : Nat → Int32) : Nat → (Nat → Int32)
  | 0 => gt
  | k + 1 => upd (mbk gt T go k) (T + k) (vp_nar .byte (go k))
def E8 (f g : Nat → Int32) (n : Nat) : Prop := ∀ j : Nat, j < n → f j &&& 255 = g j &&& 255
theorem upd_eq (f : Nat → Int32) (k j : Nat) (x : Int32) : upd f k x j = if j = k then x else f j := rfl
theorem zer_lt {f : Nat → Int32} : ∀ (k j : Nat), j < k → zer f k j = st8 0 := by
  intro k
  induction k with
  | zero => intro j h; omega
  | succ k ih =>
    intro j h
    show upd (zer f k) k (st8 0) j = st8 0
    rw [upd_eq]
    split
    · rfl
    · exact ih j (by omega)
theorem cpy_lt {f : Nat → Int32} {n : Nat} {o : Nat → Int32} {a : Nat} : ∀ (k j : Nat), j < n → cpy f n o a k j = f j := by
  intro k
  induction k with
  | zero => intro j _; rfl
  | succ k ih =>
    intro j h
    show upd (cpy f n o a k) (n + k) _ j = f j
    rw [upd_eq, if_neg (by omega)]
    exact ih j h
theorem cpy_in {f : Nat → Int32} {n : Nat} {o : Nat → Int32} {a : Nat} : ∀ (k j : Nat), j < k → cpy f n o a k (n + j) = st8 (o (a + j) &&& 255) := by
  intro k
  induction k with
  | zero => intro j h; omega
  | succ k ih =>
    intro j h
    show upd (cpy f n o a k) (n + k) _ (n + j) = _
    rw [upd_eq]
    split
    · rename_i e
      rw [show j = k by omega]
    · exact ih j (by omega)
theorem wr4_E8 {f g : Nat → Int32} {n : Nat} (w : Int32) (h : E8 f g n) : E8 (wr4 f n w) (wr4 g n w) (n + 4) := by
  intro j hj
  unfold wr4
  simp only [upd_eq]
  by_cases h3 : j = n + 3
  · simp [h3]
  · by_cases h2 : j = n + 2
    · simp [h2]
    · by_cases h1 : j = n + 1
      · simp [h1]
      · by_cases h0 : j = n
        · simp [h0]
        · rw [if_neg h3, if_neg h2, if_neg h1, if_neg h0, if_neg h3, if_neg h2, if_neg h1, if_neg h0]
          exact h j (by omega)
theorem ciph_ind {ft gt fo go : Nat → Int32} {n T : Nat} {k : Int32} (hk : 0 ≤ k.toInt ∧ k.toInt ≤ 65535) (h : E8 ft gt T) : ∀ i, i ≤ n + T →
    (enc (cpy (zer fo n) n ft 0 T) k i).2 = (mci gt n go k i).2 ∧ (0 ≤ (enc (cpy (zer fo n) n ft 0 T) k i).2.toInt ∧ (enc (cpy (zer fo n) n ft 0 T) k i).2.toInt ≤ 65535) ∧ (∀ j, j < i → (enc (cpy (zer fo n) n ft 0 T) k i).1 j = (mci gt n go k i).1 j) ∧ (∀ j, i ≤ j → (enc (cpy (zer fo n) n ft 0 T) k i).1 j = cpy (zer fo n) n ft 0 T j) := by
  intro i
  induction i with
  | zero => intro _; exact ⟨rfl, hk, fun j hj => by omega, fun j _ => rfl⟩
  | succ i ih =>
    intro hi
    obtain ⟨e1, e2, e3, e4⟩ := ih (by omega)
    have hp : (enc (cpy (zer fo n) n ft 0 T) k i).1 i &&& 255 = (if i < n then 0 else gt (i - n) &&& 255) := by
      rw [e4 i (Nat.le_refl i)]
      split
      · rename_i hn
        rw [cpy_lt T i hn, zer_lt n i hn]
        rfl
      · rename_i hn
        have e9 : i = n + (i - n) := by omega
        rw [e9, cpy_in T (i - n) (by omega), st8_low, Nat.zero_add, h (i - n) (by omega), show n + (i - n) - n = i - n by omega]
    have hc : ((enc (cpy (zer fo n) n ft 0 T) k i).1 i &&& 255) ^^^ ((enc (cpy (zer fo n) n ft 0 T) k i).2 >>> ((8 : Int32) &&& 31)) = cs (if i < n then 0 else gt (i - n) &&& 255) (mci gt n go k i).2 := by
      rw [← cs_low e2.1 e2.2, hp, e1]
    refine ⟨?_, nk_in _ _, ?_, ?_⟩
    · show nk _ _ = nk _ _
      rw [hc, e1]
    · intro j hj
      show upd _ i _ j = upd _ i _ j
      rw [hc, upd_eq, upd_eq]
      split
      · rfl
      · exact e3 j (by omega)
    · intro j hj
      show upd _ i _ j = _
      rw [upd_eq, if_neg (by omega)]
      exact e4 j (by omega)
theorem ciph_E8 {ft gt fo go : Nat → Int32} {n T : Nat} {k : Int32} (hk : 0 ≤ k.toInt ∧ k.toInt ≤ 65535) (h : E8 ft gt T) : E8 (enc (cpy (zer fo n) n ft 0 T) k (n + T)).1 (mci gt n go k (n + T)).1 (n + T) := fun j hj => by rw [(ciph_ind (go := go) hk h (n + T) (Nat.le_refl _)).2.2.1 j hj]
theorem plain_ind {ft gt go : Nat → Int32} {n T : Nat} {k : Int32} (hk : 0 ≤ k.toInt ∧ k.toInt ≤ 65535) (h : E8 ft gt T) : ∀ i, i ≤ T →
    (dec ft k i).2 = (mpl gt n go k i).2 ∧ (0 ≤ (dec ft k i).2.toInt ∧ (dec ft k i).2.toInt ≤ 65535) ∧ (∀ j, n + j < i → (dec ft k i).1 (n + j) = (mpl gt n go k i).1 j) ∧ (∀ j, i ≤ j → (dec ft k i).1 j = ft j) := by
  intro i
  induction i with
  | zero => intro _; exact ⟨rfl, hk, fun j hj => by omega, fun j _ => rfl⟩
  | succ i ih =>
    intro hi
    obtain ⟨e1, e2, e3, e4⟩ := ih (by omega)
    have hp : (dec ft k i).1 i &&& 255 = gt i &&& 255 := by rw [e4 i (Nat.le_refl i)]; exact h i (by omega)
    have hc : ((dec ft k i).1 i &&& 255) ^^^ ((dec ft k i).2 >>> ((8 : Int32) &&& 31)) = cs (gt i &&& 255) (mpl gt n go k i).2 := by
      rw [← cs_low e2.1 e2.2, hp, e1]
    refine ⟨?_, nk_in _ _, ?_, ?_⟩
    · show nk _ _ = nk _ _
      rw [hp, e1]
    · intro j hj
      show upd _ i _ (n + j) = (if i < n then (mpl gt n go k i).1 else upd (mpl gt n go k i).1 (i - n) _) j
      rw [hc, upd_eq]
      by_cases hn : i < n
      · rw [if_neg (by omega), if_pos hn]
        omega
      · rw [if_neg hn, upd_eq]
        by_cases hj2 : n + j = i
        · rw [if_pos hj2, if_pos (by omega)]
        · rw [if_neg hj2, if_neg (by omega)]
          exact e3 j (by omega)
    · intro j hj
      show upd _ i _ j = _
      rw [upd_eq, if_neg (by omega)]
      exact e4 j (by omega)
theorem plain_E8 {ft gt fo go : Nat → Int32} {n T : Nat} {k : Int32} (hk : 0 ≤ k.toInt ∧ k.toInt ≤ 65535) (h : E8 ft gt T) : E8 (cpy fo 0 (dec ft k T).1 n (T - n)) (mpl gt n go k T).1 (T - n) := fun j hj => by
  have e := cpy_in (f := fo) (n := 0) (o := (dec ft k T).1) (a := n) (T - n) j hj
  rw [Nat.zero_add] at e
  rw [e, st8_low, (plain_ind (n := n) (go := go) hk h T (Nat.le_refl _)).2.2.1 j (by omega)]
theorem back_E8 {ft gt fo go : Nat → Int32} {T : Nat} (h : E8 ft gt T) : ∀ O : Nat, E8 fo go O → E8 (cpy ft T fo 0 O) (mbk gt T go O) (T + O) := by
  intro O
  induction O with
  | zero => intro _; exact h
  | succ O ih =>
    intro ho j hj
    have e := ih (fun j hj => ho j (by omega))
    show upd (cpy ft T fo 0 O) (T + O) (st8 (fo (0 + O) &&& 255)) j &&& 255 = upd (mbk gt T go O) (T + O) (vp_nar .byte (go O)) j &&& 255
    rw [upd_eq, upd_eq]
    by_cases hj2 : j = T + O
    · rw [if_pos hj2, if_pos hj2, st8_low, Nat.zero_add, nar_and]
      exact ho O (by omega)
    · rw [if_neg hj2, if_neg hj2]
      exact e j (by omega)
/-! a step of each loop -/
theorem cpy_step {f fc f2 o : Nat → Int32} {n a k k2 cur i : Nat} {r : Int32} (h : fc = cpy f n o a k) (hk : k2 = k + 1) (hn : cur = n + k) (ha : i = a + k) (hr : r = o i &&& 255) (hf : f2 = upd fc cur (st8 r)) : f2 = cpy f n o a k2 := by
  subst h hk hn ha hr hf
  rfl
theorem zer_step {f fc f2 : Nat → Int32} {k k2 n : Nat} (h : fc = zer f k) (hk : k2 = k + 1) (hn : n = k) (hf : f2 = upd fc n (st8 0)) : f2 = zer f k2 := by
  subst hn h hk hf
  rfl
theorem cpy_0 {f o : Nat → Int32} {n a k : Nat} (h : k = 0) : f = cpy f n o a k := by subst h; rfl
theorem cpy_k {f fc o : Nat → Int32} {n a k k2 : Nat} (h : fc = cpy f n o a k) (e : k = k2) : fc = cpy f n o a k2 := e ▸ h
theorem cpy_a {f fc o : Nat → Int32} {n a k a2 k2 : Nat} (h : fc = cpy f n o a k) (e1 : a = a2) (e : k = k2) : fc = cpy f n o a2 k2 := by subst e1 e; exact h
theorem get_pf {f : Nat → Int32} {i zl z : Int32} {a : Int} (e1 : f (Int32.toNatClampNeg i) = zl) (e2 : zl &&& 255 = z) (h : Int32.toInt i = a) : z = (f (Int.toNat a) &&& 255) := by
  subst e1 e2 h
  rfl
theorem add_pf {f f1 : Nat → Int32} {n x z : Int32} (e1 : (Int32.toInt8 x).toInt32 = z) (e2 : upd f (Int32.toNatClampNeg n) (vp_nar .byte z) = f1) : f1 = upd f (Int.toNat (Int32.toInt n)) (st8 x) := by
  subst e1 e2
  rfl
theorem wr4_pf {f f1 f2 f3 f4 : Nat → Int32} {n n1 n2 n3 : Nat} {w z1 z2 z3 : Int32} (h1 : f1 = upd f n (st8 z1)) (h2 : f2 = upd f1 n1 (st8 z2)) (h3 : f3 = upd f2 n2 (st8 z3)) (h4 : f4 = upd f3 n3 (st8 w)) (e1 : w >>> ((24 : Int32) &&& 31) = z1) (e2 : w >>> ((16 : Int32) &&& 31) = z2) (e3 : w >>> ((8 : Int32) &&& 31) = z3) (k1 : n1 = n + 1) (k2 : n2 = n + 2) (k3 : n3 = n + 3) : f4 = wr4 f n w := by
  subst h1 h2 h3 h4 e1 e2 e3 k1 k2 k3
  rfl
theorem enc_step {f fc f2 : Nat → Int32} {k t zl za zs zc zb r : Int32} {i : Int32} {j j2 : Nat} (h : fc = (enc f k j).1 ∧ t = (enc f k j).2) (hj : Int.toNat (Int32.toInt i) = j) (e1 : fc (Int32.toNatClampNeg i) = zl) (e2 : zl &&& 255 = za) (e3 : t >>> ((8 : Int32) &&& 31) = zs) (e4 : za ^^^ zs = zc) (e5 : (Int32.toInt8 zc).toInt32 = zb) (e6 : upd fc (Int32.toNatClampNeg i) (vp_nar .byte zb) = f2) (hr : r = nk zc t) (hj2 : j2 = j + 1) : f2 = (enc f k j2).1 ∧ r = (enc f k j2).2 := by
  obtain ⟨h1, h2⟩ := h
  subst hr e6 e5 e4 e3 e2 e1 hj2 h1 h2 hj
  exact ⟨rfl, rfl⟩
theorem enc_end {f fc : Nat → Int32} {k t : Int32} {j n : Nat} (h : fc = (enc f k j).1 ∧ t = (enc f k j).2) (e : j = n) : fc = (enc f k n).1 := e ▸ h.1
theorem dec_0 {f : Nat → Int32} {k : Int32} {j : Nat} (h : j = 0) : f = (dec f k j).1 ∧ k = (dec f k j).2 := by subst h; exact ⟨rfl, rfl⟩
theorem dec_step {f fc f2 : Nat → Int32} {k t zl za zs zc zb r : Int32} {i : Int32} {j j2 : Nat} (h : fc = (dec f k j).1 ∧ t = (dec f k j).2) (hj : Int.toNat (Int32.toInt i) = j) (e1 : fc (Int32.toNatClampNeg i) = zl) (e2 : zl &&& 255 = za) (e3 : t >>> ((8 : Int32) &&& 31) = zs) (e4 : za ^^^ zs = zc) (e5 : (Int32.toInt8 zc).toInt32 = zb) (e6 : upd fc (Int32.toNatClampNeg i) (vp_nar .byte zb) = f2) (hr : r = nk za t) (hj2 : j2 = j + 1) : f2 = (dec f k j2).1 ∧ r = (dec f k j2).2 := by
  obtain ⟨h1, h2⟩ := h
  subst hr e6 e5 e4 e3 e2 e1 hj2 h1 h2 hj
  exact ⟨rfl, rfl⟩
theorem dec_end {f fc : Nat → Int32} {k t : Int32} {j n : Nat} (h : fc = (dec f k j).1 ∧ t = (dec f k j).2) (e : j = n) : fc = (dec f k n).1 := e ▸ h.1
theorem feed_pf {f f1 f2 f3 f4 f5 : Nat → Int32} {n n0 n1 n2 n3 n4 : Nat} {a b c d e : Int32} (h1 : f1 = wr4 f n0 a) (h2 : f2 = wr4 f1 n1 b) (h3 : f3 = wr4 f2 n2 c) (h4 : f4 = wr4 f3 n3 d) (h5 : f5 = wr4 f4 n4 e) (k0 : n0 = n + 0) (k1 : n1 = n + 4) (k2 : n2 = n + 8) (k3 : n3 = n + 12) (k4 : n4 = n + 16) : f5 = wr4 (wr4 (wr4 (wr4 (wr4 f (n + 0) a) (n + 4) b) (n + 8) c) (n + 12) d) (n + 16) e := by
  subst h1 h2 h3 h4 h5 k0 k1 k2 k3 k4
  rfl
theorem ciph_pf {fo fz fa fe ft : Nat → Int32} {n1 n2 a2 k2 l3 n T : Nat} {key : Int32} (h1 : fz = zer fo n1) (h2 : fa = cpy fz n2 ft a2 k2) (h3 : fe = (enc fa key l3).1) (e1 : n1 = n) (e2 : n2 = n) (e3 : a2 = 0) (e4 : k2 = T) (e5 : l3 = n + T) : fe = (enc (cpy (zer fo n) n ft 0 T) key (n + T)).1 := by
  subst e1 e3 e4 e5
  rw [h3, h2, h1, e2]
theorem plain_pf {fo fd fa ft : Nat → Int32} {l1 n2 a2 k2 n T : Nat} {key : Int32} (h1 : fd = (dec ft key l1).1) (h2 : fa = cpy fo n2 fd a2 k2) (e1 : l1 = T) (e2 : n2 = 0) (e3 : a2 = n) (e4 : k2 = T - n) : fa = cpy fo 0 (dec ft key T).1 n (T - n) := by
  subst e1 e2 e3 e4
  rw [h2, h1]
theorem oct_pf {f : Nat → Int32} {y v n : Int} {r : Int32} (h : (0 ≤ y ∧ y < n ∧ r = (f (Int.toNat y) &&& 255)) ∨ ((y < 0 ∨ n ≤ y) ∧ r = -1)) (e : y = v) : (0 ≤ v ∧ v < n ∧ r = (f (Int.toNat v) &&& 255)) ∨ ((v < 0 ∨ n ≤ v) ∧ r = -1) := e ▸ h
theorem get_pfn {f : Nat → Int32} {i zl z : Int32} {m : Nat} (e1 : f (Int32.toNatClampNeg i) = zl) (e2 : zl &&& 255 = z) (h : Int.toNat (Int32.toInt i) = m) : z = (f m &&& 255) := by
  subst e1 e2 h
  rfl
theorem four_pf {f f1 f2 f3 f4 : Nat → Int32} {t t1 t2 t3 v z1 z2 z3 z4 b1 b2 b3 b4 : Int32} (s1 : upd f (Int32.toNatClampNeg t) (vp_nar .byte b1) = f1) (i1 : (Int32.toInt8 z1).toInt32 = b1) (e1 : v >>> ((24 : Int32) &&& 31) = z1) (s2 : upd f1 (Int32.toNatClampNeg t1) (vp_nar .byte b2) = f2) (i2 : (Int32.toInt8 z2).toInt32 = b2) (e2 : v >>> ((16 : Int32) &&& 31) = z2) (s3 : upd f2 (Int32.toNatClampNeg t2) (vp_nar .byte b3) = f3) (i3 : (Int32.toInt8 z3).toInt32 = b3) (e3 : v >>> ((8 : Int32) &&& 31) = z3) (s4 : upd f3 (Int32.toNatClampNeg t3) (vp_nar .byte b4) = f4) (i4 : (Int32.toInt8 z4).toInt32 = b4) (e4 : v >>> ((0 : Int32) &&& 31) = z4)
    (k1 : Int.toNat (Int32.toInt t1) = Int.toNat (Int32.toInt t) + 1) (k2 : Int.toNat (Int32.toInt t2) = Int.toNat (Int32.toInt t) + 2) (k3 : Int.toNat (Int32.toInt t3) = Int.toNat (Int32.toInt t) + 3) : f4 = wr4 f (Int.toNat (Int32.toInt t)) v := by
  have e5 : z4 = v := by
    rw [← e4]
    apply Int32.toInt_inj.mp
    rw [pk_shr v _ 0 (by decide)]
    exact Int.shiftRight_zero _
  subst e5 i1 i2 i3 i4 e1 e2 e3 s1 s2 s3 s4
  have d : ∀ x : Int32, Int32.toNatClampNeg x = Int.toNat (Int32.toInt x) := fun _ => rfl
  rw [d, d, d, d, k1, k2, k3]
  rfl
theorem mci_step {gt go g f2 : Nat → Int32} {n j j2 : Nat} {k t p r t2 b os : Int32} (h : g = (mci gt n go k j).1 ∧ t = (mci gt n go k j).2) (hp : p = if j < n then 0 else gt (j - n) &&& 255) (hr : r = cs p t) (hk : t2 = nk r t) (e5 : (Int32.toInt8 r).toInt32 = b) (e6 : upd g (Int32.toNatClampNeg os) (vp_nar .byte b) = f2) (ho : Int.toNat (Int32.toInt os) = j) (hj2 : j2 = j + 1) : f2 = (mci gt n go k j2).1 ∧ t2 = (mci gt n go k j2).2 := by
  obtain ⟨h1, h2⟩ := h
  subst hj2 e6 e5 hk hr hp h1 h2 ho
  exact ⟨rfl, rfl⟩
theorem mpl_step {gt go g f2 : Nat → Int32} {n j j2 : Nat} {k t c r t2 b os : Int32} (h : g = (mpl gt n go k j).1 ∧ t = (mpl gt n go k j).2) (hn : ¬ j < n) (hc : c = (gt j &&& 255)) (hr : r = cs c t) (hk : t2 = nk c t) (e5 : (Int32.toInt8 r).toInt32 = b) (e6 : upd g (Int32.toNatClampNeg os) (vp_nar .byte b) = f2) (ho : Int.toNat (Int32.toInt os) = j - n) (hj2 : j2 = j + 1) : f2 = (mpl gt n go k j2).1 ∧ t2 = (mpl gt n go k j2).2 := by
  obtain ⟨h1, h2⟩ := h
  subst hj2 e6 e5 hk hr hc h1 h2
  refine ⟨?_, rfl⟩
  show _ = (if j < n then (mpl gt n go k j).1 else upd (mpl gt n go k j).1 (j - n) _)
  rw [if_neg hn, ← ho]
  rfl
theorem mpl_skip {gt go g : Nat → Int32} {n j j2 : Nat} {k t c t2 : Int32} (h : g = (mpl gt n go k j).1 ∧ t = (mpl gt n go k j).2) (hn : j < n) (hc : c = (gt j &&& 255)) (hk : t2 = nk c t) (hj2 : j2 = j + 1) : g = (mpl gt n go k j2).1 ∧ t2 = (mpl gt n go k j2).2 := by
  obtain ⟨h1, h2⟩ := h
  subst hj2 hk hc h1 h2
  refine ⟨?_, rfl⟩
  show _ = (if j < n then (mpl gt n go k j).1 else _)
  rw [if_pos hn]
theorem mci_end {gt go g : Nat → Int32} {n j m : Nat} {k t : Int32} (h : g = (mci gt n go k j).1 ∧ t = (mci gt n go k j).2) (e : j = m) : g = (mci gt n go k m).1 := e ▸ h.1
theorem mpl_end {gt go g : Nat → Int32} {n j m : Nat} {k t : Int32} (h : g = (mpl gt n go k j).1 ∧ t = (mpl gt n go k j).2) (e : j = m) : g = (mpl gt n go k m).1 := e ▸ h.1
theorem mbk_step {gt go g f2 : Nat → Int32} {T j j2 : Nat} {zi i zl : Int32} (h : g = mbk gt T go j) (e1 : go (Int32.toNatClampNeg i) = zl) (e2 : upd g (Int32.toNatClampNeg zi) (vp_nar .byte zl) = f2) (hi : Int.toNat (Int32.toInt i) = j) (hz : Int.toNat (Int32.toInt zi) = T + j) (hj : j2 = j + 1) : f2 = mbk gt T go j2 := by
  subst hj e1 e2 h
  show _ = upd (mbk gt T go j) (T + j) (vp_nar .byte (go j))
  rw [← hz, ← hi]
  rfl
theorem mbk_k {gt go g : Nat → Int32} {T j n : Nat} (h : g = mbk gt T go j) (e : j = n) : g = mbk gt T go n := e ▸ h
/-! the law's two relations behind each call -/
theorem e8_le {f g : Nat → Int32} {n m : Nat} (h : E8 f g n) (e : m ≤ n) : E8 f g m := fun j hj => h j (Nat.lt_of_lt_of_le hj e)
theorem e8_feed {f f1 g g1 : Nat → Int32} {T U V : Int} {a b c d e : Int32} (p : (1480 < T ∧ f1 = f) ∨ (T ≤ 1480 ∧ f1 = wr4 (wr4 (wr4 (wr4 (wr4 f (Int.toNat T + 0) a) (Int.toNat T + 4) b) (Int.toNat T + 8) c) (Int.toNat T + 12) d) (Int.toNat T + 16) e)) (q : (1480 < U ∧ g1 = g) ∨ (U ≤ 1480 ∧ g1 = wr4 (wr4 (wr4 (wr4 (wr4 g (Int.toNat U + 0) a) (Int.toNat U + 4) b) (Int.toNat U + 8) c) (Int.toNat U + 12) d) (Int.toNat U + 16) e)) (h : E8 f g (Int.toNat U)) (hU : T = U) (h0 : 0 ≤ U) (hV : (1480 < U ∧ V = U) ∨ (U ≤ 1480 ∧ V = U + 20)) : E8 f1 g1 (Int.toNat V) := by
  subst hU
  rcases p with ⟨p1, p2⟩ | ⟨p1, p2⟩
  · rcases q with ⟨q1, q2⟩ | ⟨q1, q2⟩
    · rw [p2, q2, show V = T by omega]
      exact h
    · omega
  · rcases q with ⟨q1, q2⟩ | ⟨q1, q2⟩
    · omega
    · rw [p2, q2, show Int.toNat V = Int.toNat T + 16 + 4 by omega]
      exact wr4_E8 e (wr4_E8 d (wr4_E8 c (wr4_E8 b (wr4_E8 a h))))
theorem e8_ciph {ft gt fo go f1 g1 : Nat → Int32} {P : Prop} {T U O V v1 : Int} {k : Int32} (p : (P ∧ f1 = fo) ∨ (¬ P ∧ f1 = (enc (cpy (zer fo (Int.toNat v1)) (Int.toNat v1) ft 0 (Int.toNat T)) k (Int.toNat v1 + Int.toNat T)).1)) (q : (P ∧ g1 = go) ∨ (¬ P ∧ g1 = (mci gt (Int.toNat v1) go k (Int.toNat v1 + Int.toNat U)).1)) (hP : ¬ P → 0 ≤ k.toInt ∧ k.toInt ≤ 65535) (h : E8 ft gt (Int.toNat U)) (ho : E8 fo go (Int.toNat O)) (hU : T = U) (hV1 : P → V = O) (hV2 : ¬ P → Int.toNat V = Int.toNat v1 + Int.toNat U) : E8 f1 g1 (Int.toNat V) := by
  subst hU
  rcases p with ⟨p1, p2⟩ | ⟨p1, p2⟩
  · rcases q with ⟨q1, q2⟩ | ⟨q1, q2⟩
    · rw [p2, q2, hV1 p1]
      exact ho
    · exact absurd p1 q1
  · rcases q with ⟨q1, q2⟩ | ⟨q1, q2⟩
    · exact absurd q1 p1
    · rw [p2, q2, hV2 p1]
      exact ciph_E8 (hP p1) h
theorem e8_plain {ft gt fo go f1 g1 f9 : Nat → Int32} {P : Prop} {T U O V v1 : Int} {k : Int32} (p : (P ∧ f9 = ft ∧ f1 = fo) ∨ (¬ P ∧ f1 = cpy fo 0 (dec ft k (Int.toNat T)).1 (Int.toNat v1) (Int.toNat T - Int.toNat v1))) (q : (P ∧ g1 = go) ∨ (¬ P ∧ g1 = (mpl gt (Int.toNat v1) go k (Int.toNat U)).1)) (hP : ¬ P → 0 ≤ k.toInt ∧ k.toInt ≤ 65535) (h : E8 ft gt (Int.toNat U)) (ho : E8 fo go (Int.toNat O)) (hU : T = U) (hV1 : P → V = O) (hV2 : ¬ P → Int.toNat V = Int.toNat U - Int.toNat v1) : E8 f1 g1 (Int.toNat V) := by
  subst hU
  rcases p with ⟨p1, p3, p2⟩ | ⟨p1, p2⟩
  · rcases q with ⟨q1, q2⟩ | ⟨q1, q2⟩
    · rw [p2, q2, hV1 p1]
      exact ho
    · exact absurd p1 q1
  · rcases q with ⟨q1, q2⟩ | ⟨q1, q2⟩
    · exact absurd q1 p1
    · rw [p2, q2, hV2 p1]
      exact plain_E8 (hP p1) h
theorem e8_plainT {ft gt f1 fo f9 : Nat → Int32} {P : Prop} {R : Prop} {U V : Int} (p : (P ∧ f9 = ft ∧ f1 = fo) ∨ (¬ P ∧ R)) (h : E8 ft gt (Int.toNat U)) (hV1 : P → V = U) (hV2 : ¬ P → V = 0) : E8 f9 gt (Int.toNat V) := by
  rcases p with ⟨p1, p3, _⟩ | ⟨p1, _⟩
  · rw [p3, hV1 p1]
    exact h
  · rw [hV2 p1]
    exact fun j hj => absurd hj (Nat.not_lt_zero j)
theorem e8_back {ft gt fo go f1 g1 : Nat → Int32} {T U O Q V : Int} (p : (1500 < T + O ∧ f1 = ft) ∨ (T + O ≤ 1500 ∧ f1 = cpy ft (Int.toNat T) fo 0 (Int.toNat O))) (q : (1500 < U + Q ∧ g1 = gt) ∨ (U + Q ≤ 1500 ∧ g1 = mbk gt (Int.toNat U) go (Int.toNat Q))) (h : E8 ft gt (Int.toNat U)) (ho : E8 fo go (Int.toNat Q)) (hU : T = U) (hQ : O = Q) (hV1 : 1500 < U + Q → V = U) (hV2 : U + Q ≤ 1500 → Int.toNat V = Int.toNat U + Int.toNat Q) : E8 f1 g1 (Int.toNat V) := by
  subst hU hQ
  rcases p with ⟨p1, p2⟩ | ⟨p1, p2⟩
  · rcases q with ⟨q1, q2⟩ | ⟨q1, q2⟩
    · rw [p2, q2, hV1 p1]
      exact h
    · omega
  · rcases q with ⟨q1, q2⟩ | ⟨q1, q2⟩
    · omega
    · rw [p2, q2, hV2 p1]
      exact back_E8 h _ ho
theorem oct_eq {f g : Nat → Int32} {v O Q : Int} {r1 r2 : Int32} (p : (0 ≤ v ∧ v < O ∧ r1 = (f (Int.toNat v) &&& 255)) ∨ ((v < 0 ∨ O ≤ v) ∧ r1 = -1)) (q : (0 ≤ v ∧ v < Q ∧ r2 = (g (Int.toNat v) &&& 255)) ∨ ((v < 0 ∨ Q ≤ v) ∧ r2 = -1)) (h : E8 f g (Int.toNat Q)) (e : O = Q) : r1 = r2 := by
  subst e
  rcases p with ⟨p1, p2, p3⟩ | ⟨p1, p2⟩
  · rcases q with ⟨q1, q2, q3⟩ | ⟨q1, q2⟩
    · rw [p3, q3]
      exact h _ (by omega)
    · omega
  · rcases q with ⟨q1, q2, q3⟩ | ⟨q1, q2⟩
    · omega
    · rw [p2, q2]
