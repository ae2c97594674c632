set_option maxHeartbeats 4000000 in
set_option maxRecDepth 100000 in
theorem c32_X8_beginOf (l : Launch) (g : GD) (h0 : Nat) (h1 : Nat) (h2 : Nat) (h3 : Nat) (x0 : Int32) (h4 : Nat) (x1 : Int32) (x2 : Int32) (x3 : Int32) (x4 : Int32) (fn0 : Nat → Int32) (fn1 : Nat → Int32) (i_x4 : (0 ≤ (Int32.toInt x4) ∧ (Int32.toInt x4) ≤ 1500)) (sz : Nat) : Met l yX8_beginOf wsX8_beginOf ({ frames := 2, cells := 0, slots := 0, locals := 45 }) (va_Pc [.ref h0, .int x0] (PW g [(h0, .inr (7, [.ref h1, .ref h2, .ref h4, .int x1, .int x2, .int x3])), (h1, .inr (4, [.ref h3, .int x4])), (h2, .inl (gI g, 40, .inl fn0)), (h3, .inl (gB g, 1500, .inl fn1))] sz)) (va_Qi (fun (r : Int32) (_ : Unit) => CND (BOK (GB fn1 (Int32.toInt x4)) (Int32.toInt x1) (Int32.toInt x3) (Int32.toInt x2) fn0 40 (Int32.toInt x0)) ((Int32.toInt r) = BEGE (GB fn1 (Int32.toInt x4)) (Int32.toInt x1) (Int32.toInt x3) (Int32.toInt x2) fn0 (Int32.toInt x0))) (BW g (va_A [(h0, .inr (7, [.ref h1, .ref h2, .ref h4, .int x1, .int x2, .int x3])), (h1, .inr (4, [.ref h3, .int x4])), (h2, .inl (gI g, 40, .inl fn0)), (h3, .inl (gB g, 1500, .inl fn1))] sz) (fun _ : Unit => [(h0, .inr (7, [.ref h1, .ref h2, .ref h4, .int x1, .int x2, .int x3])), (h1, .inr (4, [.ref h3, .int x4])), (h2, .inl (gI g, 40, .inl fn0)), (h3, .inl (gB g, 1500, .inl fn1))])) (va_A [(h0, .inr (7, [.ref h1, .ref h2, .ref h4, .int x1, .int x2, .int x3])), (h1, .inr (4, [.ref h3, .int x4])), (h2, .inl (gI g, 40, .inl fn0)), (h3, .inl (gB g, 1500, .inl fn1))] sz)) 0 0 (va_A [(h0, .inr (7, [.ref h1, .ref h2, .ref h4, .int x1, .int x2, .int x3])), (h1, .inr (4, [.ref h3, .int x4])), (h2, .inl (gI g, 40, .inl fn0)), (h3, .inl (gB g, 1500, .inl fn1))] sz) := by
  refine met_i RX8 (by decide) rfl rfl (Nat.le_of_ble_eq_true rfl) [(0, .ref h0), (1, .int x0)] rfl ?_
  intro p e s m args below meth c A Q C hnm Rt
  have gx0 := fb_rng x0
  have gx1 := fb_rng x1
  have gx2 := fb_rng x2
  have gx3 := fb_rng x3
  have hiX8 : ∀ w ∈ wsX80, w ∈ wsX8_beginOf := fun w h => List.mem_cons_of_mem _ (List.mem_append_left _ (List.mem_append_right _ (h)))
  refine r_aload_n 0 0 C dX8_beginOf_0 rfl ?_
  refine r_iload_n 1 1 C dX8_beginOf_1 rfl ?_
  obtain ⟨z1, ez1⟩ : ∃ z_9, Int32.toInt64 x0 = z_9 := ⟨_, rfl⟩
  have tz1 : (Int64.toInt z1) = (Int32.toInt x0) := by rw [← ez1]; exact Int32.toInt_toInt64 _
  refine r_i2l 2 z1 C dX8_beginOf_2 ez1 ?_
  refine r_callVi 3 C dX8_beginOf_3 [] [(h0, .inr (7, [.ref h1, .ref h2, .ref h4, .int x1, .int x2, .int x3])), (h2, .inl (gI g, 40, .inl fn0))] [(h1, .inr (4, [.ref h3, .int x4])), (h3, .inl (gB g, 1500, .inl fn1))] (fun sz => c29_X8_has l g h0 h2 z1 h1 h4 x1 x2 x3 fn0  sz) gX8_beginOf_X8_has rfl ⟨rfl, rfl⟩ 1 (by decide) ⟨Nat.le_of_ble_eq_true rfl, Nat.le_of_ble_eq_true rfl⟩ 0 rfl rfl [0, 2] [1, 3] rfl rfl (by decide) (by decide) (by decide) rfl rfl (Nat.le_of_ble_eq_true rfl) ⟨Nat.le_of_ble_eq_true rfl, Nat.le_of_ble_eq_true rfl⟩ (fun r2 _ w3 => ?_)
  refine r_ws [(h1, .inr (4, [.ref h3, .int x4])), (h3, .inl (gB g, 1500, .inl fn1)), (h0, .inr (7, [.ref h1, .ref h2, .ref h4, .int x1, .int x2, .int x3])), (h2, .inl (gI g, 40, .inl fn0))] rfl ?_
  have p4 : HSB (Int32.toInt r2) (HASP (Int32.toInt x1) (Int32.toInt x3) fn0 40 (Int64.toInt z1)) := w3.2
  have w5 : (((Int64.toInt z1) < 0 ∧ r2 = 0) ∨ (¬ ((Int64.toInt z1) < 0) ∧ 0 < (Int32.toInt x3) ∧ r2 = 1) ∨ (¬ ((Int64.toInt z1) < 0) ∧ ¬ (0 < (Int32.toInt x3)) ∧ 40 ≤ (Int64.toInt z1) ∧ r2 = 0) ∨ (¬ ((Int64.toInt z1) < 0) ∧ ¬ (0 < (Int32.toInt x3)) ∧ ¬ (40 ≤ (Int64.toInt z1)) ∧ r2 = 0) ∨ (¬ ((Int64.toInt z1) < 0) ∧ ¬ (0 < (Int32.toInt x3)) ∧ ¬ (40 ≤ (Int64.toInt z1)) ∧ r2 = 1) ∨ (¬ ((Int64.toInt z1) < 0) ∧ r2 = 0)) := w3.1
  rcases w5 with ⟨k6, k7⟩ | w5
  · skip
    have k7 := k7.symm
    subst k7
    refine r_if_ne_f 6 11 C dX8_beginOf_6 (by decide) (by decide) ?_
    refine r_iconst 9 0 C dX8_beginOf_9 (by decide) ?_
    exact r_iret 10 Rt dX8_beginOf_10 () (show CND (BOK (GB fn1 (Int32.toInt x4)) (Int32.toInt x1) (Int32.toInt x3) (Int32.toInt x2) fn0 40 (Int32.toInt x0)) (0 = BEGE (GB fn1 (Int32.toInt x4)) (Int32.toInt x1) (Int32.toInt x3) (Int32.toInt x2) fn0 (Int32.toInt x0)) from (by first | exact beg_n (hsb_k p4 (by omega)) (by first | rfl | omega) | exact beg_b (by assumption) (by omega))) [2, 0, 3, 1] (by decide) rfl (Nat.le_of_ble_eq_true rfl) (Nat.le_of_ble_eq_true rfl)
  rcases w5 with ⟨k8, k9, k10⟩ | w5
  · skip
    have k10 := k10.symm
    subst k10
    refine r_if_ne_t 6 11 C dX8_beginOf_6 (by decide) (by decide) ?_
    refine r_aload_n 11 0 C dX8_beginOf_11 rfl ?_
    refine r_get 12 C dX8_beginOf_12 (k := 5) 2 rfl rfl hiX8 (by decide) rfl (mg 1 rfl) (Or.inl rfl) rfl ?_
    refine r_if_le_f 15 26 C dX8_beginOf_15 (by decide) (fun h_9 => by have h_8 : (Int32.toInt x3) ≤ 0 := (fa_le x3 0).mp h_9; omega) ?_
    refine r_aload_n 18 0 C dX8_beginOf_18 rfl ?_
    refine r_iload_n 19 1 C dX8_beginOf_19 rfl ?_
    refine r_callVi 20 C dX8_beginOf_20 [] [(h0, .inr (7, [.ref h1, .ref h2, .ref h4, .int x1, .int x2, .int x3])), (h1, .inr (4, [.ref h3, .int x4])), (h3, .inl (gB g, 1500, .inl fn1))] [(h2, .inl (gI g, 40, .inl fn0))] (fun sz => c30_X8_objectAt l g h0 h1 h3 x0 h2 h4 x1 x2 x3 x4 fn1 i_x4 sz) gX8_beginOf_X8_objectAt rfl ⟨rfl, rfl⟩ 1 (by decide) ⟨Nat.le_of_ble_eq_true rfl, Nat.le_of_ble_eq_true rfl⟩ 2 rfl rfl [2, 0, 1] [3] rfl rfl (by decide) (by decide) (by decide) rfl rfl (Nat.le_of_ble_eq_true rfl) ⟨Nat.le_of_ble_eq_true rfl, Nat.le_of_ble_eq_true rfl⟩ (fun r11 _ w12 => ?_)
    refine r_ws [(h2, .inl (gI g, 40, .inl fn0)), (h0, .inr (7, [.ref h1, .ref h2, .ref h4, .int x1, .int x2, .int x3])), (h1, .inr (4, [.ref h3, .int x4])), (h3, .inl (gB g, 1500, .inl fn1))] rfl ?_
    have p13 : CND (ORG (Int32.toInt x2) (Int32.toInt x0) (Int32.toInt x3)) (r11 = Int32.ofInt (OBJ (GB fn1 (Int32.toInt x4)) (Int32.toInt x1) (Int32.toInt x3) (Int32.toInt x2) (Int32.toInt x0))) := w12
    have gr11 := fb_rng r11
    refine r_goto 23 32 C dX8_beginOf_23 (by decide) ?_
    exact r_iret 32 Rt dX8_beginOf_32 () (show CND (BOK (GB fn1 (Int32.toInt x4)) (Int32.toInt x1) (Int32.toInt x3) (Int32.toInt x2) fn0 40 (Int32.toInt x0)) ((Int32.toInt r11) = BEGE (GB fn1 (Int32.toInt x4)) (Int32.toInt x1) (Int32.toInt x3) (Int32.toInt x2) fn0 (Int32.toInt x0)) from (by exact beg_o p13 (by omega))) [1, 2, 0, 3] (by decide) rfl (Nat.le_of_ble_eq_true rfl) (Nat.le_of_ble_eq_true rfl)
  rcases w5 with ⟨k14, k15, k16, k17⟩ | w5
  · skip
    have k17 := k17.symm
    subst k17
    refine r_if_ne_f 6 11 C dX8_beginOf_6 (by decide) (by decide) ?_
    refine r_iconst 9 0 C dX8_beginOf_9 (by decide) ?_
    exact r_iret 10 Rt dX8_beginOf_10 () (show CND (BOK (GB fn1 (Int32.toInt x4)) (Int32.toInt x1) (Int32.toInt x3) (Int32.toInt x2) fn0 40 (Int32.toInt x0)) (0 = BEGE (GB fn1 (Int32.toInt x4)) (Int32.toInt x1) (Int32.toInt x3) (Int32.toInt x2) fn0 (Int32.toInt x0)) from (by first | exact beg_n (hsb_k p4 (by omega)) (by first | rfl | omega) | exact beg_b (by assumption) (by omega))) [2, 0, 3, 1] (by decide) rfl (Nat.le_of_ble_eq_true rfl) (Nat.le_of_ble_eq_true rfl)
  rcases w5 with ⟨k18, k19, k20, k21⟩ | w5
  · skip
    have k21 := k21.symm
    subst k21
    refine r_if_ne_f 6 11 C dX8_beginOf_6 (by decide) (by decide) ?_
    refine r_iconst 9 0 C dX8_beginOf_9 (by decide) ?_
    exact r_iret 10 Rt dX8_beginOf_10 () (show CND (BOK (GB fn1 (Int32.toInt x4)) (Int32.toInt x1) (Int32.toInt x3) (Int32.toInt x2) fn0 40 (Int32.toInt x0)) (0 = BEGE (GB fn1 (Int32.toInt x4)) (Int32.toInt x1) (Int32.toInt x3) (Int32.toInt x2) fn0 (Int32.toInt x0)) from (by first | exact beg_n (hsb_k p4 (by omega)) (by first | rfl | omega) | exact beg_b (by assumption) (by omega))) [2, 0, 3, 1] (by decide) rfl (Nat.le_of_ble_eq_true rfl) (Nat.le_of_ble_eq_true rfl)
  rcases w5 with ⟨k22, k23, k24, k25⟩ | w5
  · skip
    have k25 := k25.symm
    subst k25
    refine r_if_ne_t 6 11 C dX8_beginOf_6 (by decide) (by decide) ?_
    refine r_aload_n 11 0 C dX8_beginOf_11 rfl ?_
    refine r_get 12 C dX8_beginOf_12 (k := 5) 2 rfl rfl hiX8 (by decide) rfl (mg 1 rfl) (Or.inl rfl) rfl ?_
    refine r_if_le_t 15 26 C dX8_beginOf_15 (by decide) ((fa_le x3 0).mpr (by show (Int32.toInt x3) ≤ 0; omega)) ?_
    refine r_aload_n 26 0 C dX8_beginOf_26 rfl ?_
    refine r_get 27 C dX8_beginOf_27 (k := 1) 2 rfl rfl hiX8 (by decide) rfl (mg 2 rfl) (Or.inl rfl) rfl ?_
    refine r_iload_n 30 1 C dX8_beginOf_30 rfl ?_
    obtain ⟨z26, ez26⟩ : ∃ z_9, fn0 (Int32.toNatClampNeg x0) = z_9 := ⟨_, rfl⟩
    refine r_iald 31 z26 C dX8_beginOf_31 3 rfl (vinI (by omega) (by omega)) ez26 ?_
    have gz26 := fb_rng z26
    exact r_iret 32 Rt dX8_beginOf_32 () (show CND (BOK (GB fn1 (Int32.toInt x4)) (Int32.toInt x1) (Int32.toInt x3) (Int32.toInt x2) fn0 40 (Int32.toInt x0)) ((Int32.toInt z26) = BEGE (GB fn1 (Int32.toInt x4)) (Int32.toInt x1) (Int32.toInt x3) (Int32.toInt x2) fn0 (Int32.toInt x0)) from (by first | exact beg_n (hsb_k p4 (by omega)) (by first | rfl | omega) | exact beg_b (by assumption) (by omega))) [2, 0, 3, 1] (by decide) rfl (Nat.le_of_ble_eq_true rfl) (Nat.le_of_ble_eq_true rfl)
  obtain ⟨k27, k28⟩ := w5
  have k28 := k28.symm
  subst k28
  refine r_if_ne_f 6 11 C dX8_beginOf_6 (by decide) (by decide) ?_
  refine r_iconst 9 0 C dX8_beginOf_9 (by decide) ?_
  exact r_iret 10 Rt dX8_beginOf_10 () (show CND (BOK (GB fn1 (Int32.toInt x4)) (Int32.toInt x1) (Int32.toInt x3) (Int32.toInt x2) fn0 40 (Int32.toInt x0)) (0 = BEGE (GB fn1 (Int32.toInt x4)) (Int32.toInt x1) (Int32.toInt x3) (Int32.toInt x2) fn0 (Int32.toInt x0)) from (by first | exact beg_n (hsb_k p4 (by omega)) (by first | rfl | omega) | exact beg_b (by assumption) (by omega))) [2, 0, 3, 1] (by decide) rfl (Nat.le_of_ble_eq_true rfl) (Nat.le_of_ble_eq_true rfl)
set_option maxHeartbeats 4000000 in
set_option maxRecDepth 100000 in
theorem c33_X8_has (l : Launch) (g : GD) (h0 : Nat) (h1 : Nat) (y0 : Int64) (h2 : Nat) (h3 : Nat) (x0 : Int32) (x1 : Int32) (x2 : Int32) (fn0 : Nat → Int32) (sz : Nat) : Met l yX8_has wsX8_has ({ frames := 0, cells := 0, slots := 0, locals := 0 }) (va_Pc [.ref h0, .long y0] (PW g [(h0, .inr (7, [.ref h2, .ref h1, .ref h3, .int x0, .int x1, .int x2])), (h1, .inl (gI g, 200, .inl fn0))] sz)) (va_Qi (fun (r : Int32) (_ : Unit) => (((Int64.toInt y0) < 0 ∧ r = 0) ∨ (¬ ((Int64.toInt y0) < 0) ∧ 0 < (Int32.toInt x2) ∧ r = 1) ∨ (¬ ((Int64.toInt y0) < 0) ∧ ¬ (0 < (Int32.toInt x2)) ∧ 200 ≤ (Int64.toInt y0) ∧ r = 0) ∨ (¬ ((Int64.toInt y0) < 0) ∧ ¬ (0 < (Int32.toInt x2)) ∧ ¬ (200 ≤ (Int64.toInt y0)) ∧ r = 0) ∨ (¬ ((Int64.toInt y0) < 0) ∧ ¬ (0 < (Int32.toInt x2)) ∧ ¬ (200 ≤ (Int64.toInt y0)) ∧ r = 1) ∨ (¬ ((Int64.toInt y0) < 0) ∧ r = 0)) ∧ HSB (Int32.toInt r) (HASP (Int32.toInt x0) (Int32.toInt x2) fn0 200 (Int64.toInt y0))) (BW g (va_A [(h0, .inr (7, [.ref h2, .ref h1, .ref h3, .int x0, .int x1, .int x2])), (h1, .inl (gI g, 200, .inl fn0))] sz) (fun _ : Unit => [(h0, .inr (7, [.ref h2, .ref h1, .ref h3, .int x0, .int x1, .int x2])), (h1, .inl (gI g, 200, .inl fn0))])) (va_A [(h0, .inr (7, [.ref h2, .ref h1, .ref h3, .int x0, .int x1, .int x2])), (h1, .inl (gI g, 200, .inl fn0))] sz)) 0 0 (va_A [(h0, .inr (7, [.ref h2, .ref h1, .ref h3, .int x0, .int x1, .int x2])), (h1, .inl (gI g, 200, .inl fn0))] sz) := by
  refine met_z RX8 (by decide) rfl rfl (Nat.le_of_ble_eq_true rfl) [(0, .ref h0), (1, .long y0)] rfl ?_
  intro p e s m args below meth c A Q C hnm Rt
  have gy0 := fb_rngL y0
  have gx0 := fb_rng x0
  have gx2 := fb_rng x2
  have hiX8 : ∀ w ∈ wsX80, w ∈ wsX8_has := fun w h => List.mem_cons_of_mem _ (List.mem_append_right _ (h))
  refine r_lload_n 0 1 C dX8_has_0 rfl ?_
  refine r_lconst 1 0 C dX8_has_1 (by decide) ?_
  obtain ⟨z1, ez1⟩ : ∃ z_9, lg_cmp y0 0 = z_9 := ⟨_, rfl⟩
  have l1z1 : (Int32.toInt z1) < 0 ↔ (Int64.toInt y0) < 0 := by rw [← ez1]; exact lgI1 y0 0
  have l2z1 : 0 < (Int32.toInt z1) ↔ 0 < (Int64.toInt y0) := by rw [← ez1]; exact lgI2 y0 0
  refine r_lcmp 2 z1 C dX8_has_2 ez1 ?_
  refine r_if_lt 3 16 C dX8_has_3 (by decide) (fun c2 => ?_) (fun c2 => ?_)
  · skip
    have k3 : (Int32.toInt z1) < 0 := (fa_lt z1 0).mp c2
    refine r_iconst 16 0 C dX8_has_16 (by decide) ?_
    exact r_zret 17 Rt dX8_has_17 (by decide) () (show (((Int64.toInt y0) < 0 ∧ 0 = 0) ∨ (¬ ((Int64.toInt y0) < 0) ∧ 0 < (Int32.toInt x2) ∧ 0 = 1) ∨ (¬ ((Int64.toInt y0) < 0) ∧ ¬ (0 < (Int32.toInt x2)) ∧ 200 ≤ (Int64.toInt y0) ∧ 0 = 0) ∨ (¬ ((Int64.toInt y0) < 0) ∧ ¬ (0 < (Int32.toInt x2)) ∧ ¬ (200 ≤ (Int64.toInt y0)) ∧ 0 = 0) ∨ (¬ ((Int64.toInt y0) < 0) ∧ ¬ (0 < (Int32.toInt x2)) ∧ ¬ (200 ≤ (Int64.toInt y0)) ∧ 0 = 1) ∨ (¬ ((Int64.toInt y0) < 0) ∧ 0 = 0)) ∧ HSB 0 (HASP (Int32.toInt x0) (Int32.toInt x2) fn0 200 (Int64.toInt y0)) from by refine ⟨Or.inl ?_, (by first | exact Or.inl ⟨rfl, hasp_y1 (by omega) (by omega) (by omega)⟩ | exact Or.inr ⟨rfl, hasp_n1 (by omega)⟩ | exact Or.inl ⟨rfl, hasp_y2 (by omega) (by omega) (by omega) (by assumption) (by omega) (by omega)⟩ | exact Or.inr ⟨rfl, hasp_n2 (by omega) (by assumption) (by omega) (by omega)⟩)⟩ <;> ((repeat' apply And.intro) <;> first | trivial | rfl | assumption | omega | decide | exact Or.inl rfl | exact Or.inr (Or.inl rfl) | exact Or.inr (Or.inr rfl))) [0, 1] (by decide) rfl (Nat.le_of_ble_eq_true rfl) (Nat.le_of_ble_eq_true rfl)
  · skip
    have k4 : ¬ ((Int32.toInt z1) < 0) := fun h_9 => c2 ((fa_lt z1 0).mpr h_9)
    refine r_lload_n 6 1 C dX8_has_6 rfl ?_
    refine r_aload_n 7 0 C dX8_has_7 rfl ?_
    refine r_get 8 C dX8_has_8 (k := 3) 0 rfl rfl hiX8 (by decide) rfl (mg 1 rfl) (Or.inl rfl) rfl ?_
    obtain ⟨z5, ez5⟩ : ∃ z_9, Int32.toInt64 x0 = z_9 := ⟨_, rfl⟩
    have tz5 : (Int64.toInt z5) = (Int32.toInt x0) := by rw [← ez5]; exact Int32.toInt_toInt64 _
    refine r_i2l 11 z5 C dX8_has_11 ez5 ?_
    obtain ⟨z6, ez6⟩ : ∃ z_9, lg_cmp y0 z5 = z_9 := ⟨_, rfl⟩
    have l1z6 : (Int32.toInt z6) < 0 ↔ (Int64.toInt y0) < (Int64.toInt z5) := by rw [← ez6]; exact lgI1 y0 z5
    have l2z6 : 0 < (Int32.toInt z6) ↔ (Int64.toInt z5) < (Int64.toInt y0) := by rw [← ez6]; exact lgI2 y0 z5
    refine r_lcmp 12 z6 C dX8_has_12 ez6 ?_
    refine r_if_lt 13 18 C dX8_has_13 (by decide) (fun c7 => ?_) (fun c7 => ?_)
    · skip
      have k8 : (Int32.toInt z6) < 0 := (fa_lt z6 0).mp c7
      refine r_aload_n 18 0 C dX8_has_18 rfl ?_
      refine r_get 19 C dX8_has_19 (k := 5) 0 rfl rfl hiX8 (by decide) rfl (mg 2 rfl) (Or.inl rfl) rfl ?_
      refine r_if_gt 22 47 C dX8_has_22 (by decide) (fun c9 => ?_) (fun c9 => ?_)
      · skip
        have k10 : 0 < (Int32.toInt x2) := (fa_lt 0 x2).mp c9
        refine r_iconst 47 1 C dX8_has_47 (by decide) ?_
        refine r_goto 48 52 C dX8_has_48 (by decide) ?_
        exact r_zret 52 Rt dX8_has_52 (by decide) () (show (((Int64.toInt y0) < 0 ∧ 1 = 0) ∨ (¬ ((Int64.toInt y0) < 0) ∧ 0 < (Int32.toInt x2) ∧ 1 = 1) ∨ (¬ ((Int64.toInt y0) < 0) ∧ ¬ (0 < (Int32.toInt x2)) ∧ 200 ≤ (Int64.toInt y0) ∧ 1 = 0) ∨ (¬ ((Int64.toInt y0) < 0) ∧ ¬ (0 < (Int32.toInt x2)) ∧ ¬ (200 ≤ (Int64.toInt y0)) ∧ 1 = 0) ∨ (¬ ((Int64.toInt y0) < 0) ∧ ¬ (0 < (Int32.toInt x2)) ∧ ¬ (200 ≤ (Int64.toInt y0)) ∧ 1 = 1) ∨ (¬ ((Int64.toInt y0) < 0) ∧ 1 = 0)) ∧ HSB 1 (HASP (Int32.toInt x0) (Int32.toInt x2) fn0 200 (Int64.toInt y0)) from by refine ⟨Or.inr (Or.inl ?_), (by first | exact Or.inl ⟨rfl, hasp_y1 (by omega) (by omega) (by omega)⟩ | exact Or.inr ⟨rfl, hasp_n1 (by omega)⟩ | exact Or.inl ⟨rfl, hasp_y2 (by omega) (by omega) (by omega) (by assumption) (by omega) (by omega)⟩ | exact Or.inr ⟨rfl, hasp_n2 (by omega) (by assumption) (by omega) (by omega)⟩)⟩ <;> ((repeat' apply And.intro) <;> first | trivial | rfl | assumption | omega | decide | exact Or.inl rfl | exact Or.inr (Or.inl rfl) | exact Or.inr (Or.inr rfl))) [0, 1] (by decide) rfl (Nat.le_of_ble_eq_true rfl) (Nat.le_of_ble_eq_true rfl)
      · skip
        have k11 : ¬ (0 < (Int32.toInt x2)) := fun h_9 => c9 ((fa_lt 0 x2).mpr h_9)
        refine r_lload_n 25 1 C dX8_has_25 rfl ?_
        refine r_aload_n 26 0 C dX8_has_26 rfl ?_
        refine r_get 27 C dX8_has_27 (k := 1) 0 rfl rfl hiX8 (by decide) rfl (mg 3 rfl) (Or.inl rfl) rfl ?_
        refine r_ialen 30 200 C dX8_has_30 1 rfl (by decide) ?_
        refine r_i2l 31 200 C dX8_has_31 (by decide) ?_
        obtain ⟨z12, ez12⟩ : ∃ z_9, lg_cmp y0 200 = z_9 := ⟨_, rfl⟩
        have l1z12 : (Int32.toInt z12) < 0 ↔ (Int64.toInt y0) < 200 := by rw [← ez12]; exact lgI1 y0 200
        have l2z12 : 0 < (Int32.toInt z12) ↔ 200 < (Int64.toInt y0) := by rw [← ez12]; exact lgI2 y0 200
        refine r_lcmp 32 z12 C dX8_has_32 ez12 ?_
        refine r_if_ge 33 51 C dX8_has_33 (by decide) (fun c13 => ?_) (fun c13 => ?_)
        · skip
          have k14 : 0 ≤ (Int32.toInt z12) := (fa_le 0 z12).mp c13
          refine r_iconst 51 0 C dX8_has_51 (by decide) ?_
          exact r_zret 52 Rt dX8_has_52 (by decide) () (show (((Int64.toInt y0) < 0 ∧ 0 = 0) ∨ (¬ ((Int64.toInt y0) < 0) ∧ 0 < (Int32.toInt x2) ∧ 0 = 1) ∨ (¬ ((Int64.toInt y0) < 0) ∧ ¬ (0 < (Int32.toInt x2)) ∧ 200 ≤ (Int64.toInt y0) ∧ 0 = 0) ∨ (¬ ((Int64.toInt y0) < 0) ∧ ¬ (0 < (Int32.toInt x2)) ∧ ¬ (200 ≤ (Int64.toInt y0)) ∧ 0 = 0) ∨ (¬ ((Int64.toInt y0) < 0) ∧ ¬ (0 < (Int32.toInt x2)) ∧ ¬ (200 ≤ (Int64.toInt y0)) ∧ 0 = 1) ∨ (¬ ((Int64.toInt y0) < 0) ∧ 0 = 0)) ∧ HSB 0 (HASP (Int32.toInt x0) (Int32.toInt x2) fn0 200 (Int64.toInt y0)) from by refine ⟨Or.inr (Or.inr (Or.inl ?_)), (by first | exact Or.inl ⟨rfl, hasp_y1 (by omega) (by omega) (by omega)⟩ | exact Or.inr ⟨rfl, hasp_n1 (by omega)⟩ | exact Or.inl ⟨rfl, hasp_y2 (by omega) (by omega) (by omega) (by assumption) (by omega) (by omega)⟩ | exact Or.inr ⟨rfl, hasp_n2 (by omega) (by assumption) (by omega) (by omega)⟩)⟩ <;> ((repeat' apply And.intro) <;> first | trivial | rfl | assumption | omega | decide | exact Or.inl rfl | exact Or.inr (Or.inl rfl) | exact Or.inr (Or.inr rfl))) [0, 1] (by decide) rfl (Nat.le_of_ble_eq_true rfl) (Nat.le_of_ble_eq_true rfl)
        · skip
          have k15 : ¬ (0 ≤ (Int32.toInt z12)) := fun h_9 => c13 ((fa_le 0 z12).mpr h_9)
          refine r_aload_n 36 0 C dX8_has_36 rfl ?_
          refine r_get 37 C dX8_has_37 (k := 1) 0 rfl rfl hiX8 (by decide) rfl (mg 3 rfl) (Or.inl rfl) rfl ?_
          refine r_lload_n 40 1 C dX8_has_40 rfl ?_
          obtain ⟨z16, ez16⟩ : ∃ z_9, Int64.toInt32 y0 = z_9 := ⟨_, rfl⟩
          have tz16 : (Int32.toInt z16) = (Int64.toInt y0) := by rw [← ez16]; exact l2i_in (by omega) (by omega)
          refine r_l2i 41 z16 C dX8_has_41 ez16 ?_
          obtain ⟨z17, ez17⟩ : ∃ z_9, fn0 (Int32.toNatClampNeg z16) = z_9 := ⟨_, rfl⟩
          refine r_iald 42 z17 C dX8_has_42 1 rfl (vinI (by omega) (by omega)) ez17 ?_
          have gz17 := fb_rng z17
          refine r_iconst 43 (-1) C dX8_has_43 (by decide) ?_
          refine r_icmp_eq 44 51 C dX8_has_44 (by decide) (fun c18 => ?_) (fun c18 => ?_)
          · skip
            have k19 : (Int32.toInt z17) = (-1) := (fa_eq z17 (-1)).mp c18
            refine r_iconst 51 0 C dX8_has_51 (by decide) ?_
            exact r_zret 52 Rt dX8_has_52 (by decide) () (show (((Int64.toInt y0) < 0 ∧ 0 = 0) ∨ (¬ ((Int64.toInt y0) < 0) ∧ 0 < (Int32.toInt x2) ∧ 0 = 1) ∨ (¬ ((Int64.toInt y0) < 0) ∧ ¬ (0 < (Int32.toInt x2)) ∧ 200 ≤ (Int64.toInt y0) ∧ 0 = 0) ∨ (¬ ((Int64.toInt y0) < 0) ∧ ¬ (0 < (Int32.toInt x2)) ∧ ¬ (200 ≤ (Int64.toInt y0)) ∧ 0 = 0) ∨ (¬ ((Int64.toInt y0) < 0) ∧ ¬ (0 < (Int32.toInt x2)) ∧ ¬ (200 ≤ (Int64.toInt y0)) ∧ 0 = 1) ∨ (¬ ((Int64.toInt y0) < 0) ∧ 0 = 0)) ∧ HSB 0 (HASP (Int32.toInt x0) (Int32.toInt x2) fn0 200 (Int64.toInt y0)) from by refine ⟨Or.inr (Or.inr (Or.inr (Or.inl ?_))), (by first | exact Or.inl ⟨rfl, hasp_y1 (by omega) (by omega) (by omega)⟩ | exact Or.inr ⟨rfl, hasp_n1 (by omega)⟩ | exact Or.inl ⟨rfl, hasp_y2 (by omega) (by omega) (by omega) (by assumption) (by omega) (by omega)⟩ | exact Or.inr ⟨rfl, hasp_n2 (by omega) (by assumption) (by omega) (by omega)⟩)⟩ <;> ((repeat' apply And.intro) <;> first | trivial | rfl | assumption | omega | decide | exact Or.inl rfl | exact Or.inr (Or.inl rfl) | exact Or.inr (Or.inr rfl))) [0, 1] (by decide) rfl (Nat.le_of_ble_eq_true rfl) (Nat.le_of_ble_eq_true rfl)
          · skip
            have k20 : ¬ ((Int32.toInt z17) = (-1)) := fun h_9 => c18 ((fa_eq z17 (-1)).mpr h_9)
            refine r_iconst 47 1 C dX8_has_47 (by decide) ?_
            refine r_goto 48 52 C dX8_has_48 (by decide) ?_
            exact r_zret 52 Rt dX8_has_52 (by decide) () (show (((Int64.toInt y0) < 0 ∧ 1 = 0) ∨ (¬ ((Int64.toInt y0) < 0) ∧ 0 < (Int32.toInt x2) ∧ 1 = 1) ∨ (¬ ((Int64.toInt y0) < 0) ∧ ¬ (0 < (Int32.toInt x2)) ∧ 200 ≤ (Int64.toInt y0) ∧ 1 = 0) ∨ (¬ ((Int64.toInt y0) < 0) ∧ ¬ (0 < (Int32.toInt x2)) ∧ ¬ (200 ≤ (Int64.toInt y0)) ∧ 1 = 0) ∨ (¬ ((Int64.toInt y0) < 0) ∧ ¬ (0 < (Int32.toInt x2)) ∧ ¬ (200 ≤ (Int64.toInt y0)) ∧ 1 = 1) ∨ (¬ ((Int64.toInt y0) < 0) ∧ 1 = 0)) ∧ HSB 1 (HASP (Int32.toInt x0) (Int32.toInt x2) fn0 200 (Int64.toInt y0)) from by refine ⟨Or.inr (Or.inr (Or.inr (Or.inr (Or.inl ?_)))), (by first | exact Or.inl ⟨rfl, hasp_y1 (by omega) (by omega) (by omega)⟩ | exact Or.inr ⟨rfl, hasp_n1 (by omega)⟩ | exact Or.inl ⟨rfl, hasp_y2 (by omega) (by omega) (by omega) (by assumption) (by omega) (by omega)⟩ | exact Or.inr ⟨rfl, hasp_n2 (by omega) (by assumption) (by omega) (by omega)⟩)⟩ <;> ((repeat' apply And.intro) <;> first | trivial | rfl | assumption | omega | decide | exact Or.inl rfl | exact Or.inr (Or.inl rfl) | exact Or.inr (Or.inr rfl))) [0, 1] (by decide) rfl (Nat.le_of_ble_eq_true rfl) (Nat.le_of_ble_eq_true rfl)
    · skip
      have k21 : ¬ ((Int32.toInt z6) < 0) := fun h_9 => c7 ((fa_lt z6 0).mpr h_9)
      refine r_iconst 16 0 C dX8_has_16 (by decide) ?_
      exact r_zret 17 Rt dX8_has_17 (by decide) () (show (((Int64.toInt y0) < 0 ∧ 0 = 0) ∨ (¬ ((Int64.toInt y0) < 0) ∧ 0 < (Int32.toInt x2) ∧ 0 = 1) ∨ (¬ ((Int64.toInt y0) < 0) ∧ ¬ (0 < (Int32.toInt x2)) ∧ 200 ≤ (Int64.toInt y0) ∧ 0 = 0) ∨ (¬ ((Int64.toInt y0) < 0) ∧ ¬ (0 < (Int32.toInt x2)) ∧ ¬ (200 ≤ (Int64.toInt y0)) ∧ 0 = 0) ∨ (¬ ((Int64.toInt y0) < 0) ∧ ¬ (0 < (Int32.toInt x2)) ∧ ¬ (200 ≤ (Int64.toInt y0)) ∧ 0 = 1) ∨ (¬ ((Int64.toInt y0) < 0) ∧ 0 = 0)) ∧ HSB 0 (HASP (Int32.toInt x0) (Int32.toInt x2) fn0 200 (Int64.toInt y0)) from by refine ⟨Or.inr (Or.inr (Or.inr (Or.inr (Or.inr (?_))))), (by first | exact Or.inl ⟨rfl, hasp_y1 (by omega) (by omega) (by omega)⟩ | exact Or.inr ⟨rfl, hasp_n1 (by omega)⟩ | exact Or.inl ⟨rfl, hasp_y2 (by omega) (by omega) (by omega) (by assumption) (by omega) (by omega)⟩ | exact Or.inr ⟨rfl, hasp_n2 (by omega) (by assumption) (by omega) (by omega)⟩)⟩ <;> ((repeat' apply And.intro) <;> first | trivial | rfl | assumption | omega | decide | exact Or.inl rfl | exact Or.inr (Or.inl rfl) | exact Or.inr (Or.inr rfl))) [0, 1] (by decide) rfl (Nat.le_of_ble_eq_true rfl) (Nat.le_of_ble_eq_true rfl)
set_option maxHeartbeats 4000000 in
set_option maxRecDepth 100000 in
theorem c34_X8_finishOf (l : Launch) (g : GD) (h0 : Nat) (h1 : Nat) (h2 : Nat) (h3 : Nat) (h4 : Nat) (x0 : Int32) (x1 : Int32) (x2 : Int32) (x3 : Int32) (x4 : Int32) (fn0 : Nat → Int32) (fn1 : Nat → Int32) (fn2 : Nat → Int32) (i_x4 : (0 ≤ (Int32.toInt x4) ∧ (Int32.toInt x4) ≤ 1500)) (sz : Nat) : Met l yX8_finishOf wsX8_finishOf ({ frames := 2, cells := 0, slots := 0, locals := 45 }) (va_Pc [.ref h0, .int x0] (PW g [(h0, .inr (7, [.ref h1, .ref h2, .ref h3, .int x1, .int x2, .int x3])), (h1, .inr (4, [.ref h4, .int x4])), (h2, .inl (gI g, 200, .inl fn0)), (h3, .inl (gI g, 200, .inl fn1)), (h4, .inl (gB g, 1500, .inl fn2))] sz)) (va_Qi (fun (r : Int32) (_ : Unit) => CND (FOK (GB fn2 (Int32.toInt x4)) (Int32.toInt x1) (Int32.toInt x3) (Int32.toInt x2) fn0 fn1 200 (Int32.toInt x0)) ((Int32.toInt r) = FINE (GB fn2 (Int32.toInt x4)) (Int32.toInt x1) (Int32.toInt x3) (Int32.toInt x2) fn1 (Int32.toInt x0))) (BW g (va_A [(h0, .inr (7, [.ref h1, .ref h2, .ref h3, .int x1, .int x2, .int x3])), (h1, .inr (4, [.ref h4, .int x4])), (h2, .inl (gI g, 200, .inl fn0)), (h3, .inl (gI g, 200, .inl fn1)), (h4, .inl (gB g, 1500, .inl fn2))] sz) (fun _ : Unit => [(h0, .inr (7, [.ref h1, .ref h2, .ref h3, .int x1, .int x2, .int x3])), (h1, .inr (4, [.ref h4, .int x4])), (h2, .inl (gI g, 200, .inl fn0)), (h3, .inl (gI g, 200, .inl fn1)), (h4, .inl (gB g, 1500, .inl fn2))])) (va_A [(h0, .inr (7, [.ref h1, .ref h2, .ref h3, .int x1, .int x2, .int x3])), (h1, .inr (4, [.ref h4, .int x4])), (h2, .inl (gI g, 200, .inl fn0)), (h3, .inl (gI g, 200, .inl fn1)), (h4, .inl (gB g, 1500, .inl fn2))] sz)) 0 0 (va_A [(h0, .inr (7, [.ref h1, .ref h2, .ref h3, .int x1, .int x2, .int x3])), (h1, .inr (4, [.ref h4, .int x4])), (h2, .inl (gI g, 200, .inl fn0)), (h3, .inl (gI g, 200, .inl fn1)), (h4, .inl (gB g, 1500, .inl fn2))] sz) := by
  refine met_i RX8 (by decide) rfl rfl (Nat.le_of_ble_eq_true rfl) [(0, .ref h0), (1, .int x0)] rfl ?_
  intro p e s m args below meth c A Q C hnm Rt
  have gx0 := fb_rng x0
  have gx1 := fb_rng x1
  have gx2 := fb_rng x2
  have gx3 := fb_rng x3
  have hiX8 : ∀ w ∈ wsX80, w ∈ wsX8_finishOf := fun w h => List.mem_cons_of_mem _ (List.mem_append_left _ (List.mem_append_right _ (h)))
  refine r_aload_n 0 0 C dX8_finishOf_0 rfl ?_
  refine r_iload_n 1 1 C dX8_finishOf_1 rfl ?_
  obtain ⟨z1, ez1⟩ : ∃ z_9, Int32.toInt64 x0 = z_9 := ⟨_, rfl⟩
  have tz1 : (Int64.toInt z1) = (Int32.toInt x0) := by rw [← ez1]; exact Int32.toInt_toInt64 _
  refine r_i2l 2 z1 C dX8_finishOf_2 ez1 ?_
  refine r_callVi 3 C dX8_finishOf_3 [] [(h0, .inr (7, [.ref h1, .ref h2, .ref h3, .int x1, .int x2, .int x3])), (h2, .inl (gI g, 200, .inl fn0))] [(h1, .inr (4, [.ref h4, .int x4])), (h3, .inl (gI g, 200, .inl fn1)), (h4, .inl (gB g, 1500, .inl fn2))] (fun sz => c33_X8_has l g h0 h2 z1 h1 h3 x1 x2 x3 fn0  sz) gX8_finishOf_X8_has rfl ⟨rfl, rfl⟩ 1 (by decide) ⟨Nat.le_of_ble_eq_true rfl, Nat.le_of_ble_eq_true rfl⟩ 0 rfl rfl [0, 2] [1, 3, 4] rfl rfl (by decide) (by decide) (by decide) rfl rfl (Nat.le_of_ble_eq_true rfl) ⟨Nat.le_of_ble_eq_true rfl, Nat.le_of_ble_eq_true rfl⟩ (fun r2 _ w3 => ?_)
  refine r_ws [(h1, .inr (4, [.ref h4, .int x4])), (h3, .inl (gI g, 200, .inl fn1)), (h4, .inl (gB g, 1500, .inl fn2)), (h0, .inr (7, [.ref h1, .ref h2, .ref h3, .int x1, .int x2, .int x3])), (h2, .inl (gI g, 200, .inl fn0))] rfl ?_
  have p4 : HSB (Int32.toInt r2) (HASP (Int32.toInt x1) (Int32.toInt x3) fn0 200 (Int64.toInt z1)) := w3.2
  have w5 : (((Int64.toInt z1) < 0 ∧ r2 = 0) ∨ (¬ ((Int64.toInt z1) < 0) ∧ 0 < (Int32.toInt x3) ∧ r2 = 1) ∨ (¬ ((Int64.toInt z1) < 0) ∧ ¬ (0 < (Int32.toInt x3)) ∧ 200 ≤ (Int64.toInt z1) ∧ r2 = 0) ∨ (¬ ((Int64.toInt z1) < 0) ∧ ¬ (0 < (Int32.toInt x3)) ∧ ¬ (200 ≤ (Int64.toInt z1)) ∧ r2 = 0) ∨ (¬ ((Int64.toInt z1) < 0) ∧ ¬ (0 < (Int32.toInt x3)) ∧ ¬ (200 ≤ (Int64.toInt z1)) ∧ r2 = 1) ∨ (¬ ((Int64.toInt z1) < 0) ∧ r2 = 0)) := w3.1
  rcases w5 with ⟨k6, k7⟩ | w5
  · skip
    have k7 := k7.symm
    subst k7
    refine r_if_ne_f 6 11 C dX8_finishOf_6 (by decide) (by decide) ?_
    refine r_iconst 9 0 C dX8_finishOf_9 (by decide) ?_
    exact r_iret 10 Rt dX8_finishOf_10 () (show CND (FOK (GB fn2 (Int32.toInt x4)) (Int32.toInt x1) (Int32.toInt x3) (Int32.toInt x2) fn0 fn1 200 (Int32.toInt x0)) (0 = FINE (GB fn2 (Int32.toInt x4)) (Int32.toInt x1) (Int32.toInt x3) (Int32.toInt x2) fn1 (Int32.toInt x0)) from (by first | exact fin_n (hsb_k p4 (by omega)) (by first | rfl | omega) | exact fin_b (by assumption) (by omega))) [3, 0, 4, 1, 2] (by decide) rfl (Nat.le_of_ble_eq_true rfl) (Nat.le_of_ble_eq_true rfl)
  rcases w5 with ⟨k8, k9, k10⟩ | w5
  · skip
    have k10 := k10.symm
    subst k10
    refine r_if_ne_t 6 11 C dX8_finishOf_6 (by decide) (by decide) ?_
    refine r_aload_n 11 0 C dX8_finishOf_11 rfl ?_
    refine r_get 12 C dX8_finishOf_12 (k := 5) 3 rfl rfl hiX8 (by decide) rfl (mg 1 rfl) (Or.inl rfl) rfl ?_
    refine r_if_le_f 15 28 C dX8_finishOf_15 (by decide) (fun h_9 => by have h_8 : (Int32.toInt x3) ≤ 0 := (fa_le x3 0).mp h_9; omega) ?_
    refine r_aload_n 18 0 C dX8_finishOf_18 rfl ?_
    refine r_iload_n 19 1 C dX8_finishOf_19 rfl ?_
    refine r_iconst 20 1 C dX8_finishOf_20 (by decide) ?_
    obtain ⟨z11, ez11⟩ : ∃ z_9, x0 + 1 = z_9 := ⟨_, rfl⟩
    have gz11 := fb_rng z11
    refine r_iadd 21 z11 C dX8_finishOf_21 ez11 ?_
    refine r_callVi 22 C dX8_finishOf_22 [] [(h0, .inr (7, [.ref h1, .ref h2, .ref h3, .int x1, .int x2, .int x3])), (h1, .inr (4, [.ref h4, .int x4])), (h4, .inl (gB g, 1500, .inl fn2))] [(h3, .inl (gI g, 200, .inl fn1)), (h2, .inl (gI g, 200, .inl fn0))] (fun sz => c30_X8_objectAt l g h0 h1 h4 z11 h2 h3 x1 x2 x3 x4 fn2 i_x4 sz) gX8_finishOf_X8_objectAt rfl ⟨rfl, rfl⟩ 1 (by decide) ⟨Nat.le_of_ble_eq_true rfl, Nat.le_of_ble_eq_true rfl⟩ 3 rfl rfl [3, 0, 2] [1, 4] rfl rfl (by decide) (by decide) (by decide) rfl rfl (Nat.le_of_ble_eq_true rfl) ⟨Nat.le_of_ble_eq_true rfl, Nat.le_of_ble_eq_true rfl⟩ (fun r12 _ w13 => ?_)
    refine r_ws [(h3, .inl (gI g, 200, .inl fn1)), (h2, .inl (gI g, 200, .inl fn0)), (h0, .inr (7, [.ref h1, .ref h2, .ref h3, .int x1, .int x2, .int x3])), (h1, .inr (4, [.ref h4, .int x4])), (h4, .inl (gB g, 1500, .inl fn2))] rfl ?_
    have p14 : CND (ORG (Int32.toInt x2) (Int32.toInt z11) (Int32.toInt x3)) (r12 = Int32.ofInt (OBJ (GB fn2 (Int32.toInt x4)) (Int32.toInt x1) (Int32.toInt x3) (Int32.toInt x2) (Int32.toInt z11))) := w13
    have gr12 := fb_rng r12
    refine r_goto 25 34 C dX8_finishOf_25 (by decide) ?_
    exact r_iret 34 Rt dX8_finishOf_34 () (show CND (FOK (GB fn2 (Int32.toInt x4)) (Int32.toInt x1) (Int32.toInt x3) (Int32.toInt x2) fn0 fn1 200 (Int32.toInt x0)) ((Int32.toInt r12) = FINE (GB fn2 (Int32.toInt x4)) (Int32.toInt x1) (Int32.toInt x3) (Int32.toInt x2) fn1 (Int32.toInt x0)) from (by exact fin_o p14 (by assumption) (by omega))) [2, 3, 1, 0, 4] (by decide) rfl (Nat.le_of_ble_eq_true rfl) (Nat.le_of_ble_eq_true rfl)
  rcases w5 with ⟨k15, k16, k17, k18⟩ | w5
  · skip
    have k18 := k18.symm
    subst k18
    refine r_if_ne_f 6 11 C dX8_finishOf_6 (by decide) (by decide) ?_
    refine r_iconst 9 0 C dX8_finishOf_9 (by decide) ?_
    exact r_iret 10 Rt dX8_finishOf_10 () (show CND (FOK (GB fn2 (Int32.toInt x4)) (Int32.toInt x1) (Int32.toInt x3) (Int32.toInt x2) fn0 fn1 200 (Int32.toInt x0)) (0 = FINE (GB fn2 (Int32.toInt x4)) (Int32.toInt x1) (Int32.toInt x3) (Int32.toInt x2) fn1 (Int32.toInt x0)) from (by first | exact fin_n (hsb_k p4 (by omega)) (by first | rfl | omega) | exact fin_b (by assumption) (by omega))) [3, 0, 4, 1, 2] (by decide) rfl (Nat.le_of_ble_eq_true rfl) (Nat.le_of_ble_eq_true rfl)
  rcases w5 with ⟨k19, k20, k21, k22⟩ | w5
  · skip
    have k22 := k22.symm
    subst k22
    refine r_if_ne_f 6 11 C dX8_finishOf_6 (by decide) (by decide) ?_
    refine r_iconst 9 0 C dX8_finishOf_9 (by decide) ?_
    exact r_iret 10 Rt dX8_finishOf_10 () (show CND (FOK (GB fn2 (Int32.toInt x4)) (Int32.toInt x1) (Int32.toInt x3) (Int32.toInt x2) fn0 fn1 200 (Int32.toInt x0)) (0 = FINE (GB fn2 (Int32.toInt x4)) (Int32.toInt x1) (Int32.toInt x3) (Int32.toInt x2) fn1 (Int32.toInt x0)) from (by first | exact fin_n (hsb_k p4 (by omega)) (by first | rfl | omega) | exact fin_b (by assumption) (by omega))) [3, 0, 4, 1, 2] (by decide) rfl (Nat.le_of_ble_eq_true rfl) (Nat.le_of_ble_eq_true rfl)
  rcases w5 with ⟨k23, k24, k25, k26⟩ | w5
  · skip
    have k26 := k26.symm
    subst k26
    refine r_if_ne_t 6 11 C dX8_finishOf_6 (by decide) (by decide) ?_
    refine r_aload_n 11 0 C dX8_finishOf_11 rfl ?_
    refine r_get 12 C dX8_finishOf_12 (k := 5) 3 rfl rfl hiX8 (by decide) rfl (mg 1 rfl) (Or.inl rfl) rfl ?_
    refine r_if_le_t 15 28 C dX8_finishOf_15 (by decide) ((fa_le x3 0).mpr (by show (Int32.toInt x3) ≤ 0; omega)) ?_
    refine r_aload_n 28 0 C dX8_finishOf_28 rfl ?_
    refine r_get 29 C dX8_finishOf_29 (k := 2) 3 rfl rfl hiX8 (by decide) rfl (mg 2 rfl) (Or.inl rfl) rfl ?_
    refine r_iload_n 32 1 C dX8_finishOf_32 rfl ?_
    obtain ⟨z27, ez27⟩ : ∃ z_9, fn1 (Int32.toNatClampNeg x0) = z_9 := ⟨_, rfl⟩
    refine r_iald 33 z27 C dX8_finishOf_33 1 rfl (vinI (by omega) (by omega)) ez27 ?_
    have gz27 := fb_rng z27
    exact r_iret 34 Rt dX8_finishOf_34 () (show CND (FOK (GB fn2 (Int32.toInt x4)) (Int32.toInt x1) (Int32.toInt x3) (Int32.toInt x2) fn0 fn1 200 (Int32.toInt x0)) ((Int32.toInt z27) = FINE (GB fn2 (Int32.toInt x4)) (Int32.toInt x1) (Int32.toInt x3) (Int32.toInt x2) fn1 (Int32.toInt x0)) from (by first | exact fin_n (hsb_k p4 (by omega)) (by first | rfl | omega) | exact fin_b (by assumption) (by omega))) [3, 0, 4, 1, 2] (by decide) rfl (Nat.le_of_ble_eq_true rfl) (Nat.le_of_ble_eq_true rfl)
  obtain ⟨k28, k29⟩ := w5
  have k29 := k29.symm
  subst k29
  refine r_if_ne_f 6 11 C dX8_finishOf_6 (by decide) (by decide) ?_
  refine r_iconst 9 0 C dX8_finishOf_9 (by decide) ?_
  exact r_iret 10 Rt dX8_finishOf_10 () (show CND (FOK (GB fn2 (Int32.toInt x4)) (Int32.toInt x1) (Int32.toInt x3) (Int32.toInt x2) fn0 fn1 200 (Int32.toInt x0)) (0 = FINE (GB fn2 (Int32.toInt x4)) (Int32.toInt x1) (Int32.toInt x3) (Int32.toInt x2) fn1 (Int32.toInt x0)) from (by first | exact fin_n (hsb_k p4 (by omega)) (by first | rfl | omega) | exact fin_b (by assumption) (by omega))) [3, 0, 4, 1, 2] (by decide) rfl (Nat.le_of_ble_eq_true rfl) (Nat.le_of_ble_eq_true rfl)
set_option maxHeartbeats 4000000 in
set_option maxRecDepth 100000 in
theorem c35_X8_beginOf (l : Launch) (g : GD) (h0 : Nat) (h1 : Nat) (h2 : Nat) (h3 : Nat) (x0 : Int32) (h4 : Nat) (x1 : Int32) (x2 : Int32) (x3 : Int32) (x4 : Int32) (fn0 : Nat → Int32) (fn1 : Nat → Int32) (i_x4 : (0 ≤ (Int32.toInt x4) ∧ (Int32.toInt x4) ≤ 1500)) (sz : Nat) : Met l yX8_beginOf wsX8_beginOf ({ frames := 2, cells := 0, slots := 0, locals := 45 }) (va_Pc [.ref h0, .int x0] (PW g [(h0, .inr (7, [.ref h1, .ref h2, .ref h4, .int x1, .int x2, .int x3])), (h1, .inr (4, [.ref h3, .int x4])), (h2, .inl (gI g, 200, .inl fn0)), (h3, .inl (gB g, 1500, .inl fn1))] sz)) (va_Qi (fun (r : Int32) (_ : Unit) => CND (BOK (GB fn1 (Int32.toInt x4)) (Int32.toInt x1) (Int32.toInt x3) (Int32.toInt x2) fn0 200 (Int32.toInt x0)) ((Int32.toInt r) = BEGE (GB fn1 (Int32.toInt x4)) (Int32.toInt x1) (Int32.toInt x3) (Int32.toInt x2) fn0 (Int32.toInt x0))) (BW g (va_A [(h0, .inr (7, [.ref h1, .ref h2, .ref h4, .int x1, .int x2, .int x3])), (h1, .inr (4, [.ref h3, .int x4])), (h2, .inl (gI g, 200, .inl fn0)), (h3, .inl (gB g, 1500, .inl fn1))] sz) (fun _ : Unit => [(h0, .inr (7, [.ref h1, .ref h2, .ref h4, .int x1, .int x2, .int x3])), (h1, .inr (4, [.ref h3, .int x4])), (h2, .inl (gI g, 200, .inl fn0)), (h3, .inl (gB g, 1500, .inl fn1))])) (va_A [(h0, .inr (7, [.ref h1, .ref h2, .ref h4, .int x1, .int x2, .int x3])), (h1, .inr (4, [.ref h3, .int x4])), (h2, .inl (gI g, 200, .inl fn0)), (h3, .inl (gB g, 1500, .inl fn1))] sz)) 0 0 (va_A [(h0, .inr (7, [.ref h1, .ref h2, .ref h4, .int x1, .int x2, .int x3])), (h1, .inr (4, [.ref h3, .int x4])), (h2, .inl (gI g, 200, .inl fn0)), (h3, .inl (gB g, 1500, .inl fn1))] sz) := by
  refine met_i RX8 (by decide) rfl rfl (Nat.le_of_ble_eq_true rfl) [(0, .ref h0), (1, .int x0)] rfl ?_
  intro p e s m args below meth c A Q C hnm Rt
  have gx0 := fb_rng x0
  have gx1 := fb_rng x1
  have gx2 := fb_rng x2
  have gx3 := fb_rng x3
  have hiX8 : ∀ w ∈ wsX80, w ∈ wsX8_beginOf := fun w h => List.mem_cons_of_mem _ (List.mem_append_left _ (List.mem_append_right _ (h)))
  refine r_aload_n 0 0 C dX8_beginOf_0 rfl ?_
  refine r_iload_n 1 1 C dX8_beginOf_1 rfl ?_
  obtain ⟨z1, ez1⟩ : ∃ z_9, Int32.toInt64 x0 = z_9 := ⟨_, rfl⟩
  have tz1 : (Int64.toInt z1) = (Int32.toInt x0) := by rw [← ez1]; exact Int32.toInt_toInt64 _
  refine r_i2l 2 z1 C dX8_beginOf_2 ez1 ?_
  refine r_callVi 3 C dX8_beginOf_3 [] [(h0, .inr (7, [.ref h1, .ref h2, .ref h4, .int x1, .int x2, .int x3])), (h2, .inl (gI g, 200, .inl fn0))] [(h1, .inr (4, [.ref h3, .int x4])), (h3, .inl (gB g, 1500, .inl fn1))] (fun sz => c33_X8_has l g h0 h2 z1 h1 h4 x1 x2 x3 fn0  sz) gX8_beginOf_X8_has rfl ⟨rfl, rfl⟩ 1 (by decide) ⟨Nat.le_of_ble_eq_true rfl, Nat.le_of_ble_eq_true rfl⟩ 0 rfl rfl [0, 2] [1, 3] rfl rfl (by decide) (by decide) (by decide) rfl rfl (Nat.le_of_ble_eq_true rfl) ⟨Nat.le_of_ble_eq_true rfl, Nat.le_of_ble_eq_true rfl⟩ (fun r2 _ w3 => ?_)
  refine r_ws [(h1, .inr (4, [.ref h3, .int x4])), (h3, .inl (gB g, 1500, .inl fn1)), (h0, .inr (7, [.ref h1, .ref h2, .ref h4, .int x1, .int x2, .int x3])), (h2, .inl (gI g, 200, .inl fn0))] rfl ?_
  have p4 : HSB (Int32.toInt r2) (HASP (Int32.toInt x1) (Int32.toInt x3) fn0 200 (Int64.toInt z1)) := w3.2
  have w5 : (((Int64.toInt z1) < 0 ∧ r2 = 0) ∨ (¬ ((Int64.toInt z1) < 0) ∧ 0 < (Int32.toInt x3) ∧ r2 = 1) ∨ (¬ ((Int64.toInt z1) < 0) ∧ ¬ (0 < (Int32.toInt x3)) ∧ 200 ≤ (Int64.toInt z1) ∧ r2 = 0) ∨ (¬ ((Int64.toInt z1) < 0) ∧ ¬ (0 < (Int32.toInt x3)) ∧ ¬ (200 ≤ (Int64.toInt z1)) ∧ r2 = 0) ∨ (¬ ((Int64.toInt z1) < 0) ∧ ¬ (0 < (Int32.toInt x3)) ∧ ¬ (200 ≤ (Int64.toInt z1)) ∧ r2 = 1) ∨ (¬ ((Int64.toInt z1) < 0) ∧ r2 = 0)) := w3.1
  rcases w5 with ⟨k6, k7⟩ | w5
  · skip
    have k7 := k7.symm
    subst k7
    refine r_if_ne_f 6 11 C dX8_beginOf_6 (by decide) (by decide) ?_
    refine r_iconst 9 0 C dX8_beginOf_9 (by decide) ?_
    exact r_iret 10 Rt dX8_beginOf_10 () (show CND (BOK (GB fn1 (Int32.toInt x4)) (Int32.toInt x1) (Int32.toInt x3) (Int32.toInt x2) fn0 200 (Int32.toInt x0)) (0 = BEGE (GB fn1 (Int32.toInt x4)) (Int32.toInt x1) (Int32.toInt x3) (Int32.toInt x2) fn0 (Int32.toInt x0)) from (by first | exact beg_n (hsb_k p4 (by omega)) (by first | rfl | omega) | exact beg_b (by assumption) (by omega))) [2, 0, 3, 1] (by decide) rfl (Nat.le_of_ble_eq_true rfl) (Nat.le_of_ble_eq_true rfl)
  rcases w5 with ⟨k8, k9, k10⟩ | w5
  · skip
    have k10 := k10.symm
    subst k10
    refine r_if_ne_t 6 11 C dX8_beginOf_6 (by decide) (by decide) ?_
    refine r_aload_n 11 0 C dX8_beginOf_11 rfl ?_
    refine r_get 12 C dX8_beginOf_12 (k := 5) 2 rfl rfl hiX8 (by decide) rfl (mg 1 rfl) (Or.inl rfl) rfl ?_
    refine r_if_le_f 15 26 C dX8_beginOf_15 (by decide) (fun h_9 => by have h_8 : (Int32.toInt x3) ≤ 0 := (fa_le x3 0).mp h_9; omega) ?_
    refine r_aload_n 18 0 C dX8_beginOf_18 rfl ?_
    refine r_iload_n 19 1 C dX8_beginOf_19 rfl ?_
    refine r_callVi 20 C dX8_beginOf_20 [] [(h0, .inr (7, [.ref h1, .ref h2, .ref h4, .int x1, .int x2, .int x3])), (h1, .inr (4, [.ref h3, .int x4])), (h3, .inl (gB g, 1500, .inl fn1))] [(h2, .inl (gI g, 200, .inl fn0))] (fun sz => c30_X8_objectAt l g h0 h1 h3 x0 h2 h4 x1 x2 x3 x4 fn1 i_x4 sz) gX8_beginOf_X8_objectAt rfl ⟨rfl, rfl⟩ 1 (by decide) ⟨Nat.le_of_ble_eq_true rfl, Nat.le_of_ble_eq_true rfl⟩ 2 rfl rfl [2, 0, 1] [3] rfl rfl (by decide) (by decide) (by decide) rfl rfl (Nat.le_of_ble_eq_true rfl) ⟨Nat.le_of_ble_eq_true rfl, Nat.le_of_ble_eq_true rfl⟩ (fun r11 _ w12 => ?_)
    refine r_ws [(h2, .inl (gI g, 200, .inl fn0)), (h0, .inr (7, [.ref h1, .ref h2, .ref h4, .int x1, .int x2, .int x3])), (h1, .inr (4, [.ref h3, .int x4])), (h3, .inl (gB g, 1500, .inl fn1))] rfl ?_
    have p13 : CND (ORG (Int32.toInt x2) (Int32.toInt x0) (Int32.toInt x3)) (r11 = Int32.ofInt (OBJ (GB fn1 (Int32.toInt x4)) (Int32.toInt x1) (Int32.toInt x3) (Int32.toInt x2) (Int32.toInt x0))) := w12
    have gr11 := fb_rng r11
    refine r_goto 23 32 C dX8_beginOf_23 (by decide) ?_
    exact r_iret 32 Rt dX8_beginOf_32 () (show CND (BOK (GB fn1 (Int32.toInt x4)) (Int32.toInt x1) (Int32.toInt x3) (Int32.toInt x2) fn0 200 (Int32.toInt x0)) ((Int32.toInt r11) = BEGE (GB fn1 (Int32.toInt x4)) (Int32.toInt x1) (Int32.toInt x3) (Int32.toInt x2) fn0 (Int32.toInt x0)) from (by exact beg_o p13 (by omega))) [1, 2, 0, 3] (by decide) rfl (Nat.le_of_ble_eq_true rfl) (Nat.le_of_ble_eq_true rfl)
  rcases w5 with ⟨k14, k15, k16, k17⟩ | w5
  · skip
    have k17 := k17.symm
    subst k17
    refine r_if_ne_f 6 11 C dX8_beginOf_6 (by decide) (by decide) ?_
    refine r_iconst 9 0 C dX8_beginOf_9 (by decide) ?_
    exact r_iret 10 Rt dX8_beginOf_10 () (show CND (BOK (GB fn1 (Int32.toInt x4)) (Int32.toInt x1) (Int32.toInt x3) (Int32.toInt x2) fn0 200 (Int32.toInt x0)) (0 = BEGE (GB fn1 (Int32.toInt x4)) (Int32.toInt x1) (Int32.toInt x3) (Int32.toInt x2) fn0 (Int32.toInt x0)) from (by first | exact beg_n (hsb_k p4 (by omega)) (by first | rfl | omega) | exact beg_b (by assumption) (by omega))) [2, 0, 3, 1] (by decide) rfl (Nat.le_of_ble_eq_true rfl) (Nat.le_of_ble_eq_true rfl)
  rcases w5 with ⟨k18, k19, k20, k21⟩ | w5
  · skip
    have k21 := k21.symm
    subst k21
    refine r_if_ne_f 6 11 C dX8_beginOf_6 (by decide) (by decide) ?_
    refine r_iconst 9 0 C dX8_beginOf_9 (by decide) ?_
    exact r_iret 10 Rt dX8_beginOf_10 () (show CND (BOK (GB fn1 (Int32.toInt x4)) (Int32.toInt x1) (Int32.toInt x3) (Int32.toInt x2) fn0 200 (Int32.toInt x0)) (0 = BEGE (GB fn1 (Int32.toInt x4)) (Int32.toInt x1) (Int32.toInt x3) (Int32.toInt x2) fn0 (Int32.toInt x0)) from (by first | exact beg_n (hsb_k p4 (by omega)) (by first | rfl | omega) | exact beg_b (by assumption) (by omega))) [2, 0, 3, 1] (by decide) rfl (Nat.le_of_ble_eq_true rfl) (Nat.le_of_ble_eq_true rfl)
  rcases w5 with ⟨k22, k23, k24, k25⟩ | w5
  · skip
    have k25 := k25.symm
    subst k25
    refine r_if_ne_t 6 11 C dX8_beginOf_6 (by decide) (by decide) ?_
    refine r_aload_n 11 0 C dX8_beginOf_11 rfl ?_
    refine r_get 12 C dX8_beginOf_12 (k := 5) 2 rfl rfl hiX8 (by decide) rfl (mg 1 rfl) (Or.inl rfl) rfl ?_
    refine r_if_le_t 15 26 C dX8_beginOf_15 (by decide) ((fa_le x3 0).mpr (by show (Int32.toInt x3) ≤ 0; omega)) ?_
    refine r_aload_n 26 0 C dX8_beginOf_26 rfl ?_
    refine r_get 27 C dX8_beginOf_27 (k := 1) 2 rfl rfl hiX8 (by decide) rfl (mg 2 rfl) (Or.inl rfl) rfl ?_
    refine r_iload_n 30 1 C dX8_beginOf_30 rfl ?_
    obtain ⟨z26, ez26⟩ : ∃ z_9, fn0 (Int32.toNatClampNeg x0) = z_9 := ⟨_, rfl⟩
    refine r_iald 31 z26 C dX8_beginOf_31 3 rfl (vinI (by omega) (by omega)) ez26 ?_
    have gz26 := fb_rng z26
    exact r_iret 32 Rt dX8_beginOf_32 () (show CND (BOK (GB fn1 (Int32.toInt x4)) (Int32.toInt x1) (Int32.toInt x3) (Int32.toInt x2) fn0 200 (Int32.toInt x0)) ((Int32.toInt z26) = BEGE (GB fn1 (Int32.toInt x4)) (Int32.toInt x1) (Int32.toInt x3) (Int32.toInt x2) fn0 (Int32.toInt x0)) from (by first | exact beg_n (hsb_k p4 (by omega)) (by first | rfl | omega) | exact beg_b (by assumption) (by omega))) [2, 0, 3, 1] (by decide) rfl (Nat.le_of_ble_eq_true rfl) (Nat.le_of_ble_eq_true rfl)
  obtain ⟨k27, k28⟩ := w5
  have k28 := k28.symm
  subst k28
  refine r_if_ne_f 6 11 C dX8_beginOf_6 (by decide) (by decide) ?_
  refine r_iconst 9 0 C dX8_beginOf_9 (by decide) ?_
  exact r_iret 10 Rt dX8_beginOf_10 () (show CND (BOK (GB fn1 (Int32.toInt x4)) (Int32.toInt x1) (Int32.toInt x3) (Int32.toInt x2) fn0 200 (Int32.toInt x0)) (0 = BEGE (GB fn1 (Int32.toInt x4)) (Int32.toInt x1) (Int32.toInt x3) (Int32.toInt x2) fn0 (Int32.toInt x0)) from (by first | exact beg_n (hsb_k p4 (by omega)) (by first | rfl | omega) | exact beg_b (by assumption) (by omega))) [2, 0, 3, 1] (by decide) rfl (Nat.le_of_ble_eq_true rfl) (Nat.le_of_ble_eq_true rfl)
set_option maxHeartbeats 4000000 in
set_option maxRecDepth 100000 in
theorem c36_X8_has (l : Launch) (g : GD) (h0 : Nat) (h1 : Nat) (y0 : Int64) (h2 : Nat) (h3 : Nat) (x0 : Int32) (x1 : Int32) (x2 : Int32) (fn0 : Nat → Int32) (sz : Nat) : Met l yX8_has wsX8_has ({ frames := 0, cells := 0, slots := 0, locals := 0 }) (va_Pc [.ref h0, .long y0] (PW g [(h0, .inr (7, [.ref h2, .ref h1, .ref h3, .int x0, .int x1, .int x2])), (h1, .inl (gI g, 0, .inl fn0))] sz)) (va_Qi (fun (r : Int32) (_ : Unit) => (((Int64.toInt y0) < 0 ∧ r = 0) ∨ (¬ ((Int64.toInt y0) < 0) ∧ 0 < (Int32.toInt x2) ∧ r = 1) ∨ (¬ ((Int64.toInt y0) < 0) ∧ ¬ (0 < (Int32.toInt x2)) ∧ r = 0) ∨ (¬ ((Int64.toInt y0) < 0) ∧ r = 0)) ∧ HSB (Int32.toInt r) (HASP (Int32.toInt x0) (Int32.toInt x2) fn0 0 (Int64.toInt y0))) (BW g (va_A [(h0, .inr (7, [.ref h2, .ref h1, .ref h3, .int x0, .int x1, .int x2])), (h1, .inl (gI g, 0, .inl fn0))] sz) (fun _ : Unit => [(h0, .inr (7, [.ref h2, .ref h1, .ref h3, .int x0, .int x1, .int x2])), (h1, .inl (gI g, 0, .inl fn0))])) (va_A [(h0, .inr (7, [.ref h2, .ref h1, .ref h3, .int x0, .int x1, .int x2])), (h1, .inl (gI g, 0, .inl fn0))] sz)) 0 0 (va_A [(h0, .inr (7, [.ref h2, .ref h1, .ref h3, .int x0, .int x1, .int x2])), (h1, .inl (gI g, 0, .inl fn0))] sz) := by
  refine met_z RX8 (by decide) rfl rfl (Nat.le_of_ble_eq_true rfl) [(0, .ref h0), (1, .long y0)] rfl ?_
  intro p e s m args below meth c A Q C hnm Rt
  have gy0 := fb_rngL y0
  have gx0 := fb_rng x0
  have gx2 := fb_rng x2
  have hiX8 : ∀ w ∈ wsX80, w ∈ wsX8_has := fun w h => List.mem_cons_of_mem _ (List.mem_append_right _ (h))
  refine r_lload_n 0 1 C dX8_has_0 rfl ?_
  refine r_lconst 1 0 C dX8_has_1 (by decide) ?_
  obtain ⟨z1, ez1⟩ : ∃ z_9, lg_cmp y0 0 = z_9 := ⟨_, rfl⟩
  have l1z1 : (Int32.toInt z1) < 0 ↔ (Int64.toInt y0) < 0 := by rw [← ez1]; exact lgI1 y0 0
  have l2z1 : 0 < (Int32.toInt z1) ↔ 0 < (Int64.toInt y0) := by rw [← ez1]; exact lgI2 y0 0
  refine r_lcmp 2 z1 C dX8_has_2 ez1 ?_
  refine r_if_lt 3 16 C dX8_has_3 (by decide) (fun c2 => ?_) (fun c2 => ?_)
  · skip
    have k3 : (Int32.toInt z1) < 0 := (fa_lt z1 0).mp c2
    refine r_iconst 16 0 C dX8_has_16 (by decide) ?_
    exact r_zret 17 Rt dX8_has_17 (by decide) () (show (((Int64.toInt y0) < 0 ∧ 0 = 0) ∨ (¬ ((Int64.toInt y0) < 0) ∧ 0 < (Int32.toInt x2) ∧ 0 = 1) ∨ (¬ ((Int64.toInt y0) < 0) ∧ ¬ (0 < (Int32.toInt x2)) ∧ 0 = 0) ∨ (¬ ((Int64.toInt y0) < 0) ∧ 0 = 0)) ∧ HSB 0 (HASP (Int32.toInt x0) (Int32.toInt x2) fn0 0 (Int64.toInt y0)) from by refine ⟨Or.inl ?_, (by first | exact Or.inl ⟨rfl, hasp_y1 (by omega) (by omega) (by omega)⟩ | exact Or.inr ⟨rfl, hasp_n1 (by omega)⟩ | exact Or.inl ⟨rfl, hasp_y2 (by omega) (by omega) (by omega) (by assumption) (by omega) (by omega)⟩ | exact Or.inr ⟨rfl, hasp_n2 (by omega) (by assumption) (by omega) (by omega)⟩)⟩ <;> ((repeat' apply And.intro) <;> first | trivial | rfl | assumption | omega | decide | exact Or.inl rfl | exact Or.inr (Or.inl rfl) | exact Or.inr (Or.inr rfl))) [0, 1] (by decide) rfl (Nat.le_of_ble_eq_true rfl) (Nat.le_of_ble_eq_true rfl)
  · skip
    have k4 : ¬ ((Int32.toInt z1) < 0) := fun h_9 => c2 ((fa_lt z1 0).mpr h_9)
    refine r_lload_n 6 1 C dX8_has_6 rfl ?_
    refine r_aload_n 7 0 C dX8_has_7 rfl ?_
    refine r_get 8 C dX8_has_8 (k := 3) 0 rfl rfl hiX8 (by decide) rfl (mg 1 rfl) (Or.inl rfl) rfl ?_
    obtain ⟨z5, ez5⟩ : ∃ z_9, Int32.toInt64 x0 = z_9 := ⟨_, rfl⟩
    have tz5 : (Int64.toInt z5) = (Int32.toInt x0) := by rw [← ez5]; exact Int32.toInt_toInt64 _
    refine r_i2l 11 z5 C dX8_has_11 ez5 ?_
    obtain ⟨z6, ez6⟩ : ∃ z_9, lg_cmp y0 z5 = z_9 := ⟨_, rfl⟩
    have l1z6 : (Int32.toInt z6) < 0 ↔ (Int64.toInt y0) < (Int64.toInt z5) := by rw [← ez6]; exact lgI1 y0 z5
    have l2z6 : 0 < (Int32.toInt z6) ↔ (Int64.toInt z5) < (Int64.toInt y0) := by rw [← ez6]; exact lgI2 y0 z5
    refine r_lcmp 12 z6 C dX8_has_12 ez6 ?_
    refine r_if_lt 13 18 C dX8_has_13 (by decide) (fun c7 => ?_) (fun c7 => ?_)
    · skip
      have k8 : (Int32.toInt z6) < 0 := (fa_lt z6 0).mp c7
      refine r_aload_n 18 0 C dX8_has_18 rfl ?_
      refine r_get 19 C dX8_has_19 (k := 5) 0 rfl rfl hiX8 (by decide) rfl (mg 2 rfl) (Or.inl rfl) rfl ?_
      refine r_if_gt 22 47 C dX8_has_22 (by decide) (fun c9 => ?_) (fun c9 => ?_)
      · skip
        have k10 : 0 < (Int32.toInt x2) := (fa_lt 0 x2).mp c9
        refine r_iconst 47 1 C dX8_has_47 (by decide) ?_
        refine r_goto 48 52 C dX8_has_48 (by decide) ?_
        exact r_zret 52 Rt dX8_has_52 (by decide) () (show (((Int64.toInt y0) < 0 ∧ 1 = 0) ∨ (¬ ((Int64.toInt y0) < 0) ∧ 0 < (Int32.toInt x2) ∧ 1 = 1) ∨ (¬ ((Int64.toInt y0) < 0) ∧ ¬ (0 < (Int32.toInt x2)) ∧ 1 = 0) ∨ (¬ ((Int64.toInt y0) < 0) ∧ 1 = 0)) ∧ HSB 1 (HASP (Int32.toInt x0) (Int32.toInt x2) fn0 0 (Int64.toInt y0)) from by refine ⟨Or.inr (Or.inl ?_), (by first | exact Or.inl ⟨rfl, hasp_y1 (by omega) (by omega) (by omega)⟩ | exact Or.inr ⟨rfl, hasp_n1 (by omega)⟩ | exact Or.inl ⟨rfl, hasp_y2 (by omega) (by omega) (by omega) (by assumption) (by omega) (by omega)⟩ | exact Or.inr ⟨rfl, hasp_n2 (by omega) (by assumption) (by omega) (by omega)⟩)⟩ <;> ((repeat' apply And.intro) <;> first | trivial | rfl | assumption | omega | decide | exact Or.inl rfl | exact Or.inr (Or.inl rfl) | exact Or.inr (Or.inr rfl))) [0, 1] (by decide) rfl (Nat.le_of_ble_eq_true rfl) (Nat.le_of_ble_eq_true rfl)
      · skip
        have k11 : ¬ (0 < (Int32.toInt x2)) := fun h_9 => c9 ((fa_lt 0 x2).mpr h_9)
        refine r_lload_n 25 1 C dX8_has_25 rfl ?_
        refine r_aload_n 26 0 C dX8_has_26 rfl ?_
        refine r_get 27 C dX8_has_27 (k := 1) 0 rfl rfl hiX8 (by decide) rfl (mg 3 rfl) (Or.inl rfl) rfl ?_
        refine r_ialen 30 0 C dX8_has_30 1 rfl (by decide) ?_
        refine r_i2l 31 0 C dX8_has_31 (by decide) ?_
        obtain ⟨z12, ez12⟩ : ∃ z_9, lg_cmp y0 0 = z_9 := ⟨_, rfl⟩
        have l1z12 : (Int32.toInt z12) < 0 ↔ (Int64.toInt y0) < 0 := by rw [← ez12]; exact lgI1 y0 0
        have l2z12 : 0 < (Int32.toInt z12) ↔ 0 < (Int64.toInt y0) := by rw [← ez12]; exact lgI2 y0 0
        refine r_lcmp 32 z12 C dX8_has_32 ez12 ?_
        refine r_if_ge_t 33 51 C dX8_has_33 (by decide) ((fa_le 0 z12).mpr (by show 0 ≤ (Int32.toInt z12); omega)) ?_
        refine r_iconst 51 0 C dX8_has_51 (by decide) ?_
        exact r_zret 52 Rt dX8_has_52 (by decide) () (show (((Int64.toInt y0) < 0 ∧ 0 = 0) ∨ (¬ ((Int64.toInt y0) < 0) ∧ 0 < (Int32.toInt x2) ∧ 0 = 1) ∨ (¬ ((Int64.toInt y0) < 0) ∧ ¬ (0 < (Int32.toInt x2)) ∧ 0 = 0) ∨ (¬ ((Int64.toInt y0) < 0) ∧ 0 = 0)) ∧ HSB 0 (HASP (Int32.toInt x0) (Int32.toInt x2) fn0 0 (Int64.toInt y0)) from by refine ⟨Or.inr (Or.inr (Or.inl ?_)), (by first | exact Or.inl ⟨rfl, hasp_y1 (by omega) (by omega) (by omega)⟩ | exact Or.inr ⟨rfl, hasp_n1 (by omega)⟩ | exact Or.inl ⟨rfl, hasp_y2 (by omega) (by omega) (by omega) (by assumption) (by omega) (by omega)⟩ | exact Or.inr ⟨rfl, hasp_n2 (by omega) (by assumption) (by omega) (by omega)⟩)⟩ <;> ((repeat' apply And.intro) <;> first | trivial | rfl | assumption | omega | decide | exact Or.inl rfl | exact Or.inr (Or.inl rfl) | exact Or.inr (Or.inr rfl))) [0, 1] (by decide) rfl (Nat.le_of_ble_eq_true rfl) (Nat.le_of_ble_eq_true rfl)
    · skip
      have k13 : ¬ ((Int32.toInt z6) < 0) := fun h_9 => c7 ((fa_lt z6 0).mpr h_9)
      refine r_iconst 16 0 C dX8_has_16 (by decide) ?_
      exact r_zret 17 Rt dX8_has_17 (by decide) () (show (((Int64.toInt y0) < 0 ∧ 0 = 0) ∨ (¬ ((Int64.toInt y0) < 0) ∧ 0 < (Int32.toInt x2) ∧ 0 = 1) ∨ (¬ ((Int64.toInt y0) < 0) ∧ ¬ (0 < (Int32.toInt x2)) ∧ 0 = 0) ∨ (¬ ((Int64.toInt y0) < 0) ∧ 0 = 0)) ∧ HSB 0 (HASP (Int32.toInt x0) (Int32.toInt x2) fn0 0 (Int64.toInt y0)) from by refine ⟨Or.inr (Or.inr (Or.inr (?_))), (by first | exact Or.inl ⟨rfl, hasp_y1 (by omega) (by omega) (by omega)⟩ | exact Or.inr ⟨rfl, hasp_n1 (by omega)⟩ | exact Or.inl ⟨rfl, hasp_y2 (by omega) (by omega) (by omega) (by assumption) (by omega) (by omega)⟩ | exact Or.inr ⟨rfl, hasp_n2 (by omega) (by assumption) (by omega) (by omega)⟩)⟩ <;> ((repeat' apply And.intro) <;> first | trivial | rfl | assumption | omega | decide | exact Or.inl rfl | exact Or.inr (Or.inl rfl) | exact Or.inr (Or.inr rfl))) [0, 1] (by decide) rfl (Nat.le_of_ble_eq_true rfl) (Nat.le_of_ble_eq_true rfl)
set_option maxHeartbeats 4000000 in
set_option maxRecDepth 100000 in
theorem c37_X8_finishOf (l : Launch) (g : GD) (h0 : Nat) (h1 : Nat) (h2 : Nat) (h3 : Nat) (x0 : Int32) (h4 : Nat) (x1 : Int32) (x2 : Int32) (x3 : Int32) (x4 : Int32) (fn0 : Nat → Int32) (fn1 : Nat → Int32) (i_x4 : (0 ≤ (Int32.toInt x4) ∧ (Int32.toInt x4) ≤ 1500)) (sz : Nat) : Met l yX8_finishOf wsX8_finishOf ({ frames := 2, cells := 0, slots := 0, locals := 45 }) (va_Pc [.ref h0, .int x0] (PW g [(h0, .inr (7, [.ref h1, .ref h2, .ref h4, .int x1, .int x2, .int x3])), (h1, .inr (4, [.ref h3, .int x4])), (h2, .inl (gI g, 0, .inl fn0)), (h3, .inl (gB g, 1500, .inl fn1))] sz)) (va_Qi (fun (r : Int32) (_ : Unit) => CND (FOK (GB fn1 (Int32.toInt x4)) (Int32.toInt x1) (Int32.toInt x3) (Int32.toInt x2) fn0 nof 0 (Int32.toInt x0)) ((Int32.toInt r) = FINE (GB fn1 (Int32.toInt x4)) (Int32.toInt x1) (Int32.toInt x3) (Int32.toInt x2) nof (Int32.toInt x0))) (BW g (va_A [(h0, .inr (7, [.ref h1, .ref h2, .ref h4, .int x1, .int x2, .int x3])), (h1, .inr (4, [.ref h3, .int x4])), (h2, .inl (gI g, 0, .inl fn0)), (h3, .inl (gB g, 1500, .inl fn1))] sz) (fun _ : Unit => [(h0, .inr (7, [.ref h1, .ref h2, .ref h4, .int x1, .int x2, .int x3])), (h1, .inr (4, [.ref h3, .int x4])), (h2, .inl (gI g, 0, .inl fn0)), (h3, .inl (gB g, 1500, .inl fn1))])) (va_A [(h0, .inr (7, [.ref h1, .ref h2, .ref h4, .int x1, .int x2, .int x3])), (h1, .inr (4, [.ref h3, .int x4])), (h2, .inl (gI g, 0, .inl fn0)), (h3, .inl (gB g, 1500, .inl fn1))] sz)) 0 0 (va_A [(h0, .inr (7, [.ref h1, .ref h2, .ref h4, .int x1, .int x2, .int x3])), (h1, .inr (4, [.ref h3, .int x4])), (h2, .inl (gI g, 0, .inl fn0)), (h3, .inl (gB g, 1500, .inl fn1))] sz) := by
  refine met_i RX8 (by decide) rfl rfl (Nat.le_of_ble_eq_true rfl) [(0, .ref h0), (1, .int x0)] rfl ?_
  intro p e s m args below meth c A Q C hnm Rt
  have gx0 := fb_rng x0
  have gx1 := fb_rng x1
  have gx2 := fb_rng x2
  have gx3 := fb_rng x3
  have hiX8 : ∀ w ∈ wsX80, w ∈ wsX8_finishOf := fun w h => List.mem_cons_of_mem _ (List.mem_append_left _ (List.mem_append_right _ (h)))
  refine r_aload_n 0 0 C dX8_finishOf_0 rfl ?_
  refine r_iload_n 1 1 C dX8_finishOf_1 rfl ?_
  obtain ⟨z1, ez1⟩ : ∃ z_9, Int32.toInt64 x0 = z_9 := ⟨_, rfl⟩
  have tz1 : (Int64.toInt z1) = (Int32.toInt x0) := by rw [← ez1]; exact Int32.toInt_toInt64 _
  refine r_i2l 2 z1 C dX8_finishOf_2 ez1 ?_
  refine r_callVi 3 C dX8_finishOf_3 [] [(h0, .inr (7, [.ref h1, .ref h2, .ref h4, .int x1, .int x2, .int x3])), (h2, .inl (gI g, 0, .inl fn0))] [(h1, .inr (4, [.ref h3, .int x4])), (h3, .inl (gB g, 1500, .inl fn1))] (fun sz => c36_X8_has l g h0 h2 z1 h1 h4 x1 x2 x3 fn0  sz) gX8_finishOf_X8_has rfl ⟨rfl, rfl⟩ 1 (by decide) ⟨Nat.le_of_ble_eq_true rfl, Nat.le_of_ble_eq_true rfl⟩ 0 rfl rfl [0, 2] [1, 3] rfl rfl (by decide) (by decide) (by decide) rfl rfl (Nat.le_of_ble_eq_true rfl) ⟨Nat.le_of_ble_eq_true rfl, Nat.le_of_ble_eq_true rfl⟩ (fun r2 _ w3 => ?_)
  refine r_ws [(h1, .inr (4, [.ref h3, .int x4])), (h3, .inl (gB g, 1500, .inl fn1)), (h0, .inr (7, [.ref h1, .ref h2, .ref h4, .int x1, .int x2, .int x3])), (h2, .inl (gI g, 0, .inl fn0))] rfl ?_
  have p4 : HSB (Int32.toInt r2) (HASP (Int32.toInt x1) (Int32.toInt x3) fn0 0 (Int64.toInt z1)) := w3.2
  have w5 : (((Int64.toInt z1) < 0 ∧ r2 = 0) ∨ (¬ ((Int64.toInt z1) < 0) ∧ 0 < (Int32.toInt x3) ∧ r2 = 1) ∨ (¬ ((Int64.toInt z1) < 0) ∧ ¬ (0 < (Int32.toInt x3)) ∧ r2 = 0) ∨ (¬ ((Int64.toInt z1) < 0) ∧ r2 = 0)) := w3.1
  rcases w5 with ⟨k6, k7⟩ | w5
  · skip
    have k7 := k7.symm
    subst k7
    refine r_if_ne_f 6 11 C dX8_finishOf_6 (by decide) (by decide) ?_
    refine r_iconst 9 0 C dX8_finishOf_9 (by decide) ?_
    exact r_iret 10 Rt dX8_finishOf_10 () (show CND (FOK (GB fn1 (Int32.toInt x4)) (Int32.toInt x1) (Int32.toInt x3) (Int32.toInt x2) fn0 nof 0 (Int32.toInt x0)) (0 = FINE (GB fn1 (Int32.toInt x4)) (Int32.toInt x1) (Int32.toInt x3) (Int32.toInt x2) nof (Int32.toInt x0)) from (by first | exact fin_n (hsb_k p4 (by omega)) (by first | rfl | omega) | exact fin_b (by assumption) (by omega))) [2, 0, 3, 1] (by decide) rfl (Nat.le_of_ble_eq_true rfl) (Nat.le_of_ble_eq_true rfl)
  rcases w5 with ⟨k8, k9, k10⟩ | w5
  · skip
    have k10 := k10.symm
    subst k10
    refine r_if_ne_t 6 11 C dX8_finishOf_6 (by decide) (by decide) ?_
    refine r_aload_n 11 0 C dX8_finishOf_11 rfl ?_
    refine r_get 12 C dX8_finishOf_12 (k := 5) 2 rfl rfl hiX8 (by decide) rfl (mg 1 rfl) (Or.inl rfl) rfl ?_
    refine r_if_le_f 15 28 C dX8_finishOf_15 (by decide) (fun h_9 => by have h_8 : (Int32.toInt x3) ≤ 0 := (fa_le x3 0).mp h_9; omega) ?_
    refine r_aload_n 18 0 C dX8_finishOf_18 rfl ?_
    refine r_iload_n 19 1 C dX8_finishOf_19 rfl ?_
    refine r_iconst 20 1 C dX8_finishOf_20 (by decide) ?_
    obtain ⟨z11, ez11⟩ : ∃ z_9, x0 + 1 = z_9 := ⟨_, rfl⟩
    have gz11 := fb_rng z11
    refine r_iadd 21 z11 C dX8_finishOf_21 ez11 ?_
    refine r_callVi 22 C dX8_finishOf_22 [] [(h0, .inr (7, [.ref h1, .ref h2, .ref h4, .int x1, .int x2, .int x3])), (h1, .inr (4, [.ref h3, .int x4])), (h3, .inl (gB g, 1500, .inl fn1))] [(h2, .inl (gI g, 0, .inl fn0))] (fun sz => c30_X8_objectAt l g h0 h1 h3 z11 h2 h4 x1 x2 x3 x4 fn1 i_x4 sz) gX8_finishOf_X8_objectAt rfl ⟨rfl, rfl⟩ 1 (by decide) ⟨Nat.le_of_ble_eq_true rfl, Nat.le_of_ble_eq_true rfl⟩ 2 rfl rfl [2, 0, 1] [3] rfl rfl (by decide) (by decide) (by decide) rfl rfl (Nat.le_of_ble_eq_true rfl) ⟨Nat.le_of_ble_eq_true rfl, Nat.le_of_ble_eq_true rfl⟩ (fun r12 _ w13 => ?_)
    refine r_ws [(h2, .inl (gI g, 0, .inl fn0)), (h0, .inr (7, [.ref h1, .ref h2, .ref h4, .int x1, .int x2, .int x3])), (h1, .inr (4, [.ref h3, .int x4])), (h3, .inl (gB g, 1500, .inl fn1))] rfl ?_
    have p14 : CND (ORG (Int32.toInt x2) (Int32.toInt z11) (Int32.toInt x3)) (r12 = Int32.ofInt (OBJ (GB fn1 (Int32.toInt x4)) (Int32.toInt x1) (Int32.toInt x3) (Int32.toInt x2) (Int32.toInt z11))) := w13
    have gr12 := fb_rng r12
    refine r_goto 25 34 C dX8_finishOf_25 (by decide) ?_
    exact r_iret 34 Rt dX8_finishOf_34 () (show CND (FOK (GB fn1 (Int32.toInt x4)) (Int32.toInt x1) (Int32.toInt x3) (Int32.toInt x2) fn0 nof 0 (Int32.toInt x0)) ((Int32.toInt r12) = FINE (GB fn1 (Int32.toInt x4)) (Int32.toInt x1) (Int32.toInt x3) (Int32.toInt x2) nof (Int32.toInt x0)) from (by exact fin_o p14 (by assumption) (by omega))) [1, 2, 0, 3] (by decide) rfl (Nat.le_of_ble_eq_true rfl) (Nat.le_of_ble_eq_true rfl)
  rcases w5 with ⟨k15, k16, k17⟩ | w5
  · skip
    have k17 := k17.symm
    subst k17
    refine r_if_ne_f 6 11 C dX8_finishOf_6 (by decide) (by decide) ?_
    refine r_iconst 9 0 C dX8_finishOf_9 (by decide) ?_
    exact r_iret 10 Rt dX8_finishOf_10 () (show CND (FOK (GB fn1 (Int32.toInt x4)) (Int32.toInt x1) (Int32.toInt x3) (Int32.toInt x2) fn0 nof 0 (Int32.toInt x0)) (0 = FINE (GB fn1 (Int32.toInt x4)) (Int32.toInt x1) (Int32.toInt x3) (Int32.toInt x2) nof (Int32.toInt x0)) from (by first | exact fin_n (hsb_k p4 (by omega)) (by first | rfl | omega) | exact fin_b (by assumption) (by omega))) [2, 0, 3, 1] (by decide) rfl (Nat.le_of_ble_eq_true rfl) (Nat.le_of_ble_eq_true rfl)
  obtain ⟨k18, k19⟩ := w5
  have k19 := k19.symm
  subst k19
  refine r_if_ne_f 6 11 C dX8_finishOf_6 (by decide) (by decide) ?_
  refine r_iconst 9 0 C dX8_finishOf_9 (by decide) ?_
  exact r_iret 10 Rt dX8_finishOf_10 () (show CND (FOK (GB fn1 (Int32.toInt x4)) (Int32.toInt x1) (Int32.toInt x3) (Int32.toInt x2) fn0 nof 0 (Int32.toInt x0)) (0 = FINE (GB fn1 (Int32.toInt x4)) (Int32.toInt x1) (Int32.toInt x3) (Int32.toInt x2) nof (Int32.toInt x0)) from (by first | exact fin_n (hsb_k p4 (by omega)) (by first | rfl | omega) | exact fin_b (by assumption) (by omega))) [2, 0, 3, 1] (by decide) rfl (Nat.le_of_ble_eq_true rfl) (Nat.le_of_ble_eq_true rfl)
set_option maxHeartbeats 4000000 in
set_option maxRecDepth 100000 in
theorem c38_X8_beginOf (l : Launch) (g : GD) (h0 : Nat) (h1 : Nat) (h2 : Nat) (h3 : Nat) (x0 : Int32) (h4 : Nat) (x1 : Int32) (x2 : Int32) (x3 : Int32) (x4 : Int32) (fn0 : Nat → Int32) (fn1 : Nat → Int32) (i_x4 : (0 ≤ (Int32.toInt x4) ∧ (Int32.toInt x4) ≤ 1500)) (sz : Nat) : Met l yX8_beginOf wsX8_beginOf ({ frames := 2, cells := 0, slots := 0, locals := 45 }) (va_Pc [.ref h0, .int x0] (PW g [(h0, .inr (7, [.ref h1, .ref h2, .ref h4, .int x1, .int x2, .int x3])), (h1, .inr (4, [.ref h3, .int x4])), (h2, .inl (gI g, 0, .inl fn0)), (h3, .inl (gB g, 1500, .inl fn1))] sz)) (va_Qi (fun (r : Int32) (_ : Unit) => CND (BOK (GB fn1 (Int32.toInt x4)) (Int32.toInt x1) (Int32.toInt x3) (Int32.toInt x2) fn0 0 (Int32.toInt x0)) ((Int32.toInt r) = BEGE (GB fn1 (Int32.toInt x4)) (Int32.toInt x1) (Int32.toInt x3) (Int32.toInt x2) fn0 (Int32.toInt x0))) (BW g (va_A [(h0, .inr (7, [.ref h1, .ref h2, .ref h4, .int x1, .int x2, .int x3])), (h1, .inr (4, [.ref h3, .int x4])), (h2, .inl (gI g, 0, .inl fn0)), (h3, .inl (gB g, 1500, .inl fn1))] sz) (fun _ : Unit => [(h0, .inr (7, [.ref h1, .ref h2, .ref h4, .int x1, .int x2, .int x3])), (h1, .inr (4, [.ref h3, .int x4])), (h2, .inl (gI g, 0, .inl fn0)), (h3, .inl (gB g, 1500, .inl fn1))])) (va_A [(h0, .inr (7, [.ref h1, .ref h2, .ref h4, .int x1, .int x2, .int x3])), (h1, .inr (4, [.ref h3, .int x4])), (h2, .inl (gI g, 0, .inl fn0)), (h3, .inl (gB g, 1500, .inl fn1))] sz)) 0 0 (va_A [(h0, .inr (7, [.ref h1, .ref h2, .ref h4, .int x1, .int x2, .int x3])), (h1, .inr (4, [.ref h3, .int x4])), (h2, .inl (gI g, 0, .inl fn0)), (h3, .inl (gB g, 1500, .inl fn1))] sz) := by
  refine met_i RX8 (by decide) rfl rfl (Nat.le_of_ble_eq_true rfl) [(0, .ref h0), (1, .int x0)] rfl ?_
  intro p e s m args below meth c A Q C hnm Rt
  have gx0 := fb_rng x0
  have gx1 := fb_rng x1
  have gx2 := fb_rng x2
  have gx3 := fb_rng x3
  have hiX8 : ∀ w ∈ wsX80, w ∈ wsX8_beginOf := fun w h => List.mem_cons_of_mem _ (List.mem_append_left _ (List.mem_append_right _ (h)))
  refine r_aload_n 0 0 C dX8_beginOf_0 rfl ?_
  refine r_iload_n 1 1 C dX8_beginOf_1 rfl ?_
  obtain ⟨z1, ez1⟩ : ∃ z_9, Int32.toInt64 x0 = z_9 := ⟨_, rfl⟩
  have tz1 : (Int64.toInt z1) = (Int32.toInt x0) := by rw [← ez1]; exact Int32.toInt_toInt64 _
  refine r_i2l 2 z1 C dX8_beginOf_2 ez1 ?_
  refine r_callVi 3 C dX8_beginOf_3 [] [(h0, .inr (7, [.ref h1, .ref h2, .ref h4, .int x1, .int x2, .int x3])), (h2, .inl (gI g, 0, .inl fn0))] [(h1, .inr (4, [.ref h3, .int x4])), (h3, .inl (gB g, 1500, .inl fn1))] (fun sz => c36_X8_has l g h0 h2 z1 h1 h4 x1 x2 x3 fn0  sz) gX8_beginOf_X8_has rfl ⟨rfl, rfl⟩ 1 (by decide) ⟨Nat.le_of_ble_eq_true rfl, Nat.le_of_ble_eq_true rfl⟩ 0 rfl rfl [0, 2] [1, 3] rfl rfl (by decide) (by decide) (by decide) rfl rfl (Nat.le_of_ble_eq_true rfl) ⟨Nat.le_of_ble_eq_true rfl, Nat.le_of_ble_eq_true rfl⟩ (fun r2 _ w3 => ?_)
  refine r_ws [(h1, .inr (4, [.ref h3, .int x4])), (h3, .inl (gB g, 1500, .inl fn1)), (h0, .inr (7, [.ref h1, .ref h2, .ref h4, .int x1, .int x2, .int x3])), (h2, .inl (gI g, 0, .inl fn0))] rfl ?_
  have p4 : HSB (Int32.toInt r2) (HASP (Int32.toInt x1) (Int32.toInt x3) fn0 0 (Int64.toInt z1)) := w3.2
  have w5 : (((Int64.toInt z1) < 0 ∧ r2 = 0) ∨ (¬ ((Int64.toInt z1) < 0) ∧ 0 < (Int32.toInt x3) ∧ r2 = 1) ∨ (¬ ((Int64.toInt z1) < 0) ∧ ¬ (0 < (Int32.toInt x3)) ∧ r2 = 0) ∨ (¬ ((Int64.toInt z1) < 0) ∧ r2 = 0)) := w3.1
  rcases w5 with ⟨k6, k7⟩ | w5
  · skip
    have k7 := k7.symm
    subst k7
    refine r_if_ne_f 6 11 C dX8_beginOf_6 (by decide) (by decide) ?_
    refine r_iconst 9 0 C dX8_beginOf_9 (by decide) ?_
    exact r_iret 10 Rt dX8_beginOf_10 () (show CND (BOK (GB fn1 (Int32.toInt x4)) (Int32.toInt x1) (Int32.toInt x3) (Int32.toInt x2) fn0 0 (Int32.toInt x0)) (0 = BEGE (GB fn1 (Int32.toInt x4)) (Int32.toInt x1) (Int32.toInt x3) (Int32.toInt x2) fn0 (Int32.toInt x0)) from (by first | exact beg_n (hsb_k p4 (by omega)) (by first | rfl | omega) | exact beg_b (by assumption) (by omega))) [2, 0, 3, 1] (by decide) rfl (Nat.le_of_ble_eq_true rfl) (Nat.le_of_ble_eq_true rfl)
  rcases w5 with ⟨k8, k9, k10⟩ | w5
  · skip
    have k10 := k10.symm
    subst k10
    refine r_if_ne_t 6 11 C dX8_beginOf_6 (by decide) (by decide) ?_
    refine r_aload_n 11 0 C dX8_beginOf_11 rfl ?_
    refine r_get 12 C dX8_beginOf_12 (k := 5) 2 rfl rfl hiX8 (by decide) rfl (mg 1 rfl) (Or.inl rfl) rfl ?_
    refine r_if_le_f 15 26 C dX8_beginOf_15 (by decide) (fun h_9 => by have h_8 : (Int32.toInt x3) ≤ 0 := (fa_le x3 0).mp h_9; omega) ?_
    refine r_aload_n 18 0 C dX8_beginOf_18 rfl ?_
    refine r_iload_n 19 1 C dX8_beginOf_19 rfl ?_
    refine r_callVi 20 C dX8_beginOf_20 [] [(h0, .inr (7, [.ref h1, .ref h2, .ref h4, .int x1, .int x2, .int x3])), (h1, .inr (4, [.ref h3, .int x4])), (h3, .inl (gB g, 1500, .inl fn1))] [(h2, .inl (gI g, 0, .inl fn0))] (fun sz => c30_X8_objectAt l g h0 h1 h3 x0 h2 h4 x1 x2 x3 x4 fn1 i_x4 sz) gX8_beginOf_X8_objectAt rfl ⟨rfl, rfl⟩ 1 (by decide) ⟨Nat.le_of_ble_eq_true rfl, Nat.le_of_ble_eq_true rfl⟩ 2 rfl rfl [2, 0, 1] [3] rfl rfl (by decide) (by decide) (by decide) rfl rfl (Nat.le_of_ble_eq_true rfl) ⟨Nat.le_of_ble_eq_true rfl, Nat.le_of_ble_eq_true rfl⟩ (fun r11 _ w12 => ?_)
    refine r_ws [(h2, .inl (gI g, 0, .inl fn0)), (h0, .inr (7, [.ref h1, .ref h2, .ref h4, .int x1, .int x2, .int x3])), (h1, .inr (4, [.ref h3, .int x4])), (h3, .inl (gB g, 1500, .inl fn1))] rfl ?_
    have p13 : CND (ORG (Int32.toInt x2) (Int32.toInt x0) (Int32.toInt x3)) (r11 = Int32.ofInt (OBJ (GB fn1 (Int32.toInt x4)) (Int32.toInt x1) (Int32.toInt x3) (Int32.toInt x2) (Int32.toInt x0))) := w12
    have gr11 := fb_rng r11
    refine r_goto 23 32 C dX8_beginOf_23 (by decide) ?_
    exact r_iret 32 Rt dX8_beginOf_32 () (show CND (BOK (GB fn1 (Int32.toInt x4)) (Int32.toInt x1) (Int32.toInt x3) (Int32.toInt x2) fn0 0 (Int32.toInt x0)) ((Int32.toInt r11) = BEGE (GB fn1 (Int32.toInt x4)) (Int32.toInt x1) (Int32.toInt x3) (Int32.toInt x2) fn0 (Int32.toInt x0)) from (by exact beg_o p13 (by omega))) [1, 2, 0, 3] (by decide) rfl (Nat.le_of_ble_eq_true rfl) (Nat.le_of_ble_eq_true rfl)
  rcases w5 with ⟨k14, k15, k16⟩ | w5
  · skip
    have k16 := k16.symm
    subst k16
    refine r_if_ne_f 6 11 C dX8_beginOf_6 (by decide) (by decide) ?_
    refine r_iconst 9 0 C dX8_beginOf_9 (by decide) ?_
    exact r_iret 10 Rt dX8_beginOf_10 () (show CND (BOK (GB fn1 (Int32.toInt x4)) (Int32.toInt x1) (Int32.toInt x3) (Int32.toInt x2) fn0 0 (Int32.toInt x0)) (0 = BEGE (GB fn1 (Int32.toInt x4)) (Int32.toInt x1) (Int32.toInt x3) (Int32.toInt x2) fn0 (Int32.toInt x0)) from (by first | exact beg_n (hsb_k p4 (by omega)) (by first | rfl | omega) | exact beg_b (by assumption) (by omega))) [2, 0, 3, 1] (by decide) rfl (Nat.le_of_ble_eq_true rfl) (Nat.le_of_ble_eq_true rfl)
  obtain ⟨k17, k18⟩ := w5
  have k18 := k18.symm
  subst k18
  refine r_if_ne_f 6 11 C dX8_beginOf_6 (by decide) (by decide) ?_
  refine r_iconst 9 0 C dX8_beginOf_9 (by decide) ?_
  exact r_iret 10 Rt dX8_beginOf_10 () (show CND (BOK (GB fn1 (Int32.toInt x4)) (Int32.toInt x1) (Int32.toInt x3) (Int32.toInt x2) fn0 0 (Int32.toInt x0)) (0 = BEGE (GB fn1 (Int32.toInt x4)) (Int32.toInt x1) (Int32.toInt x3) (Int32.toInt x2) fn0 (Int32.toInt x0)) from (by first | exact beg_n (hsb_k p4 (by omega)) (by first | rfl | omega) | exact beg_b (by assumption) (by omega))) [2, 0, 3, 1] (by decide) rfl (Nat.le_of_ble_eq_true rfl) (Nat.le_of_ble_eq_true rfl)
set_option maxHeartbeats 4000000 in
set_option maxRecDepth 100000 in
theorem c39_X11_code (l : Launch) (g : GD) (h0 : Nat) (h1 : Nat) (h2 : Nat) (h3 : Nat) (h4 : Nat) (h5 : Nat) (h6 : Nat) (h7 : Nat) (h8 : Nat) (h9 : Nat) (h10 : Nat) (h11 : Nat) (x0 : Int32) (x1 : Int32) (x2 : Int32) (h12 : Nat) (h13 : Nat) (h14 : Nat) (h15 : Nat) (h16 : Nat) (h17 : Nat) (h18 : Nat) (h19 : Nat) (vv0 : Value) (x3 : Int32) (x4 : Int32) (x5 : Int32) (x6 : Int32) (x7 : Int32) (x8 : Int32) (x9 : Int32) (x10 : Int32) (x11 : Int32) (x12 : Int32) (h20 : Nat) (x13 : Int32) (x14 : Int32) (x15 : Int32) (fn0 : Nat → Int32) (fn1 : Nat → Int32) (fn2 : Nat → Int32) (fn3 : Nat → Int32) (fn4 : Nat → Int32) (fn5 : Nat → Int32) (i_x6 : (0 ≤ (Int32.toInt x6) ∧ (Int32.toInt x6) ≤ 1500)) (sz : Nat) : Met l yX11_code wsX11_code ({ frames := 3, cells := 0, slots := 0, locals := 66 }) (va_Pc [.ref h0, .int x0, .int x1, .int x2] (PW g [(h0, .inr (10, [.ref h12, .ref h13, .ref h1, .ref h14, .ref h15, .ref h16, .ref h17, .ref h18, .ref h19, vv0])), (h1, .inr (3, [.ref h2, .ref h3, .ref h4, .ref h5, .int x3, .int x4, .int x5])), (h2, .inr (4, [.ref h6, .int x6])), (h3, .inr (7, [.ref h2, .ref h7, .ref h8, .int x7, .int x8, .int x9])), (h4, .inr (7, [.ref h2, .ref h9, .ref h10, .int x10, .int x11, .int x12])), (h5, .inr (7, [.ref h2, .ref h11, .ref h20, .int x13, .int x14, .int x15])), (h6, .inl (gB g, 1500, .inl fn0)), (h7, .inl (gI g, 40, .inl fn1)), (h8, .inl (gI g, 40, .inl fn2)), (h9, .inl (gI g, 200, .inl fn3)), (h10, .inl (gI g, 200, .inl fn4)), (h11, .inl (gI g, 0, .inl fn5))] sz)) (va_Qi (fun (r : Int32) (_ : Unit) => -1 ≤ (Int32.toInt r) ∧ (Int32.toInt r) ≤ 255 ∧ CND ((Int32.toInt x0) = 0 ∧ (HASP (Int32.toInt x7) (Int32.toInt x9) fn1 40 (Int32.toInt x1) → VALK (GB fn0 (Int32.toInt x6)) (Int32.toInt x7) (Int32.toInt x9) (Int32.toInt x8) fn1 fn2 (Int32.toInt x1))) (CCO (GB fn0 (Int32.toInt x6)) (Int32.toInt x7) (Int32.toInt x9) (Int32.toInt x8) fn1 fn2 40 (Int32.toInt x1) (Int32.toInt x2) (Int32.toInt r)) ∧ CND ((Int32.toInt x0) = 1 ∧ (HASP (Int32.toInt x10) (Int32.toInt x12) fn3 200 (Int32.toInt x1) → VALK (GB fn0 (Int32.toInt x6)) (Int32.toInt x10) (Int32.toInt x12) (Int32.toInt x11) fn3 fn4 (Int32.toInt x1))) (CCO (GB fn0 (Int32.toInt x6)) (Int32.toInt x10) (Int32.toInt x12) (Int32.toInt x11) fn3 fn4 200 (Int32.toInt x1) (Int32.toInt x2) (Int32.toInt r)) ∧ CND ((Int32.toInt x0) = 2 ∧ (HASP (Int32.toInt x13) (Int32.toInt x15) fn5 0 (Int32.toInt x1) → VALK (GB fn0 (Int32.toInt x6)) (Int32.toInt x13) (Int32.toInt x15) (Int32.toInt x14) fn5 nof (Int32.toInt x1))) (CCO (GB fn0 (Int32.toInt x6)) (Int32.toInt x13) (Int32.toInt x15) (Int32.toInt x14) fn5 nof 0 (Int32.toInt x1) (Int32.toInt x2) (Int32.toInt r)) ∧ ((0 ≤ (Int32.toInt x0) ∧ (Int32.toInt x0) ≤ 2) ∨ (Int32.toInt r) = -1)) (BW g (va_A [(h0, .inr (10, [.ref h12, .ref h13, .ref h1, .ref h14, .ref h15, .ref h16, .ref h17, .ref h18, .ref h19, vv0])), (h1, .inr (3, [.ref h2, .ref h3, .ref h4, .ref h5, .int x3, .int x4, .int x5])), (h2, .inr (4, [.ref h6, .int x6])), (h3, .inr (7, [.ref h2, .ref h7, .ref h8, .int x7, .int x8, .int x9])), (h4, .inr (7, [.ref h2, .ref h9, .ref h10, .int x10, .int x11, .int x12])), (h5, .inr (7, [.ref h2, .ref h11, .ref h20, .int x13, .int x14, .int x15])), (h6, .inl (gB g, 1500, .inl fn0)), (h7, .inl (gI g, 40, .inl fn1)), (h8, .inl (gI g, 40, .inl fn2)), (h9, .inl (gI g, 200, .inl fn3)), (h10, .inl (gI g, 200, .inl fn4)), (h11, .inl (gI g, 0, .inl fn5))] sz) (fun _ : Unit => [(h0, .inr (10, [.ref h12, .ref h13, .ref h1, .ref h14, .ref h15, .ref h16, .ref h17, .ref h18, .ref h19, vv0])), (h1, .inr (3, [.ref h2, .ref h3, .ref h4, .ref h5, .int x3, .int x4, .int x5])), (h2, .inr (4, [.ref h6, .int x6])), (h3, .inr (7, [.ref h2, .ref h7, .ref h8, .int x7, .int x8, .int x9])), (h4, .inr (7, [.ref h2, .ref h9, .ref h10, .int x10, .int x11, .int x12])), (h5, .inr (7, [.ref h2, .ref h11, .ref h20, .int x13, .int x14, .int x15])), (h6, .inl (gB g, 1500, .inl fn0)), (h7, .inl (gI g, 40, .inl fn1)), (h8, .inl (gI g, 40, .inl fn2)), (h9, .inl (gI g, 200, .inl fn3)), (h10, .inl (gI g, 200, .inl fn4)), (h11, .inl (gI g, 0, .inl fn5))])) (va_A [(h0, .inr (10, [.ref h12, .ref h13, .ref h1, .ref h14, .ref h15, .ref h16, .ref h17, .ref h18, .ref h19, vv0])), (h1, .inr (3, [.ref h2, .ref h3, .ref h4, .ref h5, .int x3, .int x4, .int x5])), (h2, .inr (4, [.ref h6, .int x6])), (h3, .inr (7, [.ref h2, .ref h7, .ref h8, .int x7, .int x8, .int x9])), (h4, .inr (7, [.ref h2, .ref h9, .ref h10, .int x10, .int x11, .int x12])), (h5, .inr (7, [.ref h2, .ref h11, .ref h20, .int x13, .int x14, .int x15])), (h6, .inl (gB g, 1500, .inl fn0)), (h7, .inl (gI g, 40, .inl fn1)), (h8, .inl (gI g, 40, .inl fn2)), (h9, .inl (gI g, 200, .inl fn3)), (h10, .inl (gI g, 200, .inl fn4)), (h11, .inl (gI g, 0, .inl fn5))] sz)) 0 0 (va_A [(h0, .inr (10, [.ref h12, .ref h13, .ref h1, .ref h14, .ref h15, .ref h16, .ref h17, .ref h18, .ref h19, vv0])), (h1, .inr (3, [.ref h2, .ref h3, .ref h4, .ref h5, .int x3, .int x4, .int x5])), (h2, .inr (4, [.ref h6, .int x6])), (h3, .inr (7, [.ref h2, .ref h7, .ref h8, .int x7, .int x8, .int x9])), (h4, .inr (7, [.ref h2, .ref h9, .ref h10, .int x10, .int x11, .int x12])), (h5, .inr (7, [.ref h2, .ref h11, .ref h20, .int x13, .int x14, .int x15])), (h6, .inl (gB g, 1500, .inl fn0)), (h7, .inl (gI g, 40, .inl fn1)), (h8, .inl (gI g, 40, .inl fn2)), (h9, .inl (gI g, 200, .inl fn3)), (h10, .inl (gI g, 200, .inl fn4)), (h11, .inl (gI g, 0, .inl fn5))] sz) := by
  refine met_i RX11 (by decide) rfl rfl (Nat.le_of_ble_eq_true rfl) [(0, .ref h0), (1, .int x0), (2, .int x1), (3, .int x2)] rfl ?_
  intro p e s m args below meth c A Q C hnm Rt
  have gx0 := fb_rng x0
  have gx1 := fb_rng x1
  have gx2 := fb_rng x2
  have gx7 := fb_rng x7
  have gx8 := fb_rng x8
  have gx9 := fb_rng x9
  have gx10 := fb_rng x10
  have gx11 := fb_rng x11
  have gx12 := fb_rng x12
  have gx13 := fb_rng x13
  have gx14 := fb_rng x14
  have gx15 := fb_rng x15
  have hiX11 : ∀ w ∈ wsX110, w ∈ wsX11_code := fun w h => List.mem_cons_of_mem _ (List.mem_append_left _ (List.mem_append_left _ (List.mem_append_left _ (List.mem_append_right _ (h)))))
  have hiX3 : ∀ w ∈ wsX30, w ∈ wsX11_code := fun w h => List.mem_cons_of_mem _ (List.mem_append_left _ (List.mem_append_left _ (List.mem_append_right _ (h))))
  refine r_aload_n 0 0 C dX11_code_0 rfl ?_
  refine r_get 1 C dX11_code_1 (k := 2) 0 rfl rfl hiX11 (by decide) rfl (mg 1 rfl) (Or.inl rfl) rfl ?_
  refine r_iload_n 4 1 C dX11_code_4 rfl ?_
  refine r_callVq 5 C dX11_code_5 [] [(h1, .inr (3, [.ref h2, .ref h3, .ref h4, .ref h5, .int x3, .int x4, .int x5]))] [(h0, .inr (10, [.ref h12, .ref h13, .ref h1, .ref h14, .ref h15, .ref h16, .ref h17, .ref h18, .ref h19, vv0])), (h2, .inr (4, [.ref h6, .int x6])), (h3, .inr (7, [.ref h2, .ref h7, .ref h8, .int x7, .int x8, .int x9])), (h4, .inr (7, [.ref h2, .ref h9, .ref h10, .int x10, .int x11, .int x12])), (h5, .inr (7, [.ref h2, .ref h11, .ref h20, .int x13, .int x14, .int x15])), (h6, .inl (gB g, 1500, .inl fn0)), (h7, .inl (gI g, 40, .inl fn1)), (h8, .inl (gI g, 40, .inl fn2)), (h9, .inl (gI g, 200, .inl fn3)), (h10, .inl (gI g, 200, .inl fn4)), (h11, .inl (gI g, 0, .inl fn5))] (fun sz => c28_X3_shelfOf l g h1 x0 h2 h3 h4 h5 x3 x4 x5  sz) gX11_code_X3_shelfOf rfl ⟨rfl, rfl⟩ 1 (by decide) ⟨Nat.le_of_ble_eq_true rfl, Nat.le_of_ble_eq_true rfl⟩ 1 rfl rfl [1] [0, 2, 3, 4, 5, 6, 7, 8, 9, 10, 11] rfl rfl (by decide) (by decide) (by decide) rfl rfl (Nat.le_of_ble_eq_true rfl) ⟨Nat.le_of_ble_eq_true rfl, Nat.le_of_ble_eq_true rfl⟩ (fun r1 _ w2 => ?_)
  refine r_ws [(h0, .inr (10, [.ref h12, .ref h13, .ref h1, .ref h14, .ref h15, .ref h16, .ref h17, .ref h18, .ref h19, vv0])), (h2, .inr (4, [.ref h6, .int x6])), (h3, .inr (7, [.ref h2, .ref h7, .ref h8, .int x7, .int x8, .int x9])), (h4, .inr (7, [.ref h2, .ref h9, .ref h10, .int x10, .int x11, .int x12])), (h5, .inr (7, [.ref h2, .ref h11, .ref h20, .int x13, .int x14, .int x15])), (h6, .inl (gB g, 1500, .inl fn0)), (h7, .inl (gI g, 40, .inl fn1)), (h8, .inl (gI g, 40, .inl fn2)), (h9, .inl (gI g, 200, .inl fn3)), (h10, .inl (gI g, 200, .inl fn4)), (h11, .inl (gI g, 0, .inl fn5)), (h1, .inr (3, [.ref h2, .ref h3, .ref h4, .ref h5, .int x3, .int x4, .int x5]))] rfl ?_
  have w3 : (((Int32.toInt x0) = 0 ∧ r1 = (some h3)) ∨ (¬ ((Int32.toInt x0) = 0) ∧ (Int32.toInt x0) = 1 ∧ r1 = (some h4)) ∨ (¬ ((Int32.toInt x0) = 0) ∧ ¬ ((Int32.toInt x0) = 1) ∧ (Int32.toInt x0) = 2 ∧ r1 = (some h5)) ∨ (¬ ((Int32.toInt x0) = 0) ∧ ¬ ((Int32.toInt x0) = 1) ∧ ¬ ((Int32.toInt x0) = 2) ∧ r1 = none)) := w2
  rcases w3 with ⟨k4, k5⟩ | w3
  · skip
    have k5 := k5.symm
    subst k5
    refine r_st [.ref h3] rfl ?_
    refine r_astore 8 C dX11_code_8 [(4, .ref h3), (0, .ref h0), (1, .int x0), (2, .int x1), (3, .int x2)] (by decide) rfl ?_
    refine r_aload 10 0 C dX11_code_10 rfl ?_
    refine r_ifnull 12 C dX11_code_12 ?_
    refine r_aload 15 0 C dX11_code_15 rfl ?_
    refine r_iload_n 17 3 C dX11_code_17 rfl ?_
    obtain ⟨z6, ez6⟩ : ∃ z_9, Int32.toInt64 x1 = z_9 := ⟨_, rfl⟩
    have tz6 : (Int64.toInt z6) = (Int32.toInt x1) := by rw [← ez6]; exact Int32.toInt_toInt64 _
    refine r_i2l 18 z6 C dX11_code_18 ez6 ?_
    refine r_callVi 19 C dX11_code_19 [] [(h3, .inr (7, [.ref h2, .ref h7, .ref h8, .int x7, .int x8, .int x9])), (h7, .inl (gI g, 40, .inl fn1))] [(h0, .inr (10, [.ref h12, .ref h13, .ref h1, .ref h14, .ref h15, .ref h16, .ref h17, .ref h18, .ref h19, vv0])), (h2, .inr (4, [.ref h6, .int x6])), (h4, .inr (7, [.ref h2, .ref h9, .ref h10, .int x10, .int x11, .int x12])), (h5, .inr (7, [.ref h2, .ref h11, .ref h20, .int x13, .int x14, .int x15])), (h6, .inl (gB g, 1500, .inl fn0)), (h8, .inl (gI g, 40, .inl fn2)), (h9, .inl (gI g, 200, .inl fn3)), (h10, .inl (gI g, 200, .inl fn4)), (h11, .inl (gI g, 0, .inl fn5)), (h1, .inr (3, [.ref h2, .ref h3, .ref h4, .ref h5, .int x3, .int x4, .int x5]))] (fun sz => c29_X8_has l g h3 h7 z6 h2 h8 x7 x8 x9 fn1  sz) gX11_code_X8_has rfl ⟨rfl, rfl⟩ 1 (by decide) ⟨Nat.le_of_ble_eq_true rfl, Nat.le_of_ble_eq_true rfl⟩ 2 rfl rfl [2, 6] [0, 1, 3, 4, 5, 7, 8, 9, 10, 11] rfl rfl (by decide) (by decide) (by decide) rfl rfl (Nat.le_of_ble_eq_true rfl) ⟨Nat.le_of_ble_eq_true rfl, Nat.le_of_ble_eq_true rfl⟩ (fun r7 _ w8 => ?_)
    refine r_ws [(h0, .inr (10, [.ref h12, .ref h13, .ref h1, .ref h14, .ref h15, .ref h16, .ref h17, .ref h18, .ref h19, vv0])), (h2, .inr (4, [.ref h6, .int x6])), (h4, .inr (7, [.ref h2, .ref h9, .ref h10, .int x10, .int x11, .int x12])), (h5, .inr (7, [.ref h2, .ref h11, .ref h20, .int x13, .int x14, .int x15])), (h6, .inl (gB g, 1500, .inl fn0)), (h8, .inl (gI g, 40, .inl fn2)), (h9, .inl (gI g, 200, .inl fn3)), (h10, .inl (gI g, 200, .inl fn4)), (h11, .inl (gI g, 0, .inl fn5)), (h1, .inr (3, [.ref h2, .ref h3, .ref h4, .ref h5, .int x3, .int x4, .int x5])), (h3, .inr (7, [.ref h2, .ref h7, .ref h8, .int x7, .int x8, .int x9])), (h7, .inl (gI g, 40, .inl fn1))] rfl ?_
    have p9 : HSB (Int32.toInt r7) (HASP (Int32.toInt x7) (Int32.toInt x9) fn1 40 (Int64.toInt z6)) := w8.2
    have w10 : (((Int64.toInt z6) < 0 ∧ r7 = 0) ∨ (¬ ((Int64.toInt z6) < 0) ∧ 0 < (Int32.toInt x9) ∧ r7 = 1) ∨ (¬ ((Int64.toInt z6) < 0) ∧ ¬ (0 < (Int32.toInt x9)) ∧ 40 ≤ (Int64.toInt z6) ∧ r7 = 0) ∨ (¬ ((Int64.toInt z6) < 0) ∧ ¬ (0 < (Int32.toInt x9)) ∧ ¬ (40 ≤ (Int64.toInt z6)) ∧ r7 = 0) ∨ (¬ ((Int64.toInt z6) < 0) ∧ ¬ (0 < (Int32.toInt x9)) ∧ ¬ (40 ≤ (Int64.toInt z6)) ∧ r7 = 1) ∨ (¬ ((Int64.toInt z6) < 0) ∧ r7 = 0)) := w8.1
    rcases w10 with ⟨k11, k12⟩ | w10
    · skip
      have k12 := k12.symm
      subst k12
      refine r_if_eq_t 22 46 C dX11_code_22 (by decide) (by decide) ?_
      refine r_iconst 46 (-1) C dX11_code_46 (by decide) ?_
      exact r_iret 47 Rt dX11_code_47 () (show -1 ≤ (Int32.toInt (-1)) ∧ (Int32.toInt (-1)) ≤ 255 ∧ CND ((Int32.toInt x0) = 0 ∧ (HASP (Int32.toInt x7) (Int32.toInt x9) fn1 40 (Int32.toInt x1) → VALK (GB fn0 (Int32.toInt x6)) (Int32.toInt x7) (Int32.toInt x9) (Int32.toInt x8) fn1 fn2 (Int32.toInt x1))) (CCO (GB fn0 (Int32.toInt x6)) (Int32.toInt x7) (Int32.toInt x9) (Int32.toInt x8) fn1 fn2 40 (Int32.toInt x1) (Int32.toInt x2) (-1)) ∧ CND ((Int32.toInt x0) = 1 ∧ (HASP (Int32.toInt x10) (Int32.toInt x12) fn3 200 (Int32.toInt x1) → VALK (GB fn0 (Int32.toInt x6)) (Int32.toInt x10) (Int32.toInt x12) (Int32.toInt x11) fn3 fn4 (Int32.toInt x1))) (CCO (GB fn0 (Int32.toInt x6)) (Int32.toInt x10) (Int32.toInt x12) (Int32.toInt x11) fn3 fn4 200 (Int32.toInt x1) (Int32.toInt x2) (-1)) ∧ CND ((Int32.toInt x0) = 2 ∧ (HASP (Int32.toInt x13) (Int32.toInt x15) fn5 0 (Int32.toInt x1) → VALK (GB fn0 (Int32.toInt x6)) (Int32.toInt x13) (Int32.toInt x15) (Int32.toInt x14) fn5 nof (Int32.toInt x1))) (CCO (GB fn0 (Int32.toInt x6)) (Int32.toInt x13) (Int32.toInt x15) (Int32.toInt x14) fn5 nof 0 (Int32.toInt x1) (Int32.toInt x2) (-1)) ∧ ((0 ≤ (Int32.toInt x0) ∧ (Int32.toInt x0) ≤ 2) ∨ (-1) = -1) from ⟨(by ((repeat' apply And.intro) <;> first | trivial | rfl | assumption | omega | decide | exact Or.inl rfl | exact Or.inr (Or.inl rfl) | exact Or.inr (Or.inr rfl))), (by ((repeat' apply And.intro) <;> first | trivial | rfl | assumption | omega | decide | exact Or.inl rfl | exact Or.inr (Or.inl rfl) | exact Or.inr (Or.inr rfl))), (by first | exact fun h_9 => absurd h_9.1 (by omega) | exact fun h_9 => cco_no (by first | exact Or.inl (hsb_0 (hsb_k p9 (by omega)) (by first | rfl | omega)) | exact Or.inr (by omega)) rfl), (by first | exact fun h_9 => absurd h_9.1 (by omega) | exact fun h_9 => cco_no (by first | exact Or.inl (hsb_0 (hsb_k p9 (by omega)) (by first | rfl | omega)) | exact Or.inr (by omega)) rfl), (by first | exact fun h_9 => absurd h_9.1 (by omega) | exact fun h_9 => cco_no (by first | exact Or.inl (hsb_0 (hsb_k p9 (by omega)) (by first | rfl | omega)) | exact Or.inr (by omega)) rfl), (by ((repeat' apply And.intro) <;> first | trivial | rfl | assumption | omega | decide | exact Or.inl rfl | exact Or.inr (Or.inl rfl) | exact Or.inr (Or.inr rfl)))⟩) [0, 9, 1, 10, 2, 3, 4, 11, 5, 6, 7, 8] (by decide) rfl (Nat.le_of_ble_eq_true rfl) (Nat.le_of_ble_eq_true rfl)
    rcases w10 with ⟨k13, k14, k15⟩ | w10
    · skip
      have k15 := k15.symm
      subst k15
      refine r_if_eq_f 22 46 C dX11_code_22 (by decide) (by decide) ?_
      refine r_iload_n 25 4 C dX11_code_25 rfl ?_
      refine r_if_lt 26 46 C dX11_code_26 (by decide) (fun c16 => ?_) (fun c16 => ?_)
      · skip
        have k17 : (Int32.toInt x2) < 0 := (fa_lt x2 0).mp c16
        refine r_iconst 46 (-1) C dX11_code_46 (by decide) ?_
        exact r_iret 47 Rt dX11_code_47 () (show -1 ≤ (Int32.toInt (-1)) ∧ (Int32.toInt (-1)) ≤ 255 ∧ CND ((Int32.toInt x0) = 0 ∧ (HASP (Int32.toInt x7) (Int32.toInt x9) fn1 40 (Int32.toInt x1) → VALK (GB fn0 (Int32.toInt x6)) (Int32.toInt x7) (Int32.toInt x9) (Int32.toInt x8) fn1 fn2 (Int32.toInt x1))) (CCO (GB fn0 (Int32.toInt x6)) (Int32.toInt x7) (Int32.toInt x9) (Int32.toInt x8) fn1 fn2 40 (Int32.toInt x1) (Int32.toInt x2) (-1)) ∧ CND ((Int32.toInt x0) = 1 ∧ (HASP (Int32.toInt x10) (Int32.toInt x12) fn3 200 (Int32.toInt x1) → VALK (GB fn0 (Int32.toInt x6)) (Int32.toInt x10) (Int32.toInt x12) (Int32.toInt x11) fn3 fn4 (Int32.toInt x1))) (CCO (GB fn0 (Int32.toInt x6)) (Int32.toInt x10) (Int32.toInt x12) (Int32.toInt x11) fn3 fn4 200 (Int32.toInt x1) (Int32.toInt x2) (-1)) ∧ CND ((Int32.toInt x0) = 2 ∧ (HASP (Int32.toInt x13) (Int32.toInt x15) fn5 0 (Int32.toInt x1) → VALK (GB fn0 (Int32.toInt x6)) (Int32.toInt x13) (Int32.toInt x15) (Int32.toInt x14) fn5 nof (Int32.toInt x1))) (CCO (GB fn0 (Int32.toInt x6)) (Int32.toInt x13) (Int32.toInt x15) (Int32.toInt x14) fn5 nof 0 (Int32.toInt x1) (Int32.toInt x2) (-1)) ∧ ((0 ≤ (Int32.toInt x0) ∧ (Int32.toInt x0) ≤ 2) ∨ (-1) = -1) from ⟨(by ((repeat' apply And.intro) <;> first | trivial | rfl | assumption | omega | decide | exact Or.inl rfl | exact Or.inr (Or.inl rfl) | exact Or.inr (Or.inr rfl))), (by ((repeat' apply And.intro) <;> first | trivial | rfl | assumption | omega | decide | exact Or.inl rfl | exact Or.inr (Or.inl rfl) | exact Or.inr (Or.inr rfl))), (by first | exact fun h_9 => absurd h_9.1 (by omega) | exact fun h_9 => cco_no (by first | exact Or.inl (hsb_0 (hsb_k p9 (by omega)) (by first | rfl | omega)) | exact Or.inr (by omega)) rfl), (by first | exact fun h_9 => absurd h_9.1 (by omega) | exact fun h_9 => cco_no (by first | exact Or.inl (hsb_0 (hsb_k p9 (by omega)) (by first | rfl | omega)) | exact Or.inr (by omega)) rfl), (by first | exact fun h_9 => absurd h_9.1 (by omega) | exact fun h_9 => cco_no (by first | exact Or.inl (hsb_0 (hsb_k p9 (by omega)) (by first | rfl | omega)) | exact Or.inr (by omega)) rfl), (by ((repeat' apply And.intro) <;> first | trivial | rfl | assumption | omega | decide | exact Or.inl rfl | exact Or.inr (Or.inl rfl) | exact Or.inr (Or.inr rfl)))⟩) [0, 9, 1, 10, 2, 3, 4, 11, 5, 6, 7, 8] (by decide) rfl (Nat.le_of_ble_eq_true rfl) (Nat.le_of_ble_eq_true rfl)
      · skip
        have k18 : ¬ ((Int32.toInt x2) < 0) := fun h_9 => c16 ((fa_lt x2 0).mpr h_9)
        refine r_iload_n 29 4 C dX11_code_29 rfl ?_
        refine r_aload 30 0 C dX11_code_30 rfl ?_
        refine r_iload_n 32 3 C dX11_code_32 rfl ?_
        refine r_callVi 33 C dX11_code_33 [.int x2] [(h3, .inr (7, [.ref h2, .ref h7, .ref h8, .int x7, .int x8, .int x9])), (h2, .inr (4, [.ref h6, .int x6])), (h7, .inl (gI g, 40, .inl fn1)), (h8, .inl (gI g, 40, .inl fn2)), (h6, .inl (gB g, 1500, .inl fn0))] [(h0, .inr (10, [.ref h12, .ref h13, .ref h1, .ref h14, .ref h15, .ref h16, .ref h17, .ref h18, .ref h19, vv0])), (h4, .inr (7, [.ref h2, .ref h9, .ref h10, .int x10, .int x11, .int x12])), (h5, .inr (7, [.ref h2, .ref h11, .ref h20, .int x13, .int x14, .int x15])), (h9, .inl (gI g, 200, .inl fn3)), (h10, .inl (gI g, 200, .inl fn4)), (h11, .inl (gI g, 0, .inl fn5)), (h1, .inr (3, [.ref h2, .ref h3, .ref h4, .ref h5, .int x3, .int x4, .int x5]))] (fun sz => c31_X8_finishOf l g h3 h2 h7 h8 h6 x1 x7 x8 x9 x6 fn1 fn2 fn0 i_x6 sz) gX11_code_X8_finishOf rfl ⟨rfl, rfl⟩ 1 (by decide) ⟨Nat.le_of_ble_eq_true rfl, Nat.le_of_ble_eq_true rfl⟩ 10 rfl rfl [10, 1, 11, 5, 4] [0, 2, 3, 6, 7, 8, 9] rfl rfl (by decide) (by decide) (by decide) rfl rfl (Nat.le_of_ble_eq_true rfl) ⟨Nat.le_of_ble_eq_true rfl, Nat.le_of_ble_eq_true rfl⟩ (fun r19 _ w20 => ?_)
        refine r_ws [(h0, .inr (10, [.ref h12, .ref h13, .ref h1, .ref h14, .ref h15, .ref h16, .ref h17, .ref h18, .ref h19, vv0])), (h4, .inr (7, [.ref h2, .ref h9, .ref h10, .int x10, .int x11, .int x12])), (h5, .inr (7, [.ref h2, .ref h11, .ref h20, .int x13, .int x14, .int x15])), (h9, .inl (gI g, 200, .inl fn3)), (h10, .inl (gI g, 200, .inl fn4)), (h11, .inl (gI g, 0, .inl fn5)), (h1, .inr (3, [.ref h2, .ref h3, .ref h4, .ref h5, .int x3, .int x4, .int x5])), (h3, .inr (7, [.ref h2, .ref h7, .ref h8, .int x7, .int x8, .int x9])), (h2, .inr (4, [.ref h6, .int x6])), (h7, .inl (gI g, 40, .inl fn1)), (h8, .inl (gI g, 40, .inl fn2)), (h6, .inl (gB g, 1500, .inl fn0))] rfl ?_
        have p21 : CND (FOK (GB fn0 (Int32.toInt x6)) (Int32.toInt x7) (Int32.toInt x9) (Int32.toInt x8) fn1 fn2 40 (Int32.toInt x1)) ((Int32.toInt r19) = FINE (GB fn0 (Int32.toInt x6)) (Int32.toInt x7) (Int32.toInt x9) (Int32.toInt x8) fn2 (Int32.toInt x1)) := w20
        have gr19 := fb_rng r19
        refine r_aload 36 0 C dX11_code_36 rfl ?_
        refine r_iload_n 38 3 C dX11_code_38 rfl ?_
        refine r_callVi 39 C dX11_code_39 [.int r19, .int x2] [(h3, .inr (7, [.ref h2, .ref h7, .ref h8, .int x7, .int x8, .int x9])), (h2, .inr (4, [.ref h6, .int x6])), (h7, .inl (gI g, 40, .inl fn1)), (h6, .inl (gB g, 1500, .inl fn0))] [(h0, .inr (10, [.ref h12, .ref h13, .ref h1, .ref h14, .ref h15, .ref h16, .ref h17, .ref h18, .ref h19, vv0])), (h4, .inr (7, [.ref h2, .ref h9, .ref h10, .int x10, .int x11, .int x12])), (h5, .inr (7, [.ref h2, .ref h11, .ref h20, .int x13, .int x14, .int x15])), (h9, .inl (gI g, 200, .inl fn3)), (h10, .inl (gI g, 200, .inl fn4)), (h11, .inl (gI g, 0, .inl fn5)), (h1, .inr (3, [.ref h2, .ref h3, .ref h4, .ref h5, .int x3, .int x4, .int x5])), (h8, .inl (gI g, 40, .inl fn2))] (fun sz => c32_X8_beginOf l g h3 h2 h7 h6 x1 h8 x7 x8 x9 x6 fn1 fn0 i_x6 sz) gX11_code_X8_beginOf rfl ⟨rfl, rfl⟩ 1 (by decide) ⟨Nat.le_of_ble_eq_true rfl, Nat.le_of_ble_eq_true rfl⟩ 7 rfl rfl [7, 8, 9, 11] [0, 1, 2, 3, 4, 5, 6, 10] rfl rfl (by decide) (by decide) (by decide) rfl rfl (Nat.le_of_ble_eq_true rfl) ⟨Nat.le_of_ble_eq_true rfl, Nat.le_of_ble_eq_true rfl⟩ (fun r22 _ w23 => ?_)
        refine r_ws [(h0, .inr (10, [.ref h12, .ref h13, .ref h1, .ref h14, .ref h15, .ref h16, .ref h17, .ref h18, .ref h19, vv0])), (h4, .inr (7, [.ref h2, .ref h9, .ref h10, .int x10, .int x11, .int x12])), (h5, .inr (7, [.ref h2, .ref h11, .ref h20, .int x13, .int x14, .int x15])), (h9, .inl (gI g, 200, .inl fn3)), (h10, .inl (gI g, 200, .inl fn4)), (h11, .inl (gI g, 0, .inl fn5)), (h1, .inr (3, [.ref h2, .ref h3, .ref h4, .ref h5, .int x3, .int x4, .int x5])), (h8, .inl (gI g, 40, .inl fn2)), (h3, .inr (7, [.ref h2, .ref h7, .ref h8, .int x7, .int x8, .int x9])), (h2, .inr (4, [.ref h6, .int x6])), (h7, .inl (gI g, 40, .inl fn1)), (h6, .inl (gB g, 1500, .inl fn0))] rfl ?_
        have p24 : CND (BOK (GB fn0 (Int32.toInt x6)) (Int32.toInt x7) (Int32.toInt x9) (Int32.toInt x8) fn1 40 (Int32.toInt x1)) ((Int32.toInt r22) = BEGE (GB fn0 (Int32.toInt x6)) (Int32.toInt x7) (Int32.toInt x9) (Int32.toInt x8) fn1 (Int32.toInt x1)) := w23
        have gr22 := fb_rng r22
        obtain ⟨z25, ez25⟩ : ∃ z_9, r19 - r22 = z_9 := ⟨_, rfl⟩
        have gz25 := fb_rng z25
        refine r_isub 42 z25 C dX11_code_42 ez25 ?_
        refine r_icmp_lt 43 48 C dX11_code_43 (by decide) (fun c26 => ?_) (fun c26 => ?_)
        · skip
          have k27 : (Int32.toInt x2) < (Int32.toInt z25) := (fa_lt x2 z25).mp c26
          refine r_aload_n 48 1 C dX11_code_48 rfl ?_
          refine r_get 49 C dX11_code_49 (k := 2) 0 rfl rfl hiX11 (by decide) rfl (mg 1 rfl) (Or.inl rfl) rfl ?_
          refine r_getN 52 C dX11_code_52 (k := 0) 6 rfl rfl hiX3 (by decide) rfl (mg 4 rfl) rfl rfl ?_
          refine r_aload 55 0 C dX11_code_55 rfl ?_
          refine r_iload_n 57 3 C dX11_code_57 rfl ?_
          refine r_callVi 58 C dX11_code_58 [.ref h2] [(h3, .inr (7, [.ref h2, .ref h7, .ref h8, .int x7, .int x8, .int x9])), (h2, .inr (4, [.ref h6, .int x6])), (h7, .inl (gI g, 40, .inl fn1)), (h6, .inl (gB g, 1500, .inl fn0))] [(h0, .inr (10, [.ref h12, .ref h13, .ref h1, .ref h14, .ref h15, .ref h16, .ref h17, .ref h18, .ref h19, vv0])), (h4, .inr (7, [.ref h2, .ref h9, .ref h10, .int x10, .int x11, .int x12])), (h5, .inr (7, [.ref h2, .ref h11, .ref h20, .int x13, .int x14, .int x15])), (h9, .inl (gI g, 200, .inl fn3)), (h10, .inl (gI g, 200, .inl fn4)), (h11, .inl (gI g, 0, .inl fn5)), (h1, .inr (3, [.ref h2, .ref h3, .ref h4, .ref h5, .int x3, .int x4, .int x5])), (h8, .inl (gI g, 40, .inl fn2))] (fun sz => c32_X8_beginOf l g h3 h2 h7 h6 x1 h8 x7 x8 x9 x6 fn1 fn0 i_x6 sz) gX11_code_X8_beginOf rfl ⟨rfl, rfl⟩ 1 (by decide) ⟨Nat.le_of_ble_eq_true rfl, Nat.le_of_ble_eq_true rfl⟩ 8 rfl rfl [8, 9, 10, 11] [0, 1, 2, 3, 4, 5, 6, 7] rfl rfl (by decide) (by decide) (by decide) rfl rfl (Nat.le_of_ble_eq_true rfl) ⟨Nat.le_of_ble_eq_true rfl, Nat.le_of_ble_eq_true rfl⟩ (fun r28 _ w29 => ?_)
          refine r_ws [(h0, .inr (10, [.ref h12, .ref h13, .ref h1, .ref h14, .ref h15, .ref h16, .ref h17, .ref h18, .ref h19, vv0])), (h4, .inr (7, [.ref h2, .ref h9, .ref h10, .int x10, .int x11, .int x12])), (h5, .inr (7, [.ref h2, .ref h11, .ref h20, .int x13, .int x14, .int x15])), (h9, .inl (gI g, 200, .inl fn3)), (h10, .inl (gI g, 200, .inl fn4)), (h11, .inl (gI g, 0, .inl fn5)), (h1, .inr (3, [.ref h2, .ref h3, .ref h4, .ref h5, .int x3, .int x4, .int x5])), (h8, .inl (gI g, 40, .inl fn2)), (h3, .inr (7, [.ref h2, .ref h7, .ref h8, .int x7, .int x8, .int x9])), (h2, .inr (4, [.ref h6, .int x6])), (h7, .inl (gI g, 40, .inl fn1)), (h6, .inl (gB g, 1500, .inl fn0))] rfl ?_
          have p30 : CND (BOK (GB fn0 (Int32.toInt x6)) (Int32.toInt x7) (Int32.toInt x9) (Int32.toInt x8) fn1 40 (Int32.toInt x1)) ((Int32.toInt r28) = BEGE (GB fn0 (Int32.toInt x6)) (Int32.toInt x7) (Int32.toInt x9) (Int32.toInt x8) fn1 (Int32.toInt x1)) := w29
          have gr28 := fb_rng r28
          refine r_iload_n 61 4 C dX11_code_61 rfl ?_
          obtain ⟨z31, ez31⟩ : ∃ z_9, r28 + x2 = z_9 := ⟨_, rfl⟩
          have gz31 := fb_rng z31
          refine r_iadd 62 z31 C dX11_code_62 ez31 ?_
          obtain ⟨z32, ez32⟩ : ∃ z_9, Int32.toInt64 z31 = z_9 := ⟨_, rfl⟩
          have tz32 : (Int64.toInt z32) = (Int32.toInt z31) := by rw [← ez32]; exact Int32.toInt_toInt64 _
          refine r_i2l 63 z32 C dX11_code_63 ez32 ?_
          refine r_callVi 64 C dX11_code_64 [] [(h2, .inr (4, [.ref h6, .int x6])), (h6, .inl (gB g, 1500, .inl fn0))] [(h0, .inr (10, [.ref h12, .ref h13, .ref h1, .ref h14, .ref h15, .ref h16, .ref h17, .ref h18, .ref h19, vv0])), (h4, .inr (7, [.ref h2, .ref h9, .ref h10, .int x10, .int x11, .int x12])), (h5, .inr (7, [.ref h2, .ref h11, .ref h20, .int x13, .int x14, .int x15])), (h9, .inl (gI g, 200, .inl fn3)), (h10, .inl (gI g, 200, .inl fn4)), (h11, .inl (gI g, 0, .inl fn5)), (h1, .inr (3, [.ref h2, .ref h3, .ref h4, .ref h5, .int x3, .int x4, .int x5])), (h8, .inl (gI g, 40, .inl fn2)), (h3, .inr (7, [.ref h2, .ref h7, .ref h8, .int x7, .int x8, .int x9])), (h7, .inl (gI g, 40, .inl fn1))] (fun sz => c14_X5_get l g h2 h6 z32 x6 fn0 i_x6 sz) gX11_code_X5_get rfl ⟨rfl, rfl⟩ 1 (by decide) ⟨Nat.le_of_ble_eq_true rfl, Nat.le_of_ble_eq_true rfl⟩ 9 rfl rfl [9, 11] [0, 1, 2, 3, 4, 5, 6, 7, 8, 10] rfl rfl (by decide) (by decide) (by decide) rfl rfl (Nat.le_of_ble_eq_true rfl) ⟨Nat.le_of_ble_eq_true rfl, Nat.le_of_ble_eq_true rfl⟩ (fun r33 _ w34 => ?_)
          refine r_ws [(h0, .inr (10, [.ref h12, .ref h13, .ref h1, .ref h14, .ref h15, .ref h16, .ref h17, .ref h18, .ref h19, vv0])), (h4, .inr (7, [.ref h2, .ref h9, .ref h10, .int x10, .int x11, .int x12])), (h5, .inr (7, [.ref h2, .ref h11, .ref h20, .int x13, .int x14, .int x15])), (h9, .inl (gI g, 200, .inl fn3)), (h10, .inl (gI g, 200, .inl fn4)), (h11, .inl (gI g, 0, .inl fn5)), (h1, .inr (3, [.ref h2, .ref h3, .ref h4, .ref h5, .int x3, .int x4, .int x5])), (h8, .inl (gI g, 40, .inl fn2)), (h3, .inr (7, [.ref h2, .ref h7, .ref h8, .int x7, .int x8, .int x9])), (h7, .inl (gI g, 40, .inl fn1)), (h2, .inr (4, [.ref h6, .int x6])), (h6, .inl (gB g, 1500, .inl fn0))] rfl ?_
          have p35 : -1 ≤ (Int32.toInt r33) := w34.1
          have p36 : (Int32.toInt r33) ≤ 255 := w34.2.1
          have p37 : HID ((0 ≤ (Int64.toInt z32) ∧ (Int64.toInt z32) < (Int32.toInt x6) ∧ r33 = (fn0 (Int.toNat (Int64.toInt z32)) &&& 255)) ∨ (((Int64.toInt z32) < 0 ∨ (Int32.toInt x6) ≤ (Int64.toInt z32)) ∧ r33 = -1)) := w34.2.2.1
          have p38 : (Int32.toInt r33) = GB fn0 (Int32.toInt x6) (Int64.toInt z32) := w34.2.2.2
          exact r_iret 67 Rt dX11_code_67 () (show -1 ≤ (Int32.toInt r33) ∧ (Int32.toInt r33) ≤ 255 ∧ CND ((Int32.toInt x0) = 0 ∧ (HASP (Int32.toInt x7) (Int32.toInt x9) fn1 40 (Int32.toInt x1) → VALK (GB fn0 (Int32.toInt x6)) (Int32.toInt x7) (Int32.toInt x9) (Int32.toInt x8) fn1 fn2 (Int32.toInt x1))) (CCO (GB fn0 (Int32.toInt x6)) (Int32.toInt x7) (Int32.toInt x9) (Int32.toInt x8) fn1 fn2 40 (Int32.toInt x1) (Int32.toInt x2) (Int32.toInt r33)) ∧ CND ((Int32.toInt x0) = 1 ∧ (HASP (Int32.toInt x10) (Int32.toInt x12) fn3 200 (Int32.toInt x1) → VALK (GB fn0 (Int32.toInt x6)) (Int32.toInt x10) (Int32.toInt x12) (Int32.toInt x11) fn3 fn4 (Int32.toInt x1))) (CCO (GB fn0 (Int32.toInt x6)) (Int32.toInt x10) (Int32.toInt x12) (Int32.toInt x11) fn3 fn4 200 (Int32.toInt x1) (Int32.toInt x2) (Int32.toInt r33)) ∧ CND ((Int32.toInt x0) = 2 ∧ (HASP (Int32.toInt x13) (Int32.toInt x15) fn5 0 (Int32.toInt x1) → VALK (GB fn0 (Int32.toInt x6)) (Int32.toInt x13) (Int32.toInt x15) (Int32.toInt x14) fn5 nof (Int32.toInt x1))) (CCO (GB fn0 (Int32.toInt x6)) (Int32.toInt x13) (Int32.toInt x15) (Int32.toInt x14) fn5 nof 0 (Int32.toInt x1) (Int32.toInt x2) (Int32.toInt r33)) ∧ ((0 ≤ (Int32.toInt x0) ∧ (Int32.toInt x0) ≤ 2) ∨ (Int32.toInt r33) = -1) from ⟨(show _ ∧ _ from ⟨p35, p36⟩).1, (show _ ∧ _ from ⟨p35, p36⟩).2, (by first | exact fun h_9 => absurd h_9.1 (by omega) | exact fun h_9 => cco_get (hsb_1 (hsb_k p9 (by omega)) (by first | decide | omega)) h_9.2 p21 p24 (by assumption) (by omega) (by omega) p30 (by assumption) p38 (by omega)), (by first | exact fun h_9 => absurd h_9.1 (by omega) | exact fun h_9 => cco_get (hsb_1 (hsb_k p9 (by omega)) (by first | decide | omega)) h_9.2 p21 p24 (by assumption) (by omega) (by omega) p30 (by assumption) p38 (by omega)), (by first | exact fun h_9 => absurd h_9.1 (by omega) | exact fun h_9 => cco_get (hsb_1 (hsb_k p9 (by omega)) (by first | decide | omega)) h_9.2 p21 p24 (by assumption) (by omega) (by omega) p30 (by assumption) p38 (by omega)), (by ((repeat' apply And.intro) <;> first | trivial | rfl | assumption | omega | decide | exact Or.inl rfl | exact Or.inr (Or.inl rfl) | exact Or.inr (Or.inr rfl)))⟩) [0, 6, 10, 8, 1, 2, 11, 9, 7, 3, 4, 5] (by decide) rfl (Nat.le_of_ble_eq_true rfl) (Nat.le_of_ble_eq_true rfl)
        · skip
          have k39 : ¬ ((Int32.toInt x2) < (Int32.toInt z25)) := fun h_9 => c26 ((fa_lt x2 z25).mpr h_9)
          refine r_iconst 46 (-1) C dX11_code_46 (by decide) ?_
          exact r_iret 47 Rt dX11_code_47 () (show -1 ≤ (Int32.toInt (-1)) ∧ (Int32.toInt (-1)) ≤ 255 ∧ CND ((Int32.toInt x0) = 0 ∧ (HASP (Int32.toInt x7) (Int32.toInt x9) fn1 40 (Int32.toInt x1) → VALK (GB fn0 (Int32.toInt x6)) (Int32.toInt x7) (Int32.toInt x9) (Int32.toInt x8) fn1 fn2 (Int32.toInt x1))) (CCO (GB fn0 (Int32.toInt x6)) (Int32.toInt x7) (Int32.toInt x9) (Int32.toInt x8) fn1 fn2 40 (Int32.toInt x1) (Int32.toInt x2) (-1)) ∧ CND ((Int32.toInt x0) = 1 ∧ (HASP (Int32.toInt x10) (Int32.toInt x12) fn3 200 (Int32.toInt x1) → VALK (GB fn0 (Int32.toInt x6)) (Int32.toInt x10) (Int32.toInt x12) (Int32.toInt x11) fn3 fn4 (Int32.toInt x1))) (CCO (GB fn0 (Int32.toInt x6)) (Int32.toInt x10) (Int32.toInt x12) (Int32.toInt x11) fn3 fn4 200 (Int32.toInt x1) (Int32.toInt x2) (-1)) ∧ CND ((Int32.toInt x0) = 2 ∧ (HASP (Int32.toInt x13) (Int32.toInt x15) fn5 0 (Int32.toInt x1) → VALK (GB fn0 (Int32.toInt x6)) (Int32.toInt x13) (Int32.toInt x15) (Int32.toInt x14) fn5 nof (Int32.toInt x1))) (CCO (GB fn0 (Int32.toInt x6)) (Int32.toInt x13) (Int32.toInt x15) (Int32.toInt x14) fn5 nof 0 (Int32.toInt x1) (Int32.toInt x2) (-1)) ∧ ((0 ≤ (Int32.toInt x0) ∧ (Int32.toInt x0) ≤ 2) ∨ (-1) = -1) from ⟨(by ((repeat' apply And.intro) <;> first | trivial | rfl | assumption | omega | decide | exact Or.inl rfl | exact Or.inr (Or.inl rfl) | exact Or.inr (Or.inr rfl))), (by ((repeat' apply And.intro) <;> first | trivial | rfl | assumption | omega | decide | exact Or.inl rfl | exact Or.inr (Or.inl rfl) | exact Or.inr (Or.inr rfl))), (by first | exact fun h_9 => absurd h_9.1 (by omega) | exact fun h_9 => cco_ge (hsb_1 (hsb_k p9 (by omega)) (by first | decide | omega)) h_9.2 p21 p24 (by assumption) (by omega) rfl), (by first | exact fun h_9 => absurd h_9.1 (by omega) | exact fun h_9 => cco_ge (hsb_1 (hsb_k p9 (by omega)) (by first | decide | omega)) h_9.2 p21 p24 (by assumption) (by omega) rfl), (by first | exact fun h_9 => absurd h_9.1 (by omega) | exact fun h_9 => cco_ge (hsb_1 (hsb_k p9 (by omega)) (by first | decide | omega)) h_9.2 p21 p24 (by assumption) (by omega) rfl), (by ((repeat' apply And.intro) <;> first | trivial | rfl | assumption | omega | decide | exact Or.inl rfl | exact Or.inr (Or.inl rfl) | exact Or.inr (Or.inr rfl)))⟩) [0, 6, 9, 8, 1, 2, 11, 10, 7, 3, 4, 5] (by decide) rfl (Nat.le_of_ble_eq_true rfl) (Nat.le_of_ble_eq_true rfl)
    rcases w10 with ⟨k40, k41, k42, k43⟩ | w10
    · skip
      have k43 := k43.symm
      subst k43
      refine r_if_eq_t 22 46 C dX11_code_22 (by decide) (by decide) ?_
      refine r_iconst 46 (-1) C dX11_code_46 (by decide) ?_
      exact r_iret 47 Rt dX11_code_47 () (show -1 ≤ (Int32.toInt (-1)) ∧ (Int32.toInt (-1)) ≤ 255 ∧ CND ((Int32.toInt x0) = 0 ∧ (HASP (Int32.toInt x7) (Int32.toInt x9) fn1 40 (Int32.toInt x1) → VALK (GB fn0 (Int32.toInt x6)) (Int32.toInt x7) (Int32.toInt x9) (Int32.toInt x8) fn1 fn2 (Int32.toInt x1))) (CCO (GB fn0 (Int32.toInt x6)) (Int32.toInt x7) (Int32.toInt x9) (Int32.toInt x8) fn1 fn2 40 (Int32.toInt x1) (Int32.toInt x2) (-1)) ∧ CND ((Int32.toInt x0) = 1 ∧ (HASP (Int32.toInt x10) (Int32.toInt x12) fn3 200 (Int32.toInt x1) → VALK (GB fn0 (Int32.toInt x6)) (Int32.toInt x10) (Int32.toInt x12) (Int32.toInt x11) fn3 fn4 (Int32.toInt x1))) (CCO (GB fn0 (Int32.toInt x6)) (Int32.toInt x10) (Int32.toInt x12) (Int32.toInt x11) fn3 fn4 200 (Int32.toInt x1) (Int32.toInt x2) (-1)) ∧ CND ((Int32.toInt x0) = 2 ∧ (HASP (Int32.toInt x13) (Int32.toInt x15) fn5 0 (Int32.toInt x1) → VALK (GB fn0 (Int32.toInt x6)) (Int32.toInt x13) (Int32.toInt x15) (Int32.toInt x14) fn5 nof (Int32.toInt x1))) (CCO (GB fn0 (Int32.toInt x6)) (Int32.toInt x13) (Int32.toInt x15) (Int32.toInt x14) fn5 nof 0 (Int32.toInt x1) (Int32.toInt x2) (-1)) ∧ ((0 ≤ (Int32.toInt x0) ∧ (Int32.toInt x0) ≤ 2) ∨ (-1) = -1) from ⟨(by ((repeat' apply And.intro) <;> first | trivial | rfl | assumption | omega | decide | exact Or.inl rfl | exact Or.inr (Or.inl rfl) | exact Or.inr (Or.inr rfl))), (by ((repeat' apply And.intro) <;> first | trivial | rfl | assumption | omega | decide | exact Or.inl rfl | exact Or.inr (Or.inl rfl) | exact Or.inr (Or.inr rfl))), (by first | exact fun h_9 => absurd h_9.1 (by omega) | exact fun h_9 => cco_no (by first | exact Or.inl (hsb_0 (hsb_k p9 (by omega)) (by first | rfl | omega)) | exact Or.inr (by omega)) rfl), (by first | exact fun h_9 => absurd h_9.1 (by omega) | exact fun h_9 => cco_no (by first | exact Or.inl (hsb_0 (hsb_k p9 (by omega)) (by first | rfl | omega)) | exact Or.inr (by omega)) rfl), (by first | exact fun h_9 => absurd h_9.1 (by omega) | exact fun h_9 => cco_no (by first | exact Or.inl (hsb_0 (hsb_k p9 (by omega)) (by first | rfl | omega)) | exact Or.inr (by omega)) rfl), (by ((repeat' apply And.intro) <;> first | trivial | rfl | assumption | omega | decide | exact Or.inl rfl | exact Or.inr (Or.inl rfl) | exact Or.inr (Or.inr rfl)))⟩) [0, 9, 1, 10, 2, 3, 4, 11, 5, 6, 7, 8] (by decide) rfl (Nat.le_of_ble_eq_true rfl) (Nat.le_of_ble_eq_true rfl)
    rcases w10 with ⟨k44, k45, k46, k47⟩ | w10
    · skip
      have k47 := k47.symm
      subst k47
      refine r_if_eq_t 22 46 C dX11_code_22 (by decide) (by decide) ?_
      refine r_iconst 46 (-1) C dX11_code_46 (by decide) ?_
      exact r_iret 47 Rt dX11_code_47 () (show -1 ≤ (Int32.toInt (-1)) ∧ (Int32.toInt (-1)) ≤ 255 ∧ CND ((Int32.toInt x0) = 0 ∧ (HASP (Int32.toInt x7) (Int32.toInt x9) fn1 40 (Int32.toInt x1) → VALK (GB fn0 (Int32.toInt x6)) (Int32.toInt x7) (Int32.toInt x9) (Int32.toInt x8) fn1 fn2 (Int32.toInt x1))) (CCO (GB fn0 (Int32.toInt x6)) (Int32.toInt x7) (Int32.toInt x9) (Int32.toInt x8) fn1 fn2 40 (Int32.toInt x1) (Int32.toInt x2) (-1)) ∧ CND ((Int32.toInt x0) = 1 ∧ (HASP (Int32.toInt x10) (Int32.toInt x12) fn3 200 (Int32.toInt x1) → VALK (GB fn0 (Int32.toInt x6)) (Int32.toInt x10) (Int32.toInt x12) (Int32.toInt x11) fn3 fn4 (Int32.toInt x1))) (CCO (GB fn0 (Int32.toInt x6)) (Int32.toInt x10) (Int32.toInt x12) (Int32.toInt x11) fn3 fn4 200 (Int32.toInt x1) (Int32.toInt x2) (-1)) ∧ CND ((Int32.toInt x0) = 2 ∧ (HASP (Int32.toInt x13) (Int32.toInt x15) fn5 0 (Int32.toInt x1) → VALK (GB fn0 (Int32.toInt x6)) (Int32.toInt x13) (Int32.toInt x15) (Int32.toInt x14) fn5 nof (Int32.toInt x1))) (CCO (GB fn0 (Int32.toInt x6)) (Int32.toInt x13) (Int32.toInt x15) (Int32.toInt x14) fn5 nof 0 (Int32.toInt x1) (Int32.toInt x2) (-1)) ∧ ((0 ≤ (Int32.toInt x0) ∧ (Int32.toInt x0) ≤ 2) ∨ (-1) = -1) from ⟨(by ((repeat' apply And.intro) <;> first | trivial | rfl | assumption | omega | decide | exact Or.inl rfl | exact Or.inr (Or.inl rfl) | exact Or.inr (Or.inr rfl))), (by ((repeat' apply And.intro) <;> first | trivial | rfl | assumption | omega | decide | exact Or.inl rfl | exact Or.inr (Or.inl rfl) | exact Or.inr (Or.inr rfl))), (by first | exact fun h_9 => absurd h_9.1 (by omega) | exact fun h_9 => cco_no (by first | exact Or.inl (hsb_0 (hsb_k p9 (by omega)) (by first | rfl | omega)) | exact Or.inr (by omega)) rfl), (by first | exact fun h_9 => absurd h_9.1 (by omega) | exact fun h_9 => cco_no (by first | exact Or.inl (hsb_0 (hsb_k p9 (by omega)) (by first | rfl | omega)) | exact Or.inr (by omega)) rfl), (by first | exact fun h_9 => absurd h_9.1 (by omega) | exact fun h_9 => cco_no (by first | exact Or.inl (hsb_0 (hsb_k p9 (by omega)) (by first | rfl | omega)) | exact Or.inr (by omega)) rfl), (by ((repeat' apply And.intro) <;> first | trivial | rfl | assumption | omega | decide | exact Or.inl rfl | exact Or.inr (Or.inl rfl) | exact Or.inr (Or.inr rfl)))⟩) [0, 9, 1, 10, 2, 3, 4, 11, 5, 6, 7, 8] (by decide) rfl (Nat.le_of_ble_eq_true rfl) (Nat.le_of_ble_eq_true rfl)
    rcases w10 with ⟨k48, k49, k50, k51⟩ | w10
    · skip
      have k51 := k51.symm
      subst k51
      refine r_if_eq_f 22 46 C dX11_code_22 (by decide) (by decide) ?_
      refine r_iload_n 25 4 C dX11_code_25 rfl ?_
      refine r_if_lt 26 46 C dX11_code_26 (by decide) (fun c52 => ?_) (fun c52 => ?_)
      · skip
        have k53 : (Int32.toInt x2) < 0 := (fa_lt x2 0).mp c52
        refine r_iconst 46 (-1) C dX11_code_46 (by decide) ?_
        exact r_iret 47 Rt dX11_code_47 () (show -1 ≤ (Int32.toInt (-1)) ∧ (Int32.toInt (-1)) ≤ 255 ∧ CND ((Int32.toInt x0) = 0 ∧ (HASP (Int32.toInt x7) (Int32.toInt x9) fn1 40 (Int32.toInt x1) → VALK (GB fn0 (Int32.toInt x6)) (Int32.toInt x7) (Int32.toInt x9) (Int32.toInt x8) fn1 fn2 (Int32.toInt x1))) (CCO (GB fn0 (Int32.toInt x6)) (Int32.toInt x7) (Int32.toInt x9) (Int32.toInt x8) fn1 fn2 40 (Int32.toInt x1) (Int32.toInt x2) (-1)) ∧ CND ((Int32.toInt x0) = 1 ∧ (HASP (Int32.toInt x10) (Int32.toInt x12) fn3 200 (Int32.toInt x1) → VALK (GB fn0 (Int32.toInt x6)) (Int32.toInt x10) (Int32.toInt x12) (Int32.toInt x11) fn3 fn4 (Int32.toInt x1))) (CCO (GB fn0 (Int32.toInt x6)) (Int32.toInt x10) (Int32.toInt x12) (Int32.toInt x11) fn3 fn4 200 (Int32.toInt x1) (Int32.toInt x2) (-1)) ∧ CND ((Int32.toInt x0) = 2 ∧ (HASP (Int32.toInt x13) (Int32.toInt x15) fn5 0 (Int32.toInt x1) → VALK (GB fn0 (Int32.toInt x6)) (Int32.toInt x13) (Int32.toInt x15) (Int32.toInt x14) fn5 nof (Int32.toInt x1))) (CCO (GB fn0 (Int32.toInt x6)) (Int32.toInt x13) (Int32.toInt x15) (Int32.toInt x14) fn5 nof 0 (Int32.toInt x1) (Int32.toInt x2) (-1)) ∧ ((0 ≤ (Int32.toInt x0) ∧ (Int32.toInt x0) ≤ 2) ∨ (-1) = -1) from ⟨(by ((repeat' apply And.intro) <;> first | trivial | rfl | assumption | omega | decide | exact Or.inl rfl | exact Or.inr (Or.inl rfl) | exact Or.inr (Or.inr rfl))), (by ((repeat' apply And.intro) <;> first | trivial | rfl | assumption | omega | decide | exact Or.inl rfl | exact Or.inr (Or.inl rfl) | exact Or.inr (Or.inr rfl))), (by first | exact fun h_9 => absurd h_9.1 (by omega) | exact fun h_9 => cco_no (by first | exact Or.inl (hsb_0 (hsb_k p9 (by omega)) (by first | rfl | omega)) | exact Or.inr (by omega)) rfl), (by first | exact fun h_9 => absurd h_9.1 (by omega) | exact fun h_9 => cco_no (by first | exact Or.inl (hsb_0 (hsb_k p9 (by omega)) (by first | rfl | omega)) | exact Or.inr (by omega)) rfl), (by first | exact fun h_9 => absurd h_9.1 (by omega) | exact fun h_9 => cco_no (by first | exact Or.inl (hsb_0 (hsb_k p9 (by omega)) (by first | rfl | omega)) | exact Or.inr (by omega)) rfl), (by ((repeat' apply And.intro) <;> first | trivial | rfl | assumption | omega | decide | exact Or.inl rfl | exact Or.inr (Or.inl rfl) | exact Or.inr (Or.inr rfl)))⟩) [0, 9, 1, 10, 2, 3, 4, 11, 5, 6, 7, 8] (by decide) rfl (Nat.le_of_ble_eq_true rfl) (Nat.le_of_ble_eq_true rfl)
      · skip
        have k54 : ¬ ((Int32.toInt x2) < 0) := fun h_9 => c52 ((fa_lt x2 0).mpr h_9)
        refine r_iload_n 29 4 C dX11_code_29 rfl ?_
        refine r_aload 30 0 C dX11_code_30 rfl ?_
        refine r_iload_n 32 3 C dX11_code_32 rfl ?_
        refine r_callVi 33 C dX11_code_33 [.int x2] [(h3, .inr (7, [.ref h2, .ref h7, .ref h8, .int x7, .int x8, .int x9])), (h2, .inr (4, [.ref h6, .int x6])), (h7, .inl (gI g, 40, .inl fn1)), (h8, .inl (gI g, 40, .inl fn2)), (h6, .inl (gB g, 1500, .inl fn0))] [(h0, .inr (10, [.ref h12, .ref h13, .ref h1, .ref h14, .ref h15, .ref h16, .ref h17, .ref h18, .ref h19, vv0])), (h4, .inr (7, [.ref h2, .ref h9, .ref h10, .int x10, .int x11, .int x12])), (h5, .inr (7, [.ref h2, .ref h11, .ref h20, .int x13, .int x14, .int x15])), (h9, .inl (gI g, 200, .inl fn3)), (h10, .inl (gI g, 200, .inl fn4)), (h11, .inl (gI g, 0, .inl fn5)), (h1, .inr (3, [.ref h2, .ref h3, .ref h4, .ref h5, .int x3, .int x4, .int x5]))] (fun sz => c31_X8_finishOf l g h3 h2 h7 h8 h6 x1 x7 x8 x9 x6 fn1 fn2 fn0 i_x6 sz) gX11_code_X8_finishOf rfl ⟨rfl, rfl⟩ 1 (by decide) ⟨Nat.le_of_ble_eq_true rfl, Nat.le_of_ble_eq_true rfl⟩ 10 rfl rfl [10, 1, 11, 5, 4] [0, 2, 3, 6, 7, 8, 9] rfl rfl (by decide) (by decide) (by decide) rfl rfl (Nat.le_of_ble_eq_true rfl) ⟨Nat.le_of_ble_eq_true rfl, Nat.le_of_ble_eq_true rfl⟩ (fun r55 _ w56 => ?_)
        refine r_ws [(h0, .inr (10, [.ref h12, .ref h13, .ref h1, .ref h14, .ref h15, .ref h16, .ref h17, .ref h18, .ref h19, vv0])), (h4, .inr (7, [.ref h2, .ref h9, .ref h10, .int x10, .int x11, .int x12])), (h5, .inr (7, [.ref h2, .ref h11, .ref h20, .int x13, .int x14, .int x15])), (h9, .inl (gI g, 200, .inl fn3)), (h10, .inl (gI g, 200, .inl fn4)), (h11, .inl (gI g, 0, .inl fn5)), (h1, .inr (3, [.ref h2, .ref h3, .ref h4, .ref h5, .int x3, .int x4, .int x5])), (h3, .inr (7, [.ref h2, .ref h7, .ref h8, .int x7, .int x8, .int x9])), (h2, .inr (4, [.ref h6, .int x6])), (h7, .inl (gI g, 40, .inl fn1)), (h8, .inl (gI g, 40, .inl fn2)), (h6, .inl (gB g, 1500, .inl fn0))] rfl ?_
        have p57 : CND (FOK (GB fn0 (Int32.toInt x6)) (Int32.toInt x7) (Int32.toInt x9) (Int32.toInt x8) fn1 fn2 40 (Int32.toInt x1)) ((Int32.toInt r55) = FINE (GB fn0 (Int32.toInt x6)) (Int32.toInt x7) (Int32.toInt x9) (Int32.toInt x8) fn2 (Int32.toInt x1)) := w56
        have gr55 := fb_rng r55
        refine r_aload 36 0 C dX11_code_36 rfl ?_
        refine r_iload_n 38 3 C dX11_code_38 rfl ?_
        refine r_callVi 39 C dX11_code_39 [.int r55, .int x2] [(h3, .inr (7, [.ref h2, .ref h7, .ref h8, .int x7, .int x8, .int x9])), (h2, .inr (4, [.ref h6, .int x6])), (h7, .inl (gI g, 40, .inl fn1)), (h6, .inl (gB g, 1500, .inl fn0))] [(h0, .inr (10, [.ref h12, .ref h13, .ref h1, .ref h14, .ref h15, .ref h16, .ref h17, .ref h18, .ref h19, vv0])), (h4, .inr (7, [.ref h2, .ref h9, .ref h10, .int x10, .int x11, .int x12])), (h5, .inr (7, [.ref h2, .ref h11, .ref h20, .int x13, .int x14, .int x15])), (h9, .inl (gI g, 200, .inl fn3)), (h10, .inl (gI g, 200, .inl fn4)), (h11, .inl (gI g, 0, .inl fn5)), (h1, .inr (3, [.ref h2, .ref h3, .ref h4, .ref h5, .int x3, .int x4, .int x5])), (h8, .inl (gI g, 40, .inl fn2))] (fun sz => c32_X8_beginOf l g h3 h2 h7 h6 x1 h8 x7 x8 x9 x6 fn1 fn0 i_x6 sz) gX11_code_X8_beginOf rfl ⟨rfl, rfl⟩ 1 (by decide) ⟨Nat.le_of_ble_eq_true rfl, Nat.le_of_ble_eq_true rfl⟩ 7 rfl rfl [7, 8, 9, 11] [0, 1, 2, 3, 4, 5, 6, 10] rfl rfl (by decide) (by decide) (by decide) rfl rfl (Nat.le_of_ble_eq_true rfl) ⟨Nat.le_of_ble_eq_true rfl, Nat.le_of_ble_eq_true rfl⟩ (fun r58 _ w59 => ?_)
        refine r_ws [(h0, .inr (10, [.ref h12, .ref h13, .ref h1, .ref h14, .ref h15, .ref h16, .ref h17, .ref h18, .ref h19, vv0])), (h4, .inr (7, [.ref h2, .ref h9, .ref h10, .int x10, .int x11, .int x12])), (h5, .inr (7, [.ref h2, .ref h11, .ref h20, .int x13, .int x14, .int x15])), (h9, .inl (gI g, 200, .inl fn3)), (h10, .inl (gI g, 200, .inl fn4)), (h11, .inl (gI g, 0, .inl fn5)), (h1, .inr (3, [.ref h2, .ref h3, .ref h4, .ref h5, .int x3, .int x4, .int x5])), (h8, .inl (gI g, 40, .inl fn2)), (h3, .inr (7, [.ref h2, .ref h7, .ref h8, .int x7, .int x8, .int x9])), (h2, .inr (4, [.ref h6, .int x6])), (h7, .inl (gI g, 40, .inl fn1)), (h6, .inl (gB g, 1500, .inl fn0))] rfl ?_
        have p60 : CND (BOK (GB fn0 (Int32.toInt x6)) (Int32.toInt x7) (Int32.toInt x9) (Int32.toInt x8) fn1 40 (Int32.toInt x1)) ((Int32.toInt r58) = BEGE (GB fn0 (Int32.toInt x6)) (Int32.toInt x7) (Int32.toInt x9) (Int32.toInt x8) fn1 (Int32.toInt x1)) := w59
        have gr58 := fb_rng r58
        obtain ⟨z61, ez61⟩ : ∃ z_9, r55 - r58 = z_9 := ⟨_, rfl⟩
        have gz61 := fb_rng z61
        refine r_isub 42 z61 C dX11_code_42 ez61 ?_
        refine r_icmp_lt 43 48 C dX11_code_43 (by decide) (fun c62 => ?_) (fun c62 => ?_)
        · skip
          have k63 : (Int32.toInt x2) < (Int32.toInt z61) := (fa_lt x2 z61).mp c62
          refine r_aload_n 48 1 C dX11_code_48 rfl ?_
          refine r_get 49 C dX11_code_49 (k := 2) 0 rfl rfl hiX11 (by decide) rfl (mg 1 rfl) (Or.inl rfl) rfl ?_
          refine r_getN 52 C dX11_code_52 (k := 0) 6 rfl rfl hiX3 (by decide) rfl (mg 4 rfl) rfl rfl ?_
          refine r_aload 55 0 C dX11_code_55 rfl ?_
          refine r_iload_n 57 3 C dX11_code_57 rfl ?_
          refine r_callVi 58 C dX11_code_58 [.ref h2] [(h3, .inr (7, [.ref h2, .ref h7, .ref h8, .int x7, .int x8, .int x9])), (h2, .inr (4, [.ref h6, .int x6])), (h7, .inl (gI g, 40, .inl fn1)), (h6, .inl (gB g, 1500, .inl fn0))] [(h0, .inr (10, [.ref h12, .ref h13, .ref h1, .ref h14, .ref h15, .ref h16, .ref h17, .ref h18, .ref h19, vv0])), (h4, .inr (7, [.ref h2, .ref h9, .ref h10, .int x10, .int x11, .int x12])), (h5, .inr (7, [.ref h2, .ref h11, .ref h20, .int x13, .int x14, .int x15])), (h9, .inl (gI g, 200, .inl fn3)), (h10, .inl (gI g, 200, .inl fn4)), (h11, .inl (gI g, 0, .inl fn5)), (h1, .inr (3, [.ref h2, .ref h3, .ref h4, .ref h5, .int x3, .int x4, .int x5])), (h8, .inl (gI g, 40, .inl fn2))] (fun sz => c32_X8_beginOf l g h3 h2 h7 h6 x1 h8 x7 x8 x9 x6 fn1 fn0 i_x6 sz) gX11_code_X8_beginOf rfl ⟨rfl, rfl⟩ 1 (by decide) ⟨Nat.le_of_ble_eq_true rfl, Nat.le_of_ble_eq_true rfl⟩ 8 rfl rfl [8, 9, 10, 11] [0, 1, 2, 3, 4, 5, 6, 7] rfl rfl (by decide) (by decide) (by decide) rfl rfl (Nat.le_of_ble_eq_true rfl) ⟨Nat.le_of_ble_eq_true rfl, Nat.le_of_ble_eq_true rfl⟩ (fun r64 _ w65 => ?_)
          refine r_ws [(h0, .inr (10, [.ref h12, .ref h13, .ref h1, .ref h14, .ref h15, .ref h16, .ref h17, .ref h18, .ref h19, vv0])), (h4, .inr (7, [.ref h2, .ref h9, .ref h10, .int x10, .int x11, .int x12])), (h5, .inr (7, [.ref h2, .ref h11, .ref h20, .int x13, .int x14, .int x15])), (h9, .inl (gI g, 200, .inl fn3)), (h10, .inl (gI g, 200, .inl fn4)), (h11, .inl (gI g, 0, .inl fn5)), (h1, .inr (3, [.ref h2, .ref h3, .ref h4, .ref h5, .int x3, .int x4, .int x5])), (h8, .inl (gI g, 40, .inl fn2)), (h3, .inr (7, [.ref h2, .ref h7, .ref h8, .int x7, .int x8, .int x9])), (h2, .inr (4, [.ref h6, .int x6])), (h7, .inl (gI g, 40, .inl fn1)), (h6, .inl (gB g, 1500, .inl fn0))] rfl ?_
          have p66 : CND (BOK (GB fn0 (Int32.toInt x6)) (Int32.toInt x7) (Int32.toInt x9) (Int32.toInt x8) fn1 40 (Int32.toInt x1)) ((Int32.toInt r64) = BEGE (GB fn0 (Int32.toInt x6)) (Int32.toInt x7) (Int32.toInt x9) (Int32.toInt x8) fn1 (Int32.toInt x1)) := w65
          have gr64 := fb_rng r64
          refine r_iload_n 61 4 C dX11_code_61 rfl ?_
          obtain ⟨z67, ez67⟩ : ∃ z_9, r64 + x2 = z_9 := ⟨_, rfl⟩
          have gz67 := fb_rng z67
          refine r_iadd 62 z67 C dX11_code_62 ez67 ?_
          obtain ⟨z68, ez68⟩ : ∃ z_9, Int32.toInt64 z67 = z_9 := ⟨_, rfl⟩
          have tz68 : (Int64.toInt z68) = (Int32.toInt z67) := by rw [← ez68]; exact Int32.toInt_toInt64 _
          refine r_i2l 63 z68 C dX11_code_63 ez68 ?_
          refine r_callVi 64 C dX11_code_64 [] [(h2, .inr (4, [.ref h6, .int x6])), (h6, .inl (gB g, 1500, .inl fn0))] [(h0, .inr (10, [.ref h12, .ref h13, .ref h1, .ref h14, .ref h15, .ref h16, .ref h17, .ref h18, .ref h19, vv0])), (h4, .inr (7, [.ref h2, .ref h9, .ref h10, .int x10, .int x11, .int x12])), (h5, .inr (7, [.ref h2, .ref h11, .ref h20, .int x13, .int x14, .int x15])), (h9, .inl (gI g, 200, .inl fn3)), (h10, .inl (gI g, 200, .inl fn4)), (h11, .inl (gI g, 0, .inl fn5)), (h1, .inr (3, [.ref h2, .ref h3, .ref h4, .ref h5, .int x3, .int x4, .int x5])), (h8, .inl (gI g, 40, .inl fn2)), (h3, .inr (7, [.ref h2, .ref h7, .ref h8, .int x7, .int x8, .int x9])), (h7, .inl (gI g, 40, .inl fn1))] (fun sz => c14_X5_get l g h2 h6 z68 x6 fn0 i_x6 sz) gX11_code_X5_get rfl ⟨rfl, rfl⟩ 1 (by decide) ⟨Nat.le_of_ble_eq_true rfl, Nat.le_of_ble_eq_true rfl⟩ 9 rfl rfl [9, 11] [0, 1, 2, 3, 4, 5, 6, 7, 8, 10] rfl rfl (by decide) (by decide) (by decide) rfl rfl (Nat.le_of_ble_eq_true rfl) ⟨Nat.le_of_ble_eq_true rfl, Nat.le_of_ble_eq_true rfl⟩ (fun r69 _ w70 => ?_)
          refine r_ws [(h0, .inr (10, [.ref h12, .ref h13, .ref h1, .ref h14, .ref h15, .ref h16, .ref h17, .ref h18, .ref h19, vv0])), (h4, .inr (7, [.ref h2, .ref h9, .ref h10, .int x10, .int x11, .int x12])), (h5, .inr (7, [.ref h2, .ref h11, .ref h20, .int x13, .int x14, .int x15])), (h9, .inl (gI g, 200, .inl fn3)), (h10, .inl (gI g, 200, .inl fn4)), (h11, .inl (gI g, 0, .inl fn5)), (h1, .inr (3, [.ref h2, .ref h3, .ref h4, .ref h5, .int x3, .int x4, .int x5])), (h8, .inl (gI g, 40, .inl fn2)), (h3, .inr (7, [.ref h2, .ref h7, .ref h8, .int x7, .int x8, .int x9])), (h7, .inl (gI g, 40, .inl fn1)), (h2, .inr (4, [.ref h6, .int x6])), (h6, .inl (gB g, 1500, .inl fn0))] rfl ?_
          have p71 : -1 ≤ (Int32.toInt r69) := w70.1
          have p72 : (Int32.toInt r69) ≤ 255 := w70.2.1
          have p73 : HID ((0 ≤ (Int64.toInt z68) ∧ (Int64.toInt z68) < (Int32.toInt x6) ∧ r69 = (fn0 (Int.toNat (Int64.toInt z68)) &&& 255)) ∨ (((Int64.toInt z68) < 0 ∨ (Int32.toInt x6) ≤ (Int64.toInt z68)) ∧ r69 = -1)) := w70.2.2.1
          have p74 : (Int32.toInt r69) = GB fn0 (Int32.toInt x6) (Int64.toInt z68) := w70.2.2.2
          exact r_iret 67 Rt dX11_code_67 () (show -1 ≤ (Int32.toInt r69) ∧ (Int32.toInt r69) ≤ 255 ∧ CND ((Int32.toInt x0) = 0 ∧ (HASP (Int32.toInt x7) (Int32.toInt x9) fn1 40 (Int32.toInt x1) → VALK (GB fn0 (Int32.toInt x6)) (Int32.toInt x7) (Int32.toInt x9) (Int32.toInt x8) fn1 fn2 (Int32.toInt x1))) (CCO (GB fn0 (Int32.toInt x6)) (Int32.toInt x7) (Int32.toInt x9) (Int32.toInt x8) fn1 fn2 40 (Int32.toInt x1) (Int32.toInt x2) (Int32.toInt r69)) ∧ CND ((Int32.toInt x0) = 1 ∧ (HASP (Int32.toInt x10) (Int32.toInt x12) fn3 200 (Int32.toInt x1) → VALK (GB fn0 (Int32.toInt x6)) (Int32.toInt x10) (Int32.toInt x12) (Int32.toInt x11) fn3 fn4 (Int32.toInt x1))) (CCO (GB fn0 (Int32.toInt x6)) (Int32.toInt x10) (Int32.toInt x12) (Int32.toInt x11) fn3 fn4 200 (Int32.toInt x1) (Int32.toInt x2) (Int32.toInt r69)) ∧ CND ((Int32.toInt x0) = 2 ∧ (HASP (Int32.toInt x13) (Int32.toInt x15) fn5 0 (Int32.toInt x1) → VALK (GB fn0 (Int32.toInt x6)) (Int32.toInt x13) (Int32.toInt x15) (Int32.toInt x14) fn5 nof (Int32.toInt x1))) (CCO (GB fn0 (Int32.toInt x6)) (Int32.toInt x13) (Int32.toInt x15) (Int32.toInt x14) fn5 nof 0 (Int32.toInt x1) (Int32.toInt x2) (Int32.toInt r69)) ∧ ((0 ≤ (Int32.toInt x0) ∧ (Int32.toInt x0) ≤ 2) ∨ (Int32.toInt r69) = -1) from ⟨(show _ ∧ _ from ⟨p71, p72⟩).1, (show _ ∧ _ from ⟨p71, p72⟩).2, (by first | exact fun h_9 => absurd h_9.1 (by omega) | exact fun h_9 => cco_get (hsb_1 (hsb_k p9 (by omega)) (by first | decide | omega)) h_9.2 p57 p60 (by assumption) (by omega) (by omega) p66 (by assumption) p74 (by omega)), (by first | exact fun h_9 => absurd h_9.1 (by omega) | exact fun h_9 => cco_get (hsb_1 (hsb_k p9 (by omega)) (by first | decide | omega)) h_9.2 p57 p60 (by assumption) (by omega) (by omega) p66 (by assumption) p74 (by omega)), (by first | exact fun h_9 => absurd h_9.1 (by omega) | exact fun h_9 => cco_get (hsb_1 (hsb_k p9 (by omega)) (by first | decide | omega)) h_9.2 p57 p60 (by assumption) (by omega) (by omega) p66 (by assumption) p74 (by omega)), (by ((repeat' apply And.intro) <;> first | trivial | rfl | assumption | omega | decide | exact Or.inl rfl | exact Or.inr (Or.inl rfl) | exact Or.inr (Or.inr rfl)))⟩) [0, 6, 10, 8, 1, 2, 11, 9, 7, 3, 4, 5] (by decide) rfl (Nat.le_of_ble_eq_true rfl) (Nat.le_of_ble_eq_true rfl)
        · skip
          have k75 : ¬ ((Int32.toInt x2) < (Int32.toInt z61)) := fun h_9 => c62 ((fa_lt x2 z61).mpr h_9)
          refine r_iconst 46 (-1) C dX11_code_46 (by decide) ?_
          exact r_iret 47 Rt dX11_code_47 () (show -1 ≤ (Int32.toInt (-1)) ∧ (Int32.toInt (-1)) ≤ 255 ∧ CND ((Int32.toInt x0) = 0 ∧ (HASP (Int32.toInt x7) (Int32.toInt x9) fn1 40 (Int32.toInt x1) → VALK (GB fn0 (Int32.toInt x6)) (Int32.toInt x7) (Int32.toInt x9) (Int32.toInt x8) fn1 fn2 (Int32.toInt x1))) (CCO (GB fn0 (Int32.toInt x6)) (Int32.toInt x7) (Int32.toInt x9) (Int32.toInt x8) fn1 fn2 40 (Int32.toInt x1) (Int32.toInt x2) (-1)) ∧ CND ((Int32.toInt x0) = 1 ∧ (HASP (Int32.toInt x10) (Int32.toInt x12) fn3 200 (Int32.toInt x1) → VALK (GB fn0 (Int32.toInt x6)) (Int32.toInt x10) (Int32.toInt x12) (Int32.toInt x11) fn3 fn4 (Int32.toInt x1))) (CCO (GB fn0 (Int32.toInt x6)) (Int32.toInt x10) (Int32.toInt x12) (Int32.toInt x11) fn3 fn4 200 (Int32.toInt x1) (Int32.toInt x2) (-1)) ∧ CND ((Int32.toInt x0) = 2 ∧ (HASP (Int32.toInt x13) (Int32.toInt x15) fn5 0 (Int32.toInt x1) → VALK (GB fn0 (Int32.toInt x6)) (Int32.toInt x13) (Int32.toInt x15) (Int32.toInt x14) fn5 nof (Int32.toInt x1))) (CCO (GB fn0 (Int32.toInt x6)) (Int32.toInt x13) (Int32.toInt x15) (Int32.toInt x14) fn5 nof 0 (Int32.toInt x1) (Int32.toInt x2) (-1)) ∧ ((0 ≤ (Int32.toInt x0) ∧ (Int32.toInt x0) ≤ 2) ∨ (-1) = -1) from ⟨(by ((repeat' apply And.intro) <;> first | trivial | rfl | assumption | omega | decide | exact Or.inl rfl | exact Or.inr (Or.inl rfl) | exact Or.inr (Or.inr rfl))), (by ((repeat' apply And.intro) <;> first | trivial | rfl | assumption | omega | decide | exact Or.inl rfl | exact Or.inr (Or.inl rfl) | exact Or.inr (Or.inr rfl))), (by first | exact fun h_9 => absurd h_9.1 (by omega) | exact fun h_9 => cco_ge (hsb_1 (hsb_k p9 (by omega)) (by first | decide | omega)) h_9.2 p57 p60 (by assumption) (by omega) rfl), (by first | exact fun h_9 => absurd h_9.1 (by omega) | exact fun h_9 => cco_ge (hsb_1 (hsb_k p9 (by omega)) (by first | decide | omega)) h_9.2 p57 p60 (by assumption) (by omega) rfl), (by first | exact fun h_9 => absurd h_9.1 (by omega) | exact fun h_9 => cco_ge (hsb_1 (hsb_k p9 (by omega)) (by first | decide | omega)) h_9.2 p57 p60 (by assumption) (by omega) rfl), (by ((repeat' apply And.intro) <;> first | trivial | rfl | assumption | omega | decide | exact Or.inl rfl | exact Or.inr (Or.inl rfl) | exact Or.inr (Or.inr rfl)))⟩) [0, 6, 9, 8, 1, 2, 11, 10, 7, 3, 4, 5] (by decide) rfl (Nat.le_of_ble_eq_true rfl) (Nat.le_of_ble_eq_true rfl)
    obtain ⟨k76, k77⟩ := w10
    have k77 := k77.symm
    subst k77
    refine r_if_eq_t 22 46 C dX11_code_22 (by decide) (by decide) ?_
    refine r_iconst 46 (-1) C dX11_code_46 (by decide) ?_
    exact r_iret 47 Rt dX11_code_47 () (show -1 ≤ (Int32.toInt (-1)) ∧ (Int32.toInt (-1)) ≤ 255 ∧ CND ((Int32.toInt x0) = 0 ∧ (HASP (Int32.toInt x7) (Int32.toInt x9) fn1 40 (Int32.toInt x1) → VALK (GB fn0 (Int32.toInt x6)) (Int32.toInt x7) (Int32.toInt x9) (Int32.toInt x8) fn1 fn2 (Int32.toInt x1))) (CCO (GB fn0 (Int32.toInt x6)) (Int32.toInt x7) (Int32.toInt x9) (Int32.toInt x8) fn1 fn2 40 (Int32.toInt x1) (Int32.toInt x2) (-1)) ∧ CND ((Int32.toInt x0) = 1 ∧ (HASP (Int32.toInt x10) (Int32.toInt x12) fn3 200 (Int32.toInt x1) → VALK (GB fn0 (Int32.toInt x6)) (Int32.toInt x10) (Int32.toInt x12) (Int32.toInt x11) fn3 fn4 (Int32.toInt x1))) (CCO (GB fn0 (Int32.toInt x6)) (Int32.toInt x10) (Int32.toInt x12) (Int32.toInt x11) fn3 fn4 200 (Int32.toInt x1) (Int32.toInt x2) (-1)) ∧ CND ((Int32.toInt x0) = 2 ∧ (HASP (Int32.toInt x13) (Int32.toInt x15) fn5 0 (Int32.toInt x1) → VALK (GB fn0 (Int32.toInt x6)) (Int32.toInt x13) (Int32.toInt x15) (Int32.toInt x14) fn5 nof (Int32.toInt x1))) (CCO (GB fn0 (Int32.toInt x6)) (Int32.toInt x13) (Int32.toInt x15) (Int32.toInt x14) fn5 nof 0 (Int32.toInt x1) (Int32.toInt x2) (-1)) ∧ ((0 ≤ (Int32.toInt x0) ∧ (Int32.toInt x0) ≤ 2) ∨ (-1) = -1) from ⟨(by ((repeat' apply And.intro) <;> first | trivial | rfl | assumption | omega | decide | exact Or.inl rfl | exact Or.inr (Or.inl rfl) | exact Or.inr (Or.inr rfl))), (by ((repeat' apply And.intro) <;> first | trivial | rfl | assumption | omega | decide | exact Or.inl rfl | exact Or.inr (Or.inl rfl) | exact Or.inr (Or.inr rfl))), (by first | exact fun h_9 => absurd h_9.1 (by omega) | exact fun h_9 => cco_no (by first | exact Or.inl (hsb_0 (hsb_k p9 (by omega)) (by first | rfl | omega)) | exact Or.inr (by omega)) rfl), (by first | exact fun h_9 => absurd h_9.1 (by omega) | exact fun h_9 => cco_no (by first | exact Or.inl (hsb_0 (hsb_k p9 (by omega)) (by first | rfl | omega)) | exact Or.inr (by omega)) rfl), (by first | exact fun h_9 => absurd h_9.1 (by omega) | exact fun h_9 => cco_no (by first | exact Or.inl (hsb_0 (hsb_k p9 (by omega)) (by first | rfl | omega)) | exact Or.inr (by omega)) rfl), (by ((repeat' apply And.intro) <;> first | trivial | rfl | assumption | omega | decide | exact Or.inl rfl | exact Or.inr (Or.inl rfl) | exact Or.inr (Or.inr rfl)))⟩) [0, 9, 1, 10, 2, 3, 4, 11, 5, 6, 7, 8] (by decide) rfl (Nat.le_of_ble_eq_true rfl) (Nat.le_of_ble_eq_true rfl)
  rcases w3 with ⟨k78, k79, k80⟩ | w3
  · skip
    have k80 := k80.symm
    subst k80
    refine r_st [.ref h4] rfl ?_
    refine r_astore 8 C dX11_code_8 [(4, .ref h4), (0, .ref h0), (1, .int x0), (2, .int x1), (3, .int x2)] (by decide) rfl ?_
    refine r_aload 10 0 C dX11_code_10 rfl ?_
    refine r_ifnull 12 C dX11_code_12 ?_
    refine r_aload 15 0 C dX11_code_15 rfl ?_
    refine r_iload_n 17 3 C dX11_code_17 rfl ?_
    obtain ⟨z81, ez81⟩ : ∃ z_9, Int32.toInt64 x1 = z_9 := ⟨_, rfl⟩
    have tz81 : (Int64.toInt z81) = (Int32.toInt x1) := by rw [← ez81]; exact Int32.toInt_toInt64 _
    refine r_i2l 18 z81 C dX11_code_18 ez81 ?_
    refine r_callVi 19 C dX11_code_19 [] [(h4, .inr (7, [.ref h2, .ref h9, .ref h10, .int x10, .int x11, .int x12])), (h9, .inl (gI g, 200, .inl fn3))] [(h0, .inr (10, [.ref h12, .ref h13, .ref h1, .ref h14, .ref h15, .ref h16, .ref h17, .ref h18, .ref h19, vv0])), (h2, .inr (4, [.ref h6, .int x6])), (h3, .inr (7, [.ref h2, .ref h7, .ref h8, .int x7, .int x8, .int x9])), (h5, .inr (7, [.ref h2, .ref h11, .ref h20, .int x13, .int x14, .int x15])), (h6, .inl (gB g, 1500, .inl fn0)), (h7, .inl (gI g, 40, .inl fn1)), (h8, .inl (gI g, 40, .inl fn2)), (h10, .inl (gI g, 200, .inl fn4)), (h11, .inl (gI g, 0, .inl fn5)), (h1, .inr (3, [.ref h2, .ref h3, .ref h4, .ref h5, .int x3, .int x4, .int x5]))] (fun sz => c33_X8_has l g h4 h9 z81 h2 h10 x10 x11 x12 fn3  sz) gX11_code_X8_has rfl ⟨rfl, rfl⟩ 1 (by decide) ⟨Nat.le_of_ble_eq_true rfl, Nat.le_of_ble_eq_true rfl⟩ 3 rfl rfl [3, 8] [0, 1, 2, 4, 5, 6, 7, 9, 10, 11] rfl rfl (by decide) (by decide) (by decide) rfl rfl (Nat.le_of_ble_eq_true rfl) ⟨Nat.le_of_ble_eq_true rfl, Nat.le_of_ble_eq_true rfl⟩ (fun r82 _ w83 => ?_)
    refine r_ws [(h0, .inr (10, [.ref h12, .ref h13, .ref h1, .ref h14, .ref h15, .ref h16, .ref h17, .ref h18, .ref h19, vv0])), (h2, .inr (4, [.ref h6, .int x6])), (h3, .inr (7, [.ref h2, .ref h7, .ref h8, .int x7, .int x8, .int x9])), (h5, .inr (7, [.ref h2, .ref h11, .ref h20, .int x13, .int x14, .int x15])), (h6, .inl (gB g, 1500, .inl fn0)), (h7, .inl (gI g, 40, .inl fn1)), (h8, .inl (gI g, 40, .inl fn2)), (h10, .inl (gI g, 200, .inl fn4)), (h11, .inl (gI g, 0, .inl fn5)), (h1, .inr (3, [.ref h2, .ref h3, .ref h4, .ref h5, .int x3, .int x4, .int x5])), (h4, .inr (7, [.ref h2, .ref h9, .ref h10, .int x10, .int x11, .int x12])), (h9, .inl (gI g, 200, .inl fn3))] rfl ?_
    have p84 : HSB (Int32.toInt r82) (HASP (Int32.toInt x10) (Int32.toInt x12) fn3 200 (Int64.toInt z81)) := w83.2
    have w85 : (((Int64.toInt z81) < 0 ∧ r82 = 0) ∨ (¬ ((Int64.toInt z81) < 0) ∧ 0 < (Int32.toInt x12) ∧ r82 = 1) ∨ (¬ ((Int64.toInt z81) < 0) ∧ ¬ (0 < (Int32.toInt x12)) ∧ 200 ≤ (Int64.toInt z81) ∧ r82 = 0) ∨ (¬ ((Int64.toInt z81) < 0) ∧ ¬ (0 < (Int32.toInt x12)) ∧ ¬ (200 ≤ (Int64.toInt z81)) ∧ r82 = 0) ∨ (¬ ((Int64.toInt z81) < 0) ∧ ¬ (0 < (Int32.toInt x12)) ∧ ¬ (200 ≤ (Int64.toInt z81)) ∧ r82 = 1) ∨ (¬ ((Int64.toInt z81) < 0) ∧ r82 = 0)) := w83.1
    rcases w85 with ⟨k86, k87⟩ | w85
    · skip
      have k87 := k87.symm
      subst k87
      refine r_if_eq_t 22 46 C dX11_code_22 (by decide) (by decide) ?_
      refine r_iconst 46 (-1) C dX11_code_46 (by decide) ?_
      exact r_iret 47 Rt dX11_code_47 () (show -1 ≤ (Int32.toInt (-1)) ∧ (Int32.toInt (-1)) ≤ 255 ∧ CND ((Int32.toInt x0) = 0 ∧ (HASP (Int32.toInt x7) (Int32.toInt x9) fn1 40 (Int32.toInt x1) → VALK (GB fn0 (Int32.toInt x6)) (Int32.toInt x7) (Int32.toInt x9) (Int32.toInt x8) fn1 fn2 (Int32.toInt x1))) (CCO (GB fn0 (Int32.toInt x6)) (Int32.toInt x7) (Int32.toInt x9) (Int32.toInt x8) fn1 fn2 40 (Int32.toInt x1) (Int32.toInt x2) (-1)) ∧ CND ((Int32.toInt x0) = 1 ∧ (HASP (Int32.toInt x10) (Int32.toInt x12) fn3 200 (Int32.toInt x1) → VALK (GB fn0 (Int32.toInt x6)) (Int32.toInt x10) (Int32.toInt x12) (Int32.toInt x11) fn3 fn4 (Int32.toInt x1))) (CCO (GB fn0 (Int32.toInt x6)) (Int32.toInt x10) (Int32.toInt x12) (Int32.toInt x11) fn3 fn4 200 (Int32.toInt x1) (Int32.toInt x2) (-1)) ∧ CND ((Int32.toInt x0) = 2 ∧ (HASP (Int32.toInt x13) (Int32.toInt x15) fn5 0 (Int32.toInt x1) → VALK (GB fn0 (Int32.toInt x6)) (Int32.toInt x13) (Int32.toInt x15) (Int32.toInt x14) fn5 nof (Int32.toInt x1))) (CCO (GB fn0 (Int32.toInt x6)) (Int32.toInt x13) (Int32.toInt x15) (Int32.toInt x14) fn5 nof 0 (Int32.toInt x1) (Int32.toInt x2) (-1)) ∧ ((0 ≤ (Int32.toInt x0) ∧ (Int32.toInt x0) ≤ 2) ∨ (-1) = -1) from ⟨(by ((repeat' apply And.intro) <;> first | trivial | rfl | assumption | omega | decide | exact Or.inl rfl | exact Or.inr (Or.inl rfl) | exact Or.inr (Or.inr rfl))), (by ((repeat' apply And.intro) <;> first | trivial | rfl | assumption | omega | decide | exact Or.inl rfl | exact Or.inr (Or.inl rfl) | exact Or.inr (Or.inr rfl))), (by first | exact fun h_9 => absurd h_9.1 (by omega) | exact fun h_9 => cco_no (by first | exact Or.inl (hsb_0 (hsb_k p84 (by omega)) (by first | rfl | omega)) | exact Or.inr (by omega)) rfl), (by first | exact fun h_9 => absurd h_9.1 (by omega) | exact fun h_9 => cco_no (by first | exact Or.inl (hsb_0 (hsb_k p84 (by omega)) (by first | rfl | omega)) | exact Or.inr (by omega)) rfl), (by first | exact fun h_9 => absurd h_9.1 (by omega) | exact fun h_9 => cco_no (by first | exact Or.inl (hsb_0 (hsb_k p84 (by omega)) (by first | rfl | omega)) | exact Or.inr (by omega)) rfl), (by ((repeat' apply And.intro) <;> first | trivial | rfl | assumption | omega | decide | exact Or.inl rfl | exact Or.inr (Or.inl rfl) | exact Or.inr (Or.inr rfl)))⟩) [0, 9, 1, 2, 10, 3, 4, 5, 6, 11, 7, 8] (by decide) rfl (Nat.le_of_ble_eq_true rfl) (Nat.le_of_ble_eq_true rfl)
    rcases w85 with ⟨k88, k89, k90⟩ | w85
    · skip
      have k90 := k90.symm
      subst k90
      refine r_if_eq_f 22 46 C dX11_code_22 (by decide) (by decide) ?_
      refine r_iload_n 25 4 C dX11_code_25 rfl ?_
      refine r_if_lt 26 46 C dX11_code_26 (by decide) (fun c91 => ?_) (fun c91 => ?_)
      · skip
        have k92 : (Int32.toInt x2) < 0 := (fa_lt x2 0).mp c91
        refine r_iconst 46 (-1) C dX11_code_46 (by decide) ?_
        exact r_iret 47 Rt dX11_code_47 () (show -1 ≤ (Int32.toInt (-1)) ∧ (Int32.toInt (-1)) ≤ 255 ∧ CND ((Int32.toInt x0) = 0 ∧ (HASP (Int32.toInt x7) (Int32.toInt x9) fn1 40 (Int32.toInt x1) → VALK (GB fn0 (Int32.toInt x6)) (Int32.toInt x7) (Int32.toInt x9) (Int32.toInt x8) fn1 fn2 (Int32.toInt x1))) (CCO (GB fn0 (Int32.toInt x6)) (Int32.toInt x7) (Int32.toInt x9) (Int32.toInt x8) fn1 fn2 40 (Int32.toInt x1) (Int32.toInt x2) (-1)) ∧ CND ((Int32.toInt x0) = 1 ∧ (HASP (Int32.toInt x10) (Int32.toInt x12) fn3 200 (Int32.toInt x1) → VALK (GB fn0 (Int32.toInt x6)) (Int32.toInt x10) (Int32.toInt x12) (Int32.toInt x11) fn3 fn4 (Int32.toInt x1))) (CCO (GB fn0 (Int32.toInt x6)) (Int32.toInt x10) (Int32.toInt x12) (Int32.toInt x11) fn3 fn4 200 (Int32.toInt x1) (Int32.toInt x2) (-1)) ∧ CND ((Int32.toInt x0) = 2 ∧ (HASP (Int32.toInt x13) (Int32.toInt x15) fn5 0 (Int32.toInt x1) → VALK (GB fn0 (Int32.toInt x6)) (Int32.toInt x13) (Int32.toInt x15) (Int32.toInt x14) fn5 nof (Int32.toInt x1))) (CCO (GB fn0 (Int32.toInt x6)) (Int32.toInt x13) (Int32.toInt x15) (Int32.toInt x14) fn5 nof 0 (Int32.toInt x1) (Int32.toInt x2) (-1)) ∧ ((0 ≤ (Int32.toInt x0) ∧ (Int32.toInt x0) ≤ 2) ∨ (-1) = -1) from ⟨(by ((repeat' apply And.intro) <;> first | trivial | rfl | assumption | omega | decide | exact Or.inl rfl | exact Or.inr (Or.inl rfl) | exact Or.inr (Or.inr rfl))), (by ((repeat' apply And.intro) <;> first | trivial | rfl | assumption | omega | decide | exact Or.inl rfl | exact Or.inr (Or.inl rfl) | exact Or.inr (Or.inr rfl))), (by first | exact fun h_9 => absurd h_9.1 (by omega) | exact fun h_9 => cco_no (by first | exact Or.inl (hsb_0 (hsb_k p84 (by omega)) (by first | rfl | omega)) | exact Or.inr (by omega)) rfl), (by first | exact fun h_9 => absurd h_9.1 (by omega) | exact fun h_9 => cco_no (by first | exact Or.inl (hsb_0 (hsb_k p84 (by omega)) (by first | rfl | omega)) | exact Or.inr (by omega)) rfl), (by first | exact fun h_9 => absurd h_9.1 (by omega) | exact fun h_9 => cco_no (by first | exact Or.inl (hsb_0 (hsb_k p84 (by omega)) (by first | rfl | omega)) | exact Or.inr (by omega)) rfl), (by ((repeat' apply And.intro) <;> first | trivial | rfl | assumption | omega | decide | exact Or.inl rfl | exact Or.inr (Or.inl rfl) | exact Or.inr (Or.inr rfl)))⟩) [0, 9, 1, 2, 10, 3, 4, 5, 6, 11, 7, 8] (by decide) rfl (Nat.le_of_ble_eq_true rfl) (Nat.le_of_ble_eq_true rfl)
      · skip
        have k93 : ¬ ((Int32.toInt x2) < 0) := fun h_9 => c91 ((fa_lt x2 0).mpr h_9)
        refine r_iload_n 29 4 C dX11_code_29 rfl ?_
        refine r_aload 30 0 C dX11_code_30 rfl ?_
        refine r_iload_n 32 3 C dX11_code_32 rfl ?_
        refine r_callVi 33 C dX11_code_33 [.int x2] [(h4, .inr (7, [.ref h2, .ref h9, .ref h10, .int x10, .int x11, .int x12])), (h2, .inr (4, [.ref h6, .int x6])), (h9, .inl (gI g, 200, .inl fn3)), (h10, .inl (gI g, 200, .inl fn4)), (h6, .inl (gB g, 1500, .inl fn0))] [(h0, .inr (10, [.ref h12, .ref h13, .ref h1, .ref h14, .ref h15, .ref h16, .ref h17, .ref h18, .ref h19, vv0])), (h3, .inr (7, [.ref h2, .ref h7, .ref h8, .int x7, .int x8, .int x9])), (h5, .inr (7, [.ref h2, .ref h11, .ref h20, .int x13, .int x14, .int x15])), (h7, .inl (gI g, 40, .inl fn1)), (h8, .inl (gI g, 40, .inl fn2)), (h11, .inl (gI g, 0, .inl fn5)), (h1, .inr (3, [.ref h2, .ref h3, .ref h4, .ref h5, .int x3, .int x4, .int x5]))] (fun sz => c34_X8_finishOf l g h4 h2 h9 h10 h6 x1 x10 x11 x12 x6 fn3 fn4 fn0 i_x6 sz) gX11_code_X8_finishOf rfl ⟨rfl, rfl⟩ 1 (by decide) ⟨Nat.le_of_ble_eq_true rfl, Nat.le_of_ble_eq_true rfl⟩ 10 rfl rfl [10, 1, 11, 7, 4] [0, 2, 3, 5, 6, 8, 9] rfl rfl (by decide) (by decide) (by decide) rfl rfl (Nat.le_of_ble_eq_true rfl) ⟨Nat.le_of_ble_eq_true rfl, Nat.le_of_ble_eq_true rfl⟩ (fun r94 _ w95 => ?_)
        refine r_ws [(h0, .inr (10, [.ref h12, .ref h13, .ref h1, .ref h14, .ref h15, .ref h16, .ref h17, .ref h18, .ref h19, vv0])), (h3, .inr (7, [.ref h2, .ref h7, .ref h8, .int x7, .int x8, .int x9])), (h5, .inr (7, [.ref h2, .ref h11, .ref h20, .int x13, .int x14, .int x15])), (h7, .inl (gI g, 40, .inl fn1)), (h8, .inl (gI g, 40, .inl fn2)), (h11, .inl (gI g, 0, .inl fn5)), (h1, .inr (3, [.ref h2, .ref h3, .ref h4, .ref h5, .int x3, .int x4, .int x5])), (h4, .inr (7, [.ref h2, .ref h9, .ref h10, .int x10, .int x11, .int x12])), (h2, .inr (4, [.ref h6, .int x6])), (h9, .inl (gI g, 200, .inl fn3)), (h10, .inl (gI g, 200, .inl fn4)), (h6, .inl (gB g, 1500, .inl fn0))] rfl ?_
        have p96 : CND (FOK (GB fn0 (Int32.toInt x6)) (Int32.toInt x10) (Int32.toInt x12) (Int32.toInt x11) fn3 fn4 200 (Int32.toInt x1)) ((Int32.toInt r94) = FINE (GB fn0 (Int32.toInt x6)) (Int32.toInt x10) (Int32.toInt x12) (Int32.toInt x11) fn4 (Int32.toInt x1)) := w95
        have gr94 := fb_rng r94
        refine r_aload 36 0 C dX11_code_36 rfl ?_
        refine r_iload_n 38 3 C dX11_code_38 rfl ?_
        refine r_callVi 39 C dX11_code_39 [.int r94, .int x2] [(h4, .inr (7, [.ref h2, .ref h9, .ref h10, .int x10, .int x11, .int x12])), (h2, .inr (4, [.ref h6, .int x6])), (h9, .inl (gI g, 200, .inl fn3)), (h6, .inl (gB g, 1500, .inl fn0))] [(h0, .inr (10, [.ref h12, .ref h13, .ref h1, .ref h14, .ref h15, .ref h16, .ref h17, .ref h18, .ref h19, vv0])), (h3, .inr (7, [.ref h2, .ref h7, .ref h8, .int x7, .int x8, .int x9])), (h5, .inr (7, [.ref h2, .ref h11, .ref h20, .int x13, .int x14, .int x15])), (h7, .inl (gI g, 40, .inl fn1)), (h8, .inl (gI g, 40, .inl fn2)), (h11, .inl (gI g, 0, .inl fn5)), (h1, .inr (3, [.ref h2, .ref h3, .ref h4, .ref h5, .int x3, .int x4, .int x5])), (h10, .inl (gI g, 200, .inl fn4))] (fun sz => c35_X8_beginOf l g h4 h2 h9 h6 x1 h10 x10 x11 x12 x6 fn3 fn0 i_x6 sz) gX11_code_X8_beginOf rfl ⟨rfl, rfl⟩ 1 (by decide) ⟨Nat.le_of_ble_eq_true rfl, Nat.le_of_ble_eq_true rfl⟩ 7 rfl rfl [7, 8, 9, 11] [0, 1, 2, 3, 4, 5, 6, 10] rfl rfl (by decide) (by decide) (by decide) rfl rfl (Nat.le_of_ble_eq_true rfl) ⟨Nat.le_of_ble_eq_true rfl, Nat.le_of_ble_eq_true rfl⟩ (fun r97 _ w98 => ?_)
        refine r_ws [(h0, .inr (10, [.ref h12, .ref h13, .ref h1, .ref h14, .ref h15, .ref h16, .ref h17, .ref h18, .ref h19, vv0])), (h3, .inr (7, [.ref h2, .ref h7, .ref h8, .int x7, .int x8, .int x9])), (h5, .inr (7, [.ref h2, .ref h11, .ref h20, .int x13, .int x14, .int x15])), (h7, .inl (gI g, 40, .inl fn1)), (h8, .inl (gI g, 40, .inl fn2)), (h11, .inl (gI g, 0, .inl fn5)), (h1, .inr (3, [.ref h2, .ref h3, .ref h4, .ref h5, .int x3, .int x4, .int x5])), (h10, .inl (gI g, 200, .inl fn4)), (h4, .inr (7, [.ref h2, .ref h9, .ref h10, .int x10, .int x11, .int x12])), (h2, .inr (4, [.ref h6, .int x6])), (h9, .inl (gI g, 200, .inl fn3)), (h6, .inl (gB g, 1500, .inl fn0))] rfl ?_
        have p99 : CND (BOK (GB fn0 (Int32.toInt x6)) (Int32.toInt x10) (Int32.toInt x12) (Int32.toInt x11) fn3 200 (Int32.toInt x1)) ((Int32.toInt r97) = BEGE (GB fn0 (Int32.toInt x6)) (Int32.toInt x10) (Int32.toInt x12) (Int32.toInt x11) fn3 (Int32.toInt x1)) := w98
        have gr97 := fb_rng r97
        obtain ⟨z100, ez100⟩ : ∃ z_9, r94 - r97 = z_9 := ⟨_, rfl⟩
        have gz100 := fb_rng z100
        refine r_isub 42 z100 C dX11_code_42 ez100 ?_
        refine r_icmp_lt 43 48 C dX11_code_43 (by decide) (fun c101 => ?_) (fun c101 => ?_)
        · skip
          have k102 : (Int32.toInt x2) < (Int32.toInt z100) := (fa_lt x2 z100).mp c101
          refine r_aload_n 48 1 C dX11_code_48 rfl ?_
          refine r_get 49 C dX11_code_49 (k := 2) 0 rfl rfl hiX11 (by decide) rfl (mg 1 rfl) (Or.inl rfl) rfl ?_
          refine r_getN 52 C dX11_code_52 (k := 0) 6 rfl rfl hiX3 (by decide) rfl (mg 4 rfl) rfl rfl ?_
          refine r_aload 55 0 C dX11_code_55 rfl ?_
          refine r_iload_n 57 3 C dX11_code_57 rfl ?_
          refine r_callVi 58 C dX11_code_58 [.ref h2] [(h4, .inr (7, [.ref h2, .ref h9, .ref h10, .int x10, .int x11, .int x12])), (h2, .inr (4, [.ref h6, .int x6])), (h9, .inl (gI g, 200, .inl fn3)), (h6, .inl (gB g, 1500, .inl fn0))] [(h0, .inr (10, [.ref h12, .ref h13, .ref h1, .ref h14, .ref h15, .ref h16, .ref h17, .ref h18, .ref h19, vv0])), (h3, .inr (7, [.ref h2, .ref h7, .ref h8, .int x7, .int x8, .int x9])), (h5, .inr (7, [.ref h2, .ref h11, .ref h20, .int x13, .int x14, .int x15])), (h7, .inl (gI g, 40, .inl fn1)), (h8, .inl (gI g, 40, .inl fn2)), (h11, .inl (gI g, 0, .inl fn5)), (h1, .inr (3, [.ref h2, .ref h3, .ref h4, .ref h5, .int x3, .int x4, .int x5])), (h10, .inl (gI g, 200, .inl fn4))] (fun sz => c35_X8_beginOf l g h4 h2 h9 h6 x1 h10 x10 x11 x12 x6 fn3 fn0 i_x6 sz) gX11_code_X8_beginOf rfl ⟨rfl, rfl⟩ 1 (by decide) ⟨Nat.le_of_ble_eq_true rfl, Nat.le_of_ble_eq_true rfl⟩ 8 rfl rfl [8, 9, 10, 11] [0, 1, 2, 3, 4, 5, 6, 7] rfl rfl (by decide) (by decide) (by decide) rfl rfl (Nat.le_of_ble_eq_true rfl) ⟨Nat.le_of_ble_eq_true rfl, Nat.le_of_ble_eq_true rfl⟩ (fun r103 _ w104 => ?_)
          refine r_ws [(h0, .inr (10, [.ref h12, .ref h13, .ref h1, .ref h14, .ref h15, .ref h16, .ref h17, .ref h18, .ref h19, vv0])), (h3, .inr (7, [.ref h2, .ref h7, .ref h8, .int x7, .int x8, .int x9])), (h5, .inr (7, [.ref h2, .ref h11, .ref h20, .int x13, .int x14, .int x15])), (h7, .inl (gI g, 40, .inl fn1)), (h8, .inl (gI g, 40, .inl fn2)), (h11, .inl (gI g, 0, .inl fn5)), (h1, .inr (3, [.ref h2, .ref h3, .ref h4, .ref h5, .int x3, .int x4, .int x5])), (h10, .inl (gI g, 200, .inl fn4)), (h4, .inr (7, [.ref h2, .ref h9, .ref h10, .int x10, .int x11, .int x12])), (h2, .inr (4, [.ref h6, .int x6])), (h9, .inl (gI g, 200, .inl fn3)), (h6, .inl (gB g, 1500, .inl fn0))] rfl ?_
          have p105 : CND (BOK (GB fn0 (Int32.toInt x6)) (Int32.toInt x10) (Int32.toInt x12) (Int32.toInt x11) fn3 200 (Int32.toInt x1)) ((Int32.toInt r103) = BEGE (GB fn0 (Int32.toInt x6)) (Int32.toInt x10) (Int32.toInt x12) (Int32.toInt x11) fn3 (Int32.toInt x1)) := w104
          have gr103 := fb_rng r103
          refine r_iload_n 61 4 C dX11_code_61 rfl ?_
          obtain ⟨z106, ez106⟩ : ∃ z_9, r103 + x2 = z_9 := ⟨_, rfl⟩
          have gz106 := fb_rng z106
          refine r_iadd 62 z106 C dX11_code_62 ez106 ?_
          obtain ⟨z107, ez107⟩ : ∃ z_9, Int32.toInt64 z106 = z_9 := ⟨_, rfl⟩
          have tz107 : (Int64.toInt z107) = (Int32.toInt z106) := by rw [← ez107]; exact Int32.toInt_toInt64 _
          refine r_i2l 63 z107 C dX11_code_63 ez107 ?_
          refine r_callVi 64 C dX11_code_64 [] [(h2, .inr (4, [.ref h6, .int x6])), (h6, .inl (gB g, 1500, .inl fn0))] [(h0, .inr (10, [.ref h12, .ref h13, .ref h1, .ref h14, .ref h15, .ref h16, .ref h17, .ref h18, .ref h19, vv0])), (h3, .inr (7, [.ref h2, .ref h7, .ref h8, .int x7, .int x8, .int x9])), (h5, .inr (7, [.ref h2, .ref h11, .ref h20, .int x13, .int x14, .int x15])), (h7, .inl (gI g, 40, .inl fn1)), (h8, .inl (gI g, 40, .inl fn2)), (h11, .inl (gI g, 0, .inl fn5)), (h1, .inr (3, [.ref h2, .ref h3, .ref h4, .ref h5, .int x3, .int x4, .int x5])), (h10, .inl (gI g, 200, .inl fn4)), (h4, .inr (7, [.ref h2, .ref h9, .ref h10, .int x10, .int x11, .int x12])), (h9, .inl (gI g, 200, .inl fn3))] (fun sz => c14_X5_get l g h2 h6 z107 x6 fn0 i_x6 sz) gX11_code_X5_get rfl ⟨rfl, rfl⟩ 1 (by decide) ⟨Nat.le_of_ble_eq_true rfl, Nat.le_of_ble_eq_true rfl⟩ 9 rfl rfl [9, 11] [0, 1, 2, 3, 4, 5, 6, 7, 8, 10] rfl rfl (by decide) (by decide) (by decide) rfl rfl (Nat.le_of_ble_eq_true rfl) ⟨Nat.le_of_ble_eq_true rfl, Nat.le_of_ble_eq_true rfl⟩ (fun r108 _ w109 => ?_)
          refine r_ws [(h0, .inr (10, [.ref h12, .ref h13, .ref h1, .ref h14, .ref h15, .ref h16, .ref h17, .ref h18, .ref h19, vv0])), (h3, .inr (7, [.ref h2, .ref h7, .ref h8, .int x7, .int x8, .int x9])), (h5, .inr (7, [.ref h2, .ref h11, .ref h20, .int x13, .int x14, .int x15])), (h7, .inl (gI g, 40, .inl fn1)), (h8, .inl (gI g, 40, .inl fn2)), (h11, .inl (gI g, 0, .inl fn5)), (h1, .inr (3, [.ref h2, .ref h3, .ref h4, .ref h5, .int x3, .int x4, .int x5])), (h10, .inl (gI g, 200, .inl fn4)), (h4, .inr (7, [.ref h2, .ref h9, .ref h10, .int x10, .int x11, .int x12])), (h9, .inl (gI g, 200, .inl fn3)), (h2, .inr (4, [.ref h6, .int x6])), (h6, .inl (gB g, 1500, .inl fn0))] rfl ?_
          have p110 : -1 ≤ (Int32.toInt r108) := w109.1
          have p111 : (Int32.toInt r108) ≤ 255 := w109.2.1
          have p112 : HID ((0 ≤ (Int64.toInt z107) ∧ (Int64.toInt z107) < (Int32.toInt x6) ∧ r108 = (fn0 (Int.toNat (Int64.toInt z107)) &&& 255)) ∨ (((Int64.toInt z107) < 0 ∨ (Int32.toInt x6) ≤ (Int64.toInt z107)) ∧ r108 = -1)) := w109.2.2.1
          have p113 : (Int32.toInt r108) = GB fn0 (Int32.toInt x6) (Int64.toInt z107) := w109.2.2.2
          exact r_iret 67 Rt dX11_code_67 () (show -1 ≤ (Int32.toInt r108) ∧ (Int32.toInt r108) ≤ 255 ∧ CND ((Int32.toInt x0) = 0 ∧ (HASP (Int32.toInt x7) (Int32.toInt x9) fn1 40 (Int32.toInt x1) → VALK (GB fn0 (Int32.toInt x6)) (Int32.toInt x7) (Int32.toInt x9) (Int32.toInt x8) fn1 fn2 (Int32.toInt x1))) (CCO (GB fn0 (Int32.toInt x6)) (Int32.toInt x7) (Int32.toInt x9) (Int32.toInt x8) fn1 fn2 40 (Int32.toInt x1) (Int32.toInt x2) (Int32.toInt r108)) ∧ CND ((Int32.toInt x0) = 1 ∧ (HASP (Int32.toInt x10) (Int32.toInt x12) fn3 200 (Int32.toInt x1) → VALK (GB fn0 (Int32.toInt x6)) (Int32.toInt x10) (Int32.toInt x12) (Int32.toInt x11) fn3 fn4 (Int32.toInt x1))) (CCO (GB fn0 (Int32.toInt x6)) (Int32.toInt x10) (Int32.toInt x12) (Int32.toInt x11) fn3 fn4 200 (Int32.toInt x1) (Int32.toInt x2) (Int32.toInt r108)) ∧ CND ((Int32.toInt x0) = 2 ∧ (HASP (Int32.toInt x13) (Int32.toInt x15) fn5 0 (Int32.toInt x1) → VALK (GB fn0 (Int32.toInt x6)) (Int32.toInt x13) (Int32.toInt x15) (Int32.toInt x14) fn5 nof (Int32.toInt x1))) (CCO (GB fn0 (Int32.toInt x6)) (Int32.toInt x13) (Int32.toInt x15) (Int32.toInt x14) fn5 nof 0 (Int32.toInt x1) (Int32.toInt x2) (Int32.toInt r108)) ∧ ((0 ≤ (Int32.toInt x0) ∧ (Int32.toInt x0) ≤ 2) ∨ (Int32.toInt r108) = -1) from ⟨(show _ ∧ _ from ⟨p110, p111⟩).1, (show _ ∧ _ from ⟨p110, p111⟩).2, (by first | exact fun h_9 => absurd h_9.1 (by omega) | exact fun h_9 => cco_get (hsb_1 (hsb_k p84 (by omega)) (by first | decide | omega)) h_9.2 p96 p99 (by assumption) (by omega) (by omega) p105 (by assumption) p113 (by omega)), (by first | exact fun h_9 => absurd h_9.1 (by omega) | exact fun h_9 => cco_get (hsb_1 (hsb_k p84 (by omega)) (by first | decide | omega)) h_9.2 p96 p99 (by assumption) (by omega) (by omega) p105 (by assumption) p113 (by omega)), (by first | exact fun h_9 => absurd h_9.1 (by omega) | exact fun h_9 => cco_get (hsb_1 (hsb_k p84 (by omega)) (by first | decide | omega)) h_9.2 p96 p99 (by assumption) (by omega) (by omega) p105 (by assumption) p113 (by omega)), (by ((repeat' apply And.intro) <;> first | trivial | rfl | assumption | omega | decide | exact Or.inl rfl | exact Or.inr (Or.inl rfl) | exact Or.inr (Or.inr rfl)))⟩) [0, 6, 10, 1, 8, 2, 11, 3, 4, 9, 7, 5] (by decide) rfl (Nat.le_of_ble_eq_true rfl) (Nat.le_of_ble_eq_true rfl)
        · skip
          have k114 : ¬ ((Int32.toInt x2) < (Int32.toInt z100)) := fun h_9 => c101 ((fa_lt x2 z100).mpr h_9)
          refine r_iconst 46 (-1) C dX11_code_46 (by decide) ?_
          exact r_iret 47 Rt dX11_code_47 () (show -1 ≤ (Int32.toInt (-1)) ∧ (Int32.toInt (-1)) ≤ 255 ∧ CND ((Int32.toInt x0) = 0 ∧ (HASP (Int32.toInt x7) (Int32.toInt x9) fn1 40 (Int32.toInt x1) → VALK (GB fn0 (Int32.toInt x6)) (Int32.toInt x7) (Int32.toInt x9) (Int32.toInt x8) fn1 fn2 (Int32.toInt x1))) (CCO (GB fn0 (Int32.toInt x6)) (Int32.toInt x7) (Int32.toInt x9) (Int32.toInt x8) fn1 fn2 40 (Int32.toInt x1) (Int32.toInt x2) (-1)) ∧ CND ((Int32.toInt x0) = 1 ∧ (HASP (Int32.toInt x10) (Int32.toInt x12) fn3 200 (Int32.toInt x1) → VALK (GB fn0 (Int32.toInt x6)) (Int32.toInt x10) (Int32.toInt x12) (Int32.toInt x11) fn3 fn4 (Int32.toInt x1))) (CCO (GB fn0 (Int32.toInt x6)) (Int32.toInt x10) (Int32.toInt x12) (Int32.toInt x11) fn3 fn4 200 (Int32.toInt x1) (Int32.toInt x2) (-1)) ∧ CND ((Int32.toInt x0) = 2 ∧ (HASP (Int32.toInt x13) (Int32.toInt x15) fn5 0 (Int32.toInt x1) → VALK (GB fn0 (Int32.toInt x6)) (Int32.toInt x13) (Int32.toInt x15) (Int32.toInt x14) fn5 nof (Int32.toInt x1))) (CCO (GB fn0 (Int32.toInt x6)) (Int32.toInt x13) (Int32.toInt x15) (Int32.toInt x14) fn5 nof 0 (Int32.toInt x1) (Int32.toInt x2) (-1)) ∧ ((0 ≤ (Int32.toInt x0) ∧ (Int32.toInt x0) ≤ 2) ∨ (-1) = -1) from ⟨(by ((repeat' apply And.intro) <;> first | trivial | rfl | assumption | omega | decide | exact Or.inl rfl | exact Or.inr (Or.inl rfl) | exact Or.inr (Or.inr rfl))), (by ((repeat' apply And.intro) <;> first | trivial | rfl | assumption | omega | decide | exact Or.inl rfl | exact Or.inr (Or.inl rfl) | exact Or.inr (Or.inr rfl))), (by first | exact fun h_9 => absurd h_9.1 (by omega) | exact fun h_9 => cco_ge (hsb_1 (hsb_k p84 (by omega)) (by first | decide | omega)) h_9.2 p96 p99 (by assumption) (by omega) rfl), (by first | exact fun h_9 => absurd h_9.1 (by omega) | exact fun h_9 => cco_ge (hsb_1 (hsb_k p84 (by omega)) (by first | decide | omega)) h_9.2 p96 p99 (by assumption) (by omega) rfl), (by first | exact fun h_9 => absurd h_9.1 (by omega) | exact fun h_9 => cco_ge (hsb_1 (hsb_k p84 (by omega)) (by first | decide | omega)) h_9.2 p96 p99 (by assumption) (by omega) rfl), (by ((repeat' apply And.intro) <;> first | trivial | rfl | assumption | omega | decide | exact Or.inl rfl | exact Or.inr (Or.inl rfl) | exact Or.inr (Or.inr rfl)))⟩) [0, 6, 9, 1, 8, 2, 11, 3, 4, 10, 7, 5] (by decide) rfl (Nat.le_of_ble_eq_true rfl) (Nat.le_of_ble_eq_true rfl)
    rcases w85 with ⟨k115, k116, k117, k118⟩ | w85
    · skip
      have k118 := k118.symm
      subst k118
      refine r_if_eq_t 22 46 C dX11_code_22 (by decide) (by decide) ?_
      refine r_iconst 46 (-1) C dX11_code_46 (by decide) ?_
      exact r_iret 47 Rt dX11_code_47 () (show -1 ≤ (Int32.toInt (-1)) ∧ (Int32.toInt (-1)) ≤ 255 ∧ CND ((Int32.toInt x0) = 0 ∧ (HASP (Int32.toInt x7) (Int32.toInt x9) fn1 40 (Int32.toInt x1) → VALK (GB fn0 (Int32.toInt x6)) (Int32.toInt x7) (Int32.toInt x9) (Int32.toInt x8) fn1 fn2 (Int32.toInt x1))) (CCO (GB fn0 (Int32.toInt x6)) (Int32.toInt x7) (Int32.toInt x9) (Int32.toInt x8) fn1 fn2 40 (Int32.toInt x1) (Int32.toInt x2) (-1)) ∧ CND ((Int32.toInt x0) = 1 ∧ (HASP (Int32.toInt x10) (Int32.toInt x12) fn3 200 (Int32.toInt x1) → VALK (GB fn0 (Int32.toInt x6)) (Int32.toInt x10) (Int32.toInt x12) (Int32.toInt x11) fn3 fn4 (Int32.toInt x1))) (CCO (GB fn0 (Int32.toInt x6)) (Int32.toInt x10) (Int32.toInt x12) (Int32.toInt x11) fn3 fn4 200 (Int32.toInt x1) (Int32.toInt x2) (-1)) ∧ CND ((Int32.toInt x0) = 2 ∧ (HASP (Int32.toInt x13) (Int32.toInt x15) fn5 0 (Int32.toInt x1) → VALK (GB fn0 (Int32.toInt x6)) (Int32.toInt x13) (Int32.toInt x15) (Int32.toInt x14) fn5 nof (Int32.toInt x1))) (CCO (GB fn0 (Int32.toInt x6)) (Int32.toInt x13) (Int32.toInt x15) (Int32.toInt x14) fn5 nof 0 (Int32.toInt x1) (Int32.toInt x2) (-1)) ∧ ((0 ≤ (Int32.toInt x0) ∧ (Int32.toInt x0) ≤ 2) ∨ (-1) = -1) from ⟨(by ((repeat' apply And.intro) <;> first | trivial | rfl | assumption | omega | decide | exact Or.inl rfl | exact Or.inr (Or.inl rfl) | exact Or.inr (Or.inr rfl))), (by ((repeat' apply And.intro) <;> first | trivial | rfl | assumption | omega | decide | exact Or.inl rfl | exact Or.inr (Or.inl rfl) | exact Or.inr (Or.inr rfl))), (by first | exact fun h_9 => absurd h_9.1 (by omega) | exact fun h_9 => cco_no (by first | exact Or.inl (hsb_0 (hsb_k p84 (by omega)) (by first | rfl | omega)) | exact Or.inr (by omega)) rfl), (by first | exact fun h_9 => absurd h_9.1 (by omega) | exact fun h_9 => cco_no (by first | exact Or.inl (hsb_0 (hsb_k p84 (by omega)) (by first | rfl | omega)) | exact Or.inr (by omega)) rfl), (by first | exact fun h_9 => absurd h_9.1 (by omega) | exact fun h_9 => cco_no (by first | exact Or.inl (hsb_0 (hsb_k p84 (by omega)) (by first | rfl | omega)) | exact Or.inr (by omega)) rfl), (by ((repeat' apply And.intro) <;> first | trivial | rfl | assumption | omega | decide | exact Or.inl rfl | exact Or.inr (Or.inl rfl) | exact Or.inr (Or.inr rfl)))⟩) [0, 9, 1, 2, 10, 3, 4, 5, 6, 11, 7, 8] (by decide) rfl (Nat.le_of_ble_eq_true rfl) (Nat.le_of_ble_eq_true rfl)
    rcases w85 with ⟨k119, k120, k121, k122⟩ | w85
    · skip
      have k122 := k122.symm
      subst k122
      refine r_if_eq_t 22 46 C dX11_code_22 (by decide) (by decide) ?_
      refine r_iconst 46 (-1) C dX11_code_46 (by decide) ?_
      exact r_iret 47 Rt dX11_code_47 () (show -1 ≤ (Int32.toInt (-1)) ∧ (Int32.toInt (-1)) ≤ 255 ∧ CND ((Int32.toInt x0) = 0 ∧ (HASP (Int32.toInt x7) (Int32.toInt x9) fn1 40 (Int32.toInt x1) → VALK (GB fn0 (Int32.toInt x6)) (Int32.toInt x7) (Int32.toInt x9) (Int32.toInt x8) fn1 fn2 (Int32.toInt x1))) (CCO (GB fn0 (Int32.toInt x6)) (Int32.toInt x7) (Int32.toInt x9) (Int32.toInt x8) fn1 fn2 40 (Int32.toInt x1) (Int32.toInt x2) (-1)) ∧ CND ((Int32.toInt x0) = 1 ∧ (HASP (Int32.toInt x10) (Int32.toInt x12) fn3 200 (Int32.toInt x1) → VALK (GB fn0 (Int32.toInt x6)) (Int32.toInt x10) (Int32.toInt x12) (Int32.toInt x11) fn3 fn4 (Int32.toInt x1))) (CCO (GB fn0 (Int32.toInt x6)) (Int32.toInt x10) (Int32.toInt x12) (Int32.toInt x11) fn3 fn4 200 (Int32.toInt x1) (Int32.toInt x2) (-1)) ∧ CND ((Int32.toInt x0) = 2 ∧ (HASP (Int32.toInt x13) (Int32.toInt x15) fn5 0 (Int32.toInt x1) → VALK (GB fn0 (Int32.toInt x6)) (Int32.toInt x13) (Int32.toInt x15) (Int32.toInt x14) fn5 nof (Int32.toInt x1))) (CCO (GB fn0 (Int32.toInt x6)) (Int32.toInt x13) (Int32.toInt x15) (Int32.toInt x14) fn5 nof 0 (Int32.toInt x1) (Int32.toInt x2) (-1)) ∧ ((0 ≤ (Int32.toInt x0) ∧ (Int32.toInt x0) ≤ 2) ∨ (-1) = -1) from ⟨(by ((repeat' apply And.intro) <;> first | trivial | rfl | assumption | omega | decide | exact Or.inl rfl | exact Or.inr (Or.inl rfl) | exact Or.inr (Or.inr rfl))), (by ((repeat' apply And.intro) <;> first | trivial | rfl | assumption | omega | decide | exact Or.inl rfl | exact Or.inr (Or.inl rfl) | exact Or.inr (Or.inr rfl))), (by first | exact fun h_9 => absurd h_9.1 (by omega) | exact fun h_9 => cco_no (by first | exact Or.inl (hsb_0 (hsb_k p84 (by omega)) (by first | rfl | omega)) | exact Or.inr (by omega)) rfl), (by first | exact fun h_9 => absurd h_9.1 (by omega) | exact fun h_9 => cco_no (by first | exact Or.inl (hsb_0 (hsb_k p84 (by omega)) (by first | rfl | omega)) | exact Or.inr (by omega)) rfl), (by first | exact fun h_9 => absurd h_9.1 (by omega) | exact fun h_9 => cco_no (by first | exact Or.inl (hsb_0 (hsb_k p84 (by omega)) (by first | rfl | omega)) | exact Or.inr (by omega)) rfl), (by ((repeat' apply And.intro) <;> first | trivial | rfl | assumption | omega | decide | exact Or.inl rfl | exact Or.inr (Or.inl rfl) | exact Or.inr (Or.inr rfl)))⟩) [0, 9, 1, 2, 10, 3, 4, 5, 6, 11, 7, 8] (by decide) rfl (Nat.le_of_ble_eq_true rfl) (Nat.le_of_ble_eq_true rfl)
    rcases w85 with ⟨k123, k124, k125, k126⟩ | w85
    · skip
      have k126 := k126.symm
      subst k126
      refine r_if_eq_f 22 46 C dX11_code_22 (by decide) (by decide) ?_
      refine r_iload_n 25 4 C dX11_code_25 rfl ?_
      refine r_if_lt 26 46 C dX11_code_26 (by decide) (fun c127 => ?_) (fun c127 => ?_)
      · skip
        have k128 : (Int32.toInt x2) < 0 := (fa_lt x2 0).mp c127
        refine r_iconst 46 (-1) C dX11_code_46 (by decide) ?_
        exact r_iret 47 Rt dX11_code_47 () (show -1 ≤ (Int32.toInt (-1)) ∧ (Int32.toInt (-1)) ≤ 255 ∧ CND ((Int32.toInt x0) = 0 ∧ (HASP (Int32.toInt x7) (Int32.toInt x9) fn1 40 (Int32.toInt x1) → VALK (GB fn0 (Int32.toInt x6)) (Int32.toInt x7) (Int32.toInt x9) (Int32.toInt x8) fn1 fn2 (Int32.toInt x1))) (CCO (GB fn0 (Int32.toInt x6)) (Int32.toInt x7) (Int32.toInt x9) (Int32.toInt x8) fn1 fn2 40 (Int32.toInt x1) (Int32.toInt x2) (-1)) ∧ CND ((Int32.toInt x0) = 1 ∧ (HASP (Int32.toInt x10) (Int32.toInt x12) fn3 200 (Int32.toInt x1) → VALK (GB fn0 (Int32.toInt x6)) (Int32.toInt x10) (Int32.toInt x12) (Int32.toInt x11) fn3 fn4 (Int32.toInt x1))) (CCO (GB fn0 (Int32.toInt x6)) (Int32.toInt x10) (Int32.toInt x12) (Int32.toInt x11) fn3 fn4 200 (Int32.toInt x1) (Int32.toInt x2) (-1)) ∧ CND ((Int32.toInt x0) = 2 ∧ (HASP (Int32.toInt x13) (Int32.toInt x15) fn5 0 (Int32.toInt x1) → VALK (GB fn0 (Int32.toInt x6)) (Int32.toInt x13) (Int32.toInt x15) (Int32.toInt x14) fn5 nof (Int32.toInt x1))) (CCO (GB fn0 (Int32.toInt x6)) (Int32.toInt x13) (Int32.toInt x15) (Int32.toInt x14) fn5 nof 0 (Int32.toInt x1) (Int32.toInt x2) (-1)) ∧ ((0 ≤ (Int32.toInt x0) ∧ (Int32.toInt x0) ≤ 2) ∨ (-1) = -1) from ⟨(by ((repeat' apply And.intro) <;> first | trivial | rfl | assumption | omega | decide | exact Or.inl rfl | exact Or.inr (Or.inl rfl) | exact Or.inr (Or.inr rfl))), (by ((repeat' apply And.intro) <;> first | trivial | rfl | assumption | omega | decide | exact Or.inl rfl | exact Or.inr (Or.inl rfl) | exact Or.inr (Or.inr rfl))), (by first | exact fun h_9 => absurd h_9.1 (by omega) | exact fun h_9 => cco_no (by first | exact Or.inl (hsb_0 (hsb_k p84 (by omega)) (by first | rfl | omega)) | exact Or.inr (by omega)) rfl), (by first | exact fun h_9 => absurd h_9.1 (by omega) | exact fun h_9 => cco_no (by first | exact Or.inl (hsb_0 (hsb_k p84 (by omega)) (by first | rfl | omega)) | exact Or.inr (by omega)) rfl), (by first | exact fun h_9 => absurd h_9.1 (by omega) | exact fun h_9 => cco_no (by first | exact Or.inl (hsb_0 (hsb_k p84 (by omega)) (by first | rfl | omega)) | exact Or.inr (by omega)) rfl), (by ((repeat' apply And.intro) <;> first | trivial | rfl | assumption | omega | decide | exact Or.inl rfl | exact Or.inr (Or.inl rfl) | exact Or.inr (Or.inr rfl)))⟩) [0, 9, 1, 2, 10, 3, 4, 5, 6, 11, 7, 8] (by decide) rfl (Nat.le_of_ble_eq_true rfl) (Nat.le_of_ble_eq_true rfl)
      · skip
        have k129 : ¬ ((Int32.toInt x2) < 0) := fun h_9 => c127 ((fa_lt x2 0).mpr h_9)
        refine r_iload_n 29 4 C dX11_code_29 rfl ?_
        refine r_aload 30 0 C dX11_code_30 rfl ?_
        refine r_iload_n 32 3 C dX11_code_32 rfl ?_
        refine r_callVi 33 C dX11_code_33 [.int x2] [(h4, .inr (7, [.ref h2, .ref h9, .ref h10, .int x10, .int x11, .int x12])), (h2, .inr (4, [.ref h6, .int x6])), (h9, .inl (gI g, 200, .inl fn3)), (h10, .inl (gI g, 200, .inl fn4)), (h6, .inl (gB g, 1500, .inl fn0))] [(h0, .inr (10, [.ref h12, .ref h13, .ref h1, .ref h14, .ref h15, .ref h16, .ref h17, .ref h18, .ref h19, vv0])), (h3, .inr (7, [.ref h2, .ref h7, .ref h8, .int x7, .int x8, .int x9])), (h5, .inr (7, [.ref h2, .ref h11, .ref h20, .int x13, .int x14, .int x15])), (h7, .inl (gI g, 40, .inl fn1)), (h8, .inl (gI g, 40, .inl fn2)), (h11, .inl (gI g, 0, .inl fn5)), (h1, .inr (3, [.ref h2, .ref h3, .ref h4, .ref h5, .int x3, .int x4, .int x5]))] (fun sz => c34_X8_finishOf l g h4 h2 h9 h10 h6 x1 x10 x11 x12 x6 fn3 fn4 fn0 i_x6 sz) gX11_code_X8_finishOf rfl ⟨rfl, rfl⟩ 1 (by decide) ⟨Nat.le_of_ble_eq_true rfl, Nat.le_of_ble_eq_true rfl⟩ 10 rfl rfl [10, 1, 11, 7, 4] [0, 2, 3, 5, 6, 8, 9] rfl rfl (by decide) (by decide) (by decide) rfl rfl (Nat.le_of_ble_eq_true rfl) ⟨Nat.le_of_ble_eq_true rfl, Nat.le_of_ble_eq_true rfl⟩ (fun r130 _ w131 => ?_)
        refine r_ws [(h0, .inr (10, [.ref h12, .ref h13, .ref h1, .ref h14, .ref h15, .ref h16, .ref h17, .ref h18, .ref h19, vv0])), (h3, .inr (7, [.ref h2, .ref h7, .ref h8, .int x7, .int x8, .int x9])), (h5, .inr (7, [.ref h2, .ref h11, .ref h20, .int x13, .int x14, .int x15])), (h7, .inl (gI g, 40, .inl fn1)), (h8, .inl (gI g, 40, .inl fn2)), (h11, .inl (gI g, 0, .inl fn5)), (h1, .inr (3, [.ref h2, .ref h3, .ref h4, .ref h5, .int x3, .int x4, .int x5])), (h4, .inr (7, [.ref h2, .ref h9, .ref h10, .int x10, .int x11, .int x12])), (h2, .inr (4, [.ref h6, .int x6])), (h9, .inl (gI g, 200, .inl fn3)), (h10, .inl (gI g, 200, .inl fn4)), (h6, .inl (gB g, 1500, .inl fn0))] rfl ?_
        have p132 : CND (FOK (GB fn0 (Int32.toInt x6)) (Int32.toInt x10) (Int32.toInt x12) (Int32.toInt x11) fn3 fn4 200 (Int32.toInt x1)) ((Int32.toInt r130) = FINE (GB fn0 (Int32.toInt x6)) (Int32.toInt x10) (Int32.toInt x12) (Int32.toInt x11) fn4 (Int32.toInt x1)) := w131
        have gr130 := fb_rng r130
        refine r_aload 36 0 C dX11_code_36 rfl ?_
        refine r_iload_n 38 3 C dX11_code_38 rfl ?_
        refine r_callVi 39 C dX11_code_39 [.int r130, .int x2] [(h4, .inr (7, [.ref h2, .ref h9, .ref h10, .int x10, .int x11, .int x12])), (h2, .inr (4, [.ref h6, .int x6])), (h9, .inl (gI g, 200, .inl fn3)), (h6, .inl (gB g, 1500, .inl fn0))] [(h0, .inr (10, [.ref h12, .ref h13, .ref h1, .ref h14, .ref h15, .ref h16, .ref h17, .ref h18, .ref h19, vv0])), (h3, .inr (7, [.ref h2, .ref h7, .ref h8, .int x7, .int x8, .int x9])), (h5, .inr (7, [.ref h2, .ref h11, .ref h20, .int x13, .int x14, .int x15])), (h7, .inl (gI g, 40, .inl fn1)), (h8, .inl (gI g, 40, .inl fn2)), (h11, .inl (gI g, 0, .inl fn5)), (h1, .inr (3, [.ref h2, .ref h3, .ref h4, .ref h5, .int x3, .int x4, .int x5])), (h10, .inl (gI g, 200, .inl fn4))] (fun sz => c35_X8_beginOf l g h4 h2 h9 h6 x1 h10 x10 x11 x12 x6 fn3 fn0 i_x6 sz) gX11_code_X8_beginOf rfl ⟨rfl, rfl⟩ 1 (by decide) ⟨Nat.le_of_ble_eq_true rfl, Nat.le_of_ble_eq_true rfl⟩ 7 rfl rfl [7, 8, 9, 11] [0, 1, 2, 3, 4, 5, 6, 10] rfl rfl (by decide) (by decide) (by decide) rfl rfl (Nat.le_of_ble_eq_true rfl) ⟨Nat.le_of_ble_eq_true rfl, Nat.le_of_ble_eq_true rfl⟩ (fun r133 _ w134 => ?_)
        refine r_ws [(h0, .inr (10, [.ref h12, .ref h13, .ref h1, .ref h14, .ref h15, .ref h16, .ref h17, .ref h18, .ref h19, vv0])), (h3, .inr (7, [.ref h2, .ref h7, .ref h8, .int x7, .int x8, .int x9])), (h5, .inr (7, [.ref h2, .ref h11, .ref h20, .int x13, .int x14, .int x15])), (h7, .inl (gI g, 40, .inl fn1)), (h8, .inl (gI g, 40, .inl fn2)), (h11, .inl (gI g, 0, .inl fn5)), (h1, .inr (3, [.ref h2, .ref h3, .ref h4, .ref h5, .int x3, .int x4, .int x5])), (h10, .inl (gI g, 200, .inl fn4)), (h4, .inr (7, [.ref h2, .ref h9, .ref h10, .int x10, .int x11, .int x12])), (h2, .inr (4, [.ref h6, .int x6])), (h9, .inl (gI g, 200, .inl fn3)), (h6, .inl (gB g, 1500, .inl fn0))] rfl ?_
        have p135 : CND (BOK (GB fn0 (Int32.toInt x6)) (Int32.toInt x10) (Int32.toInt x12) (Int32.toInt x11) fn3 200 (Int32.toInt x1)) ((Int32.toInt r133) = BEGE (GB fn0 (Int32.toInt x6)) (Int32.toInt x10) (Int32.toInt x12) (Int32.toInt x11) fn3 (Int32.toInt x1)) := w134
        have gr133 := fb_rng r133
        obtain ⟨z136, ez136⟩ : ∃ z_9, r130 - r133 = z_9 := ⟨_, rfl⟩
        have gz136 := fb_rng z136
        refine r_isub 42 z136 C dX11_code_42 ez136 ?_
        refine r_icmp_lt 43 48 C dX11_code_43 (by decide) (fun c137 => ?_) (fun c137 => ?_)
        · skip
          have k138 : (Int32.toInt x2) < (Int32.toInt z136) := (fa_lt x2 z136).mp c137
          refine r_aload_n 48 1 C dX11_code_48 rfl ?_
          refine r_get 49 C dX11_code_49 (k := 2) 0 rfl rfl hiX11 (by decide) rfl (mg 1 rfl) (Or.inl rfl) rfl ?_
          refine r_getN 52 C dX11_code_52 (k := 0) 6 rfl rfl hiX3 (by decide) rfl (mg 4 rfl) rfl rfl ?_
          refine r_aload 55 0 C dX11_code_55 rfl ?_
          refine r_iload_n 57 3 C dX11_code_57 rfl ?_
          refine r_callVi 58 C dX11_code_58 [.ref h2] [(h4, .inr (7, [.ref h2, .ref h9, .ref h10, .int x10, .int x11, .int x12])), (h2, .inr (4, [.ref h6, .int x6])), (h9, .inl (gI g, 200, .inl fn3)), (h6, .inl (gB g, 1500, .inl fn0))] [(h0, .inr (10, [.ref h12, .ref h13, .ref h1, .ref h14, .ref h15, .ref h16, .ref h17, .ref h18, .ref h19, vv0])), (h3, .inr (7, [.ref h2, .ref h7, .ref h8, .int x7, .int x8, .int x9])), (h5, .inr (7, [.ref h2, .ref h11, .ref h20, .int x13, .int x14, .int x15])), (h7, .inl (gI g, 40, .inl fn1)), (h8, .inl (gI g, 40, .inl fn2)), (h11, .inl (gI g, 0, .inl fn5)), (h1, .inr (3, [.ref h2, .ref h3, .ref h4, .ref h5, .int x3, .int x4, .int x5])), (h10, .inl (gI g, 200, .inl fn4))] (fun sz => c35_X8_beginOf l g h4 h2 h9 h6 x1 h10 x10 x11 x12 x6 fn3 fn0 i_x6 sz) gX11_code_X8_beginOf rfl ⟨rfl, rfl⟩ 1 (by decide) ⟨Nat.le_of_ble_eq_true rfl, Nat.le_of_ble_eq_true rfl⟩ 8 rfl rfl [8, 9, 10, 11] [0, 1, 2, 3, 4, 5, 6, 7] rfl rfl (by decide) (by decide) (by decide) rfl rfl (Nat.le_of_ble_eq_true rfl) ⟨Nat.le_of_ble_eq_true rfl, Nat.le_of_ble_eq_true rfl⟩ (fun r139 _ w140 => ?_)
          refine r_ws [(h0, .inr (10, [.ref h12, .ref h13, .ref h1, .ref h14, .ref h15, .ref h16, .ref h17, .ref h18, .ref h19, vv0])), (h3, .inr (7, [.ref h2, .ref h7, .ref h8, .int x7, .int x8, .int x9])), (h5, .inr (7, [.ref h2, .ref h11, .ref h20, .int x13, .int x14, .int x15])), (h7, .inl (gI g, 40, .inl fn1)), (h8, .inl (gI g, 40, .inl fn2)), (h11, .inl (gI g, 0, .inl fn5)), (h1, .inr (3, [.ref h2, .ref h3, .ref h4, .ref h5, .int x3, .int x4, .int x5])), (h10, .inl (gI g, 200, .inl fn4)), (h4, .inr (7, [.ref h2, .ref h9, .ref h10, .int x10, .int x11, .int x12])), (h2, .inr (4, [.ref h6, .int x6])), (h9, .inl (gI g, 200, .inl fn3)), (h6, .inl (gB g, 1500, .inl fn0))] rfl ?_
          have p141 : CND (BOK (GB fn0 (Int32.toInt x6)) (Int32.toInt x10) (Int32.toInt x12) (Int32.toInt x11) fn3 200 (Int32.toInt x1)) ((Int32.toInt r139) = BEGE (GB fn0 (Int32.toInt x6)) (Int32.toInt x10) (Int32.toInt x12) (Int32.toInt x11) fn3 (Int32.toInt x1)) := w140
          have gr139 := fb_rng r139
          refine r_iload_n 61 4 C dX11_code_61 rfl ?_
          obtain ⟨z142, ez142⟩ : ∃ z_9, r139 + x2 = z_9 := ⟨_, rfl⟩
          have gz142 := fb_rng z142
          refine r_iadd 62 z142 C dX11_code_62 ez142 ?_
          obtain ⟨z143, ez143⟩ : ∃ z_9, Int32.toInt64 z142 = z_9 := ⟨_, rfl⟩
          have tz143 : (Int64.toInt z143) = (Int32.toInt z142) := by rw [← ez143]; exact Int32.toInt_toInt64 _
          refine r_i2l 63 z143 C dX11_code_63 ez143 ?_
          refine r_callVi 64 C dX11_code_64 [] [(h2, .inr (4, [.ref h6, .int x6])), (h6, .inl (gB g, 1500, .inl fn0))] [(h0, .inr (10, [.ref h12, .ref h13, .ref h1, .ref h14, .ref h15, .ref h16, .ref h17, .ref h18, .ref h19, vv0])), (h3, .inr (7, [.ref h2, .ref h7, .ref h8, .int x7, .int x8, .int x9])), (h5, .inr (7, [.ref h2, .ref h11, .ref h20, .int x13, .int x14, .int x15])), (h7, .inl (gI g, 40, .inl fn1)), (h8, .inl (gI g, 40, .inl fn2)), (h11, .inl (gI g, 0, .inl fn5)), (h1, .inr (3, [.ref h2, .ref h3, .ref h4, .ref h5, .int x3, .int x4, .int x5])), (h10, .inl (gI g, 200, .inl fn4)), (h4, .inr (7, [.ref h2, .ref h9, .ref h10, .int x10, .int x11, .int x12])), (h9, .inl (gI g, 200, .inl fn3))] (fun sz => c14_X5_get l g h2 h6 z143 x6 fn0 i_x6 sz) gX11_code_X5_get rfl ⟨rfl, rfl⟩ 1 (by decide) ⟨Nat.le_of_ble_eq_true rfl, Nat.le_of_ble_eq_true rfl⟩ 9 rfl rfl [9, 11] [0, 1, 2, 3, 4, 5, 6, 7, 8, 10] rfl rfl (by decide) (by decide) (by decide) rfl rfl (Nat.le_of_ble_eq_true rfl) ⟨Nat.le_of_ble_eq_true rfl, Nat.le_of_ble_eq_true rfl⟩ (fun r144 _ w145 => ?_)
          refine r_ws [(h0, .inr (10, [.ref h12, .ref h13, .ref h1, .ref h14, .ref h15, .ref h16, .ref h17, .ref h18, .ref h19, vv0])), (h3, .inr (7, [.ref h2, .ref h7, .ref h8, .int x7, .int x8, .int x9])), (h5, .inr (7, [.ref h2, .ref h11, .ref h20, .int x13, .int x14, .int x15])), (h7, .inl (gI g, 40, .inl fn1)), (h8, .inl (gI g, 40, .inl fn2)), (h11, .inl (gI g, 0, .inl fn5)), (h1, .inr (3, [.ref h2, .ref h3, .ref h4, .ref h5, .int x3, .int x4, .int x5])), (h10, .inl (gI g, 200, .inl fn4)), (h4, .inr (7, [.ref h2, .ref h9, .ref h10, .int x10, .int x11, .int x12])), (h9, .inl (gI g, 200, .inl fn3)), (h2, .inr (4, [.ref h6, .int x6])), (h6, .inl (gB g, 1500, .inl fn0))] rfl ?_
          have p146 : -1 ≤ (Int32.toInt r144) := w145.1
          have p147 : (Int32.toInt r144) ≤ 255 := w145.2.1
          have p148 : HID ((0 ≤ (Int64.toInt z143) ∧ (Int64.toInt z143) < (Int32.toInt x6) ∧ r144 = (fn0 (Int.toNat (Int64.toInt z143)) &&& 255)) ∨ (((Int64.toInt z143) < 0 ∨ (Int32.toInt x6) ≤ (Int64.toInt z143)) ∧ r144 = -1)) := w145.2.2.1
          have p149 : (Int32.toInt r144) = GB fn0 (Int32.toInt x6) (Int64.toInt z143) := w145.2.2.2
          exact r_iret 67 Rt dX11_code_67 () (show -1 ≤ (Int32.toInt r144) ∧ (Int32.toInt r144) ≤ 255 ∧ CND ((Int32.toInt x0) = 0 ∧ (HASP (Int32.toInt x7) (Int32.toInt x9) fn1 40 (Int32.toInt x1) → VALK (GB fn0 (Int32.toInt x6)) (Int32.toInt x7) (Int32.toInt x9) (Int32.toInt x8) fn1 fn2 (Int32.toInt x1))) (CCO (GB fn0 (Int32.toInt x6)) (Int32.toInt x7) (Int32.toInt x9) (Int32.toInt x8) fn1 fn2 40 (Int32.toInt x1) (Int32.toInt x2) (Int32.toInt r144)) ∧ CND ((Int32.toInt x0) = 1 ∧ (HASP (Int32.toInt x10) (Int32.toInt x12) fn3 200 (Int32.toInt x1) → VALK (GB fn0 (Int32.toInt x6)) (Int32.toInt x10) (Int32.toInt x12) (Int32.toInt x11) fn3 fn4 (Int32.toInt x1))) (CCO (GB fn0 (Int32.toInt x6)) (Int32.toInt x10) (Int32.toInt x12) (Int32.toInt x11) fn3 fn4 200 (Int32.toInt x1) (Int32.toInt x2) (Int32.toInt r144)) ∧ CND ((Int32.toInt x0) = 2 ∧ (HASP (Int32.toInt x13) (Int32.toInt x15) fn5 0 (Int32.toInt x1) → VALK (GB fn0 (Int32.toInt x6)) (Int32.toInt x13) (Int32.toInt x15) (Int32.toInt x14) fn5 nof (Int32.toInt x1))) (CCO (GB fn0 (Int32.toInt x6)) (Int32.toInt x13) (Int32.toInt x15) (Int32.toInt x14) fn5 nof 0 (Int32.toInt x1) (Int32.toInt x2) (Int32.toInt r144)) ∧ ((0 ≤ (Int32.toInt x0) ∧ (Int32.toInt x0) ≤ 2) ∨ (Int32.toInt r144) = -1) from ⟨(show _ ∧ _ from ⟨p146, p147⟩).1, (show _ ∧ _ from ⟨p146, p147⟩).2, (by first | exact fun h_9 => absurd h_9.1 (by omega) | exact fun h_9 => cco_get (hsb_1 (hsb_k p84 (by omega)) (by first | decide | omega)) h_9.2 p132 p135 (by assumption) (by omega) (by omega) p141 (by assumption) p149 (by omega)), (by first | exact fun h_9 => absurd h_9.1 (by omega) | exact fun h_9 => cco_get (hsb_1 (hsb_k p84 (by omega)) (by first | decide | omega)) h_9.2 p132 p135 (by assumption) (by omega) (by omega) p141 (by assumption) p149 (by omega)), (by first | exact fun h_9 => absurd h_9.1 (by omega) | exact fun h_9 => cco_get (hsb_1 (hsb_k p84 (by omega)) (by first | decide | omega)) h_9.2 p132 p135 (by assumption) (by omega) (by omega) p141 (by assumption) p149 (by omega)), (by ((repeat' apply And.intro) <;> first | trivial | rfl | assumption | omega | decide | exact Or.inl rfl | exact Or.inr (Or.inl rfl) | exact Or.inr (Or.inr rfl)))⟩) [0, 6, 10, 1, 8, 2, 11, 3, 4, 9, 7, 5] (by decide) rfl (Nat.le_of_ble_eq_true rfl) (Nat.le_of_ble_eq_true rfl)
        · skip
          have k150 : ¬ ((Int32.toInt x2) < (Int32.toInt z136)) := fun h_9 => c137 ((fa_lt x2 z136).mpr h_9)
          refine r_iconst 46 (-1) C dX11_code_46 (by decide) ?_
          exact r_iret 47 Rt dX11_code_47 () (show -1 ≤ (Int32.toInt (-1)) ∧ (Int32.toInt (-1)) ≤ 255 ∧ CND ((Int32.toInt x0) = 0 ∧ (HASP (Int32.toInt x7) (Int32.toInt x9) fn1 40 (Int32.toInt x1) → VALK (GB fn0 (Int32.toInt x6)) (Int32.toInt x7) (Int32.toInt x9) (Int32.toInt x8) fn1 fn2 (Int32.toInt x1))) (CCO (GB fn0 (Int32.toInt x6)) (Int32.toInt x7) (Int32.toInt x9) (Int32.toInt x8) fn1 fn2 40 (Int32.toInt x1) (Int32.toInt x2) (-1)) ∧ CND ((Int32.toInt x0) = 1 ∧ (HASP (Int32.toInt x10) (Int32.toInt x12) fn3 200 (Int32.toInt x1) → VALK (GB fn0 (Int32.toInt x6)) (Int32.toInt x10) (Int32.toInt x12) (Int32.toInt x11) fn3 fn4 (Int32.toInt x1))) (CCO (GB fn0 (Int32.toInt x6)) (Int32.toInt x10) (Int32.toInt x12) (Int32.toInt x11) fn3 fn4 200 (Int32.toInt x1) (Int32.toInt x2) (-1)) ∧ CND ((Int32.toInt x0) = 2 ∧ (HASP (Int32.toInt x13) (Int32.toInt x15) fn5 0 (Int32.toInt x1) → VALK (GB fn0 (Int32.toInt x6)) (Int32.toInt x13) (Int32.toInt x15) (Int32.toInt x14) fn5 nof (Int32.toInt x1))) (CCO (GB fn0 (Int32.toInt x6)) (Int32.toInt x13) (Int32.toInt x15) (Int32.toInt x14) fn5 nof 0 (Int32.toInt x1) (Int32.toInt x2) (-1)) ∧ ((0 ≤ (Int32.toInt x0) ∧ (Int32.toInt x0) ≤ 2) ∨ (-1) = -1) from ⟨(by ((repeat' apply And.intro) <;> first | trivial | rfl | assumption | omega | decide | exact Or.inl rfl | exact Or.inr (Or.inl rfl) | exact Or.inr (Or.inr rfl))), (by ((repeat' apply And.intro) <;> first | trivial | rfl | assumption | omega | decide | exact Or.inl rfl | exact Or.inr (Or.inl rfl) | exact Or.inr (Or.inr rfl))), (by first | exact fun h_9 => absurd h_9.1 (by omega) | exact fun h_9 => cco_ge (hsb_1 (hsb_k p84 (by omega)) (by first | decide | omega)) h_9.2 p132 p135 (by assumption) (by omega) rfl), (by first | exact fun h_9 => absurd h_9.1 (by omega) | exact fun h_9 => cco_ge (hsb_1 (hsb_k p84 (by omega)) (by first | decide | omega)) h_9.2 p132 p135 (by assumption) (by omega) rfl), (by first | exact fun h_9 => absurd h_9.1 (by omega) | exact fun h_9 => cco_ge (hsb_1 (hsb_k p84 (by omega)) (by first | decide | omega)) h_9.2 p132 p135 (by assumption) (by omega) rfl), (by ((repeat' apply And.intro) <;> first | trivial | rfl | assumption | omega | decide | exact Or.inl rfl | exact Or.inr (Or.inl rfl) | exact Or.inr (Or.inr rfl)))⟩) [0, 6, 9, 1, 8, 2, 11, 3, 4, 10, 7, 5] (by decide) rfl (Nat.le_of_ble_eq_true rfl) (Nat.le_of_ble_eq_true rfl)
    obtain ⟨k151, k152⟩ := w85
    have k152 := k152.symm
    subst k152
    refine r_if_eq_t 22 46 C dX11_code_22 (by decide) (by decide) ?_
    refine r_iconst 46 (-1) C dX11_code_46 (by decide) ?_
    exact r_iret 47 Rt dX11_code_47 () (show -1 ≤ (Int32.toInt (-1)) ∧ (Int32.toInt (-1)) ≤ 255 ∧ CND ((Int32.toInt x0) = 0 ∧ (HASP (Int32.toInt x7) (Int32.toInt x9) fn1 40 (Int32.toInt x1) → VALK (GB fn0 (Int32.toInt x6)) (Int32.toInt x7) (Int32.toInt x9) (Int32.toInt x8) fn1 fn2 (Int32.toInt x1))) (CCO (GB fn0 (Int32.toInt x6)) (Int32.toInt x7) (Int32.toInt x9) (Int32.toInt x8) fn1 fn2 40 (Int32.toInt x1) (Int32.toInt x2) (-1)) ∧ CND ((Int32.toInt x0) = 1 ∧ (HASP (Int32.toInt x10) (Int32.toInt x12) fn3 200 (Int32.toInt x1) → VALK (GB fn0 (Int32.toInt x6)) (Int32.toInt x10) (Int32.toInt x12) (Int32.toInt x11) fn3 fn4 (Int32.toInt x1))) (CCO (GB fn0 (Int32.toInt x6)) (Int32.toInt x10) (Int32.toInt x12) (Int32.toInt x11) fn3 fn4 200 (Int32.toInt x1) (Int32.toInt x2) (-1)) ∧ CND ((Int32.toInt x0) = 2 ∧ (HASP (Int32.toInt x13) (Int32.toInt x15) fn5 0 (Int32.toInt x1) → VALK (GB fn0 (Int32.toInt x6)) (Int32.toInt x13) (Int32.toInt x15) (Int32.toInt x14) fn5 nof (Int32.toInt x1))) (CCO (GB fn0 (Int32.toInt x6)) (Int32.toInt x13) (Int32.toInt x15) (Int32.toInt x14) fn5 nof 0 (Int32.toInt x1) (Int32.toInt x2) (-1)) ∧ ((0 ≤ (Int32.toInt x0) ∧ (Int32.toInt x0) ≤ 2) ∨ (-1) = -1) from ⟨(by ((repeat' apply And.intro) <;> first | trivial | rfl | assumption | omega | decide | exact Or.inl rfl | exact Or.inr (Or.inl rfl) | exact Or.inr (Or.inr rfl))), (by ((repeat' apply And.intro) <;> first | trivial | rfl | assumption | omega | decide | exact Or.inl rfl | exact Or.inr (Or.inl rfl) | exact Or.inr (Or.inr rfl))), (by first | exact fun h_9 => absurd h_9.1 (by omega) | exact fun h_9 => cco_no (by first | exact Or.inl (hsb_0 (hsb_k p84 (by omega)) (by first | rfl | omega)) | exact Or.inr (by omega)) rfl), (by first | exact fun h_9 => absurd h_9.1 (by omega) | exact fun h_9 => cco_no (by first | exact Or.inl (hsb_0 (hsb_k p84 (by omega)) (by first | rfl | omega)) | exact Or.inr (by omega)) rfl), (by first | exact fun h_9 => absurd h_9.1 (by omega) | exact fun h_9 => cco_no (by first | exact Or.inl (hsb_0 (hsb_k p84 (by omega)) (by first | rfl | omega)) | exact Or.inr (by omega)) rfl), (by ((repeat' apply And.intro) <;> first | trivial | rfl | assumption | omega | decide | exact Or.inl rfl | exact Or.inr (Or.inl rfl) | exact Or.inr (Or.inr rfl)))⟩) [0, 9, 1, 2, 10, 3, 4, 5, 6, 11, 7, 8] (by decide) rfl (Nat.le_of_ble_eq_true rfl) (Nat.le_of_ble_eq_true rfl)
  rcases w3 with ⟨k153, k154, k155, k156⟩ | w3
  · skip
    have k156 := k156.symm
    subst k156
    refine r_st [.ref h5] rfl ?_
    refine r_astore 8 C dX11_code_8 [(4, .ref h5), (0, .ref h0), (1, .int x0), (2, .int x1), (3, .int x2)] (by decide) rfl ?_
    refine r_aload 10 0 C dX11_code_10 rfl ?_
    refine r_ifnull 12 C dX11_code_12 ?_
    refine r_aload 15 0 C dX11_code_15 rfl ?_
    refine r_iload_n 17 3 C dX11_code_17 rfl ?_
    obtain ⟨z157, ez157⟩ : ∃ z_9, Int32.toInt64 x1 = z_9 := ⟨_, rfl⟩
    have tz157 : (Int64.toInt z157) = (Int32.toInt x1) := by rw [← ez157]; exact Int32.toInt_toInt64 _
    refine r_i2l 18 z157 C dX11_code_18 ez157 ?_
    refine r_callVi 19 C dX11_code_19 [] [(h5, .inr (7, [.ref h2, .ref h11, .ref h20, .int x13, .int x14, .int x15])), (h11, .inl (gI g, 0, .inl fn5))] [(h0, .inr (10, [.ref h12, .ref h13, .ref h1, .ref h14, .ref h15, .ref h16, .ref h17, .ref h18, .ref h19, vv0])), (h2, .inr (4, [.ref h6, .int x6])), (h3, .inr (7, [.ref h2, .ref h7, .ref h8, .int x7, .int x8, .int x9])), (h4, .inr (7, [.ref h2, .ref h9, .ref h10, .int x10, .int x11, .int x12])), (h6, .inl (gB g, 1500, .inl fn0)), (h7, .inl (gI g, 40, .inl fn1)), (h8, .inl (gI g, 40, .inl fn2)), (h9, .inl (gI g, 200, .inl fn3)), (h10, .inl (gI g, 200, .inl fn4)), (h1, .inr (3, [.ref h2, .ref h3, .ref h4, .ref h5, .int x3, .int x4, .int x5]))] (fun sz => c36_X8_has l g h5 h11 z157 h2 h20 x13 x14 x15 fn5  sz) gX11_code_X8_has rfl ⟨rfl, rfl⟩ 1 (by decide) ⟨Nat.le_of_ble_eq_true rfl, Nat.le_of_ble_eq_true rfl⟩ 4 rfl rfl [4, 10] [0, 1, 2, 3, 5, 6, 7, 8, 9, 11] rfl rfl (by decide) (by decide) (by decide) rfl rfl (Nat.le_of_ble_eq_true rfl) ⟨Nat.le_of_ble_eq_true rfl, Nat.le_of_ble_eq_true rfl⟩ (fun r158 _ w159 => ?_)
    refine r_ws [(h0, .inr (10, [.ref h12, .ref h13, .ref h1, .ref h14, .ref h15, .ref h16, .ref h17, .ref h18, .ref h19, vv0])), (h2, .inr (4, [.ref h6, .int x6])), (h3, .inr (7, [.ref h2, .ref h7, .ref h8, .int x7, .int x8, .int x9])), (h4, .inr (7, [.ref h2, .ref h9, .ref h10, .int x10, .int x11, .int x12])), (h6, .inl (gB g, 1500, .inl fn0)), (h7, .inl (gI g, 40, .inl fn1)), (h8, .inl (gI g, 40, .inl fn2)), (h9, .inl (gI g, 200, .inl fn3)), (h10, .inl (gI g, 200, .inl fn4)), (h1, .inr (3, [.ref h2, .ref h3, .ref h4, .ref h5, .int x3, .int x4, .int x5])), (h5, .inr (7, [.ref h2, .ref h11, .ref h20, .int x13, .int x14, .int x15])), (h11, .inl (gI g, 0, .inl fn5))] rfl ?_
    have p160 : HSB (Int32.toInt r158) (HASP (Int32.toInt x13) (Int32.toInt x15) fn5 0 (Int64.toInt z157)) := w159.2
    have w161 : (((Int64.toInt z157) < 0 ∧ r158 = 0) ∨ (¬ ((Int64.toInt z157) < 0) ∧ 0 < (Int32.toInt x15) ∧ r158 = 1) ∨ (¬ ((Int64.toInt z157) < 0) ∧ ¬ (0 < (Int32.toInt x15)) ∧ r158 = 0) ∨ (¬ ((Int64.toInt z157) < 0) ∧ r158 = 0)) := w159.1
    rcases w161 with ⟨k162, k163⟩ | w161
    · skip
      have k163 := k163.symm
      subst k163
      refine r_if_eq_t 22 46 C dX11_code_22 (by decide) (by decide) ?_
      refine r_iconst 46 (-1) C dX11_code_46 (by decide) ?_
      exact r_iret 47 Rt dX11_code_47 () (show -1 ≤ (Int32.toInt (-1)) ∧ (Int32.toInt (-1)) ≤ 255 ∧ CND ((Int32.toInt x0) = 0 ∧ (HASP (Int32.toInt x7) (Int32.toInt x9) fn1 40 (Int32.toInt x1) → VALK (GB fn0 (Int32.toInt x6)) (Int32.toInt x7) (Int32.toInt x9) (Int32.toInt x8) fn1 fn2 (Int32.toInt x1))) (CCO (GB fn0 (Int32.toInt x6)) (Int32.toInt x7) (Int32.toInt x9) (Int32.toInt x8) fn1 fn2 40 (Int32.toInt x1) (Int32.toInt x2) (-1)) ∧ CND ((Int32.toInt x0) = 1 ∧ (HASP (Int32.toInt x10) (Int32.toInt x12) fn3 200 (Int32.toInt x1) → VALK (GB fn0 (Int32.toInt x6)) (Int32.toInt x10) (Int32.toInt x12) (Int32.toInt x11) fn3 fn4 (Int32.toInt x1))) (CCO (GB fn0 (Int32.toInt x6)) (Int32.toInt x10) (Int32.toInt x12) (Int32.toInt x11) fn3 fn4 200 (Int32.toInt x1) (Int32.toInt x2) (-1)) ∧ CND ((Int32.toInt x0) = 2 ∧ (HASP (Int32.toInt x13) (Int32.toInt x15) fn5 0 (Int32.toInt x1) → VALK (GB fn0 (Int32.toInt x6)) (Int32.toInt x13) (Int32.toInt x15) (Int32.toInt x14) fn5 nof (Int32.toInt x1))) (CCO (GB fn0 (Int32.toInt x6)) (Int32.toInt x13) (Int32.toInt x15) (Int32.toInt x14) fn5 nof 0 (Int32.toInt x1) (Int32.toInt x2) (-1)) ∧ ((0 ≤ (Int32.toInt x0) ∧ (Int32.toInt x0) ≤ 2) ∨ (-1) = -1) from ⟨(by ((repeat' apply And.intro) <;> first | trivial | rfl | assumption | omega | decide | exact Or.inl rfl | exact Or.inr (Or.inl rfl) | exact Or.inr (Or.inr rfl))), (by ((repeat' apply And.intro) <;> first | trivial | rfl | assumption | omega | decide | exact Or.inl rfl | exact Or.inr (Or.inl rfl) | exact Or.inr (Or.inr rfl))), (by first | exact fun h_9 => absurd h_9.1 (by omega) | exact fun h_9 => cco_no (by first | exact Or.inl (hsb_0 (hsb_k p160 (by omega)) (by first | rfl | omega)) | exact Or.inr (by omega)) rfl), (by first | exact fun h_9 => absurd h_9.1 (by omega) | exact fun h_9 => cco_no (by first | exact Or.inl (hsb_0 (hsb_k p160 (by omega)) (by first | rfl | omega)) | exact Or.inr (by omega)) rfl), (by first | exact fun h_9 => absurd h_9.1 (by omega) | exact fun h_9 => cco_no (by first | exact Or.inl (hsb_0 (hsb_k p160 (by omega)) (by first | rfl | omega)) | exact Or.inr (by omega)) rfl), (by ((repeat' apply And.intro) <;> first | trivial | rfl | assumption | omega | decide | exact Or.inl rfl | exact Or.inr (Or.inl rfl) | exact Or.inr (Or.inr rfl)))⟩) [0, 9, 1, 2, 3, 10, 4, 5, 6, 7, 8, 11] (by decide) rfl (Nat.le_of_ble_eq_true rfl) (Nat.le_of_ble_eq_true rfl)
    rcases w161 with ⟨k164, k165, k166⟩ | w161
    · skip
      have k166 := k166.symm
      subst k166
      refine r_if_eq_f 22 46 C dX11_code_22 (by decide) (by decide) ?_
      refine r_iload_n 25 4 C dX11_code_25 rfl ?_
      refine r_if_lt 26 46 C dX11_code_26 (by decide) (fun c167 => ?_) (fun c167 => ?_)
      · skip
        have k168 : (Int32.toInt x2) < 0 := (fa_lt x2 0).mp c167
        refine r_iconst 46 (-1) C dX11_code_46 (by decide) ?_
        exact r_iret 47 Rt dX11_code_47 () (show -1 ≤ (Int32.toInt (-1)) ∧ (Int32.toInt (-1)) ≤ 255 ∧ CND ((Int32.toInt x0) = 0 ∧ (HASP (Int32.toInt x7) (Int32.toInt x9) fn1 40 (Int32.toInt x1) → VALK (GB fn0 (Int32.toInt x6)) (Int32.toInt x7) (Int32.toInt x9) (Int32.toInt x8) fn1 fn2 (Int32.toInt x1))) (CCO (GB fn0 (Int32.toInt x6)) (Int32.toInt x7) (Int32.toInt x9) (Int32.toInt x8) fn1 fn2 40 (Int32.toInt x1) (Int32.toInt x2) (-1)) ∧ CND ((Int32.toInt x0) = 1 ∧ (HASP (Int32.toInt x10) (Int32.toInt x12) fn3 200 (Int32.toInt x1) → VALK (GB fn0 (Int32.toInt x6)) (Int32.toInt x10) (Int32.toInt x12) (Int32.toInt x11) fn3 fn4 (Int32.toInt x1))) (CCO (GB fn0 (Int32.toInt x6)) (Int32.toInt x10) (Int32.toInt x12) (Int32.toInt x11) fn3 fn4 200 (Int32.toInt x1) (Int32.toInt x2) (-1)) ∧ CND ((Int32.toInt x0) = 2 ∧ (HASP (Int32.toInt x13) (Int32.toInt x15) fn5 0 (Int32.toInt x1) → VALK (GB fn0 (Int32.toInt x6)) (Int32.toInt x13) (Int32.toInt x15) (Int32.toInt x14) fn5 nof (Int32.toInt x1))) (CCO (GB fn0 (Int32.toInt x6)) (Int32.toInt x13) (Int32.toInt x15) (Int32.toInt x14) fn5 nof 0 (Int32.toInt x1) (Int32.toInt x2) (-1)) ∧ ((0 ≤ (Int32.toInt x0) ∧ (Int32.toInt x0) ≤ 2) ∨ (-1) = -1) from ⟨(by ((repeat' apply And.intro) <;> first | trivial | rfl | assumption | omega | decide | exact Or.inl rfl | exact Or.inr (Or.inl rfl) | exact Or.inr (Or.inr rfl))), (by ((repeat' apply And.intro) <;> first | trivial | rfl | assumption | omega | decide | exact Or.inl rfl | exact Or.inr (Or.inl rfl) | exact Or.inr (Or.inr rfl))), (by first | exact fun h_9 => absurd h_9.1 (by omega) | exact fun h_9 => cco_no (by first | exact Or.inl (hsb_0 (hsb_k p160 (by omega)) (by first | rfl | omega)) | exact Or.inr (by omega)) rfl), (by first | exact fun h_9 => absurd h_9.1 (by omega) | exact fun h_9 => cco_no (by first | exact Or.inl (hsb_0 (hsb_k p160 (by omega)) (by first | rfl | omega)) | exact Or.inr (by omega)) rfl), (by first | exact fun h_9 => absurd h_9.1 (by omega) | exact fun h_9 => cco_no (by first | exact Or.inl (hsb_0 (hsb_k p160 (by omega)) (by first | rfl | omega)) | exact Or.inr (by omega)) rfl), (by ((repeat' apply And.intro) <;> first | trivial | rfl | assumption | omega | decide | exact Or.inl rfl | exact Or.inr (Or.inl rfl) | exact Or.inr (Or.inr rfl)))⟩) [0, 9, 1, 2, 3, 10, 4, 5, 6, 7, 8, 11] (by decide) rfl (Nat.le_of_ble_eq_true rfl) (Nat.le_of_ble_eq_true rfl)
      · skip
        have k169 : ¬ ((Int32.toInt x2) < 0) := fun h_9 => c167 ((fa_lt x2 0).mpr h_9)
        refine r_iload_n 29 4 C dX11_code_29 rfl ?_
        refine r_aload 30 0 C dX11_code_30 rfl ?_
        refine r_iload_n 32 3 C dX11_code_32 rfl ?_
        refine r_callVi 33 C dX11_code_33 [.int x2] [(h5, .inr (7, [.ref h2, .ref h11, .ref h20, .int x13, .int x14, .int x15])), (h2, .inr (4, [.ref h6, .int x6])), (h11, .inl (gI g, 0, .inl fn5)), (h6, .inl (gB g, 1500, .inl fn0))] [(h0, .inr (10, [.ref h12, .ref h13, .ref h1, .ref h14, .ref h15, .ref h16, .ref h17, .ref h18, .ref h19, vv0])), (h3, .inr (7, [.ref h2, .ref h7, .ref h8, .int x7, .int x8, .int x9])), (h4, .inr (7, [.ref h2, .ref h9, .ref h10, .int x10, .int x11, .int x12])), (h7, .inl (gI g, 40, .inl fn1)), (h8, .inl (gI g, 40, .inl fn2)), (h9, .inl (gI g, 200, .inl fn3)), (h10, .inl (gI g, 200, .inl fn4)), (h1, .inr (3, [.ref h2, .ref h3, .ref h4, .ref h5, .int x3, .int x4, .int x5]))] (fun sz => c37_X8_finishOf l g h5 h2 h11 h6 x1 h20 x13 x14 x15 x6 fn5 fn0 i_x6 sz) gX11_code_X8_finishOf rfl ⟨rfl, rfl⟩ 1 (by decide) ⟨Nat.le_of_ble_eq_true rfl, Nat.le_of_ble_eq_true rfl⟩ 10 rfl rfl [10, 1, 11, 4] [0, 2, 3, 5, 6, 7, 8, 9] rfl rfl (by decide) (by decide) (by decide) rfl rfl (Nat.le_of_ble_eq_true rfl) ⟨Nat.le_of_ble_eq_true rfl, Nat.le_of_ble_eq_true rfl⟩ (fun r170 _ w171 => ?_)
        refine r_ws [(h0, .inr (10, [.ref h12, .ref h13, .ref h1, .ref h14, .ref h15, .ref h16, .ref h17, .ref h18, .ref h19, vv0])), (h3, .inr (7, [.ref h2, .ref h7, .ref h8, .int x7, .int x8, .int x9])), (h4, .inr (7, [.ref h2, .ref h9, .ref h10, .int x10, .int x11, .int x12])), (h7, .inl (gI g, 40, .inl fn1)), (h8, .inl (gI g, 40, .inl fn2)), (h9, .inl (gI g, 200, .inl fn3)), (h10, .inl (gI g, 200, .inl fn4)), (h1, .inr (3, [.ref h2, .ref h3, .ref h4, .ref h5, .int x3, .int x4, .int x5])), (h5, .inr (7, [.ref h2, .ref h11, .ref h20, .int x13, .int x14, .int x15])), (h2, .inr (4, [.ref h6, .int x6])), (h11, .inl (gI g, 0, .inl fn5)), (h6, .inl (gB g, 1500, .inl fn0))] rfl ?_
        have p172 : CND (FOK (GB fn0 (Int32.toInt x6)) (Int32.toInt x13) (Int32.toInt x15) (Int32.toInt x14) fn5 nof 0 (Int32.toInt x1)) ((Int32.toInt r170) = FINE (GB fn0 (Int32.toInt x6)) (Int32.toInt x13) (Int32.toInt x15) (Int32.toInt x14) nof (Int32.toInt x1)) := w171
        have gr170 := fb_rng r170
        refine r_aload 36 0 C dX11_code_36 rfl ?_
        refine r_iload_n 38 3 C dX11_code_38 rfl ?_
        refine r_callVi 39 C dX11_code_39 [.int r170, .int x2] [(h5, .inr (7, [.ref h2, .ref h11, .ref h20, .int x13, .int x14, .int x15])), (h2, .inr (4, [.ref h6, .int x6])), (h11, .inl (gI g, 0, .inl fn5)), (h6, .inl (gB g, 1500, .inl fn0))] [(h0, .inr (10, [.ref h12, .ref h13, .ref h1, .ref h14, .ref h15, .ref h16, .ref h17, .ref h18, .ref h19, vv0])), (h3, .inr (7, [.ref h2, .ref h7, .ref h8, .int x7, .int x8, .int x9])), (h4, .inr (7, [.ref h2, .ref h9, .ref h10, .int x10, .int x11, .int x12])), (h7, .inl (gI g, 40, .inl fn1)), (h8, .inl (gI g, 40, .inl fn2)), (h9, .inl (gI g, 200, .inl fn3)), (h10, .inl (gI g, 200, .inl fn4)), (h1, .inr (3, [.ref h2, .ref h3, .ref h4, .ref h5, .int x3, .int x4, .int x5]))] (fun sz => c38_X8_beginOf l g h5 h2 h11 h6 x1 h20 x13 x14 x15 x6 fn5 fn0 i_x6 sz) gX11_code_X8_beginOf rfl ⟨rfl, rfl⟩ 1 (by decide) ⟨Nat.le_of_ble_eq_true rfl, Nat.le_of_ble_eq_true rfl⟩ 8 rfl rfl [8, 9, 10, 11] [0, 1, 2, 3, 4, 5, 6, 7] rfl rfl (by decide) (by decide) (by decide) rfl rfl (Nat.le_of_ble_eq_true rfl) ⟨Nat.le_of_ble_eq_true rfl, Nat.le_of_ble_eq_true rfl⟩ (fun r173 _ w174 => ?_)
        refine r_ws [(h0, .inr (10, [.ref h12, .ref h13, .ref h1, .ref h14, .ref h15, .ref h16, .ref h17, .ref h18, .ref h19, vv0])), (h3, .inr (7, [.ref h2, .ref h7, .ref h8, .int x7, .int x8, .int x9])), (h4, .inr (7, [.ref h2, .ref h9, .ref h10, .int x10, .int x11, .int x12])), (h7, .inl (gI g, 40, .inl fn1)), (h8, .inl (gI g, 40, .inl fn2)), (h9, .inl (gI g, 200, .inl fn3)), (h10, .inl (gI g, 200, .inl fn4)), (h1, .inr (3, [.ref h2, .ref h3, .ref h4, .ref h5, .int x3, .int x4, .int x5])), (h5, .inr (7, [.ref h2, .ref h11, .ref h20, .int x13, .int x14, .int x15])), (h2, .inr (4, [.ref h6, .int x6])), (h11, .inl (gI g, 0, .inl fn5)), (h6, .inl (gB g, 1500, .inl fn0))] rfl ?_
        have p175 : CND (BOK (GB fn0 (Int32.toInt x6)) (Int32.toInt x13) (Int32.toInt x15) (Int32.toInt x14) fn5 0 (Int32.toInt x1)) ((Int32.toInt r173) = BEGE (GB fn0 (Int32.toInt x6)) (Int32.toInt x13) (Int32.toInt x15) (Int32.toInt x14) fn5 (Int32.toInt x1)) := w174
        have gr173 := fb_rng r173
        obtain ⟨z176, ez176⟩ : ∃ z_9, r170 - r173 = z_9 := ⟨_, rfl⟩
        have gz176 := fb_rng z176
        refine r_isub 42 z176 C dX11_code_42 ez176 ?_
        refine r_icmp_lt 43 48 C dX11_code_43 (by decide) (fun c177 => ?_) (fun c177 => ?_)
        · skip
          have k178 : (Int32.toInt x2) < (Int32.toInt z176) := (fa_lt x2 z176).mp c177
          refine r_aload_n 48 1 C dX11_code_48 rfl ?_
          refine r_get 49 C dX11_code_49 (k := 2) 0 rfl rfl hiX11 (by decide) rfl (mg 1 rfl) (Or.inl rfl) rfl ?_
          refine r_getN 52 C dX11_code_52 (k := 0) 7 rfl rfl hiX3 (by decide) rfl (mg 4 rfl) rfl rfl ?_
          refine r_aload 55 0 C dX11_code_55 rfl ?_
          refine r_iload_n 57 3 C dX11_code_57 rfl ?_
          refine r_callVi 58 C dX11_code_58 [.ref h2] [(h5, .inr (7, [.ref h2, .ref h11, .ref h20, .int x13, .int x14, .int x15])), (h2, .inr (4, [.ref h6, .int x6])), (h11, .inl (gI g, 0, .inl fn5)), (h6, .inl (gB g, 1500, .inl fn0))] [(h0, .inr (10, [.ref h12, .ref h13, .ref h1, .ref h14, .ref h15, .ref h16, .ref h17, .ref h18, .ref h19, vv0])), (h3, .inr (7, [.ref h2, .ref h7, .ref h8, .int x7, .int x8, .int x9])), (h4, .inr (7, [.ref h2, .ref h9, .ref h10, .int x10, .int x11, .int x12])), (h7, .inl (gI g, 40, .inl fn1)), (h8, .inl (gI g, 40, .inl fn2)), (h9, .inl (gI g, 200, .inl fn3)), (h10, .inl (gI g, 200, .inl fn4)), (h1, .inr (3, [.ref h2, .ref h3, .ref h4, .ref h5, .int x3, .int x4, .int x5]))] (fun sz => c38_X8_beginOf l g h5 h2 h11 h6 x1 h20 x13 x14 x15 x6 fn5 fn0 i_x6 sz) gX11_code_X8_beginOf rfl ⟨rfl, rfl⟩ 1 (by decide) ⟨Nat.le_of_ble_eq_true rfl, Nat.le_of_ble_eq_true rfl⟩ 8 rfl rfl [8, 9, 10, 11] [0, 1, 2, 3, 4, 5, 6, 7] rfl rfl (by decide) (by decide) (by decide) rfl rfl (Nat.le_of_ble_eq_true rfl) ⟨Nat.le_of_ble_eq_true rfl, Nat.le_of_ble_eq_true rfl⟩ (fun r179 _ w180 => ?_)
          refine r_ws [(h0, .inr (10, [.ref h12, .ref h13, .ref h1, .ref h14, .ref h15, .ref h16, .ref h17, .ref h18, .ref h19, vv0])), (h3, .inr (7, [.ref h2, .ref h7, .ref h8, .int x7, .int x8, .int x9])), (h4, .inr (7, [.ref h2, .ref h9, .ref h10, .int x10, .int x11, .int x12])), (h7, .inl (gI g, 40, .inl fn1)), (h8, .inl (gI g, 40, .inl fn2)), (h9, .inl (gI g, 200, .inl fn3)), (h10, .inl (gI g, 200, .inl fn4)), (h1, .inr (3, [.ref h2, .ref h3, .ref h4, .ref h5, .int x3, .int x4, .int x5])), (h5, .inr (7, [.ref h2, .ref h11, .ref h20, .int x13, .int x14, .int x15])), (h2, .inr (4, [.ref h6, .int x6])), (h11, .inl (gI g, 0, .inl fn5)), (h6, .inl (gB g, 1500, .inl fn0))] rfl ?_
          have p181 : CND (BOK (GB fn0 (Int32.toInt x6)) (Int32.toInt x13) (Int32.toInt x15) (Int32.toInt x14) fn5 0 (Int32.toInt x1)) ((Int32.toInt r179) = BEGE (GB fn0 (Int32.toInt x6)) (Int32.toInt x13) (Int32.toInt x15) (Int32.toInt x14) fn5 (Int32.toInt x1)) := w180
          have gr179 := fb_rng r179
          refine r_iload_n 61 4 C dX11_code_61 rfl ?_
          obtain ⟨z182, ez182⟩ : ∃ z_9, r179 + x2 = z_9 := ⟨_, rfl⟩
          have gz182 := fb_rng z182
          refine r_iadd 62 z182 C dX11_code_62 ez182 ?_
          obtain ⟨z183, ez183⟩ : ∃ z_9, Int32.toInt64 z182 = z_9 := ⟨_, rfl⟩
          have tz183 : (Int64.toInt z183) = (Int32.toInt z182) := by rw [← ez183]; exact Int32.toInt_toInt64 _
          refine r_i2l 63 z183 C dX11_code_63 ez183 ?_
          refine r_callVi 64 C dX11_code_64 [] [(h2, .inr (4, [.ref h6, .int x6])), (h6, .inl (gB g, 1500, .inl fn0))] [(h0, .inr (10, [.ref h12, .ref h13, .ref h1, .ref h14, .ref h15, .ref h16, .ref h17, .ref h18, .ref h19, vv0])), (h3, .inr (7, [.ref h2, .ref h7, .ref h8, .int x7, .int x8, .int x9])), (h4, .inr (7, [.ref h2, .ref h9, .ref h10, .int x10, .int x11, .int x12])), (h7, .inl (gI g, 40, .inl fn1)), (h8, .inl (gI g, 40, .inl fn2)), (h9, .inl (gI g, 200, .inl fn3)), (h10, .inl (gI g, 200, .inl fn4)), (h1, .inr (3, [.ref h2, .ref h3, .ref h4, .ref h5, .int x3, .int x4, .int x5])), (h5, .inr (7, [.ref h2, .ref h11, .ref h20, .int x13, .int x14, .int x15])), (h11, .inl (gI g, 0, .inl fn5))] (fun sz => c14_X5_get l g h2 h6 z183 x6 fn0 i_x6 sz) gX11_code_X5_get rfl ⟨rfl, rfl⟩ 1 (by decide) ⟨Nat.le_of_ble_eq_true rfl, Nat.le_of_ble_eq_true rfl⟩ 9 rfl rfl [9, 11] [0, 1, 2, 3, 4, 5, 6, 7, 8, 10] rfl rfl (by decide) (by decide) (by decide) rfl rfl (Nat.le_of_ble_eq_true rfl) ⟨Nat.le_of_ble_eq_true rfl, Nat.le_of_ble_eq_true rfl⟩ (fun r184 _ w185 => ?_)
          refine r_ws [(h0, .inr (10, [.ref h12, .ref h13, .ref h1, .ref h14, .ref h15, .ref h16, .ref h17, .ref h18, .ref h19, vv0])), (h3, .inr (7, [.ref h2, .ref h7, .ref h8, .int x7, .int x8, .int x9])), (h4, .inr (7, [.ref h2, .ref h9, .ref h10, .int x10, .int x11, .int x12])), (h7, .inl (gI g, 40, .inl fn1)), (h8, .inl (gI g, 40, .inl fn2)), (h9, .inl (gI g, 200, .inl fn3)), (h10, .inl (gI g, 200, .inl fn4)), (h1, .inr (3, [.ref h2, .ref h3, .ref h4, .ref h5, .int x3, .int x4, .int x5])), (h5, .inr (7, [.ref h2, .ref h11, .ref h20, .int x13, .int x14, .int x15])), (h11, .inl (gI g, 0, .inl fn5)), (h2, .inr (4, [.ref h6, .int x6])), (h6, .inl (gB g, 1500, .inl fn0))] rfl ?_
          have p186 : -1 ≤ (Int32.toInt r184) := w185.1
          have p187 : (Int32.toInt r184) ≤ 255 := w185.2.1
          have p188 : HID ((0 ≤ (Int64.toInt z183) ∧ (Int64.toInt z183) < (Int32.toInt x6) ∧ r184 = (fn0 (Int.toNat (Int64.toInt z183)) &&& 255)) ∨ (((Int64.toInt z183) < 0 ∨ (Int32.toInt x6) ≤ (Int64.toInt z183)) ∧ r184 = -1)) := w185.2.2.1
          have p189 : (Int32.toInt r184) = GB fn0 (Int32.toInt x6) (Int64.toInt z183) := w185.2.2.2
          exact r_iret 67 Rt dX11_code_67 () (show -1 ≤ (Int32.toInt r184) ∧ (Int32.toInt r184) ≤ 255 ∧ CND ((Int32.toInt x0) = 0 ∧ (HASP (Int32.toInt x7) (Int32.toInt x9) fn1 40 (Int32.toInt x1) → VALK (GB fn0 (Int32.toInt x6)) (Int32.toInt x7) (Int32.toInt x9) (Int32.toInt x8) fn1 fn2 (Int32.toInt x1))) (CCO (GB fn0 (Int32.toInt x6)) (Int32.toInt x7) (Int32.toInt x9) (Int32.toInt x8) fn1 fn2 40 (Int32.toInt x1) (Int32.toInt x2) (Int32.toInt r184)) ∧ CND ((Int32.toInt x0) = 1 ∧ (HASP (Int32.toInt x10) (Int32.toInt x12) fn3 200 (Int32.toInt x1) → VALK (GB fn0 (Int32.toInt x6)) (Int32.toInt x10) (Int32.toInt x12) (Int32.toInt x11) fn3 fn4 (Int32.toInt x1))) (CCO (GB fn0 (Int32.toInt x6)) (Int32.toInt x10) (Int32.toInt x12) (Int32.toInt x11) fn3 fn4 200 (Int32.toInt x1) (Int32.toInt x2) (Int32.toInt r184)) ∧ CND ((Int32.toInt x0) = 2 ∧ (HASP (Int32.toInt x13) (Int32.toInt x15) fn5 0 (Int32.toInt x1) → VALK (GB fn0 (Int32.toInt x6)) (Int32.toInt x13) (Int32.toInt x15) (Int32.toInt x14) fn5 nof (Int32.toInt x1))) (CCO (GB fn0 (Int32.toInt x6)) (Int32.toInt x13) (Int32.toInt x15) (Int32.toInt x14) fn5 nof 0 (Int32.toInt x1) (Int32.toInt x2) (Int32.toInt r184)) ∧ ((0 ≤ (Int32.toInt x0) ∧ (Int32.toInt x0) ≤ 2) ∨ (Int32.toInt r184) = -1) from ⟨(show _ ∧ _ from ⟨p186, p187⟩).1, (show _ ∧ _ from ⟨p186, p187⟩).2, (by first | exact fun h_9 => absurd h_9.1 (by omega) | exact fun h_9 => cco_get (hsb_1 (hsb_k p160 (by omega)) (by first | decide | omega)) h_9.2 p172 p175 (by assumption) (by omega) (by omega) p181 (by assumption) p189 (by omega)), (by first | exact fun h_9 => absurd h_9.1 (by omega) | exact fun h_9 => cco_get (hsb_1 (hsb_k p160 (by omega)) (by first | decide | omega)) h_9.2 p172 p175 (by assumption) (by omega) (by omega) p181 (by assumption) p189 (by omega)), (by first | exact fun h_9 => absurd h_9.1 (by omega) | exact fun h_9 => cco_get (hsb_1 (hsb_k p160 (by omega)) (by first | decide | omega)) h_9.2 p172 p175 (by assumption) (by omega) (by omega) p181 (by assumption) p189 (by omega)), (by ((repeat' apply And.intro) <;> first | trivial | rfl | assumption | omega | decide | exact Or.inl rfl | exact Or.inr (Or.inl rfl) | exact Or.inr (Or.inr rfl)))⟩) [0, 7, 10, 1, 2, 8, 11, 3, 4, 5, 6, 9] (by decide) rfl (Nat.le_of_ble_eq_true rfl) (Nat.le_of_ble_eq_true rfl)
        · skip
          have k190 : ¬ ((Int32.toInt x2) < (Int32.toInt z176)) := fun h_9 => c177 ((fa_lt x2 z176).mpr h_9)
          refine r_iconst 46 (-1) C dX11_code_46 (by decide) ?_
          exact r_iret 47 Rt dX11_code_47 () (show -1 ≤ (Int32.toInt (-1)) ∧ (Int32.toInt (-1)) ≤ 255 ∧ CND ((Int32.toInt x0) = 0 ∧ (HASP (Int32.toInt x7) (Int32.toInt x9) fn1 40 (Int32.toInt x1) → VALK (GB fn0 (Int32.toInt x6)) (Int32.toInt x7) (Int32.toInt x9) (Int32.toInt x8) fn1 fn2 (Int32.toInt x1))) (CCO (GB fn0 (Int32.toInt x6)) (Int32.toInt x7) (Int32.toInt x9) (Int32.toInt x8) fn1 fn2 40 (Int32.toInt x1) (Int32.toInt x2) (-1)) ∧ CND ((Int32.toInt x0) = 1 ∧ (HASP (Int32.toInt x10) (Int32.toInt x12) fn3 200 (Int32.toInt x1) → VALK (GB fn0 (Int32.toInt x6)) (Int32.toInt x10) (Int32.toInt x12) (Int32.toInt x11) fn3 fn4 (Int32.toInt x1))) (CCO (GB fn0 (Int32.toInt x6)) (Int32.toInt x10) (Int32.toInt x12) (Int32.toInt x11) fn3 fn4 200 (Int32.toInt x1) (Int32.toInt x2) (-1)) ∧ CND ((Int32.toInt x0) = 2 ∧ (HASP (Int32.toInt x13) (Int32.toInt x15) fn5 0 (Int32.toInt x1) → VALK (GB fn0 (Int32.toInt x6)) (Int32.toInt x13) (Int32.toInt x15) (Int32.toInt x14) fn5 nof (Int32.toInt x1))) (CCO (GB fn0 (Int32.toInt x6)) (Int32.toInt x13) (Int32.toInt x15) (Int32.toInt x14) fn5 nof 0 (Int32.toInt x1) (Int32.toInt x2) (-1)) ∧ ((0 ≤ (Int32.toInt x0) ∧ (Int32.toInt x0) ≤ 2) ∨ (-1) = -1) from ⟨(by ((repeat' apply And.intro) <;> first | trivial | rfl | assumption | omega | decide | exact Or.inl rfl | exact Or.inr (Or.inl rfl) | exact Or.inr (Or.inr rfl))), (by ((repeat' apply And.intro) <;> first | trivial | rfl | assumption | omega | decide | exact Or.inl rfl | exact Or.inr (Or.inl rfl) | exact Or.inr (Or.inr rfl))), (by first | exact fun h_9 => absurd h_9.1 (by omega) | exact fun h_9 => cco_ge (hsb_1 (hsb_k p160 (by omega)) (by first | decide | omega)) h_9.2 p172 p175 (by assumption) (by omega) rfl), (by first | exact fun h_9 => absurd h_9.1 (by omega) | exact fun h_9 => cco_ge (hsb_1 (hsb_k p160 (by omega)) (by first | decide | omega)) h_9.2 p172 p175 (by assumption) (by omega) rfl), (by first | exact fun h_9 => absurd h_9.1 (by omega) | exact fun h_9 => cco_ge (hsb_1 (hsb_k p160 (by omega)) (by first | decide | omega)) h_9.2 p172 p175 (by assumption) (by omega) rfl), (by ((repeat' apply And.intro) <;> first | trivial | rfl | assumption | omega | decide | exact Or.inl rfl | exact Or.inr (Or.inl rfl) | exact Or.inr (Or.inr rfl)))⟩) [0, 7, 9, 1, 2, 8, 11, 3, 4, 5, 6, 10] (by decide) rfl (Nat.le_of_ble_eq_true rfl) (Nat.le_of_ble_eq_true rfl)
    rcases w161 with ⟨k191, k192, k193⟩ | w161
    · skip
      have k193 := k193.symm
      subst k193
      refine r_if_eq_t 22 46 C dX11_code_22 (by decide) (by decide) ?_
      refine r_iconst 46 (-1) C dX11_code_46 (by decide) ?_
      exact r_iret 47 Rt dX11_code_47 () (show -1 ≤ (Int32.toInt (-1)) ∧ (Int32.toInt (-1)) ≤ 255 ∧ CND ((Int32.toInt x0) = 0 ∧ (HASP (Int32.toInt x7) (Int32.toInt x9) fn1 40 (Int32.toInt x1) → VALK (GB fn0 (Int32.toInt x6)) (Int32.toInt x7) (Int32.toInt x9) (Int32.toInt x8) fn1 fn2 (Int32.toInt x1))) (CCO (GB fn0 (Int32.toInt x6)) (Int32.toInt x7) (Int32.toInt x9) (Int32.toInt x8) fn1 fn2 40 (Int32.toInt x1) (Int32.toInt x2) (-1)) ∧ CND ((Int32.toInt x0) = 1 ∧ (HASP (Int32.toInt x10) (Int32.toInt x12) fn3 200 (Int32.toInt x1) → VALK (GB fn0 (Int32.toInt x6)) (Int32.toInt x10) (Int32.toInt x12) (Int32.toInt x11) fn3 fn4 (Int32.toInt x1))) (CCO (GB fn0 (Int32.toInt x6)) (Int32.toInt x10) (Int32.toInt x12) (Int32.toInt x11) fn3 fn4 200 (Int32.toInt x1) (Int32.toInt x2) (-1)) ∧ CND ((Int32.toInt x0) = 2 ∧ (HASP (Int32.toInt x13) (Int32.toInt x15) fn5 0 (Int32.toInt x1) → VALK (GB fn0 (Int32.toInt x6)) (Int32.toInt x13) (Int32.toInt x15) (Int32.toInt x14) fn5 nof (Int32.toInt x1))) (CCO (GB fn0 (Int32.toInt x6)) (Int32.toInt x13) (Int32.toInt x15) (Int32.toInt x14) fn5 nof 0 (Int32.toInt x1) (Int32.toInt x2) (-1)) ∧ ((0 ≤ (Int32.toInt x0) ∧ (Int32.toInt x0) ≤ 2) ∨ (-1) = -1) from ⟨(by ((repeat' apply And.intro) <;> first | trivial | rfl | assumption | omega | decide | exact Or.inl rfl | exact Or.inr (Or.inl rfl) | exact Or.inr (Or.inr rfl))), (by ((repeat' apply And.intro) <;> first | trivial | rfl | assumption | omega | decide | exact Or.inl rfl | exact Or.inr (Or.inl rfl) | exact Or.inr (Or.inr rfl))), (by first | exact fun h_9 => absurd h_9.1 (by omega) | exact fun h_9 => cco_no (by first | exact Or.inl (hsb_0 (hsb_k p160 (by omega)) (by first | rfl | omega)) | exact Or.inr (by omega)) rfl), (by first | exact fun h_9 => absurd h_9.1 (by omega) | exact fun h_9 => cco_no (by first | exact Or.inl (hsb_0 (hsb_k p160 (by omega)) (by first | rfl | omega)) | exact Or.inr (by omega)) rfl), (by first | exact fun h_9 => absurd h_9.1 (by omega) | exact fun h_9 => cco_no (by first | exact Or.inl (hsb_0 (hsb_k p160 (by omega)) (by first | rfl | omega)) | exact Or.inr (by omega)) rfl), (by ((repeat' apply And.intro) <;> first | trivial | rfl | assumption | omega | decide | exact Or.inl rfl | exact Or.inr (Or.inl rfl) | exact Or.inr (Or.inr rfl)))⟩) [0, 9, 1, 2, 3, 10, 4, 5, 6, 7, 8, 11] (by decide) rfl (Nat.le_of_ble_eq_true rfl) (Nat.le_of_ble_eq_true rfl)
    obtain ⟨k194, k195⟩ := w161
    have k195 := k195.symm
    subst k195
    refine r_if_eq_t 22 46 C dX11_code_22 (by decide) (by decide) ?_
    refine r_iconst 46 (-1) C dX11_code_46 (by decide) ?_
    exact r_iret 47 Rt dX11_code_47 () (show -1 ≤ (Int32.toInt (-1)) ∧ (Int32.toInt (-1)) ≤ 255 ∧ CND ((Int32.toInt x0) = 0 ∧ (HASP (Int32.toInt x7) (Int32.toInt x9) fn1 40 (Int32.toInt x1) → VALK (GB fn0 (Int32.toInt x6)) (Int32.toInt x7) (Int32.toInt x9) (Int32.toInt x8) fn1 fn2 (Int32.toInt x1))) (CCO (GB fn0 (Int32.toInt x6)) (Int32.toInt x7) (Int32.toInt x9) (Int32.toInt x8) fn1 fn2 40 (Int32.toInt x1) (Int32.toInt x2) (-1)) ∧ CND ((Int32.toInt x0) = 1 ∧ (HASP (Int32.toInt x10) (Int32.toInt x12) fn3 200 (Int32.toInt x1) → VALK (GB fn0 (Int32.toInt x6)) (Int32.toInt x10) (Int32.toInt x12) (Int32.toInt x11) fn3 fn4 (Int32.toInt x1))) (CCO (GB fn0 (Int32.toInt x6)) (Int32.toInt x10) (Int32.toInt x12) (Int32.toInt x11) fn3 fn4 200 (Int32.toInt x1) (Int32.toInt x2) (-1)) ∧ CND ((Int32.toInt x0) = 2 ∧ (HASP (Int32.toInt x13) (Int32.toInt x15) fn5 0 (Int32.toInt x1) → VALK (GB fn0 (Int32.toInt x6)) (Int32.toInt x13) (Int32.toInt x15) (Int32.toInt x14) fn5 nof (Int32.toInt x1))) (CCO (GB fn0 (Int32.toInt x6)) (Int32.toInt x13) (Int32.toInt x15) (Int32.toInt x14) fn5 nof 0 (Int32.toInt x1) (Int32.toInt x2) (-1)) ∧ ((0 ≤ (Int32.toInt x0) ∧ (Int32.toInt x0) ≤ 2) ∨ (-1) = -1) from ⟨(by ((repeat' apply And.intro) <;> first | trivial | rfl | assumption | omega | decide | exact Or.inl rfl | exact Or.inr (Or.inl rfl) | exact Or.inr (Or.inr rfl))), (by ((repeat' apply And.intro) <;> first | trivial | rfl | assumption | omega | decide | exact Or.inl rfl | exact Or.inr (Or.inl rfl) | exact Or.inr (Or.inr rfl))), (by first | exact fun h_9 => absurd h_9.1 (by omega) | exact fun h_9 => cco_no (by first | exact Or.inl (hsb_0 (hsb_k p160 (by omega)) (by first | rfl | omega)) | exact Or.inr (by omega)) rfl), (by first | exact fun h_9 => absurd h_9.1 (by omega) | exact fun h_9 => cco_no (by first | exact Or.inl (hsb_0 (hsb_k p160 (by omega)) (by first | rfl | omega)) | exact Or.inr (by omega)) rfl), (by first | exact fun h_9 => absurd h_9.1 (by omega) | exact fun h_9 => cco_no (by first | exact Or.inl (hsb_0 (hsb_k p160 (by omega)) (by first | rfl | omega)) | exact Or.inr (by omega)) rfl), (by ((repeat' apply And.intro) <;> first | trivial | rfl | assumption | omega | decide | exact Or.inl rfl | exact Or.inr (Or.inl rfl) | exact Or.inr (Or.inr rfl)))⟩) [0, 9, 1, 2, 3, 10, 4, 5, 6, 7, 8, 11] (by decide) rfl (Nat.le_of_ble_eq_true rfl) (Nat.le_of_ble_eq_true rfl)
  obtain ⟨k196, k197, k198, k199⟩ := w3
  have k199 := k199.symm
  subst k199
  refine r_st [.null] rfl ?_
  refine r_astoreN 8 C dX11_code_8 [(4, .null), (0, .ref h0), (1, .int x0), (2, .int x1), (3, .int x2)] (by decide) rfl ?_
  refine r_aloadN 10 0 C dX11_code_10 rfl ?_
  refine r_ifnullN 12 46 C dX11_code_12 (by decide) ?_
  refine r_iconst 46 (-1) C dX11_code_46 (by decide) ?_
  exact r_iret 47 Rt dX11_code_47 () (show -1 ≤ (Int32.toInt (-1)) ∧ (Int32.toInt (-1)) ≤ 255 ∧ CND ((Int32.toInt x0) = 0 ∧ (HASP (Int32.toInt x7) (Int32.toInt x9) fn1 40 (Int32.toInt x1) → VALK (GB fn0 (Int32.toInt x6)) (Int32.toInt x7) (Int32.toInt x9) (Int32.toInt x8) fn1 fn2 (Int32.toInt x1))) (CCO (GB fn0 (Int32.toInt x6)) (Int32.toInt x7) (Int32.toInt x9) (Int32.toInt x8) fn1 fn2 40 (Int32.toInt x1) (Int32.toInt x2) (-1)) ∧ CND ((Int32.toInt x0) = 1 ∧ (HASP (Int32.toInt x10) (Int32.toInt x12) fn3 200 (Int32.toInt x1) → VALK (GB fn0 (Int32.toInt x6)) (Int32.toInt x10) (Int32.toInt x12) (Int32.toInt x11) fn3 fn4 (Int32.toInt x1))) (CCO (GB fn0 (Int32.toInt x6)) (Int32.toInt x10) (Int32.toInt x12) (Int32.toInt x11) fn3 fn4 200 (Int32.toInt x1) (Int32.toInt x2) (-1)) ∧ CND ((Int32.toInt x0) = 2 ∧ (HASP (Int32.toInt x13) (Int32.toInt x15) fn5 0 (Int32.toInt x1) → VALK (GB fn0 (Int32.toInt x6)) (Int32.toInt x13) (Int32.toInt x15) (Int32.toInt x14) fn5 nof (Int32.toInt x1))) (CCO (GB fn0 (Int32.toInt x6)) (Int32.toInt x13) (Int32.toInt x15) (Int32.toInt x14) fn5 nof 0 (Int32.toInt x1) (Int32.toInt x2) (-1)) ∧ ((0 ≤ (Int32.toInt x0) ∧ (Int32.toInt x0) ≤ 2) ∨ (-1) = -1) from ⟨(by ((repeat' apply And.intro) <;> first | trivial | rfl | assumption | omega | decide | exact Or.inl rfl | exact Or.inr (Or.inl rfl) | exact Or.inr (Or.inr rfl))), (by ((repeat' apply And.intro) <;> first | trivial | rfl | assumption | omega | decide | exact Or.inl rfl | exact Or.inr (Or.inl rfl) | exact Or.inr (Or.inr rfl))), (by first | exact fun h_9 => absurd h_9.1 (by omega)), (by first | exact fun h_9 => absurd h_9.1 (by omega)), (by first | exact fun h_9 => absurd h_9.1 (by omega)), (by ((repeat' apply And.intro) <;> first | trivial | rfl | assumption | omega | decide | exact Or.inl rfl | exact Or.inr (Or.inl rfl) | exact Or.inr (Or.inr rfl)))⟩) [0, 11, 1, 2, 3, 4, 5, 6, 7, 8, 9, 10] (by decide) rfl (Nat.le_of_ble_eq_true rfl) (Nat.le_of_ble_eq_true rfl)
set_option maxHeartbeats 4000000 in
set_option maxRecDepth 100000 in
theorem c40_X5_addAll (l : Launch) (g : GD) (h0 : Nat) (h1 : Nat) (h2 : Nat) (h3 : Nat) (x0 : Int32) (x1 : Int32) (x2 : Int32) (fn0 : Nat → Int32) (fn1 : Nat → Int32) (i_x1 : (0 ≤ (Int32.toInt x1) ∧ (Int32.toInt x1) ≤ 1500)) (i_x2 : (0 ≤ (Int32.toInt x2) ∧ (Int32.toInt x2) ≤ 1500)) (sz : Nat) : Met l yX5_addAll wsX5_addAll ({ frames := 1, cells := 0, slots := 0, locals := 22 }) (va_Pc [.ref h0, .ref h1, .int x0] (PW g [(h0, .inr (4, [.ref h2, .int x1])), (h1, .inr (4, [.ref h3, .int x2])), (h2, .inl (gB g, 1500, .inl fn0)), (h3, .inl (gB g, 1500, .inl fn1))] sz)) (va_Qv (fun (u : (Int32) × (Nat → Int32)) => 0 ≤ (Int32.toInt (u.1)) ∧ (Int32.toInt (u.1)) ≤ 1500 ∧ (((Int32.toInt x0) ≤ 0 ∧ (((Int32.toInt x2) ≤ 0 ∧ (Int32.toInt (u.1)) = (Int32.toInt x1)) ∨ (0 < (Int32.toInt x2) ∧ (Int32.toInt x1) + (Int32.toInt x2) ≤ 1500 ∧ (Int32.toInt (u.1)) = (Int32.toInt x1) + (Int32.toInt x2)) ∨ 1500 < (Int32.toInt x1) + (Int32.toInt x2))) ∨ (0 ≤ (Int32.toInt x0) ∧ (((Int32.toInt x2) ≤ (Int32.toInt x0) ∧ (Int32.toInt (u.1)) = (Int32.toInt x1)) ∨ ((Int32.toInt x0) < (Int32.toInt x2) ∧ (Int32.toInt x1) + (Int32.toInt x2) - (Int32.toInt x0) ≤ 1500 ∧ (Int32.toInt (u.1)) = (Int32.toInt x1) + (Int32.toInt x2) - (Int32.toInt x0)) ∨ 1500 < (Int32.toInt x1) + (Int32.toInt x2) - (Int32.toInt x0)))) ∧ HID (1500 < (Int32.toInt x1) + (Int32.toInt x2) ∨ (u.2) = cpy fn0 (Int.toNat (Int32.toInt x1)) fn1 (Int.toNat (Int32.toInt x0)) ((Int.toNat (Int32.toInt x2)) - (Int.toNat (Int32.toInt x0))))) (BW g (va_A [(h0, .inr (4, [.ref h2, .int x1])), (h1, .inr (4, [.ref h3, .int x2])), (h2, .inl (gB g, 1500, .inl fn0)), (h3, .inl (gB g, 1500, .inl fn1))] sz) (fun u : (Int32) × (Nat → Int32) => [(h0, .inr (4, [.ref h2, .int u.1])), (h1, .inr (4, [.ref h3, .int x2])), (h2, .inl (gB g, 1500, .inl u.2)), (h3, .inl (gB g, 1500, .inl fn1))])) (va_A [(h0, .inr (4, [.ref h2, .int x1])), (h1, .inr (4, [.ref h3, .int x2])), (h2, .inl (gB g, 1500, .inl fn0)), (h3, .inl (gB g, 1500, .inl fn1))] sz)) 0 0 (va_A [(h0, .inr (4, [.ref h2, .int x1])), (h1, .inr (4, [.ref h3, .int x2])), (h2, .inl (gB g, 1500, .inl fn0)), (h3, .inl (gB g, 1500, .inl fn1))] sz) := by
  refine met_v RX5 (by decide) rfl rfl (Nat.le_of_ble_eq_true rfl) [(0, .ref h0), (1, .ref h1), (2, .int x0)] rfl ?_
  intro p e s m args below meth c A Q C hnm Rt
  have gx0 := fb_rng x0
  have hiX5 : ∀ w ∈ wsX50, w ∈ wsX5_addAll := fun w h => List.mem_cons_of_mem _ (List.mem_append_right _ (h))
  refine r_iload_n 0 2 C dX5_addAll_0 rfl ?_
  refine r_iconst 1 0 C dX5_addAll_1 (by decide) ?_
  obtain ⟨z1, ez1⟩ : ∃ z_9, (if x0 < 0 then 0 else x0) = z_9 := ⟨_, rfl⟩
  have tz1 : ((Int32.toInt x0) < 0 ∧ (Int32.toInt z1) = 0) ∨ (¬ ((Int32.toInt x0) < 0) ∧ (Int32.toInt z1) = (Int32.toInt x0)) := by rw [← ez1]; exact mx_or x0 0 0 x0
  refine r_mmax 2 z1 C dX5_addAll_2 (mg 1 rfl) (mg 2 rfl) (mg 3 rfl) (mg 4 rfl) (Nat.le_of_ble_eq_true rfl) (Nat.le_of_ble_eq_true rfl) (Nat.le_of_ble_eq_true rfl) (Nat.le_of_ble_eq_true rfl) ez1 ?_
  refine r_istore_n 5 C dX5_addAll_5 [(3, .int z1), (0, .ref h0), (1, .ref h1), (2, .int x0)] (by decide) rfl ?_
  have lp6 : ∀ (n5 : Nat) (z2 : Int32) (z3 : Int32) (f4 : Nat → Int32), (0 ≤ (Int32.toInt z2) ∧ (Int32.toInt z2) ≤ 2147483647) → (0 ≤ (Int32.toInt z3) ∧ (Int32.toInt z3) ≤ 1500) → (((Int32.toInt x0) ≤ 0 ∧ ((Int32.toInt z3) = (Int32.toInt x1) + (Int32.toInt z2) ∨ ((Int32.toInt z3) = 1500 ∧ 1500 ≤ (Int32.toInt x1) + (Int32.toInt z2))) ∧ ((Int32.toInt z2) ≤ (Int32.toInt x2) ∨ (Int32.toInt z2) = 0)) ∨ (0 ≤ (Int32.toInt x0) ∧ ((Int32.toInt z3) = (Int32.toInt x1) + (Int32.toInt z2) - (Int32.toInt x0) ∨ ((Int32.toInt z3) = 1500 ∧ 1500 ≤ (Int32.toInt x1) + (Int32.toInt z2) - (Int32.toInt x0))) ∧ (Int32.toInt x0) ≤ (Int32.toInt z2) ∧ ((Int32.toInt z2) ≤ (Int32.toInt x2) ∨ (Int32.toInt z2) = (Int32.toInt x0)))) → (HID (1500 < (Int32.toInt x1) + (Int32.toInt x2) ∨ f4 = cpy fn0 (Int.toNat (Int32.toInt x1)) fn1 (Int.toNat (Int32.toInt x0)) ((Int.toNat (Int32.toInt z2)) - (Int.toNat (Int32.toInt x0))))) → Int.toNat (2147483647 - (Int32.toInt z2)) < n5 → WW p l e ({ frames := 1, cells := 0, slots := 0, locals := 22 } : Room) s m args below meth c A Q g 4 0 0 [(h0, .inr (4, [.ref h2, .int z3])), (h1, .inr (4, [.ref h3, .int x2])), (h2, .inl (gB g, 1500, .inl f4)), (h3, .inl (gB g, 1500, .inl fn1))] 6 [(3, .int z2), (0, .ref h0), (1, .ref h1), (2, .int x0)] [] := by
    intro n5
    induction n5 with
    | zero => intro z2 z3 f4 i9 i10 j11 j12 hm8; exact absurd hm8 (Nat.not_lt_zero _)
    | succ n5 ih7 =>
      intro z2 z3 f4 i9 i10 j11 j12 hm8
      obtain ⟨i9a, i9b⟩ := i9
      obtain ⟨i10a, i10b⟩ := i10
      refine r_iload_n 6 0 C dX5_addAll_6 rfl ?_
      refine r_aload_n 7 2 C dX5_addAll_7 rfl ?_
      refine r_get 8 C dX5_addAll_8 (k := 1) 1 rfl rfl hiX5 (by decide) rfl (mg 5 rfl) (Or.inl rfl) rfl ?_
      refine r_icmp_ge 11 30 C dX5_addAll_11 (by decide) (fun c13 => ?_) (fun c13 => ?_)
      · skip
        have k14 : (Int32.toInt x2) ≤ (Int32.toInt z2) := (fa_le x2 z2).mp c13
        exact r_vret 30 Rt dX5_addAll_30 (z3, f4) (show 0 ≤ (Int32.toInt z3) ∧ (Int32.toInt z3) ≤ 1500 ∧ (((Int32.toInt x0) ≤ 0 ∧ (((Int32.toInt x2) ≤ 0 ∧ (Int32.toInt z3) = (Int32.toInt x1)) ∨ (0 < (Int32.toInt x2) ∧ (Int32.toInt x1) + (Int32.toInt x2) ≤ 1500 ∧ (Int32.toInt z3) = (Int32.toInt x1) + (Int32.toInt x2)) ∨ 1500 < (Int32.toInt x1) + (Int32.toInt x2))) ∨ (0 ≤ (Int32.toInt x0) ∧ (((Int32.toInt x2) ≤ (Int32.toInt x0) ∧ (Int32.toInt z3) = (Int32.toInt x1)) ∨ ((Int32.toInt x0) < (Int32.toInt x2) ∧ (Int32.toInt x1) + (Int32.toInt x2) - (Int32.toInt x0) ≤ 1500 ∧ (Int32.toInt z3) = (Int32.toInt x1) + (Int32.toInt x2) - (Int32.toInt x0)) ∨ 1500 < (Int32.toInt x1) + (Int32.toInt x2) - (Int32.toInt x0)))) ∧ HID (1500 < (Int32.toInt x1) + (Int32.toInt x2) ∨ f4 = cpy fn0 (Int.toNat (Int32.toInt x1)) fn1 (Int.toNat (Int32.toInt x0)) ((Int.toNat (Int32.toInt x2)) - (Int.toNat (Int32.toInt x0)))) from ⟨(show _ ∧ _ from ⟨i10a, i10b⟩).1, (show _ ∧ _ from ⟨i10a, i10b⟩).2, (by ((repeat' apply And.intro) <;> first | trivial | rfl | assumption | omega | decide | exact Or.inl rfl | exact Or.inr (Or.inl rfl) | exact Or.inr (Or.inr rfl))), (by first | exact Or.inl (by omega) | exact (show HID (1500 < (Int32.toInt x1) + (Int32.toInt x2) ∨ f4 = cpy fn0 (Int.toNat (Int32.toInt x1)) fn1 (Int.toNat (Int32.toInt x0)) ((Int.toNat (Int32.toInt z2)) - (Int.toNat (Int32.toInt x0)))) by assumption).imp id (fun h_9 => cpy_k h_9 (by omega)))⟩) [0, 1, 2, 3] (by decide) rfl (Nat.le_of_ble_eq_true rfl) (Nat.le_of_ble_eq_true rfl)
      · skip
        have k15 : ¬ ((Int32.toInt x2) ≤ (Int32.toInt z2)) := fun h_9 => c13 ((fa_le x2 z2).mpr h_9)
        refine r_aload_n 14 1 C dX5_addAll_14 rfl ?_
        refine r_aload_n 15 2 C dX5_addAll_15 rfl ?_
        refine r_iload_n 16 0 C dX5_addAll_16 rfl ?_
        obtain ⟨z16, ez16⟩ : ∃ z_9, Int32.toInt64 z2 = z_9 := ⟨_, rfl⟩
        have tz16 : (Int64.toInt z16) = (Int32.toInt z2) := by rw [← ez16]; exact Int32.toInt_toInt64 _
        refine r_i2l 17 z16 C dX5_addAll_17 ez16 ?_
        refine r_callVi 18 C dX5_addAll_18 [.ref h0] [(h1, .inr (4, [.ref h3, .int x2])), (h3, .inl (gB g, 1500, .inl fn1))] [(h0, .inr (4, [.ref h2, .int z3])), (h2, .inl (gB g, 1500, .inl f4))] (fun sz => c14_X5_get l g h1 h3 z16 x2 fn1 i_x2 sz) gX5_addAll_X5_get rfl ⟨rfl, rfl⟩ 1 (by decide) ⟨Nat.le_of_ble_eq_true rfl, Nat.le_of_ble_eq_true rfl⟩ 1 rfl rfl [1, 3] [0, 2] rfl rfl (by decide) (by decide) (by decide) rfl rfl (Nat.le_of_ble_eq_true rfl) ⟨Nat.le_of_ble_eq_true rfl, Nat.le_of_ble_eq_true rfl⟩ (fun r17 _ w18 => ?_)
        refine r_ws [(h0, .inr (4, [.ref h2, .int z3])), (h2, .inl (gB g, 1500, .inl f4)), (h1, .inr (4, [.ref h3, .int x2])), (h3, .inl (gB g, 1500, .inl fn1))] rfl ?_
        have p19 : -1 ≤ (Int32.toInt r17) := w18.1
        have p20 : (Int32.toInt r17) ≤ 255 := w18.2.1
        have p21 : HID ((0 ≤ (Int64.toInt z16) ∧ (Int64.toInt z16) < (Int32.toInt x2) ∧ r17 = (fn1 (Int.toNat (Int64.toInt z16)) &&& 255)) ∨ (((Int64.toInt z16) < 0 ∨ (Int32.toInt x2) ≤ (Int64.toInt z16)) ∧ r17 = -1)) := w18.2.2.1
        have p22 : (Int32.toInt r17) = GB fn1 (Int32.toInt x2) (Int64.toInt z16) := w18.2.2.2
        refine r_callVv 21 C dX5_addAll_21 [] [(h0, .inr (4, [.ref h2, .int z3])), (h2, .inl (gB g, 1500, .inl f4))] [(h1, .inr (4, [.ref h3, .int x2])), (h3, .inl (gB g, 1500, .inl fn1))] (fun sz => c1_X5_add l g h0 h2 r17 z3 f4 ⟨i10a, i10b⟩ sz) gX5_addAll_X5_add rfl ⟨rfl, rfl⟩ 1 (by decide) ⟨Nat.le_of_ble_eq_true rfl, Nat.le_of_ble_eq_true rfl⟩ 0 rfl rfl [0, 1] [2, 3] rfl rfl (by decide) (by decide) (by decide) rfl rfl (Nat.le_of_ble_eq_true rfl) ⟨Nat.le_of_ble_eq_true rfl, Nat.le_of_ble_eq_true rfl⟩ (fun  u26 w25 => ?_)
        obtain ⟨z23, f24⟩ := u26
        refine r_ws [(h1, .inr (4, [.ref h3, .int x2])), (h3, .inl (gB g, 1500, .inl fn1)), (h0, .inr (4, [.ref h2, .int z23])), (h2, .inl (gB g, 1500, .inl f24))] rfl ?_
        have p27 : 0 ≤ (Int32.toInt z23) := w25.2.1
        have p28 : (Int32.toInt z23) ≤ 1500 := w25.2.2.1
        have p29 : HID (1500 ≤ (Int32.toInt z3) ∨ f24 = upd f4 (Int.toNat (Int32.toInt z3)) (st8 r17)) := w25.2.2.2
        have w30 : ((1500 ≤ (Int32.toInt z3) ∧ (Int32.toInt z23) = (Int32.toInt z3)) ∨ (¬ (1500 ≤ (Int32.toInt z3)) ∧ (Int32.toInt z23) = (Int32.toInt z3) + 1)) := w25.1
        rcases w30 with ⟨k31, k32⟩ | w30
        · skip
          obtain ⟨z33, ez33⟩ : ∃ z_9, z2 + Int32.ofInt 1 = z_9 := ⟨_, rfl⟩
          have tz33 : (Int32.toInt z33) = (Int32.toInt z2) + 1 := by rw [← ez33]; exact fb_addI (by show -2147483648 ≤ (Int32.toInt z2) + 1; omega) (by show (Int32.toInt z2) + 1 < 2147483648; omega)
          refine r_iinc 24 0 z33 C dX5_addAll_24 rfl ez33 [(3, .int z33), (0, .ref h0), (1, .ref h1), (2, .int x0)] (by decide) rfl ?_
          refine r_goto 27 6 C dX5_addAll_27 (by decide) ?_
          refine r_pick [(h0, .inr (4, [.ref h2, .int z23])), (h1, .inr (4, [.ref h3, .int x2])), (h2, .inl (gB g, 1500, .inl f24)), (h3, .inl (gB g, 1500, .inl fn1))] [2, 0, 3, 1] (by decide) rfl ?_
          exact ih7 z33 z23 f24 ⟨by omega, by omega⟩ ⟨p27, p28⟩ (by show ((Int32.toInt x0) ≤ 0 ∧ ((Int32.toInt z23) = (Int32.toInt x1) + (Int32.toInt z33) ∨ ((Int32.toInt z23) = 1500 ∧ 1500 ≤ (Int32.toInt x1) + (Int32.toInt z33))) ∧ ((Int32.toInt z33) ≤ (Int32.toInt x2) ∨ (Int32.toInt z33) = 0)) ∨ (0 ≤ (Int32.toInt x0) ∧ ((Int32.toInt z23) = (Int32.toInt x1) + (Int32.toInt z33) - (Int32.toInt x0) ∨ ((Int32.toInt z23) = 1500 ∧ 1500 ≤ (Int32.toInt x1) + (Int32.toInt z33) - (Int32.toInt x0))) ∧ (Int32.toInt x0) ≤ (Int32.toInt z33) ∧ ((Int32.toInt z33) ≤ (Int32.toInt x2) ∨ (Int32.toInt z33) = (Int32.toInt x0))); omega) (by first | exact Or.inl (by omega) | exact (show HID (1500 < (Int32.toInt x1) + (Int32.toInt x2) ∨ f4 = cpy fn0 (Int.toNat (Int32.toInt x1)) fn1 (Int.toNat (Int32.toInt x0)) ((Int.toNat (Int32.toInt z2)) - (Int.toNat (Int32.toInt x0)))) by assumption).imp id (fun h_9 => cpy_step h_9 (by omega) (by omega) (by omega) ((p21.resolve_right (by omega)).2.2) (p29.resolve_left (by omega)))) (by omega)
        obtain ⟨k34, k35⟩ := w30
        obtain ⟨z36, ez36⟩ : ∃ z_9, z2 + Int32.ofInt 1 = z_9 := ⟨_, rfl⟩
        have tz36 : (Int32.toInt z36) = (Int32.toInt z2) + 1 := by rw [← ez36]; exact fb_addI (by show -2147483648 ≤ (Int32.toInt z2) + 1; omega) (by show (Int32.toInt z2) + 1 < 2147483648; omega)
        refine r_iinc 24 0 z36 C dX5_addAll_24 rfl ez36 [(3, .int z36), (0, .ref h0), (1, .ref h1), (2, .int x0)] (by decide) rfl ?_
        refine r_goto 27 6 C dX5_addAll_27 (by decide) ?_
        refine r_pick [(h0, .inr (4, [.ref h2, .int z23])), (h1, .inr (4, [.ref h3, .int x2])), (h2, .inl (gB g, 1500, .inl f24)), (h3, .inl (gB g, 1500, .inl fn1))] [2, 0, 3, 1] (by decide) rfl ?_
        exact ih7 z36 z23 f24 ⟨by omega, by omega⟩ ⟨p27, p28⟩ (by show ((Int32.toInt x0) ≤ 0 ∧ ((Int32.toInt z23) = (Int32.toInt x1) + (Int32.toInt z36) ∨ ((Int32.toInt z23) = 1500 ∧ 1500 ≤ (Int32.toInt x1) + (Int32.toInt z36))) ∧ ((Int32.toInt z36) ≤ (Int32.toInt x2) ∨ (Int32.toInt z36) = 0)) ∨ (0 ≤ (Int32.toInt x0) ∧ ((Int32.toInt z23) = (Int32.toInt x1) + (Int32.toInt z36) - (Int32.toInt x0) ∨ ((Int32.toInt z23) = 1500 ∧ 1500 ≤ (Int32.toInt x1) + (Int32.toInt z36) - (Int32.toInt x0))) ∧ (Int32.toInt x0) ≤ (Int32.toInt z36) ∧ ((Int32.toInt z36) ≤ (Int32.toInt x2) ∨ (Int32.toInt z36) = (Int32.toInt x0))); omega) (by first | exact Or.inl (by omega) | exact (show HID (1500 < (Int32.toInt x1) + (Int32.toInt x2) ∨ f4 = cpy fn0 (Int.toNat (Int32.toInt x1)) fn1 (Int.toNat (Int32.toInt x0)) ((Int.toNat (Int32.toInt z2)) - (Int.toNat (Int32.toInt x0)))) by assumption).imp id (fun h_9 => cpy_step h_9 (by omega) (by omega) (by omega) ((p21.resolve_right (by omega)).2.2) (p29.resolve_left (by omega)))) (by omega)
  exact lp6 _ z1 x1 fn0 ⟨by omega, by omega⟩ i_x1 (by show ((Int32.toInt x0) ≤ 0 ∧ ((Int32.toInt x1) = (Int32.toInt x1) + (Int32.toInt z1) ∨ ((Int32.toInt x1) = 1500 ∧ 1500 ≤ (Int32.toInt x1) + (Int32.toInt z1))) ∧ ((Int32.toInt z1) ≤ (Int32.toInt x2) ∨ (Int32.toInt z1) = 0)) ∨ (0 ≤ (Int32.toInt x0) ∧ ((Int32.toInt x1) = (Int32.toInt x1) + (Int32.toInt z1) - (Int32.toInt x0) ∨ ((Int32.toInt x1) = 1500 ∧ 1500 ≤ (Int32.toInt x1) + (Int32.toInt z1) - (Int32.toInt x0))) ∧ (Int32.toInt x0) ≤ (Int32.toInt z1) ∧ ((Int32.toInt z1) ≤ (Int32.toInt x2) ∨ (Int32.toInt z1) = (Int32.toInt x0))); omega) (Or.inr (cpy_0 (by omega))) (Nat.lt_succ_self _)
set_option maxHeartbeats 4000000 in
set_option maxRecDepth 100000 in
theorem c41_J7_rangeCheck_23922 (l : Launch) (g : GD) (x0 : Int32) (i_x0 : (0 ≤ (Int32.toInt x0) ∧ (Int32.toInt x0) ≤ 40)) (sz : Nat) : Met l yJ7_rangeCheck_23922 wsJ7_rangeCheck_23922 ({ frames := 0, cells := 0, slots := 0, locals := 0 }) (va_Pc [.int 40, .int 0, .int x0] (PW g [] sz)) (va_Qv (fun (_ : Unit) => True) (BW g (va_A [] sz) (fun _ : Unit => [])) (va_A [] sz)) 0 0 (va_A [] sz) := by
  refine met_v RJ7 (by decide) rfl rfl (Nat.le_of_ble_eq_true rfl) [(0, .int 40), (1, .int 0), (2, .int x0)] rfl ?_
  intro p e s m args below meth c A Q C hnm Rt
  refine r_iload_n 0 1 C dJ7_rangeCheck_23922_0 rfl ?_
  refine r_iload_n 1 2 C dJ7_rangeCheck_23922_1 rfl ?_
  refine r_icmp_le_t 2 46 C dJ7_rangeCheck_23922_2 (by decide) ((fa_le 0 x0).mpr (by show 0 ≤ (Int32.toInt x0); omega)) ?_
  refine r_iload_n 46 1 C dJ7_rangeCheck_23922_46 rfl ?_
  refine r_if_ge_t 47 59 C dJ7_rangeCheck_23922_47 (by decide) (by decide) ?_
  refine r_iload_n 59 2 C dJ7_rangeCheck_23922_59 rfl ?_
  refine r_iload_n 60 0 C dJ7_rangeCheck_23922_60 rfl ?_
  refine r_icmp_le_t 61 73 C dJ7_rangeCheck_23922_61 (by decide) ((fa_le x0 40).mpr (by show (Int32.toInt x0) ≤ 40; omega)) ?_
  exact r_vret 73 Rt dJ7_rangeCheck_23922_73 () trivial [] (by decide) rfl (Nat.le_of_ble_eq_true rfl) (Nat.le_of_ble_eq_true rfl)
set_option maxHeartbeats 4000000 in
set_option maxRecDepth 100000 in
theorem c42_J7_fill_fda19 (l : Launch) (g : GD) (h0 : Nat) (x0 : Int32) (fn0 : Nat → Int32) (i_x0 : (0 ≤ (Int32.toInt x0) ∧ (Int32.toInt x0) ≤ 40)) (sz : Nat) : Met l yJ7_fill_fda19 wsJ7_fill_fda19 ({ frames := 1, cells := 0, slots := 0, locals := 22 }) (va_Pc [.ref h0, .int 0, .int x0, .int (-1)] (PW g [(h0, .inl (gI g, 40, .inl fn0))] sz)) (va_Qv (fun (u : (Nat → Int32)) => FILLED u (-1) (Int.toNat (Int32.toInt x0))) (BW g (va_A [(h0, .inl (gI g, 40, .inl fn0))] sz) (fun u : (Nat → Int32) => [(h0, .inl (gI g, 40, .inl u))])) (va_A [(h0, .inl (gI g, 40, .inl fn0))] sz)) 0 0 (va_A [(h0, .inl (gI g, 40, .inl fn0))] sz) := by
  refine met_v RJ7 (by decide) rfl rfl (Nat.le_of_ble_eq_true rfl) [(0, .ref h0), (1, .int 0), (2, .int x0), (3, .int (-1))] rfl ?_
  intro p e s m args below meth c A Q C hnm Rt
  refine r_aload_n 0 0 C dJ7_fill_fda19_0 rfl ?_
  refine r_ialen 1 40 C dJ7_fill_fda19_1 0 rfl (by decide) ?_
  refine r_iload_n 2 1 C dJ7_fill_fda19_2 rfl ?_
  refine r_iload_n 3 2 C dJ7_fill_fda19_3 rfl ?_
  refine r_callSv 4 C dJ7_fill_fda19_4 [] [] [(h0, .inl (gI g, 40, .inl fn0))] (fun sz => c41_J7_rangeCheck_23922 l g x0 i_x0 sz) gJ7_fill_fda19_J7_rangeCheck_23922 rfl ⟨rfl, rfl⟩ 3 (by decide) ⟨Nat.le_of_ble_eq_true rfl, Nat.le_of_ble_eq_true rfl⟩ [] [0] rfl rfl (by decide) (by decide) (by decide) rfl rfl (Nat.le_of_ble_eq_true rfl) ⟨Nat.le_of_ble_eq_true rfl, Nat.le_of_ble_eq_true rfl⟩ (fun  _ w1 => ?_)
  refine r_ws [(h0, .inl (gI g, 40, .inl fn0))] rfl ?_
  refine r_iload_n 7 1 C dJ7_fill_fda19_7 rfl ?_
  refine r_istore 8 C dJ7_fill_fda19_8 [(4, .int 0), (0, .ref h0), (1, .int 0), (2, .int x0), (3, .int (-1))] (by decide) rfl ?_
  have lp5 : ∀ (n4 : Nat) (z2 : Int32) (f3 : Nat → Int32), (0 ≤ (Int32.toInt z2) ∧ (Int32.toInt z2) ≤ 40) → (FILLED f3 (-1) (Int.toNat (Int32.toInt z2))) → Int.toNat (40 - (Int32.toInt z2)) < n4 → WW p l e ({ frames := 1, cells := 0, slots := 0, locals := 22 } : Room) s m args below meth c A Q g 5 0 0 [(h0, .inl (gI g, 40, .inl f3))] 10 [(4, .int z2), (0, .ref h0), (1, .int 0), (2, .int x0), (3, .int (-1))] [] := by
    intro n4
    induction n4 with
    | zero => intro z2 f3 i8 j9 hm7; exact absurd hm7 (Nat.not_lt_zero _)
    | succ n4 ih6 =>
      intro z2 f3 i8 j9 hm7
      obtain ⟨i8a, i8b⟩ := i8
      refine r_iload 10 0 C dJ7_fill_fda19_10 rfl ?_
      refine r_iload_n 12 3 C dJ7_fill_fda19_12 rfl ?_
      refine r_icmp_ge 13 27 C dJ7_fill_fda19_13 (by decide) (fun c10 => ?_) (fun c10 => ?_)
      · skip
        have k11 : (Int32.toInt x0) ≤ (Int32.toInt z2) := (fa_le x0 z2).mp c10
        exact r_vret 27 Rt dJ7_fill_fda19_27 f3 (show FILLED f3 (-1) (Int.toNat (Int32.toInt x0)) from (by exact (fun j_9 h_9 => (show FILLED f3 (-1) (Int.toNat (Int32.toInt z2)) by assumption) j_9 (by omega)))) [0] (by decide) rfl (Nat.le_of_ble_eq_true rfl) (Nat.le_of_ble_eq_true rfl)
      · skip
        have k12 : ¬ ((Int32.toInt x0) ≤ (Int32.toInt z2)) := fun h_9 => c10 ((fa_le x0 z2).mpr h_9)
        refine r_aload_n 16 1 C dJ7_fill_fda19_16 rfl ?_
        refine r_iload 17 0 C dJ7_fill_fda19_17 rfl ?_
        refine r_iload_n 19 4 C dJ7_fill_fda19_19 rfl ?_
        obtain ⟨f13, ef13⟩ : ∃ f_9, upd f3 (Int32.toNatClampNeg z2) (-1) = f_9 := ⟨_, rfl⟩
        refine r_iast 20 C dJ7_fill_fda19_20 0 rfl (vinI (by omega) (by omega)) f13 ef13 [(h0, .inl (gI g, 40, .inl f13))] rfl ?_
        obtain ⟨z14, ez14⟩ : ∃ z_9, z2 + Int32.ofInt 1 = z_9 := ⟨_, rfl⟩
        have tz14 : (Int32.toInt z14) = (Int32.toInt z2) + 1 := by rw [← ez14]; exact fb_addIv (a := 0) (b := 40) (c := 1) (d := 1) ⟨i8a, i8b⟩ ⟨by decide, by decide⟩ (by decide) (by decide)
        refine r_iinc 21 0 z14 C dJ7_fill_fda19_21 rfl ez14 [(4, .int z14), (0, .ref h0), (1, .int 0), (2, .int x0), (3, .int (-1))] (by decide) rfl ?_
        refine r_goto 24 10 C dJ7_fill_fda19_24 (by decide) ?_
        exact ih6 z14 f13 ⟨by omega, by omega⟩ (filled_step (show FILLED f3 (-1) (Int.toNat (Int32.toInt z2)) by assumption) (by assumption) (by omega) (by omega)) (by omega)
  exact lp5 _ 0 fn0 (by decide) filled_0 (Nat.lt_succ_self _)
set_option maxHeartbeats 4000000 in
set_option maxRecDepth 100000 in
theorem c43_X8_lay (l : Launch) (g : GD) (h0 : Nat) (h1 : Nat) (x0 : Int32) (h2 : Nat) (h3 : Nat) (x1 : Int32) (x2 : Int32) (x3 : Int32) (fn0 : Nat → Int32) (sz : Nat) : Met l yX8_lay wsX8_lay ({ frames := 2, cells := 0, slots := 0, locals := 46 }) (va_Pc [.ref h0, .int x0] (PW g [(h0, .inr (7, [.ref h2, .ref h1, .ref h3, .int x1, .int x2, .int x3])), (h1, .inl (gI g, 40, .inl fn0))] sz)) (va_Qv (fun (u : (Int32) × (Nat → Int32)) => (((Int32.toInt x0) ≤ 0 ∧ (Int32.toInt (u.1)) = 0) ∨ (0 < (Int32.toInt x0) ∧ (Int32.toInt x0) ≤ 40 ∧ (Int32.toInt (u.1)) = (Int32.toInt x0)) ∨ (40 < (Int32.toInt x0) ∧ (Int32.toInt (u.1)) = 40)) ∧ FILLED (u.2) (-1) (Int.toNat (Int32.toInt (u.1))) ∧ 0 = 0) (BW g (va_A [(h0, .inr (7, [.ref h2, .ref h1, .ref h3, .int x1, .int x2, .int x3])), (h1, .inl (gI g, 40, .inl fn0))] sz) (fun u : (Int32) × (Nat → Int32) => [(h0, .inr (7, [.ref h2, .ref h1, .ref h3, .int u.1, .int x2, .int 0])), (h1, .inl (gI g, 40, .inl u.2))])) (va_A [(h0, .inr (7, [.ref h2, .ref h1, .ref h3, .int x1, .int x2, .int x3])), (h1, .inl (gI g, 40, .inl fn0))] sz)) 0 0 (va_A [(h0, .inr (7, [.ref h2, .ref h1, .ref h3, .int x1, .int x2, .int x3])), (h1, .inl (gI g, 40, .inl fn0))] sz) := by
  refine met_v RX8 (by decide) rfl rfl (Nat.le_of_ble_eq_true rfl) [(0, .ref h0), (1, .int x0)] rfl ?_
  intro p e s m args below meth c A Q C hnm Rt
  have gx0 := fb_rng x0
  have hiX8 : ∀ w ∈ wsX80, w ∈ wsX8_lay := fun w h => List.mem_cons_of_mem _ (List.mem_append_right _ (h))
  refine r_aload_n 0 0 C dX8_lay_0 rfl ?_
  refine r_iconst 1 0 C dX8_lay_1 (by decide) ?_
  refine r_iload_n 2 1 C dX8_lay_2 rfl ?_
  refine r_aload_n 3 0 C dX8_lay_3 rfl ?_
  refine r_get 4 C dX8_lay_4 (k := 1) 0 rfl rfl hiX8 (by decide) rfl (mg 1 rfl) (Or.inl rfl) rfl ?_
  refine r_ialen 7 40 C dX8_lay_7 1 rfl (by decide) ?_
  obtain ⟨z1, ez1⟩ : ∃ z_9, (if 40 < x0 then 40 else x0) = z_9 := ⟨_, rfl⟩
  have tz1 : (40 < (Int32.toInt x0) ∧ (Int32.toInt z1) = 40) ∨ (¬ (40 < (Int32.toInt x0)) ∧ (Int32.toInt z1) = (Int32.toInt x0)) := by rw [← ez1]; exact mx_or 40 x0 40 x0
  refine r_mmin 8 z1 C dX8_lay_8 (mg 2 rfl) (mg 3 rfl) (mg 4 rfl) (mg 5 rfl) (Nat.le_of_ble_eq_true rfl) (Nat.le_of_ble_eq_true rfl) (Nat.le_of_ble_eq_true rfl) (Nat.le_of_ble_eq_true rfl) ez1 ?_
  obtain ⟨z2, ez2⟩ : ∃ z_9, (if 0 < z1 then z1 else 0) = z_9 := ⟨_, rfl⟩
  have tz2 : (0 < (Int32.toInt z1) ∧ (Int32.toInt z2) = (Int32.toInt z1)) ∨ (¬ (0 < (Int32.toInt z1)) ∧ (Int32.toInt z2) = 0) := by rw [← ez2]; exact mx_or 0 z1 z1 0
  refine r_mmax 11 z2 C dX8_lay_11 (mg 6 rfl) (mg 7 rfl) (mg 4 rfl) (mg 8 rfl) (Nat.le_of_ble_eq_true rfl) (Nat.le_of_ble_eq_true rfl) (Nat.le_of_ble_eq_true rfl) (Nat.le_of_ble_eq_true rfl) ez2 ?_
  refine r_put 14 C dX8_lay_14 (k := 3) 0 rfl rfl hiX8 tyX8 tyX8_ok nmX8 (by decide) rfl (mg 9 rfl) (Or.inl rfl) rfl rfl rfl rfl (Nat.le_of_ble_eq_true rfl) [(h0, .inr (7, [.ref h2, .ref h1, .ref h3, .int z2, .int x2, .int x3])), (h1, .inl (gI g, 40, .inl fn0))] rfl ?_
  refine r_aload_n 17 0 C dX8_lay_17 rfl ?_
  refine r_get 18 C dX8_lay_18 (k := 1) 0 rfl rfl hiX8 (by decide) rfl (mg 1 rfl) (Or.inl rfl) rfl ?_
  refine r_iconst 21 0 C dX8_lay_21 (by decide) ?_
  refine r_aload_n 22 0 C dX8_lay_22 rfl ?_
  refine r_get 23 C dX8_lay_23 (k := 3) 0 rfl rfl hiX8 (by decide) rfl (mg 9 rfl) (Or.inl rfl) rfl ?_
  refine r_iconst 26 (-1) C dX8_lay_26 (by decide) ?_
  refine r_callSv 27 C dX8_lay_27 [] [(h1, .inl (gI g, 40, .inl fn0))] [(h0, .inr (7, [.ref h2, .ref h1, .ref h3, .int z2, .int x2, .int x3]))] (fun sz => c42_J7_fill_fda19 l g h1 z2 fn0 ⟨by omega, by omega⟩ sz) gX8_lay_J7_fill_fda19 rfl ⟨rfl, rfl⟩ 4 (by decide) ⟨Nat.le_of_ble_eq_true rfl, Nat.le_of_ble_eq_true rfl⟩ [1] [0] rfl rfl (by decide) (by decide) (by decide) rfl rfl (Nat.le_of_ble_eq_true rfl) ⟨Nat.le_of_ble_eq_true rfl, Nat.le_of_ble_eq_true rfl⟩ (fun  f3 w4 => ?_)
  refine r_ws [(h0, .inr (7, [.ref h2, .ref h1, .ref h3, .int z2, .int x2, .int x3])), (h1, .inl (gI g, 40, .inl f3))] rfl ?_
  have p5 : FILLED f3 (-1) (Int.toNat (Int32.toInt z2)) := w4
  refine r_aload_n 30 0 C dX8_lay_30 rfl ?_
  refine r_iconst 31 0 C dX8_lay_31 (by decide) ?_
  refine r_put 32 C dX8_lay_32 (k := 5) 0 rfl rfl hiX8 tyX8 tyX8_ok nmX8 (by decide) rfl (mg 10 rfl) (Or.inl rfl) rfl rfl rfl rfl (Nat.le_of_ble_eq_true rfl) [(h0, .inr (7, [.ref h2, .ref h1, .ref h3, .int z2, .int x2, .int 0])), (h1, .inl (gI g, 40, .inl f3))] rfl ?_
  exact r_vret 35 Rt dX8_lay_35 (z2, f3) (show (((Int32.toInt x0) ≤ 0 ∧ (Int32.toInt z2) = 0) ∨ (0 < (Int32.toInt x0) ∧ (Int32.toInt x0) ≤ 40 ∧ (Int32.toInt z2) = (Int32.toInt x0)) ∨ (40 < (Int32.toInt x0) ∧ (Int32.toInt z2) = 40)) ∧ FILLED f3 (-1) (Int.toNat (Int32.toInt z2)) ∧ 0 = 0 from ⟨(by ((repeat' apply And.intro) <;> first | trivial | rfl | assumption | omega | decide | exact Or.inl rfl | exact Or.inr (Or.inl rfl) | exact Or.inr (Or.inr rfl))), (by exact p5), (by ((repeat' apply And.intro) <;> first | trivial | rfl | assumption | omega | decide | exact Or.inl rfl | exact Or.inr (Or.inl rfl) | exact Or.inr (Or.inr rfl)))⟩) [0, 1] (by decide) rfl (Nat.le_of_ble_eq_true rfl) (Nat.le_of_ble_eq_true rfl)
set_option maxHeartbeats 4000000 in
set_option maxRecDepth 100000 in
theorem c44_J7_rangeCheck_23922 (l : Launch) (g : GD) (x0 : Int32) (i_x0 : (0 ≤ (Int32.toInt x0) ∧ (Int32.toInt x0) ≤ 200)) (sz : Nat) : Met l yJ7_rangeCheck_23922 wsJ7_rangeCheck_23922 ({ frames := 0, cells := 0, slots := 0, locals := 0 }) (va_Pc [.int 200, .int 0, .int x0] (PW g [] sz)) (va_Qv (fun (_ : Unit) => True) (BW g (va_A [] sz) (fun _ : Unit => [])) (va_A [] sz)) 0 0 (va_A [] sz) := by
  refine met_v RJ7 (by decide) rfl rfl (Nat.le_of_ble_eq_true rfl) [(0, .int 200), (1, .int 0), (2, .int x0)] rfl ?_
  intro p e s m args below meth c A Q C hnm Rt
  refine r_iload_n 0 1 C dJ7_rangeCheck_23922_0 rfl ?_
  refine r_iload_n 1 2 C dJ7_rangeCheck_23922_1 rfl ?_
  refine r_icmp_le_t 2 46 C dJ7_rangeCheck_23922_2 (by decide) ((fa_le 0 x0).mpr (by show 0 ≤ (Int32.toInt x0); omega)) ?_
  refine r_iload_n 46 1 C dJ7_rangeCheck_23922_46 rfl ?_
  refine r_if_ge_t 47 59 C dJ7_rangeCheck_23922_47 (by decide) (by decide) ?_
  refine r_iload_n 59 2 C dJ7_rangeCheck_23922_59 rfl ?_
  refine r_iload_n 60 0 C dJ7_rangeCheck_23922_60 rfl ?_
  refine r_icmp_le_t 61 73 C dJ7_rangeCheck_23922_61 (by decide) ((fa_le x0 200).mpr (by show (Int32.toInt x0) ≤ 200; omega)) ?_
  exact r_vret 73 Rt dJ7_rangeCheck_23922_73 () trivial [] (by decide) rfl (Nat.le_of_ble_eq_true rfl) (Nat.le_of_ble_eq_true rfl)
set_option maxHeartbeats 4000000 in
set_option maxRecDepth 100000 in
theorem c45_J7_fill_fda19 (l : Launch) (g : GD) (h0 : Nat) (x0 : Int32) (fn0 : Nat → Int32) (i_x0 : (0 ≤ (Int32.toInt x0) ∧ (Int32.toInt x0) ≤ 200)) (sz : Nat) : Met l yJ7_fill_fda19 wsJ7_fill_fda19 ({ frames := 1, cells := 0, slots := 0, locals := 22 }) (va_Pc [.ref h0, .int 0, .int x0, .int (-1)] (PW g [(h0, .inl (gI g, 200, .inl fn0))] sz)) (va_Qv (fun (u : (Nat → Int32)) => FILLED u (-1) (Int.toNat (Int32.toInt x0))) (BW g (va_A [(h0, .inl (gI g, 200, .inl fn0))] sz) (fun u : (Nat → Int32) => [(h0, .inl (gI g, 200, .inl u))])) (va_A [(h0, .inl (gI g, 200, .inl fn0))] sz)) 0 0 (va_A [(h0, .inl (gI g, 200, .inl fn0))] sz) := by
  refine met_v RJ7 (by decide) rfl rfl (Nat.le_of_ble_eq_true rfl) [(0, .ref h0), (1, .int 0), (2, .int x0), (3, .int (-1))] rfl ?_
  intro p e s m args below meth c A Q C hnm Rt
  refine r_aload_n 0 0 C dJ7_fill_fda19_0 rfl ?_
  refine r_ialen 1 200 C dJ7_fill_fda19_1 0 rfl (by decide) ?_
  refine r_iload_n 2 1 C dJ7_fill_fda19_2 rfl ?_
  refine r_iload_n 3 2 C dJ7_fill_fda19_3 rfl ?_
  refine r_callSv 4 C dJ7_fill_fda19_4 [] [] [(h0, .inl (gI g, 200, .inl fn0))] (fun sz => c44_J7_rangeCheck_23922 l g x0 i_x0 sz) gJ7_fill_fda19_J7_rangeCheck_23922 rfl ⟨rfl, rfl⟩ 3 (by decide) ⟨Nat.le_of_ble_eq_true rfl, Nat.le_of_ble_eq_true rfl⟩ [] [0] rfl rfl (by decide) (by decide) (by decide) rfl rfl (Nat.le_of_ble_eq_true rfl) ⟨Nat.le_of_ble_eq_true rfl, Nat.le_of_ble_eq_true rfl⟩ (fun  _ w1 => ?_)
  refine r_ws [(h0, .inl (gI g, 200, .inl fn0))] rfl ?_
  refine r_iload_n 7 1 C dJ7_fill_fda19_7 rfl ?_
  refine r_istore 8 C dJ7_fill_fda19_8 [(4, .int 0), (0, .ref h0), (1, .int 0), (2, .int x0), (3, .int (-1))] (by decide) rfl ?_
  have lp5 : ∀ (n4 : Nat) (z2 : Int32) (f3 : Nat → Int32), (0 ≤ (Int32.toInt z2) ∧ (Int32.toInt z2) ≤ 200) → (FILLED f3 (-1) (Int.toNat (Int32.toInt z2))) → Int.toNat (200 - (Int32.toInt z2)) < n4 → WW p l e ({ frames := 1, cells := 0, slots := 0, locals := 22 } : Room) s m args below meth c A Q g 5 0 0 [(h0, .inl (gI g, 200, .inl f3))] 10 [(4, .int z2), (0, .ref h0), (1, .int 0), (2, .int x0), (3, .int (-1))] [] := by
    intro n4
    induction n4 with
    | zero => intro z2 f3 i8 j9 hm7; exact absurd hm7 (Nat.not_lt_zero _)
    | succ n4 ih6 =>
      intro z2 f3 i8 j9 hm7
      obtain ⟨i8a, i8b⟩ := i8
      refine r_iload 10 0 C dJ7_fill_fda19_10 rfl ?_
      refine r_iload_n 12 3 C dJ7_fill_fda19_12 rfl ?_
      refine r_icmp_ge 13 27 C dJ7_fill_fda19_13 (by decide) (fun c10 => ?_) (fun c10 => ?_)
      · skip
        have k11 : (Int32.toInt x0) ≤ (Int32.toInt z2) := (fa_le x0 z2).mp c10
        exact r_vret 27 Rt dJ7_fill_fda19_27 f3 (show FILLED f3 (-1) (Int.toNat (Int32.toInt x0)) from (by exact (fun j_9 h_9 => (show FILLED f3 (-1) (Int.toNat (Int32.toInt z2)) by assumption) j_9 (by omega)))) [0] (by decide) rfl (Nat.le_of_ble_eq_true rfl) (Nat.le_of_ble_eq_true rfl)
      · skip
        have k12 : ¬ ((Int32.toInt x0) ≤ (Int32.toInt z2)) := fun h_9 => c10 ((fa_le x0 z2).mpr h_9)
        refine r_aload_n 16 1 C dJ7_fill_fda19_16 rfl ?_
        refine r_iload 17 0 C dJ7_fill_fda19_17 rfl ?_
        refine r_iload_n 19 4 C dJ7_fill_fda19_19 rfl ?_
        obtain ⟨f13, ef13⟩ : ∃ f_9, upd f3 (Int32.toNatClampNeg z2) (-1) = f_9 := ⟨_, rfl⟩
        refine r_iast 20 C dJ7_fill_fda19_20 0 rfl (vinI (by omega) (by omega)) f13 ef13 [(h0, .inl (gI g, 200, .inl f13))] rfl ?_
        obtain ⟨z14, ez14⟩ : ∃ z_9, z2 + Int32.ofInt 1 = z_9 := ⟨_, rfl⟩
        have tz14 : (Int32.toInt z14) = (Int32.toInt z2) + 1 := by rw [← ez14]; exact fb_addIv (a := 0) (b := 200) (c := 1) (d := 1) ⟨i8a, i8b⟩ ⟨by decide, by decide⟩ (by decide) (by decide)
        refine r_iinc 21 0 z14 C dJ7_fill_fda19_21 rfl ez14 [(4, .int z14), (0, .ref h0), (1, .int 0), (2, .int x0), (3, .int (-1))] (by decide) rfl ?_
        refine r_goto 24 10 C dJ7_fill_fda19_24 (by decide) ?_
        exact ih6 z14 f13 ⟨by omega, by omega⟩ (filled_step (show FILLED f3 (-1) (Int.toNat (Int32.toInt z2)) by assumption) (by assumption) (by omega) (by omega)) (by omega)
  exact lp5 _ 0 fn0 (by decide) filled_0 (Nat.lt_succ_self _)
set_option maxHeartbeats 4000000 in
set_option maxRecDepth 100000 in
theorem c46_X8_lay (l : Launch) (g : GD) (h0 : Nat) (h1 : Nat) (x0 : Int32) (h2 : Nat) (h3 : Nat) (x1 : Int32) (x2 : Int32) (x3 : Int32) (fn0 : Nat → Int32) (sz : Nat) : Met l yX8_lay wsX8_lay ({ frames := 2, cells := 0, slots := 0, locals := 46 }) (va_Pc [.ref h0, .int x0] (PW g [(h0, .inr (7, [.ref h2, .ref h1, .ref h3, .int x1, .int x2, .int x3])), (h1, .inl (gI g, 200, .inl fn0))] sz)) (va_Qv (fun (u : (Int32) × (Nat → Int32)) => (((Int32.toInt x0) ≤ 0 ∧ (Int32.toInt (u.1)) = 0) ∨ (0 < (Int32.toInt x0) ∧ (Int32.toInt x0) ≤ 200 ∧ (Int32.toInt (u.1)) = (Int32.toInt x0)) ∨ (200 < (Int32.toInt x0) ∧ (Int32.toInt (u.1)) = 200)) ∧ FILLED (u.2) (-1) (Int.toNat (Int32.toInt (u.1))) ∧ 0 = 0) (BW g (va_A [(h0, .inr (7, [.ref h2, .ref h1, .ref h3, .int x1, .int x2, .int x3])), (h1, .inl (gI g, 200, .inl fn0))] sz) (fun u : (Int32) × (Nat → Int32) => [(h0, .inr (7, [.ref h2, .ref h1, .ref h3, .int u.1, .int x2, .int 0])), (h1, .inl (gI g, 200, .inl u.2))])) (va_A [(h0, .inr (7, [.ref h2, .ref h1, .ref h3, .int x1, .int x2, .int x3])), (h1, .inl (gI g, 200, .inl fn0))] sz)) 0 0 (va_A [(h0, .inr (7, [.ref h2, .ref h1, .ref h3, .int x1, .int x2, .int x3])), (h1, .inl (gI g, 200, .inl fn0))] sz) := by
  refine met_v RX8 (by decide) rfl rfl (Nat.le_of_ble_eq_true rfl) [(0, .ref h0), (1, .int x0)] rfl ?_
  intro p e s m args below meth c A Q C hnm Rt
  have gx0 := fb_rng x0
  have hiX8 : ∀ w ∈ wsX80, w ∈ wsX8_lay := fun w h => List.mem_cons_of_mem _ (List.mem_append_right _ (h))
  refine r_aload_n 0 0 C dX8_lay_0 rfl ?_
  refine r_iconst 1 0 C dX8_lay_1 (by decide) ?_
  refine r_iload_n 2 1 C dX8_lay_2 rfl ?_
  refine r_aload_n 3 0 C dX8_lay_3 rfl ?_
  refine r_get 4 C dX8_lay_4 (k := 1) 0 rfl rfl hiX8 (by decide) rfl (mg 1 rfl) (Or.inl rfl) rfl ?_
  refine r_ialen 7 200 C dX8_lay_7 1 rfl (by decide) ?_
  obtain ⟨z1, ez1⟩ : ∃ z_9, (if 200 < x0 then 200 else x0) = z_9 := ⟨_, rfl⟩
  have tz1 : (200 < (Int32.toInt x0) ∧ (Int32.toInt z1) = 200) ∨ (¬ (200 < (Int32.toInt x0)) ∧ (Int32.toInt z1) = (Int32.toInt x0)) := by rw [← ez1]; exact mx_or 200 x0 200 x0
  refine r_mmin 8 z1 C dX8_lay_8 (mg 2 rfl) (mg 3 rfl) (mg 4 rfl) (mg 5 rfl) (Nat.le_of_ble_eq_true rfl) (Nat.le_of_ble_eq_true rfl) (Nat.le_of_ble_eq_true rfl) (Nat.le_of_ble_eq_true rfl) ez1 ?_
  obtain ⟨z2, ez2⟩ : ∃ z_9, (if 0 < z1 then z1 else 0) = z_9 := ⟨_, rfl⟩
  have tz2 : (0 < (Int32.toInt z1) ∧ (Int32.toInt z2) = (Int32.toInt z1)) ∨ (¬ (0 < (Int32.toInt z1)) ∧ (Int32.toInt z2) = 0) := by rw [← ez2]; exact mx_or 0 z1 z1 0
  refine r_mmax 11 z2 C dX8_lay_11 (mg 6 rfl) (mg 7 rfl) (mg 4 rfl) (mg 8 rfl) (Nat.le_of_ble_eq_true rfl) (Nat.le_of_ble_eq_true rfl) (Nat.le_of_ble_eq_true rfl) (Nat.le_of_ble_eq_true rfl) ez2 ?_
  refine r_put 14 C dX8_lay_14 (k := 3) 0 rfl rfl hiX8 tyX8 tyX8_ok nmX8 (by decide) rfl (mg 9 rfl) (Or.inl rfl) rfl rfl rfl rfl (Nat.le_of_ble_eq_true rfl) [(h0, .inr (7, [.ref h2, .ref h1, .ref h3, .int z2, .int x2, .int x3])), (h1, .inl (gI g, 200, .inl fn0))] rfl ?_
  refine r_aload_n 17 0 C dX8_lay_17 rfl ?_
  refine r_get 18 C dX8_lay_18 (k := 1) 0 rfl rfl hiX8 (by decide) rfl (mg 1 rfl) (Or.inl rfl) rfl ?_
  refine r_iconst 21 0 C dX8_lay_21 (by decide) ?_
  refine r_aload_n 22 0 C dX8_lay_22 rfl ?_
  refine r_get 23 C dX8_lay_23 (k := 3) 0 rfl rfl hiX8 (by decide) rfl (mg 9 rfl) (Or.inl rfl) rfl ?_
  refine r_iconst 26 (-1) C dX8_lay_26 (by decide) ?_
  refine r_callSv 27 C dX8_lay_27 [] [(h1, .inl (gI g, 200, .inl fn0))] [(h0, .inr (7, [.ref h2, .ref h1, .ref h3, .int z2, .int x2, .int x3]))] (fun sz => c45_J7_fill_fda19 l g h1 z2 fn0 ⟨by omega, by omega⟩ sz) gX8_lay_J7_fill_fda19 rfl ⟨rfl, rfl⟩ 4 (by decide) ⟨Nat.le_of_ble_eq_true rfl, Nat.le_of_ble_eq_true rfl⟩ [1] [0] rfl rfl (by decide) (by decide) (by decide) rfl rfl (Nat.le_of_ble_eq_true rfl) ⟨Nat.le_of_ble_eq_true rfl, Nat.le_of_ble_eq_true rfl⟩ (fun  f3 w4 => ?_)
  refine r_ws [(h0, .inr (7, [.ref h2, .ref h1, .ref h3, .int z2, .int x2, .int x3])), (h1, .inl (gI g, 200, .inl f3))] rfl ?_
  have p5 : FILLED f3 (-1) (Int.toNat (Int32.toInt z2)) := w4
  refine r_aload_n 30 0 C dX8_lay_30 rfl ?_
  refine r_iconst 31 0 C dX8_lay_31 (by decide) ?_
  refine r_put 32 C dX8_lay_32 (k := 5) 0 rfl rfl hiX8 tyX8 tyX8_ok nmX8 (by decide) rfl (mg 10 rfl) (Or.inl rfl) rfl rfl rfl rfl (Nat.le_of_ble_eq_true rfl) [(h0, .inr (7, [.ref h2, .ref h1, .ref h3, .int z2, .int x2, .int 0])), (h1, .inl (gI g, 200, .inl f3))] rfl ?_
  exact r_vret 35 Rt dX8_lay_35 (z2, f3) (show (((Int32.toInt x0) ≤ 0 ∧ (Int32.toInt z2) = 0) ∨ (0 < (Int32.toInt x0) ∧ (Int32.toInt x0) ≤ 200 ∧ (Int32.toInt z2) = (Int32.toInt x0)) ∨ (200 < (Int32.toInt x0) ∧ (Int32.toInt z2) = 200)) ∧ FILLED f3 (-1) (Int.toNat (Int32.toInt z2)) ∧ 0 = 0 from ⟨(by ((repeat' apply And.intro) <;> first | trivial | rfl | assumption | omega | decide | exact Or.inl rfl | exact Or.inr (Or.inl rfl) | exact Or.inr (Or.inr rfl))), (by exact p5), (by ((repeat' apply And.intro) <;> first | trivial | rfl | assumption | omega | decide | exact Or.inl rfl | exact Or.inr (Or.inl rfl) | exact Or.inr (Or.inr rfl)))⟩) [0, 1] (by decide) rfl (Nat.le_of_ble_eq_true rfl) (Nat.le_of_ble_eq_true rfl)
set_option maxHeartbeats 4000000 in
set_option maxRecDepth 100000 in
theorem c47_J7_rangeCheck_23922 (l : Launch) (g : GD) (x0 : Int32) (i_x0 : (0 ≤ (Int32.toInt x0) ∧ (Int32.toInt x0) ≤ 0)) (sz : Nat) : Met l yJ7_rangeCheck_23922 wsJ7_rangeCheck_23922 ({ frames := 0, cells := 0, slots := 0, locals := 0 }) (va_Pc [.int 0, .int 0, .int x0] (PW g [] sz)) (va_Qv (fun (_ : Unit) => True) (BW g (va_A [] sz) (fun _ : Unit => [])) (va_A [] sz)) 0 0 (va_A [] sz) := by
  refine met_v RJ7 (by decide) rfl rfl (Nat.le_of_ble_eq_true rfl) [(0, .int 0), (1, .int 0), (2, .int x0)] rfl ?_
  intro p e s m args below meth c A Q C hnm Rt
  refine r_iload_n 0 1 C dJ7_rangeCheck_23922_0 rfl ?_
  refine r_iload_n 1 2 C dJ7_rangeCheck_23922_1 rfl ?_
  refine r_icmp_le_t 2 46 C dJ7_rangeCheck_23922_2 (by decide) ((fa_le 0 x0).mpr (by show 0 ≤ (Int32.toInt x0); omega)) ?_
  refine r_iload_n 46 1 C dJ7_rangeCheck_23922_46 rfl ?_
  refine r_if_ge_t 47 59 C dJ7_rangeCheck_23922_47 (by decide) (by decide) ?_
  refine r_iload_n 59 2 C dJ7_rangeCheck_23922_59 rfl ?_
  refine r_iload_n 60 0 C dJ7_rangeCheck_23922_60 rfl ?_
  refine r_icmp_le_t 61 73 C dJ7_rangeCheck_23922_61 (by decide) ((fa_le x0 0).mpr (by show (Int32.toInt x0) ≤ 0; omega)) ?_
  exact r_vret 73 Rt dJ7_rangeCheck_23922_73 () trivial [] (by decide) rfl (Nat.le_of_ble_eq_true rfl) (Nat.le_of_ble_eq_true rfl)
set_option maxHeartbeats 4000000 in
set_option maxRecDepth 100000 in
theorem c48_J7_fill_fda19 (l : Launch) (g : GD) (h0 : Nat) (x0 : Int32) (fn0 : Nat → Int32) (i_x0 : (0 ≤ (Int32.toInt x0) ∧ (Int32.toInt x0) ≤ 0)) (sz : Nat) : Met l yJ7_fill_fda19 wsJ7_fill_fda19 ({ frames := 1, cells := 0, slots := 0, locals := 22 }) (va_Pc [.ref h0, .int 0, .int x0, .int (-1)] (PW g [(h0, .inl (gI g, 0, .inl fn0))] sz)) (va_Qv (fun (_ : Unit) => FILLED fn0 (-1) (Int.toNat (Int32.toInt x0))) (BW g (va_A [(h0, .inl (gI g, 0, .inl fn0))] sz) (fun _ : Unit => [(h0, .inl (gI g, 0, .inl fn0))])) (va_A [(h0, .inl (gI g, 0, .inl fn0))] sz)) 0 0 (va_A [(h0, .inl (gI g, 0, .inl fn0))] sz) := by
  refine met_v RJ7 (by decide) rfl rfl (Nat.le_of_ble_eq_true rfl) [(0, .ref h0), (1, .int 0), (2, .int x0), (3, .int (-1))] rfl ?_
  intro p e s m args below meth c A Q C hnm Rt
  refine r_aload_n 0 0 C dJ7_fill_fda19_0 rfl ?_
  refine r_ialen 1 0 C dJ7_fill_fda19_1 0 rfl (by decide) ?_
  refine r_iload_n 2 1 C dJ7_fill_fda19_2 rfl ?_
  refine r_iload_n 3 2 C dJ7_fill_fda19_3 rfl ?_
  refine r_callSv 4 C dJ7_fill_fda19_4 [] [] [(h0, .inl (gI g, 0, .inl fn0))] (fun sz => c47_J7_rangeCheck_23922 l g x0 i_x0 sz) gJ7_fill_fda19_J7_rangeCheck_23922 rfl ⟨rfl, rfl⟩ 3 (by decide) ⟨Nat.le_of_ble_eq_true rfl, Nat.le_of_ble_eq_true rfl⟩ [] [0] rfl rfl (by decide) (by decide) (by decide) rfl rfl (Nat.le_of_ble_eq_true rfl) ⟨Nat.le_of_ble_eq_true rfl, Nat.le_of_ble_eq_true rfl⟩ (fun  _ w1 => ?_)
  refine r_ws [(h0, .inl (gI g, 0, .inl fn0))] rfl ?_
  refine r_iload_n 7 1 C dJ7_fill_fda19_7 rfl ?_
  refine r_istore 8 C dJ7_fill_fda19_8 [(4, .int 0), (0, .ref h0), (1, .int 0), (2, .int x0), (3, .int (-1))] (by decide) rfl ?_
  have lp4 : ∀ (n3 : Nat) (z2 : Int32), (0 ≤ (Int32.toInt z2) ∧ (Int32.toInt z2) ≤ 0) → (FILLED fn0 (-1) (Int.toNat (Int32.toInt z2))) → Int.toNat (0 - (Int32.toInt z2)) < n3 → WW p l e ({ frames := 1, cells := 0, slots := 0, locals := 22 } : Room) s m args below meth c A Q g 5 0 0 [(h0, .inl (gI g, 0, .inl fn0))] 10 [(4, .int z2), (0, .ref h0), (1, .int 0), (2, .int x0), (3, .int (-1))] [] := by
    intro n3
    induction n3 with
    | zero => intro z2 i7 j8 hm6; exact absurd hm6 (Nat.not_lt_zero _)
    | succ n3 ih5 =>
      intro z2 i7 j8 hm6
      obtain ⟨i7a, i7b⟩ := i7
      refine r_iload 10 0 C dJ7_fill_fda19_10 rfl ?_
      refine r_iload_n 12 3 C dJ7_fill_fda19_12 rfl ?_
      refine r_icmp_ge_t 13 27 C dJ7_fill_fda19_13 (by decide) ((fa_le x0 z2).mpr (by show (Int32.toInt x0) ≤ (Int32.toInt z2); omega)) ?_
      exact r_vret 27 Rt dJ7_fill_fda19_27 () (show FILLED fn0 (-1) (Int.toNat (Int32.toInt x0)) from (by exact (fun j_9 h_9 => (show FILLED fn0 (-1) (Int.toNat (Int32.toInt z2)) by assumption) j_9 (by omega)))) [0] (by decide) rfl (Nat.le_of_ble_eq_true rfl) (Nat.le_of_ble_eq_true rfl)
  exact lp4 _ 0 (by decide) filled_0 (Nat.lt_succ_self _)
set_option maxHeartbeats 4000000 in
set_option maxRecDepth 100000 in
theorem c49_X8_lay (l : Launch) (g : GD) (h0 : Nat) (h1 : Nat) (x0 : Int32) (h2 : Nat) (h3 : Nat) (x1 : Int32) (x2 : Int32) (x3 : Int32) (fn0 : Nat → Int32) (sz : Nat) : Met l yX8_lay wsX8_lay ({ frames := 2, cells := 0, slots := 0, locals := 46 }) (va_Pc [.ref h0, .int x0] (PW g [(h0, .inr (7, [.ref h2, .ref h1, .ref h3, .int x1, .int x2, .int x3])), (h1, .inl (gI g, 0, .inl fn0))] sz)) (va_Qv (fun (u : (Int32)) => (((Int32.toInt x0) ≤ 0 ∧ (Int32.toInt u) = 0) ∨ (0 < (Int32.toInt x0) ∧ (Int32.toInt x0) ≤ 0 ∧ (Int32.toInt u) = (Int32.toInt x0)) ∨ (0 < (Int32.toInt x0) ∧ (Int32.toInt u) = 0)) ∧ FILLED fn0 (-1) (Int.toNat (Int32.toInt u)) ∧ 0 = 0) (BW g (va_A [(h0, .inr (7, [.ref h2, .ref h1, .ref h3, .int x1, .int x2, .int x3])), (h1, .inl (gI g, 0, .inl fn0))] sz) (fun u : (Int32) => [(h0, .inr (7, [.ref h2, .ref h1, .ref h3, .int u, .int x2, .int 0])), (h1, .inl (gI g, 0, .inl fn0))])) (va_A [(h0, .inr (7, [.ref h2, .ref h1, .ref h3, .int x1, .int x2, .int x3])), (h1, .inl (gI g, 0, .inl fn0))] sz)) 0 0 (va_A [(h0, .inr (7, [.ref h2, .ref h1, .ref h3, .int x1, .int x2, .int x3])), (h1, .inl (gI g, 0, .inl fn0))] sz) := by
  refine met_v RX8 (by decide) rfl rfl (Nat.le_of_ble_eq_true rfl) [(0, .ref h0), (1, .int x0)] rfl ?_
  intro p e s m args below meth c A Q C hnm Rt
  have gx0 := fb_rng x0
  have hiX8 : ∀ w ∈ wsX80, w ∈ wsX8_lay := fun w h => List.mem_cons_of_mem _ (List.mem_append_right _ (h))
  refine r_aload_n 0 0 C dX8_lay_0 rfl ?_
  refine r_iconst 1 0 C dX8_lay_1 (by decide) ?_
  refine r_iload_n 2 1 C dX8_lay_2 rfl ?_
  refine r_aload_n 3 0 C dX8_lay_3 rfl ?_
  refine r_get 4 C dX8_lay_4 (k := 1) 0 rfl rfl hiX8 (by decide) rfl (mg 1 rfl) (Or.inl rfl) rfl ?_
  refine r_ialen 7 0 C dX8_lay_7 1 rfl (by decide) ?_
  obtain ⟨z1, ez1⟩ : ∃ z_9, (if 0 < x0 then 0 else x0) = z_9 := ⟨_, rfl⟩
  have tz1 : (0 < (Int32.toInt x0) ∧ (Int32.toInt z1) = 0) ∨ (¬ (0 < (Int32.toInt x0)) ∧ (Int32.toInt z1) = (Int32.toInt x0)) := by rw [← ez1]; exact mx_or 0 x0 0 x0
  refine r_mmin 8 z1 C dX8_lay_8 (mg 2 rfl) (mg 3 rfl) (mg 4 rfl) (mg 5 rfl) (Nat.le_of_ble_eq_true rfl) (Nat.le_of_ble_eq_true rfl) (Nat.le_of_ble_eq_true rfl) (Nat.le_of_ble_eq_true rfl) ez1 ?_
  obtain ⟨z2, ez2⟩ : ∃ z_9, (if 0 < z1 then z1 else 0) = z_9 := ⟨_, rfl⟩
  have tz2 : (0 < (Int32.toInt z1) ∧ (Int32.toInt z2) = (Int32.toInt z1)) ∨ (¬ (0 < (Int32.toInt z1)) ∧ (Int32.toInt z2) = 0) := by rw [← ez2]; exact mx_or 0 z1 z1 0
  refine r_mmax 11 z2 C dX8_lay_11 (mg 6 rfl) (mg 7 rfl) (mg 4 rfl) (mg 8 rfl) (Nat.le_of_ble_eq_true rfl) (Nat.le_of_ble_eq_true rfl) (Nat.le_of_ble_eq_true rfl) (Nat.le_of_ble_eq_true rfl) ez2 ?_
  refine r_put 14 C dX8_lay_14 (k := 3) 0 rfl rfl hiX8 tyX8 tyX8_ok nmX8 (by decide) rfl (mg 9 rfl) (Or.inl rfl) rfl rfl rfl rfl (Nat.le_of_ble_eq_true rfl) [(h0, .inr (7, [.ref h2, .ref h1, .ref h3, .int z2, .int x2, .int x3])), (h1, .inl (gI g, 0, .inl fn0))] rfl ?_
  refine r_aload_n 17 0 C dX8_lay_17 rfl ?_
  refine r_get 18 C dX8_lay_18 (k := 1) 0 rfl rfl hiX8 (by decide) rfl (mg 1 rfl) (Or.inl rfl) rfl ?_
  refine r_iconst 21 0 C dX8_lay_21 (by decide) ?_
  refine r_aload_n 22 0 C dX8_lay_22 rfl ?_
  refine r_get 23 C dX8_lay_23 (k := 3) 0 rfl rfl hiX8 (by decide) rfl (mg 9 rfl) (Or.inl rfl) rfl ?_
  refine r_iconst 26 (-1) C dX8_lay_26 (by decide) ?_
  refine r_callSv 27 C dX8_lay_27 [] [(h1, .inl (gI g, 0, .inl fn0))] [(h0, .inr (7, [.ref h2, .ref h1, .ref h3, .int z2, .int x2, .int x3]))] (fun sz => c48_J7_fill_fda19 l g h1 z2 fn0 ⟨by omega, by omega⟩ sz) gX8_lay_J7_fill_fda19 rfl ⟨rfl, rfl⟩ 4 (by decide) ⟨Nat.le_of_ble_eq_true rfl, Nat.le_of_ble_eq_true rfl⟩ [1] [0] rfl rfl (by decide) (by decide) (by decide) rfl rfl (Nat.le_of_ble_eq_true rfl) ⟨Nat.le_of_ble_eq_true rfl, Nat.le_of_ble_eq_true rfl⟩ (fun  _ w3 => ?_)
  refine r_ws [(h0, .inr (7, [.ref h2, .ref h1, .ref h3, .int z2, .int x2, .int x3])), (h1, .inl (gI g, 0, .inl fn0))] rfl ?_
  have p4 : FILLED fn0 (-1) (Int.toNat (Int32.toInt z2)) := w3
  refine r_aload_n 30 0 C dX8_lay_30 rfl ?_
  refine r_iconst 31 0 C dX8_lay_31 (by decide) ?_
  refine r_put 32 C dX8_lay_32 (k := 5) 0 rfl rfl hiX8 tyX8 tyX8_ok nmX8 (by decide) rfl (mg 10 rfl) (Or.inl rfl) rfl rfl rfl rfl (Nat.le_of_ble_eq_true rfl) [(h0, .inr (7, [.ref h2, .ref h1, .ref h3, .int z2, .int x2, .int 0])), (h1, .inl (gI g, 0, .inl fn0))] rfl ?_
  exact r_vret 35 Rt dX8_lay_35 z2 (show (((Int32.toInt x0) ≤ 0 ∧ (Int32.toInt z2) = 0) ∨ (0 < (Int32.toInt x0) ∧ (Int32.toInt x0) ≤ 0 ∧ (Int32.toInt z2) = (Int32.toInt x0)) ∨ (0 < (Int32.toInt x0) ∧ (Int32.toInt z2) = 0)) ∧ FILLED fn0 (-1) (Int.toNat (Int32.toInt z2)) ∧ 0 = 0 from ⟨(by ((repeat' apply And.intro) <;> first | trivial | rfl | assumption | omega | decide | exact Or.inl rfl | exact Or.inr (Or.inl rfl) | exact Or.inr (Or.inr rfl))), (by exact p4), (by ((repeat' apply And.intro) <;> first | trivial | rfl | assumption | omega | decide | exact Or.inl rfl | exact Or.inr (Or.inl rfl) | exact Or.inr (Or.inr rfl)))⟩) [0, 1] (by decide) rfl (Nat.le_of_ble_eq_true rfl) (Nat.le_of_ble_eq_true rfl)
set_option maxHeartbeats 4000000 in
set_option maxRecDepth 100000 in
theorem c50_X3_begin (l : Launch) (g : GD) (h0 : Nat) (h1 : Nat) (h2 : Nat) (h3 : Nat) (h4 : Nat) (h5 : Nat) (h6 : Nat) (h7 : Nat) (h8 : Nat) (h9 : Nat) (h10 : Nat) (x0 : Int32) (x1 : Int32) (x2 : Int32) (x3 : Int32) (x4 : Int32) (x5 : Int32) (x6 : Int32) (h11 : Nat) (x7 : Int32) (x8 : Int32) (x9 : Int32) (h12 : Nat) (x10 : Int32) (x11 : Int32) (x12 : Int32) (h13 : Nat) (x13 : Int32) (x14 : Int32) (x15 : Int32) (fn0 : Nat → Int32) (fn1 : Nat → Int32) (fn2 : Nat → Int32) (fn3 : Nat → Int32) (fn4 : Nat → Int32) (i_x5 : (0 ≤ (Int32.toInt x5) ∧ (Int32.toInt x5) ≤ 1500)) (i_x6 : (0 ≤ (Int32.toInt x6) ∧ (Int32.toInt x6) ≤ 1500)) (sz : Nat) : Met l yX3_begin wsX3_begin ({ frames := 3, cells := 0, slots := 0, locals := 67 }) (va_Pc [.ref h0, .int x0, .ref h1, .int x1] (PW g [(h0, .inr (3, [.ref h2, .ref h3, .ref h4, .ref h5, .int x2, .int x3, .int x4])), (h1, .inr (4, [.ref h6, .int x5])), (h2, .inr (4, [.ref h7, .int x6])), (h3, .inr (7, [.ref h2, .ref h8, .ref h11, .int x7, .int x8, .int x9])), (h4, .inr (7, [.ref h2, .ref h9, .ref h12, .int x10, .int x11, .int x12])), (h5, .inr (7, [.ref h2, .ref h10, .ref h13, .int x13, .int x14, .int x15])), (h6, .inl (gB g, 1500, .inl fn0)), (h7, .inl (gB g, 1500, .inl fn1)), (h8, .inl (gI g, 40, .inl fn2)), (h9, .inl (gI g, 200, .inl fn3)), (h10, .inl (gI g, 0, .inl fn4))] sz)) (va_Qv (fun (u : (Int32) × (Int32) × (Int32) × (Int32) × (Nat → Int32) × (Nat → Int32) × (Nat → Int32)) => 0 ≤ (Int32.toInt (u.1)) ∧ (Int32.toInt (u.1)) ≤ 1500 ∧ ((Int32.toInt (u.2.1)) = 0 ∧ (Int32.toInt (u.2.2.1)) = 0 ∧ (Int32.toInt (u.2.2.2.1)) = 0) ∧ (¬ (0 ≤ (Int32.toInt x1)) ∨ ((Int32.toInt x1) ≤ (Int32.toInt x5) ∧ (Int32.toInt (u.1)) = (Int32.toInt x5) - (Int32.toInt x1)) ∨ ((Int32.toInt x5) < (Int32.toInt x1) ∧ (Int32.toInt (u.1)) = 0)) ∧ CND (0 ≤ (Int32.toInt x1) ∧ (Int32.toInt x1) ≤ (Int32.toInt x5)) (SHF (u.2.2.2.2.1) (Int32.toInt (u.1)) fn0 (Int32.toInt x5) (Int32.toInt x1)) ∧ (0 = 0 ∧ 0 = 0 ∧ 0 = 0)) (BW g (va_A [(h0, .inr (3, [.ref h2, .ref h3, .ref h4, .ref h5, .int x2, .int x3, .int x4])), (h1, .inr (4, [.ref h6, .int x5])), (h2, .inr (4, [.ref h7, .int x6])), (h3, .inr (7, [.ref h2, .ref h8, .ref h11, .int x7, .int x8, .int x9])), (h4, .inr (7, [.ref h2, .ref h9, .ref h12, .int x10, .int x11, .int x12])), (h5, .inr (7, [.ref h2, .ref h10, .ref h13, .int x13, .int x14, .int x15])), (h6, .inl (gB g, 1500, .inl fn0)), (h7, .inl (gB g, 1500, .inl fn1)), (h8, .inl (gI g, 40, .inl fn2)), (h9, .inl (gI g, 200, .inl fn3)), (h10, .inl (gI g, 0, .inl fn4))] sz) (fun u : (Int32) × (Int32) × (Int32) × (Int32) × (Nat → Int32) × (Nat → Int32) × (Nat → Int32) => [(h0, .inr (3, [.ref h2, .ref h3, .ref h4, .ref h5, .int x0, .int 0, .int 0])), (h1, .inr (4, [.ref h6, .int x5])), (h2, .inr (4, [.ref h7, .int u.1])), (h3, .inr (7, [.ref h2, .ref h8, .ref h11, .int u.2.1, .int x8, .int 0])), (h4, .inr (7, [.ref h2, .ref h9, .ref h12, .int u.2.2.1, .int x11, .int 0])), (h5, .inr (7, [.ref h2, .ref h10, .ref h13, .int u.2.2.2.1, .int x14, .int 0])), (h6, .inl (gB g, 1500, .inl fn0)), (h7, .inl (gB g, 1500, .inl u.2.2.2.2.1)), (h8, .inl (gI g, 40, .inl u.2.2.2.2.2.1)), (h9, .inl (gI g, 200, .inl u.2.2.2.2.2.2)), (h10, .inl (gI g, 0, .inl fn4))])) (va_A [(h0, .inr (3, [.ref h2, .ref h3, .ref h4, .ref h5, .int x2, .int x3, .int x4])), (h1, .inr (4, [.ref h6, .int x5])), (h2, .inr (4, [.ref h7, .int x6])), (h3, .inr (7, [.ref h2, .ref h8, .ref h11, .int x7, .int x8, .int x9])), (h4, .inr (7, [.ref h2, .ref h9, .ref h12, .int x10, .int x11, .int x12])), (h5, .inr (7, [.ref h2, .ref h10, .ref h13, .int x13, .int x14, .int x15])), (h6, .inl (gB g, 1500, .inl fn0)), (h7, .inl (gB g, 1500, .inl fn1)), (h8, .inl (gI g, 40, .inl fn2)), (h9, .inl (gI g, 200, .inl fn3)), (h10, .inl (gI g, 0, .inl fn4))] sz)) 0 0 (va_A [(h0, .inr (3, [.ref h2, .ref h3, .ref h4, .ref h5, .int x2, .int x3, .int x4])), (h1, .inr (4, [.ref h6, .int x5])), (h2, .inr (4, [.ref h7, .int x6])), (h3, .inr (7, [.ref h2, .ref h8, .ref h11, .int x7, .int x8, .int x9])), (h4, .inr (7, [.ref h2, .ref h9, .ref h12, .int x10, .int x11, .int x12])), (h5, .inr (7, [.ref h2, .ref h10, .ref h13, .int x13, .int x14, .int x15])), (h6, .inl (gB g, 1500, .inl fn0)), (h7, .inl (gB g, 1500, .inl fn1)), (h8, .inl (gI g, 40, .inl fn2)), (h9, .inl (gI g, 200, .inl fn3)), (h10, .inl (gI g, 0, .inl fn4))] sz) := by
  refine met_v RX3 (by decide) rfl rfl (Nat.le_of_ble_eq_true rfl) [(0, .ref h0), (1, .int x0), (2, .ref h1), (3, .int x1)] rfl ?_
  intro p e s m args below meth c A Q C hnm Rt
  have gx1 := fb_rng x1
  have hiX3 : ∀ w ∈ wsX30, w ∈ wsX3_begin := fun w h => List.mem_cons_of_mem _ (List.mem_append_left _ (List.mem_append_left _ (List.mem_append_right _ (h))))
  refine r_aload_n 0 0 C dX3_begin_0 rfl ?_
  refine r_iload_n 1 1 C dX3_begin_1 rfl ?_
  refine r_put 2 C dX3_begin_2 (k := 4) 0 rfl rfl hiX3 tyX3 tyX3_ok nmX3 (by decide) rfl (mg 1 rfl) (Or.inl rfl) rfl rfl rfl rfl (Nat.le_of_ble_eq_true rfl) [(h0, .inr (3, [.ref h2, .ref h3, .ref h4, .ref h5, .int x0, .int x3, .int x4])), (h1, .inr (4, [.ref h6, .int x5])), (h2, .inr (4, [.ref h7, .int x6])), (h3, .inr (7, [.ref h2, .ref h8, .ref h11, .int x7, .int x8, .int x9])), (h4, .inr (7, [.ref h2, .ref h9, .ref h12, .int x10, .int x11, .int x12])), (h5, .inr (7, [.ref h2, .ref h10, .ref h13, .int x13, .int x14, .int x15])), (h6, .inl (gB g, 1500, .inl fn0)), (h7, .inl (gB g, 1500, .inl fn1)), (h8, .inl (gI g, 40, .inl fn2)), (h9, .inl (gI g, 200, .inl fn3)), (h10, .inl (gI g, 0, .inl fn4))] rfl ?_
  refine r_aload_n 5 0 C dX3_begin_5 rfl ?_
  refine r_get 6 C dX3_begin_6 (k := 0) 0 rfl rfl hiX3 (by decide) rfl (mg 2 rfl) (Or.inl rfl) rfl ?_
  refine r_iconst 9 0 C dX3_begin_9 (by decide) ?_
  refine r_callVv 10 C dX3_begin_10 [] [(h2, .inr (4, [.ref h7, .int x6]))] [(h0, .inr (3, [.ref h2, .ref h3, .ref h4, .ref h5, .int x0, .int x3, .int x4])), (h1, .inr (4, [.ref h6, .int x5])), (h3, .inr (7, [.ref h2, .ref h8, .ref h11, .int x7, .int x8, .int x9])), (h4, .inr (7, [.ref h2, .ref h9, .ref h12, .int x10, .int x11, .int x12])), (h5, .inr (7, [.ref h2, .ref h10, .ref h13, .int x13, .int x14, .int x15])), (h6, .inl (gB g, 1500, .inl fn0)), (h7, .inl (gB g, 1500, .inl fn1)), (h8, .inl (gI g, 40, .inl fn2)), (h9, .inl (gI g, 200, .inl fn3)), (h10, .inl (gI g, 0, .inl fn4))] (fun sz => c4_X5_cut l g h2 0 h7 x6 i_x6 sz) gX3_begin_X5_cut rfl ⟨rfl, rfl⟩ 1 (by decide) ⟨Nat.le_of_ble_eq_true rfl, Nat.le_of_ble_eq_true rfl⟩ 2 rfl rfl [2] [0, 1, 3, 4, 5, 6, 7, 8, 9, 10] rfl rfl (by decide) (by decide) (by decide) rfl rfl (Nat.le_of_ble_eq_true rfl) ⟨Nat.le_of_ble_eq_true rfl, Nat.le_of_ble_eq_true rfl⟩ (fun  z1 w2 => ?_)
  refine r_ws [(h0, .inr (3, [.ref h2, .ref h3, .ref h4, .ref h5, .int x0, .int x3, .int x4])), (h1, .inr (4, [.ref h6, .int x5])), (h3, .inr (7, [.ref h2, .ref h8, .ref h11, .int x7, .int x8, .int x9])), (h4, .inr (7, [.ref h2, .ref h9, .ref h12, .int x10, .int x11, .int x12])), (h5, .inr (7, [.ref h2, .ref h10, .ref h13, .int x13, .int x14, .int x15])), (h6, .inl (gB g, 1500, .inl fn0)), (h7, .inl (gB g, 1500, .inl fn1)), (h8, .inl (gI g, 40, .inl fn2)), (h9, .inl (gI g, 200, .inl fn3)), (h10, .inl (gI g, 0, .inl fn4)), (h2, .inr (4, [.ref h7, .int z1]))] rfl ?_
  have p3 : 0 ≤ (Int32.toInt z1) := w2.2.1
  have p4 : (Int32.toInt z1) ≤ 1500 := w2.2.2
  have w5 : (((0 : Int) < 0 ∧ (Int32.toInt z1) = (Int32.toInt x6)) ∨ (¬ ((0 : Int) < 0) ∧ (Int32.toInt x6) < (0 : Int) ∧ (Int32.toInt z1) = (Int32.toInt x6)) ∨ (¬ ((0 : Int) < 0) ∧ ¬ ((Int32.toInt x6) < (0 : Int)) ∧ (Int32.toInt z1) = (0 : Int))) := w2.1
  rcases w5 with ⟨k6, k7⟩ | w5
  · skip
    exact absurd trivial (by omega)
  rcases w5 with ⟨k8, k9, k10⟩ | w5
  · skip
    exact absurd trivial (by omega)
  obtain ⟨k11, k12, k13⟩ := w5
  refine r_aload_n 13 0 C dX3_begin_13 rfl ?_
  refine r_get 14 C dX3_begin_14 (k := 0) 0 rfl rfl hiX3 (by decide) rfl (mg 2 rfl) (Or.inl rfl) rfl ?_
  refine r_aload_n 17 2 C dX3_begin_17 rfl ?_
  refine r_iload_n 18 3 C dX3_begin_18 rfl ?_
  refine r_callVv 19 C dX3_begin_19 [] [(h2, .inr (4, [.ref h7, .int z1])), (h1, .inr (4, [.ref h6, .int x5])), (h7, .inl (gB g, 1500, .inl fn1)), (h6, .inl (gB g, 1500, .inl fn0))] [(h0, .inr (3, [.ref h2, .ref h3, .ref h4, .ref h5, .int x0, .int x3, .int x4])), (h3, .inr (7, [.ref h2, .ref h8, .ref h11, .int x7, .int x8, .int x9])), (h4, .inr (7, [.ref h2, .ref h9, .ref h12, .int x10, .int x11, .int x12])), (h5, .inr (7, [.ref h2, .ref h10, .ref h13, .int x13, .int x14, .int x15])), (h8, .inl (gI g, 40, .inl fn2)), (h9, .inl (gI g, 200, .inl fn3)), (h10, .inl (gI g, 0, .inl fn4))] (fun sz => c40_X5_addAll l g h2 h1 h7 h6 x1 z1 x5 fn1 fn0 ⟨p3, p4⟩ i_x5 sz) gX3_begin_X5_addAll rfl ⟨rfl, rfl⟩ 2 (by decide) ⟨Nat.le_of_ble_eq_true rfl, Nat.le_of_ble_eq_true rfl⟩ 10 rfl rfl [10, 1, 6, 5] [0, 2, 3, 4, 7, 8, 9] rfl rfl (by decide) (by decide) (by decide) rfl rfl (Nat.le_of_ble_eq_true rfl) ⟨Nat.le_of_ble_eq_true rfl, Nat.le_of_ble_eq_true rfl⟩ (fun  u17 w16 => ?_)
  obtain ⟨z14, f15⟩ := u17
  refine r_ws [(h0, .inr (3, [.ref h2, .ref h3, .ref h4, .ref h5, .int x0, .int x3, .int x4])), (h3, .inr (7, [.ref h2, .ref h8, .ref h11, .int x7, .int x8, .int x9])), (h4, .inr (7, [.ref h2, .ref h9, .ref h12, .int x10, .int x11, .int x12])), (h5, .inr (7, [.ref h2, .ref h10, .ref h13, .int x13, .int x14, .int x15])), (h8, .inl (gI g, 40, .inl fn2)), (h9, .inl (gI g, 200, .inl fn3)), (h10, .inl (gI g, 0, .inl fn4)), (h2, .inr (4, [.ref h7, .int z14])), (h1, .inr (4, [.ref h6, .int x5])), (h7, .inl (gB g, 1500, .inl f15)), (h6, .inl (gB g, 1500, .inl fn0))] rfl ?_
  have p18 : 0 ≤ (Int32.toInt z14) := w16.1
  have p19 : (Int32.toInt z14) ≤ 1500 := w16.2.1
  have p20 : (((Int32.toInt x1) ≤ 0 ∧ (((Int32.toInt x5) ≤ 0 ∧ (Int32.toInt z14) = (Int32.toInt z1)) ∨ (0 < (Int32.toInt x5) ∧ (Int32.toInt z1) + (Int32.toInt x5) ≤ 1500 ∧ (Int32.toInt z14) = (Int32.toInt z1) + (Int32.toInt x5)) ∨ 1500 < (Int32.toInt z1) + (Int32.toInt x5))) ∨ (0 ≤ (Int32.toInt x1) ∧ (((Int32.toInt x5) ≤ (Int32.toInt x1) ∧ (Int32.toInt z14) = (Int32.toInt z1)) ∨ ((Int32.toInt x1) < (Int32.toInt x5) ∧ (Int32.toInt z1) + (Int32.toInt x5) - (Int32.toInt x1) ≤ 1500 ∧ (Int32.toInt z14) = (Int32.toInt z1) + (Int32.toInt x5) - (Int32.toInt x1)) ∨ 1500 < (Int32.toInt z1) + (Int32.toInt x5) - (Int32.toInt x1)))) := w16.2.2.1
  have p21 : HID (1500 < (Int32.toInt z1) + (Int32.toInt x5) ∨ f15 = cpy fn1 (Int.toNat (Int32.toInt z1)) fn0 (Int.toNat (Int32.toInt x1)) ((Int.toNat (Int32.toInt x5)) - (Int.toNat (Int32.toInt x1)))) := w16.2.2.2
  refine r_aload_n 22 0 C dX3_begin_22 rfl ?_
  refine r_get 23 C dX3_begin_23 (k := 1) 0 rfl rfl hiX3 (by decide) rfl (mg 3 rfl) (Or.inl rfl) rfl ?_
  refine r_iconst 26 0 C dX3_begin_26 (by decide) ?_
  refine r_callVv 27 C dX3_begin_27 [] [(h3, .inr (7, [.ref h2, .ref h8, .ref h11, .int x7, .int x8, .int x9])), (h8, .inl (gI g, 40, .inl fn2))] [(h0, .inr (3, [.ref h2, .ref h3, .ref h4, .ref h5, .int x0, .int x3, .int x4])), (h4, .inr (7, [.ref h2, .ref h9, .ref h12, .int x10, .int x11, .int x12])), (h5, .inr (7, [.ref h2, .ref h10, .ref h13, .int x13, .int x14, .int x15])), (h9, .inl (gI g, 200, .inl fn3)), (h10, .inl (gI g, 0, .inl fn4)), (h2, .inr (4, [.ref h7, .int z14])), (h1, .inr (4, [.ref h6, .int x5])), (h7, .inl (gB g, 1500, .inl f15)), (h6, .inl (gB g, 1500, .inl fn0))] (fun sz => c43_X8_lay l g h3 h8 0 h2 h11 x7 x8 x9 fn2  sz) gX3_begin_X8_lay rfl ⟨rfl, rfl⟩ 1 (by decide) ⟨Nat.le_of_ble_eq_true rfl, Nat.le_of_ble_eq_true rfl⟩ 1 rfl rfl [1, 4] [0, 2, 3, 5, 6, 7, 8, 9, 10] rfl rfl (by decide) (by decide) (by decide) rfl rfl (Nat.le_of_ble_eq_true rfl) ⟨Nat.le_of_ble_eq_true rfl, Nat.le_of_ble_eq_true rfl⟩ (fun  u25 w24 => ?_)
  obtain ⟨z22, f23⟩ := u25
  refine r_ws [(h0, .inr (3, [.ref h2, .ref h3, .ref h4, .ref h5, .int x0, .int x3, .int x4])), (h4, .inr (7, [.ref h2, .ref h9, .ref h12, .int x10, .int x11, .int x12])), (h5, .inr (7, [.ref h2, .ref h10, .ref h13, .int x13, .int x14, .int x15])), (h9, .inl (gI g, 200, .inl fn3)), (h10, .inl (gI g, 0, .inl fn4)), (h2, .inr (4, [.ref h7, .int z14])), (h1, .inr (4, [.ref h6, .int x5])), (h7, .inl (gB g, 1500, .inl f15)), (h6, .inl (gB g, 1500, .inl fn0)), (h3, .inr (7, [.ref h2, .ref h8, .ref h11, .int z22, .int x8, .int 0])), (h8, .inl (gI g, 40, .inl f23))] rfl ?_
  have gz22 := fb_rng z22
  have p26 : (((0 : Int) ≤ 0 ∧ (Int32.toInt z22) = 0) ∨ (0 < (0 : Int) ∧ (0 : Int) ≤ 40 ∧ (Int32.toInt z22) = (0 : Int)) ∨ (40 < (0 : Int) ∧ (Int32.toInt z22) = 40)) := w24.1
  have p27 : FILLED f23 (-1) (Int.toNat (Int32.toInt z22)) := w24.2.1
  have p28 : 0 = 0 := w24.2.2
  refine r_aload_n 30 0 C dX3_begin_30 rfl ?_
  refine r_get 31 C dX3_begin_31 (k := 2) 0 rfl rfl hiX3 (by decide) rfl (mg 4 rfl) (Or.inl rfl) rfl ?_
  refine r_iconst 34 0 C dX3_begin_34 (by decide) ?_
  refine r_callVv 35 C dX3_begin_35 [] [(h4, .inr (7, [.ref h2, .ref h9, .ref h12, .int x10, .int x11, .int x12])), (h9, .inl (gI g, 200, .inl fn3))] [(h0, .inr (3, [.ref h2, .ref h3, .ref h4, .ref h5, .int x0, .int x3, .int x4])), (h5, .inr (7, [.ref h2, .ref h10, .ref h13, .int x13, .int x14, .int x15])), (h10, .inl (gI g, 0, .inl fn4)), (h2, .inr (4, [.ref h7, .int z14])), (h1, .inr (4, [.ref h6, .int x5])), (h7, .inl (gB g, 1500, .inl f15)), (h6, .inl (gB g, 1500, .inl fn0)), (h3, .inr (7, [.ref h2, .ref h8, .ref h11, .int z22, .int x8, .int 0])), (h8, .inl (gI g, 40, .inl f23))] (fun sz => c46_X8_lay l g h4 h9 0 h2 h12 x10 x11 x12 fn3  sz) gX3_begin_X8_lay rfl ⟨rfl, rfl⟩ 1 (by decide) ⟨Nat.le_of_ble_eq_true rfl, Nat.le_of_ble_eq_true rfl⟩ 1 rfl rfl [1, 3] [0, 2, 4, 5, 6, 7, 8, 9, 10] rfl rfl (by decide) (by decide) (by decide) rfl rfl (Nat.le_of_ble_eq_true rfl) ⟨Nat.le_of_ble_eq_true rfl, Nat.le_of_ble_eq_true rfl⟩ (fun  u32 w31 => ?_)
  obtain ⟨z29, f30⟩ := u32
  refine r_ws [(h0, .inr (3, [.ref h2, .ref h3, .ref h4, .ref h5, .int x0, .int x3, .int x4])), (h5, .inr (7, [.ref h2, .ref h10, .ref h13, .int x13, .int x14, .int x15])), (h10, .inl (gI g, 0, .inl fn4)), (h2, .inr (4, [.ref h7, .int z14])), (h1, .inr (4, [.ref h6, .int x5])), (h7, .inl (gB g, 1500, .inl f15)), (h6, .inl (gB g, 1500, .inl fn0)), (h3, .inr (7, [.ref h2, .ref h8, .ref h11, .int z22, .int x8, .int 0])), (h8, .inl (gI g, 40, .inl f23)), (h4, .inr (7, [.ref h2, .ref h9, .ref h12, .int z29, .int x11, .int 0])), (h9, .inl (gI g, 200, .inl f30))] rfl ?_
  have gz29 := fb_rng z29
  have p33 : (((0 : Int) ≤ 0 ∧ (Int32.toInt z29) = 0) ∨ (0 < (0 : Int) ∧ (0 : Int) ≤ 200 ∧ (Int32.toInt z29) = (0 : Int)) ∨ (200 < (0 : Int) ∧ (Int32.toInt z29) = 200)) := w31.1
  have p34 : FILLED f30 (-1) (Int.toNat (Int32.toInt z29)) := w31.2.1
  have p35 : 0 = 0 := w31.2.2
  refine r_aload_n 38 0 C dX3_begin_38 rfl ?_
  refine r_get 39 C dX3_begin_39 (k := 3) 0 rfl rfl hiX3 (by decide) rfl (mg 5 rfl) (Or.inl rfl) rfl ?_
  refine r_iconst 42 0 C dX3_begin_42 (by decide) ?_
  refine r_callVv 43 C dX3_begin_43 [] [(h5, .inr (7, [.ref h2, .ref h10, .ref h13, .int x13, .int x14, .int x15])), (h10, .inl (gI g, 0, .inl fn4))] [(h0, .inr (3, [.ref h2, .ref h3, .ref h4, .ref h5, .int x0, .int x3, .int x4])), (h2, .inr (4, [.ref h7, .int z14])), (h1, .inr (4, [.ref h6, .int x5])), (h7, .inl (gB g, 1500, .inl f15)), (h6, .inl (gB g, 1500, .inl fn0)), (h3, .inr (7, [.ref h2, .ref h8, .ref h11, .int z22, .int x8, .int 0])), (h8, .inl (gI g, 40, .inl f23)), (h4, .inr (7, [.ref h2, .ref h9, .ref h12, .int z29, .int x11, .int 0])), (h9, .inl (gI g, 200, .inl f30))] (fun sz => c49_X8_lay l g h5 h10 0 h2 h13 x13 x14 x15 fn4  sz) gX3_begin_X8_lay rfl ⟨rfl, rfl⟩ 1 (by decide) ⟨Nat.le_of_ble_eq_true rfl, Nat.le_of_ble_eq_true rfl⟩ 1 rfl rfl [1, 2] [0, 3, 4, 5, 6, 7, 8, 9, 10] rfl rfl (by decide) (by decide) (by decide) rfl rfl (Nat.le_of_ble_eq_true rfl) ⟨Nat.le_of_ble_eq_true rfl, Nat.le_of_ble_eq_true rfl⟩ (fun  z36 w37 => ?_)
  refine r_ws [(h0, .inr (3, [.ref h2, .ref h3, .ref h4, .ref h5, .int x0, .int x3, .int x4])), (h2, .inr (4, [.ref h7, .int z14])), (h1, .inr (4, [.ref h6, .int x5])), (h7, .inl (gB g, 1500, .inl f15)), (h6, .inl (gB g, 1500, .inl fn0)), (h3, .inr (7, [.ref h2, .ref h8, .ref h11, .int z22, .int x8, .int 0])), (h8, .inl (gI g, 40, .inl f23)), (h4, .inr (7, [.ref h2, .ref h9, .ref h12, .int z29, .int x11, .int 0])), (h9, .inl (gI g, 200, .inl f30)), (h5, .inr (7, [.ref h2, .ref h10, .ref h13, .int z36, .int x14, .int 0])), (h10, .inl (gI g, 0, .inl fn4))] rfl ?_
  have gz36 := fb_rng z36
  have p38 : (((0 : Int) ≤ 0 ∧ (Int32.toInt z36) = 0) ∨ (0 < (0 : Int) ∧ (0 : Int) ≤ 0 ∧ (Int32.toInt z36) = (0 : Int)) ∨ (0 < (0 : Int) ∧ (Int32.toInt z36) = 0)) := w37.1
  have p39 : FILLED fn4 (-1) (Int.toNat (Int32.toInt z36)) := w37.2.1
  have p40 : 0 = 0 := w37.2.2
  refine r_aload_n 46 0 C dX3_begin_46 rfl ?_
  refine r_iconst 47 0 C dX3_begin_47 (by decide) ?_
  refine r_put 48 C dX3_begin_48 (k := 5) 0 rfl rfl hiX3 tyX3 tyX3_ok nmX3 (by decide) rfl (mg 6 rfl) (Or.inl rfl) rfl rfl rfl rfl (Nat.le_of_ble_eq_true rfl) [(h0, .inr (3, [.ref h2, .ref h3, .ref h4, .ref h5, .int x0, .int 0, .int x4])), (h2, .inr (4, [.ref h7, .int z14])), (h1, .inr (4, [.ref h6, .int x5])), (h7, .inl (gB g, 1500, .inl f15)), (h6, .inl (gB g, 1500, .inl fn0)), (h3, .inr (7, [.ref h2, .ref h8, .ref h11, .int z22, .int x8, .int 0])), (h8, .inl (gI g, 40, .inl f23)), (h4, .inr (7, [.ref h2, .ref h9, .ref h12, .int z29, .int x11, .int 0])), (h9, .inl (gI g, 200, .inl f30)), (h5, .inr (7, [.ref h2, .ref h10, .ref h13, .int z36, .int x14, .int 0])), (h10, .inl (gI g, 0, .inl fn4))] rfl ?_
  refine r_aload_n 51 0 C dX3_begin_51 rfl ?_
  refine r_iconst 52 0 C dX3_begin_52 (by decide) ?_
  refine r_put 53 C dX3_begin_53 (k := 6) 0 rfl rfl hiX3 tyX3 tyX3_ok nmX3 (by decide) rfl (mg 7 rfl) (Or.inl rfl) rfl rfl rfl rfl (Nat.le_of_ble_eq_true rfl) [(h0, .inr (3, [.ref h2, .ref h3, .ref h4, .ref h5, .int x0, .int 0, .int 0])), (h2, .inr (4, [.ref h7, .int z14])), (h1, .inr (4, [.ref h6, .int x5])), (h7, .inl (gB g, 1500, .inl f15)), (h6, .inl (gB g, 1500, .inl fn0)), (h3, .inr (7, [.ref h2, .ref h8, .ref h11, .int z22, .int x8, .int 0])), (h8, .inl (gI g, 40, .inl f23)), (h4, .inr (7, [.ref h2, .ref h9, .ref h12, .int z29, .int x11, .int 0])), (h9, .inl (gI g, 200, .inl f30)), (h5, .inr (7, [.ref h2, .ref h10, .ref h13, .int z36, .int x14, .int 0])), (h10, .inl (gI g, 0, .inl fn4))] rfl ?_
  exact r_vret 56 Rt dX3_begin_56 (z14, z22, z29, z36, f15, f23, f30) (show 0 ≤ (Int32.toInt z14) ∧ (Int32.toInt z14) ≤ 1500 ∧ ((Int32.toInt z22) = 0 ∧ (Int32.toInt z29) = 0 ∧ (Int32.toInt z36) = 0) ∧ (¬ (0 ≤ (Int32.toInt x1)) ∨ ((Int32.toInt x1) ≤ (Int32.toInt x5) ∧ (Int32.toInt z14) = (Int32.toInt x5) - (Int32.toInt x1)) ∨ ((Int32.toInt x5) < (Int32.toInt x1) ∧ (Int32.toInt z14) = 0)) ∧ CND (0 ≤ (Int32.toInt x1) ∧ (Int32.toInt x1) ≤ (Int32.toInt x5)) (SHF f15 (Int32.toInt z14) fn0 (Int32.toInt x5) (Int32.toInt x1)) ∧ (0 = 0 ∧ 0 = 0 ∧ 0 = 0) from ⟨(show _ ∧ _ from ⟨p18, p19⟩).1, (show _ ∧ _ from ⟨p18, p19⟩).2, (by ((repeat' apply And.intro) <;> first | trivial | rfl | assumption | omega | decide | exact Or.inl rfl | exact Or.inr (Or.inl rfl) | exact Or.inr (Or.inr rfl))), (by ((repeat' apply And.intro) <;> first | trivial | rfl | assumption | omega | decide | exact Or.inl rfl | exact Or.inr (Or.inl rfl) | exact Or.inr (Or.inr rfl))), (by exact fun h_9 => shf_pf (p21.resolve_left (by omega)) (by omega) h_9.1 h_9.2 (by omega)), (by ((repeat' apply And.intro) <;> first | trivial | rfl | assumption | omega | decide | exact Or.inl rfl | exact Or.inr (Or.inl rfl) | exact Or.inr (Or.inr rfl)))⟩) [0, 2, 1, 5, 7, 9, 4, 3, 6, 8, 10] (by decide) rfl (Nat.le_of_ble_eq_true rfl) (Nat.le_of_ble_eq_true rfl)
set_option maxHeartbeats 4000000 in
set_option maxRecDepth 100000 in
theorem c51_X1_wrong (l : Launch) (g : GD) (h0 : Nat) (x0 : Int32) (h1 : Nat) (h2 : Nat) (h3 : Nat) (x1 : Int32) (y0 : Int64) (y1 : Int64) (x2 : Int32) (x3 : Int32) (y2 : Int64) (y3 : Int64) (i_x0 : (1 ≤ (Int32.toInt x0) ∧ (Int32.toInt x0) ≤ 2)) (i_x1 : (0 ≤ (Int32.toInt x1) ∧ (Int32.toInt x1) ≤ 2)) (i_y0 : (-8589934592 ≤ (Int64.toInt y0) ∧ (Int64.toInt y0) ≤ 8589934592)) (i_x2 : (-257 ≤ (Int32.toInt x2) ∧ (Int32.toInt x2) ≤ 65535)) (i_x3 : (-1 ≤ (Int32.toInt x3) ∧ (Int32.toInt x3) ≤ 255)) (i_y2 : (-8589934592 ≤ (Int64.toInt y2) ∧ (Int64.toInt y2) ≤ 8589934592)) (i_y3 : (-8589934592 ≤ (Int64.toInt y3) ∧ (Int64.toInt y3) ≤ 8589934592)) (sz : Nat) : Met l yX1_wrong wsX1_wrong ({ frames := 0, cells := 0, slots := 0, locals := 0 }) (va_Pc [.ref h0, .int x0] (PW g [(h0, .inr (1, [.ref h1, .ref h2, .ref h3, .int x1, .long y0, .long y1, .int x2, .int x3, .long y2, .long y3]))] sz)) (va_Qv (fun (u : (Int32)) => 0 ≤ (Int32.toInt u) ∧ (Int32.toInt u) ≤ 2 ∧ ¬ ((Int32.toInt u) = 0)) (BW g (va_A [(h0, .inr (1, [.ref h1, .ref h2, .ref h3, .int x1, .long y0, .long y1, .int x2, .int x3, .long y2, .long y3]))] sz) (fun u : (Int32) => [(h0, .inr (1, [.ref h1, .ref h2, .ref h3, .int u, .long y0, .long y1, .int x2, .int x3, .long y2, .long y3]))])) (va_A [(h0, .inr (1, [.ref h1, .ref h2, .ref h3, .int x1, .long y0, .long y1, .int x2, .int x3, .long y2, .long y3]))] sz)) 0 0 (va_A [(h0, .inr (1, [.ref h1, .ref h2, .ref h3, .int x1, .long y0, .long y1, .int x2, .int x3, .long y2, .long y3]))] sz) := by
  refine met_v RX1 (by decide) rfl rfl (Nat.le_of_ble_eq_true rfl) [(0, .ref h0), (1, .int x0)] rfl ?_
  intro p e s m args below meth c A Q C hnm Rt
  have hiX1 : ∀ w ∈ wsX10, w ∈ wsX1_wrong := fun w h => List.mem_cons_of_mem _ (List.mem_append_right _ (h))
  refine r_aload_n 0 0 C dX1_wrong_0 rfl ?_
  refine r_get 1 C dX1_wrong_1 (k := 3) 0 rfl rfl hiX1 (by decide) rfl (mg 1 rfl) (Or.inl rfl) rfl ?_
  refine r_if_ne 4 12 C dX1_wrong_4 (by decide) (fun c1 => ?_) (fun c1 => ?_)
  · skip
    have k2 : ¬ ((Int32.toInt x1) = 0) := fun h_9 => c1 ((fa_eq x1 0).mpr h_9)
    exact r_vret 12 Rt dX1_wrong_12 x1 (show 0 ≤ (Int32.toInt x1) ∧ (Int32.toInt x1) ≤ 2 ∧ ¬ ((Int32.toInt x1) = 0) from ⟨i_x1.1, i_x1.2, (by omega)⟩) [0] (by decide) rfl (Nat.le_of_ble_eq_true rfl) (Nat.le_of_ble_eq_true rfl)
  · skip
    have k3 : (Int32.toInt x1) = 0 := (fa_eq x1 0).mp c1
    refine r_aload_n 7 0 C dX1_wrong_7 rfl ?_
    refine r_iload_n 8 1 C dX1_wrong_8 rfl ?_
    refine r_put 9 C dX1_wrong_9 (k := 3) 0 rfl rfl hiX1 tyX1 tyX1_ok nmX1 (by decide) rfl (mg 1 rfl) (Or.inl rfl) rfl rfl rfl rfl (Nat.le_of_ble_eq_true rfl) [(h0, .inr (1, [.ref h1, .ref h2, .ref h3, .int x0, .long y0, .long y1, .int x2, .int x3, .long y2, .long y3]))] rfl ?_
    exact r_vret 12 Rt dX1_wrong_12 x0 (show 0 ≤ (Int32.toInt x0) ∧ (Int32.toInt x0) ≤ 2 ∧ ¬ ((Int32.toInt x0) = 0) from ⟨(iv_wide (c := 0) (d := 2) i_x0 (by decide) (by decide)).1, (iv_wide (c := 0) (d := 2) i_x0 (by decide) (by decide)).2, (by omega)⟩) [0] (by decide) rfl (Nat.le_of_ble_eq_true rfl) (Nat.le_of_ble_eq_true rfl)
set_option maxHeartbeats 4000000 in
set_option maxRecDepth 100000 in
theorem c52_X1_take (l : Launch) (g : GD) (h0 : Nat) (h1 : Nat) (h2 : Nat) (h3 : Nat) (h4 : Nat) (x0 : Int32) (y0 : Int64) (y1 : Int64) (x1 : Int32) (x2 : Int32) (y2 : Int64) (y3 : Int64) (x3 : Int32) (fn0 : Nat → Int32) (i_x0 : (0 ≤ (Int32.toInt x0) ∧ (Int32.toInt x0) ≤ 2)) (i_y0 : (-8589934592 ≤ (Int64.toInt y0) ∧ (Int64.toInt y0) ≤ 8589934592)) (i_x1 : (-257 ≤ (Int32.toInt x1) ∧ (Int32.toInt x1) ≤ 65535)) (i_x2 : (-1 ≤ (Int32.toInt x2) ∧ (Int32.toInt x2) ≤ 255)) (i_y2 : (-8589934592 ≤ (Int64.toInt y2) ∧ (Int64.toInt y2) ≤ 8589934592)) (i_y3 : (-8589934592 ≤ (Int64.toInt y3) ∧ (Int64.toInt y3) ≤ 8589934592)) (i_x3 : (0 ≤ (Int32.toInt x3) ∧ (Int32.toInt x3) ≤ 1500)) (sz : Nat) : Met l yX1_take wsX1_take ({ frames := 1, cells := 0, slots := 0, locals := 22 }) (va_Pc [.ref h0] (PW g [(h0, .inr (1, [.ref h3, .ref h4, .ref h1, .int x0, .long y0, .long y1, .int x1, .int x2, .long y2, .long y3])), (h1, .inr (4, [.ref h2, .int x3])), (h2, .inl (gB g, 1500, .inl fn0))] sz)) (va_Qi (fun (r : Int32) (u : (Int32) × (Int64)) => -1 ≤ (Int32.toInt r) ∧ (Int32.toInt r) ≤ 255 ∧ 0 ≤ (Int32.toInt (u.1)) ∧ (Int32.toInt (u.1)) ≤ 2 ∧ -8589934592 ≤ (Int64.toInt (u.2)) ∧ (Int64.toInt (u.2)) ≤ 8589934592 ∧ SEQ (Int32.toInt x0) (Int32.toInt (u.1)) (BYT (GB fn0 (Int32.toInt x3)) (Int32.toInt x3) (Int64.toInt y1) (Int64.toInt y0)) (fun v => v = (Int32.toInt r) ∧ (Int64.toInt (u.2)) = (Int64.toInt y0) + 1) ∧ (((Int32.toInt r) = -1 ∧ 1 ≤ (Int32.toInt (u.1)) ∧ (Int64.toInt (u.2)) = (Int64.toInt y0)) ∨ ((Int32.toInt x0) = 0 ∧ (Int32.toInt (u.1)) = 0 ∧ 0 ≤ (Int64.toInt y0) ∧ (Int64.toInt y0) < (Int32.toInt x3) ∧ (Int64.toInt y0) < (Int64.toInt y1) ∧ (Int64.toInt (u.2)) = (Int64.toInt y0) + 1 ∧ 0 ≤ (Int32.toInt r)))) (BW g (va_A [(h0, .inr (1, [.ref h3, .ref h4, .ref h1, .int x0, .long y0, .long y1, .int x1, .int x2, .long y2, .long y3])), (h1, .inr (4, [.ref h2, .int x3])), (h2, .inl (gB g, 1500, .inl fn0))] sz) (fun u : (Int32) × (Int64) => [(h0, .inr (1, [.ref h3, .ref h4, .ref h1, .int u.1, .long u.2, .long y1, .int x1, .int x2, .long y2, .long y3])), (h1, .inr (4, [.ref h2, .int x3])), (h2, .inl (gB g, 1500, .inl fn0))])) (va_A [(h0, .inr (1, [.ref h3, .ref h4, .ref h1, .int x0, .long y0, .long y1, .int x1, .int x2, .long y2, .long y3])), (h1, .inr (4, [.ref h2, .int x3])), (h2, .inl (gB g, 1500, .inl fn0))] sz)) 0 0 (va_A [(h0, .inr (1, [.ref h3, .ref h4, .ref h1, .int x0, .long y0, .long y1, .int x1, .int x2, .long y2, .long y3])), (h1, .inr (4, [.ref h2, .int x3])), (h2, .inl (gB g, 1500, .inl fn0))] sz) := by
  refine met_i RX1 (by decide) rfl rfl (Nat.le_of_ble_eq_true rfl) [(0, .ref h0)] rfl ?_
  intro p e s m args below meth c A Q C hnm Rt
  have gy1 := fb_rngL y1
  have hiX1 : ∀ w ∈ wsX10, w ∈ wsX1_take := fun w h => List.mem_cons_of_mem _ (List.mem_append_left _ (List.mem_append_right _ (h)))
  refine r_aload_n 0 0 C dX1_take_0 rfl ?_
  refine r_get 1 C dX1_take_1 (k := 4) 0 rfl rfl hiX1 (by decide) rfl (mg 1 rfl) (Or.inl rfl) rfl ?_
  refine r_lconst 4 0 C dX1_take_4 (by decide) ?_
  obtain ⟨z1, ez1⟩ : ∃ z_9, lg_cmp y0 0 = z_9 := ⟨_, rfl⟩
  have l1z1 : (Int32.toInt z1) < 0 ↔ (Int64.toInt y0) < 0 := by rw [← ez1]; exact lgI1 y0 0
  have l2z1 : 0 < (Int32.toInt z1) ↔ 0 < (Int64.toInt y0) := by rw [← ez1]; exact lgI2 y0 0
  refine r_lcmp 5 z1 C dX1_take_5 ez1 ?_
  refine r_if_lt 6 25 C dX1_take_6 (by decide) (fun c2 => ?_) (fun c2 => ?_)
  · skip
    have k3 : (Int32.toInt z1) < 0 := (fa_lt z1 0).mp c2
    refine r_aload_n 25 0 C dX1_take_25 rfl ?_
    refine r_iconst 26 1 C dX1_take_26 (by decide) ?_
    refine r_callVv 27 C dX1_take_27 [] [(h0, .inr (1, [.ref h3, .ref h4, .ref h1, .int x0, .long y0, .long y1, .int x1, .int x2, .long y2, .long y3]))] [(h1, .inr (4, [.ref h2, .int x3])), (h2, .inl (gB g, 1500, .inl fn0))] (fun sz => c51_X1_wrong l g h0 1 h3 h4 h1 x0 y0 y1 x1 x2 y2 y3 (by decide) i_x0 i_y0 i_x1 i_x2 i_y2 i_y3 sz) gX1_take_X1_wrong rfl ⟨rfl, rfl⟩ 1 (by decide) ⟨Nat.le_of_ble_eq_true rfl, Nat.le_of_ble_eq_true rfl⟩ 0 rfl rfl [0] [1, 2] rfl rfl (by decide) (by decide) (by decide) rfl rfl (Nat.le_of_ble_eq_true rfl) ⟨Nat.le_of_ble_eq_true rfl, Nat.le_of_ble_eq_true rfl⟩ (fun  z4 w5 => ?_)
    refine r_ws [(h1, .inr (4, [.ref h2, .int x3])), (h2, .inl (gB g, 1500, .inl fn0)), (h0, .inr (1, [.ref h3, .ref h4, .ref h1, .int z4, .long y0, .long y1, .int x1, .int x2, .long y2, .long y3]))] rfl ?_
    have p6 : 0 ≤ (Int32.toInt z4) := w5.1
    have p7 : (Int32.toInt z4) ≤ 2 := w5.2.1
    have p8 : ¬ ((Int32.toInt z4) = 0) := w5.2.2
    refine r_goto 30 50 C dX1_take_30 (by decide) ?_
    refine r_aload_n 50 0 C dX1_take_50 rfl ?_
    refine r_get 51 C dX1_take_51 (k := 3) 2 rfl rfl hiX1 (by decide) rfl (mg 4 rfl) (Or.inl rfl) rfl ?_
    refine r_if_eq 54 59 C dX1_take_54 (by decide) (fun c9 => ?_) (fun c9 => ?_)
    · skip
      have k10 : (Int32.toInt z4) = 0 := (fa_eq z4 0).mp c9
      refine r_aload_n 59 0 C dX1_take_59 rfl ?_
      refine r_get 60 C dX1_take_60 (k := 2) 2 rfl rfl hiX1 (by decide) rfl (mg 2 rfl) (Or.inl rfl) rfl ?_
      refine r_aload_n 63 0 C dX1_take_63 rfl ?_
      refine r_get 64 C dX1_take_64 (k := 4) 2 rfl rfl hiX1 (by decide) rfl (mg 1 rfl) (Or.inl rfl) rfl ?_
      refine r_callVi 67 C dX1_take_67 [] [(h1, .inr (4, [.ref h2, .int x3])), (h2, .inl (gB g, 1500, .inl fn0))] [(h0, .inr (1, [.ref h3, .ref h4, .ref h1, .int z4, .long y0, .long y1, .int x1, .int x2, .long y2, .long y3]))] (fun sz => c14_X5_get l g h1 h2 y0 x3 fn0 i_x3 sz) gX1_take_X5_get rfl ⟨rfl, rfl⟩ 1 (by decide) ⟨Nat.le_of_ble_eq_true rfl, Nat.le_of_ble_eq_true rfl⟩ 0 rfl rfl [0, 1] [2] rfl rfl (by decide) (by decide) (by decide) rfl rfl (Nat.le_of_ble_eq_true rfl) ⟨Nat.le_of_ble_eq_true rfl, Nat.le_of_ble_eq_true rfl⟩ (fun r11 _ w12 => ?_)
      refine r_ws [(h0, .inr (1, [.ref h3, .ref h4, .ref h1, .int z4, .long y0, .long y1, .int x1, .int x2, .long y2, .long y3])), (h1, .inr (4, [.ref h2, .int x3])), (h2, .inl (gB g, 1500, .inl fn0))] rfl ?_
      have p13 : -1 ≤ (Int32.toInt r11) := w12.1
      have p14 : (Int32.toInt r11) ≤ 255 := w12.2.1
      have p15 : HID ((0 ≤ (Int64.toInt y0) ∧ (Int64.toInt y0) < (Int32.toInt x3) ∧ r11 = (fn0 (Int.toNat (Int64.toInt y0)) &&& 255)) ∨ (((Int64.toInt y0) < 0 ∨ (Int32.toInt x3) ≤ (Int64.toInt y0)) ∧ r11 = -1)) := w12.2.2.1
      have p16 : (Int32.toInt r11) = GB fn0 (Int32.toInt x3) (Int64.toInt y0) := w12.2.2.2
      refine r_istore_n 70 C dX1_take_70 [(1, .int r11), (0, .ref h0)] (by decide) rfl ?_
      refine r_aload_n 71 1 C dX1_take_71 rfl ?_
      refine r_dup 72 C dX1_take_72 rfl ?_
      refine r_get 73 C dX1_take_73 (k := 4) 0 rfl rfl hiX1 (by decide) rfl (mg 1 rfl) (Or.inl rfl) rfl ?_
      refine r_lconst 76 1 C dX1_take_76 (by decide) ?_
      obtain ⟨z17, ez17⟩ : ∃ z_9, y0 + 1 = z_9 := ⟨_, rfl⟩
      have tz17 : (Int64.toInt z17) = (Int64.toInt y0) + 1 := by rw [← ez17]; exact fb_addLv (a := (-8589934592)) (b := 8589934592) (c := 1) (d := 1) i_y0 ⟨by decide, by decide⟩ (by decide) (by decide)
      refine r_ladd 77 z17 C dX1_take_77 ez17 ?_
      refine r_put 78 C dX1_take_78 (k := 4) 0 rfl rfl hiX1 tyX1 tyX1_ok nmX1 (by decide) rfl (mg 1 rfl) (Or.inl rfl) rfl rfl rfl rfl (Nat.le_of_ble_eq_true rfl) [(h0, .inr (1, [.ref h3, .ref h4, .ref h1, .int z4, .long z17, .long y1, .int x1, .int x2, .long y2, .long y3])), (h1, .inr (4, [.ref h2, .int x3])), (h2, .inl (gB g, 1500, .inl fn0))] rfl ?_
      refine r_iload_n 81 0 C dX1_take_81 rfl ?_
      exact r_iret 82 Rt dX1_take_82 (z4, z17) (show -1 ≤ (Int32.toInt r11) ∧ (Int32.toInt r11) ≤ 255 ∧ 0 ≤ (Int32.toInt z4) ∧ (Int32.toInt z4) ≤ 2 ∧ -8589934592 ≤ (Int64.toInt z17) ∧ (Int64.toInt z17) ≤ 8589934592 ∧ SEQ (Int32.toInt x0) (Int32.toInt z4) (BYT (GB fn0 (Int32.toInt x3)) (Int32.toInt x3) (Int64.toInt y1) (Int64.toInt y0)) (fun v => v = (Int32.toInt r11) ∧ (Int64.toInt z17) = (Int64.toInt y0) + 1) ∧ (((Int32.toInt r11) = -1 ∧ 1 ≤ (Int32.toInt z4) ∧ (Int64.toInt z17) = (Int64.toInt y0)) ∨ ((Int32.toInt x0) = 0 ∧ (Int32.toInt z4) = 0 ∧ 0 ≤ (Int64.toInt y0) ∧ (Int64.toInt y0) < (Int32.toInt x3) ∧ (Int64.toInt y0) < (Int64.toInt y1) ∧ (Int64.toInt z17) = (Int64.toInt y0) + 1 ∧ 0 ≤ (Int32.toInt r11))) from ⟨(show _ ∧ _ from ⟨p13, p14⟩).1, (show _ ∧ _ from ⟨p13, p14⟩).2, (show _ ∧ _ from ⟨p6, p7⟩).1, (show _ ∧ _ from ⟨p6, p7⟩).2, (by ((repeat' apply And.intro) <;> first | trivial | rfl | assumption | omega | decide | exact Or.inl rfl | exact Or.inr (Or.inl rfl) | exact Or.inr (Or.inr rfl))), (by ((repeat' apply And.intro) <;> first | trivial | rfl | assumption | omega | decide | exact Or.inl rfl | exact Or.inr (Or.inl rfl) | exact Or.inr (Or.inr rfl))), (by by_cases h_8 : (Int32.toInt x0) = 0; (first | exact seq_ok _ h_8 (by omega) (byt_ok ⟨by omega, by omega, by omega⟩) ⟨by omega, by omega⟩ | exact seq_no h_8 (by omega) (byt_no (by omega))); exact seq_old h_8 (by omega)), (by first | omega | (have h_9 := gb_pos (f := fn0) (n := (Int32.toInt x3)) (i := (Int64.toInt y0)) (by omega) (by omega); omega))⟩) [0, 1, 2] (by decide) rfl (Nat.le_of_ble_eq_true rfl) (Nat.le_of_ble_eq_true rfl)
    · skip
      have k18 : ¬ ((Int32.toInt z4) = 0) := fun h_9 => c9 ((fa_eq z4 0).mpr h_9)
      refine r_iconst 57 (-1) C dX1_take_57 (by decide) ?_
      exact r_iret 58 Rt dX1_take_58 (z4, y0) (show -1 ≤ (Int32.toInt (-1)) ∧ (Int32.toInt (-1)) ≤ 255 ∧ 0 ≤ (Int32.toInt z4) ∧ (Int32.toInt z4) ≤ 2 ∧ -8589934592 ≤ (Int64.toInt y0) ∧ (Int64.toInt y0) ≤ 8589934592 ∧ SEQ (Int32.toInt x0) (Int32.toInt z4) (BYT (GB fn0 (Int32.toInt x3)) (Int32.toInt x3) (Int64.toInt y1) (Int64.toInt y0)) (fun v => v = (-1) ∧ (Int64.toInt y0) = (Int64.toInt y0) + 1) ∧ (((-1) = -1 ∧ 1 ≤ (Int32.toInt z4) ∧ (Int64.toInt y0) = (Int64.toInt y0)) ∨ ((Int32.toInt x0) = 0 ∧ (Int32.toInt z4) = 0 ∧ 0 ≤ (Int64.toInt y0) ∧ (Int64.toInt y0) < (Int32.toInt x3) ∧ (Int64.toInt y0) < (Int64.toInt y1) ∧ (Int64.toInt y0) = (Int64.toInt y0) + 1 ∧ 0 ≤ (-1))) from ⟨(by ((repeat' apply And.intro) <;> first | trivial | rfl | assumption | omega | decide | exact Or.inl rfl | exact Or.inr (Or.inl rfl) | exact Or.inr (Or.inr rfl))), (by ((repeat' apply And.intro) <;> first | trivial | rfl | assumption | omega | decide | exact Or.inl rfl | exact Or.inr (Or.inl rfl) | exact Or.inr (Or.inr rfl))), (show _ ∧ _ from ⟨p6, p7⟩).1, (show _ ∧ _ from ⟨p6, p7⟩).2, i_y0.1, i_y0.2, (by by_cases h_8 : (Int32.toInt x0) = 0; (first | exact seq_ok _ h_8 (by omega) (byt_ok ⟨by omega, by omega, by omega⟩) ⟨by omega, by omega⟩ | exact seq_no h_8 (by omega) (byt_no (by omega))); exact seq_old h_8 (by omega)), (by first | omega | (have h_9 := gb_pos (f := fn0) (n := (Int32.toInt x3)) (i := (Int64.toInt y0)) (by omega) (by omega); omega))⟩) [2, 0, 1] (by decide) rfl (Nat.le_of_ble_eq_true rfl) (Nat.le_of_ble_eq_true rfl)
  · skip
    have k19 : ¬ ((Int32.toInt z1) < 0) := fun h_9 => c2 ((fa_lt z1 0).mpr h_9)
    refine r_aload_n 9 0 C dX1_take_9 rfl ?_
    refine r_get 10 C dX1_take_10 (k := 4) 0 rfl rfl hiX1 (by decide) rfl (mg 1 rfl) (Or.inl rfl) rfl ?_
    refine r_aload_n 13 0 C dX1_take_13 rfl ?_
    refine r_get 14 C dX1_take_14 (k := 2) 0 rfl rfl hiX1 (by decide) rfl (mg 2 rfl) (Or.inl rfl) rfl ?_
    refine r_callVi 17 C dX1_take_17 [.long y0] [(h1, .inr (4, [.ref h2, .int x3]))] [(h0, .inr (1, [.ref h3, .ref h4, .ref h1, .int x0, .long y0, .long y1, .int x1, .int x2, .long y2, .long y3])), (h2, .inl (gB g, 1500, .inl fn0))] (fun sz => c0_X5_size l g h1 h2 x3 i_x3 sz) gX1_take_X5_size rfl ⟨rfl, rfl⟩ 0 (by decide) ⟨Nat.le_of_ble_eq_true rfl, Nat.le_of_ble_eq_true rfl⟩ 1 rfl rfl [1] [0, 2] rfl rfl (by decide) (by decide) (by decide) rfl rfl (Nat.le_of_ble_eq_true rfl) ⟨Nat.le_of_ble_eq_true rfl, Nat.le_of_ble_eq_true rfl⟩ (fun r20 _ w21 => ?_)
    refine r_ws [(h0, .inr (1, [.ref h3, .ref h4, .ref h1, .int x0, .long y0, .long y1, .int x1, .int x2, .long y2, .long y3])), (h2, .inl (gB g, 1500, .inl fn0)), (h1, .inr (4, [.ref h2, .int x3]))] rfl ?_
    have p22 : x3 = r20 := (w21).symm
    subst p22
    obtain ⟨z23, ez23⟩ : ∃ z_9, Int32.toInt64 x3 = z_9 := ⟨_, rfl⟩
    have tz23 : (Int64.toInt z23) = (Int32.toInt x3) := by rw [← ez23]; exact Int32.toInt_toInt64 _
    refine r_i2l 20 z23 C dX1_take_20 ez23 ?_
    obtain ⟨z24, ez24⟩ : ∃ z_9, lg_cmp y0 z23 = z_9 := ⟨_, rfl⟩
    have l1z24 : (Int32.toInt z24) < 0 ↔ (Int64.toInt y0) < (Int64.toInt z23) := by rw [← ez24]; exact lgI1 y0 z23
    have l2z24 : 0 < (Int32.toInt z24) ↔ (Int64.toInt z23) < (Int64.toInt y0) := by rw [← ez24]; exact lgI2 y0 z23
    refine r_lcmp 21 z24 C dX1_take_21 ez24 ?_
    refine r_if_lt 22 33 C dX1_take_22 (by decide) (fun c25 => ?_) (fun c25 => ?_)
    · skip
      have k26 : (Int32.toInt z24) < 0 := (fa_lt z24 0).mp c25
      refine r_aload_n 33 0 C dX1_take_33 rfl ?_
      refine r_get 34 C dX1_take_34 (k := 4) 0 rfl rfl hiX1 (by decide) rfl (mg 1 rfl) (Or.inl rfl) rfl ?_
      refine r_aload_n 37 0 C dX1_take_37 rfl ?_
      refine r_get 38 C dX1_take_38 (k := 5) 0 rfl rfl hiX1 (by decide) rfl (mg 3 rfl) (Or.inl rfl) rfl ?_
      obtain ⟨z27, ez27⟩ : ∃ z_9, lg_cmp y0 y1 = z_9 := ⟨_, rfl⟩
      have l1z27 : (Int32.toInt z27) < 0 ↔ (Int64.toInt y0) < (Int64.toInt y1) := by rw [← ez27]; exact lgI1 y0 y1
      have l2z27 : 0 < (Int32.toInt z27) ↔ (Int64.toInt y1) < (Int64.toInt y0) := by rw [← ez27]; exact lgI2 y0 y1
      refine r_lcmp 41 z27 C dX1_take_41 ez27 ?_
      refine r_if_lt 42 50 C dX1_take_42 (by decide) (fun c28 => ?_) (fun c28 => ?_)
      · skip
        have k29 : (Int32.toInt z27) < 0 := (fa_lt z27 0).mp c28
        refine r_aload_n 50 0 C dX1_take_50 rfl ?_
        refine r_get 51 C dX1_take_51 (k := 3) 0 rfl rfl hiX1 (by decide) rfl (mg 4 rfl) (Or.inl rfl) rfl ?_
        refine r_if_eq 54 59 C dX1_take_54 (by decide) (fun c30 => ?_) (fun c30 => ?_)
        · skip
          have k31 : (Int32.toInt x0) = 0 := (fa_eq x0 0).mp c30
          refine r_aload_n 59 0 C dX1_take_59 rfl ?_
          refine r_get 60 C dX1_take_60 (k := 2) 0 rfl rfl hiX1 (by decide) rfl (mg 2 rfl) (Or.inl rfl) rfl ?_
          refine r_aload_n 63 0 C dX1_take_63 rfl ?_
          refine r_get 64 C dX1_take_64 (k := 4) 0 rfl rfl hiX1 (by decide) rfl (mg 1 rfl) (Or.inl rfl) rfl ?_
          refine r_callVi 67 C dX1_take_67 [] [(h1, .inr (4, [.ref h2, .int x3])), (h2, .inl (gB g, 1500, .inl fn0))] [(h0, .inr (1, [.ref h3, .ref h4, .ref h1, .int x0, .long y0, .long y1, .int x1, .int x2, .long y2, .long y3]))] (fun sz => c14_X5_get l g h1 h2 y0 x3 fn0 i_x3 sz) gX1_take_X5_get rfl ⟨rfl, rfl⟩ 1 (by decide) ⟨Nat.le_of_ble_eq_true rfl, Nat.le_of_ble_eq_true rfl⟩ 2 rfl rfl [2, 1] [0] rfl rfl (by decide) (by decide) (by decide) rfl rfl (Nat.le_of_ble_eq_true rfl) ⟨Nat.le_of_ble_eq_true rfl, Nat.le_of_ble_eq_true rfl⟩ (fun r32 _ w33 => ?_)
          refine r_ws [(h0, .inr (1, [.ref h3, .ref h4, .ref h1, .int x0, .long y0, .long y1, .int x1, .int x2, .long y2, .long y3])), (h1, .inr (4, [.ref h2, .int x3])), (h2, .inl (gB g, 1500, .inl fn0))] rfl ?_
          have p34 : -1 ≤ (Int32.toInt r32) := w33.1
          have p35 : (Int32.toInt r32) ≤ 255 := w33.2.1
          have p36 : HID ((0 ≤ (Int64.toInt y0) ∧ (Int64.toInt y0) < (Int32.toInt x3) ∧ r32 = (fn0 (Int.toNat (Int64.toInt y0)) &&& 255)) ∨ (((Int64.toInt y0) < 0 ∨ (Int32.toInt x3) ≤ (Int64.toInt y0)) ∧ r32 = -1)) := w33.2.2.1
          have p37 : (Int32.toInt r32) = GB fn0 (Int32.toInt x3) (Int64.toInt y0) := w33.2.2.2
          refine r_istore_n 70 C dX1_take_70 [(1, .int r32), (0, .ref h0)] (by decide) rfl ?_
          refine r_aload_n 71 1 C dX1_take_71 rfl ?_
          refine r_dup 72 C dX1_take_72 rfl ?_
          refine r_get 73 C dX1_take_73 (k := 4) 0 rfl rfl hiX1 (by decide) rfl (mg 1 rfl) (Or.inl rfl) rfl ?_
          refine r_lconst 76 1 C dX1_take_76 (by decide) ?_
          obtain ⟨z38, ez38⟩ : ∃ z_9, y0 + 1 = z_9 := ⟨_, rfl⟩
          have tz38 : (Int64.toInt z38) = (Int64.toInt y0) + 1 := by rw [← ez38]; exact fb_addLv (a := (-8589934592)) (b := 8589934592) (c := 1) (d := 1) i_y0 ⟨by decide, by decide⟩ (by decide) (by decide)
          refine r_ladd 77 z38 C dX1_take_77 ez38 ?_
          refine r_put 78 C dX1_take_78 (k := 4) 0 rfl rfl hiX1 tyX1 tyX1_ok nmX1 (by decide) rfl (mg 1 rfl) (Or.inl rfl) rfl rfl rfl rfl (Nat.le_of_ble_eq_true rfl) [(h0, .inr (1, [.ref h3, .ref h4, .ref h1, .int x0, .long z38, .long y1, .int x1, .int x2, .long y2, .long y3])), (h1, .inr (4, [.ref h2, .int x3])), (h2, .inl (gB g, 1500, .inl fn0))] rfl ?_
          refine r_iload_n 81 0 C dX1_take_81 rfl ?_
          exact r_iret 82 Rt dX1_take_82 (x0, z38) (show -1 ≤ (Int32.toInt r32) ∧ (Int32.toInt r32) ≤ 255 ∧ 0 ≤ (Int32.toInt x0) ∧ (Int32.toInt x0) ≤ 2 ∧ -8589934592 ≤ (Int64.toInt z38) ∧ (Int64.toInt z38) ≤ 8589934592 ∧ SEQ (Int32.toInt x0) (Int32.toInt x0) (BYT (GB fn0 (Int32.toInt x3)) (Int32.toInt x3) (Int64.toInt y1) (Int64.toInt y0)) (fun v => v = (Int32.toInt r32) ∧ (Int64.toInt z38) = (Int64.toInt y0) + 1) ∧ (((Int32.toInt r32) = -1 ∧ 1 ≤ (Int32.toInt x0) ∧ (Int64.toInt z38) = (Int64.toInt y0)) ∨ ((Int32.toInt x0) = 0 ∧ (Int32.toInt x0) = 0 ∧ 0 ≤ (Int64.toInt y0) ∧ (Int64.toInt y0) < (Int32.toInt x3) ∧ (Int64.toInt y0) < (Int64.toInt y1) ∧ (Int64.toInt z38) = (Int64.toInt y0) + 1 ∧ 0 ≤ (Int32.toInt r32))) from ⟨(show _ ∧ _ from ⟨p34, p35⟩).1, (show _ ∧ _ from ⟨p34, p35⟩).2, i_x0.1, i_x0.2, (by ((repeat' apply And.intro) <;> first | trivial | rfl | assumption | omega | decide | exact Or.inl rfl | exact Or.inr (Or.inl rfl) | exact Or.inr (Or.inr rfl))), (by ((repeat' apply And.intro) <;> first | trivial | rfl | assumption | omega | decide | exact Or.inl rfl | exact Or.inr (Or.inl rfl) | exact Or.inr (Or.inr rfl))), (by by_cases h_8 : (Int32.toInt x0) = 0; (first | exact seq_ok _ h_8 (by omega) (byt_ok ⟨by omega, by omega, by omega⟩) ⟨by omega, by omega⟩ | exact seq_no h_8 (by omega) (byt_no (by omega))); exact seq_old h_8 (by omega)), (by first | omega | (have h_9 := gb_pos (f := fn0) (n := (Int32.toInt x3)) (i := (Int64.toInt y0)) (by omega) (by omega); omega))⟩) [0, 1, 2] (by decide) rfl (Nat.le_of_ble_eq_true rfl) (Nat.le_of_ble_eq_true rfl)
        · skip
          have k39 : ¬ ((Int32.toInt x0) = 0) := fun h_9 => c30 ((fa_eq x0 0).mpr h_9)
          refine r_iconst 57 (-1) C dX1_take_57 (by decide) ?_
          exact r_iret 58 Rt dX1_take_58 (x0, y0) (show -1 ≤ (Int32.toInt (-1)) ∧ (Int32.toInt (-1)) ≤ 255 ∧ 0 ≤ (Int32.toInt x0) ∧ (Int32.toInt x0) ≤ 2 ∧ -8589934592 ≤ (Int64.toInt y0) ∧ (Int64.toInt y0) ≤ 8589934592 ∧ SEQ (Int32.toInt x0) (Int32.toInt x0) (BYT (GB fn0 (Int32.toInt x3)) (Int32.toInt x3) (Int64.toInt y1) (Int64.toInt y0)) (fun v => v = (-1) ∧ (Int64.toInt y0) = (Int64.toInt y0) + 1) ∧ (((-1) = -1 ∧ 1 ≤ (Int32.toInt x0) ∧ (Int64.toInt y0) = (Int64.toInt y0)) ∨ ((Int32.toInt x0) = 0 ∧ (Int32.toInt x0) = 0 ∧ 0 ≤ (Int64.toInt y0) ∧ (Int64.toInt y0) < (Int32.toInt x3) ∧ (Int64.toInt y0) < (Int64.toInt y1) ∧ (Int64.toInt y0) = (Int64.toInt y0) + 1 ∧ 0 ≤ (-1))) from ⟨(by ((repeat' apply And.intro) <;> first | trivial | rfl | assumption | omega | decide | exact Or.inl rfl | exact Or.inr (Or.inl rfl) | exact Or.inr (Or.inr rfl))), (by ((repeat' apply And.intro) <;> first | trivial | rfl | assumption | omega | decide | exact Or.inl rfl | exact Or.inr (Or.inl rfl) | exact Or.inr (Or.inr rfl))), i_x0.1, i_x0.2, i_y0.1, i_y0.2, (by by_cases h_8 : (Int32.toInt x0) = 0; (first | exact seq_ok _ h_8 (by omega) (byt_ok ⟨by omega, by omega, by omega⟩) ⟨by omega, by omega⟩ | exact seq_no h_8 (by omega) (byt_no (by omega))); exact seq_old h_8 (by omega)), (by first | omega | (have h_9 := gb_pos (f := fn0) (n := (Int32.toInt x3)) (i := (Int64.toInt y0)) (by omega) (by omega); omega))⟩) [0, 2, 1] (by decide) rfl (Nat.le_of_ble_eq_true rfl) (Nat.le_of_ble_eq_true rfl)
      · skip
        have k40 : ¬ ((Int32.toInt z27) < 0) := fun h_9 => c28 ((fa_lt z27 0).mpr h_9)
        refine r_aload_n 45 0 C dX1_take_45 rfl ?_
        refine r_iconst 46 2 C dX1_take_46 (by decide) ?_
        refine r_callVv 47 C dX1_take_47 [] [(h0, .inr (1, [.ref h3, .ref h4, .ref h1, .int x0, .long y0, .long y1, .int x1, .int x2, .long y2, .long y3]))] [(h2, .inl (gB g, 1500, .inl fn0)), (h1, .inr (4, [.ref h2, .int x3]))] (fun sz => c51_X1_wrong l g h0 2 h3 h4 h1 x0 y0 y1 x1 x2 y2 y3 (by decide) i_x0 i_y0 i_x1 i_x2 i_y2 i_y3 sz) gX1_take_X1_wrong rfl ⟨rfl, rfl⟩ 1 (by decide) ⟨Nat.le_of_ble_eq_true rfl, Nat.le_of_ble_eq_true rfl⟩ 0 rfl rfl [0] [1, 2] rfl rfl (by decide) (by decide) (by decide) rfl rfl (Nat.le_of_ble_eq_true rfl) ⟨Nat.le_of_ble_eq_true rfl, Nat.le_of_ble_eq_true rfl⟩ (fun  z41 w42 => ?_)
        refine r_ws [(h2, .inl (gB g, 1500, .inl fn0)), (h1, .inr (4, [.ref h2, .int x3])), (h0, .inr (1, [.ref h3, .ref h4, .ref h1, .int z41, .long y0, .long y1, .int x1, .int x2, .long y2, .long y3]))] rfl ?_
        have p43 : 0 ≤ (Int32.toInt z41) := w42.1
        have p44 : (Int32.toInt z41) ≤ 2 := w42.2.1
        have p45 : ¬ ((Int32.toInt z41) = 0) := w42.2.2
        refine r_aload_n 50 0 C dX1_take_50 rfl ?_
        refine r_get 51 C dX1_take_51 (k := 3) 2 rfl rfl hiX1 (by decide) rfl (mg 4 rfl) (Or.inl rfl) rfl ?_
        refine r_if_eq 54 59 C dX1_take_54 (by decide) (fun c46 => ?_) (fun c46 => ?_)
        · skip
          have k47 : (Int32.toInt z41) = 0 := (fa_eq z41 0).mp c46
          refine r_aload_n 59 0 C dX1_take_59 rfl ?_
          refine r_get 60 C dX1_take_60 (k := 2) 2 rfl rfl hiX1 (by decide) rfl (mg 2 rfl) (Or.inl rfl) rfl ?_
          refine r_aload_n 63 0 C dX1_take_63 rfl ?_
          refine r_get 64 C dX1_take_64 (k := 4) 2 rfl rfl hiX1 (by decide) rfl (mg 1 rfl) (Or.inl rfl) rfl ?_
          refine r_callVi 67 C dX1_take_67 [] [(h1, .inr (4, [.ref h2, .int x3])), (h2, .inl (gB g, 1500, .inl fn0))] [(h0, .inr (1, [.ref h3, .ref h4, .ref h1, .int z41, .long y0, .long y1, .int x1, .int x2, .long y2, .long y3]))] (fun sz => c14_X5_get l g h1 h2 y0 x3 fn0 i_x3 sz) gX1_take_X5_get rfl ⟨rfl, rfl⟩ 1 (by decide) ⟨Nat.le_of_ble_eq_true rfl, Nat.le_of_ble_eq_true rfl⟩ 1 rfl rfl [1, 0] [2] rfl rfl (by decide) (by decide) (by decide) rfl rfl (Nat.le_of_ble_eq_true rfl) ⟨Nat.le_of_ble_eq_true rfl, Nat.le_of_ble_eq_true rfl⟩ (fun r48 _ w49 => ?_)
          refine r_ws [(h0, .inr (1, [.ref h3, .ref h4, .ref h1, .int z41, .long y0, .long y1, .int x1, .int x2, .long y2, .long y3])), (h1, .inr (4, [.ref h2, .int x3])), (h2, .inl (gB g, 1500, .inl fn0))] rfl ?_
          have p50 : -1 ≤ (Int32.toInt r48) := w49.1
          have p51 : (Int32.toInt r48) ≤ 255 := w49.2.1
          have p52 : HID ((0 ≤ (Int64.toInt y0) ∧ (Int64.toInt y0) < (Int32.toInt x3) ∧ r48 = (fn0 (Int.toNat (Int64.toInt y0)) &&& 255)) ∨ (((Int64.toInt y0) < 0 ∨ (Int32.toInt x3) ≤ (Int64.toInt y0)) ∧ r48 = -1)) := w49.2.2.1
          have p53 : (Int32.toInt r48) = GB fn0 (Int32.toInt x3) (Int64.toInt y0) := w49.2.2.2
          refine r_istore_n 70 C dX1_take_70 [(1, .int r48), (0, .ref h0)] (by decide) rfl ?_
          refine r_aload_n 71 1 C dX1_take_71 rfl ?_
          refine r_dup 72 C dX1_take_72 rfl ?_
          refine r_get 73 C dX1_take_73 (k := 4) 0 rfl rfl hiX1 (by decide) rfl (mg 1 rfl) (Or.inl rfl) rfl ?_
          refine r_lconst 76 1 C dX1_take_76 (by decide) ?_
          obtain ⟨z54, ez54⟩ : ∃ z_9, y0 + 1 = z_9 := ⟨_, rfl⟩
          have tz54 : (Int64.toInt z54) = (Int64.toInt y0) + 1 := by rw [← ez54]; exact fb_addLv (a := (-8589934592)) (b := 8589934592) (c := 1) (d := 1) i_y0 ⟨by decide, by decide⟩ (by decide) (by decide)
          refine r_ladd 77 z54 C dX1_take_77 ez54 ?_
          refine r_put 78 C dX1_take_78 (k := 4) 0 rfl rfl hiX1 tyX1 tyX1_ok nmX1 (by decide) rfl (mg 1 rfl) (Or.inl rfl) rfl rfl rfl rfl (Nat.le_of_ble_eq_true rfl) [(h0, .inr (1, [.ref h3, .ref h4, .ref h1, .int z41, .long z54, .long y1, .int x1, .int x2, .long y2, .long y3])), (h1, .inr (4, [.ref h2, .int x3])), (h2, .inl (gB g, 1500, .inl fn0))] rfl ?_
          refine r_iload_n 81 0 C dX1_take_81 rfl ?_
          exact r_iret 82 Rt dX1_take_82 (z41, z54) (show -1 ≤ (Int32.toInt r48) ∧ (Int32.toInt r48) ≤ 255 ∧ 0 ≤ (Int32.toInt z41) ∧ (Int32.toInt z41) ≤ 2 ∧ -8589934592 ≤ (Int64.toInt z54) ∧ (Int64.toInt z54) ≤ 8589934592 ∧ SEQ (Int32.toInt x0) (Int32.toInt z41) (BYT (GB fn0 (Int32.toInt x3)) (Int32.toInt x3) (Int64.toInt y1) (Int64.toInt y0)) (fun v => v = (Int32.toInt r48) ∧ (Int64.toInt z54) = (Int64.toInt y0) + 1) ∧ (((Int32.toInt r48) = -1 ∧ 1 ≤ (Int32.toInt z41) ∧ (Int64.toInt z54) = (Int64.toInt y0)) ∨ ((Int32.toInt x0) = 0 ∧ (Int32.toInt z41) = 0 ∧ 0 ≤ (Int64.toInt y0) ∧ (Int64.toInt y0) < (Int32.toInt x3) ∧ (Int64.toInt y0) < (Int64.toInt y1) ∧ (Int64.toInt z54) = (Int64.toInt y0) + 1 ∧ 0 ≤ (Int32.toInt r48))) from ⟨(show _ ∧ _ from ⟨p50, p51⟩).1, (show _ ∧ _ from ⟨p50, p51⟩).2, (show _ ∧ _ from ⟨p43, p44⟩).1, (show _ ∧ _ from ⟨p43, p44⟩).2, (by ((repeat' apply And.intro) <;> first | trivial | rfl | assumption | omega | decide | exact Or.inl rfl | exact Or.inr (Or.inl rfl) | exact Or.inr (Or.inr rfl))), (by ((repeat' apply And.intro) <;> first | trivial | rfl | assumption | omega | decide | exact Or.inl rfl | exact Or.inr (Or.inl rfl) | exact Or.inr (Or.inr rfl))), (by by_cases h_8 : (Int32.toInt x0) = 0; (first | exact seq_ok _ h_8 (by omega) (byt_ok ⟨by omega, by omega, by omega⟩) ⟨by omega, by omega⟩ | exact seq_no h_8 (by omega) (byt_no (by omega))); exact seq_old h_8 (by omega)), (by first | omega | (have h_9 := gb_pos (f := fn0) (n := (Int32.toInt x3)) (i := (Int64.toInt y0)) (by omega) (by omega); omega))⟩) [0, 1, 2] (by decide) rfl (Nat.le_of_ble_eq_true rfl) (Nat.le_of_ble_eq_true rfl)
        · skip
          have k55 : ¬ ((Int32.toInt z41) = 0) := fun h_9 => c46 ((fa_eq z41 0).mpr h_9)
          refine r_iconst 57 (-1) C dX1_take_57 (by decide) ?_
          exact r_iret 58 Rt dX1_take_58 (z41, y0) (show -1 ≤ (Int32.toInt (-1)) ∧ (Int32.toInt (-1)) ≤ 255 ∧ 0 ≤ (Int32.toInt z41) ∧ (Int32.toInt z41) ≤ 2 ∧ -8589934592 ≤ (Int64.toInt y0) ∧ (Int64.toInt y0) ≤ 8589934592 ∧ SEQ (Int32.toInt x0) (Int32.toInt z41) (BYT (GB fn0 (Int32.toInt x3)) (Int32.toInt x3) (Int64.toInt y1) (Int64.toInt y0)) (fun v => v = (-1) ∧ (Int64.toInt y0) = (Int64.toInt y0) + 1) ∧ (((-1) = -1 ∧ 1 ≤ (Int32.toInt z41) ∧ (Int64.toInt y0) = (Int64.toInt y0)) ∨ ((Int32.toInt x0) = 0 ∧ (Int32.toInt z41) = 0 ∧ 0 ≤ (Int64.toInt y0) ∧ (Int64.toInt y0) < (Int32.toInt x3) ∧ (Int64.toInt y0) < (Int64.toInt y1) ∧ (Int64.toInt y0) = (Int64.toInt y0) + 1 ∧ 0 ≤ (-1))) from ⟨(by ((repeat' apply And.intro) <;> first | trivial | rfl | assumption | omega | decide | exact Or.inl rfl | exact Or.inr (Or.inl rfl) | exact Or.inr (Or.inr rfl))), (by ((repeat' apply And.intro) <;> first | trivial | rfl | assumption | omega | decide | exact Or.inl rfl | exact Or.inr (Or.inl rfl) | exact Or.inr (Or.inr rfl))), (show _ ∧ _ from ⟨p43, p44⟩).1, (show _ ∧ _ from ⟨p43, p44⟩).2, i_y0.1, i_y0.2, (by by_cases h_8 : (Int32.toInt x0) = 0; (first | exact seq_ok _ h_8 (by omega) (byt_ok ⟨by omega, by omega, by omega⟩) ⟨by omega, by omega⟩ | exact seq_no h_8 (by omega) (byt_no (by omega))); exact seq_old h_8 (by omega)), (by first | omega | (have h_9 := gb_pos (f := fn0) (n := (Int32.toInt x3)) (i := (Int64.toInt y0)) (by omega) (by omega); omega))⟩) [2, 1, 0] (by decide) rfl (Nat.le_of_ble_eq_true rfl) (Nat.le_of_ble_eq_true rfl)
    · skip
      have k56 : ¬ ((Int32.toInt z24) < 0) := fun h_9 => c25 ((fa_lt z24 0).mpr h_9)
      refine r_aload_n 25 0 C dX1_take_25 rfl ?_
      refine r_iconst 26 1 C dX1_take_26 (by decide) ?_
      refine r_callVv 27 C dX1_take_27 [] [(h0, .inr (1, [.ref h3, .ref h4, .ref h1, .int x0, .long y0, .long y1, .int x1, .int x2, .long y2, .long y3]))] [(h2, .inl (gB g, 1500, .inl fn0)), (h1, .inr (4, [.ref h2, .int x3]))] (fun sz => c51_X1_wrong l g h0 1 h3 h4 h1 x0 y0 y1 x1 x2 y2 y3 (by decide) i_x0 i_y0 i_x1 i_x2 i_y2 i_y3 sz) gX1_take_X1_wrong rfl ⟨rfl, rfl⟩ 1 (by decide) ⟨Nat.le_of_ble_eq_true rfl, Nat.le_of_ble_eq_true rfl⟩ 0 rfl rfl [0] [1, 2] rfl rfl (by decide) (by decide) (by decide) rfl rfl (Nat.le_of_ble_eq_true rfl) ⟨Nat.le_of_ble_eq_true rfl, Nat.le_of_ble_eq_true rfl⟩ (fun  z57 w58 => ?_)
      refine r_ws [(h2, .inl (gB g, 1500, .inl fn0)), (h1, .inr (4, [.ref h2, .int x3])), (h0, .inr (1, [.ref h3, .ref h4, .ref h1, .int z57, .long y0, .long y1, .int x1, .int x2, .long y2, .long y3]))] rfl ?_
      have p59 : 0 ≤ (Int32.toInt z57) := w58.1
      have p60 : (Int32.toInt z57) ≤ 2 := w58.2.1
      have p61 : ¬ ((Int32.toInt z57) = 0) := w58.2.2
      refine r_goto 30 50 C dX1_take_30 (by decide) ?_
      refine r_aload_n 50 0 C dX1_take_50 rfl ?_
      refine r_get 51 C dX1_take_51 (k := 3) 2 rfl rfl hiX1 (by decide) rfl (mg 4 rfl) (Or.inl rfl) rfl ?_
      refine r_if_eq 54 59 C dX1_take_54 (by decide) (fun c62 => ?_) (fun c62 => ?_)
      · skip
        have k63 : (Int32.toInt z57) = 0 := (fa_eq z57 0).mp c62
        refine r_aload_n 59 0 C dX1_take_59 rfl ?_
        refine r_get 60 C dX1_take_60 (k := 2) 2 rfl rfl hiX1 (by decide) rfl (mg 2 rfl) (Or.inl rfl) rfl ?_
        refine r_aload_n 63 0 C dX1_take_63 rfl ?_
        refine r_get 64 C dX1_take_64 (k := 4) 2 rfl rfl hiX1 (by decide) rfl (mg 1 rfl) (Or.inl rfl) rfl ?_
        refine r_callVi 67 C dX1_take_67 [] [(h1, .inr (4, [.ref h2, .int x3])), (h2, .inl (gB g, 1500, .inl fn0))] [(h0, .inr (1, [.ref h3, .ref h4, .ref h1, .int z57, .long y0, .long y1, .int x1, .int x2, .long y2, .long y3]))] (fun sz => c14_X5_get l g h1 h2 y0 x3 fn0 i_x3 sz) gX1_take_X5_get rfl ⟨rfl, rfl⟩ 1 (by decide) ⟨Nat.le_of_ble_eq_true rfl, Nat.le_of_ble_eq_true rfl⟩ 1 rfl rfl [1, 0] [2] rfl rfl (by decide) (by decide) (by decide) rfl rfl (Nat.le_of_ble_eq_true rfl) ⟨Nat.le_of_ble_eq_true rfl, Nat.le_of_ble_eq_true rfl⟩ (fun r64 _ w65 => ?_)
        refine r_ws [(h0, .inr (1, [.ref h3, .ref h4, .ref h1, .int z57, .long y0, .long y1, .int x1, .int x2, .long y2, .long y3])), (h1, .inr (4, [.ref h2, .int x3])), (h2, .inl (gB g, 1500, .inl fn0))] rfl ?_
        have p66 : -1 ≤ (Int32.toInt r64) := w65.1
        have p67 : (Int32.toInt r64) ≤ 255 := w65.2.1
        have p68 : HID ((0 ≤ (Int64.toInt y0) ∧ (Int64.toInt y0) < (Int32.toInt x3) ∧ r64 = (fn0 (Int.toNat (Int64.toInt y0)) &&& 255)) ∨ (((Int64.toInt y0) < 0 ∨ (Int32.toInt x3) ≤ (Int64.toInt y0)) ∧ r64 = -1)) := w65.2.2.1
        have p69 : (Int32.toInt r64) = GB fn0 (Int32.toInt x3) (Int64.toInt y0) := w65.2.2.2
        refine r_istore_n 70 C dX1_take_70 [(1, .int r64), (0, .ref h0)] (by decide) rfl ?_
        refine r_aload_n 71 1 C dX1_take_71 rfl ?_
        refine r_dup 72 C dX1_take_72 rfl ?_
        refine r_get 73 C dX1_take_73 (k := 4) 0 rfl rfl hiX1 (by decide) rfl (mg 1 rfl) (Or.inl rfl) rfl ?_
        refine r_lconst 76 1 C dX1_take_76 (by decide) ?_
        obtain ⟨z70, ez70⟩ : ∃ z_9, y0 + 1 = z_9 := ⟨_, rfl⟩
        have tz70 : (Int64.toInt z70) = (Int64.toInt y0) + 1 := by rw [← ez70]; exact fb_addLv (a := (-8589934592)) (b := 8589934592) (c := 1) (d := 1) i_y0 ⟨by decide, by decide⟩ (by decide) (by decide)
        refine r_ladd 77 z70 C dX1_take_77 ez70 ?_
        refine r_put 78 C dX1_take_78 (k := 4) 0 rfl rfl hiX1 tyX1 tyX1_ok nmX1 (by decide) rfl (mg 1 rfl) (Or.inl rfl) rfl rfl rfl rfl (Nat.le_of_ble_eq_true rfl) [(h0, .inr (1, [.ref h3, .ref h4, .ref h1, .int z57, .long z70, .long y1, .int x1, .int x2, .long y2, .long y3])), (h1, .inr (4, [.ref h2, .int x3])), (h2, .inl (gB g, 1500, .inl fn0))] rfl ?_
        refine r_iload_n 81 0 C dX1_take_81 rfl ?_
        exact r_iret 82 Rt dX1_take_82 (z57, z70) (show -1 ≤ (Int32.toInt r64) ∧ (Int32.toInt r64) ≤ 255 ∧ 0 ≤ (Int32.toInt z57) ∧ (Int32.toInt z57) ≤ 2 ∧ -8589934592 ≤ (Int64.toInt z70) ∧ (Int64.toInt z70) ≤ 8589934592 ∧ SEQ (Int32.toInt x0) (Int32.toInt z57) (BYT (GB fn0 (Int32.toInt x3)) (Int32.toInt x3) (Int64.toInt y1) (Int64.toInt y0)) (fun v => v = (Int32.toInt r64) ∧ (Int64.toInt z70) = (Int64.toInt y0) + 1) ∧ (((Int32.toInt r64) = -1 ∧ 1 ≤ (Int32.toInt z57) ∧ (Int64.toInt z70) = (Int64.toInt y0)) ∨ ((Int32.toInt x0) = 0 ∧ (Int32.toInt z57) = 0 ∧ 0 ≤ (Int64.toInt y0) ∧ (Int64.toInt y0) < (Int32.toInt x3) ∧ (Int64.toInt y0) < (Int64.toInt y1) ∧ (Int64.toInt z70) = (Int64.toInt y0) + 1 ∧ 0 ≤ (Int32.toInt r64))) from ⟨(show _ ∧ _ from ⟨p66, p67⟩).1, (show _ ∧ _ from ⟨p66, p67⟩).2, (show _ ∧ _ from ⟨p59, p60⟩).1, (show _ ∧ _ from ⟨p59, p60⟩).2, (by ((repeat' apply And.intro) <;> first | trivial | rfl | assumption | omega | decide | exact Or.inl rfl | exact Or.inr (Or.inl rfl) | exact Or.inr (Or.inr rfl))), (by ((repeat' apply And.intro) <;> first | trivial | rfl | assumption | omega | decide | exact Or.inl rfl | exact Or.inr (Or.inl rfl) | exact Or.inr (Or.inr rfl))), (by by_cases h_8 : (Int32.toInt x0) = 0; (first | exact seq_ok _ h_8 (by omega) (byt_ok ⟨by omega, by omega, by omega⟩) ⟨by omega, by omega⟩ | exact seq_no h_8 (by omega) (byt_no (by omega))); exact seq_old h_8 (by omega)), (by first | omega | (have h_9 := gb_pos (f := fn0) (n := (Int32.toInt x3)) (i := (Int64.toInt y0)) (by omega) (by omega); omega))⟩) [0, 1, 2] (by decide) rfl (Nat.le_of_ble_eq_true rfl) (Nat.le_of_ble_eq_true rfl)
      · skip
        have k71 : ¬ ((Int32.toInt z57) = 0) := fun h_9 => c62 ((fa_eq z57 0).mpr h_9)
        refine r_iconst 57 (-1) C dX1_take_57 (by decide) ?_
        exact r_iret 58 Rt dX1_take_58 (z57, y0) (show -1 ≤ (Int32.toInt (-1)) ∧ (Int32.toInt (-1)) ≤ 255 ∧ 0 ≤ (Int32.toInt z57) ∧ (Int32.toInt z57) ≤ 2 ∧ -8589934592 ≤ (Int64.toInt y0) ∧ (Int64.toInt y0) ≤ 8589934592 ∧ SEQ (Int32.toInt x0) (Int32.toInt z57) (BYT (GB fn0 (Int32.toInt x3)) (Int32.toInt x3) (Int64.toInt y1) (Int64.toInt y0)) (fun v => v = (-1) ∧ (Int64.toInt y0) = (Int64.toInt y0) + 1) ∧ (((-1) = -1 ∧ 1 ≤ (Int32.toInt z57) ∧ (Int64.toInt y0) = (Int64.toInt y0)) ∨ ((Int32.toInt x0) = 0 ∧ (Int32.toInt z57) = 0 ∧ 0 ≤ (Int64.toInt y0) ∧ (Int64.toInt y0) < (Int32.toInt x3) ∧ (Int64.toInt y0) < (Int64.toInt y1) ∧ (Int64.toInt y0) = (Int64.toInt y0) + 1 ∧ 0 ≤ (-1))) from ⟨(by ((repeat' apply And.intro) <;> first | trivial | rfl | assumption | omega | decide | exact Or.inl rfl | exact Or.inr (Or.inl rfl) | exact Or.inr (Or.inr rfl))), (by ((repeat' apply And.intro) <;> first | trivial | rfl | assumption | omega | decide | exact Or.inl rfl | exact Or.inr (Or.inl rfl) | exact Or.inr (Or.inr rfl))), (show _ ∧ _ from ⟨p59, p60⟩).1, (show _ ∧ _ from ⟨p59, p60⟩).2, i_y0.1, i_y0.2, (by by_cases h_8 : (Int32.toInt x0) = 0; (first | exact seq_ok _ h_8 (by omega) (byt_ok ⟨by omega, by omega, by omega⟩) ⟨by omega, by omega⟩ | exact seq_no h_8 (by omega) (byt_no (by omega))); exact seq_old h_8 (by omega)), (by first | omega | (have h_9 := gb_pos (f := fn0) (n := (Int32.toInt x3)) (i := (Int64.toInt y0)) (by omega) (by omega); omega))⟩) [2, 1, 0] (by decide) rfl (Nat.le_of_ble_eq_true rfl) (Nat.le_of_ble_eq_true rfl)
set_option maxHeartbeats 4000000 in
set_option maxRecDepth 100000 in
theorem c53_X1_want (l : Launch) (g : GD) (h0 : Nat) (x0 : Int32) (h1 : Nat) (h2 : Nat) (h3 : Nat) (x1 : Int32) (y0 : Int64) (y1 : Int64) (x2 : Int32) (x3 : Int32) (y2 : Int64) (y3 : Int64) (i_x0 : (0 ≤ (Int32.toInt x0) ∧ (Int32.toInt x0) ≤ 1)) (i_x1 : (0 ≤ (Int32.toInt x1) ∧ (Int32.toInt x1) ≤ 2)) (i_y0 : (-8589934592 ≤ (Int64.toInt y0) ∧ (Int64.toInt y0) ≤ 8589934592)) (i_x2 : (-257 ≤ (Int32.toInt x2) ∧ (Int32.toInt x2) ≤ 65535)) (i_x3 : (-1 ≤ (Int32.toInt x3) ∧ (Int32.toInt x3) ≤ 255)) (i_y2 : (-8589934592 ≤ (Int64.toInt y2) ∧ (Int64.toInt y2) ≤ 8589934592)) (i_y3 : (-8589934592 ≤ (Int64.toInt y3) ∧ (Int64.toInt y3) ≤ 8589934592)) (sz : Nat) : Met l yX1_want wsX1_want ({ frames := 1, cells := 0, slots := 0, locals := 21 }) (va_Pc [.ref h0, .int x0] (PW g [(h0, .inr (1, [.ref h1, .ref h2, .ref h3, .int x1, .long y0, .long y1, .int x2, .int x3, .long y2, .long y3]))] sz)) (va_Qv (fun (u : (Int32)) => 0 ≤ (Int32.toInt u) ∧ (Int32.toInt u) ≤ 2 ∧ WNT (Int32.toInt x0) (Int32.toInt x1) (Int32.toInt u) ∧ (((Int32.toInt x0) = 1 ∧ (Int32.toInt u) = (Int32.toInt x1)) ∨ ((Int32.toInt x0) = 0 ∧ 1 ≤ (Int32.toInt u)))) (BW g (va_A [(h0, .inr (1, [.ref h1, .ref h2, .ref h3, .int x1, .long y0, .long y1, .int x2, .int x3, .long y2, .long y3]))] sz) (fun u : (Int32) => [(h0, .inr (1, [.ref h1, .ref h2, .ref h3, .int u, .long y0, .long y1, .int x2, .int x3, .long y2, .long y3]))])) (va_A [(h0, .inr (1, [.ref h1, .ref h2, .ref h3, .int x1, .long y0, .long y1, .int x2, .int x3, .long y2, .long y3]))] sz)) 0 0 (va_A [(h0, .inr (1, [.ref h1, .ref h2, .ref h3, .int x1, .long y0, .long y1, .int x2, .int x3, .long y2, .long y3]))] sz) := by
  refine met_v RX1 (by decide) rfl rfl (Nat.le_of_ble_eq_true rfl) [(0, .ref h0), (1, .int x0)] rfl ?_
  intro p e s m args below meth c A Q C hnm Rt
  refine r_iload_n 0 1 C dX1_want_0 rfl ?_
  refine r_if_ne 1 9 C dX1_want_1 (by decide) (fun c1 => ?_) (fun c1 => ?_)
  · skip
    have k2 : ¬ ((Int32.toInt x0) = 0) := fun h_9 => c1 ((fa_eq x0 0).mpr h_9)
    exact r_vret 9 Rt dX1_want_9 x1 (show 0 ≤ (Int32.toInt x1) ∧ (Int32.toInt x1) ≤ 2 ∧ WNT (Int32.toInt x0) (Int32.toInt x1) (Int32.toInt x1) ∧ (((Int32.toInt x0) = 1 ∧ (Int32.toInt x1) = (Int32.toInt x1)) ∨ ((Int32.toInt x0) = 0 ∧ 1 ≤ (Int32.toInt x1))) from ⟨i_x1.1, i_x1.2, (by first | exact Or.inl ⟨by omega, rfl⟩ | exact Or.inr ⟨by omega, by omega⟩), (by ((repeat' apply And.intro) <;> first | trivial | rfl | assumption | omega | decide | exact Or.inl rfl | exact Or.inr (Or.inl rfl) | exact Or.inr (Or.inr rfl)))⟩) [0] (by decide) rfl (Nat.le_of_ble_eq_true rfl) (Nat.le_of_ble_eq_true rfl)
  · skip
    have k3 : (Int32.toInt x0) = 0 := (fa_eq x0 0).mp c1
    refine r_aload_n 4 0 C dX1_want_4 rfl ?_
    refine r_iconst 5 2 C dX1_want_5 (by decide) ?_
    refine r_callVv 6 C dX1_want_6 [] [(h0, .inr (1, [.ref h1, .ref h2, .ref h3, .int x1, .long y0, .long y1, .int x2, .int x3, .long y2, .long y3]))] [] (fun sz => c51_X1_wrong l g h0 2 h1 h2 h3 x1 y0 y1 x2 x3 y2 y3 (by decide) i_x1 i_y0 i_x2 i_x3 i_y2 i_y3 sz) gX1_want_X1_wrong rfl ⟨rfl, rfl⟩ 1 (by decide) ⟨Nat.le_of_ble_eq_true rfl, Nat.le_of_ble_eq_true rfl⟩ 0 rfl rfl [0] [] rfl rfl (by decide) (by decide) (by decide) rfl rfl (Nat.le_of_ble_eq_true rfl) ⟨Nat.le_of_ble_eq_true rfl, Nat.le_of_ble_eq_true rfl⟩ (fun  z4 w5 => ?_)
    refine r_ws [(h0, .inr (1, [.ref h1, .ref h2, .ref h3, .int z4, .long y0, .long y1, .int x2, .int x3, .long y2, .long y3]))] rfl ?_
    have p6 : 0 ≤ (Int32.toInt z4) := w5.1
    have p7 : (Int32.toInt z4) ≤ 2 := w5.2.1
    have p8 : ¬ ((Int32.toInt z4) = 0) := w5.2.2
    exact r_vret 9 Rt dX1_want_9 z4 (show 0 ≤ (Int32.toInt z4) ∧ (Int32.toInt z4) ≤ 2 ∧ WNT (Int32.toInt x0) (Int32.toInt x1) (Int32.toInt z4) ∧ (((Int32.toInt x0) = 1 ∧ (Int32.toInt z4) = (Int32.toInt x1)) ∨ ((Int32.toInt x0) = 0 ∧ 1 ≤ (Int32.toInt z4))) from ⟨(show _ ∧ _ from ⟨p6, p7⟩).1, (show _ ∧ _ from ⟨p6, p7⟩).2, (by first | exact Or.inl ⟨by omega, rfl⟩ | exact Or.inr ⟨by omega, by omega⟩), (by ((repeat' apply And.intro) <;> first | trivial | rfl | assumption | omega | decide | exact Or.inl rfl | exact Or.inr (Or.inl rfl) | exact Or.inr (Or.inr rfl)))⟩) [0] (by decide) rfl (Nat.le_of_ble_eq_true rfl) (Nat.le_of_ble_eq_true rfl)
set_option maxHeartbeats 4000000 in
set_option maxRecDepth 100000 in
theorem c54_X1_takeHeader (l : Launch) (g : GD) (h0 : Nat) (h1 : Nat) (h2 : Nat) (h3 : Nat) (h4 : Nat) (x0 : Int32) (y0 : Int64) (y1 : Int64) (x1 : Int32) (x2 : Int32) (y2 : Int64) (y3 : Int64) (x3 : Int32) (fn0 : Nat → Int32) (i_x0 : (0 ≤ (Int32.toInt x0) ∧ (Int32.toInt x0) ≤ 2)) (i_y0 : (-8589934592 ≤ (Int64.toInt y0) ∧ (Int64.toInt y0) ≤ 8589934592)) (i_x1 : (-257 ≤ (Int32.toInt x1) ∧ (Int32.toInt x1) ≤ 65535)) (i_x2 : (-1 ≤ (Int32.toInt x2) ∧ (Int32.toInt x2) ≤ 255)) (i_y2 : (-8589934592 ≤ (Int64.toInt y2) ∧ (Int64.toInt y2) ≤ 8589934592)) (i_y3 : (-8589934592 ≤ (Int64.toInt y3) ∧ (Int64.toInt y3) ≤ 8589934592)) (i_x3 : (0 ≤ (Int32.toInt x3) ∧ (Int32.toInt x3) ≤ 1500)) (pre0 : ((Int32.toInt x3) ≤ (Int64.toInt y1))) (sz : Nat) : Met l yX1_takeHeader wsX1_takeHeader ({ frames := 2, cells := 0, slots := 0, locals := 43 }) (va_Pc [.ref h0] (PW g [(h0, .inr (1, [.ref h3, .ref h4, .ref h1, .int x0, .long y0, .long y1, .int x1, .int x2, .long y2, .long y3])), (h1, .inr (4, [.ref h2, .int x3])), (h2, .inl (gB g, 1500, .inl fn0))] sz)) (va_Qv (fun (u : (Int32) × (Int64)) => 0 ≤ (Int32.toInt (u.1)) ∧ (Int32.toInt (u.1)) ≤ 2 ∧ -8589934592 ≤ (Int64.toInt (u.2)) ∧ (Int64.toInt (u.2)) ≤ 8589934592 ∧ SEQ (Int32.toInt x0) (Int32.toInt (u.1)) (HDR (GB fn0 (Int32.toInt x3)) (Int32.toInt x3)) (fun v => v = (Int64.toInt (u.2)))) (BW g (va_A [(h0, .inr (1, [.ref h3, .ref h4, .ref h1, .int x0, .long y0, .long y1, .int x1, .int x2, .long y2, .long y3])), (h1, .inr (4, [.ref h2, .int x3])), (h2, .inl (gB g, 1500, .inl fn0))] sz) (fun u : (Int32) × (Int64) => [(h0, .inr (1, [.ref h3, .ref h4, .ref h1, .int u.1, .long u.2, .long y1, .int x1, .int x2, .long y2, .long y3])), (h1, .inr (4, [.ref h2, .int x3])), (h2, .inl (gB g, 1500, .inl fn0))])) (va_A [(h0, .inr (1, [.ref h3, .ref h4, .ref h1, .int x0, .long y0, .long y1, .int x1, .int x2, .long y2, .long y3])), (h1, .inr (4, [.ref h2, .int x3])), (h2, .inl (gB g, 1500, .inl fn0))] sz)) 0 0 (va_A [(h0, .inr (1, [.ref h3, .ref h4, .ref h1, .int x0, .long y0, .long y1, .int x1, .int x2, .long y2, .long y3])), (h1, .inr (4, [.ref h2, .int x3])), (h2, .inl (gB g, 1500, .inl fn0))] sz) := by
  refine met_v RX1 (by decide) rfl rfl (Nat.le_of_ble_eq_true rfl) [(0, .ref h0)] rfl ?_
  intro p e s m args below meth c A Q C hnm Rt
  have gy1 := fb_rngL y1
  have hiX1 : ∀ w ∈ wsX10, w ∈ wsX1_takeHeader := fun w h => List.mem_cons_of_mem _ (List.mem_append_left _ (List.mem_append_right _ (h)))
  refine r_aload_n 0 0 C dX1_takeHeader_0 rfl ?_
  refine r_lconst 1 0 C dX1_takeHeader_1 (by decide) ?_
  refine r_put 2 C dX1_takeHeader_2 (k := 4) 0 rfl rfl hiX1 tyX1 tyX1_ok nmX1 (by decide) rfl (mg 1 rfl) (Or.inl rfl) rfl rfl rfl rfl (Nat.le_of_ble_eq_true rfl) [(h0, .inr (1, [.ref h3, .ref h4, .ref h1, .int x0, .long 0, .long y1, .int x1, .int x2, .long y2, .long y3])), (h1, .inr (4, [.ref h2, .int x3])), (h2, .inl (gB g, 1500, .inl fn0))] rfl ?_
  refine r_aload_n 5 0 C dX1_takeHeader_5 rfl ?_
  refine r_aload_n 6 0 C dX1_takeHeader_6 rfl ?_
  refine r_callVi 7 C dX1_takeHeader_7 [.ref h0] [(h0, .inr (1, [.ref h3, .ref h4, .ref h1, .int x0, .long 0, .long y1, .int x1, .int x2, .long y2, .long y3])), (h1, .inr (4, [.ref h2, .int x3])), (h2, .inl (gB g, 1500, .inl fn0))] [] (fun sz => c52_X1_take l g h0 h1 h2 h3 h4 x0 0 y1 x1 x2 y2 y3 x3 fn0 i_x0 (by decide) i_x1 i_x2 i_y2 i_y3 i_x3 sz) gX1_takeHeader_X1_take rfl ⟨rfl, rfl⟩ 0 (by decide) ⟨Nat.le_of_ble_eq_true rfl, Nat.le_of_ble_eq_true rfl⟩ 0 rfl rfl [0, 1, 2] [] rfl rfl (by decide) (by decide) (by decide) rfl rfl (Nat.le_of_ble_eq_true rfl) ⟨Nat.le_of_ble_eq_true rfl, Nat.le_of_ble_eq_true rfl⟩ (fun r3 u5 w4 => ?_)
  obtain ⟨z1, z2⟩ := u5
  refine r_ws [(h0, .inr (1, [.ref h3, .ref h4, .ref h1, .int z1, .long z2, .long y1, .int x1, .int x2, .long y2, .long y3])), (h1, .inr (4, [.ref h2, .int x3])), (h2, .inl (gB g, 1500, .inl fn0))] rfl ?_
  have p6 : -1 ≤ (Int32.toInt r3) := w4.1
  have p7 : (Int32.toInt r3) ≤ 255 := w4.2.1
  have p8 : 0 ≤ (Int32.toInt z1) := w4.2.2.1
  have p9 : (Int32.toInt z1) ≤ 2 := w4.2.2.2.1
  have p10 : -8589934592 ≤ (Int64.toInt z2) := w4.2.2.2.2.1
  have p11 : (Int64.toInt z2) ≤ 8589934592 := w4.2.2.2.2.2.1
  have p12 : SEQ (Int32.toInt x0) (Int32.toInt z1) (BYT (GB fn0 (Int32.toInt x3)) (Int32.toInt x3) (Int64.toInt y1) (0 : Int)) (fun v => v = (Int32.toInt r3) ∧ (Int64.toInt z2) = (0 : Int) + 1) := w4.2.2.2.2.2.2.1
  have p13 : (((Int32.toInt r3) = -1 ∧ 1 ≤ (Int32.toInt z1) ∧ (Int64.toInt z2) = (0 : Int)) ∨ ((Int32.toInt x0) = 0 ∧ (Int32.toInt z1) = 0 ∧ 0 ≤ (0 : Int) ∧ (0 : Int) < (Int32.toInt x3) ∧ (0 : Int) < (Int64.toInt y1) ∧ (Int64.toInt z2) = (0 : Int) + 1 ∧ 0 ≤ (Int32.toInt r3))) := w4.2.2.2.2.2.2.2
  rcases p13 with ⟨k14, k15, k16⟩ | p13
  · skip
    refine r_iconst 10 1 C dX1_takeHeader_10 (by decide) ?_
    refine r_icmp_ne_t 11 18 C dX1_takeHeader_11 (by decide) (fun h_9 => by have h_8 : (Int32.toInt r3) = 1 := (fa_eq r3 1).mp h_9; omega) ?_
    refine r_iconst 18 0 C dX1_takeHeader_18 (by decide) ?_
    refine r_callVv 19 C dX1_takeHeader_19 [] [(h0, .inr (1, [.ref h3, .ref h4, .ref h1, .int z1, .long z2, .long y1, .int x1, .int x2, .long y2, .long y3]))] [(h1, .inr (4, [.ref h2, .int x3])), (h2, .inl (gB g, 1500, .inl fn0))] (fun sz => c53_X1_want l g h0 0 h3 h4 h1 z1 z2 y1 x1 x2 y2 y3 (by decide) ⟨p8, p9⟩ ⟨p10, p11⟩ i_x1 i_x2 i_y2 i_y3 sz) gX1_takeHeader_X1_want rfl ⟨rfl, rfl⟩ 1 (by decide) ⟨Nat.le_of_ble_eq_true rfl, Nat.le_of_ble_eq_true rfl⟩ 0 rfl rfl [0] [1, 2] rfl rfl (by decide) (by decide) (by decide) rfl rfl (Nat.le_of_ble_eq_true rfl) ⟨Nat.le_of_ble_eq_true rfl, Nat.le_of_ble_eq_true rfl⟩ (fun  z17 w18 => ?_)
    refine r_ws [(h1, .inr (4, [.ref h2, .int x3])), (h2, .inl (gB g, 1500, .inl fn0)), (h0, .inr (1, [.ref h3, .ref h4, .ref h1, .int z17, .long z2, .long y1, .int x1, .int x2, .long y2, .long y3]))] rfl ?_
    have p19 : 0 ≤ (Int32.toInt z17) := w18.1
    have p20 : (Int32.toInt z17) ≤ 2 := w18.2.1
    have p21 : WNT (0 : Int) (Int32.toInt z1) (Int32.toInt z17) := w18.2.2.1
    have p22 : (((0 : Int) = 1 ∧ (Int32.toInt z17) = (Int32.toInt z1)) ∨ ((0 : Int) = 0 ∧ 1 ≤ (Int32.toInt z17))) := w18.2.2.2
    rcases p22 with ⟨k23, k24⟩ | p22
    · skip
      exact absurd trivial (by omega)
    obtain ⟨k25, k26⟩ := p22
    refine r_aload_n 22 0 C dX1_takeHeader_22 rfl ?_
    refine r_callVi 23 C dX1_takeHeader_23 [] [(h0, .inr (1, [.ref h3, .ref h4, .ref h1, .int z17, .long z2, .long y1, .int x1, .int x2, .long y2, .long y3])), (h1, .inr (4, [.ref h2, .int x3])), (h2, .inl (gB g, 1500, .inl fn0))] [] (fun sz => c52_X1_take l g h0 h1 h2 h3 h4 z17 z2 y1 x1 x2 y2 y3 x3 fn0 ⟨p19, p20⟩ ⟨p10, p11⟩ i_x1 i_x2 i_y2 i_y3 i_x3 sz) gX1_takeHeader_X1_take rfl ⟨rfl, rfl⟩ 0 (by decide) ⟨Nat.le_of_ble_eq_true rfl, Nat.le_of_ble_eq_true rfl⟩ 2 rfl rfl [2, 0, 1] [] rfl rfl (by decide) (by decide) (by decide) rfl rfl (Nat.le_of_ble_eq_true rfl) ⟨Nat.le_of_ble_eq_true rfl, Nat.le_of_ble_eq_true rfl⟩ (fun r29 u31 w30 => ?_)
    obtain ⟨z27, z28⟩ := u31
    refine r_ws [(h0, .inr (1, [.ref h3, .ref h4, .ref h1, .int z27, .long z28, .long y1, .int x1, .int x2, .long y2, .long y3])), (h1, .inr (4, [.ref h2, .int x3])), (h2, .inl (gB g, 1500, .inl fn0))] rfl ?_
    have p32 : -1 ≤ (Int32.toInt r29) := w30.1
    have p33 : (Int32.toInt r29) ≤ 255 := w30.2.1
    have p34 : 0 ≤ (Int32.toInt z27) := w30.2.2.1
    have p35 : (Int32.toInt z27) ≤ 2 := w30.2.2.2.1
    have p36 : -8589934592 ≤ (Int64.toInt z28) := w30.2.2.2.2.1
    have p37 : (Int64.toInt z28) ≤ 8589934592 := w30.2.2.2.2.2.1
    have p38 : SEQ (Int32.toInt z17) (Int32.toInt z27) (BYT (GB fn0 (Int32.toInt x3)) (Int32.toInt x3) (Int64.toInt y1) (Int64.toInt z2)) (fun v => v = (Int32.toInt r29) ∧ (Int64.toInt z28) = (Int64.toInt z2) + 1) := w30.2.2.2.2.2.2.1
    have p39 : (((Int32.toInt r29) = -1 ∧ 1 ≤ (Int32.toInt z27) ∧ (Int64.toInt z28) = (Int64.toInt z2)) ∨ ((Int32.toInt z17) = 0 ∧ (Int32.toInt z27) = 0 ∧ 0 ≤ (Int64.toInt z2) ∧ (Int64.toInt z2) < (Int32.toInt x3) ∧ (Int64.toInt z2) < (Int64.toInt y1) ∧ (Int64.toInt z28) = (Int64.toInt z2) + 1 ∧ 0 ≤ (Int32.toInt r29))) := w30.2.2.2.2.2.2.2
    rcases p39 with ⟨k40, k41, k42⟩ | p39
    · skip
      refine r_pop 26 C dX1_takeHeader_26 rfl ?_
      refine r_aload_n 27 0 C dX1_takeHeader_27 rfl ?_
      refine r_callVi 28 C dX1_takeHeader_28 [] [(h0, .inr (1, [.ref h3, .ref h4, .ref h1, .int z27, .long z28, .long y1, .int x1, .int x2, .long y2, .long y3])), (h1, .inr (4, [.ref h2, .int x3])), (h2, .inl (gB g, 1500, .inl fn0))] [] (fun sz => c52_X1_take l g h0 h1 h2 h3 h4 z27 z28 y1 x1 x2 y2 y3 x3 fn0 ⟨p34, p35⟩ ⟨p36, p37⟩ i_x1 i_x2 i_y2 i_y3 i_x3 sz) gX1_takeHeader_X1_take rfl ⟨rfl, rfl⟩ 0 (by decide) ⟨Nat.le_of_ble_eq_true rfl, Nat.le_of_ble_eq_true rfl⟩ 0 rfl rfl [0, 1, 2] [] rfl rfl (by decide) (by decide) (by decide) rfl rfl (Nat.le_of_ble_eq_true rfl) ⟨Nat.le_of_ble_eq_true rfl, Nat.le_of_ble_eq_true rfl⟩ (fun r45 u47 w46 => ?_)
      obtain ⟨z43, z44⟩ := u47
      refine r_ws [(h0, .inr (1, [.ref h3, .ref h4, .ref h1, .int z43, .long z44, .long y1, .int x1, .int x2, .long y2, .long y3])), (h1, .inr (4, [.ref h2, .int x3])), (h2, .inl (gB g, 1500, .inl fn0))] rfl ?_
      have p48 : -1 ≤ (Int32.toInt r45) := w46.1
      have p49 : (Int32.toInt r45) ≤ 255 := w46.2.1
      have p50 : 0 ≤ (Int32.toInt z43) := w46.2.2.1
      have p51 : (Int32.toInt z43) ≤ 2 := w46.2.2.2.1
      have p52 : -8589934592 ≤ (Int64.toInt z44) := w46.2.2.2.2.1
      have p53 : (Int64.toInt z44) ≤ 8589934592 := w46.2.2.2.2.2.1
      have p54 : SEQ (Int32.toInt z27) (Int32.toInt z43) (BYT (GB fn0 (Int32.toInt x3)) (Int32.toInt x3) (Int64.toInt y1) (Int64.toInt z28)) (fun v => v = (Int32.toInt r45) ∧ (Int64.toInt z44) = (Int64.toInt z28) + 1) := w46.2.2.2.2.2.2.1
      have p55 : (((Int32.toInt r45) = -1 ∧ 1 ≤ (Int32.toInt z43) ∧ (Int64.toInt z44) = (Int64.toInt z28)) ∨ ((Int32.toInt z27) = 0 ∧ (Int32.toInt z43) = 0 ∧ 0 ≤ (Int64.toInt z28) ∧ (Int64.toInt z28) < (Int32.toInt x3) ∧ (Int64.toInt z28) < (Int64.toInt y1) ∧ (Int64.toInt z44) = (Int64.toInt z28) + 1 ∧ 0 ≤ (Int32.toInt r45))) := w46.2.2.2.2.2.2.2
      rcases p55 with ⟨k56, k57, k58⟩ | p55
      · skip
        refine r_istore_n 31 C dX1_takeHeader_31 [(1, .int r45), (0, .ref h0)] (by decide) rfl ?_
        refine r_aload_n 32 1 C dX1_takeHeader_32 rfl ?_
        refine r_iload_n 33 0 C dX1_takeHeader_33 rfl ?_
        refine r_iconst 34 4 C dX1_takeHeader_34 (by decide) ?_
        refine r_icmp_lt_t 35 42 C dX1_takeHeader_35 (by decide) ((fa_lt r45 4).mpr (by show (Int32.toInt r45) < 4; omega)) ?_
        refine r_iconst 42 0 C dX1_takeHeader_42 (by decide) ?_
        refine r_callVv 43 C dX1_takeHeader_43 [] [(h0, .inr (1, [.ref h3, .ref h4, .ref h1, .int z43, .long z44, .long y1, .int x1, .int x2, .long y2, .long y3]))] [(h1, .inr (4, [.ref h2, .int x3])), (h2, .inl (gB g, 1500, .inl fn0))] (fun sz => c53_X1_want l g h0 0 h3 h4 h1 z43 z44 y1 x1 x2 y2 y3 (by decide) ⟨p50, p51⟩ ⟨p52, p53⟩ i_x1 i_x2 i_y2 i_y3 sz) gX1_takeHeader_X1_want rfl ⟨rfl, rfl⟩ 1 (by decide) ⟨Nat.le_of_ble_eq_true rfl, Nat.le_of_ble_eq_true rfl⟩ 0 rfl rfl [0] [1, 2] rfl rfl (by decide) (by decide) (by decide) rfl rfl (Nat.le_of_ble_eq_true rfl) ⟨Nat.le_of_ble_eq_true rfl, Nat.le_of_ble_eq_true rfl⟩ (fun  z59 w60 => ?_)
        refine r_ws [(h1, .inr (4, [.ref h2, .int x3])), (h2, .inl (gB g, 1500, .inl fn0)), (h0, .inr (1, [.ref h3, .ref h4, .ref h1, .int z59, .long z44, .long y1, .int x1, .int x2, .long y2, .long y3]))] rfl ?_
        have p61 : 0 ≤ (Int32.toInt z59) := w60.1
        have p62 : (Int32.toInt z59) ≤ 2 := w60.2.1
        have p63 : WNT (0 : Int) (Int32.toInt z43) (Int32.toInt z59) := w60.2.2.1
        have p64 : (((0 : Int) = 1 ∧ (Int32.toInt z59) = (Int32.toInt z43)) ∨ ((0 : Int) = 0 ∧ 1 ≤ (Int32.toInt z59))) := w60.2.2.2
        rcases p64 with ⟨k65, k66⟩ | p64
        · skip
          exact absurd trivial (by omega)
        obtain ⟨k67, k68⟩ := p64
        refine r_aload_n 46 1 C dX1_takeHeader_46 rfl ?_
        refine r_callVi 47 C dX1_takeHeader_47 [] [(h0, .inr (1, [.ref h3, .ref h4, .ref h1, .int z59, .long z44, .long y1, .int x1, .int x2, .long y2, .long y3])), (h1, .inr (4, [.ref h2, .int x3])), (h2, .inl (gB g, 1500, .inl fn0))] [] (fun sz => c52_X1_take l g h0 h1 h2 h3 h4 z59 z44 y1 x1 x2 y2 y3 x3 fn0 ⟨p61, p62⟩ ⟨p52, p53⟩ i_x1 i_x2 i_y2 i_y3 i_x3 sz) gX1_takeHeader_X1_take rfl ⟨rfl, rfl⟩ 0 (by decide) ⟨Nat.le_of_ble_eq_true rfl, Nat.le_of_ble_eq_true rfl⟩ 2 rfl rfl [2, 0, 1] [] rfl rfl (by decide) (by decide) (by decide) rfl rfl (Nat.le_of_ble_eq_true rfl) ⟨Nat.le_of_ble_eq_true rfl, Nat.le_of_ble_eq_true rfl⟩ (fun r71 u73 w72 => ?_)
        obtain ⟨z69, z70⟩ := u73
        refine r_ws [(h0, .inr (1, [.ref h3, .ref h4, .ref h1, .int z69, .long z70, .long y1, .int x1, .int x2, .long y2, .long y3])), (h1, .inr (4, [.ref h2, .int x3])), (h2, .inl (gB g, 1500, .inl fn0))] rfl ?_
        have p74 : -1 ≤ (Int32.toInt r71) := w72.1
        have p75 : (Int32.toInt r71) ≤ 255 := w72.2.1
        have p76 : 0 ≤ (Int32.toInt z69) := w72.2.2.1
        have p77 : (Int32.toInt z69) ≤ 2 := w72.2.2.2.1
        have p78 : -8589934592 ≤ (Int64.toInt z70) := w72.2.2.2.2.1
        have p79 : (Int64.toInt z70) ≤ 8589934592 := w72.2.2.2.2.2.1
        have p80 : SEQ (Int32.toInt z59) (Int32.toInt z69) (BYT (GB fn0 (Int32.toInt x3)) (Int32.toInt x3) (Int64.toInt y1) (Int64.toInt z44)) (fun v => v = (Int32.toInt r71) ∧ (Int64.toInt z70) = (Int64.toInt z44) + 1) := w72.2.2.2.2.2.2.1
        have p81 : (((Int32.toInt r71) = -1 ∧ 1 ≤ (Int32.toInt z69) ∧ (Int64.toInt z70) = (Int64.toInt z44)) ∨ ((Int32.toInt z59) = 0 ∧ (Int32.toInt z69) = 0 ∧ 0 ≤ (Int64.toInt z44) ∧ (Int64.toInt z44) < (Int32.toInt x3) ∧ (Int64.toInt z44) < (Int64.toInt y1) ∧ (Int64.toInt z70) = (Int64.toInt z44) + 1 ∧ 0 ≤ (Int32.toInt r71))) := w72.2.2.2.2.2.2.2
        rcases p81 with ⟨k82, k83, k84⟩ | p81
        · skip
          refine r_istore_n 50 C dX1_takeHeader_50 [(2, .int r71), (1, .int r45), (0, .ref h0)] (by decide) rfl ?_
          refine r_aload_n 51 2 C dX1_takeHeader_51 rfl ?_
          refine r_iload_n 52 0 C dX1_takeHeader_52 rfl ?_
          refine r_iconst 53 1 C dX1_takeHeader_53 (by decide) ?_
          refine r_icmp_lt_t 54 66 C dX1_takeHeader_54 (by decide) ((fa_lt r71 1).mpr (by show (Int32.toInt r71) < 1; omega)) ?_
          refine r_iconst 66 0 C dX1_takeHeader_66 (by decide) ?_
          refine r_callVv 67 C dX1_takeHeader_67 [] [(h0, .inr (1, [.ref h3, .ref h4, .ref h1, .int z69, .long z70, .long y1, .int x1, .int x2, .long y2, .long y3]))] [(h1, .inr (4, [.ref h2, .int x3])), (h2, .inl (gB g, 1500, .inl fn0))] (fun sz => c53_X1_want l g h0 0 h3 h4 h1 z69 z70 y1 x1 x2 y2 y3 (by decide) ⟨p76, p77⟩ ⟨p78, p79⟩ i_x1 i_x2 i_y2 i_y3 sz) gX1_takeHeader_X1_want rfl ⟨rfl, rfl⟩ 1 (by decide) ⟨Nat.le_of_ble_eq_true rfl, Nat.le_of_ble_eq_true rfl⟩ 0 rfl rfl [0] [1, 2] rfl rfl (by decide) (by decide) (by decide) rfl rfl (Nat.le_of_ble_eq_true rfl) ⟨Nat.le_of_ble_eq_true rfl, Nat.le_of_ble_eq_true rfl⟩ (fun  z85 w86 => ?_)
          refine r_ws [(h1, .inr (4, [.ref h2, .int x3])), (h2, .inl (gB g, 1500, .inl fn0)), (h0, .inr (1, [.ref h3, .ref h4, .ref h1, .int z85, .long z70, .long y1, .int x1, .int x2, .long y2, .long y3]))] rfl ?_
          have p87 : 0 ≤ (Int32.toInt z85) := w86.1
          have p88 : (Int32.toInt z85) ≤ 2 := w86.2.1
          have p89 : WNT (0 : Int) (Int32.toInt z69) (Int32.toInt z85) := w86.2.2.1
          have p90 : (((0 : Int) = 1 ∧ (Int32.toInt z85) = (Int32.toInt z69)) ∨ ((0 : Int) = 0 ∧ 1 ≤ (Int32.toInt z85))) := w86.2.2.2
          rcases p90 with ⟨k91, k92⟩ | p90
          · skip
            exact absurd trivial (by omega)
          obtain ⟨k93, k94⟩ := p90
          refine r_aload_n 70 2 C dX1_takeHeader_70 rfl ?_
          refine r_iload_n 71 1 C dX1_takeHeader_71 rfl ?_
          obtain ⟨z95, ez95⟩ : ∃ z_9, Int32.toInt64 r45 = z_9 := ⟨_, rfl⟩
          have tz95 : (Int64.toInt z95) = (Int32.toInt r45) := by rw [← ez95]; exact Int32.toInt_toInt64 _
          refine r_i2l 72 z95 C dX1_takeHeader_72 ez95 ?_
          refine r_put 73 C dX1_takeHeader_73 (k := 4) 2 rfl rfl hiX1 tyX1 tyX1_ok nmX1 (by decide) rfl (mg 1 rfl) (Or.inl rfl) rfl rfl rfl rfl (Nat.le_of_ble_eq_true rfl) [(h1, .inr (4, [.ref h2, .int x3])), (h2, .inl (gB g, 1500, .inl fn0)), (h0, .inr (1, [.ref h3, .ref h4, .ref h1, .int z85, .long z95, .long y1, .int x1, .int x2, .long y2, .long y3]))] rfl ?_
          exact r_vret 76 Rt dX1_takeHeader_76 (z85, z95) (show 0 ≤ (Int32.toInt z85) ∧ (Int32.toInt z85) ≤ 2 ∧ -8589934592 ≤ (Int64.toInt z95) ∧ (Int64.toInt z95) ≤ 8589934592 ∧ SEQ (Int32.toInt x0) (Int32.toInt z85) (HDR (GB fn0 (Int32.toInt x3)) (Int32.toInt x3)) (fun v => v = (Int64.toInt z95)) from ⟨(show _ ∧ _ from ⟨p87, p88⟩).1, (show _ ∧ _ from ⟨p87, p88⟩).2, (iv_wide (c := (-8589934592)) (d := 8589934592) (iv_eq ⟨p48, p49⟩ tz95) (by decide) (by decide)).1, (iv_wide (c := (-8589934592)) (d := 8589934592) (iv_eq ⟨p48, p49⟩ tz95) (by decide) (by decide)).2, (by exact hdr_pf pre0 p12 p21 p38 p54 p63 p80 p89 (by omega) (by omega) (by omega) (by omega))⟩) [2, 0, 1] (by decide) rfl (Nat.le_of_ble_eq_true rfl) (Nat.le_of_ble_eq_true rfl)
        obtain ⟨k96, k97, k98, k99, k100, k101, k102⟩ := p81
        exact absurd trivial (by omega)
      obtain ⟨k103, k104, k105, k106, k107, k108, k109⟩ := p55
      exact absurd trivial (by omega)
    obtain ⟨k110, k111, k112, k113, k114, k115, k116⟩ := p39
    exact absurd trivial (by omega)
  obtain ⟨k117, k118, k119, k120, k121, k122, k123⟩ := p13
  refine r_iconst 10 1 C dX1_takeHeader_10 (by decide) ?_
  refine r_icmp_ne 11 18 C dX1_takeHeader_11 (by decide) (fun c124 => ?_) (fun c124 => ?_)
  · skip
    have k125 : ¬ ((Int32.toInt r3) = 1) := fun h_9 => c124 ((fa_eq r3 1).mpr h_9)
    refine r_iconst 18 0 C dX1_takeHeader_18 (by decide) ?_
    refine r_callVv 19 C dX1_takeHeader_19 [] [(h0, .inr (1, [.ref h3, .ref h4, .ref h1, .int z1, .long z2, .long y1, .int x1, .int x2, .long y2, .long y3]))] [(h1, .inr (4, [.ref h2, .int x3])), (h2, .inl (gB g, 1500, .inl fn0))] (fun sz => c53_X1_want l g h0 0 h3 h4 h1 z1 z2 y1 x1 x2 y2 y3 (by decide) ⟨p8, p9⟩ ⟨p10, p11⟩ i_x1 i_x2 i_y2 i_y3 sz) gX1_takeHeader_X1_want rfl ⟨rfl, rfl⟩ 1 (by decide) ⟨Nat.le_of_ble_eq_true rfl, Nat.le_of_ble_eq_true rfl⟩ 0 rfl rfl [0] [1, 2] rfl rfl (by decide) (by decide) (by decide) rfl rfl (Nat.le_of_ble_eq_true rfl) ⟨Nat.le_of_ble_eq_true rfl, Nat.le_of_ble_eq_true rfl⟩ (fun  z126 w127 => ?_)
    refine r_ws [(h1, .inr (4, [.ref h2, .int x3])), (h2, .inl (gB g, 1500, .inl fn0)), (h0, .inr (1, [.ref h3, .ref h4, .ref h1, .int z126, .long z2, .long y1, .int x1, .int x2, .long y2, .long y3]))] rfl ?_
    have p128 : 0 ≤ (Int32.toInt z126) := w127.1
    have p129 : (Int32.toInt z126) ≤ 2 := w127.2.1
    have p130 : WNT (0 : Int) (Int32.toInt z1) (Int32.toInt z126) := w127.2.2.1
    have p131 : (((0 : Int) = 1 ∧ (Int32.toInt z126) = (Int32.toInt z1)) ∨ ((0 : Int) = 0 ∧ 1 ≤ (Int32.toInt z126))) := w127.2.2.2
    rcases p131 with ⟨k132, k133⟩ | p131
    · skip
      exact absurd trivial (by omega)
    obtain ⟨k134, k135⟩ := p131
    refine r_aload_n 22 0 C dX1_takeHeader_22 rfl ?_
    refine r_callVi 23 C dX1_takeHeader_23 [] [(h0, .inr (1, [.ref h3, .ref h4, .ref h1, .int z126, .long z2, .long y1, .int x1, .int x2, .long y2, .long y3])), (h1, .inr (4, [.ref h2, .int x3])), (h2, .inl (gB g, 1500, .inl fn0))] [] (fun sz => c52_X1_take l g h0 h1 h2 h3 h4 z126 z2 y1 x1 x2 y2 y3 x3 fn0 ⟨p128, p129⟩ ⟨p10, p11⟩ i_x1 i_x2 i_y2 i_y3 i_x3 sz) gX1_takeHeader_X1_take rfl ⟨rfl, rfl⟩ 0 (by decide) ⟨Nat.le_of_ble_eq_true rfl, Nat.le_of_ble_eq_true rfl⟩ 2 rfl rfl [2, 0, 1] [] rfl rfl (by decide) (by decide) (by decide) rfl rfl (Nat.le_of_ble_eq_true rfl) ⟨Nat.le_of_ble_eq_true rfl, Nat.le_of_ble_eq_true rfl⟩ (fun r138 u140 w139 => ?_)
    obtain ⟨z136, z137⟩ := u140
    refine r_ws [(h0, .inr (1, [.ref h3, .ref h4, .ref h1, .int z136, .long z137, .long y1, .int x1, .int x2, .long y2, .long y3])), (h1, .inr (4, [.ref h2, .int x3])), (h2, .inl (gB g, 1500, .inl fn0))] rfl ?_
    have p141 : -1 ≤ (Int32.toInt r138) := w139.1
    have p142 : (Int32.toInt r138) ≤ 255 := w139.2.1
    have p143 : 0 ≤ (Int32.toInt z136) := w139.2.2.1
    have p144 : (Int32.toInt z136) ≤ 2 := w139.2.2.2.1
    have p145 : -8589934592 ≤ (Int64.toInt z137) := w139.2.2.2.2.1
    have p146 : (Int64.toInt z137) ≤ 8589934592 := w139.2.2.2.2.2.1
    have p147 : SEQ (Int32.toInt z126) (Int32.toInt z136) (BYT (GB fn0 (Int32.toInt x3)) (Int32.toInt x3) (Int64.toInt y1) (Int64.toInt z2)) (fun v => v = (Int32.toInt r138) ∧ (Int64.toInt z137) = (Int64.toInt z2) + 1) := w139.2.2.2.2.2.2.1
    have p148 : (((Int32.toInt r138) = -1 ∧ 1 ≤ (Int32.toInt z136) ∧ (Int64.toInt z137) = (Int64.toInt z2)) ∨ ((Int32.toInt z126) = 0 ∧ (Int32.toInt z136) = 0 ∧ 0 ≤ (Int64.toInt z2) ∧ (Int64.toInt z2) < (Int32.toInt x3) ∧ (Int64.toInt z2) < (Int64.toInt y1) ∧ (Int64.toInt z137) = (Int64.toInt z2) + 1 ∧ 0 ≤ (Int32.toInt r138))) := w139.2.2.2.2.2.2.2
    rcases p148 with ⟨k149, k150, k151⟩ | p148
    · skip
      refine r_pop 26 C dX1_takeHeader_26 rfl ?_
      refine r_aload_n 27 0 C dX1_takeHeader_27 rfl ?_
      refine r_callVi 28 C dX1_takeHeader_28 [] [(h0, .inr (1, [.ref h3, .ref h4, .ref h1, .int z136, .long z137, .long y1, .int x1, .int x2, .long y2, .long y3])), (h1, .inr (4, [.ref h2, .int x3])), (h2, .inl (gB g, 1500, .inl fn0))] [] (fun sz => c52_X1_take l g h0 h1 h2 h3 h4 z136 z137 y1 x1 x2 y2 y3 x3 fn0 ⟨p143, p144⟩ ⟨p145, p146⟩ i_x1 i_x2 i_y2 i_y3 i_x3 sz) gX1_takeHeader_X1_take rfl ⟨rfl, rfl⟩ 0 (by decide) ⟨Nat.le_of_ble_eq_true rfl, Nat.le_of_ble_eq_true rfl⟩ 0 rfl rfl [0, 1, 2] [] rfl rfl (by decide) (by decide) (by decide) rfl rfl (Nat.le_of_ble_eq_true rfl) ⟨Nat.le_of_ble_eq_true rfl, Nat.le_of_ble_eq_true rfl⟩ (fun r154 u156 w155 => ?_)
      obtain ⟨z152, z153⟩ := u156
      refine r_ws [(h0, .inr (1, [.ref h3, .ref h4, .ref h1, .int z152, .long z153, .long y1, .int x1, .int x2, .long y2, .long y3])), (h1, .inr (4, [.ref h2, .int x3])), (h2, .inl (gB g, 1500, .inl fn0))] rfl ?_
      have p157 : -1 ≤ (Int32.toInt r154) := w155.1
      have p158 : (Int32.toInt r154) ≤ 255 := w155.2.1
      have p159 : 0 ≤ (Int32.toInt z152) := w155.2.2.1
      have p160 : (Int32.toInt z152) ≤ 2 := w155.2.2.2.1
      have p161 : -8589934592 ≤ (Int64.toInt z153) := w155.2.2.2.2.1
      have p162 : (Int64.toInt z153) ≤ 8589934592 := w155.2.2.2.2.2.1
      have p163 : SEQ (Int32.toInt z136) (Int32.toInt z152) (BYT (GB fn0 (Int32.toInt x3)) (Int32.toInt x3) (Int64.toInt y1) (Int64.toInt z137)) (fun v => v = (Int32.toInt r154) ∧ (Int64.toInt z153) = (Int64.toInt z137) + 1) := w155.2.2.2.2.2.2.1
      have p164 : (((Int32.toInt r154) = -1 ∧ 1 ≤ (Int32.toInt z152) ∧ (Int64.toInt z153) = (Int64.toInt z137)) ∨ ((Int32.toInt z136) = 0 ∧ (Int32.toInt z152) = 0 ∧ 0 ≤ (Int64.toInt z137) ∧ (Int64.toInt z137) < (Int32.toInt x3) ∧ (Int64.toInt z137) < (Int64.toInt y1) ∧ (Int64.toInt z153) = (Int64.toInt z137) + 1 ∧ 0 ≤ (Int32.toInt r154))) := w155.2.2.2.2.2.2.2
      rcases p164 with ⟨k165, k166, k167⟩ | p164
      · skip
        refine r_istore_n 31 C dX1_takeHeader_31 [(1, .int r154), (0, .ref h0)] (by decide) rfl ?_
        refine r_aload_n 32 1 C dX1_takeHeader_32 rfl ?_
        refine r_iload_n 33 0 C dX1_takeHeader_33 rfl ?_
        refine r_iconst 34 4 C dX1_takeHeader_34 (by decide) ?_
        refine r_icmp_lt_t 35 42 C dX1_takeHeader_35 (by decide) ((fa_lt r154 4).mpr (by show (Int32.toInt r154) < 4; omega)) ?_
        refine r_iconst 42 0 C dX1_takeHeader_42 (by decide) ?_
        refine r_callVv 43 C dX1_takeHeader_43 [] [(h0, .inr (1, [.ref h3, .ref h4, .ref h1, .int z152, .long z153, .long y1, .int x1, .int x2, .long y2, .long y3]))] [(h1, .inr (4, [.ref h2, .int x3])), (h2, .inl (gB g, 1500, .inl fn0))] (fun sz => c53_X1_want l g h0 0 h3 h4 h1 z152 z153 y1 x1 x2 y2 y3 (by decide) ⟨p159, p160⟩ ⟨p161, p162⟩ i_x1 i_x2 i_y2 i_y3 sz) gX1_takeHeader_X1_want rfl ⟨rfl, rfl⟩ 1 (by decide) ⟨Nat.le_of_ble_eq_true rfl, Nat.le_of_ble_eq_true rfl⟩ 0 rfl rfl [0] [1, 2] rfl rfl (by decide) (by decide) (by decide) rfl rfl (Nat.le_of_ble_eq_true rfl) ⟨Nat.le_of_ble_eq_true rfl, Nat.le_of_ble_eq_true rfl⟩ (fun  z168 w169 => ?_)
        refine r_ws [(h1, .inr (4, [.ref h2, .int x3])), (h2, .inl (gB g, 1500, .inl fn0)), (h0, .inr (1, [.ref h3, .ref h4, .ref h1, .int z168, .long z153, .long y1, .int x1, .int x2, .long y2, .long y3]))] rfl ?_
        have p170 : 0 ≤ (Int32.toInt z168) := w169.1
        have p171 : (Int32.toInt z168) ≤ 2 := w169.2.1
        have p172 : WNT (0 : Int) (Int32.toInt z152) (Int32.toInt z168) := w169.2.2.1
        have p173 : (((0 : Int) = 1 ∧ (Int32.toInt z168) = (Int32.toInt z152)) ∨ ((0 : Int) = 0 ∧ 1 ≤ (Int32.toInt z168))) := w169.2.2.2
        rcases p173 with ⟨k174, k175⟩ | p173
        · skip
          exact absurd trivial (by omega)
        obtain ⟨k176, k177⟩ := p173
        refine r_aload_n 46 1 C dX1_takeHeader_46 rfl ?_
        refine r_callVi 47 C dX1_takeHeader_47 [] [(h0, .inr (1, [.ref h3, .ref h4, .ref h1, .int z168, .long z153, .long y1, .int x1, .int x2, .long y2, .long y3])), (h1, .inr (4, [.ref h2, .int x3])), (h2, .inl (gB g, 1500, .inl fn0))] [] (fun sz => c52_X1_take l g h0 h1 h2 h3 h4 z168 z153 y1 x1 x2 y2 y3 x3 fn0 ⟨p170, p171⟩ ⟨p161, p162⟩ i_x1 i_x2 i_y2 i_y3 i_x3 sz) gX1_takeHeader_X1_take rfl ⟨rfl, rfl⟩ 0 (by decide) ⟨Nat.le_of_ble_eq_true rfl, Nat.le_of_ble_eq_true rfl⟩ 2 rfl rfl [2, 0, 1] [] rfl rfl (by decide) (by decide) (by decide) rfl rfl (Nat.le_of_ble_eq_true rfl) ⟨Nat.le_of_ble_eq_true rfl, Nat.le_of_ble_eq_true rfl⟩ (fun r180 u182 w181 => ?_)
        obtain ⟨z178, z179⟩ := u182
        refine r_ws [(h0, .inr (1, [.ref h3, .ref h4, .ref h1, .int z178, .long z179, .long y1, .int x1, .int x2, .long y2, .long y3])), (h1, .inr (4, [.ref h2, .int x3])), (h2, .inl (gB g, 1500, .inl fn0))] rfl ?_
        have p183 : -1 ≤ (Int32.toInt r180) := w181.1
        have p184 : (Int32.toInt r180) ≤ 255 := w181.2.1
        have p185 : 0 ≤ (Int32.toInt z178) := w181.2.2.1
        have p186 : (Int32.toInt z178) ≤ 2 := w181.2.2.2.1
        have p187 : -8589934592 ≤ (Int64.toInt z179) := w181.2.2.2.2.1
        have p188 : (Int64.toInt z179) ≤ 8589934592 := w181.2.2.2.2.2.1
        have p189 : SEQ (Int32.toInt z168) (Int32.toInt z178) (BYT (GB fn0 (Int32.toInt x3)) (Int32.toInt x3) (Int64.toInt y1) (Int64.toInt z153)) (fun v => v = (Int32.toInt r180) ∧ (Int64.toInt z179) = (Int64.toInt z153) + 1) := w181.2.2.2.2.2.2.1
        have p190 : (((Int32.toInt r180) = -1 ∧ 1 ≤ (Int32.toInt z178) ∧ (Int64.toInt z179) = (Int64.toInt z153)) ∨ ((Int32.toInt z168) = 0 ∧ (Int32.toInt z178) = 0 ∧ 0 ≤ (Int64.toInt z153) ∧ (Int64.toInt z153) < (Int32.toInt x3) ∧ (Int64.toInt z153) < (Int64.toInt y1) ∧ (Int64.toInt z179) = (Int64.toInt z153) + 1 ∧ 0 ≤ (Int32.toInt r180))) := w181.2.2.2.2.2.2.2
        rcases p190 with ⟨k191, k192, k193⟩ | p190
        · skip
          refine r_istore_n 50 C dX1_takeHeader_50 [(2, .int r180), (1, .int r154), (0, .ref h0)] (by decide) rfl ?_
          refine r_aload_n 51 2 C dX1_takeHeader_51 rfl ?_
          refine r_iload_n 52 0 C dX1_takeHeader_52 rfl ?_
          refine r_iconst 53 1 C dX1_takeHeader_53 (by decide) ?_
          refine r_icmp_lt_t 54 66 C dX1_takeHeader_54 (by decide) ((fa_lt r180 1).mpr (by show (Int32.toInt r180) < 1; omega)) ?_
          refine r_iconst 66 0 C dX1_takeHeader_66 (by decide) ?_
          refine r_callVv 67 C dX1_takeHeader_67 [] [(h0, .inr (1, [.ref h3, .ref h4, .ref h1, .int z178, .long z179, .long y1, .int x1, .int x2, .long y2, .long y3]))] [(h1, .inr (4, [.ref h2, .int x3])), (h2, .inl (gB g, 1500, .inl fn0))] (fun sz => c53_X1_want l g h0 0 h3 h4 h1 z178 z179 y1 x1 x2 y2 y3 (by decide) ⟨p185, p186⟩ ⟨p187, p188⟩ i_x1 i_x2 i_y2 i_y3 sz) gX1_takeHeader_X1_want rfl ⟨rfl, rfl⟩ 1 (by decide) ⟨Nat.le_of_ble_eq_true rfl, Nat.le_of_ble_eq_true rfl⟩ 0 rfl rfl [0] [1, 2] rfl rfl (by decide) (by decide) (by decide) rfl rfl (Nat.le_of_ble_eq_true rfl) ⟨Nat.le_of_ble_eq_true rfl, Nat.le_of_ble_eq_true rfl⟩ (fun  z194 w195 => ?_)
          refine r_ws [(h1, .inr (4, [.ref h2, .int x3])), (h2, .inl (gB g, 1500, .inl fn0)), (h0, .inr (1, [.ref h3, .ref h4, .ref h1, .int z194, .long z179, .long y1, .int x1, .int x2, .long y2, .long y3]))] rfl ?_
          have p196 : 0 ≤ (Int32.toInt z194) := w195.1
          have p197 : (Int32.toInt z194) ≤ 2 := w195.2.1
          have p198 : WNT (0 : Int) (Int32.toInt z178) (Int32.toInt z194) := w195.2.2.1
          have p199 : (((0 : Int) = 1 ∧ (Int32.toInt z194) = (Int32.toInt z178)) ∨ ((0 : Int) = 0 ∧ 1 ≤ (Int32.toInt z194))) := w195.2.2.2
          rcases p199 with ⟨k200, k201⟩ | p199
          · skip
            exact absurd trivial (by omega)
          obtain ⟨k202, k203⟩ := p199
          refine r_aload_n 70 2 C dX1_takeHeader_70 rfl ?_
          refine r_iload_n 71 1 C dX1_takeHeader_71 rfl ?_
          obtain ⟨z204, ez204⟩ : ∃ z_9, Int32.toInt64 r154 = z_9 := ⟨_, rfl⟩
          have tz204 : (Int64.toInt z204) = (Int32.toInt r154) := by rw [← ez204]; exact Int32.toInt_toInt64 _
          refine r_i2l 72 z204 C dX1_takeHeader_72 ez204 ?_
          refine r_put 73 C dX1_takeHeader_73 (k := 4) 2 rfl rfl hiX1 tyX1 tyX1_ok nmX1 (by decide) rfl (mg 1 rfl) (Or.inl rfl) rfl rfl rfl rfl (Nat.le_of_ble_eq_true rfl) [(h1, .inr (4, [.ref h2, .int x3])), (h2, .inl (gB g, 1500, .inl fn0)), (h0, .inr (1, [.ref h3, .ref h4, .ref h1, .int z194, .long z204, .long y1, .int x1, .int x2, .long y2, .long y3]))] rfl ?_
          exact r_vret 76 Rt dX1_takeHeader_76 (z194, z204) (show 0 ≤ (Int32.toInt z194) ∧ (Int32.toInt z194) ≤ 2 ∧ -8589934592 ≤ (Int64.toInt z204) ∧ (Int64.toInt z204) ≤ 8589934592 ∧ SEQ (Int32.toInt x0) (Int32.toInt z194) (HDR (GB fn0 (Int32.toInt x3)) (Int32.toInt x3)) (fun v => v = (Int64.toInt z204)) from ⟨(show _ ∧ _ from ⟨p196, p197⟩).1, (show _ ∧ _ from ⟨p196, p197⟩).2, (iv_wide (c := (-8589934592)) (d := 8589934592) (iv_eq ⟨p157, p158⟩ tz204) (by decide) (by decide)).1, (iv_wide (c := (-8589934592)) (d := 8589934592) (iv_eq ⟨p157, p158⟩ tz204) (by decide) (by decide)).2, (by exact hdr_pf pre0 p12 p130 p147 p163 p172 p189 p198 (by omega) (by omega) (by omega) (by omega))⟩) [2, 0, 1] (by decide) rfl (Nat.le_of_ble_eq_true rfl) (Nat.le_of_ble_eq_true rfl)
        obtain ⟨k205, k206, k207, k208, k209, k210, k211⟩ := p190
        exact absurd trivial (by omega)
      obtain ⟨k212, k213, k214, k215, k216, k217, k218⟩ := p164
      exact absurd trivial (by omega)
    obtain ⟨k219, k220, k221, k222, k223, k224, k225⟩ := p148
    exact absurd trivial (by omega)
  · skip
    have k226 : (Int32.toInt r3) = 1 := (fa_eq r3 1).mp c124
    refine r_iconst 14 1 C dX1_takeHeader_14 (by decide) ?_
    refine r_goto 15 19 C dX1_takeHeader_15 (by decide) ?_
    refine r_callVv 19 C dX1_takeHeader_19 [] [(h0, .inr (1, [.ref h3, .ref h4, .ref h1, .int z1, .long z2, .long y1, .int x1, .int x2, .long y2, .long y3]))] [(h1, .inr (4, [.ref h2, .int x3])), (h2, .inl (gB g, 1500, .inl fn0))] (fun sz => c53_X1_want l g h0 1 h3 h4 h1 z1 z2 y1 x1 x2 y2 y3 (by decide) ⟨p8, p9⟩ ⟨p10, p11⟩ i_x1 i_x2 i_y2 i_y3 sz) gX1_takeHeader_X1_want rfl ⟨rfl, rfl⟩ 1 (by decide) ⟨Nat.le_of_ble_eq_true rfl, Nat.le_of_ble_eq_true rfl⟩ 0 rfl rfl [0] [1, 2] rfl rfl (by decide) (by decide) (by decide) rfl rfl (Nat.le_of_ble_eq_true rfl) ⟨Nat.le_of_ble_eq_true rfl, Nat.le_of_ble_eq_true rfl⟩ (fun  z227 w228 => ?_)
    refine r_ws [(h1, .inr (4, [.ref h2, .int x3])), (h2, .inl (gB g, 1500, .inl fn0)), (h0, .inr (1, [.ref h3, .ref h4, .ref h1, .int z227, .long z2, .long y1, .int x1, .int x2, .long y2, .long y3]))] rfl ?_
    have p229 : 0 ≤ (Int32.toInt z227) := w228.1
    have p230 : (Int32.toInt z227) ≤ 2 := w228.2.1
    have p231 : WNT (1 : Int) (Int32.toInt z1) (Int32.toInt z227) := w228.2.2.1
    have p232 : (((1 : Int) = 1 ∧ (Int32.toInt z227) = (Int32.toInt z1)) ∨ ((1 : Int) = 0 ∧ 1 ≤ (Int32.toInt z227))) := w228.2.2.2
    rcases p232 with ⟨k233, k234⟩ | p232
    · skip
      refine r_aload_n 22 0 C dX1_takeHeader_22 rfl ?_
      refine r_callVi 23 C dX1_takeHeader_23 [] [(h0, .inr (1, [.ref h3, .ref h4, .ref h1, .int z227, .long z2, .long y1, .int x1, .int x2, .long y2, .long y3])), (h1, .inr (4, [.ref h2, .int x3])), (h2, .inl (gB g, 1500, .inl fn0))] [] (fun sz => c52_X1_take l g h0 h1 h2 h3 h4 z227 z2 y1 x1 x2 y2 y3 x3 fn0 ⟨p229, p230⟩ ⟨p10, p11⟩ i_x1 i_x2 i_y2 i_y3 i_x3 sz) gX1_takeHeader_X1_take rfl ⟨rfl, rfl⟩ 0 (by decide) ⟨Nat.le_of_ble_eq_true rfl, Nat.le_of_ble_eq_true rfl⟩ 2 rfl rfl [2, 0, 1] [] rfl rfl (by decide) (by decide) (by decide) rfl rfl (Nat.le_of_ble_eq_true rfl) ⟨Nat.le_of_ble_eq_true rfl, Nat.le_of_ble_eq_true rfl⟩ (fun r237 u239 w238 => ?_)
      obtain ⟨z235, z236⟩ := u239
      refine r_ws [(h0, .inr (1, [.ref h3, .ref h4, .ref h1, .int z235, .long z236, .long y1, .int x1, .int x2, .long y2, .long y3])), (h1, .inr (4, [.ref h2, .int x3])), (h2, .inl (gB g, 1500, .inl fn0))] rfl ?_
      have p240 : -1 ≤ (Int32.toInt r237) := w238.1
      have p241 : (Int32.toInt r237) ≤ 255 := w238.2.1
      have p242 : 0 ≤ (Int32.toInt z235) := w238.2.2.1
      have p243 : (Int32.toInt z235) ≤ 2 := w238.2.2.2.1
      have p244 : -8589934592 ≤ (Int64.toInt z236) := w238.2.2.2.2.1
      have p245 : (Int64.toInt z236) ≤ 8589934592 := w238.2.2.2.2.2.1
      have p246 : SEQ (Int32.toInt z227) (Int32.toInt z235) (BYT (GB fn0 (Int32.toInt x3)) (Int32.toInt x3) (Int64.toInt y1) (Int64.toInt z2)) (fun v => v = (Int32.toInt r237) ∧ (Int64.toInt z236) = (Int64.toInt z2) + 1) := w238.2.2.2.2.2.2.1
      have p247 : (((Int32.toInt r237) = -1 ∧ 1 ≤ (Int32.toInt z235) ∧ (Int64.toInt z236) = (Int64.toInt z2)) ∨ ((Int32.toInt z227) = 0 ∧ (Int32.toInt z235) = 0 ∧ 0 ≤ (Int64.toInt z2) ∧ (Int64.toInt z2) < (Int32.toInt x3) ∧ (Int64.toInt z2) < (Int64.toInt y1) ∧ (Int64.toInt z236) = (Int64.toInt z2) + 1 ∧ 0 ≤ (Int32.toInt r237))) := w238.2.2.2.2.2.2.2
      rcases p247 with ⟨k248, k249, k250⟩ | p247
      · skip
        refine r_pop 26 C dX1_takeHeader_26 rfl ?_
        refine r_aload_n 27 0 C dX1_takeHeader_27 rfl ?_
        refine r_callVi 28 C dX1_takeHeader_28 [] [(h0, .inr (1, [.ref h3, .ref h4, .ref h1, .int z235, .long z236, .long y1, .int x1, .int x2, .long y2, .long y3])), (h1, .inr (4, [.ref h2, .int x3])), (h2, .inl (gB g, 1500, .inl fn0))] [] (fun sz => c52_X1_take l g h0 h1 h2 h3 h4 z235 z236 y1 x1 x2 y2 y3 x3 fn0 ⟨p242, p243⟩ ⟨p244, p245⟩ i_x1 i_x2 i_y2 i_y3 i_x3 sz) gX1_takeHeader_X1_take rfl ⟨rfl, rfl⟩ 0 (by decide) ⟨Nat.le_of_ble_eq_true rfl, Nat.le_of_ble_eq_true rfl⟩ 0 rfl rfl [0, 1, 2] [] rfl rfl (by decide) (by decide) (by decide) rfl rfl (Nat.le_of_ble_eq_true rfl) ⟨Nat.le_of_ble_eq_true rfl, Nat.le_of_ble_eq_true rfl⟩ (fun r253 u255 w254 => ?_)
        obtain ⟨z251, z252⟩ := u255
        refine r_ws [(h0, .inr (1, [.ref h3, .ref h4, .ref h1, .int z251, .long z252, .long y1, .int x1, .int x2, .long y2, .long y3])), (h1, .inr (4, [.ref h2, .int x3])), (h2, .inl (gB g, 1500, .inl fn0))] rfl ?_
        have p256 : -1 ≤ (Int32.toInt r253) := w254.1
        have p257 : (Int32.toInt r253) ≤ 255 := w254.2.1
        have p258 : 0 ≤ (Int32.toInt z251) := w254.2.2.1
        have p259 : (Int32.toInt z251) ≤ 2 := w254.2.2.2.1
        have p260 : -8589934592 ≤ (Int64.toInt z252) := w254.2.2.2.2.1
        have p261 : (Int64.toInt z252) ≤ 8589934592 := w254.2.2.2.2.2.1
        have p262 : SEQ (Int32.toInt z235) (Int32.toInt z251) (BYT (GB fn0 (Int32.toInt x3)) (Int32.toInt x3) (Int64.toInt y1) (Int64.toInt z236)) (fun v => v = (Int32.toInt r253) ∧ (Int64.toInt z252) = (Int64.toInt z236) + 1) := w254.2.2.2.2.2.2.1
        have p263 : (((Int32.toInt r253) = -1 ∧ 1 ≤ (Int32.toInt z251) ∧ (Int64.toInt z252) = (Int64.toInt z236)) ∨ ((Int32.toInt z235) = 0 ∧ (Int32.toInt z251) = 0 ∧ 0 ≤ (Int64.toInt z236) ∧ (Int64.toInt z236) < (Int32.toInt x3) ∧ (Int64.toInt z236) < (Int64.toInt y1) ∧ (Int64.toInt z252) = (Int64.toInt z236) + 1 ∧ 0 ≤ (Int32.toInt r253))) := w254.2.2.2.2.2.2.2
        rcases p263 with ⟨k264, k265, k266⟩ | p263
        · skip
          refine r_istore_n 31 C dX1_takeHeader_31 [(1, .int r253), (0, .ref h0)] (by decide) rfl ?_
          refine r_aload_n 32 1 C dX1_takeHeader_32 rfl ?_
          refine r_iload_n 33 0 C dX1_takeHeader_33 rfl ?_
          refine r_iconst 34 4 C dX1_takeHeader_34 (by decide) ?_
          refine r_icmp_lt_t 35 42 C dX1_takeHeader_35 (by decide) ((fa_lt r253 4).mpr (by show (Int32.toInt r253) < 4; omega)) ?_
          refine r_iconst 42 0 C dX1_takeHeader_42 (by decide) ?_
          refine r_callVv 43 C dX1_takeHeader_43 [] [(h0, .inr (1, [.ref h3, .ref h4, .ref h1, .int z251, .long z252, .long y1, .int x1, .int x2, .long y2, .long y3]))] [(h1, .inr (4, [.ref h2, .int x3])), (h2, .inl (gB g, 1500, .inl fn0))] (fun sz => c53_X1_want l g h0 0 h3 h4 h1 z251 z252 y1 x1 x2 y2 y3 (by decide) ⟨p258, p259⟩ ⟨p260, p261⟩ i_x1 i_x2 i_y2 i_y3 sz) gX1_takeHeader_X1_want rfl ⟨rfl, rfl⟩ 1 (by decide) ⟨Nat.le_of_ble_eq_true rfl, Nat.le_of_ble_eq_true rfl⟩ 0 rfl rfl [0] [1, 2] rfl rfl (by decide) (by decide) (by decide) rfl rfl (Nat.le_of_ble_eq_true rfl) ⟨Nat.le_of_ble_eq_true rfl, Nat.le_of_ble_eq_true rfl⟩ (fun  z267 w268 => ?_)
          refine r_ws [(h1, .inr (4, [.ref h2, .int x3])), (h2, .inl (gB g, 1500, .inl fn0)), (h0, .inr (1, [.ref h3, .ref h4, .ref h1, .int z267, .long z252, .long y1, .int x1, .int x2, .long y2, .long y3]))] rfl ?_
          have p269 : 0 ≤ (Int32.toInt z267) := w268.1
          have p270 : (Int32.toInt z267) ≤ 2 := w268.2.1
          have p271 : WNT (0 : Int) (Int32.toInt z251) (Int32.toInt z267) := w268.2.2.1
          have p272 : (((0 : Int) = 1 ∧ (Int32.toInt z267) = (Int32.toInt z251)) ∨ ((0 : Int) = 0 ∧ 1 ≤ (Int32.toInt z267))) := w268.2.2.2
          rcases p272 with ⟨k273, k274⟩ | p272
          · skip
            exact absurd trivial (by omega)
          obtain ⟨k275, k276⟩ := p272
          refine r_aload_n 46 1 C dX1_takeHeader_46 rfl ?_
          refine r_callVi 47 C dX1_takeHeader_47 [] [(h0, .inr (1, [.ref h3, .ref h4, .ref h1, .int z267, .long z252, .long y1, .int x1, .int x2, .long y2, .long y3])), (h1, .inr (4, [.ref h2, .int x3])), (h2, .inl (gB g, 1500, .inl fn0))] [] (fun sz => c52_X1_take l g h0 h1 h2 h3 h4 z267 z252 y1 x1 x2 y2 y3 x3 fn0 ⟨p269, p270⟩ ⟨p260, p261⟩ i_x1 i_x2 i_y2 i_y3 i_x3 sz) gX1_takeHeader_X1_take rfl ⟨rfl, rfl⟩ 0 (by decide) ⟨Nat.le_of_ble_eq_true rfl, Nat.le_of_ble_eq_true rfl⟩ 2 rfl rfl [2, 0, 1] [] rfl rfl (by decide) (by decide) (by decide) rfl rfl (Nat.le_of_ble_eq_true rfl) ⟨Nat.le_of_ble_eq_true rfl, Nat.le_of_ble_eq_true rfl⟩ (fun r279 u281 w280 => ?_)
          obtain ⟨z277, z278⟩ := u281
          refine r_ws [(h0, .inr (1, [.ref h3, .ref h4, .ref h1, .int z277, .long z278, .long y1, .int x1, .int x2, .long y2, .long y3])), (h1, .inr (4, [.ref h2, .int x3])), (h2, .inl (gB g, 1500, .inl fn0))] rfl ?_
          have p282 : -1 ≤ (Int32.toInt r279) := w280.1
          have p283 : (Int32.toInt r279) ≤ 255 := w280.2.1
          have p284 : 0 ≤ (Int32.toInt z277) := w280.2.2.1
          have p285 : (Int32.toInt z277) ≤ 2 := w280.2.2.2.1
          have p286 : -8589934592 ≤ (Int64.toInt z278) := w280.2.2.2.2.1
          have p287 : (Int64.toInt z278) ≤ 8589934592 := w280.2.2.2.2.2.1
          have p288 : SEQ (Int32.toInt z267) (Int32.toInt z277) (BYT (GB fn0 (Int32.toInt x3)) (Int32.toInt x3) (Int64.toInt y1) (Int64.toInt z252)) (fun v => v = (Int32.toInt r279) ∧ (Int64.toInt z278) = (Int64.toInt z252) + 1) := w280.2.2.2.2.2.2.1
          have p289 : (((Int32.toInt r279) = -1 ∧ 1 ≤ (Int32.toInt z277) ∧ (Int64.toInt z278) = (Int64.toInt z252)) ∨ ((Int32.toInt z267) = 0 ∧ (Int32.toInt z277) = 0 ∧ 0 ≤ (Int64.toInt z252) ∧ (Int64.toInt z252) < (Int32.toInt x3) ∧ (Int64.toInt z252) < (Int64.toInt y1) ∧ (Int64.toInt z278) = (Int64.toInt z252) + 1 ∧ 0 ≤ (Int32.toInt r279))) := w280.2.2.2.2.2.2.2
          rcases p289 with ⟨k290, k291, k292⟩ | p289
          · skip
            refine r_istore_n 50 C dX1_takeHeader_50 [(2, .int r279), (1, .int r253), (0, .ref h0)] (by decide) rfl ?_
            refine r_aload_n 51 2 C dX1_takeHeader_51 rfl ?_
            refine r_iload_n 52 0 C dX1_takeHeader_52 rfl ?_
            refine r_iconst 53 1 C dX1_takeHeader_53 (by decide) ?_
            refine r_icmp_lt_t 54 66 C dX1_takeHeader_54 (by decide) ((fa_lt r279 1).mpr (by show (Int32.toInt r279) < 1; omega)) ?_
            refine r_iconst 66 0 C dX1_takeHeader_66 (by decide) ?_
            refine r_callVv 67 C dX1_takeHeader_67 [] [(h0, .inr (1, [.ref h3, .ref h4, .ref h1, .int z277, .long z278, .long y1, .int x1, .int x2, .long y2, .long y3]))] [(h1, .inr (4, [.ref h2, .int x3])), (h2, .inl (gB g, 1500, .inl fn0))] (fun sz => c53_X1_want l g h0 0 h3 h4 h1 z277 z278 y1 x1 x2 y2 y3 (by decide) ⟨p284, p285⟩ ⟨p286, p287⟩ i_x1 i_x2 i_y2 i_y3 sz) gX1_takeHeader_X1_want rfl ⟨rfl, rfl⟩ 1 (by decide) ⟨Nat.le_of_ble_eq_true rfl, Nat.le_of_ble_eq_true rfl⟩ 0 rfl rfl [0] [1, 2] rfl rfl (by decide) (by decide) (by decide) rfl rfl (Nat.le_of_ble_eq_true rfl) ⟨Nat.le_of_ble_eq_true rfl, Nat.le_of_ble_eq_true rfl⟩ (fun  z293 w294 => ?_)
            refine r_ws [(h1, .inr (4, [.ref h2, .int x3])), (h2, .inl (gB g, 1500, .inl fn0)), (h0, .inr (1, [.ref h3, .ref h4, .ref h1, .int z293, .long z278, .long y1, .int x1, .int x2, .long y2, .long y3]))] rfl ?_
            have p295 : 0 ≤ (Int32.toInt z293) := w294.1
            have p296 : (Int32.toInt z293) ≤ 2 := w294.2.1
            have p297 : WNT (0 : Int) (Int32.toInt z277) (Int32.toInt z293) := w294.2.2.1
            have p298 : (((0 : Int) = 1 ∧ (Int32.toInt z293) = (Int32.toInt z277)) ∨ ((0 : Int) = 0 ∧ 1 ≤ (Int32.toInt z293))) := w294.2.2.2
            rcases p298 with ⟨k299, k300⟩ | p298
            · skip
              exact absurd trivial (by omega)
            obtain ⟨k301, k302⟩ := p298
            refine r_aload_n 70 2 C dX1_takeHeader_70 rfl ?_
            refine r_iload_n 71 1 C dX1_takeHeader_71 rfl ?_
            obtain ⟨z303, ez303⟩ : ∃ z_9, Int32.toInt64 r253 = z_9 := ⟨_, rfl⟩
            have tz303 : (Int64.toInt z303) = (Int32.toInt r253) := by rw [← ez303]; exact Int32.toInt_toInt64 _
            refine r_i2l 72 z303 C dX1_takeHeader_72 ez303 ?_
            refine r_put 73 C dX1_takeHeader_73 (k := 4) 2 rfl rfl hiX1 tyX1 tyX1_ok nmX1 (by decide) rfl (mg 1 rfl) (Or.inl rfl) rfl rfl rfl rfl (Nat.le_of_ble_eq_true rfl) [(h1, .inr (4, [.ref h2, .int x3])), (h2, .inl (gB g, 1500, .inl fn0)), (h0, .inr (1, [.ref h3, .ref h4, .ref h1, .int z293, .long z303, .long y1, .int x1, .int x2, .long y2, .long y3]))] rfl ?_
            exact r_vret 76 Rt dX1_takeHeader_76 (z293, z303) (show 0 ≤ (Int32.toInt z293) ∧ (Int32.toInt z293) ≤ 2 ∧ -8589934592 ≤ (Int64.toInt z303) ∧ (Int64.toInt z303) ≤ 8589934592 ∧ SEQ (Int32.toInt x0) (Int32.toInt z293) (HDR (GB fn0 (Int32.toInt x3)) (Int32.toInt x3)) (fun v => v = (Int64.toInt z303)) from ⟨(show _ ∧ _ from ⟨p295, p296⟩).1, (show _ ∧ _ from ⟨p295, p296⟩).2, (iv_wide (c := (-8589934592)) (d := 8589934592) (iv_eq ⟨p256, p257⟩ tz303) (by decide) (by decide)).1, (iv_wide (c := (-8589934592)) (d := 8589934592) (iv_eq ⟨p256, p257⟩ tz303) (by decide) (by decide)).2, (by exact hdr_pf pre0 p12 p231 p246 p262 p271 p288 p297 (by omega) (by omega) (by omega) (by omega))⟩) [2, 0, 1] (by decide) rfl (Nat.le_of_ble_eq_true rfl) (Nat.le_of_ble_eq_true rfl)
          obtain ⟨k304, k305, k306, k307, k308, k309, k310⟩ := p289
          exact absurd trivial (by omega)
        obtain ⟨k311, k312, k313, k314, k315, k316, k317⟩ := p263
        exact absurd trivial (by omega)
      obtain ⟨k318, k319, k320, k321, k322, k323, k324⟩ := p247
      refine r_pop 26 C dX1_takeHeader_26 rfl ?_
      refine r_aload_n 27 0 C dX1_takeHeader_27 rfl ?_
      refine r_callVi 28 C dX1_takeHeader_28 [] [(h0, .inr (1, [.ref h3, .ref h4, .ref h1, .int z235, .long z236, .long y1, .int x1, .int x2, .long y2, .long y3])), (h1, .inr (4, [.ref h2, .int x3])), (h2, .inl (gB g, 1500, .inl fn0))] [] (fun sz => c52_X1_take l g h0 h1 h2 h3 h4 z235 z236 y1 x1 x2 y2 y3 x3 fn0 ⟨p242, p243⟩ ⟨p244, p245⟩ i_x1 i_x2 i_y2 i_y3 i_x3 sz) gX1_takeHeader_X1_take rfl ⟨rfl, rfl⟩ 0 (by decide) ⟨Nat.le_of_ble_eq_true rfl, Nat.le_of_ble_eq_true rfl⟩ 0 rfl rfl [0, 1, 2] [] rfl rfl (by decide) (by decide) (by decide) rfl rfl (Nat.le_of_ble_eq_true rfl) ⟨Nat.le_of_ble_eq_true rfl, Nat.le_of_ble_eq_true rfl⟩ (fun r327 u329 w328 => ?_)
      obtain ⟨z325, z326⟩ := u329
      refine r_ws [(h0, .inr (1, [.ref h3, .ref h4, .ref h1, .int z325, .long z326, .long y1, .int x1, .int x2, .long y2, .long y3])), (h1, .inr (4, [.ref h2, .int x3])), (h2, .inl (gB g, 1500, .inl fn0))] rfl ?_
      have p330 : -1 ≤ (Int32.toInt r327) := w328.1
      have p331 : (Int32.toInt r327) ≤ 255 := w328.2.1
      have p332 : 0 ≤ (Int32.toInt z325) := w328.2.2.1
      have p333 : (Int32.toInt z325) ≤ 2 := w328.2.2.2.1
      have p334 : -8589934592 ≤ (Int64.toInt z326) := w328.2.2.2.2.1
      have p335 : (Int64.toInt z326) ≤ 8589934592 := w328.2.2.2.2.2.1
      have p336 : SEQ (Int32.toInt z235) (Int32.toInt z325) (BYT (GB fn0 (Int32.toInt x3)) (Int32.toInt x3) (Int64.toInt y1) (Int64.toInt z236)) (fun v => v = (Int32.toInt r327) ∧ (Int64.toInt z326) = (Int64.toInt z236) + 1) := w328.2.2.2.2.2.2.1
      have p337 : (((Int32.toInt r327) = -1 ∧ 1 ≤ (Int32.toInt z325) ∧ (Int64.toInt z326) = (Int64.toInt z236)) ∨ ((Int32.toInt z235) = 0 ∧ (Int32.toInt z325) = 0 ∧ 0 ≤ (Int64.toInt z236) ∧ (Int64.toInt z236) < (Int32.toInt x3) ∧ (Int64.toInt z236) < (Int64.toInt y1) ∧ (Int64.toInt z326) = (Int64.toInt z236) + 1 ∧ 0 ≤ (Int32.toInt r327))) := w328.2.2.2.2.2.2.2
      rcases p337 with ⟨k338, k339, k340⟩ | p337
      · skip
        refine r_istore_n 31 C dX1_takeHeader_31 [(1, .int r327), (0, .ref h0)] (by decide) rfl ?_
        refine r_aload_n 32 1 C dX1_takeHeader_32 rfl ?_
        refine r_iload_n 33 0 C dX1_takeHeader_33 rfl ?_
        refine r_iconst 34 4 C dX1_takeHeader_34 (by decide) ?_
        refine r_icmp_lt_t 35 42 C dX1_takeHeader_35 (by decide) ((fa_lt r327 4).mpr (by show (Int32.toInt r327) < 4; omega)) ?_
        refine r_iconst 42 0 C dX1_takeHeader_42 (by decide) ?_
        refine r_callVv 43 C dX1_takeHeader_43 [] [(h0, .inr (1, [.ref h3, .ref h4, .ref h1, .int z325, .long z326, .long y1, .int x1, .int x2, .long y2, .long y3]))] [(h1, .inr (4, [.ref h2, .int x3])), (h2, .inl (gB g, 1500, .inl fn0))] (fun sz => c53_X1_want l g h0 0 h3 h4 h1 z325 z326 y1 x1 x2 y2 y3 (by decide) ⟨p332, p333⟩ ⟨p334, p335⟩ i_x1 i_x2 i_y2 i_y3 sz) gX1_takeHeader_X1_want rfl ⟨rfl, rfl⟩ 1 (by decide) ⟨Nat.le_of_ble_eq_true rfl, Nat.le_of_ble_eq_true rfl⟩ 0 rfl rfl [0] [1, 2] rfl rfl (by decide) (by decide) (by decide) rfl rfl (Nat.le_of_ble_eq_true rfl) ⟨Nat.le_of_ble_eq_true rfl, Nat.le_of_ble_eq_true rfl⟩ (fun  z341 w342 => ?_)
        refine r_ws [(h1, .inr (4, [.ref h2, .int x3])), (h2, .inl (gB g, 1500, .inl fn0)), (h0, .inr (1, [.ref h3, .ref h4, .ref h1, .int z341, .long z326, .long y1, .int x1, .int x2, .long y2, .long y3]))] rfl ?_
        have p343 : 0 ≤ (Int32.toInt z341) := w342.1
        have p344 : (Int32.toInt z341) ≤ 2 := w342.2.1
        have p345 : WNT (0 : Int) (Int32.toInt z325) (Int32.toInt z341) := w342.2.2.1
        have p346 : (((0 : Int) = 1 ∧ (Int32.toInt z341) = (Int32.toInt z325)) ∨ ((0 : Int) = 0 ∧ 1 ≤ (Int32.toInt z341))) := w342.2.2.2
        rcases p346 with ⟨k347, k348⟩ | p346
        · skip
          exact absurd trivial (by omega)
        obtain ⟨k349, k350⟩ := p346
        refine r_aload_n 46 1 C dX1_takeHeader_46 rfl ?_
        refine r_callVi 47 C dX1_takeHeader_47 [] [(h0, .inr (1, [.ref h3, .ref h4, .ref h1, .int z341, .long z326, .long y1, .int x1, .int x2, .long y2, .long y3])), (h1, .inr (4, [.ref h2, .int x3])), (h2, .inl (gB g, 1500, .inl fn0))] [] (fun sz => c52_X1_take l g h0 h1 h2 h3 h4 z341 z326 y1 x1 x2 y2 y3 x3 fn0 ⟨p343, p344⟩ ⟨p334, p335⟩ i_x1 i_x2 i_y2 i_y3 i_x3 sz) gX1_takeHeader_X1_take rfl ⟨rfl, rfl⟩ 0 (by decide) ⟨Nat.le_of_ble_eq_true rfl, Nat.le_of_ble_eq_true rfl⟩ 2 rfl rfl [2, 0, 1] [] rfl rfl (by decide) (by decide) (by decide) rfl rfl (Nat.le_of_ble_eq_true rfl) ⟨Nat.le_of_ble_eq_true rfl, Nat.le_of_ble_eq_true rfl⟩ (fun r353 u355 w354 => ?_)
        obtain ⟨z351, z352⟩ := u355
        refine r_ws [(h0, .inr (1, [.ref h3, .ref h4, .ref h1, .int z351, .long z352, .long y1, .int x1, .int x2, .long y2, .long y3])), (h1, .inr (4, [.ref h2, .int x3])), (h2, .inl (gB g, 1500, .inl fn0))] rfl ?_
        have p356 : -1 ≤ (Int32.toInt r353) := w354.1
        have p357 : (Int32.toInt r353) ≤ 255 := w354.2.1
        have p358 : 0 ≤ (Int32.toInt z351) := w354.2.2.1
        have p359 : (Int32.toInt z351) ≤ 2 := w354.2.2.2.1
        have p360 : -8589934592 ≤ (Int64.toInt z352) := w354.2.2.2.2.1
        have p361 : (Int64.toInt z352) ≤ 8589934592 := w354.2.2.2.2.2.1
        have p362 : SEQ (Int32.toInt z341) (Int32.toInt z351) (BYT (GB fn0 (Int32.toInt x3)) (Int32.toInt x3) (Int64.toInt y1) (Int64.toInt z326)) (fun v => v = (Int32.toInt r353) ∧ (Int64.toInt z352) = (Int64.toInt z326) + 1) := w354.2.2.2.2.2.2.1
        have p363 : (((Int32.toInt r353) = -1 ∧ 1 ≤ (Int32.toInt z351) ∧ (Int64.toInt z352) = (Int64.toInt z326)) ∨ ((Int32.toInt z341) = 0 ∧ (Int32.toInt z351) = 0 ∧ 0 ≤ (Int64.toInt z326) ∧ (Int64.toInt z326) < (Int32.toInt x3) ∧ (Int64.toInt z326) < (Int64.toInt y1) ∧ (Int64.toInt z352) = (Int64.toInt z326) + 1 ∧ 0 ≤ (Int32.toInt r353))) := w354.2.2.2.2.2.2.2
        rcases p363 with ⟨k364, k365, k366⟩ | p363
        · skip
          refine r_istore_n 50 C dX1_takeHeader_50 [(2, .int r353), (1, .int r327), (0, .ref h0)] (by decide) rfl ?_
          refine r_aload_n 51 2 C dX1_takeHeader_51 rfl ?_
          refine r_iload_n 52 0 C dX1_takeHeader_52 rfl ?_
          refine r_iconst 53 1 C dX1_takeHeader_53 (by decide) ?_
          refine r_icmp_lt_t 54 66 C dX1_takeHeader_54 (by decide) ((fa_lt r353 1).mpr (by show (Int32.toInt r353) < 1; omega)) ?_
          refine r_iconst 66 0 C dX1_takeHeader_66 (by decide) ?_
          refine r_callVv 67 C dX1_takeHeader_67 [] [(h0, .inr (1, [.ref h3, .ref h4, .ref h1, .int z351, .long z352, .long y1, .int x1, .int x2, .long y2, .long y3]))] [(h1, .inr (4, [.ref h2, .int x3])), (h2, .inl (gB g, 1500, .inl fn0))] (fun sz => c53_X1_want l g h0 0 h3 h4 h1 z351 z352 y1 x1 x2 y2 y3 (by decide) ⟨p358, p359⟩ ⟨p360, p361⟩ i_x1 i_x2 i_y2 i_y3 sz) gX1_takeHeader_X1_want rfl ⟨rfl, rfl⟩ 1 (by decide) ⟨Nat.le_of_ble_eq_true rfl, Nat.le_of_ble_eq_true rfl⟩ 0 rfl rfl [0] [1, 2] rfl rfl (by decide) (by decide) (by decide) rfl rfl (Nat.le_of_ble_eq_true rfl) ⟨Nat.le_of_ble_eq_true rfl, Nat.le_of_ble_eq_true rfl⟩ (fun  z367 w368 => ?_)
          refine r_ws [(h1, .inr (4, [.ref h2, .int x3])), (h2, .inl (gB g, 1500, .inl fn0)), (h0, .inr (1, [.ref h3, .ref h4, .ref h1, .int z367, .long z352, .long y1, .int x1, .int x2, .long y2, .long y3]))] rfl ?_
          have p369 : 0 ≤ (Int32.toInt z367) := w368.1
          have p370 : (Int32.toInt z367) ≤ 2 := w368.2.1
          have p371 : WNT (0 : Int) (Int32.toInt z351) (Int32.toInt z367) := w368.2.2.1
          have p372 : (((0 : Int) = 1 ∧ (Int32.toInt z367) = (Int32.toInt z351)) ∨ ((0 : Int) = 0 ∧ 1 ≤ (Int32.toInt z367))) := w368.2.2.2
          rcases p372 with ⟨k373, k374⟩ | p372
          · skip
            exact absurd trivial (by omega)
          obtain ⟨k375, k376⟩ := p372
          refine r_aload_n 70 2 C dX1_takeHeader_70 rfl ?_
          refine r_iload_n 71 1 C dX1_takeHeader_71 rfl ?_
          obtain ⟨z377, ez377⟩ : ∃ z_9, Int32.toInt64 r327 = z_9 := ⟨_, rfl⟩
          have tz377 : (Int64.toInt z377) = (Int32.toInt r327) := by rw [← ez377]; exact Int32.toInt_toInt64 _
          refine r_i2l 72 z377 C dX1_takeHeader_72 ez377 ?_
          refine r_put 73 C dX1_takeHeader_73 (k := 4) 2 rfl rfl hiX1 tyX1 tyX1_ok nmX1 (by decide) rfl (mg 1 rfl) (Or.inl rfl) rfl rfl rfl rfl (Nat.le_of_ble_eq_true rfl) [(h1, .inr (4, [.ref h2, .int x3])), (h2, .inl (gB g, 1500, .inl fn0)), (h0, .inr (1, [.ref h3, .ref h4, .ref h1, .int z367, .long z377, .long y1, .int x1, .int x2, .long y2, .long y3]))] rfl ?_
          exact r_vret 76 Rt dX1_takeHeader_76 (z367, z377) (show 0 ≤ (Int32.toInt z367) ∧ (Int32.toInt z367) ≤ 2 ∧ -8589934592 ≤ (Int64.toInt z377) ∧ (Int64.toInt z377) ≤ 8589934592 ∧ SEQ (Int32.toInt x0) (Int32.toInt z367) (HDR (GB fn0 (Int32.toInt x3)) (Int32.toInt x3)) (fun v => v = (Int64.toInt z377)) from ⟨(show _ ∧ _ from ⟨p369, p370⟩).1, (show _ ∧ _ from ⟨p369, p370⟩).2, (iv_wide (c := (-8589934592)) (d := 8589934592) (iv_eq ⟨p330, p331⟩ tz377) (by decide) (by decide)).1, (iv_wide (c := (-8589934592)) (d := 8589934592) (iv_eq ⟨p330, p331⟩ tz377) (by decide) (by decide)).2, (by exact hdr_pf pre0 p12 p231 p246 p336 p345 p362 p371 (by omega) (by omega) (by omega) (by omega))⟩) [2, 0, 1] (by decide) rfl (Nat.le_of_ble_eq_true rfl) (Nat.le_of_ble_eq_true rfl)
        obtain ⟨k378, k379, k380, k381, k382, k383, k384⟩ := p363
        exact absurd trivial (by omega)
      obtain ⟨k385, k386, k387, k388, k389, k390, k391⟩ := p337
      refine r_istore_n 31 C dX1_takeHeader_31 [(1, .int r327), (0, .ref h0)] (by decide) rfl ?_
      refine r_aload_n 32 1 C dX1_takeHeader_32 rfl ?_
      refine r_iload_n 33 0 C dX1_takeHeader_33 rfl ?_
      refine r_iconst 34 4 C dX1_takeHeader_34 (by decide) ?_
      refine r_icmp_lt 35 42 C dX1_takeHeader_35 (by decide) (fun c392 => ?_) (fun c392 => ?_)
      · skip
        have k393 : (Int32.toInt r327) < 4 := (fa_lt r327 4).mp c392
        refine r_iconst 42 0 C dX1_takeHeader_42 (by decide) ?_
        refine r_callVv 43 C dX1_takeHeader_43 [] [(h0, .inr (1, [.ref h3, .ref h4, .ref h1, .int z325, .long z326, .long y1, .int x1, .int x2, .long y2, .long y3]))] [(h1, .inr (4, [.ref h2, .int x3])), (h2, .inl (gB g, 1500, .inl fn0))] (fun sz => c53_X1_want l g h0 0 h3 h4 h1 z325 z326 y1 x1 x2 y2 y3 (by decide) ⟨p332, p333⟩ ⟨p334, p335⟩ i_x1 i_x2 i_y2 i_y3 sz) gX1_takeHeader_X1_want rfl ⟨rfl, rfl⟩ 1 (by decide) ⟨Nat.le_of_ble_eq_true rfl, Nat.le_of_ble_eq_true rfl⟩ 0 rfl rfl [0] [1, 2] rfl rfl (by decide) (by decide) (by decide) rfl rfl (Nat.le_of_ble_eq_true rfl) ⟨Nat.le_of_ble_eq_true rfl, Nat.le_of_ble_eq_true rfl⟩ (fun  z394 w395 => ?_)
        refine r_ws [(h1, .inr (4, [.ref h2, .int x3])), (h2, .inl (gB g, 1500, .inl fn0)), (h0, .inr (1, [.ref h3, .ref h4, .ref h1, .int z394, .long z326, .long y1, .int x1, .int x2, .long y2, .long y3]))] rfl ?_
        have p396 : 0 ≤ (Int32.toInt z394) := w395.1
        have p397 : (Int32.toInt z394) ≤ 2 := w395.2.1
        have p398 : WNT (0 : Int) (Int32.toInt z325) (Int32.toInt z394) := w395.2.2.1
        have p399 : (((0 : Int) = 1 ∧ (Int32.toInt z394) = (Int32.toInt z325)) ∨ ((0 : Int) = 0 ∧ 1 ≤ (Int32.toInt z394))) := w395.2.2.2
        rcases p399 with ⟨k400, k401⟩ | p399
        · skip
          exact absurd trivial (by omega)
        obtain ⟨k402, k403⟩ := p399
        refine r_aload_n 46 1 C dX1_takeHeader_46 rfl ?_
        refine r_callVi 47 C dX1_takeHeader_47 [] [(h0, .inr (1, [.ref h3, .ref h4, .ref h1, .int z394, .long z326, .long y1, .int x1, .int x2, .long y2, .long y3])), (h1, .inr (4, [.ref h2, .int x3])), (h2, .inl (gB g, 1500, .inl fn0))] [] (fun sz => c52_X1_take l g h0 h1 h2 h3 h4 z394 z326 y1 x1 x2 y2 y3 x3 fn0 ⟨p396, p397⟩ ⟨p334, p335⟩ i_x1 i_x2 i_y2 i_y3 i_x3 sz) gX1_takeHeader_X1_take rfl ⟨rfl, rfl⟩ 0 (by decide) ⟨Nat.le_of_ble_eq_true rfl, Nat.le_of_ble_eq_true rfl⟩ 2 rfl rfl [2, 0, 1] [] rfl rfl (by decide) (by decide) (by decide) rfl rfl (Nat.le_of_ble_eq_true rfl) ⟨Nat.le_of_ble_eq_true rfl, Nat.le_of_ble_eq_true rfl⟩ (fun r406 u408 w407 => ?_)
        obtain ⟨z404, z405⟩ := u408
        refine r_ws [(h0, .inr (1, [.ref h3, .ref h4, .ref h1, .int z404, .long z405, .long y1, .int x1, .int x2, .long y2, .long y3])), (h1, .inr (4, [.ref h2, .int x3])), (h2, .inl (gB g, 1500, .inl fn0))] rfl ?_
        have p409 : -1 ≤ (Int32.toInt r406) := w407.1
        have p410 : (Int32.toInt r406) ≤ 255 := w407.2.1
        have p411 : 0 ≤ (Int32.toInt z404) := w407.2.2.1
        have p412 : (Int32.toInt z404) ≤ 2 := w407.2.2.2.1
        have p413 : -8589934592 ≤ (Int64.toInt z405) := w407.2.2.2.2.1
        have p414 : (Int64.toInt z405) ≤ 8589934592 := w407.2.2.2.2.2.1
        have p415 : SEQ (Int32.toInt z394) (Int32.toInt z404) (BYT (GB fn0 (Int32.toInt x3)) (Int32.toInt x3) (Int64.toInt y1) (Int64.toInt z326)) (fun v => v = (Int32.toInt r406) ∧ (Int64.toInt z405) = (Int64.toInt z326) + 1) := w407.2.2.2.2.2.2.1
        have p416 : (((Int32.toInt r406) = -1 ∧ 1 ≤ (Int32.toInt z404) ∧ (Int64.toInt z405) = (Int64.toInt z326)) ∨ ((Int32.toInt z394) = 0 ∧ (Int32.toInt z404) = 0 ∧ 0 ≤ (Int64.toInt z326) ∧ (Int64.toInt z326) < (Int32.toInt x3) ∧ (Int64.toInt z326) < (Int64.toInt y1) ∧ (Int64.toInt z405) = (Int64.toInt z326) + 1 ∧ 0 ≤ (Int32.toInt r406))) := w407.2.2.2.2.2.2.2
        rcases p416 with ⟨k417, k418, k419⟩ | p416
        · skip
          refine r_istore_n 50 C dX1_takeHeader_50 [(2, .int r406), (1, .int r327), (0, .ref h0)] (by decide) rfl ?_
          refine r_aload_n 51 2 C dX1_takeHeader_51 rfl ?_
          refine r_iload_n 52 0 C dX1_takeHeader_52 rfl ?_
          refine r_iconst 53 1 C dX1_takeHeader_53 (by decide) ?_
          refine r_icmp_lt_t 54 66 C dX1_takeHeader_54 (by decide) ((fa_lt r406 1).mpr (by show (Int32.toInt r406) < 1; omega)) ?_
          refine r_iconst 66 0 C dX1_takeHeader_66 (by decide) ?_
          refine r_callVv 67 C dX1_takeHeader_67 [] [(h0, .inr (1, [.ref h3, .ref h4, .ref h1, .int z404, .long z405, .long y1, .int x1, .int x2, .long y2, .long y3]))] [(h1, .inr (4, [.ref h2, .int x3])), (h2, .inl (gB g, 1500, .inl fn0))] (fun sz => c53_X1_want l g h0 0 h3 h4 h1 z404 z405 y1 x1 x2 y2 y3 (by decide) ⟨p411, p412⟩ ⟨p413, p414⟩ i_x1 i_x2 i_y2 i_y3 sz) gX1_takeHeader_X1_want rfl ⟨rfl, rfl⟩ 1 (by decide) ⟨Nat.le_of_ble_eq_true rfl, Nat.le_of_ble_eq_true rfl⟩ 0 rfl rfl [0] [1, 2] rfl rfl (by decide) (by decide) (by decide) rfl rfl (Nat.le_of_ble_eq_true rfl) ⟨Nat.le_of_ble_eq_true rfl, Nat.le_of_ble_eq_true rfl⟩ (fun  z420 w421 => ?_)
          refine r_ws [(h1, .inr (4, [.ref h2, .int x3])), (h2, .inl (gB g, 1500, .inl fn0)), (h0, .inr (1, [.ref h3, .ref h4, .ref h1, .int z420, .long z405, .long y1, .int x1, .int x2, .long y2, .long y3]))] rfl ?_
          have p422 : 0 ≤ (Int32.toInt z420) := w421.1
          have p423 : (Int32.toInt z420) ≤ 2 := w421.2.1
          have p424 : WNT (0 : Int) (Int32.toInt z404) (Int32.toInt z420) := w421.2.2.1
          have p425 : (((0 : Int) = 1 ∧ (Int32.toInt z420) = (Int32.toInt z404)) ∨ ((0 : Int) = 0 ∧ 1 ≤ (Int32.toInt z420))) := w421.2.2.2
          rcases p425 with ⟨k426, k427⟩ | p425
          · skip
            exact absurd trivial (by omega)
          obtain ⟨k428, k429⟩ := p425
          refine r_aload_n 70 2 C dX1_takeHeader_70 rfl ?_
          refine r_iload_n 71 1 C dX1_takeHeader_71 rfl ?_
          obtain ⟨z430, ez430⟩ : ∃ z_9, Int32.toInt64 r327 = z_9 := ⟨_, rfl⟩
          have tz430 : (Int64.toInt z430) = (Int32.toInt r327) := by rw [← ez430]; exact Int32.toInt_toInt64 _
          refine r_i2l 72 z430 C dX1_takeHeader_72 ez430 ?_
          refine r_put 73 C dX1_takeHeader_73 (k := 4) 2 rfl rfl hiX1 tyX1 tyX1_ok nmX1 (by decide) rfl (mg 1 rfl) (Or.inl rfl) rfl rfl rfl rfl (Nat.le_of_ble_eq_true rfl) [(h1, .inr (4, [.ref h2, .int x3])), (h2, .inl (gB g, 1500, .inl fn0)), (h0, .inr (1, [.ref h3, .ref h4, .ref h1, .int z420, .long z430, .long y1, .int x1, .int x2, .long y2, .long y3]))] rfl ?_
          exact r_vret 76 Rt dX1_takeHeader_76 (z420, z430) (show 0 ≤ (Int32.toInt z420) ∧ (Int32.toInt z420) ≤ 2 ∧ -8589934592 ≤ (Int64.toInt z430) ∧ (Int64.toInt z430) ≤ 8589934592 ∧ SEQ (Int32.toInt x0) (Int32.toInt z420) (HDR (GB fn0 (Int32.toInt x3)) (Int32.toInt x3)) (fun v => v = (Int64.toInt z430)) from ⟨(show _ ∧ _ from ⟨p422, p423⟩).1, (show _ ∧ _ from ⟨p422, p423⟩).2, (iv_wide (c := (-8589934592)) (d := 8589934592) (iv_eq ⟨p330, p331⟩ tz430) (by decide) (by decide)).1, (iv_wide (c := (-8589934592)) (d := 8589934592) (iv_eq ⟨p330, p331⟩ tz430) (by decide) (by decide)).2, (by exact hdr_pf pre0 p12 p231 p246 p336 p398 p415 p424 (by omega) (by omega) (by omega) (by omega))⟩) [2, 0, 1] (by decide) rfl (Nat.le_of_ble_eq_true rfl) (Nat.le_of_ble_eq_true rfl)
        obtain ⟨k431, k432, k433, k434, k435, k436, k437⟩ := p416
        exact absurd trivial (by omega)
      · skip
        have k438 : ¬ ((Int32.toInt r327) < 4) := fun h_9 => c392 ((fa_lt r327 4).mpr h_9)
        refine r_iconst 38 1 C dX1_takeHeader_38 (by decide) ?_
        refine r_goto 39 43 C dX1_takeHeader_39 (by decide) ?_
        refine r_callVv 43 C dX1_takeHeader_43 [] [(h0, .inr (1, [.ref h3, .ref h4, .ref h1, .int z325, .long z326, .long y1, .int x1, .int x2, .long y2, .long y3]))] [(h1, .inr (4, [.ref h2, .int x3])), (h2, .inl (gB g, 1500, .inl fn0))] (fun sz => c53_X1_want l g h0 1 h3 h4 h1 z325 z326 y1 x1 x2 y2 y3 (by decide) ⟨p332, p333⟩ ⟨p334, p335⟩ i_x1 i_x2 i_y2 i_y3 sz) gX1_takeHeader_X1_want rfl ⟨rfl, rfl⟩ 1 (by decide) ⟨Nat.le_of_ble_eq_true rfl, Nat.le_of_ble_eq_true rfl⟩ 0 rfl rfl [0] [1, 2] rfl rfl (by decide) (by decide) (by decide) rfl rfl (Nat.le_of_ble_eq_true rfl) ⟨Nat.le_of_ble_eq_true rfl, Nat.le_of_ble_eq_true rfl⟩ (fun  z439 w440 => ?_)
        refine r_ws [(h1, .inr (4, [.ref h2, .int x3])), (h2, .inl (gB g, 1500, .inl fn0)), (h0, .inr (1, [.ref h3, .ref h4, .ref h1, .int z439, .long z326, .long y1, .int x1, .int x2, .long y2, .long y3]))] rfl ?_
        have p441 : 0 ≤ (Int32.toInt z439) := w440.1
        have p442 : (Int32.toInt z439) ≤ 2 := w440.2.1
        have p443 : WNT (1 : Int) (Int32.toInt z325) (Int32.toInt z439) := w440.2.2.1
        have p444 : (((1 : Int) = 1 ∧ (Int32.toInt z439) = (Int32.toInt z325)) ∨ ((1 : Int) = 0 ∧ 1 ≤ (Int32.toInt z439))) := w440.2.2.2
        rcases p444 with ⟨k445, k446⟩ | p444
        · skip
          refine r_aload_n 46 1 C dX1_takeHeader_46 rfl ?_
          refine r_callVi 47 C dX1_takeHeader_47 [] [(h0, .inr (1, [.ref h3, .ref h4, .ref h1, .int z439, .long z326, .long y1, .int x1, .int x2, .long y2, .long y3])), (h1, .inr (4, [.ref h2, .int x3])), (h2, .inl (gB g, 1500, .inl fn0))] [] (fun sz => c52_X1_take l g h0 h1 h2 h3 h4 z439 z326 y1 x1 x2 y2 y3 x3 fn0 ⟨p441, p442⟩ ⟨p334, p335⟩ i_x1 i_x2 i_y2 i_y3 i_x3 sz) gX1_takeHeader_X1_take rfl ⟨rfl, rfl⟩ 0 (by decide) ⟨Nat.le_of_ble_eq_true rfl, Nat.le_of_ble_eq_true rfl⟩ 2 rfl rfl [2, 0, 1] [] rfl rfl (by decide) (by decide) (by decide) rfl rfl (Nat.le_of_ble_eq_true rfl) ⟨Nat.le_of_ble_eq_true rfl, Nat.le_of_ble_eq_true rfl⟩ (fun r449 u451 w450 => ?_)
          obtain ⟨z447, z448⟩ := u451
          refine r_ws [(h0, .inr (1, [.ref h3, .ref h4, .ref h1, .int z447, .long z448, .long y1, .int x1, .int x2, .long y2, .long y3])), (h1, .inr (4, [.ref h2, .int x3])), (h2, .inl (gB g, 1500, .inl fn0))] rfl ?_
          have p452 : -1 ≤ (Int32.toInt r449) := w450.1
          have p453 : (Int32.toInt r449) ≤ 255 := w450.2.1
          have p454 : 0 ≤ (Int32.toInt z447) := w450.2.2.1
          have p455 : (Int32.toInt z447) ≤ 2 := w450.2.2.2.1
          have p456 : -8589934592 ≤ (Int64.toInt z448) := w450.2.2.2.2.1
          have p457 : (Int64.toInt z448) ≤ 8589934592 := w450.2.2.2.2.2.1
          have p458 : SEQ (Int32.toInt z439) (Int32.toInt z447) (BYT (GB fn0 (Int32.toInt x3)) (Int32.toInt x3) (Int64.toInt y1) (Int64.toInt z326)) (fun v => v = (Int32.toInt r449) ∧ (Int64.toInt z448) = (Int64.toInt z326) + 1) := w450.2.2.2.2.2.2.1
          have p459 : (((Int32.toInt r449) = -1 ∧ 1 ≤ (Int32.toInt z447) ∧ (Int64.toInt z448) = (Int64.toInt z326)) ∨ ((Int32.toInt z439) = 0 ∧ (Int32.toInt z447) = 0 ∧ 0 ≤ (Int64.toInt z326) ∧ (Int64.toInt z326) < (Int32.toInt x3) ∧ (Int64.toInt z326) < (Int64.toInt y1) ∧ (Int64.toInt z448) = (Int64.toInt z326) + 1 ∧ 0 ≤ (Int32.toInt r449))) := w450.2.2.2.2.2.2.2
          rcases p459 with ⟨k460, k461, k462⟩ | p459
          · skip
            refine r_istore_n 50 C dX1_takeHeader_50 [(2, .int r449), (1, .int r327), (0, .ref h0)] (by decide) rfl ?_
            refine r_aload_n 51 2 C dX1_takeHeader_51 rfl ?_
            refine r_iload_n 52 0 C dX1_takeHeader_52 rfl ?_
            refine r_iconst 53 1 C dX1_takeHeader_53 (by decide) ?_
            refine r_icmp_lt_t 54 66 C dX1_takeHeader_54 (by decide) ((fa_lt r449 1).mpr (by show (Int32.toInt r449) < 1; omega)) ?_
            refine r_iconst 66 0 C dX1_takeHeader_66 (by decide) ?_
            refine r_callVv 67 C dX1_takeHeader_67 [] [(h0, .inr (1, [.ref h3, .ref h4, .ref h1, .int z447, .long z448, .long y1, .int x1, .int x2, .long y2, .long y3]))] [(h1, .inr (4, [.ref h2, .int x3])), (h2, .inl (gB g, 1500, .inl fn0))] (fun sz => c53_X1_want l g h0 0 h3 h4 h1 z447 z448 y1 x1 x2 y2 y3 (by decide) ⟨p454, p455⟩ ⟨p456, p457⟩ i_x1 i_x2 i_y2 i_y3 sz) gX1_takeHeader_X1_want rfl ⟨rfl, rfl⟩ 1 (by decide) ⟨Nat.le_of_ble_eq_true rfl, Nat.le_of_ble_eq_true rfl⟩ 0 rfl rfl [0] [1, 2] rfl rfl (by decide) (by decide) (by decide) rfl rfl (Nat.le_of_ble_eq_true rfl) ⟨Nat.le_of_ble_eq_true rfl, Nat.le_of_ble_eq_true rfl⟩ (fun  z463 w464 => ?_)
            refine r_ws [(h1, .inr (4, [.ref h2, .int x3])), (h2, .inl (gB g, 1500, .inl fn0)), (h0, .inr (1, [.ref h3, .ref h4, .ref h1, .int z463, .long z448, .long y1, .int x1, .int x2, .long y2, .long y3]))] rfl ?_
            have p465 : 0 ≤ (Int32.toInt z463) := w464.1
            have p466 : (Int32.toInt z463) ≤ 2 := w464.2.1
            have p467 : WNT (0 : Int) (Int32.toInt z447) (Int32.toInt z463) := w464.2.2.1
            have p468 : (((0 : Int) = 1 ∧ (Int32.toInt z463) = (Int32.toInt z447)) ∨ ((0 : Int) = 0 ∧ 1 ≤ (Int32.toInt z463))) := w464.2.2.2
            rcases p468 with ⟨k469, k470⟩ | p468
            · skip
              exact absurd trivial (by omega)
            obtain ⟨k471, k472⟩ := p468
            refine r_aload_n 70 2 C dX1_takeHeader_70 rfl ?_
            refine r_iload_n 71 1 C dX1_takeHeader_71 rfl ?_
            obtain ⟨z473, ez473⟩ : ∃ z_9, Int32.toInt64 r327 = z_9 := ⟨_, rfl⟩
            have tz473 : (Int64.toInt z473) = (Int32.toInt r327) := by rw [← ez473]; exact Int32.toInt_toInt64 _
            refine r_i2l 72 z473 C dX1_takeHeader_72 ez473 ?_
            refine r_put 73 C dX1_takeHeader_73 (k := 4) 2 rfl rfl hiX1 tyX1 tyX1_ok nmX1 (by decide) rfl (mg 1 rfl) (Or.inl rfl) rfl rfl rfl rfl (Nat.le_of_ble_eq_true rfl) [(h1, .inr (4, [.ref h2, .int x3])), (h2, .inl (gB g, 1500, .inl fn0)), (h0, .inr (1, [.ref h3, .ref h4, .ref h1, .int z463, .long z473, .long y1, .int x1, .int x2, .long y2, .long y3]))] rfl ?_
            exact r_vret 76 Rt dX1_takeHeader_76 (z463, z473) (show 0 ≤ (Int32.toInt z463) ∧ (Int32.toInt z463) ≤ 2 ∧ -8589934592 ≤ (Int64.toInt z473) ∧ (Int64.toInt z473) ≤ 8589934592 ∧ SEQ (Int32.toInt x0) (Int32.toInt z463) (HDR (GB fn0 (Int32.toInt x3)) (Int32.toInt x3)) (fun v => v = (Int64.toInt z473)) from ⟨(show _ ∧ _ from ⟨p465, p466⟩).1, (show _ ∧ _ from ⟨p465, p466⟩).2, (iv_wide (c := (-8589934592)) (d := 8589934592) (iv_eq ⟨p330, p331⟩ tz473) (by decide) (by decide)).1, (iv_wide (c := (-8589934592)) (d := 8589934592) (iv_eq ⟨p330, p331⟩ tz473) (by decide) (by decide)).2, (by exact hdr_pf pre0 p12 p231 p246 p336 p443 p458 p467 (by omega) (by omega) (by omega) (by omega))⟩) [2, 0, 1] (by decide) rfl (Nat.le_of_ble_eq_true rfl) (Nat.le_of_ble_eq_true rfl)
          obtain ⟨k474, k475, k476, k477, k478, k479, k480⟩ := p459
          refine r_istore_n 50 C dX1_takeHeader_50 [(2, .int r449), (1, .int r327), (0, .ref h0)] (by decide) rfl ?_
          refine r_aload_n 51 2 C dX1_takeHeader_51 rfl ?_
          refine r_iload_n 52 0 C dX1_takeHeader_52 rfl ?_
          refine r_iconst 53 1 C dX1_takeHeader_53 (by decide) ?_
          refine r_icmp_lt 54 66 C dX1_takeHeader_54 (by decide) (fun c481 => ?_) (fun c481 => ?_)
          · skip
            have k482 : (Int32.toInt r449) < 1 := (fa_lt r449 1).mp c481
            refine r_iconst 66 0 C dX1_takeHeader_66 (by decide) ?_
            refine r_callVv 67 C dX1_takeHeader_67 [] [(h0, .inr (1, [.ref h3, .ref h4, .ref h1, .int z447, .long z448, .long y1, .int x1, .int x2, .long y2, .long y3]))] [(h1, .inr (4, [.ref h2, .int x3])), (h2, .inl (gB g, 1500, .inl fn0))] (fun sz => c53_X1_want l g h0 0 h3 h4 h1 z447 z448 y1 x1 x2 y2 y3 (by decide) ⟨p454, p455⟩ ⟨p456, p457⟩ i_x1 i_x2 i_y2 i_y3 sz) gX1_takeHeader_X1_want rfl ⟨rfl, rfl⟩ 1 (by decide) ⟨Nat.le_of_ble_eq_true rfl, Nat.le_of_ble_eq_true rfl⟩ 0 rfl rfl [0] [1, 2] rfl rfl (by decide) (by decide) (by decide) rfl rfl (Nat.le_of_ble_eq_true rfl) ⟨Nat.le_of_ble_eq_true rfl, Nat.le_of_ble_eq_true rfl⟩ (fun  z483 w484 => ?_)
            refine r_ws [(h1, .inr (4, [.ref h2, .int x3])), (h2, .inl (gB g, 1500, .inl fn0)), (h0, .inr (1, [.ref h3, .ref h4, .ref h1, .int z483, .long z448, .long y1, .int x1, .int x2, .long y2, .long y3]))] rfl ?_
            have p485 : 0 ≤ (Int32.toInt z483) := w484.1
            have p486 : (Int32.toInt z483) ≤ 2 := w484.2.1
            have p487 : WNT (0 : Int) (Int32.toInt z447) (Int32.toInt z483) := w484.2.2.1
            have p488 : (((0 : Int) = 1 ∧ (Int32.toInt z483) = (Int32.toInt z447)) ∨ ((0 : Int) = 0 ∧ 1 ≤ (Int32.toInt z483))) := w484.2.2.2
            rcases p488 with ⟨k489, k490⟩ | p488
            · skip
              exact absurd trivial (by omega)
            obtain ⟨k491, k492⟩ := p488
            refine r_aload_n 70 2 C dX1_takeHeader_70 rfl ?_
            refine r_iload_n 71 1 C dX1_takeHeader_71 rfl ?_
            obtain ⟨z493, ez493⟩ : ∃ z_9, Int32.toInt64 r327 = z_9 := ⟨_, rfl⟩
            have tz493 : (Int64.toInt z493) = (Int32.toInt r327) := by rw [← ez493]; exact Int32.toInt_toInt64 _
            refine r_i2l 72 z493 C dX1_takeHeader_72 ez493 ?_
            refine r_put 73 C dX1_takeHeader_73 (k := 4) 2 rfl rfl hiX1 tyX1 tyX1_ok nmX1 (by decide) rfl (mg 1 rfl) (Or.inl rfl) rfl rfl rfl rfl (Nat.le_of_ble_eq_true rfl) [(h1, .inr (4, [.ref h2, .int x3])), (h2, .inl (gB g, 1500, .inl fn0)), (h0, .inr (1, [.ref h3, .ref h4, .ref h1, .int z483, .long z493, .long y1, .int x1, .int x2, .long y2, .long y3]))] rfl ?_
            exact r_vret 76 Rt dX1_takeHeader_76 (z483, z493) (show 0 ≤ (Int32.toInt z483) ∧ (Int32.toInt z483) ≤ 2 ∧ -8589934592 ≤ (Int64.toInt z493) ∧ (Int64.toInt z493) ≤ 8589934592 ∧ SEQ (Int32.toInt x0) (Int32.toInt z483) (HDR (GB fn0 (Int32.toInt x3)) (Int32.toInt x3)) (fun v => v = (Int64.toInt z493)) from ⟨(show _ ∧ _ from ⟨p485, p486⟩).1, (show _ ∧ _ from ⟨p485, p486⟩).2, (iv_wide (c := (-8589934592)) (d := 8589934592) (iv_eq ⟨p330, p331⟩ tz493) (by decide) (by decide)).1, (iv_wide (c := (-8589934592)) (d := 8589934592) (iv_eq ⟨p330, p331⟩ tz493) (by decide) (by decide)).2, (by exact hdr_pf pre0 p12 p231 p246 p336 p443 p458 p487 (by omega) (by omega) (by omega) (by omega))⟩) [2, 0, 1] (by decide) rfl (Nat.le_of_ble_eq_true rfl) (Nat.le_of_ble_eq_true rfl)
          · skip
            have k494 : ¬ ((Int32.toInt r449) < 1) := fun h_9 => c481 ((fa_lt r449 1).mpr h_9)
            refine r_iload_n 57 0 C dX1_takeHeader_57 rfl ?_
            refine r_iconst 58 4 C dX1_takeHeader_58 (by decide) ?_
            refine r_icmp_gt 59 66 C dX1_takeHeader_59 (by decide) (fun c495 => ?_) (fun c495 => ?_)
            · skip
              have k496 : 4 < (Int32.toInt r449) := (fa_lt 4 r449).mp c495
              refine r_iconst 66 0 C dX1_takeHeader_66 (by decide) ?_
              refine r_callVv 67 C dX1_takeHeader_67 [] [(h0, .inr (1, [.ref h3, .ref h4, .ref h1, .int z447, .long z448, .long y1, .int x1, .int x2, .long y2, .long y3]))] [(h1, .inr (4, [.ref h2, .int x3])), (h2, .inl (gB g, 1500, .inl fn0))] (fun sz => c53_X1_want l g h0 0 h3 h4 h1 z447 z448 y1 x1 x2 y2 y3 (by decide) ⟨p454, p455⟩ ⟨p456, p457⟩ i_x1 i_x2 i_y2 i_y3 sz) gX1_takeHeader_X1_want rfl ⟨rfl, rfl⟩ 1 (by decide) ⟨Nat.le_of_ble_eq_true rfl, Nat.le_of_ble_eq_true rfl⟩ 0 rfl rfl [0] [1, 2] rfl rfl (by decide) (by decide) (by decide) rfl rfl (Nat.le_of_ble_eq_true rfl) ⟨Nat.le_of_ble_eq_true rfl, Nat.le_of_ble_eq_true rfl⟩ (fun  z497 w498 => ?_)
              refine r_ws [(h1, .inr (4, [.ref h2, .int x3])), (h2, .inl (gB g, 1500, .inl fn0)), (h0, .inr (1, [.ref h3, .ref h4, .ref h1, .int z497, .long z448, .long y1, .int x1, .int x2, .long y2, .long y3]))] rfl ?_
              have p499 : 0 ≤ (Int32.toInt z497) := w498.1
              have p500 : (Int32.toInt z497) ≤ 2 := w498.2.1
              have p501 : WNT (0 : Int) (Int32.toInt z447) (Int32.toInt z497) := w498.2.2.1
              have p502 : (((0 : Int) = 1 ∧ (Int32.toInt z497) = (Int32.toInt z447)) ∨ ((0 : Int) = 0 ∧ 1 ≤ (Int32.toInt z497))) := w498.2.2.2
              rcases p502 with ⟨k503, k504⟩ | p502
              · skip
                exact absurd trivial (by omega)
              obtain ⟨k505, k506⟩ := p502
              refine r_aload_n 70 2 C dX1_takeHeader_70 rfl ?_
              refine r_iload_n 71 1 C dX1_takeHeader_71 rfl ?_
              obtain ⟨z507, ez507⟩ : ∃ z_9, Int32.toInt64 r327 = z_9 := ⟨_, rfl⟩
              have tz507 : (Int64.toInt z507) = (Int32.toInt r327) := by rw [← ez507]; exact Int32.toInt_toInt64 _
              refine r_i2l 72 z507 C dX1_takeHeader_72 ez507 ?_
              refine r_put 73 C dX1_takeHeader_73 (k := 4) 2 rfl rfl hiX1 tyX1 tyX1_ok nmX1 (by decide) rfl (mg 1 rfl) (Or.inl rfl) rfl rfl rfl rfl (Nat.le_of_ble_eq_true rfl) [(h1, .inr (4, [.ref h2, .int x3])), (h2, .inl (gB g, 1500, .inl fn0)), (h0, .inr (1, [.ref h3, .ref h4, .ref h1, .int z497, .long z507, .long y1, .int x1, .int x2, .long y2, .long y3]))] rfl ?_
              exact r_vret 76 Rt dX1_takeHeader_76 (z497, z507) (show 0 ≤ (Int32.toInt z497) ∧ (Int32.toInt z497) ≤ 2 ∧ -8589934592 ≤ (Int64.toInt z507) ∧ (Int64.toInt z507) ≤ 8589934592 ∧ SEQ (Int32.toInt x0) (Int32.toInt z497) (HDR (GB fn0 (Int32.toInt x3)) (Int32.toInt x3)) (fun v => v = (Int64.toInt z507)) from ⟨(show _ ∧ _ from ⟨p499, p500⟩).1, (show _ ∧ _ from ⟨p499, p500⟩).2, (iv_wide (c := (-8589934592)) (d := 8589934592) (iv_eq ⟨p330, p331⟩ tz507) (by decide) (by decide)).1, (iv_wide (c := (-8589934592)) (d := 8589934592) (iv_eq ⟨p330, p331⟩ tz507) (by decide) (by decide)).2, (by exact hdr_pf pre0 p12 p231 p246 p336 p443 p458 p501 (by omega) (by omega) (by omega) (by omega))⟩) [2, 0, 1] (by decide) rfl (Nat.le_of_ble_eq_true rfl) (Nat.le_of_ble_eq_true rfl)
            · skip
              have k508 : ¬ (4 < (Int32.toInt r449)) := fun h_9 => c495 ((fa_lt 4 r449).mpr h_9)
              refine r_iconst 62 1 C dX1_takeHeader_62 (by decide) ?_
              refine r_goto 63 67 C dX1_takeHeader_63 (by decide) ?_
              refine r_callVv 67 C dX1_takeHeader_67 [] [(h0, .inr (1, [.ref h3, .ref h4, .ref h1, .int z447, .long z448, .long y1, .int x1, .int x2, .long y2, .long y3]))] [(h1, .inr (4, [.ref h2, .int x3])), (h2, .inl (gB g, 1500, .inl fn0))] (fun sz => c53_X1_want l g h0 1 h3 h4 h1 z447 z448 y1 x1 x2 y2 y3 (by decide) ⟨p454, p455⟩ ⟨p456, p457⟩ i_x1 i_x2 i_y2 i_y3 sz) gX1_takeHeader_X1_want rfl ⟨rfl, rfl⟩ 1 (by decide) ⟨Nat.le_of_ble_eq_true rfl, Nat.le_of_ble_eq_true rfl⟩ 0 rfl rfl [0] [1, 2] rfl rfl (by decide) (by decide) (by decide) rfl rfl (Nat.le_of_ble_eq_true rfl) ⟨Nat.le_of_ble_eq_true rfl, Nat.le_of_ble_eq_true rfl⟩ (fun  z509 w510 => ?_)
              refine r_ws [(h1, .inr (4, [.ref h2, .int x3])), (h2, .inl (gB g, 1500, .inl fn0)), (h0, .inr (1, [.ref h3, .ref h4, .ref h1, .int z509, .long z448, .long y1, .int x1, .int x2, .long y2, .long y3]))] rfl ?_
              have p511 : 0 ≤ (Int32.toInt z509) := w510.1
              have p512 : (Int32.toInt z509) ≤ 2 := w510.2.1
              have p513 : WNT (1 : Int) (Int32.toInt z447) (Int32.toInt z509) := w510.2.2.1
              have p514 : (((1 : Int) = 1 ∧ (Int32.toInt z509) = (Int32.toInt z447)) ∨ ((1 : Int) = 0 ∧ 1 ≤ (Int32.toInt z509))) := w510.2.2.2
              rcases p514 with ⟨k515, k516⟩ | p514
              · skip
                refine r_aload_n 70 2 C dX1_takeHeader_70 rfl ?_
                refine r_iload_n 71 1 C dX1_takeHeader_71 rfl ?_
                obtain ⟨z517, ez517⟩ : ∃ z_9, Int32.toInt64 r327 = z_9 := ⟨_, rfl⟩
                have tz517 : (Int64.toInt z517) = (Int32.toInt r327) := by rw [← ez517]; exact Int32.toInt_toInt64 _
                refine r_i2l 72 z517 C dX1_takeHeader_72 ez517 ?_
                refine r_put 73 C dX1_takeHeader_73 (k := 4) 2 rfl rfl hiX1 tyX1 tyX1_ok nmX1 (by decide) rfl (mg 1 rfl) (Or.inl rfl) rfl rfl rfl rfl (Nat.le_of_ble_eq_true rfl) [(h1, .inr (4, [.ref h2, .int x3])), (h2, .inl (gB g, 1500, .inl fn0)), (h0, .inr (1, [.ref h3, .ref h4, .ref h1, .int z509, .long z517, .long y1, .int x1, .int x2, .long y2, .long y3]))] rfl ?_
                exact r_vret 76 Rt dX1_takeHeader_76 (z509, z517) (show 0 ≤ (Int32.toInt z509) ∧ (Int32.toInt z509) ≤ 2 ∧ -8589934592 ≤ (Int64.toInt z517) ∧ (Int64.toInt z517) ≤ 8589934592 ∧ SEQ (Int32.toInt x0) (Int32.toInt z509) (HDR (GB fn0 (Int32.toInt x3)) (Int32.toInt x3)) (fun v => v = (Int64.toInt z517)) from ⟨(show _ ∧ _ from ⟨p511, p512⟩).1, (show _ ∧ _ from ⟨p511, p512⟩).2, (iv_wide (c := (-8589934592)) (d := 8589934592) (iv_eq ⟨p330, p331⟩ tz517) (by decide) (by decide)).1, (iv_wide (c := (-8589934592)) (d := 8589934592) (iv_eq ⟨p330, p331⟩ tz517) (by decide) (by decide)).2, (by exact hdr_pf pre0 p12 p231 p246 p336 p443 p458 p513 (by omega) (by omega) (by omega) (by omega))⟩) [2, 0, 1] (by decide) rfl (Nat.le_of_ble_eq_true rfl) (Nat.le_of_ble_eq_true rfl)
              obtain ⟨k518, k519⟩ := p514
              exact absurd trivial (by omega)
        obtain ⟨k520, k521⟩ := p444
        exact absurd trivial (by omega)
    obtain ⟨k522, k523⟩ := p232
    exact absurd trivial (by omega)
