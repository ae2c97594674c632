set_option maxHeartbeats 4000000 in
set_option maxRecDepth 100000 in
theorem c32_X8_beginOf (l : Launch) (g : GD) (h0 : Nat) (h1 : Nat) (h2 : Nat) (h3 : Nat) (x0 : Int32) (h4 : Nat) (x1 : Int32) (x2 : Int32) (x3 : Int32) (x4 : Int32) (fn0 : Nat → Int32) (fn1 : Nat → Int32) (i_x4 : (0 ≤ (Int32.toInt x4) ∧ (Int32.toInt x4) ≤ 1500)) (sz : Nat) : Met l yX8_beginOf wsX8_beginOf ({ frames := 2, cells := 0, slots := 0, locals := 45 }) (va_Pc [.ref h0, .int x0] (PW g [(h0, .inr (7, [.ref h1, .ref h2, .ref h4, .int x1, .int x2, .int x3])), (h1, .inr (4, [.ref h3, .int x4])), (h2, .inl (gI g, 40, .inl fn0)), (h3, .inl (gB g, 1500, .inl fn1))] sz)) (va_Qi (fun (r : Int32) (_ : Unit) => True) (BW g (va_A [(h0, .inr (7, [.ref h1, .ref h2, .ref h4, .int x1, .int x2, .int x3])), (h1, .inr (4, [.ref h3, .int x4])), (h2, .inl (gI g, 40, .inl fn0)), (h3, .inl (gB g, 1500, .inl fn1))] sz) (fun _ : Unit => [(h0, .inr (7, [.ref h1, .ref h2, .ref h4, .int x1, .int x2, .int x3])), (h1, .inr (4, [.ref h3, .int x4])), (h2, .inl (gI g, 40, .inl fn0)), (h3, .inl (gB g, 1500, .inl fn1))])) (va_A [(h0, .inr (7, [.ref h1, .ref h2, .ref h4, .int x1, .int x2, .int x3])), (h1, .inr (4, [.ref h3, .int x4])), (h2, .inl (gI g, 40, .inl fn0)), (h3, .inl (gB g, 1500, .inl fn1))] sz)) 0 0 (va_A [(h0, .inr (7, [.ref h1, .ref h2, .ref h4, .int x1, .int x2, .int x3])), (h1, .inr (4, [.ref h3, .int x4])), (h2, .inl (gI g, 40, .inl fn0)), (h3, .inl (gB g, 1500, .inl fn1))] sz) := by
  refine met_i RX8 (by decide) rfl rfl (Nat.le_of_ble_eq_true rfl) [(0, .ref h0), (1, .int x0)] rfl ?_
  intro p e s m args below meth c A Q C hnm Rt
  have gx0 := fb_rng x0
  have gx3 := fb_rng x3
  have hiX8 : ∀ w ∈ wsX80, w ∈ wsX8_beginOf := fun w h => List.mem_cons_of_mem _ (List.mem_append_left _ (List.mem_append_right _ (h)))
  refine r_aload_n 0 0 C dX8_beginOf_0 rfl ?_
  refine r_iload_n 1 1 C dX8_beginOf_1 rfl ?_
  obtain ⟨z1, ez1⟩ : ∃ z_9, Int32.toInt64 x0 = z_9 := ⟨_, rfl⟩
  have tz1 : (Int64.toInt z1) = (Int32.toInt x0) := by rw [← ez1]; exact Int32.toInt_toInt64 _
  refine r_i2l 2 z1 C dX8_beginOf_2 ez1 ?_
  refine r_callVi 3 C dX8_beginOf_3 [] [(h0, .inr (7, [.ref h1, .ref h2, .ref h4, .int x1, .int x2, .int x3])), (h2, .inl (gI g, 40, .inl fn0))] [(h1, .inr (4, [.ref h3, .int x4])), (h3, .inl (gB g, 1500, .inl fn1))] (fun sz => c29_X8_has l g h0 h2 z1 h1 h4 x1 x2 x3 fn0  sz) gX8_beginOf_X8_has rfl ⟨rfl, rfl⟩ 1 (by decide) ⟨Nat.le_of_ble_eq_true rfl, Nat.le_of_ble_eq_true rfl⟩ 0 rfl rfl [0, 2] [1, 3] rfl rfl (by decide) (by decide) (by decide) rfl rfl (Nat.le_of_ble_eq_true rfl) ⟨Nat.le_of_ble_eq_true rfl, Nat.le_of_ble_eq_true rfl⟩ (fun r2 _ w3 => ?_)
  refine r_ws [(h1, .inr (4, [.ref h3, .int x4])), (h3, .inl (gB g, 1500, .inl fn1)), (h0, .inr (7, [.ref h1, .ref h2, .ref h4, .int x1, .int x2, .int x3])), (h2, .inl (gI g, 40, .inl fn0))] rfl ?_
  have w4 : (((Int64.toInt z1) < 0 ∧ r2 = 0) ∨ (¬ ((Int64.toInt z1) < 0) ∧ 0 < (Int32.toInt x3) ∧ r2 = 1) ∨ (¬ ((Int64.toInt z1) < 0) ∧ ¬ (0 < (Int32.toInt x3)) ∧ 40 ≤ (Int64.toInt z1) ∧ r2 = 0) ∨ (¬ ((Int64.toInt z1) < 0) ∧ ¬ (0 < (Int32.toInt x3)) ∧ ¬ (40 ≤ (Int64.toInt z1)) ∧ r2 = 0) ∨ (¬ ((Int64.toInt z1) < 0) ∧ ¬ (0 < (Int32.toInt x3)) ∧ ¬ (40 ≤ (Int64.toInt z1)) ∧ r2 = 1) ∨ (¬ ((Int64.toInt z1) < 0) ∧ r2 = 0)) := w3
  rcases w4 with ⟨k5, k6⟩ | w4
  · skip
    have k6 := k6.symm
    subst k6
    refine r_if_ne_f 6 11 C dX8_beginOf_6 (by decide) (by decide) ?_
    refine r_iconst 9 0 C dX8_beginOf_9 (by decide) ?_
    exact r_iret 10 Rt dX8_beginOf_10 () trivial [2, 0, 3, 1] (by decide) rfl (Nat.le_of_ble_eq_true rfl) (Nat.le_of_ble_eq_true rfl)
  rcases w4 with ⟨k7, k8, k9⟩ | w4
  · skip
    have k9 := k9.symm
    subst k9
    refine r_if_ne_t 6 11 C dX8_beginOf_6 (by decide) (by decide) ?_
    refine r_aload_n 11 0 C dX8_beginOf_11 rfl ?_
    refine r_get 12 C dX8_beginOf_12 (k := 5) 2 rfl rfl hiX8 (by decide) rfl (mg 1 rfl) (Or.inl rfl) rfl ?_
    refine r_if_le_f 15 26 C dX8_beginOf_15 (by decide) (fun h_9 => by have h_8 : (Int32.toInt x3) ≤ 0 := (fa_le x3 0).mp h_9; omega) ?_
    refine r_aload_n 18 0 C dX8_beginOf_18 rfl ?_
    refine r_iload_n 19 1 C dX8_beginOf_19 rfl ?_
    refine r_callVi 20 C dX8_beginOf_20 [] [(h0, .inr (7, [.ref h1, .ref h2, .ref h4, .int x1, .int x2, .int x3])), (h1, .inr (4, [.ref h3, .int x4])), (h3, .inl (gB g, 1500, .inl fn1))] [(h2, .inl (gI g, 40, .inl fn0))] (fun sz => c30_X8_objectAt l g h0 h1 h3 x0 h2 h4 x1 x2 x3 x4 fn1 i_x4 sz) gX8_beginOf_X8_objectAt rfl ⟨rfl, rfl⟩ 1 (by decide) ⟨Nat.le_of_ble_eq_true rfl, Nat.le_of_ble_eq_true rfl⟩ 2 rfl rfl [2, 0, 1] [3] rfl rfl (by decide) (by decide) (by decide) rfl rfl (Nat.le_of_ble_eq_true rfl) ⟨Nat.le_of_ble_eq_true rfl, Nat.le_of_ble_eq_true rfl⟩ (fun r10 _ w11 => ?_)
    refine r_ws [(h2, .inl (gI g, 40, .inl fn0)), (h0, .inr (7, [.ref h1, .ref h2, .ref h4, .int x1, .int x2, .int x3])), (h1, .inr (4, [.ref h3, .int x4])), (h3, .inl (gB g, 1500, .inl fn1))] rfl ?_
    have gr10 := fb_rng r10
    refine r_goto 23 32 C dX8_beginOf_23 (by decide) ?_
    exact r_iret 32 Rt dX8_beginOf_32 () trivial [1, 2, 0, 3] (by decide) rfl (Nat.le_of_ble_eq_true rfl) (Nat.le_of_ble_eq_true rfl)
  rcases w4 with ⟨k12, k13, k14, k15⟩ | w4
  · skip
    have k15 := k15.symm
    subst k15
    refine r_if_ne_f 6 11 C dX8_beginOf_6 (by decide) (by decide) ?_
    refine r_iconst 9 0 C dX8_beginOf_9 (by decide) ?_
    exact r_iret 10 Rt dX8_beginOf_10 () trivial [2, 0, 3, 1] (by decide) rfl (Nat.le_of_ble_eq_true rfl) (Nat.le_of_ble_eq_true rfl)
  rcases w4 with ⟨k16, k17, k18, k19⟩ | w4
  · skip
    have k19 := k19.symm
    subst k19
    refine r_if_ne_f 6 11 C dX8_beginOf_6 (by decide) (by decide) ?_
    refine r_iconst 9 0 C dX8_beginOf_9 (by decide) ?_
    exact r_iret 10 Rt dX8_beginOf_10 () trivial [2, 0, 3, 1] (by decide) rfl (Nat.le_of_ble_eq_true rfl) (Nat.le_of_ble_eq_true rfl)
  rcases w4 with ⟨k20, k21, k22, k23⟩ | w4
  · skip
    have k23 := k23.symm
    subst k23
    refine r_if_ne_t 6 11 C dX8_beginOf_6 (by decide) (by decide) ?_
    refine r_aload_n 11 0 C dX8_beginOf_11 rfl ?_
    refine r_get 12 C dX8_beginOf_12 (k := 5) 2 rfl rfl hiX8 (by decide) rfl (mg 1 rfl) (Or.inl rfl) rfl ?_
    refine r_if_le_t 15 26 C dX8_beginOf_15 (by decide) ((fa_le x3 0).mpr (by show (Int32.toInt x3) ≤ 0; omega)) ?_
    refine r_aload_n 26 0 C dX8_beginOf_26 rfl ?_
    refine r_get 27 C dX8_beginOf_27 (k := 1) 2 rfl rfl hiX8 (by decide) rfl (mg 2 rfl) (Or.inl rfl) rfl ?_
    refine r_iload_n 30 1 C dX8_beginOf_30 rfl ?_
    obtain ⟨z24, ez24⟩ : ∃ z_9, fn0 (Int32.toNatClampNeg x0) = z_9 := ⟨_, rfl⟩
    refine r_iald 31 z24 C dX8_beginOf_31 3 rfl (vinI (by omega) (by omega)) ez24 ?_
    have gz24 := fb_rng z24
    exact r_iret 32 Rt dX8_beginOf_32 () trivial [2, 0, 3, 1] (by decide) rfl (Nat.le_of_ble_eq_true rfl) (Nat.le_of_ble_eq_true rfl)
  obtain ⟨k25, k26⟩ := w4
  have k26 := k26.symm
  subst k26
  refine r_if_ne_f 6 11 C dX8_beginOf_6 (by decide) (by decide) ?_
  refine r_iconst 9 0 C dX8_beginOf_9 (by decide) ?_
  exact r_iret 10 Rt dX8_beginOf_10 () trivial [2, 0, 3, 1] (by decide) rfl (Nat.le_of_ble_eq_true rfl) (Nat.le_of_ble_eq_true rfl)
set_option maxHeartbeats 4000000 in
set_option maxRecDepth 100000 in
theorem c33_X8_has (l : Launch) (g : GD) (h0 : Nat) (h1 : Nat) (y0 : Int64) (h2 : Nat) (h3 : Nat) (x0 : Int32) (x1 : Int32) (x2 : Int32) (fn0 : Nat → Int32) (sz : Nat) : Met l yX8_has wsX8_has ({ frames := 0, cells := 0, slots := 0, locals := 0 }) (va_Pc [.ref h0, .long y0] (PW g [(h0, .inr (7, [.ref h2, .ref h1, .ref h3, .int x0, .int x1, .int x2])), (h1, .inl (gI g, 200, .inl fn0))] sz)) (va_Qi (fun (r : Int32) (_ : Unit) => (((Int64.toInt y0) < 0 ∧ r = 0) ∨ (¬ ((Int64.toInt y0) < 0) ∧ 0 < (Int32.toInt x2) ∧ r = 1) ∨ (¬ ((Int64.toInt y0) < 0) ∧ ¬ (0 < (Int32.toInt x2)) ∧ 200 ≤ (Int64.toInt y0) ∧ r = 0) ∨ (¬ ((Int64.toInt y0) < 0) ∧ ¬ (0 < (Int32.toInt x2)) ∧ ¬ (200 ≤ (Int64.toInt y0)) ∧ r = 0) ∨ (¬ ((Int64.toInt y0) < 0) ∧ ¬ (0 < (Int32.toInt x2)) ∧ ¬ (200 ≤ (Int64.toInt y0)) ∧ r = 1) ∨ (¬ ((Int64.toInt y0) < 0) ∧ r = 0))) (BW g (va_A [(h0, .inr (7, [.ref h2, .ref h1, .ref h3, .int x0, .int x1, .int x2])), (h1, .inl (gI g, 200, .inl fn0))] sz) (fun _ : Unit => [(h0, .inr (7, [.ref h2, .ref h1, .ref h3, .int x0, .int x1, .int x2])), (h1, .inl (gI g, 200, .inl fn0))])) (va_A [(h0, .inr (7, [.ref h2, .ref h1, .ref h3, .int x0, .int x1, .int x2])), (h1, .inl (gI g, 200, .inl fn0))] sz)) 0 0 (va_A [(h0, .inr (7, [.ref h2, .ref h1, .ref h3, .int x0, .int x1, .int x2])), (h1, .inl (gI g, 200, .inl fn0))] sz) := by
  refine met_z RX8 (by decide) rfl rfl (Nat.le_of_ble_eq_true rfl) [(0, .ref h0), (1, .long y0)] rfl ?_
  intro p e s m args below meth c A Q C hnm Rt
  have gy0 := fb_rngL y0
  have gx0 := fb_rng x0
  have gx2 := fb_rng x2
  have hiX8 : ∀ w ∈ wsX80, w ∈ wsX8_has := fun w h => List.mem_cons_of_mem _ (List.mem_append_right _ (h))
  refine r_lload_n 0 1 C dX8_has_0 rfl ?_
  refine r_lconst 1 0 C dX8_has_1 (by decide) ?_
  obtain ⟨z1, ez1⟩ : ∃ z_9, lg_cmp y0 0 = z_9 := ⟨_, rfl⟩
  have l1z1 : (Int32.toInt z1) < 0 ↔ (Int64.toInt y0) < 0 := by rw [← ez1]; exact lgI1 y0 0
  have l2z1 : 0 < (Int32.toInt z1) ↔ 0 < (Int64.toInt y0) := by rw [← ez1]; exact lgI2 y0 0
  refine r_lcmp 2 z1 C dX8_has_2 ez1 ?_
  refine r_if_lt 3 16 C dX8_has_3 (by decide) (fun c2 => ?_) (fun c2 => ?_)
  · skip
    have k3 : (Int32.toInt z1) < 0 := (fa_lt z1 0).mp c2
    refine r_iconst 16 0 C dX8_has_16 (by decide) ?_
    exact r_zret 17 Rt dX8_has_17 (by decide) () (show (((Int64.toInt y0) < 0 ∧ 0 = 0) ∨ (¬ ((Int64.toInt y0) < 0) ∧ 0 < (Int32.toInt x2) ∧ 0 = 1) ∨ (¬ ((Int64.toInt y0) < 0) ∧ ¬ (0 < (Int32.toInt x2)) ∧ 200 ≤ (Int64.toInt y0) ∧ 0 = 0) ∨ (¬ ((Int64.toInt y0) < 0) ∧ ¬ (0 < (Int32.toInt x2)) ∧ ¬ (200 ≤ (Int64.toInt y0)) ∧ 0 = 0) ∨ (¬ ((Int64.toInt y0) < 0) ∧ ¬ (0 < (Int32.toInt x2)) ∧ ¬ (200 ≤ (Int64.toInt y0)) ∧ 0 = 1) ∨ (¬ ((Int64.toInt y0) < 0) ∧ 0 = 0)) from by refine Or.inl ?_ <;> ((repeat' apply And.intro) <;> first | trivial | rfl | assumption | omega | decide | exact Or.inl rfl | exact Or.inr (Or.inl rfl) | exact Or.inr (Or.inr rfl))) [0, 1] (by decide) rfl (Nat.le_of_ble_eq_true rfl) (Nat.le_of_ble_eq_true rfl)
  · skip
    have k4 : ¬ ((Int32.toInt z1) < 0) := fun h_9 => c2 ((fa_lt z1 0).mpr h_9)
    refine r_lload_n 6 1 C dX8_has_6 rfl ?_
    refine r_aload_n 7 0 C dX8_has_7 rfl ?_
    refine r_get 8 C dX8_has_8 (k := 3) 0 rfl rfl hiX8 (by decide) rfl (mg 1 rfl) (Or.inl rfl) rfl ?_
    obtain ⟨z5, ez5⟩ : ∃ z_9, Int32.toInt64 x0 = z_9 := ⟨_, rfl⟩
    have tz5 : (Int64.toInt z5) = (Int32.toInt x0) := by rw [← ez5]; exact Int32.toInt_toInt64 _
    refine r_i2l 11 z5 C dX8_has_11 ez5 ?_
    obtain ⟨z6, ez6⟩ : ∃ z_9, lg_cmp y0 z5 = z_9 := ⟨_, rfl⟩
    have l1z6 : (Int32.toInt z6) < 0 ↔ (Int64.toInt y0) < (Int64.toInt z5) := by rw [← ez6]; exact lgI1 y0 z5
    have l2z6 : 0 < (Int32.toInt z6) ↔ (Int64.toInt z5) < (Int64.toInt y0) := by rw [← ez6]; exact lgI2 y0 z5
    refine r_lcmp 12 z6 C dX8_has_12 ez6 ?_
    refine r_if_lt 13 18 C dX8_has_13 (by decide) (fun c7 => ?_) (fun c7 => ?_)
    · skip
      have k8 : (Int32.toInt z6) < 0 := (fa_lt z6 0).mp c7
      refine r_aload_n 18 0 C dX8_has_18 rfl ?_
      refine r_get 19 C dX8_has_19 (k := 5) 0 rfl rfl hiX8 (by decide) rfl (mg 2 rfl) (Or.inl rfl) rfl ?_
      refine r_if_gt 22 47 C dX8_has_22 (by decide) (fun c9 => ?_) (fun c9 => ?_)
      · skip
        have k10 : 0 < (Int32.toInt x2) := (fa_lt 0 x2).mp c9
        refine r_iconst 47 1 C dX8_has_47 (by decide) ?_
        refine r_goto 48 52 C dX8_has_48 (by decide) ?_
        exact r_zret 52 Rt dX8_has_52 (by decide) () (show (((Int64.toInt y0) < 0 ∧ 1 = 0) ∨ (¬ ((Int64.toInt y0) < 0) ∧ 0 < (Int32.toInt x2) ∧ 1 = 1) ∨ (¬ ((Int64.toInt y0) < 0) ∧ ¬ (0 < (Int32.toInt x2)) ∧ 200 ≤ (Int64.toInt y0) ∧ 1 = 0) ∨ (¬ ((Int64.toInt y0) < 0) ∧ ¬ (0 < (Int32.toInt x2)) ∧ ¬ (200 ≤ (Int64.toInt y0)) ∧ 1 = 0) ∨ (¬ ((Int64.toInt y0) < 0) ∧ ¬ (0 < (Int32.toInt x2)) ∧ ¬ (200 ≤ (Int64.toInt y0)) ∧ 1 = 1) ∨ (¬ ((Int64.toInt y0) < 0) ∧ 1 = 0)) from by refine Or.inr (Or.inl ?_) <;> ((repeat' apply And.intro) <;> first | trivial | rfl | assumption | omega | decide | exact Or.inl rfl | exact Or.inr (Or.inl rfl) | exact Or.inr (Or.inr rfl))) [0, 1] (by decide) rfl (Nat.le_of_ble_eq_true rfl) (Nat.le_of_ble_eq_true rfl)
      · skip
        have k11 : ¬ (0 < (Int32.toInt x2)) := fun h_9 => c9 ((fa_lt 0 x2).mpr h_9)
        refine r_lload_n 25 1 C dX8_has_25 rfl ?_
        refine r_aload_n 26 0 C dX8_has_26 rfl ?_
        refine r_get 27 C dX8_has_27 (k := 1) 0 rfl rfl hiX8 (by decide) rfl (mg 3 rfl) (Or.inl rfl) rfl ?_
        refine r_ialen 30 200 C dX8_has_30 1 rfl (by decide) ?_
        refine r_i2l 31 200 C dX8_has_31 (by decide) ?_
        obtain ⟨z12, ez12⟩ : ∃ z_9, lg_cmp y0 200 = z_9 := ⟨_, rfl⟩
        have l1z12 : (Int32.toInt z12) < 0 ↔ (Int64.toInt y0) < 200 := by rw [← ez12]; exact lgI1 y0 200
        have l2z12 : 0 < (Int32.toInt z12) ↔ 200 < (Int64.toInt y0) := by rw [← ez12]; exact lgI2 y0 200
        refine r_lcmp 32 z12 C dX8_has_32 ez12 ?_
        refine r_if_ge 33 51 C dX8_has_33 (by decide) (fun c13 => ?_) (fun c13 => ?_)
        · skip
          have k14 : 0 ≤ (Int32.toInt z12) := (fa_le 0 z12).mp c13
          refine r_iconst 51 0 C dX8_has_51 (by decide) ?_
          exact r_zret 52 Rt dX8_has_52 (by decide) () (show (((Int64.toInt y0) < 0 ∧ 0 = 0) ∨ (¬ ((Int64.toInt y0) < 0) ∧ 0 < (Int32.toInt x2) ∧ 0 = 1) ∨ (¬ ((Int64.toInt y0) < 0) ∧ ¬ (0 < (Int32.toInt x2)) ∧ 200 ≤ (Int64.toInt y0) ∧ 0 = 0) ∨ (¬ ((Int64.toInt y0) < 0) ∧ ¬ (0 < (Int32.toInt x2)) ∧ ¬ (200 ≤ (Int64.toInt y0)) ∧ 0 = 0) ∨ (¬ ((Int64.toInt y0) < 0) ∧ ¬ (0 < (Int32.toInt x2)) ∧ ¬ (200 ≤ (Int64.toInt y0)) ∧ 0 = 1) ∨ (¬ ((Int64.toInt y0) < 0) ∧ 0 = 0)) from by refine Or.inr (Or.inr (Or.inl ?_)) <;> ((repeat' apply And.intro) <;> first | trivial | rfl | assumption | omega | decide | exact Or.inl rfl | exact Or.inr (Or.inl rfl) | exact Or.inr (Or.inr rfl))) [0, 1] (by decide) rfl (Nat.le_of_ble_eq_true rfl) (Nat.le_of_ble_eq_true rfl)
        · skip
          have k15 : ¬ (0 ≤ (Int32.toInt z12)) := fun h_9 => c13 ((fa_le 0 z12).mpr h_9)
          refine r_aload_n 36 0 C dX8_has_36 rfl ?_
          refine r_get 37 C dX8_has_37 (k := 1) 0 rfl rfl hiX8 (by decide) rfl (mg 3 rfl) (Or.inl rfl) rfl ?_
          refine r_lload_n 40 1 C dX8_has_40 rfl ?_
          obtain ⟨z16, ez16⟩ : ∃ z_9, Int64.toInt32 y0 = z_9 := ⟨_, rfl⟩
          have tz16 : (Int32.toInt z16) = (Int64.toInt y0) := by rw [← ez16]; exact l2i_in (by omega) (by omega)
          refine r_l2i 41 z16 C dX8_has_41 ez16 ?_
          obtain ⟨z17, ez17⟩ : ∃ z_9, fn0 (Int32.toNatClampNeg z16) = z_9 := ⟨_, rfl⟩
          refine r_iald 42 z17 C dX8_has_42 1 rfl (vinI (by omega) (by omega)) ez17 ?_
          have gz17 := fb_rng z17
          refine r_iconst 43 (-1) C dX8_has_43 (by decide) ?_
          refine r_icmp_eq 44 51 C dX8_has_44 (by decide) (fun c18 => ?_) (fun c18 => ?_)
          · skip
            have k19 : (Int32.toInt z17) = (-1) := (fa_eq z17 (-1)).mp c18
            refine r_iconst 51 0 C dX8_has_51 (by decide) ?_
            exact r_zret 52 Rt dX8_has_52 (by decide) () (show (((Int64.toInt y0) < 0 ∧ 0 = 0) ∨ (¬ ((Int64.toInt y0) < 0) ∧ 0 < (Int32.toInt x2) ∧ 0 = 1) ∨ (¬ ((Int64.toInt y0) < 0) ∧ ¬ (0 < (Int32.toInt x2)) ∧ 200 ≤ (Int64.toInt y0) ∧ 0 = 0) ∨ (¬ ((Int64.toInt y0) < 0) ∧ ¬ (0 < (Int32.toInt x2)) ∧ ¬ (200 ≤ (Int64.toInt y0)) ∧ 0 = 0) ∨ (¬ ((Int64.toInt y0) < 0) ∧ ¬ (0 < (Int32.toInt x2)) ∧ ¬ (200 ≤ (Int64.toInt y0)) ∧ 0 = 1) ∨ (¬ ((Int64.toInt y0) < 0) ∧ 0 = 0)) from by refine Or.inr (Or.inr (Or.inr (Or.inl ?_))) <;> ((repeat' apply And.intro) <;> first | trivial | rfl | assumption | omega | decide | exact Or.inl rfl | exact Or.inr (Or.inl rfl) | exact Or.inr (Or.inr rfl))) [0, 1] (by decide) rfl (Nat.le_of_ble_eq_true rfl) (Nat.le_of_ble_eq_true rfl)
          · skip
            have k20 : ¬ ((Int32.toInt z17) = (-1)) := fun h_9 => c18 ((fa_eq z17 (-1)).mpr h_9)
            refine r_iconst 47 1 C dX8_has_47 (by decide) ?_
            refine r_goto 48 52 C dX8_has_48 (by decide) ?_
            exact r_zret 52 Rt dX8_has_52 (by decide) () (show (((Int64.toInt y0) < 0 ∧ 1 = 0) ∨ (¬ ((Int64.toInt y0) < 0) ∧ 0 < (Int32.toInt x2) ∧ 1 = 1) ∨ (¬ ((Int64.toInt y0) < 0) ∧ ¬ (0 < (Int32.toInt x2)) ∧ 200 ≤ (Int64.toInt y0) ∧ 1 = 0) ∨ (¬ ((Int64.toInt y0) < 0) ∧ ¬ (0 < (Int32.toInt x2)) ∧ ¬ (200 ≤ (Int64.toInt y0)) ∧ 1 = 0) ∨ (¬ ((Int64.toInt y0) < 0) ∧ ¬ (0 < (Int32.toInt x2)) ∧ ¬ (200 ≤ (Int64.toInt y0)) ∧ 1 = 1) ∨ (¬ ((Int64.toInt y0) < 0) ∧ 1 = 0)) from by refine Or.inr (Or.inr (Or.inr (Or.inr (Or.inl ?_)))) <;> ((repeat' apply And.intro) <;> first | trivial | rfl | assumption | omega | decide | exact Or.inl rfl | exact Or.inr (Or.inl rfl) | exact Or.inr (Or.inr rfl))) [0, 1] (by decide) rfl (Nat.le_of_ble_eq_true rfl) (Nat.le_of_ble_eq_true rfl)
    · skip
      have k21 : ¬ ((Int32.toInt z6) < 0) := fun h_9 => c7 ((fa_lt z6 0).mpr h_9)
      refine r_iconst 16 0 C dX8_has_16 (by decide) ?_
      exact r_zret 17 Rt dX8_has_17 (by decide) () (show (((Int64.toInt y0) < 0 ∧ 0 = 0) ∨ (¬ ((Int64.toInt y0) < 0) ∧ 0 < (Int32.toInt x2) ∧ 0 = 1) ∨ (¬ ((Int64.toInt y0) < 0) ∧ ¬ (0 < (Int32.toInt x2)) ∧ 200 ≤ (Int64.toInt y0) ∧ 0 = 0) ∨ (¬ ((Int64.toInt y0) < 0) ∧ ¬ (0 < (Int32.toInt x2)) ∧ ¬ (200 ≤ (Int64.toInt y0)) ∧ 0 = 0) ∨ (¬ ((Int64.toInt y0) < 0) ∧ ¬ (0 < (Int32.toInt x2)) ∧ ¬ (200 ≤ (Int64.toInt y0)) ∧ 0 = 1) ∨ (¬ ((Int64.toInt y0) < 0) ∧ 0 = 0)) from by refine Or.inr (Or.inr (Or.inr (Or.inr (Or.inr (?_))))) <;> ((repeat' apply And.intro) <;> first | trivial | rfl | assumption | omega | decide | exact Or.inl rfl | exact Or.inr (Or.inl rfl) | exact Or.inr (Or.inr rfl))) [0, 1] (by decide) rfl (Nat.le_of_ble_eq_true rfl) (Nat.le_of_ble_eq_true rfl)
set_option maxHeartbeats 4000000 in
set_option maxRecDepth 100000 in
theorem c34_X8_finishOf (l : Launch) (g : GD) (h0 : Nat) (h1 : Nat) (h2 : Nat) (h3 : Nat) (h4 : Nat) (x0 : Int32) (x1 : Int32) (x2 : Int32) (x3 : Int32) (x4 : Int32) (fn0 : Nat → Int32) (fn1 : Nat → Int32) (fn2 : Nat → Int32) (i_x4 : (0 ≤ (Int32.toInt x4) ∧ (Int32.toInt x4) ≤ 1500)) (sz : Nat) : Met l yX8_finishOf wsX8_finishOf ({ frames := 2, cells := 0, slots := 0, locals := 45 }) (va_Pc [.ref h0, .int x0] (PW g [(h0, .inr (7, [.ref h1, .ref h2, .ref h3, .int x1, .int x2, .int x3])), (h1, .inr (4, [.ref h4, .int x4])), (h2, .inl (gI g, 200, .inl fn0)), (h3, .inl (gI g, 200, .inl fn1)), (h4, .inl (gB g, 1500, .inl fn2))] sz)) (va_Qi (fun (r : Int32) (_ : Unit) => True) (BW g (va_A [(h0, .inr (7, [.ref h1, .ref h2, .ref h3, .int x1, .int x2, .int x3])), (h1, .inr (4, [.ref h4, .int x4])), (h2, .inl (gI g, 200, .inl fn0)), (h3, .inl (gI g, 200, .inl fn1)), (h4, .inl (gB g, 1500, .inl fn2))] sz) (fun _ : Unit => [(h0, .inr (7, [.ref h1, .ref h2, .ref h3, .int x1, .int x2, .int x3])), (h1, .inr (4, [.ref h4, .int x4])), (h2, .inl (gI g, 200, .inl fn0)), (h3, .inl (gI g, 200, .inl fn1)), (h4, .inl (gB g, 1500, .inl fn2))])) (va_A [(h0, .inr (7, [.ref h1, .ref h2, .ref h3, .int x1, .int x2, .int x3])), (h1, .inr (4, [.ref h4, .int x4])), (h2, .inl (gI g, 200, .inl fn0)), (h3, .inl (gI g, 200, .inl fn1)), (h4, .inl (gB g, 1500, .inl fn2))] sz)) 0 0 (va_A [(h0, .inr (7, [.ref h1, .ref h2, .ref h3, .int x1, .int x2, .int x3])), (h1, .inr (4, [.ref h4, .int x4])), (h2, .inl (gI g, 200, .inl fn0)), (h3, .inl (gI g, 200, .inl fn1)), (h4, .inl (gB g, 1500, .inl fn2))] sz) := by
  refine met_i RX8 (by decide) rfl rfl (Nat.le_of_ble_eq_true rfl) [(0, .ref h0), (1, .int x0)] rfl ?_
  intro p e s m args below meth c A Q C hnm Rt
  have gx0 := fb_rng x0
  have gx3 := fb_rng x3
  have hiX8 : ∀ w ∈ wsX80, w ∈ wsX8_finishOf := fun w h => List.mem_cons_of_mem _ (List.mem_append_left _ (List.mem_append_right _ (h)))
  refine r_aload_n 0 0 C dX8_finishOf_0 rfl ?_
  refine r_iload_n 1 1 C dX8_finishOf_1 rfl ?_
  obtain ⟨z1, ez1⟩ : ∃ z_9, Int32.toInt64 x0 = z_9 := ⟨_, rfl⟩
  have tz1 : (Int64.toInt z1) = (Int32.toInt x0) := by rw [← ez1]; exact Int32.toInt_toInt64 _
  refine r_i2l 2 z1 C dX8_finishOf_2 ez1 ?_
  refine r_callVi 3 C dX8_finishOf_3 [] [(h0, .inr (7, [.ref h1, .ref h2, .ref h3, .int x1, .int x2, .int x3])), (h2, .inl (gI g, 200, .inl fn0))] [(h1, .inr (4, [.ref h4, .int x4])), (h3, .inl (gI g, 200, .inl fn1)), (h4, .inl (gB g, 1500, .inl fn2))] (fun sz => c33_X8_has l g h0 h2 z1 h1 h3 x1 x2 x3 fn0  sz) gX8_finishOf_X8_has rfl ⟨rfl, rfl⟩ 1 (by decide) ⟨Nat.le_of_ble_eq_true rfl, Nat.le_of_ble_eq_true rfl⟩ 0 rfl rfl [0, 2] [1, 3, 4] rfl rfl (by decide) (by decide) (by decide) rfl rfl (Nat.le_of_ble_eq_true rfl) ⟨Nat.le_of_ble_eq_true rfl, Nat.le_of_ble_eq_true rfl⟩ (fun r2 _ w3 => ?_)
  refine r_ws [(h1, .inr (4, [.ref h4, .int x4])), (h3, .inl (gI g, 200, .inl fn1)), (h4, .inl (gB g, 1500, .inl fn2)), (h0, .inr (7, [.ref h1, .ref h2, .ref h3, .int x1, .int x2, .int x3])), (h2, .inl (gI g, 200, .inl fn0))] rfl ?_
  have w4 : (((Int64.toInt z1) < 0 ∧ r2 = 0) ∨ (¬ ((Int64.toInt z1) < 0) ∧ 0 < (Int32.toInt x3) ∧ r2 = 1) ∨ (¬ ((Int64.toInt z1) < 0) ∧ ¬ (0 < (Int32.toInt x3)) ∧ 200 ≤ (Int64.toInt z1) ∧ r2 = 0) ∨ (¬ ((Int64.toInt z1) < 0) ∧ ¬ (0 < (Int32.toInt x3)) ∧ ¬ (200 ≤ (Int64.toInt z1)) ∧ r2 = 0) ∨ (¬ ((Int64.toInt z1) < 0) ∧ ¬ (0 < (Int32.toInt x3)) ∧ ¬ (200 ≤ (Int64.toInt z1)) ∧ r2 = 1) ∨ (¬ ((Int64.toInt z1) < 0) ∧ r2 = 0)) := w3
  rcases w4 with ⟨k5, k6⟩ | w4
  · skip
    have k6 := k6.symm
    subst k6
    refine r_if_ne_f 6 11 C dX8_finishOf_6 (by decide) (by decide) ?_
    refine r_iconst 9 0 C dX8_finishOf_9 (by decide) ?_
    exact r_iret 10 Rt dX8_finishOf_10 () trivial [3, 0, 4, 1, 2] (by decide) rfl (Nat.le_of_ble_eq_true rfl) (Nat.le_of_ble_eq_true rfl)
  rcases w4 with ⟨k7, k8, k9⟩ | w4
  · skip
    have k9 := k9.symm
    subst k9
    refine r_if_ne_t 6 11 C dX8_finishOf_6 (by decide) (by decide) ?_
    refine r_aload_n 11 0 C dX8_finishOf_11 rfl ?_
    refine r_get 12 C dX8_finishOf_12 (k := 5) 3 rfl rfl hiX8 (by decide) rfl (mg 1 rfl) (Or.inl rfl) rfl ?_
    refine r_if_le_f 15 28 C dX8_finishOf_15 (by decide) (fun h_9 => by have h_8 : (Int32.toInt x3) ≤ 0 := (fa_le x3 0).mp h_9; omega) ?_
    refine r_aload_n 18 0 C dX8_finishOf_18 rfl ?_
    refine r_iload_n 19 1 C dX8_finishOf_19 rfl ?_
    refine r_iconst 20 1 C dX8_finishOf_20 (by decide) ?_
    obtain ⟨z10, ez10⟩ : ∃ z_9, x0 + 1 = z_9 := ⟨_, rfl⟩
    have gz10 := fb_rng z10
    refine r_iadd 21 z10 C dX8_finishOf_21 ez10 ?_
    refine r_callVi 22 C dX8_finishOf_22 [] [(h0, .inr (7, [.ref h1, .ref h2, .ref h3, .int x1, .int x2, .int x3])), (h1, .inr (4, [.ref h4, .int x4])), (h4, .inl (gB g, 1500, .inl fn2))] [(h3, .inl (gI g, 200, .inl fn1)), (h2, .inl (gI g, 200, .inl fn0))] (fun sz => c30_X8_objectAt l g h0 h1 h4 z10 h2 h3 x1 x2 x3 x4 fn2 i_x4 sz) gX8_finishOf_X8_objectAt rfl ⟨rfl, rfl⟩ 1 (by decide) ⟨Nat.le_of_ble_eq_true rfl, Nat.le_of_ble_eq_true rfl⟩ 3 rfl rfl [3, 0, 2] [1, 4] rfl rfl (by decide) (by decide) (by decide) rfl rfl (Nat.le_of_ble_eq_true rfl) ⟨Nat.le_of_ble_eq_true rfl, Nat.le_of_ble_eq_true rfl⟩ (fun r11 _ w12 => ?_)
    refine r_ws [(h3, .inl (gI g, 200, .inl fn1)), (h2, .inl (gI g, 200, .inl fn0)), (h0, .inr (7, [.ref h1, .ref h2, .ref h3, .int x1, .int x2, .int x3])), (h1, .inr (4, [.ref h4, .int x4])), (h4, .inl (gB g, 1500, .inl fn2))] rfl ?_
    have gr11 := fb_rng r11
    refine r_goto 25 34 C dX8_finishOf_25 (by decide) ?_
    exact r_iret 34 Rt dX8_finishOf_34 () trivial [2, 3, 1, 0, 4] (by decide) rfl (Nat.le_of_ble_eq_true rfl) (Nat.le_of_ble_eq_true rfl)
  rcases w4 with ⟨k13, k14, k15, k16⟩ | w4
  · skip
    have k16 := k16.symm
    subst k16
    refine r_if_ne_f 6 11 C dX8_finishOf_6 (by decide) (by decide) ?_
    refine r_iconst 9 0 C dX8_finishOf_9 (by decide) ?_
    exact r_iret 10 Rt dX8_finishOf_10 () trivial [3, 0, 4, 1, 2] (by decide) rfl (Nat.le_of_ble_eq_true rfl) (Nat.le_of_ble_eq_true rfl)
  rcases w4 with ⟨k17, k18, k19, k20⟩ | w4
  · skip
    have k20 := k20.symm
    subst k20
    refine r_if_ne_f 6 11 C dX8_finishOf_6 (by decide) (by decide) ?_
    refine r_iconst 9 0 C dX8_finishOf_9 (by decide) ?_
    exact r_iret 10 Rt dX8_finishOf_10 () trivial [3, 0, 4, 1, 2] (by decide) rfl (Nat.le_of_ble_eq_true rfl) (Nat.le_of_ble_eq_true rfl)
  rcases w4 with ⟨k21, k22, k23, k24⟩ | w4
  · skip
    have k24 := k24.symm
    subst k24
    refine r_if_ne_t 6 11 C dX8_finishOf_6 (by decide) (by decide) ?_
    refine r_aload_n 11 0 C dX8_finishOf_11 rfl ?_
    refine r_get 12 C dX8_finishOf_12 (k := 5) 3 rfl rfl hiX8 (by decide) rfl (mg 1 rfl) (Or.inl rfl) rfl ?_
    refine r_if_le_t 15 28 C dX8_finishOf_15 (by decide) ((fa_le x3 0).mpr (by show (Int32.toInt x3) ≤ 0; omega)) ?_
    refine r_aload_n 28 0 C dX8_finishOf_28 rfl ?_
    refine r_get 29 C dX8_finishOf_29 (k := 2) 3 rfl rfl hiX8 (by decide) rfl (mg 2 rfl) (Or.inl rfl) rfl ?_
    refine r_iload_n 32 1 C dX8_finishOf_32 rfl ?_
    obtain ⟨z25, ez25⟩ : ∃ z_9, fn1 (Int32.toNatClampNeg x0) = z_9 := ⟨_, rfl⟩
    refine r_iald 33 z25 C dX8_finishOf_33 1 rfl (vinI (by omega) (by omega)) ez25 ?_
    have gz25 := fb_rng z25
    exact r_iret 34 Rt dX8_finishOf_34 () trivial [3, 0, 4, 1, 2] (by decide) rfl (Nat.le_of_ble_eq_true rfl) (Nat.le_of_ble_eq_true rfl)
  obtain ⟨k26, k27⟩ := w4
  have k27 := k27.symm
  subst k27
  refine r_if_ne_f 6 11 C dX8_finishOf_6 (by decide) (by decide) ?_
  refine r_iconst 9 0 C dX8_finishOf_9 (by decide) ?_
  exact r_iret 10 Rt dX8_finishOf_10 () trivial [3, 0, 4, 1, 2] (by decide) rfl (Nat.le_of_ble_eq_true rfl) (Nat.le_of_ble_eq_true rfl)
set_option maxHeartbeats 4000000 in
set_option maxRecDepth 100000 in
theorem c35_X8_beginOf (l : Launch) (g : GD) (h0 : Nat) (h1 : Nat) (h2 : Nat) (h3 : Nat) (x0 : Int32) (h4 : Nat) (x1 : Int32) (x2 : Int32) (x3 : Int32) (x4 : Int32) (fn0 : Nat → Int32) (fn1 : Nat → Int32) (i_x4 : (0 ≤ (Int32.toInt x4) ∧ (Int32.toInt x4) ≤ 1500)) (sz : Nat) : Met l yX8_beginOf wsX8_beginOf ({ frames := 2, cells := 0, slots := 0, locals := 45 }) (va_Pc [.ref h0, .int x0] (PW g [(h0, .inr (7, [.ref h1, .ref h2, .ref h4, .int x1, .int x2, .int x3])), (h1, .inr (4, [.ref h3, .int x4])), (h2, .inl (gI g, 200, .inl fn0)), (h3, .inl (gB g, 1500, .inl fn1))] sz)) (va_Qi (fun (r : Int32) (_ : Unit) => True) (BW g (va_A [(h0, .inr (7, [.ref h1, .ref h2, .ref h4, .int x1, .int x2, .int x3])), (h1, .inr (4, [.ref h3, .int x4])), (h2, .inl (gI g, 200, .inl fn0)), (h3, .inl (gB g, 1500, .inl fn1))] sz) (fun _ : Unit => [(h0, .inr (7, [.ref h1, .ref h2, .ref h4, .int x1, .int x2, .int x3])), (h1, .inr (4, [.ref h3, .int x4])), (h2, .inl (gI g, 200, .inl fn0)), (h3, .inl (gB g, 1500, .inl fn1))])) (va_A [(h0, .inr (7, [.ref h1, .ref h2, .ref h4, .int x1, .int x2, .int x3])), (h1, .inr (4, [.ref h3, .int x4])), (h2, .inl (gI g, 200, .inl fn0)), (h3, .inl (gB g, 1500, .inl fn1))] sz)) 0 0 (va_A [(h0, .inr (7, [.ref h1, .ref h2, .ref h4, .int x1, .int x2, .int x3])), (h1, .inr (4, [.ref h3, .int x4])), (h2, .inl (gI g, 200, .inl fn0)), (h3, .inl (gB g, 1500, .inl fn1))] sz) := by
  refine met_i RX8 (by decide) rfl rfl (Nat.le_of_ble_eq_true rfl) [(0, .ref h0), (1, .int x0)] rfl ?_
  intro p e s m args below meth c A Q C hnm Rt
  have gx0 := fb_rng x0
  have gx3 := fb_rng x3
  have hiX8 : ∀ w ∈ wsX80, w ∈ wsX8_beginOf := fun w h => List.mem_cons_of_mem _ (List.mem_append_left _ (List.mem_append_right _ (h)))
  refine r_aload_n 0 0 C dX8_beginOf_0 rfl ?_
  refine r_iload_n 1 1 C dX8_beginOf_1 rfl ?_
  obtain ⟨z1, ez1⟩ : ∃ z_9, Int32.toInt64 x0 = z_9 := ⟨_, rfl⟩
  have tz1 : (Int64.toInt z1) = (Int32.toInt x0) := by rw [← ez1]; exact Int32.toInt_toInt64 _
  refine r_i2l 2 z1 C dX8_beginOf_2 ez1 ?_
  refine r_callVi 3 C dX8_beginOf_3 [] [(h0, .inr (7, [.ref h1, .ref h2, .ref h4, .int x1, .int x2, .int x3])), (h2, .inl (gI g, 200, .inl fn0))] [(h1, .inr (4, [.ref h3, .int x4])), (h3, .inl (gB g, 1500, .inl fn1))] (fun sz => c33_X8_has l g h0 h2 z1 h1 h4 x1 x2 x3 fn0  sz) gX8_beginOf_X8_has rfl ⟨rfl, rfl⟩ 1 (by decide) ⟨Nat.le_of_ble_eq_true rfl, Nat.le_of_ble_eq_true rfl⟩ 0 rfl rfl [0, 2] [1, 3] rfl rfl (by decide) (by decide) (by decide) rfl rfl (Nat.le_of_ble_eq_true rfl) ⟨Nat.le_of_ble_eq_true rfl, Nat.le_of_ble_eq_true rfl⟩ (fun r2 _ w3 => ?_)
  refine r_ws [(h1, .inr (4, [.ref h3, .int x4])), (h3, .inl (gB g, 1500, .inl fn1)), (h0, .inr (7, [.ref h1, .ref h2, .ref h4, .int x1, .int x2, .int x3])), (h2, .inl (gI g, 200, .inl fn0))] rfl ?_
  have w4 : (((Int64.toInt z1) < 0 ∧ r2 = 0) ∨ (¬ ((Int64.toInt z1) < 0) ∧ 0 < (Int32.toInt x3) ∧ r2 = 1) ∨ (¬ ((Int64.toInt z1) < 0) ∧ ¬ (0 < (Int32.toInt x3)) ∧ 200 ≤ (Int64.toInt z1) ∧ r2 = 0) ∨ (¬ ((Int64.toInt z1) < 0) ∧ ¬ (0 < (Int32.toInt x3)) ∧ ¬ (200 ≤ (Int64.toInt z1)) ∧ r2 = 0) ∨ (¬ ((Int64.toInt z1) < 0) ∧ ¬ (0 < (Int32.toInt x3)) ∧ ¬ (200 ≤ (Int64.toInt z1)) ∧ r2 = 1) ∨ (¬ ((Int64.toInt z1) < 0) ∧ r2 = 0)) := w3
  rcases w4 with ⟨k5, k6⟩ | w4
  · skip
    have k6 := k6.symm
    subst k6
    refine r_if_ne_f 6 11 C dX8_beginOf_6 (by decide) (by decide) ?_
    refine r_iconst 9 0 C dX8_beginOf_9 (by decide) ?_
    exact r_iret 10 Rt dX8_beginOf_10 () trivial [2, 0, 3, 1] (by decide) rfl (Nat.le_of_ble_eq_true rfl) (Nat.le_of_ble_eq_true rfl)
  rcases w4 with ⟨k7, k8, k9⟩ | w4
  · skip
    have k9 := k9.symm
    subst k9
    refine r_if_ne_t 6 11 C dX8_beginOf_6 (by decide) (by decide) ?_
    refine r_aload_n 11 0 C dX8_beginOf_11 rfl ?_
    refine r_get 12 C dX8_beginOf_12 (k := 5) 2 rfl rfl hiX8 (by decide) rfl (mg 1 rfl) (Or.inl rfl) rfl ?_
    refine r_if_le_f 15 26 C dX8_beginOf_15 (by decide) (fun h_9 => by have h_8 : (Int32.toInt x3) ≤ 0 := (fa_le x3 0).mp h_9; omega) ?_
    refine r_aload_n 18 0 C dX8_beginOf_18 rfl ?_
    refine r_iload_n 19 1 C dX8_beginOf_19 rfl ?_
    refine r_callVi 20 C dX8_beginOf_20 [] [(h0, .inr (7, [.ref h1, .ref h2, .ref h4, .int x1, .int x2, .int x3])), (h1, .inr (4, [.ref h3, .int x4])), (h3, .inl (gB g, 1500, .inl fn1))] [(h2, .inl (gI g, 200, .inl fn0))] (fun sz => c30_X8_objectAt l g h0 h1 h3 x0 h2 h4 x1 x2 x3 x4 fn1 i_x4 sz) gX8_beginOf_X8_objectAt rfl ⟨rfl, rfl⟩ 1 (by decide) ⟨Nat.le_of_ble_eq_true rfl, Nat.le_of_ble_eq_true rfl⟩ 2 rfl rfl [2, 0, 1] [3] rfl rfl (by decide) (by decide) (by decide) rfl rfl (Nat.le_of_ble_eq_true rfl) ⟨Nat.le_of_ble_eq_true rfl, Nat.le_of_ble_eq_true rfl⟩ (fun r10 _ w11 => ?_)
    refine r_ws [(h2, .inl (gI g, 200, .inl fn0)), (h0, .inr (7, [.ref h1, .ref h2, .ref h4, .int x1, .int x2, .int x3])), (h1, .inr (4, [.ref h3, .int x4])), (h3, .inl (gB g, 1500, .inl fn1))] rfl ?_
    have gr10 := fb_rng r10
    refine r_goto 23 32 C dX8_beginOf_23 (by decide) ?_
    exact r_iret 32 Rt dX8_beginOf_32 () trivial [1, 2, 0, 3] (by decide) rfl (Nat.le_of_ble_eq_true rfl) (Nat.le_of_ble_eq_true rfl)
  rcases w4 with ⟨k12, k13, k14, k15⟩ | w4
  · skip
    have k15 := k15.symm
    subst k15
    refine r_if_ne_f 6 11 C dX8_beginOf_6 (by decide) (by decide) ?_
    refine r_iconst 9 0 C dX8_beginOf_9 (by decide) ?_
    exact r_iret 10 Rt dX8_beginOf_10 () trivial [2, 0, 3, 1] (by decide) rfl (Nat.le_of_ble_eq_true rfl) (Nat.le_of_ble_eq_true rfl)
  rcases w4 with ⟨k16, k17, k18, k19⟩ | w4
  · skip
    have k19 := k19.symm
    subst k19
    refine r_if_ne_f 6 11 C dX8_beginOf_6 (by decide) (by decide) ?_
    refine r_iconst 9 0 C dX8_beginOf_9 (by decide) ?_
    exact r_iret 10 Rt dX8_beginOf_10 () trivial [2, 0, 3, 1] (by decide) rfl (Nat.le_of_ble_eq_true rfl) (Nat.le_of_ble_eq_true rfl)
  rcases w4 with ⟨k20, k21, k22, k23⟩ | w4
  · skip
    have k23 := k23.symm
    subst k23
    refine r_if_ne_t 6 11 C dX8_beginOf_6 (by decide) (by decide) ?_
    refine r_aload_n 11 0 C dX8_beginOf_11 rfl ?_
    refine r_get 12 C dX8_beginOf_12 (k := 5) 2 rfl rfl hiX8 (by decide) rfl (mg 1 rfl) (Or.inl rfl) rfl ?_
    refine r_if_le_t 15 26 C dX8_beginOf_15 (by decide) ((fa_le x3 0).mpr (by show (Int32.toInt x3) ≤ 0; omega)) ?_
    refine r_aload_n 26 0 C dX8_beginOf_26 rfl ?_
    refine r_get 27 C dX8_beginOf_27 (k := 1) 2 rfl rfl hiX8 (by decide) rfl (mg 2 rfl) (Or.inl rfl) rfl ?_
    refine r_iload_n 30 1 C dX8_beginOf_30 rfl ?_
    obtain ⟨z24, ez24⟩ : ∃ z_9, fn0 (Int32.toNatClampNeg x0) = z_9 := ⟨_, rfl⟩
    refine r_iald 31 z24 C dX8_beginOf_31 3 rfl (vinI (by omega) (by omega)) ez24 ?_
    have gz24 := fb_rng z24
    exact r_iret 32 Rt dX8_beginOf_32 () trivial [2, 0, 3, 1] (by decide) rfl (Nat.le_of_ble_eq_true rfl) (Nat.le_of_ble_eq_true rfl)
  obtain ⟨k25, k26⟩ := w4
  have k26 := k26.symm
  subst k26
  refine r_if_ne_f 6 11 C dX8_beginOf_6 (by decide) (by decide) ?_
  refine r_iconst 9 0 C dX8_beginOf_9 (by decide) ?_
  exact r_iret 10 Rt dX8_beginOf_10 () trivial [2, 0, 3, 1] (by decide) rfl (Nat.le_of_ble_eq_true rfl) (Nat.le_of_ble_eq_true rfl)
set_option maxHeartbeats 4000000 in
set_option maxRecDepth 100000 in
theorem c36_X8_has (l : Launch) (g : GD) (h0 : Nat) (h1 : Nat) (y0 : Int64) (h2 : Nat) (h3 : Nat) (x0 : Int32) (x1 : Int32) (x2 : Int32) (fn0 : Nat → Int32) (sz : Nat) : Met l yX8_has wsX8_has ({ frames := 0, cells := 0, slots := 0, locals := 0 }) (va_Pc [.ref h0, .long y0] (PW g [(h0, .inr (7, [.ref h2, .ref h1, .ref h3, .int x0, .int x1, .int x2])), (h1, .inl (gI g, 0, .inl fn0))] sz)) (va_Qi (fun (r : Int32) (_ : Unit) => (((Int64.toInt y0) < 0 ∧ r = 0) ∨ (¬ ((Int64.toInt y0) < 0) ∧ 0 < (Int32.toInt x2) ∧ r = 1) ∨ (¬ ((Int64.toInt y0) < 0) ∧ ¬ (0 < (Int32.toInt x2)) ∧ r = 0) ∨ (¬ ((Int64.toInt y0) < 0) ∧ r = 0))) (BW g (va_A [(h0, .inr (7, [.ref h2, .ref h1, .ref h3, .int x0, .int x1, .int x2])), (h1, .inl (gI g, 0, .inl fn0))] sz) (fun _ : Unit => [(h0, .inr (7, [.ref h2, .ref h1, .ref h3, .int x0, .int x1, .int x2])), (h1, .inl (gI g, 0, .inl fn0))])) (va_A [(h0, .inr (7, [.ref h2, .ref h1, .ref h3, .int x0, .int x1, .int x2])), (h1, .inl (gI g, 0, .inl fn0))] sz)) 0 0 (va_A [(h0, .inr (7, [.ref h2, .ref h1, .ref h3, .int x0, .int x1, .int x2])), (h1, .inl (gI g, 0, .inl fn0))] sz) := by
  refine met_z RX8 (by decide) rfl rfl (Nat.le_of_ble_eq_true rfl) [(0, .ref h0), (1, .long y0)] rfl ?_
  intro p e s m args below meth c A Q C hnm Rt
  have gy0 := fb_rngL y0
  have gx0 := fb_rng x0
  have gx2 := fb_rng x2
  have hiX8 : ∀ w ∈ wsX80, w ∈ wsX8_has := fun w h => List.mem_cons_of_mem _ (List.mem_append_right _ (h))
  refine r_lload_n 0 1 C dX8_has_0 rfl ?_
  refine r_lconst 1 0 C dX8_has_1 (by decide) ?_
  obtain ⟨z1, ez1⟩ : ∃ z_9, lg_cmp y0 0 = z_9 := ⟨_, rfl⟩
  have l1z1 : (Int32.toInt z1) < 0 ↔ (Int64.toInt y0) < 0 := by rw [← ez1]; exact lgI1 y0 0
  have l2z1 : 0 < (Int32.toInt z1) ↔ 0 < (Int64.toInt y0) := by rw [← ez1]; exact lgI2 y0 0
  refine r_lcmp 2 z1 C dX8_has_2 ez1 ?_
  refine r_if_lt 3 16 C dX8_has_3 (by decide) (fun c2 => ?_) (fun c2 => ?_)
  · skip
    have k3 : (Int32.toInt z1) < 0 := (fa_lt z1 0).mp c2
    refine r_iconst 16 0 C dX8_has_16 (by decide) ?_
    exact r_zret 17 Rt dX8_has_17 (by decide) () (show (((Int64.toInt y0) < 0 ∧ 0 = 0) ∨ (¬ ((Int64.toInt y0) < 0) ∧ 0 < (Int32.toInt x2) ∧ 0 = 1) ∨ (¬ ((Int64.toInt y0) < 0) ∧ ¬ (0 < (Int32.toInt x2)) ∧ 0 = 0) ∨ (¬ ((Int64.toInt y0) < 0) ∧ 0 = 0)) from by refine Or.inl ?_ <;> ((repeat' apply And.intro) <;> first | trivial | rfl | assumption | omega | decide | exact Or.inl rfl | exact Or.inr (Or.inl rfl) | exact Or.inr (Or.inr rfl))) [0, 1] (by decide) rfl (Nat.le_of_ble_eq_true rfl) (Nat.le_of_ble_eq_true rfl)
  · skip
    have k4 : ¬ ((Int32.toInt z1) < 0) := fun h_9 => c2 ((fa_lt z1 0).mpr h_9)
    refine r_lload_n 6 1 C dX8_has_6 rfl ?_
    refine r_aload_n 7 0 C dX8_has_7 rfl ?_
    refine r_get 8 C dX8_has_8 (k := 3) 0 rfl rfl hiX8 (by decide) rfl (mg 1 rfl) (Or.inl rfl) rfl ?_
    obtain ⟨z5, ez5⟩ : ∃ z_9, Int32.toInt64 x0 = z_9 := ⟨_, rfl⟩
    have tz5 : (Int64.toInt z5) = (Int32.toInt x0) := by rw [← ez5]; exact Int32.toInt_toInt64 _
    refine r_i2l 11 z5 C dX8_has_11 ez5 ?_
    obtain ⟨z6, ez6⟩ : ∃ z_9, lg_cmp y0 z5 = z_9 := ⟨_, rfl⟩
    have l1z6 : (Int32.toInt z6) < 0 ↔ (Int64.toInt y0) < (Int64.toInt z5) := by rw [← ez6]; exact lgI1 y0 z5
    have l2z6 : 0 < (Int32.toInt z6) ↔ (Int64.toInt z5) < (Int64.toInt y0) := by rw [← ez6]; exact lgI2 y0 z5
    refine r_lcmp 12 z6 C dX8_has_12 ez6 ?_
    refine r_if_lt 13 18 C dX8_has_13 (by decide) (fun c7 => ?_) (fun c7 => ?_)
    · skip
      have k8 : (Int32.toInt z6) < 0 := (fa_lt z6 0).mp c7
      refine r_aload_n 18 0 C dX8_has_18 rfl ?_
      refine r_get 19 C dX8_has_19 (k := 5) 0 rfl rfl hiX8 (by decide) rfl (mg 2 rfl) (Or.inl rfl) rfl ?_
      refine r_if_gt 22 47 C dX8_has_22 (by decide) (fun c9 => ?_) (fun c9 => ?_)
      · skip
        have k10 : 0 < (Int32.toInt x2) := (fa_lt 0 x2).mp c9
        refine r_iconst 47 1 C dX8_has_47 (by decide) ?_
        refine r_goto 48 52 C dX8_has_48 (by decide) ?_
        exact r_zret 52 Rt dX8_has_52 (by decide) () (show (((Int64.toInt y0) < 0 ∧ 1 = 0) ∨ (¬ ((Int64.toInt y0) < 0) ∧ 0 < (Int32.toInt x2) ∧ 1 = 1) ∨ (¬ ((Int64.toInt y0) < 0) ∧ ¬ (0 < (Int32.toInt x2)) ∧ 1 = 0) ∨ (¬ ((Int64.toInt y0) < 0) ∧ 1 = 0)) from by refine Or.inr (Or.inl ?_) <;> ((repeat' apply And.intro) <;> first | trivial | rfl | assumption | omega | decide | exact Or.inl rfl | exact Or.inr (Or.inl rfl) | exact Or.inr (Or.inr rfl))) [0, 1] (by decide) rfl (Nat.le_of_ble_eq_true rfl) (Nat.le_of_ble_eq_true rfl)
      · skip
        have k11 : ¬ (0 < (Int32.toInt x2)) := fun h_9 => c9 ((fa_lt 0 x2).mpr h_9)
        refine r_lload_n 25 1 C dX8_has_25 rfl ?_
        refine r_aload_n 26 0 C dX8_has_26 rfl ?_
        refine r_get 27 C dX8_has_27 (k := 1) 0 rfl rfl hiX8 (by decide) rfl (mg 3 rfl) (Or.inl rfl) rfl ?_
        refine r_ialen 30 0 C dX8_has_30 1 rfl (by decide) ?_
        refine r_i2l 31 0 C dX8_has_31 (by decide) ?_
        obtain ⟨z12, ez12⟩ : ∃ z_9, lg_cmp y0 0 = z_9 := ⟨_, rfl⟩
        have l1z12 : (Int32.toInt z12) < 0 ↔ (Int64.toInt y0) < 0 := by rw [← ez12]; exact lgI1 y0 0
        have l2z12 : 0 < (Int32.toInt z12) ↔ 0 < (Int64.toInt y0) := by rw [← ez12]; exact lgI2 y0 0
        refine r_lcmp 32 z12 C dX8_has_32 ez12 ?_
        refine r_if_ge_t 33 51 C dX8_has_33 (by decide) ((fa_le 0 z12).mpr (by show 0 ≤ (Int32.toInt z12); omega)) ?_
        refine r_iconst 51 0 C dX8_has_51 (by decide) ?_
        exact r_zret 52 Rt dX8_has_52 (by decide) () (show (((Int64.toInt y0) < 0 ∧ 0 = 0) ∨ (¬ ((Int64.toInt y0) < 0) ∧ 0 < (Int32.toInt x2) ∧ 0 = 1) ∨ (¬ ((Int64.toInt y0) < 0) ∧ ¬ (0 < (Int32.toInt x2)) ∧ 0 = 0) ∨ (¬ ((Int64.toInt y0) < 0) ∧ 0 = 0)) from by refine Or.inr (Or.inr (Or.inl ?_)) <;> ((repeat' apply And.intro) <;> first | trivial | rfl | assumption | omega | decide | exact Or.inl rfl | exact Or.inr (Or.inl rfl) | exact Or.inr (Or.inr rfl))) [0, 1] (by decide) rfl (Nat.le_of_ble_eq_true rfl) (Nat.le_of_ble_eq_true rfl)
    · skip
      have k13 : ¬ ((Int32.toInt z6) < 0) := fun h_9 => c7 ((fa_lt z6 0).mpr h_9)
      refine r_iconst 16 0 C dX8_has_16 (by decide) ?_
      exact r_zret 17 Rt dX8_has_17 (by decide) () (show (((Int64.toInt y0) < 0 ∧ 0 = 0) ∨ (¬ ((Int64.toInt y0) < 0) ∧ 0 < (Int32.toInt x2) ∧ 0 = 1) ∨ (¬ ((Int64.toInt y0) < 0) ∧ ¬ (0 < (Int32.toInt x2)) ∧ 0 = 0) ∨ (¬ ((Int64.toInt y0) < 0) ∧ 0 = 0)) from by refine Or.inr (Or.inr (Or.inr (?_))) <;> ((repeat' apply And.intro) <;> first | trivial | rfl | assumption | omega | decide | exact Or.inl rfl | exact Or.inr (Or.inl rfl) | exact Or.inr (Or.inr rfl))) [0, 1] (by decide) rfl (Nat.le_of_ble_eq_true rfl) (Nat.le_of_ble_eq_true rfl)
set_option maxHeartbeats 4000000 in
set_option maxRecDepth 100000 in
theorem c37_X8_finishOf (l : Launch) (g : GD) (h0 : Nat) (h1 : Nat) (h2 : Nat) (h3 : Nat) (x0 : Int32) (h4 : Nat) (x1 : Int32) (x2 : Int32) (x3 : Int32) (x4 : Int32) (fn0 : Nat → Int32) (fn1 : Nat → Int32) (i_x4 : (0 ≤ (Int32.toInt x4) ∧ (Int32.toInt x4) ≤ 1500)) (sz : Nat) : Met l yX8_finishOf wsX8_finishOf ({ frames := 2, cells := 0, slots := 0, locals := 45 }) (va_Pc [.ref h0, .int x0] (PW g [(h0, .inr (7, [.ref h1, .ref h2, .ref h4, .int x1, .int x2, .int x3])), (h1, .inr (4, [.ref h3, .int x4])), (h2, .inl (gI g, 0, .inl fn0)), (h3, .inl (gB g, 1500, .inl fn1))] sz)) (va_Qi (fun (r : Int32) (_ : Unit) => True) (BW g (va_A [(h0, .inr (7, [.ref h1, .ref h2, .ref h4, .int x1, .int x2, .int x3])), (h1, .inr (4, [.ref h3, .int x4])), (h2, .inl (gI g, 0, .inl fn0)), (h3, .inl (gB g, 1500, .inl fn1))] sz) (fun _ : Unit => [(h0, .inr (7, [.ref h1, .ref h2, .ref h4, .int x1, .int x2, .int x3])), (h1, .inr (4, [.ref h3, .int x4])), (h2, .inl (gI g, 0, .inl fn0)), (h3, .inl (gB g, 1500, .inl fn1))])) (va_A [(h0, .inr (7, [.ref h1, .ref h2, .ref h4, .int x1, .int x2, .int x3])), (h1, .inr (4, [.ref h3, .int x4])), (h2, .inl (gI g, 0, .inl fn0)), (h3, .inl (gB g, 1500, .inl fn1))] sz)) 0 0 (va_A [(h0, .inr (7, [.ref h1, .ref h2, .ref h4, .int x1, .int x2, .int x3])), (h1, .inr (4, [.ref h3, .int x4])), (h2, .inl (gI g, 0, .inl fn0)), (h3, .inl (gB g, 1500, .inl fn1))] sz) := by
  refine met_i RX8 (by decide) rfl rfl (Nat.le_of_ble_eq_true rfl) [(0, .ref h0), (1, .int x0)] rfl ?_
  intro p e s m args below meth c A Q C hnm Rt
  have gx0 := fb_rng x0
  have gx3 := fb_rng x3
  have hiX8 : ∀ w ∈ wsX80, w ∈ wsX8_finishOf := fun w h => List.mem_cons_of_mem _ (List.mem_append_left _ (List.mem_append_right _ (h)))
  refine r_aload_n 0 0 C dX8_finishOf_0 rfl ?_
  refine r_iload_n 1 1 C dX8_finishOf_1 rfl ?_
  obtain ⟨z1, ez1⟩ : ∃ z_9, Int32.toInt64 x0 = z_9 := ⟨_, rfl⟩
  have tz1 : (Int64.toInt z1) = (Int32.toInt x0) := by rw [← ez1]; exact Int32.toInt_toInt64 _
  refine r_i2l 2 z1 C dX8_finishOf_2 ez1 ?_
  refine r_callVi 3 C dX8_finishOf_3 [] [(h0, .inr (7, [.ref h1, .ref h2, .ref h4, .int x1, .int x2, .int x3])), (h2, .inl (gI g, 0, .inl fn0))] [(h1, .inr (4, [.ref h3, .int x4])), (h3, .inl (gB g, 1500, .inl fn1))] (fun sz => c36_X8_has l g h0 h2 z1 h1 h4 x1 x2 x3 fn0  sz) gX8_finishOf_X8_has rfl ⟨rfl, rfl⟩ 1 (by decide) ⟨Nat.le_of_ble_eq_true rfl, Nat.le_of_ble_eq_true rfl⟩ 0 rfl rfl [0, 2] [1, 3] rfl rfl (by decide) (by decide) (by decide) rfl rfl (Nat.le_of_ble_eq_true rfl) ⟨Nat.le_of_ble_eq_true rfl, Nat.le_of_ble_eq_true rfl⟩ (fun r2 _ w3 => ?_)
  refine r_ws [(h1, .inr (4, [.ref h3, .int x4])), (h3, .inl (gB g, 1500, .inl fn1)), (h0, .inr (7, [.ref h1, .ref h2, .ref h4, .int x1, .int x2, .int x3])), (h2, .inl (gI g, 0, .inl fn0))] rfl ?_
  have w4 : (((Int64.toInt z1) < 0 ∧ r2 = 0) ∨ (¬ ((Int64.toInt z1) < 0) ∧ 0 < (Int32.toInt x3) ∧ r2 = 1) ∨ (¬ ((Int64.toInt z1) < 0) ∧ ¬ (0 < (Int32.toInt x3)) ∧ r2 = 0) ∨ (¬ ((Int64.toInt z1) < 0) ∧ r2 = 0)) := w3
  rcases w4 with ⟨k5, k6⟩ | w4
  · skip
    have k6 := k6.symm
    subst k6
    refine r_if_ne_f 6 11 C dX8_finishOf_6 (by decide) (by decide) ?_
    refine r_iconst 9 0 C dX8_finishOf_9 (by decide) ?_
    exact r_iret 10 Rt dX8_finishOf_10 () trivial [2, 0, 3, 1] (by decide) rfl (Nat.le_of_ble_eq_true rfl) (Nat.le_of_ble_eq_true rfl)
  rcases w4 with ⟨k7, k8, k9⟩ | w4
  · skip
    have k9 := k9.symm
    subst k9
    refine r_if_ne_t 6 11 C dX8_finishOf_6 (by decide) (by decide) ?_
    refine r_aload_n 11 0 C dX8_finishOf_11 rfl ?_
    refine r_get 12 C dX8_finishOf_12 (k := 5) 2 rfl rfl hiX8 (by decide) rfl (mg 1 rfl) (Or.inl rfl) rfl ?_
    refine r_if_le_f 15 28 C dX8_finishOf_15 (by decide) (fun h_9 => by have h_8 : (Int32.toInt x3) ≤ 0 := (fa_le x3 0).mp h_9; omega) ?_
    refine r_aload_n 18 0 C dX8_finishOf_18 rfl ?_
    refine r_iload_n 19 1 C dX8_finishOf_19 rfl ?_
    refine r_iconst 20 1 C dX8_finishOf_20 (by decide) ?_
    obtain ⟨z10, ez10⟩ : ∃ z_9, x0 + 1 = z_9 := ⟨_, rfl⟩
    have gz10 := fb_rng z10
    refine r_iadd 21 z10 C dX8_finishOf_21 ez10 ?_
    refine r_callVi 22 C dX8_finishOf_22 [] [(h0, .inr (7, [.ref h1, .ref h2, .ref h4, .int x1, .int x2, .int x3])), (h1, .inr (4, [.ref h3, .int x4])), (h3, .inl (gB g, 1500, .inl fn1))] [(h2, .inl (gI g, 0, .inl fn0))] (fun sz => c30_X8_objectAt l g h0 h1 h3 z10 h2 h4 x1 x2 x3 x4 fn1 i_x4 sz) gX8_finishOf_X8_objectAt rfl ⟨rfl, rfl⟩ 1 (by decide) ⟨Nat.le_of_ble_eq_true rfl, Nat.le_of_ble_eq_true rfl⟩ 2 rfl rfl [2, 0, 1] [3] rfl rfl (by decide) (by decide) (by decide) rfl rfl (Nat.le_of_ble_eq_true rfl) ⟨Nat.le_of_ble_eq_true rfl, Nat.le_of_ble_eq_true rfl⟩ (fun r11 _ w12 => ?_)
    refine r_ws [(h2, .inl (gI g, 0, .inl fn0)), (h0, .inr (7, [.ref h1, .ref h2, .ref h4, .int x1, .int x2, .int x3])), (h1, .inr (4, [.ref h3, .int x4])), (h3, .inl (gB g, 1500, .inl fn1))] rfl ?_
    have gr11 := fb_rng r11
    refine r_goto 25 34 C dX8_finishOf_25 (by decide) ?_
    exact r_iret 34 Rt dX8_finishOf_34 () trivial [1, 2, 0, 3] (by decide) rfl (Nat.le_of_ble_eq_true rfl) (Nat.le_of_ble_eq_true rfl)
  rcases w4 with ⟨k13, k14, k15⟩ | w4
  · skip
    have k15 := k15.symm
    subst k15
    refine r_if_ne_f 6 11 C dX8_finishOf_6 (by decide) (by decide) ?_
    refine r_iconst 9 0 C dX8_finishOf_9 (by decide) ?_
    exact r_iret 10 Rt dX8_finishOf_10 () trivial [2, 0, 3, 1] (by decide) rfl (Nat.le_of_ble_eq_true rfl) (Nat.le_of_ble_eq_true rfl)
  obtain ⟨k16, k17⟩ := w4
  have k17 := k17.symm
  subst k17
  refine r_if_ne_f 6 11 C dX8_finishOf_6 (by decide) (by decide) ?_
  refine r_iconst 9 0 C dX8_finishOf_9 (by decide) ?_
  exact r_iret 10 Rt dX8_finishOf_10 () trivial [2, 0, 3, 1] (by decide) rfl (Nat.le_of_ble_eq_true rfl) (Nat.le_of_ble_eq_true rfl)
set_option maxHeartbeats 4000000 in
set_option maxRecDepth 100000 in
theorem c38_X8_beginOf (l : Launch) (g : GD) (h0 : Nat) (h1 : Nat) (h2 : Nat) (h3 : Nat) (x0 : Int32) (h4 : Nat) (x1 : Int32) (x2 : Int32) (x3 : Int32) (x4 : Int32) (fn0 : Nat → Int32) (fn1 : Nat → Int32) (i_x4 : (0 ≤ (Int32.toInt x4) ∧ (Int32.toInt x4) ≤ 1500)) (sz : Nat) : Met l yX8_beginOf wsX8_beginOf ({ frames := 2, cells := 0, slots := 0, locals := 45 }) (va_Pc [.ref h0, .int x0] (PW g [(h0, .inr (7, [.ref h1, .ref h2, .ref h4, .int x1, .int x2, .int x3])), (h1, .inr (4, [.ref h3, .int x4])), (h2, .inl (gI g, 0, .inl fn0)), (h3, .inl (gB g, 1500, .inl fn1))] sz)) (va_Qi (fun (r : Int32) (_ : Unit) => True) (BW g (va_A [(h0, .inr (7, [.ref h1, .ref h2, .ref h4, .int x1, .int x2, .int x3])), (h1, .inr (4, [.ref h3, .int x4])), (h2, .inl (gI g, 0, .inl fn0)), (h3, .inl (gB g, 1500, .inl fn1))] sz) (fun _ : Unit => [(h0, .inr (7, [.ref h1, .ref h2, .ref h4, .int x1, .int x2, .int x3])), (h1, .inr (4, [.ref h3, .int x4])), (h2, .inl (gI g, 0, .inl fn0)), (h3, .inl (gB g, 1500, .inl fn1))])) (va_A [(h0, .inr (7, [.ref h1, .ref h2, .ref h4, .int x1, .int x2, .int x3])), (h1, .inr (4, [.ref h3, .int x4])), (h2, .inl (gI g, 0, .inl fn0)), (h3, .inl (gB g, 1500, .inl fn1))] sz)) 0 0 (va_A [(h0, .inr (7, [.ref h1, .ref h2, .ref h4, .int x1, .int x2, .int x3])), (h1, .inr (4, [.ref h3, .int x4])), (h2, .inl (gI g, 0, .inl fn0)), (h3, .inl (gB g, 1500, .inl fn1))] sz) := by
  refine met_i RX8 (by decide) rfl rfl (Nat.le_of_ble_eq_true rfl) [(0, .ref h0), (1, .int x0)] rfl ?_
  intro p e s m args below meth c A Q C hnm Rt
  have gx0 := fb_rng x0
  have gx3 := fb_rng x3
  have hiX8 : ∀ w ∈ wsX80, w ∈ wsX8_beginOf := fun w h => List.mem_cons_of_mem _ (List.mem_append_left _ (List.mem_append_right _ (h)))
  refine r_aload_n 0 0 C dX8_beginOf_0 rfl ?_
  refine r_iload_n 1 1 C dX8_beginOf_1 rfl ?_
  obtain ⟨z1, ez1⟩ : ∃ z_9, Int32.toInt64 x0 = z_9 := ⟨_, rfl⟩
  have tz1 : (Int64.toInt z1) = (Int32.toInt x0) := by rw [← ez1]; exact Int32.toInt_toInt64 _
  refine r_i2l 2 z1 C dX8_beginOf_2 ez1 ?_
  refine r_callVi 3 C dX8_beginOf_3 [] [(h0, .inr (7, [.ref h1, .ref h2, .ref h4, .int x1, .int x2, .int x3])), (h2, .inl (gI g, 0, .inl fn0))] [(h1, .inr (4, [.ref h3, .int x4])), (h3, .inl (gB g, 1500, .inl fn1))] (fun sz => c36_X8_has l g h0 h2 z1 h1 h4 x1 x2 x3 fn0  sz) gX8_beginOf_X8_has rfl ⟨rfl, rfl⟩ 1 (by decide) ⟨Nat.le_of_ble_eq_true rfl, Nat.le_of_ble_eq_true rfl⟩ 0 rfl rfl [0, 2] [1, 3] rfl rfl (by decide) (by decide) (by decide) rfl rfl (Nat.le_of_ble_eq_true rfl) ⟨Nat.le_of_ble_eq_true rfl, Nat.le_of_ble_eq_true rfl⟩ (fun r2 _ w3 => ?_)
  refine r_ws [(h1, .inr (4, [.ref h3, .int x4])), (h3, .inl (gB g, 1500, .inl fn1)), (h0, .inr (7, [.ref h1, .ref h2, .ref h4, .int x1, .int x2, .int x3])), (h2, .inl (gI g, 0, .inl fn0))] rfl ?_
  have w4 : (((Int64.toInt z1) < 0 ∧ r2 = 0) ∨ (¬ ((Int64.toInt z1) < 0) ∧ 0 < (Int32.toInt x3) ∧ r2 = 1) ∨ (¬ ((Int64.toInt z1) < 0) ∧ ¬ (0 < (Int32.toInt x3)) ∧ r2 = 0) ∨ (¬ ((Int64.toInt z1) < 0) ∧ r2 = 0)) := w3
  rcases w4 with ⟨k5, k6⟩ | w4
  · skip
    have k6 := k6.symm
    subst k6
    refine r_if_ne_f 6 11 C dX8_beginOf_6 (by decide) (by decide) ?_
    refine r_iconst 9 0 C dX8_beginOf_9 (by decide) ?_
    exact r_iret 10 Rt dX8_beginOf_10 () trivial [2, 0, 3, 1] (by decide) rfl (Nat.le_of_ble_eq_true rfl) (Nat.le_of_ble_eq_true rfl)
  rcases w4 with ⟨k7, k8, k9⟩ | w4
  · skip
    have k9 := k9.symm
    subst k9
    refine r_if_ne_t 6 11 C dX8_beginOf_6 (by decide) (by decide) ?_
    refine r_aload_n 11 0 C dX8_beginOf_11 rfl ?_
    refine r_get 12 C dX8_beginOf_12 (k := 5) 2 rfl rfl hiX8 (by decide) rfl (mg 1 rfl) (Or.inl rfl) rfl ?_
    refine r_if_le_f 15 26 C dX8_beginOf_15 (by decide) (fun h_9 => by have h_8 : (Int32.toInt x3) ≤ 0 := (fa_le x3 0).mp h_9; omega) ?_
    refine r_aload_n 18 0 C dX8_beginOf_18 rfl ?_
    refine r_iload_n 19 1 C dX8_beginOf_19 rfl ?_
    refine r_callVi 20 C dX8_beginOf_20 [] [(h0, .inr (7, [.ref h1, .ref h2, .ref h4, .int x1, .int x2, .int x3])), (h1, .inr (4, [.ref h3, .int x4])), (h3, .inl (gB g, 1500, .inl fn1))] [(h2, .inl (gI g, 0, .inl fn0))] (fun sz => c30_X8_objectAt l g h0 h1 h3 x0 h2 h4 x1 x2 x3 x4 fn1 i_x4 sz) gX8_beginOf_X8_objectAt rfl ⟨rfl, rfl⟩ 1 (by decide) ⟨Nat.le_of_ble_eq_true rfl, Nat.le_of_ble_eq_true rfl⟩ 2 rfl rfl [2, 0, 1] [3] rfl rfl (by decide) (by decide) (by decide) rfl rfl (Nat.le_of_ble_eq_true rfl) ⟨Nat.le_of_ble_eq_true rfl, Nat.le_of_ble_eq_true rfl⟩ (fun r10 _ w11 => ?_)
    refine r_ws [(h2, .inl (gI g, 0, .inl fn0)), (h0, .inr (7, [.ref h1, .ref h2, .ref h4, .int x1, .int x2, .int x3])), (h1, .inr (4, [.ref h3, .int x4])), (h3, .inl (gB g, 1500, .inl fn1))] rfl ?_
    have gr10 := fb_rng r10
    refine r_goto 23 32 C dX8_beginOf_23 (by decide) ?_
    exact r_iret 32 Rt dX8_beginOf_32 () trivial [1, 2, 0, 3] (by decide) rfl (Nat.le_of_ble_eq_true rfl) (Nat.le_of_ble_eq_true rfl)
  rcases w4 with ⟨k12, k13, k14⟩ | w4
  · skip
    have k14 := k14.symm
    subst k14
    refine r_if_ne_f 6 11 C dX8_beginOf_6 (by decide) (by decide) ?_
    refine r_iconst 9 0 C dX8_beginOf_9 (by decide) ?_
    exact r_iret 10 Rt dX8_beginOf_10 () trivial [2, 0, 3, 1] (by decide) rfl (Nat.le_of_ble_eq_true rfl) (Nat.le_of_ble_eq_true rfl)
  obtain ⟨k15, k16⟩ := w4
  have k16 := k16.symm
  subst k16
  refine r_if_ne_f 6 11 C dX8_beginOf_6 (by decide) (by decide) ?_
  refine r_iconst 9 0 C dX8_beginOf_9 (by decide) ?_
  exact r_iret 10 Rt dX8_beginOf_10 () trivial [2, 0, 3, 1] (by decide) rfl (Nat.le_of_ble_eq_true rfl) (Nat.le_of_ble_eq_true rfl)
set_option maxHeartbeats 4000000 in
set_option maxRecDepth 100000 in
theorem c39_X11_code (l : Launch) (g : GD) (h0 : Nat) (h1 : Nat) (h2 : Nat) (h3 : Nat) (h4 : Nat) (h5 : Nat) (h6 : Nat) (h7 : Nat) (h8 : Nat) (h9 : Nat) (h10 : Nat) (h11 : Nat) (x0 : Int32) (x1 : Int32) (x2 : Int32) (h12 : Nat) (h13 : Nat) (h14 : Nat) (h15 : Nat) (h16 : Nat) (h17 : Nat) (h18 : Nat) (h19 : Nat) (vv0 : Value) (x3 : Int32) (x4 : Int32) (x5 : Int32) (x6 : Int32) (x7 : Int32) (x8 : Int32) (x9 : Int32) (x10 : Int32) (x11 : Int32) (x12 : Int32) (h20 : Nat) (x13 : Int32) (x14 : Int32) (x15 : Int32) (fn0 : Nat → Int32) (fn1 : Nat → Int32) (fn2 : Nat → Int32) (fn3 : Nat → Int32) (fn4 : Nat → Int32) (fn5 : Nat → Int32) (i_x6 : (0 ≤ (Int32.toInt x6) ∧ (Int32.toInt x6) ≤ 1500)) (sz : Nat) : Met l yX11_code wsX11_code ({ frames := 3, cells := 0, slots := 0, locals := 66 }) (va_Pc [.ref h0, .int x0, .int x1, .int x2] (PW g [(h0, .inr (10, [.ref h12, .ref h13, .ref h1, .ref h14, .ref h15, .ref h16, .ref h17, .ref h18, .ref h19, vv0])), (h1, .inr (3, [.ref h2, .ref h3, .ref h4, .ref h5, .int x3, .int x4, .int x5])), (h2, .inr (4, [.ref h6, .int x6])), (h3, .inr (7, [.ref h2, .ref h7, .ref h8, .int x7, .int x8, .int x9])), (h4, .inr (7, [.ref h2, .ref h9, .ref h10, .int x10, .int x11, .int x12])), (h5, .inr (7, [.ref h2, .ref h11, .ref h20, .int x13, .int x14, .int x15])), (h6, .inl (gB g, 1500, .inl fn0)), (h7, .inl (gI g, 40, .inl fn1)), (h8, .inl (gI g, 40, .inl fn2)), (h9, .inl (gI g, 200, .inl fn3)), (h10, .inl (gI g, 200, .inl fn4)), (h11, .inl (gI g, 0, .inl fn5))] sz)) (va_Qi (fun (r : Int32) (_ : Unit) => -1 ≤ (Int32.toInt r) ∧ (Int32.toInt r) ≤ 255) (BW g (va_A [(h0, .inr (10, [.ref h12, .ref h13, .ref h1, .ref h14, .ref h15, .ref h16, .ref h17, .ref h18, .ref h19, vv0])), (h1, .inr (3, [.ref h2, .ref h3, .ref h4, .ref h5, .int x3, .int x4, .int x5])), (h2, .inr (4, [.ref h6, .int x6])), (h3, .inr (7, [.ref h2, .ref h7, .ref h8, .int x7, .int x8, .int x9])), (h4, .inr (7, [.ref h2, .ref h9, .ref h10, .int x10, .int x11, .int x12])), (h5, .inr (7, [.ref h2, .ref h11, .ref h20, .int x13, .int x14, .int x15])), (h6, .inl (gB g, 1500, .inl fn0)), (h7, .inl (gI g, 40, .inl fn1)), (h8, .inl (gI g, 40, .inl fn2)), (h9, .inl (gI g, 200, .inl fn3)), (h10, .inl (gI g, 200, .inl fn4)), (h11, .inl (gI g, 0, .inl fn5))] sz) (fun _ : Unit => [(h0, .inr (10, [.ref h12, .ref h13, .ref h1, .ref h14, .ref h15, .ref h16, .ref h17, .ref h18, .ref h19, vv0])), (h1, .inr (3, [.ref h2, .ref h3, .ref h4, .ref h5, .int x3, .int x4, .int x5])), (h2, .inr (4, [.ref h6, .int x6])), (h3, .inr (7, [.ref h2, .ref h7, .ref h8, .int x7, .int x8, .int x9])), (h4, .inr (7, [.ref h2, .ref h9, .ref h10, .int x10, .int x11, .int x12])), (h5, .inr (7, [.ref h2, .ref h11, .ref h20, .int x13, .int x14, .int x15])), (h6, .inl (gB g, 1500, .inl fn0)), (h7, .inl (gI g, 40, .inl fn1)), (h8, .inl (gI g, 40, .inl fn2)), (h9, .inl (gI g, 200, .inl fn3)), (h10, .inl (gI g, 200, .inl fn4)), (h11, .inl (gI g, 0, .inl fn5))])) (va_A [(h0, .inr (10, [.ref h12, .ref h13, .ref h1, .ref h14, .ref h15, .ref h16, .ref h17, .ref h18, .ref h19, vv0])), (h1, .inr (3, [.ref h2, .ref h3, .ref h4, .ref h5, .int x3, .int x4, .int x5])), (h2, .inr (4, [.ref h6, .int x6])), (h3, .inr (7, [.ref h2, .ref h7, .ref h8, .int x7, .int x8, .int x9])), (h4, .inr (7, [.ref h2, .ref h9, .ref h10, .int x10, .int x11, .int x12])), (h5, .inr (7, [.ref h2, .ref h11, .ref h20, .int x13, .int x14, .int x15])), (h6, .inl (gB g, 1500, .inl fn0)), (h7, .inl (gI g, 40, .inl fn1)), (h8, .inl (gI g, 40, .inl fn2)), (h9, .inl (gI g, 200, .inl fn3)), (h10, .inl (gI g, 200, .inl fn4)), (h11, .inl (gI g, 0, .inl fn5))] sz)) 0 0 (va_A [(h0, .inr (10, [.ref h12, .ref h13, .ref h1, .ref h14, .ref h15, .ref h16, .ref h17, .ref h18, .ref h19, vv0])), (h1, .inr (3, [.ref h2, .ref h3, .ref h4, .ref h5, .int x3, .int x4, .int x5])), (h2, .inr (4, [.ref h6, .int x6])), (h3, .inr (7, [.ref h2, .ref h7, .ref h8, .int x7, .int x8, .int x9])), (h4, .inr (7, [.ref h2, .ref h9, .ref h10, .int x10, .int x11, .int x12])), (h5, .inr (7, [.ref h2, .ref h11, .ref h20, .int x13, .int x14, .int x15])), (h6, .inl (gB g, 1500, .inl fn0)), (h7, .inl (gI g, 40, .inl fn1)), (h8, .inl (gI g, 40, .inl fn2)), (h9, .inl (gI g, 200, .inl fn3)), (h10, .inl (gI g, 200, .inl fn4)), (h11, .inl (gI g, 0, .inl fn5))] sz) := by
  refine met_i RX11 (by decide) rfl rfl (Nat.le_of_ble_eq_true rfl) [(0, .ref h0), (1, .int x0), (2, .int x1), (3, .int x2)] rfl ?_
  intro p e s m args below meth c A Q C hnm Rt
  have gx0 := fb_rng x0
  have gx1 := fb_rng x1
  have gx2 := fb_rng x2
  have gx9 := fb_rng x9
  have gx12 := fb_rng x12
  have gx15 := fb_rng x15
  have hiX11 : ∀ w ∈ wsX110, w ∈ wsX11_code := fun w h => List.mem_cons_of_mem _ (List.mem_append_left _ (List.mem_append_left _ (List.mem_append_left _ (List.mem_append_right _ (h)))))
  have hiX3 : ∀ w ∈ wsX30, w ∈ wsX11_code := fun w h => List.mem_cons_of_mem _ (List.mem_append_left _ (List.mem_append_left _ (List.mem_append_right _ (h))))
  refine r_aload_n 0 0 C dX11_code_0 rfl ?_
  refine r_get 1 C dX11_code_1 (k := 2) 0 rfl rfl hiX11 (by decide) rfl (mg 1 rfl) (Or.inl rfl) rfl ?_
  refine r_iload_n 4 1 C dX11_code_4 rfl ?_
  refine r_callVq 5 C dX11_code_5 [] [(h1, .inr (3, [.ref h2, .ref h3, .ref h4, .ref h5, .int x3, .int x4, .int x5]))] [(h0, .inr (10, [.ref h12, .ref h13, .ref h1, .ref h14, .ref h15, .ref h16, .ref h17, .ref h18, .ref h19, vv0])), (h2, .inr (4, [.ref h6, .int x6])), (h3, .inr (7, [.ref h2, .ref h7, .ref h8, .int x7, .int x8, .int x9])), (h4, .inr (7, [.ref h2, .ref h9, .ref h10, .int x10, .int x11, .int x12])), (h5, .inr (7, [.ref h2, .ref h11, .ref h20, .int x13, .int x14, .int x15])), (h6, .inl (gB g, 1500, .inl fn0)), (h7, .inl (gI g, 40, .inl fn1)), (h8, .inl (gI g, 40, .inl fn2)), (h9, .inl (gI g, 200, .inl fn3)), (h10, .inl (gI g, 200, .inl fn4)), (h11, .inl (gI g, 0, .inl fn5))] (fun sz => c28_X3_shelfOf l g h1 x0 h2 h3 h4 h5 x3 x4 x5  sz) gX11_code_X3_shelfOf rfl ⟨rfl, rfl⟩ 1 (by decide) ⟨Nat.le_of_ble_eq_true rfl, Nat.le_of_ble_eq_true rfl⟩ 1 rfl rfl [1] [0, 2, 3, 4, 5, 6, 7, 8, 9, 10, 11] rfl rfl (by decide) (by decide) (by decide) rfl rfl (Nat.le_of_ble_eq_true rfl) ⟨Nat.le_of_ble_eq_true rfl, Nat.le_of_ble_eq_true rfl⟩ (fun r1 _ w2 => ?_)
  refine r_ws [(h0, .inr (10, [.ref h12, .ref h13, .ref h1, .ref h14, .ref h15, .ref h16, .ref h17, .ref h18, .ref h19, vv0])), (h2, .inr (4, [.ref h6, .int x6])), (h3, .inr (7, [.ref h2, .ref h7, .ref h8, .int x7, .int x8, .int x9])), (h4, .inr (7, [.ref h2, .ref h9, .ref h10, .int x10, .int x11, .int x12])), (h5, .inr (7, [.ref h2, .ref h11, .ref h20, .int x13, .int x14, .int x15])), (h6, .inl (gB g, 1500, .inl fn0)), (h7, .inl (gI g, 40, .inl fn1)), (h8, .inl (gI g, 40, .inl fn2)), (h9, .inl (gI g, 200, .inl fn3)), (h10, .inl (gI g, 200, .inl fn4)), (h11, .inl (gI g, 0, .inl fn5)), (h1, .inr (3, [.ref h2, .ref h3, .ref h4, .ref h5, .int x3, .int x4, .int x5]))] rfl ?_
  have w3 : (((Int32.toInt x0) = 0 ∧ r1 = (some h3)) ∨ (¬ ((Int32.toInt x0) = 0) ∧ (Int32.toInt x0) = 1 ∧ r1 = (some h4)) ∨ (¬ ((Int32.toInt x0) = 0) ∧ ¬ ((Int32.toInt x0) = 1) ∧ (Int32.toInt x0) = 2 ∧ r1 = (some h5)) ∨ (¬ ((Int32.toInt x0) = 0) ∧ ¬ ((Int32.toInt x0) = 1) ∧ ¬ ((Int32.toInt x0) = 2) ∧ r1 = none)) := w2
  rcases w3 with ⟨k4, k5⟩ | w3
  · skip
    have k5 := k5.symm
    subst k5
    refine r_st [.ref h3] rfl ?_
    refine r_astore 8 C dX11_code_8 [(4, .ref h3), (0, .ref h0), (1, .int x0), (2, .int x1), (3, .int x2)] (by decide) rfl ?_
    refine r_aload 10 0 C dX11_code_10 rfl ?_
    refine r_ifnull 12 C dX11_code_12 ?_
    refine r_aload 15 0 C dX11_code_15 rfl ?_
    refine r_iload_n 17 3 C dX11_code_17 rfl ?_
    obtain ⟨z6, ez6⟩ : ∃ z_9, Int32.toInt64 x1 = z_9 := ⟨_, rfl⟩
    have tz6 : (Int64.toInt z6) = (Int32.toInt x1) := by rw [← ez6]; exact Int32.toInt_toInt64 _
    refine r_i2l 18 z6 C dX11_code_18 ez6 ?_
    refine r_callVi 19 C dX11_code_19 [] [(h3, .inr (7, [.ref h2, .ref h7, .ref h8, .int x7, .int x8, .int x9])), (h7, .inl (gI g, 40, .inl fn1))] [(h0, .inr (10, [.ref h12, .ref h13, .ref h1, .ref h14, .ref h15, .ref h16, .ref h17, .ref h18, .ref h19, vv0])), (h2, .inr (4, [.ref h6, .int x6])), (h4, .inr (7, [.ref h2, .ref h9, .ref h10, .int x10, .int x11, .int x12])), (h5, .inr (7, [.ref h2, .ref h11, .ref h20, .int x13, .int x14, .int x15])), (h6, .inl (gB g, 1500, .inl fn0)), (h8, .inl (gI g, 40, .inl fn2)), (h9, .inl (gI g, 200, .inl fn3)), (h10, .inl (gI g, 200, .inl fn4)), (h11, .inl (gI g, 0, .inl fn5)), (h1, .inr (3, [.ref h2, .ref h3, .ref h4, .ref h5, .int x3, .int x4, .int x5]))] (fun sz => c29_X8_has l g h3 h7 z6 h2 h8 x7 x8 x9 fn1  sz) gX11_code_X8_has rfl ⟨rfl, rfl⟩ 1 (by decide) ⟨Nat.le_of_ble_eq_true rfl, Nat.le_of_ble_eq_true rfl⟩ 2 rfl rfl [2, 6] [0, 1, 3, 4, 5, 7, 8, 9, 10, 11] rfl rfl (by decide) (by decide) (by decide) rfl rfl (Nat.le_of_ble_eq_true rfl) ⟨Nat.le_of_ble_eq_true rfl, Nat.le_of_ble_eq_true rfl⟩ (fun r7 _ w8 => ?_)
    refine r_ws [(h0, .inr (10, [.ref h12, .ref h13, .ref h1, .ref h14, .ref h15, .ref h16, .ref h17, .ref h18, .ref h19, vv0])), (h2, .inr (4, [.ref h6, .int x6])), (h4, .inr (7, [.ref h2, .ref h9, .ref h10, .int x10, .int x11, .int x12])), (h5, .inr (7, [.ref h2, .ref h11, .ref h20, .int x13, .int x14, .int x15])), (h6, .inl (gB g, 1500, .inl fn0)), (h8, .inl (gI g, 40, .inl fn2)), (h9, .inl (gI g, 200, .inl fn3)), (h10, .inl (gI g, 200, .inl fn4)), (h11, .inl (gI g, 0, .inl fn5)), (h1, .inr (3, [.ref h2, .ref h3, .ref h4, .ref h5, .int x3, .int x4, .int x5])), (h3, .inr (7, [.ref h2, .ref h7, .ref h8, .int x7, .int x8, .int x9])), (h7, .inl (gI g, 40, .inl fn1))] rfl ?_
    have w9 : (((Int64.toInt z6) < 0 ∧ r7 = 0) ∨ (¬ ((Int64.toInt z6) < 0) ∧ 0 < (Int32.toInt x9) ∧ r7 = 1) ∨ (¬ ((Int64.toInt z6) < 0) ∧ ¬ (0 < (Int32.toInt x9)) ∧ 40 ≤ (Int64.toInt z6) ∧ r7 = 0) ∨ (¬ ((Int64.toInt z6) < 0) ∧ ¬ (0 < (Int32.toInt x9)) ∧ ¬ (40 ≤ (Int64.toInt z6)) ∧ r7 = 0) ∨ (¬ ((Int64.toInt z6) < 0) ∧ ¬ (0 < (Int32.toInt x9)) ∧ ¬ (40 ≤ (Int64.toInt z6)) ∧ r7 = 1) ∨ (¬ ((Int64.toInt z6) < 0) ∧ r7 = 0)) := w8
    rcases w9 with ⟨k10, k11⟩ | w9
    · skip
      have k11 := k11.symm
      subst k11
      refine r_if_eq_t 22 46 C dX11_code_22 (by decide) (by decide) ?_
      refine r_iconst 46 (-1) C dX11_code_46 (by decide) ?_
      exact r_iret 47 Rt dX11_code_47 () (show -1 ≤ (Int32.toInt (-1)) ∧ (Int32.toInt (-1)) ≤ 255 from ⟨(by ((repeat' apply And.intro) <;> first | trivial | rfl | assumption | omega | decide | exact Or.inl rfl | exact Or.inr (Or.inl rfl) | exact Or.inr (Or.inr rfl))), (by ((repeat' apply And.intro) <;> first | trivial | rfl | assumption | omega | decide | exact Or.inl rfl | exact Or.inr (Or.inl rfl) | exact Or.inr (Or.inr rfl)))⟩) [0, 9, 1, 10, 2, 3, 4, 11, 5, 6, 7, 8] (by decide) rfl (Nat.le_of_ble_eq_true rfl) (Nat.le_of_ble_eq_true rfl)
    rcases w9 with ⟨k12, k13, k14⟩ | w9
    · skip
      have k14 := k14.symm
      subst k14
      refine r_if_eq_f 22 46 C dX11_code_22 (by decide) (by decide) ?_
      refine r_iload_n 25 4 C dX11_code_25 rfl ?_
      refine r_if_lt 26 46 C dX11_code_26 (by decide) (fun c15 => ?_) (fun c15 => ?_)
      · skip
        have k16 : (Int32.toInt x2) < 0 := (fa_lt x2 0).mp c15
        refine r_iconst 46 (-1) C dX11_code_46 (by decide) ?_
        exact r_iret 47 Rt dX11_code_47 () (show -1 ≤ (Int32.toInt (-1)) ∧ (Int32.toInt (-1)) ≤ 255 from ⟨(by ((repeat' apply And.intro) <;> first | trivial | rfl | assumption | omega | decide | exact Or.inl rfl | exact Or.inr (Or.inl rfl) | exact Or.inr (Or.inr rfl))), (by ((repeat' apply And.intro) <;> first | trivial | rfl | assumption | omega | decide | exact Or.inl rfl | exact Or.inr (Or.inl rfl) | exact Or.inr (Or.inr rfl)))⟩) [0, 9, 1, 10, 2, 3, 4, 11, 5, 6, 7, 8] (by decide) rfl (Nat.le_of_ble_eq_true rfl) (Nat.le_of_ble_eq_true rfl)
      · skip
        have k17 : ¬ ((Int32.toInt x2) < 0) := fun h_9 => c15 ((fa_lt x2 0).mpr h_9)
        refine r_iload_n 29 4 C dX11_code_29 rfl ?_
        refine r_aload 30 0 C dX11_code_30 rfl ?_
        refine r_iload_n 32 3 C dX11_code_32 rfl ?_
        refine r_callVi 33 C dX11_code_33 [.int x2] [(h3, .inr (7, [.ref h2, .ref h7, .ref h8, .int x7, .int x8, .int x9])), (h2, .inr (4, [.ref h6, .int x6])), (h7, .inl (gI g, 40, .inl fn1)), (h8, .inl (gI g, 40, .inl fn2)), (h6, .inl (gB g, 1500, .inl fn0))] [(h0, .inr (10, [.ref h12, .ref h13, .ref h1, .ref h14, .ref h15, .ref h16, .ref h17, .ref h18, .ref h19, vv0])), (h4, .inr (7, [.ref h2, .ref h9, .ref h10, .int x10, .int x11, .int x12])), (h5, .inr (7, [.ref h2, .ref h11, .ref h20, .int x13, .int x14, .int x15])), (h9, .inl (gI g, 200, .inl fn3)), (h10, .inl (gI g, 200, .inl fn4)), (h11, .inl (gI g, 0, .inl fn5)), (h1, .inr (3, [.ref h2, .ref h3, .ref h4, .ref h5, .int x3, .int x4, .int x5]))] (fun sz => c31_X8_finishOf l g h3 h2 h7 h8 h6 x1 x7 x8 x9 x6 fn1 fn2 fn0 i_x6 sz) gX11_code_X8_finishOf rfl ⟨rfl, rfl⟩ 1 (by decide) ⟨Nat.le_of_ble_eq_true rfl, Nat.le_of_ble_eq_true rfl⟩ 10 rfl rfl [10, 1, 11, 5, 4] [0, 2, 3, 6, 7, 8, 9] rfl rfl (by decide) (by decide) (by decide) rfl rfl (Nat.le_of_ble_eq_true rfl) ⟨Nat.le_of_ble_eq_true rfl, Nat.le_of_ble_eq_true rfl⟩ (fun r18 _ w19 => ?_)
        refine r_ws [(h0, .inr (10, [.ref h12, .ref h13, .ref h1, .ref h14, .ref h15, .ref h16, .ref h17, .ref h18, .ref h19, vv0])), (h4, .inr (7, [.ref h2, .ref h9, .ref h10, .int x10, .int x11, .int x12])), (h5, .inr (7, [.ref h2, .ref h11, .ref h20, .int x13, .int x14, .int x15])), (h9, .inl (gI g, 200, .inl fn3)), (h10, .inl (gI g, 200, .inl fn4)), (h11, .inl (gI g, 0, .inl fn5)), (h1, .inr (3, [.ref h2, .ref h3, .ref h4, .ref h5, .int x3, .int x4, .int x5])), (h3, .inr (7, [.ref h2, .ref h7, .ref h8, .int x7, .int x8, .int x9])), (h2, .inr (4, [.ref h6, .int x6])), (h7, .inl (gI g, 40, .inl fn1)), (h8, .inl (gI g, 40, .inl fn2)), (h6, .inl (gB g, 1500, .inl fn0))] rfl ?_
        have gr18 := fb_rng r18
        refine r_aload 36 0 C dX11_code_36 rfl ?_
        refine r_iload_n 38 3 C dX11_code_38 rfl ?_
        refine r_callVi 39 C dX11_code_39 [.int r18, .int x2] [(h3, .inr (7, [.ref h2, .ref h7, .ref h8, .int x7, .int x8, .int x9])), (h2, .inr (4, [.ref h6, .int x6])), (h7, .inl (gI g, 40, .inl fn1)), (h6, .inl (gB g, 1500, .inl fn0))] [(h0, .inr (10, [.ref h12, .ref h13, .ref h1, .ref h14, .ref h15, .ref h16, .ref h17, .ref h18, .ref h19, vv0])), (h4, .inr (7, [.ref h2, .ref h9, .ref h10, .int x10, .int x11, .int x12])), (h5, .inr (7, [.ref h2, .ref h11, .ref h20, .int x13, .int x14, .int x15])), (h9, .inl (gI g, 200, .inl fn3)), (h10, .inl (gI g, 200, .inl fn4)), (h11, .inl (gI g, 0, .inl fn5)), (h1, .inr (3, [.ref h2, .ref h3, .ref h4, .ref h5, .int x3, .int x4, .int x5])), (h8, .inl (gI g, 40, .inl fn2))] (fun sz => c32_X8_beginOf l g h3 h2 h7 h6 x1 h8 x7 x8 x9 x6 fn1 fn0 i_x6 sz) gX11_code_X8_beginOf rfl ⟨rfl, rfl⟩ 1 (by decide) ⟨Nat.le_of_ble_eq_true rfl, Nat.le_of_ble_eq_true rfl⟩ 7 rfl rfl [7, 8, 9, 11] [0, 1, 2, 3, 4, 5, 6, 10] rfl rfl (by decide) (by decide) (by decide) rfl rfl (Nat.le_of_ble_eq_true rfl) ⟨Nat.le_of_ble_eq_true rfl, Nat.le_of_ble_eq_true rfl⟩ (fun r20 _ w21 => ?_)
        refine r_ws [(h0, .inr (10, [.ref h12, .ref h13, .ref h1, .ref h14, .ref h15, .ref h16, .ref h17, .ref h18, .ref h19, vv0])), (h4, .inr (7, [.ref h2, .ref h9, .ref h10, .int x10, .int x11, .int x12])), (h5, .inr (7, [.ref h2, .ref h11, .ref h20, .int x13, .int x14, .int x15])), (h9, .inl (gI g, 200, .inl fn3)), (h10, .inl (gI g, 200, .inl fn4)), (h11, .inl (gI g, 0, .inl fn5)), (h1, .inr (3, [.ref h2, .ref h3, .ref h4, .ref h5, .int x3, .int x4, .int x5])), (h8, .inl (gI g, 40, .inl fn2)), (h3, .inr (7, [.ref h2, .ref h7, .ref h8, .int x7, .int x8, .int x9])), (h2, .inr (4, [.ref h6, .int x6])), (h7, .inl (gI g, 40, .inl fn1)), (h6, .inl (gB g, 1500, .inl fn0))] rfl ?_
        have gr20 := fb_rng r20
        obtain ⟨z22, ez22⟩ : ∃ z_9, r18 - r20 = z_9 := ⟨_, rfl⟩
        have gz22 := fb_rng z22
        refine r_isub 42 z22 C dX11_code_42 ez22 ?_
        refine r_icmp_lt 43 48 C dX11_code_43 (by decide) (fun c23 => ?_) (fun c23 => ?_)
        · skip
          have k24 : (Int32.toInt x2) < (Int32.toInt z22) := (fa_lt x2 z22).mp c23
          refine r_aload_n 48 1 C dX11_code_48 rfl ?_
          refine r_get 49 C dX11_code_49 (k := 2) 0 rfl rfl hiX11 (by decide) rfl (mg 1 rfl) (Or.inl rfl) rfl ?_
          refine r_getN 52 C dX11_code_52 (k := 0) 6 rfl rfl hiX3 (by decide) rfl (mg 4 rfl) rfl rfl ?_
          refine r_aload 55 0 C dX11_code_55 rfl ?_
          refine r_iload_n 57 3 C dX11_code_57 rfl ?_
          refine r_callVi 58 C dX11_code_58 [.ref h2] [(h3, .inr (7, [.ref h2, .ref h7, .ref h8, .int x7, .int x8, .int x9])), (h2, .inr (4, [.ref h6, .int x6])), (h7, .inl (gI g, 40, .inl fn1)), (h6, .inl (gB g, 1500, .inl fn0))] [(h0, .inr (10, [.ref h12, .ref h13, .ref h1, .ref h14, .ref h15, .ref h16, .ref h17, .ref h18, .ref h19, vv0])), (h4, .inr (7, [.ref h2, .ref h9, .ref h10, .int x10, .int x11, .int x12])), (h5, .inr (7, [.ref h2, .ref h11, .ref h20, .int x13, .int x14, .int x15])), (h9, .inl (gI g, 200, .inl fn3)), (h10, .inl (gI g, 200, .inl fn4)), (h11, .inl (gI g, 0, .inl fn5)), (h1, .inr (3, [.ref h2, .ref h3, .ref h4, .ref h5, .int x3, .int x4, .int x5])), (h8, .inl (gI g, 40, .inl fn2))] (fun sz => c32_X8_beginOf l g h3 h2 h7 h6 x1 h8 x7 x8 x9 x6 fn1 fn0 i_x6 sz) gX11_code_X8_beginOf rfl ⟨rfl, rfl⟩ 1 (by decide) ⟨Nat.le_of_ble_eq_true rfl, Nat.le_of_ble_eq_true rfl⟩ 8 rfl rfl [8, 9, 10, 11] [0, 1, 2, 3, 4, 5, 6, 7] rfl rfl (by decide) (by decide) (by decide) rfl rfl (Nat.le_of_ble_eq_true rfl) ⟨Nat.le_of_ble_eq_true rfl, Nat.le_of_ble_eq_true rfl⟩ (fun r25 _ w26 => ?_)
          refine r_ws [(h0, .inr (10, [.ref h12, .ref h13, .ref h1, .ref h14, .ref h15, .ref h16, .ref h17, .ref h18, .ref h19, vv0])), (h4, .inr (7, [.ref h2, .ref h9, .ref h10, .int x10, .int x11, .int x12])), (h5, .inr (7, [.ref h2, .ref h11, .ref h20, .int x13, .int x14, .int x15])), (h9, .inl (gI g, 200, .inl fn3)), (h10, .inl (gI g, 200, .inl fn4)), (h11, .inl (gI g, 0, .inl fn5)), (h1, .inr (3, [.ref h2, .ref h3, .ref h4, .ref h5, .int x3, .int x4, .int x5])), (h8, .inl (gI g, 40, .inl fn2)), (h3, .inr (7, [.ref h2, .ref h7, .ref h8, .int x7, .int x8, .int x9])), (h2, .inr (4, [.ref h6, .int x6])), (h7, .inl (gI g, 40, .inl fn1)), (h6, .inl (gB g, 1500, .inl fn0))] rfl ?_
          have gr25 := fb_rng r25
          refine r_iload_n 61 4 C dX11_code_61 rfl ?_
          obtain ⟨z27, ez27⟩ : ∃ z_9, r25 + x2 = z_9 := ⟨_, rfl⟩
          have gz27 := fb_rng z27
          refine r_iadd 62 z27 C dX11_code_62 ez27 ?_
          obtain ⟨z28, ez28⟩ : ∃ z_9, Int32.toInt64 z27 = z_9 := ⟨_, rfl⟩
          have tz28 : (Int64.toInt z28) = (Int32.toInt z27) := by rw [← ez28]; exact Int32.toInt_toInt64 _
          refine r_i2l 63 z28 C dX11_code_63 ez28 ?_
          refine r_callVi 64 C dX11_code_64 [] [(h2, .inr (4, [.ref h6, .int x6])), (h6, .inl (gB g, 1500, .inl fn0))] [(h0, .inr (10, [.ref h12, .ref h13, .ref h1, .ref h14, .ref h15, .ref h16, .ref h17, .ref h18, .ref h19, vv0])), (h4, .inr (7, [.ref h2, .ref h9, .ref h10, .int x10, .int x11, .int x12])), (h5, .inr (7, [.ref h2, .ref h11, .ref h20, .int x13, .int x14, .int x15])), (h9, .inl (gI g, 200, .inl fn3)), (h10, .inl (gI g, 200, .inl fn4)), (h11, .inl (gI g, 0, .inl fn5)), (h1, .inr (3, [.ref h2, .ref h3, .ref h4, .ref h5, .int x3, .int x4, .int x5])), (h8, .inl (gI g, 40, .inl fn2)), (h3, .inr (7, [.ref h2, .ref h7, .ref h8, .int x7, .int x8, .int x9])), (h7, .inl (gI g, 40, .inl fn1))] (fun sz => c14_X5_get l g h2 h6 z28 x6 fn0 i_x6 sz) gX11_code_X5_get rfl ⟨rfl, rfl⟩ 1 (by decide) ⟨Nat.le_of_ble_eq_true rfl, Nat.le_of_ble_eq_true rfl⟩ 9 rfl rfl [9, 11] [0, 1, 2, 3, 4, 5, 6, 7, 8, 10] rfl rfl (by decide) (by decide) (by decide) rfl rfl (Nat.le_of_ble_eq_true rfl) ⟨Nat.le_of_ble_eq_true rfl, Nat.le_of_ble_eq_true rfl⟩ (fun r29 _ w30 => ?_)
          refine r_ws [(h0, .inr (10, [.ref h12, .ref h13, .ref h1, .ref h14, .ref h15, .ref h16, .ref h17, .ref h18, .ref h19, vv0])), (h4, .inr (7, [.ref h2, .ref h9, .ref h10, .int x10, .int x11, .int x12])), (h5, .inr (7, [.ref h2, .ref h11, .ref h20, .int x13, .int x14, .int x15])), (h9, .inl (gI g, 200, .inl fn3)), (h10, .inl (gI g, 200, .inl fn4)), (h11, .inl (gI g, 0, .inl fn5)), (h1, .inr (3, [.ref h2, .ref h3, .ref h4, .ref h5, .int x3, .int x4, .int x5])), (h8, .inl (gI g, 40, .inl fn2)), (h3, .inr (7, [.ref h2, .ref h7, .ref h8, .int x7, .int x8, .int x9])), (h7, .inl (gI g, 40, .inl fn1)), (h2, .inr (4, [.ref h6, .int x6])), (h6, .inl (gB g, 1500, .inl fn0))] rfl ?_
          have p31 : -1 ≤ (Int32.toInt r29) := w30.1
          have p32 : (Int32.toInt r29) ≤ 255 := w30.2
          exact r_iret 67 Rt dX11_code_67 () (show -1 ≤ (Int32.toInt r29) ∧ (Int32.toInt r29) ≤ 255 from ⟨(show _ ∧ _ from ⟨p31, p32⟩).1, (show _ ∧ _ from ⟨p31, p32⟩).2⟩) [0, 6, 10, 8, 1, 2, 11, 9, 7, 3, 4, 5] (by decide) rfl (Nat.le_of_ble_eq_true rfl) (Nat.le_of_ble_eq_true rfl)
        · skip
          have k33 : ¬ ((Int32.toInt x2) < (Int32.toInt z22)) := fun h_9 => c23 ((fa_lt x2 z22).mpr h_9)
          refine r_iconst 46 (-1) C dX11_code_46 (by decide) ?_
          exact r_iret 47 Rt dX11_code_47 () (show -1 ≤ (Int32.toInt (-1)) ∧ (Int32.toInt (-1)) ≤ 255 from ⟨(by ((repeat' apply And.intro) <;> first | trivial | rfl | assumption | omega | decide | exact Or.inl rfl | exact Or.inr (Or.inl rfl) | exact Or.inr (Or.inr rfl))), (by ((repeat' apply And.intro) <;> first | trivial | rfl | assumption | omega | decide | exact Or.inl rfl | exact Or.inr (Or.inl rfl) | exact Or.inr (Or.inr rfl)))⟩) [0, 6, 9, 8, 1, 2, 11, 10, 7, 3, 4, 5] (by decide) rfl (Nat.le_of_ble_eq_true rfl) (Nat.le_of_ble_eq_true rfl)
    rcases w9 with ⟨k34, k35, k36, k37⟩ | w9
    · skip
      have k37 := k37.symm
      subst k37
      refine r_if_eq_t 22 46 C dX11_code_22 (by decide) (by decide) ?_
      refine r_iconst 46 (-1) C dX11_code_46 (by decide) ?_
      exact r_iret 47 Rt dX11_code_47 () (show -1 ≤ (Int32.toInt (-1)) ∧ (Int32.toInt (-1)) ≤ 255 from ⟨(by ((repeat' apply And.intro) <;> first | trivial | rfl | assumption | omega | decide | exact Or.inl rfl | exact Or.inr (Or.inl rfl) | exact Or.inr (Or.inr rfl))), (by ((repeat' apply And.intro) <;> first | trivial | rfl | assumption | omega | decide | exact Or.inl rfl | exact Or.inr (Or.inl rfl) | exact Or.inr (Or.inr rfl)))⟩) [0, 9, 1, 10, 2, 3, 4, 11, 5, 6, 7, 8] (by decide) rfl (Nat.le_of_ble_eq_true rfl) (Nat.le_of_ble_eq_true rfl)
    rcases w9 with ⟨k38, k39, k40, k41⟩ | w9
    · skip
      have k41 := k41.symm
      subst k41
      refine r_if_eq_t 22 46 C dX11_code_22 (by decide) (by decide) ?_
      refine r_iconst 46 (-1) C dX11_code_46 (by decide) ?_
      exact r_iret 47 Rt dX11_code_47 () (show -1 ≤ (Int32.toInt (-1)) ∧ (Int32.toInt (-1)) ≤ 255 from ⟨(by ((repeat' apply And.intro) <;> first | trivial | rfl | assumption | omega | decide | exact Or.inl rfl | exact Or.inr (Or.inl rfl) | exact Or.inr (Or.inr rfl))), (by ((repeat' apply And.intro) <;> first | trivial | rfl | assumption | omega | decide | exact Or.inl rfl | exact Or.inr (Or.inl rfl) | exact Or.inr (Or.inr rfl)))⟩) [0, 9, 1, 10, 2, 3, 4, 11, 5, 6, 7, 8] (by decide) rfl (Nat.le_of_ble_eq_true rfl) (Nat.le_of_ble_eq_true rfl)
    rcases w9 with ⟨k42, k43, k44, k45⟩ | w9
    · skip
      have k45 := k45.symm
      subst k45
      refine r_if_eq_f 22 46 C dX11_code_22 (by decide) (by decide) ?_
      refine r_iload_n 25 4 C dX11_code_25 rfl ?_
      refine r_if_lt 26 46 C dX11_code_26 (by decide) (fun c46 => ?_) (fun c46 => ?_)
      · skip
        have k47 : (Int32.toInt x2) < 0 := (fa_lt x2 0).mp c46
        refine r_iconst 46 (-1) C dX11_code_46 (by decide) ?_
        exact r_iret 47 Rt dX11_code_47 () (show -1 ≤ (Int32.toInt (-1)) ∧ (Int32.toInt (-1)) ≤ 255 from ⟨(by ((repeat' apply And.intro) <;> first | trivial | rfl | assumption | omega | decide | exact Or.inl rfl | exact Or.inr (Or.inl rfl) | exact Or.inr (Or.inr rfl))), (by ((repeat' apply And.intro) <;> first | trivial | rfl | assumption | omega | decide | exact Or.inl rfl | exact Or.inr (Or.inl rfl) | exact Or.inr (Or.inr rfl)))⟩) [0, 9, 1, 10, 2, 3, 4, 11, 5, 6, 7, 8] (by decide) rfl (Nat.le_of_ble_eq_true rfl) (Nat.le_of_ble_eq_true rfl)
      · skip
        have k48 : ¬ ((Int32.toInt x2) < 0) := fun h_9 => c46 ((fa_lt x2 0).mpr h_9)
        refine r_iload_n 29 4 C dX11_code_29 rfl ?_
        refine r_aload 30 0 C dX11_code_30 rfl ?_
        refine r_iload_n 32 3 C dX11_code_32 rfl ?_
        refine r_callVi 33 C dX11_code_33 [.int x2] [(h3, .inr (7, [.ref h2, .ref h7, .ref h8, .int x7, .int x8, .int x9])), (h2, .inr (4, [.ref h6, .int x6])), (h7, .inl (gI g, 40, .inl fn1)), (h8, .inl (gI g, 40, .inl fn2)), (h6, .inl (gB g, 1500, .inl fn0))] [(h0, .inr (10, [.ref h12, .ref h13, .ref h1, .ref h14, .ref h15, .ref h16, .ref h17, .ref h18, .ref h19, vv0])), (h4, .inr (7, [.ref h2, .ref h9, .ref h10, .int x10, .int x11, .int x12])), (h5, .inr (7, [.ref h2, .ref h11, .ref h20, .int x13, .int x14, .int x15])), (h9, .inl (gI g, 200, .inl fn3)), (h10, .inl (gI g, 200, .inl fn4)), (h11, .inl (gI g, 0, .inl fn5)), (h1, .inr (3, [.ref h2, .ref h3, .ref h4, .ref h5, .int x3, .int x4, .int x5]))] (fun sz => c31_X8_finishOf l g h3 h2 h7 h8 h6 x1 x7 x8 x9 x6 fn1 fn2 fn0 i_x6 sz) gX11_code_X8_finishOf rfl ⟨rfl, rfl⟩ 1 (by decide) ⟨Nat.le_of_ble_eq_true rfl, Nat.le_of_ble_eq_true rfl⟩ 10 rfl rfl [10, 1, 11, 5, 4] [0, 2, 3, 6, 7, 8, 9] rfl rfl (by decide) (by decide) (by decide) rfl rfl (Nat.le_of_ble_eq_true rfl) ⟨Nat.le_of_ble_eq_true rfl, Nat.le_of_ble_eq_true rfl⟩ (fun r49 _ w50 => ?_)
        refine r_ws [(h0, .inr (10, [.ref h12, .ref h13, .ref h1, .ref h14, .ref h15, .ref h16, .ref h17, .ref h18, .ref h19, vv0])), (h4, .inr (7, [.ref h2, .ref h9, .ref h10, .int x10, .int x11, .int x12])), (h5, .inr (7, [.ref h2, .ref h11, .ref h20, .int x13, .int x14, .int x15])), (h9, .inl (gI g, 200, .inl fn3)), (h10, .inl (gI g, 200, .inl fn4)), (h11, .inl (gI g, 0, .inl fn5)), (h1, .inr (3, [.ref h2, .ref h3, .ref h4, .ref h5, .int x3, .int x4, .int x5])), (h3, .inr (7, [.ref h2, .ref h7, .ref h8, .int x7, .int x8, .int x9])), (h2, .inr (4, [.ref h6, .int x6])), (h7, .inl (gI g, 40, .inl fn1)), (h8, .inl (gI g, 40, .inl fn2)), (h6, .inl (gB g, 1500, .inl fn0))] rfl ?_
        have gr49 := fb_rng r49
        refine r_aload 36 0 C dX11_code_36 rfl ?_
        refine r_iload_n 38 3 C dX11_code_38 rfl ?_
        refine r_callVi 39 C dX11_code_39 [.int r49, .int x2] [(h3, .inr (7, [.ref h2, .ref h7, .ref h8, .int x7, .int x8, .int x9])), (h2, .inr (4, [.ref h6, .int x6])), (h7, .inl (gI g, 40, .inl fn1)), (h6, .inl (gB g, 1500, .inl fn0))] [(h0, .inr (10, [.ref h12, .ref h13, .ref h1, .ref h14, .ref h15, .ref h16, .ref h17, .ref h18, .ref h19, vv0])), (h4, .inr (7, [.ref h2, .ref h9, .ref h10, .int x10, .int x11, .int x12])), (h5, .inr (7, [.ref h2, .ref h11, .ref h20, .int x13, .int x14, .int x15])), (h9, .inl (gI g, 200, .inl fn3)), (h10, .inl (gI g, 200, .inl fn4)), (h11, .inl (gI g, 0, .inl fn5)), (h1, .inr (3, [.ref h2, .ref h3, .ref h4, .ref h5, .int x3, .int x4, .int x5])), (h8, .inl (gI g, 40, .inl fn2))] (fun sz => c32_X8_beginOf l g h3 h2 h7 h6 x1 h8 x7 x8 x9 x6 fn1 fn0 i_x6 sz) gX11_code_X8_beginOf rfl ⟨rfl, rfl⟩ 1 (by decide) ⟨Nat.le_of_ble_eq_true rfl, Nat.le_of_ble_eq_true rfl⟩ 7 rfl rfl [7, 8, 9, 11] [0, 1, 2, 3, 4, 5, 6, 10] rfl rfl (by decide) (by decide) (by decide) rfl rfl (Nat.le_of_ble_eq_true rfl) ⟨Nat.le_of_ble_eq_true rfl, Nat.le_of_ble_eq_true rfl⟩ (fun r51 _ w52 => ?_)
        refine r_ws [(h0, .inr (10, [.ref h12, .ref h13, .ref h1, .ref h14, .ref h15, .ref h16, .ref h17, .ref h18, .ref h19, vv0])), (h4, .inr (7, [.ref h2, .ref h9, .ref h10, .int x10, .int x11, .int x12])), (h5, .inr (7, [.ref h2, .ref h11, .ref h20, .int x13, .int x14, .int x15])), (h9, .inl (gI g, 200, .inl fn3)), (h10, .inl (gI g, 200, .inl fn4)), (h11, .inl (gI g, 0, .inl fn5)), (h1, .inr (3, [.ref h2, .ref h3, .ref h4, .ref h5, .int x3, .int x4, .int x5])), (h8, .inl (gI g, 40, .inl fn2)), (h3, .inr (7, [.ref h2, .ref h7, .ref h8, .int x7, .int x8, .int x9])), (h2, .inr (4, [.ref h6, .int x6])), (h7, .inl (gI g, 40, .inl fn1)), (h6, .inl (gB g, 1500, .inl fn0))] rfl ?_
        have gr51 := fb_rng r51
        obtain ⟨z53, ez53⟩ : ∃ z_9, r49 - r51 = z_9 := ⟨_, rfl⟩
        have gz53 := fb_rng z53
        refine r_isub 42 z53 C dX11_code_42 ez53 ?_
        refine r_icmp_lt 43 48 C dX11_code_43 (by decide) (fun c54 => ?_) (fun c54 => ?_)
        · skip
          have k55 : (Int32.toInt x2) < (Int32.toInt z53) := (fa_lt x2 z53).mp c54
          refine r_aload_n 48 1 C dX11_code_48 rfl ?_
          refine r_get 49 C dX11_code_49 (k := 2) 0 rfl rfl hiX11 (by decide) rfl (mg 1 rfl) (Or.inl rfl) rfl ?_
          refine r_getN 52 C dX11_code_52 (k := 0) 6 rfl rfl hiX3 (by decide) rfl (mg 4 rfl) rfl rfl ?_
          refine r_aload 55 0 C dX11_code_55 rfl ?_
          refine r_iload_n 57 3 C dX11_code_57 rfl ?_
          refine r_callVi 58 C dX11_code_58 [.ref h2] [(h3, .inr (7, [.ref h2, .ref h7, .ref h8, .int x7, .int x8, .int x9])), (h2, .inr (4, [.ref h6, .int x6])), (h7, .inl (gI g, 40, .inl fn1)), (h6, .inl (gB g, 1500, .inl fn0))] [(h0, .inr (10, [.ref h12, .ref h13, .ref h1, .ref h14, .ref h15, .ref h16, .ref h17, .ref h18, .ref h19, vv0])), (h4, .inr (7, [.ref h2, .ref h9, .ref h10, .int x10, .int x11, .int x12])), (h5, .inr (7, [.ref h2, .ref h11, .ref h20, .int x13, .int x14, .int x15])), (h9, .inl (gI g, 200, .inl fn3)), (h10, .inl (gI g, 200, .inl fn4)), (h11, .inl (gI g, 0, .inl fn5)), (h1, .inr (3, [.ref h2, .ref h3, .ref h4, .ref h5, .int x3, .int x4, .int x5])), (h8, .inl (gI g, 40, .inl fn2))] (fun sz => c32_X8_beginOf l g h3 h2 h7 h6 x1 h8 x7 x8 x9 x6 fn1 fn0 i_x6 sz) gX11_code_X8_beginOf rfl ⟨rfl, rfl⟩ 1 (by decide) ⟨Nat.le_of_ble_eq_true rfl, Nat.le_of_ble_eq_true rfl⟩ 8 rfl rfl [8, 9, 10, 11] [0, 1, 2, 3, 4, 5, 6, 7] rfl rfl (by decide) (by decide) (by decide) rfl rfl (Nat.le_of_ble_eq_true rfl) ⟨Nat.le_of_ble_eq_true rfl, Nat.le_of_ble_eq_true rfl⟩ (fun r56 _ w57 => ?_)
          refine r_ws [(h0, .inr (10, [.ref h12, .ref h13, .ref h1, .ref h14, .ref h15, .ref h16, .ref h17, .ref h18, .ref h19, vv0])), (h4, .inr (7, [.ref h2, .ref h9, .ref h10, .int x10, .int x11, .int x12])), (h5, .inr (7, [.ref h2, .ref h11, .ref h20, .int x13, .int x14, .int x15])), (h9, .inl (gI g, 200, .inl fn3)), (h10, .inl (gI g, 200, .inl fn4)), (h11, .inl (gI g, 0, .inl fn5)), (h1, .inr (3, [.ref h2, .ref h3, .ref h4, .ref h5, .int x3, .int x4, .int x5])), (h8, .inl (gI g, 40, .inl fn2)), (h3, .inr (7, [.ref h2, .ref h7, .ref h8, .int x7, .int x8, .int x9])), (h2, .inr (4, [.ref h6, .int x6])), (h7, .inl (gI g, 40, .inl fn1)), (h6, .inl (gB g, 1500, .inl fn0))] rfl ?_
          have gr56 := fb_rng r56
          refine r_iload_n 61 4 C dX11_code_61 rfl ?_
          obtain ⟨z58, ez58⟩ : ∃ z_9, r56 + x2 = z_9 := ⟨_, rfl⟩
          have gz58 := fb_rng z58
          refine r_iadd 62 z58 C dX11_code_62 ez58 ?_
          obtain ⟨z59, ez59⟩ : ∃ z_9, Int32.toInt64 z58 = z_9 := ⟨_, rfl⟩
          have tz59 : (Int64.toInt z59) = (Int32.toInt z58) := by rw [← ez59]; exact Int32.toInt_toInt64 _
          refine r_i2l 63 z59 C dX11_code_63 ez59 ?_
          refine r_callVi 64 C dX11_code_64 [] [(h2, .inr (4, [.ref h6, .int x6])), (h6, .inl (gB g, 1500, .inl fn0))] [(h0, .inr (10, [.ref h12, .ref h13, .ref h1, .ref h14, .ref h15, .ref h16, .ref h17, .ref h18, .ref h19, vv0])), (h4, .inr (7, [.ref h2, .ref h9, .ref h10, .int x10, .int x11, .int x12])), (h5, .inr (7, [.ref h2, .ref h11, .ref h20, .int x13, .int x14, .int x15])), (h9, .inl (gI g, 200, .inl fn3)), (h10, .inl (gI g, 200, .inl fn4)), (h11, .inl (gI g, 0, .inl fn5)), (h1, .inr (3, [.ref h2, .ref h3, .ref h4, .ref h5, .int x3, .int x4, .int x5])), (h8, .inl (gI g, 40, .inl fn2)), (h3, .inr (7, [.ref h2, .ref h7, .ref h8, .int x7, .int x8, .int x9])), (h7, .inl (gI g, 40, .inl fn1))] (fun sz => c14_X5_get l g h2 h6 z59 x6 fn0 i_x6 sz) gX11_code_X5_get rfl ⟨rfl, rfl⟩ 1 (by decide) ⟨Nat.le_of_ble_eq_true rfl, Nat.le_of_ble_eq_true rfl⟩ 9 rfl rfl [9, 11] [0, 1, 2, 3, 4, 5, 6, 7, 8, 10] rfl rfl (by decide) (by decide) (by decide) rfl rfl (Nat.le_of_ble_eq_true rfl) ⟨Nat.le_of_ble_eq_true rfl, Nat.le_of_ble_eq_true rfl⟩ (fun r60 _ w61 => ?_)
          refine r_ws [(h0, .inr (10, [.ref h12, .ref h13, .ref h1, .ref h14, .ref h15, .ref h16, .ref h17, .ref h18, .ref h19, vv0])), (h4, .inr (7, [.ref h2, .ref h9, .ref h10, .int x10, .int x11, .int x12])), (h5, .inr (7, [.ref h2, .ref h11, .ref h20, .int x13, .int x14, .int x15])), (h9, .inl (gI g, 200, .inl fn3)), (h10, .inl (gI g, 200, .inl fn4)), (h11, .inl (gI g, 0, .inl fn5)), (h1, .inr (3, [.ref h2, .ref h3, .ref h4, .ref h5, .int x3, .int x4, .int x5])), (h8, .inl (gI g, 40, .inl fn2)), (h3, .inr (7, [.ref h2, .ref h7, .ref h8, .int x7, .int x8, .int x9])), (h7, .inl (gI g, 40, .inl fn1)), (h2, .inr (4, [.ref h6, .int x6])), (h6, .inl (gB g, 1500, .inl fn0))] rfl ?_
          have p62 : -1 ≤ (Int32.toInt r60) := w61.1
          have p63 : (Int32.toInt r60) ≤ 255 := w61.2
          exact r_iret 67 Rt dX11_code_67 () (show -1 ≤ (Int32.toInt r60) ∧ (Int32.toInt r60) ≤ 255 from ⟨(show _ ∧ _ from ⟨p62, p63⟩).1, (show _ ∧ _ from ⟨p62, p63⟩).2⟩) [0, 6, 10, 8, 1, 2, 11, 9, 7, 3, 4, 5] (by decide) rfl (Nat.le_of_ble_eq_true rfl) (Nat.le_of_ble_eq_true rfl)
        · skip
          have k64 : ¬ ((Int32.toInt x2) < (Int32.toInt z53)) := fun h_9 => c54 ((fa_lt x2 z53).mpr h_9)
          refine r_iconst 46 (-1) C dX11_code_46 (by decide) ?_
          exact r_iret 47 Rt dX11_code_47 () (show -1 ≤ (Int32.toInt (-1)) ∧ (Int32.toInt (-1)) ≤ 255 from ⟨(by ((repeat' apply And.intro) <;> first | trivial | rfl | assumption | omega | decide | exact Or.inl rfl | exact Or.inr (Or.inl rfl) | exact Or.inr (Or.inr rfl))), (by ((repeat' apply And.intro) <;> first | trivial | rfl | assumption | omega | decide | exact Or.inl rfl | exact Or.inr (Or.inl rfl) | exact Or.inr (Or.inr rfl)))⟩) [0, 6, 9, 8, 1, 2, 11, 10, 7, 3, 4, 5] (by decide) rfl (Nat.le_of_ble_eq_true rfl) (Nat.le_of_ble_eq_true rfl)
    obtain ⟨k65, k66⟩ := w9
    have k66 := k66.symm
    subst k66
    refine r_if_eq_t 22 46 C dX11_code_22 (by decide) (by decide) ?_
    refine r_iconst 46 (-1) C dX11_code_46 (by decide) ?_
    exact r_iret 47 Rt dX11_code_47 () (show -1 ≤ (Int32.toInt (-1)) ∧ (Int32.toInt (-1)) ≤ 255 from ⟨(by ((repeat' apply And.intro) <;> first | trivial | rfl | assumption | omega | decide | exact Or.inl rfl | exact Or.inr (Or.inl rfl) | exact Or.inr (Or.inr rfl))), (by ((repeat' apply And.intro) <;> first | trivial | rfl | assumption | omega | decide | exact Or.inl rfl | exact Or.inr (Or.inl rfl) | exact Or.inr (Or.inr rfl)))⟩) [0, 9, 1, 10, 2, 3, 4, 11, 5, 6, 7, 8] (by decide) rfl (Nat.le_of_ble_eq_true rfl) (Nat.le_of_ble_eq_true rfl)
  rcases w3 with ⟨k67, k68, k69⟩ | w3
  · skip
    have k69 := k69.symm
    subst k69
    refine r_st [.ref h4] rfl ?_
    refine r_astore 8 C dX11_code_8 [(4, .ref h4), (0, .ref h0), (1, .int x0), (2, .int x1), (3, .int x2)] (by decide) rfl ?_
    refine r_aload 10 0 C dX11_code_10 rfl ?_
    refine r_ifnull 12 C dX11_code_12 ?_
    refine r_aload 15 0 C dX11_code_15 rfl ?_
    refine r_iload_n 17 3 C dX11_code_17 rfl ?_
    obtain ⟨z70, ez70⟩ : ∃ z_9, Int32.toInt64 x1 = z_9 := ⟨_, rfl⟩
    have tz70 : (Int64.toInt z70) = (Int32.toInt x1) := by rw [← ez70]; exact Int32.toInt_toInt64 _
    refine r_i2l 18 z70 C dX11_code_18 ez70 ?_
    refine r_callVi 19 C dX11_code_19 [] [(h4, .inr (7, [.ref h2, .ref h9, .ref h10, .int x10, .int x11, .int x12])), (h9, .inl (gI g, 200, .inl fn3))] [(h0, .inr (10, [.ref h12, .ref h13, .ref h1, .ref h14, .ref h15, .ref h16, .ref h17, .ref h18, .ref h19, vv0])), (h2, .inr (4, [.ref h6, .int x6])), (h3, .inr (7, [.ref h2, .ref h7, .ref h8, .int x7, .int x8, .int x9])), (h5, .inr (7, [.ref h2, .ref h11, .ref h20, .int x13, .int x14, .int x15])), (h6, .inl (gB g, 1500, .inl fn0)), (h7, .inl (gI g, 40, .inl fn1)), (h8, .inl (gI g, 40, .inl fn2)), (h10, .inl (gI g, 200, .inl fn4)), (h11, .inl (gI g, 0, .inl fn5)), (h1, .inr (3, [.ref h2, .ref h3, .ref h4, .ref h5, .int x3, .int x4, .int x5]))] (fun sz => c33_X8_has l g h4 h9 z70 h2 h10 x10 x11 x12 fn3  sz) gX11_code_X8_has rfl ⟨rfl, rfl⟩ 1 (by decide) ⟨Nat.le_of_ble_eq_true rfl, Nat.le_of_ble_eq_true rfl⟩ 3 rfl rfl [3, 8] [0, 1, 2, 4, 5, 6, 7, 9, 10, 11] rfl rfl (by decide) (by decide) (by decide) rfl rfl (Nat.le_of_ble_eq_true rfl) ⟨Nat.le_of_ble_eq_true rfl, Nat.le_of_ble_eq_true rfl⟩ (fun r71 _ w72 => ?_)
    refine r_ws [(h0, .inr (10, [.ref h12, .ref h13, .ref h1, .ref h14, .ref h15, .ref h16, .ref h17, .ref h18, .ref h19, vv0])), (h2, .inr (4, [.ref h6, .int x6])), (h3, .inr (7, [.ref h2, .ref h7, .ref h8, .int x7, .int x8, .int x9])), (h5, .inr (7, [.ref h2, .ref h11, .ref h20, .int x13, .int x14, .int x15])), (h6, .inl (gB g, 1500, .inl fn0)), (h7, .inl (gI g, 40, .inl fn1)), (h8, .inl (gI g, 40, .inl fn2)), (h10, .inl (gI g, 200, .inl fn4)), (h11, .inl (gI g, 0, .inl fn5)), (h1, .inr (3, [.ref h2, .ref h3, .ref h4, .ref h5, .int x3, .int x4, .int x5])), (h4, .inr (7, [.ref h2, .ref h9, .ref h10, .int x10, .int x11, .int x12])), (h9, .inl (gI g, 200, .inl fn3))] rfl ?_
    have w73 : (((Int64.toInt z70) < 0 ∧ r71 = 0) ∨ (¬ ((Int64.toInt z70) < 0) ∧ 0 < (Int32.toInt x12) ∧ r71 = 1) ∨ (¬ ((Int64.toInt z70) < 0) ∧ ¬ (0 < (Int32.toInt x12)) ∧ 200 ≤ (Int64.toInt z70) ∧ r71 = 0) ∨ (¬ ((Int64.toInt z70) < 0) ∧ ¬ (0 < (Int32.toInt x12)) ∧ ¬ (200 ≤ (Int64.toInt z70)) ∧ r71 = 0) ∨ (¬ ((Int64.toInt z70) < 0) ∧ ¬ (0 < (Int32.toInt x12)) ∧ ¬ (200 ≤ (Int64.toInt z70)) ∧ r71 = 1) ∨ (¬ ((Int64.toInt z70) < 0) ∧ r71 = 0)) := w72
    rcases w73 with ⟨k74, k75⟩ | w73
    · skip
      have k75 := k75.symm
      subst k75
      refine r_if_eq_t 22 46 C dX11_code_22 (by decide) (by decide) ?_
      refine r_iconst 46 (-1) C dX11_code_46 (by decide) ?_
      exact r_iret 47 Rt dX11_code_47 () (show -1 ≤ (Int32.toInt (-1)) ∧ (Int32.toInt (-1)) ≤ 255 from ⟨(by ((repeat' apply And.intro) <;> first | trivial | rfl | assumption | omega | decide | exact Or.inl rfl | exact Or.inr (Or.inl rfl) | exact Or.inr (Or.inr rfl))), (by ((repeat' apply And.intro) <;> first | trivial | rfl | assumption | omega | decide | exact Or.inl rfl | exact Or.inr (Or.inl rfl) | exact Or.inr (Or.inr rfl)))⟩) [0, 9, 1, 2, 10, 3, 4, 5, 6, 11, 7, 8] (by decide) rfl (Nat.le_of_ble_eq_true rfl) (Nat.le_of_ble_eq_true rfl)
    rcases w73 with ⟨k76, k77, k78⟩ | w73
    · skip
      have k78 := k78.symm
      subst k78
      refine r_if_eq_f 22 46 C dX11_code_22 (by decide) (by decide) ?_
      refine r_iload_n 25 4 C dX11_code_25 rfl ?_
      refine r_if_lt 26 46 C dX11_code_26 (by decide) (fun c79 => ?_) (fun c79 => ?_)
      · skip
        have k80 : (Int32.toInt x2) < 0 := (fa_lt x2 0).mp c79
        refine r_iconst 46 (-1) C dX11_code_46 (by decide) ?_
        exact r_iret 47 Rt dX11_code_47 () (show -1 ≤ (Int32.toInt (-1)) ∧ (Int32.toInt (-1)) ≤ 255 from ⟨(by ((repeat' apply And.intro) <;> first | trivial | rfl | assumption | omega | decide | exact Or.inl rfl | exact Or.inr (Or.inl rfl) | exact Or.inr (Or.inr rfl))), (by ((repeat' apply And.intro) <;> first | trivial | rfl | assumption | omega | decide | exact Or.inl rfl | exact Or.inr (Or.inl rfl) | exact Or.inr (Or.inr rfl)))⟩) [0, 9, 1, 2, 10, 3, 4, 5, 6, 11, 7, 8] (by decide) rfl (Nat.le_of_ble_eq_true rfl) (Nat.le_of_ble_eq_true rfl)
      · skip
        have k81 : ¬ ((Int32.toInt x2) < 0) := fun h_9 => c79 ((fa_lt x2 0).mpr h_9)
        refine r_iload_n 29 4 C dX11_code_29 rfl ?_
        refine r_aload 30 0 C dX11_code_30 rfl ?_
        refine r_iload_n 32 3 C dX11_code_32 rfl ?_
        refine r_callVi 33 C dX11_code_33 [.int x2] [(h4, .inr (7, [.ref h2, .ref h9, .ref h10, .int x10, .int x11, .int x12])), (h2, .inr (4, [.ref h6, .int x6])), (h9, .inl (gI g, 200, .inl fn3)), (h10, .inl (gI g, 200, .inl fn4)), (h6, .inl (gB g, 1500, .inl fn0))] [(h0, .inr (10, [.ref h12, .ref h13, .ref h1, .ref h14, .ref h15, .ref h16, .ref h17, .ref h18, .ref h19, vv0])), (h3, .inr (7, [.ref h2, .ref h7, .ref h8, .int x7, .int x8, .int x9])), (h5, .inr (7, [.ref h2, .ref h11, .ref h20, .int x13, .int x14, .int x15])), (h7, .inl (gI g, 40, .inl fn1)), (h8, .inl (gI g, 40, .inl fn2)), (h11, .inl (gI g, 0, .inl fn5)), (h1, .inr (3, [.ref h2, .ref h3, .ref h4, .ref h5, .int x3, .int x4, .int x5]))] (fun sz => c34_X8_finishOf l g h4 h2 h9 h10 h6 x1 x10 x11 x12 x6 fn3 fn4 fn0 i_x6 sz) gX11_code_X8_finishOf rfl ⟨rfl, rfl⟩ 1 (by decide) ⟨Nat.le_of_ble_eq_true rfl, Nat.le_of_ble_eq_true rfl⟩ 10 rfl rfl [10, 1, 11, 7, 4] [0, 2, 3, 5, 6, 8, 9] rfl rfl (by decide) (by decide) (by decide) rfl rfl (Nat.le_of_ble_eq_true rfl) ⟨Nat.le_of_ble_eq_true rfl, Nat.le_of_ble_eq_true rfl⟩ (fun r82 _ w83 => ?_)
        refine r_ws [(h0, .inr (10, [.ref h12, .ref h13, .ref h1, .ref h14, .ref h15, .ref h16, .ref h17, .ref h18, .ref h19, vv0])), (h3, .inr (7, [.ref h2, .ref h7, .ref h8, .int x7, .int x8, .int x9])), (h5, .inr (7, [.ref h2, .ref h11, .ref h20, .int x13, .int x14, .int x15])), (h7, .inl (gI g, 40, .inl fn1)), (h8, .inl (gI g, 40, .inl fn2)), (h11, .inl (gI g, 0, .inl fn5)), (h1, .inr (3, [.ref h2, .ref h3, .ref h4, .ref h5, .int x3, .int x4, .int x5])), (h4, .inr (7, [.ref h2, .ref h9, .ref h10, .int x10, .int x11, .int x12])), (h2, .inr (4, [.ref h6, .int x6])), (h9, .inl (gI g, 200, .inl fn3)), (h10, .inl (gI g, 200, .inl fn4)), (h6, .inl (gB g, 1500, .inl fn0))] rfl ?_
        have gr82 := fb_rng r82
        refine r_aload 36 0 C dX11_code_36 rfl ?_
        refine r_iload_n 38 3 C dX11_code_38 rfl ?_
        refine r_callVi 39 C dX11_code_39 [.int r82, .int x2] [(h4, .inr (7, [.ref h2, .ref h9, .ref h10, .int x10, .int x11, .int x12])), (h2, .inr (4, [.ref h6, .int x6])), (h9, .inl (gI g, 200, .inl fn3)), (h6, .inl (gB g, 1500, .inl fn0))] [(h0, .inr (10, [.ref h12, .ref h13, .ref h1, .ref h14, .ref h15, .ref h16, .ref h17, .ref h18, .ref h19, vv0])), (h3, .inr (7, [.ref h2, .ref h7, .ref h8, .int x7, .int x8, .int x9])), (h5, .inr (7, [.ref h2, .ref h11, .ref h20, .int x13, .int x14, .int x15])), (h7, .inl (gI g, 40, .inl fn1)), (h8, .inl (gI g, 40, .inl fn2)), (h11, .inl (gI g, 0, .inl fn5)), (h1, .inr (3, [.ref h2, .ref h3, .ref h4, .ref h5, .int x3, .int x4, .int x5])), (h10, .inl (gI g, 200, .inl fn4))] (fun sz => c35_X8_beginOf l g h4 h2 h9 h6 x1 h10 x10 x11 x12 x6 fn3 fn0 i_x6 sz) gX11_code_X8_beginOf rfl ⟨rfl, rfl⟩ 1 (by decide) ⟨Nat.le_of_ble_eq_true rfl, Nat.le_of_ble_eq_true rfl⟩ 7 rfl rfl [7, 8, 9, 11] [0, 1, 2, 3, 4, 5, 6, 10] rfl rfl (by decide) (by decide) (by decide) rfl rfl (Nat.le_of_ble_eq_true rfl) ⟨Nat.le_of_ble_eq_true rfl, Nat.le_of_ble_eq_true rfl⟩ (fun r84 _ w85 => ?_)
        refine r_ws [(h0, .inr (10, [.ref h12, .ref h13, .ref h1, .ref h14, .ref h15, .ref h16, .ref h17, .ref h18, .ref h19, vv0])), (h3, .inr (7, [.ref h2, .ref h7, .ref h8, .int x7, .int x8, .int x9])), (h5, .inr (7, [.ref h2, .ref h11, .ref h20, .int x13, .int x14, .int x15])), (h7, .inl (gI g, 40, .inl fn1)), (h8, .inl (gI g, 40, .inl fn2)), (h11, .inl (gI g, 0, .inl fn5)), (h1, .inr (3, [.ref h2, .ref h3, .ref h4, .ref h5, .int x3, .int x4, .int x5])), (h10, .inl (gI g, 200, .inl fn4)), (h4, .inr (7, [.ref h2, .ref h9, .ref h10, .int x10, .int x11, .int x12])), (h2, .inr (4, [.ref h6, .int x6])), (h9, .inl (gI g, 200, .inl fn3)), (h6, .inl (gB g, 1500, .inl fn0))] rfl ?_
        have gr84 := fb_rng r84
        obtain ⟨z86, ez86⟩ : ∃ z_9, r82 - r84 = z_9 := ⟨_, rfl⟩
        have gz86 := fb_rng z86
        refine r_isub 42 z86 C dX11_code_42 ez86 ?_
        refine r_icmp_lt 43 48 C dX11_code_43 (by decide) (fun c87 => ?_) (fun c87 => ?_)
        · skip
          have k88 : (Int32.toInt x2) < (Int32.toInt z86) := (fa_lt x2 z86).mp c87
          refine r_aload_n 48 1 C dX11_code_48 rfl ?_
          refine r_get 49 C dX11_code_49 (k := 2) 0 rfl rfl hiX11 (by decide) rfl (mg 1 rfl) (Or.inl rfl) rfl ?_
          refine r_getN 52 C dX11_code_52 (k := 0) 6 rfl rfl hiX3 (by decide) rfl (mg 4 rfl) rfl rfl ?_
          refine r_aload 55 0 C dX11_code_55 rfl ?_
          refine r_iload_n 57 3 C dX11_code_57 rfl ?_
          refine r_callVi 58 C dX11_code_58 [.ref h2] [(h4, .inr (7, [.ref h2, .ref h9, .ref h10, .int x10, .int x11, .int x12])), (h2, .inr (4, [.ref h6, .int x6])), (h9, .inl (gI g, 200, .inl fn3)), (h6, .inl (gB g, 1500, .inl fn0))] [(h0, .inr (10, [.ref h12, .ref h13, .ref h1, .ref h14, .ref h15, .ref h16, .ref h17, .ref h18, .ref h19, vv0])), (h3, .inr (7, [.ref h2, .ref h7, .ref h8, .int x7, .int x8, .int x9])), (h5, .inr (7, [.ref h2, .ref h11, .ref h20, .int x13, .int x14, .int x15])), (h7, .inl (gI g, 40, .inl fn1)), (h8, .inl (gI g, 40, .inl fn2)), (h11, .inl (gI g, 0, .inl fn5)), (h1, .inr (3, [.ref h2, .ref h3, .ref h4, .ref h5, .int x3, .int x4, .int x5])), (h10, .inl (gI g, 200, .inl fn4))] (fun sz => c35_X8_beginOf l g h4 h2 h9 h6 x1 h10 x10 x11 x12 x6 fn3 fn0 i_x6 sz) gX11_code_X8_beginOf rfl ⟨rfl, rfl⟩ 1 (by decide) ⟨Nat.le_of_ble_eq_true rfl, Nat.le_of_ble_eq_true rfl⟩ 8 rfl rfl [8, 9, 10, 11] [0, 1, 2, 3, 4, 5, 6, 7] rfl rfl (by decide) (by decide) (by decide) rfl rfl (Nat.le_of_ble_eq_true rfl) ⟨Nat.le_of_ble_eq_true rfl, Nat.le_of_ble_eq_true rfl⟩ (fun r89 _ w90 => ?_)
          refine r_ws [(h0, .inr (10, [.ref h12, .ref h13, .ref h1, .ref h14, .ref h15, .ref h16, .ref h17, .ref h18, .ref h19, vv0])), (h3, .inr (7, [.ref h2, .ref h7, .ref h8, .int x7, .int x8, .int x9])), (h5, .inr (7, [.ref h2, .ref h11, .ref h20, .int x13, .int x14, .int x15])), (h7, .inl (gI g, 40, .inl fn1)), (h8, .inl (gI g, 40, .inl fn2)), (h11, .inl (gI g, 0, .inl fn5)), (h1, .inr (3, [.ref h2, .ref h3, .ref h4, .ref h5, .int x3, .int x4, .int x5])), (h10, .inl (gI g, 200, .inl fn4)), (h4, .inr (7, [.ref h2, .ref h9, .ref h10, .int x10, .int x11, .int x12])), (h2, .inr (4, [.ref h6, .int x6])), (h9, .inl (gI g, 200, .inl fn3)), (h6, .inl (gB g, 1500, .inl fn0))] rfl ?_
          have gr89 := fb_rng r89
          refine r_iload_n 61 4 C dX11_code_61 rfl ?_
          obtain ⟨z91, ez91⟩ : ∃ z_9, r89 + x2 = z_9 := ⟨_, rfl⟩
          have gz91 := fb_rng z91
          refine r_iadd 62 z91 C dX11_code_62 ez91 ?_
          obtain ⟨z92, ez92⟩ : ∃ z_9, Int32.toInt64 z91 = z_9 := ⟨_, rfl⟩
          have tz92 : (Int64.toInt z92) = (Int32.toInt z91) := by rw [← ez92]; exact Int32.toInt_toInt64 _
          refine r_i2l 63 z92 C dX11_code_63 ez92 ?_
          refine r_callVi 64 C dX11_code_64 [] [(h2, .inr (4, [.ref h6, .int x6])), (h6, .inl (gB g, 1500, .inl fn0))] [(h0, .inr (10, [.ref h12, .ref h13, .ref h1, .ref h14, .ref h15, .ref h16, .ref h17, .ref h18, .ref h19, vv0])), (h3, .inr (7, [.ref h2, .ref h7, .ref h8, .int x7, .int x8, .int x9])), (h5, .inr (7, [.ref h2, .ref h11, .ref h20, .int x13, .int x14, .int x15])), (h7, .inl (gI g, 40, .inl fn1)), (h8, .inl (gI g, 40, .inl fn2)), (h11, .inl (gI g, 0, .inl fn5)), (h1, .inr (3, [.ref h2, .ref h3, .ref h4, .ref h5, .int x3, .int x4, .int x5])), (h10, .inl (gI g, 200, .inl fn4)), (h4, .inr (7, [.ref h2, .ref h9, .ref h10, .int x10, .int x11, .int x12])), (h9, .inl (gI g, 200, .inl fn3))] (fun sz => c14_X5_get l g h2 h6 z92 x6 fn0 i_x6 sz) gX11_code_X5_get rfl ⟨rfl, rfl⟩ 1 (by decide) ⟨Nat.le_of_ble_eq_true rfl, Nat.le_of_ble_eq_true rfl⟩ 9 rfl rfl [9, 11] [0, 1, 2, 3, 4, 5, 6, 7, 8, 10] rfl rfl (by decide) (by decide) (by decide) rfl rfl (Nat.le_of_ble_eq_true rfl) ⟨Nat.le_of_ble_eq_true rfl, Nat.le_of_ble_eq_true rfl⟩ (fun r93 _ w94 => ?_)
          refine r_ws [(h0, .inr (10, [.ref h12, .ref h13, .ref h1, .ref h14, .ref h15, .ref h16, .ref h17, .ref h18, .ref h19, vv0])), (h3, .inr (7, [.ref h2, .ref h7, .ref h8, .int x7, .int x8, .int x9])), (h5, .inr (7, [.ref h2, .ref h11, .ref h20, .int x13, .int x14, .int x15])), (h7, .inl (gI g, 40, .inl fn1)), (h8, .inl (gI g, 40, .inl fn2)), (h11, .inl (gI g, 0, .inl fn5)), (h1, .inr (3, [.ref h2, .ref h3, .ref h4, .ref h5, .int x3, .int x4, .int x5])), (h10, .inl (gI g, 200, .inl fn4)), (h4, .inr (7, [.ref h2, .ref h9, .ref h10, .int x10, .int x11, .int x12])), (h9, .inl (gI g, 200, .inl fn3)), (h2, .inr (4, [.ref h6, .int x6])), (h6, .inl (gB g, 1500, .inl fn0))] rfl ?_
          have p95 : -1 ≤ (Int32.toInt r93) := w94.1
          have p96 : (Int32.toInt r93) ≤ 255 := w94.2
          exact r_iret 67 Rt dX11_code_67 () (show -1 ≤ (Int32.toInt r93) ∧ (Int32.toInt r93) ≤ 255 from ⟨(show _ ∧ _ from ⟨p95, p96⟩).1, (show _ ∧ _ from ⟨p95, p96⟩).2⟩) [0, 6, 10, 1, 8, 2, 11, 3, 4, 9, 7, 5] (by decide) rfl (Nat.le_of_ble_eq_true rfl) (Nat.le_of_ble_eq_true rfl)
        · skip
          have k97 : ¬ ((Int32.toInt x2) < (Int32.toInt z86)) := fun h_9 => c87 ((fa_lt x2 z86).mpr h_9)
          refine r_iconst 46 (-1) C dX11_code_46 (by decide) ?_
          exact r_iret 47 Rt dX11_code_47 () (show -1 ≤ (Int32.toInt (-1)) ∧ (Int32.toInt (-1)) ≤ 255 from ⟨(by ((repeat' apply And.intro) <;> first | trivial | rfl | assumption | omega | decide | exact Or.inl rfl | exact Or.inr (Or.inl rfl) | exact Or.inr (Or.inr rfl))), (by ((repeat' apply And.intro) <;> first | trivial | rfl | assumption | omega | decide | exact Or.inl rfl | exact Or.inr (Or.inl rfl) | exact Or.inr (Or.inr rfl)))⟩) [0, 6, 9, 1, 8, 2, 11, 3, 4, 10, 7, 5] (by decide) rfl (Nat.le_of_ble_eq_true rfl) (Nat.le_of_ble_eq_true rfl)
    rcases w73 with ⟨k98, k99, k100, k101⟩ | w73
    · skip
      have k101 := k101.symm
      subst k101
      refine r_if_eq_t 22 46 C dX11_code_22 (by decide) (by decide) ?_
      refine r_iconst 46 (-1) C dX11_code_46 (by decide) ?_
      exact r_iret 47 Rt dX11_code_47 () (show -1 ≤ (Int32.toInt (-1)) ∧ (Int32.toInt (-1)) ≤ 255 from ⟨(by ((repeat' apply And.intro) <;> first | trivial | rfl | assumption | omega | decide | exact Or.inl rfl | exact Or.inr (Or.inl rfl) | exact Or.inr (Or.inr rfl))), (by ((repeat' apply And.intro) <;> first | trivial | rfl | assumption | omega | decide | exact Or.inl rfl | exact Or.inr (Or.inl rfl) | exact Or.inr (Or.inr rfl)))⟩) [0, 9, 1, 2, 10, 3, 4, 5, 6, 11, 7, 8] (by decide) rfl (Nat.le_of_ble_eq_true rfl) (Nat.le_of_ble_eq_true rfl)
    rcases w73 with ⟨k102, k103, k104, k105⟩ | w73
    · skip
      have k105 := k105.symm
      subst k105
      refine r_if_eq_t 22 46 C dX11_code_22 (by decide) (by decide) ?_
      refine r_iconst 46 (-1) C dX11_code_46 (by decide) ?_
      exact r_iret 47 Rt dX11_code_47 () (show -1 ≤ (Int32.toInt (-1)) ∧ (Int32.toInt (-1)) ≤ 255 from ⟨(by ((repeat' apply And.intro) <;> first | trivial | rfl | assumption | omega | decide | exact Or.inl rfl | exact Or.inr (Or.inl rfl) | exact Or.inr (Or.inr rfl))), (by ((repeat' apply And.intro) <;> first | trivial | rfl | assumption | omega | decide | exact Or.inl rfl | exact Or.inr (Or.inl rfl) | exact Or.inr (Or.inr rfl)))⟩) [0, 9, 1, 2, 10, 3, 4, 5, 6, 11, 7, 8] (by decide) rfl (Nat.le_of_ble_eq_true rfl) (Nat.le_of_ble_eq_true rfl)
    rcases w73 with ⟨k106, k107, k108, k109⟩ | w73
    · skip
      have k109 := k109.symm
      subst k109
      refine r_if_eq_f 22 46 C dX11_code_22 (by decide) (by decide) ?_
      refine r_iload_n 25 4 C dX11_code_25 rfl ?_
      refine r_if_lt 26 46 C dX11_code_26 (by decide) (fun c110 => ?_) (fun c110 => ?_)
      · skip
        have k111 : (Int32.toInt x2) < 0 := (fa_lt x2 0).mp c110
        refine r_iconst 46 (-1) C dX11_code_46 (by decide) ?_
        exact r_iret 47 Rt dX11_code_47 () (show -1 ≤ (Int32.toInt (-1)) ∧ (Int32.toInt (-1)) ≤ 255 from ⟨(by ((repeat' apply And.intro) <;> first | trivial | rfl | assumption | omega | decide | exact Or.inl rfl | exact Or.inr (Or.inl rfl) | exact Or.inr (Or.inr rfl))), (by ((repeat' apply And.intro) <;> first | trivial | rfl | assumption | omega | decide | exact Or.inl rfl | exact Or.inr (Or.inl rfl) | exact Or.inr (Or.inr rfl)))⟩) [0, 9, 1, 2, 10, 3, 4, 5, 6, 11, 7, 8] (by decide) rfl (Nat.le_of_ble_eq_true rfl) (Nat.le_of_ble_eq_true rfl)
      · skip
        have k112 : ¬ ((Int32.toInt x2) < 0) := fun h_9 => c110 ((fa_lt x2 0).mpr h_9)
        refine r_iload_n 29 4 C dX11_code_29 rfl ?_
        refine r_aload 30 0 C dX11_code_30 rfl ?_
        refine r_iload_n 32 3 C dX11_code_32 rfl ?_
        refine r_callVi 33 C dX11_code_33 [.int x2] [(h4, .inr (7, [.ref h2, .ref h9, .ref h10, .int x10, .int x11, .int x12])), (h2, .inr (4, [.ref h6, .int x6])), (h9, .inl (gI g, 200, .inl fn3)), (h10, .inl (gI g, 200, .inl fn4)), (h6, .inl (gB g, 1500, .inl fn0))] [(h0, .inr (10, [.ref h12, .ref h13, .ref h1, .ref h14, .ref h15, .ref h16, .ref h17, .ref h18, .ref h19, vv0])), (h3, .inr (7, [.ref h2, .ref h7, .ref h8, .int x7, .int x8, .int x9])), (h5, .inr (7, [.ref h2, .ref h11, .ref h20, .int x13, .int x14, .int x15])), (h7, .inl (gI g, 40, .inl fn1)), (h8, .inl (gI g, 40, .inl fn2)), (h11, .inl (gI g, 0, .inl fn5)), (h1, .inr (3, [.ref h2, .ref h3, .ref h4, .ref h5, .int x3, .int x4, .int x5]))] (fun sz => c34_X8_finishOf l g h4 h2 h9 h10 h6 x1 x10 x11 x12 x6 fn3 fn4 fn0 i_x6 sz) gX11_code_X8_finishOf rfl ⟨rfl, rfl⟩ 1 (by decide) ⟨Nat.le_of_ble_eq_true rfl, Nat.le_of_ble_eq_true rfl⟩ 10 rfl rfl [10, 1, 11, 7, 4] [0, 2, 3, 5, 6, 8, 9] rfl rfl (by decide) (by decide) (by decide) rfl rfl (Nat.le_of_ble_eq_true rfl) ⟨Nat.le_of_ble_eq_true rfl, Nat.le_of_ble_eq_true rfl⟩ (fun r113 _ w114 => ?_)
        refine r_ws [(h0, .inr (10, [.ref h12, .ref h13, .ref h1, .ref h14, .ref h15, .ref h16, .ref h17, .ref h18, .ref h19, vv0])), (h3, .inr (7, [.ref h2, .ref h7, .ref h8, .int x7, .int x8, .int x9])), (h5, .inr (7, [.ref h2, .ref h11, .ref h20, .int x13, .int x14, .int x15])), (h7, .inl (gI g, 40, .inl fn1)), (h8, .inl (gI g, 40, .inl fn2)), (h11, .inl (gI g, 0, .inl fn5)), (h1, .inr (3, [.ref h2, .ref h3, .ref h4, .ref h5, .int x3, .int x4, .int x5])), (h4, .inr (7, [.ref h2, .ref h9, .ref h10, .int x10, .int x11, .int x12])), (h2, .inr (4, [.ref h6, .int x6])), (h9, .inl (gI g, 200, .inl fn3)), (h10, .inl (gI g, 200, .inl fn4)), (h6, .inl (gB g, 1500, .inl fn0))] rfl ?_
        have gr113 := fb_rng r113
        refine r_aload 36 0 C dX11_code_36 rfl ?_
        refine r_iload_n 38 3 C dX11_code_38 rfl ?_
        refine r_callVi 39 C dX11_code_39 [.int r113, .int x2] [(h4, .inr (7, [.ref h2, .ref h9, .ref h10, .int x10, .int x11, .int x12])), (h2, .inr (4, [.ref h6, .int x6])), (h9, .inl (gI g, 200, .inl fn3)), (h6, .inl (gB g, 1500, .inl fn0))] [(h0, .inr (10, [.ref h12, .ref h13, .ref h1, .ref h14, .ref h15, .ref h16, .ref h17, .ref h18, .ref h19, vv0])), (h3, .inr (7, [.ref h2, .ref h7, .ref h8, .int x7, .int x8, .int x9])), (h5, .inr (7, [.ref h2, .ref h11, .ref h20, .int x13, .int x14, .int x15])), (h7, .inl (gI g, 40, .inl fn1)), (h8, .inl (gI g, 40, .inl fn2)), (h11, .inl (gI g, 0, .inl fn5)), (h1, .inr (3, [.ref h2, .ref h3, .ref h4, .ref h5, .int x3, .int x4, .int x5])), (h10, .inl (gI g, 200, .inl fn4))] (fun sz => c35_X8_beginOf l g h4 h2 h9 h6 x1 h10 x10 x11 x12 x6 fn3 fn0 i_x6 sz) gX11_code_X8_beginOf rfl ⟨rfl, rfl⟩ 1 (by decide) ⟨Nat.le_of_ble_eq_true rfl, Nat.le_of_ble_eq_true rfl⟩ 7 rfl rfl [7, 8, 9, 11] [0, 1, 2, 3, 4, 5, 6, 10] rfl rfl (by decide) (by decide) (by decide) rfl rfl (Nat.le_of_ble_eq_true rfl) ⟨Nat.le_of_ble_eq_true rfl, Nat.le_of_ble_eq_true rfl⟩ (fun r115 _ w116 => ?_)
        refine r_ws [(h0, .inr (10, [.ref h12, .ref h13, .ref h1, .ref h14, .ref h15, .ref h16, .ref h17, .ref h18, .ref h19, vv0])), (h3, .inr (7, [.ref h2, .ref h7, .ref h8, .int x7, .int x8, .int x9])), (h5, .inr (7, [.ref h2, .ref h11, .ref h20, .int x13, .int x14, .int x15])), (h7, .inl (gI g, 40, .inl fn1)), (h8, .inl (gI g, 40, .inl fn2)), (h11, .inl (gI g, 0, .inl fn5)), (h1, .inr (3, [.ref h2, .ref h3, .ref h4, .ref h5, .int x3, .int x4, .int x5])), (h10, .inl (gI g, 200, .inl fn4)), (h4, .inr (7, [.ref h2, .ref h9, .ref h10, .int x10, .int x11, .int x12])), (h2, .inr (4, [.ref h6, .int x6])), (h9, .inl (gI g, 200, .inl fn3)), (h6, .inl (gB g, 1500, .inl fn0))] rfl ?_
        have gr115 := fb_rng r115
        obtain ⟨z117, ez117⟩ : ∃ z_9, r113 - r115 = z_9 := ⟨_, rfl⟩
        have gz117 := fb_rng z117
        refine r_isub 42 z117 C dX11_code_42 ez117 ?_
        refine r_icmp_lt 43 48 C dX11_code_43 (by decide) (fun c118 => ?_) (fun c118 => ?_)
        · skip
          have k119 : (Int32.toInt x2) < (Int32.toInt z117) := (fa_lt x2 z117).mp c118
          refine r_aload_n 48 1 C dX11_code_48 rfl ?_
          refine r_get 49 C dX11_code_49 (k := 2) 0 rfl rfl hiX11 (by decide) rfl (mg 1 rfl) (Or.inl rfl) rfl ?_
          refine r_getN 52 C dX11_code_52 (k := 0) 6 rfl rfl hiX3 (by decide) rfl (mg 4 rfl) rfl rfl ?_
          refine r_aload 55 0 C dX11_code_55 rfl ?_
          refine r_iload_n 57 3 C dX11_code_57 rfl ?_
          refine r_callVi 58 C dX11_code_58 [.ref h2] [(h4, .inr (7, [.ref h2, .ref h9, .ref h10, .int x10, .int x11, .int x12])), (h2, .inr (4, [.ref h6, .int x6])), (h9, .inl (gI g, 200, .inl fn3)), (h6, .inl (gB g, 1500, .inl fn0))] [(h0, .inr (10, [.ref h12, .ref h13, .ref h1, .ref h14, .ref h15, .ref h16, .ref h17, .ref h18, .ref h19, vv0])), (h3, .inr (7, [.ref h2, .ref h7, .ref h8, .int x7, .int x8, .int x9])), (h5, .inr (7, [.ref h2, .ref h11, .ref h20, .int x13, .int x14, .int x15])), (h7, .inl (gI g, 40, .inl fn1)), (h8, .inl (gI g, 40, .inl fn2)), (h11, .inl (gI g, 0, .inl fn5)), (h1, .inr (3, [.ref h2, .ref h3, .ref h4, .ref h5, .int x3, .int x4, .int x5])), (h10, .inl (gI g, 200, .inl fn4))] (fun sz => c35_X8_beginOf l g h4 h2 h9 h6 x1 h10 x10 x11 x12 x6 fn3 fn0 i_x6 sz) gX11_code_X8_beginOf rfl ⟨rfl, rfl⟩ 1 (by decide) ⟨Nat.le_of_ble_eq_true rfl, Nat.le_of_ble_eq_true rfl⟩ 8 rfl rfl [8, 9, 10, 11] [0, 1, 2, 3, 4, 5, 6, 7] rfl rfl (by decide) (by decide) (by decide) rfl rfl (Nat.le_of_ble_eq_true rfl) ⟨Nat.le_of_ble_eq_true rfl, Nat.le_of_ble_eq_true rfl⟩ (fun r120 _ w121 => ?_)
          refine r_ws [(h0, .inr (10, [.ref h12, .ref h13, .ref h1, .ref h14, .ref h15, .ref h16, .ref h17, .ref h18, .ref h19, vv0])), (h3, .inr (7, [.ref h2, .ref h7, .ref h8, .int x7, .int x8, .int x9])), (h5, .inr (7, [.ref h2, .ref h11, .ref h20, .int x13, .int x14, .int x15])), (h7, .inl (gI g, 40, .inl fn1)), (h8, .inl (gI g, 40, .inl fn2)), (h11, .inl (gI g, 0, .inl fn5)), (h1, .inr (3, [.ref h2, .ref h3, .ref h4, .ref h5, .int x3, .int x4, .int x5])), (h10, .inl (gI g, 200, .inl fn4)), (h4, .inr (7, [.ref h2, .ref h9, .ref h10, .int x10, .int x11, .int x12])), (h2, .inr (4, [.ref h6, .int x6])), (h9, .inl (gI g, 200, .inl fn3)), (h6, .inl (gB g, 1500, .inl fn0))] rfl ?_
          have gr120 := fb_rng r120
          refine r_iload_n 61 4 C dX11_code_61 rfl ?_
          obtain ⟨z122, ez122⟩ : ∃ z_9, r120 + x2 = z_9 := ⟨_, rfl⟩
          have gz122 := fb_rng z122
          refine r_iadd 62 z122 C dX11_code_62 ez122 ?_
          obtain ⟨z123, ez123⟩ : ∃ z_9, Int32.toInt64 z122 = z_9 := ⟨_, rfl⟩
          have tz123 : (Int64.toInt z123) = (Int32.toInt z122) := by rw [← ez123]; exact Int32.toInt_toInt64 _
          refine r_i2l 63 z123 C dX11_code_63 ez123 ?_
          refine r_callVi 64 C dX11_code_64 [] [(h2, .inr (4, [.ref h6, .int x6])), (h6, .inl (gB g, 1500, .inl fn0))] [(h0, .inr (10, [.ref h12, .ref h13, .ref h1, .ref h14, .ref h15, .ref h16, .ref h17, .ref h18, .ref h19, vv0])), (h3, .inr (7, [.ref h2, .ref h7, .ref h8, .int x7, .int x8, .int x9])), (h5, .inr (7, [.ref h2, .ref h11, .ref h20, .int x13, .int x14, .int x15])), (h7, .inl (gI g, 40, .inl fn1)), (h8, .inl (gI g, 40, .inl fn2)), (h11, .inl (gI g, 0, .inl fn5)), (h1, .inr (3, [.ref h2, .ref h3, .ref h4, .ref h5, .int x3, .int x4, .int x5])), (h10, .inl (gI g, 200, .inl fn4)), (h4, .inr (7, [.ref h2, .ref h9, .ref h10, .int x10, .int x11, .int x12])), (h9, .inl (gI g, 200, .inl fn3))] (fun sz => c14_X5_get l g h2 h6 z123 x6 fn0 i_x6 sz) gX11_code_X5_get rfl ⟨rfl, rfl⟩ 1 (by decide) ⟨Nat.le_of_ble_eq_true rfl, Nat.le_of_ble_eq_true rfl⟩ 9 rfl rfl [9, 11] [0, 1, 2, 3, 4, 5, 6, 7, 8, 10] rfl rfl (by decide) (by decide) (by decide) rfl rfl (Nat.le_of_ble_eq_true rfl) ⟨Nat.le_of_ble_eq_true rfl, Nat.le_of_ble_eq_true rfl⟩ (fun r124 _ w125 => ?_)
          refine r_ws [(h0, .inr (10, [.ref h12, .ref h13, .ref h1, .ref h14, .ref h15, .ref h16, .ref h17, .ref h18, .ref h19, vv0])), (h3, .inr (7, [.ref h2, .ref h7, .ref h8, .int x7, .int x8, .int x9])), (h5, .inr (7, [.ref h2, .ref h11, .ref h20, .int x13, .int x14, .int x15])), (h7, .inl (gI g, 40, .inl fn1)), (h8, .inl (gI g, 40, .inl fn2)), (h11, .inl (gI g, 0, .inl fn5)), (h1, .inr (3, [.ref h2, .ref h3, .ref h4, .ref h5, .int x3, .int x4, .int x5])), (h10, .inl (gI g, 200, .inl fn4)), (h4, .inr (7, [.ref h2, .ref h9, .ref h10, .int x10, .int x11, .int x12])), (h9, .inl (gI g, 200, .inl fn3)), (h2, .inr (4, [.ref h6, .int x6])), (h6, .inl (gB g, 1500, .inl fn0))] rfl ?_
          have p126 : -1 ≤ (Int32.toInt r124) := w125.1
          have p127 : (Int32.toInt r124) ≤ 255 := w125.2
          exact r_iret 67 Rt dX11_code_67 () (show -1 ≤ (Int32.toInt r124) ∧ (Int32.toInt r124) ≤ 255 from ⟨(show _ ∧ _ from ⟨p126, p127⟩).1, (show _ ∧ _ from ⟨p126, p127⟩).2⟩) [0, 6, 10, 1, 8, 2, 11, 3, 4, 9, 7, 5] (by decide) rfl (Nat.le_of_ble_eq_true rfl) (Nat.le_of_ble_eq_true rfl)
        · skip
          have k128 : ¬ ((Int32.toInt x2) < (Int32.toInt z117)) := fun h_9 => c118 ((fa_lt x2 z117).mpr h_9)
          refine r_iconst 46 (-1) C dX11_code_46 (by decide) ?_
          exact r_iret 47 Rt dX11_code_47 () (show -1 ≤ (Int32.toInt (-1)) ∧ (Int32.toInt (-1)) ≤ 255 from ⟨(by ((repeat' apply And.intro) <;> first | trivial | rfl | assumption | omega | decide | exact Or.inl rfl | exact Or.inr (Or.inl rfl) | exact Or.inr (Or.inr rfl))), (by ((repeat' apply And.intro) <;> first | trivial | rfl | assumption | omega | decide | exact Or.inl rfl | exact Or.inr (Or.inl rfl) | exact Or.inr (Or.inr rfl)))⟩) [0, 6, 9, 1, 8, 2, 11, 3, 4, 10, 7, 5] (by decide) rfl (Nat.le_of_ble_eq_true rfl) (Nat.le_of_ble_eq_true rfl)
    obtain ⟨k129, k130⟩ := w73
    have k130 := k130.symm
    subst k130
    refine r_if_eq_t 22 46 C dX11_code_22 (by decide) (by decide) ?_
    refine r_iconst 46 (-1) C dX11_code_46 (by decide) ?_
    exact r_iret 47 Rt dX11_code_47 () (show -1 ≤ (Int32.toInt (-1)) ∧ (Int32.toInt (-1)) ≤ 255 from ⟨(by ((repeat' apply And.intro) <;> first | trivial | rfl | assumption | omega | decide | exact Or.inl rfl | exact Or.inr (Or.inl rfl) | exact Or.inr (Or.inr rfl))), (by ((repeat' apply And.intro) <;> first | trivial | rfl | assumption | omega | decide | exact Or.inl rfl | exact Or.inr (Or.inl rfl) | exact Or.inr (Or.inr rfl)))⟩) [0, 9, 1, 2, 10, 3, 4, 5, 6, 11, 7, 8] (by decide) rfl (Nat.le_of_ble_eq_true rfl) (Nat.le_of_ble_eq_true rfl)
  rcases w3 with ⟨k131, k132, k133, k134⟩ | w3
  · skip
    have k134 := k134.symm
    subst k134
    refine r_st [.ref h5] rfl ?_
    refine r_astore 8 C dX11_code_8 [(4, .ref h5), (0, .ref h0), (1, .int x0), (2, .int x1), (3, .int x2)] (by decide) rfl ?_
    refine r_aload 10 0 C dX11_code_10 rfl ?_
    refine r_ifnull 12 C dX11_code_12 ?_
    refine r_aload 15 0 C dX11_code_15 rfl ?_
    refine r_iload_n 17 3 C dX11_code_17 rfl ?_
    obtain ⟨z135, ez135⟩ : ∃ z_9, Int32.toInt64 x1 = z_9 := ⟨_, rfl⟩
    have tz135 : (Int64.toInt z135) = (Int32.toInt x1) := by rw [← ez135]; exact Int32.toInt_toInt64 _
    refine r_i2l 18 z135 C dX11_code_18 ez135 ?_
    refine r_callVi 19 C dX11_code_19 [] [(h5, .inr (7, [.ref h2, .ref h11, .ref h20, .int x13, .int x14, .int x15])), (h11, .inl (gI g, 0, .inl fn5))] [(h0, .inr (10, [.ref h12, .ref h13, .ref h1, .ref h14, .ref h15, .ref h16, .ref h17, .ref h18, .ref h19, vv0])), (h2, .inr (4, [.ref h6, .int x6])), (h3, .inr (7, [.ref h2, .ref h7, .ref h8, .int x7, .int x8, .int x9])), (h4, .inr (7, [.ref h2, .ref h9, .ref h10, .int x10, .int x11, .int x12])), (h6, .inl (gB g, 1500, .inl fn0)), (h7, .inl (gI g, 40, .inl fn1)), (h8, .inl (gI g, 40, .inl fn2)), (h9, .inl (gI g, 200, .inl fn3)), (h10, .inl (gI g, 200, .inl fn4)), (h1, .inr (3, [.ref h2, .ref h3, .ref h4, .ref h5, .int x3, .int x4, .int x5]))] (fun sz => c36_X8_has l g h5 h11 z135 h2 h20 x13 x14 x15 fn5  sz) gX11_code_X8_has rfl ⟨rfl, rfl⟩ 1 (by decide) ⟨Nat.le_of_ble_eq_true rfl, Nat.le_of_ble_eq_true rfl⟩ 4 rfl rfl [4, 10] [0, 1, 2, 3, 5, 6, 7, 8, 9, 11] rfl rfl (by decide) (by decide) (by decide) rfl rfl (Nat.le_of_ble_eq_true rfl) ⟨Nat.le_of_ble_eq_true rfl, Nat.le_of_ble_eq_true rfl⟩ (fun r136 _ w137 => ?_)
    refine r_ws [(h0, .inr (10, [.ref h12, .ref h13, .ref h1, .ref h14, .ref h15, .ref h16, .ref h17, .ref h18, .ref h19, vv0])), (h2, .inr (4, [.ref h6, .int x6])), (h3, .inr (7, [.ref h2, .ref h7, .ref h8, .int x7, .int x8, .int x9])), (h4, .inr (7, [.ref h2, .ref h9, .ref h10, .int x10, .int x11, .int x12])), (h6, .inl (gB g, 1500, .inl fn0)), (h7, .inl (gI g, 40, .inl fn1)), (h8, .inl (gI g, 40, .inl fn2)), (h9, .inl (gI g, 200, .inl fn3)), (h10, .inl (gI g, 200, .inl fn4)), (h1, .inr (3, [.ref h2, .ref h3, .ref h4, .ref h5, .int x3, .int x4, .int x5])), (h5, .inr (7, [.ref h2, .ref h11, .ref h20, .int x13, .int x14, .int x15])), (h11, .inl (gI g, 0, .inl fn5))] rfl ?_
    have w138 : (((Int64.toInt z135) < 0 ∧ r136 = 0) ∨ (¬ ((Int64.toInt z135) < 0) ∧ 0 < (Int32.toInt x15) ∧ r136 = 1) ∨ (¬ ((Int64.toInt z135) < 0) ∧ ¬ (0 < (Int32.toInt x15)) ∧ r136 = 0) ∨ (¬ ((Int64.toInt z135) < 0) ∧ r136 = 0)) := w137
    rcases w138 with ⟨k139, k140⟩ | w138
    · skip
      have k140 := k140.symm
      subst k140
      refine r_if_eq_t 22 46 C dX11_code_22 (by decide) (by decide) ?_
      refine r_iconst 46 (-1) C dX11_code_46 (by decide) ?_
      exact r_iret 47 Rt dX11_code_47 () (show -1 ≤ (Int32.toInt (-1)) ∧ (Int32.toInt (-1)) ≤ 255 from ⟨(by ((repeat' apply And.intro) <;> first | trivial | rfl | assumption | omega | decide | exact Or.inl rfl | exact Or.inr (Or.inl rfl) | exact Or.inr (Or.inr rfl))), (by ((repeat' apply And.intro) <;> first | trivial | rfl | assumption | omega | decide | exact Or.inl rfl | exact Or.inr (Or.inl rfl) | exact Or.inr (Or.inr rfl)))⟩) [0, 9, 1, 2, 3, 10, 4, 5, 6, 7, 8, 11] (by decide) rfl (Nat.le_of_ble_eq_true rfl) (Nat.le_of_ble_eq_true rfl)
    rcases w138 with ⟨k141, k142, k143⟩ | w138
    · skip
      have k143 := k143.symm
      subst k143
      refine r_if_eq_f 22 46 C dX11_code_22 (by decide) (by decide) ?_
      refine r_iload_n 25 4 C dX11_code_25 rfl ?_
      refine r_if_lt 26 46 C dX11_code_26 (by decide) (fun c144 => ?_) (fun c144 => ?_)
      · skip
        have k145 : (Int32.toInt x2) < 0 := (fa_lt x2 0).mp c144
        refine r_iconst 46 (-1) C dX11_code_46 (by decide) ?_
        exact r_iret 47 Rt dX11_code_47 () (show -1 ≤ (Int32.toInt (-1)) ∧ (Int32.toInt (-1)) ≤ 255 from ⟨(by ((repeat' apply And.intro) <;> first | trivial | rfl | assumption | omega | decide | exact Or.inl rfl | exact Or.inr (Or.inl rfl) | exact Or.inr (Or.inr rfl))), (by ((repeat' apply And.intro) <;> first | trivial | rfl | assumption | omega | decide | exact Or.inl rfl | exact Or.inr (Or.inl rfl) | exact Or.inr (Or.inr rfl)))⟩) [0, 9, 1, 2, 3, 10, 4, 5, 6, 7, 8, 11] (by decide) rfl (Nat.le_of_ble_eq_true rfl) (Nat.le_of_ble_eq_true rfl)
      · skip
        have k146 : ¬ ((Int32.toInt x2) < 0) := fun h_9 => c144 ((fa_lt x2 0).mpr h_9)
        refine r_iload_n 29 4 C dX11_code_29 rfl ?_
        refine r_aload 30 0 C dX11_code_30 rfl ?_
        refine r_iload_n 32 3 C dX11_code_32 rfl ?_
        refine r_callVi 33 C dX11_code_33 [.int x2] [(h5, .inr (7, [.ref h2, .ref h11, .ref h20, .int x13, .int x14, .int x15])), (h2, .inr (4, [.ref h6, .int x6])), (h11, .inl (gI g, 0, .inl fn5)), (h6, .inl (gB g, 1500, .inl fn0))] [(h0, .inr (10, [.ref h12, .ref h13, .ref h1, .ref h14, .ref h15, .ref h16, .ref h17, .ref h18, .ref h19, vv0])), (h3, .inr (7, [.ref h2, .ref h7, .ref h8, .int x7, .int x8, .int x9])), (h4, .inr (7, [.ref h2, .ref h9, .ref h10, .int x10, .int x11, .int x12])), (h7, .inl (gI g, 40, .inl fn1)), (h8, .inl (gI g, 40, .inl fn2)), (h9, .inl (gI g, 200, .inl fn3)), (h10, .inl (gI g, 200, .inl fn4)), (h1, .inr (3, [.ref h2, .ref h3, .ref h4, .ref h5, .int x3, .int x4, .int x5]))] (fun sz => c37_X8_finishOf l g h5 h2 h11 h6 x1 h20 x13 x14 x15 x6 fn5 fn0 i_x6 sz) gX11_code_X8_finishOf rfl ⟨rfl, rfl⟩ 1 (by decide) ⟨Nat.le_of_ble_eq_true rfl, Nat.le_of_ble_eq_true rfl⟩ 10 rfl rfl [10, 1, 11, 4] [0, 2, 3, 5, 6, 7, 8, 9] rfl rfl (by decide) (by decide) (by decide) rfl rfl (Nat.le_of_ble_eq_true rfl) ⟨Nat.le_of_ble_eq_true rfl, Nat.le_of_ble_eq_true rfl⟩ (fun r147 _ w148 => ?_)
        refine r_ws [(h0, .inr (10, [.ref h12, .ref h13, .ref h1, .ref h14, .ref h15, .ref h16, .ref h17, .ref h18, .ref h19, vv0])), (h3, .inr (7, [.ref h2, .ref h7, .ref h8, .int x7, .int x8, .int x9])), (h4, .inr (7, [.ref h2, .ref h9, .ref h10, .int x10, .int x11, .int x12])), (h7, .inl (gI g, 40, .inl fn1)), (h8, .inl (gI g, 40, .inl fn2)), (h9, .inl (gI g, 200, .inl fn3)), (h10, .inl (gI g, 200, .inl fn4)), (h1, .inr (3, [.ref h2, .ref h3, .ref h4, .ref h5, .int x3, .int x4, .int x5])), (h5, .inr (7, [.ref h2, .ref h11, .ref h20, .int x13, .int x14, .int x15])), (h2, .inr (4, [.ref h6, .int x6])), (h11, .inl (gI g, 0, .inl fn5)), (h6, .inl (gB g, 1500, .inl fn0))] rfl ?_
        have gr147 := fb_rng r147
        refine r_aload 36 0 C dX11_code_36 rfl ?_
        refine r_iload_n 38 3 C dX11_code_38 rfl ?_
        refine r_callVi 39 C dX11_code_39 [.int r147, .int x2] [(h5, .inr (7, [.ref h2, .ref h11, .ref h20, .int x13, .int x14, .int x15])), (h2, .inr (4, [.ref h6, .int x6])), (h11, .inl (gI g, 0, .inl fn5)), (h6, .inl (gB g, 1500, .inl fn0))] [(h0, .inr (10, [.ref h12, .ref h13, .ref h1, .ref h14, .ref h15, .ref h16, .ref h17, .ref h18, .ref h19, vv0])), (h3, .inr (7, [.ref h2, .ref h7, .ref h8, .int x7, .int x8, .int x9])), (h4, .inr (7, [.ref h2, .ref h9, .ref h10, .int x10, .int x11, .int x12])), (h7, .inl (gI g, 40, .inl fn1)), (h8, .inl (gI g, 40, .inl fn2)), (h9, .inl (gI g, 200, .inl fn3)), (h10, .inl (gI g, 200, .inl fn4)), (h1, .inr (3, [.ref h2, .ref h3, .ref h4, .ref h5, .int x3, .int x4, .int x5]))] (fun sz => c38_X8_beginOf l g h5 h2 h11 h6 x1 h20 x13 x14 x15 x6 fn5 fn0 i_x6 sz) gX11_code_X8_beginOf rfl ⟨rfl, rfl⟩ 1 (by decide) ⟨Nat.le_of_ble_eq_true rfl, Nat.le_of_ble_eq_true rfl⟩ 8 rfl rfl [8, 9, 10, 11] [0, 1, 2, 3, 4, 5, 6, 7] rfl rfl (by decide) (by decide) (by decide) rfl rfl (Nat.le_of_ble_eq_true rfl) ⟨Nat.le_of_ble_eq_true rfl, Nat.le_of_ble_eq_true rfl⟩ (fun r149 _ w150 => ?_)
        refine r_ws [(h0, .inr (10, [.ref h12, .ref h13, .ref h1, .ref h14, .ref h15, .ref h16, .ref h17, .ref h18, .ref h19, vv0])), (h3, .inr (7, [.ref h2, .ref h7, .ref h8, .int x7, .int x8, .int x9])), (h4, .inr (7, [.ref h2, .ref h9, .ref h10, .int x10, .int x11, .int x12])), (h7, .inl (gI g, 40, .inl fn1)), (h8, .inl (gI g, 40, .inl fn2)), (h9, .inl (gI g, 200, .inl fn3)), (h10, .inl (gI g, 200, .inl fn4)), (h1, .inr (3, [.ref h2, .ref h3, .ref h4, .ref h5, .int x3, .int x4, .int x5])), (h5, .inr (7, [.ref h2, .ref h11, .ref h20, .int x13, .int x14, .int x15])), (h2, .inr (4, [.ref h6, .int x6])), (h11, .inl (gI g, 0, .inl fn5)), (h6, .inl (gB g, 1500, .inl fn0))] rfl ?_
        have gr149 := fb_rng r149
        obtain ⟨z151, ez151⟩ : ∃ z_9, r147 - r149 = z_9 := ⟨_, rfl⟩
        have gz151 := fb_rng z151
        refine r_isub 42 z151 C dX11_code_42 ez151 ?_
        refine r_icmp_lt 43 48 C dX11_code_43 (by decide) (fun c152 => ?_) (fun c152 => ?_)
        · skip
          have k153 : (Int32.toInt x2) < (Int32.toInt z151) := (fa_lt x2 z151).mp c152
          refine r_aload_n 48 1 C dX11_code_48 rfl ?_
          refine r_get 49 C dX11_code_49 (k := 2) 0 rfl rfl hiX11 (by decide) rfl (mg 1 rfl) (Or.inl rfl) rfl ?_
          refine r_getN 52 C dX11_code_52 (k := 0) 7 rfl rfl hiX3 (by decide) rfl (mg 4 rfl) rfl rfl ?_
          refine r_aload 55 0 C dX11_code_55 rfl ?_
          refine r_iload_n 57 3 C dX11_code_57 rfl ?_
          refine r_callVi 58 C dX11_code_58 [.ref h2] [(h5, .inr (7, [.ref h2, .ref h11, .ref h20, .int x13, .int x14, .int x15])), (h2, .inr (4, [.ref h6, .int x6])), (h11, .inl (gI g, 0, .inl fn5)), (h6, .inl (gB g, 1500, .inl fn0))] [(h0, .inr (10, [.ref h12, .ref h13, .ref h1, .ref h14, .ref h15, .ref h16, .ref h17, .ref h18, .ref h19, vv0])), (h3, .inr (7, [.ref h2, .ref h7, .ref h8, .int x7, .int x8, .int x9])), (h4, .inr (7, [.ref h2, .ref h9, .ref h10, .int x10, .int x11, .int x12])), (h7, .inl (gI g, 40, .inl fn1)), (h8, .inl (gI g, 40, .inl fn2)), (h9, .inl (gI g, 200, .inl fn3)), (h10, .inl (gI g, 200, .inl fn4)), (h1, .inr (3, [.ref h2, .ref h3, .ref h4, .ref h5, .int x3, .int x4, .int x5]))] (fun sz => c38_X8_beginOf l g h5 h2 h11 h6 x1 h20 x13 x14 x15 x6 fn5 fn0 i_x6 sz) gX11_code_X8_beginOf rfl ⟨rfl, rfl⟩ 1 (by decide) ⟨Nat.le_of_ble_eq_true rfl, Nat.le_of_ble_eq_true rfl⟩ 8 rfl rfl [8, 9, 10, 11] [0, 1, 2, 3, 4, 5, 6, 7] rfl rfl (by decide) (by decide) (by decide) rfl rfl (Nat.le_of_ble_eq_true rfl) ⟨Nat.le_of_ble_eq_true rfl, Nat.le_of_ble_eq_true rfl⟩ (fun r154 _ w155 => ?_)
          refine r_ws [(h0, .inr (10, [.ref h12, .ref h13, .ref h1, .ref h14, .ref h15, .ref h16, .ref h17, .ref h18, .ref h19, vv0])), (h3, .inr (7, [.ref h2, .ref h7, .ref h8, .int x7, .int x8, .int x9])), (h4, .inr (7, [.ref h2, .ref h9, .ref h10, .int x10, .int x11, .int x12])), (h7, .inl (gI g, 40, .inl fn1)), (h8, .inl (gI g, 40, .inl fn2)), (h9, .inl (gI g, 200, .inl fn3)), (h10, .inl (gI g, 200, .inl fn4)), (h1, .inr (3, [.ref h2, .ref h3, .ref h4, .ref h5, .int x3, .int x4, .int x5])), (h5, .inr (7, [.ref h2, .ref h11, .ref h20, .int x13, .int x14, .int x15])), (h2, .inr (4, [.ref h6, .int x6])), (h11, .inl (gI g, 0, .inl fn5)), (h6, .inl (gB g, 1500, .inl fn0))] rfl ?_
          have gr154 := fb_rng r154
          refine r_iload_n 61 4 C dX11_code_61 rfl ?_
          obtain ⟨z156, ez156⟩ : ∃ z_9, r154 + x2 = z_9 := ⟨_, rfl⟩
          have gz156 := fb_rng z156
          refine r_iadd 62 z156 C dX11_code_62 ez156 ?_
          obtain ⟨z157, ez157⟩ : ∃ z_9, Int32.toInt64 z156 = z_9 := ⟨_, rfl⟩
          have tz157 : (Int64.toInt z157) = (Int32.toInt z156) := by rw [← ez157]; exact Int32.toInt_toInt64 _
          refine r_i2l 63 z157 C dX11_code_63 ez157 ?_
          refine r_callVi 64 C dX11_code_64 [] [(h2, .inr (4, [.ref h6, .int x6])), (h6, .inl (gB g, 1500, .inl fn0))] [(h0, .inr (10, [.ref h12, .ref h13, .ref h1, .ref h14, .ref h15, .ref h16, .ref h17, .ref h18, .ref h19, vv0])), (h3, .inr (7, [.ref h2, .ref h7, .ref h8, .int x7, .int x8, .int x9])), (h4, .inr (7, [.ref h2, .ref h9, .ref h10, .int x10, .int x11, .int x12])), (h7, .inl (gI g, 40, .inl fn1)), (h8, .inl (gI g, 40, .inl fn2)), (h9, .inl (gI g, 200, .inl fn3)), (h10, .inl (gI g, 200, .inl fn4)), (h1, .inr (3, [.ref h2, .ref h3, .ref h4, .ref h5, .int x3, .int x4, .int x5])), (h5, .inr (7, [.ref h2, .ref h11, .ref h20, .int x13, .int x14, .int x15])), (h11, .inl (gI g, 0, .inl fn5))] (fun sz => c14_X5_get l g h2 h6 z157 x6 fn0 i_x6 sz) gX11_code_X5_get rfl ⟨rfl, rfl⟩ 1 (by decide) ⟨Nat.le_of_ble_eq_true rfl, Nat.le_of_ble_eq_true rfl⟩ 9 rfl rfl [9, 11] [0, 1, 2, 3, 4, 5, 6, 7, 8, 10] rfl rfl (by decide) (by decide) (by decide) rfl rfl (Nat.le_of_ble_eq_true rfl) ⟨Nat.le_of_ble_eq_true rfl, Nat.le_of_ble_eq_true rfl⟩ (fun r158 _ w159 => ?_)
          refine r_ws [(h0, .inr (10, [.ref h12, .ref h13, .ref h1, .ref h14, .ref h15, .ref h16, .ref h17, .ref h18, .ref h19, vv0])), (h3, .inr (7, [.ref h2, .ref h7, .ref h8, .int x7, .int x8, .int x9])), (h4, .inr (7, [.ref h2, .ref h9, .ref h10, .int x10, .int x11, .int x12])), (h7, .inl (gI g, 40, .inl fn1)), (h8, .inl (gI g, 40, .inl fn2)), (h9, .inl (gI g, 200, .inl fn3)), (h10, .inl (gI g, 200, .inl fn4)), (h1, .inr (3, [.ref h2, .ref h3, .ref h4, .ref h5, .int x3, .int x4, .int x5])), (h5, .inr (7, [.ref h2, .ref h11, .ref h20, .int x13, .int x14, .int x15])), (h11, .inl (gI g, 0, .inl fn5)), (h2, .inr (4, [.ref h6, .int x6])), (h6, .inl (gB g, 1500, .inl fn0))] rfl ?_
          have p160 : -1 ≤ (Int32.toInt r158) := w159.1
          have p161 : (Int32.toInt r158) ≤ 255 := w159.2
          exact r_iret 67 Rt dX11_code_67 () (show -1 ≤ (Int32.toInt r158) ∧ (Int32.toInt r158) ≤ 255 from ⟨(show _ ∧ _ from ⟨p160, p161⟩).1, (show _ ∧ _ from ⟨p160, p161⟩).2⟩) [0, 7, 10, 1, 2, 8, 11, 3, 4, 5, 6, 9] (by decide) rfl (Nat.le_of_ble_eq_true rfl) (Nat.le_of_ble_eq_true rfl)
        · skip
          have k162 : ¬ ((Int32.toInt x2) < (Int32.toInt z151)) := fun h_9 => c152 ((fa_lt x2 z151).mpr h_9)
          refine r_iconst 46 (-1) C dX11_code_46 (by decide) ?_
          exact r_iret 47 Rt dX11_code_47 () (show -1 ≤ (Int32.toInt (-1)) ∧ (Int32.toInt (-1)) ≤ 255 from ⟨(by ((repeat' apply And.intro) <;> first | trivial | rfl | assumption | omega | decide | exact Or.inl rfl | exact Or.inr (Or.inl rfl) | exact Or.inr (Or.inr rfl))), (by ((repeat' apply And.intro) <;> first | trivial | rfl | assumption | omega | decide | exact Or.inl rfl | exact Or.inr (Or.inl rfl) | exact Or.inr (Or.inr rfl)))⟩) [0, 7, 9, 1, 2, 8, 11, 3, 4, 5, 6, 10] (by decide) rfl (Nat.le_of_ble_eq_true rfl) (Nat.le_of_ble_eq_true rfl)
    rcases w138 with ⟨k163, k164, k165⟩ | w138
    · skip
      have k165 := k165.symm
      subst k165
      refine r_if_eq_t 22 46 C dX11_code_22 (by decide) (by decide) ?_
      refine r_iconst 46 (-1) C dX11_code_46 (by decide) ?_
      exact r_iret 47 Rt dX11_code_47 () (show -1 ≤ (Int32.toInt (-1)) ∧ (Int32.toInt (-1)) ≤ 255 from ⟨(by ((repeat' apply And.intro) <;> first | trivial | rfl | assumption | omega | decide | exact Or.inl rfl | exact Or.inr (Or.inl rfl) | exact Or.inr (Or.inr rfl))), (by ((repeat' apply And.intro) <;> first | trivial | rfl | assumption | omega | decide | exact Or.inl rfl | exact Or.inr (Or.inl rfl) | exact Or.inr (Or.inr rfl)))⟩) [0, 9, 1, 2, 3, 10, 4, 5, 6, 7, 8, 11] (by decide) rfl (Nat.le_of_ble_eq_true rfl) (Nat.le_of_ble_eq_true rfl)
    obtain ⟨k166, k167⟩ := w138
    have k167 := k167.symm
    subst k167
    refine r_if_eq_t 22 46 C dX11_code_22 (by decide) (by decide) ?_
    refine r_iconst 46 (-1) C dX11_code_46 (by decide) ?_
    exact r_iret 47 Rt dX11_code_47 () (show -1 ≤ (Int32.toInt (-1)) ∧ (Int32.toInt (-1)) ≤ 255 from ⟨(by ((repeat' apply And.intro) <;> first | trivial | rfl | assumption | omega | decide | exact Or.inl rfl | exact Or.inr (Or.inl rfl) | exact Or.inr (Or.inr rfl))), (by ((repeat' apply And.intro) <;> first | trivial | rfl | assumption | omega | decide | exact Or.inl rfl | exact Or.inr (Or.inl rfl) | exact Or.inr (Or.inr rfl)))⟩) [0, 9, 1, 2, 3, 10, 4, 5, 6, 7, 8, 11] (by decide) rfl (Nat.le_of_ble_eq_true rfl) (Nat.le_of_ble_eq_true rfl)
  obtain ⟨k168, k169, k170, k171⟩ := w3
  have k171 := k171.symm
  subst k171
  refine r_st [.null] rfl ?_
  refine r_astoreN 8 C dX11_code_8 [(4, .null), (0, .ref h0), (1, .int x0), (2, .int x1), (3, .int x2)] (by decide) rfl ?_
  refine r_aloadN 10 0 C dX11_code_10 rfl ?_
  refine r_ifnullN 12 46 C dX11_code_12 (by decide) ?_
  refine r_iconst 46 (-1) C dX11_code_46 (by decide) ?_
  exact r_iret 47 Rt dX11_code_47 () (show -1 ≤ (Int32.toInt (-1)) ∧ (Int32.toInt (-1)) ≤ 255 from ⟨(by ((repeat' apply And.intro) <;> first | trivial | rfl | assumption | omega | decide | exact Or.inl rfl | exact Or.inr (Or.inl rfl) | exact Or.inr (Or.inr rfl))), (by ((repeat' apply And.intro) <;> first | trivial | rfl | assumption | omega | decide | exact Or.inl rfl | exact Or.inr (Or.inl rfl) | exact Or.inr (Or.inr rfl)))⟩) [0, 11, 1, 2, 3, 4, 5, 6, 7, 8, 9, 10] (by decide) rfl (Nat.le_of_ble_eq_true rfl) (Nat.le_of_ble_eq_true rfl)
set_option maxHeartbeats 4000000 in
set_option maxRecDepth 100000 in
theorem c40_X5_addAll (l : Launch) (g : GD) (h0 : Nat) (h1 : Nat) (h2 : Nat) (h3 : Nat) (x0 : Int32) (x1 : Int32) (x2 : Int32) (fn0 : Nat → Int32) (fn1 : Nat → Int32) (i_x1 : (0 ≤ (Int32.toInt x1) ∧ (Int32.toInt x1) ≤ 1500)) (i_x2 : (0 ≤ (Int32.toInt x2) ∧ (Int32.toInt x2) ≤ 1500)) (sz : Nat) : Met l yX5_addAll wsX5_addAll ({ frames := 1, cells := 0, slots := 0, locals := 22 }) (va_Pc [.ref h0, .ref h1, .int x0] (PW g [(h0, .inr (4, [.ref h2, .int x1])), (h1, .inr (4, [.ref h3, .int x2])), (h2, .inl (gB g, 1500, .inl fn0)), (h3, .inl (gB g, 1500, .inl fn1))] sz)) (va_Qv (fun (u : (Int32) × (Nat → Int32)) => 0 ≤ (Int32.toInt (u.1)) ∧ (Int32.toInt (u.1)) ≤ 1500 ∧ (((Int32.toInt x0) ≤ 0 ∧ (((Int32.toInt x2) ≤ 0 ∧ (Int32.toInt (u.1)) = (Int32.toInt x1)) ∨ (0 < (Int32.toInt x2) ∧ (Int32.toInt x1) + (Int32.toInt x2) ≤ 1500 ∧ (Int32.toInt (u.1)) = (Int32.toInt x1) + (Int32.toInt x2)) ∨ 1500 < (Int32.toInt x1) + (Int32.toInt x2))) ∨ (0 ≤ (Int32.toInt x0) ∧ (((Int32.toInt x2) ≤ (Int32.toInt x0) ∧ (Int32.toInt (u.1)) = (Int32.toInt x1)) ∨ ((Int32.toInt x0) < (Int32.toInt x2) ∧ (Int32.toInt x1) + (Int32.toInt x2) - (Int32.toInt x0) ≤ 1500 ∧ (Int32.toInt (u.1)) = (Int32.toInt x1) + (Int32.toInt x2) - (Int32.toInt x0)) ∨ 1500 < (Int32.toInt x1) + (Int32.toInt x2) - (Int32.toInt x0))))) (BW g (va_A [(h0, .inr (4, [.ref h2, .int x1])), (h1, .inr (4, [.ref h3, .int x2])), (h2, .inl (gB g, 1500, .inl fn0)), (h3, .inl (gB g, 1500, .inl fn1))] sz) (fun u : (Int32) × (Nat → Int32) => [(h0, .inr (4, [.ref h2, .int u.1])), (h1, .inr (4, [.ref h3, .int x2])), (h2, .inl (gB g, 1500, .inl u.2)), (h3, .inl (gB g, 1500, .inl fn1))])) (va_A [(h0, .inr (4, [.ref h2, .int x1])), (h1, .inr (4, [.ref h3, .int x2])), (h2, .inl (gB g, 1500, .inl fn0)), (h3, .inl (gB g, 1500, .inl fn1))] sz)) 0 0 (va_A [(h0, .inr (4, [.ref h2, .int x1])), (h1, .inr (4, [.ref h3, .int x2])), (h2, .inl (gB g, 1500, .inl fn0)), (h3, .inl (gB g, 1500, .inl fn1))] sz) := by
  refine met_v RX5 (by decide) rfl rfl (Nat.le_of_ble_eq_true rfl) [(0, .ref h0), (1, .ref h1), (2, .int x0)] rfl ?_
  intro p e s m args below meth c A Q C hnm Rt
  have gx0 := fb_rng x0
  have hiX5 : ∀ w ∈ wsX50, w ∈ wsX5_addAll := fun w h => List.mem_cons_of_mem _ (List.mem_append_right _ (h))
  refine r_iload_n 0 2 C dX5_addAll_0 rfl ?_
  refine r_iconst 1 0 C dX5_addAll_1 (by decide) ?_
  obtain ⟨z1, ez1⟩ : ∃ z_9, (if x0 < 0 then 0 else x0) = z_9 := ⟨_, rfl⟩
  have tz1 : ((Int32.toInt x0) < 0 ∧ (Int32.toInt z1) = 0) ∨ (¬ ((Int32.toInt x0) < 0) ∧ (Int32.toInt z1) = (Int32.toInt x0)) := by rw [← ez1]; exact mx_or x0 0 0 x0
  refine r_mmax 2 z1 C dX5_addAll_2 (mg 1 rfl) (mg 2 rfl) (mg 3 rfl) (mg 4 rfl) (Nat.le_of_ble_eq_true rfl) (Nat.le_of_ble_eq_true rfl) (Nat.le_of_ble_eq_true rfl) (Nat.le_of_ble_eq_true rfl) ez1 ?_
  refine r_istore_n 5 C dX5_addAll_5 [(3, .int z1), (0, .ref h0), (1, .ref h1), (2, .int x0)] (by decide) rfl ?_
  have lp6 : ∀ (n5 : Nat) (z2 : Int32) (z3 : Int32) (f4 : Nat → Int32), (0 ≤ (Int32.toInt z2) ∧ (Int32.toInt z2) ≤ 2147483647) → (0 ≤ (Int32.toInt z3) ∧ (Int32.toInt z3) ≤ 1500) → (((Int32.toInt x0) ≤ 0 ∧ ((Int32.toInt z3) = (Int32.toInt x1) + (Int32.toInt z2) ∨ ((Int32.toInt z3) = 1500 ∧ 1500 ≤ (Int32.toInt x1) + (Int32.toInt z2))) ∧ ((Int32.toInt z2) ≤ (Int32.toInt x2) ∨ (Int32.toInt z2) = 0)) ∨ (0 ≤ (Int32.toInt x0) ∧ ((Int32.toInt z3) = (Int32.toInt x1) + (Int32.toInt z2) - (Int32.toInt x0) ∨ ((Int32.toInt z3) = 1500 ∧ 1500 ≤ (Int32.toInt x1) + (Int32.toInt z2) - (Int32.toInt x0))) ∧ (Int32.toInt x0) ≤ (Int32.toInt z2) ∧ ((Int32.toInt z2) ≤ (Int32.toInt x2) ∨ (Int32.toInt z2) = (Int32.toInt x0)))) → Int.toNat (2147483647 - (Int32.toInt z2)) < n5 → WW p l e ({ frames := 1, cells := 0, slots := 0, locals := 22 } : Room) s m args below meth c A Q g 4 0 0 [(h0, .inr (4, [.ref h2, .int z3])), (h1, .inr (4, [.ref h3, .int x2])), (h2, .inl (gB g, 1500, .inl f4)), (h3, .inl (gB g, 1500, .inl fn1))] 6 [(3, .int z2), (0, .ref h0), (1, .ref h1), (2, .int x0)] [] := by
    intro n5
    induction n5 with
    | zero => intro z2 z3 f4 i9 i10 j11 hm8; exact absurd hm8 (Nat.not_lt_zero _)
    | succ n5 ih7 =>
      intro z2 z3 f4 i9 i10 j11 hm8
      obtain ⟨i9a, i9b⟩ := i9
      obtain ⟨i10a, i10b⟩ := i10
      refine r_iload_n 6 0 C dX5_addAll_6 rfl ?_
      refine r_aload_n 7 2 C dX5_addAll_7 rfl ?_
      refine r_get 8 C dX5_addAll_8 (k := 1) 1 rfl rfl hiX5 (by decide) rfl (mg 5 rfl) (Or.inl rfl) rfl ?_
      refine r_icmp_ge 11 30 C dX5_addAll_11 (by decide) (fun c12 => ?_) (fun c12 => ?_)
      · skip
        have k13 : (Int32.toInt x2) ≤ (Int32.toInt z2) := (fa_le x2 z2).mp c12
        exact r_vret 30 Rt dX5_addAll_30 (z3, f4) (show 0 ≤ (Int32.toInt z3) ∧ (Int32.toInt z3) ≤ 1500 ∧ (((Int32.toInt x0) ≤ 0 ∧ (((Int32.toInt x2) ≤ 0 ∧ (Int32.toInt z3) = (Int32.toInt x1)) ∨ (0 < (Int32.toInt x2) ∧ (Int32.toInt x1) + (Int32.toInt x2) ≤ 1500 ∧ (Int32.toInt z3) = (Int32.toInt x1) + (Int32.toInt x2)) ∨ 1500 < (Int32.toInt x1) + (Int32.toInt x2))) ∨ (0 ≤ (Int32.toInt x0) ∧ (((Int32.toInt x2) ≤ (Int32.toInt x0) ∧ (Int32.toInt z3) = (Int32.toInt x1)) ∨ ((Int32.toInt x0) < (Int32.toInt x2) ∧ (Int32.toInt x1) + (Int32.toInt x2) - (Int32.toInt x0) ≤ 1500 ∧ (Int32.toInt z3) = (Int32.toInt x1) + (Int32.toInt x2) - (Int32.toInt x0)) ∨ 1500 < (Int32.toInt x1) + (Int32.toInt x2) - (Int32.toInt x0)))) from ⟨(show _ ∧ _ from ⟨i10a, i10b⟩).1, (show _ ∧ _ from ⟨i10a, i10b⟩).2, (by ((repeat' apply And.intro) <;> first | trivial | rfl | assumption | omega | decide | exact Or.inl rfl | exact Or.inr (Or.inl rfl) | exact Or.inr (Or.inr rfl)))⟩) [0, 1, 2, 3] (by decide) rfl (Nat.le_of_ble_eq_true rfl) (Nat.le_of_ble_eq_true rfl)
      · skip
        have k14 : ¬ ((Int32.toInt x2) ≤ (Int32.toInt z2)) := fun h_9 => c12 ((fa_le x2 z2).mpr h_9)
        refine r_aload_n 14 1 C dX5_addAll_14 rfl ?_
        refine r_aload_n 15 2 C dX5_addAll_15 rfl ?_
        refine r_iload_n 16 0 C dX5_addAll_16 rfl ?_
        obtain ⟨z15, ez15⟩ : ∃ z_9, Int32.toInt64 z2 = z_9 := ⟨_, rfl⟩
        have tz15 : (Int64.toInt z15) = (Int32.toInt z2) := by rw [← ez15]; exact Int32.toInt_toInt64 _
        refine r_i2l 17 z15 C dX5_addAll_17 ez15 ?_
        refine r_callVi 18 C dX5_addAll_18 [.ref h0] [(h1, .inr (4, [.ref h3, .int x2])), (h3, .inl (gB g, 1500, .inl fn1))] [(h0, .inr (4, [.ref h2, .int z3])), (h2, .inl (gB g, 1500, .inl f4))] (fun sz => c14_X5_get l g h1 h3 z15 x2 fn1 i_x2 sz) gX5_addAll_X5_get rfl ⟨rfl, rfl⟩ 1 (by decide) ⟨Nat.le_of_ble_eq_true rfl, Nat.le_of_ble_eq_true rfl⟩ 1 rfl rfl [1, 3] [0, 2] rfl rfl (by decide) (by decide) (by decide) rfl rfl (Nat.le_of_ble_eq_true rfl) ⟨Nat.le_of_ble_eq_true rfl, Nat.le_of_ble_eq_true rfl⟩ (fun r16 _ w17 => ?_)
        refine r_ws [(h0, .inr (4, [.ref h2, .int z3])), (h2, .inl (gB g, 1500, .inl f4)), (h1, .inr (4, [.ref h3, .int x2])), (h3, .inl (gB g, 1500, .inl fn1))] rfl ?_
        have p18 : -1 ≤ (Int32.toInt r16) := w17.1
        have p19 : (Int32.toInt r16) ≤ 255 := w17.2
        refine r_callVv 21 C dX5_addAll_21 [] [(h0, .inr (4, [.ref h2, .int z3])), (h2, .inl (gB g, 1500, .inl f4))] [(h1, .inr (4, [.ref h3, .int x2])), (h3, .inl (gB g, 1500, .inl fn1))] (fun sz => c1_X5_add l g h0 h2 r16 z3 f4 ⟨i10a, i10b⟩ sz) gX5_addAll_X5_add rfl ⟨rfl, rfl⟩ 1 (by decide) ⟨Nat.le_of_ble_eq_true rfl, Nat.le_of_ble_eq_true rfl⟩ 0 rfl rfl [0, 1] [2, 3] rfl rfl (by decide) (by decide) (by decide) rfl rfl (Nat.le_of_ble_eq_true rfl) ⟨Nat.le_of_ble_eq_true rfl, Nat.le_of_ble_eq_true rfl⟩ (fun  u23 w22 => ?_)
        obtain ⟨z20, f21⟩ := u23
        refine r_ws [(h1, .inr (4, [.ref h3, .int x2])), (h3, .inl (gB g, 1500, .inl fn1)), (h0, .inr (4, [.ref h2, .int z20])), (h2, .inl (gB g, 1500, .inl f21))] rfl ?_
        have p24 : 0 ≤ (Int32.toInt z20) := w22.2.1
        have p25 : (Int32.toInt z20) ≤ 1500 := w22.2.2
        have w26 : ((1500 ≤ (Int32.toInt z3) ∧ (Int32.toInt z20) = (Int32.toInt z3)) ∨ (¬ (1500 ≤ (Int32.toInt z3)) ∧ (Int32.toInt z20) = (Int32.toInt z3) + 1)) := w22.1
        rcases w26 with ⟨k27, k28⟩ | w26
        · skip
          obtain ⟨z29, ez29⟩ : ∃ z_9, z2 + Int32.ofInt 1 = z_9 := ⟨_, rfl⟩
          have tz29 : (Int32.toInt z29) = (Int32.toInt z2) + 1 := by rw [← ez29]; exact fb_addI (by show -2147483648 ≤ (Int32.toInt z2) + 1; omega) (by show (Int32.toInt z2) + 1 < 2147483648; omega)
          refine r_iinc 24 0 z29 C dX5_addAll_24 rfl ez29 [(3, .int z29), (0, .ref h0), (1, .ref h1), (2, .int x0)] (by decide) rfl ?_
          refine r_goto 27 6 C dX5_addAll_27 (by decide) ?_
          refine r_pick [(h0, .inr (4, [.ref h2, .int z20])), (h1, .inr (4, [.ref h3, .int x2])), (h2, .inl (gB g, 1500, .inl f21)), (h3, .inl (gB g, 1500, .inl fn1))] [2, 0, 3, 1] (by decide) rfl ?_
          exact ih7 z29 z20 f21 ⟨by omega, by omega⟩ ⟨p24, p25⟩ (by show ((Int32.toInt x0) ≤ 0 ∧ ((Int32.toInt z20) = (Int32.toInt x1) + (Int32.toInt z29) ∨ ((Int32.toInt z20) = 1500 ∧ 1500 ≤ (Int32.toInt x1) + (Int32.toInt z29))) ∧ ((Int32.toInt z29) ≤ (Int32.toInt x2) ∨ (Int32.toInt z29) = 0)) ∨ (0 ≤ (Int32.toInt x0) ∧ ((Int32.toInt z20) = (Int32.toInt x1) + (Int32.toInt z29) - (Int32.toInt x0) ∨ ((Int32.toInt z20) = 1500 ∧ 1500 ≤ (Int32.toInt x1) + (Int32.toInt z29) - (Int32.toInt x0))) ∧ (Int32.toInt x0) ≤ (Int32.toInt z29) ∧ ((Int32.toInt z29) ≤ (Int32.toInt x2) ∨ (Int32.toInt z29) = (Int32.toInt x0))); omega) (by omega)
        obtain ⟨k30, k31⟩ := w26
        obtain ⟨z32, ez32⟩ : ∃ z_9, z2 + Int32.ofInt 1 = z_9 := ⟨_, rfl⟩
        have tz32 : (Int32.toInt z32) = (Int32.toInt z2) + 1 := by rw [← ez32]; exact fb_addI (by show -2147483648 ≤ (Int32.toInt z2) + 1; omega) (by show (Int32.toInt z2) + 1 < 2147483648; omega)
        refine r_iinc 24 0 z32 C dX5_addAll_24 rfl ez32 [(3, .int z32), (0, .ref h0), (1, .ref h1), (2, .int x0)] (by decide) rfl ?_
        refine r_goto 27 6 C dX5_addAll_27 (by decide) ?_
        refine r_pick [(h0, .inr (4, [.ref h2, .int z20])), (h1, .inr (4, [.ref h3, .int x2])), (h2, .inl (gB g, 1500, .inl f21)), (h3, .inl (gB g, 1500, .inl fn1))] [2, 0, 3, 1] (by decide) rfl ?_
        exact ih7 z32 z20 f21 ⟨by omega, by omega⟩ ⟨p24, p25⟩ (by show ((Int32.toInt x0) ≤ 0 ∧ ((Int32.toInt z20) = (Int32.toInt x1) + (Int32.toInt z32) ∨ ((Int32.toInt z20) = 1500 ∧ 1500 ≤ (Int32.toInt x1) + (Int32.toInt z32))) ∧ ((Int32.toInt z32) ≤ (Int32.toInt x2) ∨ (Int32.toInt z32) = 0)) ∨ (0 ≤ (Int32.toInt x0) ∧ ((Int32.toInt z20) = (Int32.toInt x1) + (Int32.toInt z32) - (Int32.toInt x0) ∨ ((Int32.toInt z20) = 1500 ∧ 1500 ≤ (Int32.toInt x1) + (Int32.toInt z32) - (Int32.toInt x0))) ∧ (Int32.toInt x0) ≤ (Int32.toInt z32) ∧ ((Int32.toInt z32) ≤ (Int32.toInt x2) ∨ (Int32.toInt z32) = (Int32.toInt x0))); omega) (by omega)
  exact lp6 _ z1 x1 fn0 ⟨by omega, by omega⟩ i_x1 (by show ((Int32.toInt x0) ≤ 0 ∧ ((Int32.toInt x1) = (Int32.toInt x1) + (Int32.toInt z1) ∨ ((Int32.toInt x1) = 1500 ∧ 1500 ≤ (Int32.toInt x1) + (Int32.toInt z1))) ∧ ((Int32.toInt z1) ≤ (Int32.toInt x2) ∨ (Int32.toInt z1) = 0)) ∨ (0 ≤ (Int32.toInt x0) ∧ ((Int32.toInt x1) = (Int32.toInt x1) + (Int32.toInt z1) - (Int32.toInt x0) ∨ ((Int32.toInt x1) = 1500 ∧ 1500 ≤ (Int32.toInt x1) + (Int32.toInt z1) - (Int32.toInt x0))) ∧ (Int32.toInt x0) ≤ (Int32.toInt z1) ∧ ((Int32.toInt z1) ≤ (Int32.toInt x2) ∨ (Int32.toInt z1) = (Int32.toInt x0))); omega) (Nat.lt_succ_self _)
set_option maxHeartbeats 4000000 in
set_option maxRecDepth 100000 in
theorem c41_J7_rangeCheck_23922 (l : Launch) (g : GD) (x0 : Int32) (i_x0 : (0 ≤ (Int32.toInt x0) ∧ (Int32.toInt x0) ≤ 40)) (sz : Nat) : Met l yJ7_rangeCheck_23922 wsJ7_rangeCheck_23922 ({ frames := 0, cells := 0, slots := 0, locals := 0 }) (va_Pc [.int 40, .int 0, .int x0] (PW g [] sz)) (va_Qv (fun (_ : Unit) => True) (BW g (va_A [] sz) (fun _ : Unit => [])) (va_A [] sz)) 0 0 (va_A [] sz) := by
  refine met_v RJ7 (by decide) rfl rfl (Nat.le_of_ble_eq_true rfl) [(0, .int 40), (1, .int 0), (2, .int x0)] rfl ?_
  intro p e s m args below meth c A Q C hnm Rt
  refine r_iload_n 0 1 C dJ7_rangeCheck_23922_0 rfl ?_
  refine r_iload_n 1 2 C dJ7_rangeCheck_23922_1 rfl ?_
  refine r_icmp_le_t 2 46 C dJ7_rangeCheck_23922_2 (by decide) ((fa_le 0 x0).mpr (by show 0 ≤ (Int32.toInt x0); omega)) ?_
  refine r_iload_n 46 1 C dJ7_rangeCheck_23922_46 rfl ?_
  refine r_if_ge_t 47 59 C dJ7_rangeCheck_23922_47 (by decide) (by decide) ?_
  refine r_iload_n 59 2 C dJ7_rangeCheck_23922_59 rfl ?_
  refine r_iload_n 60 0 C dJ7_rangeCheck_23922_60 rfl ?_
  refine r_icmp_le_t 61 73 C dJ7_rangeCheck_23922_61 (by decide) ((fa_le x0 40).mpr (by show (Int32.toInt x0) ≤ 40; omega)) ?_
  exact r_vret 73 Rt dJ7_rangeCheck_23922_73 () trivial [] (by decide) rfl (Nat.le_of_ble_eq_true rfl) (Nat.le_of_ble_eq_true rfl)
set_option maxHeartbeats 4000000 in
set_option maxRecDepth 100000 in
theorem c42_J7_fill_fda19 (l : Launch) (g : GD) (h0 : Nat) (x0 : Int32) (fn0 : Nat → Int32) (i_x0 : (0 ≤ (Int32.toInt x0) ∧ (Int32.toInt x0) ≤ 40)) (sz : Nat) : Met l yJ7_fill_fda19 wsJ7_fill_fda19 ({ frames := 1, cells := 0, slots := 0, locals := 22 }) (va_Pc [.ref h0, .int 0, .int x0, .int (-1)] (PW g [(h0, .inl (gI g, 40, .inl fn0))] sz)) (va_Qv (fun (u : (Nat → Int32)) => True) (BW g (va_A [(h0, .inl (gI g, 40, .inl fn0))] sz) (fun u : (Nat → Int32) => [(h0, .inl (gI g, 40, .inl u))])) (va_A [(h0, .inl (gI g, 40, .inl fn0))] sz)) 0 0 (va_A [(h0, .inl (gI g, 40, .inl fn0))] sz) := by
  refine met_v RJ7 (by decide) rfl rfl (Nat.le_of_ble_eq_true rfl) [(0, .ref h0), (1, .int 0), (2, .int x0), (3, .int (-1))] rfl ?_
  intro p e s m args below meth c A Q C hnm Rt
  refine r_aload_n 0 0 C dJ7_fill_fda19_0 rfl ?_
  refine r_ialen 1 40 C dJ7_fill_fda19_1 0 rfl (by decide) ?_
  refine r_iload_n 2 1 C dJ7_fill_fda19_2 rfl ?_
  refine r_iload_n 3 2 C dJ7_fill_fda19_3 rfl ?_
  refine r_callSv 4 C dJ7_fill_fda19_4 [] [] [(h0, .inl (gI g, 40, .inl fn0))] (fun sz => c41_J7_rangeCheck_23922 l g x0 i_x0 sz) gJ7_fill_fda19_J7_rangeCheck_23922 rfl ⟨rfl, rfl⟩ 3 (by decide) ⟨Nat.le_of_ble_eq_true rfl, Nat.le_of_ble_eq_true rfl⟩ [] [0] rfl rfl (by decide) (by decide) (by decide) rfl rfl (Nat.le_of_ble_eq_true rfl) ⟨Nat.le_of_ble_eq_true rfl, Nat.le_of_ble_eq_true rfl⟩ (fun  _ w1 => ?_)
  refine r_ws [(h0, .inl (gI g, 40, .inl fn0))] rfl ?_
  refine r_iload_n 7 1 C dJ7_fill_fda19_7 rfl ?_
  refine r_istore 8 C dJ7_fill_fda19_8 [(4, .int 0), (0, .ref h0), (1, .int 0), (2, .int x0), (3, .int (-1))] (by decide) rfl ?_
  have lp5 : ∀ (n4 : Nat) (z2 : Int32) (f3 : Nat → Int32), (0 ≤ (Int32.toInt z2) ∧ (Int32.toInt z2) ≤ 40) → Int.toNat (40 - (Int32.toInt z2)) < n4 → WW p l e ({ frames := 1, cells := 0, slots := 0, locals := 22 } : Room) s m args below meth c A Q g 5 0 0 [(h0, .inl (gI g, 40, .inl f3))] 10 [(4, .int z2), (0, .ref h0), (1, .int 0), (2, .int x0), (3, .int (-1))] [] := by
    intro n4
    induction n4 with
    | zero => intro z2 f3 i8 hm7; exact absurd hm7 (Nat.not_lt_zero _)
    | succ n4 ih6 =>
      intro z2 f3 i8 hm7
      obtain ⟨i8a, i8b⟩ := i8
      refine r_iload 10 0 C dJ7_fill_fda19_10 rfl ?_
      refine r_iload_n 12 3 C dJ7_fill_fda19_12 rfl ?_
      refine r_icmp_ge 13 27 C dJ7_fill_fda19_13 (by decide) (fun c9 => ?_) (fun c9 => ?_)
      · skip
        have k10 : (Int32.toInt x0) ≤ (Int32.toInt z2) := (fa_le x0 z2).mp c9
        exact r_vret 27 Rt dJ7_fill_fda19_27 f3 trivial [0] (by decide) rfl (Nat.le_of_ble_eq_true rfl) (Nat.le_of_ble_eq_true rfl)
      · skip
        have k11 : ¬ ((Int32.toInt x0) ≤ (Int32.toInt z2)) := fun h_9 => c9 ((fa_le x0 z2).mpr h_9)
        refine r_aload_n 16 1 C dJ7_fill_fda19_16 rfl ?_
        refine r_iload 17 0 C dJ7_fill_fda19_17 rfl ?_
        refine r_iload_n 19 4 C dJ7_fill_fda19_19 rfl ?_
        obtain ⟨f12, ef12⟩ : ∃ f_9, upd f3 (Int32.toNatClampNeg z2) (-1) = f_9 := ⟨_, rfl⟩
        refine r_iast 20 C dJ7_fill_fda19_20 0 rfl (vinI (by omega) (by omega)) f12 ef12 [(h0, .inl (gI g, 40, .inl f12))] rfl ?_
        obtain ⟨z13, ez13⟩ : ∃ z_9, z2 + Int32.ofInt 1 = z_9 := ⟨_, rfl⟩
        have tz13 : (Int32.toInt z13) = (Int32.toInt z2) + 1 := by rw [← ez13]; exact fb_addIv (a := 0) (b := 40) (c := 1) (d := 1) ⟨i8a, i8b⟩ ⟨by decide, by decide⟩ (by decide) (by decide)
        refine r_iinc 21 0 z13 C dJ7_fill_fda19_21 rfl ez13 [(4, .int z13), (0, .ref h0), (1, .int 0), (2, .int x0), (3, .int (-1))] (by decide) rfl ?_
        refine r_goto 24 10 C dJ7_fill_fda19_24 (by decide) ?_
        exact ih6 z13 f12 ⟨by omega, by omega⟩ (by omega)
  exact lp5 _ 0 fn0 (by decide) (Nat.lt_succ_self _)
set_option maxHeartbeats 4000000 in
set_option maxRecDepth 100000 in
theorem c43_X8_lay (l : Launch) (g : GD) (h0 : Nat) (h1 : Nat) (x0 : Int32) (h2 : Nat) (h3 : Nat) (x1 : Int32) (x2 : Int32) (x3 : Int32) (fn0 : Nat → Int32) (sz : Nat) : Met l yX8_lay wsX8_lay ({ frames := 2, cells := 0, slots := 0, locals := 46 }) (va_Pc [.ref h0, .int x0] (PW g [(h0, .inr (7, [.ref h2, .ref h1, .ref h3, .int x1, .int x2, .int x3])), (h1, .inl (gI g, 40, .inl fn0))] sz)) (va_Qv (fun (u : (Int32) × (Nat → Int32)) => True) (BW g (va_A [(h0, .inr (7, [.ref h2, .ref h1, .ref h3, .int x1, .int x2, .int x3])), (h1, .inl (gI g, 40, .inl fn0))] sz) (fun u : (Int32) × (Nat → Int32) => [(h0, .inr (7, [.ref h2, .ref h1, .ref h3, .int u.1, .int x2, .int 0])), (h1, .inl (gI g, 40, .inl u.2))])) (va_A [(h0, .inr (7, [.ref h2, .ref h1, .ref h3, .int x1, .int x2, .int x3])), (h1, .inl (gI g, 40, .inl fn0))] sz)) 0 0 (va_A [(h0, .inr (7, [.ref h2, .ref h1, .ref h3, .int x1, .int x2, .int x3])), (h1, .inl (gI g, 40, .inl fn0))] sz) := by
  refine met_v RX8 (by decide) rfl rfl (Nat.le_of_ble_eq_true rfl) [(0, .ref h0), (1, .int x0)] rfl ?_
  intro p e s m args below meth c A Q C hnm Rt
  have gx0 := fb_rng x0
  have hiX8 : ∀ w ∈ wsX80, w ∈ wsX8_lay := fun w h => List.mem_cons_of_mem _ (List.mem_append_right _ (h))
  refine r_aload_n 0 0 C dX8_lay_0 rfl ?_
  refine r_iconst 1 0 C dX8_lay_1 (by decide) ?_
  refine r_iload_n 2 1 C dX8_lay_2 rfl ?_
  refine r_aload_n 3 0 C dX8_lay_3 rfl ?_
  refine r_get 4 C dX8_lay_4 (k := 1) 0 rfl rfl hiX8 (by decide) rfl (mg 1 rfl) (Or.inl rfl) rfl ?_
  refine r_ialen 7 40 C dX8_lay_7 1 rfl (by decide) ?_
  obtain ⟨z1, ez1⟩ : ∃ z_9, (if 40 < x0 then 40 else x0) = z_9 := ⟨_, rfl⟩
  have tz1 : (40 < (Int32.toInt x0) ∧ (Int32.toInt z1) = 40) ∨ (¬ (40 < (Int32.toInt x0)) ∧ (Int32.toInt z1) = (Int32.toInt x0)) := by rw [← ez1]; exact mx_or 40 x0 40 x0
  refine r_mmin 8 z1 C dX8_lay_8 (mg 2 rfl) (mg 3 rfl) (mg 4 rfl) (mg 5 rfl) (Nat.le_of_ble_eq_true rfl) (Nat.le_of_ble_eq_true rfl) (Nat.le_of_ble_eq_true rfl) (Nat.le_of_ble_eq_true rfl) ez1 ?_
  obtain ⟨z2, ez2⟩ : ∃ z_9, (if 0 < z1 then z1 else 0) = z_9 := ⟨_, rfl⟩
  have tz2 : (0 < (Int32.toInt z1) ∧ (Int32.toInt z2) = (Int32.toInt z1)) ∨ (¬ (0 < (Int32.toInt z1)) ∧ (Int32.toInt z2) = 0) := by rw [← ez2]; exact mx_or 0 z1 z1 0
  refine r_mmax 11 z2 C dX8_lay_11 (mg 6 rfl) (mg 7 rfl) (mg 4 rfl) (mg 8 rfl) (Nat.le_of_ble_eq_true rfl) (Nat.le_of_ble_eq_true rfl) (Nat.le_of_ble_eq_true rfl) (Nat.le_of_ble_eq_true rfl) ez2 ?_
  refine r_put 14 C dX8_lay_14 (k := 3) 0 rfl rfl hiX8 tyX8 tyX8_ok nmX8 (by decide) rfl (mg 9 rfl) (Or.inl rfl) rfl rfl rfl rfl (Nat.le_of_ble_eq_true rfl) [(h0, .inr (7, [.ref h2, .ref h1, .ref h3, .int z2, .int x2, .int x3])), (h1, .inl (gI g, 40, .inl fn0))] rfl ?_
  refine r_aload_n 17 0 C dX8_lay_17 rfl ?_
  refine r_get 18 C dX8_lay_18 (k := 1) 0 rfl rfl hiX8 (by decide) rfl (mg 1 rfl) (Or.inl rfl) rfl ?_
  refine r_iconst 21 0 C dX8_lay_21 (by decide) ?_
  refine r_aload_n 22 0 C dX8_lay_22 rfl ?_
  refine r_get 23 C dX8_lay_23 (k := 3) 0 rfl rfl hiX8 (by decide) rfl (mg 9 rfl) (Or.inl rfl) rfl ?_
  refine r_iconst 26 (-1) C dX8_lay_26 (by decide) ?_
  refine r_callSv 27 C dX8_lay_27 [] [(h1, .inl (gI g, 40, .inl fn0))] [(h0, .inr (7, [.ref h2, .ref h1, .ref h3, .int z2, .int x2, .int x3]))] (fun sz => c42_J7_fill_fda19 l g h1 z2 fn0 ⟨by omega, by omega⟩ sz) gX8_lay_J7_fill_fda19 rfl ⟨rfl, rfl⟩ 4 (by decide) ⟨Nat.le_of_ble_eq_true rfl, Nat.le_of_ble_eq_true rfl⟩ [1] [0] rfl rfl (by decide) (by decide) (by decide) rfl rfl (Nat.le_of_ble_eq_true rfl) ⟨Nat.le_of_ble_eq_true rfl, Nat.le_of_ble_eq_true rfl⟩ (fun  f3 w4 => ?_)
  refine r_ws [(h0, .inr (7, [.ref h2, .ref h1, .ref h3, .int z2, .int x2, .int x3])), (h1, .inl (gI g, 40, .inl f3))] rfl ?_
  refine r_aload_n 30 0 C dX8_lay_30 rfl ?_
  refine r_iconst 31 0 C dX8_lay_31 (by decide) ?_
  refine r_put 32 C dX8_lay_32 (k := 5) 0 rfl rfl hiX8 tyX8 tyX8_ok nmX8 (by decide) rfl (mg 10 rfl) (Or.inl rfl) rfl rfl rfl rfl (Nat.le_of_ble_eq_true rfl) [(h0, .inr (7, [.ref h2, .ref h1, .ref h3, .int z2, .int x2, .int 0])), (h1, .inl (gI g, 40, .inl f3))] rfl ?_
  exact r_vret 35 Rt dX8_lay_35 (z2, f3) trivial [0, 1] (by decide) rfl (Nat.le_of_ble_eq_true rfl) (Nat.le_of_ble_eq_true rfl)
set_option maxHeartbeats 4000000 in
set_option maxRecDepth 100000 in
theorem c44_J7_rangeCheck_23922 (l : Launch) (g : GD) (x0 : Int32) (i_x0 : (0 ≤ (Int32.toInt x0) ∧ (Int32.toInt x0) ≤ 200)) (sz : Nat) : Met l yJ7_rangeCheck_23922 wsJ7_rangeCheck_23922 ({ frames := 0, cells := 0, slots := 0, locals := 0 }) (va_Pc [.int 200, .int 0, .int x0] (PW g [] sz)) (va_Qv (fun (_ : Unit) => True) (BW g (va_A [] sz) (fun _ : Unit => [])) (va_A [] sz)) 0 0 (va_A [] sz) := by
  refine met_v RJ7 (by decide) rfl rfl (Nat.le_of_ble_eq_true rfl) [(0, .int 200), (1, .int 0), (2, .int x0)] rfl ?_
  intro p e s m args below meth c A Q C hnm Rt
  refine r_iload_n 0 1 C dJ7_rangeCheck_23922_0 rfl ?_
  refine r_iload_n 1 2 C dJ7_rangeCheck_23922_1 rfl ?_
  refine r_icmp_le_t 2 46 C dJ7_rangeCheck_23922_2 (by decide) ((fa_le 0 x0).mpr (by show 0 ≤ (Int32.toInt x0); omega)) ?_
  refine r_iload_n 46 1 C dJ7_rangeCheck_23922_46 rfl ?_
  refine r_if_ge_t 47 59 C dJ7_rangeCheck_23922_47 (by decide) (by decide) ?_
  refine r_iload_n 59 2 C dJ7_rangeCheck_23922_59 rfl ?_
  refine r_iload_n 60 0 C dJ7_rangeCheck_23922_60 rfl ?_
  refine r_icmp_le_t 61 73 C dJ7_rangeCheck_23922_61 (by decide) ((fa_le x0 200).mpr (by show (Int32.toInt x0) ≤ 200; omega)) ?_
  exact r_vret 73 Rt dJ7_rangeCheck_23922_73 () trivial [] (by decide) rfl (Nat.le_of_ble_eq_true rfl) (Nat.le_of_ble_eq_true rfl)
set_option maxHeartbeats 4000000 in
set_option maxRecDepth 100000 in
theorem c45_J7_fill_fda19 (l : Launch) (g : GD) (h0 : Nat) (x0 : Int32) (fn0 : Nat → Int32) (i_x0 : (0 ≤ (Int32.toInt x0) ∧ (Int32.toInt x0) ≤ 200)) (sz : Nat) : Met l yJ7_fill_fda19 wsJ7_fill_fda19 ({ frames := 1, cells := 0, slots := 0, locals := 22 }) (va_Pc [.ref h0, .int 0, .int x0, .int (-1)] (PW g [(h0, .inl (gI g, 200, .inl fn0))] sz)) (va_Qv (fun (u : (Nat → Int32)) => True) (BW g (va_A [(h0, .inl (gI g, 200, .inl fn0))] sz) (fun u : (Nat → Int32) => [(h0, .inl (gI g, 200, .inl u))])) (va_A [(h0, .inl (gI g, 200, .inl fn0))] sz)) 0 0 (va_A [(h0, .inl (gI g, 200, .inl fn0))] sz) := by
  refine met_v RJ7 (by decide) rfl rfl (Nat.le_of_ble_eq_true rfl) [(0, .ref h0), (1, .int 0), (2, .int x0), (3, .int (-1))] rfl ?_
  intro p e s m args below meth c A Q C hnm Rt
  refine r_aload_n 0 0 C dJ7_fill_fda19_0 rfl ?_
  refine r_ialen 1 200 C dJ7_fill_fda19_1 0 rfl (by decide) ?_
  refine r_iload_n 2 1 C dJ7_fill_fda19_2 rfl ?_
  refine r_iload_n 3 2 C dJ7_fill_fda19_3 rfl ?_
  refine r_callSv 4 C dJ7_fill_fda19_4 [] [] [(h0, .inl (gI g, 200, .inl fn0))] (fun sz => c44_J7_rangeCheck_23922 l g x0 i_x0 sz) gJ7_fill_fda19_J7_rangeCheck_23922 rfl ⟨rfl, rfl⟩ 3 (by decide) ⟨Nat.le_of_ble_eq_true rfl, Nat.le_of_ble_eq_true rfl⟩ [] [0] rfl rfl (by decide) (by decide) (by decide) rfl rfl (Nat.le_of_ble_eq_true rfl) ⟨Nat.le_of_ble_eq_true rfl, Nat.le_of_ble_eq_true rfl⟩ (fun  _ w1 => ?_)
  refine r_ws [(h0, .inl (gI g, 200, .inl fn0))] rfl ?_
  refine r_iload_n 7 1 C dJ7_fill_fda19_7 rfl ?_
  refine r_istore 8 C dJ7_fill_fda19_8 [(4, .int 0), (0, .ref h0), (1, .int 0), (2, .int x0), (3, .int (-1))] (by decide) rfl ?_
  have lp5 : ∀ (n4 : Nat) (z2 : Int32) (f3 : Nat → Int32), (0 ≤ (Int32.toInt z2) ∧ (Int32.toInt z2) ≤ 200) → Int.toNat (200 - (Int32.toInt z2)) < n4 → WW p l e ({ frames := 1, cells := 0, slots := 0, locals := 22 } : Room) s m args below meth c A Q g 5 0 0 [(h0, .inl (gI g, 200, .inl f3))] 10 [(4, .int z2), (0, .ref h0), (1, .int 0), (2, .int x0), (3, .int (-1))] [] := by
    intro n4
    induction n4 with
    | zero => intro z2 f3 i8 hm7; exact absurd hm7 (Nat.not_lt_zero _)
    | succ n4 ih6 =>
      intro z2 f3 i8 hm7
      obtain ⟨i8a, i8b⟩ := i8
      refine r_iload 10 0 C dJ7_fill_fda19_10 rfl ?_
      refine r_iload_n 12 3 C dJ7_fill_fda19_12 rfl ?_
      refine r_icmp_ge 13 27 C dJ7_fill_fda19_13 (by decide) (fun c9 => ?_) (fun c9 => ?_)
      · skip
        have k10 : (Int32.toInt x0) ≤ (Int32.toInt z2) := (fa_le x0 z2).mp c9
        exact r_vret 27 Rt dJ7_fill_fda19_27 f3 trivial [0] (by decide) rfl (Nat.le_of_ble_eq_true rfl) (Nat.le_of_ble_eq_true rfl)
      · skip
        have k11 : ¬ ((Int32.toInt x0) ≤ (Int32.toInt z2)) := fun h_9 => c9 ((fa_le x0 z2).mpr h_9)
        refine r_aload_n 16 1 C dJ7_fill_fda19_16 rfl ?_
        refine r_iload 17 0 C dJ7_fill_fda19_17 rfl ?_
        refine r_iload_n 19 4 C dJ7_fill_fda19_19 rfl ?_
        obtain ⟨f12, ef12⟩ : ∃ f_9, upd f3 (Int32.toNatClampNeg z2) (-1) = f_9 := ⟨_, rfl⟩
        refine r_iast 20 C dJ7_fill_fda19_20 0 rfl (vinI (by omega) (by omega)) f12 ef12 [(h0, .inl (gI g, 200, .inl f12))] rfl ?_
        obtain ⟨z13, ez13⟩ : ∃ z_9, z2 + Int32.ofInt 1 = z_9 := ⟨_, rfl⟩
        have tz13 : (Int32.toInt z13) = (Int32.toInt z2) + 1 := by rw [← ez13]; exact fb_addIv (a := 0) (b := 200) (c := 1) (d := 1) ⟨i8a, i8b⟩ ⟨by decide, by decide⟩ (by decide) (by decide)
        refine r_iinc 21 0 z13 C dJ7_fill_fda19_21 rfl ez13 [(4, .int z13), (0, .ref h0), (1, .int 0), (2, .int x0), (3, .int (-1))] (by decide) rfl ?_
        refine r_goto 24 10 C dJ7_fill_fda19_24 (by decide) ?_
        exact ih6 z13 f12 ⟨by omega, by omega⟩ (by omega)
  exact lp5 _ 0 fn0 (by decide) (Nat.lt_succ_self _)
set_option maxHeartbeats 4000000 in
set_option maxRecDepth 100000 in
theorem c46_X8_lay (l : Launch) (g : GD) (h0 : Nat) (h1 : Nat) (x0 : Int32) (h2 : Nat) (h3 : Nat) (x1 : Int32) (x2 : Int32) (x3 : Int32) (fn0 : Nat → Int32) (sz : Nat) : Met l yX8_lay wsX8_lay ({ frames := 2, cells := 0, slots := 0, locals := 46 }) (va_Pc [.ref h0, .int x0] (PW g [(h0, .inr (7, [.ref h2, .ref h1, .ref h3, .int x1, .int x2, .int x3])), (h1, .inl (gI g, 200, .inl fn0))] sz)) (va_Qv (fun (u : (Int32) × (Nat → Int32)) => True) (BW g (va_A [(h0, .inr (7, [.ref h2, .ref h1, .ref h3, .int x1, .int x2, .int x3])), (h1, .inl (gI g, 200, .inl fn0))] sz) (fun u : (Int32) × (Nat → Int32) => [(h0, .inr (7, [.ref h2, .ref h1, .ref h3, .int u.1, .int x2, .int 0])), (h1, .inl (gI g, 200, .inl u.2))])) (va_A [(h0, .inr (7, [.ref h2, .ref h1, .ref h3, .int x1, .int x2, .int x3])), (h1, .inl (gI g, 200, .inl fn0))] sz)) 0 0 (va_A [(h0, .inr (7, [.ref h2, .ref h1, .ref h3, .int x1, .int x2, .int x3])), (h1, .inl (gI g, 200, .inl fn0))] sz) := by
  refine met_v RX8 (by decide) rfl rfl (Nat.le_of_ble_eq_true rfl) [(0, .ref h0), (1, .int x0)] rfl ?_
  intro p e s m args below meth c A Q C hnm Rt
  have gx0 := fb_rng x0
  have hiX8 : ∀ w ∈ wsX80, w ∈ wsX8_lay := fun w h => List.mem_cons_of_mem _ (List.mem_append_right _ (h))
  refine r_aload_n 0 0 C dX8_lay_0 rfl ?_
  refine r_iconst 1 0 C dX8_lay_1 (by decide) ?_
  refine r_iload_n 2 1 C dX8_lay_2 rfl ?_
  refine r_aload_n 3 0 C dX8_lay_3 rfl ?_
  refine r_get 4 C dX8_lay_4 (k := 1) 0 rfl rfl hiX8 (by decide) rfl (mg 1 rfl) (Or.inl rfl) rfl ?_
  refine r_ialen 7 200 C dX8_lay_7 1 rfl (by decide) ?_
  obtain ⟨z1, ez1⟩ : ∃ z_9, (if 200 < x0 then 200 else x0) = z_9 := ⟨_, rfl⟩
  have tz1 : (200 < (Int32.toInt x0) ∧ (Int32.toInt z1) = 200) ∨ (¬ (200 < (Int32.toInt x0)) ∧ (Int32.toInt z1) = (Int32.toInt x0)) := by rw [← ez1]; exact mx_or 200 x0 200 x0
  refine r_mmin 8 z1 C dX8_lay_8 (mg 2 rfl) (mg 3 rfl) (mg 4 rfl) (mg 5 rfl) (Nat.le_of_ble_eq_true rfl) (Nat.le_of_ble_eq_true rfl) (Nat.le_of_ble_eq_true rfl) (Nat.le_of_ble_eq_true rfl) ez1 ?_
  obtain ⟨z2, ez2⟩ : ∃ z_9, (if 0 < z1 then z1 else 0) = z_9 := ⟨_, rfl⟩
  have tz2 : (0 < (Int32.toInt z1) ∧ (Int32.toInt z2) = (Int32.toInt z1)) ∨ (¬ (0 < (Int32.toInt z1)) ∧ (Int32.toInt z2) = 0) := by rw [← ez2]; exact mx_or 0 z1 z1 0
  refine r_mmax 11 z2 C dX8_lay_11 (mg 6 rfl) (mg 7 rfl) (mg 4 rfl) (mg 8 rfl) (Nat.le_of_ble_eq_true rfl) (Nat.le_of_ble_eq_true rfl) (Nat.le_of_ble_eq_true rfl) (Nat.le_of_ble_eq_true rfl) ez2 ?_
  refine r_put 14 C dX8_lay_14 (k := 3) 0 rfl rfl hiX8 tyX8 tyX8_ok nmX8 (by decide) rfl (mg 9 rfl) (Or.inl rfl) rfl rfl rfl rfl (Nat.le_of_ble_eq_true rfl) [(h0, .inr (7, [.ref h2, .ref h1, .ref h3, .int z2, .int x2, .int x3])), (h1, .inl (gI g, 200, .inl fn0))] rfl ?_
  refine r_aload_n 17 0 C dX8_lay_17 rfl ?_
  refine r_get 18 C dX8_lay_18 (k := 1) 0 rfl rfl hiX8 (by decide) rfl (mg 1 rfl) (Or.inl rfl) rfl ?_
  refine r_iconst 21 0 C dX8_lay_21 (by decide) ?_
  refine r_aload_n 22 0 C dX8_lay_22 rfl ?_
  refine r_get 23 C dX8_lay_23 (k := 3) 0 rfl rfl hiX8 (by decide) rfl (mg 9 rfl) (Or.inl rfl) rfl ?_
  refine r_iconst 26 (-1) C dX8_lay_26 (by decide) ?_
  refine r_callSv 27 C dX8_lay_27 [] [(h1, .inl (gI g, 200, .inl fn0))] [(h0, .inr (7, [.ref h2, .ref h1, .ref h3, .int z2, .int x2, .int x3]))] (fun sz => c45_J7_fill_fda19 l g h1 z2 fn0 ⟨by omega, by omega⟩ sz) gX8_lay_J7_fill_fda19 rfl ⟨rfl, rfl⟩ 4 (by decide) ⟨Nat.le_of_ble_eq_true rfl, Nat.le_of_ble_eq_true rfl⟩ [1] [0] rfl rfl (by decide) (by decide) (by decide) rfl rfl (Nat.le_of_ble_eq_true rfl) ⟨Nat.le_of_ble_eq_true rfl, Nat.le_of_ble_eq_true rfl⟩ (fun  f3 w4 => ?_)
  refine r_ws [(h0, .inr (7, [.ref h2, .ref h1, .ref h3, .int z2, .int x2, .int x3])), (h1, .inl (gI g, 200, .inl f3))] rfl ?_
  refine r_aload_n 30 0 C dX8_lay_30 rfl ?_
  refine r_iconst 31 0 C dX8_lay_31 (by decide) ?_
  refine r_put 32 C dX8_lay_32 (k := 5) 0 rfl rfl hiX8 tyX8 tyX8_ok nmX8 (by decide) rfl (mg 10 rfl) (Or.inl rfl) rfl rfl rfl rfl (Nat.le_of_ble_eq_true rfl) [(h0, .inr (7, [.ref h2, .ref h1, .ref h3, .int z2, .int x2, .int 0])), (h1, .inl (gI g, 200, .inl f3))] rfl ?_
  exact r_vret 35 Rt dX8_lay_35 (z2, f3) trivial [0, 1] (by decide) rfl (Nat.le_of_ble_eq_true rfl) (Nat.le_of_ble_eq_true rfl)
set_option maxHeartbeats 4000000 in
set_option maxRecDepth 100000 in
theorem c47_J7_rangeCheck_23922 (l : Launch) (g : GD) (x0 : Int32) (i_x0 : (0 ≤ (Int32.toInt x0) ∧ (Int32.toInt x0) ≤ 0)) (sz : Nat) : Met l yJ7_rangeCheck_23922 wsJ7_rangeCheck_23922 ({ frames := 0, cells := 0, slots := 0, locals := 0 }) (va_Pc [.int 0, .int 0, .int x0] (PW g [] sz)) (va_Qv (fun (_ : Unit) => True) (BW g (va_A [] sz) (fun _ : Unit => [])) (va_A [] sz)) 0 0 (va_A [] sz) := by
  refine met_v RJ7 (by decide) rfl rfl (Nat.le_of_ble_eq_true rfl) [(0, .int 0), (1, .int 0), (2, .int x0)] rfl ?_
  intro p e s m args below meth c A Q C hnm Rt
  refine r_iload_n 0 1 C dJ7_rangeCheck_23922_0 rfl ?_
  refine r_iload_n 1 2 C dJ7_rangeCheck_23922_1 rfl ?_
  refine r_icmp_le_t 2 46 C dJ7_rangeCheck_23922_2 (by decide) ((fa_le 0 x0).mpr (by show 0 ≤ (Int32.toInt x0); omega)) ?_
  refine r_iload_n 46 1 C dJ7_rangeCheck_23922_46 rfl ?_
  refine r_if_ge_t 47 59 C dJ7_rangeCheck_23922_47 (by decide) (by decide) ?_
  refine r_iload_n 59 2 C dJ7_rangeCheck_23922_59 rfl ?_
  refine r_iload_n 60 0 C dJ7_rangeCheck_23922_60 rfl ?_
  refine r_icmp_le_t 61 73 C dJ7_rangeCheck_23922_61 (by decide) ((fa_le x0 0).mpr (by show (Int32.toInt x0) ≤ 0; omega)) ?_
  exact r_vret 73 Rt dJ7_rangeCheck_23922_73 () trivial [] (by decide) rfl (Nat.le_of_ble_eq_true rfl) (Nat.le_of_ble_eq_true rfl)
set_option maxHeartbeats 4000000 in
set_option maxRecDepth 100000 in
theorem c48_J7_fill_fda19 (l : Launch) (g : GD) (h0 : Nat) (x0 : Int32) (fn0 : Nat → Int32) (i_x0 : (0 ≤ (Int32.toInt x0) ∧ (Int32.toInt x0) ≤ 0)) (sz : Nat) : Met l yJ7_fill_fda19 wsJ7_fill_fda19 ({ frames := 1, cells := 0, slots := 0, locals := 22 }) (va_Pc [.ref h0, .int 0, .int x0, .int (-1)] (PW g [(h0, .inl (gI g, 0, .inl fn0))] sz)) (va_Qv (fun (_ : Unit) => True) (BW g (va_A [(h0, .inl (gI g, 0, .inl fn0))] sz) (fun _ : Unit => [(h0, .inl (gI g, 0, .inl fn0))])) (va_A [(h0, .inl (gI g, 0, .inl fn0))] sz)) 0 0 (va_A [(h0, .inl (gI g, 0, .inl fn0))] sz) := by
  refine met_v RJ7 (by decide) rfl rfl (Nat.le_of_ble_eq_true rfl) [(0, .ref h0), (1, .int 0), (2, .int x0), (3, .int (-1))] rfl ?_
  intro p e s m args below meth c A Q C hnm Rt
  refine r_aload_n 0 0 C dJ7_fill_fda19_0 rfl ?_
  refine r_ialen 1 0 C dJ7_fill_fda19_1 0 rfl (by decide) ?_
  refine r_iload_n 2 1 C dJ7_fill_fda19_2 rfl ?_
  refine r_iload_n 3 2 C dJ7_fill_fda19_3 rfl ?_
  refine r_callSv 4 C dJ7_fill_fda19_4 [] [] [(h0, .inl (gI g, 0, .inl fn0))] (fun sz => c47_J7_rangeCheck_23922 l g x0 i_x0 sz) gJ7_fill_fda19_J7_rangeCheck_23922 rfl ⟨rfl, rfl⟩ 3 (by decide) ⟨Nat.le_of_ble_eq_true rfl, Nat.le_of_ble_eq_true rfl⟩ [] [0] rfl rfl (by decide) (by decide) (by decide) rfl rfl (Nat.le_of_ble_eq_true rfl) ⟨Nat.le_of_ble_eq_true rfl, Nat.le_of_ble_eq_true rfl⟩ (fun  _ w1 => ?_)
  refine r_ws [(h0, .inl (gI g, 0, .inl fn0))] rfl ?_
  refine r_iload_n 7 1 C dJ7_fill_fda19_7 rfl ?_
  refine r_istore 8 C dJ7_fill_fda19_8 [(4, .int 0), (0, .ref h0), (1, .int 0), (2, .int x0), (3, .int (-1))] (by decide) rfl ?_
  have lp4 : ∀ (n3 : Nat) (z2 : Int32), (0 ≤ (Int32.toInt z2) ∧ (Int32.toInt z2) ≤ 0) → Int.toNat (0 - (Int32.toInt z2)) < n3 → WW p l e ({ frames := 1, cells := 0, slots := 0, locals := 22 } : Room) s m args below meth c A Q g 5 0 0 [(h0, .inl (gI g, 0, .inl fn0))] 10 [(4, .int z2), (0, .ref h0), (1, .int 0), (2, .int x0), (3, .int (-1))] [] := by
    intro n3
    induction n3 with
    | zero => intro z2 i7 hm6; exact absurd hm6 (Nat.not_lt_zero _)
    | succ n3 ih5 =>
      intro z2 i7 hm6
      obtain ⟨i7a, i7b⟩ := i7
      refine r_iload 10 0 C dJ7_fill_fda19_10 rfl ?_
      refine r_iload_n 12 3 C dJ7_fill_fda19_12 rfl ?_
      refine r_icmp_ge_t 13 27 C dJ7_fill_fda19_13 (by decide) ((fa_le x0 z2).mpr (by show (Int32.toInt x0) ≤ (Int32.toInt z2); omega)) ?_
      exact r_vret 27 Rt dJ7_fill_fda19_27 () trivial [0] (by decide) rfl (Nat.le_of_ble_eq_true rfl) (Nat.le_of_ble_eq_true rfl)
  exact lp4 _ 0 (by decide) (Nat.lt_succ_self _)
set_option maxHeartbeats 4000000 in
set_option maxRecDepth 100000 in
theorem c49_X8_lay (l : Launch) (g : GD) (h0 : Nat) (h1 : Nat) (x0 : Int32) (h2 : Nat) (h3 : Nat) (x1 : Int32) (x2 : Int32) (x3 : Int32) (fn0 : Nat → Int32) (sz : Nat) : Met l yX8_lay wsX8_lay ({ frames := 2, cells := 0, slots := 0, locals := 46 }) (va_Pc [.ref h0, .int x0] (PW g [(h0, .inr (7, [.ref h2, .ref h1, .ref h3, .int x1, .int x2, .int x3])), (h1, .inl (gI g, 0, .inl fn0))] sz)) (va_Qv (fun (u : (Int32)) => True) (BW g (va_A [(h0, .inr (7, [.ref h2, .ref h1, .ref h3, .int x1, .int x2, .int x3])), (h1, .inl (gI g, 0, .inl fn0))] sz) (fun u : (Int32) => [(h0, .inr (7, [.ref h2, .ref h1, .ref h3, .int u, .int x2, .int 0])), (h1, .inl (gI g, 0, .inl fn0))])) (va_A [(h0, .inr (7, [.ref h2, .ref h1, .ref h3, .int x1, .int x2, .int x3])), (h1, .inl (gI g, 0, .inl fn0))] sz)) 0 0 (va_A [(h0, .inr (7, [.ref h2, .ref h1, .ref h3, .int x1, .int x2, .int x3])), (h1, .inl (gI g, 0, .inl fn0))] sz) := by
  refine met_v RX8 (by decide) rfl rfl (Nat.le_of_ble_eq_true rfl) [(0, .ref h0), (1, .int x0)] rfl ?_
  intro p e s m args below meth c A Q C hnm Rt
  have gx0 := fb_rng x0
  have hiX8 : ∀ w ∈ wsX80, w ∈ wsX8_lay := fun w h => List.mem_cons_of_mem _ (List.mem_append_right _ (h))
  refine r_aload_n 0 0 C dX8_lay_0 rfl ?_
  refine r_iconst 1 0 C dX8_lay_1 (by decide) ?_
  refine r_iload_n 2 1 C dX8_lay_2 rfl ?_
  refine r_aload_n 3 0 C dX8_lay_3 rfl ?_
  refine r_get 4 C dX8_lay_4 (k := 1) 0 rfl rfl hiX8 (by decide) rfl (mg 1 rfl) (Or.inl rfl) rfl ?_
  refine r_ialen 7 0 C dX8_lay_7 1 rfl (by decide) ?_
  obtain ⟨z1, ez1⟩ : ∃ z_9, (if 0 < x0 then 0 else x0) = z_9 := ⟨_, rfl⟩
  have tz1 : (0 < (Int32.toInt x0) ∧ (Int32.toInt z1) = 0) ∨ (¬ (0 < (Int32.toInt x0)) ∧ (Int32.toInt z1) = (Int32.toInt x0)) := by rw [← ez1]; exact mx_or 0 x0 0 x0
  refine r_mmin 8 z1 C dX8_lay_8 (mg 2 rfl) (mg 3 rfl) (mg 4 rfl) (mg 5 rfl) (Nat.le_of_ble_eq_true rfl) (Nat.le_of_ble_eq_true rfl) (Nat.le_of_ble_eq_true rfl) (Nat.le_of_ble_eq_true rfl) ez1 ?_
  obtain ⟨z2, ez2⟩ : ∃ z_9, (if 0 < z1 then z1 else 0) = z_9 := ⟨_, rfl⟩
  have tz2 : (0 < (Int32.toInt z1) ∧ (Int32.toInt z2) = (Int32.toInt z1)) ∨ (¬ (0 < (Int32.toInt z1)) ∧ (Int32.toInt z2) = 0) := by rw [← ez2]; exact mx_or 0 z1 z1 0
  refine r_mmax 11 z2 C dX8_lay_11 (mg 6 rfl) (mg 7 rfl) (mg 4 rfl) (mg 8 rfl) (Nat.le_of_ble_eq_true rfl) (Nat.le_of_ble_eq_true rfl) (Nat.le_of_ble_eq_true rfl) (Nat.le_of_ble_eq_true rfl) ez2 ?_
  refine r_put 14 C dX8_lay_14 (k := 3) 0 rfl rfl hiX8 tyX8 tyX8_ok nmX8 (by decide) rfl (mg 9 rfl) (Or.inl rfl) rfl rfl rfl rfl (Nat.le_of_ble_eq_true rfl) [(h0, .inr (7, [.ref h2, .ref h1, .ref h3, .int z2, .int x2, .int x3])), (h1, .inl (gI g, 0, .inl fn0))] rfl ?_
  refine r_aload_n 17 0 C dX8_lay_17 rfl ?_
  refine r_get 18 C dX8_lay_18 (k := 1) 0 rfl rfl hiX8 (by decide) rfl (mg 1 rfl) (Or.inl rfl) rfl ?_
  refine r_iconst 21 0 C dX8_lay_21 (by decide) ?_
  refine r_aload_n 22 0 C dX8_lay_22 rfl ?_
  refine r_get 23 C dX8_lay_23 (k := 3) 0 rfl rfl hiX8 (by decide) rfl (mg 9 rfl) (Or.inl rfl) rfl ?_
  refine r_iconst 26 (-1) C dX8_lay_26 (by decide) ?_
  refine r_callSv 27 C dX8_lay_27 [] [(h1, .inl (gI g, 0, .inl fn0))] [(h0, .inr (7, [.ref h2, .ref h1, .ref h3, .int z2, .int x2, .int x3]))] (fun sz => c48_J7_fill_fda19 l g h1 z2 fn0 ⟨by omega, by omega⟩ sz) gX8_lay_J7_fill_fda19 rfl ⟨rfl, rfl⟩ 4 (by decide) ⟨Nat.le_of_ble_eq_true rfl, Nat.le_of_ble_eq_true rfl⟩ [1] [0] rfl rfl (by decide) (by decide) (by decide) rfl rfl (Nat.le_of_ble_eq_true rfl) ⟨Nat.le_of_ble_eq_true rfl, Nat.le_of_ble_eq_true rfl⟩ (fun  _ w3 => ?_)
  refine r_ws [(h0, .inr (7, [.ref h2, .ref h1, .ref h3, .int z2, .int x2, .int x3])), (h1, .inl (gI g, 0, .inl fn0))] rfl ?_
  refine r_aload_n 30 0 C dX8_lay_30 rfl ?_
  refine r_iconst 31 0 C dX8_lay_31 (by decide) ?_
  refine r_put 32 C dX8_lay_32 (k := 5) 0 rfl rfl hiX8 tyX8 tyX8_ok nmX8 (by decide) rfl (mg 10 rfl) (Or.inl rfl) rfl rfl rfl rfl (Nat.le_of_ble_eq_true rfl) [(h0, .inr (7, [.ref h2, .ref h1, .ref h3, .int z2, .int x2, .int 0])), (h1, .inl (gI g, 0, .inl fn0))] rfl ?_
  exact r_vret 35 Rt dX8_lay_35 z2 trivial [0, 1] (by decide) rfl (Nat.le_of_ble_eq_true rfl) (Nat.le_of_ble_eq_true rfl)
set_option maxHeartbeats 4000000 in
set_option maxRecDepth 100000 in
theorem c50_X3_begin (l : Launch) (g : GD) (h0 : Nat) (h1 : Nat) (h2 : Nat) (h3 : Nat) (h4 : Nat) (h5 : Nat) (h6 : Nat) (h7 : Nat) (h8 : Nat) (h9 : Nat) (h10 : Nat) (x0 : Int32) (x1 : Int32) (x2 : Int32) (x3 : Int32) (x4 : Int32) (x5 : Int32) (x6 : Int32) (h11 : Nat) (x7 : Int32) (x8 : Int32) (x9 : Int32) (h12 : Nat) (x10 : Int32) (x11 : Int32) (x12 : Int32) (h13 : Nat) (x13 : Int32) (x14 : Int32) (x15 : Int32) (fn0 : Nat → Int32) (fn1 : Nat → Int32) (fn2 : Nat → Int32) (fn3 : Nat → Int32) (fn4 : Nat → Int32) (i_x5 : (0 ≤ (Int32.toInt x5) ∧ (Int32.toInt x5) ≤ 1500)) (i_x6 : (0 ≤ (Int32.toInt x6) ∧ (Int32.toInt x6) ≤ 1500)) (sz : Nat) : Met l yX3_begin wsX3_begin ({ frames := 3, cells := 0, slots := 0, locals := 67 }) (va_Pc [.ref h0, .int x0, .ref h1, .int x1] (PW g [(h0, .inr (3, [.ref h2, .ref h3, .ref h4, .ref h5, .int x2, .int x3, .int x4])), (h1, .inr (4, [.ref h6, .int x5])), (h2, .inr (4, [.ref h7, .int x6])), (h3, .inr (7, [.ref h2, .ref h8, .ref h11, .int x7, .int x8, .int x9])), (h4, .inr (7, [.ref h2, .ref h9, .ref h12, .int x10, .int x11, .int x12])), (h5, .inr (7, [.ref h2, .ref h10, .ref h13, .int x13, .int x14, .int x15])), (h6, .inl (gB g, 1500, .inl fn0)), (h7, .inl (gB g, 1500, .inl fn1)), (h8, .inl (gI g, 40, .inl fn2)), (h9, .inl (gI g, 200, .inl fn3)), (h10, .inl (gI g, 0, .inl fn4))] sz)) (va_Qv (fun (u : (Int32) × (Int32) × (Int32) × (Int32) × (Nat → Int32) × (Nat → Int32) × (Nat → Int32)) => 0 ≤ (Int32.toInt (u.1)) ∧ (Int32.toInt (u.1)) ≤ 1500) (BW g (va_A [(h0, .inr (3, [.ref h2, .ref h3, .ref h4, .ref h5, .int x2, .int x3, .int x4])), (h1, .inr (4, [.ref h6, .int x5])), (h2, .inr (4, [.ref h7, .int x6])), (h3, .inr (7, [.ref h2, .ref h8, .ref h11, .int x7, .int x8, .int x9])), (h4, .inr (7, [.ref h2, .ref h9, .ref h12, .int x10, .int x11, .int x12])), (h5, .inr (7, [.ref h2, .ref h10, .ref h13, .int x13, .int x14, .int x15])), (h6, .inl (gB g, 1500, .inl fn0)), (h7, .inl (gB g, 1500, .inl fn1)), (h8, .inl (gI g, 40, .inl fn2)), (h9, .inl (gI g, 200, .inl fn3)), (h10, .inl (gI g, 0, .inl fn4))] sz) (fun u : (Int32) × (Int32) × (Int32) × (Int32) × (Nat → Int32) × (Nat → Int32) × (Nat → Int32) => [(h0, .inr (3, [.ref h2, .ref h3, .ref h4, .ref h5, .int x0, .int 0, .int 0])), (h1, .inr (4, [.ref h6, .int x5])), (h2, .inr (4, [.ref h7, .int u.1])), (h3, .inr (7, [.ref h2, .ref h8, .ref h11, .int u.2.1, .int x8, .int 0])), (h4, .inr (7, [.ref h2, .ref h9, .ref h12, .int u.2.2.1, .int x11, .int 0])), (h5, .inr (7, [.ref h2, .ref h10, .ref h13, .int u.2.2.2.1, .int x14, .int 0])), (h6, .inl (gB g, 1500, .inl fn0)), (h7, .inl (gB g, 1500, .inl u.2.2.2.2.1)), (h8, .inl (gI g, 40, .inl u.2.2.2.2.2.1)), (h9, .inl (gI g, 200, .inl u.2.2.2.2.2.2)), (h10, .inl (gI g, 0, .inl fn4))])) (va_A [(h0, .inr (3, [.ref h2, .ref h3, .ref h4, .ref h5, .int x2, .int x3, .int x4])), (h1, .inr (4, [.ref h6, .int x5])), (h2, .inr (4, [.ref h7, .int x6])), (h3, .inr (7, [.ref h2, .ref h8, .ref h11, .int x7, .int x8, .int x9])), (h4, .inr (7, [.ref h2, .ref h9, .ref h12, .int x10, .int x11, .int x12])), (h5, .inr (7, [.ref h2, .ref h10, .ref h13, .int x13, .int x14, .int x15])), (h6, .inl (gB g, 1500, .inl fn0)), (h7, .inl (gB g, 1500, .inl fn1)), (h8, .inl (gI g, 40, .inl fn2)), (h9, .inl (gI g, 200, .inl fn3)), (h10, .inl (gI g, 0, .inl fn4))] sz)) 0 0 (va_A [(h0, .inr (3, [.ref h2, .ref h3, .ref h4, .ref h5, .int x2, .int x3, .int x4])), (h1, .inr (4, [.ref h6, .int x5])), (h2, .inr (4, [.ref h7, .int x6])), (h3, .inr (7, [.ref h2, .ref h8, .ref h11, .int x7, .int x8, .int x9])), (h4, .inr (7, [.ref h2, .ref h9, .ref h12, .int x10, .int x11, .int x12])), (h5, .inr (7, [.ref h2, .ref h10, .ref h13, .int x13, .int x14, .int x15])), (h6, .inl (gB g, 1500, .inl fn0)), (h7, .inl (gB g, 1500, .inl fn1)), (h8, .inl (gI g, 40, .inl fn2)), (h9, .inl (gI g, 200, .inl fn3)), (h10, .inl (gI g, 0, .inl fn4))] sz) := by
  refine met_v RX3 (by decide) rfl rfl (Nat.le_of_ble_eq_true rfl) [(0, .ref h0), (1, .int x0), (2, .ref h1), (3, .int x1)] rfl ?_
  intro p e s m args below meth c A Q C hnm Rt
  have gx1 := fb_rng x1
  have hiX3 : ∀ w ∈ wsX30, w ∈ wsX3_begin := fun w h => List.mem_cons_of_mem _ (List.mem_append_left _ (List.mem_append_left _ (List.mem_append_right _ (h))))
  refine r_aload_n 0 0 C dX3_begin_0 rfl ?_
  refine r_iload_n 1 1 C dX3_begin_1 rfl ?_
  refine r_put 2 C dX3_begin_2 (k := 4) 0 rfl rfl hiX3 tyX3 tyX3_ok nmX3 (by decide) rfl (mg 1 rfl) (Or.inl rfl) rfl rfl rfl rfl (Nat.le_of_ble_eq_true rfl) [(h0, .inr (3, [.ref h2, .ref h3, .ref h4, .ref h5, .int x0, .int x3, .int x4])), (h1, .inr (4, [.ref h6, .int x5])), (h2, .inr (4, [.ref h7, .int x6])), (h3, .inr (7, [.ref h2, .ref h8, .ref h11, .int x7, .int x8, .int x9])), (h4, .inr (7, [.ref h2, .ref h9, .ref h12, .int x10, .int x11, .int x12])), (h5, .inr (7, [.ref h2, .ref h10, .ref h13, .int x13, .int x14, .int x15])), (h6, .inl (gB g, 1500, .inl fn0)), (h7, .inl (gB g, 1500, .inl fn1)), (h8, .inl (gI g, 40, .inl fn2)), (h9, .inl (gI g, 200, .inl fn3)), (h10, .inl (gI g, 0, .inl fn4))] rfl ?_
  refine r_aload_n 5 0 C dX3_begin_5 rfl ?_
  refine r_get 6 C dX3_begin_6 (k := 0) 0 rfl rfl hiX3 (by decide) rfl (mg 2 rfl) (Or.inl rfl) rfl ?_
  refine r_iconst 9 0 C dX3_begin_9 (by decide) ?_
  refine r_callVv 10 C dX3_begin_10 [] [(h2, .inr (4, [.ref h7, .int x6]))] [(h0, .inr (3, [.ref h2, .ref h3, .ref h4, .ref h5, .int x0, .int x3, .int x4])), (h1, .inr (4, [.ref h6, .int x5])), (h3, .inr (7, [.ref h2, .ref h8, .ref h11, .int x7, .int x8, .int x9])), (h4, .inr (7, [.ref h2, .ref h9, .ref h12, .int x10, .int x11, .int x12])), (h5, .inr (7, [.ref h2, .ref h10, .ref h13, .int x13, .int x14, .int x15])), (h6, .inl (gB g, 1500, .inl fn0)), (h7, .inl (gB g, 1500, .inl fn1)), (h8, .inl (gI g, 40, .inl fn2)), (h9, .inl (gI g, 200, .inl fn3)), (h10, .inl (gI g, 0, .inl fn4))] (fun sz => c4_X5_cut l g h2 0 h7 x6 i_x6 sz) gX3_begin_X5_cut rfl ⟨rfl, rfl⟩ 1 (by decide) ⟨Nat.le_of_ble_eq_true rfl, Nat.le_of_ble_eq_true rfl⟩ 2 rfl rfl [2] [0, 1, 3, 4, 5, 6, 7, 8, 9, 10] rfl rfl (by decide) (by decide) (by decide) rfl rfl (Nat.le_of_ble_eq_true rfl) ⟨Nat.le_of_ble_eq_true rfl, Nat.le_of_ble_eq_true rfl⟩ (fun  z1 w2 => ?_)
  refine r_ws [(h0, .inr (3, [.ref h2, .ref h3, .ref h4, .ref h5, .int x0, .int x3, .int x4])), (h1, .inr (4, [.ref h6, .int x5])), (h3, .inr (7, [.ref h2, .ref h8, .ref h11, .int x7, .int x8, .int x9])), (h4, .inr (7, [.ref h2, .ref h9, .ref h12, .int x10, .int x11, .int x12])), (h5, .inr (7, [.ref h2, .ref h10, .ref h13, .int x13, .int x14, .int x15])), (h6, .inl (gB g, 1500, .inl fn0)), (h7, .inl (gB g, 1500, .inl fn1)), (h8, .inl (gI g, 40, .inl fn2)), (h9, .inl (gI g, 200, .inl fn3)), (h10, .inl (gI g, 0, .inl fn4)), (h2, .inr (4, [.ref h7, .int z1]))] rfl ?_
  have p3 : 0 ≤ (Int32.toInt z1) := w2.2.1
  have p4 : (Int32.toInt z1) ≤ 1500 := w2.2.2
  have w5 : (((0 : Int) < 0 ∧ (Int32.toInt z1) = (Int32.toInt x6)) ∨ (¬ ((0 : Int) < 0) ∧ (Int32.toInt x6) < (0 : Int) ∧ (Int32.toInt z1) = (Int32.toInt x6)) ∨ (¬ ((0 : Int) < 0) ∧ ¬ ((Int32.toInt x6) < (0 : Int)) ∧ (Int32.toInt z1) = (0 : Int))) := w2.1
  rcases w5 with ⟨k6, k7⟩ | w5
  · skip
    exact absurd trivial (by omega)
  rcases w5 with ⟨k8, k9, k10⟩ | w5
  · skip
    exact absurd trivial (by omega)
  obtain ⟨k11, k12, k13⟩ := w5
  refine r_aload_n 13 0 C dX3_begin_13 rfl ?_
  refine r_get 14 C dX3_begin_14 (k := 0) 0 rfl rfl hiX3 (by decide) rfl (mg 2 rfl) (Or.inl rfl) rfl ?_
  refine r_aload_n 17 2 C dX3_begin_17 rfl ?_
  refine r_iload_n 18 3 C dX3_begin_18 rfl ?_
  refine r_callVv 19 C dX3_begin_19 [] [(h2, .inr (4, [.ref h7, .int z1])), (h1, .inr (4, [.ref h6, .int x5])), (h7, .inl (gB g, 1500, .inl fn1)), (h6, .inl (gB g, 1500, .inl fn0))] [(h0, .inr (3, [.ref h2, .ref h3, .ref h4, .ref h5, .int x0, .int x3, .int x4])), (h3, .inr (7, [.ref h2, .ref h8, .ref h11, .int x7, .int x8, .int x9])), (h4, .inr (7, [.ref h2, .ref h9, .ref h12, .int x10, .int x11, .int x12])), (h5, .inr (7, [.ref h2, .ref h10, .ref h13, .int x13, .int x14, .int x15])), (h8, .inl (gI g, 40, .inl fn2)), (h9, .inl (gI g, 200, .inl fn3)), (h10, .inl (gI g, 0, .inl fn4))] (fun sz => c40_X5_addAll l g h2 h1 h7 h6 x1 z1 x5 fn1 fn0 ⟨p3, p4⟩ i_x5 sz) gX3_begin_X5_addAll rfl ⟨rfl, rfl⟩ 2 (by decide) ⟨Nat.le_of_ble_eq_true rfl, Nat.le_of_ble_eq_true rfl⟩ 10 rfl rfl [10, 1, 6, 5] [0, 2, 3, 4, 7, 8, 9] rfl rfl (by decide) (by decide) (by decide) rfl rfl (Nat.le_of_ble_eq_true rfl) ⟨Nat.le_of_ble_eq_true rfl, Nat.le_of_ble_eq_true rfl⟩ (fun  u17 w16 => ?_)
  obtain ⟨z14, f15⟩ := u17
  refine r_ws [(h0, .inr (3, [.ref h2, .ref h3, .ref h4, .ref h5, .int x0, .int x3, .int x4])), (h3, .inr (7, [.ref h2, .ref h8, .ref h11, .int x7, .int x8, .int x9])), (h4, .inr (7, [.ref h2, .ref h9, .ref h12, .int x10, .int x11, .int x12])), (h5, .inr (7, [.ref h2, .ref h10, .ref h13, .int x13, .int x14, .int x15])), (h8, .inl (gI g, 40, .inl fn2)), (h9, .inl (gI g, 200, .inl fn3)), (h10, .inl (gI g, 0, .inl fn4)), (h2, .inr (4, [.ref h7, .int z14])), (h1, .inr (4, [.ref h6, .int x5])), (h7, .inl (gB g, 1500, .inl f15)), (h6, .inl (gB g, 1500, .inl fn0))] rfl ?_
  have p18 : 0 ≤ (Int32.toInt z14) := w16.1
  have p19 : (Int32.toInt z14) ≤ 1500 := w16.2.1
  have p20 : (((Int32.toInt x1) ≤ 0 ∧ (((Int32.toInt x5) ≤ 0 ∧ (Int32.toInt z14) = (Int32.toInt z1)) ∨ (0 < (Int32.toInt x5) ∧ (Int32.toInt z1) + (Int32.toInt x5) ≤ 1500 ∧ (Int32.toInt z14) = (Int32.toInt z1) + (Int32.toInt x5)) ∨ 1500 < (Int32.toInt z1) + (Int32.toInt x5))) ∨ (0 ≤ (Int32.toInt x1) ∧ (((Int32.toInt x5) ≤ (Int32.toInt x1) ∧ (Int32.toInt z14) = (Int32.toInt z1)) ∨ ((Int32.toInt x1) < (Int32.toInt x5) ∧ (Int32.toInt z1) + (Int32.toInt x5) - (Int32.toInt x1) ≤ 1500 ∧ (Int32.toInt z14) = (Int32.toInt z1) + (Int32.toInt x5) - (Int32.toInt x1)) ∨ 1500 < (Int32.toInt z1) + (Int32.toInt x5) - (Int32.toInt x1)))) := w16.2.2
  refine r_aload_n 22 0 C dX3_begin_22 rfl ?_
  refine r_get 23 C dX3_begin_23 (k := 1) 0 rfl rfl hiX3 (by decide) rfl (mg 3 rfl) (Or.inl rfl) rfl ?_
  refine r_iconst 26 0 C dX3_begin_26 (by decide) ?_
  refine r_callVv 27 C dX3_begin_27 [] [(h3, .inr (7, [.ref h2, .ref h8, .ref h11, .int x7, .int x8, .int x9])), (h8, .inl (gI g, 40, .inl fn2))] [(h0, .inr (3, [.ref h2, .ref h3, .ref h4, .ref h5, .int x0, .int x3, .int x4])), (h4, .inr (7, [.ref h2, .ref h9, .ref h12, .int x10, .int x11, .int x12])), (h5, .inr (7, [.ref h2, .ref h10, .ref h13, .int x13, .int x14, .int x15])), (h9, .inl (gI g, 200, .inl fn3)), (h10, .inl (gI g, 0, .inl fn4)), (h2, .inr (4, [.ref h7, .int z14])), (h1, .inr (4, [.ref h6, .int x5])), (h7, .inl (gB g, 1500, .inl f15)), (h6, .inl (gB g, 1500, .inl fn0))] (fun sz => c43_X8_lay l g h3 h8 0 h2 h11 x7 x8 x9 fn2  sz) gX3_begin_X8_lay rfl ⟨rfl, rfl⟩ 1 (by decide) ⟨Nat.le_of_ble_eq_true rfl, Nat.le_of_ble_eq_true rfl⟩ 1 rfl rfl [1, 4] [0, 2, 3, 5, 6, 7, 8, 9, 10] rfl rfl (by decide) (by decide) (by decide) rfl rfl (Nat.le_of_ble_eq_true rfl) ⟨Nat.le_of_ble_eq_true rfl, Nat.le_of_ble_eq_true rfl⟩ (fun  u24 w23 => ?_)
  obtain ⟨z21, f22⟩ := u24
  refine r_ws [(h0, .inr (3, [.ref h2, .ref h3, .ref h4, .ref h5, .int x0, .int x3, .int x4])), (h4, .inr (7, [.ref h2, .ref h9, .ref h12, .int x10, .int x11, .int x12])), (h5, .inr (7, [.ref h2, .ref h10, .ref h13, .int x13, .int x14, .int x15])), (h9, .inl (gI g, 200, .inl fn3)), (h10, .inl (gI g, 0, .inl fn4)), (h2, .inr (4, [.ref h7, .int z14])), (h1, .inr (4, [.ref h6, .int x5])), (h7, .inl (gB g, 1500, .inl f15)), (h6, .inl (gB g, 1500, .inl fn0)), (h3, .inr (7, [.ref h2, .ref h8, .ref h11, .int z21, .int x8, .int 0])), (h8, .inl (gI g, 40, .inl f22))] rfl ?_
  have gz21 := fb_rng z21
  refine r_aload_n 30 0 C dX3_begin_30 rfl ?_
  refine r_get 31 C dX3_begin_31 (k := 2) 0 rfl rfl hiX3 (by decide) rfl (mg 4 rfl) (Or.inl rfl) rfl ?_
  refine r_iconst 34 0 C dX3_begin_34 (by decide) ?_
  refine r_callVv 35 C dX3_begin_35 [] [(h4, .inr (7, [.ref h2, .ref h9, .ref h12, .int x10, .int x11, .int x12])), (h9, .inl (gI g, 200, .inl fn3))] [(h0, .inr (3, [.ref h2, .ref h3, .ref h4, .ref h5, .int x0, .int x3, .int x4])), (h5, .inr (7, [.ref h2, .ref h10, .ref h13, .int x13, .int x14, .int x15])), (h10, .inl (gI g, 0, .inl fn4)), (h2, .inr (4, [.ref h7, .int z14])), (h1, .inr (4, [.ref h6, .int x5])), (h7, .inl (gB g, 1500, .inl f15)), (h6, .inl (gB g, 1500, .inl fn0)), (h3, .inr (7, [.ref h2, .ref h8, .ref h11, .int z21, .int x8, .int 0])), (h8, .inl (gI g, 40, .inl f22))] (fun sz => c46_X8_lay l g h4 h9 0 h2 h12 x10 x11 x12 fn3  sz) gX3_begin_X8_lay rfl ⟨rfl, rfl⟩ 1 (by decide) ⟨Nat.le_of_ble_eq_true rfl, Nat.le_of_ble_eq_true rfl⟩ 1 rfl rfl [1, 3] [0, 2, 4, 5, 6, 7, 8, 9, 10] rfl rfl (by decide) (by decide) (by decide) rfl rfl (Nat.le_of_ble_eq_true rfl) ⟨Nat.le_of_ble_eq_true rfl, Nat.le_of_ble_eq_true rfl⟩ (fun  u28 w27 => ?_)
  obtain ⟨z25, f26⟩ := u28
  refine r_ws [(h0, .inr (3, [.ref h2, .ref h3, .ref h4, .ref h5, .int x0, .int x3, .int x4])), (h5, .inr (7, [.ref h2, .ref h10, .ref h13, .int x13, .int x14, .int x15])), (h10, .inl (gI g, 0, .inl fn4)), (h2, .inr (4, [.ref h7, .int z14])), (h1, .inr (4, [.ref h6, .int x5])), (h7, .inl (gB g, 1500, .inl f15)), (h6, .inl (gB g, 1500, .inl fn0)), (h3, .inr (7, [.ref h2, .ref h8, .ref h11, .int z21, .int x8, .int 0])), (h8, .inl (gI g, 40, .inl f22)), (h4, .inr (7, [.ref h2, .ref h9, .ref h12, .int z25, .int x11, .int 0])), (h9, .inl (gI g, 200, .inl f26))] rfl ?_
  have gz25 := fb_rng z25
  refine r_aload_n 38 0 C dX3_begin_38 rfl ?_
  refine r_get 39 C dX3_begin_39 (k := 3) 0 rfl rfl hiX3 (by decide) rfl (mg 5 rfl) (Or.inl rfl) rfl ?_
  refine r_iconst 42 0 C dX3_begin_42 (by decide) ?_
  refine r_callVv 43 C dX3_begin_43 [] [(h5, .inr (7, [.ref h2, .ref h10, .ref h13, .int x13, .int x14, .int x15])), (h10, .inl (gI g, 0, .inl fn4))] [(h0, .inr (3, [.ref h2, .ref h3, .ref h4, .ref h5, .int x0, .int x3, .int x4])), (h2, .inr (4, [.ref h7, .int z14])), (h1, .inr (4, [.ref h6, .int x5])), (h7, .inl (gB g, 1500, .inl f15)), (h6, .inl (gB g, 1500, .inl fn0)), (h3, .inr (7, [.ref h2, .ref h8, .ref h11, .int z21, .int x8, .int 0])), (h8, .inl (gI g, 40, .inl f22)), (h4, .inr (7, [.ref h2, .ref h9, .ref h12, .int z25, .int x11, .int 0])), (h9, .inl (gI g, 200, .inl f26))] (fun sz => c49_X8_lay l g h5 h10 0 h2 h13 x13 x14 x15 fn4  sz) gX3_begin_X8_lay rfl ⟨rfl, rfl⟩ 1 (by decide) ⟨Nat.le_of_ble_eq_true rfl, Nat.le_of_ble_eq_true rfl⟩ 1 rfl rfl [1, 2] [0, 3, 4, 5, 6, 7, 8, 9, 10] rfl rfl (by decide) (by decide) (by decide) rfl rfl (Nat.le_of_ble_eq_true rfl) ⟨Nat.le_of_ble_eq_true rfl, Nat.le_of_ble_eq_true rfl⟩ (fun  z29 w30 => ?_)
  refine r_ws [(h0, .inr (3, [.ref h2, .ref h3, .ref h4, .ref h5, .int x0, .int x3, .int x4])), (h2, .inr (4, [.ref h7, .int z14])), (h1, .inr (4, [.ref h6, .int x5])), (h7, .inl (gB g, 1500, .inl f15)), (h6, .inl (gB g, 1500, .inl fn0)), (h3, .inr (7, [.ref h2, .ref h8, .ref h11, .int z21, .int x8, .int 0])), (h8, .inl (gI g, 40, .inl f22)), (h4, .inr (7, [.ref h2, .ref h9, .ref h12, .int z25, .int x11, .int 0])), (h9, .inl (gI g, 200, .inl f26)), (h5, .inr (7, [.ref h2, .ref h10, .ref h13, .int z29, .int x14, .int 0])), (h10, .inl (gI g, 0, .inl fn4))] rfl ?_
  have gz29 := fb_rng z29
  refine r_aload_n 46 0 C dX3_begin_46 rfl ?_
  refine r_iconst 47 0 C dX3_begin_47 (by decide) ?_
  refine r_put 48 C dX3_begin_48 (k := 5) 0 rfl rfl hiX3 tyX3 tyX3_ok nmX3 (by decide) rfl (mg 6 rfl) (Or.inl rfl) rfl rfl rfl rfl (Nat.le_of_ble_eq_true rfl) [(h0, .inr (3, [.ref h2, .ref h3, .ref h4, .ref h5, .int x0, .int 0, .int x4])), (h2, .inr (4, [.ref h7, .int z14])), (h1, .inr (4, [.ref h6, .int x5])), (h7, .inl (gB g, 1500, .inl f15)), (h6, .inl (gB g, 1500, .inl fn0)), (h3, .inr (7, [.ref h2, .ref h8, .ref h11, .int z21, .int x8, .int 0])), (h8, .inl (gI g, 40, .inl f22)), (h4, .inr (7, [.ref h2, .ref h9, .ref h12, .int z25, .int x11, .int 0])), (h9, .inl (gI g, 200, .inl f26)), (h5, .inr (7, [.ref h2, .ref h10, .ref h13, .int z29, .int x14, .int 0])), (h10, .inl (gI g, 0, .inl fn4))] rfl ?_
  refine r_aload_n 51 0 C dX3_begin_51 rfl ?_
  refine r_iconst 52 0 C dX3_begin_52 (by decide) ?_
  refine r_put 53 C dX3_begin_53 (k := 6) 0 rfl rfl hiX3 tyX3 tyX3_ok nmX3 (by decide) rfl (mg 7 rfl) (Or.inl rfl) rfl rfl rfl rfl (Nat.le_of_ble_eq_true rfl) [(h0, .inr (3, [.ref h2, .ref h3, .ref h4, .ref h5, .int x0, .int 0, .int 0])), (h2, .inr (4, [.ref h7, .int z14])), (h1, .inr (4, [.ref h6, .int x5])), (h7, .inl (gB g, 1500, .inl f15)), (h6, .inl (gB g, 1500, .inl fn0)), (h3, .inr (7, [.ref h2, .ref h8, .ref h11, .int z21, .int x8, .int 0])), (h8, .inl (gI g, 40, .inl f22)), (h4, .inr (7, [.ref h2, .ref h9, .ref h12, .int z25, .int x11, .int 0])), (h9, .inl (gI g, 200, .inl f26)), (h5, .inr (7, [.ref h2, .ref h10, .ref h13, .int z29, .int x14, .int 0])), (h10, .inl (gI g, 0, .inl fn4))] rfl ?_
  exact r_vret 56 Rt dX3_begin_56 (z14, z21, z25, z29, f15, f22, f26) (show 0 ≤ (Int32.toInt z14) ∧ (Int32.toInt z14) ≤ 1500 from ⟨(show _ ∧ _ from ⟨p18, p19⟩).1, (show _ ∧ _ from ⟨p18, p19⟩).2⟩) [0, 2, 1, 5, 7, 9, 4, 3, 6, 8, 10] (by decide) rfl (Nat.le_of_ble_eq_true rfl) (Nat.le_of_ble_eq_true rfl)
set_option maxHeartbeats 4000000 in
set_option maxRecDepth 100000 in
theorem c51_X1_wrong (l : Launch) (g : GD) (h0 : Nat) (x0 : Int32) (h1 : Nat) (h2 : Nat) (h3 : Nat) (x1 : Int32) (y0 : Int64) (y1 : Int64) (x2 : Int32) (x3 : Int32) (y2 : Int64) (y3 : Int64) (i_x2 : (-257 ≤ (Int32.toInt x2) ∧ (Int32.toInt x2) ≤ 65535)) (sz : Nat) : Met l yX1_wrong wsX1_wrong ({ frames := 0, cells := 0, slots := 0, locals := 0 }) (va_Pc [.ref h0, .int x0] (PW g [(h0, .inr (1, [.ref h1, .ref h2, .ref h3, .int x1, .long y0, .long y1, .int x2, .int x3, .long y2, .long y3]))] sz)) (va_Qv (fun (u : (Int32)) => True) (BW g (va_A [(h0, .inr (1, [.ref h1, .ref h2, .ref h3, .int x1, .long y0, .long y1, .int x2, .int x3, .long y2, .long y3]))] sz) (fun u : (Int32) => [(h0, .inr (1, [.ref h1, .ref h2, .ref h3, .int u, .long y0, .long y1, .int x2, .int x3, .long y2, .long y3]))])) (va_A [(h0, .inr (1, [.ref h1, .ref h2, .ref h3, .int x1, .long y0, .long y1, .int x2, .int x3, .long y2, .long y3]))] sz)) 0 0 (va_A [(h0, .inr (1, [.ref h1, .ref h2, .ref h3, .int x1, .long y0, .long y1, .int x2, .int x3, .long y2, .long y3]))] sz) := by
  refine met_v RX1 (by decide) rfl rfl (Nat.le_of_ble_eq_true rfl) [(0, .ref h0), (1, .int x0)] rfl ?_
  intro p e s m args below meth c A Q C hnm Rt
  have gx1 := fb_rng x1
  have hiX1 : ∀ w ∈ wsX10, w ∈ wsX1_wrong := fun w h => List.mem_cons_of_mem _ (List.mem_append_right _ (h))
  refine r_aload_n 0 0 C dX1_wrong_0 rfl ?_
  refine r_get 1 C dX1_wrong_1 (k := 3) 0 rfl rfl hiX1 (by decide) rfl (mg 1 rfl) (Or.inl rfl) rfl ?_
  refine r_if_ne 4 12 C dX1_wrong_4 (by decide) (fun c1 => ?_) (fun c1 => ?_)
  · skip
    have k2 : ¬ ((Int32.toInt x1) = 0) := fun h_9 => c1 ((fa_eq x1 0).mpr h_9)
    exact r_vret 12 Rt dX1_wrong_12 x1 trivial [0] (by decide) rfl (Nat.le_of_ble_eq_true rfl) (Nat.le_of_ble_eq_true rfl)
  · skip
    have k3 : (Int32.toInt x1) = 0 := (fa_eq x1 0).mp c1
    refine r_aload_n 7 0 C dX1_wrong_7 rfl ?_
    refine r_iload_n 8 1 C dX1_wrong_8 rfl ?_
    refine r_put 9 C dX1_wrong_9 (k := 3) 0 rfl rfl hiX1 tyX1 tyX1_ok nmX1 (by decide) rfl (mg 1 rfl) (Or.inl rfl) rfl rfl rfl rfl (Nat.le_of_ble_eq_true rfl) [(h0, .inr (1, [.ref h1, .ref h2, .ref h3, .int x0, .long y0, .long y1, .int x2, .int x3, .long y2, .long y3]))] rfl ?_
    exact r_vret 12 Rt dX1_wrong_12 x0 trivial [0] (by decide) rfl (Nat.le_of_ble_eq_true rfl) (Nat.le_of_ble_eq_true rfl)
set_option maxHeartbeats 4000000 in
set_option maxRecDepth 100000 in
theorem c52_X1_take (l : Launch) (g : GD) (h0 : Nat) (h1 : Nat) (h2 : Nat) (h3 : Nat) (h4 : Nat) (x0 : Int32) (y0 : Int64) (y1 : Int64) (x1 : Int32) (x2 : Int32) (y2 : Int64) (y3 : Int64) (x3 : Int32) (fn0 : Nat → Int32) (i_x1 : (-257 ≤ (Int32.toInt x1) ∧ (Int32.toInt x1) ≤ 65535)) (i_x3 : (0 ≤ (Int32.toInt x3) ∧ (Int32.toInt x3) ≤ 1500)) (sz : Nat) : Met l yX1_take wsX1_take ({ frames := 1, cells := 0, slots := 0, locals := 22 }) (va_Pc [.ref h0] (PW g [(h0, .inr (1, [.ref h3, .ref h4, .ref h1, .int x0, .long y0, .long y1, .int x1, .int x2, .long y2, .long y3])), (h1, .inr (4, [.ref h2, .int x3])), (h2, .inl (gB g, 1500, .inl fn0))] sz)) (va_Qi (fun (r : Int32) (u : (Int32) × (Int64)) => -1 ≤ (Int32.toInt r) ∧ (Int32.toInt r) ≤ 255) (BW g (va_A [(h0, .inr (1, [.ref h3, .ref h4, .ref h1, .int x0, .long y0, .long y1, .int x1, .int x2, .long y2, .long y3])), (h1, .inr (4, [.ref h2, .int x3])), (h2, .inl (gB g, 1500, .inl fn0))] sz) (fun u : (Int32) × (Int64) => [(h0, .inr (1, [.ref h3, .ref h4, .ref h1, .int u.1, .long u.2, .long y1, .int x1, .int x2, .long y2, .long y3])), (h1, .inr (4, [.ref h2, .int x3])), (h2, .inl (gB g, 1500, .inl fn0))])) (va_A [(h0, .inr (1, [.ref h3, .ref h4, .ref h1, .int x0, .long y0, .long y1, .int x1, .int x2, .long y2, .long y3])), (h1, .inr (4, [.ref h2, .int x3])), (h2, .inl (gB g, 1500, .inl fn0))] sz)) 0 0 (va_A [(h0, .inr (1, [.ref h3, .ref h4, .ref h1, .int x0, .long y0, .long y1, .int x1, .int x2, .long y2, .long y3])), (h1, .inr (4, [.ref h2, .int x3])), (h2, .inl (gB g, 1500, .inl fn0))] sz) := by
  refine met_i RX1 (by decide) rfl rfl (Nat.le_of_ble_eq_true rfl) [(0, .ref h0)] rfl ?_
  intro p e s m args below meth c A Q C hnm Rt
  have gx0 := fb_rng x0
  have gy0 := fb_rngL y0
  have gy1 := fb_rngL y1
  have hiX1 : ∀ w ∈ wsX10, w ∈ wsX1_take := fun w h => List.mem_cons_of_mem _ (List.mem_append_left _ (List.mem_append_right _ (h)))
  refine r_aload_n 0 0 C dX1_take_0 rfl ?_
  refine r_get 1 C dX1_take_1 (k := 4) 0 rfl rfl hiX1 (by decide) rfl (mg 1 rfl) (Or.inl rfl) rfl ?_
  refine r_lconst 4 0 C dX1_take_4 (by decide) ?_
  obtain ⟨z1, ez1⟩ : ∃ z_9, lg_cmp y0 0 = z_9 := ⟨_, rfl⟩
  have l1z1 : (Int32.toInt z1) < 0 ↔ (Int64.toInt y0) < 0 := by rw [← ez1]; exact lgI1 y0 0
  have l2z1 : 0 < (Int32.toInt z1) ↔ 0 < (Int64.toInt y0) := by rw [← ez1]; exact lgI2 y0 0
  refine r_lcmp 5 z1 C dX1_take_5 ez1 ?_
  refine r_if_lt 6 25 C dX1_take_6 (by decide) (fun c2 => ?_) (fun c2 => ?_)
  · skip
    have k3 : (Int32.toInt z1) < 0 := (fa_lt z1 0).mp c2
    refine r_aload_n 25 0 C dX1_take_25 rfl ?_
    refine r_iconst 26 1 C dX1_take_26 (by decide) ?_
    refine r_callVv 27 C dX1_take_27 [] [(h0, .inr (1, [.ref h3, .ref h4, .ref h1, .int x0, .long y0, .long y1, .int x1, .int x2, .long y2, .long y3]))] [(h1, .inr (4, [.ref h2, .int x3])), (h2, .inl (gB g, 1500, .inl fn0))] (fun sz => c51_X1_wrong l g h0 1 h3 h4 h1 x0 y0 y1 x1 x2 y2 y3 i_x1 sz) gX1_take_X1_wrong rfl ⟨rfl, rfl⟩ 1 (by decide) ⟨Nat.le_of_ble_eq_true rfl, Nat.le_of_ble_eq_true rfl⟩ 0 rfl rfl [0] [1, 2] rfl rfl (by decide) (by decide) (by decide) rfl rfl (Nat.le_of_ble_eq_true rfl) ⟨Nat.le_of_ble_eq_true rfl, Nat.le_of_ble_eq_true rfl⟩ (fun  z4 w5 => ?_)
    refine r_ws [(h1, .inr (4, [.ref h2, .int x3])), (h2, .inl (gB g, 1500, .inl fn0)), (h0, .inr (1, [.ref h3, .ref h4, .ref h1, .int z4, .long y0, .long y1, .int x1, .int x2, .long y2, .long y3]))] rfl ?_
    have gz4 := fb_rng z4
    refine r_goto 30 50 C dX1_take_30 (by decide) ?_
    refine r_aload_n 50 0 C dX1_take_50 rfl ?_
    refine r_get 51 C dX1_take_51 (k := 3) 2 rfl rfl hiX1 (by decide) rfl (mg 4 rfl) (Or.inl rfl) rfl ?_
    refine r_if_eq 54 59 C dX1_take_54 (by decide) (fun c6 => ?_) (fun c6 => ?_)
    · skip
      have k7 : (Int32.toInt z4) = 0 := (fa_eq z4 0).mp c6
      refine r_aload_n 59 0 C dX1_take_59 rfl ?_
      refine r_get 60 C dX1_take_60 (k := 2) 2 rfl rfl hiX1 (by decide) rfl (mg 2 rfl) (Or.inl rfl) rfl ?_
      refine r_aload_n 63 0 C dX1_take_63 rfl ?_
      refine r_get 64 C dX1_take_64 (k := 4) 2 rfl rfl hiX1 (by decide) rfl (mg 1 rfl) (Or.inl rfl) rfl ?_
      refine r_callVi 67 C dX1_take_67 [] [(h1, .inr (4, [.ref h2, .int x3])), (h2, .inl (gB g, 1500, .inl fn0))] [(h0, .inr (1, [.ref h3, .ref h4, .ref h1, .int z4, .long y0, .long y1, .int x1, .int x2, .long y2, .long y3]))] (fun sz => c14_X5_get l g h1 h2 y0 x3 fn0 i_x3 sz) gX1_take_X5_get rfl ⟨rfl, rfl⟩ 1 (by decide) ⟨Nat.le_of_ble_eq_true rfl, Nat.le_of_ble_eq_true rfl⟩ 0 rfl rfl [0, 1] [2] rfl rfl (by decide) (by decide) (by decide) rfl rfl (Nat.le_of_ble_eq_true rfl) ⟨Nat.le_of_ble_eq_true rfl, Nat.le_of_ble_eq_true rfl⟩ (fun r8 _ w9 => ?_)
      refine r_ws [(h0, .inr (1, [.ref h3, .ref h4, .ref h1, .int z4, .long y0, .long y1, .int x1, .int x2, .long y2, .long y3])), (h1, .inr (4, [.ref h2, .int x3])), (h2, .inl (gB g, 1500, .inl fn0))] rfl ?_
      have p10 : -1 ≤ (Int32.toInt r8) := w9.1
      have p11 : (Int32.toInt r8) ≤ 255 := w9.2
      refine r_istore_n 70 C dX1_take_70 [(1, .int r8), (0, .ref h0)] (by decide) rfl ?_
      refine r_aload_n 71 1 C dX1_take_71 rfl ?_
      refine r_dup 72 C dX1_take_72 rfl ?_
      refine r_get 73 C dX1_take_73 (k := 4) 0 rfl rfl hiX1 (by decide) rfl (mg 1 rfl) (Or.inl rfl) rfl ?_
      refine r_lconst 76 1 C dX1_take_76 (by decide) ?_
      obtain ⟨z12, ez12⟩ : ∃ z_9, y0 + 1 = z_9 := ⟨_, rfl⟩
      have tz12 : (Int64.toInt z12) = (Int64.toInt y0) + 1 := by rw [← ez12]; exact fb_addL (by show -9223372036854775808 ≤ (Int64.toInt y0) + 1; omega) (by show (Int64.toInt y0) + 1 < 9223372036854775808; omega)
      refine r_ladd 77 z12 C dX1_take_77 ez12 ?_
      refine r_put 78 C dX1_take_78 (k := 4) 0 rfl rfl hiX1 tyX1 tyX1_ok nmX1 (by decide) rfl (mg 1 rfl) (Or.inl rfl) rfl rfl rfl rfl (Nat.le_of_ble_eq_true rfl) [(h0, .inr (1, [.ref h3, .ref h4, .ref h1, .int z4, .long z12, .long y1, .int x1, .int x2, .long y2, .long y3])), (h1, .inr (4, [.ref h2, .int x3])), (h2, .inl (gB g, 1500, .inl fn0))] rfl ?_
      refine r_iload_n 81 0 C dX1_take_81 rfl ?_
      exact r_iret 82 Rt dX1_take_82 (z4, z12) (show -1 ≤ (Int32.toInt r8) ∧ (Int32.toInt r8) ≤ 255 from ⟨(show _ ∧ _ from ⟨p10, p11⟩).1, (show _ ∧ _ from ⟨p10, p11⟩).2⟩) [0, 1, 2] (by decide) rfl (Nat.le_of_ble_eq_true rfl) (Nat.le_of_ble_eq_true rfl)
    · skip
      have k13 : ¬ ((Int32.toInt z4) = 0) := fun h_9 => c6 ((fa_eq z4 0).mpr h_9)
      refine r_iconst 57 (-1) C dX1_take_57 (by decide) ?_
      exact r_iret 58 Rt dX1_take_58 (z4, y0) (show -1 ≤ (Int32.toInt (-1)) ∧ (Int32.toInt (-1)) ≤ 255 from ⟨(by ((repeat' apply And.intro) <;> first | trivial | rfl | assumption | omega | decide | exact Or.inl rfl | exact Or.inr (Or.inl rfl) | exact Or.inr (Or.inr rfl))), (by ((repeat' apply And.intro) <;> first | trivial | rfl | assumption | omega | decide | exact Or.inl rfl | exact Or.inr (Or.inl rfl) | exact Or.inr (Or.inr rfl)))⟩) [2, 0, 1] (by decide) rfl (Nat.le_of_ble_eq_true rfl) (Nat.le_of_ble_eq_true rfl)
  · skip
    have k14 : ¬ ((Int32.toInt z1) < 0) := fun h_9 => c2 ((fa_lt z1 0).mpr h_9)
    refine r_aload_n 9 0 C dX1_take_9 rfl ?_
    refine r_get 10 C dX1_take_10 (k := 4) 0 rfl rfl hiX1 (by decide) rfl (mg 1 rfl) (Or.inl rfl) rfl ?_
    refine r_aload_n 13 0 C dX1_take_13 rfl ?_
    refine r_get 14 C dX1_take_14 (k := 2) 0 rfl rfl hiX1 (by decide) rfl (mg 2 rfl) (Or.inl rfl) rfl ?_
    refine r_callVi 17 C dX1_take_17 [.long y0] [(h1, .inr (4, [.ref h2, .int x3]))] [(h0, .inr (1, [.ref h3, .ref h4, .ref h1, .int x0, .long y0, .long y1, .int x1, .int x2, .long y2, .long y3])), (h2, .inl (gB g, 1500, .inl fn0))] (fun sz => c0_X5_size l g h1 h2 x3 i_x3 sz) gX1_take_X5_size rfl ⟨rfl, rfl⟩ 0 (by decide) ⟨Nat.le_of_ble_eq_true rfl, Nat.le_of_ble_eq_true rfl⟩ 1 rfl rfl [1] [0, 2] rfl rfl (by decide) (by decide) (by decide) rfl rfl (Nat.le_of_ble_eq_true rfl) ⟨Nat.le_of_ble_eq_true rfl, Nat.le_of_ble_eq_true rfl⟩ (fun r15 _ w16 => ?_)
    refine r_ws [(h0, .inr (1, [.ref h3, .ref h4, .ref h1, .int x0, .long y0, .long y1, .int x1, .int x2, .long y2, .long y3])), (h2, .inl (gB g, 1500, .inl fn0)), (h1, .inr (4, [.ref h2, .int x3]))] rfl ?_
    have p17 : x3 = r15 := (w16).symm
    subst p17
    obtain ⟨z18, ez18⟩ : ∃ z_9, Int32.toInt64 x3 = z_9 := ⟨_, rfl⟩
    have tz18 : (Int64.toInt z18) = (Int32.toInt x3) := by rw [← ez18]; exact Int32.toInt_toInt64 _
    refine r_i2l 20 z18 C dX1_take_20 ez18 ?_
    obtain ⟨z19, ez19⟩ : ∃ z_9, lg_cmp y0 z18 = z_9 := ⟨_, rfl⟩
    have l1z19 : (Int32.toInt z19) < 0 ↔ (Int64.toInt y0) < (Int64.toInt z18) := by rw [← ez19]; exact lgI1 y0 z18
    have l2z19 : 0 < (Int32.toInt z19) ↔ (Int64.toInt z18) < (Int64.toInt y0) := by rw [← ez19]; exact lgI2 y0 z18
    refine r_lcmp 21 z19 C dX1_take_21 ez19 ?_
    refine r_if_lt 22 33 C dX1_take_22 (by decide) (fun c20 => ?_) (fun c20 => ?_)
    · skip
      have k21 : (Int32.toInt z19) < 0 := (fa_lt z19 0).mp c20
      refine r_aload_n 33 0 C dX1_take_33 rfl ?_
      refine r_get 34 C dX1_take_34 (k := 4) 0 rfl rfl hiX1 (by decide) rfl (mg 1 rfl) (Or.inl rfl) rfl ?_
      refine r_aload_n 37 0 C dX1_take_37 rfl ?_
      refine r_get 38 C dX1_take_38 (k := 5) 0 rfl rfl hiX1 (by decide) rfl (mg 3 rfl) (Or.inl rfl) rfl ?_
      obtain ⟨z22, ez22⟩ : ∃ z_9, lg_cmp y0 y1 = z_9 := ⟨_, rfl⟩
      have l1z22 : (Int32.toInt z22) < 0 ↔ (Int64.toInt y0) < (Int64.toInt y1) := by rw [← ez22]; exact lgI1 y0 y1
      have l2z22 : 0 < (Int32.toInt z22) ↔ (Int64.toInt y1) < (Int64.toInt y0) := by rw [← ez22]; exact lgI2 y0 y1
      refine r_lcmp 41 z22 C dX1_take_41 ez22 ?_
      refine r_if_lt 42 50 C dX1_take_42 (by decide) (fun c23 => ?_) (fun c23 => ?_)
      · skip
        have k24 : (Int32.toInt z22) < 0 := (fa_lt z22 0).mp c23
        refine r_aload_n 50 0 C dX1_take_50 rfl ?_
        refine r_get 51 C dX1_take_51 (k := 3) 0 rfl rfl hiX1 (by decide) rfl (mg 4 rfl) (Or.inl rfl) rfl ?_
        refine r_if_eq 54 59 C dX1_take_54 (by decide) (fun c25 => ?_) (fun c25 => ?_)
        · skip
          have k26 : (Int32.toInt x0) = 0 := (fa_eq x0 0).mp c25
          refine r_aload_n 59 0 C dX1_take_59 rfl ?_
          refine r_get 60 C dX1_take_60 (k := 2) 0 rfl rfl hiX1 (by decide) rfl (mg 2 rfl) (Or.inl rfl) rfl ?_
          refine r_aload_n 63 0 C dX1_take_63 rfl ?_
          refine r_get 64 C dX1_take_64 (k := 4) 0 rfl rfl hiX1 (by decide) rfl (mg 1 rfl) (Or.inl rfl) rfl ?_
          refine r_callVi 67 C dX1_take_67 [] [(h1, .inr (4, [.ref h2, .int x3])), (h2, .inl (gB g, 1500, .inl fn0))] [(h0, .inr (1, [.ref h3, .ref h4, .ref h1, .int x0, .long y0, .long y1, .int x1, .int x2, .long y2, .long y3]))] (fun sz => c14_X5_get l g h1 h2 y0 x3 fn0 i_x3 sz) gX1_take_X5_get rfl ⟨rfl, rfl⟩ 1 (by decide) ⟨Nat.le_of_ble_eq_true rfl, Nat.le_of_ble_eq_true rfl⟩ 2 rfl rfl [2, 1] [0] rfl rfl (by decide) (by decide) (by decide) rfl rfl (Nat.le_of_ble_eq_true rfl) ⟨Nat.le_of_ble_eq_true rfl, Nat.le_of_ble_eq_true rfl⟩ (fun r27 _ w28 => ?_)
          refine r_ws [(h0, .inr (1, [.ref h3, .ref h4, .ref h1, .int x0, .long y0, .long y1, .int x1, .int x2, .long y2, .long y3])), (h1, .inr (4, [.ref h2, .int x3])), (h2, .inl (gB g, 1500, .inl fn0))] rfl ?_
          have p29 : -1 ≤ (Int32.toInt r27) := w28.1
          have p30 : (Int32.toInt r27) ≤ 255 := w28.2
          refine r_istore_n 70 C dX1_take_70 [(1, .int r27), (0, .ref h0)] (by decide) rfl ?_
          refine r_aload_n 71 1 C dX1_take_71 rfl ?_
          refine r_dup 72 C dX1_take_72 rfl ?_
          refine r_get 73 C dX1_take_73 (k := 4) 0 rfl rfl hiX1 (by decide) rfl (mg 1 rfl) (Or.inl rfl) rfl ?_
          refine r_lconst 76 1 C dX1_take_76 (by decide) ?_
          obtain ⟨z31, ez31⟩ : ∃ z_9, y0 + 1 = z_9 := ⟨_, rfl⟩
          have tz31 : (Int64.toInt z31) = (Int64.toInt y0) + 1 := by rw [← ez31]; exact fb_addL (by show -9223372036854775808 ≤ (Int64.toInt y0) + 1; omega) (by show (Int64.toInt y0) + 1 < 9223372036854775808; omega)
          refine r_ladd 77 z31 C dX1_take_77 ez31 ?_
          refine r_put 78 C dX1_take_78 (k := 4) 0 rfl rfl hiX1 tyX1 tyX1_ok nmX1 (by decide) rfl (mg 1 rfl) (Or.inl rfl) rfl rfl rfl rfl (Nat.le_of_ble_eq_true rfl) [(h0, .inr (1, [.ref h3, .ref h4, .ref h1, .int x0, .long z31, .long y1, .int x1, .int x2, .long y2, .long y3])), (h1, .inr (4, [.ref h2, .int x3])), (h2, .inl (gB g, 1500, .inl fn0))] rfl ?_
          refine r_iload_n 81 0 C dX1_take_81 rfl ?_
          exact r_iret 82 Rt dX1_take_82 (x0, z31) (show -1 ≤ (Int32.toInt r27) ∧ (Int32.toInt r27) ≤ 255 from ⟨(show _ ∧ _ from ⟨p29, p30⟩).1, (show _ ∧ _ from ⟨p29, p30⟩).2⟩) [0, 1, 2] (by decide) rfl (Nat.le_of_ble_eq_true rfl) (Nat.le_of_ble_eq_true rfl)
        · skip
          have k32 : ¬ ((Int32.toInt x0) = 0) := fun h_9 => c25 ((fa_eq x0 0).mpr h_9)
          refine r_iconst 57 (-1) C dX1_take_57 (by decide) ?_
          exact r_iret 58 Rt dX1_take_58 (x0, y0) (show -1 ≤ (Int32.toInt (-1)) ∧ (Int32.toInt (-1)) ≤ 255 from ⟨(by ((repeat' apply And.intro) <;> first | trivial | rfl | assumption | omega | decide | exact Or.inl rfl | exact Or.inr (Or.inl rfl) | exact Or.inr (Or.inr rfl))), (by ((repeat' apply And.intro) <;> first | trivial | rfl | assumption | omega | decide | exact Or.inl rfl | exact Or.inr (Or.inl rfl) | exact Or.inr (Or.inr rfl)))⟩) [0, 2, 1] (by decide) rfl (Nat.le_of_ble_eq_true rfl) (Nat.le_of_ble_eq_true rfl)
      · skip
        have k33 : ¬ ((Int32.toInt z22) < 0) := fun h_9 => c23 ((fa_lt z22 0).mpr h_9)
        refine r_aload_n 45 0 C dX1_take_45 rfl ?_
        refine r_iconst 46 2 C dX1_take_46 (by decide) ?_
        refine r_callVv 47 C dX1_take_47 [] [(h0, .inr (1, [.ref h3, .ref h4, .ref h1, .int x0, .long y0, .long y1, .int x1, .int x2, .long y2, .long y3]))] [(h2, .inl (gB g, 1500, .inl fn0)), (h1, .inr (4, [.ref h2, .int x3]))] (fun sz => c51_X1_wrong l g h0 2 h3 h4 h1 x0 y0 y1 x1 x2 y2 y3 i_x1 sz) gX1_take_X1_wrong rfl ⟨rfl, rfl⟩ 1 (by decide) ⟨Nat.le_of_ble_eq_true rfl, Nat.le_of_ble_eq_true rfl⟩ 0 rfl rfl [0] [1, 2] rfl rfl (by decide) (by decide) (by decide) rfl rfl (Nat.le_of_ble_eq_true rfl) ⟨Nat.le_of_ble_eq_true rfl, Nat.le_of_ble_eq_true rfl⟩ (fun  z34 w35 => ?_)
        refine r_ws [(h2, .inl (gB g, 1500, .inl fn0)), (h1, .inr (4, [.ref h2, .int x3])), (h0, .inr (1, [.ref h3, .ref h4, .ref h1, .int z34, .long y0, .long y1, .int x1, .int x2, .long y2, .long y3]))] rfl ?_
        have gz34 := fb_rng z34
        refine r_aload_n 50 0 C dX1_take_50 rfl ?_
        refine r_get 51 C dX1_take_51 (k := 3) 2 rfl rfl hiX1 (by decide) rfl (mg 4 rfl) (Or.inl rfl) rfl ?_
        refine r_if_eq 54 59 C dX1_take_54 (by decide) (fun c36 => ?_) (fun c36 => ?_)
        · skip
          have k37 : (Int32.toInt z34) = 0 := (fa_eq z34 0).mp c36
          refine r_aload_n 59 0 C dX1_take_59 rfl ?_
          refine r_get 60 C dX1_take_60 (k := 2) 2 rfl rfl hiX1 (by decide) rfl (mg 2 rfl) (Or.inl rfl) rfl ?_
          refine r_aload_n 63 0 C dX1_take_63 rfl ?_
          refine r_get 64 C dX1_take_64 (k := 4) 2 rfl rfl hiX1 (by decide) rfl (mg 1 rfl) (Or.inl rfl) rfl ?_
          refine r_callVi 67 C dX1_take_67 [] [(h1, .inr (4, [.ref h2, .int x3])), (h2, .inl (gB g, 1500, .inl fn0))] [(h0, .inr (1, [.ref h3, .ref h4, .ref h1, .int z34, .long y0, .long y1, .int x1, .int x2, .long y2, .long y3]))] (fun sz => c14_X5_get l g h1 h2 y0 x3 fn0 i_x3 sz) gX1_take_X5_get rfl ⟨rfl, rfl⟩ 1 (by decide) ⟨Nat.le_of_ble_eq_true rfl, Nat.le_of_ble_eq_true rfl⟩ 1 rfl rfl [1, 0] [2] rfl rfl (by decide) (by decide) (by decide) rfl rfl (Nat.le_of_ble_eq_true rfl) ⟨Nat.le_of_ble_eq_true rfl, Nat.le_of_ble_eq_true rfl⟩ (fun r38 _ w39 => ?_)
          refine r_ws [(h0, .inr (1, [.ref h3, .ref h4, .ref h1, .int z34, .long y0, .long y1, .int x1, .int x2, .long y2, .long y3])), (h1, .inr (4, [.ref h2, .int x3])), (h2, .inl (gB g, 1500, .inl fn0))] rfl ?_
          have p40 : -1 ≤ (Int32.toInt r38) := w39.1
          have p41 : (Int32.toInt r38) ≤ 255 := w39.2
          refine r_istore_n 70 C dX1_take_70 [(1, .int r38), (0, .ref h0)] (by decide) rfl ?_
          refine r_aload_n 71 1 C dX1_take_71 rfl ?_
          refine r_dup 72 C dX1_take_72 rfl ?_
          refine r_get 73 C dX1_take_73 (k := 4) 0 rfl rfl hiX1 (by decide) rfl (mg 1 rfl) (Or.inl rfl) rfl ?_
          refine r_lconst 76 1 C dX1_take_76 (by decide) ?_
          obtain ⟨z42, ez42⟩ : ∃ z_9, y0 + 1 = z_9 := ⟨_, rfl⟩
          have tz42 : (Int64.toInt z42) = (Int64.toInt y0) + 1 := by rw [← ez42]; exact fb_addL (by show -9223372036854775808 ≤ (Int64.toInt y0) + 1; omega) (by show (Int64.toInt y0) + 1 < 9223372036854775808; omega)
          refine r_ladd 77 z42 C dX1_take_77 ez42 ?_
          refine r_put 78 C dX1_take_78 (k := 4) 0 rfl rfl hiX1 tyX1 tyX1_ok nmX1 (by decide) rfl (mg 1 rfl) (Or.inl rfl) rfl rfl rfl rfl (Nat.le_of_ble_eq_true rfl) [(h0, .inr (1, [.ref h3, .ref h4, .ref h1, .int z34, .long z42, .long y1, .int x1, .int x2, .long y2, .long y3])), (h1, .inr (4, [.ref h2, .int x3])), (h2, .inl (gB g, 1500, .inl fn0))] rfl ?_
          refine r_iload_n 81 0 C dX1_take_81 rfl ?_
          exact r_iret 82 Rt dX1_take_82 (z34, z42) (show -1 ≤ (Int32.toInt r38) ∧ (Int32.toInt r38) ≤ 255 from ⟨(show _ ∧ _ from ⟨p40, p41⟩).1, (show _ ∧ _ from ⟨p40, p41⟩).2⟩) [0, 1, 2] (by decide) rfl (Nat.le_of_ble_eq_true rfl) (Nat.le_of_ble_eq_true rfl)
        · skip
          have k43 : ¬ ((Int32.toInt z34) = 0) := fun h_9 => c36 ((fa_eq z34 0).mpr h_9)
          refine r_iconst 57 (-1) C dX1_take_57 (by decide) ?_
          exact r_iret 58 Rt dX1_take_58 (z34, y0) (show -1 ≤ (Int32.toInt (-1)) ∧ (Int32.toInt (-1)) ≤ 255 from ⟨(by ((repeat' apply And.intro) <;> first | trivial | rfl | assumption | omega | decide | exact Or.inl rfl | exact Or.inr (Or.inl rfl) | exact Or.inr (Or.inr rfl))), (by ((repeat' apply And.intro) <;> first | trivial | rfl | assumption | omega | decide | exact Or.inl rfl | exact Or.inr (Or.inl rfl) | exact Or.inr (Or.inr rfl)))⟩) [2, 1, 0] (by decide) rfl (Nat.le_of_ble_eq_true rfl) (Nat.le_of_ble_eq_true rfl)
    · skip
      have k44 : ¬ ((Int32.toInt z19) < 0) := fun h_9 => c20 ((fa_lt z19 0).mpr h_9)
      refine r_aload_n 25 0 C dX1_take_25 rfl ?_
      refine r_iconst 26 1 C dX1_take_26 (by decide) ?_
      refine r_callVv 27 C dX1_take_27 [] [(h0, .inr (1, [.ref h3, .ref h4, .ref h1, .int x0, .long y0, .long y1, .int x1, .int x2, .long y2, .long y3]))] [(h2, .inl (gB g, 1500, .inl fn0)), (h1, .inr (4, [.ref h2, .int x3]))] (fun sz => c51_X1_wrong l g h0 1 h3 h4 h1 x0 y0 y1 x1 x2 y2 y3 i_x1 sz) gX1_take_X1_wrong rfl ⟨rfl, rfl⟩ 1 (by decide) ⟨Nat.le_of_ble_eq_true rfl, Nat.le_of_ble_eq_true rfl⟩ 0 rfl rfl [0] [1, 2] rfl rfl (by decide) (by decide) (by decide) rfl rfl (Nat.le_of_ble_eq_true rfl) ⟨Nat.le_of_ble_eq_true rfl, Nat.le_of_ble_eq_true rfl⟩ (fun  z45 w46 => ?_)
      refine r_ws [(h2, .inl (gB g, 1500, .inl fn0)), (h1, .inr (4, [.ref h2, .int x3])), (h0, .inr (1, [.ref h3, .ref h4, .ref h1, .int z45, .long y0, .long y1, .int x1, .int x2, .long y2, .long y3]))] rfl ?_
      have gz45 := fb_rng z45
      refine r_goto 30 50 C dX1_take_30 (by decide) ?_
      refine r_aload_n 50 0 C dX1_take_50 rfl ?_
      refine r_get 51 C dX1_take_51 (k := 3) 2 rfl rfl hiX1 (by decide) rfl (mg 4 rfl) (Or.inl rfl) rfl ?_
      refine r_if_eq 54 59 C dX1_take_54 (by decide) (fun c47 => ?_) (fun c47 => ?_)
      · skip
        have k48 : (Int32.toInt z45) = 0 := (fa_eq z45 0).mp c47
        refine r_aload_n 59 0 C dX1_take_59 rfl ?_
        refine r_get 60 C dX1_take_60 (k := 2) 2 rfl rfl hiX1 (by decide) rfl (mg 2 rfl) (Or.inl rfl) rfl ?_
        refine r_aload_n 63 0 C dX1_take_63 rfl ?_
        refine r_get 64 C dX1_take_64 (k := 4) 2 rfl rfl hiX1 (by decide) rfl (mg 1 rfl) (Or.inl rfl) rfl ?_
        refine r_callVi 67 C dX1_take_67 [] [(h1, .inr (4, [.ref h2, .int x3])), (h2, .inl (gB g, 1500, .inl fn0))] [(h0, .inr (1, [.ref h3, .ref h4, .ref h1, .int z45, .long y0, .long y1, .int x1, .int x2, .long y2, .long y3]))] (fun sz => c14_X5_get l g h1 h2 y0 x3 fn0 i_x3 sz) gX1_take_X5_get rfl ⟨rfl, rfl⟩ 1 (by decide) ⟨Nat.le_of_ble_eq_true rfl, Nat.le_of_ble_eq_true rfl⟩ 1 rfl rfl [1, 0] [2] rfl rfl (by decide) (by decide) (by decide) rfl rfl (Nat.le_of_ble_eq_true rfl) ⟨Nat.le_of_ble_eq_true rfl, Nat.le_of_ble_eq_true rfl⟩ (fun r49 _ w50 => ?_)
        refine r_ws [(h0, .inr (1, [.ref h3, .ref h4, .ref h1, .int z45, .long y0, .long y1, .int x1, .int x2, .long y2, .long y3])), (h1, .inr (4, [.ref h2, .int x3])), (h2, .inl (gB g, 1500, .inl fn0))] rfl ?_
        have p51 : -1 ≤ (Int32.toInt r49) := w50.1
        have p52 : (Int32.toInt r49) ≤ 255 := w50.2
        refine r_istore_n 70 C dX1_take_70 [(1, .int r49), (0, .ref h0)] (by decide) rfl ?_
        refine r_aload_n 71 1 C dX1_take_71 rfl ?_
        refine r_dup 72 C dX1_take_72 rfl ?_
        refine r_get 73 C dX1_take_73 (k := 4) 0 rfl rfl hiX1 (by decide) rfl (mg 1 rfl) (Or.inl rfl) rfl ?_
        refine r_lconst 76 1 C dX1_take_76 (by decide) ?_
        obtain ⟨z53, ez53⟩ : ∃ z_9, y0 + 1 = z_9 := ⟨_, rfl⟩
        have gz53 := fb_rngL z53
        refine r_ladd 77 z53 C dX1_take_77 ez53 ?_
        refine r_put 78 C dX1_take_78 (k := 4) 0 rfl rfl hiX1 tyX1 tyX1_ok nmX1 (by decide) rfl (mg 1 rfl) (Or.inl rfl) rfl rfl rfl rfl (Nat.le_of_ble_eq_true rfl) [(h0, .inr (1, [.ref h3, .ref h4, .ref h1, .int z45, .long z53, .long y1, .int x1, .int x2, .long y2, .long y3])), (h1, .inr (4, [.ref h2, .int x3])), (h2, .inl (gB g, 1500, .inl fn0))] rfl ?_
        refine r_iload_n 81 0 C dX1_take_81 rfl ?_
        exact r_iret 82 Rt dX1_take_82 (z45, z53) (show -1 ≤ (Int32.toInt r49) ∧ (Int32.toInt r49) ≤ 255 from ⟨(show _ ∧ _ from ⟨p51, p52⟩).1, (show _ ∧ _ from ⟨p51, p52⟩).2⟩) [0, 1, 2] (by decide) rfl (Nat.le_of_ble_eq_true rfl) (Nat.le_of_ble_eq_true rfl)
      · skip
        have k54 : ¬ ((Int32.toInt z45) = 0) := fun h_9 => c47 ((fa_eq z45 0).mpr h_9)
        refine r_iconst 57 (-1) C dX1_take_57 (by decide) ?_
        exact r_iret 58 Rt dX1_take_58 (z45, y0) (show -1 ≤ (Int32.toInt (-1)) ∧ (Int32.toInt (-1)) ≤ 255 from ⟨(by ((repeat' apply And.intro) <;> first | trivial | rfl | assumption | omega | decide | exact Or.inl rfl | exact Or.inr (Or.inl rfl) | exact Or.inr (Or.inr rfl))), (by ((repeat' apply And.intro) <;> first | trivial | rfl | assumption | omega | decide | exact Or.inl rfl | exact Or.inr (Or.inl rfl) | exact Or.inr (Or.inr rfl)))⟩) [2, 1, 0] (by decide) rfl (Nat.le_of_ble_eq_true rfl) (Nat.le_of_ble_eq_true rfl)
set_option maxHeartbeats 4000000 in
set_option maxRecDepth 100000 in
theorem c53_X1_want (l : Launch) (g : GD) (h0 : Nat) (x0 : Int32) (h1 : Nat) (h2 : Nat) (h3 : Nat) (x1 : Int32) (y0 : Int64) (y1 : Int64) (x2 : Int32) (x3 : Int32) (y2 : Int64) (y3 : Int64) (i_x0 : (0 ≤ (Int32.toInt x0) ∧ (Int32.toInt x0) ≤ 1)) (i_x2 : (-257 ≤ (Int32.toInt x2) ∧ (Int32.toInt x2) ≤ 65535)) (sz : Nat) : Met l yX1_want wsX1_want ({ frames := 1, cells := 0, slots := 0, locals := 21 }) (va_Pc [.ref h0, .int x0] (PW g [(h0, .inr (1, [.ref h1, .ref h2, .ref h3, .int x1, .long y0, .long y1, .int x2, .int x3, .long y2, .long y3]))] sz)) (va_Qv (fun (u : (Int32)) => True) (BW g (va_A [(h0, .inr (1, [.ref h1, .ref h2, .ref h3, .int x1, .long y0, .long y1, .int x2, .int x3, .long y2, .long y3]))] sz) (fun u : (Int32) => [(h0, .inr (1, [.ref h1, .ref h2, .ref h3, .int u, .long y0, .long y1, .int x2, .int x3, .long y2, .long y3]))])) (va_A [(h0, .inr (1, [.ref h1, .ref h2, .ref h3, .int x1, .long y0, .long y1, .int x2, .int x3, .long y2, .long y3]))] sz)) 0 0 (va_A [(h0, .inr (1, [.ref h1, .ref h2, .ref h3, .int x1, .long y0, .long y1, .int x2, .int x3, .long y2, .long y3]))] sz) := by
  refine met_v RX1 (by decide) rfl rfl (Nat.le_of_ble_eq_true rfl) [(0, .ref h0), (1, .int x0)] rfl ?_
  intro p e s m args below meth c A Q C hnm Rt
  refine r_iload_n 0 1 C dX1_want_0 rfl ?_
  refine r_if_ne 1 9 C dX1_want_1 (by decide) (fun c1 => ?_) (fun c1 => ?_)
  · skip
    have k2 : ¬ ((Int32.toInt x0) = 0) := fun h_9 => c1 ((fa_eq x0 0).mpr h_9)
    exact r_vret 9 Rt dX1_want_9 x1 trivial [0] (by decide) rfl (Nat.le_of_ble_eq_true rfl) (Nat.le_of_ble_eq_true rfl)
  · skip
    have k3 : (Int32.toInt x0) = 0 := (fa_eq x0 0).mp c1
    refine r_aload_n 4 0 C dX1_want_4 rfl ?_
    refine r_iconst 5 2 C dX1_want_5 (by decide) ?_
    refine r_callVv 6 C dX1_want_6 [] [(h0, .inr (1, [.ref h1, .ref h2, .ref h3, .int x1, .long y0, .long y1, .int x2, .int x3, .long y2, .long y3]))] [] (fun sz => c51_X1_wrong l g h0 2 h1 h2 h3 x1 y0 y1 x2 x3 y2 y3 i_x2 sz) gX1_want_X1_wrong rfl ⟨rfl, rfl⟩ 1 (by decide) ⟨Nat.le_of_ble_eq_true rfl, Nat.le_of_ble_eq_true rfl⟩ 0 rfl rfl [0] [] rfl rfl (by decide) (by decide) (by decide) rfl rfl (Nat.le_of_ble_eq_true rfl) ⟨Nat.le_of_ble_eq_true rfl, Nat.le_of_ble_eq_true rfl⟩ (fun  z4 w5 => ?_)
    refine r_ws [(h0, .inr (1, [.ref h1, .ref h2, .ref h3, .int z4, .long y0, .long y1, .int x2, .int x3, .long y2, .long y3]))] rfl ?_
    have gz4 := fb_rng z4
    exact r_vret 9 Rt dX1_want_9 z4 trivial [0] (by decide) rfl (Nat.le_of_ble_eq_true rfl) (Nat.le_of_ble_eq_true rfl)
set_option maxHeartbeats 4000000 in
set_option maxRecDepth 100000 in
theorem c54_X1_takeHeader (l : Launch) (g : GD) (h0 : Nat) (h1 : Nat) (h2 : Nat) (h3 : Nat) (h4 : Nat) (x0 : Int32) (y0 : Int64) (y1 : Int64) (x1 : Int32) (x2 : Int32) (y2 : Int64) (y3 : Int64) (x3 : Int32) (fn0 : Nat → Int32) (i_x1 : (-257 ≤ (Int32.toInt x1) ∧ (Int32.toInt x1) ≤ 65535)) (i_x3 : (0 ≤ (Int32.toInt x3) ∧ (Int32.toInt x3) ≤ 1500)) (sz : Nat) : Met l yX1_takeHeader wsX1_takeHeader ({ frames := 2, cells := 0, slots := 0, locals := 43 }) (va_Pc [.ref h0] (PW g [(h0, .inr (1, [.ref h3, .ref h4, .ref h1, .int x0, .long y0, .long y1, .int x1, .int x2, .long y2, .long y3])), (h1, .inr (4, [.ref h2, .int x3])), (h2, .inl (gB g, 1500, .inl fn0))] sz)) (va_Qv (fun (u : (Int32) × (Int64)) => True) (BW g (va_A [(h0, .inr (1, [.ref h3, .ref h4, .ref h1, .int x0, .long y0, .long y1, .int x1, .int x2, .long y2, .long y3])), (h1, .inr (4, [.ref h2, .int x3])), (h2, .inl (gB g, 1500, .inl fn0))] sz) (fun u : (Int32) × (Int64) => [(h0, .inr (1, [.ref h3, .ref h4, .ref h1, .int u.1, .long u.2, .long y1, .int x1, .int x2, .long y2, .long y3])), (h1, .inr (4, [.ref h2, .int x3])), (h2, .inl (gB g, 1500, .inl fn0))])) (va_A [(h0, .inr (1, [.ref h3, .ref h4, .ref h1, .int x0, .long y0, .long y1, .int x1, .int x2, .long y2, .long y3])), (h1, .inr (4, [.ref h2, .int x3])), (h2, .inl (gB g, 1500, .inl fn0))] sz)) 0 0 (va_A [(h0, .inr (1, [.ref h3, .ref h4, .ref h1, .int x0, .long y0, .long y1, .int x1, .int x2, .long y2, .long y3])), (h1, .inr (4, [.ref h2, .int x3])), (h2, .inl (gB g, 1500, .inl fn0))] sz) := by
  refine met_v RX1 (by decide) rfl rfl (Nat.le_of_ble_eq_true rfl) [(0, .ref h0)] rfl ?_
  intro p e s m args below meth c A Q C hnm Rt
  have hiX1 : ∀ w ∈ wsX10, w ∈ wsX1_takeHeader := fun w h => List.mem_cons_of_mem _ (List.mem_append_left _ (List.mem_append_right _ (h)))
  refine r_aload_n 0 0 C dX1_takeHeader_0 rfl ?_
  refine r_lconst 1 0 C dX1_takeHeader_1 (by decide) ?_
  refine r_put 2 C dX1_takeHeader_2 (k := 4) 0 rfl rfl hiX1 tyX1 tyX1_ok nmX1 (by decide) rfl (mg 1 rfl) (Or.inl rfl) rfl rfl rfl rfl (Nat.le_of_ble_eq_true rfl) [(h0, .inr (1, [.ref h3, .ref h4, .ref h1, .int x0, .long 0, .long y1, .int x1, .int x2, .long y2, .long y3])), (h1, .inr (4, [.ref h2, .int x3])), (h2, .inl (gB g, 1500, .inl fn0))] rfl ?_
  refine r_aload_n 5 0 C dX1_takeHeader_5 rfl ?_
  refine r_aload_n 6 0 C dX1_takeHeader_6 rfl ?_
  refine r_callVi 7 C dX1_takeHeader_7 [.ref h0] [(h0, .inr (1, [.ref h3, .ref h4, .ref h1, .int x0, .long 0, .long y1, .int x1, .int x2, .long y2, .long y3])), (h1, .inr (4, [.ref h2, .int x3])), (h2, .inl (gB g, 1500, .inl fn0))] [] (fun sz => c52_X1_take l g h0 h1 h2 h3 h4 x0 0 y1 x1 x2 y2 y3 x3 fn0 i_x1 i_x3 sz) gX1_takeHeader_X1_take rfl ⟨rfl, rfl⟩ 0 (by decide) ⟨Nat.le_of_ble_eq_true rfl, Nat.le_of_ble_eq_true rfl⟩ 0 rfl rfl [0, 1, 2] [] rfl rfl (by decide) (by decide) (by decide) rfl rfl (Nat.le_of_ble_eq_true rfl) ⟨Nat.le_of_ble_eq_true rfl, Nat.le_of_ble_eq_true rfl⟩ (fun r3 u5 w4 => ?_)
  obtain ⟨z1, z2⟩ := u5
  refine r_ws [(h0, .inr (1, [.ref h3, .ref h4, .ref h1, .int z1, .long z2, .long y1, .int x1, .int x2, .long y2, .long y3])), (h1, .inr (4, [.ref h2, .int x3])), (h2, .inl (gB g, 1500, .inl fn0))] rfl ?_
  have gz1 := fb_rng z1
  have gz2 := fb_rngL z2
  have p6 : -1 ≤ (Int32.toInt r3) := w4.1
  have p7 : (Int32.toInt r3) ≤ 255 := w4.2
  refine r_iconst 10 1 C dX1_takeHeader_10 (by decide) ?_
  refine r_icmp_ne 11 18 C dX1_takeHeader_11 (by decide) (fun c8 => ?_) (fun c8 => ?_)
  · skip
    have k9 : ¬ ((Int32.toInt r3) = 1) := fun h_9 => c8 ((fa_eq r3 1).mpr h_9)
    refine r_iconst 18 0 C dX1_takeHeader_18 (by decide) ?_
    refine r_callVv 19 C dX1_takeHeader_19 [] [(h0, .inr (1, [.ref h3, .ref h4, .ref h1, .int z1, .long z2, .long y1, .int x1, .int x2, .long y2, .long y3]))] [(h1, .inr (4, [.ref h2, .int x3])), (h2, .inl (gB g, 1500, .inl fn0))] (fun sz => c53_X1_want l g h0 0 h3 h4 h1 z1 z2 y1 x1 x2 y2 y3 (by decide) i_x1 sz) gX1_takeHeader_X1_want rfl ⟨rfl, rfl⟩ 1 (by decide) ⟨Nat.le_of_ble_eq_true rfl, Nat.le_of_ble_eq_true rfl⟩ 0 rfl rfl [0] [1, 2] rfl rfl (by decide) (by decide) (by decide) rfl rfl (Nat.le_of_ble_eq_true rfl) ⟨Nat.le_of_ble_eq_true rfl, Nat.le_of_ble_eq_true rfl⟩ (fun  z10 w11 => ?_)
    refine r_ws [(h1, .inr (4, [.ref h2, .int x3])), (h2, .inl (gB g, 1500, .inl fn0)), (h0, .inr (1, [.ref h3, .ref h4, .ref h1, .int z10, .long z2, .long y1, .int x1, .int x2, .long y2, .long y3]))] rfl ?_
    have gz10 := fb_rng z10
    refine r_aload_n 22 0 C dX1_takeHeader_22 rfl ?_
    refine r_callVi 23 C dX1_takeHeader_23 [] [(h0, .inr (1, [.ref h3, .ref h4, .ref h1, .int z10, .long z2, .long y1, .int x1, .int x2, .long y2, .long y3])), (h1, .inr (4, [.ref h2, .int x3])), (h2, .inl (gB g, 1500, .inl fn0))] [] (fun sz => c52_X1_take l g h0 h1 h2 h3 h4 z10 z2 y1 x1 x2 y2 y3 x3 fn0 i_x1 i_x3 sz) gX1_takeHeader_X1_take rfl ⟨rfl, rfl⟩ 0 (by decide) ⟨Nat.le_of_ble_eq_true rfl, Nat.le_of_ble_eq_true rfl⟩ 2 rfl rfl [2, 0, 1] [] rfl rfl (by decide) (by decide) (by decide) rfl rfl (Nat.le_of_ble_eq_true rfl) ⟨Nat.le_of_ble_eq_true rfl, Nat.le_of_ble_eq_true rfl⟩ (fun r14 u16 w15 => ?_)
    obtain ⟨z12, z13⟩ := u16
    refine r_ws [(h0, .inr (1, [.ref h3, .ref h4, .ref h1, .int z12, .long z13, .long y1, .int x1, .int x2, .long y2, .long y3])), (h1, .inr (4, [.ref h2, .int x3])), (h2, .inl (gB g, 1500, .inl fn0))] rfl ?_
    have gz12 := fb_rng z12
    have gz13 := fb_rngL z13
    have p17 : -1 ≤ (Int32.toInt r14) := w15.1
    have p18 : (Int32.toInt r14) ≤ 255 := w15.2
    refine r_pop 26 C dX1_takeHeader_26 rfl ?_
    refine r_aload_n 27 0 C dX1_takeHeader_27 rfl ?_
    refine r_callVi 28 C dX1_takeHeader_28 [] [(h0, .inr (1, [.ref h3, .ref h4, .ref h1, .int z12, .long z13, .long y1, .int x1, .int x2, .long y2, .long y3])), (h1, .inr (4, [.ref h2, .int x3])), (h2, .inl (gB g, 1500, .inl fn0))] [] (fun sz => c52_X1_take l g h0 h1 h2 h3 h4 z12 z13 y1 x1 x2 y2 y3 x3 fn0 i_x1 i_x3 sz) gX1_takeHeader_X1_take rfl ⟨rfl, rfl⟩ 0 (by decide) ⟨Nat.le_of_ble_eq_true rfl, Nat.le_of_ble_eq_true rfl⟩ 0 rfl rfl [0, 1, 2] [] rfl rfl (by decide) (by decide) (by decide) rfl rfl (Nat.le_of_ble_eq_true rfl) ⟨Nat.le_of_ble_eq_true rfl, Nat.le_of_ble_eq_true rfl⟩ (fun r21 u23 w22 => ?_)
    obtain ⟨z19, z20⟩ := u23
    refine r_ws [(h0, .inr (1, [.ref h3, .ref h4, .ref h1, .int z19, .long z20, .long y1, .int x1, .int x2, .long y2, .long y3])), (h1, .inr (4, [.ref h2, .int x3])), (h2, .inl (gB g, 1500, .inl fn0))] rfl ?_
    have gz19 := fb_rng z19
    have gz20 := fb_rngL z20
    have p24 : -1 ≤ (Int32.toInt r21) := w22.1
    have p25 : (Int32.toInt r21) ≤ 255 := w22.2
    refine r_istore_n 31 C dX1_takeHeader_31 [(1, .int r21), (0, .ref h0)] (by decide) rfl ?_
    refine r_aload_n 32 1 C dX1_takeHeader_32 rfl ?_
    refine r_iload_n 33 0 C dX1_takeHeader_33 rfl ?_
    refine r_iconst 34 4 C dX1_takeHeader_34 (by decide) ?_
    refine r_icmp_lt 35 42 C dX1_takeHeader_35 (by decide) (fun c26 => ?_) (fun c26 => ?_)
    · skip
      have k27 : (Int32.toInt r21) < 4 := (fa_lt r21 4).mp c26
      refine r_iconst 42 0 C dX1_takeHeader_42 (by decide) ?_
      refine r_callVv 43 C dX1_takeHeader_43 [] [(h0, .inr (1, [.ref h3, .ref h4, .ref h1, .int z19, .long z20, .long y1, .int x1, .int x2, .long y2, .long y3]))] [(h1, .inr (4, [.ref h2, .int x3])), (h2, .inl (gB g, 1500, .inl fn0))] (fun sz => c53_X1_want l g h0 0 h3 h4 h1 z19 z20 y1 x1 x2 y2 y3 (by decide) i_x1 sz) gX1_takeHeader_X1_want rfl ⟨rfl, rfl⟩ 1 (by decide) ⟨Nat.le_of_ble_eq_true rfl, Nat.le_of_ble_eq_true rfl⟩ 0 rfl rfl [0] [1, 2] rfl rfl (by decide) (by decide) (by decide) rfl rfl (Nat.le_of_ble_eq_true rfl) ⟨Nat.le_of_ble_eq_true rfl, Nat.le_of_ble_eq_true rfl⟩ (fun  z28 w29 => ?_)
      refine r_ws [(h1, .inr (4, [.ref h2, .int x3])), (h2, .inl (gB g, 1500, .inl fn0)), (h0, .inr (1, [.ref h3, .ref h4, .ref h1, .int z28, .long z20, .long y1, .int x1, .int x2, .long y2, .long y3]))] rfl ?_
      have gz28 := fb_rng z28
      refine r_aload_n 46 1 C dX1_takeHeader_46 rfl ?_
      refine r_callVi 47 C dX1_takeHeader_47 [] [(h0, .inr (1, [.ref h3, .ref h4, .ref h1, .int z28, .long z20, .long y1, .int x1, .int x2, .long y2, .long y3])), (h1, .inr (4, [.ref h2, .int x3])), (h2, .inl (gB g, 1500, .inl fn0))] [] (fun sz => c52_X1_take l g h0 h1 h2 h3 h4 z28 z20 y1 x1 x2 y2 y3 x3 fn0 i_x1 i_x3 sz) gX1_takeHeader_X1_take rfl ⟨rfl, rfl⟩ 0 (by decide) ⟨Nat.le_of_ble_eq_true rfl, Nat.le_of_ble_eq_true rfl⟩ 2 rfl rfl [2, 0, 1] [] rfl rfl (by decide) (by decide) (by decide) rfl rfl (Nat.le_of_ble_eq_true rfl) ⟨Nat.le_of_ble_eq_true rfl, Nat.le_of_ble_eq_true rfl⟩ (fun r32 u34 w33 => ?_)
      obtain ⟨z30, z31⟩ := u34
      refine r_ws [(h0, .inr (1, [.ref h3, .ref h4, .ref h1, .int z30, .long z31, .long y1, .int x1, .int x2, .long y2, .long y3])), (h1, .inr (4, [.ref h2, .int x3])), (h2, .inl (gB g, 1500, .inl fn0))] rfl ?_
      have gz30 := fb_rng z30
      have gz31 := fb_rngL z31
      have p35 : -1 ≤ (Int32.toInt r32) := w33.1
      have p36 : (Int32.toInt r32) ≤ 255 := w33.2
      refine r_istore_n 50 C dX1_takeHeader_50 [(2, .int r32), (1, .int r21), (0, .ref h0)] (by decide) rfl ?_
      refine r_aload_n 51 2 C dX1_takeHeader_51 rfl ?_
      refine r_iload_n 52 0 C dX1_takeHeader_52 rfl ?_
      refine r_iconst 53 1 C dX1_takeHeader_53 (by decide) ?_
      refine r_icmp_lt 54 66 C dX1_takeHeader_54 (by decide) (fun c37 => ?_) (fun c37 => ?_)
      · skip
        have k38 : (Int32.toInt r32) < 1 := (fa_lt r32 1).mp c37
        refine r_iconst 66 0 C dX1_takeHeader_66 (by decide) ?_
        refine r_callVv 67 C dX1_takeHeader_67 [] [(h0, .inr (1, [.ref h3, .ref h4, .ref h1, .int z30, .long z31, .long y1, .int x1, .int x2, .long y2, .long y3]))] [(h1, .inr (4, [.ref h2, .int x3])), (h2, .inl (gB g, 1500, .inl fn0))] (fun sz => c53_X1_want l g h0 0 h3 h4 h1 z30 z31 y1 x1 x2 y2 y3 (by decide) i_x1 sz) gX1_takeHeader_X1_want rfl ⟨rfl, rfl⟩ 1 (by decide) ⟨Nat.le_of_ble_eq_true rfl, Nat.le_of_ble_eq_true rfl⟩ 0 rfl rfl [0] [1, 2] rfl rfl (by decide) (by decide) (by decide) rfl rfl (Nat.le_of_ble_eq_true rfl) ⟨Nat.le_of_ble_eq_true rfl, Nat.le_of_ble_eq_true rfl⟩ (fun  z39 w40 => ?_)
        refine r_ws [(h1, .inr (4, [.ref h2, .int x3])), (h2, .inl (gB g, 1500, .inl fn0)), (h0, .inr (1, [.ref h3, .ref h4, .ref h1, .int z39, .long z31, .long y1, .int x1, .int x2, .long y2, .long y3]))] rfl ?_
        have gz39 := fb_rng z39
        refine r_aload_n 70 2 C dX1_takeHeader_70 rfl ?_
        refine r_iload_n 71 1 C dX1_takeHeader_71 rfl ?_
        obtain ⟨z41, ez41⟩ : ∃ z_9, Int32.toInt64 r21 = z_9 := ⟨_, rfl⟩
        have tz41 : (Int64.toInt z41) = (Int32.toInt r21) := by rw [← ez41]; exact Int32.toInt_toInt64 _
        refine r_i2l 72 z41 C dX1_takeHeader_72 ez41 ?_
        refine r_put 73 C dX1_takeHeader_73 (k := 4) 2 rfl rfl hiX1 tyX1 tyX1_ok nmX1 (by decide) rfl (mg 1 rfl) (Or.inl rfl) rfl rfl rfl rfl (Nat.le_of_ble_eq_true rfl) [(h1, .inr (4, [.ref h2, .int x3])), (h2, .inl (gB g, 1500, .inl fn0)), (h0, .inr (1, [.ref h3, .ref h4, .ref h1, .int z39, .long z41, .long y1, .int x1, .int x2, .long y2, .long y3]))] rfl ?_
        exact r_vret 76 Rt dX1_takeHeader_76 (z39, z41) trivial [2, 0, 1] (by decide) rfl (Nat.le_of_ble_eq_true rfl) (Nat.le_of_ble_eq_true rfl)
      · skip
        have k42 : ¬ ((Int32.toInt r32) < 1) := fun h_9 => c37 ((fa_lt r32 1).mpr h_9)
        refine r_iload_n 57 0 C dX1_takeHeader_57 rfl ?_
        refine r_iconst 58 4 C dX1_takeHeader_58 (by decide) ?_
        refine r_icmp_gt 59 66 C dX1_takeHeader_59 (by decide) (fun c43 => ?_) (fun c43 => ?_)
        · skip
          have k44 : 4 < (Int32.toInt r32) := (fa_lt 4 r32).mp c43
          refine r_iconst 66 0 C dX1_takeHeader_66 (by decide) ?_
          refine r_callVv 67 C dX1_takeHeader_67 [] [(h0, .inr (1, [.ref h3, .ref h4, .ref h1, .int z30, .long z31, .long y1, .int x1, .int x2, .long y2, .long y3]))] [(h1, .inr (4, [.ref h2, .int x3])), (h2, .inl (gB g, 1500, .inl fn0))] (fun sz => c53_X1_want l g h0 0 h3 h4 h1 z30 z31 y1 x1 x2 y2 y3 (by decide) i_x1 sz) gX1_takeHeader_X1_want rfl ⟨rfl, rfl⟩ 1 (by decide) ⟨Nat.le_of_ble_eq_true rfl, Nat.le_of_ble_eq_true rfl⟩ 0 rfl rfl [0] [1, 2] rfl rfl (by decide) (by decide) (by decide) rfl rfl (Nat.le_of_ble_eq_true rfl) ⟨Nat.le_of_ble_eq_true rfl, Nat.le_of_ble_eq_true rfl⟩ (fun  z45 w46 => ?_)
          refine r_ws [(h1, .inr (4, [.ref h2, .int x3])), (h2, .inl (gB g, 1500, .inl fn0)), (h0, .inr (1, [.ref h3, .ref h4, .ref h1, .int z45, .long z31, .long y1, .int x1, .int x2, .long y2, .long y3]))] rfl ?_
          have gz45 := fb_rng z45
          refine r_aload_n 70 2 C dX1_takeHeader_70 rfl ?_
          refine r_iload_n 71 1 C dX1_takeHeader_71 rfl ?_
          obtain ⟨z47, ez47⟩ : ∃ z_9, Int32.toInt64 r21 = z_9 := ⟨_, rfl⟩
          have tz47 : (Int64.toInt z47) = (Int32.toInt r21) := by rw [← ez47]; exact Int32.toInt_toInt64 _
          refine r_i2l 72 z47 C dX1_takeHeader_72 ez47 ?_
          refine r_put 73 C dX1_takeHeader_73 (k := 4) 2 rfl rfl hiX1 tyX1 tyX1_ok nmX1 (by decide) rfl (mg 1 rfl) (Or.inl rfl) rfl rfl rfl rfl (Nat.le_of_ble_eq_true rfl) [(h1, .inr (4, [.ref h2, .int x3])), (h2, .inl (gB g, 1500, .inl fn0)), (h0, .inr (1, [.ref h3, .ref h4, .ref h1, .int z45, .long z47, .long y1, .int x1, .int x2, .long y2, .long y3]))] rfl ?_
          exact r_vret 76 Rt dX1_takeHeader_76 (z45, z47) trivial [2, 0, 1] (by decide) rfl (Nat.le_of_ble_eq_true rfl) (Nat.le_of_ble_eq_true rfl)
        · skip
          have k48 : ¬ (4 < (Int32.toInt r32)) := fun h_9 => c43 ((fa_lt 4 r32).mpr h_9)
          refine r_iconst 62 1 C dX1_takeHeader_62 (by decide) ?_
          refine r_goto 63 67 C dX1_takeHeader_63 (by decide) ?_
          refine r_callVv 67 C dX1_takeHeader_67 [] [(h0, .inr (1, [.ref h3, .ref h4, .ref h1, .int z30, .long z31, .long y1, .int x1, .int x2, .long y2, .long y3]))] [(h1, .inr (4, [.ref h2, .int x3])), (h2, .inl (gB g, 1500, .inl fn0))] (fun sz => c53_X1_want l g h0 1 h3 h4 h1 z30 z31 y1 x1 x2 y2 y3 (by decide) i_x1 sz) gX1_takeHeader_X1_want rfl ⟨rfl, rfl⟩ 1 (by decide) ⟨Nat.le_of_ble_eq_true rfl, Nat.le_of_ble_eq_true rfl⟩ 0 rfl rfl [0] [1, 2] rfl rfl (by decide) (by decide) (by decide) rfl rfl (Nat.le_of_ble_eq_true rfl) ⟨Nat.le_of_ble_eq_true rfl, Nat.le_of_ble_eq_true rfl⟩ (fun  z49 w50 => ?_)
          refine r_ws [(h1, .inr (4, [.ref h2, .int x3])), (h2, .inl (gB g, 1500, .inl fn0)), (h0, .inr (1, [.ref h3, .ref h4, .ref h1, .int z49, .long z31, .long y1, .int x1, .int x2, .long y2, .long y3]))] rfl ?_
          have gz49 := fb_rng z49
          refine r_aload_n 70 2 C dX1_takeHeader_70 rfl ?_
          refine r_iload_n 71 1 C dX1_takeHeader_71 rfl ?_
          obtain ⟨z51, ez51⟩ : ∃ z_9, Int32.toInt64 r21 = z_9 := ⟨_, rfl⟩
          have tz51 : (Int64.toInt z51) = (Int32.toInt r21) := by rw [← ez51]; exact Int32.toInt_toInt64 _
          refine r_i2l 72 z51 C dX1_takeHeader_72 ez51 ?_
          refine r_put 73 C dX1_takeHeader_73 (k := 4) 2 rfl rfl hiX1 tyX1 tyX1_ok nmX1 (by decide) rfl (mg 1 rfl) (Or.inl rfl) rfl rfl rfl rfl (Nat.le_of_ble_eq_true rfl) [(h1, .inr (4, [.ref h2, .int x3])), (h2, .inl (gB g, 1500, .inl fn0)), (h0, .inr (1, [.ref h3, .ref h4, .ref h1, .int z49, .long z51, .long y1, .int x1, .int x2, .long y2, .long y3]))] rfl ?_
          exact r_vret 76 Rt dX1_takeHeader_76 (z49, z51) trivial [2, 0, 1] (by decide) rfl (Nat.le_of_ble_eq_true rfl) (Nat.le_of_ble_eq_true rfl)
    · skip
      have k52 : ¬ ((Int32.toInt r21) < 4) := fun h_9 => c26 ((fa_lt r21 4).mpr h_9)
      refine r_iconst 38 1 C dX1_takeHeader_38 (by decide) ?_
      refine r_goto 39 43 C dX1_takeHeader_39 (by decide) ?_
      refine r_callVv 43 C dX1_takeHeader_43 [] [(h0, .inr (1, [.ref h3, .ref h4, .ref h1, .int z19, .long z20, .long y1, .int x1, .int x2, .long y2, .long y3]))] [(h1, .inr (4, [.ref h2, .int x3])), (h2, .inl (gB g, 1500, .inl fn0))] (fun sz => c53_X1_want l g h0 1 h3 h4 h1 z19 z20 y1 x1 x2 y2 y3 (by decide) i_x1 sz) gX1_takeHeader_X1_want rfl ⟨rfl, rfl⟩ 1 (by decide) ⟨Nat.le_of_ble_eq_true rfl, Nat.le_of_ble_eq_true rfl⟩ 0 rfl rfl [0] [1, 2] rfl rfl (by decide) (by decide) (by decide) rfl rfl (Nat.le_of_ble_eq_true rfl) ⟨Nat.le_of_ble_eq_true rfl, Nat.le_of_ble_eq_true rfl⟩ (fun  z53 w54 => ?_)
      refine r_ws [(h1, .inr (4, [.ref h2, .int x3])), (h2, .inl (gB g, 1500, .inl fn0)), (h0, .inr (1, [.ref h3, .ref h4, .ref h1, .int z53, .long z20, .long y1, .int x1, .int x2, .long y2, .long y3]))] rfl ?_
      have gz53 := fb_rng z53
      refine r_aload_n 46 1 C dX1_takeHeader_46 rfl ?_
      refine r_callVi 47 C dX1_takeHeader_47 [] [(h0, .inr (1, [.ref h3, .ref h4, .ref h1, .int z53, .long z20, .long y1, .int x1, .int x2, .long y2, .long y3])), (h1, .inr (4, [.ref h2, .int x3])), (h2, .inl (gB g, 1500, .inl fn0))] [] (fun sz => c52_X1_take l g h0 h1 h2 h3 h4 z53 z20 y1 x1 x2 y2 y3 x3 fn0 i_x1 i_x3 sz) gX1_takeHeader_X1_take rfl ⟨rfl, rfl⟩ 0 (by decide) ⟨Nat.le_of_ble_eq_true rfl, Nat.le_of_ble_eq_true rfl⟩ 2 rfl rfl [2, 0, 1] [] rfl rfl (by decide) (by decide) (by decide) rfl rfl (Nat.le_of_ble_eq_true rfl) ⟨Nat.le_of_ble_eq_true rfl, Nat.le_of_ble_eq_true rfl⟩ (fun r57 u59 w58 => ?_)
      obtain ⟨z55, z56⟩ := u59
      refine r_ws [(h0, .inr (1, [.ref h3, .ref h4, .ref h1, .int z55, .long z56, .long y1, .int x1, .int x2, .long y2, .long y3])), (h1, .inr (4, [.ref h2, .int x3])), (h2, .inl (gB g, 1500, .inl fn0))] rfl ?_
      have gz55 := fb_rng z55
      have gz56 := fb_rngL z56
      have p60 : -1 ≤ (Int32.toInt r57) := w58.1
      have p61 : (Int32.toInt r57) ≤ 255 := w58.2
      refine r_istore_n 50 C dX1_takeHeader_50 [(2, .int r57), (1, .int r21), (0, .ref h0)] (by decide) rfl ?_
      refine r_aload_n 51 2 C dX1_takeHeader_51 rfl ?_
      refine r_iload_n 52 0 C dX1_takeHeader_52 rfl ?_
      refine r_iconst 53 1 C dX1_takeHeader_53 (by decide) ?_
      refine r_icmp_lt 54 66 C dX1_takeHeader_54 (by decide) (fun c62 => ?_) (fun c62 => ?_)
      · skip
        have k63 : (Int32.toInt r57) < 1 := (fa_lt r57 1).mp c62
        refine r_iconst 66 0 C dX1_takeHeader_66 (by decide) ?_
        refine r_callVv 67 C dX1_takeHeader_67 [] [(h0, .inr (1, [.ref h3, .ref h4, .ref h1, .int z55, .long z56, .long y1, .int x1, .int x2, .long y2, .long y3]))] [(h1, .inr (4, [.ref h2, .int x3])), (h2, .inl (gB g, 1500, .inl fn0))] (fun sz => c53_X1_want l g h0 0 h3 h4 h1 z55 z56 y1 x1 x2 y2 y3 (by decide) i_x1 sz) gX1_takeHeader_X1_want rfl ⟨rfl, rfl⟩ 1 (by decide) ⟨Nat.le_of_ble_eq_true rfl, Nat.le_of_ble_eq_true rfl⟩ 0 rfl rfl [0] [1, 2] rfl rfl (by decide) (by decide) (by decide) rfl rfl (Nat.le_of_ble_eq_true rfl) ⟨Nat.le_of_ble_eq_true rfl, Nat.le_of_ble_eq_true rfl⟩ (fun  z64 w65 => ?_)
        refine r_ws [(h1, .inr (4, [.ref h2, .int x3])), (h2, .inl (gB g, 1500, .inl fn0)), (h0, .inr (1, [.ref h3, .ref h4, .ref h1, .int z64, .long z56, .long y1, .int x1, .int x2, .long y2, .long y3]))] rfl ?_
        have gz64 := fb_rng z64
        refine r_aload_n 70 2 C dX1_takeHeader_70 rfl ?_
        refine r_iload_n 71 1 C dX1_takeHeader_71 rfl ?_
        obtain ⟨z66, ez66⟩ : ∃ z_9, Int32.toInt64 r21 = z_9 := ⟨_, rfl⟩
        have tz66 : (Int64.toInt z66) = (Int32.toInt r21) := by rw [← ez66]; exact Int32.toInt_toInt64 _
        refine r_i2l 72 z66 C dX1_takeHeader_72 ez66 ?_
        refine r_put 73 C dX1_takeHeader_73 (k := 4) 2 rfl rfl hiX1 tyX1 tyX1_ok nmX1 (by decide) rfl (mg 1 rfl) (Or.inl rfl) rfl rfl rfl rfl (Nat.le_of_ble_eq_true rfl) [(h1, .inr (4, [.ref h2, .int x3])), (h2, .inl (gB g, 1500, .inl fn0)), (h0, .inr (1, [.ref h3, .ref h4, .ref h1, .int z64, .long z66, .long y1, .int x1, .int x2, .long y2, .long y3]))] rfl ?_
        exact r_vret 76 Rt dX1_takeHeader_76 (z64, z66) trivial [2, 0, 1] (by decide) rfl (Nat.le_of_ble_eq_true rfl) (Nat.le_of_ble_eq_true rfl)
      · skip
        have k67 : ¬ ((Int32.toInt r57) < 1) := fun h_9 => c62 ((fa_lt r57 1).mpr h_9)
        refine r_iload_n 57 0 C dX1_takeHeader_57 rfl ?_
        refine r_iconst 58 4 C dX1_takeHeader_58 (by decide) ?_
        refine r_icmp_gt 59 66 C dX1_takeHeader_59 (by decide) (fun c68 => ?_) (fun c68 => ?_)
        · skip
          have k69 : 4 < (Int32.toInt r57) := (fa_lt 4 r57).mp c68
          refine r_iconst 66 0 C dX1_takeHeader_66 (by decide) ?_
          refine r_callVv 67 C dX1_takeHeader_67 [] [(h0, .inr (1, [.ref h3, .ref h4, .ref h1, .int z55, .long z56, .long y1, .int x1, .int x2, .long y2, .long y3]))] [(h1, .inr (4, [.ref h2, .int x3])), (h2, .inl (gB g, 1500, .inl fn0))] (fun sz => c53_X1_want l g h0 0 h3 h4 h1 z55 z56 y1 x1 x2 y2 y3 (by decide) i_x1 sz) gX1_takeHeader_X1_want rfl ⟨rfl, rfl⟩ 1 (by decide) ⟨Nat.le_of_ble_eq_true rfl, Nat.le_of_ble_eq_true rfl⟩ 0 rfl rfl [0] [1, 2] rfl rfl (by decide) (by decide) (by decide) rfl rfl (Nat.le_of_ble_eq_true rfl) ⟨Nat.le_of_ble_eq_true rfl, Nat.le_of_ble_eq_true rfl⟩ (fun  z70 w71 => ?_)
          refine r_ws [(h1, .inr (4, [.ref h2, .int x3])), (h2, .inl (gB g, 1500, .inl fn0)), (h0, .inr (1, [.ref h3, .ref h4, .ref h1, .int z70, .long z56, .long y1, .int x1, .int x2, .long y2, .long y3]))] rfl ?_
          have gz70 := fb_rng z70
          refine r_aload_n 70 2 C dX1_takeHeader_70 rfl ?_
          refine r_iload_n 71 1 C dX1_takeHeader_71 rfl ?_
          obtain ⟨z72, ez72⟩ : ∃ z_9, Int32.toInt64 r21 = z_9 := ⟨_, rfl⟩
          have tz72 : (Int64.toInt z72) = (Int32.toInt r21) := by rw [← ez72]; exact Int32.toInt_toInt64 _
          refine r_i2l 72 z72 C dX1_takeHeader_72 ez72 ?_
          refine r_put 73 C dX1_takeHeader_73 (k := 4) 2 rfl rfl hiX1 tyX1 tyX1_ok nmX1 (by decide) rfl (mg 1 rfl) (Or.inl rfl) rfl rfl rfl rfl (Nat.le_of_ble_eq_true rfl) [(h1, .inr (4, [.ref h2, .int x3])), (h2, .inl (gB g, 1500, .inl fn0)), (h0, .inr (1, [.ref h3, .ref h4, .ref h1, .int z70, .long z72, .long y1, .int x1, .int x2, .long y2, .long y3]))] rfl ?_
          exact r_vret 76 Rt dX1_takeHeader_76 (z70, z72) trivial [2, 0, 1] (by decide) rfl (Nat.le_of_ble_eq_true rfl) (Nat.le_of_ble_eq_true rfl)
        · skip
          have k73 : ¬ (4 < (Int32.toInt r57)) := fun h_9 => c68 ((fa_lt 4 r57).mpr h_9)
          refine r_iconst 62 1 C dX1_takeHeader_62 (by decide) ?_
          refine r_goto 63 67 C dX1_takeHeader_63 (by decide) ?_
          refine r_callVv 67 C dX1_takeHeader_67 [] [(h0, .inr (1, [.ref h3, .ref h4, .ref h1, .int z55, .long z56, .long y1, .int x1, .int x2, .long y2, .long y3]))] [(h1, .inr (4, [.ref h2, .int x3])), (h2, .inl (gB g, 1500, .inl fn0))] (fun sz => c53_X1_want l g h0 1 h3 h4 h1 z55 z56 y1 x1 x2 y2 y3 (by decide) i_x1 sz) gX1_takeHeader_X1_want rfl ⟨rfl, rfl⟩ 1 (by decide) ⟨Nat.le_of_ble_eq_true rfl, Nat.le_of_ble_eq_true rfl⟩ 0 rfl rfl [0] [1, 2] rfl rfl (by decide) (by decide) (by decide) rfl rfl (Nat.le_of_ble_eq_true rfl) ⟨Nat.le_of_ble_eq_true rfl, Nat.le_of_ble_eq_true rfl⟩ (fun  z74 w75 => ?_)
          refine r_ws [(h1, .inr (4, [.ref h2, .int x3])), (h2, .inl (gB g, 1500, .inl fn0)), (h0, .inr (1, [.ref h3, .ref h4, .ref h1, .int z74, .long z56, .long y1, .int x1, .int x2, .long y2, .long y3]))] rfl ?_
          have gz74 := fb_rng z74
          refine r_aload_n 70 2 C dX1_takeHeader_70 rfl ?_
          refine r_iload_n 71 1 C dX1_takeHeader_71 rfl ?_
          obtain ⟨z76, ez76⟩ : ∃ z_9, Int32.toInt64 r21 = z_9 := ⟨_, rfl⟩
          have tz76 : (Int64.toInt z76) = (Int32.toInt r21) := by rw [← ez76]; exact Int32.toInt_toInt64 _
          refine r_i2l 72 z76 C dX1_takeHeader_72 ez76 ?_
          refine r_put 73 C dX1_takeHeader_73 (k := 4) 2 rfl rfl hiX1 tyX1 tyX1_ok nmX1 (by decide) rfl (mg 1 rfl) (Or.inl rfl) rfl rfl rfl rfl (Nat.le_of_ble_eq_true rfl) [(h1, .inr (4, [.ref h2, .int x3])), (h2, .inl (gB g, 1500, .inl fn0)), (h0, .inr (1, [.ref h3, .ref h4, .ref h1, .int z74, .long z76, .long y1, .int x1, .int x2, .long y2, .long y3]))] rfl ?_
          exact r_vret 76 Rt dX1_takeHeader_76 (z74, z76) trivial [2, 0, 1] (by decide) rfl (Nat.le_of_ble_eq_true rfl) (Nat.le_of_ble_eq_true rfl)
  · skip
    have k77 : (Int32.toInt r3) = 1 := (fa_eq r3 1).mp c8
    refine r_iconst 14 1 C dX1_takeHeader_14 (by decide) ?_
    refine r_goto 15 19 C dX1_takeHeader_15 (by decide) ?_
    refine r_callVv 19 C dX1_takeHeader_19 [] [(h0, .inr (1, [.ref h3, .ref h4, .ref h1, .int z1, .long z2, .long y1, .int x1, .int x2, .long y2, .long y3]))] [(h1, .inr (4, [.ref h2, .int x3])), (h2, .inl (gB g, 1500, .inl fn0))] (fun sz => c53_X1_want l g h0 1 h3 h4 h1 z1 z2 y1 x1 x2 y2 y3 (by decide) i_x1 sz) gX1_takeHeader_X1_want rfl ⟨rfl, rfl⟩ 1 (by decide) ⟨Nat.le_of_ble_eq_true rfl, Nat.le_of_ble_eq_true rfl⟩ 0 rfl rfl [0] [1, 2] rfl rfl (by decide) (by decide) (by decide) rfl rfl (Nat.le_of_ble_eq_true rfl) ⟨Nat.le_of_ble_eq_true rfl, Nat.le_of_ble_eq_true rfl⟩ (fun  z78 w79 => ?_)
    refine r_ws [(h1, .inr (4, [.ref h2, .int x3])), (h2, .inl (gB g, 1500, .inl fn0)), (h0, .inr (1, [.ref h3, .ref h4, .ref h1, .int z78, .long z2, .long y1, .int x1, .int x2, .long y2, .long y3]))] rfl ?_
    have gz78 := fb_rng z78
    refine r_aload_n 22 0 C dX1_takeHeader_22 rfl ?_
    refine r_callVi 23 C dX1_takeHeader_23 [] [(h0, .inr (1, [.ref h3, .ref h4, .ref h1, .int z78, .long z2, .long y1, .int x1, .int x2, .long y2, .long y3])), (h1, .inr (4, [.ref h2, .int x3])), (h2, .inl (gB g, 1500, .inl fn0))] [] (fun sz => c52_X1_take l g h0 h1 h2 h3 h4 z78 z2 y1 x1 x2 y2 y3 x3 fn0 i_x1 i_x3 sz) gX1_takeHeader_X1_take rfl ⟨rfl, rfl⟩ 0 (by decide) ⟨Nat.le_of_ble_eq_true rfl, Nat.le_of_ble_eq_true rfl⟩ 2 rfl rfl [2, 0, 1] [] rfl rfl (by decide) (by decide) (by decide) rfl rfl (Nat.le_of_ble_eq_true rfl) ⟨Nat.le_of_ble_eq_true rfl, Nat.le_of_ble_eq_true rfl⟩ (fun r82 u84 w83 => ?_)
    obtain ⟨z80, z81⟩ := u84
    refine r_ws [(h0, .inr (1, [.ref h3, .ref h4, .ref h1, .int z80, .long z81, .long y1, .int x1, .int x2, .long y2, .long y3])), (h1, .inr (4, [.ref h2, .int x3])), (h2, .inl (gB g, 1500, .inl fn0))] rfl ?_
    have gz80 := fb_rng z80
    have gz81 := fb_rngL z81
    have p85 : -1 ≤ (Int32.toInt r82) := w83.1
    have p86 : (Int32.toInt r82) ≤ 255 := w83.2
    refine r_pop 26 C dX1_takeHeader_26 rfl ?_
    refine r_aload_n 27 0 C dX1_takeHeader_27 rfl ?_
    refine r_callVi 28 C dX1_takeHeader_28 [] [(h0, .inr (1, [.ref h3, .ref h4, .ref h1, .int z80, .long z81, .long y1, .int x1, .int x2, .long y2, .long y3])), (h1, .inr (4, [.ref h2, .int x3])), (h2, .inl (gB g, 1500, .inl fn0))] [] (fun sz => c52_X1_take l g h0 h1 h2 h3 h4 z80 z81 y1 x1 x2 y2 y3 x3 fn0 i_x1 i_x3 sz) gX1_takeHeader_X1_take rfl ⟨rfl, rfl⟩ 0 (by decide) ⟨Nat.le_of_ble_eq_true rfl, Nat.le_of_ble_eq_true rfl⟩ 0 rfl rfl [0, 1, 2] [] rfl rfl (by decide) (by decide) (by decide) rfl rfl (Nat.le_of_ble_eq_true rfl) ⟨Nat.le_of_ble_eq_true rfl, Nat.le_of_ble_eq_true rfl⟩ (fun r89 u91 w90 => ?_)
    obtain ⟨z87, z88⟩ := u91
    refine r_ws [(h0, .inr (1, [.ref h3, .ref h4, .ref h1, .int z87, .long z88, .long y1, .int x1, .int x2, .long y2, .long y3])), (h1, .inr (4, [.ref h2, .int x3])), (h2, .inl (gB g, 1500, .inl fn0))] rfl ?_
    have gz87 := fb_rng z87
    have gz88 := fb_rngL z88
    have p92 : -1 ≤ (Int32.toInt r89) := w90.1
    have p93 : (Int32.toInt r89) ≤ 255 := w90.2
    refine r_istore_n 31 C dX1_takeHeader_31 [(1, .int r89), (0, .ref h0)] (by decide) rfl ?_
    refine r_aload_n 32 1 C dX1_takeHeader_32 rfl ?_
    refine r_iload_n 33 0 C dX1_takeHeader_33 rfl ?_
    refine r_iconst 34 4 C dX1_takeHeader_34 (by decide) ?_
    refine r_icmp_lt 35 42 C dX1_takeHeader_35 (by decide) (fun c94 => ?_) (fun c94 => ?_)
    · skip
      have k95 : (Int32.toInt r89) < 4 := (fa_lt r89 4).mp c94
      refine r_iconst 42 0 C dX1_takeHeader_42 (by decide) ?_
      refine r_callVv 43 C dX1_takeHeader_43 [] [(h0, .inr (1, [.ref h3, .ref h4, .ref h1, .int z87, .long z88, .long y1, .int x1, .int x2, .long y2, .long y3]))] [(h1, .inr (4, [.ref h2, .int x3])), (h2, .inl (gB g, 1500, .inl fn0))] (fun sz => c53_X1_want l g h0 0 h3 h4 h1 z87 z88 y1 x1 x2 y2 y3 (by decide) i_x1 sz) gX1_takeHeader_X1_want rfl ⟨rfl, rfl⟩ 1 (by decide) ⟨Nat.le_of_ble_eq_true rfl, Nat.le_of_ble_eq_true rfl⟩ 0 rfl rfl [0] [1, 2] rfl rfl (by decide) (by decide) (by decide) rfl rfl (Nat.le_of_ble_eq_true rfl) ⟨Nat.le_of_ble_eq_true rfl, Nat.le_of_ble_eq_true rfl⟩ (fun  z96 w97 => ?_)
      refine r_ws [(h1, .inr (4, [.ref h2, .int x3])), (h2, .inl (gB g, 1500, .inl fn0)), (h0, .inr (1, [.ref h3, .ref h4, .ref h1, .int z96, .long z88, .long y1, .int x1, .int x2, .long y2, .long y3]))] rfl ?_
      have gz96 := fb_rng z96
      refine r_aload_n 46 1 C dX1_takeHeader_46 rfl ?_
      refine r_callVi 47 C dX1_takeHeader_47 [] [(h0, .inr (1, [.ref h3, .ref h4, .ref h1, .int z96, .long z88, .long y1, .int x1, .int x2, .long y2, .long y3])), (h1, .inr (4, [.ref h2, .int x3])), (h2, .inl (gB g, 1500, .inl fn0))] [] (fun sz => c52_X1_take l g h0 h1 h2 h3 h4 z96 z88 y1 x1 x2 y2 y3 x3 fn0 i_x1 i_x3 sz) gX1_takeHeader_X1_take rfl ⟨rfl, rfl⟩ 0 (by decide) ⟨Nat.le_of_ble_eq_true rfl, Nat.le_of_ble_eq_true rfl⟩ 2 rfl rfl [2, 0, 1] [] rfl rfl (by decide) (by decide) (by decide) rfl rfl (Nat.le_of_ble_eq_true rfl) ⟨Nat.le_of_ble_eq_true rfl, Nat.le_of_ble_eq_true rfl⟩ (fun r100 u102 w101 => ?_)
      obtain ⟨z98, z99⟩ := u102
      refine r_ws [(h0, .inr (1, [.ref h3, .ref h4, .ref h1, .int z98, .long z99, .long y1, .int x1, .int x2, .long y2, .long y3])), (h1, .inr (4, [.ref h2, .int x3])), (h2, .inl (gB g, 1500, .inl fn0))] rfl ?_
      have gz98 := fb_rng z98
      have gz99 := fb_rngL z99
      have p103 : -1 ≤ (Int32.toInt r100) := w101.1
      have p104 : (Int32.toInt r100) ≤ 255 := w101.2
      refine r_istore_n 50 C dX1_takeHeader_50 [(2, .int r100), (1, .int r89), (0, .ref h0)] (by decide) rfl ?_
      refine r_aload_n 51 2 C dX1_takeHeader_51 rfl ?_
      refine r_iload_n 52 0 C dX1_takeHeader_52 rfl ?_
      refine r_iconst 53 1 C dX1_takeHeader_53 (by decide) ?_
      refine r_icmp_lt 54 66 C dX1_takeHeader_54 (by decide) (fun c105 => ?_) (fun c105 => ?_)
      · skip
        have k106 : (Int32.toInt r100) < 1 := (fa_lt r100 1).mp c105
        refine r_iconst 66 0 C dX1_takeHeader_66 (by decide) ?_
        refine r_callVv 67 C dX1_takeHeader_67 [] [(h0, .inr (1, [.ref h3, .ref h4, .ref h1, .int z98, .long z99, .long y1, .int x1, .int x2, .long y2, .long y3]))] [(h1, .inr (4, [.ref h2, .int x3])), (h2, .inl (gB g, 1500, .inl fn0))] (fun sz => c53_X1_want l g h0 0 h3 h4 h1 z98 z99 y1 x1 x2 y2 y3 (by decide) i_x1 sz) gX1_takeHeader_X1_want rfl ⟨rfl, rfl⟩ 1 (by decide) ⟨Nat.le_of_ble_eq_true rfl, Nat.le_of_ble_eq_true rfl⟩ 0 rfl rfl [0] [1, 2] rfl rfl (by decide) (by decide) (by decide) rfl rfl (Nat.le_of_ble_eq_true rfl) ⟨Nat.le_of_ble_eq_true rfl, Nat.le_of_ble_eq_true rfl⟩ (fun  z107 w108 => ?_)
        refine r_ws [(h1, .inr (4, [.ref h2, .int x3])), (h2, .inl (gB g, 1500, .inl fn0)), (h0, .inr (1, [.ref h3, .ref h4, .ref h1, .int z107, .long z99, .long y1, .int x1, .int x2, .long y2, .long y3]))] rfl ?_
        have gz107 := fb_rng z107
        refine r_aload_n 70 2 C dX1_takeHeader_70 rfl ?_
        refine r_iload_n 71 1 C dX1_takeHeader_71 rfl ?_
        obtain ⟨z109, ez109⟩ : ∃ z_9, Int32.toInt64 r89 = z_9 := ⟨_, rfl⟩
        have tz109 : (Int64.toInt z109) = (Int32.toInt r89) := by rw [← ez109]; exact Int32.toInt_toInt64 _
        refine r_i2l 72 z109 C dX1_takeHeader_72 ez109 ?_
        refine r_put 73 C dX1_takeHeader_73 (k := 4) 2 rfl rfl hiX1 tyX1 tyX1_ok nmX1 (by decide) rfl (mg 1 rfl) (Or.inl rfl) rfl rfl rfl rfl (Nat.le_of_ble_eq_true rfl) [(h1, .inr (4, [.ref h2, .int x3])), (h2, .inl (gB g, 1500, .inl fn0)), (h0, .inr (1, [.ref h3, .ref h4, .ref h1, .int z107, .long z109, .long y1, .int x1, .int x2, .long y2, .long y3]))] rfl ?_
        exact r_vret 76 Rt dX1_takeHeader_76 (z107, z109) trivial [2, 0, 1] (by decide) rfl (Nat.le_of_ble_eq_true rfl) (Nat.le_of_ble_eq_true rfl)
      · skip
        have k110 : ¬ ((Int32.toInt r100) < 1) := fun h_9 => c105 ((fa_lt r100 1).mpr h_9)
        refine r_iload_n 57 0 C dX1_takeHeader_57 rfl ?_
        refine r_iconst 58 4 C dX1_takeHeader_58 (by decide) ?_
        refine r_icmp_gt 59 66 C dX1_takeHeader_59 (by decide) (fun c111 => ?_) (fun c111 => ?_)
        · skip
          have k112 : 4 < (Int32.toInt r100) := (fa_lt 4 r100).mp c111
          refine r_iconst 66 0 C dX1_takeHeader_66 (by decide) ?_
          refine r_callVv 67 C dX1_takeHeader_67 [] [(h0, .inr (1, [.ref h3, .ref h4, .ref h1, .int z98, .long z99, .long y1, .int x1, .int x2, .long y2, .long y3]))] [(h1, .inr (4, [.ref h2, .int x3])), (h2, .inl (gB g, 1500, .inl fn0))] (fun sz => c53_X1_want l g h0 0 h3 h4 h1 z98 z99 y1 x1 x2 y2 y3 (by decide) i_x1 sz) gX1_takeHeader_X1_want rfl ⟨rfl, rfl⟩ 1 (by decide) ⟨Nat.le_of_ble_eq_true rfl, Nat.le_of_ble_eq_true rfl⟩ 0 rfl rfl [0] [1, 2] rfl rfl (by decide) (by decide) (by decide) rfl rfl (Nat.le_of_ble_eq_true rfl) ⟨Nat.le_of_ble_eq_true rfl, Nat.le_of_ble_eq_true rfl⟩ (fun  z113 w114 => ?_)
          refine r_ws [(h1, .inr (4, [.ref h2, .int x3])), (h2, .inl (gB g, 1500, .inl fn0)), (h0, .inr (1, [.ref h3, .ref h4, .ref h1, .int z113, .long z99, .long y1, .int x1, .int x2, .long y2, .long y3]))] rfl ?_
          have gz113 := fb_rng z113
          refine r_aload_n 70 2 C dX1_takeHeader_70 rfl ?_
          refine r_iload_n 71 1 C dX1_takeHeader_71 rfl ?_
          obtain ⟨z115, ez115⟩ : ∃ z_9, Int32.toInt64 r89 = z_9 := ⟨_, rfl⟩
          have tz115 : (Int64.toInt z115) = (Int32.toInt r89) := by rw [← ez115]; exact Int32.toInt_toInt64 _
          refine r_i2l 72 z115 C dX1_takeHeader_72 ez115 ?_
          refine r_put 73 C dX1_takeHeader_73 (k := 4) 2 rfl rfl hiX1 tyX1 tyX1_ok nmX1 (by decide) rfl (mg 1 rfl) (Or.inl rfl) rfl rfl rfl rfl (Nat.le_of_ble_eq_true rfl) [(h1, .inr (4, [.ref h2, .int x3])), (h2, .inl (gB g, 1500, .inl fn0)), (h0, .inr (1, [.ref h3, .ref h4, .ref h1, .int z113, .long z115, .long y1, .int x1, .int x2, .long y2, .long y3]))] rfl ?_
          exact r_vret 76 Rt dX1_takeHeader_76 (z113, z115) trivial [2, 0, 1] (by decide) rfl (Nat.le_of_ble_eq_true rfl) (Nat.le_of_ble_eq_true rfl)
        · skip
          have k116 : ¬ (4 < (Int32.toInt r100)) := fun h_9 => c111 ((fa_lt 4 r100).mpr h_9)
          refine r_iconst 62 1 C dX1_takeHeader_62 (by decide) ?_
          refine r_goto 63 67 C dX1_takeHeader_63 (by decide) ?_
          refine r_callVv 67 C dX1_takeHeader_67 [] [(h0, .inr (1, [.ref h3, .ref h4, .ref h1, .int z98, .long z99, .long y1, .int x1, .int x2, .long y2, .long y3]))] [(h1, .inr (4, [.ref h2, .int x3])), (h2, .inl (gB g, 1500, .inl fn0))] (fun sz => c53_X1_want l g h0 1 h3 h4 h1 z98 z99 y1 x1 x2 y2 y3 (by decide) i_x1 sz) gX1_takeHeader_X1_want rfl ⟨rfl, rfl⟩ 1 (by decide) ⟨Nat.le_of_ble_eq_true rfl, Nat.le_of_ble_eq_true rfl⟩ 0 rfl rfl [0] [1, 2] rfl rfl (by decide) (by decide) (by decide) rfl rfl (Nat.le_of_ble_eq_true rfl) ⟨Nat.le_of_ble_eq_true rfl, Nat.le_of_ble_eq_true rfl⟩ (fun  z117 w118 => ?_)
          refine r_ws [(h1, .inr (4, [.ref h2, .int x3])), (h2, .inl (gB g, 1500, .inl fn0)), (h0, .inr (1, [.ref h3, .ref h4, .ref h1, .int z117, .long z99, .long y1, .int x1, .int x2, .long y2, .long y3]))] rfl ?_
          have gz117 := fb_rng z117
          refine r_aload_n 70 2 C dX1_takeHeader_70 rfl ?_
          refine r_iload_n 71 1 C dX1_takeHeader_71 rfl ?_
          obtain ⟨z119, ez119⟩ : ∃ z_9, Int32.toInt64 r89 = z_9 := ⟨_, rfl⟩
          have tz119 : (Int64.toInt z119) = (Int32.toInt r89) := by rw [← ez119]; exact Int32.toInt_toInt64 _
          refine r_i2l 72 z119 C dX1_takeHeader_72 ez119 ?_
          refine r_put 73 C dX1_takeHeader_73 (k := 4) 2 rfl rfl hiX1 tyX1 tyX1_ok nmX1 (by decide) rfl (mg 1 rfl) (Or.inl rfl) rfl rfl rfl rfl (Nat.le_of_ble_eq_true rfl) [(h1, .inr (4, [.ref h2, .int x3])), (h2, .inl (gB g, 1500, .inl fn0)), (h0, .inr (1, [.ref h3, .ref h4, .ref h1, .int z117, .long z119, .long y1, .int x1, .int x2, .long y2, .long y3]))] rfl ?_
          exact r_vret 76 Rt dX1_takeHeader_76 (z117, z119) trivial [2, 0, 1] (by decide) rfl (Nat.le_of_ble_eq_true rfl) (Nat.le_of_ble_eq_true rfl)
    · skip
      have k120 : ¬ ((Int32.toInt r89) < 4) := fun h_9 => c94 ((fa_lt r89 4).mpr h_9)
      refine r_iconst 38 1 C dX1_takeHeader_38 (by decide) ?_
      refine r_goto 39 43 C dX1_takeHeader_39 (by decide) ?_
      refine r_callVv 43 C dX1_takeHeader_43 [] [(h0, .inr (1, [.ref h3, .ref h4, .ref h1, .int z87, .long z88, .long y1, .int x1, .int x2, .long y2, .long y3]))] [(h1, .inr (4, [.ref h2, .int x3])), (h2, .inl (gB g, 1500, .inl fn0))] (fun sz => c53_X1_want l g h0 1 h3 h4 h1 z87 z88 y1 x1 x2 y2 y3 (by decide) i_x1 sz) gX1_takeHeader_X1_want rfl ⟨rfl, rfl⟩ 1 (by decide) ⟨Nat.le_of_ble_eq_true rfl, Nat.le_of_ble_eq_true rfl⟩ 0 rfl rfl [0] [1, 2] rfl rfl (by decide) (by decide) (by decide) rfl rfl (Nat.le_of_ble_eq_true rfl) ⟨Nat.le_of_ble_eq_true rfl, Nat.le_of_ble_eq_true rfl⟩ (fun  z121 w122 => ?_)
      refine r_ws [(h1, .inr (4, [.ref h2, .int x3])), (h2, .inl (gB g, 1500, .inl fn0)), (h0, .inr (1, [.ref h3, .ref h4, .ref h1, .int z121, .long z88, .long y1, .int x1, .int x2, .long y2, .long y3]))] rfl ?_
      have gz121 := fb_rng z121
      refine r_aload_n 46 1 C dX1_takeHeader_46 rfl ?_
      refine r_callVi 47 C dX1_takeHeader_47 [] [(h0, .inr (1, [.ref h3, .ref h4, .ref h1, .int z121, .long z88, .long y1, .int x1, .int x2, .long y2, .long y3])), (h1, .inr (4, [.ref h2, .int x3])), (h2, .inl (gB g, 1500, .inl fn0))] [] (fun sz => c52_X1_take l g h0 h1 h2 h3 h4 z121 z88 y1 x1 x2 y2 y3 x3 fn0 i_x1 i_x3 sz) gX1_takeHeader_X1_take rfl ⟨rfl, rfl⟩ 0 (by decide) ⟨Nat.le_of_ble_eq_true rfl, Nat.le_of_ble_eq_true rfl⟩ 2 rfl rfl [2, 0, 1] [] rfl rfl (by decide) (by decide) (by decide) rfl rfl (Nat.le_of_ble_eq_true rfl) ⟨Nat.le_of_ble_eq_true rfl, Nat.le_of_ble_eq_true rfl⟩ (fun r125 u127 w126 => ?_)
      obtain ⟨z123, z124⟩ := u127
      refine r_ws [(h0, .inr (1, [.ref h3, .ref h4, .ref h1, .int z123, .long z124, .long y1, .int x1, .int x2, .long y2, .long y3])), (h1, .inr (4, [.ref h2, .int x3])), (h2, .inl (gB g, 1500, .inl fn0))] rfl ?_
      have gz123 := fb_rng z123
      have gz124 := fb_rngL z124
      have p128 : -1 ≤ (Int32.toInt r125) := w126.1
      have p129 : (Int32.toInt r125) ≤ 255 := w126.2
      refine r_istore_n 50 C dX1_takeHeader_50 [(2, .int r125), (1, .int r89), (0, .ref h0)] (by decide) rfl ?_
      refine r_aload_n 51 2 C dX1_takeHeader_51 rfl ?_
      refine r_iload_n 52 0 C dX1_takeHeader_52 rfl ?_
      refine r_iconst 53 1 C dX1_takeHeader_53 (by decide) ?_
      refine r_icmp_lt 54 66 C dX1_takeHeader_54 (by decide) (fun c130 => ?_) (fun c130 => ?_)
      · skip
        have k131 : (Int32.toInt r125) < 1 := (fa_lt r125 1).mp c130
        refine r_iconst 66 0 C dX1_takeHeader_66 (by decide) ?_
        refine r_callVv 67 C dX1_takeHeader_67 [] [(h0, .inr (1, [.ref h3, .ref h4, .ref h1, .int z123, .long z124, .long y1, .int x1, .int x2, .long y2, .long y3]))] [(h1, .inr (4, [.ref h2, .int x3])), (h2, .inl (gB g, 1500, .inl fn0))] (fun sz => c53_X1_want l g h0 0 h3 h4 h1 z123 z124 y1 x1 x2 y2 y3 (by decide) i_x1 sz) gX1_takeHeader_X1_want rfl ⟨rfl, rfl⟩ 1 (by decide) ⟨Nat.le_of_ble_eq_true rfl, Nat.le_of_ble_eq_true rfl⟩ 0 rfl rfl [0] [1, 2] rfl rfl (by decide) (by decide) (by decide) rfl rfl (Nat.le_of_ble_eq_true rfl) ⟨Nat.le_of_ble_eq_true rfl, Nat.le_of_ble_eq_true rfl⟩ (fun  z132 w133 => ?_)
        refine r_ws [(h1, .inr (4, [.ref h2, .int x3])), (h2, .inl (gB g, 1500, .inl fn0)), (h0, .inr (1, [.ref h3, .ref h4, .ref h1, .int z132, .long z124, .long y1, .int x1, .int x2, .long y2, .long y3]))] rfl ?_
        have gz132 := fb_rng z132
        refine r_aload_n 70 2 C dX1_takeHeader_70 rfl ?_
        refine r_iload_n 71 1 C dX1_takeHeader_71 rfl ?_
        obtain ⟨z134, ez134⟩ : ∃ z_9, Int32.toInt64 r89 = z_9 := ⟨_, rfl⟩
        have tz134 : (Int64.toInt z134) = (Int32.toInt r89) := by rw [← ez134]; exact Int32.toInt_toInt64 _
        refine r_i2l 72 z134 C dX1_takeHeader_72 ez134 ?_
        refine r_put 73 C dX1_takeHeader_73 (k := 4) 2 rfl rfl hiX1 tyX1 tyX1_ok nmX1 (by decide) rfl (mg 1 rfl) (Or.inl rfl) rfl rfl rfl rfl (Nat.le_of_ble_eq_true rfl) [(h1, .inr (4, [.ref h2, .int x3])), (h2, .inl (gB g, 1500, .inl fn0)), (h0, .inr (1, [.ref h3, .ref h4, .ref h1, .int z132, .long z134, .long y1, .int x1, .int x2, .long y2, .long y3]))] rfl ?_
        exact r_vret 76 Rt dX1_takeHeader_76 (z132, z134) trivial [2, 0, 1] (by decide) rfl (Nat.le_of_ble_eq_true rfl) (Nat.le_of_ble_eq_true rfl)
      · skip
        have k135 : ¬ ((Int32.toInt r125) < 1) := fun h_9 => c130 ((fa_lt r125 1).mpr h_9)
        refine r_iload_n 57 0 C dX1_takeHeader_57 rfl ?_
        refine r_iconst 58 4 C dX1_takeHeader_58 (by decide) ?_
        refine r_icmp_gt 59 66 C dX1_takeHeader_59 (by decide) (fun c136 => ?_) (fun c136 => ?_)
        · skip
          have k137 : 4 < (Int32.toInt r125) := (fa_lt 4 r125).mp c136
          refine r_iconst 66 0 C dX1_takeHeader_66 (by decide) ?_
          refine r_callVv 67 C dX1_takeHeader_67 [] [(h0, .inr (1, [.ref h3, .ref h4, .ref h1, .int z123, .long z124, .long y1, .int x1, .int x2, .long y2, .long y3]))] [(h1, .inr (4, [.ref h2, .int x3])), (h2, .inl (gB g, 1500, .inl fn0))] (fun sz => c53_X1_want l g h0 0 h3 h4 h1 z123 z124 y1 x1 x2 y2 y3 (by decide) i_x1 sz) gX1_takeHeader_X1_want rfl ⟨rfl, rfl⟩ 1 (by decide) ⟨Nat.le_of_ble_eq_true rfl, Nat.le_of_ble_eq_true rfl⟩ 0 rfl rfl [0] [1, 2] rfl rfl (by decide) (by decide) (by decide) rfl rfl (Nat.le_of_ble_eq_true rfl) ⟨Nat.le_of_ble_eq_true rfl, Nat.le_of_ble_eq_true rfl⟩ (fun  z138 w139 => ?_)
          refine r_ws [(h1, .inr (4, [.ref h2, .int x3])), (h2, .inl (gB g, 1500, .inl fn0)), (h0, .inr (1, [.ref h3, .ref h4, .ref h1, .int z138, .long z124, .long y1, .int x1, .int x2, .long y2, .long y3]))] rfl ?_
          have gz138 := fb_rng z138
          refine r_aload_n 70 2 C dX1_takeHeader_70 rfl ?_
          refine r_iload_n 71 1 C dX1_takeHeader_71 rfl ?_
          obtain ⟨z140, ez140⟩ : ∃ z_9, Int32.toInt64 r89 = z_9 := ⟨_, rfl⟩
          have tz140 : (Int64.toInt z140) = (Int32.toInt r89) := by rw [← ez140]; exact Int32.toInt_toInt64 _
          refine r_i2l 72 z140 C dX1_takeHeader_72 ez140 ?_
          refine r_put 73 C dX1_takeHeader_73 (k := 4) 2 rfl rfl hiX1 tyX1 tyX1_ok nmX1 (by decide) rfl (mg 1 rfl) (Or.inl rfl) rfl rfl rfl rfl (Nat.le_of_ble_eq_true rfl) [(h1, .inr (4, [.ref h2, .int x3])), (h2, .inl (gB g, 1500, .inl fn0)), (h0, .inr (1, [.ref h3, .ref h4, .ref h1, .int z138, .long z140, .long y1, .int x1, .int x2, .long y2, .long y3]))] rfl ?_
          exact r_vret 76 Rt dX1_takeHeader_76 (z138, z140) trivial [2, 0, 1] (by decide) rfl (Nat.le_of_ble_eq_true rfl) (Nat.le_of_ble_eq_true rfl)
        · skip
          have k141 : ¬ (4 < (Int32.toInt r125)) := fun h_9 => c136 ((fa_lt 4 r125).mpr h_9)
          refine r_iconst 62 1 C dX1_takeHeader_62 (by decide) ?_
          refine r_goto 63 67 C dX1_takeHeader_63 (by decide) ?_
          refine r_callVv 67 C dX1_takeHeader_67 [] [(h0, .inr (1, [.ref h3, .ref h4, .ref h1, .int z123, .long z124, .long y1, .int x1, .int x2, .long y2, .long y3]))] [(h1, .inr (4, [.ref h2, .int x3])), (h2, .inl (gB g, 1500, .inl fn0))] (fun sz => c53_X1_want l g h0 1 h3 h4 h1 z123 z124 y1 x1 x2 y2 y3 (by decide) i_x1 sz) gX1_takeHeader_X1_want rfl ⟨rfl, rfl⟩ 1 (by decide) ⟨Nat.le_of_ble_eq_true rfl, Nat.le_of_ble_eq_true rfl⟩ 0 rfl rfl [0] [1, 2] rfl rfl (by decide) (by decide) (by decide) rfl rfl (Nat.le_of_ble_eq_true rfl) ⟨Nat.le_of_ble_eq_true rfl, Nat.le_of_ble_eq_true rfl⟩ (fun  z142 w143 => ?_)
          refine r_ws [(h1, .inr (4, [.ref h2, .int x3])), (h2, .inl (gB g, 1500, .inl fn0)), (h0, .inr (1, [.ref h3, .ref h4, .ref h1, .int z142, .long z124, .long y1, .int x1, .int x2, .long y2, .long y3]))] rfl ?_
          have gz142 := fb_rng z142
          refine r_aload_n 70 2 C dX1_takeHeader_70 rfl ?_
          refine r_iload_n 71 1 C dX1_takeHeader_71 rfl ?_
          obtain ⟨z144, ez144⟩ : ∃ z_9, Int32.toInt64 r89 = z_9 := ⟨_, rfl⟩
          have tz144 : (Int64.toInt z144) = (Int32.toInt r89) := by rw [← ez144]; exact Int32.toInt_toInt64 _
          refine r_i2l 72 z144 C dX1_takeHeader_72 ez144 ?_
          refine r_put 73 C dX1_takeHeader_73 (k := 4) 2 rfl rfl hiX1 tyX1 tyX1_ok nmX1 (by decide) rfl (mg 1 rfl) (Or.inl rfl) rfl rfl rfl rfl (Nat.le_of_ble_eq_true rfl) [(h1, .inr (4, [.ref h2, .int x3])), (h2, .inl (gB g, 1500, .inl fn0)), (h0, .inr (1, [.ref h3, .ref h4, .ref h1, .int z142, .long z144, .long y1, .int x1, .int x2, .long y2, .long y3]))] rfl ?_
          exact r_vret 76 Rt dX1_takeHeader_76 (z142, z144) trivial [2, 0, 1] (by decide) rfl (Nat.le_of_ble_eq_true rfl) (Nat.le_of_ble_eq_true rfl)
set_option maxHeartbeats 4000000 in
set_option maxRecDepth 100000 in
theorem c55_X1_takeNumber (l : Launch) (g : GD) (h0 : Nat) (h1 : Nat) (h2 : Nat) (h3 : Nat) (h4 : Nat) (x0 : Int32) (y0 : Int64) (y1 : Int64) (x1 : Int32) (x2 : Int32) (y2 : Int64) (y3 : Int64) (x3 : Int32) (fn0 : Nat → Int32) (i_x1 : (-257 ≤ (Int32.toInt x1) ∧ (Int32.toInt x1) ≤ 65535)) (i_x3 : (0 ≤ (Int32.toInt x3) ∧ (Int32.toInt x3) ≤ 1500)) (sz : Nat) : Met l yX1_takeNumber wsX1_takeNumber ({ frames := 2, cells := 0, slots := 0, locals := 43 }) (va_Pc [.ref h0, .int 2] (PW g [(h0, .inr (1, [.ref h3, .ref h4, .ref h1, .int x0, .long y0, .long y1, .int x1, .int x2, .long y2, .long y3])), (h1, .inr (4, [.ref h2, .int x3])), (h2, .inl (gB g, 1500, .inl fn0))] sz)) (va_Ql (fun (r : Int64) (u : (Int32) × (Int64)) => -257 ≤ (Int64.toInt r) ∧ (Int64.toInt r) ≤ 65535) (BW g (va_A [(h0, .inr (1, [.ref h3, .ref h4, .ref h1, .int x0, .long y0, .long y1, .int x1, .int x2, .long y2, .long y3])), (h1, .inr (4, [.ref h2, .int x3])), (h2, .inl (gB g, 1500, .inl fn0))] sz) (fun u : (Int32) × (Int64) => [(h0, .inr (1, [.ref h3, .ref h4, .ref h1, .int u.1, .long u.2, .long y1, .int x1, .int x2, .long y2, .long y3])), (h1, .inr (4, [.ref h2, .int x3])), (h2, .inl (gB g, 1500, .inl fn0))])) (va_A [(h0, .inr (1, [.ref h3, .ref h4, .ref h1, .int x0, .long y0, .long y1, .int x1, .int x2, .long y2, .long y3])), (h1, .inr (4, [.ref h2, .int x3])), (h2, .inl (gB g, 1500, .inl fn0))] sz)) 0 0 (va_A [(h0, .inr (1, [.ref h3, .ref h4, .ref h1, .int x0, .long y0, .long y1, .int x1, .int x2, .long y2, .long y3])), (h1, .inr (4, [.ref h2, .int x3])), (h2, .inl (gB g, 1500, .inl fn0))] sz) := by
  refine met_l RX1 (by decide) rfl rfl (Nat.le_of_ble_eq_true rfl) [(0, .ref h0), (1, .int 2)] rfl ?_
  intro p e s m args below meth c A Q C hnm Rt
  have gx0 := fb_rng x0
  have hiX1 : ∀ w ∈ wsX10, w ∈ wsX1_takeNumber := fun w h => List.mem_cons_of_mem _ (List.mem_append_left _ (List.mem_append_right _ (h)))
  refine r_lconst 0 0 C dX1_takeNumber_0 (by decide) ?_
  refine r_lstore_n 1 C dX1_takeNumber_1 [(2, .long 0), (0, .ref h0), (1, .int 2)] (by decide) rfl ?_
  refine r_iconst 2 0 C dX1_takeNumber_2 (by decide) ?_
  refine r_istore 3 C dX1_takeNumber_3 [(4, .int 0), (2, .long 0), (0, .ref h0), (1, .int 2)] (by decide) rfl ?_
  refine r_iload 5 0 C dX1_takeNumber_5 rfl ?_
  refine r_iload_n 7 3 C dX1_takeNumber_7 rfl ?_
  refine r_icmp_ge_f 8 36 C dX1_takeNumber_8 (by decide) (by decide) ?_
  refine r_aload_n 11 2 C dX1_takeNumber_11 rfl ?_
  refine r_get 12 C dX1_takeNumber_12 (k := 3) 0 rfl rfl hiX1 (by decide) rfl (mg 1 rfl) (Or.inl rfl) rfl ?_
  refine r_if_ne 15 36 C dX1_takeNumber_15 (by decide) (fun c1 => ?_) (fun c1 => ?_)
  · skip
    have k2 : ¬ ((Int32.toInt x0) = 0) := fun h_9 => c1 ((fa_eq x0 0).mpr h_9)
    refine r_aload_n 36 2 C dX1_takeNumber_36 rfl ?_
    refine r_get 37 C dX1_takeNumber_37 (k := 3) 0 rfl rfl hiX1 (by decide) rfl (mg 1 rfl) (Or.inl rfl) rfl ?_
    refine r_if_ne 40 47 C dX1_takeNumber_40 (by decide) (fun c3 => ?_) (fun c3 => ?_)
    · skip
      have k4 : ¬ ((Int32.toInt x0) = 0) := fun h_9 => c3 ((fa_eq x0 0).mpr h_9)
      refine r_lconst 47 0 C dX1_takeNumber_47 (by decide) ?_
      exact r_lret 48 Rt dX1_takeNumber_48 (x0, y0) (show -257 ≤ (Int64.toInt 0) ∧ (Int64.toInt 0) ≤ 65535 from ⟨(by ((repeat' apply And.intro) <;> first | trivial | rfl | assumption | omega | decide | exact Or.inl rfl | exact Or.inr (Or.inl rfl) | exact Or.inr (Or.inr rfl))), (by ((repeat' apply And.intro) <;> first | trivial | rfl | assumption | omega | decide | exact Or.inl rfl | exact Or.inr (Or.inl rfl) | exact Or.inr (Or.inr rfl)))⟩) [0, 1, 2] (by decide) rfl (Nat.le_of_ble_eq_true rfl) (Nat.le_of_ble_eq_true rfl)
    · skip
      have k5 : (Int32.toInt x0) = 0 := (fa_eq x0 0).mp c3
      refine r_lload_n 43 1 C dX1_takeNumber_43 rfl ?_
      refine r_goto 44 48 C dX1_takeNumber_44 (by decide) ?_
      exact r_lret 48 Rt dX1_takeNumber_48 (x0, y0) (show -257 ≤ (Int64.toInt 0) ∧ (Int64.toInt 0) ≤ 65535 from ⟨(by ((repeat' apply And.intro) <;> first | trivial | rfl | assumption | omega | decide | exact Or.inl rfl | exact Or.inr (Or.inl rfl) | exact Or.inr (Or.inr rfl))), (by ((repeat' apply And.intro) <;> first | trivial | rfl | assumption | omega | decide | exact Or.inl rfl | exact Or.inr (Or.inl rfl) | exact Or.inr (Or.inr rfl)))⟩) [0, 1, 2] (by decide) rfl (Nat.le_of_ble_eq_true rfl) (Nat.le_of_ble_eq_true rfl)
  · skip
    have k6 : (Int32.toInt x0) = 0 := (fa_eq x0 0).mp c1
    refine r_lload_n 18 1 C dX1_takeNumber_18 rfl ?_
    refine r_ldc2 19 256 C dX1_takeNumber_19 (mg 2 rfl) ?_
    refine r_lmul 22 0 C dX1_takeNumber_22 (by decide) ?_
    refine r_aload_n 23 2 C dX1_takeNumber_23 rfl ?_
    refine r_callVi 24 C dX1_takeNumber_24 [.long 0] [(h0, .inr (1, [.ref h3, .ref h4, .ref h1, .int x0, .long y0, .long y1, .int x1, .int x2, .long y2, .long y3])), (h1, .inr (4, [.ref h2, .int x3])), (h2, .inl (gB g, 1500, .inl fn0))] [] (fun sz => c52_X1_take l g h0 h1 h2 h3 h4 x0 y0 y1 x1 x2 y2 y3 x3 fn0 i_x1 i_x3 sz) gX1_takeNumber_X1_take rfl ⟨rfl, rfl⟩ 0 (by decide) ⟨Nat.le_of_ble_eq_true rfl, Nat.le_of_ble_eq_true rfl⟩ 0 rfl rfl [0, 1, 2] [] rfl rfl (by decide) (by decide) (by decide) rfl rfl (Nat.le_of_ble_eq_true rfl) ⟨Nat.le_of_ble_eq_true rfl, Nat.le_of_ble_eq_true rfl⟩ (fun r9 u11 w10 => ?_)
    obtain ⟨z7, z8⟩ := u11
    refine r_ws [(h0, .inr (1, [.ref h3, .ref h4, .ref h1, .int z7, .long z8, .long y1, .int x1, .int x2, .long y2, .long y3])), (h1, .inr (4, [.ref h2, .int x3])), (h2, .inl (gB g, 1500, .inl fn0))] rfl ?_
    have gz7 := fb_rng z7
    have gz8 := fb_rngL z8
    have p12 : -1 ≤ (Int32.toInt r9) := w10.1
    have p13 : (Int32.toInt r9) ≤ 255 := w10.2
    obtain ⟨z14, ez14⟩ : ∃ z_9, Int32.toInt64 r9 = z_9 := ⟨_, rfl⟩
    have tz14 : (Int64.toInt z14) = (Int32.toInt r9) := by rw [← ez14]; exact Int32.toInt_toInt64 _
    refine r_i2l 27 z14 C dX1_takeNumber_27 ez14 ?_
    obtain ⟨z15, ez15⟩ : ∃ z_9, 0 + z14 = z_9 := ⟨_, rfl⟩
    have tz15 : (Int64.toInt z15) = 0 + (Int64.toInt z14) := by rw [← ez15]; exact fb_addLv (a := 0) (b := 0) (c := (-1)) (d := 255) ⟨by decide, by decide⟩ (iv_eq ⟨p12, p13⟩ tz14) (by decide) (by decide)
    refine r_ladd 28 z15 C dX1_takeNumber_28 ez15 ?_
    refine r_lstore_n 29 C dX1_takeNumber_29 [(2, .long z15), (4, .int 0), (0, .ref h0), (1, .int 2)] (by decide) rfl ?_
    refine r_iinc 30 1 1 C dX1_takeNumber_30 rfl (by decide) [(4, .int 1), (2, .long z15), (0, .ref h0), (1, .int 2)] (by decide) rfl ?_
    refine r_goto 33 5 C dX1_takeNumber_33 (by decide) ?_
    refine r_iload 5 0 C dX1_takeNumber_5 rfl ?_
    refine r_iload_n 7 3 C dX1_takeNumber_7 rfl ?_
    refine r_icmp_ge_f 8 36 C dX1_takeNumber_8 (by decide) (by decide) ?_
    refine r_aload_n 11 2 C dX1_takeNumber_11 rfl ?_
    refine r_get 12 C dX1_takeNumber_12 (k := 3) 0 rfl rfl hiX1 (by decide) rfl (mg 1 rfl) (Or.inl rfl) rfl ?_
    refine r_if_ne 15 36 C dX1_takeNumber_15 (by decide) (fun c16 => ?_) (fun c16 => ?_)
    · skip
      have k17 : ¬ ((Int32.toInt z7) = 0) := fun h_9 => c16 ((fa_eq z7 0).mpr h_9)
      refine r_aload_n 36 2 C dX1_takeNumber_36 rfl ?_
      refine r_get 37 C dX1_takeNumber_37 (k := 3) 0 rfl rfl hiX1 (by decide) rfl (mg 1 rfl) (Or.inl rfl) rfl ?_
      refine r_if_ne 40 47 C dX1_takeNumber_40 (by decide) (fun c18 => ?_) (fun c18 => ?_)
      · skip
        have k19 : ¬ ((Int32.toInt z7) = 0) := fun h_9 => c18 ((fa_eq z7 0).mpr h_9)
        refine r_lconst 47 0 C dX1_takeNumber_47 (by decide) ?_
        exact r_lret 48 Rt dX1_takeNumber_48 (z7, z8) (show -257 ≤ (Int64.toInt 0) ∧ (Int64.toInt 0) ≤ 65535 from ⟨(by ((repeat' apply And.intro) <;> first | trivial | rfl | assumption | omega | decide | exact Or.inl rfl | exact Or.inr (Or.inl rfl) | exact Or.inr (Or.inr rfl))), (by ((repeat' apply And.intro) <;> first | trivial | rfl | assumption | omega | decide | exact Or.inl rfl | exact Or.inr (Or.inl rfl) | exact Or.inr (Or.inr rfl)))⟩) [0, 1, 2] (by decide) rfl (Nat.le_of_ble_eq_true rfl) (Nat.le_of_ble_eq_true rfl)
      · skip
        have k20 : (Int32.toInt z7) = 0 := (fa_eq z7 0).mp c18
        refine r_lload_n 43 1 C dX1_takeNumber_43 rfl ?_
        refine r_goto 44 48 C dX1_takeNumber_44 (by decide) ?_
        exact r_lret 48 Rt dX1_takeNumber_48 (z7, z8) (show -257 ≤ (Int64.toInt z15) ∧ (Int64.toInt z15) ≤ 65535 from ⟨(iv_wide (c := (-257)) (d := 65535) (iv_wide (c := (-1)) (d := 255) (iv_add (a := 0) (b := 0) (c := (-1)) (d := 255) ⟨by decide, by decide⟩ (iv_eq ⟨p12, p13⟩ tz14) tz15) (by decide) (by decide)) (by decide) (by decide)).1, (iv_wide (c := (-257)) (d := 65535) (iv_wide (c := (-1)) (d := 255) (iv_add (a := 0) (b := 0) (c := (-1)) (d := 255) ⟨by decide, by decide⟩ (iv_eq ⟨p12, p13⟩ tz14) tz15) (by decide) (by decide)) (by decide) (by decide)).2⟩) [0, 1, 2] (by decide) rfl (Nat.le_of_ble_eq_true rfl) (Nat.le_of_ble_eq_true rfl)
    · skip
      have k21 : (Int32.toInt z7) = 0 := (fa_eq z7 0).mp c16
      refine r_lload_n 18 1 C dX1_takeNumber_18 rfl ?_
      refine r_ldc2 19 256 C dX1_takeNumber_19 (mg 2 rfl) ?_
      obtain ⟨z22, ez22⟩ : ∃ z_9, z15 * 256 = z_9 := ⟨_, rfl⟩
      have tz22 : (Int64.toInt z22) = (Int64.toInt z15) * 256 := by rw [← ez22]; exact fb_mulLv (a := (-1)) (b := 255) (c := 256) (iv_wide (c := (-1)) (d := 255) (iv_add (a := 0) (b := 0) (c := (-1)) (d := 255) ⟨by decide, by decide⟩ (iv_eq ⟨p12, p13⟩ tz14) tz15) (by decide) (by decide)) (by decide) (by decide) (by decide) (by decide)
      refine r_lmul 22 z22 C dX1_takeNumber_22 ez22 ?_
      refine r_aload_n 23 2 C dX1_takeNumber_23 rfl ?_
      refine r_callVi 24 C dX1_takeNumber_24 [.long z22] [(h0, .inr (1, [.ref h3, .ref h4, .ref h1, .int z7, .long z8, .long y1, .int x1, .int x2, .long y2, .long y3])), (h1, .inr (4, [.ref h2, .int x3])), (h2, .inl (gB g, 1500, .inl fn0))] [] (fun sz => c52_X1_take l g h0 h1 h2 h3 h4 z7 z8 y1 x1 x2 y2 y3 x3 fn0 i_x1 i_x3 sz) gX1_takeNumber_X1_take rfl ⟨rfl, rfl⟩ 0 (by decide) ⟨Nat.le_of_ble_eq_true rfl, Nat.le_of_ble_eq_true rfl⟩ 0 rfl rfl [0, 1, 2] [] rfl rfl (by decide) (by decide) (by decide) rfl rfl (Nat.le_of_ble_eq_true rfl) ⟨Nat.le_of_ble_eq_true rfl, Nat.le_of_ble_eq_true rfl⟩ (fun r25 u27 w26 => ?_)
      obtain ⟨z23, z24⟩ := u27
      refine r_ws [(h0, .inr (1, [.ref h3, .ref h4, .ref h1, .int z23, .long z24, .long y1, .int x1, .int x2, .long y2, .long y3])), (h1, .inr (4, [.ref h2, .int x3])), (h2, .inl (gB g, 1500, .inl fn0))] rfl ?_
      have gz23 := fb_rng z23
      have gz24 := fb_rngL z24
      have p28 : -1 ≤ (Int32.toInt r25) := w26.1
      have p29 : (Int32.toInt r25) ≤ 255 := w26.2
      obtain ⟨z30, ez30⟩ : ∃ z_9, Int32.toInt64 r25 = z_9 := ⟨_, rfl⟩
      have tz30 : (Int64.toInt z30) = (Int32.toInt r25) := by rw [← ez30]; exact Int32.toInt_toInt64 _
      refine r_i2l 27 z30 C dX1_takeNumber_27 ez30 ?_
      obtain ⟨z31, ez31⟩ : ∃ z_9, z22 + z30 = z_9 := ⟨_, rfl⟩
      have tz31 : (Int64.toInt z31) = (Int64.toInt z22) + (Int64.toInt z30) := by rw [← ez31]; exact fb_addLv (a := (-256)) (b := 65280) (c := (-1)) (d := 255) (iv_wide (c := (-256)) (d := 65280) (iv_mul (a := (-1)) (b := 255) (c := 256) (iv_wide (c := (-1)) (d := 255) (iv_add (a := 0) (b := 0) (c := (-1)) (d := 255) ⟨by decide, by decide⟩ (iv_eq ⟨p12, p13⟩ tz14) tz15) (by decide) (by decide)) (by decide) tz22) (by decide) (by decide)) (iv_eq ⟨p28, p29⟩ tz30) (by decide) (by decide)
      refine r_ladd 28 z31 C dX1_takeNumber_28 ez31 ?_
      refine r_lstore_n 29 C dX1_takeNumber_29 [(2, .long z31), (4, .int 1), (0, .ref h0), (1, .int 2)] (by decide) rfl ?_
      refine r_iinc 30 1 2 C dX1_takeNumber_30 rfl (by decide) [(4, .int 2), (2, .long z31), (0, .ref h0), (1, .int 2)] (by decide) rfl ?_
      refine r_goto 33 5 C dX1_takeNumber_33 (by decide) ?_
      refine r_iload 5 0 C dX1_takeNumber_5 rfl ?_
      refine r_iload_n 7 3 C dX1_takeNumber_7 rfl ?_
      refine r_icmp_ge_t 8 36 C dX1_takeNumber_8 (by decide) (by decide) ?_
      refine r_aload_n 36 2 C dX1_takeNumber_36 rfl ?_
      refine r_get 37 C dX1_takeNumber_37 (k := 3) 0 rfl rfl hiX1 (by decide) rfl (mg 1 rfl) (Or.inl rfl) rfl ?_
      refine r_if_ne 40 47 C dX1_takeNumber_40 (by decide) (fun c32 => ?_) (fun c32 => ?_)
      · skip
        have k33 : ¬ ((Int32.toInt z23) = 0) := fun h_9 => c32 ((fa_eq z23 0).mpr h_9)
        refine r_lconst 47 0 C dX1_takeNumber_47 (by decide) ?_
        exact r_lret 48 Rt dX1_takeNumber_48 (z23, z24) (show -257 ≤ (Int64.toInt 0) ∧ (Int64.toInt 0) ≤ 65535 from ⟨(by ((repeat' apply And.intro) <;> first | trivial | rfl | assumption | omega | decide | exact Or.inl rfl | exact Or.inr (Or.inl rfl) | exact Or.inr (Or.inr rfl))), (by ((repeat' apply And.intro) <;> first | trivial | rfl | assumption | omega | decide | exact Or.inl rfl | exact Or.inr (Or.inl rfl) | exact Or.inr (Or.inr rfl)))⟩) [0, 1, 2] (by decide) rfl (Nat.le_of_ble_eq_true rfl) (Nat.le_of_ble_eq_true rfl)
      · skip
        have k34 : (Int32.toInt z23) = 0 := (fa_eq z23 0).mp c32
        refine r_lload_n 43 1 C dX1_takeNumber_43 rfl ?_
        refine r_goto 44 48 C dX1_takeNumber_44 (by decide) ?_
        exact r_lret 48 Rt dX1_takeNumber_48 (z23, z24) (show -257 ≤ (Int64.toInt z31) ∧ (Int64.toInt z31) ≤ 65535 from ⟨(by ((repeat' apply And.intro) <;> first | trivial | rfl | assumption | omega | decide | exact Or.inl rfl | exact Or.inr (Or.inl rfl) | exact Or.inr (Or.inr rfl))), (by ((repeat' apply And.intro) <;> first | trivial | rfl | assumption | omega | decide | exact Or.inl rfl | exact Or.inr (Or.inl rfl) | exact Or.inr (Or.inr rfl)))⟩) [0, 1, 2] (by decide) rfl (Nat.le_of_ble_eq_true rfl) (Nat.le_of_ble_eq_true rfl)
